theorem dX5_demand_141 : decode cX5_demand 141 = .ok (.aload_n 0, 1) := by decide +kernel
theorem dX5_demand_142 : decode cX5_demand 142 = .ok (.iload 5, 2) := by decide +kernel
theorem dX5_demand_144 : decode cX5_demand 144 = .ok (.iconst (-1), 1) := by decide +kernel
theorem dX5_demand_145 : decode cX5_demand 145 = .ok (.if_icmp .ne 13, 3) := by decide +kernel
theorem dX5_demand_148 : decode cX5_demand 148 = .ok (.aload_n 0, 1) := by decide +kernel
theorem dX5_demand_149 : decode cX5_demand 149 = .ok (.getfield 38, 3) := by decide +kernel
theorem dX5_demand_152 : decode cX5_demand 152 = .ok (.getfield 183, 3) := by decide +kernel
theorem dX5_demand_155 : decode cX5_demand 155 = .ok (.goto 13, 3) := by decide +kernel
theorem dX5_demand_158 : decode cX5_demand 158 = .ok (.aload_n 0, 1) := by decide +kernel
theorem dX5_demand_159 : decode cX5_demand 159 = .ok (.getfield 38, 3) := by decide +kernel
theorem dX5_demand_162 : decode cX5_demand 162 = .ok (.getfield 186, 3) := by decide +kernel
theorem dX5_demand_165 : decode cX5_demand 165 = .ok (.iload 5, 2) := by decide +kernel
theorem dX5_demand_167 : decode cX5_demand 167 = .ok (.iaload, 1) := by decide +kernel
theorem dX5_demand_168 : decode cX5_demand 168 = .ok (.invokevirtual 62, 3) := by decide +kernel
theorem dX5_demand_171 : decode cX5_demand 171 = .ok (.ireturn, 1) := by decide +kernel
set_option maxRecDepth 20000 in
theorem ggX5_cross_X5_within : GoodIn wsX5_cross wsX5_within := goodIn_r _ [5] (by decide +kernel) (by decide +kernel)
set_option maxRecDepth 20000 in
theorem gX5_cross_X5_within : GoodIn wsX5_cross (va_wsS RX5 50 yX5_within wsX5_within) := goodIn_app (goodIn_of _ (by decide +kernel)) ggX5_cross_X5_within
set_option maxRecDepth 20000 in
theorem ggX5_cross_X5_crosspoints : GoodIn wsX5_cross wsX5_crosspoints := goodIn_r _ [8, 9, 10, 11, 12, 6, 7, 4] (by decide +kernel) (by decide +kernel)
set_option maxRecDepth 20000 in
theorem gX5_cross_X5_crosspoints : GoodIn wsX5_cross (va_wsS RX5 189 yX5_crosspoints wsX5_crosspoints) := goodIn_app (goodIn_of _ (by decide +kernel)) ggX5_cross_X5_crosspoints
theorem dX5_cross_0 : decode cX5_cross 0 = .ok (.iload_n 1, 1) := by decide +kernel
theorem dX5_cross_1 : decode cX5_cross 1 = .ok (.iconst 1, 1) := by decide +kernel
theorem dX5_cross_2 : decode cX5_cross 2 = .ok (.bipush 64, 2) := by decide +kernel
theorem dX5_cross_4 : decode cX5_cross 4 = .ok (.invokestatic 50, 3) := by decide +kernel
theorem dX5_cross_7 : decode cX5_cross 7 = .ok (.ifCond .eq 21, 3) := by decide +kernel
theorem dX5_cross_10 : decode cX5_cross 10 = .ok (.iload_n 2, 1) := by decide +kernel
theorem dX5_cross_11 : decode cX5_cross 11 = .ok (.iconst 0, 1) := by decide +kernel
theorem dX5_cross_12 : decode cX5_cross 12 = .ok (.iconst 2, 1) := by decide +kernel
theorem dX5_cross_13 : decode cX5_cross 13 = .ok (.invokestatic 50, 3) := by decide +kernel
theorem dX5_cross_16 : decode cX5_cross 16 = .ok (.ifCond .eq 12, 3) := by decide +kernel
theorem dX5_cross_19 : decode cX5_cross 19 = .ok (.iload_n 3, 1) := by decide +kernel
theorem dX5_cross_20 : decode cX5_cross 20 = .ok (.iconst 0, 1) := by decide +kernel
theorem dX5_cross_21 : decode cX5_cross 21 = .ok (.iconst 1, 1) := by decide +kernel
theorem dX5_cross_22 : decode cX5_cross 22 = .ok (.invokestatic 50, 3) := by decide +kernel
theorem dX5_cross_25 : decode cX5_cross 25 = .ok (.ifCond .ne 6, 3) := by decide +kernel
theorem dX5_cross_28 : decode cX5_cross 28 = .ok (.ldc 54, 2) := by decide +kernel
theorem dX5_cross_30 : decode cX5_cross 30 = .ok (.ireturn, 1) := by decide +kernel
theorem dX5_cross_31 : decode cX5_cross 31 = .ok (.iload_n 1, 1) := by decide +kernel
theorem dX5_cross_32 : decode cX5_cross 32 = .ok (.iload_n 2, 1) := by decide +kernel
theorem dX5_cross_33 : decode cX5_cross 33 = .ok (.iload_n 3, 1) := by decide +kernel
theorem dX5_cross_34 : decode cX5_cross 34 = .ok (.invokestatic 189, 3) := by decide +kernel
theorem dX5_cross_37 : decode cX5_cross 37 = .ok (.ireturn, 1) := by decide +kernel
set_option maxRecDepth 20000 in
theorem ggX5_shut_X5_within : GoodIn wsX5_shut wsX5_within := goodIn_r _ [5] (by decide +kernel) (by decide +kernel)
set_option maxRecDepth 20000 in
theorem gX5_shut_X5_within : GoodIn wsX5_shut (va_wsS RX5 50 yX5_within wsX5_within) := goodIn_app (goodIn_of _ (by decide +kernel)) ggX5_shut_X5_within
theorem dX5_shut_0 : decode cX5_shut 0 = .ok (.iload_n 1, 1) := by decide +kernel
theorem dX5_shut_1 : decode cX5_shut 1 = .ok (.iconst 1, 1) := by decide +kernel
theorem dX5_shut_2 : decode cX5_shut 2 = .ok (.bipush 9, 2) := by decide +kernel
theorem dX5_shut_4 : decode cX5_shut 4 = .ok (.invokestatic 50, 3) := by decide +kernel
theorem dX5_shut_7 : decode cX5_shut 7 = .ok (.ifCond .eq 13, 3) := by decide +kernel
theorem dX5_shut_10 : decode cX5_shut 10 = .ok (.iload_n 2, 1) := by decide +kernel
theorem dX5_shut_11 : decode cX5_shut 11 = .ok (.iconst 0, 1) := by decide +kernel
theorem dX5_shut_12 : decode cX5_shut 12 = .ok (.bipush 10, 2) := by decide +kernel
theorem dX5_shut_14 : decode cX5_shut 14 = .ok (.invokestatic 50, 3) := by decide +kernel
theorem dX5_shut_17 : decode cX5_shut 17 = .ok (.ifCond .ne 7, 3) := by decide +kernel
theorem dX5_shut_20 : decode cX5_shut 20 = .ok (.ldc2_w 193, 3) := by decide +kernel
theorem dX5_shut_23 : decode cX5_shut 23 = .ok (.lreturn, 1) := by decide +kernel
theorem dX5_shut_24 : decode cX5_shut 24 = .ok (.bipush 100, 2) := by decide +kernel
theorem dX5_shut_26 : decode cX5_shut 26 = .ok (.bipush 10, 2) := by decide +kernel
theorem dX5_shut_28 : decode cX5_shut 28 = .ok (.iload_n 2, 1) := by decide +kernel
theorem dX5_shut_29 : decode cX5_shut 29 = .ok (.isub, 1) := by decide +kernel
theorem dX5_shut_30 : decode cX5_shut 30 = .ok (.bipush 10, 2) := by decide +kernel
theorem dX5_shut_32 : decode cX5_shut 32 = .ok (.iload_n 2, 1) := by decide +kernel
theorem dX5_shut_33 : decode cX5_shut 33 = .ok (.isub, 1) := by decide +kernel
theorem dX5_shut_34 : decode cX5_shut 34 = .ok (.imul, 1) := by decide +kernel
theorem dX5_shut_35 : decode cX5_shut 35 = .ok (.isub, 1) := by decide +kernel
theorem dX5_shut_36 : decode cX5_shut 36 = .ok (.i2l, 1) := by decide +kernel
theorem dX5_shut_37 : decode cX5_shut 37 = .ok (.lstore_n 3, 1) := by decide +kernel
theorem dX5_shut_38 : decode cX5_shut 38 = .ok (.lconst 1, 1) := by decide +kernel
theorem dX5_shut_39 : decode cX5_shut 39 = .ok (.lstore 5, 2) := by decide +kernel
theorem dX5_shut_41 : decode cX5_shut 41 = .ok (.iconst 0, 1) := by decide +kernel
theorem dX5_shut_42 : decode cX5_shut 42 = .ok (.istore 7, 2) := by decide +kernel
theorem dX5_shut_44 : decode cX5_shut 44 = .ok (.iload 7, 2) := by decide +kernel
theorem dX5_shut_46 : decode cX5_shut 46 = .ok (.iload_n 1, 1) := by decide +kernel
theorem dX5_shut_47 : decode cX5_shut 47 = .ok (.if_icmp .ge 15, 3) := by decide +kernel
theorem dX5_shut_50 : decode cX5_shut 50 = .ok (.lload 5, 2) := by decide +kernel
theorem dX5_shut_52 : decode cX5_shut 52 = .ok (.lload_n 3, 1) := by decide +kernel
theorem dX5_shut_53 : decode cX5_shut 53 = .ok (.lmul, 1) := by decide +kernel
theorem dX5_shut_54 : decode cX5_shut 54 = .ok (.lstore 5, 2) := by decide +kernel
theorem dX5_shut_56 : decode cX5_shut 56 = .ok (.iinc 7 1, 3) := by decide +kernel
theorem dX5_shut_59 : decode cX5_shut 59 = .ok (.goto (-15), 3) := by decide +kernel
theorem dX5_shut_62 : decode cX5_shut 62 = .ok (.lload 5, 2) := by decide +kernel
theorem dX5_shut_64 : decode cX5_shut 64 = .ok (.lreturn, 1) := by decide +kernel
set_option maxRecDepth 20000 in
theorem ggX5_count_X5_countSheets : GoodIn wsX5_count wsX5_countSheets := goodIn_r _ [6, 7, 28, 29, 30, 31, 32, 33] (by decide +kernel) (by decide +kernel)
set_option maxRecDepth 20000 in
theorem gX5_count_X5_countSheets : GoodIn wsX5_count (wsV RX5 195 RX5 yX5_countSheets wsX5_countSheets) := goodIn_app (goodIn_of _ (by decide +kernel)) ggX5_count_X5_countSheets
set_option maxRecDepth 20000 in
theorem ggX5_count_X5_countNets : GoodIn wsX5_count wsX5_countNets := goodIn_r _ [11, 12, 13, 14, 15, 16, 17, 18, 19, 20, 21, 5, 22, 28, 29, 30, 31, 32, 33, 34, 35, 36, 37, 38, 39, 40, 41, 42, 43, 44, 45, 46, 47, 48, 49, 50] (by decide +kernel) (by decide +kernel)
set_option maxRecDepth 20000 in
theorem gX5_count_X5_countNets : GoodIn wsX5_count (wsV RX5 198 RX5 yX5_countNets wsX5_countNets) := goodIn_app (goodIn_of _ (by decide +kernel)) ggX5_count_X5_countNets
set_option maxRecDepth 20000 in
theorem ggX5_count_X5_countCalls : GoodIn wsX5_count wsX5_countCalls := goodIn_r _ [26, 12, 27, 28, 29, 30, 31, 32, 33, 34, 35, 36, 37, 38, 39, 40, 41, 42, 43, 44, 45, 46, 47, 48, 49, 50] (by decide +kernel) (by decide +kernel)
set_option maxRecDepth 20000 in
theorem gX5_count_X5_countCalls : GoodIn wsX5_count (wsV RX5 201 RX5 yX5_countCalls wsX5_countCalls) := goodIn_app (goodIn_of _ (by decide +kernel)) ggX5_count_X5_countCalls
theorem dX5_count_0 : decode cX5_count 0 = .ok (.iload_n 1, 1) := by decide +kernel
theorem dX5_count_1 : decode cX5_count 1 = .ok (.tableswitch 73 0 5 #[39, 44, 50, 56, 62, 68], 39) := by decide +kernel
theorem dX5_count_40 : decode cX5_count 40 = .ok (.aload_n 0, 1) := by decide +kernel
theorem dX5_count_41 : decode cX5_count 41 = .ok (.invokevirtual 195, 3) := by decide +kernel
theorem dX5_count_44 : decode cX5_count 44 = .ok (.ireturn, 1) := by decide +kernel
theorem dX5_count_45 : decode cX5_count 45 = .ok (.aload_n 0, 1) := by decide +kernel
theorem dX5_count_46 : decode cX5_count 46 = .ok (.iconst 0, 1) := by decide +kernel
theorem dX5_count_47 : decode cX5_count 47 = .ok (.invokevirtual 198, 3) := by decide +kernel
theorem dX5_count_50 : decode cX5_count 50 = .ok (.ireturn, 1) := by decide +kernel
theorem dX5_count_51 : decode cX5_count 51 = .ok (.aload_n 0, 1) := by decide +kernel
theorem dX5_count_52 : decode cX5_count 52 = .ok (.iconst 1, 1) := by decide +kernel
theorem dX5_count_53 : decode cX5_count 53 = .ok (.invokevirtual 198, 3) := by decide +kernel
theorem dX5_count_56 : decode cX5_count 56 = .ok (.ireturn, 1) := by decide +kernel
theorem dX5_count_57 : decode cX5_count 57 = .ok (.aload_n 0, 1) := by decide +kernel
theorem dX5_count_58 : decode cX5_count 58 = .ok (.iconst 2, 1) := by decide +kernel
theorem dX5_count_59 : decode cX5_count 59 = .ok (.invokevirtual 198, 3) := by decide +kernel
theorem dX5_count_62 : decode cX5_count 62 = .ok (.ireturn, 1) := by decide +kernel
theorem dX5_count_63 : decode cX5_count 63 = .ok (.aload_n 0, 1) := by decide +kernel
theorem dX5_count_64 : decode cX5_count 64 = .ok (.iconst 3, 1) := by decide +kernel
theorem dX5_count_65 : decode cX5_count 65 = .ok (.invokevirtual 198, 3) := by decide +kernel
theorem dX5_count_68 : decode cX5_count 68 = .ok (.ireturn, 1) := by decide +kernel
theorem dX5_count_69 : decode cX5_count 69 = .ok (.aload_n 0, 1) := by decide +kernel
theorem dX5_count_70 : decode cX5_count 70 = .ok (.invokevirtual 201, 3) := by decide +kernel
theorem dX5_count_73 : decode cX5_count 73 = .ok (.ireturn, 1) := by decide +kernel
theorem dX5_count_74 : decode cX5_count 74 = .ok (.ldc 54, 2) := by decide +kernel
theorem dX5_count_76 : decode cX5_count 76 = .ok (.ireturn, 1) := by decide +kernel
theorem dX5_status_0 : decode cX5_status 0 = .ok (.aload_n 0, 1) := by decide +kernel
theorem dX5_status_1 : decode cX5_status 1 = .ok (.getfield 42, 3) := by decide +kernel
theorem dX5_status_4 : decode cX5_status 4 = .ok (.ireturn, 1) := by decide +kernel
theorem dX5_found_0 : decode cX5_found 0 = .ok (.aload_n 0, 1) := by decide +kernel
theorem dX5_found_1 : decode cX5_found 1 = .ok (.iload_n 1, 1) := by decide +kernel
theorem dX5_found_2 : decode cX5_found 2 = .ok (.putfield 42, 3) := by decide +kernel
theorem dX5_found_5 : decode cX5_found 5 = .ok (.ldc 204, 2) := by decide +kernel
theorem dX5_found_7 : decode cX5_found 7 = .ok (.iload_n 1, 1) := by decide +kernel
theorem dX5_found_8 : decode cX5_found 8 = .ok (.isub, 1) := by decide +kernel
theorem dX5_found_9 : decode cX5_found 9 = .ok (.ireturn, 1) := by decide +kernel
theorem dX5_fine_0 : decode cX5_fine 0 = .ok (.aload_n 0, 1) := by decide +kernel
theorem dX5_fine_1 : decode cX5_fine 1 = .ok (.iconst 0, 1) := by decide +kernel
theorem dX5_fine_2 : decode cX5_fine 2 = .ok (.putfield 42, 3) := by decide +kernel
theorem dX5_fine_5 : decode cX5_fine 5 = .ok (.iload_n 1, 1) := by decide +kernel
theorem dX5_fine_6 : decode cX5_fine 6 = .ok (.ireturn, 1) := by decide +kernel
theorem dX5_countSheets_0 : decode cX5_countSheets 0 = .ok (.iconst 0, 1) := by decide +kernel
theorem dX5_countSheets_1 : decode cX5_countSheets 1 = .ok (.istore_n 1, 1) := by decide +kernel
theorem dX5_countSheets_2 : decode cX5_countSheets 2 = .ok (.iconst 0, 1) := by decide +kernel
theorem dX5_countSheets_3 : decode cX5_countSheets 3 = .ok (.istore_n 2, 1) := by decide +kernel
theorem dX5_countSheets_4 : decode cX5_countSheets 4 = .ok (.iload_n 2, 1) := by decide +kernel
theorem dX5_countSheets_5 : decode cX5_countSheets 5 = .ok (.bipush 8, 2) := by decide +kernel
theorem dX5_countSheets_7 : decode cX5_countSheets 7 = .ok (.if_icmp .ge 21, 3) := by decide +kernel
theorem dX5_countSheets_10 : decode cX5_countSheets 10 = .ok (.aload_n 0, 1) := by decide +kernel
theorem dX5_countSheets_11 : decode cX5_countSheets 11 = .ok (.getfield 11, 3) := by decide +kernel
theorem dX5_countSheets_14 : decode cX5_countSheets 14 = .ok (.iload_n 2, 1) := by decide +kernel
theorem dX5_countSheets_15 : decode cX5_countSheets 15 = .ok (.aaload, 1) := by decide +kernel
theorem dX5_countSheets_16 : decode cX5_countSheets 16 = .ok (.ifnull 6, 3) := by decide +kernel
theorem dX5_countSheets_19 : decode cX5_countSheets 19 = .ok (.iinc 1 1, 3) := by decide +kernel
theorem dX5_countSheets_22 : decode cX5_countSheets 22 = .ok (.iinc 2 1, 3) := by decide +kernel
theorem dX5_countSheets_25 : decode cX5_countSheets 25 = .ok (.goto (-21), 3) := by decide +kernel
theorem dX5_countSheets_28 : decode cX5_countSheets 28 = .ok (.iload_n 1, 1) := by decide +kernel
theorem dX5_countSheets_29 : decode cX5_countSheets 29 = .ok (.ireturn, 1) := by decide +kernel
set_option maxRecDepth 20000 in
theorem ggX5_countNets_X1_toldKind : GoodIn wsX5_countNets wsX1_toldKind := goodIn_r _ [6, 7, 8, 19, 20, 21, 22, 23, 24, 25, 26, 27, 28, 29, 30, 31, 32, 33, 34, 35] (by decide +kernel) (by decide +kernel)
set_option maxRecDepth 20000 in
theorem gX5_countNets_X1_toldKind : GoodIn wsX5_countNets (wsV RX5 91 RX1 yX1_toldKind wsX1_toldKind) := goodIn_app (goodIn_of _ (by decide +kernel)) ggX5_countNets_X1_toldKind
set_option maxRecDepth 20000 in
theorem ggX5_countNets_X5_countsAs : GoodIn wsX5_countNets wsX5_countsAs := goodIn_r _ [12] (by decide +kernel) (by decide +kernel)
set_option maxRecDepth 20000 in
theorem gX5_countNets_X5_countsAs : GoodIn wsX5_countNets (va_wsS RX5 98 yX5_countsAs wsX5_countsAs) := goodIn_app (goodIn_of _ (by decide +kernel)) ggX5_countNets_X5_countsAs
theorem dX5_countNets_0 : decode cX5_countNets 0 = .ok (.iconst 0, 1) := by decide +kernel
theorem dX5_countNets_1 : decode cX5_countNets 1 = .ok (.istore_n 2, 1) := by decide +kernel
theorem dX5_countNets_2 : decode cX5_countNets 2 = .ok (.iconst 0, 1) := by decide +kernel
theorem dX5_countNets_3 : decode cX5_countNets 3 = .ok (.istore_n 3, 1) := by decide +kernel
theorem dX5_countNets_4 : decode cX5_countNets 4 = .ok (.iload_n 3, 1) := by decide +kernel
theorem dX5_countNets_5 : decode cX5_countNets 5 = .ok (.bipush 6, 2) := by decide +kernel
theorem dX5_countNets_7 : decode cX5_countNets 7 = .ok (.if_icmp .ge 37, 3) := by decide +kernel
theorem dX5_countNets_10 : decode cX5_countNets 10 = .ok (.aload_n 0, 1) := by decide +kernel
theorem dX5_countNets_11 : decode cX5_countNets 11 = .ok (.getfield 17, 3) := by decide +kernel
theorem dX5_countNets_14 : decode cX5_countNets 14 = .ok (.iload_n 3, 1) := by decide +kernel
theorem dX5_countNets_15 : decode cX5_countNets 15 = .ok (.aaload, 1) := by decide +kernel
theorem dX5_countNets_16 : decode cX5_countNets 16 = .ok (.astore 4, 2) := by decide +kernel
theorem dX5_countNets_18 : decode cX5_countNets 18 = .ok (.aload 4, 2) := by decide +kernel
theorem dX5_countNets_20 : decode cX5_countNets 20 = .ok (.ifnull 18, 3) := by decide +kernel
theorem dX5_countNets_23 : decode cX5_countNets 23 = .ok (.aload 4, 2) := by decide +kernel
theorem dX5_countNets_25 : decode cX5_countNets 25 = .ok (.invokevirtual 91, 3) := by decide +kernel
theorem dX5_countNets_28 : decode cX5_countNets 28 = .ok (.iload_n 1, 1) := by decide +kernel
theorem dX5_countNets_29 : decode cX5_countNets 29 = .ok (.invokestatic 98, 3) := by decide +kernel
theorem dX5_countNets_32 : decode cX5_countNets 32 = .ok (.ifCond .eq 6, 3) := by decide +kernel
theorem dX5_countNets_35 : decode cX5_countNets 35 = .ok (.iinc 2 1, 3) := by decide +kernel
theorem dX5_countNets_38 : decode cX5_countNets 38 = .ok (.iinc 3 1, 3) := by decide +kernel
theorem dX5_countNets_41 : decode cX5_countNets 41 = .ok (.goto (-37), 3) := by decide +kernel
theorem dX5_countNets_44 : decode cX5_countNets 44 = .ok (.iload_n 2, 1) := by decide +kernel
theorem dX5_countNets_45 : decode cX5_countNets 45 = .ok (.ireturn, 1) := by decide +kernel
theorem dX5_countCalls_0 : decode cX5_countCalls 0 = .ok (.iconst 0, 1) := by decide +kernel
theorem dX5_countCalls_1 : decode cX5_countCalls 1 = .ok (.istore_n 1, 1) := by decide +kernel
theorem dX5_countCalls_2 : decode cX5_countCalls 2 = .ok (.iconst 0, 1) := by decide +kernel
theorem dX5_countCalls_3 : decode cX5_countCalls 3 = .ok (.istore_n 2, 1) := by decide +kernel
theorem dX5_countCalls_4 : decode cX5_countCalls 4 = .ok (.iload_n 2, 1) := by decide +kernel
theorem dX5_countCalls_5 : decode cX5_countCalls 5 = .ok (.bipush 6, 2) := by decide +kernel
theorem dX5_countCalls_7 : decode cX5_countCalls 7 = .ok (.if_icmp .ge 27, 3) := by decide +kernel
theorem dX5_countCalls_10 : decode cX5_countCalls 10 = .ok (.aload_n 0, 1) := by decide +kernel
theorem dX5_countCalls_11 : decode cX5_countCalls 11 = .ok (.getfield 17, 3) := by decide +kernel
theorem dX5_countCalls_14 : decode cX5_countCalls 14 = .ok (.iload_n 2, 1) := by decide +kernel
theorem dX5_countCalls_15 : decode cX5_countCalls 15 = .ok (.aaload, 1) := by decide +kernel
theorem dX5_countCalls_16 : decode cX5_countCalls 16 = .ok (.astore_n 3, 1) := by decide +kernel
theorem dX5_countCalls_17 : decode cX5_countCalls 17 = .ok (.aload_n 3, 1) := by decide +kernel
theorem dX5_countCalls_18 : decode cX5_countCalls 18 = .ok (.ifnull 10, 3) := by decide +kernel
theorem dX5_countCalls_21 : decode cX5_countCalls 21 = .ok (.iload_n 1, 1) := by decide +kernel
theorem dX5_countCalls_22 : decode cX5_countCalls 22 = .ok (.aload_n 3, 1) := by decide +kernel
theorem dX5_countCalls_23 : decode cX5_countCalls 23 = .ok (.getfield 205, 3) := by decide +kernel
theorem dX5_countCalls_26 : decode cX5_countCalls 26 = .ok (.iadd, 1) := by decide +kernel
theorem dX5_countCalls_27 : decode cX5_countCalls 27 = .ok (.istore_n 1, 1) := by decide +kernel
theorem dX5_countCalls_28 : decode cX5_countCalls 28 = .ok (.iinc 2 1, 3) := by decide +kernel
theorem dX5_countCalls_31 : decode cX5_countCalls 31 = .ok (.goto (-27), 3) := by decide +kernel
theorem dX5_countCalls_34 : decode cX5_countCalls 34 = .ok (.iload_n 1, 1) := by decide +kernel
theorem dX5_countCalls_35 : decode cX5_countCalls 35 = .ok (.ireturn, 1) := by decide +kernel
theorem dX5_within_0 : decode cX5_within 0 = .ok (.iload_n 0, 1) := by decide +kernel
theorem dX5_within_1 : decode cX5_within 1 = .ok (.iload_n 1, 1) := by decide +kernel
theorem dX5_within_2 : decode cX5_within 2 = .ok (.if_icmp .lt 12, 3) := by decide +kernel
theorem dX5_within_5 : decode cX5_within 5 = .ok (.iload_n 0, 1) := by decide +kernel
theorem dX5_within_6 : decode cX5_within 6 = .ok (.iload_n 2, 1) := by decide +kernel
theorem dX5_within_7 : decode cX5_within 7 = .ok (.if_icmp .gt 7, 3) := by decide +kernel
theorem dX5_within_10 : decode cX5_within 10 = .ok (.iconst 1, 1) := by decide +kernel
theorem dX5_within_11 : decode cX5_within 11 = .ok (.goto 4, 3) := by decide +kernel
theorem dX5_within_14 : decode cX5_within 14 = .ok (.iconst 0, 1) := by decide +kernel
theorem dX5_within_15 : decode cX5_within 15 = .ok (.ireturn, 1) := by decide +kernel
set_option maxRecDepth 20000 in
theorem ggX5_isSheet_X5_within : GoodIn wsX5_isSheet wsX5_within := goodIn_r _ [4] (by decide +kernel) (by decide +kernel)
set_option maxRecDepth 20000 in
theorem gX5_isSheet_X5_within : GoodIn wsX5_isSheet (va_wsS RX5 50 yX5_within wsX5_within) := goodIn_app (goodIn_of _ (by decide +kernel)) ggX5_isSheet_X5_within
theorem dX5_isSheet_0 : decode cX5_isSheet 0 = .ok (.iload_n 0, 1) := by decide +kernel
theorem dX5_isSheet_1 : decode cX5_isSheet 1 = .ok (.iconst 0, 1) := by decide +kernel
theorem dX5_isSheet_2 : decode cX5_isSheet 2 = .ok (.bipush 7, 2) := by decide +kernel
theorem dX5_isSheet_4 : decode cX5_isSheet 4 = .ok (.invokestatic 50, 3) := by decide +kernel
theorem dX5_isSheet_7 : decode cX5_isSheet 7 = .ok (.ireturn, 1) := by decide +kernel
set_option maxRecDepth 20000 in
theorem ggX5_isPlace_X5_within : GoodIn wsX5_isPlace wsX5_within := goodIn_r _ [4] (by decide +kernel) (by decide +kernel)
set_option maxRecDepth 20000 in
theorem gX5_isPlace_X5_within : GoodIn wsX5_isPlace (va_wsS RX5 50 yX5_within wsX5_within) := goodIn_app (goodIn_of _ (by decide +kernel)) ggX5_isPlace_X5_within
theorem dX5_isPlace_0 : decode cX5_isPlace 0 = .ok (.iload_n 0, 1) := by decide +kernel
theorem dX5_isPlace_1 : decode cX5_isPlace 1 = .ok (.iconst 0, 1) := by decide +kernel
theorem dX5_isPlace_2 : decode cX5_isPlace 2 = .ok (.iconst 5, 1) := by decide +kernel
theorem dX5_isPlace_3 : decode cX5_isPlace 3 = .ok (.invokestatic 50, 3) := by decide +kernel
theorem dX5_isPlace_6 : decode cX5_isPlace 6 = .ok (.ireturn, 1) := by decide +kernel
set_option maxRecDepth 20000 in
theorem ggX5_isKind_X5_within : GoodIn wsX5_isKind wsX5_within := goodIn_r _ [4] (by decide +kernel) (by decide +kernel)
set_option maxRecDepth 20000 in
theorem gX5_isKind_X5_within : GoodIn wsX5_isKind (va_wsS RX5 50 yX5_within wsX5_within) := goodIn_app (goodIn_of _ (by decide +kernel)) ggX5_isKind_X5_within
theorem dX5_isKind_0 : decode cX5_isKind 0 = .ok (.iload_n 0, 1) := by decide +kernel
theorem dX5_isKind_1 : decode cX5_isKind 1 = .ok (.iconst 0, 1) := by decide +kernel
theorem dX5_isKind_2 : decode cX5_isKind 2 = .ok (.iconst 3, 1) := by decide +kernel
theorem dX5_isKind_3 : decode cX5_isKind 3 = .ok (.invokestatic 50, 3) := by decide +kernel
theorem dX5_isKind_6 : decode cX5_isKind 6 = .ok (.ireturn, 1) := by decide +kernel
theorem dX5_countsAs_0 : decode cX5_countsAs 0 = .ok (.iload_n 1, 1) := by decide +kernel
theorem dX5_countsAs_1 : decode cX5_countsAs 1 = .ok (.iload_n 0, 1) := by decide +kernel
theorem dX5_countsAs_2 : decode cX5_countsAs 2 = .ok (.if_icmp .eq 17, 3) := by decide +kernel
theorem dX5_countsAs_5 : decode cX5_countsAs 5 = .ok (.iload_n 1, 1) := by decide +kernel
theorem dX5_countsAs_6 : decode cX5_countsAs 6 = .ok (.ifCond .eq 13, 3) := by decide +kernel
theorem dX5_countsAs_9 : decode cX5_countsAs 9 = .ok (.iload_n 1, 1) := by decide +kernel
theorem dX5_countsAs_10 : decode cX5_countsAs 10 = .ok (.iconst 1, 1) := by decide +kernel
theorem dX5_countsAs_11 : decode cX5_countsAs 11 = .ok (.if_icmp .ne 12, 3) := by decide +kernel
theorem dX5_countsAs_14 : decode cX5_countsAs 14 = .ok (.iload_n 0, 1) := by decide +kernel
theorem dX5_countsAs_15 : decode cX5_countsAs 15 = .ok (.iconst 2, 1) := by decide +kernel
theorem dX5_countsAs_16 : decode cX5_countsAs 16 = .ok (.if_icmp .ne 7, 3) := by decide +kernel
theorem dX5_countsAs_19 : decode cX5_countsAs 19 = .ok (.iconst 1, 1) := by decide +kernel
theorem dX5_countsAs_20 : decode cX5_countsAs 20 = .ok (.goto 4, 3) := by decide +kernel
theorem dX5_countsAs_23 : decode cX5_countsAs 23 = .ok (.iconst 0, 1) := by decide +kernel
theorem dX5_countsAs_24 : decode cX5_countsAs 24 = .ok (.ireturn, 1) := by decide +kernel
set_option maxRecDepth 20000 in
theorem ggX5_crosspoints_X5_crosspoints : GoodIn wsX5_crosspoints wsX5_crosspoints := goodIn_r _ [0, 1, 2, 3, 4, 5, 6, 7] (by decide +kernel) (by decide +kernel)
set_option maxRecDepth 20000 in
theorem gX5_crosspoints_X5_crosspoints : GoodIn wsX5_crosspoints (va_wsS RX5 189 yX5_crosspoints wsX5_crosspoints) := goodIn_app (goodIn_of _ (by decide +kernel)) ggX5_crosspoints_X5_crosspoints
theorem dX5_crosspoints_0 : decode cX5_crosspoints 0 = .ok (.iload_n 0, 1) := by decide +kernel
theorem dX5_crosspoints_1 : decode cX5_crosspoints 1 = .ok (.iload_n 0, 1) := by decide +kernel
theorem dX5_crosspoints_2 : decode cX5_crosspoints 2 = .ok (.imul, 1) := by decide +kernel
theorem dX5_crosspoints_3 : decode cX5_crosspoints 3 = .ok (.istore_n 3, 1) := by decide +kernel
theorem dX5_crosspoints_4 : decode cX5_crosspoints 4 = .ok (.iload_n 1, 1) := by decide +kernel
theorem dX5_crosspoints_5 : decode cX5_crosspoints 5 = .ok (.ifCond .gt 5, 3) := by decide +kernel
theorem dX5_crosspoints_8 : decode cX5_crosspoints 8 = .ok (.iload_n 3, 1) := by decide +kernel
theorem dX5_crosspoints_9 : decode cX5_crosspoints 9 = .ok (.ireturn, 1) := by decide +kernel
theorem dX5_crosspoints_10 : decode cX5_crosspoints 10 = .ok (.iconst 2, 1) := by decide +kernel
theorem dX5_crosspoints_11 : decode cX5_crosspoints 11 = .ok (.istore 4, 2) := by decide +kernel
theorem dX5_crosspoints_13 : decode cX5_crosspoints 13 = .ok (.iload 4, 2) := by decide +kernel
theorem dX5_crosspoints_15 : decode cX5_crosspoints 15 = .ok (.iload_n 0, 1) := by decide +kernel
theorem dX5_crosspoints_16 : decode cX5_crosspoints 16 = .ok (.if_icmp .ge 67, 3) := by decide +kernel
theorem dX5_crosspoints_19 : decode cX5_crosspoints 19 = .ok (.iload_n 0, 1) := by decide +kernel
theorem dX5_crosspoints_20 : decode cX5_crosspoints 20 = .ok (.iload 4, 2) := by decide +kernel
theorem dX5_crosspoints_22 : decode cX5_crosspoints 22 = .ok (.irem, 1) := by decide +kernel
theorem dX5_crosspoints_23 : decode cX5_crosspoints 23 = .ok (.ifCond .ne 54, 3) := by decide +kernel
theorem dX5_crosspoints_26 : decode cX5_crosspoints 26 = .ok (.iload_n 0, 1) := by decide +kernel
theorem dX5_crosspoints_27 : decode cX5_crosspoints 27 = .ok (.iload 4, 2) := by decide +kernel
theorem dX5_crosspoints_29 : decode cX5_crosspoints 29 = .ok (.idiv, 1) := by decide +kernel
theorem dX5_crosspoints_30 : decode cX5_crosspoints 30 = .ok (.istore 5, 2) := by decide +kernel
theorem dX5_crosspoints_32 : decode cX5_crosspoints 32 = .ok (.iload_n 2, 1) := by decide +kernel
theorem dX5_crosspoints_33 : decode cX5_crosspoints 33 = .ok (.ifCond .ne 8, 3) := by decide +kernel
theorem dX5_crosspoints_36 : decode cX5_crosspoints 36 = .ok (.iload 4, 2) := by decide +kernel
theorem dX5_crosspoints_38 : decode cX5_crosspoints 38 = .ok (.goto 9, 3) := by decide +kernel
theorem dX5_crosspoints_41 : decode cX5_crosspoints 41 = .ok (.iconst 2, 1) := by decide +kernel
theorem dX5_crosspoints_42 : decode cX5_crosspoints 42 = .ok (.iload 4, 2) := by decide +kernel
theorem dX5_crosspoints_44 : decode cX5_crosspoints 44 = .ok (.imul, 1) := by decide +kernel
theorem dX5_crosspoints_45 : decode cX5_crosspoints 45 = .ok (.iconst 1, 1) := by decide +kernel
theorem dX5_crosspoints_46 : decode cX5_crosspoints 46 = .ok (.isub, 1) := by decide +kernel
theorem dX5_crosspoints_47 : decode cX5_crosspoints 47 = .ok (.istore 6, 2) := by decide +kernel
theorem dX5_crosspoints_49 : decode cX5_crosspoints 49 = .ok (.iload_n 3, 1) := by decide +kernel
theorem dX5_crosspoints_50 : decode cX5_crosspoints 50 = .ok (.iconst 2, 1) := by decide +kernel
theorem dX5_crosspoints_51 : decode cX5_crosspoints 51 = .ok (.iload 5, 2) := by decide +kernel
theorem dX5_crosspoints_53 : decode cX5_crosspoints 53 = .ok (.imul, 1) := by decide +kernel
theorem dX5_crosspoints_54 : decode cX5_crosspoints 54 = .ok (.iload 4, 2) := by decide +kernel
theorem dX5_crosspoints_56 : decode cX5_crosspoints 56 = .ok (.imul, 1) := by decide +kernel
theorem dX5_crosspoints_57 : decode cX5_crosspoints 57 = .ok (.iload 6, 2) := by decide +kernel
theorem dX5_crosspoints_59 : decode cX5_crosspoints 59 = .ok (.imul, 1) := by decide +kernel
theorem dX5_crosspoints_60 : decode cX5_crosspoints 60 = .ok (.iload 6, 2) := by decide +kernel
theorem dX5_crosspoints_62 : decode cX5_crosspoints 62 = .ok (.iload 5, 2) := by decide +kernel
theorem dX5_crosspoints_64 : decode cX5_crosspoints 64 = .ok (.iload_n 1, 1) := by decide +kernel
theorem dX5_crosspoints_65 : decode cX5_crosspoints 65 = .ok (.iconst 1, 1) := by decide +kernel
theorem dX5_crosspoints_66 : decode cX5_crosspoints 66 = .ok (.isub, 1) := by decide +kernel
theorem dX5_crosspoints_67 : decode cX5_crosspoints 67 = .ok (.iload_n 2, 1) := by decide +kernel
theorem dX5_crosspoints_68 : decode cX5_crosspoints 68 = .ok (.invokestatic 189, 3) := by decide +kernel
theorem dX5_crosspoints_71 : decode cX5_crosspoints 71 = .ok (.imul, 1) := by decide +kernel
theorem dX5_crosspoints_72 : decode cX5_crosspoints 72 = .ok (.iadd, 1) := by decide +kernel
theorem dX5_crosspoints_73 : decode cX5_crosspoints 73 = .ok (.invokestatic 208, 3) := by decide +kernel
theorem dX5_crosspoints_76 : decode cX5_crosspoints 76 = .ok (.istore_n 3, 1) := by decide +kernel
theorem dX5_crosspoints_77 : decode cX5_crosspoints 77 = .ok (.iinc 4 1, 3) := by decide +kernel
theorem dX5_crosspoints_80 : decode cX5_crosspoints 80 = .ok (.goto (-67), 3) := by decide +kernel
theorem dX5_crosspoints_83 : decode cX5_crosspoints 83 = .ok (.iload_n 3, 1) := by decide +kernel
theorem dX5_crosspoints_84 : decode cX5_crosspoints 84 = .ok (.ireturn, 1) := by decide +kernel
theorem dX6_init_0 : decode cX6_init 0 = .ok (.aload_n 0, 1) := by decide +kernel
theorem dX6_init_1 : decode cX6_init 1 = .ok (.invokespecial 1, 3) := by decide +kernel
theorem dX6_init_4 : decode cX6_init 4 = .ok (.aload_n 0, 1) := by decide +kernel
theorem dX6_init_5 : decode cX6_init 5 = .ok (.bipush 8, 2) := by decide +kernel
theorem dX6_init_7 : decode cX6_init 7 = .ok (.newarray .int, 2) := by decide +kernel
theorem dX6_init_9 : decode cX6_init 9 = .ok (.dup, 1) := by decide +kernel
theorem dX6_init_10 : decode cX6_init 10 = .ok (.iconst 0, 1) := by decide +kernel
theorem dX6_init_11 : decode cX6_init 11 = .ok (.iconst (-1), 1) := by decide +kernel
theorem dX6_init_12 : decode cX6_init 12 = .ok (.iastore, 1) := by decide +kernel
theorem dX6_init_13 : decode cX6_init 13 = .ok (.dup, 1) := by decide +kernel
theorem dX6_init_14 : decode cX6_init 14 = .ok (.iconst 1, 1) := by decide +kernel
theorem dX6_init_15 : decode cX6_init 15 = .ok (.iconst (-1), 1) := by decide +kernel
theorem dX6_init_16 : decode cX6_init 16 = .ok (.iastore, 1) := by decide +kernel
theorem dX6_init_17 : decode cX6_init 17 = .ok (.dup, 1) := by decide +kernel
theorem dX6_init_18 : decode cX6_init 18 = .ok (.iconst 2, 1) := by decide +kernel
theorem dX6_init_19 : decode cX6_init 19 = .ok (.iconst (-1), 1) := by decide +kernel
theorem dX6_init_20 : decode cX6_init 20 = .ok (.iastore, 1) := by decide +kernel
theorem dX6_init_21 : decode cX6_init 21 = .ok (.dup, 1) := by decide +kernel
theorem dX6_init_22 : decode cX6_init 22 = .ok (.iconst 3, 1) := by decide +kernel
theorem dX6_init_23 : decode cX6_init 23 = .ok (.iconst (-1), 1) := by decide +kernel
theorem dX6_init_24 : decode cX6_init 24 = .ok (.iastore, 1) := by decide +kernel
theorem dX6_init_25 : decode cX6_init 25 = .ok (.dup, 1) := by decide +kernel
theorem dX6_init_26 : decode cX6_init 26 = .ok (.iconst 4, 1) := by decide +kernel
theorem dX6_init_27 : decode cX6_init 27 = .ok (.iconst (-1), 1) := by decide +kernel
theorem dX6_init_28 : decode cX6_init 28 = .ok (.iastore, 1) := by decide +kernel
theorem dX6_init_29 : decode cX6_init 29 = .ok (.dup, 1) := by decide +kernel
theorem dX6_init_30 : decode cX6_init 30 = .ok (.iconst 5, 1) := by decide +kernel
theorem dX6_init_31 : decode cX6_init 31 = .ok (.iconst (-1), 1) := by decide +kernel
theorem dX6_init_32 : decode cX6_init 32 = .ok (.iastore, 1) := by decide +kernel
theorem dX6_init_33 : decode cX6_init 33 = .ok (.dup, 1) := by decide +kernel
theorem dX6_init_34 : decode cX6_init 34 = .ok (.bipush 6, 2) := by decide +kernel
theorem dX6_init_36 : decode cX6_init 36 = .ok (.iconst (-1), 1) := by decide +kernel
theorem dX6_init_37 : decode cX6_init 37 = .ok (.iastore, 1) := by decide +kernel
theorem dX6_init_38 : decode cX6_init 38 = .ok (.dup, 1) := by decide +kernel
theorem dX6_init_39 : decode cX6_init 39 = .ok (.bipush 7, 2) := by decide +kernel
theorem dX6_init_41 : decode cX6_init 41 = .ok (.iconst (-1), 1) := by decide +kernel
theorem dX6_init_42 : decode cX6_init 42 = .ok (.iastore, 1) := by decide +kernel
theorem dX6_init_43 : decode cX6_init 43 = .ok (.putfield 7, 3) := by decide +kernel
theorem dX6_init_46 : decode cX6_init 46 = .ok (.aload_n 0, 1) := by decide +kernel
theorem dX6_init_47 : decode cX6_init 47 = .ok (.bipush 8, 2) := by decide +kernel
theorem dX6_init_49 : decode cX6_init 49 = .ok (.newarray .int, 2) := by decide +kernel
theorem dX6_init_51 : decode cX6_init 51 = .ok (.putfield 13, 3) := by decide +kernel
theorem dX6_init_54 : decode cX6_init 54 = .ok (.aload_n 0, 1) := by decide +kernel
theorem dX6_init_55 : decode cX6_init 55 = .ok (.sipush 512, 3) := by decide +kernel
theorem dX6_init_58 : decode cX6_init 58 = .ok (.newarray .int, 2) := by decide +kernel
theorem dX6_init_60 : decode cX6_init 60 = .ok (.putfield 16, 3) := by decide +kernel
theorem dX6_init_63 : decode cX6_init 63 = .ok (.aload_n 0, 1) := by decide +kernel
theorem dX6_init_64 : decode cX6_init 64 = .ok (.bipush 6, 2) := by decide +kernel
theorem dX6_init_66 : decode cX6_init 66 = .ok (.newarray .int, 2) := by decide +kernel
theorem dX6_init_68 : decode cX6_init 68 = .ok (.putfield 19, 3) := by decide +kernel
theorem dX6_init_71 : decode cX6_init 71 = .ok (.aload_n 0, 1) := by decide +kernel
theorem dX6_init_72 : decode cX6_init 72 = .ok (.bipush 6, 2) := by decide +kernel
theorem dX6_init_74 : decode cX6_init 74 = .ok (.newarray .int, 2) := by decide +kernel
theorem dX6_init_76 : decode cX6_init 76 = .ok (.putfield 22, 3) := by decide +kernel
theorem dX6_init_79 : decode cX6_init 79 = .ok (.aload_n 0, 1) := by decide +kernel
theorem dX6_init_80 : decode cX6_init 80 = .ok (.bipush 6, 2) := by decide +kernel
theorem dX6_init_82 : decode cX6_init 82 = .ok (.newarray .int, 2) := by decide +kernel
theorem dX6_init_84 : decode cX6_init 84 = .ok (.putfield 25, 3) := by decide +kernel
theorem dX6_init_87 : decode cX6_init 87 = .ok (.aload_n 0, 1) := by decide +kernel
theorem dX6_init_88 : decode cX6_init 88 = .ok (.bipush 72, 2) := by decide +kernel
theorem dX6_init_90 : decode cX6_init 90 = .ok (.newarray .boolean, 2) := by decide +kernel
theorem dX6_init_92 : decode cX6_init 92 = .ok (.putfield 28, 3) := by decide +kernel
theorem dX6_init_95 : decode cX6_init 95 = .ok (.aload_n 0, 1) := by decide +kernel
theorem dX6_init_96 : decode cX6_init 96 = .ok (.sipush 216, 3) := by decide +kernel
theorem dX6_init_99 : decode cX6_init 99 = .ok (.newarray .int, 2) := by decide +kernel
theorem dX6_init_101 : decode cX6_init 101 = .ok (.putfield 32, 3) := by decide +kernel
theorem dX6_init_104 : decode cX6_init 104 = .ok (.aload_n 0, 1) := by decide +kernel
theorem dX6_init_105 : decode cX6_init 105 = .ok (.sipush 216, 3) := by decide +kernel
theorem dX6_init_108 : decode cX6_init 108 = .ok (.newarray .int, 2) := by decide +kernel
theorem dX6_init_110 : decode cX6_init 110 = .ok (.putfield 35, 3) := by decide +kernel
theorem dX6_init_113 : decode cX6_init 113 = .ok (.aload_n 0, 1) := by decide +kernel
theorem dX6_init_114 : decode cX6_init 114 = .ok (.bipush 16, 2) := by decide +kernel
theorem dX6_init_116 : decode cX6_init 116 = .ok (.newarray .int, 2) := by decide +kernel
theorem dX6_init_118 : decode cX6_init 118 = .ok (.putfield 38, 3) := by decide +kernel
theorem dX6_init_121 : decode cX6_init 121 = .ok (.aload_n 0, 1) := by decide +kernel
theorem dX6_init_122 : decode cX6_init 122 = .ok (.bipush 40, 2) := by decide +kernel
theorem dX6_init_124 : decode cX6_init 124 = .ok (.newarray .int, 2) := by decide +kernel
theorem dX6_init_126 : decode cX6_init 126 = .ok (.putfield 41, 3) := by decide +kernel
theorem dX6_init_129 : decode cX6_init 129 = .ok (.aload_n 0, 1) := by decide +kernel
theorem dX6_init_130 : decode cX6_init 130 = .ok (.bipush 36, 2) := by decide +kernel
theorem dX6_init_132 : decode cX6_init 132 = .ok (.newarray .int, 2) := by decide +kernel
theorem dX6_init_134 : decode cX6_init 134 = .ok (.putfield 44, 3) := by decide +kernel
theorem dX6_init_137 : decode cX6_init 137 = .ok (.aload_n 0, 1) := by decide +kernel
theorem dX6_init_138 : decode cX6_init 138 = .ok (.bipush 56, 2) := by decide +kernel
theorem dX6_init_140 : decode cX6_init 140 = .ok (.newarray .int, 2) := by decide +kernel
theorem dX6_init_142 : decode cX6_init 142 = .ok (.putfield 47, 3) := by decide +kernel
theorem dX6_init_145 : decode cX6_init 145 = .ok (.aload_n 0, 1) := by decide +kernel
theorem dX6_init_146 : decode cX6_init 146 = .ok (.bipush 16, 2) := by decide +kernel
theorem dX6_init_148 : decode cX6_init 148 = .ok (.newarray .int, 2) := by decide +kernel
theorem dX6_init_150 : decode cX6_init 150 = .ok (.putfield 50, 3) := by decide +kernel
theorem dX6_init_153 : decode cX6_init 153 = .ok (.aload_n 0, 1) := by decide +kernel
theorem dX6_init_154 : decode cX6_init 154 = .ok (.bipush 16, 2) := by decide +kernel
theorem dX6_init_156 : decode cX6_init 156 = .ok (.newarray .int, 2) := by decide +kernel
theorem dX6_init_158 : decode cX6_init 158 = .ok (.putfield 53, 3) := by decide +kernel
theorem dX6_init_161 : decode cX6_init 161 = .ok (.aload_n 0, 1) := by decide +kernel
theorem dX6_init_162 : decode cX6_init 162 = .ok (.bipush 16, 2) := by decide +kernel
theorem dX6_init_164 : decode cX6_init 164 = .ok (.newarray .int, 2) := by decide +kernel
theorem dX6_init_166 : decode cX6_init 166 = .ok (.putfield 56, 3) := by decide +kernel
theorem dX6_init_169 : decode cX6_init 169 = .ok (.aload_n 0, 1) := by decide +kernel
theorem dX6_init_170 : decode cX6_init 170 = .ok (.iconst 4, 1) := by decide +kernel
theorem dX6_init_171 : decode cX6_init 171 = .ok (.newarray .int, 2) := by decide +kernel
theorem dX6_init_173 : decode cX6_init 173 = .ok (.putfield 59, 3) := by decide +kernel
theorem dX6_init_176 : decode cX6_init 176 = .ok (.aload_n 0, 1) := by decide +kernel
theorem dX6_init_177 : decode cX6_init 177 = .ok (.iconst 4, 1) := by decide +kernel
theorem dX6_init_178 : decode cX6_init 178 = .ok (.newarray .int, 2) := by decide +kernel
theorem dX6_init_180 : decode cX6_init 180 = .ok (.putfield 62, 3) := by decide +kernel
theorem dX6_init_183 : decode cX6_init 183 = .ok (.aload_n 0, 1) := by decide +kernel
theorem dX6_init_184 : decode cX6_init 184 = .ok (.bipush 36, 2) := by decide +kernel
theorem dX6_init_186 : decode cX6_init 186 = .ok (.newarray .int, 2) := by decide +kernel
theorem dX6_init_188 : decode cX6_init 188 = .ok (.putfield 65, 3) := by decide +kernel
theorem dX6_init_191 : decode cX6_init 191 = .ok (.aload_n 0, 1) := by decide +kernel
theorem dX6_init_192 : decode cX6_init 192 = .ok (.sipush 300, 3) := by decide +kernel
theorem dX6_init_195 : decode cX6_init 195 = .ok (.newarray .int, 2) := by decide +kernel
theorem dX6_init_197 : decode cX6_init 197 = .ok (.putfield 68, 3) := by decide +kernel
theorem dX6_init_200 : decode cX6_init 200 = .ok (.aload_n 0, 1) := by decide +kernel
theorem dX6_init_201 : decode cX6_init 201 = .ok (.bipush 50, 2) := by decide +kernel
theorem dX6_init_203 : decode cX6_init 203 = .ok (.newarray .int, 2) := by decide +kernel
theorem dX6_init_205 : decode cX6_init 205 = .ok (.putfield 71, 3) := by decide +kernel
theorem dX6_init_208 : decode cX6_init 208 = .ok (.aload_n 0, 1) := by decide +kernel
theorem dX6_init_209 : decode cX6_init 209 = .ok (.bipush 6, 2) := by decide +kernel
theorem dX6_init_211 : decode cX6_init 211 = .ok (.newarray .int, 2) := by decide +kernel
theorem dX6_init_213 : decode cX6_init 213 = .ok (.putfield 74, 3) := by decide +kernel
theorem dX6_init_216 : decode cX6_init 216 = .ok (.aload_n 0, 1) := by decide +kernel
theorem dX6_init_217 : decode cX6_init 217 = .ok (.sipush 195, 3) := by decide +kernel
theorem dX6_init_220 : decode cX6_init 220 = .ok (.newarray .long, 2) := by decide +kernel
theorem dX6_init_222 : decode cX6_init 222 = .ok (.putfield 77, 3) := by decide +kernel
theorem dX6_init_225 : decode cX6_init 225 = .ok (.return_, 1) := by decide +kernel
theorem dX6_in_0 : decode cX6_in 0 = .ok (.lload_n 0, 1) := by decide +kernel
theorem dX6_in_1 : decode cX6_in 1 = .ok (.lload_n 2, 1) := by decide +kernel
theorem dX6_in_2 : decode cX6_in 2 = .ok (.lcmp, 1) := by decide +kernel
theorem dX6_in_3 : decode cX6_in 3 = .ok (.ifCond .lt 14, 3) := by decide +kernel
theorem dX6_in_6 : decode cX6_in 6 = .ok (.lload_n 0, 1) := by decide +kernel
theorem dX6_in_7 : decode cX6_in 7 = .ok (.lload 4, 2) := by decide +kernel
theorem dX6_in_9 : decode cX6_in 9 = .ok (.lcmp, 1) := by decide +kernel
theorem dX6_in_10 : decode cX6_in 10 = .ok (.ifCond .gt 7, 3) := by decide +kernel
theorem dX6_in_13 : decode cX6_in 13 = .ok (.iconst 1, 1) := by decide +kernel
theorem dX6_in_14 : decode cX6_in 14 = .ok (.goto 4, 3) := by decide +kernel
theorem dX6_in_17 : decode cX6_in 17 = .ok (.iconst 0, 1) := by decide +kernel
theorem dX6_in_18 : decode cX6_in 18 = .ok (.ireturn, 1) := by decide +kernel
theorem dX6_found_0 : decode cX6_found 0 = .ok (.aload_n 0, 1) := by decide +kernel
theorem dX6_found_1 : decode cX6_found 1 = .ok (.iload_n 1, 1) := by decide +kernel
theorem dX6_found_2 : decode cX6_found 2 = .ok (.putfield 85, 3) := by decide +kernel
theorem dX6_found_5 : decode cX6_found 5 = .ok (.ldc 88, 2) := by decide +kernel
theorem dX6_found_7 : decode cX6_found 7 = .ok (.iload_n 1, 1) := by decide +kernel
theorem dX6_found_8 : decode cX6_found 8 = .ok (.isub, 1) := by decide +kernel
theorem dX6_found_9 : decode cX6_found 9 = .ok (.ireturn, 1) := by decide +kernel
set_option maxRecDepth 20000 in
theorem ggX6_isSheet_X6_in : GoodIn wsX6_isSheet wsX6_in := goodIn_r _ [5] (by decide +kernel) (by decide +kernel)
set_option maxRecDepth 20000 in
theorem gX6_isSheet_X6_in : GoodIn wsX6_isSheet (va_wsS RX6 91 yX6_in wsX6_in) := goodIn_app (goodIn_of _ (by decide +kernel)) ggX6_isSheet_X6_in
theorem dX6_isSheet_0 : decode cX6_isSheet 0 = .ok (.iload_n 0, 1) := by decide +kernel
theorem dX6_isSheet_1 : decode cX6_isSheet 1 = .ok (.i2l, 1) := by decide +kernel
theorem dX6_isSheet_2 : decode cX6_isSheet 2 = .ok (.lconst 0, 1) := by decide +kernel
theorem dX6_isSheet_3 : decode cX6_isSheet 3 = .ok (.ldc2_w 89, 3) := by decide +kernel
theorem dX6_isSheet_6 : decode cX6_isSheet 6 = .ok (.invokestatic 91, 3) := by decide +kernel
theorem dX6_isSheet_9 : decode cX6_isSheet 9 = .ok (.ireturn, 1) := by decide +kernel
set_option maxRecDepth 20000 in
theorem ggX6_sheet_X6_isSheet : GoodIn wsX6_sheet wsX6_isSheet := goodIn_r _ [11, 12, 13, 14, 10, 15] (by decide +kernel) (by decide +kernel)
set_option maxRecDepth 20000 in
theorem gX6_sheet_X6_isSheet : GoodIn wsX6_sheet (va_wsS RX6 95 yX6_isSheet wsX6_isSheet) := goodIn_app (goodIn_of _ (by decide +kernel)) ggX6_sheet_X6_isSheet
set_option maxRecDepth 20000 in
theorem ggX6_sheet_X6_in : GoodIn wsX6_sheet wsX6_in := goodIn_r _ [15] (by decide +kernel) (by decide +kernel)
set_option maxRecDepth 20000 in
theorem gX6_sheet_X6_in : GoodIn wsX6_sheet (va_wsS RX6 91 yX6_in wsX6_in) := goodIn_app (goodIn_of _ (by decide +kernel)) ggX6_sheet_X6_in
set_option maxRecDepth 20000 in
theorem ggX6_sheet_X6_found : GoodIn wsX6_sheet wsX6_found := goodIn_r _ [19, 4, 20, 21, 22, 23, 24, 25, 26, 27, 28, 29, 30, 31, 32, 33, 34, 35, 36, 37, 38, 39, 40, 41, 42, 43, 44, 45, 46, 47, 48, 49, 50] (by decide +kernel) (by decide +kernel)
set_option maxRecDepth 20000 in
theorem gX6_sheet_X6_found : GoodIn wsX6_sheet (wsV RX6 102 RX6 yX6_found wsX6_found) := goodIn_app (goodIn_of _ (by decide +kernel)) ggX6_sheet_X6_found
theorem dX6_sheet_0 : decode cX6_sheet 0 = .ok (.aload_n 0, 1) := by decide +kernel
theorem dX6_sheet_1 : decode cX6_sheet 1 = .ok (.iconst 0, 1) := by decide +kernel
theorem dX6_sheet_2 : decode cX6_sheet 2 = .ok (.putfield 81, 3) := by decide +kernel
theorem dX6_sheet_5 : decode cX6_sheet 5 = .ok (.iload_n 1, 1) := by decide +kernel
theorem dX6_sheet_6 : decode cX6_sheet 6 = .ok (.invokestatic 95, 3) := by decide +kernel
theorem dX6_sheet_9 : decode cX6_sheet 9 = .ok (.ifCond .eq 21, 3) := by decide +kernel
theorem dX6_sheet_12 : decode cX6_sheet 12 = .ok (.iload_n 2, 1) := by decide +kernel
theorem dX6_sheet_13 : decode cX6_sheet 13 = .ok (.i2l, 1) := by decide +kernel
theorem dX6_sheet_14 : decode cX6_sheet 14 = .ok (.lconst 0, 1) := by decide +kernel
theorem dX6_sheet_15 : decode cX6_sheet 15 = .ok (.ldc2_w 99, 3) := by decide +kernel
theorem dX6_sheet_18 : decode cX6_sheet 18 = .ok (.invokestatic 91, 3) := by decide +kernel
theorem dX6_sheet_21 : decode cX6_sheet 21 = .ok (.ifCond .eq 9, 3) := by decide +kernel
theorem dX6_sheet_24 : decode cX6_sheet 24 = .ok (.iload_n 3, 1) := by decide +kernel
theorem dX6_sheet_25 : decode cX6_sheet 25 = .ok (.bipush 64, 2) := by decide +kernel
theorem dX6_sheet_27 : decode cX6_sheet 27 = .ok (.if_icmp .le 6, 3) := by decide +kernel
theorem dX6_sheet_30 : decode cX6_sheet 30 = .ok (.ldc 101, 2) := by decide +kernel
theorem dX6_sheet_32 : decode cX6_sheet 32 = .ok (.ireturn, 1) := by decide +kernel
theorem dX6_sheet_33 : decode cX6_sheet 33 = .ok (.aload_n 0, 1) := by decide +kernel
theorem dX6_sheet_34 : decode cX6_sheet 34 = .ok (.iconst 0, 1) := by decide +kernel
theorem dX6_sheet_35 : decode cX6_sheet 35 = .ok (.putfield 85, 3) := by decide +kernel
theorem dX6_sheet_38 : decode cX6_sheet 38 = .ok (.iload_n 3, 1) := by decide +kernel
theorem dX6_sheet_39 : decode cX6_sheet 39 = .ok (.ifCond .ge 9, 3) := by decide +kernel
theorem dX6_sheet_42 : decode cX6_sheet 42 = .ok (.aload_n 0, 1) := by decide +kernel
theorem dX6_sheet_43 : decode cX6_sheet 43 = .ok (.iconst 4, 1) := by decide +kernel
theorem dX6_sheet_44 : decode cX6_sheet 44 = .ok (.invokevirtual 102, 3) := by decide +kernel
theorem dX6_sheet_47 : decode cX6_sheet 47 = .ok (.ireturn, 1) := by decide +kernel
theorem dX6_sheet_48 : decode cX6_sheet 48 = .ok (.aload_n 0, 1) := by decide +kernel
theorem dX6_sheet_49 : decode cX6_sheet 49 = .ok (.getfield 7, 3) := by decide +kernel
theorem dX6_sheet_52 : decode cX6_sheet 52 = .ok (.iload_n 1, 1) := by decide +kernel
theorem dX6_sheet_53 : decode cX6_sheet 53 = .ok (.iload_n 2, 1) := by decide +kernel
theorem dX6_sheet_54 : decode cX6_sheet 54 = .ok (.iastore, 1) := by decide +kernel
theorem dX6_sheet_55 : decode cX6_sheet 55 = .ok (.aload_n 0, 1) := by decide +kernel
theorem dX6_sheet_56 : decode cX6_sheet 56 = .ok (.getfield 13, 3) := by decide +kernel
theorem dX6_sheet_59 : decode cX6_sheet 59 = .ok (.iload_n 1, 1) := by decide +kernel
theorem dX6_sheet_60 : decode cX6_sheet 60 = .ok (.iload_n 3, 1) := by decide +kernel
theorem dX6_sheet_61 : decode cX6_sheet 61 = .ok (.iastore, 1) := by decide +kernel
theorem dX6_sheet_62 : decode cX6_sheet 62 = .ok (.iconst 0, 1) := by decide +kernel
theorem dX6_sheet_63 : decode cX6_sheet 63 = .ok (.istore 4, 2) := by decide +kernel
theorem dX6_sheet_65 : decode cX6_sheet 65 = .ok (.iload 4, 2) := by decide +kernel
theorem dX6_sheet_67 : decode cX6_sheet 67 = .ok (.bipush 64, 2) := by decide +kernel
theorem dX6_sheet_69 : decode cX6_sheet 69 = .ok (.if_icmp .ge 22, 3) := by decide +kernel
theorem dX6_sheet_72 : decode cX6_sheet 72 = .ok (.aload_n 0, 1) := by decide +kernel
theorem dX6_sheet_73 : decode cX6_sheet 73 = .ok (.getfield 16, 3) := by decide +kernel
theorem dX6_sheet_76 : decode cX6_sheet 76 = .ok (.bipush 64, 2) := by decide +kernel
theorem dX6_sheet_78 : decode cX6_sheet 78 = .ok (.iload_n 1, 1) := by decide +kernel
theorem dX6_sheet_79 : decode cX6_sheet 79 = .ok (.imul, 1) := by decide +kernel
theorem dX6_sheet_80 : decode cX6_sheet 80 = .ok (.iload 4, 2) := by decide +kernel
theorem dX6_sheet_82 : decode cX6_sheet 82 = .ok (.iadd, 1) := by decide +kernel
theorem dX6_sheet_83 : decode cX6_sheet 83 = .ok (.iconst 0, 1) := by decide +kernel
theorem dX6_sheet_84 : decode cX6_sheet 84 = .ok (.iastore, 1) := by decide +kernel
theorem dX6_sheet_85 : decode cX6_sheet 85 = .ok (.iinc 4 1, 3) := by decide +kernel
theorem dX6_sheet_88 : decode cX6_sheet 88 = .ok (.goto (-23), 3) := by decide +kernel
theorem dX6_sheet_91 : decode cX6_sheet 91 = .ok (.iload_n 3, 1) := by decide +kernel
theorem dX6_sheet_92 : decode cX6_sheet 92 = .ok (.ireturn, 1) := by decide +kernel
set_option maxRecDepth 20000 in
theorem ggX6_set_X6_isSheet : GoodIn wsX6_set wsX6_isSheet := goodIn_r _ [10, 11, 12, 13, 9, 14] (by decide +kernel) (by decide +kernel)
set_option maxRecDepth 20000 in
theorem gX6_set_X6_isSheet : GoodIn wsX6_set (va_wsS RX6 95 yX6_isSheet wsX6_isSheet) := goodIn_app (goodIn_of _ (by decide +kernel)) ggX6_set_X6_isSheet
set_option maxRecDepth 20000 in
theorem ggX6_set_X6_found : GoodIn wsX6_set wsX6_found := goodIn_r _ [18, 3, 19, 20, 21, 22, 23, 24, 25, 26, 27, 28, 29, 30, 31, 32, 33, 34, 35, 36, 37, 38, 39, 40, 41, 42, 43, 44, 45, 46, 47, 48, 49] (by decide +kernel) (by decide +kernel)
set_option maxRecDepth 20000 in
theorem gX6_set_X6_found : GoodIn wsX6_set (wsV RX6 102 RX6 yX6_found wsX6_found) := goodIn_app (goodIn_of _ (by decide +kernel)) ggX6_set_X6_found
set_option maxRecDepth 20000 in
theorem ggX6_set_X6_in : GoodIn wsX6_set wsX6_in := goodIn_r _ [14] (by decide +kernel) (by decide +kernel)
set_option maxRecDepth 20000 in
theorem gX6_set_X6_in : GoodIn wsX6_set (va_wsS RX6 91 yX6_in wsX6_in) := goodIn_app (goodIn_of _ (by decide +kernel)) ggX6_set_X6_in
theorem dX6_set_0 : decode cX6_set 0 = .ok (.aload_n 0, 1) := by decide +kernel
theorem dX6_set_1 : decode cX6_set 1 = .ok (.iconst 0, 1) := by decide +kernel
theorem dX6_set_2 : decode cX6_set 2 = .ok (.putfield 81, 3) := by decide +kernel
theorem dX6_set_5 : decode cX6_set 5 = .ok (.iload_n 1, 1) := by decide +kernel
theorem dX6_set_6 : decode cX6_set 6 = .ok (.invokestatic 95, 3) := by decide +kernel
theorem dX6_set_9 : decode cX6_set 9 = .ok (.ifCond .ne 6, 3) := by decide +kernel
theorem dX6_set_12 : decode cX6_set 12 = .ok (.ldc 101, 2) := by decide +kernel
theorem dX6_set_14 : decode cX6_set 14 = .ok (.ireturn, 1) := by decide +kernel
theorem dX6_set_15 : decode cX6_set 15 = .ok (.aload_n 0, 1) := by decide +kernel
theorem dX6_set_16 : decode cX6_set 16 = .ok (.iconst 0, 1) := by decide +kernel
theorem dX6_set_17 : decode cX6_set 17 = .ok (.putfield 85, 3) := by decide +kernel
theorem dX6_set_20 : decode cX6_set 20 = .ok (.aload_n 0, 1) := by decide +kernel
theorem dX6_set_21 : decode cX6_set 21 = .ok (.getfield 7, 3) := by decide +kernel
theorem dX6_set_24 : decode cX6_set 24 = .ok (.iload_n 1, 1) := by decide +kernel
theorem dX6_set_25 : decode cX6_set 25 = .ok (.iaload, 1) := by decide +kernel
theorem dX6_set_26 : decode cX6_set 26 = .ok (.ifCond .ge 9, 3) := by decide +kernel
theorem dX6_set_29 : decode cX6_set 29 = .ok (.aload_n 0, 1) := by decide +kernel
theorem dX6_set_30 : decode cX6_set 30 = .ok (.iconst 1, 1) := by decide +kernel
theorem dX6_set_31 : decode cX6_set 31 = .ok (.invokevirtual 102, 3) := by decide +kernel
theorem dX6_set_34 : decode cX6_set 34 = .ok (.ireturn, 1) := by decide +kernel
theorem dX6_set_35 : decode cX6_set 35 = .ok (.iload_n 2, 1) := by decide +kernel
theorem dX6_set_36 : decode cX6_set 36 = .ok (.i2l, 1) := by decide +kernel
theorem dX6_set_37 : decode cX6_set 37 = .ok (.lconst 0, 1) := by decide +kernel
theorem dX6_set_38 : decode cX6_set 38 = .ok (.aload_n 0, 1) := by decide +kernel
theorem dX6_set_39 : decode cX6_set 39 = .ok (.getfield 13, 3) := by decide +kernel
theorem dX6_set_42 : decode cX6_set 42 = .ok (.iload_n 1, 1) := by decide +kernel
theorem dX6_set_43 : decode cX6_set 43 = .ok (.iaload, 1) := by decide +kernel
theorem dX6_set_44 : decode cX6_set 44 = .ok (.iconst 1, 1) := by decide +kernel
theorem dX6_set_45 : decode cX6_set 45 = .ok (.isub, 1) := by decide +kernel
theorem dX6_set_46 : decode cX6_set 46 = .ok (.i2l, 1) := by decide +kernel
theorem dX6_set_47 : decode cX6_set 47 = .ok (.invokestatic 91, 3) := by decide +kernel
theorem dX6_set_50 : decode cX6_set 50 = .ok (.ifCond .ne 9, 3) := by decide +kernel
theorem dX6_set_53 : decode cX6_set 53 = .ok (.aload_n 0, 1) := by decide +kernel
theorem dX6_set_54 : decode cX6_set 54 = .ok (.iconst 2, 1) := by decide +kernel
theorem dX6_set_55 : decode cX6_set 55 = .ok (.invokevirtual 102, 3) := by decide +kernel
theorem dX6_set_58 : decode cX6_set 58 = .ok (.ireturn, 1) := by decide +kernel
theorem dX6_set_59 : decode cX6_set 59 = .ok (.aload_n 0, 1) := by decide +kernel
theorem dX6_set_60 : decode cX6_set 60 = .ok (.getfield 16, 3) := by decide +kernel
theorem dX6_set_63 : decode cX6_set 63 = .ok (.bipush 64, 2) := by decide +kernel
theorem dX6_set_65 : decode cX6_set 65 = .ok (.iload_n 1, 1) := by decide +kernel
theorem dX6_set_66 : decode cX6_set 66 = .ok (.imul, 1) := by decide +kernel
theorem dX6_set_67 : decode cX6_set 67 = .ok (.iload_n 2, 1) := by decide +kernel
theorem dX6_set_68 : decode cX6_set 68 = .ok (.iadd, 1) := by decide +kernel
theorem dX6_set_69 : decode cX6_set 69 = .ok (.aload_n 0, 1) := by decide +kernel
theorem dX6_set_70 : decode cX6_set 70 = .ok (.getfield 7, 3) := by decide +kernel
theorem dX6_set_73 : decode cX6_set 73 = .ok (.iload_n 1, 1) := by decide +kernel
theorem dX6_set_74 : decode cX6_set 74 = .ok (.iaload, 1) := by decide +kernel
theorem dX6_set_75 : decode cX6_set 75 = .ok (.ifCond .ne 8, 3) := by decide +kernel
theorem dX6_set_78 : decode cX6_set 78 = .ok (.iload_n 3, 1) := by decide +kernel
theorem dX6_set_79 : decode cX6_set 79 = .ok (.i2b, 1) := by decide +kernel
theorem dX6_set_80 : decode cX6_set 80 = .ok (.goto 19, 3) := by decide +kernel
theorem dX6_set_83 : decode cX6_set 83 = .ok (.aload_n 0, 1) := by decide +kernel
theorem dX6_set_84 : decode cX6_set 84 = .ok (.getfield 7, 3) := by decide +kernel
theorem dX6_set_87 : decode cX6_set 87 = .ok (.iload_n 1, 1) := by decide +kernel
theorem dX6_set_88 : decode cX6_set 88 = .ok (.iaload, 1) := by decide +kernel
theorem dX6_set_89 : decode cX6_set 89 = .ok (.iconst 1, 1) := by decide +kernel
theorem dX6_set_90 : decode cX6_set 90 = .ok (.if_icmp .ne 8, 3) := by decide +kernel
theorem dX6_set_93 : decode cX6_set 93 = .ok (.iload_n 3, 1) := by decide +kernel
theorem dX6_set_94 : decode cX6_set 94 = .ok (.i2s, 1) := by decide +kernel
theorem dX6_set_95 : decode cX6_set 95 = .ok (.goto 4, 3) := by decide +kernel
theorem dX6_set_98 : decode cX6_set 98 = .ok (.iload_n 3, 1) := by decide +kernel
theorem dX6_set_99 : decode cX6_set 99 = .ok (.iastore, 1) := by decide +kernel
theorem dX6_set_100 : decode cX6_set 100 = .ok (.aload_n 0, 1) := by decide +kernel
theorem dX6_set_101 : decode cX6_set 101 = .ok (.getfield 16, 3) := by decide +kernel
theorem dX6_set_104 : decode cX6_set 104 = .ok (.bipush 64, 2) := by decide +kernel
theorem dX6_set_106 : decode cX6_set 106 = .ok (.iload_n 1, 1) := by decide +kernel
theorem dX6_set_107 : decode cX6_set 107 = .ok (.imul, 1) := by decide +kernel
theorem dX6_set_108 : decode cX6_set 108 = .ok (.iload_n 2, 1) := by decide +kernel
theorem dX6_set_109 : decode cX6_set 109 = .ok (.iadd, 1) := by decide +kernel
theorem dX6_set_110 : decode cX6_set 110 = .ok (.iaload, 1) := by decide +kernel
theorem dX6_set_111 : decode cX6_set 111 = .ok (.ireturn, 1) := by decide +kernel
set_option maxRecDepth 20000 in
theorem ggX6_copy_X6_isSheet : GoodIn wsX6_copy wsX6_isSheet := goodIn_r _ [10, 11, 12, 13, 9, 14] (by decide +kernel) (by decide +kernel)
set_option maxRecDepth 20000 in
theorem gX6_copy_X6_isSheet : GoodIn wsX6_copy (va_wsS RX6 95 yX6_isSheet wsX6_isSheet) := goodIn_app (goodIn_of _ (by decide +kernel)) ggX6_copy_X6_isSheet
set_option maxRecDepth 20000 in
theorem ggX6_copy_X6_found : GoodIn wsX6_copy wsX6_found := goodIn_r _ [18, 3, 19, 20, 21, 22, 23, 24, 25, 26, 27, 28, 29, 30, 31, 32, 33, 34, 35, 36, 37, 38, 39, 40, 41, 42, 43, 44, 45, 46, 47, 48, 49] (by decide +kernel) (by decide +kernel)
set_option maxRecDepth 20000 in
theorem gX6_copy_X6_found : GoodIn wsX6_copy (wsV RX6 102 RX6 yX6_found wsX6_found) := goodIn_app (goodIn_of _ (by decide +kernel)) ggX6_copy_X6_found
theorem dX6_copy_0 : decode cX6_copy 0 = .ok (.aload_n 0, 1) := by decide +kernel
theorem dX6_copy_1 : decode cX6_copy 1 = .ok (.iconst 0, 1) := by decide +kernel
theorem dX6_copy_2 : decode cX6_copy 2 = .ok (.putfield 81, 3) := by decide +kernel
theorem dX6_copy_5 : decode cX6_copy 5 = .ok (.iload_n 1, 1) := by decide +kernel
theorem dX6_copy_6 : decode cX6_copy 6 = .ok (.invokestatic 95, 3) := by decide +kernel
theorem dX6_copy_9 : decode cX6_copy 9 = .ok (.ifCond .eq 10, 3) := by decide +kernel
theorem dX6_copy_12 : decode cX6_copy 12 = .ok (.iload_n 3, 1) := by decide +kernel
theorem dX6_copy_13 : decode cX6_copy 13 = .ok (.invokestatic 95, 3) := by decide +kernel
theorem dX6_copy_16 : decode cX6_copy 16 = .ok (.ifCond .ne 6, 3) := by decide +kernel
theorem dX6_copy_19 : decode cX6_copy 19 = .ok (.ldc 101, 2) := by decide +kernel
theorem dX6_copy_21 : decode cX6_copy 21 = .ok (.ireturn, 1) := by decide +kernel
theorem dX6_copy_22 : decode cX6_copy 22 = .ok (.aload_n 0, 1) := by decide +kernel
theorem dX6_copy_23 : decode cX6_copy 23 = .ok (.iconst 0, 1) := by decide +kernel
theorem dX6_copy_24 : decode cX6_copy 24 = .ok (.putfield 85, 3) := by decide +kernel
theorem dX6_copy_27 : decode cX6_copy 27 = .ok (.aload_n 0, 1) := by decide +kernel
theorem dX6_copy_28 : decode cX6_copy 28 = .ok (.getfield 7, 3) := by decide +kernel
theorem dX6_copy_31 : decode cX6_copy 31 = .ok (.iload_n 1, 1) := by decide +kernel
theorem dX6_copy_32 : decode cX6_copy 32 = .ok (.iaload, 1) := by decide +kernel
theorem dX6_copy_33 : decode cX6_copy 33 = .ok (.ifCond .lt 12, 3) := by decide +kernel
theorem dX6_copy_36 : decode cX6_copy 36 = .ok (.aload_n 0, 1) := by decide +kernel
theorem dX6_copy_37 : decode cX6_copy 37 = .ok (.getfield 7, 3) := by decide +kernel
theorem dX6_copy_40 : decode cX6_copy 40 = .ok (.iload_n 3, 1) := by decide +kernel
theorem dX6_copy_41 : decode cX6_copy 41 = .ok (.iaload, 1) := by decide +kernel
theorem dX6_copy_42 : decode cX6_copy 42 = .ok (.ifCond .ge 9, 3) := by decide +kernel
theorem dX6_copy_45 : decode cX6_copy 45 = .ok (.aload_n 0, 1) := by decide +kernel
theorem dX6_copy_46 : decode cX6_copy 46 = .ok (.iconst 1, 1) := by decide +kernel
theorem dX6_copy_47 : decode cX6_copy 47 = .ok (.invokevirtual 102, 3) := by decide +kernel
theorem dX6_copy_50 : decode cX6_copy 50 = .ok (.ireturn, 1) := by decide +kernel
theorem dX6_copy_51 : decode cX6_copy 51 = .ok (.aload_n 0, 1) := by decide +kernel
theorem dX6_copy_52 : decode cX6_copy 52 = .ok (.getfield 7, 3) := by decide +kernel
theorem dX6_copy_55 : decode cX6_copy 55 = .ok (.iload_n 1, 1) := by decide +kernel
theorem dX6_copy_56 : decode cX6_copy 56 = .ok (.iaload, 1) := by decide +kernel
theorem dX6_copy_57 : decode cX6_copy 57 = .ok (.aload_n 0, 1) := by decide +kernel
theorem dX6_copy_58 : decode cX6_copy 58 = .ok (.getfield 7, 3) := by decide +kernel
theorem dX6_copy_61 : decode cX6_copy 61 = .ok (.iload_n 3, 1) := by decide +kernel
theorem dX6_copy_62 : decode cX6_copy 62 = .ok (.iaload, 1) := by decide +kernel
theorem dX6_copy_63 : decode cX6_copy 63 = .ok (.if_icmp .eq 9, 3) := by decide +kernel
theorem dX6_copy_66 : decode cX6_copy 66 = .ok (.aload_n 0, 1) := by decide +kernel
theorem dX6_copy_67 : decode cX6_copy 67 = .ok (.iconst 5, 1) := by decide +kernel
theorem dX6_copy_68 : decode cX6_copy 68 = .ok (.invokevirtual 102, 3) := by decide +kernel
theorem dX6_copy_71 : decode cX6_copy 71 = .ok (.ireturn, 1) := by decide +kernel
theorem dX6_copy_72 : decode cX6_copy 72 = .ok (.iload_n 2, 1) := by decide +kernel
theorem dX6_copy_73 : decode cX6_copy 73 = .ok (.ifCond .lt 48, 3) := by decide +kernel
theorem dX6_copy_76 : decode cX6_copy 76 = .ok (.iload 4, 2) := by decide +kernel
theorem dX6_copy_78 : decode cX6_copy 78 = .ok (.ifCond .lt 43, 3) := by decide +kernel
theorem dX6_copy_81 : decode cX6_copy 81 = .ok (.iload 5, 2) := by decide +kernel
theorem dX6_copy_83 : decode cX6_copy 83 = .ok (.ifCond .lt 38, 3) := by decide +kernel
theorem dX6_copy_86 : decode cX6_copy 86 = .ok (.iload_n 2, 1) := by decide +kernel
theorem dX6_copy_87 : decode cX6_copy 87 = .ok (.i2l, 1) := by decide +kernel
theorem dX6_copy_88 : decode cX6_copy 88 = .ok (.iload 5, 2) := by decide +kernel
theorem dX6_copy_90 : decode cX6_copy 90 = .ok (.i2l, 1) := by decide +kernel
theorem dX6_copy_91 : decode cX6_copy 91 = .ok (.ladd, 1) := by decide +kernel
theorem dX6_copy_92 : decode cX6_copy 92 = .ok (.aload_n 0, 1) := by decide +kernel
theorem dX6_copy_93 : decode cX6_copy 93 = .ok (.getfield 13, 3) := by decide +kernel
theorem dX6_copy_96 : decode cX6_copy 96 = .ok (.iload_n 1, 1) := by decide +kernel
theorem dX6_copy_97 : decode cX6_copy 97 = .ok (.iaload, 1) := by decide +kernel
theorem dX6_copy_98 : decode cX6_copy 98 = .ok (.i2l, 1) := by decide +kernel
theorem dX6_copy_99 : decode cX6_copy 99 = .ok (.lcmp, 1) := by decide +kernel
theorem dX6_copy_100 : decode cX6_copy 100 = .ok (.ifCond .gt 21, 3) := by decide +kernel
theorem dX6_copy_103 : decode cX6_copy 103 = .ok (.iload 4, 2) := by decide +kernel
theorem dX6_copy_105 : decode cX6_copy 105 = .ok (.i2l, 1) := by decide +kernel
theorem dX6_copy_106 : decode cX6_copy 106 = .ok (.iload 5, 2) := by decide +kernel
theorem dX6_copy_108 : decode cX6_copy 108 = .ok (.i2l, 1) := by decide +kernel
theorem dX6_copy_109 : decode cX6_copy 109 = .ok (.ladd, 1) := by decide +kernel
theorem dX6_copy_110 : decode cX6_copy 110 = .ok (.aload_n 0, 1) := by decide +kernel
theorem dX6_copy_111 : decode cX6_copy 111 = .ok (.getfield 13, 3) := by decide +kernel
theorem dX6_copy_114 : decode cX6_copy 114 = .ok (.iload_n 3, 1) := by decide +kernel
theorem dX6_copy_115 : decode cX6_copy 115 = .ok (.iaload, 1) := by decide +kernel
theorem dX6_copy_116 : decode cX6_copy 116 = .ok (.i2l, 1) := by decide +kernel
theorem dX6_copy_117 : decode cX6_copy 117 = .ok (.lcmp, 1) := by decide +kernel
theorem dX6_copy_118 : decode cX6_copy 118 = .ok (.ifCond .le 9, 3) := by decide +kernel
theorem dX6_copy_121 : decode cX6_copy 121 = .ok (.aload_n 0, 1) := by decide +kernel
theorem dX6_copy_122 : decode cX6_copy 122 = .ok (.iconst 2, 1) := by decide +kernel
theorem dX6_copy_123 : decode cX6_copy 123 = .ok (.invokevirtual 102, 3) := by decide +kernel
theorem dX6_copy_126 : decode cX6_copy 126 = .ok (.ireturn, 1) := by decide +kernel
theorem dX6_copy_127 : decode cX6_copy 127 = .ok (.iload_n 2, 1) := by decide +kernel
theorem dX6_copy_128 : decode cX6_copy 128 = .ok (.iload 4, 2) := by decide +kernel
theorem dX6_copy_130 : decode cX6_copy 130 = .ok (.if_icmp .lt 7, 3) := by decide +kernel
theorem dX6_copy_133 : decode cX6_copy 133 = .ok (.iconst 1, 1) := by decide +kernel
theorem dX6_copy_134 : decode cX6_copy 134 = .ok (.goto 4, 3) := by decide +kernel
theorem dX6_copy_137 : decode cX6_copy 137 = .ok (.iconst 0, 1) := by decide +kernel
theorem dX6_copy_138 : decode cX6_copy 138 = .ok (.istore 6, 2) := by decide +kernel
theorem dX6_copy_140 : decode cX6_copy 140 = .ok (.iconst 0, 1) := by decide +kernel
theorem dX6_copy_141 : decode cX6_copy 141 = .ok (.istore 7, 2) := by decide +kernel
theorem dX6_copy_143 : decode cX6_copy 143 = .ok (.iload 7, 2) := by decide +kernel
theorem dX6_copy_145 : decode cX6_copy 145 = .ok (.iload 5, 2) := by decide +kernel
theorem dX6_copy_147 : decode cX6_copy 147 = .ok (.if_icmp .ge 57, 3) := by decide +kernel
theorem dX6_copy_150 : decode cX6_copy 150 = .ok (.iload 6, 2) := by decide +kernel
theorem dX6_copy_152 : decode cX6_copy 152 = .ok (.ifCond .eq 8, 3) := by decide +kernel
theorem dX6_copy_155 : decode cX6_copy 155 = .ok (.iload 7, 2) := by decide +kernel
theorem dX6_copy_157 : decode cX6_copy 157 = .ok (.goto 10, 3) := by decide +kernel
theorem dX6_copy_160 : decode cX6_copy 160 = .ok (.iload 5, 2) := by decide +kernel
theorem dX6_copy_162 : decode cX6_copy 162 = .ok (.iconst 1, 1) := by decide +kernel
theorem dX6_copy_163 : decode cX6_copy 163 = .ok (.isub, 1) := by decide +kernel
theorem dX6_copy_164 : decode cX6_copy 164 = .ok (.iload 7, 2) := by decide +kernel
theorem dX6_copy_166 : decode cX6_copy 166 = .ok (.isub, 1) := by decide +kernel
theorem dX6_copy_167 : decode cX6_copy 167 = .ok (.istore 8, 2) := by decide +kernel
theorem dX6_copy_169 : decode cX6_copy 169 = .ok (.aload_n 0, 1) := by decide +kernel
theorem dX6_copy_170 : decode cX6_copy 170 = .ok (.getfield 16, 3) := by decide +kernel
theorem dX6_copy_173 : decode cX6_copy 173 = .ok (.bipush 64, 2) := by decide +kernel
theorem dX6_copy_175 : decode cX6_copy 175 = .ok (.iload_n 3, 1) := by decide +kernel
theorem dX6_copy_176 : decode cX6_copy 176 = .ok (.imul, 1) := by decide +kernel
theorem dX6_copy_177 : decode cX6_copy 177 = .ok (.iload 4, 2) := by decide +kernel
theorem dX6_copy_179 : decode cX6_copy 179 = .ok (.iadd, 1) := by decide +kernel
theorem dX6_copy_180 : decode cX6_copy 180 = .ok (.iload 8, 2) := by decide +kernel
theorem dX6_copy_182 : decode cX6_copy 182 = .ok (.iadd, 1) := by decide +kernel
theorem dX6_copy_183 : decode cX6_copy 183 = .ok (.aload_n 0, 1) := by decide +kernel
theorem dX6_copy_184 : decode cX6_copy 184 = .ok (.getfield 16, 3) := by decide +kernel
theorem dX6_copy_187 : decode cX6_copy 187 = .ok (.bipush 64, 2) := by decide +kernel
theorem dX6_copy_189 : decode cX6_copy 189 = .ok (.iload_n 1, 1) := by decide +kernel
theorem dX6_copy_190 : decode cX6_copy 190 = .ok (.imul, 1) := by decide +kernel
theorem dX6_copy_191 : decode cX6_copy 191 = .ok (.iload_n 2, 1) := by decide +kernel
theorem dX6_copy_192 : decode cX6_copy 192 = .ok (.iadd, 1) := by decide +kernel
theorem dX6_copy_193 : decode cX6_copy 193 = .ok (.iload 8, 2) := by decide +kernel
theorem dX6_copy_195 : decode cX6_copy 195 = .ok (.iadd, 1) := by decide +kernel
theorem dX6_copy_196 : decode cX6_copy 196 = .ok (.iaload, 1) := by decide +kernel
theorem dX6_copy_197 : decode cX6_copy 197 = .ok (.iastore, 1) := by decide +kernel
theorem dX6_copy_198 : decode cX6_copy 198 = .ok (.iinc 7 1, 3) := by decide +kernel
theorem dX6_copy_201 : decode cX6_copy 201 = .ok (.goto (-58), 3) := by decide +kernel
theorem dX6_copy_204 : decode cX6_copy 204 = .ok (.iload 5, 2) := by decide +kernel
theorem dX6_copy_206 : decode cX6_copy 206 = .ok (.ireturn, 1) := by decide +kernel
set_option maxRecDepth 20000 in
theorem ggX6_drop_X6_isSheet : GoodIn wsX6_drop wsX6_isSheet := goodIn_r _ [9, 10, 11, 12, 8, 13] (by decide +kernel) (by decide +kernel)
set_option maxRecDepth 20000 in
theorem gX6_drop_X6_isSheet : GoodIn wsX6_drop (va_wsS RX6 95 yX6_isSheet wsX6_isSheet) := goodIn_app (goodIn_of _ (by decide +kernel)) ggX6_drop_X6_isSheet
set_option maxRecDepth 20000 in
theorem ggX6_drop_X6_found : GoodIn wsX6_drop wsX6_found := goodIn_r _ [17, 3, 18, 19, 20, 21, 22, 23, 24, 25, 26, 27, 28, 29, 30, 31, 32, 33, 34, 35, 36, 37, 38, 39, 40, 41, 42, 43, 44, 45, 46, 47, 48] (by decide +kernel) (by decide +kernel)
set_option maxRecDepth 20000 in
theorem gX6_drop_X6_found : GoodIn wsX6_drop (wsV RX6 102 RX6 yX6_found wsX6_found) := goodIn_app (goodIn_of _ (by decide +kernel)) ggX6_drop_X6_found
theorem dX6_drop_0 : decode cX6_drop 0 = .ok (.aload_n 0, 1) := by decide +kernel
theorem dX6_drop_1 : decode cX6_drop 1 = .ok (.iconst 0, 1) := by decide +kernel
theorem dX6_drop_2 : decode cX6_drop 2 = .ok (.putfield 81, 3) := by decide +kernel
theorem dX6_drop_5 : decode cX6_drop 5 = .ok (.iload_n 1, 1) := by decide +kernel
theorem dX6_drop_6 : decode cX6_drop 6 = .ok (.invokestatic 95, 3) := by decide +kernel
theorem dX6_drop_9 : decode cX6_drop 9 = .ok (.ifCond .ne 6, 3) := by decide +kernel
theorem dX6_drop_12 : decode cX6_drop 12 = .ok (.ldc 101, 2) := by decide +kernel
theorem dX6_drop_14 : decode cX6_drop 14 = .ok (.ireturn, 1) := by decide +kernel
theorem dX6_drop_15 : decode cX6_drop 15 = .ok (.aload_n 0, 1) := by decide +kernel
theorem dX6_drop_16 : decode cX6_drop 16 = .ok (.iconst 0, 1) := by decide +kernel
theorem dX6_drop_17 : decode cX6_drop 17 = .ok (.putfield 85, 3) := by decide +kernel
theorem dX6_drop_20 : decode cX6_drop 20 = .ok (.aload_n 0, 1) := by decide +kernel
theorem dX6_drop_21 : decode cX6_drop 21 = .ok (.getfield 7, 3) := by decide +kernel
theorem dX6_drop_24 : decode cX6_drop 24 = .ok (.iload_n 1, 1) := by decide +kernel
theorem dX6_drop_25 : decode cX6_drop 25 = .ok (.iaload, 1) := by decide +kernel
theorem dX6_drop_26 : decode cX6_drop 26 = .ok (.ifCond .ge 9, 3) := by decide +kernel
theorem dX6_drop_29 : decode cX6_drop 29 = .ok (.aload_n 0, 1) := by decide +kernel
theorem dX6_drop_30 : decode cX6_drop 30 = .ok (.iconst 1, 1) := by decide +kernel
theorem dX6_drop_31 : decode cX6_drop 31 = .ok (.invokevirtual 102, 3) := by decide +kernel
theorem dX6_drop_34 : decode cX6_drop 34 = .ok (.ireturn, 1) := by decide +kernel
theorem dX6_drop_35 : decode cX6_drop 35 = .ok (.aload_n 0, 1) := by decide +kernel
theorem dX6_drop_36 : decode cX6_drop 36 = .ok (.getfield 7, 3) := by decide +kernel
theorem dX6_drop_39 : decode cX6_drop 39 = .ok (.iload_n 1, 1) := by decide +kernel
theorem dX6_drop_40 : decode cX6_drop 40 = .ok (.iconst (-1), 1) := by decide +kernel
theorem dX6_drop_41 : decode cX6_drop 41 = .ok (.iastore, 1) := by decide +kernel
theorem dX6_drop_42 : decode cX6_drop 42 = .ok (.aload_n 0, 1) := by decide +kernel
theorem dX6_drop_43 : decode cX6_drop 43 = .ok (.getfield 13, 3) := by decide +kernel
theorem dX6_drop_46 : decode cX6_drop 46 = .ok (.iload_n 1, 1) := by decide +kernel
theorem dX6_drop_47 : decode cX6_drop 47 = .ok (.iaload, 1) := by decide +kernel
theorem dX6_drop_48 : decode cX6_drop 48 = .ok (.ireturn, 1) := by decide +kernel
set_option maxRecDepth 20000 in
theorem ggX6_isPlace_X6_in : GoodIn wsX6_isPlace wsX6_in := goodIn_r _ [5] (by decide +kernel) (by decide +kernel)
set_option maxRecDepth 20000 in
theorem gX6_isPlace_X6_in : GoodIn wsX6_isPlace (va_wsS RX6 91 yX6_in wsX6_in) := goodIn_app (goodIn_of _ (by decide +kernel)) ggX6_isPlace_X6_in
theorem dX6_isPlace_0 : decode cX6_isPlace 0 = .ok (.iload_n 0, 1) := by decide +kernel
theorem dX6_isPlace_1 : decode cX6_isPlace 1 = .ok (.i2l, 1) := by decide +kernel
theorem dX6_isPlace_2 : decode cX6_isPlace 2 = .ok (.lconst 0, 1) := by decide +kernel
theorem dX6_isPlace_3 : decode cX6_isPlace 3 = .ok (.ldc2_w 106, 3) := by decide +kernel
theorem dX6_isPlace_6 : decode cX6_isPlace 6 = .ok (.invokestatic 91, 3) := by decide +kernel
theorem dX6_isPlace_9 : decode cX6_isPlace 9 = .ok (.ireturn, 1) := by decide +kernel
theorem dX6_alive_0 : decode cX6_alive 0 = .ok (.iconst 0, 1) := by decide +kernel
theorem dX6_alive_1 : decode cX6_alive 1 = .ok (.istore_n 2, 1) := by decide +kernel
theorem dX6_alive_2 : decode cX6_alive 2 = .ok (.iconst 0, 1) := by decide +kernel
theorem dX6_alive_3 : decode cX6_alive 3 = .ok (.istore_n 3, 1) := by decide +kernel
theorem dX6_alive_4 : decode cX6_alive 4 = .ok (.iload_n 3, 1) := by decide +kernel
theorem dX6_alive_5 : decode cX6_alive 5 = .ok (.aload_n 0, 1) := by decide +kernel
theorem dX6_alive_6 : decode cX6_alive 6 = .ok (.getfield 19, 3) := by decide +kernel
theorem dX6_alive_9 : decode cX6_alive 9 = .ok (.iload_n 1, 1) := by decide +kernel
theorem dX6_alive_10 : decode cX6_alive 10 = .ok (.iaload, 1) := by decide +kernel
theorem dX6_alive_11 : decode cX6_alive 11 = .ok (.if_icmp .ge 31, 3) := by decide +kernel
theorem dX6_alive_14 : decode cX6_alive 14 = .ok (.iload_n 2, 1) := by decide +kernel
theorem dX6_alive_15 : decode cX6_alive 15 = .ok (.aload_n 0, 1) := by decide +kernel
theorem dX6_alive_16 : decode cX6_alive 16 = .ok (.getfield 28, 3) := by decide +kernel
theorem dX6_alive_19 : decode cX6_alive 19 = .ok (.bipush 12, 2) := by decide +kernel
theorem dX6_alive_21 : decode cX6_alive 21 = .ok (.iload_n 1, 1) := by decide +kernel
theorem dX6_alive_22 : decode cX6_alive 22 = .ok (.imul, 1) := by decide +kernel
theorem dX6_alive_23 : decode cX6_alive 23 = .ok (.iload_n 3, 1) := by decide +kernel
theorem dX6_alive_24 : decode cX6_alive 24 = .ok (.iadd, 1) := by decide +kernel
theorem dX6_alive_25 : decode cX6_alive 25 = .ok (.baload, 1) := by decide +kernel
theorem dX6_alive_26 : decode cX6_alive 26 = .ok (.ifCond .eq 7, 3) := by decide +kernel
theorem dX6_alive_29 : decode cX6_alive 29 = .ok (.iconst 0, 1) := by decide +kernel
theorem dX6_alive_30 : decode cX6_alive 30 = .ok (.goto 4, 3) := by decide +kernel
theorem dX6_alive_33 : decode cX6_alive 33 = .ok (.iconst 1, 1) := by decide +kernel
theorem dX6_alive_34 : decode cX6_alive 34 = .ok (.iadd, 1) := by decide +kernel
theorem dX6_alive_35 : decode cX6_alive 35 = .ok (.istore_n 2, 1) := by decide +kernel
theorem dX6_alive_36 : decode cX6_alive 36 = .ok (.iinc 3 1, 3) := by decide +kernel
theorem dX6_alive_39 : decode cX6_alive 39 = .ok (.goto (-35), 3) := by decide +kernel
theorem dX6_alive_42 : decode cX6_alive 42 = .ok (.iload_n 2, 1) := by decide +kernel
theorem dX6_alive_43 : decode cX6_alive 43 = .ok (.ireturn, 1) := by decide +kernel
set_option maxRecDepth 20000 in
theorem ggX6_kindOf_X6_alive : GoodIn wsX6_kindOf wsX6_alive := goodIn_r _ [6, 7, 8, 9, 10, 11, 12, 13, 14, 15, 16, 17, 18, 19, 20, 21, 22, 23, 24, 25, 26, 27, 28, 29, 30, 31, 32, 33, 34, 35, 36, 37, 38] (by decide +kernel) (by decide +kernel)
set_option maxRecDepth 20000 in
theorem gX6_kindOf_X6_alive : GoodIn wsX6_kindOf (wsV RX6 108 RX6 yX6_alive wsX6_alive) := goodIn_app (goodIn_of _ (by decide +kernel)) ggX6_kindOf_X6_alive
theorem dX6_kindOf_0 : decode cX6_kindOf 0 = .ok (.aload_n 0, 1) := by decide +kernel
theorem dX6_kindOf_1 : decode cX6_kindOf 1 = .ok (.iload_n 1, 1) := by decide +kernel
theorem dX6_kindOf_2 : decode cX6_kindOf 2 = .ok (.invokevirtual 108, 3) := by decide +kernel
theorem dX6_kindOf_5 : decode cX6_kindOf 5 = .ok (.istore_n 2, 1) := by decide +kernel
theorem dX6_kindOf_6 : decode cX6_kindOf 6 = .ok (.iload_n 2, 1) := by decide +kernel
theorem dX6_kindOf_7 : decode cX6_kindOf 7 = .ok (.iconst 2, 1) := by decide +kernel
theorem dX6_kindOf_8 : decode cX6_kindOf 8 = .ok (.aload_n 0, 1) := by decide +kernel
theorem dX6_kindOf_9 : decode cX6_kindOf 9 = .ok (.getfield 22, 3) := by decide +kernel
theorem dX6_kindOf_12 : decode cX6_kindOf 12 = .ok (.iload_n 1, 1) := by decide +kernel
theorem dX6_kindOf_13 : decode cX6_kindOf 13 = .ok (.iaload, 1) := by decide +kernel
theorem dX6_kindOf_14 : decode cX6_kindOf 14 = .ok (.imul, 1) := by decide +kernel
theorem dX6_kindOf_15 : decode cX6_kindOf 15 = .ok (.iconst 1, 1) := by decide +kernel
theorem dX6_kindOf_16 : decode cX6_kindOf 16 = .ok (.isub, 1) := by decide +kernel
theorem dX6_kindOf_17 : decode cX6_kindOf 17 = .ok (.if_icmp .lt 7, 3) := by decide +kernel
theorem dX6_kindOf_20 : decode cX6_kindOf 20 = .ok (.iconst 2, 1) := by decide +kernel
theorem dX6_kindOf_21 : decode cX6_kindOf 21 = .ok (.goto 27, 3) := by decide +kernel
theorem dX6_kindOf_24 : decode cX6_kindOf 24 = .ok (.iload_n 2, 1) := by decide +kernel
theorem dX6_kindOf_25 : decode cX6_kindOf 25 = .ok (.aload_n 0, 1) := by decide +kernel
theorem dX6_kindOf_26 : decode cX6_kindOf 26 = .ok (.getfield 22, 3) := by decide +kernel
theorem dX6_kindOf_29 : decode cX6_kindOf 29 = .ok (.iload_n 1, 1) := by decide +kernel
theorem dX6_kindOf_30 : decode cX6_kindOf 30 = .ok (.iaload, 1) := by decide +kernel
theorem dX6_kindOf_31 : decode cX6_kindOf 31 = .ok (.if_icmp .lt 7, 3) := by decide +kernel
theorem dX6_kindOf_34 : decode cX6_kindOf 34 = .ok (.iconst 1, 1) := by decide +kernel
theorem dX6_kindOf_35 : decode cX6_kindOf 35 = .ok (.goto 13, 3) := by decide +kernel
theorem dX6_kindOf_38 : decode cX6_kindOf 38 = .ok (.iload_n 2, 1) := by decide +kernel
theorem dX6_kindOf_39 : decode cX6_kindOf 39 = .ok (.iconst 1, 1) := by decide +kernel
theorem dX6_kindOf_40 : decode cX6_kindOf 40 = .ok (.if_icmp .ne 7, 3) := by decide +kernel
theorem dX6_kindOf_43 : decode cX6_kindOf 43 = .ok (.iconst 3, 1) := by decide +kernel
theorem dX6_kindOf_44 : decode cX6_kindOf 44 = .ok (.goto 4, 3) := by decide +kernel
theorem dX6_kindOf_47 : decode cX6_kindOf 47 = .ok (.iconst 0, 1) := by decide +kernel
theorem dX6_kindOf_48 : decode cX6_kindOf 48 = .ok (.ireturn, 1) := by decide +kernel
set_option maxRecDepth 20000 in
theorem ggX6_net_X6_isPlace : GoodIn wsX6_net wsX6_isPlace := goodIn_r _ [16, 17, 18, 19, 15, 20] (by decide +kernel) (by decide +kernel)
set_option maxRecDepth 20000 in
theorem gX6_net_X6_isPlace : GoodIn wsX6_net (va_wsS RX6 111 yX6_isPlace wsX6_isPlace) := goodIn_app (goodIn_of _ (by decide +kernel)) ggX6_net_X6_isPlace
set_option maxRecDepth 20000 in
theorem ggX6_net_X6_in : GoodIn wsX6_net wsX6_in := goodIn_r _ [20] (by decide +kernel) (by decide +kernel)
set_option maxRecDepth 20000 in
theorem gX6_net_X6_in : GoodIn wsX6_net (va_wsS RX6 91 yX6_in wsX6_in) := goodIn_app (goodIn_of _ (by decide +kernel)) ggX6_net_X6_in
set_option maxRecDepth 20000 in
theorem ggX6_net_X6_kindOf : GoodIn wsX6_net wsX6_kindOf := goodIn_r _ [24, 7, 25, 26, 27, 15, 28, 6, 9, 29, 30, 31, 32, 33, 34, 35, 36, 37, 38, 39, 40, 41, 42, 43, 44, 45, 46, 47, 48, 49, 50, 51, 52, 53, 54, 55, 56, 57, 58] (by decide +kernel) (by decide +kernel)
set_option maxRecDepth 20000 in
theorem gX6_net_X6_kindOf : GoodIn wsX6_net (wsV RX6 119 RX6 yX6_kindOf wsX6_kindOf) := goodIn_app (goodIn_of _ (by decide +kernel)) ggX6_net_X6_kindOf
theorem dX6_net_0 : decode cX6_net 0 = .ok (.aload_n 0, 1) := by decide +kernel
theorem dX6_net_1 : decode cX6_net 1 = .ok (.iconst 0, 1) := by decide +kernel
theorem dX6_net_2 : decode cX6_net 2 = .ok (.putfield 81, 3) := by decide +kernel
theorem dX6_net_5 : decode cX6_net 5 = .ok (.iload_n 1, 1) := by decide +kernel
theorem dX6_net_6 : decode cX6_net 6 = .ok (.invokestatic 111, 3) := by decide +kernel
theorem dX6_net_9 : decode cX6_net 9 = .ok (.ifCond .eq 40, 3) := by decide +kernel
theorem dX6_net_12 : decode cX6_net 12 = .ok (.iload_n 2, 1) := by decide +kernel
theorem dX6_net_13 : decode cX6_net 13 = .ok (.i2l, 1) := by decide +kernel
theorem dX6_net_14 : decode cX6_net 14 = .ok (.lconst 1, 1) := by decide +kernel
theorem dX6_net_15 : decode cX6_net 15 = .ok (.ldc2_w 114, 3) := by decide +kernel
theorem dX6_net_18 : decode cX6_net 18 = .ok (.invokestatic 91, 3) := by decide +kernel
theorem dX6_net_21 : decode cX6_net 21 = .ok (.ifCond .eq 28, 3) := by decide +kernel
theorem dX6_net_24 : decode cX6_net 24 = .ok (.iload_n 3, 1) := by decide +kernel
theorem dX6_net_25 : decode cX6_net 25 = .ok (.i2l, 1) := by decide +kernel
theorem dX6_net_26 : decode cX6_net 26 = .ok (.lconst 1, 1) := by decide +kernel
theorem dX6_net_27 : decode cX6_net 27 = .ok (.ldc2_w 116, 3) := by decide +kernel
theorem dX6_net_30 : decode cX6_net 30 = .ok (.invokestatic 91, 3) := by decide +kernel
theorem dX6_net_33 : decode cX6_net 33 = .ok (.ifCond .eq 16, 3) := by decide +kernel
theorem dX6_net_36 : decode cX6_net 36 = .ok (.iload 4, 2) := by decide +kernel
theorem dX6_net_38 : decode cX6_net 38 = .ok (.i2l, 1) := by decide +kernel
theorem dX6_net_39 : decode cX6_net 39 = .ok (.lconst 1, 1) := by decide +kernel
theorem dX6_net_40 : decode cX6_net 40 = .ok (.ldc2_w 116, 3) := by decide +kernel
theorem dX6_net_43 : decode cX6_net 43 = .ok (.invokestatic 91, 3) := by decide +kernel
theorem dX6_net_46 : decode cX6_net 46 = .ok (.ifCond .ne 6, 3) := by decide +kernel
theorem dX6_net_49 : decode cX6_net 49 = .ok (.ldc 101, 2) := by decide +kernel
theorem dX6_net_51 : decode cX6_net 51 = .ok (.ireturn, 1) := by decide +kernel
theorem dX6_net_52 : decode cX6_net 52 = .ok (.aload_n 0, 1) := by decide +kernel
theorem dX6_net_53 : decode cX6_net 53 = .ok (.iconst 0, 1) := by decide +kernel
theorem dX6_net_54 : decode cX6_net 54 = .ok (.putfield 85, 3) := by decide +kernel
theorem dX6_net_57 : decode cX6_net 57 = .ok (.aload_n 0, 1) := by decide +kernel
theorem dX6_net_58 : decode cX6_net 58 = .ok (.getfield 19, 3) := by decide +kernel
theorem dX6_net_61 : decode cX6_net 61 = .ok (.iload_n 1, 1) := by decide +kernel
theorem dX6_net_62 : decode cX6_net 62 = .ok (.iload_n 2, 1) := by decide +kernel
theorem dX6_net_63 : decode cX6_net 63 = .ok (.iastore, 1) := by decide +kernel
theorem dX6_net_64 : decode cX6_net 64 = .ok (.aload_n 0, 1) := by decide +kernel
theorem dX6_net_65 : decode cX6_net 65 = .ok (.getfield 22, 3) := by decide +kernel
theorem dX6_net_68 : decode cX6_net 68 = .ok (.iload_n 1, 1) := by decide +kernel
theorem dX6_net_69 : decode cX6_net 69 = .ok (.iload_n 3, 1) := by decide +kernel
theorem dX6_net_70 : decode cX6_net 70 = .ok (.iastore, 1) := by decide +kernel
theorem dX6_net_71 : decode cX6_net 71 = .ok (.aload_n 0, 1) := by decide +kernel
theorem dX6_net_72 : decode cX6_net 72 = .ok (.getfield 25, 3) := by decide +kernel
theorem dX6_net_75 : decode cX6_net 75 = .ok (.iload_n 1, 1) := by decide +kernel
theorem dX6_net_76 : decode cX6_net 76 = .ok (.iload 4, 2) := by decide +kernel
theorem dX6_net_78 : decode cX6_net 78 = .ok (.iastore, 1) := by decide +kernel
theorem dX6_net_79 : decode cX6_net 79 = .ok (.iconst 0, 1) := by decide +kernel
theorem dX6_net_80 : decode cX6_net 80 = .ok (.istore 5, 2) := by decide +kernel
theorem dX6_net_82 : decode cX6_net 82 = .ok (.iload 5, 2) := by decide +kernel
theorem dX6_net_84 : decode cX6_net 84 = .ok (.bipush 12, 2) := by decide +kernel
theorem dX6_net_86 : decode cX6_net 86 = .ok (.if_icmp .ge 22, 3) := by decide +kernel
theorem dX6_net_89 : decode cX6_net 89 = .ok (.aload_n 0, 1) := by decide +kernel
theorem dX6_net_90 : decode cX6_net 90 = .ok (.getfield 28, 3) := by decide +kernel
theorem dX6_net_93 : decode cX6_net 93 = .ok (.bipush 12, 2) := by decide +kernel
theorem dX6_net_95 : decode cX6_net 95 = .ok (.iload_n 1, 1) := by decide +kernel
theorem dX6_net_96 : decode cX6_net 96 = .ok (.imul, 1) := by decide +kernel
theorem dX6_net_97 : decode cX6_net 97 = .ok (.iload 5, 2) := by decide +kernel
theorem dX6_net_99 : decode cX6_net 99 = .ok (.iadd, 1) := by decide +kernel
theorem dX6_net_100 : decode cX6_net 100 = .ok (.iconst 0, 1) := by decide +kernel
theorem dX6_net_101 : decode cX6_net 101 = .ok (.bastore, 1) := by decide +kernel
theorem dX6_net_102 : decode cX6_net 102 = .ok (.iinc 5 1, 3) := by decide +kernel
theorem dX6_net_105 : decode cX6_net 105 = .ok (.goto (-23), 3) := by decide +kernel
theorem dX6_net_108 : decode cX6_net 108 = .ok (.iconst 0, 1) := by decide +kernel
theorem dX6_net_109 : decode cX6_net 109 = .ok (.istore 5, 2) := by decide +kernel
theorem dX6_net_111 : decode cX6_net 111 = .ok (.iload 5, 2) := by decide +kernel
theorem dX6_net_113 : decode cX6_net 113 = .ok (.bipush 36, 2) := by decide +kernel
theorem dX6_net_115 : decode cX6_net 115 = .ok (.if_icmp .ge 37, 3) := by decide +kernel
theorem dX6_net_118 : decode cX6_net 118 = .ok (.aload_n 0, 1) := by decide +kernel
theorem dX6_net_119 : decode cX6_net 119 = .ok (.getfield 32, 3) := by decide +kernel
theorem dX6_net_122 : decode cX6_net 122 = .ok (.bipush 36, 2) := by decide +kernel
theorem dX6_net_124 : decode cX6_net 124 = .ok (.iload_n 1, 1) := by decide +kernel
theorem dX6_net_125 : decode cX6_net 125 = .ok (.imul, 1) := by decide +kernel
theorem dX6_net_126 : decode cX6_net 126 = .ok (.iload 5, 2) := by decide +kernel
theorem dX6_net_128 : decode cX6_net 128 = .ok (.iadd, 1) := by decide +kernel
theorem dX6_net_129 : decode cX6_net 129 = .ok (.ldc 118, 2) := by decide +kernel
theorem dX6_net_131 : decode cX6_net 131 = .ok (.iastore, 1) := by decide +kernel
theorem dX6_net_132 : decode cX6_net 132 = .ok (.aload_n 0, 1) := by decide +kernel
theorem dX6_net_133 : decode cX6_net 133 = .ok (.getfield 35, 3) := by decide +kernel
theorem dX6_net_136 : decode cX6_net 136 = .ok (.bipush 36, 2) := by decide +kernel
theorem dX6_net_138 : decode cX6_net 138 = .ok (.iload_n 1, 1) := by decide +kernel
theorem dX6_net_139 : decode cX6_net 139 = .ok (.imul, 1) := by decide +kernel
theorem dX6_net_140 : decode cX6_net 140 = .ok (.iload 5, 2) := by decide +kernel
theorem dX6_net_142 : decode cX6_net 142 = .ok (.iadd, 1) := by decide +kernel
theorem dX6_net_143 : decode cX6_net 143 = .ok (.ldc 118, 2) := by decide +kernel
theorem dX6_net_145 : decode cX6_net 145 = .ok (.iastore, 1) := by decide +kernel
theorem dX6_net_146 : decode cX6_net 146 = .ok (.iinc 5 1, 3) := by decide +kernel
theorem dX6_net_149 : decode cX6_net 149 = .ok (.goto (-38), 3) := by decide +kernel
theorem dX6_net_152 : decode cX6_net 152 = .ok (.aload_n 0, 1) := by decide +kernel
theorem dX6_net_153 : decode cX6_net 153 = .ok (.iload_n 1, 1) := by decide +kernel
theorem dX6_net_154 : decode cX6_net 154 = .ok (.invokevirtual 119, 3) := by decide +kernel
theorem dX6_net_157 : decode cX6_net 157 = .ok (.ireturn, 1) := by decide +kernel
set_option maxRecDepth 20000 in
theorem ggX6_clear_X6_isPlace : GoodIn wsX6_clear wsX6_isPlace := goodIn_r _ [7, 8, 9, 10, 6, 11] (by decide +kernel) (by decide +kernel)
set_option maxRecDepth 20000 in
theorem gX6_clear_X6_isPlace : GoodIn wsX6_clear (va_wsS RX6 111 yX6_isPlace wsX6_isPlace) := goodIn_app (goodIn_of _ (by decide +kernel)) ggX6_clear_X6_isPlace
theorem dX6_clear_0 : decode cX6_clear 0 = .ok (.aload_n 0, 1) := by decide +kernel
theorem dX6_clear_1 : decode cX6_clear 1 = .ok (.iconst 0, 1) := by decide +kernel
theorem dX6_clear_2 : decode cX6_clear 2 = .ok (.putfield 81, 3) := by decide +kernel
theorem dX6_clear_5 : decode cX6_clear 5 = .ok (.iload_n 1, 1) := by decide +kernel
theorem dX6_clear_6 : decode cX6_clear 6 = .ok (.invokestatic 111, 3) := by decide +kernel
theorem dX6_clear_9 : decode cX6_clear 9 = .ok (.ifCond .ne 6, 3) := by decide +kernel
theorem dX6_clear_12 : decode cX6_clear 12 = .ok (.ldc 101, 2) := by decide +kernel
theorem dX6_clear_14 : decode cX6_clear 14 = .ok (.ireturn, 1) := by decide +kernel
theorem dX6_clear_15 : decode cX6_clear 15 = .ok (.aload_n 0, 1) := by decide +kernel
theorem dX6_clear_16 : decode cX6_clear 16 = .ok (.getfield 19, 3) := by decide +kernel
theorem dX6_clear_19 : decode cX6_clear 19 = .ok (.iload_n 1, 1) := by decide +kernel
theorem dX6_clear_20 : decode cX6_clear 20 = .ok (.iaload, 1) := by decide +kernel
theorem dX6_clear_21 : decode cX6_clear 21 = .ok (.ifCond .le 7, 3) := by decide +kernel
theorem dX6_clear_24 : decode cX6_clear 24 = .ok (.iconst 1, 1) := by decide +kernel
theorem dX6_clear_25 : decode cX6_clear 25 = .ok (.goto 4, 3) := by decide +kernel
theorem dX6_clear_28 : decode cX6_clear 28 = .ok (.iconst 0, 1) := by decide +kernel
theorem dX6_clear_29 : decode cX6_clear 29 = .ok (.istore_n 2, 1) := by decide +kernel
theorem dX6_clear_30 : decode cX6_clear 30 = .ok (.aload_n 0, 1) := by decide +kernel
theorem dX6_clear_31 : decode cX6_clear 31 = .ok (.getfield 19, 3) := by decide +kernel
theorem dX6_clear_34 : decode cX6_clear 34 = .ok (.iload_n 1, 1) := by decide +kernel
theorem dX6_clear_35 : decode cX6_clear 35 = .ok (.iconst 0, 1) := by decide +kernel
theorem dX6_clear_36 : decode cX6_clear 36 = .ok (.iastore, 1) := by decide +kernel
theorem dX6_clear_37 : decode cX6_clear 37 = .ok (.iload_n 2, 1) := by decide +kernel
theorem dX6_clear_38 : decode cX6_clear 38 = .ok (.ifCond .eq 7, 3) := by decide +kernel
theorem dX6_clear_41 : decode cX6_clear 41 = .ok (.iconst 1, 1) := by decide +kernel
theorem dX6_clear_42 : decode cX6_clear 42 = .ok (.goto 4, 3) := by decide +kernel
theorem dX6_clear_45 : decode cX6_clear 45 = .ok (.iconst 0, 1) := by decide +kernel
theorem dX6_clear_46 : decode cX6_clear 46 = .ok (.ireturn, 1) := by decide +kernel
set_option maxRecDepth 20000 in
theorem ggX6_look_X6_found : GoodIn wsX6_look wsX6_found := goodIn_r _ [7, 1, 8, 9, 10, 11, 12, 13, 14, 15, 16, 17, 18, 19, 20, 21, 22, 23, 24, 25, 26, 27, 28, 29, 30, 31, 32, 33, 34, 35, 36, 37, 38] (by decide +kernel) (by decide +kernel)
set_option maxRecDepth 20000 in
theorem gX6_look_X6_found : GoodIn wsX6_look (wsV RX6 102 RX6 yX6_found wsX6_found) := goodIn_app (goodIn_of _ (by decide +kernel)) ggX6_look_X6_found
theorem dX6_look_0 : decode cX6_look 0 = .ok (.aload_n 0, 1) := by decide +kernel
theorem dX6_look_1 : decode cX6_look 1 = .ok (.iconst 0, 1) := by decide +kernel
theorem dX6_look_2 : decode cX6_look 2 = .ok (.putfield 85, 3) := by decide +kernel
theorem dX6_look_5 : decode cX6_look 5 = .ok (.aload_n 0, 1) := by decide +kernel
theorem dX6_look_6 : decode cX6_look 6 = .ok (.getfield 19, 3) := by decide +kernel
theorem dX6_look_9 : decode cX6_look 9 = .ok (.iload_n 1, 1) := by decide +kernel
theorem dX6_look_10 : decode cX6_look 10 = .ok (.iaload, 1) := by decide +kernel
theorem dX6_look_11 : decode cX6_look 11 = .ok (.ifCond .ne 11, 3) := by decide +kernel
theorem dX6_look_14 : decode cX6_look 14 = .ok (.aload_n 0, 1) := by decide +kernel
theorem dX6_look_15 : decode cX6_look 15 = .ok (.iconst 1, 1) := by decide +kernel
theorem dX6_look_16 : decode cX6_look 16 = .ok (.invokevirtual 102, 3) := by decide +kernel
theorem dX6_look_19 : decode cX6_look 19 = .ok (.goto 4, 3) := by decide +kernel
theorem dX6_look_22 : decode cX6_look 22 = .ok (.iconst 0, 1) := by decide +kernel
theorem dX6_look_23 : decode cX6_look 23 = .ok (.ireturn, 1) := by decide +kernel
set_option maxRecDepth 20000 in
theorem ggX6_kind_X6_isPlace : GoodIn wsX6_kind wsX6_isPlace := goodIn_r _ [6, 7, 8, 9, 5, 10] (by decide +kernel) (by decide +kernel)
set_option maxRecDepth 20000 in
theorem gX6_kind_X6_isPlace : GoodIn wsX6_kind (va_wsS RX6 111 yX6_isPlace wsX6_isPlace) := goodIn_app (goodIn_of _ (by decide +kernel)) ggX6_kind_X6_isPlace
set_option maxRecDepth 20000 in
theorem ggX6_kind_X6_look : GoodIn wsX6_kind wsX6_look := goodIn_r _ [14, 15, 16, 17, 18, 19, 5, 20, 21, 32, 33, 34, 35, 36, 37, 38, 39, 40, 41, 42, 43, 44, 45, 46, 47, 48, 49, 50, 51, 52, 53, 54, 55, 56, 57, 58, 59, 60, 61] (by decide +kernel) (by decide +kernel)
set_option maxRecDepth 20000 in
theorem gX6_kind_X6_look : GoodIn wsX6_kind (wsV RX6 122 RX6 yX6_look wsX6_look) := goodIn_app (goodIn_of _ (by decide +kernel)) ggX6_kind_X6_look
set_option maxRecDepth 20000 in
theorem ggX6_kind_X6_kindOf : GoodIn wsX6_kind wsX6_kindOf := goodIn_r _ [25, 26, 27, 28, 29, 5, 30, 16, 31, 32, 33, 34, 35, 36, 37, 38, 39, 40, 41, 42, 43, 44, 45, 46, 47, 48, 49, 50, 51, 52, 53, 54, 55, 56, 57, 58, 59, 60, 61] (by decide +kernel) (by decide +kernel)
set_option maxRecDepth 20000 in
theorem gX6_kind_X6_kindOf : GoodIn wsX6_kind (wsV RX6 119 RX6 yX6_kindOf wsX6_kindOf) := goodIn_app (goodIn_of _ (by decide +kernel)) ggX6_kind_X6_kindOf
theorem dX6_kind_0 : decode cX6_kind 0 = .ok (.aload_n 0, 1) := by decide +kernel
theorem dX6_kind_1 : decode cX6_kind 1 = .ok (.iconst 0, 1) := by decide +kernel
theorem dX6_kind_2 : decode cX6_kind 2 = .ok (.putfield 81, 3) := by decide +kernel
theorem dX6_kind_5 : decode cX6_kind 5 = .ok (.iload_n 1, 1) := by decide +kernel
theorem dX6_kind_6 : decode cX6_kind 6 = .ok (.invokestatic 111, 3) := by decide +kernel
theorem dX6_kind_9 : decode cX6_kind 9 = .ok (.ifCond .ne 6, 3) := by decide +kernel
theorem dX6_kind_12 : decode cX6_kind 12 = .ok (.ldc 101, 2) := by decide +kernel
theorem dX6_kind_14 : decode cX6_kind 14 = .ok (.ireturn, 1) := by decide +kernel
theorem dX6_kind_15 : decode cX6_kind 15 = .ok (.aload_n 0, 1) := by decide +kernel
theorem dX6_kind_16 : decode cX6_kind 16 = .ok (.iload_n 1, 1) := by decide +kernel
theorem dX6_kind_17 : decode cX6_kind 17 = .ok (.invokevirtual 122, 3) := by decide +kernel
theorem dX6_kind_20 : decode cX6_kind 20 = .ok (.istore_n 2, 1) := by decide +kernel
theorem dX6_kind_21 : decode cX6_kind 21 = .ok (.iload_n 2, 1) := by decide +kernel
theorem dX6_kind_22 : decode cX6_kind 22 = .ok (.ifCond .ge 7, 3) := by decide +kernel
theorem dX6_kind_25 : decode cX6_kind 25 = .ok (.iload_n 2, 1) := by decide +kernel
theorem dX6_kind_26 : decode cX6_kind 26 = .ok (.goto 8, 3) := by decide +kernel
theorem dX6_kind_29 : decode cX6_kind 29 = .ok (.aload_n 0, 1) := by decide +kernel
theorem dX6_kind_30 : decode cX6_kind 30 = .ok (.iload_n 1, 1) := by decide +kernel
theorem dX6_kind_31 : decode cX6_kind 31 = .ok (.invokevirtual 119, 3) := by decide +kernel
theorem dX6_kind_34 : decode cX6_kind 34 = .ok (.ireturn, 1) := by decide +kernel
theorem dX6_isOf_0 : decode cX6_isOf 0 = .ok (.iload_n 1, 1) := by decide +kernel
theorem dX6_isOf_1 : decode cX6_isOf 1 = .ok (.ifCond .eq 18, 3) := by decide +kernel
theorem dX6_isOf_4 : decode cX6_isOf 4 = .ok (.iload_n 0, 1) := by decide +kernel
theorem dX6_isOf_5 : decode cX6_isOf 5 = .ok (.iload_n 1, 1) := by decide +kernel
theorem dX6_isOf_6 : decode cX6_isOf 6 = .ok (.if_icmp .eq 13, 3) := by decide +kernel
theorem dX6_isOf_9 : decode cX6_isOf 9 = .ok (.iload_n 1, 1) := by decide +kernel
theorem dX6_isOf_10 : decode cX6_isOf 10 = .ok (.iconst 1, 1) := by decide +kernel
theorem dX6_isOf_11 : decode cX6_isOf 11 = .ok (.if_icmp .ne 12, 3) := by decide +kernel
theorem dX6_isOf_14 : decode cX6_isOf 14 = .ok (.iload_n 0, 1) := by decide +kernel
theorem dX6_isOf_15 : decode cX6_isOf 15 = .ok (.iconst 2, 1) := by decide +kernel
theorem dX6_isOf_16 : decode cX6_isOf 16 = .ok (.if_icmp .ne 7, 3) := by decide +kernel
theorem dX6_isOf_19 : decode cX6_isOf 19 = .ok (.iconst 1, 1) := by decide +kernel
theorem dX6_isOf_20 : decode cX6_isOf 20 = .ok (.goto 4, 3) := by decide +kernel
theorem dX6_isOf_23 : decode cX6_isOf 23 = .ok (.iconst 0, 1) := by decide +kernel
theorem dX6_isOf_24 : decode cX6_isOf 24 = .ok (.ireturn, 1) := by decide +kernel
set_option maxRecDepth 20000 in
theorem ggX6_is_X6_isPlace : GoodIn wsX6_is wsX6_isPlace := goodIn_r _ [8, 9, 10, 11, 7, 12] (by decide +kernel) (by decide +kernel)
set_option maxRecDepth 20000 in
theorem gX6_is_X6_isPlace : GoodIn wsX6_is (va_wsS RX6 111 yX6_isPlace wsX6_isPlace) := goodIn_app (goodIn_of _ (by decide +kernel)) ggX6_is_X6_isPlace
set_option maxRecDepth 20000 in
theorem ggX6_is_X6_in : GoodIn wsX6_is wsX6_in := goodIn_r _ [12] (by decide +kernel) (by decide +kernel)
set_option maxRecDepth 20000 in
theorem gX6_is_X6_in : GoodIn wsX6_is (va_wsS RX6 91 yX6_in wsX6_in) := goodIn_app (goodIn_of _ (by decide +kernel)) ggX6_is_X6_in
set_option maxRecDepth 20000 in
theorem ggX6_is_X6_kindOf : GoodIn wsX6_is wsX6_kindOf := goodIn_r _ [16, 17, 18, 19, 20, 7, 21, 4, 22, 26, 27, 28, 29, 30, 31, 32, 33, 34, 35, 36, 37, 38, 39, 40, 41, 42, 43, 44, 45, 46, 47, 48, 49, 50, 51, 52, 53, 54, 55] (by decide +kernel) (by decide +kernel)
set_option maxRecDepth 20000 in
theorem gX6_is_X6_kindOf : GoodIn wsX6_is (wsV RX6 119 RX6 yX6_kindOf wsX6_kindOf) := goodIn_app (goodIn_of _ (by decide +kernel)) ggX6_is_X6_kindOf
set_option maxRecDepth 20000 in
theorem ggX6_is_X6_isOf : GoodIn wsX6_is wsX6_isOf := goodIn_r _ [25] (by decide +kernel) (by decide +kernel)
set_option maxRecDepth 20000 in
theorem gX6_is_X6_isOf : GoodIn wsX6_is (va_wsS RX6 127 yX6_isOf wsX6_isOf) := goodIn_app (goodIn_of _ (by decide +kernel)) ggX6_is_X6_isOf
theorem dX6_is_0 : decode cX6_is 0 = .ok (.aload_n 0, 1) := by decide +kernel
theorem dX6_is_1 : decode cX6_is 1 = .ok (.iconst 0, 1) := by decide +kernel
theorem dX6_is_2 : decode cX6_is 2 = .ok (.putfield 81, 3) := by decide +kernel
theorem dX6_is_5 : decode cX6_is 5 = .ok (.iload_n 1, 1) := by decide +kernel
theorem dX6_is_6 : decode cX6_is 6 = .ok (.invokestatic 111, 3) := by decide +kernel
theorem dX6_is_9 : decode cX6_is 9 = .ok (.ifCond .eq 15, 3) := by decide +kernel
theorem dX6_is_12 : decode cX6_is 12 = .ok (.iload_n 2, 1) := by decide +kernel
theorem dX6_is_13 : decode cX6_is 13 = .ok (.i2l, 1) := by decide +kernel
theorem dX6_is_14 : decode cX6_is 14 = .ok (.lconst 0, 1) := by decide +kernel
theorem dX6_is_15 : decode cX6_is 15 = .ok (.ldc2_w 125, 3) := by decide +kernel
theorem dX6_is_18 : decode cX6_is 18 = .ok (.invokestatic 91, 3) := by decide +kernel
theorem dX6_is_21 : decode cX6_is 21 = .ok (.ifCond .ne 8, 3) := by decide +kernel
theorem dX6_is_24 : decode cX6_is 24 = .ok (.ldc 101, 2) := by decide +kernel
theorem dX6_is_26 : decode cX6_is 26 = .ok (.goto 29, 3) := by decide +kernel
theorem dX6_is_29 : decode cX6_is 29 = .ok (.aload_n 0, 1) := by decide +kernel
theorem dX6_is_30 : decode cX6_is 30 = .ok (.getfield 19, 3) := by decide +kernel
theorem dX6_is_33 : decode cX6_is 33 = .ok (.iload_n 1, 1) := by decide +kernel
theorem dX6_is_34 : decode cX6_is 34 = .ok (.iaload, 1) := by decide +kernel
theorem dX6_is_35 : decode cX6_is 35 = .ok (.ifCond .le 19, 3) := by decide +kernel
theorem dX6_is_38 : decode cX6_is 38 = .ok (.aload_n 0, 1) := by decide +kernel
theorem dX6_is_39 : decode cX6_is 39 = .ok (.iload_n 1, 1) := by decide +kernel
theorem dX6_is_40 : decode cX6_is 40 = .ok (.invokevirtual 119, 3) := by decide +kernel
theorem dX6_is_43 : decode cX6_is 43 = .ok (.iload_n 2, 1) := by decide +kernel
theorem dX6_is_44 : decode cX6_is 44 = .ok (.invokestatic 127, 3) := by decide +kernel
theorem dX6_is_47 : decode cX6_is 47 = .ok (.ifCond .eq 7, 3) := by decide +kernel
theorem dX6_is_50 : decode cX6_is 50 = .ok (.iconst 1, 1) := by decide +kernel
theorem dX6_is_51 : decode cX6_is 51 = .ok (.goto 4, 3) := by decide +kernel
theorem dX6_is_54 : decode cX6_is 54 = .ok (.iconst 0, 1) := by decide +kernel
theorem dX6_is_55 : decode cX6_is 55 = .ok (.ireturn, 1) := by decide +kernel
set_option maxRecDepth 20000 in
theorem ggX6_as_X6_isPlace : GoodIn wsX6_as wsX6_isPlace := goodIn_r _ [7, 8, 9, 10, 6, 11] (by decide +kernel) (by decide +kernel)
set_option maxRecDepth 20000 in
theorem gX6_as_X6_isPlace : GoodIn wsX6_as (va_wsS RX6 111 yX6_isPlace wsX6_isPlace) := goodIn_app (goodIn_of _ (by decide +kernel)) ggX6_as_X6_isPlace
set_option maxRecDepth 20000 in
theorem ggX6_as_X6_in : GoodIn wsX6_as wsX6_in := goodIn_r _ [11] (by decide +kernel) (by decide +kernel)
set_option maxRecDepth 20000 in
theorem gX6_as_X6_in : GoodIn wsX6_as (va_wsS RX6 91 yX6_in wsX6_in) := goodIn_app (goodIn_of _ (by decide +kernel)) ggX6_as_X6_in
set_option maxRecDepth 20000 in
theorem ggX6_as_X6_look : GoodIn wsX6_as wsX6_look := goodIn_r _ [15, 16, 17, 18, 19, 20, 6, 21, 22, 36, 37, 38, 39, 40, 41, 42, 43, 44, 45, 46, 47, 48, 49, 50, 51, 52, 53, 54, 55, 56, 57, 58, 59, 60, 61, 62, 63, 64, 65] (by decide +kernel) (by decide +kernel)
set_option maxRecDepth 20000 in
theorem gX6_as_X6_look : GoodIn wsX6_as (wsV RX6 122 RX6 yX6_look wsX6_look) := goodIn_app (goodIn_of _ (by decide +kernel)) ggX6_as_X6_look
set_option maxRecDepth 20000 in
theorem ggX6_as_X6_kindOf : GoodIn wsX6_as wsX6_kindOf := goodIn_r _ [26, 27, 28, 29, 30, 6, 31, 17, 32, 36, 37, 38, 39, 40, 41, 42, 43, 44, 45, 46, 47, 48, 49, 50, 51, 52, 53, 54, 55, 56, 57, 58, 59, 60, 61, 62, 63, 64, 65] (by decide +kernel) (by decide +kernel)
set_option maxRecDepth 20000 in
theorem gX6_as_X6_kindOf : GoodIn wsX6_as (wsV RX6 119 RX6 yX6_kindOf wsX6_kindOf) := goodIn_app (goodIn_of _ (by decide +kernel)) ggX6_as_X6_kindOf
set_option maxRecDepth 20000 in
theorem ggX6_as_X6_isOf : GoodIn wsX6_as wsX6_isOf := goodIn_r _ [35] (by decide +kernel) (by decide +kernel)
set_option maxRecDepth 20000 in
theorem gX6_as_X6_isOf : GoodIn wsX6_as (va_wsS RX6 127 yX6_isOf wsX6_isOf) := goodIn_app (goodIn_of _ (by decide +kernel)) ggX6_as_X6_isOf
set_option maxRecDepth 20000 in
theorem ggX6_as_X6_alive : GoodIn wsX6_as wsX6_alive := goodIn_r _ [31, 17, 32, 36, 37, 38, 39, 40, 41, 42, 43, 44, 45, 46, 47, 48, 49, 50, 51, 52, 53, 54, 55, 56, 57, 58, 59, 60, 61, 62, 63, 64, 65] (by decide +kernel) (by decide +kernel)
set_option maxRecDepth 20000 in
theorem gX6_as_X6_alive : GoodIn wsX6_as (wsV RX6 108 RX6 yX6_alive wsX6_alive) := goodIn_app (goodIn_of _ (by decide +kernel)) ggX6_as_X6_alive
set_option maxRecDepth 20000 in
theorem ggX6_as_X6_found : GoodIn wsX6_as wsX6_found := goodIn_r _ [21, 16, 22, 36, 37, 38, 39, 40, 41, 42, 43, 44, 45, 46, 47, 48, 49, 50, 51, 52, 53, 54, 55, 56, 57, 58, 59, 60, 61, 62, 63, 64, 65] (by decide +kernel) (by decide +kernel)
set_option maxRecDepth 20000 in
theorem gX6_as_X6_found : GoodIn wsX6_as (wsV RX6 102 RX6 yX6_found wsX6_found) := goodIn_app (goodIn_of _ (by decide +kernel)) ggX6_as_X6_found
theorem dX6_as_0 : decode cX6_as 0 = .ok (.aload_n 0, 1) := by decide +kernel
theorem dX6_as_1 : decode cX6_as 1 = .ok (.iconst 0, 1) := by decide +kernel
theorem dX6_as_2 : decode cX6_as 2 = .ok (.putfield 81, 3) := by decide +kernel
theorem dX6_as_5 : decode cX6_as 5 = .ok (.iload_n 1, 1) := by decide +kernel
theorem dX6_as_6 : decode cX6_as 6 = .ok (.invokestatic 111, 3) := by decide +kernel
theorem dX6_as_9 : decode cX6_as 9 = .ok (.ifCond .eq 15, 3) := by decide +kernel
theorem dX6_as_12 : decode cX6_as 12 = .ok (.iload_n 2, 1) := by decide +kernel
theorem dX6_as_13 : decode cX6_as 13 = .ok (.i2l, 1) := by decide +kernel
theorem dX6_as_14 : decode cX6_as 14 = .ok (.lconst 0, 1) := by decide +kernel
theorem dX6_as_15 : decode cX6_as 15 = .ok (.ldc2_w 125, 3) := by decide +kernel
theorem dX6_as_18 : decode cX6_as 18 = .ok (.invokestatic 91, 3) := by decide +kernel
theorem dX6_as_21 : decode cX6_as 21 = .ok (.ifCond .ne 6, 3) := by decide +kernel
theorem dX6_as_24 : decode cX6_as 24 = .ok (.ldc 101, 2) := by decide +kernel
theorem dX6_as_26 : decode cX6_as 26 = .ok (.ireturn, 1) := by decide +kernel
theorem dX6_as_27 : decode cX6_as 27 = .ok (.aload_n 0, 1) := by decide +kernel
theorem dX6_as_28 : decode cX6_as 28 = .ok (.iload_n 1, 1) := by decide +kernel
theorem dX6_as_29 : decode cX6_as 29 = .ok (.invokevirtual 122, 3) := by decide +kernel
theorem dX6_as_32 : decode cX6_as 32 = .ok (.istore_n 3, 1) := by decide +kernel
theorem dX6_as_33 : decode cX6_as 33 = .ok (.iload_n 3, 1) := by decide +kernel
theorem dX6_as_34 : decode cX6_as 34 = .ok (.ifCond .ge 7, 3) := by decide +kernel
theorem dX6_as_37 : decode cX6_as 37 = .ok (.iload_n 3, 1) := by decide +kernel
theorem dX6_as_38 : decode cX6_as 38 = .ok (.goto 28, 3) := by decide +kernel
theorem dX6_as_41 : decode cX6_as 41 = .ok (.aload_n 0, 1) := by decide +kernel
theorem dX6_as_42 : decode cX6_as 42 = .ok (.iload_n 1, 1) := by decide +kernel
theorem dX6_as_43 : decode cX6_as 43 = .ok (.invokevirtual 119, 3) := by decide +kernel
theorem dX6_as_46 : decode cX6_as 46 = .ok (.iload_n 2, 1) := by decide +kernel
theorem dX6_as_47 : decode cX6_as 47 = .ok (.invokestatic 127, 3) := by decide +kernel
theorem dX6_as_50 : decode cX6_as 50 = .ok (.ifCond .eq 11, 3) := by decide +kernel
theorem dX6_as_53 : decode cX6_as 53 = .ok (.aload_n 0, 1) := by decide +kernel
theorem dX6_as_54 : decode cX6_as 54 = .ok (.iload_n 1, 1) := by decide +kernel
theorem dX6_as_55 : decode cX6_as 55 = .ok (.invokevirtual 108, 3) := by decide +kernel
theorem dX6_as_58 : decode cX6_as 58 = .ok (.goto 8, 3) := by decide +kernel
theorem dX6_as_61 : decode cX6_as 61 = .ok (.aload_n 0, 1) := by decide +kernel
theorem dX6_as_62 : decode cX6_as 62 = .ok (.iconst 3, 1) := by decide +kernel
theorem dX6_as_63 : decode cX6_as 63 = .ok (.invokevirtual 102, 3) := by decide +kernel
theorem dX6_as_66 : decode cX6_as 66 = .ok (.ireturn, 1) := by decide +kernel
theorem dX6_calls_0 : decode cX6_calls 0 = .ok (.iconst 0, 1) := by decide +kernel
theorem dX6_calls_1 : decode cX6_calls 1 = .ok (.istore_n 2, 1) := by decide +kernel
theorem dX6_calls_2 : decode cX6_calls 2 = .ok (.iconst 0, 1) := by decide +kernel
theorem dX6_calls_3 : decode cX6_calls 3 = .ok (.istore_n 3, 1) := by decide +kernel
theorem dX6_calls_4 : decode cX6_calls 4 = .ok (.iload_n 3, 1) := by decide +kernel
theorem dX6_calls_5 : decode cX6_calls 5 = .ok (.bipush 36, 2) := by decide +kernel
theorem dX6_calls_7 : decode cX6_calls 7 = .ok (.if_icmp .ge 42, 3) := by decide +kernel
theorem dX6_calls_10 : decode cX6_calls 10 = .ok (.aload_n 0, 1) := by decide +kernel
theorem dX6_calls_11 : decode cX6_calls 11 = .ok (.getfield 19, 3) := by decide +kernel
theorem dX6_calls_14 : decode cX6_calls 14 = .ok (.iload_n 1, 1) := by decide +kernel
theorem dX6_calls_15 : decode cX6_calls 15 = .ok (.iaload, 1) := by decide +kernel
theorem dX6_calls_16 : decode cX6_calls 16 = .ok (.ifCond .le 33, 3) := by decide +kernel
theorem dX6_calls_19 : decode cX6_calls 19 = .ok (.iload_n 2, 1) := by decide +kernel
theorem dX6_calls_20 : decode cX6_calls 20 = .ok (.aload_n 0, 1) := by decide +kernel
theorem dX6_calls_21 : decode cX6_calls 21 = .ok (.getfield 32, 3) := by decide +kernel
theorem dX6_calls_24 : decode cX6_calls 24 = .ok (.bipush 36, 2) := by decide +kernel
theorem dX6_calls_26 : decode cX6_calls 26 = .ok (.iload_n 1, 1) := by decide +kernel
theorem dX6_calls_27 : decode cX6_calls 27 = .ok (.imul, 1) := by decide +kernel
theorem dX6_calls_28 : decode cX6_calls 28 = .ok (.iload_n 3, 1) := by decide +kernel
theorem dX6_calls_29 : decode cX6_calls 29 = .ok (.iadd, 1) := by decide +kernel
theorem dX6_calls_30 : decode cX6_calls 30 = .ok (.iaload, 1) := by decide +kernel
theorem dX6_calls_31 : decode cX6_calls 31 = .ok (.ldc 118, 2) := by decide +kernel
theorem dX6_calls_33 : decode cX6_calls 33 = .ok (.if_icmp .eq 7, 3) := by decide +kernel
theorem dX6_calls_36 : decode cX6_calls 36 = .ok (.iconst 1, 1) := by decide +kernel
theorem dX6_calls_37 : decode cX6_calls 37 = .ok (.goto 4, 3) := by decide +kernel
theorem dX6_calls_40 : decode cX6_calls 40 = .ok (.iconst 0, 1) := by decide +kernel
theorem dX6_calls_41 : decode cX6_calls 41 = .ok (.iadd, 1) := by decide +kernel
theorem dX6_calls_42 : decode cX6_calls 42 = .ok (.istore_n 2, 1) := by decide +kernel
theorem dX6_calls_43 : decode cX6_calls 43 = .ok (.iinc 3 1, 3) := by decide +kernel
theorem dX6_calls_46 : decode cX6_calls 46 = .ok (.goto (-42), 3) := by decide +kernel
theorem dX6_calls_49 : decode cX6_calls 49 = .ok (.iload_n 2, 1) := by decide +kernel
theorem dX6_calls_50 : decode cX6_calls 50 = .ok (.ireturn, 1) := by decide +kernel
theorem dX6_began_0 : decode cX6_began 0 = .ok (.aload_n 0, 1) := by decide +kernel
theorem dX6_began_1 : decode cX6_began 1 = .ok (.getfield 131, 3) := by decide +kernel
theorem dX6_began_4 : decode cX6_began 4 = .ok (.bipush 16, 2) := by decide +kernel
theorem dX6_began_6 : decode cX6_began 6 = .ok (.if_icmp .ge 23, 3) := by decide +kernel
theorem dX6_began_9 : decode cX6_began 9 = .ok (.aload_n 0, 1) := by decide +kernel
theorem dX6_began_10 : decode cX6_began 10 = .ok (.getfield 38, 3) := by decide +kernel
theorem dX6_began_13 : decode cX6_began 13 = .ok (.aload_n 0, 1) := by decide +kernel
theorem dX6_began_14 : decode cX6_began 14 = .ok (.getfield 131, 3) := by decide +kernel
theorem dX6_began_17 : decode cX6_began 17 = .ok (.iload_n 1, 1) := by decide +kernel
theorem dX6_began_18 : decode cX6_began 18 = .ok (.iastore, 1) := by decide +kernel
theorem dX6_began_19 : decode cX6_began 19 = .ok (.aload_n 0, 1) := by decide +kernel
theorem dX6_began_20 : decode cX6_began 20 = .ok (.dup, 1) := by decide +kernel
theorem dX6_began_21 : decode cX6_began 21 = .ok (.getfield 131, 3) := by decide +kernel
theorem dX6_began_24 : decode cX6_began 24 = .ok (.iconst 1, 1) := by decide +kernel
theorem dX6_began_25 : decode cX6_began 25 = .ok (.iadd, 1) := by decide +kernel
theorem dX6_began_26 : decode cX6_began 26 = .ok (.putfield 131, 3) := by decide +kernel
theorem dX6_began_29 : decode cX6_began 29 = .ok (.return_, 1) := by decide +kernel
set_option maxRecDepth 20000 in
theorem ggX6_bareSize_X6_began : GoodIn wsX6_bareSize wsX6_began := goodIn_r _ [7, 8, 9, 10, 11, 12, 13, 14, 15, 16, 17, 18, 19, 20, 21, 22, 23, 24, 25, 26, 27, 28, 29, 30, 31, 32, 33, 34, 35, 36, 37, 38, 39] (by decide +kernel) (by decide +kernel)
set_option maxRecDepth 20000 in
theorem gX6_bareSize_X6_began : GoodIn wsX6_bareSize (wsV RX6 134 RX6 yX6_began wsX6_began) := goodIn_app (goodIn_of _ (by decide +kernel)) ggX6_bareSize_X6_began
theorem dX6_bareSize_0 : decode cX6_bareSize 0 = .ok (.aload_n 0, 1) := by decide +kernel
theorem dX6_bareSize_1 : decode cX6_bareSize 1 = .ok (.bipush 13, 2) := by decide +kernel
theorem dX6_bareSize_3 : decode cX6_bareSize 3 = .ok (.invokevirtual 134, 3) := by decide +kernel
theorem dX6_bareSize_6 : decode cX6_bareSize 6 = .ok (.aload_n 0, 1) := by decide +kernel
theorem dX6_bareSize_7 : decode cX6_bareSize 7 = .ok (.bipush 10, 2) := by decide +kernel
theorem dX6_bareSize_9 : decode cX6_bareSize 9 = .ok (.invokevirtual 134, 3) := by decide +kernel
theorem dX6_bareSize_12 : decode cX6_bareSize 12 = .ok (.aload_n 0, 1) := by decide +kernel
theorem dX6_bareSize_13 : decode cX6_bareSize 13 = .ok (.getfield 25, 3) := by decide +kernel
theorem dX6_bareSize_16 : decode cX6_bareSize 16 = .ok (.iload_n 1, 1) := by decide +kernel
theorem dX6_bareSize_17 : decode cX6_bareSize 17 = .ok (.iaload, 1) := by decide +kernel
theorem dX6_bareSize_18 : decode cX6_bareSize 18 = .ok (.aload_n 0, 1) := by decide +kernel
theorem dX6_bareSize_19 : decode cX6_bareSize 19 = .ok (.getfield 22, 3) := by decide +kernel
theorem dX6_bareSize_22 : decode cX6_bareSize 22 = .ok (.iload_n 1, 1) := by decide +kernel
theorem dX6_bareSize_23 : decode cX6_bareSize 23 = .ok (.iaload, 1) := by decide +kernel
theorem dX6_bareSize_24 : decode cX6_bareSize 24 = .ok (.imul, 1) := by decide +kernel
theorem dX6_bareSize_25 : decode cX6_bareSize 25 = .ok (.iconst 2, 1) := by decide +kernel
theorem dX6_bareSize_26 : decode cX6_bareSize 26 = .ok (.idiv, 1) := by decide +kernel
theorem dX6_bareSize_27 : decode cX6_bareSize 27 = .ok (.ireturn, 1) := by decide +kernel
set_option maxRecDepth 20000 in
theorem ggX6_marked_X6_kindOf : GoodIn wsX6_marked wsX6_kindOf := goodIn_r _ [5, 6, 7, 8, 9, 4, 10, 11, 12, 33, 34, 35, 36, 37, 38, 39, 40, 41, 42, 43, 44, 45, 46, 47, 48, 49, 50, 51, 52, 53, 54, 55, 56, 57, 58, 59, 60, 61, 62] (by decide +kernel) (by decide +kernel)
set_option maxRecDepth 20000 in
theorem gX6_marked_X6_kindOf : GoodIn wsX6_marked (wsV RX6 119 RX6 yX6_kindOf wsX6_kindOf) := goodIn_app (goodIn_of _ (by decide +kernel)) ggX6_marked_X6_kindOf
set_option maxRecDepth 20000 in
theorem ggX6_marked_X6_began : GoodIn wsX6_marked wsX6_began := goodIn_r _ [16, 17, 18, 33, 34, 35, 36, 37, 38, 39, 40, 41, 42, 43, 44, 45, 46, 47, 48, 49, 50, 51, 52, 53, 54, 55, 56, 57, 58, 59, 60, 61, 62] (by decide +kernel) (by decide +kernel)
set_option maxRecDepth 20000 in
theorem gX6_marked_X6_began : GoodIn wsX6_marked (wsV RX6 134 RX6 yX6_began wsX6_began) := goodIn_app (goodIn_of _ (by decide +kernel)) ggX6_marked_X6_began
set_option maxRecDepth 20000 in
theorem ggX6_marked_X6_isOf : GoodIn wsX6_marked wsX6_isOf := goodIn_r _ [21] (by decide +kernel) (by decide +kernel)
set_option maxRecDepth 20000 in
theorem gX6_marked_X6_isOf : GoodIn wsX6_marked (va_wsS RX6 127 yX6_isOf wsX6_isOf) := goodIn_app (goodIn_of _ (by decide +kernel)) ggX6_marked_X6_isOf
set_option maxRecDepth 20000 in
theorem ggX6_marked_X6_calls : GoodIn wsX6_marked wsX6_calls := goodIn_r _ [25, 11, 26, 27, 33, 34, 35, 36, 37, 38, 39, 40, 41, 42, 43, 44, 45, 46, 47, 48, 49, 50, 51, 52, 53, 54, 55, 56, 57, 58, 59, 60, 61, 62] (by decide +kernel) (by decide +kernel)
set_option maxRecDepth 20000 in
theorem gX6_marked_X6_calls : GoodIn wsX6_marked (wsV RX6 138 RX6 yX6_calls wsX6_calls) := goodIn_app (goodIn_of _ (by decide +kernel)) ggX6_marked_X6_calls
set_option maxRecDepth 20000 in
theorem ggX6_marked_X6_bareSize : GoodIn wsX6_marked wsX6_bareSize := goodIn_r _ [31, 32, 6, 13, 14, 15, 4, 16, 17, 18, 33, 34, 35, 36, 37, 38, 39, 40, 41, 42, 43, 44, 45, 46, 47, 48, 49, 50, 51, 52, 53, 54, 55, 56, 57, 58, 59, 60, 61, 62] (by decide +kernel) (by decide +kernel)
set_option maxRecDepth 20000 in
theorem gX6_marked_X6_bareSize : GoodIn wsX6_marked (wsV RX6 141 RX6 yX6_bareSize wsX6_bareSize) := goodIn_app (goodIn_of _ (by decide +kernel)) ggX6_marked_X6_bareSize
theorem dX6_marked_0 : decode cX6_marked 0 = .ok (.aload_n 0, 1) := by decide +kernel
theorem dX6_marked_1 : decode cX6_marked 1 = .ok (.iload_n 1, 1) := by decide +kernel
theorem dX6_marked_2 : decode cX6_marked 2 = .ok (.invokevirtual 119, 3) := by decide +kernel
theorem dX6_marked_5 : decode cX6_marked 5 = .ok (.istore_n 2, 1) := by decide +kernel
theorem dX6_marked_6 : decode cX6_marked 6 = .ok (.iload_n 2, 1) := by decide +kernel
theorem dX6_marked_7 : decode cX6_marked 7 = .ok (.iconst 3, 1) := by decide +kernel
theorem dX6_marked_8 : decode cX6_marked 8 = .ok (.if_icmp .ne 9, 3) := by decide +kernel
theorem dX6_marked_11 : decode cX6_marked 11 = .ok (.aload_n 0, 1) := by decide +kernel
theorem dX6_marked_12 : decode cX6_marked 12 = .ok (.bipush 22, 2) := by decide +kernel
theorem dX6_marked_14 : decode cX6_marked 14 = .ok (.invokevirtual 134, 3) := by decide +kernel
theorem dX6_marked_17 : decode cX6_marked 17 = .ok (.iload_n 2, 1) := by decide +kernel
theorem dX6_marked_18 : decode cX6_marked 18 = .ok (.iconst 1, 1) := by decide +kernel
theorem dX6_marked_19 : decode cX6_marked 19 = .ok (.invokestatic 127, 3) := by decide +kernel
theorem dX6_marked_22 : decode cX6_marked 22 = .ok (.ifCond .eq 9, 3) := by decide +kernel
theorem dX6_marked_25 : decode cX6_marked 25 = .ok (.aload_n 0, 1) := by decide +kernel
theorem dX6_marked_26 : decode cX6_marked 26 = .ok (.bipush 21, 2) := by decide +kernel
theorem dX6_marked_28 : decode cX6_marked 28 = .ok (.invokevirtual 134, 3) := by decide +kernel
theorem dX6_marked_31 : decode cX6_marked 31 = .ok (.aload_n 0, 1) := by decide +kernel
theorem dX6_marked_32 : decode cX6_marked 32 = .ok (.bipush 20, 2) := by decide +kernel
theorem dX6_marked_34 : decode cX6_marked 34 = .ok (.invokevirtual 134, 3) := by decide +kernel
theorem dX6_marked_37 : decode cX6_marked 37 = .ok (.aload_n 0, 1) := by decide +kernel
theorem dX6_marked_38 : decode cX6_marked 38 = .ok (.iload_n 1, 1) := by decide +kernel
theorem dX6_marked_39 : decode cX6_marked 39 = .ok (.invokevirtual 138, 3) := by decide +kernel
theorem dX6_marked_42 : decode cX6_marked 42 = .ok (.iload_n 2, 1) := by decide +kernel
theorem dX6_marked_43 : decode cX6_marked 43 = .ok (.iconst 1, 1) := by decide +kernel
theorem dX6_marked_44 : decode cX6_marked 44 = .ok (.invokestatic 127, 3) := by decide +kernel
theorem dX6_marked_47 : decode cX6_marked 47 = .ok (.ifCond .eq 8, 3) := by decide +kernel
theorem dX6_marked_50 : decode cX6_marked 50 = .ok (.bipush 100, 2) := by decide +kernel
theorem dX6_marked_52 : decode cX6_marked 52 = .ok (.goto 4, 3) := by decide +kernel
theorem dX6_marked_55 : decode cX6_marked 55 = .ok (.iconst 0, 1) := by decide +kernel
theorem dX6_marked_56 : decode cX6_marked 56 = .ok (.iadd, 1) := by decide +kernel
theorem dX6_marked_57 : decode cX6_marked 57 = .ok (.istore_n 3, 1) := by decide +kernel
theorem dX6_marked_58 : decode cX6_marked 58 = .ok (.iload_n 2, 1) := by decide +kernel
theorem dX6_marked_59 : decode cX6_marked 59 = .ok (.iconst 3, 1) := by decide +kernel
theorem dX6_marked_60 : decode cX6_marked 60 = .ok (.if_icmp .ne 13, 3) := by decide +kernel
theorem dX6_marked_63 : decode cX6_marked 63 = .ok (.iload_n 3, 1) := by decide +kernel
theorem dX6_marked_64 : decode cX6_marked 64 = .ok (.aload_n 0, 1) := by decide +kernel
theorem dX6_marked_65 : decode cX6_marked 65 = .ok (.iload_n 1, 1) := by decide +kernel
theorem dX6_marked_66 : decode cX6_marked 66 = .ok (.invokevirtual 141, 3) := by decide +kernel
theorem dX6_marked_69 : decode cX6_marked 69 = .ok (.iadd, 1) := by decide +kernel
theorem dX6_marked_70 : decode cX6_marked 70 = .ok (.goto 4, 3) := by decide +kernel
theorem dX6_marked_73 : decode cX6_marked 73 = .ok (.iload_n 3, 1) := by decide +kernel
theorem dX6_marked_74 : decode cX6_marked 74 = .ok (.ireturn, 1) := by decide +kernel
set_option maxRecDepth 20000 in
theorem ggX6_sized_X6_kindOf : GoodIn wsX6_sized wsX6_kindOf := goodIn_r _ [7, 2, 8, 9, 10, 6, 11, 12, 13, 37, 38, 39, 40, 41, 42, 43, 44, 45, 46, 47, 48, 49, 50, 51, 52, 53, 54, 55, 56, 57, 58, 59, 60, 61, 62, 63, 64, 65, 66] (by decide +kernel) (by decide +kernel)
set_option maxRecDepth 20000 in
theorem gX6_sized_X6_kindOf : GoodIn wsX6_sized (wsV RX6 119 RX6 yX6_kindOf wsX6_kindOf) := goodIn_app (goodIn_of _ (by decide +kernel)) ggX6_sized_X6_kindOf
set_option maxRecDepth 20000 in
theorem ggX6_sized_X6_bareSize : GoodIn wsX6_sized wsX6_bareSize := goodIn_r _ [17, 1, 2, 18, 19, 20, 6, 21, 22, 23, 37, 38, 39, 40, 41, 42, 43, 44, 45, 46, 47, 48, 49, 50, 51, 52, 53, 54, 55, 56, 57, 58, 59, 60, 61, 62, 63, 64, 65, 66] (by decide +kernel) (by decide +kernel)
set_option maxRecDepth 20000 in
theorem gX6_sized_X6_bareSize : GoodIn wsX6_sized (wsV RX6 141 RX6 yX6_bareSize wsX6_bareSize) := goodIn_app (goodIn_of _ (by decide +kernel)) ggX6_sized_X6_bareSize
set_option maxRecDepth 20000 in
theorem ggX6_sized_X6_began : GoodIn wsX6_sized wsX6_began := goodIn_r _ [21, 22, 23, 37, 38, 39, 40, 41, 42, 43, 44, 45, 46, 47, 48, 49, 50, 51, 52, 53, 54, 55, 56, 57, 58, 59, 60, 61, 62, 63, 64, 65, 66] (by decide +kernel) (by decide +kernel)
set_option maxRecDepth 20000 in
theorem gX6_sized_X6_began : GoodIn wsX6_sized (wsV RX6 134 RX6 yX6_began wsX6_began) := goodIn_app (goodIn_of _ (by decide +kernel)) ggX6_sized_X6_began
set_option maxRecDepth 20000 in
theorem ggX6_sized_X6_isOf : GoodIn wsX6_sized wsX6_isOf := goodIn_r _ [26] (by decide +kernel) (by decide +kernel)
set_option maxRecDepth 20000 in
theorem gX6_sized_X6_isOf : GoodIn wsX6_sized (va_wsS RX6 127 yX6_isOf wsX6_isOf) := goodIn_app (goodIn_of _ (by decide +kernel)) ggX6_sized_X6_isOf
set_option maxRecDepth 20000 in
theorem ggX6_sized_X6_alive : GoodIn wsX6_sized wsX6_alive := goodIn_r _ [11, 12, 13, 37, 38, 39, 40, 41, 42, 43, 44, 45, 46, 47, 48, 49, 50, 51, 52, 53, 54, 55, 56, 57, 58, 59, 60, 61, 62, 63, 64, 65, 66] (by decide +kernel) (by decide +kernel)
set_option maxRecDepth 20000 in
theorem gX6_sized_X6_alive : GoodIn wsX6_sized (wsV RX6 108 RX6 yX6_alive wsX6_alive) := goodIn_app (goodIn_of _ (by decide +kernel)) ggX6_sized_X6_alive
set_option maxRecDepth 20000 in
theorem ggX6_sized_X6_marked : GoodIn wsX6_sized wsX6_marked := goodIn_r _ [30, 3, 4, 5, 6, 7, 2, 8, 9, 10, 11, 12, 13, 18, 19, 20, 21, 22, 23, 24, 25, 26, 31, 32, 33, 34, 35, 36, 14, 15, 16, 17, 1, 37, 38, 39, 40, 41, 42, 43, 44, 45, 46, 47, 48, 49, 50, 51, 52, 53, 54, 55, 56, 57, 58, 59, 60, 61, 62, 63, 64, 65, 66] (by decide +kernel) (by decide +kernel)
set_option maxRecDepth 20000 in
theorem gX6_sized_X6_marked : GoodIn wsX6_sized (wsV RX6 144 RX6 yX6_marked wsX6_marked) := goodIn_app (goodIn_of _ (by decide +kernel)) ggX6_sized_X6_marked
theorem dX6_sized_0 : decode cX6_sized 0 = .ok (.aload_n 0, 1) := by decide +kernel
theorem dX6_sized_1 : decode cX6_sized 1 = .ok (.iload_n 1, 1) := by decide +kernel
theorem dX6_sized_2 : decode cX6_sized 2 = .ok (.invokevirtual 119, 3) := by decide +kernel
theorem dX6_sized_5 : decode cX6_sized 5 = .ok (.istore_n 2, 1) := by decide +kernel
theorem dX6_sized_6 : decode cX6_sized 6 = .ok (.iload_n 2, 1) := by decide +kernel
theorem dX6_sized_7 : decode cX6_sized 7 = .ok (.iconst 3, 1) := by decide +kernel
theorem dX6_sized_8 : decode cX6_sized 8 = .ok (.if_icmp .ne 9, 3) := by decide +kernel
theorem dX6_sized_11 : decode cX6_sized 11 = .ok (.aload_n 0, 1) := by decide +kernel
theorem dX6_sized_12 : decode cX6_sized 12 = .ok (.iload_n 1, 1) := by decide +kernel
theorem dX6_sized_13 : decode cX6_sized 13 = .ok (.invokevirtual 141, 3) := by decide +kernel
theorem dX6_sized_16 : decode cX6_sized 16 = .ok (.ireturn, 1) := by decide +kernel
theorem dX6_sized_17 : decode cX6_sized 17 = .ok (.iload_n 2, 1) := by decide +kernel
theorem dX6_sized_18 : decode cX6_sized 18 = .ok (.iconst 2, 1) := by decide +kernel
theorem dX6_sized_19 : decode cX6_sized 19 = .ok (.if_icmp .ne 9, 3) := by decide +kernel
theorem dX6_sized_22 : decode cX6_sized 22 = .ok (.aload_n 0, 1) := by decide +kernel
theorem dX6_sized_23 : decode cX6_sized 23 = .ok (.bipush 12, 2) := by decide +kernel
theorem dX6_sized_25 : decode cX6_sized 25 = .ok (.invokevirtual 134, 3) := by decide +kernel
theorem dX6_sized_28 : decode cX6_sized 28 = .ok (.iload_n 2, 1) := by decide +kernel
theorem dX6_sized_29 : decode cX6_sized 29 = .ok (.iconst 1, 1) := by decide +kernel
theorem dX6_sized_30 : decode cX6_sized 30 = .ok (.invokestatic 127, 3) := by decide +kernel
theorem dX6_sized_33 : decode cX6_sized 33 = .ok (.ifCond .eq 9, 3) := by decide +kernel
theorem dX6_sized_36 : decode cX6_sized 36 = .ok (.aload_n 0, 1) := by decide +kernel
theorem dX6_sized_37 : decode cX6_sized 37 = .ok (.bipush 11, 2) := by decide +kernel
theorem dX6_sized_39 : decode cX6_sized 39 = .ok (.invokevirtual 134, 3) := by decide +kernel
theorem dX6_sized_42 : decode cX6_sized 42 = .ok (.aload_n 0, 1) := by decide +kernel
theorem dX6_sized_43 : decode cX6_sized 43 = .ok (.bipush 10, 2) := by decide +kernel
theorem dX6_sized_45 : decode cX6_sized 45 = .ok (.invokevirtual 134, 3) := by decide +kernel
theorem dX6_sized_48 : decode cX6_sized 48 = .ok (.aload_n 0, 1) := by decide +kernel
theorem dX6_sized_49 : decode cX6_sized 49 = .ok (.getfield 25, 3) := by decide +kernel
theorem dX6_sized_52 : decode cX6_sized 52 = .ok (.iload_n 1, 1) := by decide +kernel
theorem dX6_sized_53 : decode cX6_sized 53 = .ok (.iaload, 1) := by decide +kernel
theorem dX6_sized_54 : decode cX6_sized 54 = .ok (.aload_n 0, 1) := by decide +kernel
theorem dX6_sized_55 : decode cX6_sized 55 = .ok (.getfield 22, 3) := by decide +kernel
theorem dX6_sized_58 : decode cX6_sized 58 = .ok (.iload_n 1, 1) := by decide +kernel
theorem dX6_sized_59 : decode cX6_sized 59 = .ok (.iaload, 1) := by decide +kernel
theorem dX6_sized_60 : decode cX6_sized 60 = .ok (.imul, 1) := by decide +kernel
theorem dX6_sized_61 : decode cX6_sized 61 = .ok (.iload_n 2, 1) := by decide +kernel
theorem dX6_sized_62 : decode cX6_sized 62 = .ok (.iconst 1, 1) := by decide +kernel
theorem dX6_sized_63 : decode cX6_sized 63 = .ok (.invokestatic 127, 3) := by decide +kernel
theorem dX6_sized_66 : decode cX6_sized 66 = .ok (.ifCond .eq 11, 3) := by decide +kernel
theorem dX6_sized_69 : decode cX6_sized 69 = .ok (.aload_n 0, 1) := by decide +kernel
theorem dX6_sized_70 : decode cX6_sized 70 = .ok (.iload_n 1, 1) := by decide +kernel
theorem dX6_sized_71 : decode cX6_sized 71 = .ok (.invokevirtual 108, 3) := by decide +kernel
theorem dX6_sized_74 : decode cX6_sized 74 = .ok (.goto 4, 3) := by decide +kernel
theorem dX6_sized_77 : decode cX6_sized 77 = .ok (.iconst 0, 1) := by decide +kernel
theorem dX6_sized_78 : decode cX6_sized 78 = .ok (.iadd, 1) := by decide +kernel
theorem dX6_sized_79 : decode cX6_sized 79 = .ok (.istore_n 3, 1) := by decide +kernel
theorem dX6_sized_80 : decode cX6_sized 80 = .ok (.iload_n 2, 1) := by decide +kernel
theorem dX6_sized_81 : decode cX6_sized 81 = .ok (.iconst 2, 1) := by decide +kernel
theorem dX6_sized_82 : decode cX6_sized 82 = .ok (.if_icmp .ne 13, 3) := by decide +kernel
theorem dX6_sized_85 : decode cX6_sized 85 = .ok (.iload_n 3, 1) := by decide +kernel
theorem dX6_sized_86 : decode cX6_sized 86 = .ok (.aload_n 0, 1) := by decide +kernel
theorem dX6_sized_87 : decode cX6_sized 87 = .ok (.iload_n 1, 1) := by decide +kernel
theorem dX6_sized_88 : decode cX6_sized 88 = .ok (.invokevirtual 144, 3) := by decide +kernel
theorem dX6_sized_91 : decode cX6_sized 91 = .ok (.iadd, 1) := by decide +kernel
theorem dX6_sized_92 : decode cX6_sized 92 = .ok (.goto 4, 3) := by decide +kernel
theorem dX6_sized_95 : decode cX6_sized 95 = .ok (.iload_n 3, 1) := by decide +kernel
theorem dX6_sized_96 : decode cX6_sized 96 = .ok (.ireturn, 1) := by decide +kernel
set_option maxRecDepth 20000 in
theorem ggX6_ask_X6_isPlace : GoodIn wsX6_ask wsX6_isPlace := goodIn_r _ [7, 8, 9, 10, 6, 11] (by decide +kernel) (by decide +kernel)
set_option maxRecDepth 20000 in
theorem gX6_ask_X6_isPlace : GoodIn wsX6_ask (va_wsS RX6 111 yX6_isPlace wsX6_isPlace) := goodIn_app (goodIn_of _ (by decide +kernel)) ggX6_ask_X6_isPlace
set_option maxRecDepth 20000 in
theorem ggX6_ask_X6_in : GoodIn wsX6_ask wsX6_in := goodIn_r _ [11] (by decide +kernel) (by decide +kernel)
set_option maxRecDepth 20000 in
theorem gX6_ask_X6_in : GoodIn wsX6_ask (va_wsS RX6 91 yX6_in wsX6_in) := goodIn_app (goodIn_of _ (by decide +kernel)) ggX6_ask_X6_in
set_option maxRecDepth 20000 in
theorem ggX6_ask_X6_look : GoodIn wsX6_ask wsX6_look := goodIn_r _ [15, 16, 17, 18, 19, 20, 6, 21, 22, 60, 61, 62, 63, 64, 65, 66, 67, 68, 69, 70, 71, 72, 73, 74, 75, 76, 77, 78, 79, 80, 81, 82, 83, 84, 85, 86, 87, 88, 89] (by decide +kernel) (by decide +kernel)
set_option maxRecDepth 20000 in
theorem gX6_ask_X6_look : GoodIn wsX6_ask (wsV RX6 122 RX6 yX6_look wsX6_look) := goodIn_app (goodIn_of _ (by decide +kernel)) ggX6_ask_X6_look
set_option maxRecDepth 20000 in
theorem ggX6_ask_X6_sized : GoodIn wsX6_ask wsX6_sized := goodIn_r _ [26, 27, 28, 29, 30, 31, 6, 32, 33, 34, 35, 36, 17, 37, 38, 39, 40, 41, 42, 43, 44, 45, 3, 46, 47, 48, 49, 50, 51, 52, 53, 54, 55, 56, 57, 58, 59, 60, 61, 62, 63, 64, 65, 66, 67, 68, 69, 70, 71, 72, 73, 74, 75, 76, 77, 78, 79, 80, 81, 82, 83, 84, 85, 86, 87, 88, 89] (by decide +kernel) (by decide +kernel)
set_option maxRecDepth 20000 in
theorem gX6_ask_X6_sized : GoodIn wsX6_ask (wsV RX6 147 RX6 yX6_sized wsX6_sized) := goodIn_app (goodIn_of _ (by decide +kernel)) ggX6_ask_X6_sized
set_option maxRecDepth 20000 in
theorem ggX6_ask_X6_marked : GoodIn wsX6_ask wsX6_marked := goodIn_r _ [53, 29, 30, 31, 6, 32, 28, 33, 34, 35, 36, 17, 37, 42, 43, 44, 45, 3, 46, 47, 48, 49, 54, 55, 56, 57, 58, 59, 38, 39, 40, 41, 27, 60, 61, 62, 63, 64, 65, 66, 67, 68, 69, 70, 71, 72, 73, 74, 75, 76, 77, 78, 79, 80, 81, 82, 83, 84, 85, 86, 87, 88, 89] (by decide +kernel) (by decide +kernel)
set_option maxRecDepth 20000 in
theorem gX6_ask_X6_marked : GoodIn wsX6_ask (wsV RX6 144 RX6 yX6_marked wsX6_marked) := goodIn_app (goodIn_of _ (by decide +kernel)) ggX6_ask_X6_marked
theorem dX6_ask_0 : decode cX6_ask 0 = .ok (.aload_n 0, 1) := by decide +kernel
theorem dX6_ask_1 : decode cX6_ask 1 = .ok (.iconst 0, 1) := by decide +kernel
theorem dX6_ask_2 : decode cX6_ask 2 = .ok (.putfield 81, 3) := by decide +kernel
theorem dX6_ask_5 : decode cX6_ask 5 = .ok (.iload_n 1, 1) := by decide +kernel
theorem dX6_ask_6 : decode cX6_ask 6 = .ok (.invokestatic 111, 3) := by decide +kernel
theorem dX6_ask_9 : decode cX6_ask 9 = .ok (.ifCond .eq 13, 3) := by decide +kernel
theorem dX6_ask_12 : decode cX6_ask 12 = .ok (.iload_n 2, 1) := by decide +kernel
theorem dX6_ask_13 : decode cX6_ask 13 = .ok (.i2l, 1) := by decide +kernel
theorem dX6_ask_14 : decode cX6_ask 14 = .ok (.lconst 0, 1) := by decide +kernel
theorem dX6_ask_15 : decode cX6_ask 15 = .ok (.lconst 1, 1) := by decide +kernel
theorem dX6_ask_16 : decode cX6_ask 16 = .ok (.invokestatic 91, 3) := by decide +kernel
theorem dX6_ask_19 : decode cX6_ask 19 = .ok (.ifCond .ne 6, 3) := by decide +kernel
theorem dX6_ask_22 : decode cX6_ask 22 = .ok (.ldc 101, 2) := by decide +kernel
theorem dX6_ask_24 : decode cX6_ask 24 = .ok (.ireturn, 1) := by decide +kernel
theorem dX6_ask_25 : decode cX6_ask 25 = .ok (.aload_n 0, 1) := by decide +kernel
theorem dX6_ask_26 : decode cX6_ask 26 = .ok (.iconst 0, 1) := by decide +kernel
theorem dX6_ask_27 : decode cX6_ask 27 = .ok (.putfield 131, 3) := by decide +kernel
theorem dX6_ask_30 : decode cX6_ask 30 = .ok (.aload_n 0, 1) := by decide +kernel
theorem dX6_ask_31 : decode cX6_ask 31 = .ok (.iload_n 1, 1) := by decide +kernel
theorem dX6_ask_32 : decode cX6_ask 32 = .ok (.invokevirtual 122, 3) := by decide +kernel
theorem dX6_ask_35 : decode cX6_ask 35 = .ok (.istore_n 3, 1) := by decide +kernel
theorem dX6_ask_36 : decode cX6_ask 36 = .ok (.iload_n 3, 1) := by decide +kernel
theorem dX6_ask_37 : decode cX6_ask 37 = .ok (.ifCond .ge 7, 3) := by decide +kernel
theorem dX6_ask_40 : decode cX6_ask 40 = .ok (.iload_n 3, 1) := by decide +kernel
theorem dX6_ask_41 : decode cX6_ask 41 = .ok (.goto 20, 3) := by decide +kernel
theorem dX6_ask_44 : decode cX6_ask 44 = .ok (.iload_n 2, 1) := by decide +kernel
theorem dX6_ask_45 : decode cX6_ask 45 = .ok (.ifCond .ne 11, 3) := by decide +kernel
theorem dX6_ask_48 : decode cX6_ask 48 = .ok (.aload_n 0, 1) := by decide +kernel
theorem dX6_ask_49 : decode cX6_ask 49 = .ok (.iload_n 1, 1) := by decide +kernel
theorem dX6_ask_50 : decode cX6_ask 50 = .ok (.invokevirtual 147, 3) := by decide +kernel
theorem dX6_ask_53 : decode cX6_ask 53 = .ok (.goto 8, 3) := by decide +kernel
theorem dX6_ask_56 : decode cX6_ask 56 = .ok (.aload_n 0, 1) := by decide +kernel
theorem dX6_ask_57 : decode cX6_ask 57 = .ok (.iload_n 1, 1) := by decide +kernel
theorem dX6_ask_58 : decode cX6_ask 58 = .ok (.invokevirtual 144, 3) := by decide +kernel
theorem dX6_ask_61 : decode cX6_ask 61 = .ok (.ireturn, 1) := by decide +kernel
set_option maxRecDepth 20000 in
theorem ggX6_trace_X6_in : GoodIn wsX6_trace wsX6_in := goodIn_r _ [8] (by decide +kernel) (by decide +kernel)
set_option maxRecDepth 20000 in
theorem gX6_trace_X6_in : GoodIn wsX6_trace (va_wsS RX6 91 yX6_in wsX6_in) := goodIn_app (goodIn_of _ (by decide +kernel)) ggX6_trace_X6_in
theorem dX6_trace_0 : decode cX6_trace 0 = .ok (.aload_n 0, 1) := by decide +kernel
theorem dX6_trace_1 : decode cX6_trace 1 = .ok (.iconst 0, 1) := by decide +kernel
theorem dX6_trace_2 : decode cX6_trace 2 = .ok (.putfield 81, 3) := by decide +kernel
theorem dX6_trace_5 : decode cX6_trace 5 = .ok (.iload_n 1, 1) := by decide +kernel
theorem dX6_trace_6 : decode cX6_trace 6 = .ok (.i2l, 1) := by decide +kernel
theorem dX6_trace_7 : decode cX6_trace 7 = .ok (.lconst 0, 1) := by decide +kernel
theorem dX6_trace_8 : decode cX6_trace 8 = .ok (.aload_n 0, 1) := by decide +kernel
theorem dX6_trace_9 : decode cX6_trace 9 = .ok (.getfield 131, 3) := by decide +kernel
theorem dX6_trace_12 : decode cX6_trace 12 = .ok (.iconst 1, 1) := by decide +kernel
theorem dX6_trace_13 : decode cX6_trace 13 = .ok (.isub, 1) := by decide +kernel
theorem dX6_trace_14 : decode cX6_trace 14 = .ok (.i2l, 1) := by decide +kernel
theorem dX6_trace_15 : decode cX6_trace 15 = .ok (.invokestatic 91, 3) := by decide +kernel
theorem dX6_trace_18 : decode cX6_trace 18 = .ok (.ifCond .eq 12, 3) := by decide +kernel
theorem dX6_trace_21 : decode cX6_trace 21 = .ok (.aload_n 0, 1) := by decide +kernel
theorem dX6_trace_22 : decode cX6_trace 22 = .ok (.getfield 38, 3) := by decide +kernel
theorem dX6_trace_25 : decode cX6_trace 25 = .ok (.iload_n 1, 1) := by decide +kernel
theorem dX6_trace_26 : decode cX6_trace 26 = .ok (.iaload, 1) := by decide +kernel
theorem dX6_trace_27 : decode cX6_trace 27 = .ok (.goto 5, 3) := by decide +kernel
theorem dX6_trace_30 : decode cX6_trace 30 = .ok (.ldc 118, 2) := by decide +kernel
theorem dX6_trace_32 : decode cX6_trace 32 = .ok (.ireturn, 1) := by decide +kernel
theorem dX6_callFrom_0 : decode cX6_callFrom 0 = .ok (.ldc 118, 2) := by decide +kernel
theorem dX6_callFrom_2 : decode cX6_callFrom 2 = .ok (.istore 4, 2) := by decide +kernel
theorem dX6_callFrom_4 : decode cX6_callFrom 4 = .ok (.iload_n 2, 1) := by decide +kernel
theorem dX6_callFrom_5 : decode cX6_callFrom 5 = .ok (.aload_n 0, 1) := by decide +kernel
theorem dX6_callFrom_6 : decode cX6_callFrom 6 = .ok (.getfield 22, 3) := by decide +kernel
theorem dX6_callFrom_9 : decode cX6_callFrom 9 = .ok (.iload_n 1, 1) := by decide +kernel
theorem dX6_callFrom_10 : decode cX6_callFrom 10 = .ok (.iaload, 1) := by decide +kernel
theorem dX6_callFrom_11 : decode cX6_callFrom 11 = .ok (.imul, 1) := by decide +kernel
theorem dX6_callFrom_12 : decode cX6_callFrom 12 = .ok (.istore 5, 2) := by decide +kernel
theorem dX6_callFrom_14 : decode cX6_callFrom 14 = .ok (.iload 5, 2) := by decide +kernel
theorem dX6_callFrom_16 : decode cX6_callFrom 16 = .ok (.iload_n 2, 1) := by decide +kernel
theorem dX6_callFrom_17 : decode cX6_callFrom 17 = .ok (.iconst 1, 1) := by decide +kernel
theorem dX6_callFrom_18 : decode cX6_callFrom 18 = .ok (.iadd, 1) := by decide +kernel
theorem dX6_callFrom_19 : decode cX6_callFrom 19 = .ok (.aload_n 0, 1) := by decide +kernel
theorem dX6_callFrom_20 : decode cX6_callFrom 20 = .ok (.getfield 22, 3) := by decide +kernel
theorem dX6_callFrom_23 : decode cX6_callFrom 23 = .ok (.iload_n 1, 1) := by decide +kernel
theorem dX6_callFrom_24 : decode cX6_callFrom 24 = .ok (.iaload, 1) := by decide +kernel
theorem dX6_callFrom_25 : decode cX6_callFrom 25 = .ok (.imul, 1) := by decide +kernel
theorem dX6_callFrom_26 : decode cX6_callFrom 26 = .ok (.if_icmp .ge 51, 3) := by decide +kernel
theorem dX6_callFrom_29 : decode cX6_callFrom 29 = .ok (.aload_n 0, 1) := by decide +kernel
theorem dX6_callFrom_30 : decode cX6_callFrom 30 = .ok (.getfield 32, 3) := by decide +kernel
theorem dX6_callFrom_33 : decode cX6_callFrom 33 = .ok (.bipush 36, 2) := by decide +kernel
theorem dX6_callFrom_35 : decode cX6_callFrom 35 = .ok (.iload_n 1, 1) := by decide +kernel
theorem dX6_callFrom_36 : decode cX6_callFrom 36 = .ok (.imul, 1) := by decide +kernel
theorem dX6_callFrom_37 : decode cX6_callFrom 37 = .ok (.iload 5, 2) := by decide +kernel
theorem dX6_callFrom_39 : decode cX6_callFrom 39 = .ok (.iadd, 1) := by decide +kernel
theorem dX6_callFrom_40 : decode cX6_callFrom 40 = .ok (.iaload, 1) := by decide +kernel
theorem dX6_callFrom_41 : decode cX6_callFrom 41 = .ok (.ldc 118, 2) := by decide +kernel
theorem dX6_callFrom_43 : decode cX6_callFrom 43 = .ok (.if_icmp .eq 24, 3) := by decide +kernel
theorem dX6_callFrom_46 : decode cX6_callFrom 46 = .ok (.aload_n 0, 1) := by decide +kernel
