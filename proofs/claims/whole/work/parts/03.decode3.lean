theorem dX6_callFrom_47 : decode cX6_callFrom 47 = .ok (.getfield 35, 3) := by decide +kernel
theorem dX6_callFrom_50 : decode cX6_callFrom 50 = .ok (.bipush 36, 2) := by decide +kernel
theorem dX6_callFrom_52 : decode cX6_callFrom 52 = .ok (.iload_n 1, 1) := by decide +kernel
theorem dX6_callFrom_53 : decode cX6_callFrom 53 = .ok (.imul, 1) := by decide +kernel
theorem dX6_callFrom_54 : decode cX6_callFrom 54 = .ok (.iload 5, 2) := by decide +kernel
theorem dX6_callFrom_56 : decode cX6_callFrom 56 = .ok (.iadd, 1) := by decide +kernel
theorem dX6_callFrom_57 : decode cX6_callFrom 57 = .ok (.iaload, 1) := by decide +kernel
theorem dX6_callFrom_58 : decode cX6_callFrom 58 = .ok (.iload_n 3, 1) := by decide +kernel
theorem dX6_callFrom_59 : decode cX6_callFrom 59 = .ok (.if_icmp .ne 8, 3) := by decide +kernel
theorem dX6_callFrom_62 : decode cX6_callFrom 62 = .ok (.iload 5, 2) := by decide +kernel
theorem dX6_callFrom_64 : decode cX6_callFrom 64 = .ok (.goto 5, 3) := by decide +kernel
theorem dX6_callFrom_67 : decode cX6_callFrom 67 = .ok (.iload 4, 2) := by decide +kernel
theorem dX6_callFrom_69 : decode cX6_callFrom 69 = .ok (.istore 4, 2) := by decide +kernel
theorem dX6_callFrom_71 : decode cX6_callFrom 71 = .ok (.iinc 5 1, 3) := by decide +kernel
theorem dX6_callFrom_74 : decode cX6_callFrom 74 = .ok (.goto (-60), 3) := by decide +kernel
theorem dX6_callFrom_77 : decode cX6_callFrom 77 = .ok (.iload 4, 2) := by decide +kernel
theorem dX6_callFrom_79 : decode cX6_callFrom 79 = .ok (.ireturn, 1) := by decide +kernel
theorem dX6_callTo_0 : decode cX6_callTo 0 = .ok (.ldc 118, 2) := by decide +kernel
theorem dX6_callTo_2 : decode cX6_callTo 2 = .ok (.istore 4, 2) := by decide +kernel
theorem dX6_callTo_4 : decode cX6_callTo 4 = .ok (.iconst 0, 1) := by decide +kernel
theorem dX6_callTo_5 : decode cX6_callTo 5 = .ok (.istore 5, 2) := by decide +kernel
theorem dX6_callTo_7 : decode cX6_callTo 7 = .ok (.iload 5, 2) := by decide +kernel
theorem dX6_callTo_9 : decode cX6_callTo 9 = .ok (.aload_n 0, 1) := by decide +kernel
theorem dX6_callTo_10 : decode cX6_callTo 10 = .ok (.getfield 25, 3) := by decide +kernel
theorem dX6_callTo_13 : decode cX6_callTo 13 = .ok (.iload_n 1, 1) := by decide +kernel
theorem dX6_callTo_14 : decode cX6_callTo 14 = .ok (.iaload, 1) := by decide +kernel
theorem dX6_callTo_15 : decode cX6_callTo 15 = .ok (.aload_n 0, 1) := by decide +kernel
theorem dX6_callTo_16 : decode cX6_callTo 16 = .ok (.getfield 22, 3) := by decide +kernel
theorem dX6_callTo_19 : decode cX6_callTo 19 = .ok (.iload_n 1, 1) := by decide +kernel
theorem dX6_callTo_20 : decode cX6_callTo 20 = .ok (.iaload, 1) := by decide +kernel
theorem dX6_callTo_21 : decode cX6_callTo 21 = .ok (.imul, 1) := by decide +kernel
theorem dX6_callTo_22 : decode cX6_callTo 22 = .ok (.if_icmp .ge 68, 3) := by decide +kernel
theorem dX6_callTo_25 : decode cX6_callTo 25 = .ok (.aload_n 0, 1) := by decide +kernel
theorem dX6_callTo_26 : decode cX6_callTo 26 = .ok (.getfield 32, 3) := by decide +kernel
theorem dX6_callTo_29 : decode cX6_callTo 29 = .ok (.bipush 36, 2) := by decide +kernel
theorem dX6_callTo_31 : decode cX6_callTo 31 = .ok (.iload_n 1, 1) := by decide +kernel
theorem dX6_callTo_32 : decode cX6_callTo 32 = .ok (.imul, 1) := by decide +kernel
theorem dX6_callTo_33 : decode cX6_callTo 33 = .ok (.iload 5, 2) := by decide +kernel
theorem dX6_callTo_35 : decode cX6_callTo 35 = .ok (.iadd, 1) := by decide +kernel
theorem dX6_callTo_36 : decode cX6_callTo 36 = .ok (.iaload, 1) := by decide +kernel
theorem dX6_callTo_37 : decode cX6_callTo 37 = .ok (.istore 6, 2) := by decide +kernel
theorem dX6_callTo_39 : decode cX6_callTo 39 = .ok (.iload 6, 2) := by decide +kernel
theorem dX6_callTo_41 : decode cX6_callTo 41 = .ok (.ldc 118, 2) := by decide +kernel
theorem dX6_callTo_43 : decode cX6_callTo 43 = .ok (.if_icmp .eq 37, 3) := by decide +kernel
theorem dX6_callTo_46 : decode cX6_callTo 46 = .ok (.iload 6, 2) := by decide +kernel
theorem dX6_callTo_48 : decode cX6_callTo 48 = .ok (.aload_n 0, 1) := by decide +kernel
theorem dX6_callTo_49 : decode cX6_callTo 49 = .ok (.getfield 22, 3) := by decide +kernel
theorem dX6_callTo_52 : decode cX6_callTo 52 = .ok (.iload_n 1, 1) := by decide +kernel
theorem dX6_callTo_53 : decode cX6_callTo 53 = .ok (.iaload, 1) := by decide +kernel
theorem dX6_callTo_54 : decode cX6_callTo 54 = .ok (.idiv, 1) := by decide +kernel
theorem dX6_callTo_55 : decode cX6_callTo 55 = .ok (.iload_n 2, 1) := by decide +kernel
theorem dX6_callTo_56 : decode cX6_callTo 56 = .ok (.if_icmp .ne 24, 3) := by decide +kernel
theorem dX6_callTo_59 : decode cX6_callTo 59 = .ok (.aload_n 0, 1) := by decide +kernel
theorem dX6_callTo_60 : decode cX6_callTo 60 = .ok (.getfield 35, 3) := by decide +kernel
theorem dX6_callTo_63 : decode cX6_callTo 63 = .ok (.bipush 36, 2) := by decide +kernel
theorem dX6_callTo_65 : decode cX6_callTo 65 = .ok (.iload_n 1, 1) := by decide +kernel
theorem dX6_callTo_66 : decode cX6_callTo 66 = .ok (.imul, 1) := by decide +kernel
theorem dX6_callTo_67 : decode cX6_callTo 67 = .ok (.iload 5, 2) := by decide +kernel
theorem dX6_callTo_69 : decode cX6_callTo 69 = .ok (.iadd, 1) := by decide +kernel
theorem dX6_callTo_70 : decode cX6_callTo 70 = .ok (.iaload, 1) := by decide +kernel
theorem dX6_callTo_71 : decode cX6_callTo 71 = .ok (.iload_n 3, 1) := by decide +kernel
theorem dX6_callTo_72 : decode cX6_callTo 72 = .ok (.if_icmp .ne 8, 3) := by decide +kernel
theorem dX6_callTo_75 : decode cX6_callTo 75 = .ok (.iload 5, 2) := by decide +kernel
theorem dX6_callTo_77 : decode cX6_callTo 77 = .ok (.goto 5, 3) := by decide +kernel
theorem dX6_callTo_80 : decode cX6_callTo 80 = .ok (.iload 4, 2) := by decide +kernel
theorem dX6_callTo_82 : decode cX6_callTo 82 = .ok (.istore 4, 2) := by decide +kernel
theorem dX6_callTo_84 : decode cX6_callTo 84 = .ok (.iinc 5 1, 3) := by decide +kernel
theorem dX6_callTo_87 : decode cX6_callTo 87 = .ok (.goto (-80), 3) := by decide +kernel
theorem dX6_callTo_90 : decode cX6_callTo 90 = .ok (.iload 4, 2) := by decide +kernel
theorem dX6_callTo_92 : decode cX6_callTo 92 = .ok (.ireturn, 1) := by decide +kernel
set_option maxRecDepth 20000 in
theorem ggX6_isFree_X6_callFrom : GoodIn wsX6_isFree wsX6_callFrom := goodIn_r _ [7, 2, 8, 9, 10, 16, 17, 18, 19, 20, 21, 22, 23, 24, 25, 26, 27, 28, 29, 30, 31, 32, 33, 34, 35, 36, 37, 38, 39, 40, 41, 42, 43, 44, 45] (by decide +kernel) (by decide +kernel)
set_option maxRecDepth 20000 in
theorem gX6_isFree_X6_callFrom : GoodIn wsX6_isFree (wsV RX6 150 RX6 yX6_callFrom wsX6_callFrom) := goodIn_app (goodIn_of _ (by decide +kernel)) ggX6_isFree_X6_callFrom
set_option maxRecDepth 20000 in
theorem ggX6_isFree_X6_callTo : GoodIn wsX6_isFree wsX6_callTo := goodIn_r _ [14, 2, 15, 8, 9, 10, 16, 17, 18, 19, 20, 21, 22, 23, 24, 25, 26, 27, 28, 29, 30, 31, 32, 33, 34, 35, 36, 37, 38, 39, 40, 41, 42, 43, 44, 45] (by decide +kernel) (by decide +kernel)
set_option maxRecDepth 20000 in
theorem gX6_isFree_X6_callTo : GoodIn wsX6_isFree (wsV RX6 154 RX6 yX6_callTo wsX6_callTo) := goodIn_app (goodIn_of _ (by decide +kernel)) ggX6_isFree_X6_callTo
theorem dX6_isFree_0 : decode cX6_isFree 0 = .ok (.aload_n 0, 1) := by decide +kernel
theorem dX6_isFree_1 : decode cX6_isFree 1 = .ok (.getfield 28, 3) := by decide +kernel
theorem dX6_isFree_4 : decode cX6_isFree 4 = .ok (.bipush 12, 2) := by decide +kernel
theorem dX6_isFree_6 : decode cX6_isFree 6 = .ok (.iload_n 1, 1) := by decide +kernel
theorem dX6_isFree_7 : decode cX6_isFree 7 = .ok (.imul, 1) := by decide +kernel
theorem dX6_isFree_8 : decode cX6_isFree 8 = .ok (.iload 4, 2) := by decide +kernel
theorem dX6_isFree_10 : decode cX6_isFree 10 = .ok (.iadd, 1) := by decide +kernel
theorem dX6_isFree_11 : decode cX6_isFree 11 = .ok (.baload, 1) := by decide +kernel
theorem dX6_isFree_12 : decode cX6_isFree 12 = .ok (.ifCond .ne 33, 3) := by decide +kernel
theorem dX6_isFree_15 : decode cX6_isFree 15 = .ok (.aload_n 0, 1) := by decide +kernel
theorem dX6_isFree_16 : decode cX6_isFree 16 = .ok (.iload_n 1, 1) := by decide +kernel
theorem dX6_isFree_17 : decode cX6_isFree 17 = .ok (.iload_n 2, 1) := by decide +kernel
theorem dX6_isFree_18 : decode cX6_isFree 18 = .ok (.iload 4, 2) := by decide +kernel
theorem dX6_isFree_20 : decode cX6_isFree 20 = .ok (.invokevirtual 150, 3) := by decide +kernel
theorem dX6_isFree_23 : decode cX6_isFree 23 = .ok (.ldc 118, 2) := by decide +kernel
theorem dX6_isFree_25 : decode cX6_isFree 25 = .ok (.if_icmp .ne 20, 3) := by decide +kernel
theorem dX6_isFree_28 : decode cX6_isFree 28 = .ok (.aload_n 0, 1) := by decide +kernel
theorem dX6_isFree_29 : decode cX6_isFree 29 = .ok (.iload_n 1, 1) := by decide +kernel
theorem dX6_isFree_30 : decode cX6_isFree 30 = .ok (.iload_n 3, 1) := by decide +kernel
theorem dX6_isFree_31 : decode cX6_isFree 31 = .ok (.iload 4, 2) := by decide +kernel
theorem dX6_isFree_33 : decode cX6_isFree 33 = .ok (.invokevirtual 154, 3) := by decide +kernel
theorem dX6_isFree_36 : decode cX6_isFree 36 = .ok (.ldc 118, 2) := by decide +kernel
theorem dX6_isFree_38 : decode cX6_isFree 38 = .ok (.if_icmp .ne 7, 3) := by decide +kernel
theorem dX6_isFree_41 : decode cX6_isFree 41 = .ok (.iconst 1, 1) := by decide +kernel
theorem dX6_isFree_42 : decode cX6_isFree 42 = .ok (.goto 4, 3) := by decide +kernel
theorem dX6_isFree_45 : decode cX6_isFree 45 = .ok (.iconst 0, 1) := by decide +kernel
theorem dX6_isFree_46 : decode cX6_isFree 46 = .ok (.ireturn, 1) := by decide +kernel
set_option maxRecDepth 20000 in
theorem ggX6_findChain_X6_callTo : GoodIn wsX6_findChain wsX6_callTo := goodIn_r _ [10, 2, 11, 4, 5, 12, 17, 18, 19, 20, 21, 22, 23, 24, 25, 26, 27, 28, 29, 30, 31, 32, 33, 34, 35, 36, 37, 38, 39, 40, 41, 42, 43, 44, 45, 46] (by decide +kernel) (by decide +kernel)
set_option maxRecDepth 20000 in
theorem gX6_findChain_X6_callTo : GoodIn wsX6_findChain (wsV RX6 154 RX6 yX6_callTo wsX6_callTo) := goodIn_app (goodIn_of _ (by decide +kernel)) ggX6_findChain_X6_callTo
set_option maxRecDepth 20000 in
theorem ggX6_findChain_X6_callFrom : GoodIn wsX6_findChain wsX6_callFrom := goodIn_r _ [16, 2, 4, 5, 12, 17, 18, 19, 20, 21, 22, 23, 24, 25, 26, 27, 28, 29, 30, 31, 32, 33, 34, 35, 36, 37, 38, 39, 40, 41, 42, 43, 44, 45, 46] (by decide +kernel) (by decide +kernel)
set_option maxRecDepth 20000 in
theorem gX6_findChain_X6_callFrom : GoodIn wsX6_findChain (wsV RX6 150 RX6 yX6_callFrom wsX6_callFrom) := goodIn_app (goodIn_of _ (by decide +kernel)) ggX6_findChain_X6_callFrom
theorem dX6_findChain_0 : decode cX6_findChain 0 = .ok (.aload_n 0, 1) := by decide +kernel
theorem dX6_findChain_1 : decode cX6_findChain 1 = .ok (.iconst 0, 1) := by decide +kernel
theorem dX6_findChain_2 : decode cX6_findChain 2 = .ok (.putfield 157, 3) := by decide +kernel
theorem dX6_findChain_5 : decode cX6_findChain 5 = .ok (.aload_n 0, 1) := by decide +kernel
theorem dX6_findChain_6 : decode cX6_findChain 6 = .ok (.iload_n 1, 1) := by decide +kernel
theorem dX6_findChain_7 : decode cX6_findChain 7 = .ok (.iload_n 2, 1) := by decide +kernel
theorem dX6_findChain_8 : decode cX6_findChain 8 = .ok (.iload_n 3, 1) := by decide +kernel
theorem dX6_findChain_9 : decode cX6_findChain 9 = .ok (.invokevirtual 154, 3) := by decide +kernel
theorem dX6_findChain_12 : decode cX6_findChain 12 = .ok (.istore 5, 2) := by decide +kernel
theorem dX6_findChain_14 : decode cX6_findChain 14 = .ok (.iconst 1, 1) := by decide +kernel
theorem dX6_findChain_15 : decode cX6_findChain 15 = .ok (.istore 6, 2) := by decide +kernel
theorem dX6_findChain_17 : decode cX6_findChain 17 = .ok (.iload 5, 2) := by decide +kernel
theorem dX6_findChain_19 : decode cX6_findChain 19 = .ok (.ldc 118, 2) := by decide +kernel
theorem dX6_findChain_21 : decode cX6_findChain 21 = .ok (.if_icmp .eq 90, 3) := by decide +kernel
theorem dX6_findChain_24 : decode cX6_findChain 24 = .ok (.aload_n 0, 1) := by decide +kernel
theorem dX6_findChain_25 : decode cX6_findChain 25 = .ok (.getfield 41, 3) := by decide +kernel
theorem dX6_findChain_28 : decode cX6_findChain 28 = .ok (.aload_n 0, 1) := by decide +kernel
theorem dX6_findChain_29 : decode cX6_findChain 29 = .ok (.getfield 157, 3) := by decide +kernel
theorem dX6_findChain_32 : decode cX6_findChain 32 = .ok (.iload 5, 2) := by decide +kernel
theorem dX6_findChain_34 : decode cX6_findChain 34 = .ok (.iastore, 1) := by decide +kernel
theorem dX6_findChain_35 : decode cX6_findChain 35 = .ok (.aload_n 0, 1) := by decide +kernel
theorem dX6_findChain_36 : decode cX6_findChain 36 = .ok (.dup, 1) := by decide +kernel
theorem dX6_findChain_37 : decode cX6_findChain 37 = .ok (.getfield 157, 3) := by decide +kernel
theorem dX6_findChain_40 : decode cX6_findChain 40 = .ok (.iconst 1, 1) := by decide +kernel
theorem dX6_findChain_41 : decode cX6_findChain 41 = .ok (.iadd, 1) := by decide +kernel
theorem dX6_findChain_42 : decode cX6_findChain 42 = .ok (.putfield 157, 3) := by decide +kernel
theorem dX6_findChain_45 : decode cX6_findChain 45 = .ok (.iload 6, 2) := by decide +kernel
theorem dX6_findChain_47 : decode cX6_findChain 47 = .ok (.ifCond .eq 22, 3) := by decide +kernel
theorem dX6_findChain_50 : decode cX6_findChain 50 = .ok (.aload_n 0, 1) := by decide +kernel
theorem dX6_findChain_51 : decode cX6_findChain 51 = .ok (.iload_n 1, 1) := by decide +kernel
theorem dX6_findChain_52 : decode cX6_findChain 52 = .ok (.iload 5, 2) := by decide +kernel
theorem dX6_findChain_54 : decode cX6_findChain 54 = .ok (.aload_n 0, 1) := by decide +kernel
theorem dX6_findChain_55 : decode cX6_findChain 55 = .ok (.getfield 22, 3) := by decide +kernel
theorem dX6_findChain_58 : decode cX6_findChain 58 = .ok (.iload_n 1, 1) := by decide +kernel
theorem dX6_findChain_59 : decode cX6_findChain 59 = .ok (.iaload, 1) := by decide +kernel
theorem dX6_findChain_60 : decode cX6_findChain 60 = .ok (.idiv, 1) := by decide +kernel
theorem dX6_findChain_61 : decode cX6_findChain 61 = .ok (.iload 4, 2) := by decide +kernel
theorem dX6_findChain_63 : decode cX6_findChain 63 = .ok (.invokevirtual 150, 3) := by decide +kernel
theorem dX6_findChain_66 : decode cX6_findChain 66 = .ok (.goto 28, 3) := by decide +kernel
theorem dX6_findChain_69 : decode cX6_findChain 69 = .ok (.aload_n 0, 1) := by decide +kernel
theorem dX6_findChain_70 : decode cX6_findChain 70 = .ok (.iload_n 1, 1) := by decide +kernel
theorem dX6_findChain_71 : decode cX6_findChain 71 = .ok (.aload_n 0, 1) := by decide +kernel
theorem dX6_findChain_72 : decode cX6_findChain 72 = .ok (.getfield 32, 3) := by decide +kernel
theorem dX6_findChain_75 : decode cX6_findChain 75 = .ok (.bipush 36, 2) := by decide +kernel
theorem dX6_findChain_77 : decode cX6_findChain 77 = .ok (.iload_n 1, 1) := by decide +kernel
theorem dX6_findChain_78 : decode cX6_findChain 78 = .ok (.imul, 1) := by decide +kernel
theorem dX6_findChain_79 : decode cX6_findChain 79 = .ok (.iload 5, 2) := by decide +kernel
theorem dX6_findChain_81 : decode cX6_findChain 81 = .ok (.iadd, 1) := by decide +kernel
theorem dX6_findChain_82 : decode cX6_findChain 82 = .ok (.iaload, 1) := by decide +kernel
theorem dX6_findChain_83 : decode cX6_findChain 83 = .ok (.aload_n 0, 1) := by decide +kernel
theorem dX6_findChain_84 : decode cX6_findChain 84 = .ok (.getfield 22, 3) := by decide +kernel
theorem dX6_findChain_87 : decode cX6_findChain 87 = .ok (.iload_n 1, 1) := by decide +kernel
theorem dX6_findChain_88 : decode cX6_findChain 88 = .ok (.iaload, 1) := by decide +kernel
theorem dX6_findChain_89 : decode cX6_findChain 89 = .ok (.idiv, 1) := by decide +kernel
theorem dX6_findChain_90 : decode cX6_findChain 90 = .ok (.iload_n 3, 1) := by decide +kernel
theorem dX6_findChain_91 : decode cX6_findChain 91 = .ok (.invokevirtual 154, 3) := by decide +kernel
theorem dX6_findChain_94 : decode cX6_findChain 94 = .ok (.istore 5, 2) := by decide +kernel
theorem dX6_findChain_96 : decode cX6_findChain 96 = .ok (.iload 6, 2) := by decide +kernel
theorem dX6_findChain_98 : decode cX6_findChain 98 = .ok (.ifCond .ne 7, 3) := by decide +kernel
theorem dX6_findChain_101 : decode cX6_findChain 101 = .ok (.iconst 1, 1) := by decide +kernel
theorem dX6_findChain_102 : decode cX6_findChain 102 = .ok (.goto 4, 3) := by decide +kernel
theorem dX6_findChain_105 : decode cX6_findChain 105 = .ok (.iconst 0, 1) := by decide +kernel
theorem dX6_findChain_106 : decode cX6_findChain 106 = .ok (.istore 6, 2) := by decide +kernel
theorem dX6_findChain_108 : decode cX6_findChain 108 = .ok (.goto (-91), 3) := by decide +kernel
theorem dX6_findChain_111 : decode cX6_findChain 111 = .ok (.return_, 1) := by decide +kernel
set_option maxRecDepth 20000 in
theorem ggX6_best_X6_isFree : GoodIn wsX6_best wsX6_isFree := goodIn_r _ [11, 5, 3, 12, 13, 14, 10, 15, 16, 17, 18, 19, 20, 21, 22, 23, 29, 30, 31, 32, 33, 34, 35, 36, 37, 38, 39, 40, 41, 42, 43, 44, 45, 46, 47, 48, 49, 50, 51, 52, 53, 54, 55, 56, 57, 58] (by decide +kernel) (by decide +kernel)
set_option maxRecDepth 20000 in
theorem gX6_best_X6_isFree : GoodIn wsX6_best (wsV RX6 160 RX6 yX6_isFree wsX6_isFree) := goodIn_app (goodIn_of _ (by decide +kernel)) ggX6_best_X6_isFree
set_option maxRecDepth 20000 in
theorem ggX6_best_X6_callFrom : GoodIn wsX6_best wsX6_callFrom := goodIn_r _ [15, 3, 16, 17, 18, 29, 30, 31, 32, 33, 34, 35, 36, 37, 38, 39, 40, 41, 42, 43, 44, 45, 46, 47, 48, 49, 50, 51, 52, 53, 54, 55, 56, 57, 58] (by decide +kernel) (by decide +kernel)
set_option maxRecDepth 20000 in
theorem gX6_best_X6_callFrom : GoodIn wsX6_best (wsV RX6 150 RX6 yX6_callFrom wsX6_callFrom) := goodIn_app (goodIn_of _ (by decide +kernel)) ggX6_best_X6_callFrom
set_option maxRecDepth 20000 in
theorem ggX6_best_X6_callTo : GoodIn wsX6_best wsX6_callTo := goodIn_r _ [22, 3, 23, 16, 17, 18, 29, 30, 31, 32, 33, 34, 35, 36, 37, 38, 39, 40, 41, 42, 43, 44, 45, 46, 47, 48, 49, 50, 51, 52, 53, 54, 55, 56, 57, 58] (by decide +kernel) (by decide +kernel)
set_option maxRecDepth 20000 in
theorem gX6_best_X6_callTo : GoodIn wsX6_best (wsV RX6 154 RX6 yX6_callTo wsX6_callTo) := goodIn_app (goodIn_of _ (by decide +kernel)) ggX6_best_X6_callTo
set_option maxRecDepth 20000 in
theorem ggX6_best_X6_findChain : GoodIn wsX6_best wsX6_findChain := goodIn_r _ [27, 6, 3, 28, 16, 17, 19, 20, 21, 10, 22, 23, 18, 12, 13, 14, 15, 29, 30, 31, 32, 33, 34, 35, 36, 37, 38, 39, 40, 41, 42, 43, 44, 45, 46, 47, 48, 49, 50, 51, 52, 53, 54, 55, 56, 57, 58] (by decide +kernel) (by decide +kernel)
set_option maxRecDepth 20000 in
theorem gX6_best_X6_findChain : GoodIn wsX6_best (wsV RX6 170 RX6 yX6_findChain wsX6_findChain) := goodIn_app (goodIn_of _ (by decide +kernel)) ggX6_best_X6_findChain
theorem dX6_best_0 : decode cX6_best 0 = .ok (.iconst 0, 1) := by decide +kernel
theorem dX6_best_1 : decode cX6_best 1 = .ok (.istore 4, 2) := by decide +kernel
theorem dX6_best_3 : decode cX6_best 3 = .ok (.iload 4, 2) := by decide +kernel
theorem dX6_best_5 : decode cX6_best 5 = .ok (.aload_n 0, 1) := by decide +kernel
theorem dX6_best_6 : decode cX6_best 6 = .ok (.getfield 19, 3) := by decide +kernel
theorem dX6_best_9 : decode cX6_best 9 = .ok (.iload_n 1, 1) := by decide +kernel
theorem dX6_best_10 : decode cX6_best 10 = .ok (.iaload, 1) := by decide +kernel
theorem dX6_best_11 : decode cX6_best 11 = .ok (.if_icmp .ge 35, 3) := by decide +kernel
theorem dX6_best_14 : decode cX6_best 14 = .ok (.aload_n 0, 1) := by decide +kernel
theorem dX6_best_15 : decode cX6_best 15 = .ok (.iload_n 1, 1) := by decide +kernel
theorem dX6_best_16 : decode cX6_best 16 = .ok (.iload_n 2, 1) := by decide +kernel
theorem dX6_best_17 : decode cX6_best 17 = .ok (.iload_n 3, 1) := by decide +kernel
theorem dX6_best_18 : decode cX6_best 18 = .ok (.iload 4, 2) := by decide +kernel
theorem dX6_best_20 : decode cX6_best 20 = .ok (.invokevirtual 160, 3) := by decide +kernel
theorem dX6_best_23 : decode cX6_best 23 = .ok (.ifCond .eq 17, 3) := by decide +kernel
theorem dX6_best_26 : decode cX6_best 26 = .ok (.aload_n 0, 1) := by decide +kernel
theorem dX6_best_27 : decode cX6_best 27 = .ok (.iload 4, 2) := by decide +kernel
theorem dX6_best_29 : decode cX6_best 29 = .ok (.putfield 164, 3) := by decide +kernel
theorem dX6_best_32 : decode cX6_best 32 = .ok (.aload_n 0, 1) := by decide +kernel
theorem dX6_best_33 : decode cX6_best 33 = .ok (.ldc 118, 2) := by decide +kernel
theorem dX6_best_35 : decode cX6_best 35 = .ok (.putfield 167, 3) := by decide +kernel
theorem dX6_best_38 : decode cX6_best 38 = .ok (.iconst 0, 1) := by decide +kernel
theorem dX6_best_39 : decode cX6_best 39 = .ok (.ireturn, 1) := by decide +kernel
theorem dX6_best_40 : decode cX6_best 40 = .ok (.iinc 4 1, 3) := by decide +kernel
theorem dX6_best_43 : decode cX6_best 43 = .ok (.goto (-40), 3) := by decide +kernel
theorem dX6_best_46 : decode cX6_best 46 = .ok (.ldc 118, 2) := by decide +kernel
theorem dX6_best_48 : decode cX6_best 48 = .ok (.istore 4, 2) := by decide +kernel
theorem dX6_best_50 : decode cX6_best 50 = .ok (.iconst 0, 1) := by decide +kernel
theorem dX6_best_51 : decode cX6_best 51 = .ok (.istore 5, 2) := by decide +kernel
theorem dX6_best_53 : decode cX6_best 53 = .ok (.iload 5, 2) := by decide +kernel
theorem dX6_best_55 : decode cX6_best 55 = .ok (.aload_n 0, 1) := by decide +kernel
theorem dX6_best_56 : decode cX6_best 56 = .ok (.getfield 19, 3) := by decide +kernel
theorem dX6_best_59 : decode cX6_best 59 = .ok (.iload_n 1, 1) := by decide +kernel
theorem dX6_best_60 : decode cX6_best 60 = .ok (.iaload, 1) := by decide +kernel
theorem dX6_best_61 : decode cX6_best 61 = .ok (.if_icmp .ge 129, 3) := by decide +kernel
theorem dX6_best_64 : decode cX6_best 64 = .ok (.iconst 0, 1) := by decide +kernel
theorem dX6_best_65 : decode cX6_best 65 = .ok (.istore 6, 2) := by decide +kernel
theorem dX6_best_67 : decode cX6_best 67 = .ok (.iload 6, 2) := by decide +kernel
theorem dX6_best_69 : decode cX6_best 69 = .ok (.aload_n 0, 1) := by decide +kernel
theorem dX6_best_70 : decode cX6_best 70 = .ok (.getfield 19, 3) := by decide +kernel
theorem dX6_best_73 : decode cX6_best 73 = .ok (.iload_n 1, 1) := by decide +kernel
theorem dX6_best_74 : decode cX6_best 74 = .ok (.iaload, 1) := by decide +kernel
theorem dX6_best_75 : decode cX6_best 75 = .ok (.if_icmp .ge 109, 3) := by decide +kernel
theorem dX6_best_78 : decode cX6_best 78 = .ok (.aload_n 0, 1) := by decide +kernel
theorem dX6_best_79 : decode cX6_best 79 = .ok (.getfield 28, 3) := by decide +kernel
theorem dX6_best_82 : decode cX6_best 82 = .ok (.bipush 12, 2) := by decide +kernel
theorem dX6_best_84 : decode cX6_best 84 = .ok (.iload_n 1, 1) := by decide +kernel
theorem dX6_best_85 : decode cX6_best 85 = .ok (.imul, 1) := by decide +kernel
theorem dX6_best_86 : decode cX6_best 86 = .ok (.iload 5, 2) := by decide +kernel
theorem dX6_best_88 : decode cX6_best 88 = .ok (.iadd, 1) := by decide +kernel
theorem dX6_best_89 : decode cX6_best 89 = .ok (.baload, 1) := by decide +kernel
theorem dX6_best_90 : decode cX6_best 90 = .ok (.ifCond .ne 88, 3) := by decide +kernel
theorem dX6_best_93 : decode cX6_best 93 = .ok (.aload_n 0, 1) := by decide +kernel
theorem dX6_best_94 : decode cX6_best 94 = .ok (.getfield 28, 3) := by decide +kernel
theorem dX6_best_97 : decode cX6_best 97 = .ok (.bipush 12, 2) := by decide +kernel
theorem dX6_best_99 : decode cX6_best 99 = .ok (.iload_n 1, 1) := by decide +kernel
theorem dX6_best_100 : decode cX6_best 100 = .ok (.imul, 1) := by decide +kernel
theorem dX6_best_101 : decode cX6_best 101 = .ok (.iload 6, 2) := by decide +kernel
theorem dX6_best_103 : decode cX6_best 103 = .ok (.iadd, 1) := by decide +kernel
theorem dX6_best_104 : decode cX6_best 104 = .ok (.baload, 1) := by decide +kernel
theorem dX6_best_105 : decode cX6_best 105 = .ok (.ifCond .ne 73, 3) := by decide +kernel
theorem dX6_best_108 : decode cX6_best 108 = .ok (.aload_n 0, 1) := by decide +kernel
theorem dX6_best_109 : decode cX6_best 109 = .ok (.iload_n 1, 1) := by decide +kernel
theorem dX6_best_110 : decode cX6_best 110 = .ok (.iload_n 2, 1) := by decide +kernel
theorem dX6_best_111 : decode cX6_best 111 = .ok (.iload 5, 2) := by decide +kernel
theorem dX6_best_113 : decode cX6_best 113 = .ok (.invokevirtual 150, 3) := by decide +kernel
theorem dX6_best_116 : decode cX6_best 116 = .ok (.ldc 118, 2) := by decide +kernel
theorem dX6_best_118 : decode cX6_best 118 = .ok (.if_icmp .ne 60, 3) := by decide +kernel
theorem dX6_best_121 : decode cX6_best 121 = .ok (.aload_n 0, 1) := by decide +kernel
theorem dX6_best_122 : decode cX6_best 122 = .ok (.iload_n 1, 1) := by decide +kernel
theorem dX6_best_123 : decode cX6_best 123 = .ok (.iload_n 3, 1) := by decide +kernel
theorem dX6_best_124 : decode cX6_best 124 = .ok (.iload 6, 2) := by decide +kernel
theorem dX6_best_126 : decode cX6_best 126 = .ok (.invokevirtual 154, 3) := by decide +kernel
theorem dX6_best_129 : decode cX6_best 129 = .ok (.ldc 118, 2) := by decide +kernel
theorem dX6_best_131 : decode cX6_best 131 = .ok (.if_icmp .ne 47, 3) := by decide +kernel
theorem dX6_best_134 : decode cX6_best 134 = .ok (.aload_n 0, 1) := by decide +kernel
theorem dX6_best_135 : decode cX6_best 135 = .ok (.iload_n 1, 1) := by decide +kernel
theorem dX6_best_136 : decode cX6_best 136 = .ok (.iload_n 3, 1) := by decide +kernel
theorem dX6_best_137 : decode cX6_best 137 = .ok (.iload 5, 2) := by decide +kernel
theorem dX6_best_139 : decode cX6_best 139 = .ok (.iload 6, 2) := by decide +kernel
theorem dX6_best_141 : decode cX6_best 141 = .ok (.invokevirtual 170, 3) := by decide +kernel
theorem dX6_best_144 : decode cX6_best 144 = .ok (.iload 4, 2) := by decide +kernel
theorem dX6_best_146 : decode cX6_best 146 = .ok (.ldc 118, 2) := by decide +kernel
theorem dX6_best_148 : decode cX6_best 148 = .ok (.if_icmp .eq 12, 3) := by decide +kernel
theorem dX6_best_151 : decode cX6_best 151 = .ok (.aload_n 0, 1) := by decide +kernel
theorem dX6_best_152 : decode cX6_best 152 = .ok (.getfield 157, 3) := by decide +kernel
theorem dX6_best_155 : decode cX6_best 155 = .ok (.iload 4, 2) := by decide +kernel
theorem dX6_best_157 : decode cX6_best 157 = .ok (.if_icmp .ge 21, 3) := by decide +kernel
theorem dX6_best_160 : decode cX6_best 160 = .ok (.aload_n 0, 1) := by decide +kernel
theorem dX6_best_161 : decode cX6_best 161 = .ok (.getfield 157, 3) := by decide +kernel
theorem dX6_best_164 : decode cX6_best 164 = .ok (.istore 4, 2) := by decide +kernel
theorem dX6_best_166 : decode cX6_best 166 = .ok (.aload_n 0, 1) := by decide +kernel
theorem dX6_best_167 : decode cX6_best 167 = .ok (.iload 5, 2) := by decide +kernel
theorem dX6_best_169 : decode cX6_best 169 = .ok (.putfield 164, 3) := by decide +kernel
theorem dX6_best_172 : decode cX6_best 172 = .ok (.aload_n 0, 1) := by decide +kernel
theorem dX6_best_173 : decode cX6_best 173 = .ok (.iload 6, 2) := by decide +kernel
theorem dX6_best_175 : decode cX6_best 175 = .ok (.putfield 167, 3) := by decide +kernel
theorem dX6_best_178 : decode cX6_best 178 = .ok (.iinc 6 1, 3) := by decide +kernel
theorem dX6_best_181 : decode cX6_best 181 = .ok (.goto (-114), 3) := by decide +kernel
theorem dX6_best_184 : decode cX6_best 184 = .ok (.iinc 5 1, 3) := by decide +kernel
theorem dX6_best_187 : decode cX6_best 187 = .ok (.goto (-134), 3) := by decide +kernel
theorem dX6_best_190 : decode cX6_best 190 = .ok (.iload 4, 2) := by decide +kernel
theorem dX6_best_192 : decode cX6_best 192 = .ok (.ireturn, 1) := by decide +kernel
set_option maxRecDepth 20000 in
theorem ggX6_setUp_X6_best : GoodIn wsX6_setUp wsX6_best := goodIn_r _ [13, 14, 3, 2, 4, 15, 5, 16, 17, 18, 12, 19, 20, 21, 22, 23, 1, 8, 6, 24, 25, 26, 27, 28, 29, 30, 31, 32, 7, 33, 34, 35, 36, 37, 38, 39, 40, 41, 42, 43, 44, 45, 46, 47, 48, 49, 50, 51, 52, 53, 54, 55, 56, 57, 58, 59, 60, 61, 62] (by decide +kernel) (by decide +kernel)
set_option maxRecDepth 20000 in
theorem gX6_setUp_X6_best : GoodIn wsX6_setUp (wsV RX6 174 RX6 yX6_best wsX6_best) := goodIn_app (goodIn_of _ (by decide +kernel)) ggX6_setUp_X6_best
set_option maxRecDepth 20000 in
theorem ggX6_setUp_X6_findChain : GoodIn wsX6_setUp wsX6_findChain := goodIn_r _ [32, 5, 2, 7, 1, 8, 24, 25, 26, 12, 27, 28, 6, 20, 21, 22, 23, 33, 34, 35, 36, 37, 38, 39, 40, 41, 42, 43, 44, 45, 46, 47, 48, 49, 50, 51, 52, 53, 54, 55, 56, 57, 58, 59, 60, 61, 62] (by decide +kernel) (by decide +kernel)
set_option maxRecDepth 20000 in
theorem gX6_setUp_X6_findChain : GoodIn wsX6_setUp (wsV RX6 170 RX6 yX6_findChain wsX6_findChain) := goodIn_app (goodIn_of _ (by decide +kernel)) ggX6_setUp_X6_findChain
theorem dX6_setUp_0 : decode cX6_setUp 0 = .ok (.aload_n 0, 1) := by decide +kernel
theorem dX6_setUp_1 : decode cX6_setUp 1 = .ok (.iload_n 1, 1) := by decide +kernel
theorem dX6_setUp_2 : decode cX6_setUp 2 = .ok (.iload_n 2, 1) := by decide +kernel
theorem dX6_setUp_3 : decode cX6_setUp 3 = .ok (.aload_n 0, 1) := by decide +kernel
theorem dX6_setUp_4 : decode cX6_setUp 4 = .ok (.getfield 22, 3) := by decide +kernel
theorem dX6_setUp_7 : decode cX6_setUp 7 = .ok (.iload_n 1, 1) := by decide +kernel
theorem dX6_setUp_8 : decode cX6_setUp 8 = .ok (.iaload, 1) := by decide +kernel
theorem dX6_setUp_9 : decode cX6_setUp 9 = .ok (.idiv, 1) := by decide +kernel
theorem dX6_setUp_10 : decode cX6_setUp 10 = .ok (.iload_n 3, 1) := by decide +kernel
theorem dX6_setUp_11 : decode cX6_setUp 11 = .ok (.aload_n 0, 1) := by decide +kernel
theorem dX6_setUp_12 : decode cX6_setUp 12 = .ok (.getfield 22, 3) := by decide +kernel
theorem dX6_setUp_15 : decode cX6_setUp 15 = .ok (.iload_n 1, 1) := by decide +kernel
theorem dX6_setUp_16 : decode cX6_setUp 16 = .ok (.iaload, 1) := by decide +kernel
theorem dX6_setUp_17 : decode cX6_setUp 17 = .ok (.idiv, 1) := by decide +kernel
theorem dX6_setUp_18 : decode cX6_setUp 18 = .ok (.invokevirtual 174, 3) := by decide +kernel
theorem dX6_setUp_21 : decode cX6_setUp 21 = .ok (.istore 4, 2) := by decide +kernel
theorem dX6_setUp_23 : decode cX6_setUp 23 = .ok (.iload 4, 2) := by decide +kernel
theorem dX6_setUp_25 : decode cX6_setUp 25 = .ok (.ldc 118, 2) := by decide +kernel
theorem dX6_setUp_27 : decode cX6_setUp 27 = .ok (.if_icmp .ne 6, 3) := by decide +kernel
theorem dX6_setUp_30 : decode cX6_setUp 30 = .ok (.ldc 118, 2) := by decide +kernel
theorem dX6_setUp_32 : decode cX6_setUp 32 = .ok (.ireturn, 1) := by decide +kernel
theorem dX6_setUp_33 : decode cX6_setUp 33 = .ok (.iload 4, 2) := by decide +kernel
theorem dX6_setUp_35 : decode cX6_setUp 35 = .ok (.ifCond .le 94, 3) := by decide +kernel
theorem dX6_setUp_38 : decode cX6_setUp 38 = .ok (.aload_n 0, 1) := by decide +kernel
theorem dX6_setUp_39 : decode cX6_setUp 39 = .ok (.iload_n 1, 1) := by decide +kernel
theorem dX6_setUp_40 : decode cX6_setUp 40 = .ok (.iload_n 3, 1) := by decide +kernel
theorem dX6_setUp_41 : decode cX6_setUp 41 = .ok (.aload_n 0, 1) := by decide +kernel
theorem dX6_setUp_42 : decode cX6_setUp 42 = .ok (.getfield 22, 3) := by decide +kernel
theorem dX6_setUp_45 : decode cX6_setUp 45 = .ok (.iload_n 1, 1) := by decide +kernel
theorem dX6_setUp_46 : decode cX6_setUp 46 = .ok (.iaload, 1) := by decide +kernel
theorem dX6_setUp_47 : decode cX6_setUp 47 = .ok (.idiv, 1) := by decide +kernel
theorem dX6_setUp_48 : decode cX6_setUp 48 = .ok (.aload_n 0, 1) := by decide +kernel
theorem dX6_setUp_49 : decode cX6_setUp 49 = .ok (.getfield 164, 3) := by decide +kernel
theorem dX6_setUp_52 : decode cX6_setUp 52 = .ok (.aload_n 0, 1) := by decide +kernel
theorem dX6_setUp_53 : decode cX6_setUp 53 = .ok (.getfield 167, 3) := by decide +kernel
theorem dX6_setUp_56 : decode cX6_setUp 56 = .ok (.invokevirtual 170, 3) := by decide +kernel
theorem dX6_setUp_59 : decode cX6_setUp 59 = .ok (.iconst 0, 1) := by decide +kernel
theorem dX6_setUp_60 : decode cX6_setUp 60 = .ok (.istore 5, 2) := by decide +kernel
theorem dX6_setUp_62 : decode cX6_setUp 62 = .ok (.iload 5, 2) := by decide +kernel
theorem dX6_setUp_64 : decode cX6_setUp 64 = .ok (.aload_n 0, 1) := by decide +kernel
theorem dX6_setUp_65 : decode cX6_setUp 65 = .ok (.getfield 157, 3) := by decide +kernel
theorem dX6_setUp_68 : decode cX6_setUp 68 = .ok (.if_icmp .ge 61, 3) := by decide +kernel
theorem dX6_setUp_71 : decode cX6_setUp 71 = .ok (.aload_n 0, 1) := by decide +kernel
theorem dX6_setUp_72 : decode cX6_setUp 72 = .ok (.getfield 35, 3) := by decide +kernel
theorem dX6_setUp_75 : decode cX6_setUp 75 = .ok (.bipush 36, 2) := by decide +kernel
theorem dX6_setUp_77 : decode cX6_setUp 77 = .ok (.iload_n 1, 1) := by decide +kernel
theorem dX6_setUp_78 : decode cX6_setUp 78 = .ok (.imul, 1) := by decide +kernel
theorem dX6_setUp_79 : decode cX6_setUp 79 = .ok (.aload_n 0, 1) := by decide +kernel
theorem dX6_setUp_80 : decode cX6_setUp 80 = .ok (.getfield 41, 3) := by decide +kernel
theorem dX6_setUp_83 : decode cX6_setUp 83 = .ok (.iload 5, 2) := by decide +kernel
theorem dX6_setUp_85 : decode cX6_setUp 85 = .ok (.iaload, 1) := by decide +kernel
theorem dX6_setUp_86 : decode cX6_setUp 86 = .ok (.iadd, 1) := by decide +kernel
theorem dX6_setUp_87 : decode cX6_setUp 87 = .ok (.aload_n 0, 1) := by decide +kernel
theorem dX6_setUp_88 : decode cX6_setUp 88 = .ok (.getfield 35, 3) := by decide +kernel
theorem dX6_setUp_91 : decode cX6_setUp 91 = .ok (.bipush 36, 2) := by decide +kernel
theorem dX6_setUp_93 : decode cX6_setUp 93 = .ok (.iload_n 1, 1) := by decide +kernel
theorem dX6_setUp_94 : decode cX6_setUp 94 = .ok (.imul, 1) := by decide +kernel
theorem dX6_setUp_95 : decode cX6_setUp 95 = .ok (.aload_n 0, 1) := by decide +kernel
theorem dX6_setUp_96 : decode cX6_setUp 96 = .ok (.getfield 41, 3) := by decide +kernel
theorem dX6_setUp_99 : decode cX6_setUp 99 = .ok (.iload 5, 2) := by decide +kernel
theorem dX6_setUp_101 : decode cX6_setUp 101 = .ok (.iaload, 1) := by decide +kernel
theorem dX6_setUp_102 : decode cX6_setUp 102 = .ok (.iadd, 1) := by decide +kernel
theorem dX6_setUp_103 : decode cX6_setUp 103 = .ok (.iaload, 1) := by decide +kernel
theorem dX6_setUp_104 : decode cX6_setUp 104 = .ok (.aload_n 0, 1) := by decide +kernel
theorem dX6_setUp_105 : decode cX6_setUp 105 = .ok (.getfield 164, 3) := by decide +kernel
theorem dX6_setUp_108 : decode cX6_setUp 108 = .ok (.if_icmp .ne 10, 3) := by decide +kernel
theorem dX6_setUp_111 : decode cX6_setUp 111 = .ok (.aload_n 0, 1) := by decide +kernel
theorem dX6_setUp_112 : decode cX6_setUp 112 = .ok (.getfield 167, 3) := by decide +kernel
theorem dX6_setUp_115 : decode cX6_setUp 115 = .ok (.goto 7, 3) := by decide +kernel
theorem dX6_setUp_118 : decode cX6_setUp 118 = .ok (.aload_n 0, 1) := by decide +kernel
theorem dX6_setUp_119 : decode cX6_setUp 119 = .ok (.getfield 164, 3) := by decide +kernel
theorem dX6_setUp_122 : decode cX6_setUp 122 = .ok (.iastore, 1) := by decide +kernel
theorem dX6_setUp_123 : decode cX6_setUp 123 = .ok (.iinc 5 1, 3) := by decide +kernel
theorem dX6_setUp_126 : decode cX6_setUp 126 = .ok (.goto (-64), 3) := by decide +kernel
theorem dX6_setUp_129 : decode cX6_setUp 129 = .ok (.aload_n 0, 1) := by decide +kernel
theorem dX6_setUp_130 : decode cX6_setUp 130 = .ok (.getfield 32, 3) := by decide +kernel
theorem dX6_setUp_133 : decode cX6_setUp 133 = .ok (.bipush 36, 2) := by decide +kernel
theorem dX6_setUp_135 : decode cX6_setUp 135 = .ok (.iload_n 1, 1) := by decide +kernel
theorem dX6_setUp_136 : decode cX6_setUp 136 = .ok (.imul, 1) := by decide +kernel
theorem dX6_setUp_137 : decode cX6_setUp 137 = .ok (.iload_n 2, 1) := by decide +kernel
theorem dX6_setUp_138 : decode cX6_setUp 138 = .ok (.iadd, 1) := by decide +kernel
theorem dX6_setUp_139 : decode cX6_setUp 139 = .ok (.iload_n 3, 1) := by decide +kernel
theorem dX6_setUp_140 : decode cX6_setUp 140 = .ok (.iastore, 1) := by decide +kernel
theorem dX6_setUp_141 : decode cX6_setUp 141 = .ok (.aload_n 0, 1) := by decide +kernel
theorem dX6_setUp_142 : decode cX6_setUp 142 = .ok (.getfield 35, 3) := by decide +kernel
theorem dX6_setUp_145 : decode cX6_setUp 145 = .ok (.bipush 36, 2) := by decide +kernel
theorem dX6_setUp_147 : decode cX6_setUp 147 = .ok (.iload_n 1, 1) := by decide +kernel
theorem dX6_setUp_148 : decode cX6_setUp 148 = .ok (.imul, 1) := by decide +kernel
theorem dX6_setUp_149 : decode cX6_setUp 149 = .ok (.iload_n 2, 1) := by decide +kernel
theorem dX6_setUp_150 : decode cX6_setUp 150 = .ok (.iadd, 1) := by decide +kernel
theorem dX6_setUp_151 : decode cX6_setUp 151 = .ok (.aload_n 0, 1) := by decide +kernel
theorem dX6_setUp_152 : decode cX6_setUp 152 = .ok (.getfield 164, 3) := by decide +kernel
theorem dX6_setUp_155 : decode cX6_setUp 155 = .ok (.iastore, 1) := by decide +kernel
theorem dX6_setUp_156 : decode cX6_setUp 156 = .ok (.iload 4, 2) := by decide +kernel
theorem dX6_setUp_158 : decode cX6_setUp 158 = .ok (.ireturn, 1) := by decide +kernel
set_option maxRecDepth 20000 in
theorem ggX6_isLine_X6_in : GoodIn wsX6_isLine wsX6_in := goodIn_r _ [6] (by decide +kernel) (by decide +kernel)
set_option maxRecDepth 20000 in
theorem gX6_isLine_X6_in : GoodIn wsX6_isLine (va_wsS RX6 91 yX6_in wsX6_in) := goodIn_app (goodIn_of _ (by decide +kernel)) ggX6_isLine_X6_in
theorem dX6_isLine_0 : decode cX6_isLine 0 = .ok (.iload_n 2, 1) := by decide +kernel
theorem dX6_isLine_1 : decode cX6_isLine 1 = .ok (.i2l, 1) := by decide +kernel
theorem dX6_isLine_2 : decode cX6_isLine 2 = .ok (.lconst 0, 1) := by decide +kernel
theorem dX6_isLine_3 : decode cX6_isLine 3 = .ok (.aload_n 0, 1) := by decide +kernel
theorem dX6_isLine_4 : decode cX6_isLine 4 = .ok (.getfield 25, 3) := by decide +kernel
theorem dX6_isLine_7 : decode cX6_isLine 7 = .ok (.iload_n 1, 1) := by decide +kernel
theorem dX6_isLine_8 : decode cX6_isLine 8 = .ok (.iaload, 1) := by decide +kernel
theorem dX6_isLine_9 : decode cX6_isLine 9 = .ok (.aload_n 0, 1) := by decide +kernel
theorem dX6_isLine_10 : decode cX6_isLine 10 = .ok (.getfield 22, 3) := by decide +kernel
theorem dX6_isLine_13 : decode cX6_isLine 13 = .ok (.iload_n 1, 1) := by decide +kernel
theorem dX6_isLine_14 : decode cX6_isLine 14 = .ok (.iaload, 1) := by decide +kernel
theorem dX6_isLine_15 : decode cX6_isLine 15 = .ok (.imul, 1) := by decide +kernel
theorem dX6_isLine_16 : decode cX6_isLine 16 = .ok (.iconst 1, 1) := by decide +kernel
theorem dX6_isLine_17 : decode cX6_isLine 17 = .ok (.isub, 1) := by decide +kernel
theorem dX6_isLine_18 : decode cX6_isLine 18 = .ok (.i2l, 1) := by decide +kernel
theorem dX6_isLine_19 : decode cX6_isLine 19 = .ok (.invokestatic 91, 3) := by decide +kernel
theorem dX6_isLine_22 : decode cX6_isLine 22 = .ok (.ireturn, 1) := by decide +kernel
theorem dX6_isTaken_0 : decode cX6_isTaken 0 = .ok (.aload_n 0, 1) := by decide +kernel
theorem dX6_isTaken_1 : decode cX6_isTaken 1 = .ok (.getfield 32, 3) := by decide +kernel
theorem dX6_isTaken_4 : decode cX6_isTaken 4 = .ok (.bipush 36, 2) := by decide +kernel
theorem dX6_isTaken_6 : decode cX6_isTaken 6 = .ok (.iload_n 1, 1) := by decide +kernel
theorem dX6_isTaken_7 : decode cX6_isTaken 7 = .ok (.imul, 1) := by decide +kernel
theorem dX6_isTaken_8 : decode cX6_isTaken 8 = .ok (.iload_n 2, 1) := by decide +kernel
theorem dX6_isTaken_9 : decode cX6_isTaken 9 = .ok (.iadd, 1) := by decide +kernel
theorem dX6_isTaken_10 : decode cX6_isTaken 10 = .ok (.iaload, 1) := by decide +kernel
theorem dX6_isTaken_11 : decode cX6_isTaken 11 = .ok (.ldc 118, 2) := by decide +kernel
theorem dX6_isTaken_13 : decode cX6_isTaken 13 = .ok (.if_icmp .eq 7, 3) := by decide +kernel
theorem dX6_isTaken_16 : decode cX6_isTaken 16 = .ok (.iconst 1, 1) := by decide +kernel
theorem dX6_isTaken_17 : decode cX6_isTaken 17 = .ok (.goto 4, 3) := by decide +kernel
theorem dX6_isTaken_20 : decode cX6_isTaken 20 = .ok (.iconst 0, 1) := by decide +kernel
theorem dX6_isTaken_21 : decode cX6_isTaken 21 = .ok (.istore 4, 2) := by decide +kernel
theorem dX6_isTaken_23 : decode cX6_isTaken 23 = .ok (.iconst 0, 1) := by decide +kernel
theorem dX6_isTaken_24 : decode cX6_isTaken 24 = .ok (.istore 5, 2) := by decide +kernel
theorem dX6_isTaken_26 : decode cX6_isTaken 26 = .ok (.iload 5, 2) := by decide +kernel
theorem dX6_isTaken_28 : decode cX6_isTaken 28 = .ok (.bipush 36, 2) := by decide +kernel
theorem dX6_isTaken_30 : decode cX6_isTaken 30 = .ok (.if_icmp .ge 37, 3) := by decide +kernel
theorem dX6_isTaken_33 : decode cX6_isTaken 33 = .ok (.iload 4, 2) := by decide +kernel
theorem dX6_isTaken_35 : decode cX6_isTaken 35 = .ok (.ifCond .ne 19, 3) := by decide +kernel
theorem dX6_isTaken_38 : decode cX6_isTaken 38 = .ok (.aload_n 0, 1) := by decide +kernel
theorem dX6_isTaken_39 : decode cX6_isTaken 39 = .ok (.getfield 32, 3) := by decide +kernel
theorem dX6_isTaken_42 : decode cX6_isTaken 42 = .ok (.bipush 36, 2) := by decide +kernel
theorem dX6_isTaken_44 : decode cX6_isTaken 44 = .ok (.iload_n 1, 1) := by decide +kernel
theorem dX6_isTaken_45 : decode cX6_isTaken 45 = .ok (.imul, 1) := by decide +kernel
theorem dX6_isTaken_46 : decode cX6_isTaken 46 = .ok (.iload 5, 2) := by decide +kernel
theorem dX6_isTaken_48 : decode cX6_isTaken 48 = .ok (.iadd, 1) := by decide +kernel
theorem dX6_isTaken_49 : decode cX6_isTaken 49 = .ok (.iaload, 1) := by decide +kernel
theorem dX6_isTaken_50 : decode cX6_isTaken 50 = .ok (.iload_n 3, 1) := by decide +kernel
theorem dX6_isTaken_51 : decode cX6_isTaken 51 = .ok (.if_icmp .ne 7, 3) := by decide +kernel
theorem dX6_isTaken_54 : decode cX6_isTaken 54 = .ok (.iconst 1, 1) := by decide +kernel
theorem dX6_isTaken_55 : decode cX6_isTaken 55 = .ok (.goto 4, 3) := by decide +kernel
theorem dX6_isTaken_58 : decode cX6_isTaken 58 = .ok (.iconst 0, 1) := by decide +kernel
theorem dX6_isTaken_59 : decode cX6_isTaken 59 = .ok (.istore 4, 2) := by decide +kernel
theorem dX6_isTaken_61 : decode cX6_isTaken 61 = .ok (.iinc 5 1, 3) := by decide +kernel
theorem dX6_isTaken_64 : decode cX6_isTaken 64 = .ok (.goto (-38), 3) := by decide +kernel
theorem dX6_isTaken_67 : decode cX6_isTaken 67 = .ok (.iload 4, 2) := by decide +kernel
theorem dX6_isTaken_69 : decode cX6_isTaken 69 = .ok (.ireturn, 1) := by decide +kernel
set_option maxRecDepth 20000 in
theorem ggX6_call_X6_isPlace : GoodIn wsX6_call wsX6_isPlace := goodIn_r _ [10, 11, 12, 13, 9, 14] (by decide +kernel) (by decide +kernel)
set_option maxRecDepth 20000 in
theorem gX6_call_X6_isPlace : GoodIn wsX6_call (va_wsS RX6 111 yX6_isPlace wsX6_isPlace) := goodIn_app (goodIn_of _ (by decide +kernel)) ggX6_call_X6_isPlace
set_option maxRecDepth 20000 in
theorem ggX6_call_X6_in : GoodIn wsX6_call wsX6_in := goodIn_r _ [14] (by decide +kernel) (by decide +kernel)
set_option maxRecDepth 20000 in
theorem gX6_call_X6_in : GoodIn wsX6_call (va_wsS RX6 91 yX6_in wsX6_in) := goodIn_app (goodIn_of _ (by decide +kernel)) ggX6_call_X6_in
set_option maxRecDepth 20000 in
theorem ggX6_call_X6_look : GoodIn wsX6_call wsX6_look := goodIn_r _ [18, 3, 19, 20, 21, 22, 9, 23, 24, 65, 66, 67, 68, 69, 70, 71, 72, 73, 74, 75, 76, 77, 78, 79, 80, 81, 82, 83, 84, 85, 86, 87, 88, 89, 90, 91, 92, 93, 94] (by decide +kernel) (by decide +kernel)
set_option maxRecDepth 20000 in
theorem gX6_call_X6_look : GoodIn wsX6_call (wsV RX6 122 RX6 yX6_look wsX6_look) := goodIn_app (goodIn_of _ (by decide +kernel)) ggX6_call_X6_look
set_option maxRecDepth 20000 in
theorem ggX6_call_X6_isLine : GoodIn wsX6_call wsX6_isLine := goodIn_r _ [28, 29, 5, 12, 13, 9, 14, 65, 66, 67, 68, 69, 70, 71, 72, 73, 74, 75, 76, 77, 78, 79, 80, 81, 82, 83, 84, 85, 86, 87, 88, 89, 90, 91, 92, 93, 94] (by decide +kernel) (by decide +kernel)
set_option maxRecDepth 20000 in
theorem gX6_call_X6_isLine : GoodIn wsX6_call (wsV RX6 177 RX6 yX6_isLine wsX6_isLine) := goodIn_app (goodIn_of _ (by decide +kernel)) ggX6_call_X6_isLine
set_option maxRecDepth 20000 in
theorem ggX6_call_X6_isTaken : GoodIn wsX6_call wsX6_isTaken := goodIn_r _ [33, 34, 6, 65, 66, 67, 68, 69, 70, 71, 72, 73, 74, 75, 76, 77, 78, 79, 80, 81, 82, 83, 84, 85, 86, 87, 88, 89, 90, 91, 92, 93, 94] (by decide +kernel) (by decide +kernel)
set_option maxRecDepth 20000 in
theorem gX6_call_X6_isTaken : GoodIn wsX6_call (wsV RX6 180 RX6 yX6_isTaken wsX6_isTaken) := goodIn_app (goodIn_of _ (by decide +kernel)) ggX6_call_X6_isTaken
set_option maxRecDepth 20000 in
theorem ggX6_call_X6_best : GoodIn wsX6_call wsX6_best := goodIn_r _ [38, 19, 39, 6, 40, 41, 42, 43, 44, 45, 9, 46, 47, 48, 49, 50, 5, 34, 51, 52, 53, 54, 55, 29, 56, 57, 58, 59, 60, 65, 66, 67, 68, 69, 70, 71, 72, 73, 74, 75, 76, 77, 78, 79, 80, 81, 82, 83, 84, 85, 86, 87, 88, 89, 90, 91, 92, 93, 94] (by decide +kernel) (by decide +kernel)
set_option maxRecDepth 20000 in
theorem gX6_call_X6_best : GoodIn wsX6_call (wsV RX6 174 RX6 yX6_best wsX6_best) := goodIn_app (goodIn_of _ (by decide +kernel)) ggX6_call_X6_best
set_option maxRecDepth 20000 in
theorem ggX6_call_X6_setUp : GoodIn wsX6_call wsX6_setUp := goodIn_r _ [64, 5, 6, 39, 40, 42, 51, 60, 34, 35, 36, 37, 9, 38, 19, 41, 43, 44, 45, 46, 47, 48, 49, 50, 52, 53, 54, 55, 29, 56, 57, 58, 59, 65, 66, 67, 68, 69, 70, 71, 72, 73, 74, 75, 76, 77, 78, 79, 80, 81, 82, 83, 84, 85, 86, 87, 88, 89, 90, 91, 92, 93, 94] (by decide +kernel) (by decide +kernel)
set_option maxRecDepth 20000 in
theorem gX6_call_X6_setUp : GoodIn wsX6_call (wsV RX6 185 RX6 yX6_setUp wsX6_setUp) := goodIn_app (goodIn_of _ (by decide +kernel)) ggX6_call_X6_setUp
theorem dX6_call_0 : decode cX6_call 0 = .ok (.aload_n 0, 1) := by decide +kernel
theorem dX6_call_1 : decode cX6_call 1 = .ok (.iconst 0, 1) := by decide +kernel
theorem dX6_call_2 : decode cX6_call 2 = .ok (.putfield 81, 3) := by decide +kernel
theorem dX6_call_5 : decode cX6_call 5 = .ok (.iload_n 1, 1) := by decide +kernel
theorem dX6_call_6 : decode cX6_call 6 = .ok (.invokestatic 111, 3) := by decide +kernel
theorem dX6_call_9 : decode cX6_call 9 = .ok (.ifCond .eq 14, 3) := by decide +kernel
theorem dX6_call_12 : decode cX6_call 12 = .ok (.iload 4, 2) := by decide +kernel
theorem dX6_call_14 : decode cX6_call 14 = .ok (.i2l, 1) := by decide +kernel
theorem dX6_call_15 : decode cX6_call 15 = .ok (.lconst 0, 1) := by decide +kernel
theorem dX6_call_16 : decode cX6_call 16 = .ok (.lconst 1, 1) := by decide +kernel
theorem dX6_call_17 : decode cX6_call 17 = .ok (.invokestatic 91, 3) := by decide +kernel
theorem dX6_call_20 : decode cX6_call 20 = .ok (.ifCond .ne 6, 3) := by decide +kernel
theorem dX6_call_23 : decode cX6_call 23 = .ok (.ldc 101, 2) := by decide +kernel
theorem dX6_call_25 : decode cX6_call 25 = .ok (.ireturn, 1) := by decide +kernel
theorem dX6_call_26 : decode cX6_call 26 = .ok (.aload_n 0, 1) := by decide +kernel
theorem dX6_call_27 : decode cX6_call 27 = .ok (.getfield 85, 3) := by decide +kernel
theorem dX6_call_30 : decode cX6_call 30 = .ok (.istore 5, 2) := by decide +kernel
theorem dX6_call_32 : decode cX6_call 32 = .ok (.aload_n 0, 1) := by decide +kernel
theorem dX6_call_33 : decode cX6_call 33 = .ok (.iload_n 1, 1) := by decide +kernel
theorem dX6_call_34 : decode cX6_call 34 = .ok (.invokevirtual 122, 3) := by decide +kernel
theorem dX6_call_37 : decode cX6_call 37 = .ok (.istore 6, 2) := by decide +kernel
theorem dX6_call_39 : decode cX6_call 39 = .ok (.iload 6, 2) := by decide +kernel
theorem dX6_call_41 : decode cX6_call 41 = .ok (.ifCond .ge 6, 3) := by decide +kernel
theorem dX6_call_44 : decode cX6_call 44 = .ok (.iload 6, 2) := by decide +kernel
theorem dX6_call_46 : decode cX6_call 46 = .ok (.ireturn, 1) := by decide +kernel
theorem dX6_call_47 : decode cX6_call 47 = .ok (.aload_n 0, 1) := by decide +kernel
theorem dX6_call_48 : decode cX6_call 48 = .ok (.iload_n 1, 1) := by decide +kernel
theorem dX6_call_49 : decode cX6_call 49 = .ok (.iload_n 2, 1) := by decide +kernel
theorem dX6_call_50 : decode cX6_call 50 = .ok (.invokevirtual 177, 3) := by decide +kernel
theorem dX6_call_53 : decode cX6_call 53 = .ok (.ifCond .eq 12, 3) := by decide +kernel
theorem dX6_call_56 : decode cX6_call 56 = .ok (.aload_n 0, 1) := by decide +kernel
theorem dX6_call_57 : decode cX6_call 57 = .ok (.iload_n 1, 1) := by decide +kernel
theorem dX6_call_58 : decode cX6_call 58 = .ok (.iload_n 3, 1) := by decide +kernel
theorem dX6_call_59 : decode cX6_call 59 = .ok (.invokevirtual 177, 3) := by decide +kernel
theorem dX6_call_62 : decode cX6_call 62 = .ok (.ifCond .ne 12, 3) := by decide +kernel
theorem dX6_call_65 : decode cX6_call 65 = .ok (.aload_n 0, 1) := by decide +kernel
theorem dX6_call_66 : decode cX6_call 66 = .ok (.iload 5, 2) := by decide +kernel
theorem dX6_call_68 : decode cX6_call 68 = .ok (.putfield 85, 3) := by decide +kernel
theorem dX6_call_71 : decode cX6_call 71 = .ok (.ldc 101, 2) := by decide +kernel
theorem dX6_call_73 : decode cX6_call 73 = .ok (.ireturn, 1) := by decide +kernel
theorem dX6_call_74 : decode cX6_call 74 = .ok (.aload_n 0, 1) := by decide +kernel
theorem dX6_call_75 : decode cX6_call 75 = .ok (.iload_n 1, 1) := by decide +kernel
theorem dX6_call_76 : decode cX6_call 76 = .ok (.iload_n 2, 1) := by decide +kernel
theorem dX6_call_77 : decode cX6_call 77 = .ok (.iload_n 3, 1) := by decide +kernel
theorem dX6_call_78 : decode cX6_call 78 = .ok (.invokevirtual 180, 3) := by decide +kernel
theorem dX6_call_81 : decode cX6_call 81 = .ok (.ifCond .eq 12, 3) := by decide +kernel
theorem dX6_call_84 : decode cX6_call 84 = .ok (.aload_n 0, 1) := by decide +kernel
theorem dX6_call_85 : decode cX6_call 85 = .ok (.iload 5, 2) := by decide +kernel
theorem dX6_call_87 : decode cX6_call 87 = .ok (.putfield 85, 3) := by decide +kernel
theorem dX6_call_90 : decode cX6_call 90 = .ok (.ldc 184, 2) := by decide +kernel
theorem dX6_call_92 : decode cX6_call 92 = .ok (.ireturn, 1) := by decide +kernel
theorem dX6_call_93 : decode cX6_call 93 = .ok (.aload_n 0, 1) := by decide +kernel
theorem dX6_call_94 : decode cX6_call 94 = .ok (.iload_n 1, 1) := by decide +kernel
theorem dX6_call_95 : decode cX6_call 95 = .ok (.iload_n 2, 1) := by decide +kernel
theorem dX6_call_96 : decode cX6_call 96 = .ok (.aload_n 0, 1) := by decide +kernel
theorem dX6_call_97 : decode cX6_call 97 = .ok (.getfield 22, 3) := by decide +kernel
theorem dX6_call_100 : decode cX6_call 100 = .ok (.iload_n 1, 1) := by decide +kernel
theorem dX6_call_101 : decode cX6_call 101 = .ok (.iaload, 1) := by decide +kernel
theorem dX6_call_102 : decode cX6_call 102 = .ok (.idiv, 1) := by decide +kernel
theorem dX6_call_103 : decode cX6_call 103 = .ok (.iload_n 3, 1) := by decide +kernel
theorem dX6_call_104 : decode cX6_call 104 = .ok (.aload_n 0, 1) := by decide +kernel
theorem dX6_call_105 : decode cX6_call 105 = .ok (.getfield 22, 3) := by decide +kernel
theorem dX6_call_108 : decode cX6_call 108 = .ok (.iload_n 1, 1) := by decide +kernel
theorem dX6_call_109 : decode cX6_call 109 = .ok (.iaload, 1) := by decide +kernel
theorem dX6_call_110 : decode cX6_call 110 = .ok (.idiv, 1) := by decide +kernel
theorem dX6_call_111 : decode cX6_call 111 = .ok (.invokevirtual 174, 3) := by decide +kernel
theorem dX6_call_114 : decode cX6_call 114 = .ok (.istore 7, 2) := by decide +kernel
theorem dX6_call_116 : decode cX6_call 116 = .ok (.iload 7, 2) := by decide +kernel
theorem dX6_call_118 : decode cX6_call 118 = .ok (.ldc 118, 2) := by decide +kernel
theorem dX6_call_120 : decode cX6_call 120 = .ok (.if_icmp .eq 13, 3) := by decide +kernel
theorem dX6_call_123 : decode cX6_call 123 = .ok (.iload 7, 2) := by decide +kernel
theorem dX6_call_125 : decode cX6_call 125 = .ok (.ifCond .le 13, 3) := by decide +kernel
theorem dX6_call_128 : decode cX6_call 128 = .ok (.iload 4, 2) := by decide +kernel
theorem dX6_call_130 : decode cX6_call 130 = .ok (.ifCond .ne 8, 3) := by decide +kernel
theorem dX6_call_133 : decode cX6_call 133 = .ok (.ldc 118, 2) := by decide +kernel
theorem dX6_call_135 : decode cX6_call 135 = .ok (.goto 10, 3) := by decide +kernel
theorem dX6_call_138 : decode cX6_call 138 = .ok (.aload_n 0, 1) := by decide +kernel
theorem dX6_call_139 : decode cX6_call 139 = .ok (.iload_n 1, 1) := by decide +kernel
theorem dX6_call_140 : decode cX6_call 140 = .ok (.iload_n 2, 1) := by decide +kernel
theorem dX6_call_141 : decode cX6_call 141 = .ok (.iload_n 3, 1) := by decide +kernel
theorem dX6_call_142 : decode cX6_call 142 = .ok (.invokevirtual 185, 3) := by decide +kernel
theorem dX6_call_145 : decode cX6_call 145 = .ok (.ireturn, 1) := by decide +kernel
set_option maxRecDepth 20000 in
theorem ggX6_end_X6_isPlace : GoodIn wsX6_end wsX6_isPlace := goodIn_r _ [9, 10, 11, 12, 8, 13] (by decide +kernel) (by decide +kernel)
set_option maxRecDepth 20000 in
theorem gX6_end_X6_isPlace : GoodIn wsX6_end (va_wsS RX6 111 yX6_isPlace wsX6_isPlace) := goodIn_app (goodIn_of _ (by decide +kernel)) ggX6_end_X6_isPlace
set_option maxRecDepth 20000 in
theorem ggX6_end_X6_look : GoodIn wsX6_end wsX6_look := goodIn_r _ [17, 3, 18, 19, 20, 21, 8, 22, 23, 30, 31, 32, 33, 34, 35, 36, 37, 38, 39, 40, 41, 42, 43, 44, 45, 46, 47, 48, 49, 50, 51, 52, 53, 54, 55, 56, 57, 58, 59] (by decide +kernel) (by decide +kernel)
set_option maxRecDepth 20000 in
theorem gX6_end_X6_look : GoodIn wsX6_end (wsV RX6 122 RX6 yX6_look wsX6_look) := goodIn_app (goodIn_of _ (by decide +kernel)) ggX6_end_X6_look
set_option maxRecDepth 20000 in
theorem ggX6_end_X6_isLine : GoodIn wsX6_end wsX6_isLine := goodIn_r _ [27, 28, 29, 11, 12, 8, 13, 30, 31, 32, 33, 34, 35, 36, 37, 38, 39, 40, 41, 42, 43, 44, 45, 46, 47, 48, 49, 50, 51, 52, 53, 54, 55, 56, 57, 58, 59] (by decide +kernel) (by decide +kernel)
set_option maxRecDepth 20000 in
theorem gX6_end_X6_isLine : GoodIn wsX6_end (wsV RX6 177 RX6 yX6_isLine wsX6_isLine) := goodIn_app (goodIn_of _ (by decide +kernel)) ggX6_end_X6_isLine
theorem dX6_end_0 : decode cX6_end 0 = .ok (.aload_n 0, 1) := by decide +kernel
theorem dX6_end_1 : decode cX6_end 1 = .ok (.iconst 0, 1) := by decide +kernel
theorem dX6_end_2 : decode cX6_end 2 = .ok (.putfield 81, 3) := by decide +kernel
theorem dX6_end_5 : decode cX6_end 5 = .ok (.iload_n 1, 1) := by decide +kernel
theorem dX6_end_6 : decode cX6_end 6 = .ok (.invokestatic 111, 3) := by decide +kernel
theorem dX6_end_9 : decode cX6_end 9 = .ok (.ifCond .ne 6, 3) := by decide +kernel
theorem dX6_end_12 : decode cX6_end 12 = .ok (.ldc 101, 2) := by decide +kernel
theorem dX6_end_14 : decode cX6_end 14 = .ok (.ireturn, 1) := by decide +kernel
theorem dX6_end_15 : decode cX6_end 15 = .ok (.aload_n 0, 1) := by decide +kernel
theorem dX6_end_16 : decode cX6_end 16 = .ok (.getfield 85, 3) := by decide +kernel
theorem dX6_end_19 : decode cX6_end 19 = .ok (.istore_n 3, 1) := by decide +kernel
theorem dX6_end_20 : decode cX6_end 20 = .ok (.aload_n 0, 1) := by decide +kernel
theorem dX6_end_21 : decode cX6_end 21 = .ok (.iload_n 1, 1) := by decide +kernel
theorem dX6_end_22 : decode cX6_end 22 = .ok (.invokevirtual 122, 3) := by decide +kernel
theorem dX6_end_25 : decode cX6_end 25 = .ok (.istore 4, 2) := by decide +kernel
theorem dX6_end_27 : decode cX6_end 27 = .ok (.iload 4, 2) := by decide +kernel
theorem dX6_end_29 : decode cX6_end 29 = .ok (.ifCond .ge 6, 3) := by decide +kernel
theorem dX6_end_32 : decode cX6_end 32 = .ok (.iload 4, 2) := by decide +kernel
theorem dX6_end_34 : decode cX6_end 34 = .ok (.ireturn, 1) := by decide +kernel
theorem dX6_end_35 : decode cX6_end 35 = .ok (.aload_n 0, 1) := by decide +kernel
theorem dX6_end_36 : decode cX6_end 36 = .ok (.iload_n 1, 1) := by decide +kernel
theorem dX6_end_37 : decode cX6_end 37 = .ok (.iload_n 2, 1) := by decide +kernel
theorem dX6_end_38 : decode cX6_end 38 = .ok (.invokevirtual 177, 3) := by decide +kernel
theorem dX6_end_41 : decode cX6_end 41 = .ok (.ifCond .ne 11, 3) := by decide +kernel
theorem dX6_end_44 : decode cX6_end 44 = .ok (.aload_n 0, 1) := by decide +kernel
theorem dX6_end_45 : decode cX6_end 45 = .ok (.iload_n 3, 1) := by decide +kernel
theorem dX6_end_46 : decode cX6_end 46 = .ok (.putfield 85, 3) := by decide +kernel
theorem dX6_end_49 : decode cX6_end 49 = .ok (.ldc 101, 2) := by decide +kernel
theorem dX6_end_51 : decode cX6_end 51 = .ok (.ireturn, 1) := by decide +kernel
theorem dX6_end_52 : decode cX6_end 52 = .ok (.aload_n 0, 1) := by decide +kernel
theorem dX6_end_53 : decode cX6_end 53 = .ok (.getfield 32, 3) := by decide +kernel
theorem dX6_end_56 : decode cX6_end 56 = .ok (.bipush 36, 2) := by decide +kernel
theorem dX6_end_58 : decode cX6_end 58 = .ok (.iload_n 1, 1) := by decide +kernel
theorem dX6_end_59 : decode cX6_end 59 = .ok (.imul, 1) := by decide +kernel
theorem dX6_end_60 : decode cX6_end 60 = .ok (.iload_n 2, 1) := by decide +kernel
theorem dX6_end_61 : decode cX6_end 61 = .ok (.iadd, 1) := by decide +kernel
theorem dX6_end_62 : decode cX6_end 62 = .ok (.iaload, 1) := by decide +kernel
theorem dX6_end_63 : decode cX6_end 63 = .ok (.istore 5, 2) := by decide +kernel
theorem dX6_end_65 : decode cX6_end 65 = .ok (.aload_n 0, 1) := by decide +kernel
theorem dX6_end_66 : decode cX6_end 66 = .ok (.getfield 32, 3) := by decide +kernel
theorem dX6_end_69 : decode cX6_end 69 = .ok (.bipush 36, 2) := by decide +kernel
theorem dX6_end_71 : decode cX6_end 71 = .ok (.iload_n 1, 1) := by decide +kernel
theorem dX6_end_72 : decode cX6_end 72 = .ok (.imul, 1) := by decide +kernel
theorem dX6_end_73 : decode cX6_end 73 = .ok (.iload_n 2, 1) := by decide +kernel
theorem dX6_end_74 : decode cX6_end 74 = .ok (.iadd, 1) := by decide +kernel
theorem dX6_end_75 : decode cX6_end 75 = .ok (.ldc 118, 2) := by decide +kernel
theorem dX6_end_77 : decode cX6_end 77 = .ok (.iastore, 1) := by decide +kernel
theorem dX6_end_78 : decode cX6_end 78 = .ok (.iload 5, 2) := by decide +kernel
theorem dX6_end_80 : decode cX6_end 80 = .ok (.ireturn, 1) := by decide +kernel
set_option maxRecDepth 20000 in
theorem ggX6_line_X6_isPlace : GoodIn wsX6_line wsX6_isPlace := goodIn_r _ [10, 11, 12, 13, 9, 14] (by decide +kernel) (by decide +kernel)
set_option maxRecDepth 20000 in
theorem gX6_line_X6_isPlace : GoodIn wsX6_line (va_wsS RX6 111 yX6_isPlace wsX6_isPlace) := goodIn_app (goodIn_of _ (by decide +kernel)) ggX6_line_X6_isPlace
set_option maxRecDepth 20000 in
theorem ggX6_line_X6_in : GoodIn wsX6_line wsX6_in := goodIn_r _ [14] (by decide +kernel) (by decide +kernel)
set_option maxRecDepth 20000 in
theorem gX6_line_X6_in : GoodIn wsX6_line (va_wsS RX6 91 yX6_in wsX6_in) := goodIn_app (goodIn_of _ (by decide +kernel)) ggX6_line_X6_in
set_option maxRecDepth 20000 in
theorem ggX6_line_X6_look : GoodIn wsX6_line wsX6_look := goodIn_r _ [18, 3, 19, 20, 21, 22, 9, 23, 24, 31, 32, 33, 34, 35, 36, 37, 38, 39, 40, 41, 42, 43, 44, 45, 46, 47, 48, 49, 50, 51, 52, 53, 54, 55, 56, 57, 58, 59, 60] (by decide +kernel) (by decide +kernel)
set_option maxRecDepth 20000 in
theorem gX6_line_X6_look : GoodIn wsX6_line (wsV RX6 122 RX6 yX6_look wsX6_look) := goodIn_app (goodIn_of _ (by decide +kernel)) ggX6_line_X6_look
set_option maxRecDepth 20000 in
theorem ggX6_line_X6_isLine : GoodIn wsX6_line wsX6_isLine := goodIn_r _ [28, 29, 30, 12, 13, 9, 14, 31, 32, 33, 34, 35, 36, 37, 38, 39, 40, 41, 42, 43, 44, 45, 46, 47, 48, 49, 50, 51, 52, 53, 54, 55, 56, 57, 58, 59, 60] (by decide +kernel) (by decide +kernel)
set_option maxRecDepth 20000 in
theorem gX6_line_X6_isLine : GoodIn wsX6_line (wsV RX6 177 RX6 yX6_isLine wsX6_isLine) := goodIn_app (goodIn_of _ (by decide +kernel)) ggX6_line_X6_isLine
theorem dX6_line_0 : decode cX6_line 0 = .ok (.aload_n 0, 1) := by decide +kernel
theorem dX6_line_1 : decode cX6_line 1 = .ok (.iconst 0, 1) := by decide +kernel
theorem dX6_line_2 : decode cX6_line 2 = .ok (.putfield 81, 3) := by decide +kernel
theorem dX6_line_5 : decode cX6_line 5 = .ok (.iload_n 1, 1) := by decide +kernel
theorem dX6_line_6 : decode cX6_line 6 = .ok (.invokestatic 111, 3) := by decide +kernel
theorem dX6_line_9 : decode cX6_line 9 = .ok (.ifCond .eq 13, 3) := by decide +kernel
theorem dX6_line_12 : decode cX6_line 12 = .ok (.iload_n 3, 1) := by decide +kernel
theorem dX6_line_13 : decode cX6_line 13 = .ok (.i2l, 1) := by decide +kernel
theorem dX6_line_14 : decode cX6_line 14 = .ok (.lconst 0, 1) := by decide +kernel
theorem dX6_line_15 : decode cX6_line 15 = .ok (.lconst 1, 1) := by decide +kernel
theorem dX6_line_16 : decode cX6_line 16 = .ok (.invokestatic 91, 3) := by decide +kernel
theorem dX6_line_19 : decode cX6_line 19 = .ok (.ifCond .ne 6, 3) := by decide +kernel
theorem dX6_line_22 : decode cX6_line 22 = .ok (.ldc 101, 2) := by decide +kernel
theorem dX6_line_24 : decode cX6_line 24 = .ok (.ireturn, 1) := by decide +kernel
theorem dX6_line_25 : decode cX6_line 25 = .ok (.aload_n 0, 1) := by decide +kernel
theorem dX6_line_26 : decode cX6_line 26 = .ok (.getfield 85, 3) := by decide +kernel
theorem dX6_line_29 : decode cX6_line 29 = .ok (.istore 4, 2) := by decide +kernel
theorem dX6_line_31 : decode cX6_line 31 = .ok (.aload_n 0, 1) := by decide +kernel
theorem dX6_line_32 : decode cX6_line 32 = .ok (.iload_n 1, 1) := by decide +kernel
theorem dX6_line_33 : decode cX6_line 33 = .ok (.invokevirtual 122, 3) := by decide +kernel
theorem dX6_line_36 : decode cX6_line 36 = .ok (.istore 5, 2) := by decide +kernel
theorem dX6_line_38 : decode cX6_line 38 = .ok (.iload 5, 2) := by decide +kernel
theorem dX6_line_40 : decode cX6_line 40 = .ok (.ifCond .ge 6, 3) := by decide +kernel
theorem dX6_line_43 : decode cX6_line 43 = .ok (.iload 5, 2) := by decide +kernel
theorem dX6_line_45 : decode cX6_line 45 = .ok (.ireturn, 1) := by decide +kernel
theorem dX6_line_46 : decode cX6_line 46 = .ok (.aload_n 0, 1) := by decide +kernel
theorem dX6_line_47 : decode cX6_line 47 = .ok (.iload_n 1, 1) := by decide +kernel
theorem dX6_line_48 : decode cX6_line 48 = .ok (.iload_n 2, 1) := by decide +kernel
theorem dX6_line_49 : decode cX6_line 49 = .ok (.invokevirtual 177, 3) := by decide +kernel
theorem dX6_line_52 : decode cX6_line 52 = .ok (.ifCond .ne 12, 3) := by decide +kernel
theorem dX6_line_55 : decode cX6_line 55 = .ok (.aload_n 0, 1) := by decide +kernel
theorem dX6_line_56 : decode cX6_line 56 = .ok (.iload 4, 2) := by decide +kernel
theorem dX6_line_58 : decode cX6_line 58 = .ok (.putfield 85, 3) := by decide +kernel
theorem dX6_line_61 : decode cX6_line 61 = .ok (.ldc 101, 2) := by decide +kernel
theorem dX6_line_63 : decode cX6_line 63 = .ok (.ireturn, 1) := by decide +kernel
theorem dX6_line_64 : decode cX6_line 64 = .ok (.aload_n 0, 1) := by decide +kernel
theorem dX6_line_65 : decode cX6_line 65 = .ok (.getfield 32, 3) := by decide +kernel
theorem dX6_line_68 : decode cX6_line 68 = .ok (.bipush 36, 2) := by decide +kernel
theorem dX6_line_70 : decode cX6_line 70 = .ok (.iload_n 1, 1) := by decide +kernel
theorem dX6_line_71 : decode cX6_line 71 = .ok (.imul, 1) := by decide +kernel
theorem dX6_line_72 : decode cX6_line 72 = .ok (.iload_n 2, 1) := by decide +kernel
theorem dX6_line_73 : decode cX6_line 73 = .ok (.iadd, 1) := by decide +kernel
theorem dX6_line_74 : decode cX6_line 74 = .ok (.iaload, 1) := by decide +kernel
theorem dX6_line_75 : decode cX6_line 75 = .ok (.ldc 118, 2) := by decide +kernel
theorem dX6_line_77 : decode cX6_line 77 = .ok (.if_icmp .ne 8, 3) := by decide +kernel
theorem dX6_line_80 : decode cX6_line 80 = .ok (.ldc 118, 2) := by decide +kernel
theorem dX6_line_82 : decode cX6_line 82 = .ok (.goto 32, 3) := by decide +kernel
theorem dX6_line_85 : decode cX6_line 85 = .ok (.iload_n 3, 1) := by decide +kernel
theorem dX6_line_86 : decode cX6_line 86 = .ok (.ifCond .ne 17, 3) := by decide +kernel
theorem dX6_line_89 : decode cX6_line 89 = .ok (.aload_n 0, 1) := by decide +kernel
theorem dX6_line_90 : decode cX6_line 90 = .ok (.getfield 32, 3) := by decide +kernel
theorem dX6_line_93 : decode cX6_line 93 = .ok (.bipush 36, 2) := by decide +kernel
theorem dX6_line_95 : decode cX6_line 95 = .ok (.iload_n 1, 1) := by decide +kernel
theorem dX6_line_96 : decode cX6_line 96 = .ok (.imul, 1) := by decide +kernel
theorem dX6_line_97 : decode cX6_line 97 = .ok (.iload_n 2, 1) := by decide +kernel
theorem dX6_line_98 : decode cX6_line 98 = .ok (.iadd, 1) := by decide +kernel
theorem dX6_line_99 : decode cX6_line 99 = .ok (.iaload, 1) := by decide +kernel
theorem dX6_line_100 : decode cX6_line 100 = .ok (.goto 14, 3) := by decide +kernel
theorem dX6_line_103 : decode cX6_line 103 = .ok (.aload_n 0, 1) := by decide +kernel
theorem dX6_line_104 : decode cX6_line 104 = .ok (.getfield 35, 3) := by decide +kernel
theorem dX6_line_107 : decode cX6_line 107 = .ok (.bipush 36, 2) := by decide +kernel
theorem dX6_line_109 : decode cX6_line 109 = .ok (.iload_n 1, 1) := by decide +kernel
theorem dX6_line_110 : decode cX6_line 110 = .ok (.imul, 1) := by decide +kernel
theorem dX6_line_111 : decode cX6_line 111 = .ok (.iload_n 2, 1) := by decide +kernel
theorem dX6_line_112 : decode cX6_line 112 = .ok (.iadd, 1) := by decide +kernel
theorem dX6_line_113 : decode cX6_line 113 = .ok (.iaload, 1) := by decide +kernel
theorem dX6_line_114 : decode cX6_line 114 = .ok (.ireturn, 1) := by decide +kernel
set_option maxRecDepth 20000 in
theorem ggX6_free_X6_isPlace : GoodIn wsX6_free wsX6_isPlace := goodIn_r _ [10, 11, 12, 13, 9, 14] (by decide +kernel) (by decide +kernel)
set_option maxRecDepth 20000 in
theorem gX6_free_X6_isPlace : GoodIn wsX6_free (va_wsS RX6 111 yX6_isPlace wsX6_isPlace) := goodIn_app (goodIn_of _ (by decide +kernel)) ggX6_free_X6_isPlace
set_option maxRecDepth 20000 in
theorem ggX6_free_X6_in : GoodIn wsX6_free wsX6_in := goodIn_r _ [14] (by decide +kernel) (by decide +kernel)
set_option maxRecDepth 20000 in
theorem gX6_free_X6_in : GoodIn wsX6_free (va_wsS RX6 91 yX6_in wsX6_in) := goodIn_app (goodIn_of _ (by decide +kernel)) ggX6_free_X6_in
set_option maxRecDepth 20000 in
theorem ggX6_free_X6_look : GoodIn wsX6_free wsX6_look := goodIn_r _ [18, 3, 6, 19, 20, 21, 9, 22, 23, 61, 62, 63, 64, 65, 66, 67, 68, 69, 70, 71, 72, 73, 74, 75, 76, 77, 78, 79, 80, 81, 82, 83, 84, 85, 86, 87, 88, 89, 90] (by decide +kernel) (by decide +kernel)
set_option maxRecDepth 20000 in
theorem gX6_free_X6_look : GoodIn wsX6_free (wsV RX6 122 RX6 yX6_look wsX6_look) := goodIn_app (goodIn_of _ (by decide +kernel)) ggX6_free_X6_look
set_option maxRecDepth 20000 in
theorem ggX6_free_X6_isLine : GoodIn wsX6_free wsX6_isLine := goodIn_r _ [27, 28, 5, 12, 13, 9, 14, 61, 62, 63, 64, 65, 66, 67, 68, 69, 70, 71, 72, 73, 74, 75, 76, 77, 78, 79, 80, 81, 82, 83, 84, 85, 86, 87, 88, 89, 90] (by decide +kernel) (by decide +kernel)
set_option maxRecDepth 20000 in
theorem gX6_free_X6_isLine : GoodIn wsX6_free (wsV RX6 177 RX6 yX6_isLine wsX6_isLine) := goodIn_app (goodIn_of _ (by decide +kernel)) ggX6_free_X6_isLine
set_option maxRecDepth 20000 in
theorem ggX6_free_X6_isTaken : GoodIn wsX6_free wsX6_isTaken := goodIn_r _ [32, 33, 34, 61, 62, 63, 64, 65, 66, 67, 68, 69, 70, 71, 72, 73, 74, 75, 76, 77, 78, 79, 80, 81, 82, 83, 84, 85, 86, 87, 88, 89, 90] (by decide +kernel) (by decide +kernel)
set_option maxRecDepth 20000 in
theorem gX6_free_X6_isTaken : GoodIn wsX6_free (wsV RX6 180 RX6 yX6_isTaken wsX6_isTaken) := goodIn_app (goodIn_of _ (by decide +kernel)) ggX6_free_X6_isTaken
set_option maxRecDepth 20000 in
theorem ggX6_free_X6_isFree : GoodIn wsX6_free wsX6_isFree := goodIn_r _ [38, 39, 34, 40, 41, 42, 9, 43, 5, 33, 44, 45, 46, 47, 48, 28, 61, 62, 63, 64, 65, 66, 67, 68, 69, 70, 71, 72, 73, 74, 75, 76, 77, 78, 79, 80, 81, 82, 83, 84, 85, 86, 87, 88, 89, 90] (by decide +kernel) (by decide +kernel)
set_option maxRecDepth 20000 in
theorem gX6_free_X6_isFree : GoodIn wsX6_free (wsV RX6 160 RX6 yX6_isFree wsX6_isFree) := goodIn_app (goodIn_of _ (by decide +kernel)) ggX6_free_X6_isFree
set_option maxRecDepth 20000 in
theorem ggX6_free_X6_best : GoodIn wsX6_free wsX6_best := goodIn_r _ [52, 6, 53, 34, 54, 39, 55, 35, 36, 37, 9, 38, 40, 41, 42, 43, 5, 33, 44, 45, 46, 47, 48, 28, 56, 57, 58, 59, 60, 61, 62, 63, 64, 65, 66, 67, 68, 69, 70, 71, 72, 73, 74, 75, 76, 77, 78, 79, 80, 81, 82, 83, 84, 85, 86, 87, 88, 89, 90] (by decide +kernel) (by decide +kernel)
set_option maxRecDepth 20000 in
theorem gX6_free_X6_best : GoodIn wsX6_free (wsV RX6 174 RX6 yX6_best wsX6_best) := goodIn_app (goodIn_of _ (by decide +kernel)) ggX6_free_X6_best
theorem dX6_free_0 : decode cX6_free 0 = .ok (.aload_n 0, 1) := by decide +kernel
theorem dX6_free_1 : decode cX6_free 1 = .ok (.iconst 0, 1) := by decide +kernel
theorem dX6_free_2 : decode cX6_free 2 = .ok (.putfield 81, 3) := by decide +kernel
theorem dX6_free_5 : decode cX6_free 5 = .ok (.iload_n 1, 1) := by decide +kernel
theorem dX6_free_6 : decode cX6_free 6 = .ok (.invokestatic 111, 3) := by decide +kernel
theorem dX6_free_9 : decode cX6_free 9 = .ok (.ifCond .eq 14, 3) := by decide +kernel
theorem dX6_free_12 : decode cX6_free 12 = .ok (.iload 4, 2) := by decide +kernel
theorem dX6_free_14 : decode cX6_free 14 = .ok (.i2l, 1) := by decide +kernel
theorem dX6_free_15 : decode cX6_free 15 = .ok (.lconst 0, 1) := by decide +kernel
theorem dX6_free_16 : decode cX6_free 16 = .ok (.lconst 1, 1) := by decide +kernel
theorem dX6_free_17 : decode cX6_free 17 = .ok (.invokestatic 91, 3) := by decide +kernel
theorem dX6_free_20 : decode cX6_free 20 = .ok (.ifCond .ne 6, 3) := by decide +kernel
theorem dX6_free_23 : decode cX6_free 23 = .ok (.ldc 101, 2) := by decide +kernel
theorem dX6_free_25 : decode cX6_free 25 = .ok (.ireturn, 1) := by decide +kernel
theorem dX6_free_26 : decode cX6_free 26 = .ok (.aload_n 0, 1) := by decide +kernel
theorem dX6_free_27 : decode cX6_free 27 = .ok (.getfield 85, 3) := by decide +kernel
theorem dX6_free_30 : decode cX6_free 30 = .ok (.istore 5, 2) := by decide +kernel
theorem dX6_free_32 : decode cX6_free 32 = .ok (.aload_n 0, 1) := by decide +kernel
theorem dX6_free_33 : decode cX6_free 33 = .ok (.iload_n 1, 1) := by decide +kernel
theorem dX6_free_34 : decode cX6_free 34 = .ok (.invokevirtual 122, 3) := by decide +kernel
theorem dX6_free_37 : decode cX6_free 37 = .ok (.istore 6, 2) := by decide +kernel
theorem dX6_free_39 : decode cX6_free 39 = .ok (.iload 6, 2) := by decide +kernel
theorem dX6_free_41 : decode cX6_free 41 = .ok (.ifCond .ge 6, 3) := by decide +kernel
theorem dX6_free_44 : decode cX6_free 44 = .ok (.iload 6, 2) := by decide +kernel
theorem dX6_free_46 : decode cX6_free 46 = .ok (.ireturn, 1) := by decide +kernel
theorem dX6_free_47 : decode cX6_free 47 = .ok (.aload_n 0, 1) := by decide +kernel
theorem dX6_free_48 : decode cX6_free 48 = .ok (.iload_n 1, 1) := by decide +kernel
theorem dX6_free_49 : decode cX6_free 49 = .ok (.iload_n 2, 1) := by decide +kernel
theorem dX6_free_50 : decode cX6_free 50 = .ok (.invokevirtual 177, 3) := by decide +kernel
theorem dX6_free_53 : decode cX6_free 53 = .ok (.ifCond .eq 12, 3) := by decide +kernel
theorem dX6_free_56 : decode cX6_free 56 = .ok (.aload_n 0, 1) := by decide +kernel
theorem dX6_free_57 : decode cX6_free 57 = .ok (.iload_n 1, 1) := by decide +kernel
theorem dX6_free_58 : decode cX6_free 58 = .ok (.iload_n 3, 1) := by decide +kernel
theorem dX6_free_59 : decode cX6_free 59 = .ok (.invokevirtual 177, 3) := by decide +kernel
theorem dX6_free_62 : decode cX6_free 62 = .ok (.ifCond .ne 12, 3) := by decide +kernel
theorem dX6_free_65 : decode cX6_free 65 = .ok (.aload_n 0, 1) := by decide +kernel
theorem dX6_free_66 : decode cX6_free 66 = .ok (.iload 5, 2) := by decide +kernel
theorem dX6_free_68 : decode cX6_free 68 = .ok (.putfield 85, 3) := by decide +kernel
theorem dX6_free_71 : decode cX6_free 71 = .ok (.ldc 101, 2) := by decide +kernel
theorem dX6_free_73 : decode cX6_free 73 = .ok (.ireturn, 1) := by decide +kernel
theorem dX6_free_74 : decode cX6_free 74 = .ok (.aload_n 0, 1) := by decide +kernel
theorem dX6_free_75 : decode cX6_free 75 = .ok (.iload_n 1, 1) := by decide +kernel
theorem dX6_free_76 : decode cX6_free 76 = .ok (.iload_n 2, 1) := by decide +kernel
theorem dX6_free_77 : decode cX6_free 77 = .ok (.iload_n 3, 1) := by decide +kernel
theorem dX6_free_78 : decode cX6_free 78 = .ok (.invokevirtual 180, 3) := by decide +kernel
theorem dX6_free_81 : decode cX6_free 81 = .ok (.ifCond .eq 12, 3) := by decide +kernel
theorem dX6_free_84 : decode cX6_free 84 = .ok (.aload_n 0, 1) := by decide +kernel
theorem dX6_free_85 : decode cX6_free 85 = .ok (.iload 5, 2) := by decide +kernel
theorem dX6_free_87 : decode cX6_free 87 = .ok (.putfield 85, 3) := by decide +kernel
theorem dX6_free_90 : decode cX6_free 90 = .ok (.ldc 184, 2) := by decide +kernel
theorem dX6_free_92 : decode cX6_free 92 = .ok (.ireturn, 1) := by decide +kernel
theorem dX6_free_93 : decode cX6_free 93 = .ok (.iload_n 2, 1) := by decide +kernel
theorem dX6_free_94 : decode cX6_free 94 = .ok (.aload_n 0, 1) := by decide +kernel
theorem dX6_free_95 : decode cX6_free 95 = .ok (.getfield 22, 3) := by decide +kernel
theorem dX6_free_98 : decode cX6_free 98 = .ok (.iload_n 1, 1) := by decide +kernel
theorem dX6_free_99 : decode cX6_free 99 = .ok (.iaload, 1) := by decide +kernel
theorem dX6_free_100 : decode cX6_free 100 = .ok (.idiv, 1) := by decide +kernel
theorem dX6_free_101 : decode cX6_free 101 = .ok (.istore 7, 2) := by decide +kernel
theorem dX6_free_103 : decode cX6_free 103 = .ok (.iload_n 3, 1) := by decide +kernel
theorem dX6_free_104 : decode cX6_free 104 = .ok (.aload_n 0, 1) := by decide +kernel
theorem dX6_free_105 : decode cX6_free 105 = .ok (.getfield 22, 3) := by decide +kernel
theorem dX6_free_108 : decode cX6_free 108 = .ok (.iload_n 1, 1) := by decide +kernel
theorem dX6_free_109 : decode cX6_free 109 = .ok (.iaload, 1) := by decide +kernel
theorem dX6_free_110 : decode cX6_free 110 = .ok (.idiv, 1) := by decide +kernel
theorem dX6_free_111 : decode cX6_free 111 = .ok (.istore 8, 2) := by decide +kernel
theorem dX6_free_113 : decode cX6_free 113 = .ok (.iconst 0, 1) := by decide +kernel
theorem dX6_free_114 : decode cX6_free 114 = .ok (.istore 9, 2) := by decide +kernel
theorem dX6_free_116 : decode cX6_free 116 = .ok (.iconst 0, 1) := by decide +kernel
theorem dX6_free_117 : decode cX6_free 117 = .ok (.istore 10, 2) := by decide +kernel
theorem dX6_free_119 : decode cX6_free 119 = .ok (.iload 10, 2) := by decide +kernel
theorem dX6_free_121 : decode cX6_free 121 = .ok (.aload_n 0, 1) := by decide +kernel
theorem dX6_free_122 : decode cX6_free 122 = .ok (.getfield 19, 3) := by decide +kernel
theorem dX6_free_125 : decode cX6_free 125 = .ok (.iload_n 1, 1) := by decide +kernel
theorem dX6_free_126 : decode cX6_free 126 = .ok (.iaload, 1) := by decide +kernel
theorem dX6_free_127 : decode cX6_free 127 = .ok (.if_icmp .ge 33, 3) := by decide +kernel
theorem dX6_free_130 : decode cX6_free 130 = .ok (.iload 9, 2) := by decide +kernel
theorem dX6_free_132 : decode cX6_free 132 = .ok (.aload_n 0, 1) := by decide +kernel
theorem dX6_free_133 : decode cX6_free 133 = .ok (.iload_n 1, 1) := by decide +kernel
theorem dX6_free_134 : decode cX6_free 134 = .ok (.iload 7, 2) := by decide +kernel
theorem dX6_free_136 : decode cX6_free 136 = .ok (.iload 8, 2) := by decide +kernel
theorem dX6_free_138 : decode cX6_free 138 = .ok (.iload 10, 2) := by decide +kernel
theorem dX6_free_140 : decode cX6_free 140 = .ok (.invokevirtual 160, 3) := by decide +kernel
theorem dX6_free_143 : decode cX6_free 143 = .ok (.ifCond .eq 7, 3) := by decide +kernel
theorem dX6_free_146 : decode cX6_free 146 = .ok (.iconst 1, 1) := by decide +kernel
theorem dX6_free_147 : decode cX6_free 147 = .ok (.goto 4, 3) := by decide +kernel
theorem dX6_free_150 : decode cX6_free 150 = .ok (.iconst 0, 1) := by decide +kernel
theorem dX6_free_151 : decode cX6_free 151 = .ok (.iadd, 1) := by decide +kernel
theorem dX6_free_152 : decode cX6_free 152 = .ok (.istore 9, 2) := by decide +kernel
theorem dX6_free_154 : decode cX6_free 154 = .ok (.iinc 10 1, 3) := by decide +kernel
theorem dX6_free_157 : decode cX6_free 157 = .ok (.goto (-38), 3) := by decide +kernel
theorem dX6_free_160 : decode cX6_free 160 = .ok (.iload 4, 2) := by decide +kernel
theorem dX6_free_162 : decode cX6_free 162 = .ok (.ifCond .ne 8, 3) := by decide +kernel
theorem dX6_free_165 : decode cX6_free 165 = .ok (.iload 9, 2) := by decide +kernel
theorem dX6_free_167 : decode cX6_free 167 = .ok (.goto 12, 3) := by decide +kernel
theorem dX6_free_170 : decode cX6_free 170 = .ok (.aload_n 0, 1) := by decide +kernel
theorem dX6_free_171 : decode cX6_free 171 = .ok (.iload_n 1, 1) := by decide +kernel
theorem dX6_free_172 : decode cX6_free 172 = .ok (.iload 7, 2) := by decide +kernel
theorem dX6_free_174 : decode cX6_free 174 = .ok (.iload 8, 2) := by decide +kernel
theorem dX6_free_176 : decode cX6_free 176 = .ok (.invokevirtual 174, 3) := by decide +kernel
theorem dX6_free_179 : decode cX6_free 179 = .ok (.ireturn, 1) := by decide +kernel
set_option maxRecDepth 20000 in
theorem ggX6_die_X6_isPlace : GoodIn wsX6_die wsX6_isPlace := goodIn_r _ [14, 15, 16, 17, 13, 18] (by decide +kernel) (by decide +kernel)
set_option maxRecDepth 20000 in
theorem gX6_die_X6_isPlace : GoodIn wsX6_die (va_wsS RX6 111 yX6_isPlace wsX6_isPlace) := goodIn_app (goodIn_of _ (by decide +kernel)) ggX6_die_X6_isPlace
set_option maxRecDepth 20000 in
theorem ggX6_die_X6_look : GoodIn wsX6_die wsX6_look := goodIn_r _ [22, 3, 4, 23, 24, 25, 13, 26, 27, 58, 59, 60, 61, 62, 63, 64, 65, 66, 67, 68, 69, 70, 71, 72, 73, 74, 75, 76, 77, 78, 79, 80, 81, 82, 83, 84, 85, 86, 87] (by decide +kernel) (by decide +kernel)
set_option maxRecDepth 20000 in
theorem gX6_die_X6_look : GoodIn wsX6_die (wsV RX6 122 RX6 yX6_look wsX6_look) := goodIn_app (goodIn_of _ (by decide +kernel)) ggX6_die_X6_look
set_option maxRecDepth 20000 in
theorem ggX6_die_X6_in : GoodIn wsX6_die wsX6_in := goodIn_r _ [18] (by decide +kernel) (by decide +kernel)
set_option maxRecDepth 20000 in
theorem gX6_die_X6_in : GoodIn wsX6_die (va_wsS RX6 91 yX6_in wsX6_in) := goodIn_app (goodIn_of _ (by decide +kernel)) ggX6_die_X6_in
set_option maxRecDepth 20000 in
theorem ggX6_die_X6_setUp : GoodIn wsX6_die wsX6_setUp := goodIn_r _ [31, 32, 9, 33, 34, 35, 10, 36, 8, 37, 38, 39, 13, 40, 4, 5, 41, 42, 43, 44, 45, 46, 47, 48, 49, 50, 51, 52, 53, 54, 55, 56, 57, 58, 59, 60, 61, 62, 63, 64, 65, 66, 67, 68, 69, 70, 71, 72, 73, 74, 75, 76, 77, 78, 79, 80, 81, 82, 83, 84, 85, 86, 87] (by decide +kernel) (by decide +kernel)
set_option maxRecDepth 20000 in
theorem gX6_die_X6_setUp : GoodIn wsX6_die (wsV RX6 185 RX6 yX6_setUp wsX6_setUp) := goodIn_app (goodIn_of _ (by decide +kernel)) ggX6_die_X6_setUp
theorem dX6_die_0 : decode cX6_die 0 = .ok (.aload_n 0, 1) := by decide +kernel
theorem dX6_die_1 : decode cX6_die 1 = .ok (.iconst 0, 1) := by decide +kernel
theorem dX6_die_2 : decode cX6_die 2 = .ok (.putfield 81, 3) := by decide +kernel
theorem dX6_die_5 : decode cX6_die 5 = .ok (.iload_n 1, 1) := by decide +kernel
theorem dX6_die_6 : decode cX6_die 6 = .ok (.invokestatic 111, 3) := by decide +kernel
theorem dX6_die_9 : decode cX6_die 9 = .ok (.ifCond .ne 6, 3) := by decide +kernel
theorem dX6_die_12 : decode cX6_die 12 = .ok (.ldc 101, 2) := by decide +kernel
theorem dX6_die_14 : decode cX6_die 14 = .ok (.ireturn, 1) := by decide +kernel
theorem dX6_die_15 : decode cX6_die 15 = .ok (.aload_n 0, 1) := by decide +kernel
theorem dX6_die_16 : decode cX6_die 16 = .ok (.getfield 85, 3) := by decide +kernel
theorem dX6_die_19 : decode cX6_die 19 = .ok (.istore_n 3, 1) := by decide +kernel
theorem dX6_die_20 : decode cX6_die 20 = .ok (.aload_n 0, 1) := by decide +kernel
theorem dX6_die_21 : decode cX6_die 21 = .ok (.iload_n 1, 1) := by decide +kernel
theorem dX6_die_22 : decode cX6_die 22 = .ok (.invokevirtual 122, 3) := by decide +kernel
theorem dX6_die_25 : decode cX6_die 25 = .ok (.istore 4, 2) := by decide +kernel
theorem dX6_die_27 : decode cX6_die 27 = .ok (.iload 4, 2) := by decide +kernel
theorem dX6_die_29 : decode cX6_die 29 = .ok (.ifCond .ge 6, 3) := by decide +kernel
theorem dX6_die_32 : decode cX6_die 32 = .ok (.iload 4, 2) := by decide +kernel
theorem dX6_die_34 : decode cX6_die 34 = .ok (.ireturn, 1) := by decide +kernel
theorem dX6_die_35 : decode cX6_die 35 = .ok (.iload_n 2, 1) := by decide +kernel
theorem dX6_die_36 : decode cX6_die 36 = .ok (.i2l, 1) := by decide +kernel
theorem dX6_die_37 : decode cX6_die 37 = .ok (.lconst 0, 1) := by decide +kernel
theorem dX6_die_38 : decode cX6_die 38 = .ok (.aload_n 0, 1) := by decide +kernel
theorem dX6_die_39 : decode cX6_die 39 = .ok (.getfield 19, 3) := by decide +kernel
theorem dX6_die_42 : decode cX6_die 42 = .ok (.iload_n 1, 1) := by decide +kernel
theorem dX6_die_43 : decode cX6_die 43 = .ok (.iaload, 1) := by decide +kernel
theorem dX6_die_44 : decode cX6_die 44 = .ok (.iconst 1, 1) := by decide +kernel
theorem dX6_die_45 : decode cX6_die 45 = .ok (.isub, 1) := by decide +kernel
theorem dX6_die_46 : decode cX6_die 46 = .ok (.i2l, 1) := by decide +kernel
theorem dX6_die_47 : decode cX6_die 47 = .ok (.invokestatic 91, 3) := by decide +kernel
theorem dX6_die_50 : decode cX6_die 50 = .ok (.ifCond .ne 11, 3) := by decide +kernel
theorem dX6_die_53 : decode cX6_die 53 = .ok (.aload_n 0, 1) := by decide +kernel
theorem dX6_die_54 : decode cX6_die 54 = .ok (.iload_n 3, 1) := by decide +kernel
theorem dX6_die_55 : decode cX6_die 55 = .ok (.putfield 85, 3) := by decide +kernel
theorem dX6_die_58 : decode cX6_die 58 = .ok (.ldc 101, 2) := by decide +kernel
theorem dX6_die_60 : decode cX6_die 60 = .ok (.ireturn, 1) := by decide +kernel
theorem dX6_die_61 : decode cX6_die 61 = .ok (.aload_n 0, 1) := by decide +kernel
theorem dX6_die_62 : decode cX6_die 62 = .ok (.getfield 28, 3) := by decide +kernel
theorem dX6_die_65 : decode cX6_die 65 = .ok (.bipush 12, 2) := by decide +kernel
theorem dX6_die_67 : decode cX6_die 67 = .ok (.iload_n 1, 1) := by decide +kernel
theorem dX6_die_68 : decode cX6_die 68 = .ok (.imul, 1) := by decide +kernel
theorem dX6_die_69 : decode cX6_die 69 = .ok (.iload_n 2, 1) := by decide +kernel
theorem dX6_die_70 : decode cX6_die 70 = .ok (.iadd, 1) := by decide +kernel
theorem dX6_die_71 : decode cX6_die 71 = .ok (.baload, 1) := by decide +kernel
theorem dX6_die_72 : decode cX6_die 72 = .ok (.ifCond .eq 11, 3) := by decide +kernel
theorem dX6_die_75 : decode cX6_die 75 = .ok (.aload_n 0, 1) := by decide +kernel
theorem dX6_die_76 : decode cX6_die 76 = .ok (.iload_n 3, 1) := by decide +kernel
theorem dX6_die_77 : decode cX6_die 77 = .ok (.putfield 85, 3) := by decide +kernel
theorem dX6_die_80 : decode cX6_die 80 = .ok (.ldc 184, 2) := by decide +kernel
theorem dX6_die_82 : decode cX6_die 82 = .ok (.ireturn, 1) := by decide +kernel
theorem dX6_die_83 : decode cX6_die 83 = .ok (.aload_n 0, 1) := by decide +kernel
theorem dX6_die_84 : decode cX6_die 84 = .ok (.getfield 28, 3) := by decide +kernel
theorem dX6_die_87 : decode cX6_die 87 = .ok (.bipush 12, 2) := by decide +kernel
theorem dX6_die_89 : decode cX6_die 89 = .ok (.iload_n 1, 1) := by decide +kernel
theorem dX6_die_90 : decode cX6_die 90 = .ok (.imul, 1) := by decide +kernel
theorem dX6_die_91 : decode cX6_die 91 = .ok (.iload_n 2, 1) := by decide +kernel
theorem dX6_die_92 : decode cX6_die 92 = .ok (.iadd, 1) := by decide +kernel
theorem dX6_die_93 : decode cX6_die 93 = .ok (.iconst 1, 1) := by decide +kernel
theorem dX6_die_94 : decode cX6_die 94 = .ok (.bastore, 1) := by decide +kernel
theorem dX6_die_95 : decode cX6_die 95 = .ok (.iconst 0, 1) := by decide +kernel
theorem dX6_die_96 : decode cX6_die 96 = .ok (.istore 5, 2) := by decide +kernel
theorem dX6_die_98 : decode cX6_die 98 = .ok (.iload 5, 2) := by decide +kernel
theorem dX6_die_100 : decode cX6_die 100 = .ok (.bipush 36, 2) := by decide +kernel
theorem dX6_die_102 : decode cX6_die 102 = .ok (.if_icmp .ge 107, 3) := by decide +kernel
theorem dX6_die_105 : decode cX6_die 105 = .ok (.aload_n 0, 1) := by decide +kernel
theorem dX6_die_106 : decode cX6_die 106 = .ok (.getfield 44, 3) := by decide +kernel
theorem dX6_die_109 : decode cX6_die 109 = .ok (.iload 5, 2) := by decide +kernel
theorem dX6_die_111 : decode cX6_die 111 = .ok (.aload_n 0, 1) := by decide +kernel
theorem dX6_die_112 : decode cX6_die 112 = .ok (.getfield 32, 3) := by decide +kernel
theorem dX6_die_115 : decode cX6_die 115 = .ok (.bipush 36, 2) := by decide +kernel
theorem dX6_die_117 : decode cX6_die 117 = .ok (.iload_n 1, 1) := by decide +kernel
theorem dX6_die_118 : decode cX6_die 118 = .ok (.imul, 1) := by decide +kernel
theorem dX6_die_119 : decode cX6_die 119 = .ok (.iload 5, 2) := by decide +kernel
theorem dX6_die_121 : decode cX6_die 121 = .ok (.iadd, 1) := by decide +kernel
theorem dX6_die_122 : decode cX6_die 122 = .ok (.iaload, 1) := by decide +kernel
theorem dX6_die_123 : decode cX6_die 123 = .ok (.ldc 118, 2) := by decide +kernel
theorem dX6_die_125 : decode cX6_die 125 = .ok (.if_icmp .eq 34, 3) := by decide +kernel
theorem dX6_die_128 : decode cX6_die 128 = .ok (.aload_n 0, 1) := by decide +kernel
theorem dX6_die_129 : decode cX6_die 129 = .ok (.getfield 35, 3) := by decide +kernel
theorem dX6_die_132 : decode cX6_die 132 = .ok (.bipush 36, 2) := by decide +kernel
theorem dX6_die_134 : decode cX6_die 134 = .ok (.iload_n 1, 1) := by decide +kernel
theorem dX6_die_135 : decode cX6_die 135 = .ok (.imul, 1) := by decide +kernel
theorem dX6_die_136 : decode cX6_die 136 = .ok (.iload 5, 2) := by decide +kernel
theorem dX6_die_138 : decode cX6_die 138 = .ok (.iadd, 1) := by decide +kernel
theorem dX6_die_139 : decode cX6_die 139 = .ok (.iaload, 1) := by decide +kernel
theorem dX6_die_140 : decode cX6_die 140 = .ok (.iload_n 2, 1) := by decide +kernel
theorem dX6_die_141 : decode cX6_die 141 = .ok (.if_icmp .ne 18, 3) := by decide +kernel
theorem dX6_die_144 : decode cX6_die 144 = .ok (.aload_n 0, 1) := by decide +kernel
theorem dX6_die_145 : decode cX6_die 145 = .ok (.getfield 32, 3) := by decide +kernel
theorem dX6_die_148 : decode cX6_die 148 = .ok (.bipush 36, 2) := by decide +kernel
theorem dX6_die_150 : decode cX6_die 150 = .ok (.iload_n 1, 1) := by decide +kernel
theorem dX6_die_151 : decode cX6_die 151 = .ok (.imul, 1) := by decide +kernel
theorem dX6_die_152 : decode cX6_die 152 = .ok (.iload 5, 2) := by decide +kernel
theorem dX6_die_154 : decode cX6_die 154 = .ok (.iadd, 1) := by decide +kernel
theorem dX6_die_155 : decode cX6_die 155 = .ok (.iaload, 1) := by decide +kernel
theorem dX6_die_156 : decode cX6_die 156 = .ok (.goto 5, 3) := by decide +kernel
theorem dX6_die_159 : decode cX6_die 159 = .ok (.ldc 118, 2) := by decide +kernel
theorem dX6_die_161 : decode cX6_die 161 = .ok (.iastore, 1) := by decide +kernel
theorem dX6_die_162 : decode cX6_die 162 = .ok (.aload_n 0, 1) := by decide +kernel
theorem dX6_die_163 : decode cX6_die 163 = .ok (.getfield 32, 3) := by decide +kernel
theorem dX6_die_166 : decode cX6_die 166 = .ok (.bipush 36, 2) := by decide +kernel
theorem dX6_die_168 : decode cX6_die 168 = .ok (.iload_n 1, 1) := by decide +kernel
theorem dX6_die_169 : decode cX6_die 169 = .ok (.imul, 1) := by decide +kernel
theorem dX6_die_170 : decode cX6_die 170 = .ok (.iload 5, 2) := by decide +kernel
theorem dX6_die_172 : decode cX6_die 172 = .ok (.iadd, 1) := by decide +kernel
theorem dX6_die_173 : decode cX6_die 173 = .ok (.aload_n 0, 1) := by decide +kernel
theorem dX6_die_174 : decode cX6_die 174 = .ok (.getfield 44, 3) := by decide +kernel
theorem dX6_die_177 : decode cX6_die 177 = .ok (.iload 5, 2) := by decide +kernel
theorem dX6_die_179 : decode cX6_die 179 = .ok (.iaload, 1) := by decide +kernel
theorem dX6_die_180 : decode cX6_die 180 = .ok (.ldc 118, 2) := by decide +kernel
theorem dX6_die_182 : decode cX6_die 182 = .ok (.if_icmp .eq 8, 3) := by decide +kernel
theorem dX6_die_185 : decode cX6_die 185 = .ok (.ldc 118, 2) := by decide +kernel
theorem dX6_die_187 : decode cX6_die 187 = .ok (.goto 15, 3) := by decide +kernel
theorem dX6_die_190 : decode cX6_die 190 = .ok (.aload_n 0, 1) := by decide +kernel
theorem dX6_die_191 : decode cX6_die 191 = .ok (.getfield 32, 3) := by decide +kernel
theorem dX6_die_194 : decode cX6_die 194 = .ok (.bipush 36, 2) := by decide +kernel
theorem dX6_die_196 : decode cX6_die 196 = .ok (.iload_n 1, 1) := by decide +kernel
theorem dX6_die_197 : decode cX6_die 197 = .ok (.imul, 1) := by decide +kernel
theorem dX6_die_198 : decode cX6_die 198 = .ok (.iload 5, 2) := by decide +kernel
theorem dX6_die_200 : decode cX6_die 200 = .ok (.iadd, 1) := by decide +kernel
theorem dX6_die_201 : decode cX6_die 201 = .ok (.iaload, 1) := by decide +kernel
theorem dX6_die_202 : decode cX6_die 202 = .ok (.iastore, 1) := by decide +kernel
theorem dX6_die_203 : decode cX6_die 203 = .ok (.iinc 5 1, 3) := by decide +kernel
theorem dX6_die_206 : decode cX6_die 206 = .ok (.goto (-108), 3) := by decide +kernel
theorem dX6_die_209 : decode cX6_die 209 = .ok (.iconst 0, 1) := by decide +kernel
theorem dX6_die_210 : decode cX6_die 210 = .ok (.istore 5, 2) := by decide +kernel
theorem dX6_die_212 : decode cX6_die 212 = .ok (.iconst 0, 1) := by decide +kernel
theorem dX6_die_213 : decode cX6_die 213 = .ok (.istore 6, 2) := by decide +kernel
theorem dX6_die_215 : decode cX6_die 215 = .ok (.iload 6, 2) := by decide +kernel
theorem dX6_die_217 : decode cX6_die 217 = .ok (.bipush 36, 2) := by decide +kernel
theorem dX6_die_219 : decode cX6_die 219 = .ok (.if_icmp .ge 50, 3) := by decide +kernel
theorem dX6_die_222 : decode cX6_die 222 = .ok (.aload_n 0, 1) := by decide +kernel
theorem dX6_die_223 : decode cX6_die 223 = .ok (.getfield 44, 3) := by decide +kernel
theorem dX6_die_226 : decode cX6_die 226 = .ok (.iload 6, 2) := by decide +kernel
theorem dX6_die_228 : decode cX6_die 228 = .ok (.iaload, 1) := by decide +kernel
theorem dX6_die_229 : decode cX6_die 229 = .ok (.ldc 118, 2) := by decide +kernel
theorem dX6_die_231 : decode cX6_die 231 = .ok (.if_icmp .eq 32, 3) := by decide +kernel
theorem dX6_die_234 : decode cX6_die 234 = .ok (.iload 5, 2) := by decide +kernel
theorem dX6_die_236 : decode cX6_die 236 = .ok (.aload_n 0, 1) := by decide +kernel
theorem dX6_die_237 : decode cX6_die 237 = .ok (.iload_n 1, 1) := by decide +kernel
theorem dX6_die_238 : decode cX6_die 238 = .ok (.iload 6, 2) := by decide +kernel
theorem dX6_die_240 : decode cX6_die 240 = .ok (.aload_n 0, 1) := by decide +kernel
theorem dX6_die_241 : decode cX6_die 241 = .ok (.getfield 44, 3) := by decide +kernel
theorem dX6_die_244 : decode cX6_die 244 = .ok (.iload 6, 2) := by decide +kernel
theorem dX6_die_246 : decode cX6_die 246 = .ok (.iaload, 1) := by decide +kernel
theorem dX6_die_247 : decode cX6_die 247 = .ok (.invokevirtual 185, 3) := by decide +kernel
theorem dX6_die_250 : decode cX6_die 250 = .ok (.ldc 118, 2) := by decide +kernel
theorem dX6_die_252 : decode cX6_die 252 = .ok (.if_icmp .ne 7, 3) := by decide +kernel
theorem dX6_die_255 : decode cX6_die 255 = .ok (.iconst 1, 1) := by decide +kernel
theorem dX6_die_256 : decode cX6_die 256 = .ok (.goto 4, 3) := by decide +kernel
theorem dX6_die_259 : decode cX6_die 259 = .ok (.iconst 0, 1) := by decide +kernel
theorem dX6_die_260 : decode cX6_die 260 = .ok (.iadd, 1) := by decide +kernel
theorem dX6_die_261 : decode cX6_die 261 = .ok (.istore 5, 2) := by decide +kernel
theorem dX6_die_263 : decode cX6_die 263 = .ok (.iinc 6 1, 3) := by decide +kernel
theorem dX6_die_266 : decode cX6_die 266 = .ok (.goto (-51), 3) := by decide +kernel
theorem dX6_die_269 : decode cX6_die 269 = .ok (.iload 5, 2) := by decide +kernel
theorem dX6_die_271 : decode cX6_die 271 = .ok (.ireturn, 1) := by decide +kernel
set_option maxRecDepth 20000 in
theorem ggX6_mend_X6_isPlace : GoodIn wsX6_mend wsX6_isPlace := goodIn_r _ [9, 10, 11, 12, 8, 13] (by decide +kernel) (by decide +kernel)
set_option maxRecDepth 20000 in
theorem gX6_mend_X6_isPlace : GoodIn wsX6_mend (va_wsS RX6 111 yX6_isPlace wsX6_isPlace) := goodIn_app (goodIn_of _ (by decide +kernel)) ggX6_mend_X6_isPlace
set_option maxRecDepth 20000 in
theorem ggX6_mend_X6_look : GoodIn wsX6_mend wsX6_look := goodIn_r _ [17, 3, 4, 18, 19, 20, 8, 21, 22, 23, 24, 25, 26, 27, 28, 29, 30, 31, 32, 33, 34, 35, 36, 37, 38, 39, 40, 41, 42, 43, 44, 45, 46, 47, 48, 49, 50, 51, 52] (by decide +kernel) (by decide +kernel)
set_option maxRecDepth 20000 in
theorem gX6_mend_X6_look : GoodIn wsX6_mend (wsV RX6 122 RX6 yX6_look wsX6_look) := goodIn_app (goodIn_of _ (by decide +kernel)) ggX6_mend_X6_look
set_option maxRecDepth 20000 in
theorem ggX6_mend_X6_in : GoodIn wsX6_mend wsX6_in := goodIn_r _ [13] (by decide +kernel) (by decide +kernel)
set_option maxRecDepth 20000 in
theorem gX6_mend_X6_in : GoodIn wsX6_mend (va_wsS RX6 91 yX6_in wsX6_in) := goodIn_app (goodIn_of _ (by decide +kernel)) ggX6_mend_X6_in
theorem dX6_mend_0 : decode cX6_mend 0 = .ok (.aload_n 0, 1) := by decide +kernel
theorem dX6_mend_1 : decode cX6_mend 1 = .ok (.iconst 0, 1) := by decide +kernel
theorem dX6_mend_2 : decode cX6_mend 2 = .ok (.putfield 81, 3) := by decide +kernel
theorem dX6_mend_5 : decode cX6_mend 5 = .ok (.iload_n 1, 1) := by decide +kernel
theorem dX6_mend_6 : decode cX6_mend 6 = .ok (.invokestatic 111, 3) := by decide +kernel
theorem dX6_mend_9 : decode cX6_mend 9 = .ok (.ifCond .ne 6, 3) := by decide +kernel
theorem dX6_mend_12 : decode cX6_mend 12 = .ok (.ldc 101, 2) := by decide +kernel
theorem dX6_mend_14 : decode cX6_mend 14 = .ok (.ireturn, 1) := by decide +kernel
theorem dX6_mend_15 : decode cX6_mend 15 = .ok (.aload_n 0, 1) := by decide +kernel
theorem dX6_mend_16 : decode cX6_mend 16 = .ok (.getfield 85, 3) := by decide +kernel
theorem dX6_mend_19 : decode cX6_mend 19 = .ok (.istore_n 3, 1) := by decide +kernel
theorem dX6_mend_20 : decode cX6_mend 20 = .ok (.aload_n 0, 1) := by decide +kernel
theorem dX6_mend_21 : decode cX6_mend 21 = .ok (.iload_n 1, 1) := by decide +kernel
theorem dX6_mend_22 : decode cX6_mend 22 = .ok (.invokevirtual 122, 3) := by decide +kernel
theorem dX6_mend_25 : decode cX6_mend 25 = .ok (.istore 4, 2) := by decide +kernel
theorem dX6_mend_27 : decode cX6_mend 27 = .ok (.iload 4, 2) := by decide +kernel
theorem dX6_mend_29 : decode cX6_mend 29 = .ok (.ifCond .ge 6, 3) := by decide +kernel
theorem dX6_mend_32 : decode cX6_mend 32 = .ok (.iload 4, 2) := by decide +kernel
theorem dX6_mend_34 : decode cX6_mend 34 = .ok (.ireturn, 1) := by decide +kernel
theorem dX6_mend_35 : decode cX6_mend 35 = .ok (.iload_n 2, 1) := by decide +kernel
theorem dX6_mend_36 : decode cX6_mend 36 = .ok (.i2l, 1) := by decide +kernel
theorem dX6_mend_37 : decode cX6_mend 37 = .ok (.lconst 0, 1) := by decide +kernel
theorem dX6_mend_38 : decode cX6_mend 38 = .ok (.aload_n 0, 1) := by decide +kernel
theorem dX6_mend_39 : decode cX6_mend 39 = .ok (.getfield 19, 3) := by decide +kernel
theorem dX6_mend_42 : decode cX6_mend 42 = .ok (.iload_n 1, 1) := by decide +kernel
theorem dX6_mend_43 : decode cX6_mend 43 = .ok (.iaload, 1) := by decide +kernel
theorem dX6_mend_44 : decode cX6_mend 44 = .ok (.iconst 1, 1) := by decide +kernel
theorem dX6_mend_45 : decode cX6_mend 45 = .ok (.isub, 1) := by decide +kernel
theorem dX6_mend_46 : decode cX6_mend 46 = .ok (.i2l, 1) := by decide +kernel
theorem dX6_mend_47 : decode cX6_mend 47 = .ok (.invokestatic 91, 3) := by decide +kernel
theorem dX6_mend_50 : decode cX6_mend 50 = .ok (.ifCond .ne 11, 3) := by decide +kernel
theorem dX6_mend_53 : decode cX6_mend 53 = .ok (.aload_n 0, 1) := by decide +kernel
theorem dX6_mend_54 : decode cX6_mend 54 = .ok (.iload_n 3, 1) := by decide +kernel
theorem dX6_mend_55 : decode cX6_mend 55 = .ok (.putfield 85, 3) := by decide +kernel
theorem dX6_mend_58 : decode cX6_mend 58 = .ok (.ldc 101, 2) := by decide +kernel
theorem dX6_mend_60 : decode cX6_mend 60 = .ok (.ireturn, 1) := by decide +kernel
theorem dX6_mend_61 : decode cX6_mend 61 = .ok (.aload_n 0, 1) := by decide +kernel
theorem dX6_mend_62 : decode cX6_mend 62 = .ok (.getfield 28, 3) := by decide +kernel
theorem dX6_mend_65 : decode cX6_mend 65 = .ok (.bipush 12, 2) := by decide +kernel
theorem dX6_mend_67 : decode cX6_mend 67 = .ok (.iload_n 1, 1) := by decide +kernel
theorem dX6_mend_68 : decode cX6_mend 68 = .ok (.imul, 1) := by decide +kernel
theorem dX6_mend_69 : decode cX6_mend 69 = .ok (.iload_n 2, 1) := by decide +kernel
theorem dX6_mend_70 : decode cX6_mend 70 = .ok (.iadd, 1) := by decide +kernel
theorem dX6_mend_71 : decode cX6_mend 71 = .ok (.baload, 1) := by decide +kernel
theorem dX6_mend_72 : decode cX6_mend 72 = .ok (.istore 5, 2) := by decide +kernel
theorem dX6_mend_74 : decode cX6_mend 74 = .ok (.aload_n 0, 1) := by decide +kernel
theorem dX6_mend_75 : decode cX6_mend 75 = .ok (.getfield 28, 3) := by decide +kernel
theorem dX6_mend_78 : decode cX6_mend 78 = .ok (.bipush 12, 2) := by decide +kernel
theorem dX6_mend_80 : decode cX6_mend 80 = .ok (.iload_n 1, 1) := by decide +kernel
theorem dX6_mend_81 : decode cX6_mend 81 = .ok (.imul, 1) := by decide +kernel
theorem dX6_mend_82 : decode cX6_mend 82 = .ok (.iload_n 2, 1) := by decide +kernel
theorem dX6_mend_83 : decode cX6_mend 83 = .ok (.iadd, 1) := by decide +kernel
theorem dX6_mend_84 : decode cX6_mend 84 = .ok (.iconst 0, 1) := by decide +kernel
theorem dX6_mend_85 : decode cX6_mend 85 = .ok (.bastore, 1) := by decide +kernel
theorem dX6_mend_86 : decode cX6_mend 86 = .ok (.iload 5, 2) := by decide +kernel
theorem dX6_mend_88 : decode cX6_mend 88 = .ok (.ifCond .eq 7, 3) := by decide +kernel
theorem dX6_mend_91 : decode cX6_mend 91 = .ok (.iconst 1, 1) := by decide +kernel
theorem dX6_mend_92 : decode cX6_mend 92 = .ok (.goto 4, 3) := by decide +kernel
theorem dX6_mend_95 : decode cX6_mend 95 = .ok (.iconst 0, 1) := by decide +kernel
theorem dX6_mend_96 : decode cX6_mend 96 = .ok (.ireturn, 1) := by decide +kernel
theorem dX6_part_0 : decode cX6_part 0 = .ok (.iconst 1, 1) := by decide +kernel
theorem dX6_part_1 : decode cX6_part 1 = .ok (.iload_n 1, 1) := by decide +kernel
theorem dX6_part_2 : decode cX6_part 2 = .ok (.iload_n 2, 1) := by decide +kernel
theorem dX6_part_3 : decode cX6_part 3 = .ok (.isub, 1) := by decide +kernel
theorem dX6_part_4 : decode cX6_part 4 = .ok (.ishl, 1) := by decide +kernel
theorem dX6_part_5 : decode cX6_part 5 = .ok (.istore 4, 2) := by decide +kernel
theorem dX6_part_7 : decode cX6_part 7 = .ok (.iload_n 3, 1) := by decide +kernel
theorem dX6_part_8 : decode cX6_part 8 = .ok (.iload 4, 2) := by decide +kernel
theorem dX6_part_10 : decode cX6_part 10 = .ok (.imul, 1) := by decide +kernel
theorem dX6_part_11 : decode cX6_part 11 = .ok (.istore 5, 2) := by decide +kernel
theorem dX6_part_13 : decode cX6_part 13 = .ok (.bipush 8, 2) := by decide +kernel
theorem dX6_part_15 : decode cX6_part 15 = .ok (.iload_n 2, 1) := by decide +kernel
theorem dX6_part_16 : decode cX6_part 16 = .ok (.imul, 1) := by decide +kernel
theorem dX6_part_17 : decode cX6_part 17 = .ok (.iload_n 3, 1) := by decide +kernel
theorem dX6_part_18 : decode cX6_part 18 = .ok (.iload 4, 2) := by decide +kernel
theorem dX6_part_20 : decode cX6_part 20 = .ok (.imul, 1) := by decide +kernel
theorem dX6_part_21 : decode cX6_part 21 = .ok (.iconst 2, 1) := by decide +kernel
theorem dX6_part_22 : decode cX6_part 22 = .ok (.idiv, 1) := by decide +kernel
theorem dX6_part_23 : decode cX6_part 23 = .ok (.iadd, 1) := by decide +kernel
theorem dX6_part_24 : decode cX6_part 24 = .ok (.istore 6, 2) := by decide +kernel
theorem dX6_part_26 : decode cX6_part 26 = .ok (.bipush 8, 2) := by decide +kernel
theorem dX6_part_28 : decode cX6_part 28 = .ok (.iconst 2, 1) := by decide +kernel
theorem dX6_part_29 : decode cX6_part 29 = .ok (.iload_n 1, 1) := by decide +kernel
theorem dX6_part_30 : decode cX6_part 30 = .ok (.imul, 1) := by decide +kernel
theorem dX6_part_31 : decode cX6_part 31 = .ok (.iconst 2, 1) := by decide +kernel
theorem dX6_part_32 : decode cX6_part 32 = .ok (.isub, 1) := by decide +kernel
theorem dX6_part_33 : decode cX6_part 33 = .ok (.iload_n 2, 1) := by decide +kernel
theorem dX6_part_34 : decode cX6_part 34 = .ok (.isub, 1) := by decide +kernel
theorem dX6_part_35 : decode cX6_part 35 = .ok (.imul, 1) := by decide +kernel
theorem dX6_part_36 : decode cX6_part 36 = .ok (.iload_n 3, 1) := by decide +kernel
theorem dX6_part_37 : decode cX6_part 37 = .ok (.iload 4, 2) := by decide +kernel
theorem dX6_part_39 : decode cX6_part 39 = .ok (.imul, 1) := by decide +kernel
theorem dX6_part_40 : decode cX6_part 40 = .ok (.iconst 2, 1) := by decide +kernel
theorem dX6_part_41 : decode cX6_part 41 = .ok (.idiv, 1) := by decide +kernel
theorem dX6_part_42 : decode cX6_part 42 = .ok (.iadd, 1) := by decide +kernel
theorem dX6_part_43 : decode cX6_part 43 = .ok (.istore 7, 2) := by decide +kernel
theorem dX6_part_45 : decode cX6_part 45 = .ok (.iload 4, 2) := by decide +kernel
theorem dX6_part_47 : decode cX6_part 47 = .ok (.iconst 2, 1) := by decide +kernel
theorem dX6_part_48 : decode cX6_part 48 = .ok (.if_icmp .ne 18, 3) := by decide +kernel
theorem dX6_part_51 : decode cX6_part 51 = .ok (.aload_n 0, 1) := by decide +kernel
theorem dX6_part_52 : decode cX6_part 52 = .ok (.getfield 47, 3) := by decide +kernel
theorem dX6_part_55 : decode cX6_part 55 = .ok (.iload 6, 2) := by decide +kernel
theorem dX6_part_57 : decode cX6_part 57 = .ok (.aload_n 0, 1) := by decide +kernel
theorem dX6_part_58 : decode cX6_part 58 = .ok (.getfield 50, 3) := by decide +kernel
theorem dX6_part_61 : decode cX6_part 61 = .ok (.iload 5, 2) := by decide +kernel
theorem dX6_part_63 : decode cX6_part 63 = .ok (.iaload, 1) := by decide +kernel
theorem dX6_part_64 : decode cX6_part 64 = .ok (.iastore, 1) := by decide +kernel
theorem dX6_part_65 : decode cX6_part 65 = .ok (.return_, 1) := by decide +kernel
theorem dX6_part_66 : decode cX6_part 66 = .ok (.iconst 0, 1) := by decide +kernel
theorem dX6_part_67 : decode cX6_part 67 = .ok (.istore 8, 2) := by decide +kernel
theorem dX6_part_69 : decode cX6_part 69 = .ok (.iload 8, 2) := by decide +kernel
theorem dX6_part_71 : decode cX6_part 71 = .ok (.iload 4, 2) := by decide +kernel
theorem dX6_part_73 : decode cX6_part 73 = .ok (.if_icmp .ge 17, 3) := by decide +kernel
theorem dX6_part_76 : decode cX6_part 76 = .ok (.aload_n 0, 1) := by decide +kernel
theorem dX6_part_77 : decode cX6_part 77 = .ok (.getfield 56, 3) := by decide +kernel
theorem dX6_part_80 : decode cX6_part 80 = .ok (.iload 8, 2) := by decide +kernel
theorem dX6_part_82 : decode cX6_part 82 = .ok (.iconst (-1), 1) := by decide +kernel
theorem dX6_part_83 : decode cX6_part 83 = .ok (.iastore, 1) := by decide +kernel
theorem dX6_part_84 : decode cX6_part 84 = .ok (.iinc 8 1, 3) := by decide +kernel
theorem dX6_part_87 : decode cX6_part 87 = .ok (.goto (-18), 3) := by decide +kernel
theorem dX6_part_90 : decode cX6_part 90 = .ok (.iconst 0, 1) := by decide +kernel
theorem dX6_part_91 : decode cX6_part 91 = .ok (.istore 8, 2) := by decide +kernel
theorem dX6_part_93 : decode cX6_part 93 = .ok (.iload 8, 2) := by decide +kernel
theorem dX6_part_95 : decode cX6_part 95 = .ok (.iload 4, 2) := by decide +kernel
theorem dX6_part_97 : decode cX6_part 97 = .ok (.if_icmp .ge 86, 3) := by decide +kernel
theorem dX6_part_100 : decode cX6_part 100 = .ok (.iload 8, 2) := by decide +kernel
theorem dX6_part_102 : decode cX6_part 102 = .ok (.istore 9, 2) := by decide +kernel
theorem dX6_part_104 : decode cX6_part 104 = .ok (.aload_n 0, 1) := by decide +kernel
theorem dX6_part_105 : decode cX6_part 105 = .ok (.getfield 56, 3) := by decide +kernel
theorem dX6_part_108 : decode cX6_part 108 = .ok (.iload 9, 2) := by decide +kernel
theorem dX6_part_110 : decode cX6_part 110 = .ok (.iaload, 1) := by decide +kernel
theorem dX6_part_111 : decode cX6_part 111 = .ok (.ifCond .ge 66, 3) := by decide +kernel
theorem dX6_part_114 : decode cX6_part 114 = .ok (.aload_n 0, 1) := by decide +kernel
theorem dX6_part_115 : decode cX6_part 115 = .ok (.getfield 56, 3) := by decide +kernel
theorem dX6_part_118 : decode cX6_part 118 = .ok (.iload 9, 2) := by decide +kernel
theorem dX6_part_120 : decode cX6_part 120 = .ok (.iconst 0, 1) := by decide +kernel
theorem dX6_part_121 : decode cX6_part 121 = .ok (.iastore, 1) := by decide +kernel
theorem dX6_part_122 : decode cX6_part 122 = .ok (.aload_n 0, 1) := by decide +kernel
theorem dX6_part_123 : decode cX6_part 123 = .ok (.getfield 50, 3) := by decide +kernel
theorem dX6_part_126 : decode cX6_part 126 = .ok (.iload 5, 2) := by decide +kernel
theorem dX6_part_128 : decode cX6_part 128 = .ok (.iload 9, 2) := by decide +kernel
theorem dX6_part_130 : decode cX6_part 130 = .ok (.iadd, 1) := by decide +kernel
theorem dX6_part_131 : decode cX6_part 131 = .ok (.iaload, 1) := by decide +kernel
theorem dX6_part_132 : decode cX6_part 132 = .ok (.iconst 1, 1) := by decide +kernel
theorem dX6_part_133 : decode cX6_part 133 = .ok (.ixor, 1) := by decide +kernel
theorem dX6_part_134 : decode cX6_part 134 = .ok (.istore 10, 2) := by decide +kernel
theorem dX6_part_136 : decode cX6_part 136 = .ok (.iconst 0, 1) := by decide +kernel
theorem dX6_part_137 : decode cX6_part 137 = .ok (.istore 11, 2) := by decide +kernel
theorem dX6_part_139 : decode cX6_part 139 = .ok (.aload_n 0, 1) := by decide +kernel
theorem dX6_part_140 : decode cX6_part 140 = .ok (.getfield 50, 3) := by decide +kernel
theorem dX6_part_143 : decode cX6_part 143 = .ok (.iload 5, 2) := by decide +kernel
theorem dX6_part_145 : decode cX6_part 145 = .ok (.iload 11, 2) := by decide +kernel
theorem dX6_part_147 : decode cX6_part 147 = .ok (.iadd, 1) := by decide +kernel
theorem dX6_part_148 : decode cX6_part 148 = .ok (.iaload, 1) := by decide +kernel
theorem dX6_part_149 : decode cX6_part 149 = .ok (.iload 10, 2) := by decide +kernel
theorem dX6_part_151 : decode cX6_part 151 = .ok (.if_icmp .eq 9, 3) := by decide +kernel
theorem dX6_part_154 : decode cX6_part 154 = .ok (.iinc 11 1, 3) := by decide +kernel
theorem dX6_part_157 : decode cX6_part 157 = .ok (.goto (-18), 3) := by decide +kernel
theorem dX6_part_160 : decode cX6_part 160 = .ok (.aload_n 0, 1) := by decide +kernel
theorem dX6_part_161 : decode cX6_part 161 = .ok (.getfield 56, 3) := by decide +kernel
theorem dX6_part_164 : decode cX6_part 164 = .ok (.iload 11, 2) := by decide +kernel
theorem dX6_part_166 : decode cX6_part 166 = .ok (.iconst 1, 1) := by decide +kernel
theorem dX6_part_167 : decode cX6_part 167 = .ok (.iastore, 1) := by decide +kernel
theorem dX6_part_168 : decode cX6_part 168 = .ok (.iload 11, 2) := by decide +kernel
theorem dX6_part_170 : decode cX6_part 170 = .ok (.iconst 1, 1) := by decide +kernel
theorem dX6_part_171 : decode cX6_part 171 = .ok (.ixor, 1) := by decide +kernel
theorem dX6_part_172 : decode cX6_part 172 = .ok (.istore 9, 2) := by decide +kernel
theorem dX6_part_174 : decode cX6_part 174 = .ok (.goto (-70), 3) := by decide +kernel
theorem dX6_part_177 : decode cX6_part 177 = .ok (.iinc 8 1, 3) := by decide +kernel
theorem dX6_part_180 : decode cX6_part 180 = .ok (.goto (-87), 3) := by decide +kernel
theorem dX6_part_183 : decode cX6_part 183 = .ok (.iconst 0, 1) := by decide +kernel
theorem dX6_part_184 : decode cX6_part 184 = .ok (.istore 8, 2) := by decide +kernel
theorem dX6_part_186 : decode cX6_part 186 = .ok (.iload 8, 2) := by decide +kernel
theorem dX6_part_188 : decode cX6_part 188 = .ok (.iload 4, 2) := by decide +kernel
theorem dX6_part_190 : decode cX6_part 190 = .ok (.if_icmp .ge 102, 3) := by decide +kernel
theorem dX6_part_193 : decode cX6_part 193 = .ok (.aload_n 0, 1) := by decide +kernel
theorem dX6_part_194 : decode cX6_part 194 = .ok (.getfield 50, 3) := by decide +kernel
theorem dX6_part_197 : decode cX6_part 197 = .ok (.iload 5, 2) := by decide +kernel
theorem dX6_part_199 : decode cX6_part 199 = .ok (.iload 8, 2) := by decide +kernel
theorem dX6_part_201 : decode cX6_part 201 = .ok (.iadd, 1) := by decide +kernel
theorem dX6_part_202 : decode cX6_part 202 = .ok (.iaload, 1) := by decide +kernel
theorem dX6_part_203 : decode cX6_part 203 = .ok (.istore 9, 2) := by decide +kernel
theorem dX6_part_205 : decode cX6_part 205 = .ok (.iload 8, 2) := by decide +kernel
theorem dX6_part_207 : decode cX6_part 207 = .ok (.iconst 2, 1) := by decide +kernel
theorem dX6_part_208 : decode cX6_part 208 = .ok (.irem, 1) := by decide +kernel
theorem dX6_part_209 : decode cX6_part 209 = .ok (.ifCond .ne 22, 3) := by decide +kernel
theorem dX6_part_212 : decode cX6_part 212 = .ok (.aload_n 0, 1) := by decide +kernel
theorem dX6_part_213 : decode cX6_part 213 = .ok (.getfield 47, 3) := by decide +kernel
theorem dX6_part_216 : decode cX6_part 216 = .ok (.iload 6, 2) := by decide +kernel
theorem dX6_part_218 : decode cX6_part 218 = .ok (.iload 8, 2) := by decide +kernel
theorem dX6_part_220 : decode cX6_part 220 = .ok (.iconst 2, 1) := by decide +kernel
theorem dX6_part_221 : decode cX6_part 221 = .ok (.idiv, 1) := by decide +kernel
theorem dX6_part_222 : decode cX6_part 222 = .ok (.iadd, 1) := by decide +kernel
theorem dX6_part_223 : decode cX6_part 223 = .ok (.aload_n 0, 1) := by decide +kernel
theorem dX6_part_224 : decode cX6_part 224 = .ok (.getfield 56, 3) := by decide +kernel
theorem dX6_part_227 : decode cX6_part 227 = .ok (.iload 8, 2) := by decide +kernel
theorem dX6_part_229 : decode cX6_part 229 = .ok (.iaload, 1) := by decide +kernel
theorem dX6_part_230 : decode cX6_part 230 = .ok (.iastore, 1) := by decide +kernel
theorem dX6_part_231 : decode cX6_part 231 = .ok (.iload 9, 2) := by decide +kernel
theorem dX6_part_233 : decode cX6_part 233 = .ok (.iconst 2, 1) := by decide +kernel
theorem dX6_part_234 : decode cX6_part 234 = .ok (.irem, 1) := by decide +kernel
theorem dX6_part_235 : decode cX6_part 235 = .ok (.ifCond .ne 22, 3) := by decide +kernel
theorem dX6_part_238 : decode cX6_part 238 = .ok (.aload_n 0, 1) := by decide +kernel
theorem dX6_part_239 : decode cX6_part 239 = .ok (.getfield 47, 3) := by decide +kernel
theorem dX6_part_242 : decode cX6_part 242 = .ok (.iload 7, 2) := by decide +kernel
theorem dX6_part_244 : decode cX6_part 244 = .ok (.iload 9, 2) := by decide +kernel
theorem dX6_part_246 : decode cX6_part 246 = .ok (.iconst 2, 1) := by decide +kernel
theorem dX6_part_247 : decode cX6_part 247 = .ok (.idiv, 1) := by decide +kernel
theorem dX6_part_248 : decode cX6_part 248 = .ok (.iadd, 1) := by decide +kernel
theorem dX6_part_249 : decode cX6_part 249 = .ok (.aload_n 0, 1) := by decide +kernel
theorem dX6_part_250 : decode cX6_part 250 = .ok (.getfield 56, 3) := by decide +kernel
theorem dX6_part_253 : decode cX6_part 253 = .ok (.iload 8, 2) := by decide +kernel
theorem dX6_part_255 : decode cX6_part 255 = .ok (.iaload, 1) := by decide +kernel
theorem dX6_part_256 : decode cX6_part 256 = .ok (.iastore, 1) := by decide +kernel
theorem dX6_part_257 : decode cX6_part 257 = .ok (.aload_n 0, 1) := by decide +kernel
theorem dX6_part_258 : decode cX6_part 258 = .ok (.getfield 53, 3) := by decide +kernel
theorem dX6_part_261 : decode cX6_part 261 = .ok (.iload 5, 2) := by decide +kernel
theorem dX6_part_263 : decode cX6_part 263 = .ok (.aload_n 0, 1) := by decide +kernel
theorem dX6_part_264 : decode cX6_part 264 = .ok (.getfield 56, 3) := by decide +kernel
theorem dX6_part_267 : decode cX6_part 267 = .ok (.iload 8, 2) := by decide +kernel
theorem dX6_part_269 : decode cX6_part 269 = .ok (.iaload, 1) := by decide +kernel
theorem dX6_part_270 : decode cX6_part 270 = .ok (.iload 4, 2) := by decide +kernel
theorem dX6_part_272 : decode cX6_part 272 = .ok (.imul, 1) := by decide +kernel
theorem dX6_part_273 : decode cX6_part 273 = .ok (.iconst 2, 1) := by decide +kernel
theorem dX6_part_274 : decode cX6_part 274 = .ok (.idiv, 1) := by decide +kernel
theorem dX6_part_275 : decode cX6_part 275 = .ok (.iadd, 1) := by decide +kernel
theorem dX6_part_276 : decode cX6_part 276 = .ok (.iload 8, 2) := by decide +kernel
theorem dX6_part_278 : decode cX6_part 278 = .ok (.iconst 2, 1) := by decide +kernel
theorem dX6_part_279 : decode cX6_part 279 = .ok (.idiv, 1) := by decide +kernel
theorem dX6_part_280 : decode cX6_part 280 = .ok (.iadd, 1) := by decide +kernel
theorem dX6_part_281 : decode cX6_part 281 = .ok (.iload 9, 2) := by decide +kernel
theorem dX6_part_283 : decode cX6_part 283 = .ok (.iconst 2, 1) := by decide +kernel
theorem dX6_part_284 : decode cX6_part 284 = .ok (.idiv, 1) := by decide +kernel
theorem dX6_part_285 : decode cX6_part 285 = .ok (.iastore, 1) := by decide +kernel
theorem dX6_part_286 : decode cX6_part 286 = .ok (.iinc 8 1, 3) := by decide +kernel
theorem dX6_part_289 : decode cX6_part 289 = .ok (.goto (-103), 3) := by decide +kernel
theorem dX6_part_292 : decode cX6_part 292 = .ok (.return_, 1) := by decide +kernel
set_option maxRecDepth 20000 in
theorem ggX6_bit_X6_isSheet : GoodIn wsX6_bit wsX6_isSheet := goodIn_r _ [14, 15, 16, 17, 13, 18] (by decide +kernel) (by decide +kernel)
set_option maxRecDepth 20000 in
theorem gX6_bit_X6_isSheet : GoodIn wsX6_bit (va_wsS RX6 95 yX6_isSheet wsX6_isSheet) := goodIn_app (goodIn_of _ (by decide +kernel)) ggX6_bit_X6_isSheet
set_option maxRecDepth 20000 in
theorem ggX6_bit_X6_in : GoodIn wsX6_bit wsX6_in := goodIn_r _ [18] (by decide +kernel) (by decide +kernel)
set_option maxRecDepth 20000 in
theorem gX6_bit_X6_in : GoodIn wsX6_bit (va_wsS RX6 91 yX6_in wsX6_in) := goodIn_app (goodIn_of _ (by decide +kernel)) ggX6_bit_X6_in
set_option maxRecDepth 20000 in
theorem ggX6_bit_X6_found : GoodIn wsX6_bit wsX6_found := goodIn_r _ [22, 8, 23, 29, 30, 31, 32, 33, 34, 35, 36, 37, 38, 39, 40, 41, 42, 43, 44, 45, 46, 47, 48, 49, 50, 51, 52, 53, 54, 55, 56, 57, 58] (by decide +kernel) (by decide +kernel)
set_option maxRecDepth 20000 in
theorem gX6_bit_X6_found : GoodIn wsX6_bit (wsV RX6 102 RX6 yX6_found wsX6_found) := goodIn_app (goodIn_of _ (by decide +kernel)) ggX6_bit_X6_found
set_option maxRecDepth 20000 in
theorem ggX6_bit_X6_part : GoodIn wsX6_bit wsX6_part := goodIn_r _ [27, 10, 7, 28, 9, 29, 30, 31, 32, 33, 34, 35, 36, 37, 38, 39, 40, 41, 42, 43, 44, 45, 46, 47, 48, 49, 50, 51, 52, 53, 54, 55, 56, 57, 58] (by decide +kernel) (by decide +kernel)
set_option maxRecDepth 20000 in
theorem gX6_bit_X6_part : GoodIn wsX6_bit (wsV RX6 190 RX6 yX6_part wsX6_part) := goodIn_app (goodIn_of _ (by decide +kernel)) ggX6_bit_X6_part
theorem dX6_bit_0 : decode cX6_bit 0 = .ok (.aload_n 0, 1) := by decide +kernel
theorem dX6_bit_1 : decode cX6_bit 1 = .ok (.iconst 0, 1) := by decide +kernel
theorem dX6_bit_2 : decode cX6_bit 2 = .ok (.putfield 81, 3) := by decide +kernel
theorem dX6_bit_5 : decode cX6_bit 5 = .ok (.iload_n 2, 1) := by decide +kernel
theorem dX6_bit_6 : decode cX6_bit 6 = .ok (.invokestatic 95, 3) := by decide +kernel
theorem dX6_bit_9 : decode cX6_bit 9 = .ok (.ifCond .eq 49, 3) := by decide +kernel
theorem dX6_bit_12 : decode cX6_bit 12 = .ok (.iload_n 1, 1) := by decide +kernel
theorem dX6_bit_13 : decode cX6_bit 13 = .ok (.i2l, 1) := by decide +kernel
theorem dX6_bit_14 : decode cX6_bit 14 = .ok (.lconst 1, 1) := by decide +kernel
theorem dX6_bit_15 : decode cX6_bit 15 = .ok (.ldc2_w 188, 3) := by decide +kernel
theorem dX6_bit_18 : decode cX6_bit 18 = .ok (.invokestatic 91, 3) := by decide +kernel
theorem dX6_bit_21 : decode cX6_bit 21 = .ok (.ifCond .eq 37, 3) := by decide +kernel
theorem dX6_bit_24 : decode cX6_bit 24 = .ok (.iload 4, 2) := by decide +kernel
theorem dX6_bit_26 : decode cX6_bit 26 = .ok (.i2l, 1) := by decide +kernel
theorem dX6_bit_27 : decode cX6_bit 27 = .ok (.lconst 0, 1) := by decide +kernel
theorem dX6_bit_28 : decode cX6_bit 28 = .ok (.iconst 2, 1) := by decide +kernel
theorem dX6_bit_29 : decode cX6_bit 29 = .ok (.iload_n 1, 1) := by decide +kernel
theorem dX6_bit_30 : decode cX6_bit 30 = .ok (.imul, 1) := by decide +kernel
theorem dX6_bit_31 : decode cX6_bit 31 = .ok (.iconst 2, 1) := by decide +kernel
theorem dX6_bit_32 : decode cX6_bit 32 = .ok (.isub, 1) := by decide +kernel
theorem dX6_bit_33 : decode cX6_bit 33 = .ok (.i2l, 1) := by decide +kernel
theorem dX6_bit_34 : decode cX6_bit 34 = .ok (.invokestatic 91, 3) := by decide +kernel
theorem dX6_bit_37 : decode cX6_bit 37 = .ok (.ifCond .eq 21, 3) := by decide +kernel
theorem dX6_bit_40 : decode cX6_bit 40 = .ok (.iload 5, 2) := by decide +kernel
theorem dX6_bit_42 : decode cX6_bit 42 = .ok (.i2l, 1) := by decide +kernel
theorem dX6_bit_43 : decode cX6_bit 43 = .ok (.lconst 0, 1) := by decide +kernel
theorem dX6_bit_44 : decode cX6_bit 44 = .ok (.iconst 1, 1) := by decide +kernel
theorem dX6_bit_45 : decode cX6_bit 45 = .ok (.iload_n 1, 1) := by decide +kernel
theorem dX6_bit_46 : decode cX6_bit 46 = .ok (.iconst 1, 1) := by decide +kernel
theorem dX6_bit_47 : decode cX6_bit 47 = .ok (.isub, 1) := by decide +kernel
theorem dX6_bit_48 : decode cX6_bit 48 = .ok (.ishl, 1) := by decide +kernel
theorem dX6_bit_49 : decode cX6_bit 49 = .ok (.iconst 1, 1) := by decide +kernel
theorem dX6_bit_50 : decode cX6_bit 50 = .ok (.isub, 1) := by decide +kernel
theorem dX6_bit_51 : decode cX6_bit 51 = .ok (.i2l, 1) := by decide +kernel
theorem dX6_bit_52 : decode cX6_bit 52 = .ok (.invokestatic 91, 3) := by decide +kernel
theorem dX6_bit_55 : decode cX6_bit 55 = .ok (.ifCond .ne 6, 3) := by decide +kernel
theorem dX6_bit_58 : decode cX6_bit 58 = .ok (.ldc 101, 2) := by decide +kernel
theorem dX6_bit_60 : decode cX6_bit 60 = .ok (.ireturn, 1) := by decide +kernel
theorem dX6_bit_61 : decode cX6_bit 61 = .ok (.aload_n 0, 1) := by decide +kernel
theorem dX6_bit_62 : decode cX6_bit 62 = .ok (.getfield 7, 3) := by decide +kernel
theorem dX6_bit_65 : decode cX6_bit 65 = .ok (.iload_n 2, 1) := by decide +kernel
theorem dX6_bit_66 : decode cX6_bit 66 = .ok (.iaload, 1) := by decide +kernel
theorem dX6_bit_67 : decode cX6_bit 67 = .ok (.ifCond .ge 9, 3) := by decide +kernel
theorem dX6_bit_70 : decode cX6_bit 70 = .ok (.aload_n 0, 1) := by decide +kernel
theorem dX6_bit_71 : decode cX6_bit 71 = .ok (.iconst 1, 1) := by decide +kernel
theorem dX6_bit_72 : decode cX6_bit 72 = .ok (.invokevirtual 102, 3) := by decide +kernel
theorem dX6_bit_75 : decode cX6_bit 75 = .ok (.ireturn, 1) := by decide +kernel
theorem dX6_bit_76 : decode cX6_bit 76 = .ok (.iconst 1, 1) := by decide +kernel
theorem dX6_bit_77 : decode cX6_bit 77 = .ok (.iload_n 1, 1) := by decide +kernel
theorem dX6_bit_78 : decode cX6_bit 78 = .ok (.ishl, 1) := by decide +kernel
theorem dX6_bit_79 : decode cX6_bit 79 = .ok (.istore 6, 2) := by decide +kernel
theorem dX6_bit_81 : decode cX6_bit 81 = .ok (.iload_n 3, 1) := by decide +kernel
theorem dX6_bit_82 : decode cX6_bit 82 = .ok (.ifCond .lt 20, 3) := by decide +kernel
theorem dX6_bit_85 : decode cX6_bit 85 = .ok (.iload_n 3, 1) := by decide +kernel
theorem dX6_bit_86 : decode cX6_bit 86 = .ok (.i2l, 1) := by decide +kernel
theorem dX6_bit_87 : decode cX6_bit 87 = .ok (.iload 6, 2) := by decide +kernel
theorem dX6_bit_89 : decode cX6_bit 89 = .ok (.i2l, 1) := by decide +kernel
theorem dX6_bit_90 : decode cX6_bit 90 = .ok (.ladd, 1) := by decide +kernel
theorem dX6_bit_91 : decode cX6_bit 91 = .ok (.aload_n 0, 1) := by decide +kernel
theorem dX6_bit_92 : decode cX6_bit 92 = .ok (.getfield 13, 3) := by decide +kernel
theorem dX6_bit_95 : decode cX6_bit 95 = .ok (.iload_n 2, 1) := by decide +kernel
theorem dX6_bit_96 : decode cX6_bit 96 = .ok (.iaload, 1) := by decide +kernel
theorem dX6_bit_97 : decode cX6_bit 97 = .ok (.i2l, 1) := by decide +kernel
theorem dX6_bit_98 : decode cX6_bit 98 = .ok (.lcmp, 1) := by decide +kernel
theorem dX6_bit_99 : decode cX6_bit 99 = .ok (.ifCond .le 9, 3) := by decide +kernel
theorem dX6_bit_102 : decode cX6_bit 102 = .ok (.aload_n 0, 1) := by decide +kernel
theorem dX6_bit_103 : decode cX6_bit 103 = .ok (.iconst 2, 1) := by decide +kernel
theorem dX6_bit_104 : decode cX6_bit 104 = .ok (.invokevirtual 102, 3) := by decide +kernel
theorem dX6_bit_107 : decode cX6_bit 107 = .ok (.ireturn, 1) := by decide +kernel
theorem dX6_bit_108 : decode cX6_bit 108 = .ok (.iconst 0, 1) := by decide +kernel
theorem dX6_bit_109 : decode cX6_bit 109 = .ok (.istore 7, 2) := by decide +kernel
theorem dX6_bit_111 : decode cX6_bit 111 = .ok (.iconst 0, 1) := by decide +kernel
theorem dX6_bit_112 : decode cX6_bit 112 = .ok (.istore 8, 2) := by decide +kernel
theorem dX6_bit_114 : decode cX6_bit 114 = .ok (.iload 8, 2) := by decide +kernel
theorem dX6_bit_116 : decode cX6_bit 116 = .ok (.iload 6, 2) := by decide +kernel
theorem dX6_bit_118 : decode cX6_bit 118 = .ok (.if_icmp .ge 72, 3) := by decide +kernel
theorem dX6_bit_121 : decode cX6_bit 121 = .ok (.aload_n 0, 1) := by decide +kernel
theorem dX6_bit_122 : decode cX6_bit 122 = .ok (.getfield 16, 3) := by decide +kernel
theorem dX6_bit_125 : decode cX6_bit 125 = .ok (.bipush 64, 2) := by decide +kernel
theorem dX6_bit_127 : decode cX6_bit 127 = .ok (.iload_n 2, 1) := by decide +kernel
theorem dX6_bit_128 : decode cX6_bit 128 = .ok (.imul, 1) := by decide +kernel
theorem dX6_bit_129 : decode cX6_bit 129 = .ok (.iload_n 3, 1) := by decide +kernel
theorem dX6_bit_130 : decode cX6_bit 130 = .ok (.iadd, 1) := by decide +kernel
theorem dX6_bit_131 : decode cX6_bit 131 = .ok (.iload 8, 2) := by decide +kernel
theorem dX6_bit_133 : decode cX6_bit 133 = .ok (.iadd, 1) := by decide +kernel
theorem dX6_bit_134 : decode cX6_bit 134 = .ok (.iaload, 1) := by decide +kernel
theorem dX6_bit_135 : decode cX6_bit 135 = .ok (.istore 9, 2) := by decide +kernel
theorem dX6_bit_137 : decode cX6_bit 137 = .ok (.iload 9, 2) := by decide +kernel
theorem dX6_bit_139 : decode cX6_bit 139 = .ok (.i2l, 1) := by decide +kernel
theorem dX6_bit_140 : decode cX6_bit 140 = .ok (.lconst 0, 1) := by decide +kernel
theorem dX6_bit_141 : decode cX6_bit 141 = .ok (.iload 6, 2) := by decide +kernel
theorem dX6_bit_143 : decode cX6_bit 143 = .ok (.iconst 1, 1) := by decide +kernel
theorem dX6_bit_144 : decode cX6_bit 144 = .ok (.isub, 1) := by decide +kernel
theorem dX6_bit_145 : decode cX6_bit 145 = .ok (.i2l, 1) := by decide +kernel
theorem dX6_bit_146 : decode cX6_bit 146 = .ok (.invokestatic 91, 3) := by decide +kernel
theorem dX6_bit_149 : decode cX6_bit 149 = .ok (.ifCond .eq 14, 3) := by decide +kernel
theorem dX6_bit_152 : decode cX6_bit 152 = .ok (.iload 7, 2) := by decide +kernel
theorem dX6_bit_154 : decode cX6_bit 154 = .ok (.iload 9, 2) := by decide +kernel
theorem dX6_bit_156 : decode cX6_bit 156 = .ok (.ishr, 1) := by decide +kernel
theorem dX6_bit_157 : decode cX6_bit 157 = .ok (.iconst 1, 1) := by decide +kernel
theorem dX6_bit_158 : decode cX6_bit 158 = .ok (.iand, 1) := by decide +kernel
theorem dX6_bit_159 : decode cX6_bit 159 = .ok (.iconst 1, 1) := by decide +kernel
theorem dX6_bit_160 : decode cX6_bit 160 = .ok (.if_icmp .ne 6, 3) := by decide +kernel
theorem dX6_bit_163 : decode cX6_bit 163 = .ok (.ldc 101, 2) := by decide +kernel
theorem dX6_bit_165 : decode cX6_bit 165 = .ok (.ireturn, 1) := by decide +kernel
theorem dX6_bit_166 : decode cX6_bit 166 = .ok (.iload 7, 2) := by decide +kernel
theorem dX6_bit_168 : decode cX6_bit 168 = .ok (.iconst 1, 1) := by decide +kernel
theorem dX6_bit_169 : decode cX6_bit 169 = .ok (.iload 9, 2) := by decide +kernel
theorem dX6_bit_171 : decode cX6_bit 171 = .ok (.ishl, 1) := by decide +kernel
theorem dX6_bit_172 : decode cX6_bit 172 = .ok (.ior, 1) := by decide +kernel
theorem dX6_bit_173 : decode cX6_bit 173 = .ok (.istore 7, 2) := by decide +kernel
theorem dX6_bit_175 : decode cX6_bit 175 = .ok (.aload_n 0, 1) := by decide +kernel
theorem dX6_bit_176 : decode cX6_bit 176 = .ok (.getfield 50, 3) := by decide +kernel
theorem dX6_bit_179 : decode cX6_bit 179 = .ok (.iload 8, 2) := by decide +kernel
theorem dX6_bit_181 : decode cX6_bit 181 = .ok (.iload 9, 2) := by decide +kernel
theorem dX6_bit_183 : decode cX6_bit 183 = .ok (.iastore, 1) := by decide +kernel
theorem dX6_bit_184 : decode cX6_bit 184 = .ok (.iinc 8 1, 3) := by decide +kernel
theorem dX6_bit_187 : decode cX6_bit 187 = .ok (.goto (-73), 3) := by decide +kernel
theorem dX6_bit_190 : decode cX6_bit 190 = .ok (.aload_n 0, 1) := by decide +kernel
theorem dX6_bit_191 : decode cX6_bit 191 = .ok (.iconst 0, 1) := by decide +kernel
theorem dX6_bit_192 : decode cX6_bit 192 = .ok (.putfield 85, 3) := by decide +kernel
theorem dX6_bit_195 : decode cX6_bit 195 = .ok (.iconst 0, 1) := by decide +kernel
theorem dX6_bit_196 : decode cX6_bit 196 = .ok (.istore 8, 2) := by decide +kernel
theorem dX6_bit_198 : decode cX6_bit 198 = .ok (.iload 8, 2) := by decide +kernel
theorem dX6_bit_200 : decode cX6_bit 200 = .ok (.iload_n 1, 1) := by decide +kernel
theorem dX6_bit_201 : decode cX6_bit 201 = .ok (.if_icmp .ge 66, 3) := by decide +kernel
theorem dX6_bit_204 : decode cX6_bit 204 = .ok (.iconst 0, 1) := by decide +kernel
theorem dX6_bit_205 : decode cX6_bit 205 = .ok (.istore 9, 2) := by decide +kernel
theorem dX6_bit_207 : decode cX6_bit 207 = .ok (.iload 9, 2) := by decide +kernel
theorem dX6_bit_209 : decode cX6_bit 209 = .ok (.iconst 1, 1) := by decide +kernel
theorem dX6_bit_210 : decode cX6_bit 210 = .ok (.iload 8, 2) := by decide +kernel
theorem dX6_bit_212 : decode cX6_bit 212 = .ok (.ishl, 1) := by decide +kernel
theorem dX6_bit_213 : decode cX6_bit 213 = .ok (.if_icmp .ge 18, 3) := by decide +kernel
theorem dX6_bit_216 : decode cX6_bit 216 = .ok (.aload_n 0, 1) := by decide +kernel
theorem dX6_bit_217 : decode cX6_bit 217 = .ok (.iload_n 1, 1) := by decide +kernel
theorem dX6_bit_218 : decode cX6_bit 218 = .ok (.iload 8, 2) := by decide +kernel
theorem dX6_bit_220 : decode cX6_bit 220 = .ok (.iload 9, 2) := by decide +kernel
theorem dX6_bit_222 : decode cX6_bit 222 = .ok (.invokevirtual 190, 3) := by decide +kernel
theorem dX6_bit_225 : decode cX6_bit 225 = .ok (.iinc 9 1, 3) := by decide +kernel
theorem dX6_bit_228 : decode cX6_bit 228 = .ok (.goto (-21), 3) := by decide +kernel
theorem dX6_bit_231 : decode cX6_bit 231 = .ok (.iconst 0, 1) := by decide +kernel
theorem dX6_bit_232 : decode cX6_bit 232 = .ok (.istore 9, 2) := by decide +kernel
theorem dX6_bit_234 : decode cX6_bit 234 = .ok (.iload 9, 2) := by decide +kernel
theorem dX6_bit_236 : decode cX6_bit 236 = .ok (.iload 6, 2) := by decide +kernel
theorem dX6_bit_238 : decode cX6_bit 238 = .ok (.if_icmp .ge 23, 3) := by decide +kernel
theorem dX6_bit_241 : decode cX6_bit 241 = .ok (.aload_n 0, 1) := by decide +kernel
theorem dX6_bit_242 : decode cX6_bit 242 = .ok (.getfield 50, 3) := by decide +kernel
theorem dX6_bit_245 : decode cX6_bit 245 = .ok (.iload 9, 2) := by decide +kernel
theorem dX6_bit_247 : decode cX6_bit 247 = .ok (.aload_n 0, 1) := by decide +kernel
theorem dX6_bit_248 : decode cX6_bit 248 = .ok (.getfield 53, 3) := by decide +kernel
theorem dX6_bit_251 : decode cX6_bit 251 = .ok (.iload 9, 2) := by decide +kernel
theorem dX6_bit_253 : decode cX6_bit 253 = .ok (.iaload, 1) := by decide +kernel
theorem dX6_bit_254 : decode cX6_bit 254 = .ok (.iastore, 1) := by decide +kernel
theorem dX6_bit_255 : decode cX6_bit 255 = .ok (.iinc 9 1, 3) := by decide +kernel
theorem dX6_bit_258 : decode cX6_bit 258 = .ok (.goto (-24), 3) := by decide +kernel
theorem dX6_bit_261 : decode cX6_bit 261 = .ok (.iinc 8 1, 3) := by decide +kernel
theorem dX6_bit_264 : decode cX6_bit 264 = .ok (.goto (-66), 3) := by decide +kernel
theorem dX6_bit_267 : decode cX6_bit 267 = .ok (.aload_n 0, 1) := by decide +kernel
theorem dX6_bit_268 : decode cX6_bit 268 = .ok (.getfield 47, 3) := by decide +kernel
theorem dX6_bit_271 : decode cX6_bit 271 = .ok (.bipush 8, 2) := by decide +kernel
theorem dX6_bit_273 : decode cX6_bit 273 = .ok (.iload 4, 2) := by decide +kernel
theorem dX6_bit_275 : decode cX6_bit 275 = .ok (.imul, 1) := by decide +kernel
theorem dX6_bit_276 : decode cX6_bit 276 = .ok (.iload 5, 2) := by decide +kernel
theorem dX6_bit_278 : decode cX6_bit 278 = .ok (.iadd, 1) := by decide +kernel
theorem dX6_bit_279 : decode cX6_bit 279 = .ok (.iaload, 1) := by decide +kernel
theorem dX6_bit_280 : decode cX6_bit 280 = .ok (.ireturn, 1) := by decide +kernel
set_option maxRecDepth 20000 in
theorem ggX6_goes_X6_isSheet : GoodIn wsX6_goes wsX6_isSheet := goodIn_r _ [13, 14, 15, 16, 12, 17] (by decide +kernel) (by decide +kernel)
set_option maxRecDepth 20000 in
theorem gX6_goes_X6_isSheet : GoodIn wsX6_goes (va_wsS RX6 95 yX6_isSheet wsX6_isSheet) := goodIn_app (goodIn_of _ (by decide +kernel)) ggX6_goes_X6_isSheet
set_option maxRecDepth 20000 in
theorem ggX6_goes_X6_in : GoodIn wsX6_goes wsX6_in := goodIn_r _ [17] (by decide +kernel) (by decide +kernel)
set_option maxRecDepth 20000 in
theorem gX6_goes_X6_in : GoodIn wsX6_goes (va_wsS RX6 91 yX6_in wsX6_in) := goodIn_app (goodIn_of _ (by decide +kernel)) ggX6_goes_X6_in
set_option maxRecDepth 20000 in
theorem ggX6_goes_X6_found : GoodIn wsX6_goes wsX6_found := goodIn_r _ [21, 4, 22, 23, 24, 25, 26, 27, 28, 29, 30, 31, 32, 33, 34, 35, 36, 37, 38, 39, 40, 41, 42, 43, 44, 45, 46, 47, 48, 49, 50, 51, 52] (by decide +kernel) (by decide +kernel)
set_option maxRecDepth 20000 in
theorem gX6_goes_X6_found : GoodIn wsX6_goes (wsV RX6 102 RX6 yX6_found wsX6_found) := goodIn_app (goodIn_of _ (by decide +kernel)) ggX6_goes_X6_found
theorem dX6_goes_0 : decode cX6_goes 0 = .ok (.aload_n 0, 1) := by decide +kernel
theorem dX6_goes_1 : decode cX6_goes 1 = .ok (.iconst 0, 1) := by decide +kernel
theorem dX6_goes_2 : decode cX6_goes 2 = .ok (.putfield 81, 3) := by decide +kernel
theorem dX6_goes_5 : decode cX6_goes 5 = .ok (.iload_n 2, 1) := by decide +kernel
theorem dX6_goes_6 : decode cX6_goes 6 = .ok (.invokestatic 95, 3) := by decide +kernel
theorem dX6_goes_9 : decode cX6_goes 9 = .ok (.ifCond .eq 31, 3) := by decide +kernel
theorem dX6_goes_12 : decode cX6_goes 12 = .ok (.iload_n 1, 1) := by decide +kernel
theorem dX6_goes_13 : decode cX6_goes 13 = .ok (.i2l, 1) := by decide +kernel
theorem dX6_goes_14 : decode cX6_goes 14 = .ok (.lconst 1, 1) := by decide +kernel
theorem dX6_goes_15 : decode cX6_goes 15 = .ok (.ldc2_w 188, 3) := by decide +kernel
theorem dX6_goes_18 : decode cX6_goes 18 = .ok (.invokestatic 91, 3) := by decide +kernel
theorem dX6_goes_21 : decode cX6_goes 21 = .ok (.ifCond .eq 19, 3) := by decide +kernel
theorem dX6_goes_24 : decode cX6_goes 24 = .ok (.iload 4, 2) := by decide +kernel
theorem dX6_goes_26 : decode cX6_goes 26 = .ok (.i2l, 1) := by decide +kernel
theorem dX6_goes_27 : decode cX6_goes 27 = .ok (.lconst 0, 1) := by decide +kernel
theorem dX6_goes_28 : decode cX6_goes 28 = .ok (.iconst 1, 1) := by decide +kernel
theorem dX6_goes_29 : decode cX6_goes 29 = .ok (.iload_n 1, 1) := by decide +kernel
theorem dX6_goes_30 : decode cX6_goes 30 = .ok (.ishl, 1) := by decide +kernel
theorem dX6_goes_31 : decode cX6_goes 31 = .ok (.iconst 1, 1) := by decide +kernel
theorem dX6_goes_32 : decode cX6_goes 32 = .ok (.isub, 1) := by decide +kernel
theorem dX6_goes_33 : decode cX6_goes 33 = .ok (.i2l, 1) := by decide +kernel
theorem dX6_goes_34 : decode cX6_goes 34 = .ok (.invokestatic 91, 3) := by decide +kernel
theorem dX6_goes_37 : decode cX6_goes 37 = .ok (.ifCond .ne 6, 3) := by decide +kernel
theorem dX6_goes_40 : decode cX6_goes 40 = .ok (.ldc 101, 2) := by decide +kernel
theorem dX6_goes_42 : decode cX6_goes 42 = .ok (.ireturn, 1) := by decide +kernel
theorem dX6_goes_43 : decode cX6_goes 43 = .ok (.aload_n 0, 1) := by decide +kernel
theorem dX6_goes_44 : decode cX6_goes 44 = .ok (.iconst 0, 1) := by decide +kernel
theorem dX6_goes_45 : decode cX6_goes 45 = .ok (.putfield 85, 3) := by decide +kernel
theorem dX6_goes_48 : decode cX6_goes 48 = .ok (.aload_n 0, 1) := by decide +kernel
theorem dX6_goes_49 : decode cX6_goes 49 = .ok (.getfield 7, 3) := by decide +kernel
theorem dX6_goes_52 : decode cX6_goes 52 = .ok (.iload_n 2, 1) := by decide +kernel
theorem dX6_goes_53 : decode cX6_goes 53 = .ok (.iaload, 1) := by decide +kernel
theorem dX6_goes_54 : decode cX6_goes 54 = .ok (.ifCond .ge 9, 3) := by decide +kernel
theorem dX6_goes_57 : decode cX6_goes 57 = .ok (.aload_n 0, 1) := by decide +kernel
theorem dX6_goes_58 : decode cX6_goes 58 = .ok (.iconst 1, 1) := by decide +kernel
theorem dX6_goes_59 : decode cX6_goes 59 = .ok (.invokevirtual 102, 3) := by decide +kernel
theorem dX6_goes_62 : decode cX6_goes 62 = .ok (.ireturn, 1) := by decide +kernel
theorem dX6_goes_63 : decode cX6_goes 63 = .ok (.iconst 1, 1) := by decide +kernel
theorem dX6_goes_64 : decode cX6_goes 64 = .ok (.iload_n 1, 1) := by decide +kernel
theorem dX6_goes_65 : decode cX6_goes 65 = .ok (.iconst 1, 1) := by decide +kernel
theorem dX6_goes_66 : decode cX6_goes 66 = .ok (.isub, 1) := by decide +kernel
theorem dX6_goes_67 : decode cX6_goes 67 = .ok (.ishl, 1) := by decide +kernel
