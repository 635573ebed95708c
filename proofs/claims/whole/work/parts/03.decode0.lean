theorem dX0_init_0 : decode cX0_init 0 = .ok (.aload_n 0, 1) := by decide +kernel
theorem dX0_init_1 : decode cX0_init 1 = .ok (.invokespecial 3, 3) := by decide +kernel
theorem dX0_init_4 : decode cX0_init 4 = .ok (.aload_n 0, 1) := by decide +kernel
theorem dX0_init_5 : decode cX0_init 5 = .ok (.bipush 16, 2) := by decide +kernel
theorem dX0_init_7 : decode cX0_init 7 = .ok (.newarray .int, 2) := by decide +kernel
theorem dX0_init_9 : decode cX0_init 9 = .ok (.putfield 9, 3) := by decide +kernel
theorem dX0_init_12 : decode cX0_init 12 = .ok (.return_, 1) := by decide +kernel
theorem dX0_emptyTrace_0 : decode cX0_emptyTrace 0 = .ok (.aload_n 0, 1) := by decide +kernel
theorem dX0_emptyTrace_1 : decode cX0_emptyTrace 1 = .ok (.iconst 0, 1) := by decide +kernel
theorem dX0_emptyTrace_2 : decode cX0_emptyTrace 2 = .ok (.putfield 15, 3) := by decide +kernel
theorem dX0_emptyTrace_5 : decode cX0_emptyTrace 5 = .ok (.return_, 1) := by decide +kernel
set_option maxRecDepth 20000 in
theorem ggX0_traced_X5_within : GoodIn wsX0_traced wsX5_within := goodIn_r _ [6] (by decide +kernel) (by decide +kernel)
set_option maxRecDepth 20000 in
theorem gX0_traced_X5_within_n19 : GoodIn wsX0_traced (wsX5_within) := ggX0_traced_X5_within
theorem dX0_traced_0 : decode cX0_traced 0 = .ok (.iload_n 1, 1) := by decide +kernel
theorem dX0_traced_1 : decode cX0_traced 1 = .ok (.iconst 0, 1) := by decide +kernel
theorem dX0_traced_2 : decode cX0_traced 2 = .ok (.aload_n 0, 1) := by decide +kernel
theorem dX0_traced_3 : decode cX0_traced 3 = .ok (.getfield 15, 3) := by decide +kernel
theorem dX0_traced_6 : decode cX0_traced 6 = .ok (.iconst 1, 1) := by decide +kernel
theorem dX0_traced_7 : decode cX0_traced 7 = .ok (.isub, 1) := by decide +kernel
theorem dX0_traced_8 : decode cX0_traced 8 = .ok (.invokestatic 19, 3) := by decide +kernel
theorem dX0_traced_11 : decode cX0_traced 11 = .ok (.ifCond .eq 12, 3) := by decide +kernel
theorem dX0_traced_14 : decode cX0_traced 14 = .ok (.aload_n 0, 1) := by decide +kernel
theorem dX0_traced_15 : decode cX0_traced 15 = .ok (.getfield 9, 3) := by decide +kernel
theorem dX0_traced_18 : decode cX0_traced 18 = .ok (.iload_n 1, 1) := by decide +kernel
theorem dX0_traced_19 : decode cX0_traced 19 = .ok (.iaload, 1) := by decide +kernel
theorem dX0_traced_20 : decode cX0_traced 20 = .ok (.goto 5, 3) := by decide +kernel
theorem dX0_traced_23 : decode cX0_traced 23 = .ok (.ldc 23, 2) := by decide +kernel
theorem dX0_traced_25 : decode cX0_traced 25 = .ok (.ireturn, 1) := by decide +kernel
set_option maxRecDepth 20000 in
theorem ggX0_sizeOf_X1_toldKind : GoodIn wsX0_sizeOf wsX1_toldKind := goodIn_r _ [5, 6, 7, 42, 43, 44, 45, 46, 47, 48, 49, 50, 51, 52, 53, 54, 55, 56, 57, 58] (by decide +kernel) (by decide +kernel)
set_option maxRecDepth 20000 in
theorem gX0_sizeOf_X1_toldKind : GoodIn wsX0_sizeOf (wsV RX0 24 RX1 yX1_toldKind wsX1_toldKind) := goodIn_app (goodIn_of _ (by decide +kernel)) ggX0_sizeOf_X1_toldKind
set_option maxRecDepth 20000 in
theorem ggX0_sizeOf_X0_sizeOfLoose : GoodIn wsX0_sizeOf wsX0_sizeOfLoose := goodIn_r _ [12, 13, 14, 15, 16, 11, 17, 18, 19, 20, 21, 22, 23, 24, 42, 43, 44, 45, 46, 47, 48, 49, 50, 51, 52, 53, 54, 55, 56, 57, 58, 59, 60] (by decide +kernel) (by decide +kernel)
set_option maxRecDepth 20000 in
theorem gX0_sizeOf_X0_sizeOfLoose : GoodIn wsX0_sizeOf (wsV RX0 30 RX0 yX0_sizeOfLoose wsX0_sizeOfLoose) := goodIn_app (goodIn_of _ (by decide +kernel)) ggX0_sizeOf_X0_sizeOfLoose
set_option maxRecDepth 20000 in
theorem ggX0_sizeOf_X0_sizeOfStrict : GoodIn wsX0_sizeOf wsX0_sizeOfStrict := goodIn_r _ [28, 14, 15, 16, 11, 17, 18, 19, 8, 9, 10, 12, 13, 20, 21, 22, 23, 24, 29, 30, 31, 32, 33, 34, 35, 36, 37, 59, 60, 42, 43, 44, 45, 46, 47, 48, 49, 50, 51, 52, 53, 54, 55, 56, 57, 58] (by decide +kernel) (by decide +kernel)
set_option maxRecDepth 20000 in
theorem gX0_sizeOf_X0_sizeOfStrict : GoodIn wsX0_sizeOf (wsV RX0 34 RX0 yX0_sizeOfStrict wsX0_sizeOfStrict) := goodIn_app (goodIn_of _ (by decide +kernel)) ggX0_sizeOf_X0_sizeOfStrict
set_option maxRecDepth 20000 in
theorem ggX0_sizeOf_X0_sizeOfBare : GoodIn wsX0_sizeOf wsX0_sizeOfBare := goodIn_r _ [41, 14, 15, 16, 11, 17, 18, 19, 20, 21, 22, 23, 24, 59, 60, 42, 43, 44, 45, 46, 47, 48, 49, 50, 51, 52, 53, 54, 55, 56, 57, 58] (by decide +kernel) (by decide +kernel)
set_option maxRecDepth 20000 in
theorem gX0_sizeOf_X0_sizeOfBare : GoodIn wsX0_sizeOf (wsV RX0 37 RX0 yX0_sizeOfBare wsX0_sizeOfBare) := goodIn_app (goodIn_of _ (by decide +kernel)) ggX0_sizeOf_X0_sizeOfBare
set_option maxRecDepth 20000 in
theorem ggX0_sizeOf_X0_sizeOfNet : GoodIn wsX0_sizeOf wsX0_sizeOfNet := goodIn_r _ [23, 24, 14, 15, 16, 11, 17, 18, 19, 42, 43, 44, 45, 46, 47, 48, 49, 50, 51, 52, 53, 54, 55, 56, 57, 58, 59, 60] (by decide +kernel) (by decide +kernel)
set_option maxRecDepth 20000 in
theorem gX0_sizeOf_X0_sizeOfNet : GoodIn wsX0_sizeOf (wsV RX0 40 RX0 yX0_sizeOfNet wsX0_sizeOfNet) := goodIn_app (goodIn_of _ (by decide +kernel)) ggX0_sizeOf_X0_sizeOfNet
theorem dX0_sizeOf_0 : decode cX0_sizeOf 0 = .ok (.aload_n 1, 1) := by decide +kernel
theorem dX0_sizeOf_1 : decode cX0_sizeOf 1 = .ok (.invokevirtual 24, 3) := by decide +kernel
theorem dX0_sizeOf_4 : decode cX0_sizeOf 4 = .ok (.tableswitch 46 1 3 #[28, 34, 40], 28) := by decide +kernel
theorem dX0_sizeOf_32 : decode cX0_sizeOf 32 = .ok (.aload_n 0, 1) := by decide +kernel
theorem dX0_sizeOf_33 : decode cX0_sizeOf 33 = .ok (.aload_n 1, 1) := by decide +kernel
theorem dX0_sizeOf_34 : decode cX0_sizeOf 34 = .ok (.invokevirtual 30, 3) := by decide +kernel
theorem dX0_sizeOf_37 : decode cX0_sizeOf 37 = .ok (.ireturn, 1) := by decide +kernel
theorem dX0_sizeOf_38 : decode cX0_sizeOf 38 = .ok (.aload_n 0, 1) := by decide +kernel
theorem dX0_sizeOf_39 : decode cX0_sizeOf 39 = .ok (.aload_n 1, 1) := by decide +kernel
theorem dX0_sizeOf_40 : decode cX0_sizeOf 40 = .ok (.invokevirtual 34, 3) := by decide +kernel
theorem dX0_sizeOf_43 : decode cX0_sizeOf 43 = .ok (.ireturn, 1) := by decide +kernel
theorem dX0_sizeOf_44 : decode cX0_sizeOf 44 = .ok (.aload_n 0, 1) := by decide +kernel
theorem dX0_sizeOf_45 : decode cX0_sizeOf 45 = .ok (.aload_n 1, 1) := by decide +kernel
theorem dX0_sizeOf_46 : decode cX0_sizeOf 46 = .ok (.invokevirtual 37, 3) := by decide +kernel
theorem dX0_sizeOf_49 : decode cX0_sizeOf 49 = .ok (.ireturn, 1) := by decide +kernel
theorem dX0_sizeOf_50 : decode cX0_sizeOf 50 = .ok (.aload_n 0, 1) := by decide +kernel
theorem dX0_sizeOf_51 : decode cX0_sizeOf 51 = .ok (.aload_n 1, 1) := by decide +kernel
theorem dX0_sizeOf_52 : decode cX0_sizeOf 52 = .ok (.invokevirtual 40, 3) := by decide +kernel
theorem dX0_sizeOf_55 : decode cX0_sizeOf 55 = .ok (.ireturn, 1) := by decide +kernel
set_option maxRecDepth 20000 in
theorem ggX0_markOf_X1_toldKind : GoodIn wsX0_markOf wsX1_toldKind := goodIn_r _ [5, 6, 7, 37, 38, 39, 40, 41, 42, 43, 44, 45, 46, 47, 48, 49, 50, 51, 52, 53] (by decide +kernel) (by decide +kernel)
set_option maxRecDepth 20000 in
theorem gX0_markOf_X1_toldKind : GoodIn wsX0_markOf (wsV RX0 24 RX1 yX1_toldKind wsX1_toldKind) := goodIn_app (goodIn_of _ (by decide +kernel)) ggX0_markOf_X1_toldKind
set_option maxRecDepth 20000 in
theorem ggX0_markOf_X0_markOfLoose : GoodIn wsX0_markOf wsX0_markOfLoose := goodIn_r _ [12, 13, 14, 15, 11, 16, 17, 18, 19, 20, 21, 22, 23, 54, 55, 37, 38, 39, 40, 41, 42, 43, 44, 45, 46, 47, 48, 49, 50, 51, 52, 53] (by decide +kernel) (by decide +kernel)
set_option maxRecDepth 20000 in
theorem gX0_markOf_X0_markOfLoose : GoodIn wsX0_markOf (wsV RX0 43 RX0 yX0_markOfLoose wsX0_markOfLoose) := goodIn_app (goodIn_of _ (by decide +kernel)) ggX0_markOf_X0_markOfLoose
set_option maxRecDepth 20000 in
theorem ggX0_markOf_X0_markOfBare : GoodIn wsX0_markOf wsX0_markOfBare := goodIn_r _ [27, 13, 14, 15, 11, 16, 17, 18, 19, 20, 21, 22, 23, 28, 29, 30, 31, 32, 33, 34, 35, 36, 54, 55, 37, 38, 39, 40, 41, 42, 43, 44, 45, 46, 47, 48, 49, 50, 51, 52, 53] (by decide +kernel) (by decide +kernel)
set_option maxRecDepth 20000 in
theorem gX0_markOf_X0_markOfBare : GoodIn wsX0_markOf (wsV RX0 46 RX0 yX0_markOfBare wsX0_markOfBare) := goodIn_app (goodIn_of _ (by decide +kernel)) ggX0_markOf_X0_markOfBare
set_option maxRecDepth 20000 in
theorem ggX0_markOf_X0_markOfNet : GoodIn wsX0_markOf wsX0_markOfNet := goodIn_r _ [22, 23, 13, 14, 15, 11, 16, 17, 18, 37, 38, 39, 40, 41, 42, 43, 44, 45, 46, 47, 48, 49, 50, 51, 52, 53, 54, 55] (by decide +kernel) (by decide +kernel)
set_option maxRecDepth 20000 in
theorem gX0_markOf_X0_markOfNet : GoodIn wsX0_markOf (wsV RX0 49 RX0 yX0_markOfNet wsX0_markOfNet) := goodIn_app (goodIn_of _ (by decide +kernel)) ggX0_markOf_X0_markOfNet
theorem dX0_markOf_0 : decode cX0_markOf 0 = .ok (.aload_n 1, 1) := by decide +kernel
theorem dX0_markOf_1 : decode cX0_markOf 1 = .ok (.invokevirtual 24, 3) := by decide +kernel
theorem dX0_markOf_4 : decode cX0_markOf 4 = .ok (.tableswitch 40 1 3 #[28, 28, 34], 28) := by decide +kernel
theorem dX0_markOf_32 : decode cX0_markOf 32 = .ok (.aload_n 0, 1) := by decide +kernel
theorem dX0_markOf_33 : decode cX0_markOf 33 = .ok (.aload_n 1, 1) := by decide +kernel
theorem dX0_markOf_34 : decode cX0_markOf 34 = .ok (.invokevirtual 43, 3) := by decide +kernel
theorem dX0_markOf_37 : decode cX0_markOf 37 = .ok (.ireturn, 1) := by decide +kernel
theorem dX0_markOf_38 : decode cX0_markOf 38 = .ok (.aload_n 0, 1) := by decide +kernel
theorem dX0_markOf_39 : decode cX0_markOf 39 = .ok (.aload_n 1, 1) := by decide +kernel
theorem dX0_markOf_40 : decode cX0_markOf 40 = .ok (.invokevirtual 46, 3) := by decide +kernel
theorem dX0_markOf_43 : decode cX0_markOf 43 = .ok (.ireturn, 1) := by decide +kernel
theorem dX0_markOf_44 : decode cX0_markOf 44 = .ok (.aload_n 0, 1) := by decide +kernel
theorem dX0_markOf_45 : decode cX0_markOf 45 = .ok (.aload_n 1, 1) := by decide +kernel
theorem dX0_markOf_46 : decode cX0_markOf 46 = .ok (.invokevirtual 49, 3) := by decide +kernel
theorem dX0_markOf_49 : decode cX0_markOf 49 = .ok (.ireturn, 1) := by decide +kernel
set_option maxRecDepth 20000 in
theorem ggX0_sizeOfNet_X0_begin : GoodIn wsX0_sizeOfNet wsX0_begin := goodIn_r _ [6, 7, 8, 26, 27] (by decide +kernel) (by decide +kernel)
set_option maxRecDepth 20000 in
theorem gX0_sizeOfNet_X0_begin : GoodIn wsX0_sizeOfNet (wsV RX0 52 RX0 yX0_begin wsX0_begin) := goodIn_app (goodIn_of _ (by decide +kernel)) ggX0_sizeOfNet_X0_begin
theorem dX0_sizeOfNet_0 : decode cX0_sizeOfNet 0 = .ok (.aload_n 0, 1) := by decide +kernel
theorem dX0_sizeOfNet_1 : decode cX0_sizeOfNet 1 = .ok (.bipush 10, 2) := by decide +kernel
theorem dX0_sizeOfNet_3 : decode cX0_sizeOfNet 3 = .ok (.invokevirtual 52, 3) := by decide +kernel
theorem dX0_sizeOfNet_6 : decode cX0_sizeOfNet 6 = .ok (.aload_n 1, 1) := by decide +kernel
theorem dX0_sizeOfNet_7 : decode cX0_sizeOfNet 7 = .ok (.getfield 56, 3) := by decide +kernel
theorem dX0_sizeOfNet_10 : decode cX0_sizeOfNet 10 = .ok (.ireturn, 1) := by decide +kernel
set_option maxRecDepth 20000 in
theorem ggX0_sizeOfLoose_X0_begin : GoodIn wsX0_sizeOfLoose wsX0_begin := goodIn_r _ [6, 7, 8, 31, 32] (by decide +kernel) (by decide +kernel)
set_option maxRecDepth 20000 in
theorem gX0_sizeOfLoose_X0_begin : GoodIn wsX0_sizeOfLoose (wsV RX0 52 RX0 yX0_begin wsX0_begin) := goodIn_app (goodIn_of _ (by decide +kernel)) ggX0_sizeOfLoose_X0_begin
set_option maxRecDepth 20000 in
theorem ggX0_sizeOfLoose_X0_sizeOfNet : GoodIn wsX0_sizeOfLoose wsX0_sizeOfNet := goodIn_r _ [12, 13, 2, 3, 4, 5, 6, 7, 8, 14, 15, 16, 17, 18, 19, 20, 21, 22, 23, 24, 25, 26, 27, 28, 29, 30, 31, 32] (by decide +kernel) (by decide +kernel)
set_option maxRecDepth 20000 in
theorem gX0_sizeOfLoose_X0_sizeOfNet : GoodIn wsX0_sizeOfLoose (wsV RX0 40 RX0 yX0_sizeOfNet wsX0_sizeOfNet) := goodIn_app (goodIn_of _ (by decide +kernel)) ggX0_sizeOfLoose_X0_sizeOfNet
theorem dX0_sizeOfLoose_0 : decode cX0_sizeOfLoose 0 = .ok (.aload_n 0, 1) := by decide +kernel
theorem dX0_sizeOfLoose_1 : decode cX0_sizeOfLoose 1 = .ok (.bipush 11, 2) := by decide +kernel
theorem dX0_sizeOfLoose_3 : decode cX0_sizeOfLoose 3 = .ok (.invokevirtual 52, 3) := by decide +kernel
theorem dX0_sizeOfLoose_6 : decode cX0_sizeOfLoose 6 = .ok (.aload_n 0, 1) := by decide +kernel
theorem dX0_sizeOfLoose_7 : decode cX0_sizeOfLoose 7 = .ok (.aload_n 1, 1) := by decide +kernel
theorem dX0_sizeOfLoose_8 : decode cX0_sizeOfLoose 8 = .ok (.invokevirtual 40, 3) := by decide +kernel
theorem dX0_sizeOfLoose_11 : decode cX0_sizeOfLoose 11 = .ok (.aload_n 1, 1) := by decide +kernel
theorem dX0_sizeOfLoose_12 : decode cX0_sizeOfLoose 12 = .ok (.getfield 59, 3) := by decide +kernel
theorem dX0_sizeOfLoose_15 : decode cX0_sizeOfLoose 15 = .ok (.iadd, 1) := by decide +kernel
theorem dX0_sizeOfLoose_16 : decode cX0_sizeOfLoose 16 = .ok (.ireturn, 1) := by decide +kernel
set_option maxRecDepth 20000 in
theorem ggX0_sizeOfStrict_X0_begin : GoodIn wsX0_sizeOfStrict wsX0_begin := goodIn_r _ [5, 6, 7, 27, 28] (by decide +kernel) (by decide +kernel)
set_option maxRecDepth 20000 in
theorem gX0_sizeOfStrict_X0_begin : GoodIn wsX0_sizeOfStrict (wsV RX0 52 RX0 yX0_begin wsX0_begin) := goodIn_app (goodIn_of _ (by decide +kernel)) ggX0_sizeOfStrict_X0_begin
set_option maxRecDepth 20000 in
theorem ggX0_sizeOfStrict_X0_sizeOfLoose : GoodIn wsX0_sizeOfStrict wsX0_sizeOfLoose := goodIn_r _ [11, 12, 1, 2, 3, 4, 5, 6, 7, 13, 14, 15, 16, 17, 29, 30, 31, 32, 33, 34, 35, 36, 37, 38, 39, 40, 41, 42, 43, 44, 45, 27, 28] (by decide +kernel) (by decide +kernel)
set_option maxRecDepth 20000 in
theorem gX0_sizeOfStrict_X0_sizeOfLoose : GoodIn wsX0_sizeOfStrict (wsV RX0 30 RX0 yX0_sizeOfLoose wsX0_sizeOfLoose) := goodIn_app (goodIn_of _ (by decide +kernel)) ggX0_sizeOfStrict_X0_sizeOfLoose
set_option maxRecDepth 20000 in
theorem ggX0_sizeOfStrict_X0_markOfLoose : GoodIn wsX0_sizeOfStrict wsX0_markOfLoose := goodIn_r _ [21, 1, 2, 3, 4, 5, 6, 7, 22, 23, 24, 25, 26, 27, 28, 29, 30, 31, 32, 33, 34, 35, 36, 37, 38, 39, 40, 41, 42, 43, 44, 45] (by decide +kernel) (by decide +kernel)
set_option maxRecDepth 20000 in
theorem gX0_sizeOfStrict_X0_markOfLoose : GoodIn wsX0_sizeOfStrict (wsV RX0 43 RX0 yX0_markOfLoose wsX0_markOfLoose) := goodIn_app (goodIn_of _ (by decide +kernel)) ggX0_sizeOfStrict_X0_markOfLoose
theorem dX0_sizeOfStrict_0 : decode cX0_sizeOfStrict 0 = .ok (.aload_n 0, 1) := by decide +kernel
theorem dX0_sizeOfStrict_1 : decode cX0_sizeOfStrict 1 = .ok (.bipush 12, 2) := by decide +kernel
theorem dX0_sizeOfStrict_3 : decode cX0_sizeOfStrict 3 = .ok (.invokevirtual 52, 3) := by decide +kernel
theorem dX0_sizeOfStrict_6 : decode cX0_sizeOfStrict 6 = .ok (.aload_n 0, 1) := by decide +kernel
theorem dX0_sizeOfStrict_7 : decode cX0_sizeOfStrict 7 = .ok (.aload_n 1, 1) := by decide +kernel
theorem dX0_sizeOfStrict_8 : decode cX0_sizeOfStrict 8 = .ok (.invokevirtual 30, 3) := by decide +kernel
theorem dX0_sizeOfStrict_11 : decode cX0_sizeOfStrict 11 = .ok (.istore_n 2, 1) := by decide +kernel
theorem dX0_sizeOfStrict_12 : decode cX0_sizeOfStrict 12 = .ok (.iload_n 2, 1) := by decide +kernel
theorem dX0_sizeOfStrict_13 : decode cX0_sizeOfStrict 13 = .ok (.aload_n 0, 1) := by decide +kernel
theorem dX0_sizeOfStrict_14 : decode cX0_sizeOfStrict 14 = .ok (.aload_n 1, 1) := by decide +kernel
theorem dX0_sizeOfStrict_15 : decode cX0_sizeOfStrict 15 = .ok (.invokevirtual 43, 3) := by decide +kernel
theorem dX0_sizeOfStrict_18 : decode cX0_sizeOfStrict 18 = .ok (.iadd, 1) := by decide +kernel
theorem dX0_sizeOfStrict_19 : decode cX0_sizeOfStrict 19 = .ok (.ireturn, 1) := by decide +kernel
set_option maxRecDepth 20000 in
theorem ggX0_sizeOfBare_X0_begin : GoodIn wsX0_sizeOfBare wsX0_begin := goodIn_r _ [5, 6, 7, 13, 14] (by decide +kernel) (by decide +kernel)
set_option maxRecDepth 20000 in
theorem gX0_sizeOfBare_X0_begin : GoodIn wsX0_sizeOfBare (wsV RX0 52 RX0 yX0_begin wsX0_begin) := goodIn_app (goodIn_of _ (by decide +kernel)) ggX0_sizeOfBare_X0_begin
set_option maxRecDepth 20000 in
theorem ggX0_sizeOfBare_X0_sizeOfNet : GoodIn wsX0_sizeOfBare wsX0_sizeOfNet := goodIn_r _ [11, 12, 1, 2, 3, 4, 5, 6, 7, 15, 16, 17, 18, 19, 20, 21, 22, 23, 24, 25, 26, 27, 28, 29, 30, 31, 13, 14] (by decide +kernel) (by decide +kernel)
set_option maxRecDepth 20000 in
theorem gX0_sizeOfBare_X0_sizeOfNet : GoodIn wsX0_sizeOfBare (wsV RX0 40 RX0 yX0_sizeOfNet wsX0_sizeOfNet) := goodIn_app (goodIn_of _ (by decide +kernel)) ggX0_sizeOfBare_X0_sizeOfNet
theorem dX0_sizeOfBare_0 : decode cX0_sizeOfBare 0 = .ok (.aload_n 0, 1) := by decide +kernel
theorem dX0_sizeOfBare_1 : decode cX0_sizeOfBare 1 = .ok (.bipush 13, 2) := by decide +kernel
theorem dX0_sizeOfBare_3 : decode cX0_sizeOfBare 3 = .ok (.invokevirtual 52, 3) := by decide +kernel
theorem dX0_sizeOfBare_6 : decode cX0_sizeOfBare 6 = .ok (.aload_n 0, 1) := by decide +kernel
theorem dX0_sizeOfBare_7 : decode cX0_sizeOfBare 7 = .ok (.aload_n 1, 1) := by decide +kernel
theorem dX0_sizeOfBare_8 : decode cX0_sizeOfBare 8 = .ok (.invokevirtual 40, 3) := by decide +kernel
theorem dX0_sizeOfBare_11 : decode cX0_sizeOfBare 11 = .ok (.iconst 2, 1) := by decide +kernel
theorem dX0_sizeOfBare_12 : decode cX0_sizeOfBare 12 = .ok (.idiv, 1) := by decide +kernel
theorem dX0_sizeOfBare_13 : decode cX0_sizeOfBare 13 = .ok (.ireturn, 1) := by decide +kernel
set_option maxRecDepth 20000 in
theorem ggX0_markOfNet_X0_begin : GoodIn wsX0_markOfNet wsX0_begin := goodIn_r _ [6, 7, 8, 26, 27] (by decide +kernel) (by decide +kernel)
set_option maxRecDepth 20000 in
theorem gX0_markOfNet_X0_begin : GoodIn wsX0_markOfNet (wsV RX0 52 RX0 yX0_begin wsX0_begin) := goodIn_app (goodIn_of _ (by decide +kernel)) ggX0_markOfNet_X0_begin
theorem dX0_markOfNet_0 : decode cX0_markOfNet 0 = .ok (.aload_n 0, 1) := by decide +kernel
theorem dX0_markOfNet_1 : decode cX0_markOfNet 1 = .ok (.bipush 20, 2) := by decide +kernel
theorem dX0_markOfNet_3 : decode cX0_markOfNet 3 = .ok (.invokevirtual 52, 3) := by decide +kernel
theorem dX0_markOfNet_6 : decode cX0_markOfNet 6 = .ok (.aload_n 1, 1) := by decide +kernel
theorem dX0_markOfNet_7 : decode cX0_markOfNet 7 = .ok (.getfield 62, 3) := by decide +kernel
theorem dX0_markOfNet_10 : decode cX0_markOfNet 10 = .ok (.ireturn, 1) := by decide +kernel
set_option maxRecDepth 20000 in
theorem ggX0_markOfLoose_X0_begin : GoodIn wsX0_markOfLoose wsX0_begin := goodIn_r _ [5, 6, 7, 13, 14] (by decide +kernel) (by decide +kernel)
set_option maxRecDepth 20000 in
theorem gX0_markOfLoose_X0_begin : GoodIn wsX0_markOfLoose (wsV RX0 52 RX0 yX0_begin wsX0_begin) := goodIn_app (goodIn_of _ (by decide +kernel)) ggX0_markOfLoose_X0_begin
set_option maxRecDepth 20000 in
theorem ggX0_markOfLoose_X0_markOfNet : GoodIn wsX0_markOfLoose wsX0_markOfNet := goodIn_r _ [11, 12, 1, 2, 3, 4, 5, 6, 7, 15, 16, 17, 18, 19, 20, 21, 22, 23, 24, 25, 26, 27, 28, 29, 30, 31, 13, 14] (by decide +kernel) (by decide +kernel)
set_option maxRecDepth 20000 in
theorem gX0_markOfLoose_X0_markOfNet : GoodIn wsX0_markOfLoose (wsV RX0 49 RX0 yX0_markOfNet wsX0_markOfNet) := goodIn_app (goodIn_of _ (by decide +kernel)) ggX0_markOfLoose_X0_markOfNet
theorem dX0_markOfLoose_0 : decode cX0_markOfLoose 0 = .ok (.aload_n 0, 1) := by decide +kernel
theorem dX0_markOfLoose_1 : decode cX0_markOfLoose 1 = .ok (.bipush 21, 2) := by decide +kernel
theorem dX0_markOfLoose_3 : decode cX0_markOfLoose 3 = .ok (.invokevirtual 52, 3) := by decide +kernel
theorem dX0_markOfLoose_6 : decode cX0_markOfLoose 6 = .ok (.aload_n 0, 1) := by decide +kernel
theorem dX0_markOfLoose_7 : decode cX0_markOfLoose 7 = .ok (.aload_n 1, 1) := by decide +kernel
theorem dX0_markOfLoose_8 : decode cX0_markOfLoose 8 = .ok (.invokevirtual 49, 3) := by decide +kernel
theorem dX0_markOfLoose_11 : decode cX0_markOfLoose 11 = .ok (.bipush 100, 2) := by decide +kernel
theorem dX0_markOfLoose_13 : decode cX0_markOfLoose 13 = .ok (.iadd, 1) := by decide +kernel
theorem dX0_markOfLoose_14 : decode cX0_markOfLoose 14 = .ok (.ireturn, 1) := by decide +kernel
set_option maxRecDepth 20000 in
theorem ggX0_markOfBare_X0_begin : GoodIn wsX0_markOfBare wsX0_begin := goodIn_r _ [5, 6, 7, 22, 23] (by decide +kernel) (by decide +kernel)
set_option maxRecDepth 20000 in
theorem gX0_markOfBare_X0_begin : GoodIn wsX0_markOfBare (wsV RX0 52 RX0 yX0_begin wsX0_begin) := goodIn_app (goodIn_of _ (by decide +kernel)) ggX0_markOfBare_X0_begin
set_option maxRecDepth 20000 in
theorem ggX0_markOfBare_X0_markOfNet : GoodIn wsX0_markOfBare wsX0_markOfNet := goodIn_r _ [11, 12, 1, 2, 3, 4, 5, 6, 7, 24, 25, 26, 27, 28, 29, 30, 31, 32, 33, 34, 35, 36, 37, 38, 39, 40, 22, 23] (by decide +kernel) (by decide +kernel)
set_option maxRecDepth 20000 in
theorem gX0_markOfBare_X0_markOfNet : GoodIn wsX0_markOfBare (wsV RX0 49 RX0 yX0_markOfNet wsX0_markOfNet) := goodIn_app (goodIn_of _ (by decide +kernel)) ggX0_markOfBare_X0_markOfNet
set_option maxRecDepth 20000 in
theorem ggX0_markOfBare_X0_sizeOfBare : GoodIn wsX0_markOfBare wsX0_sizeOfBare := goodIn_r _ [16, 1, 2, 3, 4, 5, 6, 7, 17, 18, 19, 20, 21, 22, 23, 24, 25, 26, 27, 28, 29, 30, 31, 32, 33, 34, 35, 36, 37, 38, 39, 40] (by decide +kernel) (by decide +kernel)
set_option maxRecDepth 20000 in
theorem gX0_markOfBare_X0_sizeOfBare : GoodIn wsX0_markOfBare (wsV RX0 37 RX0 yX0_sizeOfBare wsX0_sizeOfBare) := goodIn_app (goodIn_of _ (by decide +kernel)) ggX0_markOfBare_X0_sizeOfBare
theorem dX0_markOfBare_0 : decode cX0_markOfBare 0 = .ok (.aload_n 0, 1) := by decide +kernel
theorem dX0_markOfBare_1 : decode cX0_markOfBare 1 = .ok (.bipush 22, 2) := by decide +kernel
theorem dX0_markOfBare_3 : decode cX0_markOfBare 3 = .ok (.invokevirtual 52, 3) := by decide +kernel
theorem dX0_markOfBare_6 : decode cX0_markOfBare 6 = .ok (.aload_n 0, 1) := by decide +kernel
theorem dX0_markOfBare_7 : decode cX0_markOfBare 7 = .ok (.aload_n 1, 1) := by decide +kernel
theorem dX0_markOfBare_8 : decode cX0_markOfBare 8 = .ok (.invokevirtual 49, 3) := by decide +kernel
theorem dX0_markOfBare_11 : decode cX0_markOfBare 11 = .ok (.istore_n 2, 1) := by decide +kernel
theorem dX0_markOfBare_12 : decode cX0_markOfBare 12 = .ok (.iload_n 2, 1) := by decide +kernel
theorem dX0_markOfBare_13 : decode cX0_markOfBare 13 = .ok (.aload_n 0, 1) := by decide +kernel
theorem dX0_markOfBare_14 : decode cX0_markOfBare 14 = .ok (.aload_n 1, 1) := by decide +kernel
theorem dX0_markOfBare_15 : decode cX0_markOfBare 15 = .ok (.invokevirtual 37, 3) := by decide +kernel
theorem dX0_markOfBare_18 : decode cX0_markOfBare 18 = .ok (.iadd, 1) := by decide +kernel
theorem dX0_markOfBare_19 : decode cX0_markOfBare 19 = .ok (.ireturn, 1) := by decide +kernel
theorem dX0_begin_0 : decode cX0_begin 0 = .ok (.aload_n 0, 1) := by decide +kernel
theorem dX0_begin_1 : decode cX0_begin 1 = .ok (.getfield 15, 3) := by decide +kernel
theorem dX0_begin_4 : decode cX0_begin 4 = .ok (.aload_n 0, 1) := by decide +kernel
theorem dX0_begin_5 : decode cX0_begin 5 = .ok (.getfield 9, 3) := by decide +kernel
theorem dX0_begin_8 : decode cX0_begin 8 = .ok (.arraylength, 1) := by decide +kernel
theorem dX0_begin_9 : decode cX0_begin 9 = .ok (.if_icmp .ge 23, 3) := by decide +kernel
theorem dX0_begin_12 : decode cX0_begin 12 = .ok (.aload_n 0, 1) := by decide +kernel
theorem dX0_begin_13 : decode cX0_begin 13 = .ok (.getfield 9, 3) := by decide +kernel
theorem dX0_begin_16 : decode cX0_begin 16 = .ok (.aload_n 0, 1) := by decide +kernel
theorem dX0_begin_17 : decode cX0_begin 17 = .ok (.getfield 15, 3) := by decide +kernel
theorem dX0_begin_20 : decode cX0_begin 20 = .ok (.iload_n 1, 1) := by decide +kernel
theorem dX0_begin_21 : decode cX0_begin 21 = .ok (.iastore, 1) := by decide +kernel
theorem dX0_begin_22 : decode cX0_begin 22 = .ok (.aload_n 0, 1) := by decide +kernel
theorem dX0_begin_23 : decode cX0_begin 23 = .ok (.dup, 1) := by decide +kernel
theorem dX0_begin_24 : decode cX0_begin 24 = .ok (.getfield 15, 3) := by decide +kernel
theorem dX0_begin_27 : decode cX0_begin 27 = .ok (.iconst 1, 1) := by decide +kernel
theorem dX0_begin_28 : decode cX0_begin 28 = .ok (.iadd, 1) := by decide +kernel
theorem dX0_begin_29 : decode cX0_begin 29 = .ok (.putfield 15, 3) := by decide +kernel
theorem dX0_begin_32 : decode cX0_begin 32 = .ok (.return_, 1) := by decide +kernel
set_option maxRecDepth 20000 in
theorem ggX1_init_J7_fill_53178 : GoodIn wsX1_init wsJ7_fill_53178 := goodIn_r _ [27] (by decide +kernel) (by decide +kernel)
set_option maxRecDepth 20000 in
theorem gX1_init_J7_fill_53178 : GoodIn wsX1_init (va_wsS RX1 66 yJ7_fill_53178 wsJ7_fill_53178) := goodIn_app (goodIn_of _ (by decide +kernel)) ggX1_init_J7_fill_53178
theorem dX1_init_0 : decode cX1_init 0 = .ok (.aload_n 0, 1) := by decide +kernel
theorem dX1_init_1 : decode cX1_init 1 = .ok (.invokespecial 3, 3) := by decide +kernel
theorem dX1_init_4 : decode cX1_init 4 = .ok (.aload_n 0, 1) := by decide +kernel
theorem dX1_init_5 : decode cX1_init 5 = .ok (.iload_n 1, 1) := by decide +kernel
theorem dX1_init_6 : decode cX1_init 6 = .ok (.putfield 9, 3) := by decide +kernel
theorem dX1_init_9 : decode cX1_init 9 = .ok (.aload_n 0, 1) := by decide +kernel
theorem dX1_init_10 : decode cX1_init 10 = .ok (.iload_n 2, 1) := by decide +kernel
theorem dX1_init_11 : decode cX1_init 11 = .ok (.putfield 15, 3) := by decide +kernel
theorem dX1_init_14 : decode cX1_init 14 = .ok (.aload_n 0, 1) := by decide +kernel
theorem dX1_init_15 : decode cX1_init 15 = .ok (.iload_n 3, 1) := by decide +kernel
theorem dX1_init_16 : decode cX1_init 16 = .ok (.putfield 18, 3) := by decide +kernel
theorem dX1_init_19 : decode cX1_init 19 = .ok (.aload_n 0, 1) := by decide +kernel
theorem dX1_init_20 : decode cX1_init 20 = .ok (.iload_n 3, 1) := by decide +kernel
theorem dX1_init_21 : decode cX1_init 21 = .ok (.iload_n 2, 1) := by decide +kernel
theorem dX1_init_22 : decode cX1_init 22 = .ok (.imul, 1) := by decide +kernel
theorem dX1_init_23 : decode cX1_init 23 = .ok (.putfield 21, 3) := by decide +kernel
theorem dX1_init_26 : decode cX1_init 26 = .ok (.aload_n 0, 1) := by decide +kernel
theorem dX1_init_27 : decode cX1_init 27 = .ok (.iload_n 1, 1) := by decide +kernel
theorem dX1_init_28 : decode cX1_init 28 = .ok (.newarray .boolean, 2) := by decide +kernel
theorem dX1_init_30 : decode cX1_init 30 = .ok (.putfield 24, 3) := by decide +kernel
theorem dX1_init_33 : decode cX1_init 33 = .ok (.aload_n 0, 1) := by decide +kernel
theorem dX1_init_34 : decode cX1_init 34 = .ok (.aload_n 0, 1) := by decide +kernel
theorem dX1_init_35 : decode cX1_init 35 = .ok (.getfield 21, 3) := by decide +kernel
theorem dX1_init_38 : decode cX1_init 38 = .ok (.newarray .int, 2) := by decide +kernel
theorem dX1_init_40 : decode cX1_init 40 = .ok (.putfield 28, 3) := by decide +kernel
theorem dX1_init_43 : decode cX1_init 43 = .ok (.aload_n 0, 1) := by decide +kernel
theorem dX1_init_44 : decode cX1_init 44 = .ok (.aload_n 0, 1) := by decide +kernel
theorem dX1_init_45 : decode cX1_init 45 = .ok (.getfield 21, 3) := by decide +kernel
theorem dX1_init_48 : decode cX1_init 48 = .ok (.newarray .int, 2) := by decide +kernel
theorem dX1_init_50 : decode cX1_init 50 = .ok (.putfield 32, 3) := by decide +kernel
theorem dX1_init_53 : decode cX1_init 53 = .ok (.aload_n 0, 1) := by decide +kernel
theorem dX1_init_54 : decode cX1_init 54 = .ok (.aload_n 0, 1) := by decide +kernel
theorem dX1_init_55 : decode cX1_init 55 = .ok (.getfield 21, 3) := by decide +kernel
theorem dX1_init_58 : decode cX1_init 58 = .ok (.newarray .boolean, 2) := by decide +kernel
theorem dX1_init_60 : decode cX1_init 60 = .ok (.putfield 35, 3) := by decide +kernel
theorem dX1_init_63 : decode cX1_init 63 = .ok (.aload_n 0, 1) := by decide +kernel
theorem dX1_init_64 : decode cX1_init 64 = .ok (.iload_n 1, 1) := by decide +kernel
theorem dX1_init_65 : decode cX1_init 65 = .ok (.iload_n 3, 1) := by decide +kernel
theorem dX1_init_66 : decode cX1_init 66 = .ok (.imul, 1) := by decide +kernel
theorem dX1_init_67 : decode cX1_init 67 = .ok (.newarray .int, 2) := by decide +kernel
theorem dX1_init_69 : decode cX1_init 69 = .ok (.putfield 38, 3) := by decide +kernel
theorem dX1_init_72 : decode cX1_init 72 = .ok (.aload_n 0, 1) := by decide +kernel
theorem dX1_init_73 : decode cX1_init 73 = .ok (.iload_n 1, 1) := by decide +kernel
theorem dX1_init_74 : decode cX1_init 74 = .ok (.iload_n 3, 1) := by decide +kernel
theorem dX1_init_75 : decode cX1_init 75 = .ok (.imul, 1) := by decide +kernel
theorem dX1_init_76 : decode cX1_init 76 = .ok (.newarray .int, 2) := by decide +kernel
theorem dX1_init_78 : decode cX1_init 78 = .ok (.putfield 41, 3) := by decide +kernel
theorem dX1_init_81 : decode cX1_init 81 = .ok (.aload_n 0, 1) := by decide +kernel
theorem dX1_init_82 : decode cX1_init 82 = .ok (.aload_n 0, 1) := by decide +kernel
theorem dX1_init_83 : decode cX1_init 83 = .ok (.getfield 21, 3) := by decide +kernel
theorem dX1_init_86 : decode cX1_init 86 = .ok (.newarray .int, 2) := by decide +kernel
theorem dX1_init_88 : decode cX1_init 88 = .ok (.putfield 44, 3) := by decide +kernel
theorem dX1_init_91 : decode cX1_init 91 = .ok (.aload_n 0, 1) := by decide +kernel
theorem dX1_init_92 : decode cX1_init 92 = .ok (.aload_n 0, 1) := by decide +kernel
theorem dX1_init_93 : decode cX1_init 93 = .ok (.getfield 21, 3) := by decide +kernel
theorem dX1_init_96 : decode cX1_init 96 = .ok (.newarray .int, 2) := by decide +kernel
theorem dX1_init_98 : decode cX1_init 98 = .ok (.putfield 47, 3) := by decide +kernel
theorem dX1_init_101 : decode cX1_init 101 = .ok (.aload_n 0, 1) := by decide +kernel
theorem dX1_init_102 : decode cX1_init 102 = .ok (.aload_n 0, 1) := by decide +kernel
theorem dX1_init_103 : decode cX1_init 103 = .ok (.getfield 21, 3) := by decide +kernel
theorem dX1_init_106 : decode cX1_init 106 = .ok (.newarray .int, 2) := by decide +kernel
theorem dX1_init_108 : decode cX1_init 108 = .ok (.putfield 50, 3) := by decide +kernel
theorem dX1_init_111 : decode cX1_init 111 = .ok (.aload_n 0, 1) := by decide +kernel
theorem dX1_init_112 : decode cX1_init 112 = .ok (.iload_n 1, 1) := by decide +kernel
theorem dX1_init_113 : decode cX1_init 113 = .ok (.putfield 53, 3) := by decide +kernel
theorem dX1_init_116 : decode cX1_init 116 = .ok (.aload_n 0, 1) := by decide +kernel
theorem dX1_init_117 : decode cX1_init 117 = .ok (.iconst 0, 1) := by decide +kernel
theorem dX1_init_118 : decode cX1_init 118 = .ok (.putfield 56, 3) := by decide +kernel
theorem dX1_init_121 : decode cX1_init 121 = .ok (.aload_n 0, 1) := by decide +kernel
theorem dX1_init_122 : decode cX1_init 122 = .ok (.iconst 0, 1) := by decide +kernel
theorem dX1_init_123 : decode cX1_init 123 = .ok (.putfield 59, 3) := by decide +kernel
theorem dX1_init_126 : decode cX1_init 126 = .ok (.aload_n 0, 1) := by decide +kernel
theorem dX1_init_127 : decode cX1_init 127 = .ok (.iconst 0, 1) := by decide +kernel
theorem dX1_init_128 : decode cX1_init 128 = .ok (.putfield 62, 3) := by decide +kernel
theorem dX1_init_131 : decode cX1_init 131 = .ok (.aload_n 0, 1) := by decide +kernel
theorem dX1_init_132 : decode cX1_init 132 = .ok (.getfield 28, 3) := by decide +kernel
theorem dX1_init_135 : decode cX1_init 135 = .ok (.ldc 65, 2) := by decide +kernel
theorem dX1_init_137 : decode cX1_init 137 = .ok (.invokestatic 66, 3) := by decide +kernel
theorem dX1_init_140 : decode cX1_init 140 = .ok (.aload_n 0, 1) := by decide +kernel
theorem dX1_init_141 : decode cX1_init 141 = .ok (.getfield 32, 3) := by decide +kernel
theorem dX1_init_144 : decode cX1_init 144 = .ok (.ldc 65, 2) := by decide +kernel
theorem dX1_init_146 : decode cX1_init 146 = .ok (.invokestatic 66, 3) := by decide +kernel
theorem dX1_init_149 : decode cX1_init 149 = .ok (.aload_n 0, 1) := by decide +kernel
theorem dX1_init_150 : decode cX1_init 150 = .ok (.getfield 38, 3) := by decide +kernel
theorem dX1_init_153 : decode cX1_init 153 = .ok (.iconst (-1), 1) := by decide +kernel
theorem dX1_init_154 : decode cX1_init 154 = .ok (.invokestatic 66, 3) := by decide +kernel
theorem dX1_init_157 : decode cX1_init 157 = .ok (.aload_n 0, 1) := by decide +kernel
theorem dX1_init_158 : decode cX1_init 158 = .ok (.getfield 41, 3) := by decide +kernel
theorem dX1_init_161 : decode cX1_init 161 = .ok (.iconst (-1), 1) := by decide +kernel
theorem dX1_init_162 : decode cX1_init 162 = .ok (.invokestatic 66, 3) := by decide +kernel
theorem dX1_init_165 : decode cX1_init 165 = .ok (.return_, 1) := by decide +kernel
set_option maxRecDepth 20000 in
theorem ggX1_hasLine_X5_within : GoodIn wsX1_hasLine wsX5_within := goodIn_r _ [4] (by decide +kernel) (by decide +kernel)
set_option maxRecDepth 20000 in
theorem gX1_hasLine_X5_within_n72 : GoodIn wsX1_hasLine (wsX5_within) := ggX1_hasLine_X5_within
theorem dX1_hasLine_0 : decode cX1_hasLine 0 = .ok (.iload_n 1, 1) := by decide +kernel
theorem dX1_hasLine_1 : decode cX1_hasLine 1 = .ok (.iconst 0, 1) := by decide +kernel
theorem dX1_hasLine_2 : decode cX1_hasLine 2 = .ok (.aload_n 0, 1) := by decide +kernel
theorem dX1_hasLine_3 : decode cX1_hasLine 3 = .ok (.getfield 21, 3) := by decide +kernel
theorem dX1_hasLine_6 : decode cX1_hasLine 6 = .ok (.iconst 1, 1) := by decide +kernel
theorem dX1_hasLine_7 : decode cX1_hasLine 7 = .ok (.isub, 1) := by decide +kernel
theorem dX1_hasLine_8 : decode cX1_hasLine 8 = .ok (.invokestatic 72, 3) := by decide +kernel
theorem dX1_hasLine_11 : decode cX1_hasLine 11 = .ok (.ireturn, 1) := by decide +kernel
set_option maxRecDepth 20000 in
theorem ggX1_hasMiddle_X5_within : GoodIn wsX1_hasMiddle wsX5_within := goodIn_r _ [4] (by decide +kernel) (by decide +kernel)
set_option maxRecDepth 20000 in
theorem gX1_hasMiddle_X5_within_n72 : GoodIn wsX1_hasMiddle (wsX5_within) := ggX1_hasMiddle_X5_within
theorem dX1_hasMiddle_0 : decode cX1_hasMiddle 0 = .ok (.iload_n 1, 1) := by decide +kernel
theorem dX1_hasMiddle_1 : decode cX1_hasMiddle 1 = .ok (.iconst 0, 1) := by decide +kernel
theorem dX1_hasMiddle_2 : decode cX1_hasMiddle 2 = .ok (.aload_n 0, 1) := by decide +kernel
theorem dX1_hasMiddle_3 : decode cX1_hasMiddle 3 = .ok (.getfield 9, 3) := by decide +kernel
theorem dX1_hasMiddle_6 : decode cX1_hasMiddle 6 = .ok (.iconst 1, 1) := by decide +kernel
theorem dX1_hasMiddle_7 : decode cX1_hasMiddle 7 = .ok (.isub, 1) := by decide +kernel
theorem dX1_hasMiddle_8 : decode cX1_hasMiddle 8 = .ok (.invokestatic 72, 3) := by decide +kernel
theorem dX1_hasMiddle_11 : decode cX1_hasMiddle 11 = .ok (.ireturn, 1) := by decide +kernel
theorem dX1_isBusy_0 : decode cX1_isBusy 0 = .ok (.aload_n 0, 1) := by decide +kernel
theorem dX1_isBusy_1 : decode cX1_isBusy 1 = .ok (.getfield 28, 3) := by decide +kernel
theorem dX1_isBusy_4 : decode cX1_isBusy 4 = .ok (.iload_n 1, 1) := by decide +kernel
theorem dX1_isBusy_5 : decode cX1_isBusy 5 = .ok (.iaload, 1) := by decide +kernel
theorem dX1_isBusy_6 : decode cX1_isBusy 6 = .ok (.ldc 65, 2) := by decide +kernel
theorem dX1_isBusy_8 : decode cX1_isBusy 8 = .ok (.if_icmp .ne 12, 3) := by decide +kernel
theorem dX1_isBusy_11 : decode cX1_isBusy 11 = .ok (.aload_n 0, 1) := by decide +kernel
theorem dX1_isBusy_12 : decode cX1_isBusy 12 = .ok (.getfield 35, 3) := by decide +kernel
theorem dX1_isBusy_15 : decode cX1_isBusy 15 = .ok (.iload_n 2, 1) := by decide +kernel
theorem dX1_isBusy_16 : decode cX1_isBusy 16 = .ok (.baload, 1) := by decide +kernel
theorem dX1_isBusy_17 : decode cX1_isBusy 17 = .ok (.ifCond .eq 7, 3) := by decide +kernel
theorem dX1_isBusy_20 : decode cX1_isBusy 20 = .ok (.iconst 1, 1) := by decide +kernel
theorem dX1_isBusy_21 : decode cX1_isBusy 21 = .ok (.goto 4, 3) := by decide +kernel
theorem dX1_isBusy_24 : decode cX1_isBusy 24 = .ok (.iconst 0, 1) := by decide +kernel
theorem dX1_isBusy_25 : decode cX1_isBusy 25 = .ok (.ireturn, 1) := by decide +kernel
theorem dX1_toldKind_0 : decode cX1_toldKind 0 = .ok (.aload_n 0, 1) := by decide +kernel
theorem dX1_toldKind_1 : decode cX1_toldKind 1 = .ok (.getfield 53, 3) := by decide +kernel
theorem dX1_toldKind_4 : decode cX1_toldKind 4 = .ok (.iconst 2, 1) := by decide +kernel
theorem dX1_toldKind_5 : decode cX1_toldKind 5 = .ok (.aload_n 0, 1) := by decide +kernel
theorem dX1_toldKind_6 : decode cX1_toldKind 6 = .ok (.getfield 15, 3) := by decide +kernel
theorem dX1_toldKind_9 : decode cX1_toldKind 9 = .ok (.imul, 1) := by decide +kernel
theorem dX1_toldKind_10 : decode cX1_toldKind 10 = .ok (.iconst 1, 1) := by decide +kernel
theorem dX1_toldKind_11 : decode cX1_toldKind 11 = .ok (.isub, 1) := by decide +kernel
theorem dX1_toldKind_12 : decode cX1_toldKind 12 = .ok (.if_icmp .lt 5, 3) := by decide +kernel
theorem dX1_toldKind_15 : decode cX1_toldKind 15 = .ok (.iconst 2, 1) := by decide +kernel
theorem dX1_toldKind_16 : decode cX1_toldKind 16 = .ok (.ireturn, 1) := by decide +kernel
theorem dX1_toldKind_17 : decode cX1_toldKind 17 = .ok (.aload_n 0, 1) := by decide +kernel
theorem dX1_toldKind_18 : decode cX1_toldKind 18 = .ok (.getfield 53, 3) := by decide +kernel
theorem dX1_toldKind_21 : decode cX1_toldKind 21 = .ok (.aload_n 0, 1) := by decide +kernel
theorem dX1_toldKind_22 : decode cX1_toldKind 22 = .ok (.getfield 15, 3) := by decide +kernel
theorem dX1_toldKind_25 : decode cX1_toldKind 25 = .ok (.if_icmp .lt 5, 3) := by decide +kernel
theorem dX1_toldKind_28 : decode cX1_toldKind 28 = .ok (.iconst 1, 1) := by decide +kernel
theorem dX1_toldKind_29 : decode cX1_toldKind 29 = .ok (.ireturn, 1) := by decide +kernel
theorem dX1_toldKind_30 : decode cX1_toldKind 30 = .ok (.aload_n 0, 1) := by decide +kernel
theorem dX1_toldKind_31 : decode cX1_toldKind 31 = .ok (.getfield 53, 3) := by decide +kernel
theorem dX1_toldKind_34 : decode cX1_toldKind 34 = .ok (.iconst 1, 1) := by decide +kernel
theorem dX1_toldKind_35 : decode cX1_toldKind 35 = .ok (.if_icmp .ne 7, 3) := by decide +kernel
theorem dX1_toldKind_38 : decode cX1_toldKind 38 = .ok (.iconst 3, 1) := by decide +kernel
theorem dX1_toldKind_39 : decode cX1_toldKind 39 = .ok (.goto 4, 3) := by decide +kernel
theorem dX1_toldKind_42 : decode cX1_toldKind 42 = .ok (.iconst 0, 1) := by decide +kernel
theorem dX1_toldKind_43 : decode cX1_toldKind 43 = .ok (.ireturn, 1) := by decide +kernel
set_option maxRecDepth 20000 in
theorem ggX1_howManyFree_X1_isFree : GoodIn wsX1_howManyFree wsX1_isFree := goodIn_r _ [6, 7, 8, 9, 5, 10, 11, 12, 13, 14, 15, 16, 17, 18, 19, 20, 21, 22, 23, 24, 25, 26, 27, 28, 29, 30, 31, 32, 33, 34, 35, 36, 37, 38, 39, 40] (by decide +kernel) (by decide +kernel)
set_option maxRecDepth 20000 in
theorem gX1_howManyFree_X1_isFree : GoodIn wsX1_howManyFree (wsV RX1 76 RX1 yX1_isFree wsX1_isFree) := goodIn_app (goodIn_of _ (by decide +kernel)) ggX1_howManyFree_X1_isFree
theorem dX1_howManyFree_0 : decode cX1_howManyFree 0 = .ok (.iconst 0, 1) := by decide +kernel
theorem dX1_howManyFree_1 : decode cX1_howManyFree 1 = .ok (.istore_n 3, 1) := by decide +kernel
theorem dX1_howManyFree_2 : decode cX1_howManyFree 2 = .ok (.iconst 0, 1) := by decide +kernel
theorem dX1_howManyFree_3 : decode cX1_howManyFree 3 = .ok (.istore 4, 2) := by decide +kernel
theorem dX1_howManyFree_5 : decode cX1_howManyFree 5 = .ok (.iload 4, 2) := by decide +kernel
theorem dX1_howManyFree_7 : decode cX1_howManyFree 7 = .ok (.aload_n 0, 1) := by decide +kernel
theorem dX1_howManyFree_8 : decode cX1_howManyFree 8 = .ok (.getfield 9, 3) := by decide +kernel
theorem dX1_howManyFree_11 : decode cX1_howManyFree 11 = .ok (.if_icmp .ge 23, 3) := by decide +kernel
theorem dX1_howManyFree_14 : decode cX1_howManyFree 14 = .ok (.aload_n 0, 1) := by decide +kernel
theorem dX1_howManyFree_15 : decode cX1_howManyFree 15 = .ok (.iload 4, 2) := by decide +kernel
theorem dX1_howManyFree_17 : decode cX1_howManyFree 17 = .ok (.iload_n 1, 1) := by decide +kernel
theorem dX1_howManyFree_18 : decode cX1_howManyFree 18 = .ok (.iload_n 2, 1) := by decide +kernel
theorem dX1_howManyFree_19 : decode cX1_howManyFree 19 = .ok (.invokevirtual 76, 3) := by decide +kernel
theorem dX1_howManyFree_22 : decode cX1_howManyFree 22 = .ok (.ifCond .eq 6, 3) := by decide +kernel
theorem dX1_howManyFree_25 : decode cX1_howManyFree 25 = .ok (.iinc 3 1, 3) := by decide +kernel
theorem dX1_howManyFree_28 : decode cX1_howManyFree 28 = .ok (.iinc 4 1, 3) := by decide +kernel
theorem dX1_howManyFree_31 : decode cX1_howManyFree 31 = .ok (.goto (-26), 3) := by decide +kernel
theorem dX1_howManyFree_34 : decode cX1_howManyFree 34 = .ok (.iload_n 3, 1) := by decide +kernel
theorem dX1_howManyFree_35 : decode cX1_howManyFree 35 = .ok (.ireturn, 1) := by decide +kernel
set_option maxRecDepth 20000 in
theorem ggX1_plan_X1_isFree : GoodIn wsX1_plan wsX1_isFree := goodIn_r _ [8, 9, 10, 11, 7, 12, 13, 14, 15, 16, 17, 18, 19, 20, 21, 22, 23, 24, 25, 38, 39, 40, 41, 42, 43, 44, 45, 46, 47, 48, 49, 50, 51, 52, 53, 54] (by decide +kernel) (by decide +kernel)
set_option maxRecDepth 20000 in
theorem gX1_plan_X1_isFree : GoodIn wsX1_plan (wsV RX1 76 RX1 yX1_isFree wsX1_isFree) := goodIn_app (goodIn_of _ (by decide +kernel)) ggX1_plan_X1_isFree
set_option maxRecDepth 20000 in
theorem ggX1_plan_X1_planMoves : GoodIn wsX1_plan wsX1_planMoves := goodIn_r _ [29, 3, 1, 2, 30, 9, 10, 11, 7, 12, 13, 14, 15, 16, 17, 18, 19, 20, 21, 22, 23, 24, 25, 31, 32, 33, 34, 35, 36, 37, 38, 39, 40, 41, 42, 43, 44, 45, 46, 47, 48, 49, 50, 51, 52, 53, 54] (by decide +kernel) (by decide +kernel)
set_option maxRecDepth 20000 in
theorem gX1_plan_X1_planMoves : GoodIn wsX1_plan (wsV RX1 79 RX1 yX1_planMoves wsX1_planMoves) := goodIn_app (goodIn_of _ (by decide +kernel)) ggX1_plan_X1_planMoves
theorem dX1_plan_0 : decode cX1_plan 0 = .ok (.iconst 0, 1) := by decide +kernel
theorem dX1_plan_1 : decode cX1_plan 1 = .ok (.istore 4, 2) := by decide +kernel
theorem dX1_plan_3 : decode cX1_plan 3 = .ok (.iload 4, 2) := by decide +kernel
theorem dX1_plan_5 : decode cX1_plan 5 = .ok (.aload_n 0, 1) := by decide +kernel
theorem dX1_plan_6 : decode cX1_plan 6 = .ok (.getfield 9, 3) := by decide +kernel
theorem dX1_plan_9 : decode cX1_plan 9 = .ok (.if_icmp .ge 28, 3) := by decide +kernel
theorem dX1_plan_12 : decode cX1_plan 12 = .ok (.aload_n 0, 1) := by decide +kernel
theorem dX1_plan_13 : decode cX1_plan 13 = .ok (.iload 4, 2) := by decide +kernel
theorem dX1_plan_15 : decode cX1_plan 15 = .ok (.iload_n 1, 1) := by decide +kernel
theorem dX1_plan_16 : decode cX1_plan 16 = .ok (.iload_n 2, 1) := by decide +kernel
theorem dX1_plan_17 : decode cX1_plan 17 = .ok (.invokevirtual 76, 3) := by decide +kernel
theorem dX1_plan_20 : decode cX1_plan 20 = .ok (.ifCond .eq 11, 3) := by decide +kernel
theorem dX1_plan_23 : decode cX1_plan 23 = .ok (.aload_n 0, 1) := by decide +kernel
theorem dX1_plan_24 : decode cX1_plan 24 = .ok (.iload 4, 2) := by decide +kernel
theorem dX1_plan_26 : decode cX1_plan 26 = .ok (.putfield 59, 3) := by decide +kernel
theorem dX1_plan_29 : decode cX1_plan 29 = .ok (.iconst 0, 1) := by decide +kernel
theorem dX1_plan_30 : decode cX1_plan 30 = .ok (.ireturn, 1) := by decide +kernel
theorem dX1_plan_31 : decode cX1_plan 31 = .ok (.iinc 4 1, 3) := by decide +kernel
theorem dX1_plan_34 : decode cX1_plan 34 = .ok (.goto (-31), 3) := by decide +kernel
theorem dX1_plan_37 : decode cX1_plan 37 = .ok (.iload_n 3, 1) := by decide +kernel
theorem dX1_plan_38 : decode cX1_plan 38 = .ok (.ifCond .eq 12, 3) := by decide +kernel
theorem dX1_plan_41 : decode cX1_plan 41 = .ok (.aload_n 0, 1) := by decide +kernel
theorem dX1_plan_42 : decode cX1_plan 42 = .ok (.iload_n 1, 1) := by decide +kernel
theorem dX1_plan_43 : decode cX1_plan 43 = .ok (.iload_n 2, 1) := by decide +kernel
theorem dX1_plan_44 : decode cX1_plan 44 = .ok (.invokevirtual 79, 3) := by decide +kernel
theorem dX1_plan_47 : decode cX1_plan 47 = .ok (.goto 5, 3) := by decide +kernel
theorem dX1_plan_50 : decode cX1_plan 50 = .ok (.ldc 65, 2) := by decide +kernel
theorem dX1_plan_52 : decode cX1_plan 52 = .ok (.ireturn, 1) := by decide +kernel
set_option maxRecDepth 20000 in
theorem ggX1_setUp_X1_plan : GoodIn wsX1_setUp wsX1_plan := goodIn_r _ [11, 12, 2, 1, 13, 14, 15, 10, 16, 17, 18, 19, 20, 21, 22, 23, 24, 25, 26, 27, 28, 29, 30, 31, 32, 33, 34, 35, 36, 37, 3, 38, 39, 40, 41, 42, 43, 4, 57, 58, 59, 60, 61, 62, 63, 64, 65, 66, 67, 68, 69, 70, 71, 72, 73] (by decide +kernel) (by decide +kernel)
set_option maxRecDepth 20000 in
theorem gX1_setUp_X1_plan : GoodIn wsX1_setUp (wsV RX1 83 RX1 yX1_plan wsX1_plan) := goodIn_app (goodIn_of _ (by decide +kernel)) ggX1_setUp_X1_plan
set_option maxRecDepth 20000 in
theorem ggX1_setUp_X1_swapChain : GoodIn wsX1_setUp wsX1_swapChain := goodIn_r _ [47, 43, 38, 39, 40, 10, 41, 33, 42, 22, 4, 23, 24, 25, 26, 27, 28, 48, 49, 50, 51, 52, 1, 53, 54, 55, 56, 57, 58, 59, 60, 61, 62, 63, 64, 65, 66, 67, 68, 69, 70, 71, 72, 73] (by decide +kernel) (by decide +kernel)
set_option maxRecDepth 20000 in
theorem gX1_setUp_X1_swapChain : GoodIn wsX1_setUp (wsV RX1 87 RX1 yX1_swapChain wsX1_swapChain) := goodIn_app (goodIn_of _ (by decide +kernel)) ggX1_setUp_X1_swapChain
set_option maxRecDepth 20000 in
theorem ggX1_setUp_X1_takeLinks : GoodIn wsX1_setUp wsX1_takeLinks := goodIn_r _ [56, 52, 22, 33, 4, 23, 24, 25, 10, 26, 27, 28, 57, 58, 59, 60, 61, 62, 63, 64, 65, 66, 67, 68, 69, 70, 71, 72, 73] (by decide +kernel) (by decide +kernel)
set_option maxRecDepth 20000 in
theorem gX1_setUp_X1_takeLinks : GoodIn wsX1_setUp (wsV RX1 91 RX1 yX1_takeLinks wsX1_takeLinks) := goodIn_app (goodIn_of _ (by decide +kernel)) ggX1_setUp_X1_takeLinks
theorem dX1_setUp_0 : decode cX1_setUp 0 = .ok (.aload_n 0, 1) := by decide +kernel
theorem dX1_setUp_1 : decode cX1_setUp 1 = .ok (.iload_n 1, 1) := by decide +kernel
theorem dX1_setUp_2 : decode cX1_setUp 2 = .ok (.iload_n 2, 1) := by decide +kernel
theorem dX1_setUp_3 : decode cX1_setUp 3 = .ok (.iload_n 3, 1) := by decide +kernel
theorem dX1_setUp_4 : decode cX1_setUp 4 = .ok (.invokevirtual 83, 3) := by decide +kernel
theorem dX1_setUp_7 : decode cX1_setUp 7 = .ok (.istore 4, 2) := by decide +kernel
theorem dX1_setUp_9 : decode cX1_setUp 9 = .ok (.iload 4, 2) := by decide +kernel
theorem dX1_setUp_11 : decode cX1_setUp 11 = .ok (.ldc 65, 2) := by decide +kernel
theorem dX1_setUp_13 : decode cX1_setUp 13 = .ok (.if_icmp .ne 6, 3) := by decide +kernel
theorem dX1_setUp_16 : decode cX1_setUp 16 = .ok (.ldc 65, 2) := by decide +kernel
theorem dX1_setUp_18 : decode cX1_setUp 18 = .ok (.ireturn, 1) := by decide +kernel
theorem dX1_setUp_19 : decode cX1_setUp 19 = .ok (.iload 4, 2) := by decide +kernel
theorem dX1_setUp_21 : decode cX1_setUp 21 = .ok (.ifCond .le 16, 3) := by decide +kernel
theorem dX1_setUp_24 : decode cX1_setUp 24 = .ok (.aload_n 0, 1) := by decide +kernel
theorem dX1_setUp_25 : decode cX1_setUp 25 = .ok (.aload_n 0, 1) := by decide +kernel
theorem dX1_setUp_26 : decode cX1_setUp 26 = .ok (.getfield 59, 3) := by decide +kernel
theorem dX1_setUp_29 : decode cX1_setUp 29 = .ok (.aload_n 0, 1) := by decide +kernel
theorem dX1_setUp_30 : decode cX1_setUp 30 = .ok (.getfield 62, 3) := by decide +kernel
theorem dX1_setUp_33 : decode cX1_setUp 33 = .ok (.iload_n 2, 1) := by decide +kernel
theorem dX1_setUp_34 : decode cX1_setUp 34 = .ok (.invokevirtual 87, 3) := by decide +kernel
theorem dX1_setUp_37 : decode cX1_setUp 37 = .ok (.aload_n 0, 1) := by decide +kernel
theorem dX1_setUp_38 : decode cX1_setUp 38 = .ok (.getfield 28, 3) := by decide +kernel
theorem dX1_setUp_41 : decode cX1_setUp 41 = .ok (.iload_n 1, 1) := by decide +kernel
theorem dX1_setUp_42 : decode cX1_setUp 42 = .ok (.iload_n 2, 1) := by decide +kernel
theorem dX1_setUp_43 : decode cX1_setUp 43 = .ok (.iastore, 1) := by decide +kernel
theorem dX1_setUp_44 : decode cX1_setUp 44 = .ok (.aload_n 0, 1) := by decide +kernel
theorem dX1_setUp_45 : decode cX1_setUp 45 = .ok (.getfield 35, 3) := by decide +kernel
theorem dX1_setUp_48 : decode cX1_setUp 48 = .ok (.iload_n 2, 1) := by decide +kernel
theorem dX1_setUp_49 : decode cX1_setUp 49 = .ok (.iconst 1, 1) := by decide +kernel
theorem dX1_setUp_50 : decode cX1_setUp 50 = .ok (.bastore, 1) := by decide +kernel
theorem dX1_setUp_51 : decode cX1_setUp 51 = .ok (.aload_n 0, 1) := by decide +kernel
theorem dX1_setUp_52 : decode cX1_setUp 52 = .ok (.dup, 1) := by decide +kernel
theorem dX1_setUp_53 : decode cX1_setUp 53 = .ok (.getfield 56, 3) := by decide +kernel
theorem dX1_setUp_56 : decode cX1_setUp 56 = .ok (.iconst 1, 1) := by decide +kernel
theorem dX1_setUp_57 : decode cX1_setUp 57 = .ok (.iadd, 1) := by decide +kernel
theorem dX1_setUp_58 : decode cX1_setUp 58 = .ok (.putfield 56, 3) := by decide +kernel
theorem dX1_setUp_61 : decode cX1_setUp 61 = .ok (.aload_n 0, 1) := by decide +kernel
theorem dX1_setUp_62 : decode cX1_setUp 62 = .ok (.iload_n 1, 1) := by decide +kernel
theorem dX1_setUp_63 : decode cX1_setUp 63 = .ok (.aload_n 0, 1) := by decide +kernel
theorem dX1_setUp_64 : decode cX1_setUp 64 = .ok (.getfield 59, 3) := by decide +kernel
theorem dX1_setUp_67 : decode cX1_setUp 67 = .ok (.invokevirtual 91, 3) := by decide +kernel
theorem dX1_setUp_70 : decode cX1_setUp 70 = .ok (.iload 4, 2) := by decide +kernel
theorem dX1_setUp_72 : decode cX1_setUp 72 = .ok (.ireturn, 1) := by decide +kernel
set_option maxRecDepth 20000 in
theorem ggX1_takeOff_X1_leaveLinks : GoodIn wsX1_takeOff wsX1_leaveLinks := goodIn_r _ [9, 10, 11, 12, 1, 2, 13, 14, 15, 8, 16, 17, 18, 19, 20, 21, 22, 23, 24, 25, 26, 27, 28, 29, 30, 31, 32, 33, 34, 35] (by decide +kernel) (by decide +kernel)
set_option maxRecDepth 20000 in
theorem gX1_takeOff_X1_leaveLinks : GoodIn wsX1_takeOff (wsV RX1 95 RX1 yX1_leaveLinks wsX1_leaveLinks) := goodIn_app (goodIn_of _ (by decide +kernel)) ggX1_takeOff_X1_leaveLinks
theorem dX1_takeOff_0 : decode cX1_takeOff 0 = .ok (.aload_n 0, 1) := by decide +kernel
theorem dX1_takeOff_1 : decode cX1_takeOff 1 = .ok (.getfield 28, 3) := by decide +kernel
theorem dX1_takeOff_4 : decode cX1_takeOff 4 = .ok (.iload_n 1, 1) := by decide +kernel
theorem dX1_takeOff_5 : decode cX1_takeOff 5 = .ok (.iaload, 1) := by decide +kernel
theorem dX1_takeOff_6 : decode cX1_takeOff 6 = .ok (.istore_n 2, 1) := by decide +kernel
theorem dX1_takeOff_7 : decode cX1_takeOff 7 = .ok (.iload_n 2, 1) := by decide +kernel
theorem dX1_takeOff_8 : decode cX1_takeOff 8 = .ok (.ldc 65, 2) := by decide +kernel
theorem dX1_takeOff_10 : decode cX1_takeOff 10 = .ok (.if_icmp .ne 4, 3) := by decide +kernel
theorem dX1_takeOff_13 : decode cX1_takeOff 13 = .ok (.return_, 1) := by decide +kernel
theorem dX1_takeOff_14 : decode cX1_takeOff 14 = .ok (.aload_n 0, 1) := by decide +kernel
theorem dX1_takeOff_15 : decode cX1_takeOff 15 = .ok (.iload_n 1, 1) := by decide +kernel
theorem dX1_takeOff_16 : decode cX1_takeOff 16 = .ok (.invokevirtual 95, 3) := by decide +kernel
theorem dX1_takeOff_19 : decode cX1_takeOff 19 = .ok (.aload_n 0, 1) := by decide +kernel
theorem dX1_takeOff_20 : decode cX1_takeOff 20 = .ok (.getfield 28, 3) := by decide +kernel
theorem dX1_takeOff_23 : decode cX1_takeOff 23 = .ok (.iload_n 1, 1) := by decide +kernel
theorem dX1_takeOff_24 : decode cX1_takeOff 24 = .ok (.ldc 65, 2) := by decide +kernel
theorem dX1_takeOff_26 : decode cX1_takeOff 26 = .ok (.iastore, 1) := by decide +kernel
theorem dX1_takeOff_27 : decode cX1_takeOff 27 = .ok (.aload_n 0, 1) := by decide +kernel
theorem dX1_takeOff_28 : decode cX1_takeOff 28 = .ok (.getfield 35, 3) := by decide +kernel
theorem dX1_takeOff_31 : decode cX1_takeOff 31 = .ok (.iload_n 2, 1) := by decide +kernel
theorem dX1_takeOff_32 : decode cX1_takeOff 32 = .ok (.iconst 0, 1) := by decide +kernel
theorem dX1_takeOff_33 : decode cX1_takeOff 33 = .ok (.bastore, 1) := by decide +kernel
theorem dX1_takeOff_34 : decode cX1_takeOff 34 = .ok (.aload_n 0, 1) := by decide +kernel
theorem dX1_takeOff_35 : decode cX1_takeOff 35 = .ok (.dup, 1) := by decide +kernel
theorem dX1_takeOff_36 : decode cX1_takeOff 36 = .ok (.getfield 56, 3) := by decide +kernel
theorem dX1_takeOff_39 : decode cX1_takeOff 39 = .ok (.iconst 1, 1) := by decide +kernel
theorem dX1_takeOff_40 : decode cX1_takeOff 40 = .ok (.isub, 1) := by decide +kernel
theorem dX1_takeOff_41 : decode cX1_takeOff 41 = .ok (.putfield 56, 3) := by decide +kernel
theorem dX1_takeOff_44 : decode cX1_takeOff 44 = .ok (.return_, 1) := by decide +kernel
set_option maxRecDepth 20000 in
theorem ggX1_killMiddle_X1_takeOff : GoodIn wsX1_killMiddle wsX1_takeOff := goodIn_r _ [13, 5, 8, 14, 15, 16, 17, 18, 12, 19, 20, 2, 21, 22, 23, 24, 25, 26, 27, 68, 69, 70, 71, 72, 73, 74, 75, 76, 77, 78, 79, 80, 81, 82, 83, 84] (by decide +kernel) (by decide +kernel)
set_option maxRecDepth 20000 in
theorem gX1_killMiddle_X1_takeOff : GoodIn wsX1_killMiddle (wsV RX1 99 RX1 yX1_takeOff wsX1_takeOff) := goodIn_app (goodIn_of _ (by decide +kernel)) ggX1_killMiddle_X1_takeOff
set_option maxRecDepth 20000 in
theorem ggX1_killMiddle_X1_setUp : GoodIn wsX1_killMiddle wsX1_setUp := goodIn_r _ [31, 8, 32, 33, 5, 14, 15, 34, 35, 36, 12, 37, 38, 39, 40, 41, 42, 43, 44, 45, 46, 6, 20, 22, 23, 24, 25, 26, 27, 47, 48, 49, 50, 21, 51, 52, 53, 54, 55, 56, 57, 58, 1, 59, 60, 61, 62, 63, 16, 17, 18, 19, 2, 64, 65, 66, 67, 68, 69, 70, 71, 72, 73, 74, 75, 76, 77, 78, 79, 80, 81, 82, 83, 84] (by decide +kernel) (by decide +kernel)
set_option maxRecDepth 20000 in
theorem gX1_killMiddle_X1_setUp : GoodIn wsX1_killMiddle (wsV RX1 102 RX1 yX1_setUp wsX1_setUp) := goodIn_app (goodIn_of _ (by decide +kernel)) ggX1_killMiddle_X1_setUp
theorem dX1_killMiddle_0 : decode cX1_killMiddle 0 = .ok (.iconst 0, 1) := by decide +kernel
theorem dX1_killMiddle_1 : decode cX1_killMiddle 1 = .ok (.istore_n 2, 1) := by decide +kernel
theorem dX1_killMiddle_2 : decode cX1_killMiddle 2 = .ok (.iconst 0, 1) := by decide +kernel
theorem dX1_killMiddle_3 : decode cX1_killMiddle 3 = .ok (.istore_n 3, 1) := by decide +kernel
theorem dX1_killMiddle_4 : decode cX1_killMiddle 4 = .ok (.iload_n 3, 1) := by decide +kernel
theorem dX1_killMiddle_5 : decode cX1_killMiddle 5 = .ok (.aload_n 0, 1) := by decide +kernel
theorem dX1_killMiddle_6 : decode cX1_killMiddle 6 = .ok (.getfield 21, 3) := by decide +kernel
theorem dX1_killMiddle_9 : decode cX1_killMiddle 9 = .ok (.if_icmp .ge 46, 3) := by decide +kernel
theorem dX1_killMiddle_12 : decode cX1_killMiddle 12 = .ok (.aload_n 0, 1) := by decide +kernel
theorem dX1_killMiddle_13 : decode cX1_killMiddle 13 = .ok (.getfield 32, 3) := by decide +kernel
theorem dX1_killMiddle_16 : decode cX1_killMiddle 16 = .ok (.iload_n 3, 1) := by decide +kernel
theorem dX1_killMiddle_17 : decode cX1_killMiddle 17 = .ok (.iaload, 1) := by decide +kernel
theorem dX1_killMiddle_18 : decode cX1_killMiddle 18 = .ok (.iload_n 1, 1) := by decide +kernel
theorem dX1_killMiddle_19 : decode cX1_killMiddle 19 = .ok (.if_icmp .ne 30, 3) := by decide +kernel
theorem dX1_killMiddle_22 : decode cX1_killMiddle 22 = .ok (.aload_n 0, 1) := by decide +kernel
theorem dX1_killMiddle_23 : decode cX1_killMiddle 23 = .ok (.getfield 47, 3) := by decide +kernel
theorem dX1_killMiddle_26 : decode cX1_killMiddle 26 = .ok (.iload_n 2, 1) := by decide +kernel
theorem dX1_killMiddle_27 : decode cX1_killMiddle 27 = .ok (.iload_n 3, 1) := by decide +kernel
theorem dX1_killMiddle_28 : decode cX1_killMiddle 28 = .ok (.iastore, 1) := by decide +kernel
theorem dX1_killMiddle_29 : decode cX1_killMiddle 29 = .ok (.aload_n 0, 1) := by decide +kernel
theorem dX1_killMiddle_30 : decode cX1_killMiddle 30 = .ok (.getfield 50, 3) := by decide +kernel
theorem dX1_killMiddle_33 : decode cX1_killMiddle 33 = .ok (.iload_n 2, 1) := by decide +kernel
theorem dX1_killMiddle_34 : decode cX1_killMiddle 34 = .ok (.aload_n 0, 1) := by decide +kernel
theorem dX1_killMiddle_35 : decode cX1_killMiddle 35 = .ok (.getfield 28, 3) := by decide +kernel
theorem dX1_killMiddle_38 : decode cX1_killMiddle 38 = .ok (.iload_n 3, 1) := by decide +kernel
theorem dX1_killMiddle_39 : decode cX1_killMiddle 39 = .ok (.iaload, 1) := by decide +kernel
theorem dX1_killMiddle_40 : decode cX1_killMiddle 40 = .ok (.iastore, 1) := by decide +kernel
theorem dX1_killMiddle_41 : decode cX1_killMiddle 41 = .ok (.aload_n 0, 1) := by decide +kernel
theorem dX1_killMiddle_42 : decode cX1_killMiddle 42 = .ok (.iload_n 3, 1) := by decide +kernel
theorem dX1_killMiddle_43 : decode cX1_killMiddle 43 = .ok (.invokevirtual 99, 3) := by decide +kernel
theorem dX1_killMiddle_46 : decode cX1_killMiddle 46 = .ok (.iinc 2 1, 3) := by decide +kernel
theorem dX1_killMiddle_49 : decode cX1_killMiddle 49 = .ok (.iinc 3 1, 3) := by decide +kernel
theorem dX1_killMiddle_52 : decode cX1_killMiddle 52 = .ok (.goto (-48), 3) := by decide +kernel
theorem dX1_killMiddle_55 : decode cX1_killMiddle 55 = .ok (.aload_n 0, 1) := by decide +kernel
theorem dX1_killMiddle_56 : decode cX1_killMiddle 56 = .ok (.getfield 24, 3) := by decide +kernel
theorem dX1_killMiddle_59 : decode cX1_killMiddle 59 = .ok (.iload_n 1, 1) := by decide +kernel
theorem dX1_killMiddle_60 : decode cX1_killMiddle 60 = .ok (.iconst 1, 1) := by decide +kernel
theorem dX1_killMiddle_61 : decode cX1_killMiddle 61 = .ok (.bastore, 1) := by decide +kernel
theorem dX1_killMiddle_62 : decode cX1_killMiddle 62 = .ok (.aload_n 0, 1) := by decide +kernel
theorem dX1_killMiddle_63 : decode cX1_killMiddle 63 = .ok (.dup, 1) := by decide +kernel
theorem dX1_killMiddle_64 : decode cX1_killMiddle 64 = .ok (.getfield 53, 3) := by decide +kernel
theorem dX1_killMiddle_67 : decode cX1_killMiddle 67 = .ok (.iconst 1, 1) := by decide +kernel
theorem dX1_killMiddle_68 : decode cX1_killMiddle 68 = .ok (.isub, 1) := by decide +kernel
theorem dX1_killMiddle_69 : decode cX1_killMiddle 69 = .ok (.putfield 53, 3) := by decide +kernel
theorem dX1_killMiddle_72 : decode cX1_killMiddle 72 = .ok (.iconst 0, 1) := by decide +kernel
theorem dX1_killMiddle_73 : decode cX1_killMiddle 73 = .ok (.istore_n 3, 1) := by decide +kernel
theorem dX1_killMiddle_74 : decode cX1_killMiddle 74 = .ok (.iconst 0, 1) := by decide +kernel
theorem dX1_killMiddle_75 : decode cX1_killMiddle 75 = .ok (.istore 4, 2) := by decide +kernel
theorem dX1_killMiddle_77 : decode cX1_killMiddle 77 = .ok (.iload 4, 2) := by decide +kernel
theorem dX1_killMiddle_79 : decode cX1_killMiddle 79 = .ok (.iload_n 2, 1) := by decide +kernel
theorem dX1_killMiddle_80 : decode cX1_killMiddle 80 = .ok (.if_icmp .ge 36, 3) := by decide +kernel
theorem dX1_killMiddle_83 : decode cX1_killMiddle 83 = .ok (.aload_n 0, 1) := by decide +kernel
theorem dX1_killMiddle_84 : decode cX1_killMiddle 84 = .ok (.aload_n 0, 1) := by decide +kernel
theorem dX1_killMiddle_85 : decode cX1_killMiddle 85 = .ok (.getfield 47, 3) := by decide +kernel
theorem dX1_killMiddle_88 : decode cX1_killMiddle 88 = .ok (.iload 4, 2) := by decide +kernel
theorem dX1_killMiddle_90 : decode cX1_killMiddle 90 = .ok (.iaload, 1) := by decide +kernel
theorem dX1_killMiddle_91 : decode cX1_killMiddle 91 = .ok (.aload_n 0, 1) := by decide +kernel
theorem dX1_killMiddle_92 : decode cX1_killMiddle 92 = .ok (.getfield 50, 3) := by decide +kernel
theorem dX1_killMiddle_95 : decode cX1_killMiddle 95 = .ok (.iload 4, 2) := by decide +kernel
theorem dX1_killMiddle_97 : decode cX1_killMiddle 97 = .ok (.iaload, 1) := by decide +kernel
theorem dX1_killMiddle_98 : decode cX1_killMiddle 98 = .ok (.iconst 1, 1) := by decide +kernel
theorem dX1_killMiddle_99 : decode cX1_killMiddle 99 = .ok (.invokevirtual 102, 3) := by decide +kernel
theorem dX1_killMiddle_102 : decode cX1_killMiddle 102 = .ok (.ldc 65, 2) := by decide +kernel
theorem dX1_killMiddle_104 : decode cX1_killMiddle 104 = .ok (.if_icmp .ne 6, 3) := by decide +kernel
theorem dX1_killMiddle_107 : decode cX1_killMiddle 107 = .ok (.iinc 3 1, 3) := by decide +kernel
theorem dX1_killMiddle_110 : decode cX1_killMiddle 110 = .ok (.iinc 4 1, 3) := by decide +kernel
theorem dX1_killMiddle_113 : decode cX1_killMiddle 113 = .ok (.goto (-36), 3) := by decide +kernel
theorem dX1_killMiddle_116 : decode cX1_killMiddle 116 = .ok (.iload_n 3, 1) := by decide +kernel
theorem dX1_killMiddle_117 : decode cX1_killMiddle 117 = .ok (.ireturn, 1) := by decide +kernel
theorem dX1_reviveMiddle_0 : decode cX1_reviveMiddle 0 = .ok (.aload_n 0, 1) := by decide +kernel
theorem dX1_reviveMiddle_1 : decode cX1_reviveMiddle 1 = .ok (.getfield 24, 3) := by decide +kernel
theorem dX1_reviveMiddle_4 : decode cX1_reviveMiddle 4 = .ok (.iload_n 1, 1) := by decide +kernel
theorem dX1_reviveMiddle_5 : decode cX1_reviveMiddle 5 = .ok (.baload, 1) := by decide +kernel
theorem dX1_reviveMiddle_6 : decode cX1_reviveMiddle 6 = .ok (.ifCond .ne 5, 3) := by decide +kernel
theorem dX1_reviveMiddle_9 : decode cX1_reviveMiddle 9 = .ok (.iconst 0, 1) := by decide +kernel
theorem dX1_reviveMiddle_10 : decode cX1_reviveMiddle 10 = .ok (.ireturn, 1) := by decide +kernel
theorem dX1_reviveMiddle_11 : decode cX1_reviveMiddle 11 = .ok (.aload_n 0, 1) := by decide +kernel
theorem dX1_reviveMiddle_12 : decode cX1_reviveMiddle 12 = .ok (.getfield 24, 3) := by decide +kernel
theorem dX1_reviveMiddle_15 : decode cX1_reviveMiddle 15 = .ok (.iload_n 1, 1) := by decide +kernel
theorem dX1_reviveMiddle_16 : decode cX1_reviveMiddle 16 = .ok (.iconst 0, 1) := by decide +kernel
theorem dX1_reviveMiddle_17 : decode cX1_reviveMiddle 17 = .ok (.bastore, 1) := by decide +kernel
theorem dX1_reviveMiddle_18 : decode cX1_reviveMiddle 18 = .ok (.aload_n 0, 1) := by decide +kernel
theorem dX1_reviveMiddle_19 : decode cX1_reviveMiddle 19 = .ok (.dup, 1) := by decide +kernel
theorem dX1_reviveMiddle_20 : decode cX1_reviveMiddle 20 = .ok (.getfield 53, 3) := by decide +kernel
theorem dX1_reviveMiddle_23 : decode cX1_reviveMiddle 23 = .ok (.iconst 1, 1) := by decide +kernel
theorem dX1_reviveMiddle_24 : decode cX1_reviveMiddle 24 = .ok (.iadd, 1) := by decide +kernel
theorem dX1_reviveMiddle_25 : decode cX1_reviveMiddle 25 = .ok (.putfield 53, 3) := by decide +kernel
theorem dX1_reviveMiddle_28 : decode cX1_reviveMiddle 28 = .ok (.iconst 1, 1) := by decide +kernel
theorem dX1_reviveMiddle_29 : decode cX1_reviveMiddle 29 = .ok (.ireturn, 1) := by decide +kernel
set_option maxRecDepth 20000 in
theorem ggX1_planMoves_X1_isFreeFrom : GoodIn wsX1_planMoves wsX1_isFreeFrom := goodIn_r _ [9, 10, 11, 12, 13, 14, 8, 15, 16, 17, 30, 31, 32, 33, 34, 35, 36, 37, 38, 39, 40, 41, 42, 43, 44, 45, 46] (by decide +kernel) (by decide +kernel)
set_option maxRecDepth 20000 in
theorem gX1_planMoves_X1_isFreeFrom : GoodIn wsX1_planMoves (wsV RX1 105 RX1 yX1_isFreeFrom wsX1_isFreeFrom) := goodIn_app (goodIn_of _ (by decide +kernel)) ggX1_planMoves_X1_isFreeFrom
set_option maxRecDepth 20000 in
theorem ggX1_planMoves_X1_isFreeTo : GoodIn wsX1_planMoves wsX1_isFreeTo := goodIn_r _ [21, 10, 22, 12, 13, 14, 8, 15, 16, 17, 30, 31, 32, 33, 34, 35, 36, 37, 38, 39, 40, 41, 42, 43, 44, 45, 46] (by decide +kernel) (by decide +kernel)
set_option maxRecDepth 20000 in
theorem gX1_planMoves_X1_isFreeTo : GoodIn wsX1_planMoves (wsV RX1 109 RX1 yX1_isFreeTo wsX1_isFreeTo) := goodIn_app (goodIn_of _ (by decide +kernel)) ggX1_planMoves_X1_isFreeTo
set_option maxRecDepth 20000 in
theorem ggX1_planMoves_X1_walkChain : GoodIn wsX1_planMoves wsX1_walkChain := goodIn_r _ [26, 22, 27, 28, 11, 29, 12, 13, 14, 8, 15, 16, 17, 30, 31, 32, 33, 34, 35, 36, 37, 38, 39, 40, 41, 42, 43, 44, 45, 46] (by decide +kernel) (by decide +kernel)
set_option maxRecDepth 20000 in
theorem gX1_planMoves_X1_walkChain : GoodIn wsX1_planMoves (wsV RX1 112 RX1 yX1_walkChain wsX1_walkChain) := goodIn_app (goodIn_of _ (by decide +kernel)) ggX1_planMoves_X1_walkChain
theorem dX1_planMoves_0 : decode cX1_planMoves 0 = .ok (.ldc 65, 2) := by decide +kernel
theorem dX1_planMoves_2 : decode cX1_planMoves 2 = .ok (.istore_n 3, 1) := by decide +kernel
theorem dX1_planMoves_3 : decode cX1_planMoves 3 = .ok (.iconst 0, 1) := by decide +kernel
theorem dX1_planMoves_4 : decode cX1_planMoves 4 = .ok (.istore 4, 2) := by decide +kernel
theorem dX1_planMoves_6 : decode cX1_planMoves 6 = .ok (.iload 4, 2) := by decide +kernel
theorem dX1_planMoves_8 : decode cX1_planMoves 8 = .ok (.aload_n 0, 1) := by decide +kernel
theorem dX1_planMoves_9 : decode cX1_planMoves 9 = .ok (.getfield 9, 3) := by decide +kernel
theorem dX1_planMoves_12 : decode cX1_planMoves 12 = .ok (.if_icmp .ge 91, 3) := by decide +kernel
theorem dX1_planMoves_15 : decode cX1_planMoves 15 = .ok (.aload_n 0, 1) := by decide +kernel
theorem dX1_planMoves_16 : decode cX1_planMoves 16 = .ok (.iload 4, 2) := by decide +kernel
theorem dX1_planMoves_18 : decode cX1_planMoves 18 = .ok (.iload_n 1, 1) := by decide +kernel
theorem dX1_planMoves_19 : decode cX1_planMoves 19 = .ok (.invokevirtual 105, 3) := by decide +kernel
theorem dX1_planMoves_22 : decode cX1_planMoves 22 = .ok (.ifCond .ne 6, 3) := by decide +kernel
theorem dX1_planMoves_25 : decode cX1_planMoves 25 = .ok (.goto 72, 3) := by decide +kernel
theorem dX1_planMoves_28 : decode cX1_planMoves 28 = .ok (.iconst 0, 1) := by decide +kernel
theorem dX1_planMoves_29 : decode cX1_planMoves 29 = .ok (.istore 5, 2) := by decide +kernel
theorem dX1_planMoves_31 : decode cX1_planMoves 31 = .ok (.iload 5, 2) := by decide +kernel
theorem dX1_planMoves_33 : decode cX1_planMoves 33 = .ok (.aload_n 0, 1) := by decide +kernel
theorem dX1_planMoves_34 : decode cX1_planMoves 34 = .ok (.getfield 9, 3) := by decide +kernel
theorem dX1_planMoves_37 : decode cX1_planMoves 37 = .ok (.if_icmp .ge 60, 3) := by decide +kernel
theorem dX1_planMoves_40 : decode cX1_planMoves 40 = .ok (.aload_n 0, 1) := by decide +kernel
theorem dX1_planMoves_41 : decode cX1_planMoves 41 = .ok (.iload 5, 2) := by decide +kernel
theorem dX1_planMoves_43 : decode cX1_planMoves 43 = .ok (.iload_n 2, 1) := by decide +kernel
theorem dX1_planMoves_44 : decode cX1_planMoves 44 = .ok (.invokevirtual 109, 3) := by decide +kernel
theorem dX1_planMoves_47 : decode cX1_planMoves 47 = .ok (.ifCond .ne 6, 3) := by decide +kernel
theorem dX1_planMoves_50 : decode cX1_planMoves 50 = .ok (.goto 41, 3) := by decide +kernel
theorem dX1_planMoves_53 : decode cX1_planMoves 53 = .ok (.aload_n 0, 1) := by decide +kernel
theorem dX1_planMoves_54 : decode cX1_planMoves 54 = .ok (.iload 4, 2) := by decide +kernel
theorem dX1_planMoves_56 : decode cX1_planMoves 56 = .ok (.iload 5, 2) := by decide +kernel
theorem dX1_planMoves_58 : decode cX1_planMoves 58 = .ok (.iload_n 2, 1) := by decide +kernel
theorem dX1_planMoves_59 : decode cX1_planMoves 59 = .ok (.invokevirtual 112, 3) := by decide +kernel
theorem dX1_planMoves_62 : decode cX1_planMoves 62 = .ok (.istore 6, 2) := by decide +kernel
theorem dX1_planMoves_64 : decode cX1_planMoves 64 = .ok (.iload_n 3, 1) := by decide +kernel
theorem dX1_planMoves_65 : decode cX1_planMoves 65 = .ok (.ldc 65, 2) := by decide +kernel
theorem dX1_planMoves_67 : decode cX1_planMoves 67 = .ok (.if_icmp .eq 9, 3) := by decide +kernel
theorem dX1_planMoves_70 : decode cX1_planMoves 70 = .ok (.iload 6, 2) := by decide +kernel
theorem dX1_planMoves_72 : decode cX1_planMoves 72 = .ok (.iload_n 3, 1) := by decide +kernel
theorem dX1_planMoves_73 : decode cX1_planMoves 73 = .ok (.if_icmp .ge 18, 3) := by decide +kernel
theorem dX1_planMoves_76 : decode cX1_planMoves 76 = .ok (.iload 6, 2) := by decide +kernel
theorem dX1_planMoves_78 : decode cX1_planMoves 78 = .ok (.istore_n 3, 1) := by decide +kernel
theorem dX1_planMoves_79 : decode cX1_planMoves 79 = .ok (.aload_n 0, 1) := by decide +kernel
theorem dX1_planMoves_80 : decode cX1_planMoves 80 = .ok (.iload 4, 2) := by decide +kernel
theorem dX1_planMoves_82 : decode cX1_planMoves 82 = .ok (.putfield 59, 3) := by decide +kernel
theorem dX1_planMoves_85 : decode cX1_planMoves 85 = .ok (.aload_n 0, 1) := by decide +kernel
theorem dX1_planMoves_86 : decode cX1_planMoves 86 = .ok (.iload 5, 2) := by decide +kernel
theorem dX1_planMoves_88 : decode cX1_planMoves 88 = .ok (.putfield 62, 3) := by decide +kernel
theorem dX1_planMoves_91 : decode cX1_planMoves 91 = .ok (.iinc 5 1, 3) := by decide +kernel
theorem dX1_planMoves_94 : decode cX1_planMoves 94 = .ok (.goto (-63), 3) := by decide +kernel
theorem dX1_planMoves_97 : decode cX1_planMoves 97 = .ok (.iinc 4 1, 3) := by decide +kernel
theorem dX1_planMoves_100 : decode cX1_planMoves 100 = .ok (.goto (-94), 3) := by decide +kernel
theorem dX1_planMoves_103 : decode cX1_planMoves 103 = .ok (.iload_n 3, 1) := by decide +kernel
theorem dX1_planMoves_104 : decode cX1_planMoves 104 = .ok (.ireturn, 1) := by decide +kernel
set_option maxRecDepth 20000 in
theorem ggX1_walkChain_X1_link : GoodIn wsX1_walkChain wsX1_link := goodIn_r _ [10, 11, 12, 13, 14, 15, 16, 17, 18, 19, 20, 21, 22, 23, 24, 25, 26, 27, 28, 29] (by decide +kernel) (by decide +kernel)
set_option maxRecDepth 20000 in
theorem gX1_walkChain_X1_link : GoodIn wsX1_walkChain (wsV RX1 116 RX1 yX1_link wsX1_link) := goodIn_app (goodIn_of _ (by decide +kernel)) ggX1_walkChain_X1_link
theorem dX1_walkChain_0 : decode cX1_walkChain 0 = .ok (.iconst 0, 1) := by decide +kernel
theorem dX1_walkChain_1 : decode cX1_walkChain 1 = .ok (.istore 4, 2) := by decide +kernel
theorem dX1_walkChain_3 : decode cX1_walkChain 3 = .ok (.aload_n 0, 1) := by decide +kernel
theorem dX1_walkChain_4 : decode cX1_walkChain 4 = .ok (.getfield 41, 3) := by decide +kernel
theorem dX1_walkChain_7 : decode cX1_walkChain 7 = .ok (.aload_n 0, 1) := by decide +kernel
theorem dX1_walkChain_8 : decode cX1_walkChain 8 = .ok (.iload_n 1, 1) := by decide +kernel
theorem dX1_walkChain_9 : decode cX1_walkChain 9 = .ok (.iload_n 3, 1) := by decide +kernel
theorem dX1_walkChain_10 : decode cX1_walkChain 10 = .ok (.invokevirtual 116, 3) := by decide +kernel
theorem dX1_walkChain_13 : decode cX1_walkChain 13 = .ok (.iaload, 1) := by decide +kernel
theorem dX1_walkChain_14 : decode cX1_walkChain 14 = .ok (.istore 5, 2) := by decide +kernel
theorem dX1_walkChain_16 : decode cX1_walkChain 16 = .ok (.iload 5, 2) := by decide +kernel
theorem dX1_walkChain_18 : decode cX1_walkChain 18 = .ok (.iconst (-1), 1) := by decide +kernel
theorem dX1_walkChain_19 : decode cX1_walkChain 19 = .ok (.if_icmp .eq 81, 3) := by decide +kernel
theorem dX1_walkChain_22 : decode cX1_walkChain 22 = .ok (.iload 4, 2) := by decide +kernel
theorem dX1_walkChain_24 : decode cX1_walkChain 24 = .ok (.aload_n 0, 1) := by decide +kernel
theorem dX1_walkChain_25 : decode cX1_walkChain 25 = .ok (.getfield 21, 3) := by decide +kernel
theorem dX1_walkChain_28 : decode cX1_walkChain 28 = .ok (.if_icmp .ge 72, 3) := by decide +kernel
theorem dX1_walkChain_31 : decode cX1_walkChain 31 = .ok (.aload_n 0, 1) := by decide +kernel
theorem dX1_walkChain_32 : decode cX1_walkChain 32 = .ok (.getfield 44, 3) := by decide +kernel
theorem dX1_walkChain_35 : decode cX1_walkChain 35 = .ok (.iload 4, 2) := by decide +kernel
theorem dX1_walkChain_37 : decode cX1_walkChain 37 = .ok (.iload 5, 2) := by decide +kernel
theorem dX1_walkChain_39 : decode cX1_walkChain 39 = .ok (.iastore, 1) := by decide +kernel
theorem dX1_walkChain_40 : decode cX1_walkChain 40 = .ok (.iinc 4 1, 3) := by decide +kernel
theorem dX1_walkChain_43 : decode cX1_walkChain 43 = .ok (.iload 4, 2) := by decide +kernel
theorem dX1_walkChain_45 : decode cX1_walkChain 45 = .ok (.iconst 2, 1) := by decide +kernel
theorem dX1_walkChain_46 : decode cX1_walkChain 46 = .ok (.irem, 1) := by decide +kernel
theorem dX1_walkChain_47 : decode cX1_walkChain 47 = .ok (.iconst 1, 1) := by decide +kernel
theorem dX1_walkChain_48 : decode cX1_walkChain 48 = .ok (.if_icmp .ne 7, 3) := by decide +kernel
theorem dX1_walkChain_51 : decode cX1_walkChain 51 = .ok (.iconst 1, 1) := by decide +kernel
theorem dX1_walkChain_52 : decode cX1_walkChain 52 = .ok (.goto 4, 3) := by decide +kernel
theorem dX1_walkChain_55 : decode cX1_walkChain 55 = .ok (.iconst 0, 1) := by decide +kernel
theorem dX1_walkChain_56 : decode cX1_walkChain 56 = .ok (.istore 6, 2) := by decide +kernel
theorem dX1_walkChain_58 : decode cX1_walkChain 58 = .ok (.iload 6, 2) := by decide +kernel
theorem dX1_walkChain_60 : decode cX1_walkChain 60 = .ok (.ifCond .eq 18, 3) := by decide +kernel
theorem dX1_walkChain_63 : decode cX1_walkChain 63 = .ok (.aload_n 0, 1) := by decide +kernel
theorem dX1_walkChain_64 : decode cX1_walkChain 64 = .ok (.getfield 38, 3) := by decide +kernel
theorem dX1_walkChain_67 : decode cX1_walkChain 67 = .ok (.aload_n 0, 1) := by decide +kernel
theorem dX1_walkChain_68 : decode cX1_walkChain 68 = .ok (.iload_n 2, 1) := by decide +kernel
theorem dX1_walkChain_69 : decode cX1_walkChain 69 = .ok (.iload 5, 2) := by decide +kernel
theorem dX1_walkChain_71 : decode cX1_walkChain 71 = .ok (.invokevirtual 116, 3) := by decide +kernel
theorem dX1_walkChain_74 : decode cX1_walkChain 74 = .ok (.iaload, 1) := by decide +kernel
theorem dX1_walkChain_75 : decode cX1_walkChain 75 = .ok (.goto 20, 3) := by decide +kernel
theorem dX1_walkChain_78 : decode cX1_walkChain 78 = .ok (.aload_n 0, 1) := by decide +kernel
theorem dX1_walkChain_79 : decode cX1_walkChain 79 = .ok (.getfield 41, 3) := by decide +kernel
theorem dX1_walkChain_82 : decode cX1_walkChain 82 = .ok (.aload_n 0, 1) := by decide +kernel
theorem dX1_walkChain_83 : decode cX1_walkChain 83 = .ok (.iload_n 1, 1) := by decide +kernel
theorem dX1_walkChain_84 : decode cX1_walkChain 84 = .ok (.aload_n 0, 1) := by decide +kernel
theorem dX1_walkChain_85 : decode cX1_walkChain 85 = .ok (.getfield 28, 3) := by decide +kernel
theorem dX1_walkChain_88 : decode cX1_walkChain 88 = .ok (.iload 5, 2) := by decide +kernel
theorem dX1_walkChain_90 : decode cX1_walkChain 90 = .ok (.iaload, 1) := by decide +kernel
theorem dX1_walkChain_91 : decode cX1_walkChain 91 = .ok (.invokevirtual 116, 3) := by decide +kernel
theorem dX1_walkChain_94 : decode cX1_walkChain 94 = .ok (.iaload, 1) := by decide +kernel
theorem dX1_walkChain_95 : decode cX1_walkChain 95 = .ok (.istore 5, 2) := by decide +kernel
theorem dX1_walkChain_97 : decode cX1_walkChain 97 = .ok (.goto (-81), 3) := by decide +kernel
theorem dX1_walkChain_100 : decode cX1_walkChain 100 = .ok (.iload 4, 2) := by decide +kernel
theorem dX1_walkChain_102 : decode cX1_walkChain 102 = .ok (.ireturn, 1) := by decide +kernel
set_option maxRecDepth 20000 in
theorem ggX1_swapChain_X1_walkChain : GoodIn wsX1_swapChain wsX1_walkChain := goodIn_r _ [6, 7, 8, 1, 9, 10, 11, 12, 13, 5, 14, 15, 16, 27, 28, 29, 30, 31, 32, 33, 34, 35, 36, 37, 38, 39, 40, 41, 42, 43] (by decide +kernel) (by decide +kernel)
set_option maxRecDepth 20000 in
theorem gX1_swapChain_X1_walkChain : GoodIn wsX1_swapChain (wsV RX1 112 RX1 yX1_walkChain wsX1_walkChain) := goodIn_app (goodIn_of _ (by decide +kernel)) ggX1_swapChain_X1_walkChain
set_option maxRecDepth 20000 in
theorem ggX1_swapChain_X1_leaveLinks : GoodIn wsX1_swapChain wsX1_leaveLinks := goodIn_r _ [20, 9, 21, 7, 10, 22, 11, 12, 13, 5, 14, 15, 16, 27, 28, 29, 30, 31, 32, 33, 34, 35, 36, 37, 38, 39, 40, 41, 42, 43] (by decide +kernel) (by decide +kernel)
set_option maxRecDepth 20000 in
theorem gX1_swapChain_X1_leaveLinks : GoodIn wsX1_swapChain (wsV RX1 95 RX1 yX1_leaveLinks wsX1_leaveLinks) := goodIn_app (goodIn_of _ (by decide +kernel)) ggX1_swapChain_X1_leaveLinks
set_option maxRecDepth 20000 in
theorem ggX1_swapChain_X1_takeLinks : GoodIn wsX1_swapChain wsX1_takeLinks := goodIn_r _ [26, 21, 9, 7, 10, 11, 12, 13, 5, 14, 15, 16, 27, 28, 29, 30, 31, 32, 33, 34, 35, 36, 37, 38, 39, 40, 41, 42, 43] (by decide +kernel) (by decide +kernel)
set_option maxRecDepth 20000 in
theorem gX1_swapChain_X1_takeLinks : GoodIn wsX1_swapChain (wsV RX1 91 RX1 yX1_takeLinks wsX1_takeLinks) := goodIn_app (goodIn_of _ (by decide +kernel)) ggX1_swapChain_X1_takeLinks
theorem dX1_swapChain_0 : decode cX1_swapChain 0 = .ok (.aload_n 0, 1) := by decide +kernel
theorem dX1_swapChain_1 : decode cX1_swapChain 1 = .ok (.iload_n 1, 1) := by decide +kernel
theorem dX1_swapChain_2 : decode cX1_swapChain 2 = .ok (.iload_n 2, 1) := by decide +kernel
theorem dX1_swapChain_3 : decode cX1_swapChain 3 = .ok (.iload_n 3, 1) := by decide +kernel
theorem dX1_swapChain_4 : decode cX1_swapChain 4 = .ok (.invokevirtual 112, 3) := by decide +kernel
theorem dX1_swapChain_7 : decode cX1_swapChain 7 = .ok (.istore 4, 2) := by decide +kernel
theorem dX1_swapChain_9 : decode cX1_swapChain 9 = .ok (.iconst 0, 1) := by decide +kernel
theorem dX1_swapChain_10 : decode cX1_swapChain 10 = .ok (.istore 5, 2) := by decide +kernel
theorem dX1_swapChain_12 : decode cX1_swapChain 12 = .ok (.iload 5, 2) := by decide +kernel
theorem dX1_swapChain_14 : decode cX1_swapChain 14 = .ok (.iload 4, 2) := by decide +kernel
theorem dX1_swapChain_16 : decode cX1_swapChain 16 = .ok (.if_icmp .ge 20, 3) := by decide +kernel
theorem dX1_swapChain_19 : decode cX1_swapChain 19 = .ok (.aload_n 0, 1) := by decide +kernel
theorem dX1_swapChain_20 : decode cX1_swapChain 20 = .ok (.aload_n 0, 1) := by decide +kernel
theorem dX1_swapChain_21 : decode cX1_swapChain 21 = .ok (.getfield 44, 3) := by decide +kernel
theorem dX1_swapChain_24 : decode cX1_swapChain 24 = .ok (.iload 5, 2) := by decide +kernel
theorem dX1_swapChain_26 : decode cX1_swapChain 26 = .ok (.iaload, 1) := by decide +kernel
theorem dX1_swapChain_27 : decode cX1_swapChain 27 = .ok (.invokevirtual 95, 3) := by decide +kernel
theorem dX1_swapChain_30 : decode cX1_swapChain 30 = .ok (.iinc 5 1, 3) := by decide +kernel
theorem dX1_swapChain_33 : decode cX1_swapChain 33 = .ok (.goto (-21), 3) := by decide +kernel
theorem dX1_swapChain_36 : decode cX1_swapChain 36 = .ok (.iconst 0, 1) := by decide +kernel
theorem dX1_swapChain_37 : decode cX1_swapChain 37 = .ok (.istore 5, 2) := by decide +kernel
theorem dX1_swapChain_39 : decode cX1_swapChain 39 = .ok (.iload 5, 2) := by decide +kernel
theorem dX1_swapChain_41 : decode cX1_swapChain 41 = .ok (.iload 4, 2) := by decide +kernel
theorem dX1_swapChain_43 : decode cX1_swapChain 43 = .ok (.if_icmp .ge 32, 3) := by decide +kernel
theorem dX1_swapChain_46 : decode cX1_swapChain 46 = .ok (.aload_n 0, 1) := by decide +kernel
theorem dX1_swapChain_47 : decode cX1_swapChain 47 = .ok (.aload_n 0, 1) := by decide +kernel
theorem dX1_swapChain_48 : decode cX1_swapChain 48 = .ok (.getfield 44, 3) := by decide +kernel
theorem dX1_swapChain_51 : decode cX1_swapChain 51 = .ok (.iload 5, 2) := by decide +kernel
theorem dX1_swapChain_53 : decode cX1_swapChain 53 = .ok (.iaload, 1) := by decide +kernel
theorem dX1_swapChain_54 : decode cX1_swapChain 54 = .ok (.iload 5, 2) := by decide +kernel
theorem dX1_swapChain_56 : decode cX1_swapChain 56 = .ok (.iconst 2, 1) := by decide +kernel
theorem dX1_swapChain_57 : decode cX1_swapChain 57 = .ok (.irem, 1) := by decide +kernel
theorem dX1_swapChain_58 : decode cX1_swapChain 58 = .ok (.ifCond .ne 7, 3) := by decide +kernel
theorem dX1_swapChain_61 : decode cX1_swapChain 61 = .ok (.iload_n 2, 1) := by decide +kernel
theorem dX1_swapChain_62 : decode cX1_swapChain 62 = .ok (.goto 4, 3) := by decide +kernel
theorem dX1_swapChain_65 : decode cX1_swapChain 65 = .ok (.iload_n 1, 1) := by decide +kernel
theorem dX1_swapChain_66 : decode cX1_swapChain 66 = .ok (.invokevirtual 91, 3) := by decide +kernel
theorem dX1_swapChain_69 : decode cX1_swapChain 69 = .ok (.iinc 5 1, 3) := by decide +kernel
theorem dX1_swapChain_72 : decode cX1_swapChain 72 = .ok (.goto (-33), 3) := by decide +kernel
theorem dX1_swapChain_75 : decode cX1_swapChain 75 = .ok (.return_, 1) := by decide +kernel
set_option maxRecDepth 20000 in
theorem ggX1_takeLinks_X1_link : GoodIn wsX1_takeLinks wsX1_link := goodIn_r _ [9, 10, 11, 12, 13, 14, 15, 16, 17, 18, 19, 20, 21, 22, 23, 24, 25, 26, 27, 28] (by decide +kernel) (by decide +kernel)
set_option maxRecDepth 20000 in
theorem gX1_takeLinks_X1_link : GoodIn wsX1_takeLinks (wsV RX1 116 RX1 yX1_link wsX1_link) := goodIn_app (goodIn_of _ (by decide +kernel)) ggX1_takeLinks_X1_link
theorem dX1_takeLinks_0 : decode cX1_takeLinks 0 = .ok (.aload_n 0, 1) := by decide +kernel
theorem dX1_takeLinks_1 : decode cX1_takeLinks 1 = .ok (.getfield 32, 3) := by decide +kernel
theorem dX1_takeLinks_4 : decode cX1_takeLinks 4 = .ok (.iload_n 1, 1) := by decide +kernel
theorem dX1_takeLinks_5 : decode cX1_takeLinks 5 = .ok (.iload_n 2, 1) := by decide +kernel
theorem dX1_takeLinks_6 : decode cX1_takeLinks 6 = .ok (.iastore, 1) := by decide +kernel
theorem dX1_takeLinks_7 : decode cX1_takeLinks 7 = .ok (.aload_n 0, 1) := by decide +kernel
theorem dX1_takeLinks_8 : decode cX1_takeLinks 8 = .ok (.getfield 38, 3) := by decide +kernel
theorem dX1_takeLinks_11 : decode cX1_takeLinks 11 = .ok (.aload_n 0, 1) := by decide +kernel
theorem dX1_takeLinks_12 : decode cX1_takeLinks 12 = .ok (.iload_n 2, 1) := by decide +kernel
theorem dX1_takeLinks_13 : decode cX1_takeLinks 13 = .ok (.iload_n 1, 1) := by decide +kernel
theorem dX1_takeLinks_14 : decode cX1_takeLinks 14 = .ok (.invokevirtual 116, 3) := by decide +kernel
theorem dX1_takeLinks_17 : decode cX1_takeLinks 17 = .ok (.iload_n 1, 1) := by decide +kernel
theorem dX1_takeLinks_18 : decode cX1_takeLinks 18 = .ok (.iastore, 1) := by decide +kernel
theorem dX1_takeLinks_19 : decode cX1_takeLinks 19 = .ok (.aload_n 0, 1) := by decide +kernel
theorem dX1_takeLinks_20 : decode cX1_takeLinks 20 = .ok (.getfield 41, 3) := by decide +kernel
theorem dX1_takeLinks_23 : decode cX1_takeLinks 23 = .ok (.aload_n 0, 1) := by decide +kernel
theorem dX1_takeLinks_24 : decode cX1_takeLinks 24 = .ok (.iload_n 2, 1) := by decide +kernel
theorem dX1_takeLinks_25 : decode cX1_takeLinks 25 = .ok (.aload_n 0, 1) := by decide +kernel
theorem dX1_takeLinks_26 : decode cX1_takeLinks 26 = .ok (.getfield 28, 3) := by decide +kernel
theorem dX1_takeLinks_29 : decode cX1_takeLinks 29 = .ok (.iload_n 1, 1) := by decide +kernel
theorem dX1_takeLinks_30 : decode cX1_takeLinks 30 = .ok (.iaload, 1) := by decide +kernel
theorem dX1_takeLinks_31 : decode cX1_takeLinks 31 = .ok (.invokevirtual 116, 3) := by decide +kernel
theorem dX1_takeLinks_34 : decode cX1_takeLinks 34 = .ok (.iload_n 1, 1) := by decide +kernel
theorem dX1_takeLinks_35 : decode cX1_takeLinks 35 = .ok (.iastore, 1) := by decide +kernel
theorem dX1_takeLinks_36 : decode cX1_takeLinks 36 = .ok (.return_, 1) := by decide +kernel
set_option maxRecDepth 20000 in
theorem ggX1_leaveLinks_X1_link : GoodIn wsX1_leaveLinks wsX1_link := goodIn_r _ [10, 11, 12, 13, 14, 15, 16, 17, 18, 19, 20, 21, 22, 23, 24, 25, 26, 27, 28, 29] (by decide +kernel) (by decide +kernel)
set_option maxRecDepth 20000 in
theorem gX1_leaveLinks_X1_link : GoodIn wsX1_leaveLinks (wsV RX1 116 RX1 yX1_link wsX1_link) := goodIn_app (goodIn_of _ (by decide +kernel)) ggX1_leaveLinks_X1_link
theorem dX1_leaveLinks_0 : decode cX1_leaveLinks 0 = .ok (.aload_n 0, 1) := by decide +kernel
theorem dX1_leaveLinks_1 : decode cX1_leaveLinks 1 = .ok (.getfield 38, 3) := by decide +kernel
theorem dX1_leaveLinks_4 : decode cX1_leaveLinks 4 = .ok (.aload_n 0, 1) := by decide +kernel
theorem dX1_leaveLinks_5 : decode cX1_leaveLinks 5 = .ok (.aload_n 0, 1) := by decide +kernel
theorem dX1_leaveLinks_6 : decode cX1_leaveLinks 6 = .ok (.getfield 32, 3) := by decide +kernel
theorem dX1_leaveLinks_9 : decode cX1_leaveLinks 9 = .ok (.iload_n 1, 1) := by decide +kernel
theorem dX1_leaveLinks_10 : decode cX1_leaveLinks 10 = .ok (.iaload, 1) := by decide +kernel
theorem dX1_leaveLinks_11 : decode cX1_leaveLinks 11 = .ok (.iload_n 1, 1) := by decide +kernel
theorem dX1_leaveLinks_12 : decode cX1_leaveLinks 12 = .ok (.invokevirtual 116, 3) := by decide +kernel
theorem dX1_leaveLinks_15 : decode cX1_leaveLinks 15 = .ok (.iconst (-1), 1) := by decide +kernel
theorem dX1_leaveLinks_16 : decode cX1_leaveLinks 16 = .ok (.iastore, 1) := by decide +kernel
theorem dX1_leaveLinks_17 : decode cX1_leaveLinks 17 = .ok (.aload_n 0, 1) := by decide +kernel
theorem dX1_leaveLinks_18 : decode cX1_leaveLinks 18 = .ok (.getfield 41, 3) := by decide +kernel
theorem dX1_leaveLinks_21 : decode cX1_leaveLinks 21 = .ok (.aload_n 0, 1) := by decide +kernel
theorem dX1_leaveLinks_22 : decode cX1_leaveLinks 22 = .ok (.aload_n 0, 1) := by decide +kernel
theorem dX1_leaveLinks_23 : decode cX1_leaveLinks 23 = .ok (.getfield 32, 3) := by decide +kernel
theorem dX1_leaveLinks_26 : decode cX1_leaveLinks 26 = .ok (.iload_n 1, 1) := by decide +kernel
theorem dX1_leaveLinks_27 : decode cX1_leaveLinks 27 = .ok (.iaload, 1) := by decide +kernel
theorem dX1_leaveLinks_28 : decode cX1_leaveLinks 28 = .ok (.aload_n 0, 1) := by decide +kernel
theorem dX1_leaveLinks_29 : decode cX1_leaveLinks 29 = .ok (.getfield 28, 3) := by decide +kernel
theorem dX1_leaveLinks_32 : decode cX1_leaveLinks 32 = .ok (.iload_n 1, 1) := by decide +kernel
theorem dX1_leaveLinks_33 : decode cX1_leaveLinks 33 = .ok (.iaload, 1) := by decide +kernel
theorem dX1_leaveLinks_34 : decode cX1_leaveLinks 34 = .ok (.invokevirtual 116, 3) := by decide +kernel
theorem dX1_leaveLinks_37 : decode cX1_leaveLinks 37 = .ok (.iconst (-1), 1) := by decide +kernel
theorem dX1_leaveLinks_38 : decode cX1_leaveLinks 38 = .ok (.iastore, 1) := by decide +kernel
theorem dX1_leaveLinks_39 : decode cX1_leaveLinks 39 = .ok (.aload_n 0, 1) := by decide +kernel
theorem dX1_leaveLinks_40 : decode cX1_leaveLinks 40 = .ok (.getfield 32, 3) := by decide +kernel
theorem dX1_leaveLinks_43 : decode cX1_leaveLinks 43 = .ok (.iload_n 1, 1) := by decide +kernel
theorem dX1_leaveLinks_44 : decode cX1_leaveLinks 44 = .ok (.ldc 65, 2) := by decide +kernel
theorem dX1_leaveLinks_46 : decode cX1_leaveLinks 46 = .ok (.iastore, 1) := by decide +kernel
theorem dX1_leaveLinks_47 : decode cX1_leaveLinks 47 = .ok (.return_, 1) := by decide +kernel
set_option maxRecDepth 20000 in
theorem ggX1_isFree_X1_isFreeFrom : GoodIn wsX1_isFree wsX1_isFreeFrom := goodIn_r _ [5, 6, 7, 8, 9, 10, 4, 11, 12, 13, 19, 20, 21, 22, 23, 24, 25, 26, 27, 28, 29, 30, 31, 32, 33, 34, 35] (by decide +kernel) (by decide +kernel)
set_option maxRecDepth 20000 in
theorem gX1_isFree_X1_isFreeFrom : GoodIn wsX1_isFree (wsV RX1 105 RX1 yX1_isFreeFrom wsX1_isFreeFrom) := goodIn_app (goodIn_of _ (by decide +kernel)) ggX1_isFree_X1_isFreeFrom
set_option maxRecDepth 20000 in
theorem ggX1_isFree_X1_isFreeTo : GoodIn wsX1_isFree wsX1_isFreeTo := goodIn_r _ [17, 6, 18, 8, 9, 10, 4, 11, 12, 13, 19, 20, 21, 22, 23, 24, 25, 26, 27, 28, 29, 30, 31, 32, 33, 34, 35] (by decide +kernel) (by decide +kernel)
set_option maxRecDepth 20000 in
theorem gX1_isFree_X1_isFreeTo : GoodIn wsX1_isFree (wsV RX1 109 RX1 yX1_isFreeTo wsX1_isFreeTo) := goodIn_app (goodIn_of _ (by decide +kernel)) ggX1_isFree_X1_isFreeTo
theorem dX1_isFree_0 : decode cX1_isFree 0 = .ok (.aload_n 0, 1) := by decide +kernel
theorem dX1_isFree_1 : decode cX1_isFree 1 = .ok (.iload_n 1, 1) := by decide +kernel
theorem dX1_isFree_2 : decode cX1_isFree 2 = .ok (.iload_n 2, 1) := by decide +kernel
theorem dX1_isFree_3 : decode cX1_isFree 3 = .ok (.invokevirtual 105, 3) := by decide +kernel
theorem dX1_isFree_6 : decode cX1_isFree 6 = .ok (.ifCond .eq 16, 3) := by decide +kernel
theorem dX1_isFree_9 : decode cX1_isFree 9 = .ok (.aload_n 0, 1) := by decide +kernel
theorem dX1_isFree_10 : decode cX1_isFree 10 = .ok (.iload_n 1, 1) := by decide +kernel
theorem dX1_isFree_11 : decode cX1_isFree 11 = .ok (.iload_n 3, 1) := by decide +kernel
theorem dX1_isFree_12 : decode cX1_isFree 12 = .ok (.invokevirtual 109, 3) := by decide +kernel
theorem dX1_isFree_15 : decode cX1_isFree 15 = .ok (.ifCond .eq 7, 3) := by decide +kernel
theorem dX1_isFree_18 : decode cX1_isFree 18 = .ok (.iconst 1, 1) := by decide +kernel
theorem dX1_isFree_19 : decode cX1_isFree 19 = .ok (.goto 4, 3) := by decide +kernel
theorem dX1_isFree_22 : decode cX1_isFree 22 = .ok (.iconst 0, 1) := by decide +kernel
theorem dX1_isFree_23 : decode cX1_isFree 23 = .ok (.ireturn, 1) := by decide +kernel
set_option maxRecDepth 20000 in
theorem ggX1_isFreeFrom_X1_link : GoodIn wsX1_isFreeFrom wsX1_link := goodIn_r _ [7, 8, 9, 10, 11, 12, 13, 14, 15, 16, 17, 18, 19, 20, 21, 22, 23, 24, 25, 26] (by decide +kernel) (by decide +kernel)
set_option maxRecDepth 20000 in
theorem gX1_isFreeFrom_X1_link : GoodIn wsX1_isFreeFrom (wsV RX1 116 RX1 yX1_link wsX1_link) := goodIn_app (goodIn_of _ (by decide +kernel)) ggX1_isFreeFrom_X1_link
theorem dX1_isFreeFrom_0 : decode cX1_isFreeFrom 0 = .ok (.aload_n 0, 1) := by decide +kernel
theorem dX1_isFreeFrom_1 : decode cX1_isFreeFrom 1 = .ok (.getfield 24, 3) := by decide +kernel
theorem dX1_isFreeFrom_4 : decode cX1_isFreeFrom 4 = .ok (.iload_n 1, 1) := by decide +kernel
theorem dX1_isFreeFrom_5 : decode cX1_isFreeFrom 5 = .ok (.baload, 1) := by decide +kernel
theorem dX1_isFreeFrom_6 : decode cX1_isFreeFrom 6 = .ok (.ifCond .ne 22, 3) := by decide +kernel
theorem dX1_isFreeFrom_9 : decode cX1_isFreeFrom 9 = .ok (.aload_n 0, 1) := by decide +kernel
theorem dX1_isFreeFrom_10 : decode cX1_isFreeFrom 10 = .ok (.getfield 38, 3) := by decide +kernel
theorem dX1_isFreeFrom_13 : decode cX1_isFreeFrom 13 = .ok (.aload_n 0, 1) := by decide +kernel
theorem dX1_isFreeFrom_14 : decode cX1_isFreeFrom 14 = .ok (.iload_n 1, 1) := by decide +kernel
theorem dX1_isFreeFrom_15 : decode cX1_isFreeFrom 15 = .ok (.iload_n 2, 1) := by decide +kernel
theorem dX1_isFreeFrom_16 : decode cX1_isFreeFrom 16 = .ok (.invokevirtual 116, 3) := by decide +kernel
theorem dX1_isFreeFrom_19 : decode cX1_isFreeFrom 19 = .ok (.iaload, 1) := by decide +kernel
theorem dX1_isFreeFrom_20 : decode cX1_isFreeFrom 20 = .ok (.iconst (-1), 1) := by decide +kernel
theorem dX1_isFreeFrom_21 : decode cX1_isFreeFrom 21 = .ok (.if_icmp .ne 7, 3) := by decide +kernel
theorem dX1_isFreeFrom_24 : decode cX1_isFreeFrom 24 = .ok (.iconst 1, 1) := by decide +kernel
theorem dX1_isFreeFrom_25 : decode cX1_isFreeFrom 25 = .ok (.goto 4, 3) := by decide +kernel
theorem dX1_isFreeFrom_28 : decode cX1_isFreeFrom 28 = .ok (.iconst 0, 1) := by decide +kernel
theorem dX1_isFreeFrom_29 : decode cX1_isFreeFrom 29 = .ok (.ireturn, 1) := by decide +kernel
set_option maxRecDepth 20000 in
theorem ggX1_isFreeTo_X1_link : GoodIn wsX1_isFreeTo wsX1_link := goodIn_r _ [7, 8, 9, 10, 11, 12, 13, 14, 15, 16, 17, 18, 19, 20, 21, 22, 23, 24, 25, 26] (by decide +kernel) (by decide +kernel)
set_option maxRecDepth 20000 in
theorem gX1_isFreeTo_X1_link : GoodIn wsX1_isFreeTo (wsV RX1 116 RX1 yX1_link wsX1_link) := goodIn_app (goodIn_of _ (by decide +kernel)) ggX1_isFreeTo_X1_link
theorem dX1_isFreeTo_0 : decode cX1_isFreeTo 0 = .ok (.aload_n 0, 1) := by decide +kernel
theorem dX1_isFreeTo_1 : decode cX1_isFreeTo 1 = .ok (.getfield 24, 3) := by decide +kernel
theorem dX1_isFreeTo_4 : decode cX1_isFreeTo 4 = .ok (.iload_n 1, 1) := by decide +kernel
theorem dX1_isFreeTo_5 : decode cX1_isFreeTo 5 = .ok (.baload, 1) := by decide +kernel
theorem dX1_isFreeTo_6 : decode cX1_isFreeTo 6 = .ok (.ifCond .ne 22, 3) := by decide +kernel
theorem dX1_isFreeTo_9 : decode cX1_isFreeTo 9 = .ok (.aload_n 0, 1) := by decide +kernel
theorem dX1_isFreeTo_10 : decode cX1_isFreeTo 10 = .ok (.getfield 41, 3) := by decide +kernel
theorem dX1_isFreeTo_13 : decode cX1_isFreeTo 13 = .ok (.aload_n 0, 1) := by decide +kernel
theorem dX1_isFreeTo_14 : decode cX1_isFreeTo 14 = .ok (.iload_n 1, 1) := by decide +kernel
theorem dX1_isFreeTo_15 : decode cX1_isFreeTo 15 = .ok (.iload_n 2, 1) := by decide +kernel
theorem dX1_isFreeTo_16 : decode cX1_isFreeTo 16 = .ok (.invokevirtual 116, 3) := by decide +kernel
theorem dX1_isFreeTo_19 : decode cX1_isFreeTo 19 = .ok (.iaload, 1) := by decide +kernel
theorem dX1_isFreeTo_20 : decode cX1_isFreeTo 20 = .ok (.iconst (-1), 1) := by decide +kernel
theorem dX1_isFreeTo_21 : decode cX1_isFreeTo 21 = .ok (.if_icmp .ne 7, 3) := by decide +kernel
theorem dX1_isFreeTo_24 : decode cX1_isFreeTo 24 = .ok (.iconst 1, 1) := by decide +kernel
theorem dX1_isFreeTo_25 : decode cX1_isFreeTo 25 = .ok (.goto 4, 3) := by decide +kernel
theorem dX1_isFreeTo_28 : decode cX1_isFreeTo 28 = .ok (.iconst 0, 1) := by decide +kernel
theorem dX1_isFreeTo_29 : decode cX1_isFreeTo 29 = .ok (.ireturn, 1) := by decide +kernel
theorem dX1_link_0 : decode cX1_link 0 = .ok (.iload_n 1, 1) := by decide +kernel
theorem dX1_link_1 : decode cX1_link 1 = .ok (.aload_n 0, 1) := by decide +kernel
theorem dX1_link_2 : decode cX1_link 2 = .ok (.getfield 18, 3) := by decide +kernel
theorem dX1_link_5 : decode cX1_link 5 = .ok (.imul, 1) := by decide +kernel
theorem dX1_link_6 : decode cX1_link 6 = .ok (.iload_n 2, 1) := by decide +kernel
theorem dX1_link_7 : decode cX1_link 7 = .ok (.aload_n 0, 1) := by decide +kernel
theorem dX1_link_8 : decode cX1_link 8 = .ok (.getfield 15, 3) := by decide +kernel
theorem dX1_link_11 : decode cX1_link 11 = .ok (.idiv, 1) := by decide +kernel
theorem dX1_link_12 : decode cX1_link 12 = .ok (.iadd, 1) := by decide +kernel
theorem dX1_link_13 : decode cX1_link 13 = .ok (.ireturn, 1) := by decide +kernel
theorem dX2_init_0 : decode cX2_init 0 = .ok (.aload_n 0, 1) := by decide +kernel
theorem dX2_init_1 : decode cX2_init 1 = .ok (.invokespecial 3, 3) := by decide +kernel
theorem dX2_init_4 : decode cX2_init 4 = .ok (.aload_n 0, 1) := by decide +kernel
theorem dX2_init_5 : decode cX2_init 5 = .ok (.bipush 6, 2) := by decide +kernel
theorem dX2_init_7 : decode cX2_init 7 = .ok (.newarray .int, 2) := by decide +kernel
theorem dX2_init_9 : decode cX2_init 9 = .ok (.putfield 9, 3) := by decide +kernel
theorem dX2_init_12 : decode cX2_init 12 = .ok (.aload_n 0, 1) := by decide +kernel
theorem dX2_init_13 : decode cX2_init 13 = .ok (.bipush 6, 2) := by decide +kernel
theorem dX2_init_15 : decode cX2_init 15 = .ok (.bipush 6, 2) := by decide +kernel
theorem dX2_init_17 : decode cX2_init 17 = .ok (.multianewarray 15 2, 4) := by decide +kernel
theorem dX2_init_21 : decode cX2_init 21 = .ok (.putfield 17, 3) := by decide +kernel
theorem dX2_init_24 : decode cX2_init 24 = .ok (.return_, 1) := by decide +kernel
set_option maxRecDepth 20000 in
theorem ggX2_takeTable_X5_within : GoodIn wsX2_takeTable wsX5_within := goodIn_r _ [6] (by decide +kernel) (by decide +kernel)
set_option maxRecDepth 20000 in
theorem gX2_takeTable_X5_within_n29 : GoodIn wsX2_takeTable (wsX5_within) := ggX2_takeTable_X5_within
set_option maxRecDepth 20000 in
theorem ggX2_takeTable_X2_sumOfRow : GoodIn wsX2_takeTable wsX2_sumOfRow := goodIn_r _ [11, 1, 3, 16, 17, 18, 19] (by decide +kernel) (by decide +kernel)
set_option maxRecDepth 20000 in
theorem gX2_takeTable_X2_sumOfRow : GoodIn wsX2_takeTable (wsV RX2 33 RX2 yX2_sumOfRow wsX2_sumOfRow) := goodIn_app (goodIn_of _ (by decide +kernel)) ggX2_takeTable_X2_sumOfRow
set_option maxRecDepth 20000 in
theorem ggX2_takeTable_X2_sumOfColumn : GoodIn wsX2_takeTable wsX2_sumOfColumn := goodIn_r _ [15, 1, 3, 16, 17, 18, 19] (by decide +kernel) (by decide +kernel)
set_option maxRecDepth 20000 in
theorem gX2_takeTable_X2_sumOfColumn : GoodIn wsX2_takeTable (wsV RX2 37 RX2 yX2_sumOfColumn wsX2_sumOfColumn) := goodIn_app (goodIn_of _ (by decide +kernel)) ggX2_takeTable_X2_sumOfColumn
theorem dX2_takeTable_0 : decode cX2_takeTable 0 = .ok (.aload_n 0, 1) := by decide +kernel
theorem dX2_takeTable_1 : decode cX2_takeTable 1 = .ok (.iload_n 3, 1) := by decide +kernel
theorem dX2_takeTable_2 : decode cX2_takeTable 2 = .ok (.putfield 20, 3) := by decide +kernel
theorem dX2_takeTable_5 : decode cX2_takeTable 5 = .ok (.iconst 0, 1) := by decide +kernel
theorem dX2_takeTable_6 : decode cX2_takeTable 6 = .ok (.istore 4, 2) := by decide +kernel
theorem dX2_takeTable_8 : decode cX2_takeTable 8 = .ok (.iload 4, 2) := by decide +kernel
theorem dX2_takeTable_10 : decode cX2_takeTable 10 = .ok (.iload_n 3, 1) := by decide +kernel
theorem dX2_takeTable_11 : decode cX2_takeTable 11 = .ok (.if_icmp .ge 66, 3) := by decide +kernel
theorem dX2_takeTable_14 : decode cX2_takeTable 14 = .ok (.iconst 0, 1) := by decide +kernel
theorem dX2_takeTable_15 : decode cX2_takeTable 15 = .ok (.istore 5, 2) := by decide +kernel
theorem dX2_takeTable_17 : decode cX2_takeTable 17 = .ok (.iload 5, 2) := by decide +kernel
theorem dX2_takeTable_19 : decode cX2_takeTable 19 = .ok (.iload_n 3, 1) := by decide +kernel
theorem dX2_takeTable_20 : decode cX2_takeTable 20 = .ok (.if_icmp .ge 51, 3) := by decide +kernel
theorem dX2_takeTable_23 : decode cX2_takeTable 23 = .ok (.aload_n 1, 1) := by decide +kernel
theorem dX2_takeTable_24 : decode cX2_takeTable 24 = .ok (.getfield 24, 3) := by decide +kernel
theorem dX2_takeTable_27 : decode cX2_takeTable 27 = .ok (.iload_n 2, 1) := by decide +kernel
theorem dX2_takeTable_28 : decode cX2_takeTable 28 = .ok (.iload 4, 2) := by decide +kernel
theorem dX2_takeTable_30 : decode cX2_takeTable 30 = .ok (.iload_n 3, 1) := by decide +kernel
theorem dX2_takeTable_31 : decode cX2_takeTable 31 = .ok (.imul, 1) := by decide +kernel
theorem dX2_takeTable_32 : decode cX2_takeTable 32 = .ok (.iadd, 1) := by decide +kernel
theorem dX2_takeTable_33 : decode cX2_takeTable 33 = .ok (.iload 5, 2) := by decide +kernel
theorem dX2_takeTable_35 : decode cX2_takeTable 35 = .ok (.iadd, 1) := by decide +kernel
theorem dX2_takeTable_36 : decode cX2_takeTable 36 = .ok (.iaload, 1) := by decide +kernel
theorem dX2_takeTable_37 : decode cX2_takeTable 37 = .ok (.istore 6, 2) := by decide +kernel
theorem dX2_takeTable_39 : decode cX2_takeTable 39 = .ok (.iload 6, 2) := by decide +kernel
theorem dX2_takeTable_41 : decode cX2_takeTable 41 = .ok (.iconst 0, 1) := by decide +kernel
theorem dX2_takeTable_42 : decode cX2_takeTable 42 = .ok (.sipush 1000, 3) := by decide +kernel
theorem dX2_takeTable_45 : decode cX2_takeTable 45 = .ok (.invokestatic 29, 3) := by decide +kernel
theorem dX2_takeTable_48 : decode cX2_takeTable 48 = .ok (.ifCond .ne 5, 3) := by decide +kernel
theorem dX2_takeTable_51 : decode cX2_takeTable 51 = .ok (.iconst 0, 1) := by decide +kernel
theorem dX2_takeTable_52 : decode cX2_takeTable 52 = .ok (.ireturn, 1) := by decide +kernel
theorem dX2_takeTable_53 : decode cX2_takeTable 53 = .ok (.aload_n 0, 1) := by decide +kernel
theorem dX2_takeTable_54 : decode cX2_takeTable 54 = .ok (.getfield 17, 3) := by decide +kernel
theorem dX2_takeTable_57 : decode cX2_takeTable 57 = .ok (.iload 4, 2) := by decide +kernel
theorem dX2_takeTable_59 : decode cX2_takeTable 59 = .ok (.aaload, 1) := by decide +kernel
theorem dX2_takeTable_60 : decode cX2_takeTable 60 = .ok (.iload 5, 2) := by decide +kernel
theorem dX2_takeTable_62 : decode cX2_takeTable 62 = .ok (.iload 6, 2) := by decide +kernel
theorem dX2_takeTable_64 : decode cX2_takeTable 64 = .ok (.iastore, 1) := by decide +kernel
theorem dX2_takeTable_65 : decode cX2_takeTable 65 = .ok (.iinc 5 1, 3) := by decide +kernel
theorem dX2_takeTable_68 : decode cX2_takeTable 68 = .ok (.goto (-51), 3) := by decide +kernel
theorem dX2_takeTable_71 : decode cX2_takeTable 71 = .ok (.iinc 4 1, 3) := by decide +kernel
theorem dX2_takeTable_74 : decode cX2_takeTable 74 = .ok (.goto (-66), 3) := by decide +kernel
theorem dX2_takeTable_77 : decode cX2_takeTable 77 = .ok (.aload_n 0, 1) := by decide +kernel
theorem dX2_takeTable_78 : decode cX2_takeTable 78 = .ok (.iconst 0, 1) := by decide +kernel
theorem dX2_takeTable_79 : decode cX2_takeTable 79 = .ok (.invokevirtual 33, 3) := by decide +kernel
theorem dX2_takeTable_82 : decode cX2_takeTable 82 = .ok (.istore 4, 2) := by decide +kernel
theorem dX2_takeTable_84 : decode cX2_takeTable 84 = .ok (.iconst 0, 1) := by decide +kernel
theorem dX2_takeTable_85 : decode cX2_takeTable 85 = .ok (.istore 5, 2) := by decide +kernel
theorem dX2_takeTable_87 : decode cX2_takeTable 87 = .ok (.iload 5, 2) := by decide +kernel
theorem dX2_takeTable_89 : decode cX2_takeTable 89 = .ok (.iload_n 3, 1) := by decide +kernel
theorem dX2_takeTable_90 : decode cX2_takeTable 90 = .ok (.if_icmp .ge 33, 3) := by decide +kernel
theorem dX2_takeTable_93 : decode cX2_takeTable 93 = .ok (.aload_n 0, 1) := by decide +kernel
theorem dX2_takeTable_94 : decode cX2_takeTable 94 = .ok (.iload 5, 2) := by decide +kernel
theorem dX2_takeTable_96 : decode cX2_takeTable 96 = .ok (.invokevirtual 33, 3) := by decide +kernel
theorem dX2_takeTable_99 : decode cX2_takeTable 99 = .ok (.iload 4, 2) := by decide +kernel
theorem dX2_takeTable_101 : decode cX2_takeTable 101 = .ok (.if_icmp .ne 14, 3) := by decide +kernel
theorem dX2_takeTable_104 : decode cX2_takeTable 104 = .ok (.aload_n 0, 1) := by decide +kernel
theorem dX2_takeTable_105 : decode cX2_takeTable 105 = .ok (.iload 5, 2) := by decide +kernel
theorem dX2_takeTable_107 : decode cX2_takeTable 107 = .ok (.invokevirtual 37, 3) := by decide +kernel
theorem dX2_takeTable_110 : decode cX2_takeTable 110 = .ok (.iload 4, 2) := by decide +kernel
theorem dX2_takeTable_112 : decode cX2_takeTable 112 = .ok (.if_icmp .eq 5, 3) := by decide +kernel
theorem dX2_takeTable_115 : decode cX2_takeTable 115 = .ok (.iconst 0, 1) := by decide +kernel
theorem dX2_takeTable_116 : decode cX2_takeTable 116 = .ok (.ireturn, 1) := by decide +kernel
theorem dX2_takeTable_117 : decode cX2_takeTable 117 = .ok (.iinc 5 1, 3) := by decide +kernel
theorem dX2_takeTable_120 : decode cX2_takeTable 120 = .ok (.goto (-33), 3) := by decide +kernel
theorem dX2_takeTable_123 : decode cX2_takeTable 123 = .ok (.iconst 1, 1) := by decide +kernel
theorem dX2_takeTable_124 : decode cX2_takeTable 124 = .ok (.ireturn, 1) := by decide +kernel
set_option maxRecDepth 20000 in
theorem ggX2_takeUpTo_X2_findOrder : GoodIn wsX2_takeUpTo wsX2_findOrder := goodIn_r _ [7, 4, 5, 6] (by decide +kernel) (by decide +kernel)
set_option maxRecDepth 20000 in
theorem gX2_takeUpTo_X2_findOrder : GoodIn wsX2_takeUpTo (va_wsS RX2 40 yX2_findOrder wsX2_findOrder) := goodIn_app (goodIn_of _ (by decide +kernel)) ggX2_takeUpTo_X2_findOrder
set_option maxRecDepth 20000 in
theorem ggX2_takeUpTo_X2_takeOrderOff : GoodIn wsX2_takeUpTo wsX2_takeOrderOff := goodIn_r _ [11, 12, 1, 2, 3, 13, 14, 15, 16, 17, 18, 19, 20] (by decide +kernel) (by decide +kernel)
set_option maxRecDepth 20000 in
theorem gX2_takeUpTo_X2_takeOrderOff : GoodIn wsX2_takeUpTo (wsV RX2 44 RX2 yX2_takeOrderOff wsX2_takeOrderOff) := goodIn_app (goodIn_of _ (by decide +kernel)) ggX2_takeUpTo_X2_takeOrderOff
theorem dX2_takeUpTo_0 : decode cX2_takeUpTo 0 = .ok (.iconst 0, 1) := by decide +kernel
theorem dX2_takeUpTo_1 : decode cX2_takeUpTo 1 = .ok (.istore_n 2, 1) := by decide +kernel
theorem dX2_takeUpTo_2 : decode cX2_takeUpTo 2 = .ok (.iload_n 2, 1) := by decide +kernel
theorem dX2_takeUpTo_3 : decode cX2_takeUpTo 3 = .ok (.iload_n 1, 1) := by decide +kernel
theorem dX2_takeUpTo_4 : decode cX2_takeUpTo 4 = .ok (.if_icmp .ge 33, 3) := by decide +kernel
theorem dX2_takeUpTo_7 : decode cX2_takeUpTo 7 = .ok (.iconst 0, 1) := by decide +kernel
theorem dX2_takeUpTo_8 : decode cX2_takeUpTo 8 = .ok (.iconst 0, 1) := by decide +kernel
theorem dX2_takeUpTo_9 : decode cX2_takeUpTo 9 = .ok (.aload_n 0, 1) := by decide +kernel
theorem dX2_takeUpTo_10 : decode cX2_takeUpTo 10 = .ok (.getfield 20, 3) := by decide +kernel
theorem dX2_takeUpTo_13 : decode cX2_takeUpTo 13 = .ok (.aload_n 0, 1) := by decide +kernel
theorem dX2_takeUpTo_14 : decode cX2_takeUpTo 14 = .ok (.getfield 17, 3) := by decide +kernel
theorem dX2_takeUpTo_17 : decode cX2_takeUpTo 17 = .ok (.aload_n 0, 1) := by decide +kernel
theorem dX2_takeUpTo_18 : decode cX2_takeUpTo 18 = .ok (.getfield 9, 3) := by decide +kernel
theorem dX2_takeUpTo_21 : decode cX2_takeUpTo 21 = .ok (.invokestatic 40, 3) := by decide +kernel
theorem dX2_takeUpTo_24 : decode cX2_takeUpTo 24 = .ok (.ifCond .eq 13, 3) := by decide +kernel
theorem dX2_takeUpTo_27 : decode cX2_takeUpTo 27 = .ok (.aload_n 0, 1) := by decide +kernel
theorem dX2_takeUpTo_28 : decode cX2_takeUpTo 28 = .ok (.invokevirtual 44, 3) := by decide +kernel
theorem dX2_takeUpTo_31 : decode cX2_takeUpTo 31 = .ok (.iinc 2 1, 3) := by decide +kernel
theorem dX2_takeUpTo_34 : decode cX2_takeUpTo 34 = .ok (.goto (-32), 3) := by decide +kernel
theorem dX2_takeUpTo_37 : decode cX2_takeUpTo 37 = .ok (.iload_n 2, 1) := by decide +kernel
theorem dX2_takeUpTo_38 : decode cX2_takeUpTo 38 = .ok (.ireturn, 1) := by decide +kernel
theorem dX2_takeOrderOff_0 : decode cX2_takeOrderOff 0 = .ok (.aload_n 0, 1) := by decide +kernel
theorem dX2_takeOrderOff_1 : decode cX2_takeOrderOff 1 = .ok (.sipush 1000, 3) := by decide +kernel
theorem dX2_takeOrderOff_4 : decode cX2_takeOrderOff 4 = .ok (.putfield 47, 3) := by decide +kernel
theorem dX2_takeOrderOff_7 : decode cX2_takeOrderOff 7 = .ok (.iconst 0, 1) := by decide +kernel
theorem dX2_takeOrderOff_8 : decode cX2_takeOrderOff 8 = .ok (.istore_n 1, 1) := by decide +kernel
theorem dX2_takeOrderOff_9 : decode cX2_takeOrderOff 9 = .ok (.iload_n 1, 1) := by decide +kernel
theorem dX2_takeOrderOff_10 : decode cX2_takeOrderOff 10 = .ok (.aload_n 0, 1) := by decide +kernel
theorem dX2_takeOrderOff_11 : decode cX2_takeOrderOff 11 = .ok (.getfield 20, 3) := by decide +kernel
theorem dX2_takeOrderOff_14 : decode cX2_takeOrderOff 14 = .ok (.if_icmp .ge 33, 3) := by decide +kernel
theorem dX2_takeOrderOff_17 : decode cX2_takeOrderOff 17 = .ok (.aload_n 0, 1) := by decide +kernel
theorem dX2_takeOrderOff_18 : decode cX2_takeOrderOff 18 = .ok (.aload_n 0, 1) := by decide +kernel
theorem dX2_takeOrderOff_19 : decode cX2_takeOrderOff 19 = .ok (.getfield 47, 3) := by decide +kernel
theorem dX2_takeOrderOff_22 : decode cX2_takeOrderOff 22 = .ok (.aload_n 0, 1) := by decide +kernel
theorem dX2_takeOrderOff_23 : decode cX2_takeOrderOff 23 = .ok (.getfield 17, 3) := by decide +kernel
theorem dX2_takeOrderOff_26 : decode cX2_takeOrderOff 26 = .ok (.iload_n 1, 1) := by decide +kernel
theorem dX2_takeOrderOff_27 : decode cX2_takeOrderOff 27 = .ok (.aaload, 1) := by decide +kernel
theorem dX2_takeOrderOff_28 : decode cX2_takeOrderOff 28 = .ok (.aload_n 0, 1) := by decide +kernel
theorem dX2_takeOrderOff_29 : decode cX2_takeOrderOff 29 = .ok (.getfield 9, 3) := by decide +kernel
theorem dX2_takeOrderOff_32 : decode cX2_takeOrderOff 32 = .ok (.iload_n 1, 1) := by decide +kernel
theorem dX2_takeOrderOff_33 : decode cX2_takeOrderOff 33 = .ok (.iaload, 1) := by decide +kernel
theorem dX2_takeOrderOff_34 : decode cX2_takeOrderOff 34 = .ok (.iaload, 1) := by decide +kernel
theorem dX2_takeOrderOff_35 : decode cX2_takeOrderOff 35 = .ok (.invokestatic 50, 3) := by decide +kernel
theorem dX2_takeOrderOff_38 : decode cX2_takeOrderOff 38 = .ok (.putfield 47, 3) := by decide +kernel
theorem dX2_takeOrderOff_41 : decode cX2_takeOrderOff 41 = .ok (.iinc 1 1, 3) := by decide +kernel
theorem dX2_takeOrderOff_44 : decode cX2_takeOrderOff 44 = .ok (.goto (-35), 3) := by decide +kernel
theorem dX2_takeOrderOff_47 : decode cX2_takeOrderOff 47 = .ok (.iconst 0, 1) := by decide +kernel
theorem dX2_takeOrderOff_48 : decode cX2_takeOrderOff 48 = .ok (.istore_n 1, 1) := by decide +kernel
theorem dX2_takeOrderOff_49 : decode cX2_takeOrderOff 49 = .ok (.iload_n 1, 1) := by decide +kernel
theorem dX2_takeOrderOff_50 : decode cX2_takeOrderOff 50 = .ok (.aload_n 0, 1) := by decide +kernel
theorem dX2_takeOrderOff_51 : decode cX2_takeOrderOff 51 = .ok (.getfield 20, 3) := by decide +kernel
theorem dX2_takeOrderOff_54 : decode cX2_takeOrderOff 54 = .ok (.if_icmp .ge 29, 3) := by decide +kernel
theorem dX2_takeOrderOff_57 : decode cX2_takeOrderOff 57 = .ok (.aload_n 0, 1) := by decide +kernel
theorem dX2_takeOrderOff_58 : decode cX2_takeOrderOff 58 = .ok (.getfield 17, 3) := by decide +kernel
theorem dX2_takeOrderOff_61 : decode cX2_takeOrderOff 61 = .ok (.iload_n 1, 1) := by decide +kernel
theorem dX2_takeOrderOff_62 : decode cX2_takeOrderOff 62 = .ok (.aaload, 1) := by decide +kernel
theorem dX2_takeOrderOff_63 : decode cX2_takeOrderOff 63 = .ok (.aload_n 0, 1) := by decide +kernel
theorem dX2_takeOrderOff_64 : decode cX2_takeOrderOff 64 = .ok (.getfield 9, 3) := by decide +kernel
theorem dX2_takeOrderOff_67 : decode cX2_takeOrderOff 67 = .ok (.iload_n 1, 1) := by decide +kernel
theorem dX2_takeOrderOff_68 : decode cX2_takeOrderOff 68 = .ok (.iaload, 1) := by decide +kernel
theorem dX2_takeOrderOff_69 : decode cX2_takeOrderOff 69 = .ok (.dup2, 1) := by decide +kernel
theorem dX2_takeOrderOff_70 : decode cX2_takeOrderOff 70 = .ok (.iaload, 1) := by decide +kernel
theorem dX2_takeOrderOff_71 : decode cX2_takeOrderOff 71 = .ok (.aload_n 0, 1) := by decide +kernel
theorem dX2_takeOrderOff_72 : decode cX2_takeOrderOff 72 = .ok (.getfield 47, 3) := by decide +kernel
theorem dX2_takeOrderOff_75 : decode cX2_takeOrderOff 75 = .ok (.isub, 1) := by decide +kernel
theorem dX2_takeOrderOff_76 : decode cX2_takeOrderOff 76 = .ok (.iastore, 1) := by decide +kernel
theorem dX2_takeOrderOff_77 : decode cX2_takeOrderOff 77 = .ok (.iinc 1 1, 3) := by decide +kernel
theorem dX2_takeOrderOff_80 : decode cX2_takeOrderOff 80 = .ok (.goto (-31), 3) := by decide +kernel
theorem dX2_takeOrderOff_83 : decode cX2_takeOrderOff 83 = .ok (.return_, 1) := by decide +kernel
set_option maxRecDepth 20000 in
theorem ggX2_findOrder_X2_findOrder : GoodIn wsX2_findOrder wsX2_findOrder := goodIn_r _ [0, 1, 2, 3] (by decide +kernel) (by decide +kernel)
set_option maxRecDepth 20000 in
theorem gX2_findOrder_X2_findOrder : GoodIn wsX2_findOrder (va_wsS RX2 40 yX2_findOrder wsX2_findOrder) := goodIn_app (goodIn_of _ (by decide +kernel)) ggX2_findOrder_X2_findOrder
theorem dX2_findOrder_0 : decode cX2_findOrder 0 = .ok (.iload_n 0, 1) := by decide +kernel
theorem dX2_findOrder_1 : decode cX2_findOrder 1 = .ok (.iload_n 2, 1) := by decide +kernel
theorem dX2_findOrder_2 : decode cX2_findOrder 2 = .ok (.if_icmp .lt 5, 3) := by decide +kernel
theorem dX2_findOrder_5 : decode cX2_findOrder 5 = .ok (.iconst 1, 1) := by decide +kernel
theorem dX2_findOrder_6 : decode cX2_findOrder 6 = .ok (.ireturn, 1) := by decide +kernel
theorem dX2_findOrder_7 : decode cX2_findOrder 7 = .ok (.iconst 0, 1) := by decide +kernel
theorem dX2_findOrder_8 : decode cX2_findOrder 8 = .ok (.istore 5, 2) := by decide +kernel
theorem dX2_findOrder_10 : decode cX2_findOrder 10 = .ok (.iload 5, 2) := by decide +kernel
theorem dX2_findOrder_12 : decode cX2_findOrder 12 = .ok (.iload_n 2, 1) := by decide +kernel
theorem dX2_findOrder_13 : decode cX2_findOrder 13 = .ok (.if_icmp .ge 67, 3) := by decide +kernel
theorem dX2_findOrder_16 : decode cX2_findOrder 16 = .ok (.iload_n 1, 1) := by decide +kernel
theorem dX2_findOrder_17 : decode cX2_findOrder 17 = .ok (.iload 5, 2) := by decide +kernel
theorem dX2_findOrder_19 : decode cX2_findOrder 19 = .ok (.ishr, 1) := by decide +kernel
theorem dX2_findOrder_20 : decode cX2_findOrder 20 = .ok (.iconst 1, 1) := by decide +kernel
theorem dX2_findOrder_21 : decode cX2_findOrder 21 = .ok (.iand, 1) := by decide +kernel
theorem dX2_findOrder_22 : decode cX2_findOrder 22 = .ok (.iconst 1, 1) := by decide +kernel
theorem dX2_findOrder_23 : decode cX2_findOrder 23 = .ok (.if_icmp .ne 7, 3) := by decide +kernel
theorem dX2_findOrder_26 : decode cX2_findOrder 26 = .ok (.iconst 1, 1) := by decide +kernel
theorem dX2_findOrder_27 : decode cX2_findOrder 27 = .ok (.goto 4, 3) := by decide +kernel
theorem dX2_findOrder_30 : decode cX2_findOrder 30 = .ok (.iconst 0, 1) := by decide +kernel
theorem dX2_findOrder_31 : decode cX2_findOrder 31 = .ok (.istore 6, 2) := by decide +kernel
theorem dX2_findOrder_33 : decode cX2_findOrder 33 = .ok (.iload 6, 2) := by decide +kernel
theorem dX2_findOrder_35 : decode cX2_findOrder 35 = .ok (.ifCond .ne 39, 3) := by decide +kernel
theorem dX2_findOrder_38 : decode cX2_findOrder 38 = .ok (.aload_n 3, 1) := by decide +kernel
theorem dX2_findOrder_39 : decode cX2_findOrder 39 = .ok (.iload_n 0, 1) := by decide +kernel
theorem dX2_findOrder_40 : decode cX2_findOrder 40 = .ok (.aaload, 1) := by decide +kernel
theorem dX2_findOrder_41 : decode cX2_findOrder 41 = .ok (.iload 5, 2) := by decide +kernel
theorem dX2_findOrder_43 : decode cX2_findOrder 43 = .ok (.iaload, 1) := by decide +kernel
theorem dX2_findOrder_44 : decode cX2_findOrder 44 = .ok (.ifCond .le 30, 3) := by decide +kernel
theorem dX2_findOrder_47 : decode cX2_findOrder 47 = .ok (.aload 4, 2) := by decide +kernel
theorem dX2_findOrder_49 : decode cX2_findOrder 49 = .ok (.iload_n 0, 1) := by decide +kernel
theorem dX2_findOrder_50 : decode cX2_findOrder 50 = .ok (.iload 5, 2) := by decide +kernel
theorem dX2_findOrder_52 : decode cX2_findOrder 52 = .ok (.iastore, 1) := by decide +kernel
theorem dX2_findOrder_53 : decode cX2_findOrder 53 = .ok (.iload_n 0, 1) := by decide +kernel
theorem dX2_findOrder_54 : decode cX2_findOrder 54 = .ok (.iconst 1, 1) := by decide +kernel
theorem dX2_findOrder_55 : decode cX2_findOrder 55 = .ok (.iadd, 1) := by decide +kernel
theorem dX2_findOrder_56 : decode cX2_findOrder 56 = .ok (.iload_n 1, 1) := by decide +kernel
theorem dX2_findOrder_57 : decode cX2_findOrder 57 = .ok (.iconst 1, 1) := by decide +kernel
theorem dX2_findOrder_58 : decode cX2_findOrder 58 = .ok (.iload 5, 2) := by decide +kernel
theorem dX2_findOrder_60 : decode cX2_findOrder 60 = .ok (.ishl, 1) := by decide +kernel
theorem dX2_findOrder_61 : decode cX2_findOrder 61 = .ok (.ior, 1) := by decide +kernel
theorem dX2_findOrder_62 : decode cX2_findOrder 62 = .ok (.iload_n 2, 1) := by decide +kernel
theorem dX2_findOrder_63 : decode cX2_findOrder 63 = .ok (.aload_n 3, 1) := by decide +kernel
theorem dX2_findOrder_64 : decode cX2_findOrder 64 = .ok (.aload 4, 2) := by decide +kernel
theorem dX2_findOrder_66 : decode cX2_findOrder 66 = .ok (.invokestatic 40, 3) := by decide +kernel
theorem dX2_findOrder_69 : decode cX2_findOrder 69 = .ok (.ifCond .eq 5, 3) := by decide +kernel
theorem dX2_findOrder_72 : decode cX2_findOrder 72 = .ok (.iconst 1, 1) := by decide +kernel
theorem dX2_findOrder_73 : decode cX2_findOrder 73 = .ok (.ireturn, 1) := by decide +kernel
theorem dX2_findOrder_74 : decode cX2_findOrder 74 = .ok (.iinc 5 1, 3) := by decide +kernel
theorem dX2_findOrder_77 : decode cX2_findOrder 77 = .ok (.goto (-67), 3) := by decide +kernel
theorem dX2_findOrder_80 : decode cX2_findOrder 80 = .ok (.iconst 0, 1) := by decide +kernel
theorem dX2_findOrder_81 : decode cX2_findOrder 81 = .ok (.ireturn, 1) := by decide +kernel
theorem dX2_sumOfRow_0 : decode cX2_sumOfRow 0 = .ok (.iconst 0, 1) := by decide +kernel
theorem dX2_sumOfRow_1 : decode cX2_sumOfRow 1 = .ok (.istore_n 2, 1) := by decide +kernel
theorem dX2_sumOfRow_2 : decode cX2_sumOfRow 2 = .ok (.iconst 0, 1) := by decide +kernel
theorem dX2_sumOfRow_3 : decode cX2_sumOfRow 3 = .ok (.istore_n 3, 1) := by decide +kernel
theorem dX2_sumOfRow_4 : decode cX2_sumOfRow 4 = .ok (.iload_n 3, 1) := by decide +kernel
theorem dX2_sumOfRow_5 : decode cX2_sumOfRow 5 = .ok (.aload_n 0, 1) := by decide +kernel
theorem dX2_sumOfRow_6 : decode cX2_sumOfRow 6 = .ok (.getfield 20, 3) := by decide +kernel
theorem dX2_sumOfRow_9 : decode cX2_sumOfRow 9 = .ok (.if_icmp .ge 20, 3) := by decide +kernel
theorem dX2_sumOfRow_12 : decode cX2_sumOfRow 12 = .ok (.iload_n 2, 1) := by decide +kernel
theorem dX2_sumOfRow_13 : decode cX2_sumOfRow 13 = .ok (.aload_n 0, 1) := by decide +kernel
theorem dX2_sumOfRow_14 : decode cX2_sumOfRow 14 = .ok (.getfield 17, 3) := by decide +kernel
theorem dX2_sumOfRow_17 : decode cX2_sumOfRow 17 = .ok (.iload_n 1, 1) := by decide +kernel
theorem dX2_sumOfRow_18 : decode cX2_sumOfRow 18 = .ok (.aaload, 1) := by decide +kernel
theorem dX2_sumOfRow_19 : decode cX2_sumOfRow 19 = .ok (.iload_n 3, 1) := by decide +kernel
theorem dX2_sumOfRow_20 : decode cX2_sumOfRow 20 = .ok (.iaload, 1) := by decide +kernel
theorem dX2_sumOfRow_21 : decode cX2_sumOfRow 21 = .ok (.iadd, 1) := by decide +kernel
theorem dX2_sumOfRow_22 : decode cX2_sumOfRow 22 = .ok (.istore_n 2, 1) := by decide +kernel
theorem dX2_sumOfRow_23 : decode cX2_sumOfRow 23 = .ok (.iinc 3 1, 3) := by decide +kernel
theorem dX2_sumOfRow_26 : decode cX2_sumOfRow 26 = .ok (.goto (-22), 3) := by decide +kernel
theorem dX2_sumOfRow_29 : decode cX2_sumOfRow 29 = .ok (.iload_n 2, 1) := by decide +kernel
theorem dX2_sumOfRow_30 : decode cX2_sumOfRow 30 = .ok (.ireturn, 1) := by decide +kernel
theorem dX2_sumOfColumn_0 : decode cX2_sumOfColumn 0 = .ok (.iconst 0, 1) := by decide +kernel
theorem dX2_sumOfColumn_1 : decode cX2_sumOfColumn 1 = .ok (.istore_n 2, 1) := by decide +kernel
theorem dX2_sumOfColumn_2 : decode cX2_sumOfColumn 2 = .ok (.iconst 0, 1) := by decide +kernel
theorem dX2_sumOfColumn_3 : decode cX2_sumOfColumn 3 = .ok (.istore_n 3, 1) := by decide +kernel
theorem dX2_sumOfColumn_4 : decode cX2_sumOfColumn 4 = .ok (.iload_n 3, 1) := by decide +kernel
theorem dX2_sumOfColumn_5 : decode cX2_sumOfColumn 5 = .ok (.aload_n 0, 1) := by decide +kernel
theorem dX2_sumOfColumn_6 : decode cX2_sumOfColumn 6 = .ok (.getfield 20, 3) := by decide +kernel
theorem dX2_sumOfColumn_9 : decode cX2_sumOfColumn 9 = .ok (.if_icmp .ge 20, 3) := by decide +kernel
theorem dX2_sumOfColumn_12 : decode cX2_sumOfColumn 12 = .ok (.iload_n 2, 1) := by decide +kernel
theorem dX2_sumOfColumn_13 : decode cX2_sumOfColumn 13 = .ok (.aload_n 0, 1) := by decide +kernel
theorem dX2_sumOfColumn_14 : decode cX2_sumOfColumn 14 = .ok (.getfield 17, 3) := by decide +kernel
theorem dX2_sumOfColumn_17 : decode cX2_sumOfColumn 17 = .ok (.iload_n 3, 1) := by decide +kernel
theorem dX2_sumOfColumn_18 : decode cX2_sumOfColumn 18 = .ok (.aaload, 1) := by decide +kernel
theorem dX2_sumOfColumn_19 : decode cX2_sumOfColumn 19 = .ok (.iload_n 1, 1) := by decide +kernel
theorem dX2_sumOfColumn_20 : decode cX2_sumOfColumn 20 = .ok (.iaload, 1) := by decide +kernel
theorem dX2_sumOfColumn_21 : decode cX2_sumOfColumn 21 = .ok (.iadd, 1) := by decide +kernel
theorem dX2_sumOfColumn_22 : decode cX2_sumOfColumn 22 = .ok (.istore_n 2, 1) := by decide +kernel
theorem dX2_sumOfColumn_23 : decode cX2_sumOfColumn 23 = .ok (.iinc 3 1, 3) := by decide +kernel
theorem dX2_sumOfColumn_26 : decode cX2_sumOfColumn 26 = .ok (.goto (-22), 3) := by decide +kernel
theorem dX2_sumOfColumn_29 : decode cX2_sumOfColumn 29 = .ok (.iload_n 2, 1) := by decide +kernel
theorem dX2_sumOfColumn_30 : decode cX2_sumOfColumn 30 = .ok (.ireturn, 1) := by decide +kernel
theorem dX3_init_0 : decode cX3_init 0 = .ok (.aload_n 0, 1) := by decide +kernel
theorem dX3_init_1 : decode cX3_init 1 = .ok (.invokespecial 3, 3) := by decide +kernel
theorem dX3_init_4 : decode cX3_init 4 = .ok (.aload_n 0, 1) := by decide +kernel
theorem dX3_init_5 : decode cX3_init 5 = .ok (.bipush 7, 2) := by decide +kernel
theorem dX3_init_7 : decode cX3_init 7 = .ok (.bipush 8, 2) := by decide +kernel
theorem dX3_init_9 : decode cX3_init 9 = .ok (.multianewarray 9 2, 4) := by decide +kernel
theorem dX3_init_13 : decode cX3_init 13 = .ok (.putfield 11, 3) := by decide +kernel
theorem dX3_init_16 : decode cX3_init 16 = .ok (.aload_n 0, 1) := by decide +kernel
theorem dX3_init_17 : decode cX3_init 17 = .ok (.iconst 4, 1) := by decide +kernel
theorem dX3_init_18 : decode cX3_init 18 = .ok (.bipush 16, 2) := by decide +kernel
theorem dX3_init_20 : decode cX3_init 20 = .ok (.multianewarray 9 2, 4) := by decide +kernel
theorem dX3_init_24 : decode cX3_init 24 = .ok (.putfield 16, 3) := by decide +kernel
theorem dX3_init_27 : decode cX3_init 27 = .ok (.aload_n 0, 1) := by decide +kernel
theorem dX3_init_28 : decode cX3_init 28 = .ok (.bipush 16, 2) := by decide +kernel
theorem dX3_init_30 : decode cX3_init 30 = .ok (.newarray .int, 2) := by decide +kernel
theorem dX3_init_32 : decode cX3_init 32 = .ok (.putfield 19, 3) := by decide +kernel
theorem dX3_init_35 : decode cX3_init 35 = .ok (.aload_n 0, 1) := by decide +kernel
theorem dX3_init_36 : decode cX3_init 36 = .ok (.bipush 16, 2) := by decide +kernel
theorem dX3_init_38 : decode cX3_init 38 = .ok (.newarray .int, 2) := by decide +kernel
theorem dX3_init_40 : decode cX3_init 40 = .ok (.putfield 23, 3) := by decide +kernel
theorem dX3_init_43 : decode cX3_init 43 = .ok (.return_, 1) := by decide +kernel
set_option maxRecDepth 20000 in
theorem ggX3_takeOrder_X5_within : GoodIn wsX3_takeOrder wsX5_within := goodIn_r _ [5] (by decide +kernel) (by decide +kernel)
set_option maxRecDepth 20000 in
theorem gX3_takeOrder_X5_within_n31 : GoodIn wsX3_takeOrder (wsX5_within) := ggX3_takeOrder_X5_within
theorem dX3_takeOrder_0 : decode cX3_takeOrder 0 = .ok (.iconst 1, 1) := by decide +kernel
theorem dX3_takeOrder_1 : decode cX3_takeOrder 1 = .ok (.iload_n 3, 1) := by decide +kernel
theorem dX3_takeOrder_2 : decode cX3_takeOrder 2 = .ok (.ishl, 1) := by decide +kernel
theorem dX3_takeOrder_3 : decode cX3_takeOrder 3 = .ok (.istore 4, 2) := by decide +kernel
theorem dX3_takeOrder_5 : decode cX3_takeOrder 5 = .ok (.iconst 0, 1) := by decide +kernel
theorem dX3_takeOrder_6 : decode cX3_takeOrder 6 = .ok (.istore 5, 2) := by decide +kernel
theorem dX3_takeOrder_8 : decode cX3_takeOrder 8 = .ok (.iconst 0, 1) := by decide +kernel
theorem dX3_takeOrder_9 : decode cX3_takeOrder 9 = .ok (.istore 6, 2) := by decide +kernel
theorem dX3_takeOrder_11 : decode cX3_takeOrder 11 = .ok (.iload 6, 2) := by decide +kernel
theorem dX3_takeOrder_13 : decode cX3_takeOrder 13 = .ok (.iload 4, 2) := by decide +kernel
theorem dX3_takeOrder_15 : decode cX3_takeOrder 15 = .ok (.if_icmp .ge 66, 3) := by decide +kernel
theorem dX3_takeOrder_18 : decode cX3_takeOrder 18 = .ok (.aload_n 1, 1) := by decide +kernel
theorem dX3_takeOrder_19 : decode cX3_takeOrder 19 = .ok (.getfield 26, 3) := by decide +kernel
theorem dX3_takeOrder_22 : decode cX3_takeOrder 22 = .ok (.iload_n 2, 1) := by decide +kernel
theorem dX3_takeOrder_23 : decode cX3_takeOrder 23 = .ok (.iload 6, 2) := by decide +kernel
theorem dX3_takeOrder_25 : decode cX3_takeOrder 25 = .ok (.iadd, 1) := by decide +kernel
theorem dX3_takeOrder_26 : decode cX3_takeOrder 26 = .ok (.iaload, 1) := by decide +kernel
theorem dX3_takeOrder_27 : decode cX3_takeOrder 27 = .ok (.istore 7, 2) := by decide +kernel
theorem dX3_takeOrder_29 : decode cX3_takeOrder 29 = .ok (.iload 7, 2) := by decide +kernel
theorem dX3_takeOrder_31 : decode cX3_takeOrder 31 = .ok (.iconst 0, 1) := by decide +kernel
theorem dX3_takeOrder_32 : decode cX3_takeOrder 32 = .ok (.iload 4, 2) := by decide +kernel
theorem dX3_takeOrder_34 : decode cX3_takeOrder 34 = .ok (.iconst 1, 1) := by decide +kernel
theorem dX3_takeOrder_35 : decode cX3_takeOrder 35 = .ok (.isub, 1) := by decide +kernel
theorem dX3_takeOrder_36 : decode cX3_takeOrder 36 = .ok (.invokestatic 31, 3) := by decide +kernel
theorem dX3_takeOrder_39 : decode cX3_takeOrder 39 = .ok (.ifCond .eq 14, 3) := by decide +kernel
theorem dX3_takeOrder_42 : decode cX3_takeOrder 42 = .ok (.iload 5, 2) := by decide +kernel
theorem dX3_takeOrder_44 : decode cX3_takeOrder 44 = .ok (.iload 7, 2) := by decide +kernel
theorem dX3_takeOrder_46 : decode cX3_takeOrder 46 = .ok (.ishr, 1) := by decide +kernel
theorem dX3_takeOrder_47 : decode cX3_takeOrder 47 = .ok (.iconst 1, 1) := by decide +kernel
theorem dX3_takeOrder_48 : decode cX3_takeOrder 48 = .ok (.iand, 1) := by decide +kernel
theorem dX3_takeOrder_49 : decode cX3_takeOrder 49 = .ok (.iconst 1, 1) := by decide +kernel
theorem dX3_takeOrder_50 : decode cX3_takeOrder 50 = .ok (.if_icmp .ne 5, 3) := by decide +kernel
theorem dX3_takeOrder_53 : decode cX3_takeOrder 53 = .ok (.iconst 0, 1) := by decide +kernel
theorem dX3_takeOrder_54 : decode cX3_takeOrder 54 = .ok (.ireturn, 1) := by decide +kernel
theorem dX3_takeOrder_55 : decode cX3_takeOrder 55 = .ok (.iload 5, 2) := by decide +kernel
theorem dX3_takeOrder_57 : decode cX3_takeOrder 57 = .ok (.iconst 1, 1) := by decide +kernel
theorem dX3_takeOrder_58 : decode cX3_takeOrder 58 = .ok (.iload 7, 2) := by decide +kernel
theorem dX3_takeOrder_60 : decode cX3_takeOrder 60 = .ok (.ishl, 1) := by decide +kernel
theorem dX3_takeOrder_61 : decode cX3_takeOrder 61 = .ok (.ior, 1) := by decide +kernel
theorem dX3_takeOrder_62 : decode cX3_takeOrder 62 = .ok (.istore 5, 2) := by decide +kernel
theorem dX3_takeOrder_64 : decode cX3_takeOrder 64 = .ok (.aload_n 0, 1) := by decide +kernel
theorem dX3_takeOrder_65 : decode cX3_takeOrder 65 = .ok (.getfield 16, 3) := by decide +kernel
theorem dX3_takeOrder_68 : decode cX3_takeOrder 68 = .ok (.iconst 0, 1) := by decide +kernel
theorem dX3_takeOrder_69 : decode cX3_takeOrder 69 = .ok (.aaload, 1) := by decide +kernel
theorem dX3_takeOrder_70 : decode cX3_takeOrder 70 = .ok (.iload 6, 2) := by decide +kernel
theorem dX3_takeOrder_72 : decode cX3_takeOrder 72 = .ok (.iload 7, 2) := by decide +kernel
theorem dX3_takeOrder_74 : decode cX3_takeOrder 74 = .ok (.iastore, 1) := by decide +kernel
theorem dX3_takeOrder_75 : decode cX3_takeOrder 75 = .ok (.iinc 6 1, 3) := by decide +kernel
theorem dX3_takeOrder_78 : decode cX3_takeOrder 78 = .ok (.goto (-67), 3) := by decide +kernel
theorem dX3_takeOrder_81 : decode cX3_takeOrder 81 = .ok (.iconst 1, 1) := by decide +kernel
theorem dX3_takeOrder_82 : decode cX3_takeOrder 82 = .ok (.ireturn, 1) := by decide +kernel
set_option maxRecDepth 20000 in
theorem ggX3_setAllSwitches_X3_goRound : GoodIn wsX3_setAllSwitches wsX3_goRound := goodIn_r _ [7, 2, 8, 9, 10, 11, 6, 12, 21, 22, 23, 24] (by decide +kernel) (by decide +kernel)
set_option maxRecDepth 20000 in
theorem gX3_setAllSwitches_X3_goRound : GoodIn wsX3_setAllSwitches (wsV RX3 35 RX3 yX3_goRound wsX3_goRound) := goodIn_app (goodIn_of _ (by decide +kernel)) ggX3_setAllSwitches_X3_goRound
set_option maxRecDepth 20000 in
theorem ggX3_setAllSwitches_X3_setOuterStages : GoodIn wsX3_setAllSwitches wsX3_setOuterStages := goodIn_r _ [16, 1, 9, 8, 21, 22, 23, 24] (by decide +kernel) (by decide +kernel)
set_option maxRecDepth 20000 in
theorem gX3_setAllSwitches_X3_setOuterStages : GoodIn wsX3_setAllSwitches (wsV RX3 39 RX3 yX3_setOuterStages wsX3_setOuterStages) := goodIn_app (goodIn_of _ (by decide +kernel)) ggX3_setAllSwitches_X3_setOuterStages
set_option maxRecDepth 20000 in
theorem ggX3_setAllSwitches_X3_handToHalves : GoodIn wsX3_setAllSwitches wsX3_handToHalves := goodIn_r _ [20, 9, 2, 21, 22, 23, 24] (by decide +kernel) (by decide +kernel)
set_option maxRecDepth 20000 in
theorem gX3_setAllSwitches_X3_handToHalves : GoodIn wsX3_setAllSwitches (wsV RX3 43 RX3 yX3_handToHalves wsX3_handToHalves) := goodIn_app (goodIn_of _ (by decide +kernel)) ggX3_setAllSwitches_X3_handToHalves
theorem dX3_setAllSwitches_0 : decode cX3_setAllSwitches 0 = .ok (.iconst 1, 1) := by decide +kernel
theorem dX3_setAllSwitches_1 : decode cX3_setAllSwitches 1 = .ok (.iload_n 1, 1) := by decide +kernel
theorem dX3_setAllSwitches_2 : decode cX3_setAllSwitches 2 = .ok (.ishl, 1) := by decide +kernel
theorem dX3_setAllSwitches_3 : decode cX3_setAllSwitches 3 = .ok (.istore_n 2, 1) := by decide +kernel
theorem dX3_setAllSwitches_4 : decode cX3_setAllSwitches 4 = .ok (.iconst 0, 1) := by decide +kernel
theorem dX3_setAllSwitches_5 : decode cX3_setAllSwitches 5 = .ok (.istore_n 3, 1) := by decide +kernel
theorem dX3_setAllSwitches_6 : decode cX3_setAllSwitches 6 = .ok (.iload_n 3, 1) := by decide +kernel
theorem dX3_setAllSwitches_7 : decode cX3_setAllSwitches 7 = .ok (.iload_n 1, 1) := by decide +kernel
theorem dX3_setAllSwitches_8 : decode cX3_setAllSwitches 8 = .ok (.iconst 1, 1) := by decide +kernel
theorem dX3_setAllSwitches_9 : decode cX3_setAllSwitches 9 = .ok (.isub, 1) := by decide +kernel
theorem dX3_setAllSwitches_10 : decode cX3_setAllSwitches 10 = .ok (.if_icmp .ge 65, 3) := by decide +kernel
theorem dX3_setAllSwitches_13 : decode cX3_setAllSwitches 13 = .ok (.iload_n 2, 1) := by decide +kernel
theorem dX3_setAllSwitches_14 : decode cX3_setAllSwitches 14 = .ok (.iload_n 3, 1) := by decide +kernel
theorem dX3_setAllSwitches_15 : decode cX3_setAllSwitches 15 = .ok (.ishr, 1) := by decide +kernel
theorem dX3_setAllSwitches_16 : decode cX3_setAllSwitches 16 = .ok (.istore 4, 2) := by decide +kernel
theorem dX3_setAllSwitches_18 : decode cX3_setAllSwitches 18 = .ok (.iconst 0, 1) := by decide +kernel
theorem dX3_setAllSwitches_19 : decode cX3_setAllSwitches 19 = .ok (.istore 5, 2) := by decide +kernel
theorem dX3_setAllSwitches_21 : decode cX3_setAllSwitches 21 = .ok (.iload 5, 2) := by decide +kernel
theorem dX3_setAllSwitches_23 : decode cX3_setAllSwitches 23 = .ok (.iload_n 2, 1) := by decide +kernel
theorem dX3_setAllSwitches_24 : decode cX3_setAllSwitches 24 = .ok (.if_icmp .ge 45, 3) := by decide +kernel
theorem dX3_setAllSwitches_27 : decode cX3_setAllSwitches 27 = .ok (.aload_n 0, 1) := by decide +kernel
theorem dX3_setAllSwitches_28 : decode cX3_setAllSwitches 28 = .ok (.iload_n 3, 1) := by decide +kernel
theorem dX3_setAllSwitches_29 : decode cX3_setAllSwitches 29 = .ok (.iload 5, 2) := by decide +kernel
theorem dX3_setAllSwitches_31 : decode cX3_setAllSwitches 31 = .ok (.iload 4, 2) := by decide +kernel
theorem dX3_setAllSwitches_33 : decode cX3_setAllSwitches 33 = .ok (.invokevirtual 35, 3) := by decide +kernel
theorem dX3_setAllSwitches_36 : decode cX3_setAllSwitches 36 = .ok (.aload_n 0, 1) := by decide +kernel
theorem dX3_setAllSwitches_37 : decode cX3_setAllSwitches 37 = .ok (.iconst 2, 1) := by decide +kernel
theorem dX3_setAllSwitches_38 : decode cX3_setAllSwitches 38 = .ok (.iload_n 1, 1) := by decide +kernel
theorem dX3_setAllSwitches_39 : decode cX3_setAllSwitches 39 = .ok (.imul, 1) := by decide +kernel
theorem dX3_setAllSwitches_40 : decode cX3_setAllSwitches 40 = .ok (.iconst 2, 1) := by decide +kernel
theorem dX3_setAllSwitches_41 : decode cX3_setAllSwitches 41 = .ok (.isub, 1) := by decide +kernel
theorem dX3_setAllSwitches_42 : decode cX3_setAllSwitches 42 = .ok (.iload_n 3, 1) := by decide +kernel
theorem dX3_setAllSwitches_43 : decode cX3_setAllSwitches 43 = .ok (.iload 5, 2) := by decide +kernel
theorem dX3_setAllSwitches_45 : decode cX3_setAllSwitches 45 = .ok (.iload 4, 2) := by decide +kernel
theorem dX3_setAllSwitches_47 : decode cX3_setAllSwitches 47 = .ok (.invokevirtual 39, 3) := by decide +kernel
theorem dX3_setAllSwitches_50 : decode cX3_setAllSwitches 50 = .ok (.aload_n 0, 1) := by decide +kernel
theorem dX3_setAllSwitches_51 : decode cX3_setAllSwitches 51 = .ok (.iload_n 3, 1) := by decide +kernel
theorem dX3_setAllSwitches_52 : decode cX3_setAllSwitches 52 = .ok (.iload 5, 2) := by decide +kernel
theorem dX3_setAllSwitches_54 : decode cX3_setAllSwitches 54 = .ok (.iload 4, 2) := by decide +kernel
theorem dX3_setAllSwitches_56 : decode cX3_setAllSwitches 56 = .ok (.invokevirtual 43, 3) := by decide +kernel
theorem dX3_setAllSwitches_59 : decode cX3_setAllSwitches 59 = .ok (.iload 5, 2) := by decide +kernel
theorem dX3_setAllSwitches_61 : decode cX3_setAllSwitches 61 = .ok (.iload 4, 2) := by decide +kernel
theorem dX3_setAllSwitches_63 : decode cX3_setAllSwitches 63 = .ok (.iadd, 1) := by decide +kernel
theorem dX3_setAllSwitches_64 : decode cX3_setAllSwitches 64 = .ok (.istore 5, 2) := by decide +kernel
theorem dX3_setAllSwitches_66 : decode cX3_setAllSwitches 66 = .ok (.goto (-45), 3) := by decide +kernel
theorem dX3_setAllSwitches_69 : decode cX3_setAllSwitches 69 = .ok (.iinc 3 1, 3) := by decide +kernel
theorem dX3_setAllSwitches_72 : decode cX3_setAllSwitches 72 = .ok (.goto (-66), 3) := by decide +kernel
theorem dX3_setAllSwitches_75 : decode cX3_setAllSwitches 75 = .ok (.iconst 0, 1) := by decide +kernel
theorem dX3_setAllSwitches_76 : decode cX3_setAllSwitches 76 = .ok (.istore_n 3, 1) := by decide +kernel
theorem dX3_setAllSwitches_77 : decode cX3_setAllSwitches 77 = .ok (.iload_n 3, 1) := by decide +kernel
theorem dX3_setAllSwitches_78 : decode cX3_setAllSwitches 78 = .ok (.iload_n 2, 1) := by decide +kernel
theorem dX3_setAllSwitches_79 : decode cX3_setAllSwitches 79 = .ok (.iconst 2, 1) := by decide +kernel
theorem dX3_setAllSwitches_80 : decode cX3_setAllSwitches 80 = .ok (.idiv, 1) := by decide +kernel
theorem dX3_setAllSwitches_81 : decode cX3_setAllSwitches 81 = .ok (.if_icmp .ge 31, 3) := by decide +kernel
theorem dX3_setAllSwitches_84 : decode cX3_setAllSwitches 84 = .ok (.aload_n 0, 1) := by decide +kernel
theorem dX3_setAllSwitches_85 : decode cX3_setAllSwitches 85 = .ok (.getfield 11, 3) := by decide +kernel
theorem dX3_setAllSwitches_88 : decode cX3_setAllSwitches 88 = .ok (.iload_n 1, 1) := by decide +kernel
theorem dX3_setAllSwitches_89 : decode cX3_setAllSwitches 89 = .ok (.iconst 1, 1) := by decide +kernel
theorem dX3_setAllSwitches_90 : decode cX3_setAllSwitches 90 = .ok (.isub, 1) := by decide +kernel
theorem dX3_setAllSwitches_91 : decode cX3_setAllSwitches 91 = .ok (.aaload, 1) := by decide +kernel
theorem dX3_setAllSwitches_92 : decode cX3_setAllSwitches 92 = .ok (.iload_n 3, 1) := by decide +kernel
theorem dX3_setAllSwitches_93 : decode cX3_setAllSwitches 93 = .ok (.aload_n 0, 1) := by decide +kernel
theorem dX3_setAllSwitches_94 : decode cX3_setAllSwitches 94 = .ok (.getfield 16, 3) := by decide +kernel
theorem dX3_setAllSwitches_97 : decode cX3_setAllSwitches 97 = .ok (.iload_n 1, 1) := by decide +kernel
theorem dX3_setAllSwitches_98 : decode cX3_setAllSwitches 98 = .ok (.iconst 1, 1) := by decide +kernel
theorem dX3_setAllSwitches_99 : decode cX3_setAllSwitches 99 = .ok (.isub, 1) := by decide +kernel
theorem dX3_setAllSwitches_100 : decode cX3_setAllSwitches 100 = .ok (.aaload, 1) := by decide +kernel
theorem dX3_setAllSwitches_101 : decode cX3_setAllSwitches 101 = .ok (.iconst 2, 1) := by decide +kernel
theorem dX3_setAllSwitches_102 : decode cX3_setAllSwitches 102 = .ok (.iload_n 3, 1) := by decide +kernel
theorem dX3_setAllSwitches_103 : decode cX3_setAllSwitches 103 = .ok (.imul, 1) := by decide +kernel
theorem dX3_setAllSwitches_104 : decode cX3_setAllSwitches 104 = .ok (.iaload, 1) := by decide +kernel
theorem dX3_setAllSwitches_105 : decode cX3_setAllSwitches 105 = .ok (.iastore, 1) := by decide +kernel
theorem dX3_setAllSwitches_106 : decode cX3_setAllSwitches 106 = .ok (.iinc 3 1, 3) := by decide +kernel
theorem dX3_setAllSwitches_109 : decode cX3_setAllSwitches 109 = .ok (.goto (-32), 3) := by decide +kernel
theorem dX3_setAllSwitches_112 : decode cX3_setAllSwitches 112 = .ok (.return_, 1) := by decide +kernel
theorem dX3_takeBits_0 : decode cX3_takeBits 0 = .ok (.iconst 1, 1) := by decide +kernel
theorem dX3_takeBits_1 : decode cX3_takeBits 1 = .ok (.iload_n 3, 1) := by decide +kernel
theorem dX3_takeBits_2 : decode cX3_takeBits 2 = .ok (.iconst 1, 1) := by decide +kernel
theorem dX3_takeBits_3 : decode cX3_takeBits 3 = .ok (.isub, 1) := by decide +kernel
theorem dX3_takeBits_4 : decode cX3_takeBits 4 = .ok (.ishl, 1) := by decide +kernel
theorem dX3_takeBits_5 : decode cX3_takeBits 5 = .ok (.istore 4, 2) := by decide +kernel
theorem dX3_takeBits_7 : decode cX3_takeBits 7 = .ok (.iconst 0, 1) := by decide +kernel
theorem dX3_takeBits_8 : decode cX3_takeBits 8 = .ok (.istore 5, 2) := by decide +kernel
theorem dX3_takeBits_10 : decode cX3_takeBits 10 = .ok (.iload 5, 2) := by decide +kernel
theorem dX3_takeBits_12 : decode cX3_takeBits 12 = .ok (.iconst 2, 1) := by decide +kernel
theorem dX3_takeBits_13 : decode cX3_takeBits 13 = .ok (.iload_n 3, 1) := by decide +kernel
theorem dX3_takeBits_14 : decode cX3_takeBits 14 = .ok (.imul, 1) := by decide +kernel
theorem dX3_takeBits_15 : decode cX3_takeBits 15 = .ok (.iconst 1, 1) := by decide +kernel
theorem dX3_takeBits_16 : decode cX3_takeBits 16 = .ok (.isub, 1) := by decide +kernel
theorem dX3_takeBits_17 : decode cX3_takeBits 17 = .ok (.if_icmp .ge 58, 3) := by decide +kernel
theorem dX3_takeBits_20 : decode cX3_takeBits 20 = .ok (.iconst 0, 1) := by decide +kernel
theorem dX3_takeBits_21 : decode cX3_takeBits 21 = .ok (.istore 6, 2) := by decide +kernel
theorem dX3_takeBits_23 : decode cX3_takeBits 23 = .ok (.iload 6, 2) := by decide +kernel
theorem dX3_takeBits_25 : decode cX3_takeBits 25 = .ok (.iload 4, 2) := by decide +kernel
theorem dX3_takeBits_27 : decode cX3_takeBits 27 = .ok (.if_icmp .ge 42, 3) := by decide +kernel
theorem dX3_takeBits_30 : decode cX3_takeBits 30 = .ok (.aload_n 0, 1) := by decide +kernel
theorem dX3_takeBits_31 : decode cX3_takeBits 31 = .ok (.getfield 11, 3) := by decide +kernel
theorem dX3_takeBits_34 : decode cX3_takeBits 34 = .ok (.iload 5, 2) := by decide +kernel
theorem dX3_takeBits_36 : decode cX3_takeBits 36 = .ok (.aaload, 1) := by decide +kernel
theorem dX3_takeBits_37 : decode cX3_takeBits 37 = .ok (.iload 6, 2) := by decide +kernel
theorem dX3_takeBits_39 : decode cX3_takeBits 39 = .ok (.aload_n 1, 1) := by decide +kernel
theorem dX3_takeBits_40 : decode cX3_takeBits 40 = .ok (.getfield 26, 3) := by decide +kernel
theorem dX3_takeBits_43 : decode cX3_takeBits 43 = .ok (.iload_n 2, 1) := by decide +kernel
theorem dX3_takeBits_44 : decode cX3_takeBits 44 = .ok (.iload 5, 2) := by decide +kernel
theorem dX3_takeBits_46 : decode cX3_takeBits 46 = .ok (.iload 4, 2) := by decide +kernel
theorem dX3_takeBits_48 : decode cX3_takeBits 48 = .ok (.imul, 1) := by decide +kernel
theorem dX3_takeBits_49 : decode cX3_takeBits 49 = .ok (.iadd, 1) := by decide +kernel
theorem dX3_takeBits_50 : decode cX3_takeBits 50 = .ok (.iload 6, 2) := by decide +kernel
theorem dX3_takeBits_52 : decode cX3_takeBits 52 = .ok (.iadd, 1) := by decide +kernel
theorem dX3_takeBits_53 : decode cX3_takeBits 53 = .ok (.iaload, 1) := by decide +kernel
theorem dX3_takeBits_54 : decode cX3_takeBits 54 = .ok (.ifCond .ne 7, 3) := by decide +kernel
theorem dX3_takeBits_57 : decode cX3_takeBits 57 = .ok (.iconst 0, 1) := by decide +kernel
theorem dX3_takeBits_58 : decode cX3_takeBits 58 = .ok (.goto 4, 3) := by decide +kernel
theorem dX3_takeBits_61 : decode cX3_takeBits 61 = .ok (.iconst 1, 1) := by decide +kernel
theorem dX3_takeBits_62 : decode cX3_takeBits 62 = .ok (.iastore, 1) := by decide +kernel
theorem dX3_takeBits_63 : decode cX3_takeBits 63 = .ok (.iinc 6 1, 3) := by decide +kernel
theorem dX3_takeBits_66 : decode cX3_takeBits 66 = .ok (.goto (-43), 3) := by decide +kernel
theorem dX3_takeBits_69 : decode cX3_takeBits 69 = .ok (.iinc 5 1, 3) := by decide +kernel
theorem dX3_takeBits_72 : decode cX3_takeBits 72 = .ok (.goto (-62), 3) := by decide +kernel
theorem dX3_takeBits_75 : decode cX3_takeBits 75 = .ok (.return_, 1) := by decide +kernel
theorem dX3_follow_0 : decode cX3_follow 0 = .ok (.iconst 0, 1) := by decide +kernel
theorem dX3_follow_1 : decode cX3_follow 1 = .ok (.istore_n 3, 1) := by decide +kernel
theorem dX3_follow_2 : decode cX3_follow 2 = .ok (.iload_n 2, 1) := by decide +kernel
theorem dX3_follow_3 : decode cX3_follow 3 = .ok (.istore 4, 2) := by decide +kernel
theorem dX3_follow_5 : decode cX3_follow 5 = .ok (.iconst 0, 1) := by decide +kernel
theorem dX3_follow_6 : decode cX3_follow 6 = .ok (.istore 5, 2) := by decide +kernel
theorem dX3_follow_8 : decode cX3_follow 8 = .ok (.iload 5, 2) := by decide +kernel
theorem dX3_follow_10 : decode cX3_follow 10 = .ok (.iload_n 1, 1) := by decide +kernel
theorem dX3_follow_11 : decode cX3_follow 11 = .ok (.iconst 1, 1) := by decide +kernel
theorem dX3_follow_12 : decode cX3_follow 12 = .ok (.isub, 1) := by decide +kernel
theorem dX3_follow_13 : decode cX3_follow 13 = .ok (.if_icmp .ge 56, 3) := by decide +kernel
theorem dX3_follow_16 : decode cX3_follow 16 = .ok (.iconst 1, 1) := by decide +kernel
theorem dX3_follow_17 : decode cX3_follow 17 = .ok (.iload_n 1, 1) := by decide +kernel
theorem dX3_follow_18 : decode cX3_follow 18 = .ok (.iload 5, 2) := by decide +kernel
theorem dX3_follow_20 : decode cX3_follow 20 = .ok (.isub, 1) := by decide +kernel
theorem dX3_follow_21 : decode cX3_follow 21 = .ok (.ishl, 1) := by decide +kernel
theorem dX3_follow_22 : decode cX3_follow 22 = .ok (.istore 6, 2) := by decide +kernel
theorem dX3_follow_24 : decode cX3_follow 24 = .ok (.iload 4, 2) := by decide +kernel
theorem dX3_follow_26 : decode cX3_follow 26 = .ok (.iconst 2, 1) := by decide +kernel
theorem dX3_follow_27 : decode cX3_follow 27 = .ok (.irem, 1) := by decide +kernel
theorem dX3_follow_28 : decode cX3_follow 28 = .ok (.aload_n 0, 1) := by decide +kernel
theorem dX3_follow_29 : decode cX3_follow 29 = .ok (.getfield 11, 3) := by decide +kernel
theorem dX3_follow_32 : decode cX3_follow 32 = .ok (.iload 5, 2) := by decide +kernel
theorem dX3_follow_34 : decode cX3_follow 34 = .ok (.aaload, 1) := by decide +kernel
theorem dX3_follow_35 : decode cX3_follow 35 = .ok (.iload_n 3, 1) := by decide +kernel
theorem dX3_follow_36 : decode cX3_follow 36 = .ok (.iload 6, 2) := by decide +kernel
theorem dX3_follow_38 : decode cX3_follow 38 = .ok (.imul, 1) := by decide +kernel
theorem dX3_follow_39 : decode cX3_follow 39 = .ok (.iconst 2, 1) := by decide +kernel
theorem dX3_follow_40 : decode cX3_follow 40 = .ok (.idiv, 1) := by decide +kernel
theorem dX3_follow_41 : decode cX3_follow 41 = .ok (.iload 4, 2) := by decide +kernel
theorem dX3_follow_43 : decode cX3_follow 43 = .ok (.iconst 2, 1) := by decide +kernel
theorem dX3_follow_44 : decode cX3_follow 44 = .ok (.idiv, 1) := by decide +kernel
theorem dX3_follow_45 : decode cX3_follow 45 = .ok (.iadd, 1) := by decide +kernel
theorem dX3_follow_46 : decode cX3_follow 46 = .ok (.iaload, 1) := by decide +kernel
theorem dX3_follow_47 : decode cX3_follow 47 = .ok (.ixor, 1) := by decide +kernel
theorem dX3_follow_48 : decode cX3_follow 48 = .ok (.istore 7, 2) := by decide +kernel
theorem dX3_follow_50 : decode cX3_follow 50 = .ok (.iconst 2, 1) := by decide +kernel
theorem dX3_follow_51 : decode cX3_follow 51 = .ok (.iload_n 3, 1) := by decide +kernel
theorem dX3_follow_52 : decode cX3_follow 52 = .ok (.imul, 1) := by decide +kernel
theorem dX3_follow_53 : decode cX3_follow 53 = .ok (.iload 7, 2) := by decide +kernel
theorem dX3_follow_55 : decode cX3_follow 55 = .ok (.iadd, 1) := by decide +kernel
theorem dX3_follow_56 : decode cX3_follow 56 = .ok (.istore_n 3, 1) := by decide +kernel
theorem dX3_follow_57 : decode cX3_follow 57 = .ok (.iload 4, 2) := by decide +kernel
theorem dX3_follow_59 : decode cX3_follow 59 = .ok (.iconst 2, 1) := by decide +kernel
theorem dX3_follow_60 : decode cX3_follow 60 = .ok (.idiv, 1) := by decide +kernel
theorem dX3_follow_61 : decode cX3_follow 61 = .ok (.istore 4, 2) := by decide +kernel
theorem dX3_follow_63 : decode cX3_follow 63 = .ok (.iinc 5 1, 3) := by decide +kernel
theorem dX3_follow_66 : decode cX3_follow 66 = .ok (.goto (-58), 3) := by decide +kernel
theorem dX3_follow_69 : decode cX3_follow 69 = .ok (.iload 4, 2) := by decide +kernel
theorem dX3_follow_71 : decode cX3_follow 71 = .ok (.aload_n 0, 1) := by decide +kernel
theorem dX3_follow_72 : decode cX3_follow 72 = .ok (.getfield 11, 3) := by decide +kernel
theorem dX3_follow_75 : decode cX3_follow 75 = .ok (.iload_n 1, 1) := by decide +kernel
theorem dX3_follow_76 : decode cX3_follow 76 = .ok (.iconst 1, 1) := by decide +kernel
theorem dX3_follow_77 : decode cX3_follow 77 = .ok (.isub, 1) := by decide +kernel
theorem dX3_follow_78 : decode cX3_follow 78 = .ok (.aaload, 1) := by decide +kernel
theorem dX3_follow_79 : decode cX3_follow 79 = .ok (.iload_n 3, 1) := by decide +kernel
theorem dX3_follow_80 : decode cX3_follow 80 = .ok (.iaload, 1) := by decide +kernel
theorem dX3_follow_81 : decode cX3_follow 81 = .ok (.ixor, 1) := by decide +kernel
theorem dX3_follow_82 : decode cX3_follow 82 = .ok (.istore 4, 2) := by decide +kernel
theorem dX3_follow_84 : decode cX3_follow 84 = .ok (.iload_n 1, 1) := by decide +kernel
theorem dX3_follow_85 : decode cX3_follow 85 = .ok (.iconst 2, 1) := by decide +kernel
theorem dX3_follow_86 : decode cX3_follow 86 = .ok (.isub, 1) := by decide +kernel
theorem dX3_follow_87 : decode cX3_follow 87 = .ok (.istore 5, 2) := by decide +kernel
theorem dX3_follow_89 : decode cX3_follow 89 = .ok (.iload 5, 2) := by decide +kernel
theorem dX3_follow_91 : decode cX3_follow 91 = .ok (.ifCond .lt 59, 3) := by decide +kernel
