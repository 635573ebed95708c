theorem dX3_follow_94 : decode cX3_follow 94 = .ok (.iconst 1, 1) := by decide +kernel
theorem dX3_follow_95 : decode cX3_follow 95 = .ok (.iload_n 1, 1) := by decide +kernel
theorem dX3_follow_96 : decode cX3_follow 96 = .ok (.iload 5, 2) := by decide +kernel
theorem dX3_follow_98 : decode cX3_follow 98 = .ok (.isub, 1) := by decide +kernel
theorem dX3_follow_99 : decode cX3_follow 99 = .ok (.ishl, 1) := by decide +kernel
theorem dX3_follow_100 : decode cX3_follow 100 = .ok (.istore 6, 2) := by decide +kernel
theorem dX3_follow_102 : decode cX3_follow 102 = .ok (.iload_n 3, 1) := by decide +kernel
theorem dX3_follow_103 : decode cX3_follow 103 = .ok (.iconst 2, 1) := by decide +kernel
theorem dX3_follow_104 : decode cX3_follow 104 = .ok (.irem, 1) := by decide +kernel
theorem dX3_follow_105 : decode cX3_follow 105 = .ok (.istore 7, 2) := by decide +kernel
theorem dX3_follow_107 : decode cX3_follow 107 = .ok (.iload_n 3, 1) := by decide +kernel
theorem dX3_follow_108 : decode cX3_follow 108 = .ok (.iconst 2, 1) := by decide +kernel
theorem dX3_follow_109 : decode cX3_follow 109 = .ok (.idiv, 1) := by decide +kernel
theorem dX3_follow_110 : decode cX3_follow 110 = .ok (.istore_n 3, 1) := by decide +kernel
theorem dX3_follow_111 : decode cX3_follow 111 = .ok (.iconst 2, 1) := by decide +kernel
theorem dX3_follow_112 : decode cX3_follow 112 = .ok (.iload 4, 2) := by decide +kernel
theorem dX3_follow_114 : decode cX3_follow 114 = .ok (.imul, 1) := by decide +kernel
theorem dX3_follow_115 : decode cX3_follow 115 = .ok (.iload 7, 2) := by decide +kernel
theorem dX3_follow_117 : decode cX3_follow 117 = .ok (.aload_n 0, 1) := by decide +kernel
theorem dX3_follow_118 : decode cX3_follow 118 = .ok (.getfield 11, 3) := by decide +kernel
theorem dX3_follow_121 : decode cX3_follow 121 = .ok (.iconst 2, 1) := by decide +kernel
theorem dX3_follow_122 : decode cX3_follow 122 = .ok (.iload_n 1, 1) := by decide +kernel
theorem dX3_follow_123 : decode cX3_follow 123 = .ok (.imul, 1) := by decide +kernel
theorem dX3_follow_124 : decode cX3_follow 124 = .ok (.iconst 2, 1) := by decide +kernel
theorem dX3_follow_125 : decode cX3_follow 125 = .ok (.isub, 1) := by decide +kernel
theorem dX3_follow_126 : decode cX3_follow 126 = .ok (.iload 5, 2) := by decide +kernel
theorem dX3_follow_128 : decode cX3_follow 128 = .ok (.isub, 1) := by decide +kernel
theorem dX3_follow_129 : decode cX3_follow 129 = .ok (.aaload, 1) := by decide +kernel
theorem dX3_follow_130 : decode cX3_follow 130 = .ok (.iload_n 3, 1) := by decide +kernel
theorem dX3_follow_131 : decode cX3_follow 131 = .ok (.iload 6, 2) := by decide +kernel
theorem dX3_follow_133 : decode cX3_follow 133 = .ok (.imul, 1) := by decide +kernel
theorem dX3_follow_134 : decode cX3_follow 134 = .ok (.iconst 2, 1) := by decide +kernel
theorem dX3_follow_135 : decode cX3_follow 135 = .ok (.idiv, 1) := by decide +kernel
theorem dX3_follow_136 : decode cX3_follow 136 = .ok (.iload 4, 2) := by decide +kernel
theorem dX3_follow_138 : decode cX3_follow 138 = .ok (.iadd, 1) := by decide +kernel
theorem dX3_follow_139 : decode cX3_follow 139 = .ok (.iaload, 1) := by decide +kernel
theorem dX3_follow_140 : decode cX3_follow 140 = .ok (.ixor, 1) := by decide +kernel
theorem dX3_follow_141 : decode cX3_follow 141 = .ok (.iadd, 1) := by decide +kernel
theorem dX3_follow_142 : decode cX3_follow 142 = .ok (.istore 4, 2) := by decide +kernel
theorem dX3_follow_144 : decode cX3_follow 144 = .ok (.iinc 5 (-1), 3) := by decide +kernel
theorem dX3_follow_147 : decode cX3_follow 147 = .ok (.goto (-58), 3) := by decide +kernel
theorem dX3_follow_150 : decode cX3_follow 150 = .ok (.iload 4, 2) := by decide +kernel
theorem dX3_follow_152 : decode cX3_follow 152 = .ok (.ireturn, 1) := by decide +kernel
set_option maxRecDepth 20000 in
theorem ggX3_goRound_X3_other : GoodIn wsX3_goRound wsX3_other := goodIn_r _ [7] (by decide +kernel) (by decide +kernel)
set_option maxRecDepth 20000 in
theorem gX3_goRound_X3_other : GoodIn wsX3_goRound (va_wsS RX3 46 yX3_other wsX3_other) := goodIn_app (goodIn_of _ (by decide +kernel)) ggX3_goRound_X3_other
theorem dX3_goRound_0 : decode cX3_goRound 0 = .ok (.aload_n 0, 1) := by decide +kernel
theorem dX3_goRound_1 : decode cX3_goRound 1 = .ok (.getfield 16, 3) := by decide +kernel
theorem dX3_goRound_4 : decode cX3_goRound 4 = .ok (.iload_n 1, 1) := by decide +kernel
theorem dX3_goRound_5 : decode cX3_goRound 5 = .ok (.aaload, 1) := by decide +kernel
theorem dX3_goRound_6 : decode cX3_goRound 6 = .ok (.astore 4, 2) := by decide +kernel
theorem dX3_goRound_8 : decode cX3_goRound 8 = .ok (.iconst 0, 1) := by decide +kernel
theorem dX3_goRound_9 : decode cX3_goRound 9 = .ok (.istore 5, 2) := by decide +kernel
theorem dX3_goRound_11 : decode cX3_goRound 11 = .ok (.iload 5, 2) := by decide +kernel
theorem dX3_goRound_13 : decode cX3_goRound 13 = .ok (.iload_n 3, 1) := by decide +kernel
theorem dX3_goRound_14 : decode cX3_goRound 14 = .ok (.if_icmp .ge 31, 3) := by decide +kernel
theorem dX3_goRound_17 : decode cX3_goRound 17 = .ok (.aload_n 0, 1) := by decide +kernel
theorem dX3_goRound_18 : decode cX3_goRound 18 = .ok (.getfield 19, 3) := by decide +kernel
theorem dX3_goRound_21 : decode cX3_goRound 21 = .ok (.aload 4, 2) := by decide +kernel
theorem dX3_goRound_23 : decode cX3_goRound 23 = .ok (.iload_n 2, 1) := by decide +kernel
theorem dX3_goRound_24 : decode cX3_goRound 24 = .ok (.iload 5, 2) := by decide +kernel
theorem dX3_goRound_26 : decode cX3_goRound 26 = .ok (.iadd, 1) := by decide +kernel
theorem dX3_goRound_27 : decode cX3_goRound 27 = .ok (.iaload, 1) := by decide +kernel
theorem dX3_goRound_28 : decode cX3_goRound 28 = .ok (.iload 5, 2) := by decide +kernel
theorem dX3_goRound_30 : decode cX3_goRound 30 = .ok (.iastore, 1) := by decide +kernel
theorem dX3_goRound_31 : decode cX3_goRound 31 = .ok (.aload_n 0, 1) := by decide +kernel
theorem dX3_goRound_32 : decode cX3_goRound 32 = .ok (.getfield 23, 3) := by decide +kernel
theorem dX3_goRound_35 : decode cX3_goRound 35 = .ok (.iload 5, 2) := by decide +kernel
theorem dX3_goRound_37 : decode cX3_goRound 37 = .ok (.iconst (-1), 1) := by decide +kernel
theorem dX3_goRound_38 : decode cX3_goRound 38 = .ok (.iastore, 1) := by decide +kernel
theorem dX3_goRound_39 : decode cX3_goRound 39 = .ok (.iinc 5 1, 3) := by decide +kernel
theorem dX3_goRound_42 : decode cX3_goRound 42 = .ok (.goto (-31), 3) := by decide +kernel
theorem dX3_goRound_45 : decode cX3_goRound 45 = .ok (.iconst 0, 1) := by decide +kernel
theorem dX3_goRound_46 : decode cX3_goRound 46 = .ok (.istore 5, 2) := by decide +kernel
theorem dX3_goRound_48 : decode cX3_goRound 48 = .ok (.iload 5, 2) := by decide +kernel
theorem dX3_goRound_50 : decode cX3_goRound 50 = .ok (.iload_n 3, 1) := by decide +kernel
theorem dX3_goRound_51 : decode cX3_goRound 51 = .ok (.if_icmp .ge 79, 3) := by decide +kernel
theorem dX3_goRound_54 : decode cX3_goRound 54 = .ok (.iload 5, 2) := by decide +kernel
theorem dX3_goRound_56 : decode cX3_goRound 56 = .ok (.istore 6, 2) := by decide +kernel
theorem dX3_goRound_58 : decode cX3_goRound 58 = .ok (.iconst 0, 1) := by decide +kernel
theorem dX3_goRound_59 : decode cX3_goRound 59 = .ok (.istore 7, 2) := by decide +kernel
theorem dX3_goRound_61 : decode cX3_goRound 61 = .ok (.iload 7, 2) := by decide +kernel
theorem dX3_goRound_63 : decode cX3_goRound 63 = .ok (.iload_n 3, 1) := by decide +kernel
theorem dX3_goRound_64 : decode cX3_goRound 64 = .ok (.if_icmp .ge 60, 3) := by decide +kernel
theorem dX3_goRound_67 : decode cX3_goRound 67 = .ok (.aload_n 0, 1) := by decide +kernel
theorem dX3_goRound_68 : decode cX3_goRound 68 = .ok (.getfield 23, 3) := by decide +kernel
theorem dX3_goRound_71 : decode cX3_goRound 71 = .ok (.iload 6, 2) := by decide +kernel
theorem dX3_goRound_73 : decode cX3_goRound 73 = .ok (.iaload, 1) := by decide +kernel
theorem dX3_goRound_74 : decode cX3_goRound 74 = .ok (.iconst (-1), 1) := by decide +kernel
theorem dX3_goRound_75 : decode cX3_goRound 75 = .ok (.if_icmp .ne 49, 3) := by decide +kernel
theorem dX3_goRound_78 : decode cX3_goRound 78 = .ok (.aload_n 0, 1) := by decide +kernel
theorem dX3_goRound_79 : decode cX3_goRound 79 = .ok (.getfield 23, 3) := by decide +kernel
theorem dX3_goRound_82 : decode cX3_goRound 82 = .ok (.iload 6, 2) := by decide +kernel
theorem dX3_goRound_84 : decode cX3_goRound 84 = .ok (.iconst 0, 1) := by decide +kernel
theorem dX3_goRound_85 : decode cX3_goRound 85 = .ok (.iastore, 1) := by decide +kernel
theorem dX3_goRound_86 : decode cX3_goRound 86 = .ok (.aload_n 0, 1) := by decide +kernel
theorem dX3_goRound_87 : decode cX3_goRound 87 = .ok (.getfield 19, 3) := by decide +kernel
theorem dX3_goRound_90 : decode cX3_goRound 90 = .ok (.aload 4, 2) := by decide +kernel
theorem dX3_goRound_92 : decode cX3_goRound 92 = .ok (.iload_n 2, 1) := by decide +kernel
theorem dX3_goRound_93 : decode cX3_goRound 93 = .ok (.iload 6, 2) := by decide +kernel
theorem dX3_goRound_95 : decode cX3_goRound 95 = .ok (.iadd, 1) := by decide +kernel
theorem dX3_goRound_96 : decode cX3_goRound 96 = .ok (.iaload, 1) := by decide +kernel
theorem dX3_goRound_97 : decode cX3_goRound 97 = .ok (.invokestatic 46, 3) := by decide +kernel
theorem dX3_goRound_100 : decode cX3_goRound 100 = .ok (.iaload, 1) := by decide +kernel
theorem dX3_goRound_101 : decode cX3_goRound 101 = .ok (.istore 8, 2) := by decide +kernel
theorem dX3_goRound_103 : decode cX3_goRound 103 = .ok (.aload_n 0, 1) := by decide +kernel
theorem dX3_goRound_104 : decode cX3_goRound 104 = .ok (.getfield 23, 3) := by decide +kernel
theorem dX3_goRound_107 : decode cX3_goRound 107 = .ok (.iload 8, 2) := by decide +kernel
theorem dX3_goRound_109 : decode cX3_goRound 109 = .ok (.iconst 1, 1) := by decide +kernel
theorem dX3_goRound_110 : decode cX3_goRound 110 = .ok (.iastore, 1) := by decide +kernel
theorem dX3_goRound_111 : decode cX3_goRound 111 = .ok (.iload 8, 2) := by decide +kernel
theorem dX3_goRound_113 : decode cX3_goRound 113 = .ok (.invokestatic 46, 3) := by decide +kernel
theorem dX3_goRound_116 : decode cX3_goRound 116 = .ok (.istore 6, 2) := by decide +kernel
theorem dX3_goRound_118 : decode cX3_goRound 118 = .ok (.iinc 7 1, 3) := by decide +kernel
theorem dX3_goRound_121 : decode cX3_goRound 121 = .ok (.goto (-60), 3) := by decide +kernel
theorem dX3_goRound_124 : decode cX3_goRound 124 = .ok (.iinc 5 1, 3) := by decide +kernel
theorem dX3_goRound_127 : decode cX3_goRound 127 = .ok (.goto (-79), 3) := by decide +kernel
theorem dX3_goRound_130 : decode cX3_goRound 130 = .ok (.return_, 1) := by decide +kernel
theorem dX3_setOuterStages_0 : decode cX3_setOuterStages 0 = .ok (.iconst 0, 1) := by decide +kernel
theorem dX3_setOuterStages_1 : decode cX3_setOuterStages 1 = .ok (.istore 5, 2) := by decide +kernel
theorem dX3_setOuterStages_3 : decode cX3_setOuterStages 3 = .ok (.iload 5, 2) := by decide +kernel
theorem dX3_setOuterStages_5 : decode cX3_setOuterStages 5 = .ok (.iload 4, 2) := by decide +kernel
theorem dX3_setOuterStages_7 : decode cX3_setOuterStages 7 = .ok (.iconst 2, 1) := by decide +kernel
theorem dX3_setOuterStages_8 : decode cX3_setOuterStages 8 = .ok (.idiv, 1) := by decide +kernel
theorem dX3_setOuterStages_9 : decode cX3_setOuterStages 9 = .ok (.if_icmp .ge 60, 3) := by decide +kernel
theorem dX3_setOuterStages_12 : decode cX3_setOuterStages 12 = .ok (.aload_n 0, 1) := by decide +kernel
theorem dX3_setOuterStages_13 : decode cX3_setOuterStages 13 = .ok (.getfield 11, 3) := by decide +kernel
theorem dX3_setOuterStages_16 : decode cX3_setOuterStages 16 = .ok (.iload_n 2, 1) := by decide +kernel
theorem dX3_setOuterStages_17 : decode cX3_setOuterStages 17 = .ok (.aaload, 1) := by decide +kernel
theorem dX3_setOuterStages_18 : decode cX3_setOuterStages 18 = .ok (.iload_n 3, 1) := by decide +kernel
theorem dX3_setOuterStages_19 : decode cX3_setOuterStages 19 = .ok (.iconst 2, 1) := by decide +kernel
theorem dX3_setOuterStages_20 : decode cX3_setOuterStages 20 = .ok (.idiv, 1) := by decide +kernel
theorem dX3_setOuterStages_21 : decode cX3_setOuterStages 21 = .ok (.iload 5, 2) := by decide +kernel
theorem dX3_setOuterStages_23 : decode cX3_setOuterStages 23 = .ok (.iadd, 1) := by decide +kernel
theorem dX3_setOuterStages_24 : decode cX3_setOuterStages 24 = .ok (.aload_n 0, 1) := by decide +kernel
theorem dX3_setOuterStages_25 : decode cX3_setOuterStages 25 = .ok (.getfield 23, 3) := by decide +kernel
theorem dX3_setOuterStages_28 : decode cX3_setOuterStages 28 = .ok (.iconst 2, 1) := by decide +kernel
theorem dX3_setOuterStages_29 : decode cX3_setOuterStages 29 = .ok (.iload 5, 2) := by decide +kernel
theorem dX3_setOuterStages_31 : decode cX3_setOuterStages 31 = .ok (.imul, 1) := by decide +kernel
theorem dX3_setOuterStages_32 : decode cX3_setOuterStages 32 = .ok (.iaload, 1) := by decide +kernel
theorem dX3_setOuterStages_33 : decode cX3_setOuterStages 33 = .ok (.iastore, 1) := by decide +kernel
theorem dX3_setOuterStages_34 : decode cX3_setOuterStages 34 = .ok (.aload_n 0, 1) := by decide +kernel
theorem dX3_setOuterStages_35 : decode cX3_setOuterStages 35 = .ok (.getfield 11, 3) := by decide +kernel
theorem dX3_setOuterStages_38 : decode cX3_setOuterStages 38 = .ok (.iload_n 1, 1) := by decide +kernel
theorem dX3_setOuterStages_39 : decode cX3_setOuterStages 39 = .ok (.iload_n 2, 1) := by decide +kernel
theorem dX3_setOuterStages_40 : decode cX3_setOuterStages 40 = .ok (.isub, 1) := by decide +kernel
theorem dX3_setOuterStages_41 : decode cX3_setOuterStages 41 = .ok (.aaload, 1) := by decide +kernel
theorem dX3_setOuterStages_42 : decode cX3_setOuterStages 42 = .ok (.iload_n 3, 1) := by decide +kernel
theorem dX3_setOuterStages_43 : decode cX3_setOuterStages 43 = .ok (.iconst 2, 1) := by decide +kernel
theorem dX3_setOuterStages_44 : decode cX3_setOuterStages 44 = .ok (.idiv, 1) := by decide +kernel
theorem dX3_setOuterStages_45 : decode cX3_setOuterStages 45 = .ok (.iload 5, 2) := by decide +kernel
theorem dX3_setOuterStages_47 : decode cX3_setOuterStages 47 = .ok (.iadd, 1) := by decide +kernel
theorem dX3_setOuterStages_48 : decode cX3_setOuterStages 48 = .ok (.aload_n 0, 1) := by decide +kernel
theorem dX3_setOuterStages_49 : decode cX3_setOuterStages 49 = .ok (.getfield 23, 3) := by decide +kernel
theorem dX3_setOuterStages_52 : decode cX3_setOuterStages 52 = .ok (.aload_n 0, 1) := by decide +kernel
theorem dX3_setOuterStages_53 : decode cX3_setOuterStages 53 = .ok (.getfield 19, 3) := by decide +kernel
theorem dX3_setOuterStages_56 : decode cX3_setOuterStages 56 = .ok (.iconst 2, 1) := by decide +kernel
theorem dX3_setOuterStages_57 : decode cX3_setOuterStages 57 = .ok (.iload 5, 2) := by decide +kernel
theorem dX3_setOuterStages_59 : decode cX3_setOuterStages 59 = .ok (.imul, 1) := by decide +kernel
theorem dX3_setOuterStages_60 : decode cX3_setOuterStages 60 = .ok (.iaload, 1) := by decide +kernel
theorem dX3_setOuterStages_61 : decode cX3_setOuterStages 61 = .ok (.iaload, 1) := by decide +kernel
theorem dX3_setOuterStages_62 : decode cX3_setOuterStages 62 = .ok (.iastore, 1) := by decide +kernel
theorem dX3_setOuterStages_63 : decode cX3_setOuterStages 63 = .ok (.iinc 5 1, 3) := by decide +kernel
theorem dX3_setOuterStages_66 : decode cX3_setOuterStages 66 = .ok (.goto (-63), 3) := by decide +kernel
theorem dX3_setOuterStages_69 : decode cX3_setOuterStages 69 = .ok (.return_, 1) := by decide +kernel
theorem dX3_handToHalves_0 : decode cX3_handToHalves 0 = .ok (.iconst 0, 1) := by decide +kernel
theorem dX3_handToHalves_1 : decode cX3_handToHalves 1 = .ok (.istore 4, 2) := by decide +kernel
theorem dX3_handToHalves_3 : decode cX3_handToHalves 3 = .ok (.iload 4, 2) := by decide +kernel
theorem dX3_handToHalves_5 : decode cX3_handToHalves 5 = .ok (.iload_n 3, 1) := by decide +kernel
theorem dX3_handToHalves_6 : decode cX3_handToHalves 6 = .ok (.if_icmp .ge 53, 3) := by decide +kernel
theorem dX3_handToHalves_9 : decode cX3_handToHalves 9 = .ok (.iload_n 2, 1) := by decide +kernel
theorem dX3_handToHalves_10 : decode cX3_handToHalves 10 = .ok (.aload_n 0, 1) := by decide +kernel
theorem dX3_handToHalves_11 : decode cX3_handToHalves 11 = .ok (.getfield 23, 3) := by decide +kernel
theorem dX3_handToHalves_14 : decode cX3_handToHalves 14 = .ok (.iload 4, 2) := by decide +kernel
theorem dX3_handToHalves_16 : decode cX3_handToHalves 16 = .ok (.iaload, 1) := by decide +kernel
theorem dX3_handToHalves_17 : decode cX3_handToHalves 17 = .ok (.iload_n 3, 1) := by decide +kernel
theorem dX3_handToHalves_18 : decode cX3_handToHalves 18 = .ok (.imul, 1) := by decide +kernel
theorem dX3_handToHalves_19 : decode cX3_handToHalves 19 = .ok (.iconst 2, 1) := by decide +kernel
theorem dX3_handToHalves_20 : decode cX3_handToHalves 20 = .ok (.idiv, 1) := by decide +kernel
theorem dX3_handToHalves_21 : decode cX3_handToHalves 21 = .ok (.iadd, 1) := by decide +kernel
theorem dX3_handToHalves_22 : decode cX3_handToHalves 22 = .ok (.istore 5, 2) := by decide +kernel
theorem dX3_handToHalves_24 : decode cX3_handToHalves 24 = .ok (.aload_n 0, 1) := by decide +kernel
theorem dX3_handToHalves_25 : decode cX3_handToHalves 25 = .ok (.getfield 16, 3) := by decide +kernel
theorem dX3_handToHalves_28 : decode cX3_handToHalves 28 = .ok (.iload_n 1, 1) := by decide +kernel
theorem dX3_handToHalves_29 : decode cX3_handToHalves 29 = .ok (.iconst 1, 1) := by decide +kernel
theorem dX3_handToHalves_30 : decode cX3_handToHalves 30 = .ok (.iadd, 1) := by decide +kernel
theorem dX3_handToHalves_31 : decode cX3_handToHalves 31 = .ok (.aaload, 1) := by decide +kernel
theorem dX3_handToHalves_32 : decode cX3_handToHalves 32 = .ok (.iload 5, 2) := by decide +kernel
theorem dX3_handToHalves_34 : decode cX3_handToHalves 34 = .ok (.iload 4, 2) := by decide +kernel
theorem dX3_handToHalves_36 : decode cX3_handToHalves 36 = .ok (.iconst 2, 1) := by decide +kernel
theorem dX3_handToHalves_37 : decode cX3_handToHalves 37 = .ok (.idiv, 1) := by decide +kernel
theorem dX3_handToHalves_38 : decode cX3_handToHalves 38 = .ok (.iadd, 1) := by decide +kernel
theorem dX3_handToHalves_39 : decode cX3_handToHalves 39 = .ok (.aload_n 0, 1) := by decide +kernel
theorem dX3_handToHalves_40 : decode cX3_handToHalves 40 = .ok (.getfield 16, 3) := by decide +kernel
theorem dX3_handToHalves_43 : decode cX3_handToHalves 43 = .ok (.iload_n 1, 1) := by decide +kernel
theorem dX3_handToHalves_44 : decode cX3_handToHalves 44 = .ok (.aaload, 1) := by decide +kernel
theorem dX3_handToHalves_45 : decode cX3_handToHalves 45 = .ok (.iload_n 2, 1) := by decide +kernel
theorem dX3_handToHalves_46 : decode cX3_handToHalves 46 = .ok (.iload 4, 2) := by decide +kernel
theorem dX3_handToHalves_48 : decode cX3_handToHalves 48 = .ok (.iadd, 1) := by decide +kernel
theorem dX3_handToHalves_49 : decode cX3_handToHalves 49 = .ok (.iaload, 1) := by decide +kernel
theorem dX3_handToHalves_50 : decode cX3_handToHalves 50 = .ok (.iconst 2, 1) := by decide +kernel
theorem dX3_handToHalves_51 : decode cX3_handToHalves 51 = .ok (.idiv, 1) := by decide +kernel
theorem dX3_handToHalves_52 : decode cX3_handToHalves 52 = .ok (.iastore, 1) := by decide +kernel
theorem dX3_handToHalves_53 : decode cX3_handToHalves 53 = .ok (.iinc 4 1, 3) := by decide +kernel
theorem dX3_handToHalves_56 : decode cX3_handToHalves 56 = .ok (.goto (-53), 3) := by decide +kernel
theorem dX3_handToHalves_59 : decode cX3_handToHalves 59 = .ok (.return_, 1) := by decide +kernel
theorem dX3_other_0 : decode cX3_other 0 = .ok (.iload_n 0, 1) := by decide +kernel
theorem dX3_other_1 : decode cX3_other 1 = .ok (.iconst 1, 1) := by decide +kernel
theorem dX3_other_2 : decode cX3_other 2 = .ok (.ixor, 1) := by decide +kernel
theorem dX3_other_3 : decode cX3_other 3 = .ok (.ireturn, 1) := by decide +kernel
theorem dX4_init_0 : decode cX4_init 0 = .ok (.aload_n 0, 1) := by decide +kernel
theorem dX4_init_1 : decode cX4_init 1 = .ok (.invokespecial 1, 3) := by decide +kernel
theorem dX4_init_4 : decode cX4_init 4 = .ok (.aload_n 0, 1) := by decide +kernel
theorem dX4_init_5 : decode cX4_init 5 = .ok (.iload_n 1, 1) := by decide +kernel
theorem dX4_init_6 : decode cX4_init 6 = .ok (.putfield 7, 3) := by decide +kernel
theorem dX4_init_9 : decode cX4_init 9 = .ok (.aload_n 0, 1) := by decide +kernel
theorem dX4_init_10 : decode cX4_init 10 = .ok (.iload_n 2, 1) := by decide +kernel
theorem dX4_init_11 : decode cX4_init 11 = .ok (.newarray .int, 2) := by decide +kernel
theorem dX4_init_13 : decode cX4_init 13 = .ok (.putfield 13, 3) := by decide +kernel
theorem dX4_init_16 : decode cX4_init 16 = .ok (.return_, 1) := by decide +kernel
theorem dX4_holds_0 : decode cX4_holds 0 = .ok (.iload_n 1, 1) := by decide +kernel
theorem dX4_holds_1 : decode cX4_holds 1 = .ok (.ifCond .lt 31, 3) := by decide +kernel
theorem dX4_holds_4 : decode cX4_holds 4 = .ok (.iload_n 2, 1) := by decide +kernel
theorem dX4_holds_5 : decode cX4_holds 5 = .ok (.ifCond .lt 27, 3) := by decide +kernel
theorem dX4_holds_8 : decode cX4_holds 8 = .ok (.iload_n 2, 1) := by decide +kernel
theorem dX4_holds_9 : decode cX4_holds 9 = .ok (.aload_n 0, 1) := by decide +kernel
theorem dX4_holds_10 : decode cX4_holds 10 = .ok (.getfield 13, 3) := by decide +kernel
theorem dX4_holds_13 : decode cX4_holds 13 = .ok (.arraylength, 1) := by decide +kernel
theorem dX4_holds_14 : decode cX4_holds 14 = .ok (.if_icmp .gt 18, 3) := by decide +kernel
theorem dX4_holds_17 : decode cX4_holds 17 = .ok (.iload_n 1, 1) := by decide +kernel
theorem dX4_holds_18 : decode cX4_holds 18 = .ok (.aload_n 0, 1) := by decide +kernel
theorem dX4_holds_19 : decode cX4_holds 19 = .ok (.getfield 13, 3) := by decide +kernel
theorem dX4_holds_22 : decode cX4_holds 22 = .ok (.arraylength, 1) := by decide +kernel
theorem dX4_holds_23 : decode cX4_holds 23 = .ok (.iload_n 2, 1) := by decide +kernel
theorem dX4_holds_24 : decode cX4_holds 24 = .ok (.isub, 1) := by decide +kernel
theorem dX4_holds_25 : decode cX4_holds 25 = .ok (.if_icmp .gt 7, 3) := by decide +kernel
theorem dX4_holds_28 : decode cX4_holds 28 = .ok (.iconst 1, 1) := by decide +kernel
theorem dX4_holds_29 : decode cX4_holds 29 = .ok (.goto 4, 3) := by decide +kernel
theorem dX4_holds_32 : decode cX4_holds 32 = .ok (.iconst 0, 1) := by decide +kernel
theorem dX4_holds_33 : decode cX4_holds 33 = .ok (.ireturn, 1) := by decide +kernel
theorem dX4_cutToLane_0 : decode cX4_cutToLane 0 = .ok (.aload_n 0, 1) := by decide +kernel
theorem dX4_cutToLane_1 : decode cX4_cutToLane 1 = .ok (.getfield 7, 3) := by decide +kernel
theorem dX4_cutToLane_4 : decode cX4_cutToLane 4 = .ok (.ifCond .ne 6, 3) := by decide +kernel
theorem dX4_cutToLane_7 : decode cX4_cutToLane 7 = .ok (.iload_n 1, 1) := by decide +kernel
theorem dX4_cutToLane_8 : decode cX4_cutToLane 8 = .ok (.i2b, 1) := by decide +kernel
theorem dX4_cutToLane_9 : decode cX4_cutToLane 9 = .ok (.ireturn, 1) := by decide +kernel
theorem dX4_cutToLane_10 : decode cX4_cutToLane 10 = .ok (.aload_n 0, 1) := by decide +kernel
theorem dX4_cutToLane_11 : decode cX4_cutToLane 11 = .ok (.getfield 7, 3) := by decide +kernel
theorem dX4_cutToLane_14 : decode cX4_cutToLane 14 = .ok (.iconst 1, 1) := by decide +kernel
theorem dX4_cutToLane_15 : decode cX4_cutToLane 15 = .ok (.if_icmp .ne 8, 3) := by decide +kernel
theorem dX4_cutToLane_18 : decode cX4_cutToLane 18 = .ok (.iload_n 1, 1) := by decide +kernel
theorem dX4_cutToLane_19 : decode cX4_cutToLane 19 = .ok (.i2s, 1) := by decide +kernel
theorem dX4_cutToLane_20 : decode cX4_cutToLane 20 = .ok (.goto 4, 3) := by decide +kernel
theorem dX4_cutToLane_23 : decode cX4_cutToLane 23 = .ok (.iload_n 1, 1) := by decide +kernel
theorem dX4_cutToLane_24 : decode cX4_cutToLane 24 = .ok (.ireturn, 1) := by decide +kernel
set_option maxRecDepth 20000 in
theorem ggX5_init_X0_init : GoodIn wsX5_init wsX0_init := goodIn_r _ [22, 23, 2, 3, 24, 25, 46, 47] (by decide +kernel) (by decide +kernel)
set_option maxRecDepth 20000 in
theorem gX5_init_X0_init_n23 : GoodIn wsX5_init (wsX0_init) := ggX5_init_X0_init
set_option maxRecDepth 20000 in
theorem ggX5_init_X3_init : GoodIn wsX5_init wsX3_init := goodIn_r _ [27, 28, 2, 3, 29, 24, 30, 31, 32, 33, 48, 49, 50, 51] (by decide +kernel) (by decide +kernel)
set_option maxRecDepth 20000 in
theorem gX5_init_X3_init_n30 : GoodIn wsX5_init (wsX3_init) := ggX5_init_X3_init
set_option maxRecDepth 20000 in
theorem ggX5_init_X2_init : GoodIn wsX5_init wsX2_init := goodIn_r _ [35, 36, 2, 3, 24, 37, 38, 39, 52, 53, 54, 55] (by decide +kernel) (by decide +kernel)
set_option maxRecDepth 20000 in
theorem gX5_init_X2_init_n37 : GoodIn wsX5_init (wsX2_init) := ggX5_init_X2_init
theorem dX5_init_0 : decode cX5_init 0 = .ok (.aload_n 0, 1) := by decide +kernel
theorem dX5_init_1 : decode cX5_init 1 = .ok (.invokespecial 1, 3) := by decide +kernel
theorem dX5_init_4 : decode cX5_init 4 = .ok (.aload_n 0, 1) := by decide +kernel
theorem dX5_init_5 : decode cX5_init 5 = .ok (.bipush 8, 2) := by decide +kernel
theorem dX5_init_7 : decode cX5_init 7 = .ok (.anewarray 9, 3) := by decide +kernel
theorem dX5_init_10 : decode cX5_init 10 = .ok (.putfield 11, 3) := by decide +kernel
theorem dX5_init_13 : decode cX5_init 13 = .ok (.aload_n 0, 1) := by decide +kernel
theorem dX5_init_14 : decode cX5_init 14 = .ok (.bipush 6, 2) := by decide +kernel
theorem dX5_init_16 : decode cX5_init 16 = .ok (.anewarray 15, 3) := by decide +kernel
theorem dX5_init_19 : decode cX5_init 19 = .ok (.putfield 17, 3) := by decide +kernel
theorem dX5_init_22 : decode cX5_init 22 = .ok (.aload_n 0, 1) := by decide +kernel
theorem dX5_init_23 : decode cX5_init 23 = .ok (.new 21, 3) := by decide +kernel
theorem dX5_init_26 : decode cX5_init 26 = .ok (.dup, 1) := by decide +kernel
theorem dX5_init_27 : decode cX5_init 27 = .ok (.invokespecial 23, 3) := by decide +kernel
theorem dX5_init_30 : decode cX5_init 30 = .ok (.putfield 24, 3) := by decide +kernel
theorem dX5_init_33 : decode cX5_init 33 = .ok (.aload_n 0, 1) := by decide +kernel
theorem dX5_init_34 : decode cX5_init 34 = .ok (.new 28, 3) := by decide +kernel
theorem dX5_init_37 : decode cX5_init 37 = .ok (.dup, 1) := by decide +kernel
theorem dX5_init_38 : decode cX5_init 38 = .ok (.invokespecial 30, 3) := by decide +kernel
theorem dX5_init_41 : decode cX5_init 41 = .ok (.putfield 31, 3) := by decide +kernel
theorem dX5_init_44 : decode cX5_init 44 = .ok (.aload_n 0, 1) := by decide +kernel
theorem dX5_init_45 : decode cX5_init 45 = .ok (.new 35, 3) := by decide +kernel
theorem dX5_init_48 : decode cX5_init 48 = .ok (.dup, 1) := by decide +kernel
theorem dX5_init_49 : decode cX5_init 49 = .ok (.invokespecial 37, 3) := by decide +kernel
theorem dX5_init_52 : decode cX5_init 52 = .ok (.putfield 38, 3) := by decide +kernel
theorem dX5_init_55 : decode cX5_init 55 = .ok (.aload_n 0, 1) := by decide +kernel
theorem dX5_init_56 : decode cX5_init 56 = .ok (.iconst 0, 1) := by decide +kernel
theorem dX5_init_57 : decode cX5_init 57 = .ok (.putfield 42, 3) := by decide +kernel
theorem dX5_init_60 : decode cX5_init 60 = .ok (.return_, 1) := by decide +kernel
set_option maxRecDepth 20000 in
theorem ggX5_sheet_X5_isSheet : GoodIn wsX5_sheet wsX5_isSheet := goodIn_r _ [9, 10, 11, 8, 12] (by decide +kernel) (by decide +kernel)
set_option maxRecDepth 20000 in
theorem gX5_sheet_X5_isSheet : GoodIn wsX5_sheet (va_wsS RX5 46 yX5_isSheet wsX5_isSheet) := goodIn_app (goodIn_of _ (by decide +kernel)) ggX5_sheet_X5_isSheet
set_option maxRecDepth 20000 in
theorem ggX5_sheet_X5_within : GoodIn wsX5_sheet wsX5_within := goodIn_r _ [12] (by decide +kernel) (by decide +kernel)
set_option maxRecDepth 20000 in
theorem gX5_sheet_X5_within : GoodIn wsX5_sheet (va_wsS RX5 50 yX5_within wsX5_within) := goodIn_app (goodIn_of _ (by decide +kernel)) ggX5_sheet_X5_within
set_option maxRecDepth 20000 in
theorem ggX5_sheet_X5_found : GoodIn wsX5_sheet wsX5_found := goodIn_r _ [16, 17, 18, 32, 33, 34, 35, 36, 37] (by decide +kernel) (by decide +kernel)
set_option maxRecDepth 20000 in
theorem gX5_sheet_X5_found : GoodIn wsX5_sheet (wsV RX5 55 RX5 yX5_found wsX5_found) := goodIn_app (goodIn_of _ (by decide +kernel)) ggX5_sheet_X5_found
set_option maxRecDepth 20000 in
theorem ggX5_sheet_X4_init : GoodIn wsX5_sheet wsX4_init := goodIn_r _ [21, 22, 23, 24, 25, 26, 27, 38, 39] (by decide +kernel) (by decide +kernel)
set_option maxRecDepth 20000 in
theorem gX5_sheet_X4_init : GoodIn wsX5_sheet (wsX4_init) := ggX5_sheet_X4_init
set_option maxRecDepth 20000 in
theorem ggX5_sheet_X5_fine : GoodIn wsX5_sheet wsX5_fine := goodIn_r _ [31, 17, 32, 33, 34, 35, 36, 37] (by decide +kernel) (by decide +kernel)
set_option maxRecDepth 20000 in
theorem gX5_sheet_X5_fine : GoodIn wsX5_sheet (wsV RX5 62 RX5 yX5_fine wsX5_fine) := goodIn_app (goodIn_of _ (by decide +kernel)) ggX5_sheet_X5_fine
theorem dX5_sheet_0 : decode cX5_sheet 0 = .ok (.iload_n 1, 1) := by decide +kernel
theorem dX5_sheet_1 : decode cX5_sheet 1 = .ok (.invokestatic 46, 3) := by decide +kernel
theorem dX5_sheet_4 : decode cX5_sheet 4 = .ok (.ifCond .eq 18, 3) := by decide +kernel
theorem dX5_sheet_7 : decode cX5_sheet 7 = .ok (.iload_n 2, 1) := by decide +kernel
theorem dX5_sheet_8 : decode cX5_sheet 8 = .ok (.iconst 0, 1) := by decide +kernel
theorem dX5_sheet_9 : decode cX5_sheet 9 = .ok (.iconst 2, 1) := by decide +kernel
theorem dX5_sheet_10 : decode cX5_sheet 10 = .ok (.invokestatic 50, 3) := by decide +kernel
theorem dX5_sheet_13 : decode cX5_sheet 13 = .ok (.ifCond .eq 9, 3) := by decide +kernel
theorem dX5_sheet_16 : decode cX5_sheet 16 = .ok (.iload_n 3, 1) := by decide +kernel
theorem dX5_sheet_17 : decode cX5_sheet 17 = .ok (.bipush 64, 2) := by decide +kernel
theorem dX5_sheet_19 : decode cX5_sheet 19 = .ok (.if_icmp .le 6, 3) := by decide +kernel
theorem dX5_sheet_22 : decode cX5_sheet 22 = .ok (.ldc 54, 2) := by decide +kernel
theorem dX5_sheet_24 : decode cX5_sheet 24 = .ok (.ireturn, 1) := by decide +kernel
theorem dX5_sheet_25 : decode cX5_sheet 25 = .ok (.iload_n 3, 1) := by decide +kernel
theorem dX5_sheet_26 : decode cX5_sheet 26 = .ok (.ifCond .ge 9, 3) := by decide +kernel
theorem dX5_sheet_29 : decode cX5_sheet 29 = .ok (.aload_n 0, 1) := by decide +kernel
theorem dX5_sheet_30 : decode cX5_sheet 30 = .ok (.iconst 4, 1) := by decide +kernel
theorem dX5_sheet_31 : decode cX5_sheet 31 = .ok (.invokevirtual 55, 3) := by decide +kernel
theorem dX5_sheet_34 : decode cX5_sheet 34 = .ok (.ireturn, 1) := by decide +kernel
theorem dX5_sheet_35 : decode cX5_sheet 35 = .ok (.aload_n 0, 1) := by decide +kernel
theorem dX5_sheet_36 : decode cX5_sheet 36 = .ok (.getfield 11, 3) := by decide +kernel
theorem dX5_sheet_39 : decode cX5_sheet 39 = .ok (.iload_n 1, 1) := by decide +kernel
theorem dX5_sheet_40 : decode cX5_sheet 40 = .ok (.new 9, 3) := by decide +kernel
theorem dX5_sheet_43 : decode cX5_sheet 43 = .ok (.dup, 1) := by decide +kernel
theorem dX5_sheet_44 : decode cX5_sheet 44 = .ok (.iload_n 2, 1) := by decide +kernel
theorem dX5_sheet_45 : decode cX5_sheet 45 = .ok (.iload_n 3, 1) := by decide +kernel
theorem dX5_sheet_46 : decode cX5_sheet 46 = .ok (.invokespecial 59, 3) := by decide +kernel
theorem dX5_sheet_49 : decode cX5_sheet 49 = .ok (.aastore, 1) := by decide +kernel
theorem dX5_sheet_50 : decode cX5_sheet 50 = .ok (.aload_n 0, 1) := by decide +kernel
theorem dX5_sheet_51 : decode cX5_sheet 51 = .ok (.iload_n 3, 1) := by decide +kernel
theorem dX5_sheet_52 : decode cX5_sheet 52 = .ok (.invokevirtual 62, 3) := by decide +kernel
theorem dX5_sheet_55 : decode cX5_sheet 55 = .ok (.ireturn, 1) := by decide +kernel
set_option maxRecDepth 20000 in
theorem ggX5_set_X5_isSheet : GoodIn wsX5_set wsX5_isSheet := goodIn_r _ [7, 8, 9, 6, 10] (by decide +kernel) (by decide +kernel)
set_option maxRecDepth 20000 in
theorem gX5_set_X5_isSheet : GoodIn wsX5_set (va_wsS RX5 46 yX5_isSheet wsX5_isSheet) := goodIn_app (goodIn_of _ (by decide +kernel)) ggX5_set_X5_isSheet
set_option maxRecDepth 20000 in
theorem ggX5_set_X5_found : GoodIn wsX5_set wsX5_found := goodIn_r _ [14, 15, 16, 32, 33, 34, 35, 36, 37] (by decide +kernel) (by decide +kernel)
set_option maxRecDepth 20000 in
theorem gX5_set_X5_found : GoodIn wsX5_set (wsV RX5 55 RX5 yX5_found wsX5_found) := goodIn_app (goodIn_of _ (by decide +kernel)) ggX5_set_X5_found
set_option maxRecDepth 20000 in
theorem ggX5_set_X4_holds : GoodIn wsX5_set wsX4_holds := goodIn_r _ [21, 22, 38, 39] (by decide +kernel) (by decide +kernel)
set_option maxRecDepth 20000 in
theorem gX5_set_X4_holds : GoodIn wsX5_set (wsV RX5 65 RX4 yX4_holds wsX4_holds) := goodIn_app (goodIn_of _ (by decide +kernel)) ggX5_set_X4_holds
set_option maxRecDepth 20000 in
theorem ggX5_set_X4_cutToLane : GoodIn wsX5_set wsX4_cutToLane := goodIn_r _ [26, 27, 38, 39] (by decide +kernel) (by decide +kernel)
set_option maxRecDepth 20000 in
theorem gX5_set_X4_cutToLane : GoodIn wsX5_set (wsV RX5 73 RX4 yX4_cutToLane wsX4_cutToLane) := goodIn_app (goodIn_of _ (by decide +kernel)) ggX5_set_X4_cutToLane
set_option maxRecDepth 20000 in
theorem ggX5_set_X5_fine : GoodIn wsX5_set wsX5_fine := goodIn_r _ [31, 15, 32, 33, 34, 35, 36, 37] (by decide +kernel) (by decide +kernel)
set_option maxRecDepth 20000 in
theorem gX5_set_X5_fine : GoodIn wsX5_set (wsV RX5 62 RX5 yX5_fine wsX5_fine) := goodIn_app (goodIn_of _ (by decide +kernel)) ggX5_set_X5_fine
theorem dX5_set_0 : decode cX5_set 0 = .ok (.iload_n 1, 1) := by decide +kernel
theorem dX5_set_1 : decode cX5_set 1 = .ok (.invokestatic 46, 3) := by decide +kernel
theorem dX5_set_4 : decode cX5_set 4 = .ok (.ifCond .ne 6, 3) := by decide +kernel
theorem dX5_set_7 : decode cX5_set 7 = .ok (.ldc 54, 2) := by decide +kernel
theorem dX5_set_9 : decode cX5_set 9 = .ok (.ireturn, 1) := by decide +kernel
theorem dX5_set_10 : decode cX5_set 10 = .ok (.aload_n 0, 1) := by decide +kernel
theorem dX5_set_11 : decode cX5_set 11 = .ok (.getfield 11, 3) := by decide +kernel
theorem dX5_set_14 : decode cX5_set 14 = .ok (.iload_n 1, 1) := by decide +kernel
theorem dX5_set_15 : decode cX5_set 15 = .ok (.aaload, 1) := by decide +kernel
theorem dX5_set_16 : decode cX5_set 16 = .ok (.astore 4, 2) := by decide +kernel
theorem dX5_set_18 : decode cX5_set 18 = .ok (.aload 4, 2) := by decide +kernel
theorem dX5_set_20 : decode cX5_set 20 = .ok (.ifnonnull 9, 3) := by decide +kernel
theorem dX5_set_23 : decode cX5_set 23 = .ok (.aload_n 0, 1) := by decide +kernel
theorem dX5_set_24 : decode cX5_set 24 = .ok (.iconst 1, 1) := by decide +kernel
theorem dX5_set_25 : decode cX5_set 25 = .ok (.invokevirtual 55, 3) := by decide +kernel
theorem dX5_set_28 : decode cX5_set 28 = .ok (.ireturn, 1) := by decide +kernel
theorem dX5_set_29 : decode cX5_set 29 = .ok (.aload 4, 2) := by decide +kernel
theorem dX5_set_31 : decode cX5_set 31 = .ok (.iload_n 2, 1) := by decide +kernel
theorem dX5_set_32 : decode cX5_set 32 = .ok (.iconst 1, 1) := by decide +kernel
theorem dX5_set_33 : decode cX5_set 33 = .ok (.invokevirtual 65, 3) := by decide +kernel
theorem dX5_set_36 : decode cX5_set 36 = .ok (.ifCond .ne 9, 3) := by decide +kernel
theorem dX5_set_39 : decode cX5_set 39 = .ok (.aload_n 0, 1) := by decide +kernel
theorem dX5_set_40 : decode cX5_set 40 = .ok (.iconst 2, 1) := by decide +kernel
theorem dX5_set_41 : decode cX5_set 41 = .ok (.invokevirtual 55, 3) := by decide +kernel
theorem dX5_set_44 : decode cX5_set 44 = .ok (.ireturn, 1) := by decide +kernel
theorem dX5_set_45 : decode cX5_set 45 = .ok (.aload 4, 2) := by decide +kernel
theorem dX5_set_47 : decode cX5_set 47 = .ok (.getfield 69, 3) := by decide +kernel
theorem dX5_set_50 : decode cX5_set 50 = .ok (.iload_n 2, 1) := by decide +kernel
theorem dX5_set_51 : decode cX5_set 51 = .ok (.aload 4, 2) := by decide +kernel
theorem dX5_set_53 : decode cX5_set 53 = .ok (.iload_n 3, 1) := by decide +kernel
theorem dX5_set_54 : decode cX5_set 54 = .ok (.invokevirtual 73, 3) := by decide +kernel
theorem dX5_set_57 : decode cX5_set 57 = .ok (.iastore, 1) := by decide +kernel
theorem dX5_set_58 : decode cX5_set 58 = .ok (.aload_n 0, 1) := by decide +kernel
theorem dX5_set_59 : decode cX5_set 59 = .ok (.aload 4, 2) := by decide +kernel
theorem dX5_set_61 : decode cX5_set 61 = .ok (.getfield 69, 3) := by decide +kernel
theorem dX5_set_64 : decode cX5_set 64 = .ok (.iload_n 2, 1) := by decide +kernel
theorem dX5_set_65 : decode cX5_set 65 = .ok (.iaload, 1) := by decide +kernel
theorem dX5_set_66 : decode cX5_set 66 = .ok (.invokevirtual 62, 3) := by decide +kernel
theorem dX5_set_69 : decode cX5_set 69 = .ok (.ireturn, 1) := by decide +kernel
set_option maxRecDepth 20000 in
theorem ggX5_copy_X5_isSheet : GoodIn wsX5_copy wsX5_isSheet := goodIn_r _ [12, 13, 14, 11, 15] (by decide +kernel) (by decide +kernel)
set_option maxRecDepth 20000 in
theorem gX5_copy_X5_isSheet : GoodIn wsX5_copy (va_wsS RX5 46 yX5_isSheet wsX5_isSheet) := goodIn_app (goodIn_of _ (by decide +kernel)) ggX5_copy_X5_isSheet
set_option maxRecDepth 20000 in
theorem ggX5_copy_X5_found : GoodIn wsX5_copy wsX5_found := goodIn_r _ [19, 20, 21, 32, 33, 34, 35, 36, 37] (by decide +kernel) (by decide +kernel)
set_option maxRecDepth 20000 in
theorem gX5_copy_X5_found : GoodIn wsX5_copy (wsV RX5 55 RX5 yX5_found wsX5_found) := goodIn_app (goodIn_of _ (by decide +kernel)) ggX5_copy_X5_found
set_option maxRecDepth 20000 in
theorem ggX5_copy_X4_holds : GoodIn wsX5_copy wsX4_holds := goodIn_r _ [26, 27, 38, 39] (by decide +kernel) (by decide +kernel)
set_option maxRecDepth 20000 in
theorem gX5_copy_X4_holds : GoodIn wsX5_copy (wsV RX5 65 RX4 yX4_holds wsX4_holds) := goodIn_app (goodIn_of _ (by decide +kernel)) ggX5_copy_X4_holds
set_option maxRecDepth 20000 in
theorem ggX5_copy_X5_fine : GoodIn wsX5_copy wsX5_fine := goodIn_r _ [31, 20, 32, 33, 34, 35, 36, 37] (by decide +kernel) (by decide +kernel)
set_option maxRecDepth 20000 in
theorem gX5_copy_X5_fine : GoodIn wsX5_copy (wsV RX5 62 RX5 yX5_fine wsX5_fine) := goodIn_app (goodIn_of _ (by decide +kernel)) ggX5_copy_X5_fine
theorem dX5_copy_0 : decode cX5_copy 0 = .ok (.iload_n 1, 1) := by decide +kernel
theorem dX5_copy_1 : decode cX5_copy 1 = .ok (.invokestatic 46, 3) := by decide +kernel
theorem dX5_copy_4 : decode cX5_copy 4 = .ok (.ifCond .eq 10, 3) := by decide +kernel
theorem dX5_copy_7 : decode cX5_copy 7 = .ok (.iload_n 3, 1) := by decide +kernel
theorem dX5_copy_8 : decode cX5_copy 8 = .ok (.invokestatic 46, 3) := by decide +kernel
theorem dX5_copy_11 : decode cX5_copy 11 = .ok (.ifCond .ne 6, 3) := by decide +kernel
theorem dX5_copy_14 : decode cX5_copy 14 = .ok (.ldc 54, 2) := by decide +kernel
theorem dX5_copy_16 : decode cX5_copy 16 = .ok (.ireturn, 1) := by decide +kernel
theorem dX5_copy_17 : decode cX5_copy 17 = .ok (.aload_n 0, 1) := by decide +kernel
theorem dX5_copy_18 : decode cX5_copy 18 = .ok (.getfield 11, 3) := by decide +kernel
theorem dX5_copy_21 : decode cX5_copy 21 = .ok (.iload_n 1, 1) := by decide +kernel
theorem dX5_copy_22 : decode cX5_copy 22 = .ok (.aaload, 1) := by decide +kernel
theorem dX5_copy_23 : decode cX5_copy 23 = .ok (.astore 6, 2) := by decide +kernel
theorem dX5_copy_25 : decode cX5_copy 25 = .ok (.aload_n 0, 1) := by decide +kernel
theorem dX5_copy_26 : decode cX5_copy 26 = .ok (.getfield 11, 3) := by decide +kernel
theorem dX5_copy_29 : decode cX5_copy 29 = .ok (.iload_n 3, 1) := by decide +kernel
theorem dX5_copy_30 : decode cX5_copy 30 = .ok (.aaload, 1) := by decide +kernel
theorem dX5_copy_31 : decode cX5_copy 31 = .ok (.astore 7, 2) := by decide +kernel
theorem dX5_copy_33 : decode cX5_copy 33 = .ok (.aload 6, 2) := by decide +kernel
theorem dX5_copy_35 : decode cX5_copy 35 = .ok (.ifnull 8, 3) := by decide +kernel
theorem dX5_copy_38 : decode cX5_copy 38 = .ok (.aload 7, 2) := by decide +kernel
theorem dX5_copy_40 : decode cX5_copy 40 = .ok (.ifnonnull 9, 3) := by decide +kernel
theorem dX5_copy_43 : decode cX5_copy 43 = .ok (.aload_n 0, 1) := by decide +kernel
theorem dX5_copy_44 : decode cX5_copy 44 = .ok (.iconst 1, 1) := by decide +kernel
theorem dX5_copy_45 : decode cX5_copy 45 = .ok (.invokevirtual 55, 3) := by decide +kernel
theorem dX5_copy_48 : decode cX5_copy 48 = .ok (.ireturn, 1) := by decide +kernel
theorem dX5_copy_49 : decode cX5_copy 49 = .ok (.aload 6, 2) := by decide +kernel
theorem dX5_copy_51 : decode cX5_copy 51 = .ok (.getfield 76, 3) := by decide +kernel
theorem dX5_copy_54 : decode cX5_copy 54 = .ok (.aload 7, 2) := by decide +kernel
theorem dX5_copy_56 : decode cX5_copy 56 = .ok (.getfield 76, 3) := by decide +kernel
theorem dX5_copy_59 : decode cX5_copy 59 = .ok (.if_icmp .eq 9, 3) := by decide +kernel
theorem dX5_copy_62 : decode cX5_copy 62 = .ok (.aload_n 0, 1) := by decide +kernel
theorem dX5_copy_63 : decode cX5_copy 63 = .ok (.iconst 5, 1) := by decide +kernel
theorem dX5_copy_64 : decode cX5_copy 64 = .ok (.invokevirtual 55, 3) := by decide +kernel
theorem dX5_copy_67 : decode cX5_copy 67 = .ok (.ireturn, 1) := by decide +kernel
theorem dX5_copy_68 : decode cX5_copy 68 = .ok (.aload 6, 2) := by decide +kernel
theorem dX5_copy_70 : decode cX5_copy 70 = .ok (.iload_n 2, 1) := by decide +kernel
theorem dX5_copy_71 : decode cX5_copy 71 = .ok (.iload 5, 2) := by decide +kernel
theorem dX5_copy_73 : decode cX5_copy 73 = .ok (.invokevirtual 65, 3) := by decide +kernel
theorem dX5_copy_76 : decode cX5_copy 76 = .ok (.ifCond .eq 15, 3) := by decide +kernel
theorem dX5_copy_79 : decode cX5_copy 79 = .ok (.aload 7, 2) := by decide +kernel
theorem dX5_copy_81 : decode cX5_copy 81 = .ok (.iload 4, 2) := by decide +kernel
theorem dX5_copy_83 : decode cX5_copy 83 = .ok (.iload 5, 2) := by decide +kernel
theorem dX5_copy_85 : decode cX5_copy 85 = .ok (.invokevirtual 65, 3) := by decide +kernel
theorem dX5_copy_88 : decode cX5_copy 88 = .ok (.ifCond .ne 9, 3) := by decide +kernel
theorem dX5_copy_91 : decode cX5_copy 91 = .ok (.aload_n 0, 1) := by decide +kernel
theorem dX5_copy_92 : decode cX5_copy 92 = .ok (.iconst 2, 1) := by decide +kernel
theorem dX5_copy_93 : decode cX5_copy 93 = .ok (.invokevirtual 55, 3) := by decide +kernel
theorem dX5_copy_96 : decode cX5_copy 96 = .ok (.ireturn, 1) := by decide +kernel
theorem dX5_copy_97 : decode cX5_copy 97 = .ok (.aload 6, 2) := by decide +kernel
theorem dX5_copy_99 : decode cX5_copy 99 = .ok (.getfield 69, 3) := by decide +kernel
theorem dX5_copy_102 : decode cX5_copy 102 = .ok (.iload_n 2, 1) := by decide +kernel
theorem dX5_copy_103 : decode cX5_copy 103 = .ok (.aload 7, 2) := by decide +kernel
theorem dX5_copy_105 : decode cX5_copy 105 = .ok (.getfield 69, 3) := by decide +kernel
theorem dX5_copy_108 : decode cX5_copy 108 = .ok (.iload 4, 2) := by decide +kernel
theorem dX5_copy_110 : decode cX5_copy 110 = .ok (.iload 5, 2) := by decide +kernel
theorem dX5_copy_112 : decode cX5_copy 112 = .ok (.invokestatic 79, 3) := by decide +kernel
theorem dX5_copy_115 : decode cX5_copy 115 = .ok (.aload_n 0, 1) := by decide +kernel
theorem dX5_copy_116 : decode cX5_copy 116 = .ok (.iload 5, 2) := by decide +kernel
theorem dX5_copy_118 : decode cX5_copy 118 = .ok (.invokevirtual 62, 3) := by decide +kernel
theorem dX5_copy_121 : decode cX5_copy 121 = .ok (.ireturn, 1) := by decide +kernel
set_option maxRecDepth 20000 in
theorem ggX5_drop_X5_isSheet : GoodIn wsX5_drop wsX5_isSheet := goodIn_r _ [7, 8, 9, 6, 10] (by decide +kernel) (by decide +kernel)
set_option maxRecDepth 20000 in
theorem gX5_drop_X5_isSheet : GoodIn wsX5_drop (va_wsS RX5 46 yX5_isSheet wsX5_isSheet) := goodIn_app (goodIn_of _ (by decide +kernel)) ggX5_drop_X5_isSheet
set_option maxRecDepth 20000 in
theorem ggX5_drop_X5_found : GoodIn wsX5_drop wsX5_found := goodIn_r _ [14, 15, 16, 21, 22, 23, 24, 25, 26] (by decide +kernel) (by decide +kernel)
set_option maxRecDepth 20000 in
theorem gX5_drop_X5_found : GoodIn wsX5_drop (wsV RX5 55 RX5 yX5_found wsX5_found) := goodIn_app (goodIn_of _ (by decide +kernel)) ggX5_drop_X5_found
set_option maxRecDepth 20000 in
theorem ggX5_drop_X5_fine : GoodIn wsX5_drop wsX5_fine := goodIn_r _ [20, 15, 21, 22, 23, 24, 25, 26] (by decide +kernel) (by decide +kernel)
set_option maxRecDepth 20000 in
theorem gX5_drop_X5_fine : GoodIn wsX5_drop (wsV RX5 62 RX5 yX5_fine wsX5_fine) := goodIn_app (goodIn_of _ (by decide +kernel)) ggX5_drop_X5_fine
theorem dX5_drop_0 : decode cX5_drop 0 = .ok (.iload_n 1, 1) := by decide +kernel
theorem dX5_drop_1 : decode cX5_drop 1 = .ok (.invokestatic 46, 3) := by decide +kernel
theorem dX5_drop_4 : decode cX5_drop 4 = .ok (.ifCond .ne 6, 3) := by decide +kernel
theorem dX5_drop_7 : decode cX5_drop 7 = .ok (.ldc 54, 2) := by decide +kernel
theorem dX5_drop_9 : decode cX5_drop 9 = .ok (.ireturn, 1) := by decide +kernel
theorem dX5_drop_10 : decode cX5_drop 10 = .ok (.aload_n 0, 1) := by decide +kernel
theorem dX5_drop_11 : decode cX5_drop 11 = .ok (.getfield 11, 3) := by decide +kernel
theorem dX5_drop_14 : decode cX5_drop 14 = .ok (.iload_n 1, 1) := by decide +kernel
theorem dX5_drop_15 : decode cX5_drop 15 = .ok (.aaload, 1) := by decide +kernel
theorem dX5_drop_16 : decode cX5_drop 16 = .ok (.astore_n 2, 1) := by decide +kernel
theorem dX5_drop_17 : decode cX5_drop 17 = .ok (.aload_n 2, 1) := by decide +kernel
theorem dX5_drop_18 : decode cX5_drop 18 = .ok (.ifnonnull 9, 3) := by decide +kernel
theorem dX5_drop_21 : decode cX5_drop 21 = .ok (.aload_n 0, 1) := by decide +kernel
theorem dX5_drop_22 : decode cX5_drop 22 = .ok (.iconst 1, 1) := by decide +kernel
theorem dX5_drop_23 : decode cX5_drop 23 = .ok (.invokevirtual 55, 3) := by decide +kernel
theorem dX5_drop_26 : decode cX5_drop 26 = .ok (.ireturn, 1) := by decide +kernel
theorem dX5_drop_27 : decode cX5_drop 27 = .ok (.aload_n 0, 1) := by decide +kernel
theorem dX5_drop_28 : decode cX5_drop 28 = .ok (.getfield 11, 3) := by decide +kernel
theorem dX5_drop_31 : decode cX5_drop 31 = .ok (.iload_n 1, 1) := by decide +kernel
theorem dX5_drop_32 : decode cX5_drop 32 = .ok (.aconst_null, 1) := by decide +kernel
theorem dX5_drop_33 : decode cX5_drop 33 = .ok (.aastore, 1) := by decide +kernel
theorem dX5_drop_34 : decode cX5_drop 34 = .ok (.aload_n 0, 1) := by decide +kernel
theorem dX5_drop_35 : decode cX5_drop 35 = .ok (.aload_n 2, 1) := by decide +kernel
theorem dX5_drop_36 : decode cX5_drop 36 = .ok (.getfield 69, 3) := by decide +kernel
theorem dX5_drop_39 : decode cX5_drop 39 = .ok (.arraylength, 1) := by decide +kernel
theorem dX5_drop_40 : decode cX5_drop 40 = .ok (.invokevirtual 62, 3) := by decide +kernel
theorem dX5_drop_43 : decode cX5_drop 43 = .ok (.ireturn, 1) := by decide +kernel
set_option maxRecDepth 20000 in
theorem ggX5_net_X5_isPlace : GoodIn wsX5_net wsX5_isPlace := goodIn_r _ [9, 10, 11, 8, 12] (by decide +kernel) (by decide +kernel)
set_option maxRecDepth 20000 in
theorem gX5_net_X5_isPlace : GoodIn wsX5_net (va_wsS RX5 85 yX5_isPlace wsX5_isPlace) := goodIn_app (goodIn_of _ (by decide +kernel)) ggX5_net_X5_isPlace
set_option maxRecDepth 20000 in
theorem ggX5_net_X5_within : GoodIn wsX5_net wsX5_within := goodIn_r _ [12] (by decide +kernel) (by decide +kernel)
set_option maxRecDepth 20000 in
theorem gX5_net_X5_within : GoodIn wsX5_net (va_wsS RX5 50 yX5_within wsX5_within) := goodIn_app (goodIn_of _ (by decide +kernel)) ggX5_net_X5_within
set_option maxRecDepth 20000 in
theorem ggX5_net_X1_init : GoodIn wsX5_net wsX1_init := goodIn_r _ [15, 16, 17, 18, 19, 20, 21, 22, 23, 24, 25, 26, 27, 28, 29, 30, 31, 32, 33, 34, 35, 36, 37, 38, 39, 40, 41, 42, 52, 53, 54, 55, 56, 57, 58, 59, 60, 61, 62, 63, 64, 65, 66, 67, 68] (by decide +kernel) (by decide +kernel)
set_option maxRecDepth 20000 in
theorem gX5_net_X1_init : GoodIn wsX5_net (wsX1_init) := ggX5_net_X1_init
set_option maxRecDepth 20000 in
theorem ggX5_net_X1_toldKind : GoodIn wsX5_net wsX1_toldKind := goodIn_r _ [46, 34, 20, 52, 53, 54, 55, 56, 57, 58, 59, 60, 61, 62, 63, 64, 65, 66, 67, 68] (by decide +kernel) (by decide +kernel)
set_option maxRecDepth 20000 in
theorem gX5_net_X1_toldKind : GoodIn wsX5_net (wsV RX5 91 RX1 yX1_toldKind wsX1_toldKind) := goodIn_app (goodIn_of _ (by decide +kernel)) ggX5_net_X1_toldKind
set_option maxRecDepth 20000 in
theorem ggX5_net_X5_fine : GoodIn wsX5_net wsX5_fine := goodIn_r _ [50, 51, 69, 70, 71, 72, 73, 74] (by decide +kernel) (by decide +kernel)
set_option maxRecDepth 20000 in
theorem gX5_net_X5_fine : GoodIn wsX5_net (wsV RX5 62 RX5 yX5_fine wsX5_fine) := goodIn_app (goodIn_of _ (by decide +kernel)) ggX5_net_X5_fine
theorem dX5_net_0 : decode cX5_net 0 = .ok (.iload_n 1, 1) := by decide +kernel
theorem dX5_net_1 : decode cX5_net 1 = .ok (.invokestatic 85, 3) := by decide +kernel
theorem dX5_net_4 : decode cX5_net 4 = .ok (.ifCond .eq 34, 3) := by decide +kernel
theorem dX5_net_7 : decode cX5_net 7 = .ok (.iload_n 2, 1) := by decide +kernel
theorem dX5_net_8 : decode cX5_net 8 = .ok (.iconst 1, 1) := by decide +kernel
theorem dX5_net_9 : decode cX5_net 9 = .ok (.bipush 12, 2) := by decide +kernel
theorem dX5_net_11 : decode cX5_net 11 = .ok (.invokestatic 50, 3) := by decide +kernel
theorem dX5_net_14 : decode cX5_net 14 = .ok (.ifCond .eq 24, 3) := by decide +kernel
theorem dX5_net_17 : decode cX5_net 17 = .ok (.iload_n 3, 1) := by decide +kernel
theorem dX5_net_18 : decode cX5_net 18 = .ok (.iconst 1, 1) := by decide +kernel
theorem dX5_net_19 : decode cX5_net 19 = .ok (.bipush 6, 2) := by decide +kernel
theorem dX5_net_21 : decode cX5_net 21 = .ok (.invokestatic 50, 3) := by decide +kernel
theorem dX5_net_24 : decode cX5_net 24 = .ok (.ifCond .eq 14, 3) := by decide +kernel
theorem dX5_net_27 : decode cX5_net 27 = .ok (.iload 4, 2) := by decide +kernel
theorem dX5_net_29 : decode cX5_net 29 = .ok (.iconst 1, 1) := by decide +kernel
theorem dX5_net_30 : decode cX5_net 30 = .ok (.bipush 6, 2) := by decide +kernel
theorem dX5_net_32 : decode cX5_net 32 = .ok (.invokestatic 50, 3) := by decide +kernel
theorem dX5_net_35 : decode cX5_net 35 = .ok (.ifCond .ne 6, 3) := by decide +kernel
theorem dX5_net_38 : decode cX5_net 38 = .ok (.ldc 54, 2) := by decide +kernel
theorem dX5_net_40 : decode cX5_net 40 = .ok (.ireturn, 1) := by decide +kernel
theorem dX5_net_41 : decode cX5_net 41 = .ok (.new 15, 3) := by decide +kernel
theorem dX5_net_44 : decode cX5_net 44 = .ok (.dup, 1) := by decide +kernel
theorem dX5_net_45 : decode cX5_net 45 = .ok (.iload_n 2, 1) := by decide +kernel
theorem dX5_net_46 : decode cX5_net 46 = .ok (.iload_n 3, 1) := by decide +kernel
theorem dX5_net_47 : decode cX5_net 47 = .ok (.iload 4, 2) := by decide +kernel
theorem dX5_net_49 : decode cX5_net 49 = .ok (.invokespecial 88, 3) := by decide +kernel
theorem dX5_net_52 : decode cX5_net 52 = .ok (.astore 5, 2) := by decide +kernel
theorem dX5_net_54 : decode cX5_net 54 = .ok (.aload_n 0, 1) := by decide +kernel
theorem dX5_net_55 : decode cX5_net 55 = .ok (.getfield 17, 3) := by decide +kernel
theorem dX5_net_58 : decode cX5_net 58 = .ok (.iload_n 1, 1) := by decide +kernel
theorem dX5_net_59 : decode cX5_net 59 = .ok (.aload 5, 2) := by decide +kernel
theorem dX5_net_61 : decode cX5_net 61 = .ok (.aastore, 1) := by decide +kernel
theorem dX5_net_62 : decode cX5_net 62 = .ok (.aload_n 0, 1) := by decide +kernel
theorem dX5_net_63 : decode cX5_net 63 = .ok (.aload 5, 2) := by decide +kernel
theorem dX5_net_65 : decode cX5_net 65 = .ok (.invokevirtual 91, 3) := by decide +kernel
theorem dX5_net_68 : decode cX5_net 68 = .ok (.invokevirtual 62, 3) := by decide +kernel
theorem dX5_net_71 : decode cX5_net 71 = .ok (.ireturn, 1) := by decide +kernel
set_option maxRecDepth 20000 in
theorem ggX5_clear_X5_isPlace : GoodIn wsX5_clear wsX5_isPlace := goodIn_r _ [6, 7, 8, 5, 9] (by decide +kernel) (by decide +kernel)
set_option maxRecDepth 20000 in
theorem gX5_clear_X5_isPlace : GoodIn wsX5_clear (va_wsS RX5 85 yX5_isPlace wsX5_isPlace) := goodIn_app (goodIn_of _ (by decide +kernel)) ggX5_clear_X5_isPlace
theorem dX5_clear_0 : decode cX5_clear 0 = .ok (.iload_n 1, 1) := by decide +kernel
theorem dX5_clear_1 : decode cX5_clear 1 = .ok (.invokestatic 85, 3) := by decide +kernel
theorem dX5_clear_4 : decode cX5_clear 4 = .ok (.ifCond .ne 6, 3) := by decide +kernel
theorem dX5_clear_7 : decode cX5_clear 7 = .ok (.ldc 54, 2) := by decide +kernel
theorem dX5_clear_9 : decode cX5_clear 9 = .ok (.ireturn, 1) := by decide +kernel
theorem dX5_clear_10 : decode cX5_clear 10 = .ok (.aload_n 0, 1) := by decide +kernel
theorem dX5_clear_11 : decode cX5_clear 11 = .ok (.getfield 17, 3) := by decide +kernel
theorem dX5_clear_14 : decode cX5_clear 14 = .ok (.iload_n 1, 1) := by decide +kernel
theorem dX5_clear_15 : decode cX5_clear 15 = .ok (.aaload, 1) := by decide +kernel
theorem dX5_clear_16 : decode cX5_clear 16 = .ok (.ifnull 7, 3) := by decide +kernel
theorem dX5_clear_19 : decode cX5_clear 19 = .ok (.iconst 1, 1) := by decide +kernel
theorem dX5_clear_20 : decode cX5_clear 20 = .ok (.goto 4, 3) := by decide +kernel
theorem dX5_clear_23 : decode cX5_clear 23 = .ok (.iconst 0, 1) := by decide +kernel
theorem dX5_clear_24 : decode cX5_clear 24 = .ok (.istore_n 2, 1) := by decide +kernel
theorem dX5_clear_25 : decode cX5_clear 25 = .ok (.aload_n 0, 1) := by decide +kernel
theorem dX5_clear_26 : decode cX5_clear 26 = .ok (.getfield 17, 3) := by decide +kernel
theorem dX5_clear_29 : decode cX5_clear 29 = .ok (.iload_n 1, 1) := by decide +kernel
theorem dX5_clear_30 : decode cX5_clear 30 = .ok (.aconst_null, 1) := by decide +kernel
theorem dX5_clear_31 : decode cX5_clear 31 = .ok (.aastore, 1) := by decide +kernel
theorem dX5_clear_32 : decode cX5_clear 32 = .ok (.iload_n 2, 1) := by decide +kernel
theorem dX5_clear_33 : decode cX5_clear 33 = .ok (.ifCond .eq 7, 3) := by decide +kernel
theorem dX5_clear_36 : decode cX5_clear 36 = .ok (.iconst 1, 1) := by decide +kernel
theorem dX5_clear_37 : decode cX5_clear 37 = .ok (.goto 4, 3) := by decide +kernel
theorem dX5_clear_40 : decode cX5_clear 40 = .ok (.iconst 0, 1) := by decide +kernel
theorem dX5_clear_41 : decode cX5_clear 41 = .ok (.ireturn, 1) := by decide +kernel
set_option maxRecDepth 20000 in
theorem ggX5_kind_X5_isPlace : GoodIn wsX5_kind wsX5_isPlace := goodIn_r _ [6, 7, 8, 5, 9] (by decide +kernel) (by decide +kernel)
set_option maxRecDepth 20000 in
theorem gX5_kind_X5_isPlace : GoodIn wsX5_kind (va_wsS RX5 85 yX5_isPlace wsX5_isPlace) := goodIn_app (goodIn_of _ (by decide +kernel)) ggX5_kind_X5_isPlace
set_option maxRecDepth 20000 in
theorem ggX5_kind_X5_found : GoodIn wsX5_kind wsX5_found := goodIn_r _ [13, 14, 15, 27, 28, 29, 30, 31, 32] (by decide +kernel) (by decide +kernel)
set_option maxRecDepth 20000 in
theorem gX5_kind_X5_found : GoodIn wsX5_kind (wsV RX5 55 RX5 yX5_found wsX5_found) := goodIn_app (goodIn_of _ (by decide +kernel)) ggX5_kind_X5_found
set_option maxRecDepth 20000 in
theorem ggX5_kind_X1_toldKind : GoodIn wsX5_kind wsX1_toldKind := goodIn_r _ [20, 21, 22, 33, 34, 35, 36, 37, 38, 39, 40, 41, 42, 43, 44, 45, 46, 47, 48, 49] (by decide +kernel) (by decide +kernel)
set_option maxRecDepth 20000 in
theorem gX5_kind_X1_toldKind : GoodIn wsX5_kind (wsV RX5 91 RX1 yX1_toldKind wsX1_toldKind) := goodIn_app (goodIn_of _ (by decide +kernel)) ggX5_kind_X1_toldKind
set_option maxRecDepth 20000 in
theorem ggX5_kind_X5_fine : GoodIn wsX5_kind wsX5_fine := goodIn_r _ [26, 14, 27, 28, 29, 30, 31, 32] (by decide +kernel) (by decide +kernel)
set_option maxRecDepth 20000 in
theorem gX5_kind_X5_fine : GoodIn wsX5_kind (wsV RX5 62 RX5 yX5_fine wsX5_fine) := goodIn_app (goodIn_of _ (by decide +kernel)) ggX5_kind_X5_fine
theorem dX5_kind_0 : decode cX5_kind 0 = .ok (.iload_n 1, 1) := by decide +kernel
theorem dX5_kind_1 : decode cX5_kind 1 = .ok (.invokestatic 85, 3) := by decide +kernel
theorem dX5_kind_4 : decode cX5_kind 4 = .ok (.ifCond .ne 6, 3) := by decide +kernel
theorem dX5_kind_7 : decode cX5_kind 7 = .ok (.ldc 54, 2) := by decide +kernel
theorem dX5_kind_9 : decode cX5_kind 9 = .ok (.ireturn, 1) := by decide +kernel
theorem dX5_kind_10 : decode cX5_kind 10 = .ok (.aload_n 0, 1) := by decide +kernel
theorem dX5_kind_11 : decode cX5_kind 11 = .ok (.getfield 17, 3) := by decide +kernel
theorem dX5_kind_14 : decode cX5_kind 14 = .ok (.iload_n 1, 1) := by decide +kernel
theorem dX5_kind_15 : decode cX5_kind 15 = .ok (.aaload, 1) := by decide +kernel
theorem dX5_kind_16 : decode cX5_kind 16 = .ok (.astore_n 2, 1) := by decide +kernel
theorem dX5_kind_17 : decode cX5_kind 17 = .ok (.aload_n 2, 1) := by decide +kernel
theorem dX5_kind_18 : decode cX5_kind 18 = .ok (.ifnonnull 9, 3) := by decide +kernel
theorem dX5_kind_21 : decode cX5_kind 21 = .ok (.aload_n 0, 1) := by decide +kernel
theorem dX5_kind_22 : decode cX5_kind 22 = .ok (.iconst 1, 1) := by decide +kernel
theorem dX5_kind_23 : decode cX5_kind 23 = .ok (.invokevirtual 55, 3) := by decide +kernel
theorem dX5_kind_26 : decode cX5_kind 26 = .ok (.ireturn, 1) := by decide +kernel
theorem dX5_kind_27 : decode cX5_kind 27 = .ok (.aload_n 0, 1) := by decide +kernel
theorem dX5_kind_28 : decode cX5_kind 28 = .ok (.aload_n 2, 1) := by decide +kernel
theorem dX5_kind_29 : decode cX5_kind 29 = .ok (.invokevirtual 91, 3) := by decide +kernel
theorem dX5_kind_32 : decode cX5_kind 32 = .ok (.invokevirtual 62, 3) := by decide +kernel
theorem dX5_kind_35 : decode cX5_kind 35 = .ok (.ireturn, 1) := by decide +kernel
set_option maxRecDepth 20000 in
theorem ggX5_is_X5_isPlace : GoodIn wsX5_is wsX5_isPlace := goodIn_r _ [6, 7, 8, 5, 9] (by decide +kernel) (by decide +kernel)
set_option maxRecDepth 20000 in
theorem gX5_is_X5_isPlace : GoodIn wsX5_is (va_wsS RX5 85 yX5_isPlace wsX5_isPlace) := goodIn_app (goodIn_of _ (by decide +kernel)) ggX5_is_X5_isPlace
set_option maxRecDepth 20000 in
theorem ggX5_is_X5_isKind : GoodIn wsX5_is wsX5_isKind := goodIn_r _ [12, 7, 8, 5, 9] (by decide +kernel) (by decide +kernel)
set_option maxRecDepth 20000 in
theorem gX5_is_X5_isKind : GoodIn wsX5_is (va_wsS RX5 95 yX5_isKind wsX5_isKind) := goodIn_app (goodIn_of _ (by decide +kernel)) ggX5_is_X5_isKind
set_option maxRecDepth 20000 in
theorem ggX5_is_X1_toldKind : GoodIn wsX5_is wsX1_toldKind := goodIn_r _ [17, 18, 19, 29, 30, 31, 32, 33, 34, 35, 36, 37, 38, 39, 40, 41, 42, 43, 44, 45] (by decide +kernel) (by decide +kernel)
set_option maxRecDepth 20000 in
theorem gX5_is_X1_toldKind : GoodIn wsX5_is (wsV RX5 91 RX1 yX1_toldKind wsX1_toldKind) := goodIn_app (goodIn_of _ (by decide +kernel)) ggX5_is_X1_toldKind
set_option maxRecDepth 20000 in
theorem ggX5_is_X5_countsAs : GoodIn wsX5_is wsX5_countsAs := goodIn_r _ [22] (by decide +kernel) (by decide +kernel)
set_option maxRecDepth 20000 in
theorem gX5_is_X5_countsAs : GoodIn wsX5_is (va_wsS RX5 98 yX5_countsAs wsX5_countsAs) := goodIn_app (goodIn_of _ (by decide +kernel)) ggX5_is_X5_countsAs
theorem dX5_is_0 : decode cX5_is 0 = .ok (.iload_n 1, 1) := by decide +kernel
theorem dX5_is_1 : decode cX5_is 1 = .ok (.invokestatic 85, 3) := by decide +kernel
theorem dX5_is_4 : decode cX5_is 4 = .ok (.ifCond .eq 10, 3) := by decide +kernel
theorem dX5_is_7 : decode cX5_is 7 = .ok (.iload_n 2, 1) := by decide +kernel
theorem dX5_is_8 : decode cX5_is 8 = .ok (.invokestatic 95, 3) := by decide +kernel
theorem dX5_is_11 : decode cX5_is 11 = .ok (.ifCond .ne 6, 3) := by decide +kernel
theorem dX5_is_14 : decode cX5_is 14 = .ok (.ldc 54, 2) := by decide +kernel
theorem dX5_is_16 : decode cX5_is 16 = .ok (.ireturn, 1) := by decide +kernel
theorem dX5_is_17 : decode cX5_is 17 = .ok (.aload_n 0, 1) := by decide +kernel
theorem dX5_is_18 : decode cX5_is 18 = .ok (.getfield 17, 3) := by decide +kernel
theorem dX5_is_21 : decode cX5_is 21 = .ok (.iload_n 1, 1) := by decide +kernel
theorem dX5_is_22 : decode cX5_is 22 = .ok (.aaload, 1) := by decide +kernel
theorem dX5_is_23 : decode cX5_is 23 = .ok (.astore_n 3, 1) := by decide +kernel
theorem dX5_is_24 : decode cX5_is 24 = .ok (.aload_n 3, 1) := by decide +kernel
theorem dX5_is_25 : decode cX5_is 25 = .ok (.ifnull 18, 3) := by decide +kernel
theorem dX5_is_28 : decode cX5_is 28 = .ok (.aload_n 3, 1) := by decide +kernel
theorem dX5_is_29 : decode cX5_is 29 = .ok (.invokevirtual 91, 3) := by decide +kernel
theorem dX5_is_32 : decode cX5_is 32 = .ok (.iload_n 2, 1) := by decide +kernel
theorem dX5_is_33 : decode cX5_is 33 = .ok (.invokestatic 98, 3) := by decide +kernel
theorem dX5_is_36 : decode cX5_is 36 = .ok (.ifCond .eq 7, 3) := by decide +kernel
theorem dX5_is_39 : decode cX5_is 39 = .ok (.iconst 1, 1) := by decide +kernel
theorem dX5_is_40 : decode cX5_is 40 = .ok (.goto 4, 3) := by decide +kernel
theorem dX5_is_43 : decode cX5_is 43 = .ok (.iconst 0, 1) := by decide +kernel
theorem dX5_is_44 : decode cX5_is 44 = .ok (.ireturn, 1) := by decide +kernel
set_option maxRecDepth 20000 in
theorem ggX5_as_X5_isPlace : GoodIn wsX5_as wsX5_isPlace := goodIn_r _ [7, 8, 9, 6, 10] (by decide +kernel) (by decide +kernel)
set_option maxRecDepth 20000 in
theorem gX5_as_X5_isPlace : GoodIn wsX5_as (va_wsS RX5 85 yX5_isPlace wsX5_isPlace) := goodIn_app (goodIn_of _ (by decide +kernel)) ggX5_as_X5_isPlace
set_option maxRecDepth 20000 in
theorem ggX5_as_X5_isKind : GoodIn wsX5_as wsX5_isKind := goodIn_r _ [13, 8, 9, 6, 10] (by decide +kernel) (by decide +kernel)
set_option maxRecDepth 20000 in
theorem gX5_as_X5_isKind : GoodIn wsX5_as (va_wsS RX5 95 yX5_isKind wsX5_isKind) := goodIn_app (goodIn_of _ (by decide +kernel)) ggX5_as_X5_isKind
set_option maxRecDepth 20000 in
theorem ggX5_as_X5_found : GoodIn wsX5_as wsX5_found := goodIn_r _ [17, 18, 19, 34, 35, 36, 37, 38, 39] (by decide +kernel) (by decide +kernel)
set_option maxRecDepth 20000 in
theorem gX5_as_X5_found : GoodIn wsX5_as (wsV RX5 55 RX5 yX5_found wsX5_found) := goodIn_app (goodIn_of _ (by decide +kernel)) ggX5_as_X5_found
set_option maxRecDepth 20000 in
theorem ggX5_as_X1_toldKind : GoodIn wsX5_as wsX1_toldKind := goodIn_r _ [24, 25, 26, 40, 41, 42, 43, 44, 45, 46, 47, 48, 49, 50, 51, 52, 53, 54, 55, 56] (by decide +kernel) (by decide +kernel)
set_option maxRecDepth 20000 in
theorem gX5_as_X1_toldKind : GoodIn wsX5_as (wsV RX5 91 RX1 yX1_toldKind wsX1_toldKind) := goodIn_app (goodIn_of _ (by decide +kernel)) ggX5_as_X1_toldKind
set_option maxRecDepth 20000 in
theorem ggX5_as_X5_countsAs : GoodIn wsX5_as wsX5_countsAs := goodIn_r _ [29] (by decide +kernel) (by decide +kernel)
set_option maxRecDepth 20000 in
theorem gX5_as_X5_countsAs : GoodIn wsX5_as (va_wsS RX5 98 yX5_countsAs wsX5_countsAs) := goodIn_app (goodIn_of _ (by decide +kernel)) ggX5_as_X5_countsAs
set_option maxRecDepth 20000 in
theorem ggX5_as_X5_fine : GoodIn wsX5_as wsX5_fine := goodIn_r _ [33, 18, 34, 35, 36, 37, 38, 39] (by decide +kernel) (by decide +kernel)
set_option maxRecDepth 20000 in
theorem gX5_as_X5_fine : GoodIn wsX5_as (wsV RX5 62 RX5 yX5_fine wsX5_fine) := goodIn_app (goodIn_of _ (by decide +kernel)) ggX5_as_X5_fine
theorem dX5_as_0 : decode cX5_as 0 = .ok (.iload_n 1, 1) := by decide +kernel
theorem dX5_as_1 : decode cX5_as 1 = .ok (.invokestatic 85, 3) := by decide +kernel
theorem dX5_as_4 : decode cX5_as 4 = .ok (.ifCond .eq 10, 3) := by decide +kernel
theorem dX5_as_7 : decode cX5_as 7 = .ok (.iload_n 2, 1) := by decide +kernel
theorem dX5_as_8 : decode cX5_as 8 = .ok (.invokestatic 95, 3) := by decide +kernel
theorem dX5_as_11 : decode cX5_as 11 = .ok (.ifCond .ne 6, 3) := by decide +kernel
theorem dX5_as_14 : decode cX5_as 14 = .ok (.ldc 54, 2) := by decide +kernel
theorem dX5_as_16 : decode cX5_as 16 = .ok (.ireturn, 1) := by decide +kernel
theorem dX5_as_17 : decode cX5_as 17 = .ok (.aload_n 0, 1) := by decide +kernel
theorem dX5_as_18 : decode cX5_as 18 = .ok (.getfield 17, 3) := by decide +kernel
theorem dX5_as_21 : decode cX5_as 21 = .ok (.iload_n 1, 1) := by decide +kernel
theorem dX5_as_22 : decode cX5_as 22 = .ok (.aaload, 1) := by decide +kernel
theorem dX5_as_23 : decode cX5_as 23 = .ok (.astore_n 3, 1) := by decide +kernel
theorem dX5_as_24 : decode cX5_as 24 = .ok (.aload_n 3, 1) := by decide +kernel
theorem dX5_as_25 : decode cX5_as 25 = .ok (.ifnonnull 9, 3) := by decide +kernel
theorem dX5_as_28 : decode cX5_as 28 = .ok (.aload_n 0, 1) := by decide +kernel
theorem dX5_as_29 : decode cX5_as 29 = .ok (.iconst 1, 1) := by decide +kernel
theorem dX5_as_30 : decode cX5_as 30 = .ok (.invokevirtual 55, 3) := by decide +kernel
theorem dX5_as_33 : decode cX5_as 33 = .ok (.ireturn, 1) := by decide +kernel
theorem dX5_as_34 : decode cX5_as 34 = .ok (.aload_n 3, 1) := by decide +kernel
theorem dX5_as_35 : decode cX5_as 35 = .ok (.invokevirtual 91, 3) := by decide +kernel
theorem dX5_as_38 : decode cX5_as 38 = .ok (.iload_n 2, 1) := by decide +kernel
theorem dX5_as_39 : decode cX5_as 39 = .ok (.invokestatic 98, 3) := by decide +kernel
theorem dX5_as_42 : decode cX5_as 42 = .ok (.ifCond .ne 9, 3) := by decide +kernel
theorem dX5_as_45 : decode cX5_as 45 = .ok (.aload_n 0, 1) := by decide +kernel
theorem dX5_as_46 : decode cX5_as 46 = .ok (.iconst 3, 1) := by decide +kernel
theorem dX5_as_47 : decode cX5_as 47 = .ok (.invokevirtual 55, 3) := by decide +kernel
theorem dX5_as_50 : decode cX5_as 50 = .ok (.ireturn, 1) := by decide +kernel
theorem dX5_as_51 : decode cX5_as 51 = .ok (.aload_n 0, 1) := by decide +kernel
theorem dX5_as_52 : decode cX5_as 52 = .ok (.aload_n 3, 1) := by decide +kernel
theorem dX5_as_53 : decode cX5_as 53 = .ok (.getfield 101, 3) := by decide +kernel
theorem dX5_as_56 : decode cX5_as 56 = .ok (.invokevirtual 62, 3) := by decide +kernel
theorem dX5_as_59 : decode cX5_as 59 = .ok (.ireturn, 1) := by decide +kernel
set_option maxRecDepth 20000 in
theorem ggX5_ask_X5_isPlace : GoodIn wsX5_ask wsX5_isPlace := goodIn_r _ [7, 8, 9, 6, 10] (by decide +kernel) (by decide +kernel)
set_option maxRecDepth 20000 in
theorem gX5_ask_X5_isPlace : GoodIn wsX5_ask (va_wsS RX5 85 yX5_isPlace wsX5_isPlace) := goodIn_app (goodIn_of _ (by decide +kernel)) ggX5_ask_X5_isPlace
set_option maxRecDepth 20000 in
theorem ggX5_ask_X5_within : GoodIn wsX5_ask wsX5_within := goodIn_r _ [10] (by decide +kernel) (by decide +kernel)
set_option maxRecDepth 20000 in
theorem gX5_ask_X5_within : GoodIn wsX5_ask (va_wsS RX5 50 yX5_within wsX5_within) := goodIn_app (goodIn_of _ (by decide +kernel)) ggX5_ask_X5_within
set_option maxRecDepth 20000 in
theorem ggX5_ask_X0_emptyTrace : GoodIn wsX5_ask wsX0_emptyTrace := goodIn_r _ [15, 16, 84, 85] (by decide +kernel) (by decide +kernel)
set_option maxRecDepth 20000 in
theorem gX5_ask_X0_emptyTrace : GoodIn wsX5_ask (wsV RX5 104 RX0 yX0_emptyTrace wsX0_emptyTrace) := goodIn_app (goodIn_of _ (by decide +kernel)) ggX5_ask_X0_emptyTrace
set_option maxRecDepth 20000 in
theorem ggX5_ask_X5_found : GoodIn wsX5_ask wsX5_found := goodIn_r _ [20, 21, 22, 78, 79, 80, 81, 82, 83] (by decide +kernel) (by decide +kernel)
set_option maxRecDepth 20000 in
theorem gX5_ask_X5_found : GoodIn wsX5_ask (wsV RX5 55 RX5 yX5_found wsX5_found) := goodIn_app (goodIn_of _ (by decide +kernel)) ggX5_ask_X5_found
set_option maxRecDepth 20000 in
theorem ggX5_ask_X0_sizeOf : GoodIn wsX5_ask wsX0_sizeOf := goodIn_r _ [26, 27, 28, 29, 30, 31, 32, 33, 34, 35, 36, 14, 37, 38, 39, 40, 41, 42, 16, 43, 44, 45, 46, 47, 48, 49, 50, 51, 52, 53, 54, 55, 56, 57, 58, 59, 60, 61, 62, 63, 64, 65, 86, 87, 88, 89, 90, 91, 92, 93, 94, 95, 96, 97, 98, 99, 100, 101, 102, 84, 85] (by decide +kernel) (by decide +kernel)
set_option maxRecDepth 20000 in
theorem gX5_ask_X0_sizeOf : GoodIn wsX5_ask (wsV RX5 107 RX0 yX0_sizeOf wsX0_sizeOf) := goodIn_app (goodIn_of _ (by decide +kernel)) ggX5_ask_X0_sizeOf
set_option maxRecDepth 20000 in
theorem ggX5_ask_X0_markOf : GoodIn wsX5_ask wsX0_markOf := goodIn_r _ [69, 27, 28, 29, 30, 31, 32, 33, 53, 54, 55, 14, 56, 39, 40, 41, 42, 16, 43, 57, 58, 59, 60, 61, 70, 71, 72, 73, 62, 63, 64, 65, 44, 45, 46, 47, 48, 86, 87, 88, 89, 90, 91, 92, 93, 94, 95, 96, 97, 98, 99, 100, 101, 102, 84, 85] (by decide +kernel) (by decide +kernel)
set_option maxRecDepth 20000 in
theorem gX5_ask_X0_markOf : GoodIn wsX5_ask (wsV RX5 111 RX0 yX0_markOf wsX0_markOf) := goodIn_app (goodIn_of _ (by decide +kernel)) ggX5_ask_X0_markOf
set_option maxRecDepth 20000 in
theorem ggX5_ask_X5_fine : GoodIn wsX5_ask wsX5_fine := goodIn_r _ [77, 21, 78, 79, 80, 81, 82, 83] (by decide +kernel) (by decide +kernel)
set_option maxRecDepth 20000 in
theorem gX5_ask_X5_fine : GoodIn wsX5_ask (wsV RX5 62 RX5 yX5_fine wsX5_fine) := goodIn_app (goodIn_of _ (by decide +kernel)) ggX5_ask_X5_fine
theorem dX5_ask_0 : decode cX5_ask 0 = .ok (.iload_n 1, 1) := by decide +kernel
theorem dX5_ask_1 : decode cX5_ask 1 = .ok (.invokestatic 85, 3) := by decide +kernel
theorem dX5_ask_4 : decode cX5_ask 4 = .ok (.ifCond .eq 12, 3) := by decide +kernel
theorem dX5_ask_7 : decode cX5_ask 7 = .ok (.iload_n 2, 1) := by decide +kernel
theorem dX5_ask_8 : decode cX5_ask 8 = .ok (.iconst 0, 1) := by decide +kernel
theorem dX5_ask_9 : decode cX5_ask 9 = .ok (.iconst 1, 1) := by decide +kernel
theorem dX5_ask_10 : decode cX5_ask 10 = .ok (.invokestatic 50, 3) := by decide +kernel
theorem dX5_ask_13 : decode cX5_ask 13 = .ok (.ifCond .ne 6, 3) := by decide +kernel
theorem dX5_ask_16 : decode cX5_ask 16 = .ok (.ldc 54, 2) := by decide +kernel
theorem dX5_ask_18 : decode cX5_ask 18 = .ok (.ireturn, 1) := by decide +kernel
theorem dX5_ask_19 : decode cX5_ask 19 = .ok (.aload_n 0, 1) := by decide +kernel
theorem dX5_ask_20 : decode cX5_ask 20 = .ok (.getfield 24, 3) := by decide +kernel
theorem dX5_ask_23 : decode cX5_ask 23 = .ok (.invokevirtual 104, 3) := by decide +kernel
theorem dX5_ask_26 : decode cX5_ask 26 = .ok (.aload_n 0, 1) := by decide +kernel
theorem dX5_ask_27 : decode cX5_ask 27 = .ok (.getfield 17, 3) := by decide +kernel
theorem dX5_ask_30 : decode cX5_ask 30 = .ok (.iload_n 1, 1) := by decide +kernel
theorem dX5_ask_31 : decode cX5_ask 31 = .ok (.aaload, 1) := by decide +kernel
theorem dX5_ask_32 : decode cX5_ask 32 = .ok (.astore_n 3, 1) := by decide +kernel
theorem dX5_ask_33 : decode cX5_ask 33 = .ok (.aload_n 3, 1) := by decide +kernel
theorem dX5_ask_34 : decode cX5_ask 34 = .ok (.ifnonnull 9, 3) := by decide +kernel
theorem dX5_ask_37 : decode cX5_ask 37 = .ok (.aload_n 0, 1) := by decide +kernel
theorem dX5_ask_38 : decode cX5_ask 38 = .ok (.iconst 1, 1) := by decide +kernel
theorem dX5_ask_39 : decode cX5_ask 39 = .ok (.invokevirtual 55, 3) := by decide +kernel
theorem dX5_ask_42 : decode cX5_ask 42 = .ok (.ireturn, 1) := by decide +kernel
theorem dX5_ask_43 : decode cX5_ask 43 = .ok (.aload_n 0, 1) := by decide +kernel
theorem dX5_ask_44 : decode cX5_ask 44 = .ok (.iload_n 2, 1) := by decide +kernel
theorem dX5_ask_45 : decode cX5_ask 45 = .ok (.ifCond .ne 14, 3) := by decide +kernel
theorem dX5_ask_48 : decode cX5_ask 48 = .ok (.aload_n 0, 1) := by decide +kernel
theorem dX5_ask_49 : decode cX5_ask 49 = .ok (.getfield 24, 3) := by decide +kernel
theorem dX5_ask_52 : decode cX5_ask 52 = .ok (.aload_n 3, 1) := by decide +kernel
theorem dX5_ask_53 : decode cX5_ask 53 = .ok (.invokevirtual 107, 3) := by decide +kernel
theorem dX5_ask_56 : decode cX5_ask 56 = .ok (.goto 11, 3) := by decide +kernel
theorem dX5_ask_59 : decode cX5_ask 59 = .ok (.aload_n 0, 1) := by decide +kernel
theorem dX5_ask_60 : decode cX5_ask 60 = .ok (.getfield 24, 3) := by decide +kernel
theorem dX5_ask_63 : decode cX5_ask 63 = .ok (.aload_n 3, 1) := by decide +kernel
theorem dX5_ask_64 : decode cX5_ask 64 = .ok (.invokevirtual 111, 3) := by decide +kernel
theorem dX5_ask_67 : decode cX5_ask 67 = .ok (.invokevirtual 62, 3) := by decide +kernel
theorem dX5_ask_70 : decode cX5_ask 70 = .ok (.ireturn, 1) := by decide +kernel
set_option maxRecDepth 20000 in
theorem ggX5_trace_X0_traced : GoodIn wsX5_trace wsX0_traced := goodIn_r _ [6, 7, 8, 9, 10, 11, 12, 19, 20] (by decide +kernel) (by decide +kernel)
set_option maxRecDepth 20000 in
theorem gX5_trace_X0_traced : GoodIn wsX5_trace (wsV RX5 114 RX0 yX0_traced wsX0_traced) := goodIn_app (goodIn_of _ (by decide +kernel)) ggX5_trace_X0_traced
theorem dX5_trace_0 : decode cX5_trace 0 = .ok (.aload_n 0, 1) := by decide +kernel
theorem dX5_trace_1 : decode cX5_trace 1 = .ok (.getfield 24, 3) := by decide +kernel
theorem dX5_trace_4 : decode cX5_trace 4 = .ok (.iload_n 1, 1) := by decide +kernel
theorem dX5_trace_5 : decode cX5_trace 5 = .ok (.invokevirtual 114, 3) := by decide +kernel
theorem dX5_trace_8 : decode cX5_trace 8 = .ok (.ireturn, 1) := by decide +kernel
set_option maxRecDepth 20000 in
theorem ggX5_call_X5_isPlace : GoodIn wsX5_call wsX5_isPlace := goodIn_r _ [7, 8, 9, 6, 10] (by decide +kernel) (by decide +kernel)
set_option maxRecDepth 20000 in
theorem gX5_call_X5_isPlace : GoodIn wsX5_call (va_wsS RX5 85 yX5_isPlace wsX5_isPlace) := goodIn_app (goodIn_of _ (by decide +kernel)) ggX5_call_X5_isPlace
set_option maxRecDepth 20000 in
theorem ggX5_call_X5_within : GoodIn wsX5_call wsX5_within := goodIn_r _ [10] (by decide +kernel) (by decide +kernel)
set_option maxRecDepth 20000 in
theorem gX5_call_X5_within : GoodIn wsX5_call (va_wsS RX5 50 yX5_within wsX5_within) := goodIn_app (goodIn_of _ (by decide +kernel)) ggX5_call_X5_within
set_option maxRecDepth 20000 in
theorem ggX5_call_X5_found : GoodIn wsX5_call wsX5_found := goodIn_r _ [14, 15, 16, 89, 90, 91, 92, 93, 94] (by decide +kernel) (by decide +kernel)
set_option maxRecDepth 20000 in
theorem gX5_call_X5_found : GoodIn wsX5_call (wsV RX5 55 RX5 yX5_found wsX5_found) := goodIn_app (goodIn_of _ (by decide +kernel)) ggX5_call_X5_found
set_option maxRecDepth 20000 in
theorem ggX5_call_X1_hasLine : GoodIn wsX5_call wsX1_hasLine := goodIn_r _ [21, 22, 9, 6, 10, 95, 96, 97, 98, 99, 100, 101, 102, 103, 104, 105, 106, 107, 108, 109, 110, 111] (by decide +kernel) (by decide +kernel)
set_option maxRecDepth 20000 in
theorem gX5_call_X1_hasLine : GoodIn wsX5_call (wsV RX5 117 RX1 yX1_hasLine wsX1_hasLine) := goodIn_app (goodIn_of _ (by decide +kernel)) ggX5_call_X1_hasLine
set_option maxRecDepth 20000 in
theorem ggX5_call_X1_isBusy : GoodIn wsX5_call wsX1_isBusy := goodIn_r _ [26, 27, 28, 29, 95, 96, 97, 98, 99, 100, 101, 102, 103, 104, 105, 106, 107, 108, 109, 110, 111] (by decide +kernel) (by decide +kernel)
set_option maxRecDepth 20000 in
theorem gX5_call_X1_isBusy : GoodIn wsX5_call (wsV RX5 120 RX1 yX1_isBusy wsX1_isBusy) := goodIn_app (goodIn_of _ (by decide +kernel)) ggX5_call_X1_isBusy
set_option maxRecDepth 20000 in
theorem ggX5_call_X1_setUp : GoodIn wsX5_call wsX1_setUp := goodIn_r _ [33, 28, 34, 35, 27, 29, 36, 37, 38, 39, 20, 40, 41, 42, 43, 44, 45, 46, 47, 48, 49, 50, 51, 52, 53, 54, 55, 56, 57, 58, 59, 60, 61, 62, 63, 64, 65, 66, 67, 68, 69, 70, 22, 71, 72, 73, 74, 75, 76, 77, 78, 79, 80, 81, 82, 83, 84, 95, 96, 97, 98, 99, 100, 101, 102, 103, 104, 105, 106, 107, 108, 109, 110, 111] (by decide +kernel) (by decide +kernel)
set_option maxRecDepth 20000 in
theorem gX5_call_X1_setUp : GoodIn wsX5_call (wsV RX5 124 RX1 yX1_setUp wsX1_setUp) := goodIn_app (goodIn_of _ (by decide +kernel)) ggX5_call_X1_setUp
set_option maxRecDepth 20000 in
theorem ggX5_call_X5_fine : GoodIn wsX5_call wsX5_fine := goodIn_r _ [88, 15, 89, 90, 91, 92, 93, 94] (by decide +kernel) (by decide +kernel)
set_option maxRecDepth 20000 in
theorem gX5_call_X5_fine : GoodIn wsX5_call (wsV RX5 62 RX5 yX5_fine wsX5_fine) := goodIn_app (goodIn_of _ (by decide +kernel)) ggX5_call_X5_fine
theorem dX5_call_0 : decode cX5_call 0 = .ok (.iload_n 1, 1) := by decide +kernel
theorem dX5_call_1 : decode cX5_call 1 = .ok (.invokestatic 85, 3) := by decide +kernel
theorem dX5_call_4 : decode cX5_call 4 = .ok (.ifCond .eq 13, 3) := by decide +kernel
theorem dX5_call_7 : decode cX5_call 7 = .ok (.iload 4, 2) := by decide +kernel
theorem dX5_call_9 : decode cX5_call 9 = .ok (.iconst 0, 1) := by decide +kernel
theorem dX5_call_10 : decode cX5_call 10 = .ok (.iconst 1, 1) := by decide +kernel
theorem dX5_call_11 : decode cX5_call 11 = .ok (.invokestatic 50, 3) := by decide +kernel
theorem dX5_call_14 : decode cX5_call 14 = .ok (.ifCond .ne 6, 3) := by decide +kernel
theorem dX5_call_17 : decode cX5_call 17 = .ok (.ldc 54, 2) := by decide +kernel
theorem dX5_call_19 : decode cX5_call 19 = .ok (.ireturn, 1) := by decide +kernel
theorem dX5_call_20 : decode cX5_call 20 = .ok (.aload_n 0, 1) := by decide +kernel
theorem dX5_call_21 : decode cX5_call 21 = .ok (.getfield 17, 3) := by decide +kernel
theorem dX5_call_24 : decode cX5_call 24 = .ok (.iload_n 1, 1) := by decide +kernel
theorem dX5_call_25 : decode cX5_call 25 = .ok (.aaload, 1) := by decide +kernel
theorem dX5_call_26 : decode cX5_call 26 = .ok (.astore 5, 2) := by decide +kernel
theorem dX5_call_28 : decode cX5_call 28 = .ok (.aload 5, 2) := by decide +kernel
theorem dX5_call_30 : decode cX5_call 30 = .ok (.ifnonnull 9, 3) := by decide +kernel
theorem dX5_call_33 : decode cX5_call 33 = .ok (.aload_n 0, 1) := by decide +kernel
theorem dX5_call_34 : decode cX5_call 34 = .ok (.iconst 1, 1) := by decide +kernel
theorem dX5_call_35 : decode cX5_call 35 = .ok (.invokevirtual 55, 3) := by decide +kernel
theorem dX5_call_38 : decode cX5_call 38 = .ok (.ireturn, 1) := by decide +kernel
theorem dX5_call_39 : decode cX5_call 39 = .ok (.aload 5, 2) := by decide +kernel
theorem dX5_call_41 : decode cX5_call 41 = .ok (.iload_n 2, 1) := by decide +kernel
theorem dX5_call_42 : decode cX5_call 42 = .ok (.invokevirtual 117, 3) := by decide +kernel
theorem dX5_call_45 : decode cX5_call 45 = .ok (.ifCond .eq 12, 3) := by decide +kernel
theorem dX5_call_48 : decode cX5_call 48 = .ok (.aload 5, 2) := by decide +kernel
theorem dX5_call_50 : decode cX5_call 50 = .ok (.iload_n 3, 1) := by decide +kernel
theorem dX5_call_51 : decode cX5_call 51 = .ok (.invokevirtual 117, 3) := by decide +kernel
theorem dX5_call_54 : decode cX5_call 54 = .ok (.ifCond .ne 6, 3) := by decide +kernel
theorem dX5_call_57 : decode cX5_call 57 = .ok (.ldc 54, 2) := by decide +kernel
theorem dX5_call_59 : decode cX5_call 59 = .ok (.ireturn, 1) := by decide +kernel
theorem dX5_call_60 : decode cX5_call 60 = .ok (.aload 5, 2) := by decide +kernel
theorem dX5_call_62 : decode cX5_call 62 = .ok (.iload_n 2, 1) := by decide +kernel
theorem dX5_call_63 : decode cX5_call 63 = .ok (.iload_n 3, 1) := by decide +kernel
theorem dX5_call_64 : decode cX5_call 64 = .ok (.invokevirtual 120, 3) := by decide +kernel
theorem dX5_call_67 : decode cX5_call 67 = .ok (.ifCond .eq 6, 3) := by decide +kernel
theorem dX5_call_70 : decode cX5_call 70 = .ok (.ldc 123, 2) := by decide +kernel
theorem dX5_call_72 : decode cX5_call 72 = .ok (.ireturn, 1) := by decide +kernel
theorem dX5_call_73 : decode cX5_call 73 = .ok (.aload_n 0, 1) := by decide +kernel
theorem dX5_call_74 : decode cX5_call 74 = .ok (.aload 5, 2) := by decide +kernel
theorem dX5_call_76 : decode cX5_call 76 = .ok (.iload_n 2, 1) := by decide +kernel
theorem dX5_call_77 : decode cX5_call 77 = .ok (.iload_n 3, 1) := by decide +kernel
theorem dX5_call_78 : decode cX5_call 78 = .ok (.iload 4, 2) := by decide +kernel
theorem dX5_call_80 : decode cX5_call 80 = .ok (.iconst 1, 1) := by decide +kernel
theorem dX5_call_81 : decode cX5_call 81 = .ok (.if_icmp .ne 7, 3) := by decide +kernel
theorem dX5_call_84 : decode cX5_call 84 = .ok (.iconst 1, 1) := by decide +kernel
theorem dX5_call_85 : decode cX5_call 85 = .ok (.goto 4, 3) := by decide +kernel
theorem dX5_call_88 : decode cX5_call 88 = .ok (.iconst 0, 1) := by decide +kernel
theorem dX5_call_89 : decode cX5_call 89 = .ok (.invokevirtual 124, 3) := by decide +kernel
theorem dX5_call_92 : decode cX5_call 92 = .ok (.invokevirtual 62, 3) := by decide +kernel
theorem dX5_call_95 : decode cX5_call 95 = .ok (.ireturn, 1) := by decide +kernel
set_option maxRecDepth 20000 in
theorem ggX5_end_X5_isPlace : GoodIn wsX5_end wsX5_isPlace := goodIn_r _ [7, 8, 9, 6, 10] (by decide +kernel) (by decide +kernel)
set_option maxRecDepth 20000 in
theorem gX5_end_X5_isPlace : GoodIn wsX5_end (va_wsS RX5 85 yX5_isPlace wsX5_isPlace) := goodIn_app (goodIn_of _ (by decide +kernel)) ggX5_end_X5_isPlace
set_option maxRecDepth 20000 in
theorem ggX5_end_X5_found : GoodIn wsX5_end wsX5_found := goodIn_r _ [14, 15, 16, 48, 49, 50, 51, 52, 53] (by decide +kernel) (by decide +kernel)
set_option maxRecDepth 20000 in
theorem gX5_end_X5_found : GoodIn wsX5_end (wsV RX5 55 RX5 yX5_found wsX5_found) := goodIn_app (goodIn_of _ (by decide +kernel)) ggX5_end_X5_found
set_option maxRecDepth 20000 in
theorem ggX5_end_X1_hasLine : GoodIn wsX5_end wsX1_hasLine := goodIn_r _ [21, 22, 9, 6, 10, 54, 55, 56, 57, 58, 59, 60, 61, 62, 63, 64, 65, 66, 67, 68, 69, 70] (by decide +kernel) (by decide +kernel)
set_option maxRecDepth 20000 in
theorem gX5_end_X1_hasLine : GoodIn wsX5_end (wsV RX5 117 RX1 yX1_hasLine wsX1_hasLine) := goodIn_app (goodIn_of _ (by decide +kernel)) ggX5_end_X1_hasLine
set_option maxRecDepth 20000 in
theorem ggX5_end_X1_takeOff : GoodIn wsX5_end wsX1_takeOff := goodIn_r _ [26, 27, 28, 29, 30, 31, 32, 33, 20, 34, 35, 36, 37, 38, 39, 40, 41, 42, 43, 54, 55, 56, 57, 58, 59, 60, 61, 62, 63, 64, 65, 66, 67, 68, 69, 70] (by decide +kernel) (by decide +kernel)
set_option maxRecDepth 20000 in
theorem gX5_end_X1_takeOff : GoodIn wsX5_end (wsV RX5 131 RX1 yX1_takeOff wsX1_takeOff) := goodIn_app (goodIn_of _ (by decide +kernel)) ggX5_end_X1_takeOff
set_option maxRecDepth 20000 in
theorem ggX5_end_X5_fine : GoodIn wsX5_end wsX5_fine := goodIn_r _ [47, 15, 48, 49, 50, 51, 52, 53] (by decide +kernel) (by decide +kernel)
set_option maxRecDepth 20000 in
theorem gX5_end_X5_fine : GoodIn wsX5_end (wsV RX5 62 RX5 yX5_fine wsX5_fine) := goodIn_app (goodIn_of _ (by decide +kernel)) ggX5_end_X5_fine
theorem dX5_end_0 : decode cX5_end 0 = .ok (.iload_n 1, 1) := by decide +kernel
theorem dX5_end_1 : decode cX5_end 1 = .ok (.invokestatic 85, 3) := by decide +kernel
theorem dX5_end_4 : decode cX5_end 4 = .ok (.ifCond .ne 6, 3) := by decide +kernel
theorem dX5_end_7 : decode cX5_end 7 = .ok (.ldc 54, 2) := by decide +kernel
theorem dX5_end_9 : decode cX5_end 9 = .ok (.ireturn, 1) := by decide +kernel
theorem dX5_end_10 : decode cX5_end 10 = .ok (.aload_n 0, 1) := by decide +kernel
theorem dX5_end_11 : decode cX5_end 11 = .ok (.getfield 17, 3) := by decide +kernel
theorem dX5_end_14 : decode cX5_end 14 = .ok (.iload_n 1, 1) := by decide +kernel
theorem dX5_end_15 : decode cX5_end 15 = .ok (.aaload, 1) := by decide +kernel
theorem dX5_end_16 : decode cX5_end 16 = .ok (.astore_n 3, 1) := by decide +kernel
theorem dX5_end_17 : decode cX5_end 17 = .ok (.aload_n 3, 1) := by decide +kernel
theorem dX5_end_18 : decode cX5_end 18 = .ok (.ifnonnull 9, 3) := by decide +kernel
theorem dX5_end_21 : decode cX5_end 21 = .ok (.aload_n 0, 1) := by decide +kernel
theorem dX5_end_22 : decode cX5_end 22 = .ok (.iconst 1, 1) := by decide +kernel
theorem dX5_end_23 : decode cX5_end 23 = .ok (.invokevirtual 55, 3) := by decide +kernel
theorem dX5_end_26 : decode cX5_end 26 = .ok (.ireturn, 1) := by decide +kernel
theorem dX5_end_27 : decode cX5_end 27 = .ok (.aload_n 3, 1) := by decide +kernel
theorem dX5_end_28 : decode cX5_end 28 = .ok (.iload_n 2, 1) := by decide +kernel
theorem dX5_end_29 : decode cX5_end 29 = .ok (.invokevirtual 117, 3) := by decide +kernel
theorem dX5_end_32 : decode cX5_end 32 = .ok (.ifCond .ne 6, 3) := by decide +kernel
theorem dX5_end_35 : decode cX5_end 35 = .ok (.ldc 54, 2) := by decide +kernel
theorem dX5_end_37 : decode cX5_end 37 = .ok (.ireturn, 1) := by decide +kernel
theorem dX5_end_38 : decode cX5_end 38 = .ok (.aload_n 3, 1) := by decide +kernel
theorem dX5_end_39 : decode cX5_end 39 = .ok (.getfield 128, 3) := by decide +kernel
theorem dX5_end_42 : decode cX5_end 42 = .ok (.iload_n 2, 1) := by decide +kernel
theorem dX5_end_43 : decode cX5_end 43 = .ok (.iaload, 1) := by decide +kernel
theorem dX5_end_44 : decode cX5_end 44 = .ok (.istore 4, 2) := by decide +kernel
theorem dX5_end_46 : decode cX5_end 46 = .ok (.aload_n 3, 1) := by decide +kernel
theorem dX5_end_47 : decode cX5_end 47 = .ok (.iload_n 2, 1) := by decide +kernel
theorem dX5_end_48 : decode cX5_end 48 = .ok (.invokevirtual 131, 3) := by decide +kernel
theorem dX5_end_51 : decode cX5_end 51 = .ok (.aload_n 0, 1) := by decide +kernel
theorem dX5_end_52 : decode cX5_end 52 = .ok (.iload 4, 2) := by decide +kernel
theorem dX5_end_54 : decode cX5_end 54 = .ok (.invokevirtual 62, 3) := by decide +kernel
theorem dX5_end_57 : decode cX5_end 57 = .ok (.ireturn, 1) := by decide +kernel
set_option maxRecDepth 20000 in
theorem ggX5_line_X5_isPlace : GoodIn wsX5_line wsX5_isPlace := goodIn_r _ [8, 9, 10, 7, 11] (by decide +kernel) (by decide +kernel)
set_option maxRecDepth 20000 in
theorem gX5_line_X5_isPlace : GoodIn wsX5_line (va_wsS RX5 85 yX5_isPlace wsX5_isPlace) := goodIn_app (goodIn_of _ (by decide +kernel)) ggX5_line_X5_isPlace
set_option maxRecDepth 20000 in
theorem ggX5_line_X5_within : GoodIn wsX5_line wsX5_within := goodIn_r _ [11] (by decide +kernel) (by decide +kernel)
set_option maxRecDepth 20000 in
theorem gX5_line_X5_within : GoodIn wsX5_line (va_wsS RX5 50 yX5_within wsX5_within) := goodIn_app (goodIn_of _ (by decide +kernel)) ggX5_line_X5_within
set_option maxRecDepth 20000 in
theorem ggX5_line_X5_found : GoodIn wsX5_line wsX5_found := goodIn_r _ [15, 16, 17, 28, 29, 30, 31, 32, 33] (by decide +kernel) (by decide +kernel)
set_option maxRecDepth 20000 in
theorem gX5_line_X5_found : GoodIn wsX5_line (wsV RX5 55 RX5 yX5_found wsX5_found) := goodIn_app (goodIn_of _ (by decide +kernel)) ggX5_line_X5_found
set_option maxRecDepth 20000 in
theorem ggX5_line_X1_hasLine : GoodIn wsX5_line wsX1_hasLine := goodIn_r _ [22, 23, 10, 7, 11, 34, 35, 36, 37, 38, 39, 40, 41, 42, 43, 44, 45, 46, 47, 48, 49, 50] (by decide +kernel) (by decide +kernel)
set_option maxRecDepth 20000 in
theorem gX5_line_X1_hasLine : GoodIn wsX5_line (wsV RX5 117 RX1 yX1_hasLine wsX1_hasLine) := goodIn_app (goodIn_of _ (by decide +kernel)) ggX5_line_X1_hasLine
set_option maxRecDepth 20000 in
theorem ggX5_line_X5_fine : GoodIn wsX5_line wsX5_fine := goodIn_r _ [27, 16, 28, 29, 30, 31, 32, 33] (by decide +kernel) (by decide +kernel)
set_option maxRecDepth 20000 in
theorem gX5_line_X5_fine : GoodIn wsX5_line (wsV RX5 62 RX5 yX5_fine wsX5_fine) := goodIn_app (goodIn_of _ (by decide +kernel)) ggX5_line_X5_fine
theorem dX5_line_0 : decode cX5_line 0 = .ok (.iload_n 1, 1) := by decide +kernel
theorem dX5_line_1 : decode cX5_line 1 = .ok (.invokestatic 85, 3) := by decide +kernel
theorem dX5_line_4 : decode cX5_line 4 = .ok (.ifCond .eq 12, 3) := by decide +kernel
theorem dX5_line_7 : decode cX5_line 7 = .ok (.iload_n 3, 1) := by decide +kernel
theorem dX5_line_8 : decode cX5_line 8 = .ok (.iconst 0, 1) := by decide +kernel
theorem dX5_line_9 : decode cX5_line 9 = .ok (.iconst 1, 1) := by decide +kernel
theorem dX5_line_10 : decode cX5_line 10 = .ok (.invokestatic 50, 3) := by decide +kernel
theorem dX5_line_13 : decode cX5_line 13 = .ok (.ifCond .ne 6, 3) := by decide +kernel
theorem dX5_line_16 : decode cX5_line 16 = .ok (.ldc 54, 2) := by decide +kernel
theorem dX5_line_18 : decode cX5_line 18 = .ok (.ireturn, 1) := by decide +kernel
theorem dX5_line_19 : decode cX5_line 19 = .ok (.aload_n 0, 1) := by decide +kernel
theorem dX5_line_20 : decode cX5_line 20 = .ok (.getfield 17, 3) := by decide +kernel
theorem dX5_line_23 : decode cX5_line 23 = .ok (.iload_n 1, 1) := by decide +kernel
theorem dX5_line_24 : decode cX5_line 24 = .ok (.aaload, 1) := by decide +kernel
theorem dX5_line_25 : decode cX5_line 25 = .ok (.astore 4, 2) := by decide +kernel
theorem dX5_line_27 : decode cX5_line 27 = .ok (.aload 4, 2) := by decide +kernel
theorem dX5_line_29 : decode cX5_line 29 = .ok (.ifnonnull 9, 3) := by decide +kernel
theorem dX5_line_32 : decode cX5_line 32 = .ok (.aload_n 0, 1) := by decide +kernel
theorem dX5_line_33 : decode cX5_line 33 = .ok (.iconst 1, 1) := by decide +kernel
theorem dX5_line_34 : decode cX5_line 34 = .ok (.invokevirtual 55, 3) := by decide +kernel
theorem dX5_line_37 : decode cX5_line 37 = .ok (.ireturn, 1) := by decide +kernel
theorem dX5_line_38 : decode cX5_line 38 = .ok (.aload 4, 2) := by decide +kernel
theorem dX5_line_40 : decode cX5_line 40 = .ok (.iload_n 2, 1) := by decide +kernel
theorem dX5_line_41 : decode cX5_line 41 = .ok (.invokevirtual 117, 3) := by decide +kernel
theorem dX5_line_44 : decode cX5_line 44 = .ok (.ifCond .ne 6, 3) := by decide +kernel
theorem dX5_line_47 : decode cX5_line 47 = .ok (.ldc 54, 2) := by decide +kernel
theorem dX5_line_49 : decode cX5_line 49 = .ok (.ireturn, 1) := by decide +kernel
theorem dX5_line_50 : decode cX5_line 50 = .ok (.aload_n 0, 1) := by decide +kernel
theorem dX5_line_51 : decode cX5_line 51 = .ok (.iload_n 3, 1) := by decide +kernel
theorem dX5_line_52 : decode cX5_line 52 = .ok (.ifCond .ne 13, 3) := by decide +kernel
theorem dX5_line_55 : decode cX5_line 55 = .ok (.aload 4, 2) := by decide +kernel
theorem dX5_line_57 : decode cX5_line 57 = .ok (.getfield 128, 3) := by decide +kernel
theorem dX5_line_60 : decode cX5_line 60 = .ok (.iload_n 2, 1) := by decide +kernel
theorem dX5_line_61 : decode cX5_line 61 = .ok (.iaload, 1) := by decide +kernel
theorem dX5_line_62 : decode cX5_line 62 = .ok (.goto 10, 3) := by decide +kernel
theorem dX5_line_65 : decode cX5_line 65 = .ok (.aload 4, 2) := by decide +kernel
theorem dX5_line_67 : decode cX5_line 67 = .ok (.getfield 135, 3) := by decide +kernel
theorem dX5_line_70 : decode cX5_line 70 = .ok (.iload_n 2, 1) := by decide +kernel
theorem dX5_line_71 : decode cX5_line 71 = .ok (.iaload, 1) := by decide +kernel
theorem dX5_line_72 : decode cX5_line 72 = .ok (.invokevirtual 62, 3) := by decide +kernel
theorem dX5_line_75 : decode cX5_line 75 = .ok (.ireturn, 1) := by decide +kernel
set_option maxRecDepth 20000 in
theorem ggX5_free_X5_isPlace : GoodIn wsX5_free wsX5_isPlace := goodIn_r _ [7, 8, 9, 6, 10] (by decide +kernel) (by decide +kernel)
set_option maxRecDepth 20000 in
theorem gX5_free_X5_isPlace : GoodIn wsX5_free (va_wsS RX5 85 yX5_isPlace wsX5_isPlace) := goodIn_app (goodIn_of _ (by decide +kernel)) ggX5_free_X5_isPlace
set_option maxRecDepth 20000 in
theorem ggX5_free_X5_within : GoodIn wsX5_free wsX5_within := goodIn_r _ [10] (by decide +kernel) (by decide +kernel)
set_option maxRecDepth 20000 in
theorem gX5_free_X5_within : GoodIn wsX5_free (va_wsS RX5 50 yX5_within wsX5_within) := goodIn_app (goodIn_of _ (by decide +kernel)) ggX5_free_X5_within
set_option maxRecDepth 20000 in
theorem ggX5_free_X5_found : GoodIn wsX5_free wsX5_found := goodIn_r _ [14, 15, 16, 75, 76, 77, 78, 79, 80] (by decide +kernel) (by decide +kernel)
set_option maxRecDepth 20000 in
theorem gX5_free_X5_found : GoodIn wsX5_free (wsV RX5 55 RX5 yX5_found wsX5_found) := goodIn_app (goodIn_of _ (by decide +kernel)) ggX5_free_X5_found
set_option maxRecDepth 20000 in
theorem ggX5_free_X1_hasLine : GoodIn wsX5_free wsX1_hasLine := goodIn_r _ [21, 22, 9, 6, 10, 81, 82, 83, 84, 85, 86, 87, 88, 89, 90, 91, 92, 93, 94, 95, 96, 97] (by decide +kernel) (by decide +kernel)
set_option maxRecDepth 20000 in
theorem gX5_free_X1_hasLine : GoodIn wsX5_free (wsV RX5 117 RX1 yX1_hasLine wsX1_hasLine) := goodIn_app (goodIn_of _ (by decide +kernel)) ggX5_free_X1_hasLine
set_option maxRecDepth 20000 in
theorem ggX5_free_X1_isBusy : GoodIn wsX5_free wsX1_isBusy := goodIn_r _ [26, 27, 28, 29, 81, 82, 83, 84, 85, 86, 87, 88, 89, 90, 91, 92, 93, 94, 95, 96, 97] (by decide +kernel) (by decide +kernel)
set_option maxRecDepth 20000 in
theorem gX5_free_X1_isBusy : GoodIn wsX5_free (wsV RX5 120 RX1 yX1_isBusy wsX1_isBusy) := goodIn_app (goodIn_of _ (by decide +kernel)) ggX5_free_X1_isBusy
set_option maxRecDepth 20000 in
theorem ggX5_free_X1_howManyFree : GoodIn wsX5_free wsX1_howManyFree := goodIn_r _ [33, 34, 35, 36, 37, 20, 38, 39, 40, 41, 42, 43, 44, 45, 46, 47, 48, 49, 50, 51, 52, 53, 54, 55, 81, 82, 83, 84, 85, 86, 87, 88, 89, 90, 91, 92, 93, 94, 95, 96, 97] (by decide +kernel) (by decide +kernel)
set_option maxRecDepth 20000 in
theorem gX5_free_X1_howManyFree : GoodIn wsX5_free (wsV RX5 138 RX1 yX1_howManyFree wsX1_howManyFree) := goodIn_app (goodIn_of _ (by decide +kernel)) ggX5_free_X1_howManyFree
set_option maxRecDepth 20000 in
theorem ggX5_free_X1_plan : GoodIn wsX5_free wsX1_plan := goodIn_r _ [59, 34, 60, 28, 35, 36, 37, 20, 38, 39, 40, 41, 42, 43, 44, 45, 46, 47, 48, 49, 50, 51, 52, 53, 54, 55, 61, 62, 63, 64, 65, 66, 67, 68, 69, 22, 70, 27, 81, 82, 83, 84, 85, 86, 87, 88, 89, 90, 91, 92, 93, 94, 95, 96, 97] (by decide +kernel) (by decide +kernel)
set_option maxRecDepth 20000 in
theorem gX5_free_X1_plan : GoodIn wsX5_free (wsV RX5 142 RX1 yX1_plan wsX1_plan) := goodIn_app (goodIn_of _ (by decide +kernel)) ggX5_free_X1_plan
set_option maxRecDepth 20000 in
theorem ggX5_free_X5_fine : GoodIn wsX5_free wsX5_fine := goodIn_r _ [74, 15, 75, 76, 77, 78, 79, 80] (by decide +kernel) (by decide +kernel)
set_option maxRecDepth 20000 in
theorem gX5_free_X5_fine : GoodIn wsX5_free (wsV RX5 62 RX5 yX5_fine wsX5_fine) := goodIn_app (goodIn_of _ (by decide +kernel)) ggX5_free_X5_fine
theorem dX5_free_0 : decode cX5_free 0 = .ok (.iload_n 1, 1) := by decide +kernel
theorem dX5_free_1 : decode cX5_free 1 = .ok (.invokestatic 85, 3) := by decide +kernel
theorem dX5_free_4 : decode cX5_free 4 = .ok (.ifCond .eq 13, 3) := by decide +kernel
theorem dX5_free_7 : decode cX5_free 7 = .ok (.iload 4, 2) := by decide +kernel
theorem dX5_free_9 : decode cX5_free 9 = .ok (.iconst 0, 1) := by decide +kernel
theorem dX5_free_10 : decode cX5_free 10 = .ok (.iconst 1, 1) := by decide +kernel
theorem dX5_free_11 : decode cX5_free 11 = .ok (.invokestatic 50, 3) := by decide +kernel
theorem dX5_free_14 : decode cX5_free 14 = .ok (.ifCond .ne 6, 3) := by decide +kernel
theorem dX5_free_17 : decode cX5_free 17 = .ok (.ldc 54, 2) := by decide +kernel
theorem dX5_free_19 : decode cX5_free 19 = .ok (.ireturn, 1) := by decide +kernel
theorem dX5_free_20 : decode cX5_free 20 = .ok (.aload_n 0, 1) := by decide +kernel
theorem dX5_free_21 : decode cX5_free 21 = .ok (.getfield 17, 3) := by decide +kernel
theorem dX5_free_24 : decode cX5_free 24 = .ok (.iload_n 1, 1) := by decide +kernel
theorem dX5_free_25 : decode cX5_free 25 = .ok (.aaload, 1) := by decide +kernel
theorem dX5_free_26 : decode cX5_free 26 = .ok (.astore 5, 2) := by decide +kernel
theorem dX5_free_28 : decode cX5_free 28 = .ok (.aload 5, 2) := by decide +kernel
theorem dX5_free_30 : decode cX5_free 30 = .ok (.ifnonnull 9, 3) := by decide +kernel
theorem dX5_free_33 : decode cX5_free 33 = .ok (.aload_n 0, 1) := by decide +kernel
theorem dX5_free_34 : decode cX5_free 34 = .ok (.iconst 1, 1) := by decide +kernel
theorem dX5_free_35 : decode cX5_free 35 = .ok (.invokevirtual 55, 3) := by decide +kernel
theorem dX5_free_38 : decode cX5_free 38 = .ok (.ireturn, 1) := by decide +kernel
theorem dX5_free_39 : decode cX5_free 39 = .ok (.aload 5, 2) := by decide +kernel
theorem dX5_free_41 : decode cX5_free 41 = .ok (.iload_n 2, 1) := by decide +kernel
theorem dX5_free_42 : decode cX5_free 42 = .ok (.invokevirtual 117, 3) := by decide +kernel
theorem dX5_free_45 : decode cX5_free 45 = .ok (.ifCond .eq 12, 3) := by decide +kernel
theorem dX5_free_48 : decode cX5_free 48 = .ok (.aload 5, 2) := by decide +kernel
theorem dX5_free_50 : decode cX5_free 50 = .ok (.iload_n 3, 1) := by decide +kernel
theorem dX5_free_51 : decode cX5_free 51 = .ok (.invokevirtual 117, 3) := by decide +kernel
theorem dX5_free_54 : decode cX5_free 54 = .ok (.ifCond .ne 6, 3) := by decide +kernel
theorem dX5_free_57 : decode cX5_free 57 = .ok (.ldc 54, 2) := by decide +kernel
theorem dX5_free_59 : decode cX5_free 59 = .ok (.ireturn, 1) := by decide +kernel
theorem dX5_free_60 : decode cX5_free 60 = .ok (.aload 5, 2) := by decide +kernel
theorem dX5_free_62 : decode cX5_free 62 = .ok (.iload_n 2, 1) := by decide +kernel
theorem dX5_free_63 : decode cX5_free 63 = .ok (.iload_n 3, 1) := by decide +kernel
theorem dX5_free_64 : decode cX5_free 64 = .ok (.invokevirtual 120, 3) := by decide +kernel
theorem dX5_free_67 : decode cX5_free 67 = .ok (.ifCond .eq 6, 3) := by decide +kernel
theorem dX5_free_70 : decode cX5_free 70 = .ok (.ldc 123, 2) := by decide +kernel
theorem dX5_free_72 : decode cX5_free 72 = .ok (.ireturn, 1) := by decide +kernel
theorem dX5_free_73 : decode cX5_free 73 = .ok (.aload_n 0, 1) := by decide +kernel
theorem dX5_free_74 : decode cX5_free 74 = .ok (.iload 4, 2) := by decide +kernel
theorem dX5_free_76 : decode cX5_free 76 = .ok (.ifCond .ne 13, 3) := by decide +kernel
theorem dX5_free_79 : decode cX5_free 79 = .ok (.aload 5, 2) := by decide +kernel
theorem dX5_free_81 : decode cX5_free 81 = .ok (.iload_n 2, 1) := by decide +kernel
theorem dX5_free_82 : decode cX5_free 82 = .ok (.iload_n 3, 1) := by decide +kernel
theorem dX5_free_83 : decode cX5_free 83 = .ok (.invokevirtual 138, 3) := by decide +kernel
theorem dX5_free_86 : decode cX5_free 86 = .ok (.goto 11, 3) := by decide +kernel
theorem dX5_free_89 : decode cX5_free 89 = .ok (.aload 5, 2) := by decide +kernel
theorem dX5_free_91 : decode cX5_free 91 = .ok (.iload_n 2, 1) := by decide +kernel
theorem dX5_free_92 : decode cX5_free 92 = .ok (.iload_n 3, 1) := by decide +kernel
theorem dX5_free_93 : decode cX5_free 93 = .ok (.iconst 1, 1) := by decide +kernel
theorem dX5_free_94 : decode cX5_free 94 = .ok (.invokevirtual 142, 3) := by decide +kernel
theorem dX5_free_97 : decode cX5_free 97 = .ok (.invokevirtual 62, 3) := by decide +kernel
theorem dX5_free_100 : decode cX5_free 100 = .ok (.ireturn, 1) := by decide +kernel
set_option maxRecDepth 20000 in
theorem ggX5_die_X5_isPlace : GoodIn wsX5_die wsX5_isPlace := goodIn_r _ [8, 9, 10, 7, 11] (by decide +kernel) (by decide +kernel)
set_option maxRecDepth 20000 in
theorem gX5_die_X5_isPlace : GoodIn wsX5_die (va_wsS RX5 85 yX5_isPlace wsX5_isPlace) := goodIn_app (goodIn_of _ (by decide +kernel)) ggX5_die_X5_isPlace
set_option maxRecDepth 20000 in
theorem ggX5_die_X5_found : GoodIn wsX5_die wsX5_found := goodIn_r _ [15, 16, 17, 97, 98, 99, 100, 101, 102] (by decide +kernel) (by decide +kernel)
set_option maxRecDepth 20000 in
theorem gX5_die_X5_found : GoodIn wsX5_die (wsV RX5 55 RX5 yX5_found wsX5_found) := goodIn_app (goodIn_of _ (by decide +kernel)) ggX5_die_X5_found
set_option maxRecDepth 20000 in
theorem ggX5_die_X1_hasMiddle : GoodIn wsX5_die wsX1_hasMiddle := goodIn_r _ [22, 23, 10, 7, 11, 103, 104, 105, 106, 107, 108, 109, 110, 111, 112, 113, 114, 115, 116, 117, 118, 119] (by decide +kernel) (by decide +kernel)
set_option maxRecDepth 20000 in
theorem gX5_die_X1_hasMiddle : GoodIn wsX5_die (wsV RX5 145 RX1 yX1_hasMiddle wsX1_hasMiddle) := goodIn_app (goodIn_of _ (by decide +kernel)) ggX5_die_X1_hasMiddle
set_option maxRecDepth 20000 in
theorem ggX5_die_X1_killMiddle : GoodIn wsX5_die wsX1_killMiddle := goodIn_r _ [27, 28, 29, 30, 31, 32, 33, 34, 35, 36, 37, 38, 21, 39, 40, 41, 42, 43, 44, 45, 46, 47, 48, 49, 50, 51, 52, 53, 54, 55, 56, 57, 58, 59, 60, 61, 62, 63, 23, 64, 65, 66, 67, 68, 69, 70, 71, 72, 73, 74, 75, 76, 77, 78, 79, 80, 81, 82, 83, 84, 85, 86, 87, 88, 89, 90, 91, 92, 103, 104, 105, 106, 107, 108, 109, 110, 111, 112, 113, 114, 115, 116, 117, 118, 119] (by decide +kernel) (by decide +kernel)
set_option maxRecDepth 20000 in
theorem gX5_die_X1_killMiddle : GoodIn wsX5_die (wsV RX5 152 RX1 yX1_killMiddle wsX1_killMiddle) := goodIn_app (goodIn_of _ (by decide +kernel)) ggX5_die_X1_killMiddle
set_option maxRecDepth 20000 in
theorem ggX5_die_X5_fine : GoodIn wsX5_die wsX5_fine := goodIn_r _ [96, 16, 97, 98, 99, 100, 101, 102] (by decide +kernel) (by decide +kernel)
set_option maxRecDepth 20000 in
theorem gX5_die_X5_fine : GoodIn wsX5_die (wsV RX5 62 RX5 yX5_fine wsX5_fine) := goodIn_app (goodIn_of _ (by decide +kernel)) ggX5_die_X5_fine
theorem dX5_die_0 : decode cX5_die 0 = .ok (.iload_n 1, 1) := by decide +kernel
theorem dX5_die_1 : decode cX5_die 1 = .ok (.invokestatic 85, 3) := by decide +kernel
theorem dX5_die_4 : decode cX5_die 4 = .ok (.ifCond .ne 6, 3) := by decide +kernel
theorem dX5_die_7 : decode cX5_die 7 = .ok (.ldc 54, 2) := by decide +kernel
theorem dX5_die_9 : decode cX5_die 9 = .ok (.ireturn, 1) := by decide +kernel
theorem dX5_die_10 : decode cX5_die 10 = .ok (.aload_n 0, 1) := by decide +kernel
theorem dX5_die_11 : decode cX5_die 11 = .ok (.getfield 17, 3) := by decide +kernel
theorem dX5_die_14 : decode cX5_die 14 = .ok (.iload_n 1, 1) := by decide +kernel
theorem dX5_die_15 : decode cX5_die 15 = .ok (.aaload, 1) := by decide +kernel
theorem dX5_die_16 : decode cX5_die 16 = .ok (.astore_n 3, 1) := by decide +kernel
theorem dX5_die_17 : decode cX5_die 17 = .ok (.aload_n 3, 1) := by decide +kernel
theorem dX5_die_18 : decode cX5_die 18 = .ok (.ifnonnull 9, 3) := by decide +kernel
theorem dX5_die_21 : decode cX5_die 21 = .ok (.aload_n 0, 1) := by decide +kernel
theorem dX5_die_22 : decode cX5_die 22 = .ok (.iconst 1, 1) := by decide +kernel
theorem dX5_die_23 : decode cX5_die 23 = .ok (.invokevirtual 55, 3) := by decide +kernel
theorem dX5_die_26 : decode cX5_die 26 = .ok (.ireturn, 1) := by decide +kernel
theorem dX5_die_27 : decode cX5_die 27 = .ok (.aload_n 3, 1) := by decide +kernel
theorem dX5_die_28 : decode cX5_die 28 = .ok (.iload_n 2, 1) := by decide +kernel
theorem dX5_die_29 : decode cX5_die 29 = .ok (.invokevirtual 145, 3) := by decide +kernel
theorem dX5_die_32 : decode cX5_die 32 = .ok (.ifCond .ne 6, 3) := by decide +kernel
theorem dX5_die_35 : decode cX5_die 35 = .ok (.ldc 54, 2) := by decide +kernel
theorem dX5_die_37 : decode cX5_die 37 = .ok (.ireturn, 1) := by decide +kernel
theorem dX5_die_38 : decode cX5_die 38 = .ok (.aload_n 3, 1) := by decide +kernel
theorem dX5_die_39 : decode cX5_die 39 = .ok (.getfield 148, 3) := by decide +kernel
theorem dX5_die_42 : decode cX5_die 42 = .ok (.iload_n 2, 1) := by decide +kernel
theorem dX5_die_43 : decode cX5_die 43 = .ok (.baload, 1) := by decide +kernel
theorem dX5_die_44 : decode cX5_die 44 = .ok (.ifCond .eq 6, 3) := by decide +kernel
theorem dX5_die_47 : decode cX5_die 47 = .ok (.ldc 123, 2) := by decide +kernel
theorem dX5_die_49 : decode cX5_die 49 = .ok (.ireturn, 1) := by decide +kernel
theorem dX5_die_50 : decode cX5_die 50 = .ok (.aload_n 0, 1) := by decide +kernel
theorem dX5_die_51 : decode cX5_die 51 = .ok (.aload_n 3, 1) := by decide +kernel
theorem dX5_die_52 : decode cX5_die 52 = .ok (.iload_n 2, 1) := by decide +kernel
theorem dX5_die_53 : decode cX5_die 53 = .ok (.invokevirtual 152, 3) := by decide +kernel
theorem dX5_die_56 : decode cX5_die 56 = .ok (.invokevirtual 62, 3) := by decide +kernel
theorem dX5_die_59 : decode cX5_die 59 = .ok (.ireturn, 1) := by decide +kernel
set_option maxRecDepth 20000 in
theorem ggX5_mend_X5_isPlace : GoodIn wsX5_mend wsX5_isPlace := goodIn_r _ [6, 7, 8, 5, 9] (by decide +kernel) (by decide +kernel)
set_option maxRecDepth 20000 in
theorem gX5_mend_X5_isPlace : GoodIn wsX5_mend (va_wsS RX5 85 yX5_isPlace wsX5_isPlace) := goodIn_app (goodIn_of _ (by decide +kernel)) ggX5_mend_X5_isPlace
set_option maxRecDepth 20000 in
theorem ggX5_mend_X5_found : GoodIn wsX5_mend wsX5_found := goodIn_r _ [13, 14, 15, 32, 33, 34, 35, 36, 37] (by decide +kernel) (by decide +kernel)
set_option maxRecDepth 20000 in
theorem gX5_mend_X5_found : GoodIn wsX5_mend (wsV RX5 55 RX5 yX5_found wsX5_found) := goodIn_app (goodIn_of _ (by decide +kernel)) ggX5_mend_X5_found
set_option maxRecDepth 20000 in
theorem ggX5_mend_X1_hasMiddle : GoodIn wsX5_mend wsX1_hasMiddle := goodIn_r _ [20, 21, 8, 5, 9, 38, 39, 40, 41, 42, 43, 44, 45, 46, 47, 48, 49, 50, 51, 52, 53, 54] (by decide +kernel) (by decide +kernel)
set_option maxRecDepth 20000 in
theorem gX5_mend_X1_hasMiddle : GoodIn wsX5_mend (wsV RX5 145 RX1 yX1_hasMiddle wsX1_hasMiddle) := goodIn_app (goodIn_of _ (by decide +kernel)) ggX5_mend_X1_hasMiddle
set_option maxRecDepth 20000 in
theorem ggX5_mend_X1_reviveMiddle : GoodIn wsX5_mend wsX1_reviveMiddle := goodIn_r _ [25, 26, 27, 38, 39, 40, 41, 42, 43, 44, 45, 46, 47, 48, 49, 50, 51, 52, 53, 54] (by decide +kernel) (by decide +kernel)
set_option maxRecDepth 20000 in
theorem gX5_mend_X1_reviveMiddle : GoodIn wsX5_mend (wsV RX5 155 RX1 yX1_reviveMiddle wsX1_reviveMiddle) := goodIn_app (goodIn_of _ (by decide +kernel)) ggX5_mend_X1_reviveMiddle
set_option maxRecDepth 20000 in
theorem ggX5_mend_X5_fine : GoodIn wsX5_mend wsX5_fine := goodIn_r _ [31, 14, 32, 33, 34, 35, 36, 37] (by decide +kernel) (by decide +kernel)
set_option maxRecDepth 20000 in
theorem gX5_mend_X5_fine : GoodIn wsX5_mend (wsV RX5 62 RX5 yX5_fine wsX5_fine) := goodIn_app (goodIn_of _ (by decide +kernel)) ggX5_mend_X5_fine
theorem dX5_mend_0 : decode cX5_mend 0 = .ok (.iload_n 1, 1) := by decide +kernel
theorem dX5_mend_1 : decode cX5_mend 1 = .ok (.invokestatic 85, 3) := by decide +kernel
theorem dX5_mend_4 : decode cX5_mend 4 = .ok (.ifCond .ne 6, 3) := by decide +kernel
theorem dX5_mend_7 : decode cX5_mend 7 = .ok (.ldc 54, 2) := by decide +kernel
theorem dX5_mend_9 : decode cX5_mend 9 = .ok (.ireturn, 1) := by decide +kernel
theorem dX5_mend_10 : decode cX5_mend 10 = .ok (.aload_n 0, 1) := by decide +kernel
theorem dX5_mend_11 : decode cX5_mend 11 = .ok (.getfield 17, 3) := by decide +kernel
theorem dX5_mend_14 : decode cX5_mend 14 = .ok (.iload_n 1, 1) := by decide +kernel
theorem dX5_mend_15 : decode cX5_mend 15 = .ok (.aaload, 1) := by decide +kernel
theorem dX5_mend_16 : decode cX5_mend 16 = .ok (.astore_n 3, 1) := by decide +kernel
theorem dX5_mend_17 : decode cX5_mend 17 = .ok (.aload_n 3, 1) := by decide +kernel
theorem dX5_mend_18 : decode cX5_mend 18 = .ok (.ifnonnull 9, 3) := by decide +kernel
theorem dX5_mend_21 : decode cX5_mend 21 = .ok (.aload_n 0, 1) := by decide +kernel
theorem dX5_mend_22 : decode cX5_mend 22 = .ok (.iconst 1, 1) := by decide +kernel
theorem dX5_mend_23 : decode cX5_mend 23 = .ok (.invokevirtual 55, 3) := by decide +kernel
theorem dX5_mend_26 : decode cX5_mend 26 = .ok (.ireturn, 1) := by decide +kernel
theorem dX5_mend_27 : decode cX5_mend 27 = .ok (.aload_n 3, 1) := by decide +kernel
theorem dX5_mend_28 : decode cX5_mend 28 = .ok (.iload_n 2, 1) := by decide +kernel
theorem dX5_mend_29 : decode cX5_mend 29 = .ok (.invokevirtual 145, 3) := by decide +kernel
theorem dX5_mend_32 : decode cX5_mend 32 = .ok (.ifCond .ne 6, 3) := by decide +kernel
theorem dX5_mend_35 : decode cX5_mend 35 = .ok (.ldc 54, 2) := by decide +kernel
theorem dX5_mend_37 : decode cX5_mend 37 = .ok (.ireturn, 1) := by decide +kernel
theorem dX5_mend_38 : decode cX5_mend 38 = .ok (.aload_n 0, 1) := by decide +kernel
theorem dX5_mend_39 : decode cX5_mend 39 = .ok (.aload_n 3, 1) := by decide +kernel
theorem dX5_mend_40 : decode cX5_mend 40 = .ok (.iload_n 2, 1) := by decide +kernel
theorem dX5_mend_41 : decode cX5_mend 41 = .ok (.invokevirtual 155, 3) := by decide +kernel
theorem dX5_mend_44 : decode cX5_mend 44 = .ok (.ifCond .eq 7, 3) := by decide +kernel
theorem dX5_mend_47 : decode cX5_mend 47 = .ok (.iconst 1, 1) := by decide +kernel
theorem dX5_mend_48 : decode cX5_mend 48 = .ok (.goto 4, 3) := by decide +kernel
theorem dX5_mend_51 : decode cX5_mend 51 = .ok (.iconst 0, 1) := by decide +kernel
theorem dX5_mend_52 : decode cX5_mend 52 = .ok (.invokevirtual 62, 3) := by decide +kernel
theorem dX5_mend_55 : decode cX5_mend 55 = .ok (.ireturn, 1) := by decide +kernel
set_option maxRecDepth 20000 in
theorem ggX5_bit_X5_isSheet : GoodIn wsX5_bit wsX5_isSheet := goodIn_r _ [8, 9, 10, 7, 11] (by decide +kernel) (by decide +kernel)
set_option maxRecDepth 20000 in
theorem gX5_bit_X5_isSheet : GoodIn wsX5_bit (va_wsS RX5 46 yX5_isSheet wsX5_isSheet) := goodIn_app (goodIn_of _ (by decide +kernel)) ggX5_bit_X5_isSheet
set_option maxRecDepth 20000 in
theorem ggX5_bit_X5_within : GoodIn wsX5_bit wsX5_within := goodIn_r _ [11] (by decide +kernel) (by decide +kernel)
set_option maxRecDepth 20000 in
theorem gX5_bit_X5_within : GoodIn wsX5_bit (va_wsS RX5 50 yX5_within wsX5_within) := goodIn_app (goodIn_of _ (by decide +kernel)) ggX5_bit_X5_within
set_option maxRecDepth 20000 in
theorem ggX5_bit_X5_found : GoodIn wsX5_bit wsX5_found := goodIn_r _ [15, 16, 17, 57, 58, 59, 60, 61, 62] (by decide +kernel) (by decide +kernel)
set_option maxRecDepth 20000 in
theorem gX5_bit_X5_found : GoodIn wsX5_bit (wsV RX5 55 RX5 yX5_found wsX5_found) := goodIn_app (goodIn_of _ (by decide +kernel)) ggX5_bit_X5_found
set_option maxRecDepth 20000 in
theorem ggX5_bit_X4_holds : GoodIn wsX5_bit wsX4_holds := goodIn_r _ [22, 23, 67, 68] (by decide +kernel) (by decide +kernel)
set_option maxRecDepth 20000 in
theorem gX5_bit_X4_holds : GoodIn wsX5_bit (wsV RX5 65 RX4 yX4_holds wsX4_holds) := goodIn_app (goodIn_of _ (by decide +kernel)) ggX5_bit_X4_holds
set_option maxRecDepth 20000 in
theorem ggX5_bit_X3_takeOrder : GoodIn wsX5_bit wsX3_takeOrder := goodIn_r _ [28, 29, 30, 10, 7, 11, 67, 68, 63, 64, 65, 66] (by decide +kernel) (by decide +kernel)
set_option maxRecDepth 20000 in
theorem gX5_bit_X3_takeOrder : GoodIn wsX5_bit (wsV RX5 158 RX3 yX3_takeOrder wsX3_takeOrder) := goodIn_app (goodIn_of _ (by decide +kernel)) ggX5_bit_X3_takeOrder
set_option maxRecDepth 20000 in
theorem ggX5_bit_X3_setAllSwitches : GoodIn wsX5_bit wsX3_setAllSwitches := goodIn_r _ [34, 35, 30, 36, 37, 38, 27, 39, 40, 41, 42, 43, 44, 45, 46, 47, 48, 49, 50, 51, 52, 63, 64, 65, 66] (by decide +kernel) (by decide +kernel)
set_option maxRecDepth 20000 in
theorem gX5_bit_X3_setAllSwitches : GoodIn wsX5_bit (wsV RX5 162 RX3 yX3_setAllSwitches wsX3_setAllSwitches) := goodIn_app (goodIn_of _ (by decide +kernel)) ggX5_bit_X3_setAllSwitches
set_option maxRecDepth 20000 in
theorem ggX5_bit_X5_fine : GoodIn wsX5_bit wsX5_fine := goodIn_r _ [56, 16, 57, 58, 59, 60, 61, 62] (by decide +kernel) (by decide +kernel)
set_option maxRecDepth 20000 in
theorem gX5_bit_X5_fine : GoodIn wsX5_bit (wsV RX5 62 RX5 yX5_fine wsX5_fine) := goodIn_app (goodIn_of _ (by decide +kernel)) ggX5_bit_X5_fine
theorem dX5_bit_0 : decode cX5_bit 0 = .ok (.iload_n 2, 1) := by decide +kernel
theorem dX5_bit_1 : decode cX5_bit 1 = .ok (.invokestatic 46, 3) := by decide +kernel
theorem dX5_bit_4 : decode cX5_bit 4 = .ok (.ifCond .eq 42, 3) := by decide +kernel
theorem dX5_bit_7 : decode cX5_bit 7 = .ok (.iload_n 1, 1) := by decide +kernel
theorem dX5_bit_8 : decode cX5_bit 8 = .ok (.iconst 1, 1) := by decide +kernel
theorem dX5_bit_9 : decode cX5_bit 9 = .ok (.iconst 4, 1) := by decide +kernel
theorem dX5_bit_10 : decode cX5_bit 10 = .ok (.invokestatic 50, 3) := by decide +kernel
theorem dX5_bit_13 : decode cX5_bit 13 = .ok (.ifCond .eq 33, 3) := by decide +kernel
theorem dX5_bit_16 : decode cX5_bit 16 = .ok (.iload 4, 2) := by decide +kernel
theorem dX5_bit_18 : decode cX5_bit 18 = .ok (.iconst 0, 1) := by decide +kernel
theorem dX5_bit_19 : decode cX5_bit 19 = .ok (.iconst 2, 1) := by decide +kernel
theorem dX5_bit_20 : decode cX5_bit 20 = .ok (.iload_n 1, 1) := by decide +kernel
theorem dX5_bit_21 : decode cX5_bit 21 = .ok (.imul, 1) := by decide +kernel
theorem dX5_bit_22 : decode cX5_bit 22 = .ok (.iconst 2, 1) := by decide +kernel
theorem dX5_bit_23 : decode cX5_bit 23 = .ok (.isub, 1) := by decide +kernel
theorem dX5_bit_24 : decode cX5_bit 24 = .ok (.invokestatic 50, 3) := by decide +kernel
theorem dX5_bit_27 : decode cX5_bit 27 = .ok (.ifCond .eq 19, 3) := by decide +kernel
theorem dX5_bit_30 : decode cX5_bit 30 = .ok (.iload 5, 2) := by decide +kernel
theorem dX5_bit_32 : decode cX5_bit 32 = .ok (.iconst 0, 1) := by decide +kernel
theorem dX5_bit_33 : decode cX5_bit 33 = .ok (.iconst 1, 1) := by decide +kernel
theorem dX5_bit_34 : decode cX5_bit 34 = .ok (.iload_n 1, 1) := by decide +kernel
theorem dX5_bit_35 : decode cX5_bit 35 = .ok (.iconst 1, 1) := by decide +kernel
theorem dX5_bit_36 : decode cX5_bit 36 = .ok (.isub, 1) := by decide +kernel
theorem dX5_bit_37 : decode cX5_bit 37 = .ok (.ishl, 1) := by decide +kernel
theorem dX5_bit_38 : decode cX5_bit 38 = .ok (.iconst 1, 1) := by decide +kernel
theorem dX5_bit_39 : decode cX5_bit 39 = .ok (.isub, 1) := by decide +kernel
theorem dX5_bit_40 : decode cX5_bit 40 = .ok (.invokestatic 50, 3) := by decide +kernel
theorem dX5_bit_43 : decode cX5_bit 43 = .ok (.ifCond .ne 6, 3) := by decide +kernel
theorem dX5_bit_46 : decode cX5_bit 46 = .ok (.ldc 54, 2) := by decide +kernel
theorem dX5_bit_48 : decode cX5_bit 48 = .ok (.ireturn, 1) := by decide +kernel
theorem dX5_bit_49 : decode cX5_bit 49 = .ok (.aload_n 0, 1) := by decide +kernel
theorem dX5_bit_50 : decode cX5_bit 50 = .ok (.getfield 11, 3) := by decide +kernel
theorem dX5_bit_53 : decode cX5_bit 53 = .ok (.iload_n 2, 1) := by decide +kernel
theorem dX5_bit_54 : decode cX5_bit 54 = .ok (.aaload, 1) := by decide +kernel
theorem dX5_bit_55 : decode cX5_bit 55 = .ok (.astore 6, 2) := by decide +kernel
theorem dX5_bit_57 : decode cX5_bit 57 = .ok (.aload 6, 2) := by decide +kernel
theorem dX5_bit_59 : decode cX5_bit 59 = .ok (.ifnonnull 9, 3) := by decide +kernel
theorem dX5_bit_62 : decode cX5_bit 62 = .ok (.aload_n 0, 1) := by decide +kernel
theorem dX5_bit_63 : decode cX5_bit 63 = .ok (.iconst 1, 1) := by decide +kernel
theorem dX5_bit_64 : decode cX5_bit 64 = .ok (.invokevirtual 55, 3) := by decide +kernel
theorem dX5_bit_67 : decode cX5_bit 67 = .ok (.ireturn, 1) := by decide +kernel
theorem dX5_bit_68 : decode cX5_bit 68 = .ok (.aload 6, 2) := by decide +kernel
theorem dX5_bit_70 : decode cX5_bit 70 = .ok (.iload_n 3, 1) := by decide +kernel
theorem dX5_bit_71 : decode cX5_bit 71 = .ok (.iconst 1, 1) := by decide +kernel
theorem dX5_bit_72 : decode cX5_bit 72 = .ok (.iload_n 1, 1) := by decide +kernel
theorem dX5_bit_73 : decode cX5_bit 73 = .ok (.ishl, 1) := by decide +kernel
theorem dX5_bit_74 : decode cX5_bit 74 = .ok (.invokevirtual 65, 3) := by decide +kernel
theorem dX5_bit_77 : decode cX5_bit 77 = .ok (.ifCond .ne 9, 3) := by decide +kernel
theorem dX5_bit_80 : decode cX5_bit 80 = .ok (.aload_n 0, 1) := by decide +kernel
theorem dX5_bit_81 : decode cX5_bit 81 = .ok (.iconst 2, 1) := by decide +kernel
theorem dX5_bit_82 : decode cX5_bit 82 = .ok (.invokevirtual 55, 3) := by decide +kernel
theorem dX5_bit_85 : decode cX5_bit 85 = .ok (.ireturn, 1) := by decide +kernel
theorem dX5_bit_86 : decode cX5_bit 86 = .ok (.aload_n 0, 1) := by decide +kernel
theorem dX5_bit_87 : decode cX5_bit 87 = .ok (.getfield 31, 3) := by decide +kernel
theorem dX5_bit_90 : decode cX5_bit 90 = .ok (.aload 6, 2) := by decide +kernel
theorem dX5_bit_92 : decode cX5_bit 92 = .ok (.iload_n 3, 1) := by decide +kernel
theorem dX5_bit_93 : decode cX5_bit 93 = .ok (.iload_n 1, 1) := by decide +kernel
theorem dX5_bit_94 : decode cX5_bit 94 = .ok (.invokevirtual 158, 3) := by decide +kernel
theorem dX5_bit_97 : decode cX5_bit 97 = .ok (.ifCond .ne 6, 3) := by decide +kernel
theorem dX5_bit_100 : decode cX5_bit 100 = .ok (.ldc 54, 2) := by decide +kernel
theorem dX5_bit_102 : decode cX5_bit 102 = .ok (.ireturn, 1) := by decide +kernel
theorem dX5_bit_103 : decode cX5_bit 103 = .ok (.aload_n 0, 1) := by decide +kernel
theorem dX5_bit_104 : decode cX5_bit 104 = .ok (.getfield 31, 3) := by decide +kernel
theorem dX5_bit_107 : decode cX5_bit 107 = .ok (.iload_n 1, 1) := by decide +kernel
theorem dX5_bit_108 : decode cX5_bit 108 = .ok (.invokevirtual 162, 3) := by decide +kernel
theorem dX5_bit_111 : decode cX5_bit 111 = .ok (.aload_n 0, 1) := by decide +kernel
theorem dX5_bit_112 : decode cX5_bit 112 = .ok (.aload_n 0, 1) := by decide +kernel
theorem dX5_bit_113 : decode cX5_bit 113 = .ok (.getfield 31, 3) := by decide +kernel
theorem dX5_bit_116 : decode cX5_bit 116 = .ok (.getfield 165, 3) := by decide +kernel
theorem dX5_bit_119 : decode cX5_bit 119 = .ok (.iload 4, 2) := by decide +kernel
theorem dX5_bit_121 : decode cX5_bit 121 = .ok (.aaload, 1) := by decide +kernel
theorem dX5_bit_122 : decode cX5_bit 122 = .ok (.iload 5, 2) := by decide +kernel
theorem dX5_bit_124 : decode cX5_bit 124 = .ok (.iaload, 1) := by decide +kernel
theorem dX5_bit_125 : decode cX5_bit 125 = .ok (.invokevirtual 62, 3) := by decide +kernel
theorem dX5_bit_128 : decode cX5_bit 128 = .ok (.ireturn, 1) := by decide +kernel
set_option maxRecDepth 20000 in
theorem ggX5_goes_X5_isSheet : GoodIn wsX5_goes wsX5_isSheet := goodIn_r _ [7, 8, 9, 6, 10] (by decide +kernel) (by decide +kernel)
set_option maxRecDepth 20000 in
theorem gX5_goes_X5_isSheet : GoodIn wsX5_goes (va_wsS RX5 46 yX5_isSheet wsX5_isSheet) := goodIn_app (goodIn_of _ (by decide +kernel)) ggX5_goes_X5_isSheet
set_option maxRecDepth 20000 in
theorem ggX5_goes_X5_within : GoodIn wsX5_goes wsX5_within := goodIn_r _ [10] (by decide +kernel) (by decide +kernel)
set_option maxRecDepth 20000 in
theorem gX5_goes_X5_within : GoodIn wsX5_goes (va_wsS RX5 50 yX5_within wsX5_within) := goodIn_app (goodIn_of _ (by decide +kernel)) ggX5_goes_X5_within
set_option maxRecDepth 20000 in
theorem ggX5_goes_X5_found : GoodIn wsX5_goes wsX5_found := goodIn_r _ [14, 15, 16, 38, 39, 40, 41, 42, 43] (by decide +kernel) (by decide +kernel)
set_option maxRecDepth 20000 in
theorem gX5_goes_X5_found : GoodIn wsX5_goes (wsV RX5 55 RX5 yX5_found wsX5_found) := goodIn_app (goodIn_of _ (by decide +kernel)) ggX5_goes_X5_found
set_option maxRecDepth 20000 in
theorem ggX5_goes_X4_holds : GoodIn wsX5_goes wsX4_holds := goodIn_r _ [21, 22, 44, 45] (by decide +kernel) (by decide +kernel)
set_option maxRecDepth 20000 in
theorem gX5_goes_X4_holds : GoodIn wsX5_goes (wsV RX5 65 RX4 yX4_holds wsX4_holds) := goodIn_app (goodIn_of _ (by decide +kernel)) ggX5_goes_X4_holds
set_option maxRecDepth 20000 in
theorem ggX5_goes_X3_takeBits : GoodIn wsX5_goes wsX3_takeBits := goodIn_r _ [27, 28, 29, 46, 47, 48, 49, 44, 45] (by decide +kernel) (by decide +kernel)
set_option maxRecDepth 20000 in
theorem gX5_goes_X3_takeBits : GoodIn wsX5_goes (wsV RX5 169 RX3 yX3_takeBits wsX3_takeBits) := goodIn_app (goodIn_of _ (by decide +kernel)) ggX5_goes_X3_takeBits
set_option maxRecDepth 20000 in
theorem ggX5_goes_X3_follow : GoodIn wsX5_goes wsX3_follow := goodIn_r _ [33, 28, 46, 47, 48, 49] (by decide +kernel) (by decide +kernel)
set_option maxRecDepth 20000 in
theorem gX5_goes_X3_follow : GoodIn wsX5_goes (wsV RX5 173 RX3 yX3_follow wsX3_follow) := goodIn_app (goodIn_of _ (by decide +kernel)) ggX5_goes_X3_follow
set_option maxRecDepth 20000 in
theorem ggX5_goes_X5_fine : GoodIn wsX5_goes wsX5_fine := goodIn_r _ [37, 15, 38, 39, 40, 41, 42, 43] (by decide +kernel) (by decide +kernel)
set_option maxRecDepth 20000 in
theorem gX5_goes_X5_fine : GoodIn wsX5_goes (wsV RX5 62 RX5 yX5_fine wsX5_fine) := goodIn_app (goodIn_of _ (by decide +kernel)) ggX5_goes_X5_fine
theorem dX5_goes_0 : decode cX5_goes 0 = .ok (.iload_n 2, 1) := by decide +kernel
theorem dX5_goes_1 : decode cX5_goes 1 = .ok (.invokestatic 46, 3) := by decide +kernel
theorem dX5_goes_4 : decode cX5_goes 4 = .ok (.ifCond .eq 26, 3) := by decide +kernel
theorem dX5_goes_7 : decode cX5_goes 7 = .ok (.iload_n 1, 1) := by decide +kernel
theorem dX5_goes_8 : decode cX5_goes 8 = .ok (.iconst 1, 1) := by decide +kernel
theorem dX5_goes_9 : decode cX5_goes 9 = .ok (.iconst 4, 1) := by decide +kernel
theorem dX5_goes_10 : decode cX5_goes 10 = .ok (.invokestatic 50, 3) := by decide +kernel
theorem dX5_goes_13 : decode cX5_goes 13 = .ok (.ifCond .eq 17, 3) := by decide +kernel
theorem dX5_goes_16 : decode cX5_goes 16 = .ok (.iload 4, 2) := by decide +kernel
theorem dX5_goes_18 : decode cX5_goes 18 = .ok (.iconst 0, 1) := by decide +kernel
theorem dX5_goes_19 : decode cX5_goes 19 = .ok (.iconst 1, 1) := by decide +kernel
theorem dX5_goes_20 : decode cX5_goes 20 = .ok (.iload_n 1, 1) := by decide +kernel
theorem dX5_goes_21 : decode cX5_goes 21 = .ok (.ishl, 1) := by decide +kernel
theorem dX5_goes_22 : decode cX5_goes 22 = .ok (.iconst 1, 1) := by decide +kernel
theorem dX5_goes_23 : decode cX5_goes 23 = .ok (.isub, 1) := by decide +kernel
theorem dX5_goes_24 : decode cX5_goes 24 = .ok (.invokestatic 50, 3) := by decide +kernel
theorem dX5_goes_27 : decode cX5_goes 27 = .ok (.ifCond .ne 6, 3) := by decide +kernel
theorem dX5_goes_30 : decode cX5_goes 30 = .ok (.ldc 54, 2) := by decide +kernel
theorem dX5_goes_32 : decode cX5_goes 32 = .ok (.ireturn, 1) := by decide +kernel
theorem dX5_goes_33 : decode cX5_goes 33 = .ok (.aload_n 0, 1) := by decide +kernel
theorem dX5_goes_34 : decode cX5_goes 34 = .ok (.getfield 11, 3) := by decide +kernel
theorem dX5_goes_37 : decode cX5_goes 37 = .ok (.iload_n 2, 1) := by decide +kernel
theorem dX5_goes_38 : decode cX5_goes 38 = .ok (.aaload, 1) := by decide +kernel
theorem dX5_goes_39 : decode cX5_goes 39 = .ok (.astore 5, 2) := by decide +kernel
theorem dX5_goes_41 : decode cX5_goes 41 = .ok (.aload 5, 2) := by decide +kernel
theorem dX5_goes_43 : decode cX5_goes 43 = .ok (.ifnonnull 9, 3) := by decide +kernel
theorem dX5_goes_46 : decode cX5_goes 46 = .ok (.aload_n 0, 1) := by decide +kernel
theorem dX5_goes_47 : decode cX5_goes 47 = .ok (.iconst 1, 1) := by decide +kernel
theorem dX5_goes_48 : decode cX5_goes 48 = .ok (.invokevirtual 55, 3) := by decide +kernel
theorem dX5_goes_51 : decode cX5_goes 51 = .ok (.ireturn, 1) := by decide +kernel
theorem dX5_goes_52 : decode cX5_goes 52 = .ok (.aload 5, 2) := by decide +kernel
theorem dX5_goes_54 : decode cX5_goes 54 = .ok (.iload_n 3, 1) := by decide +kernel
theorem dX5_goes_55 : decode cX5_goes 55 = .ok (.iconst 2, 1) := by decide +kernel
theorem dX5_goes_56 : decode cX5_goes 56 = .ok (.iload_n 1, 1) := by decide +kernel
theorem dX5_goes_57 : decode cX5_goes 57 = .ok (.imul, 1) := by decide +kernel
theorem dX5_goes_58 : decode cX5_goes 58 = .ok (.iconst 1, 1) := by decide +kernel
theorem dX5_goes_59 : decode cX5_goes 59 = .ok (.isub, 1) := by decide +kernel
theorem dX5_goes_60 : decode cX5_goes 60 = .ok (.iload_n 1, 1) := by decide +kernel
theorem dX5_goes_61 : decode cX5_goes 61 = .ok (.iconst 1, 1) := by decide +kernel
theorem dX5_goes_62 : decode cX5_goes 62 = .ok (.isub, 1) := by decide +kernel
theorem dX5_goes_63 : decode cX5_goes 63 = .ok (.ishl, 1) := by decide +kernel
theorem dX5_goes_64 : decode cX5_goes 64 = .ok (.invokevirtual 65, 3) := by decide +kernel
theorem dX5_goes_67 : decode cX5_goes 67 = .ok (.ifCond .ne 9, 3) := by decide +kernel
theorem dX5_goes_70 : decode cX5_goes 70 = .ok (.aload_n 0, 1) := by decide +kernel
theorem dX5_goes_71 : decode cX5_goes 71 = .ok (.iconst 2, 1) := by decide +kernel
theorem dX5_goes_72 : decode cX5_goes 72 = .ok (.invokevirtual 55, 3) := by decide +kernel
theorem dX5_goes_75 : decode cX5_goes 75 = .ok (.ireturn, 1) := by decide +kernel
theorem dX5_goes_76 : decode cX5_goes 76 = .ok (.aload_n 0, 1) := by decide +kernel
theorem dX5_goes_77 : decode cX5_goes 77 = .ok (.getfield 31, 3) := by decide +kernel
theorem dX5_goes_80 : decode cX5_goes 80 = .ok (.aload 5, 2) := by decide +kernel
theorem dX5_goes_82 : decode cX5_goes 82 = .ok (.iload_n 3, 1) := by decide +kernel
theorem dX5_goes_83 : decode cX5_goes 83 = .ok (.iload_n 1, 1) := by decide +kernel
theorem dX5_goes_84 : decode cX5_goes 84 = .ok (.invokevirtual 169, 3) := by decide +kernel
theorem dX5_goes_87 : decode cX5_goes 87 = .ok (.aload_n 0, 1) := by decide +kernel
theorem dX5_goes_88 : decode cX5_goes 88 = .ok (.aload_n 0, 1) := by decide +kernel
theorem dX5_goes_89 : decode cX5_goes 89 = .ok (.getfield 31, 3) := by decide +kernel
theorem dX5_goes_92 : decode cX5_goes 92 = .ok (.iload_n 1, 1) := by decide +kernel
theorem dX5_goes_93 : decode cX5_goes 93 = .ok (.iload 4, 2) := by decide +kernel
theorem dX5_goes_95 : decode cX5_goes 95 = .ok (.invokevirtual 173, 3) := by decide +kernel
theorem dX5_goes_98 : decode cX5_goes 98 = .ok (.invokevirtual 62, 3) := by decide +kernel
theorem dX5_goes_101 : decode cX5_goes 101 = .ok (.ireturn, 1) := by decide +kernel
set_option maxRecDepth 20000 in
theorem ggX5_demand_X5_isSheet : GoodIn wsX5_demand wsX5_isSheet := goodIn_r _ [10, 11, 12, 9, 13] (by decide +kernel) (by decide +kernel)
set_option maxRecDepth 20000 in
theorem gX5_demand_X5_isSheet : GoodIn wsX5_demand (va_wsS RX5 46 yX5_isSheet wsX5_isSheet) := goodIn_app (goodIn_of _ (by decide +kernel)) ggX5_demand_X5_isSheet
set_option maxRecDepth 20000 in
theorem ggX5_demand_X5_within : GoodIn wsX5_demand wsX5_within := goodIn_r _ [13] (by decide +kernel) (by decide +kernel)
set_option maxRecDepth 20000 in
theorem gX5_demand_X5_within : GoodIn wsX5_demand (va_wsS RX5 50 yX5_within wsX5_within) := goodIn_app (goodIn_of _ (by decide +kernel)) ggX5_demand_X5_within
set_option maxRecDepth 20000 in
theorem ggX5_demand_X5_found : GoodIn wsX5_demand wsX5_found := goodIn_r _ [17, 18, 19, 63, 64, 65, 66, 67, 68] (by decide +kernel) (by decide +kernel)
set_option maxRecDepth 20000 in
theorem gX5_demand_X5_found : GoodIn wsX5_demand (wsV RX5 55 RX5 yX5_found wsX5_found) := goodIn_app (goodIn_of _ (by decide +kernel)) ggX5_demand_X5_found
set_option maxRecDepth 20000 in
theorem ggX5_demand_X4_holds : GoodIn wsX5_demand wsX4_holds := goodIn_r _ [24, 25, 73, 74] (by decide +kernel) (by decide +kernel)
set_option maxRecDepth 20000 in
theorem gX5_demand_X4_holds : GoodIn wsX5_demand (wsV RX5 65 RX4 yX4_holds wsX4_holds) := goodIn_app (goodIn_of _ (by decide +kernel)) ggX5_demand_X4_holds
set_option maxRecDepth 20000 in
theorem ggX5_demand_X2_takeTable : GoodIn wsX5_demand wsX2_takeTable := goodIn_r _ [30, 31, 32, 33, 12, 9, 13, 34, 35, 36, 29, 37, 38, 39, 40, 41, 69, 70, 71, 72, 73, 74] (by decide +kernel) (by decide +kernel)
set_option maxRecDepth 20000 in
theorem gX5_demand_X2_takeTable : GoodIn wsX5_demand (wsV RX5 176 RX2 yX2_takeTable wsX2_takeTable) := goodIn_app (goodIn_of _ (by decide +kernel)) ggX5_demand_X2_takeTable
set_option maxRecDepth 20000 in
theorem ggX5_demand_X2_takeUpTo : GoodIn wsX5_demand wsX2_takeUpTo := goodIn_r _ [45, 31, 33, 46, 47, 48, 29, 49, 50, 51, 52, 53, 54, 55, 56, 57, 58, 69, 70, 71, 72] (by decide +kernel) (by decide +kernel)
set_option maxRecDepth 20000 in
theorem gX5_demand_X2_takeUpTo : GoodIn wsX5_demand (wsV RX5 180 RX2 yX2_takeUpTo wsX2_takeUpTo) := goodIn_app (goodIn_of _ (by decide +kernel)) ggX5_demand_X2_takeUpTo
set_option maxRecDepth 20000 in
theorem ggX5_demand_X5_fine : GoodIn wsX5_demand wsX5_fine := goodIn_r _ [62, 18, 63, 64, 65, 66, 67, 68] (by decide +kernel) (by decide +kernel)
set_option maxRecDepth 20000 in
theorem gX5_demand_X5_fine : GoodIn wsX5_demand (wsV RX5 62 RX5 yX5_fine wsX5_fine) := goodIn_app (goodIn_of _ (by decide +kernel)) ggX5_demand_X5_fine
theorem dX5_demand_0 : decode cX5_demand 0 = .ok (.iload_n 1, 1) := by decide +kernel
theorem dX5_demand_1 : decode cX5_demand 1 = .ok (.invokestatic 46, 3) := by decide +kernel
theorem dX5_demand_4 : decode cX5_demand 4 = .ok (.ifCond .eq 25, 3) := by decide +kernel
theorem dX5_demand_7 : decode cX5_demand 7 = .ok (.iload_n 3, 1) := by decide +kernel
theorem dX5_demand_8 : decode cX5_demand 8 = .ok (.iconst 1, 1) := by decide +kernel
theorem dX5_demand_9 : decode cX5_demand 9 = .ok (.bipush 6, 2) := by decide +kernel
theorem dX5_demand_11 : decode cX5_demand 11 = .ok (.invokestatic 50, 3) := by decide +kernel
theorem dX5_demand_14 : decode cX5_demand 14 = .ok (.ifCond .eq 15, 3) := by decide +kernel
theorem dX5_demand_17 : decode cX5_demand 17 = .ok (.iload 5, 2) := by decide +kernel
theorem dX5_demand_19 : decode cX5_demand 19 = .ok (.iconst (-1), 1) := by decide +kernel
theorem dX5_demand_20 : decode cX5_demand 20 = .ok (.iload_n 3, 1) := by decide +kernel
theorem dX5_demand_21 : decode cX5_demand 21 = .ok (.iconst 1, 1) := by decide +kernel
theorem dX5_demand_22 : decode cX5_demand 22 = .ok (.isub, 1) := by decide +kernel
theorem dX5_demand_23 : decode cX5_demand 23 = .ok (.invokestatic 50, 3) := by decide +kernel
theorem dX5_demand_26 : decode cX5_demand 26 = .ok (.ifCond .ne 6, 3) := by decide +kernel
theorem dX5_demand_29 : decode cX5_demand 29 = .ok (.ldc 54, 2) := by decide +kernel
theorem dX5_demand_31 : decode cX5_demand 31 = .ok (.ireturn, 1) := by decide +kernel
theorem dX5_demand_32 : decode cX5_demand 32 = .ok (.aload_n 0, 1) := by decide +kernel
theorem dX5_demand_33 : decode cX5_demand 33 = .ok (.getfield 11, 3) := by decide +kernel
theorem dX5_demand_36 : decode cX5_demand 36 = .ok (.iload_n 1, 1) := by decide +kernel
theorem dX5_demand_37 : decode cX5_demand 37 = .ok (.aaload, 1) := by decide +kernel
theorem dX5_demand_38 : decode cX5_demand 38 = .ok (.astore 6, 2) := by decide +kernel
theorem dX5_demand_40 : decode cX5_demand 40 = .ok (.aload 6, 2) := by decide +kernel
theorem dX5_demand_42 : decode cX5_demand 42 = .ok (.ifnonnull 9, 3) := by decide +kernel
theorem dX5_demand_45 : decode cX5_demand 45 = .ok (.aload_n 0, 1) := by decide +kernel
theorem dX5_demand_46 : decode cX5_demand 46 = .ok (.iconst 1, 1) := by decide +kernel
theorem dX5_demand_47 : decode cX5_demand 47 = .ok (.invokevirtual 55, 3) := by decide +kernel
theorem dX5_demand_50 : decode cX5_demand 50 = .ok (.ireturn, 1) := by decide +kernel
theorem dX5_demand_51 : decode cX5_demand 51 = .ok (.aload 6, 2) := by decide +kernel
theorem dX5_demand_53 : decode cX5_demand 53 = .ok (.iload_n 2, 1) := by decide +kernel
theorem dX5_demand_54 : decode cX5_demand 54 = .ok (.iload_n 3, 1) := by decide +kernel
theorem dX5_demand_55 : decode cX5_demand 55 = .ok (.iload_n 3, 1) := by decide +kernel
theorem dX5_demand_56 : decode cX5_demand 56 = .ok (.imul, 1) := by decide +kernel
theorem dX5_demand_57 : decode cX5_demand 57 = .ok (.invokevirtual 65, 3) := by decide +kernel
theorem dX5_demand_60 : decode cX5_demand 60 = .ok (.ifCond .ne 9, 3) := by decide +kernel
theorem dX5_demand_63 : decode cX5_demand 63 = .ok (.aload_n 0, 1) := by decide +kernel
theorem dX5_demand_64 : decode cX5_demand 64 = .ok (.iconst 2, 1) := by decide +kernel
theorem dX5_demand_65 : decode cX5_demand 65 = .ok (.invokevirtual 55, 3) := by decide +kernel
theorem dX5_demand_68 : decode cX5_demand 68 = .ok (.ireturn, 1) := by decide +kernel
theorem dX5_demand_69 : decode cX5_demand 69 = .ok (.aload_n 0, 1) := by decide +kernel
theorem dX5_demand_70 : decode cX5_demand 70 = .ok (.getfield 38, 3) := by decide +kernel
theorem dX5_demand_73 : decode cX5_demand 73 = .ok (.aload 6, 2) := by decide +kernel
theorem dX5_demand_75 : decode cX5_demand 75 = .ok (.iload_n 2, 1) := by decide +kernel
theorem dX5_demand_76 : decode cX5_demand 76 = .ok (.iload_n 3, 1) := by decide +kernel
theorem dX5_demand_77 : decode cX5_demand 77 = .ok (.invokevirtual 176, 3) := by decide +kernel
theorem dX5_demand_80 : decode cX5_demand 80 = .ok (.ifCond .ne 6, 3) := by decide +kernel
theorem dX5_demand_83 : decode cX5_demand 83 = .ok (.ldc 54, 2) := by decide +kernel
theorem dX5_demand_85 : decode cX5_demand 85 = .ok (.ireturn, 1) := by decide +kernel
theorem dX5_demand_86 : decode cX5_demand 86 = .ok (.iload 4, 2) := by decide +kernel
theorem dX5_demand_88 : decode cX5_demand 88 = .ok (.ldc 179, 2) := by decide +kernel
theorem dX5_demand_90 : decode cX5_demand 90 = .ok (.if_icmp .ne 17, 3) := by decide +kernel
theorem dX5_demand_93 : decode cX5_demand 93 = .ok (.aload_n 0, 1) := by decide +kernel
theorem dX5_demand_94 : decode cX5_demand 94 = .ok (.aload_n 0, 1) := by decide +kernel
theorem dX5_demand_95 : decode cX5_demand 95 = .ok (.getfield 38, 3) := by decide +kernel
theorem dX5_demand_98 : decode cX5_demand 98 = .ok (.bipush 36, 2) := by decide +kernel
theorem dX5_demand_100 : decode cX5_demand 100 = .ok (.invokevirtual 180, 3) := by decide +kernel
theorem dX5_demand_103 : decode cX5_demand 103 = .ok (.invokevirtual 62, 3) := by decide +kernel
theorem dX5_demand_106 : decode cX5_demand 106 = .ok (.ireturn, 1) := by decide +kernel
theorem dX5_demand_107 : decode cX5_demand 107 = .ok (.iload 4, 2) := by decide +kernel
theorem dX5_demand_109 : decode cX5_demand 109 = .ok (.iconst 0, 1) := by decide +kernel
theorem dX5_demand_110 : decode cX5_demand 110 = .ok (.bipush 35, 2) := by decide +kernel
theorem dX5_demand_112 : decode cX5_demand 112 = .ok (.invokestatic 50, 3) := by decide +kernel
theorem dX5_demand_115 : decode cX5_demand 115 = .ok (.ifCond .eq 19, 3) := by decide +kernel
theorem dX5_demand_118 : decode cX5_demand 118 = .ok (.aload_n 0, 1) := by decide +kernel
theorem dX5_demand_119 : decode cX5_demand 119 = .ok (.getfield 38, 3) := by decide +kernel
theorem dX5_demand_122 : decode cX5_demand 122 = .ok (.iload 4, 2) := by decide +kernel
theorem dX5_demand_124 : decode cX5_demand 124 = .ok (.iconst 1, 1) := by decide +kernel
theorem dX5_demand_125 : decode cX5_demand 125 = .ok (.iadd, 1) := by decide +kernel
theorem dX5_demand_126 : decode cX5_demand 126 = .ok (.invokevirtual 180, 3) := by decide +kernel
theorem dX5_demand_129 : decode cX5_demand 129 = .ok (.iload 4, 2) := by decide +kernel
theorem dX5_demand_131 : decode cX5_demand 131 = .ok (.if_icmp .gt 10, 3) := by decide +kernel
theorem dX5_demand_134 : decode cX5_demand 134 = .ok (.aload_n 0, 1) := by decide +kernel
theorem dX5_demand_135 : decode cX5_demand 135 = .ok (.ldc 179, 2) := by decide +kernel
theorem dX5_demand_137 : decode cX5_demand 137 = .ok (.invokevirtual 62, 3) := by decide +kernel
theorem dX5_demand_140 : decode cX5_demand 140 = .ok (.ireturn, 1) := by decide +kernel
