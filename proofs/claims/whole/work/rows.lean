section
-- ===== PART A: goes FIRST, ahead of the names: the tables' words, and 'selects' of the private methods out of them =====
/-- a private method of a class that the tables say can be made, by its rows of tables_1 -/
def lw_okq (q : MethodName × Nat) : Prop := (q.1.cls ≠ "java/lang/invoke/MethodHandle" ∧ q.1.cls ≠ "java/lang/invoke/VarHandle") ∧ Cond.instantiable q.1.cls q.2 ∈ tables_1 ∧ Cond.privateMethod q.1 ∈ tables_1 ∧ Cond.instanceMethod q.1 ∈ tables_1
theorem lw_p0 : lw_okq (⟨"StageSwitch", "found", "(I)I"⟩, 6) := ⟨⟨by decide +kernel, by decide +kernel⟩, List.mem_of_getElem? (i := 12) (by decide +kernel), List.mem_of_getElem? (i := 112) (by decide +kernel), List.mem_of_getElem? (i := 113) (by decide +kernel)⟩
theorem lw_p1 : lw_okq (⟨"StageSwitch", "fine", "(I)I"⟩, 6) := ⟨⟨by decide +kernel, by decide +kernel⟩, List.mem_of_getElem? (i := 12) (by decide +kernel), List.mem_of_getElem? (i := 133) (by decide +kernel), List.mem_of_getElem? (i := 134) (by decide +kernel)⟩
theorem lw_p2 : lw_okq (⟨"StageSwitch$Asks", "sizeOfLoose", "(LStageSwitch$Net;)I"⟩, 2) := ⟨⟨by decide +kernel, by decide +kernel⟩, List.mem_of_getElem? (i := 24) (by decide +kernel), List.mem_of_getElem? (i := 276) (by decide +kernel), List.mem_of_getElem? (i := 277) (by decide +kernel)⟩
theorem lw_p3 : lw_okq (⟨"StageSwitch$Asks", "begin", "(I)V"⟩, 2) := ⟨⟨by decide +kernel, by decide +kernel⟩, List.mem_of_getElem? (i := 24) (by decide +kernel), List.mem_of_getElem? (i := 280) (by decide +kernel), List.mem_of_getElem? (i := 281) (by decide +kernel)⟩
theorem lw_p4 : lw_okq (⟨"StageSwitch$Asks", "sizeOfNet", "(LStageSwitch$Net;)I"⟩, 2) := ⟨⟨by decide +kernel, by decide +kernel⟩, List.mem_of_getElem? (i := 24) (by decide +kernel), List.mem_of_getElem? (i := 284) (by decide +kernel), List.mem_of_getElem? (i := 285) (by decide +kernel)⟩
theorem lw_p5 : lw_okq (⟨"StageSwitch$Asks", "sizeOfStrict", "(LStageSwitch$Net;)I"⟩, 2) := ⟨⟨by decide +kernel, by decide +kernel⟩, List.mem_of_getElem? (i := 24) (by decide +kernel), List.mem_of_getElem? (i := 288) (by decide +kernel), List.mem_of_getElem? (i := 289) (by decide +kernel)⟩
theorem lw_p6 : lw_okq (⟨"StageSwitch$Asks", "markOfLoose", "(LStageSwitch$Net;)I"⟩, 2) := ⟨⟨by decide +kernel, by decide +kernel⟩, List.mem_of_getElem? (i := 24) (by decide +kernel), List.mem_of_getElem? (i := 292) (by decide +kernel), List.mem_of_getElem? (i := 293) (by decide +kernel)⟩
theorem lw_p7 : lw_okq (⟨"StageSwitch$Asks", "markOfNet", "(LStageSwitch$Net;)I"⟩, 2) := ⟨⟨by decide +kernel, by decide +kernel⟩, List.mem_of_getElem? (i := 24) (by decide +kernel), List.mem_of_getElem? (i := 296) (by decide +kernel), List.mem_of_getElem? (i := 297) (by decide +kernel)⟩
theorem lw_p8 : lw_okq (⟨"StageSwitch$Asks", "sizeOfBare", "(LStageSwitch$Net;)I"⟩, 2) := ⟨⟨by decide +kernel, by decide +kernel⟩, List.mem_of_getElem? (i := 24) (by decide +kernel), List.mem_of_getElem? (i := 300) (by decide +kernel), List.mem_of_getElem? (i := 301) (by decide +kernel)⟩
theorem lw_p9 : lw_okq (⟨"StageSwitch$Asks", "markOfBare", "(LStageSwitch$Net;)I"⟩, 2) := ⟨⟨by decide +kernel, by decide +kernel⟩, List.mem_of_getElem? (i := 24) (by decide +kernel), List.mem_of_getElem? (i := 308) (by decide +kernel), List.mem_of_getElem? (i := 309) (by decide +kernel)⟩
theorem lw_p10 : lw_okq (⟨"StageSwitch$Net", "isFree", "(III)Z"⟩, 17) := ⟨⟨by decide +kernel, by decide +kernel⟩, List.mem_of_getElem? (i := 166) (by decide +kernel), List.mem_of_getElem? (i := 344) (by decide +kernel), List.mem_of_getElem? (i := 345) (by decide +kernel)⟩
theorem lw_p11 : lw_okq (⟨"StageSwitch$Net", "isFreeFrom", "(II)Z"⟩, 17) := ⟨⟨by decide +kernel, by decide +kernel⟩, List.mem_of_getElem? (i := 166) (by decide +kernel), List.mem_of_getElem? (i := 348) (by decide +kernel), List.mem_of_getElem? (i := 349) (by decide +kernel)⟩
theorem lw_p12 : lw_okq (⟨"StageSwitch$Net", "link", "(II)I"⟩, 17) := ⟨⟨by decide +kernel, by decide +kernel⟩, List.mem_of_getElem? (i := 166) (by decide +kernel), List.mem_of_getElem? (i := 352) (by decide +kernel), List.mem_of_getElem? (i := 353) (by decide +kernel)⟩
theorem lw_p13 : lw_okq (⟨"StageSwitch$Net", "isFreeTo", "(II)Z"⟩, 17) := ⟨⟨by decide +kernel, by decide +kernel⟩, List.mem_of_getElem? (i := 166) (by decide +kernel), List.mem_of_getElem? (i := 356) (by decide +kernel), List.mem_of_getElem? (i := 357) (by decide +kernel)⟩
theorem lw_p14 : lw_okq (⟨"StageSwitch$Net", "planMoves", "(II)I"⟩, 17) := ⟨⟨by decide +kernel, by decide +kernel⟩, List.mem_of_getElem? (i := 166) (by decide +kernel), List.mem_of_getElem? (i := 360) (by decide +kernel), List.mem_of_getElem? (i := 361) (by decide +kernel)⟩
theorem lw_p15 : lw_okq (⟨"StageSwitch$Net", "walkChain", "(III)I"⟩, 17) := ⟨⟨by decide +kernel, by decide +kernel⟩, List.mem_of_getElem? (i := 166) (by decide +kernel), List.mem_of_getElem? (i := 364) (by decide +kernel), List.mem_of_getElem? (i := 365) (by decide +kernel)⟩
def lw_privs_1 : List (MethodName × Nat) := [(⟨"StageSwitch", "found", "(I)I"⟩, 6), (⟨"StageSwitch", "fine", "(I)I"⟩, 6), (⟨"StageSwitch$Asks", "sizeOfLoose", "(LStageSwitch$Net;)I"⟩, 2), (⟨"StageSwitch$Asks", "begin", "(I)V"⟩, 2), (⟨"StageSwitch$Asks", "sizeOfNet", "(LStageSwitch$Net;)I"⟩, 2), (⟨"StageSwitch$Asks", "sizeOfStrict", "(LStageSwitch$Net;)I"⟩, 2), (⟨"StageSwitch$Asks", "markOfLoose", "(LStageSwitch$Net;)I"⟩, 2), (⟨"StageSwitch$Asks", "markOfNet", "(LStageSwitch$Net;)I"⟩, 2), (⟨"StageSwitch$Asks", "sizeOfBare", "(LStageSwitch$Net;)I"⟩, 2), (⟨"StageSwitch$Asks", "markOfBare", "(LStageSwitch$Net;)I"⟩, 2), (⟨"StageSwitch$Net", "isFree", "(III)Z"⟩, 17), (⟨"StageSwitch$Net", "isFreeFrom", "(II)Z"⟩, 17), (⟨"StageSwitch$Net", "link", "(II)I"⟩, 17), (⟨"StageSwitch$Net", "isFreeTo", "(II)Z"⟩, 17), (⟨"StageSwitch$Net", "planMoves", "(II)I"⟩, 17), (⟨"StageSwitch$Net", "walkChain", "(III)I"⟩, 17)]
theorem lw_r1 : ∀ q ∈ lw_privs_1, lw_okq q := List.forall_mem_cons.mpr ⟨lw_p0, List.forall_mem_cons.mpr ⟨lw_p1, List.forall_mem_cons.mpr ⟨lw_p2, List.forall_mem_cons.mpr ⟨lw_p3, List.forall_mem_cons.mpr ⟨lw_p4, List.forall_mem_cons.mpr ⟨lw_p5, List.forall_mem_cons.mpr ⟨lw_p6, List.forall_mem_cons.mpr ⟨lw_p7, List.forall_mem_cons.mpr ⟨lw_p8, List.forall_mem_cons.mpr ⟨lw_p9, List.forall_mem_cons.mpr ⟨lw_p10, List.forall_mem_cons.mpr ⟨lw_p11, List.forall_mem_cons.mpr ⟨lw_p12, List.forall_mem_cons.mpr ⟨lw_p13, List.forall_mem_cons.mpr ⟨lw_p14, List.forall_mem_cons.mpr ⟨lw_p15, fun _ h => absurd h List.not_mem_nil⟩⟩⟩⟩⟩⟩⟩⟩⟩⟩⟩⟩⟩⟩⟩⟩
theorem lw_p16 : lw_okq (⟨"StageSwitch$Net", "swapChain", "(III)V"⟩, 17) := ⟨⟨by decide +kernel, by decide +kernel⟩, List.mem_of_getElem? (i := 166) (by decide +kernel), List.mem_of_getElem? (i := 368) (by decide +kernel), List.mem_of_getElem? (i := 369) (by decide +kernel)⟩
theorem lw_p17 : lw_okq (⟨"StageSwitch$Net", "leaveLinks", "(I)V"⟩, 17) := ⟨⟨by decide +kernel, by decide +kernel⟩, List.mem_of_getElem? (i := 166) (by decide +kernel), List.mem_of_getElem? (i := 372) (by decide +kernel), List.mem_of_getElem? (i := 373) (by decide +kernel)⟩
theorem lw_p18 : lw_okq (⟨"StageSwitch$Net", "takeLinks", "(II)V"⟩, 17) := ⟨⟨by decide +kernel, by decide +kernel⟩, List.mem_of_getElem? (i := 166) (by decide +kernel), List.mem_of_getElem? (i := 376) (by decide +kernel), List.mem_of_getElem? (i := 377) (by decide +kernel)⟩
theorem lw_p19 : lw_okq (⟨"StageSwitch$Rounds", "goRound", "(III)V"⟩, 4) := ⟨⟨by decide +kernel, by decide +kernel⟩, List.mem_of_getElem? (i := 38) (by decide +kernel), List.mem_of_getElem? (i := 436) (by decide +kernel), List.mem_of_getElem? (i := 437) (by decide +kernel)⟩
theorem lw_p20 : lw_okq (⟨"StageSwitch$Rounds", "setOuterStages", "(IIII)V"⟩, 4) := ⟨⟨by decide +kernel, by decide +kernel⟩, List.mem_of_getElem? (i := 38) (by decide +kernel), List.mem_of_getElem? (i := 443) (by decide +kernel), List.mem_of_getElem? (i := 444) (by decide +kernel)⟩
theorem lw_p21 : lw_okq (⟨"StageSwitch$Rounds", "handToHalves", "(III)V"⟩, 4) := ⟨⟨by decide +kernel, by decide +kernel⟩, List.mem_of_getElem? (i := 38) (by decide +kernel), List.mem_of_getElem? (i := 447) (by decide +kernel), List.mem_of_getElem? (i := 448) (by decide +kernel)⟩
theorem lw_p22 : lw_okq (⟨"StageSwitch$Parts", "sumOfRow", "(I)I"⟩, 4) := ⟨⟨by decide +kernel, by decide +kernel⟩, List.mem_of_getElem? (i := 60) (by decide +kernel), List.mem_of_getElem? (i := 472) (by decide +kernel), List.mem_of_getElem? (i := 473) (by decide +kernel)⟩
theorem lw_p23 : lw_okq (⟨"StageSwitch$Parts", "sumOfColumn", "(I)I"⟩, 4) := ⟨⟨by decide +kernel, by decide +kernel⟩, List.mem_of_getElem? (i := 60) (by decide +kernel), List.mem_of_getElem? (i := 476) (by decide +kernel), List.mem_of_getElem? (i := 477) (by decide +kernel)⟩
theorem lw_p24 : lw_okq (⟨"StageSwitch$Parts", "takeOrderOff", "()V"⟩, 4) := ⟨⟨by decide +kernel, by decide +kernel⟩, List.mem_of_getElem? (i := 60) (by decide +kernel), List.mem_of_getElem? (i := 488) (by decide +kernel), List.mem_of_getElem? (i := 489) (by decide +kernel)⟩
theorem lw_p25 : lw_okq (⟨"StageSwitch", "countSheets", "()I"⟩, 6) := ⟨⟨by decide +kernel, by decide +kernel⟩, List.mem_of_getElem? (i := 12) (by decide +kernel), List.mem_of_getElem? (i := 512) (by decide +kernel), List.mem_of_getElem? (i := 513) (by decide +kernel)⟩
theorem lw_p26 : lw_okq (⟨"StageSwitch", "countNets", "(I)I"⟩, 6) := ⟨⟨by decide +kernel, by decide +kernel⟩, List.mem_of_getElem? (i := 12) (by decide +kernel), List.mem_of_getElem? (i := 516) (by decide +kernel), List.mem_of_getElem? (i := 517) (by decide +kernel)⟩
theorem lw_p27 : lw_okq (⟨"StageSwitch", "countCalls", "()I"⟩, 6) := ⟨⟨by decide +kernel, by decide +kernel⟩, List.mem_of_getElem? (i := 12) (by decide +kernel), List.mem_of_getElem? (i := 520) (by decide +kernel), List.mem_of_getElem? (i := 521) (by decide +kernel)⟩
theorem lw_p28 : lw_okq (⟨"StageSwitchModel", "found", "(I)I"⟩, 30) := ⟨⟨by decide +kernel, by decide +kernel⟩, List.mem_of_getElem? (i := 528) (by decide +kernel), List.mem_of_getElem? (i := 639) (by decide +kernel), List.mem_of_getElem? (i := 640) (by decide +kernel)⟩
theorem lw_p29 : lw_okq (⟨"StageSwitchModel", "kindOf", "(I)I"⟩, 30) := ⟨⟨by decide +kernel, by decide +kernel⟩, List.mem_of_getElem? (i := 528) (by decide +kernel), List.mem_of_getElem? (i := 667) (by decide +kernel), List.mem_of_getElem? (i := 668) (by decide +kernel)⟩
theorem lw_p30 : lw_okq (⟨"StageSwitchModel", "alive", "(I)I"⟩, 30) := ⟨⟨by decide +kernel, by decide +kernel⟩, List.mem_of_getElem? (i := 528) (by decide +kernel), List.mem_of_getElem? (i := 671) (by decide +kernel), List.mem_of_getElem? (i := 672) (by decide +kernel)⟩
theorem lw_p31 : lw_okq (⟨"StageSwitchModel", "look", "(I)I"⟩, 30) := ⟨⟨by decide +kernel, by decide +kernel⟩, List.mem_of_getElem? (i := 528) (by decide +kernel), List.mem_of_getElem? (i := 683) (by decide +kernel), List.mem_of_getElem? (i := 684) (by decide +kernel)⟩
def lw_privs_2 : List (MethodName × Nat) := [(⟨"StageSwitch$Net", "swapChain", "(III)V"⟩, 17), (⟨"StageSwitch$Net", "leaveLinks", "(I)V"⟩, 17), (⟨"StageSwitch$Net", "takeLinks", "(II)V"⟩, 17), (⟨"StageSwitch$Rounds", "goRound", "(III)V"⟩, 4), (⟨"StageSwitch$Rounds", "setOuterStages", "(IIII)V"⟩, 4), (⟨"StageSwitch$Rounds", "handToHalves", "(III)V"⟩, 4), (⟨"StageSwitch$Parts", "sumOfRow", "(I)I"⟩, 4), (⟨"StageSwitch$Parts", "sumOfColumn", "(I)I"⟩, 4), (⟨"StageSwitch$Parts", "takeOrderOff", "()V"⟩, 4), (⟨"StageSwitch", "countSheets", "()I"⟩, 6), (⟨"StageSwitch", "countNets", "(I)I"⟩, 6), (⟨"StageSwitch", "countCalls", "()I"⟩, 6), (⟨"StageSwitchModel", "found", "(I)I"⟩, 30), (⟨"StageSwitchModel", "kindOf", "(I)I"⟩, 30), (⟨"StageSwitchModel", "alive", "(I)I"⟩, 30), (⟨"StageSwitchModel", "look", "(I)I"⟩, 30)]
theorem lw_r2 : ∀ q ∈ lw_privs_2, lw_okq q := List.forall_mem_cons.mpr ⟨lw_p16, List.forall_mem_cons.mpr ⟨lw_p17, List.forall_mem_cons.mpr ⟨lw_p18, List.forall_mem_cons.mpr ⟨lw_p19, List.forall_mem_cons.mpr ⟨lw_p20, List.forall_mem_cons.mpr ⟨lw_p21, List.forall_mem_cons.mpr ⟨lw_p22, List.forall_mem_cons.mpr ⟨lw_p23, List.forall_mem_cons.mpr ⟨lw_p24, List.forall_mem_cons.mpr ⟨lw_p25, List.forall_mem_cons.mpr ⟨lw_p26, List.forall_mem_cons.mpr ⟨lw_p27, List.forall_mem_cons.mpr ⟨lw_p28, List.forall_mem_cons.mpr ⟨lw_p29, List.forall_mem_cons.mpr ⟨lw_p30, List.forall_mem_cons.mpr ⟨lw_p31, fun _ h => absurd h List.not_mem_nil⟩⟩⟩⟩⟩⟩⟩⟩⟩⟩⟩⟩⟩⟩⟩⟩
theorem lw_p32 : lw_okq (⟨"StageSwitchModel", "sized", "(I)I"⟩, 30) := ⟨⟨by decide +kernel, by decide +kernel⟩, List.mem_of_getElem? (i := 528) (by decide +kernel), List.mem_of_getElem? (i := 703) (by decide +kernel), List.mem_of_getElem? (i := 704) (by decide +kernel)⟩
theorem lw_p33 : lw_okq (⟨"StageSwitchModel", "bareSize", "(I)I"⟩, 30) := ⟨⟨by decide +kernel, by decide +kernel⟩, List.mem_of_getElem? (i := 528) (by decide +kernel), List.mem_of_getElem? (i := 707) (by decide +kernel), List.mem_of_getElem? (i := 708) (by decide +kernel)⟩
theorem lw_p34 : lw_okq (⟨"StageSwitchModel", "began", "(I)V"⟩, 30) := ⟨⟨by decide +kernel, by decide +kernel⟩, List.mem_of_getElem? (i := 528) (by decide +kernel), List.mem_of_getElem? (i := 711) (by decide +kernel), List.mem_of_getElem? (i := 712) (by decide +kernel)⟩
theorem lw_p35 : lw_okq (⟨"StageSwitchModel", "marked", "(I)I"⟩, 30) := ⟨⟨by decide +kernel, by decide +kernel⟩, List.mem_of_getElem? (i := 528) (by decide +kernel), List.mem_of_getElem? (i := 715) (by decide +kernel), List.mem_of_getElem? (i := 716) (by decide +kernel)⟩
theorem lw_p36 : lw_okq (⟨"StageSwitchModel", "calls", "(I)I"⟩, 30) := ⟨⟨by decide +kernel, by decide +kernel⟩, List.mem_of_getElem? (i := 528) (by decide +kernel), List.mem_of_getElem? (i := 719) (by decide +kernel), List.mem_of_getElem? (i := 720) (by decide +kernel)⟩
theorem lw_p37 : lw_okq (⟨"StageSwitchModel", "isLine", "(II)Z"⟩, 30) := ⟨⟨by decide +kernel, by decide +kernel⟩, List.mem_of_getElem? (i := 528) (by decide +kernel), List.mem_of_getElem? (i := 731) (by decide +kernel), List.mem_of_getElem? (i := 732) (by decide +kernel)⟩
theorem lw_p38 : lw_okq (⟨"StageSwitchModel", "isTaken", "(III)Z"⟩, 30) := ⟨⟨by decide +kernel, by decide +kernel⟩, List.mem_of_getElem? (i := 528) (by decide +kernel), List.mem_of_getElem? (i := 735) (by decide +kernel), List.mem_of_getElem? (i := 736) (by decide +kernel)⟩
theorem lw_p39 : lw_okq (⟨"StageSwitchModel", "best", "(III)I"⟩, 30) := ⟨⟨by decide +kernel, by decide +kernel⟩, List.mem_of_getElem? (i := 528) (by decide +kernel), List.mem_of_getElem? (i := 740) (by decide +kernel), List.mem_of_getElem? (i := 741) (by decide +kernel)⟩
theorem lw_p40 : lw_okq (⟨"StageSwitchModel", "isFree", "(IIII)Z"⟩, 30) := ⟨⟨by decide +kernel, by decide +kernel⟩, List.mem_of_getElem? (i := 528) (by decide +kernel), List.mem_of_getElem? (i := 744) (by decide +kernel), List.mem_of_getElem? (i := 745) (by decide +kernel)⟩
theorem lw_p41 : lw_okq (⟨"StageSwitchModel", "callFrom", "(III)I"⟩, 30) := ⟨⟨by decide +kernel, by decide +kernel⟩, List.mem_of_getElem? (i := 528) (by decide +kernel), List.mem_of_getElem? (i := 748) (by decide +kernel), List.mem_of_getElem? (i := 749) (by decide +kernel)⟩
theorem lw_p42 : lw_okq (⟨"StageSwitchModel", "callTo", "(III)I"⟩, 30) := ⟨⟨by decide +kernel, by decide +kernel⟩, List.mem_of_getElem? (i := 528) (by decide +kernel), List.mem_of_getElem? (i := 752) (by decide +kernel), List.mem_of_getElem? (i := 753) (by decide +kernel)⟩
theorem lw_p43 : lw_okq (⟨"StageSwitchModel", "findChain", "(IIII)V"⟩, 30) := ⟨⟨by decide +kernel, by decide +kernel⟩, List.mem_of_getElem? (i := 528) (by decide +kernel), List.mem_of_getElem? (i := 756) (by decide +kernel), List.mem_of_getElem? (i := 757) (by decide +kernel)⟩
theorem lw_p44 : lw_okq (⟨"StageSwitchModel", "setUp", "(III)I"⟩, 30) := ⟨⟨by decide +kernel, by decide +kernel⟩, List.mem_of_getElem? (i := 528) (by decide +kernel), List.mem_of_getElem? (i := 760) (by decide +kernel), List.mem_of_getElem? (i := 761) (by decide +kernel)⟩
theorem lw_p45 : lw_okq (⟨"StageSwitchModel", "part", "(III)V"⟩, 30) := ⟨⟨by decide +kernel, by decide +kernel⟩, List.mem_of_getElem? (i := 528) (by decide +kernel), List.mem_of_getElem? (i := 789) (by decide +kernel), List.mem_of_getElem? (i := 790) (by decide +kernel)⟩
theorem lw_p46 : lw_okq (⟨"StageSwitchModel", "findParts", "(II)V"⟩, 30) := ⟨⟨by decide +kernel, by decide +kernel⟩, List.mem_of_getElem? (i := 528) (by decide +kernel), List.mem_of_getElem? (i := 803) (by decide +kernel), List.mem_of_getElem? (i := 804) (by decide +kernel)⟩
theorem lw_p47 : lw_okq (⟨"StageSwitchModel", "leastBy", "(I)I"⟩, 30) := ⟨⟨by decide +kernel, by decide +kernel⟩, List.mem_of_getElem? (i := 528) (by decide +kernel), List.mem_of_getElem? (i := 807) (by decide +kernel), List.mem_of_getElem? (i := 808) (by decide +kernel)⟩
def lw_privs_3 : List (MethodName × Nat) := [(⟨"StageSwitchModel", "sized", "(I)I"⟩, 30), (⟨"StageSwitchModel", "bareSize", "(I)I"⟩, 30), (⟨"StageSwitchModel", "began", "(I)V"⟩, 30), (⟨"StageSwitchModel", "marked", "(I)I"⟩, 30), (⟨"StageSwitchModel", "calls", "(I)I"⟩, 30), (⟨"StageSwitchModel", "isLine", "(II)Z"⟩, 30), (⟨"StageSwitchModel", "isTaken", "(III)Z"⟩, 30), (⟨"StageSwitchModel", "best", "(III)I"⟩, 30), (⟨"StageSwitchModel", "isFree", "(IIII)Z"⟩, 30), (⟨"StageSwitchModel", "callFrom", "(III)I"⟩, 30), (⟨"StageSwitchModel", "callTo", "(III)I"⟩, 30), (⟨"StageSwitchModel", "findChain", "(IIII)V"⟩, 30), (⟨"StageSwitchModel", "setUp", "(III)I"⟩, 30), (⟨"StageSwitchModel", "part", "(III)V"⟩, 30), (⟨"StageSwitchModel", "findParts", "(II)V"⟩, 30), (⟨"StageSwitchModel", "leastBy", "(I)I"⟩, 30)]
theorem lw_r3 : ∀ q ∈ lw_privs_3, lw_okq q := List.forall_mem_cons.mpr ⟨lw_p32, List.forall_mem_cons.mpr ⟨lw_p33, List.forall_mem_cons.mpr ⟨lw_p34, List.forall_mem_cons.mpr ⟨lw_p35, List.forall_mem_cons.mpr ⟨lw_p36, List.forall_mem_cons.mpr ⟨lw_p37, List.forall_mem_cons.mpr ⟨lw_p38, List.forall_mem_cons.mpr ⟨lw_p39, List.forall_mem_cons.mpr ⟨lw_p40, List.forall_mem_cons.mpr ⟨lw_p41, List.forall_mem_cons.mpr ⟨lw_p42, List.forall_mem_cons.mpr ⟨lw_p43, List.forall_mem_cons.mpr ⟨lw_p44, List.forall_mem_cons.mpr ⟨lw_p45, List.forall_mem_cons.mpr ⟨lw_p46, List.forall_mem_cons.mpr ⟨lw_p47, fun _ h => absurd h List.not_mem_nil⟩⟩⟩⟩⟩⟩⟩⟩⟩⟩⟩⟩⟩⟩⟩⟩
theorem lw_p48 : lw_okq (⟨"StageSwitchModel", "next", "(I)Z"⟩, 30) := ⟨⟨by decide +kernel, by decide +kernel⟩, List.mem_of_getElem? (i := 528) (by decide +kernel), List.mem_of_getElem? (i := 812) (by decide +kernel), List.mem_of_getElem? (i := 813) (by decide +kernel)⟩
def lw_privs_4 : List (MethodName × Nat) := [(⟨"StageSwitchModel", "next", "(I)Z"⟩, 30)]
theorem lw_r4 : ∀ q ∈ lw_privs_4, lw_okq q := List.forall_mem_cons.mpr ⟨lw_p48, fun _ h => absurd h List.not_mem_nil⟩
def lw_privs : List (MethodName × Nat) := lw_privs_1 ++ (lw_privs_2 ++ (lw_privs_3 ++ (lw_privs_4)))
def lw_tbl : List Cond := k2_sels lw_privs ++ tables_1
theorem lw_privs_ok : ∀ q ∈ lw_privs, lw_okq q := by
  show ∀ q ∈ lw_privs_1 ++ (lw_privs_2 ++ (lw_privs_3 ++ (lw_privs_4))), lw_okq q
  exact List.forall_mem_append.mpr ⟨lw_r1, List.forall_mem_append.mpr ⟨lw_r2, List.forall_mem_append.mpr ⟨lw_r3, lw_r4⟩⟩⟩
-- ===== end of PART A; then your names; then what follows =====
end
section
/-! ===== BEGIN words of one list among another's, by their places ===== -/
theorem goodIn_r {big : List Cond} (ws : List Cond) (ps : List Nat) (hp : ws = ps.filterMap (fun i => big[i]?)) (h : ws.all goodWord = true) : GoodIn big ws := by
  intro w hw
  have h1 := List.all_eq_true.mp h w hw
  rw [hp] at hw
  obtain ⟨i, -, hi⟩ := List.mem_filterMap.mp hw
  have hm : w ∈ big := by first | exact List.mem_of_getElem? hi | exact List.getElem?_mem hi
  exact ⟨hm, good_of_word h1⟩
theorem goodIn_app {big a b : List Cond} (ha : GoodIn big a) (hb : GoodIn big b) : GoodIn big (a ++ b) := fun w h => (List.mem_append.mp h).elim (ha w) (hb w)
theorem goodIn_ca {big a b : List Cond} {c : Cond} (ha : GoodIn big (c :: a)) (hb : GoodIn big b) : GoodIn big (c :: (a ++ b)) := fun w h => (List.mem_cons.mp h).elim (fun e => ha w (List.mem_cons.mpr (Or.inl e))) (fun h => (List.mem_append.mp h).elim (fun h => ha w (List.mem_cons.mpr (Or.inr h))) (hb w))
theorem goodIn_sub {big ws : List Cond} (hm : ∀ w ∈ ws, w ∈ big) (h : ws.all goodWord = true) : GoodIn big ws := fun w hw => ⟨hm w hw, good_of_word (List.all_eq_true.mp h w hw)⟩
/-! ===== END ===== -/

/-! ===== BEGIN printed: names, fields, word lists, decode rows ===== -/
def RX0 : String := "StageSwitch$Asks"
def TX0 : u_T := fun k => match k with
  | 0 => ("StageSwitch$Asks", "begun", "[I", true)
  | _ => ("StageSwitch$Asks", "howMany", "I", false)
def tyX0 : Nat → FieldType := fun k => match k with
  | 0 => .array .int
  | _ => .int
abbrev wsX00 : List Cond := u_ws RX0 TX0 2
theorem nmX0 : ∀ a, a < 2 → ∀ b, b < 2 → a ≠ b → (TX0 a).2.1 ≠ (TX0 b).2.1 := by decide +kernel
theorem tyX0_ok : ∀ k, k < 2 → parseFieldDescriptor (TX0 k).2.2.1 = some (tyX0 k) := by decide +kernel
abbrev cX0_init : ByteArray := prog_2_method_1_code
def yX0_init : MethodName := ⟨RX0, "<init>", "()V"⟩
abbrev cX0_emptyTrace : ByteArray := prog_2_method_2_code
def yX0_emptyTrace : MethodName := ⟨RX0, "emptyTrace", "()V"⟩
abbrev cX0_traced : ByteArray := prog_2_method_3_code
def yX0_traced : MethodName := ⟨RX0, "traced", "(I)I"⟩
abbrev cX0_sizeOf : ByteArray := prog_2_method_4_code
def yX0_sizeOf : MethodName := ⟨RX0, "sizeOf", "(LStageSwitch$Net;)I"⟩
abbrev cX0_markOf : ByteArray := prog_2_method_5_code
def yX0_markOf : MethodName := ⟨RX0, "markOf", "(LStageSwitch$Net;)I"⟩
abbrev cX0_sizeOfNet : ByteArray := prog_2_method_6_code
def yX0_sizeOfNet : MethodName := ⟨RX0, "sizeOfNet", "(LStageSwitch$Net;)I"⟩
abbrev cX0_sizeOfLoose : ByteArray := prog_2_method_7_code
def yX0_sizeOfLoose : MethodName := ⟨RX0, "sizeOfLoose", "(LStageSwitch$Net;)I"⟩
abbrev cX0_sizeOfStrict : ByteArray := prog_2_method_8_code
def yX0_sizeOfStrict : MethodName := ⟨RX0, "sizeOfStrict", "(LStageSwitch$Net;)I"⟩
abbrev cX0_sizeOfBare : ByteArray := prog_2_method_9_code
def yX0_sizeOfBare : MethodName := ⟨RX0, "sizeOfBare", "(LStageSwitch$Net;)I"⟩
abbrev cX0_markOfNet : ByteArray := prog_2_method_10_code
def yX0_markOfNet : MethodName := ⟨RX0, "markOfNet", "(LStageSwitch$Net;)I"⟩
abbrev cX0_markOfLoose : ByteArray := prog_2_method_11_code
def yX0_markOfLoose : MethodName := ⟨RX0, "markOfLoose", "(LStageSwitch$Net;)I"⟩
abbrev cX0_markOfBare : ByteArray := prog_2_method_12_code
def yX0_markOfBare : MethodName := ⟨RX0, "markOfBare", "(LStageSwitch$Net;)I"⟩
abbrev cX0_begin : ByteArray := prog_2_method_13_code
def yX0_begin : MethodName := ⟨RX0, "begin", "(I)V"⟩
def RX1 : String := "StageSwitch$Net"
def TX1 : u_T := fun k => match k with
  | 0 => ("StageSwitch$Net", "middles", "I", true)
  | 1 => ("StageSwitch$Net", "linesEach", "I", true)
  | 2 => ("StageSwitch$Net", "switches", "I", true)
  | 3 => ("StageSwitch$Net", "lines", "I", true)
  | 4 => ("StageSwitch$Net", "dead", "[Z", true)
  | 5 => ("StageSwitch$Net", "outOf", "[I", true)
  | 6 => ("StageSwitch$Net", "middleOf", "[I", true)
  | 7 => ("StageSwitch$Net", "outTaken", "[Z", true)
  | 8 => ("StageSwitch$Net", "fromFirst", "[I", true)
  | 9 => ("StageSwitch$Net", "toLast", "[I", true)
  | 10 => ("StageSwitch$Net", "chain", "[I", true)
  | 11 => ("StageSwitch$Net", "shedIn", "[I", true)
  | 12 => ("StageSwitch$Net", "shedOut", "[I", true)
  | 13 => ("StageSwitch$Net", "alive", "I", false)
  | 14 => ("StageSwitch$Net", "calls", "I", false)
  | 15 => ("StageSwitch$Net", "plannedX", "I", false)
  | _ => ("StageSwitch$Net", "plannedY", "I", false)
def tyX1 : Nat → FieldType := fun k => match k with
  | 0 => .int
  | 1 => .int
  | 2 => .int
  | 3 => .int
  | 4 => .array .boolean
  | 5 => .array .int
  | 6 => .array .int
  | 7 => .array .boolean
  | 8 => .array .int
  | 9 => .array .int
  | 10 => .array .int
  | 11 => .array .int
  | 12 => .array .int
  | 13 => .int
  | 14 => .int
  | 15 => .int
  | _ => .int
abbrev wsX10 : List Cond := u_ws RX1 TX1 17
theorem nmX1 : ∀ a, a < 17 → ∀ b, b < 17 → a ≠ b → (TX1 a).2.1 ≠ (TX1 b).2.1 := by decide +kernel
theorem tyX1_ok : ∀ k, k < 17 → parseFieldDescriptor (TX1 k).2.2.1 = some (tyX1 k) := by decide +kernel
abbrev cX1_init : ByteArray := prog_3_method_1_code
def yX1_init : MethodName := ⟨RX1, "<init>", "(III)V"⟩
abbrev cX1_hasLine : ByteArray := prog_3_method_2_code
def yX1_hasLine : MethodName := ⟨RX1, "hasLine", "(I)Z"⟩
abbrev cX1_hasMiddle : ByteArray := prog_3_method_3_code
def yX1_hasMiddle : MethodName := ⟨RX1, "hasMiddle", "(I)Z"⟩
abbrev cX1_isBusy : ByteArray := prog_3_method_4_code
def yX1_isBusy : MethodName := ⟨RX1, "isBusy", "(II)Z"⟩
abbrev cX1_toldKind : ByteArray := prog_3_method_5_code
def yX1_toldKind : MethodName := ⟨RX1, "toldKind", "()I"⟩
abbrev cX1_howManyFree : ByteArray := prog_3_method_6_code
def yX1_howManyFree : MethodName := ⟨RX1, "howManyFree", "(II)I"⟩
abbrev cX1_plan : ByteArray := prog_3_method_7_code
def yX1_plan : MethodName := ⟨RX1, "plan", "(IIZ)I"⟩
abbrev cX1_setUp : ByteArray := prog_3_method_8_code
def yX1_setUp : MethodName := ⟨RX1, "setUp", "(IIZ)I"⟩
abbrev cX1_takeOff : ByteArray := prog_3_method_9_code
def yX1_takeOff : MethodName := ⟨RX1, "takeOff", "(I)V"⟩
abbrev cX1_killMiddle : ByteArray := prog_3_method_10_code
def yX1_killMiddle : MethodName := ⟨RX1, "killMiddle", "(I)I"⟩
abbrev cX1_reviveMiddle : ByteArray := prog_3_method_11_code
def yX1_reviveMiddle : MethodName := ⟨RX1, "reviveMiddle", "(I)Z"⟩
abbrev cX1_planMoves : ByteArray := prog_3_method_12_code
def yX1_planMoves : MethodName := ⟨RX1, "planMoves", "(II)I"⟩
abbrev cX1_walkChain : ByteArray := prog_3_method_13_code
def yX1_walkChain : MethodName := ⟨RX1, "walkChain", "(III)I"⟩
abbrev cX1_swapChain : ByteArray := prog_3_method_14_code
def yX1_swapChain : MethodName := ⟨RX1, "swapChain", "(III)V"⟩
abbrev cX1_takeLinks : ByteArray := prog_3_method_15_code
def yX1_takeLinks : MethodName := ⟨RX1, "takeLinks", "(II)V"⟩
abbrev cX1_leaveLinks : ByteArray := prog_3_method_16_code
def yX1_leaveLinks : MethodName := ⟨RX1, "leaveLinks", "(I)V"⟩
abbrev cX1_isFree : ByteArray := prog_3_method_17_code
def yX1_isFree : MethodName := ⟨RX1, "isFree", "(III)Z"⟩
abbrev cX1_isFreeFrom : ByteArray := prog_3_method_18_code
def yX1_isFreeFrom : MethodName := ⟨RX1, "isFreeFrom", "(II)Z"⟩
abbrev cX1_isFreeTo : ByteArray := prog_3_method_19_code
def yX1_isFreeTo : MethodName := ⟨RX1, "isFreeTo", "(II)Z"⟩
abbrev cX1_link : ByteArray := prog_3_method_20_code
def yX1_link : MethodName := ⟨RX1, "link", "(II)I"⟩
def RX2 : String := "StageSwitch$Parts"
def TX2 : u_T := fun k => match k with
  | 0 => ("StageSwitch$Parts", "order", "[I", true)
  | 1 => ("StageSwitch$Parts", "times", "I", false)
  | 2 => ("StageSwitch$Parts", "left", "[[I", true)
  | _ => ("StageSwitch$Parts", "size", "I", false)
def tyX2 : Nat → FieldType := fun k => match k with
  | 0 => .array .int
  | 1 => .int
  | 2 => .array (.array .int)
  | _ => .int
abbrev wsX20 : List Cond := u_ws RX2 TX2 4
theorem nmX2 : ∀ a, a < 4 → ∀ b, b < 4 → a ≠ b → (TX2 a).2.1 ≠ (TX2 b).2.1 := by decide +kernel
theorem tyX2_ok : ∀ k, k < 4 → parseFieldDescriptor (TX2 k).2.2.1 = some (tyX2 k) := by decide +kernel
abbrev cX2_init : ByteArray := prog_4_method_1_code
def yX2_init : MethodName := ⟨RX2, "<init>", "()V"⟩
abbrev cX2_takeTable : ByteArray := prog_4_method_2_code
def yX2_takeTable : MethodName := ⟨RX2, "takeTable", "(LStageSwitch$Sheet;II)Z"⟩
abbrev cX2_takeUpTo : ByteArray := prog_4_method_3_code
def yX2_takeUpTo : MethodName := ⟨RX2, "takeUpTo", "(I)I"⟩
abbrev cX2_takeOrderOff : ByteArray := prog_4_method_4_code
def yX2_takeOrderOff : MethodName := ⟨RX2, "takeOrderOff", "()V"⟩
abbrev cX2_findOrder : ByteArray := prog_4_method_5_code
def yX2_findOrder : MethodName := ⟨RX2, "findOrder", "(III[[I[I)Z"⟩
abbrev cX2_sumOfRow : ByteArray := prog_4_method_6_code
def yX2_sumOfRow : MethodName := ⟨RX2, "sumOfRow", "(I)I"⟩
abbrev cX2_sumOfColumn : ByteArray := prog_4_method_7_code
def yX2_sumOfColumn : MethodName := ⟨RX2, "sumOfColumn", "(I)I"⟩
def RX3 : String := "StageSwitch$Rounds"
def TX3 : u_T := fun k => match k with
  | 0 => ("StageSwitch$Rounds", "bits", "[[I", true)
  | 1 => ("StageSwitch$Rounds", "orders", "[[I", true)
  | 2 => ("StageSwitch$Rounds", "lineInFor", "[I", true)
  | _ => ("StageSwitch$Rounds", "halfOf", "[I", true)
def tyX3 : Nat → FieldType := fun k => match k with
  | 0 => .array (.array .int)
  | 1 => .array (.array .int)
  | 2 => .array .int
  | _ => .array .int
abbrev wsX30 : List Cond := u_ws RX3 TX3 4
theorem nmX3 : ∀ a, a < 4 → ∀ b, b < 4 → a ≠ b → (TX3 a).2.1 ≠ (TX3 b).2.1 := by decide +kernel
theorem tyX3_ok : ∀ k, k < 4 → parseFieldDescriptor (TX3 k).2.2.1 = some (tyX3 k) := by decide +kernel
abbrev cX3_init : ByteArray := prog_5_method_1_code
def yX3_init : MethodName := ⟨RX3, "<init>", "()V"⟩
abbrev cX3_takeOrder : ByteArray := prog_5_method_2_code
def yX3_takeOrder : MethodName := ⟨RX3, "takeOrder", "(LStageSwitch$Sheet;II)Z"⟩
abbrev cX3_setAllSwitches : ByteArray := prog_5_method_3_code
def yX3_setAllSwitches : MethodName := ⟨RX3, "setAllSwitches", "(I)V"⟩
abbrev cX3_takeBits : ByteArray := prog_5_method_4_code
def yX3_takeBits : MethodName := ⟨RX3, "takeBits", "(LStageSwitch$Sheet;II)V"⟩
abbrev cX3_follow : ByteArray := prog_5_method_5_code
def yX3_follow : MethodName := ⟨RX3, "follow", "(II)I"⟩
abbrev cX3_goRound : ByteArray := prog_5_method_6_code
def yX3_goRound : MethodName := ⟨RX3, "goRound", "(III)V"⟩
abbrev cX3_setOuterStages : ByteArray := prog_5_method_7_code
def yX3_setOuterStages : MethodName := ⟨RX3, "setOuterStages", "(IIII)V"⟩
abbrev cX3_handToHalves : ByteArray := prog_5_method_8_code
def yX3_handToHalves : MethodName := ⟨RX3, "handToHalves", "(III)V"⟩
abbrev cX3_other : ByteArray := prog_5_method_9_code
def yX3_other : MethodName := ⟨RX3, "other", "(I)I"⟩
def RX4 : String := "StageSwitch$Sheet"
def TX4 : u_T := fun k => match k with
  | 0 => ("StageSwitch$Sheet", "lane", "I", true)
  | _ => ("StageSwitch$Sheet", "items", "[I", true)
def tyX4 : Nat → FieldType := fun k => match k with
  | 0 => .int
  | _ => .array .int
abbrev wsX40 : List Cond := u_ws RX4 TX4 2
theorem nmX4 : ∀ a, a < 2 → ∀ b, b < 2 → a ≠ b → (TX4 a).2.1 ≠ (TX4 b).2.1 := by decide +kernel
theorem tyX4_ok : ∀ k, k < 2 → parseFieldDescriptor (TX4 k).2.2.1 = some (tyX4 k) := by decide +kernel
abbrev cX4_init : ByteArray := prog_6_method_1_code
def yX4_init : MethodName := ⟨RX4, "<init>", "(II)V"⟩
abbrev cX4_holds : ByteArray := prog_6_method_2_code
def yX4_holds : MethodName := ⟨RX4, "holds", "(II)Z"⟩
abbrev cX4_cutToLane : ByteArray := prog_6_method_3_code
def yX4_cutToLane : MethodName := ⟨RX4, "cutToLane", "(I)I"⟩
def RX5 : String := "StageSwitch"
def TX5 : u_T := fun k => match k with
  | 0 => ("StageSwitch", "sheets", "[LStageSwitch$Sheet;", true)
  | 1 => ("StageSwitch", "shelf", "[LStageSwitch$Net;", true)
  | 2 => ("StageSwitch", "asks", "LStageSwitch$Asks;", true)
  | 3 => ("StageSwitch", "rounds", "LStageSwitch$Rounds;", true)
  | 4 => ("StageSwitch", "parts", "LStageSwitch$Parts;", true)
  | _ => ("StageSwitch", "latestFinding", "I", false)
def tyX5 : Nat → FieldType := fun k => match k with
  | 0 => .array (.object "StageSwitch$Sheet")
  | 1 => .array (.object "StageSwitch$Net")
  | 2 => .object "StageSwitch$Asks"
  | 3 => .object "StageSwitch$Rounds"
  | 4 => .object "StageSwitch$Parts"
  | _ => .int
abbrev wsX50 : List Cond := u_ws RX5 TX5 6
theorem nmX5 : ∀ a, a < 6 → ∀ b, b < 6 → a ≠ b → (TX5 a).2.1 ≠ (TX5 b).2.1 := by decide +kernel
theorem tyX5_ok : ∀ k, k < 6 → parseFieldDescriptor (TX5 k).2.2.1 = some (tyX5 k) := by decide +kernel
abbrev cX5_init : ByteArray := prog_1_method_1_code
def yX5_init : MethodName := ⟨RX5, "<init>", "()V"⟩
abbrev cX5_sheet : ByteArray := prog_1_method_2_code
def yX5_sheet : MethodName := ⟨RX5, "sheet", "(III)I"⟩
abbrev cX5_set : ByteArray := prog_1_method_3_code
def yX5_set : MethodName := ⟨RX5, "set", "(III)I"⟩
abbrev cX5_copy : ByteArray := prog_1_method_4_code
def yX5_copy : MethodName := ⟨RX5, "copy", "(IIIII)I"⟩
abbrev cX5_drop : ByteArray := prog_1_method_5_code
def yX5_drop : MethodName := ⟨RX5, "drop", "(I)I"⟩
abbrev cX5_net : ByteArray := prog_1_method_6_code
def yX5_net : MethodName := ⟨RX5, "net", "(IIII)I"⟩
abbrev cX5_clear : ByteArray := prog_1_method_7_code
def yX5_clear : MethodName := ⟨RX5, "clear", "(I)I"⟩
abbrev cX5_kind : ByteArray := prog_1_method_8_code
def yX5_kind : MethodName := ⟨RX5, "kind", "(I)I"⟩
abbrev cX5_is : ByteArray := prog_1_method_9_code
def yX5_is : MethodName := ⟨RX5, "is", "(II)I"⟩
abbrev cX5_as : ByteArray := prog_1_method_10_code
def yX5_as : MethodName := ⟨RX5, "as", "(II)I"⟩
abbrev cX5_ask : ByteArray := prog_1_method_11_code
def yX5_ask : MethodName := ⟨RX5, "ask", "(II)I"⟩
abbrev cX5_trace : ByteArray := prog_1_method_12_code
def yX5_trace : MethodName := ⟨RX5, "trace", "(I)I"⟩
abbrev cX5_call : ByteArray := prog_1_method_13_code
def yX5_call : MethodName := ⟨RX5, "call", "(IIII)I"⟩
abbrev cX5_end : ByteArray := prog_1_method_14_code
def yX5_end : MethodName := ⟨RX5, "end", "(II)I"⟩
abbrev cX5_line : ByteArray := prog_1_method_15_code
def yX5_line : MethodName := ⟨RX5, "line", "(III)I"⟩
abbrev cX5_free : ByteArray := prog_1_method_16_code
def yX5_free : MethodName := ⟨RX5, "free", "(IIII)I"⟩
abbrev cX5_die : ByteArray := prog_1_method_17_code
def yX5_die : MethodName := ⟨RX5, "die", "(II)I"⟩
abbrev cX5_mend : ByteArray := prog_1_method_18_code
def yX5_mend : MethodName := ⟨RX5, "mend", "(II)I"⟩
abbrev cX5_bit : ByteArray := prog_1_method_19_code
def yX5_bit : MethodName := ⟨RX5, "bit", "(IIIII)I"⟩
abbrev cX5_goes : ByteArray := prog_1_method_20_code
def yX5_goes : MethodName := ⟨RX5, "goes", "(IIII)I"⟩
abbrev cX5_demand : ByteArray := prog_1_method_21_code
def yX5_demand : MethodName := ⟨RX5, "demand", "(IIIII)I"⟩
abbrev cX5_cross : ByteArray := prog_1_method_22_code
def yX5_cross : MethodName := ⟨RX5, "cross", "(III)I"⟩
abbrev cX5_shut : ByteArray := prog_1_method_23_code
def yX5_shut : MethodName := ⟨RX5, "shut", "(II)J"⟩
abbrev cX5_count : ByteArray := prog_1_method_24_code
def yX5_count : MethodName := ⟨RX5, "count", "(I)I"⟩
abbrev cX5_status : ByteArray := prog_1_method_25_code
def yX5_status : MethodName := ⟨RX5, "status", "()I"⟩
abbrev cX5_found : ByteArray := prog_1_method_26_code
def yX5_found : MethodName := ⟨RX5, "found", "(I)I"⟩
abbrev cX5_fine : ByteArray := prog_1_method_27_code
def yX5_fine : MethodName := ⟨RX5, "fine", "(I)I"⟩
abbrev cX5_countSheets : ByteArray := prog_1_method_28_code
def yX5_countSheets : MethodName := ⟨RX5, "countSheets", "()I"⟩
abbrev cX5_countNets : ByteArray := prog_1_method_29_code
def yX5_countNets : MethodName := ⟨RX5, "countNets", "(I)I"⟩
abbrev cX5_countCalls : ByteArray := prog_1_method_30_code
def yX5_countCalls : MethodName := ⟨RX5, "countCalls", "()I"⟩
abbrev cX5_within : ByteArray := prog_1_method_31_code
def yX5_within : MethodName := ⟨RX5, "within", "(III)Z"⟩
abbrev cX5_isSheet : ByteArray := prog_1_method_32_code
def yX5_isSheet : MethodName := ⟨RX5, "isSheet", "(I)Z"⟩
abbrev cX5_isPlace : ByteArray := prog_1_method_33_code
def yX5_isPlace : MethodName := ⟨RX5, "isPlace", "(I)Z"⟩
abbrev cX5_isKind : ByteArray := prog_1_method_34_code
def yX5_isKind : MethodName := ⟨RX5, "isKind", "(I)Z"⟩
abbrev cX5_countsAs : ByteArray := prog_1_method_35_code
def yX5_countsAs : MethodName := ⟨RX5, "countsAs", "(II)Z"⟩
abbrev cX5_crosspoints : ByteArray := prog_1_method_36_code
def yX5_crosspoints : MethodName := ⟨RX5, "crosspoints", "(III)I"⟩
def RX6 : String := "StageSwitchModel"
def TX6 : u_T := fun k => match k with
  | 0 => ("StageSwitchModel", "thrown", "I", false)
  | 1 => ("StageSwitchModel", "status", "I", false)
  | 2 => ("StageSwitchModel", "lane", "[I", true)
  | 3 => ("StageSwitchModel", "many", "[I", true)
  | 4 => ("StageSwitchModel", "item", "[I", true)
  | 5 => ("StageSwitchModel", "middles", "[I", true)
  | 6 => ("StageSwitchModel", "lines", "[I", true)
  | 7 => ("StageSwitchModel", "outer", "[I", true)
  | 8 => ("StageSwitchModel", "isDead", "[Z", true)
  | 9 => ("StageSwitchModel", "out", "[I", true)
  | 10 => ("StageSwitchModel", "by", "[I", true)
  | 11 => ("StageSwitchModel", "trace", "[I", true)
  | 12 => ("StageSwitchModel", "traced", "I", false)
  | 13 => ("StageSwitchModel", "chained", "I", false)
  | 14 => ("StageSwitchModel", "chain", "[I", true)
  | 15 => ("StageSwitchModel", "bestX", "I", false)
  | 16 => ("StageSwitchModel", "bestY", "I", false)
  | 17 => ("StageSwitchModel", "off", "[I", true)
  | 18 => ("StageSwitchModel", "bits", "[I", true)
  | 19 => ("StageSwitchModel", "order", "[I", true)
  | 20 => ("StageSwitchModel", "deeper", "[I", true)
  | 21 => ("StageSwitchModel", "half", "[I", true)
  | 22 => ("StageSwitchModel", "wentBlock", "[I", true)
  | 23 => ("StageSwitchModel", "wentHalf", "[I", true)
  | 24 => ("StageSwitchModel", "left", "[I", true)
  | 25 => ("StageSwitchModel", "parts", "I", false)
  | 26 => ("StageSwitchModel", "partOrder", "[I", true)
  | 27 => ("StageSwitchModel", "often", "[I", true)
  | 28 => ("StageSwitchModel", "row", "[I", true)
  | _ => ("StageSwitchModel", "costs", "[J", true)
def tyX6 : Nat → FieldType := fun k => match k with
  | 0 => .int
  | 1 => .int
  | 2 => .array .int
  | 3 => .array .int
  | 4 => .array .int
  | 5 => .array .int
  | 6 => .array .int
  | 7 => .array .int
  | 8 => .array .boolean
  | 9 => .array .int
  | 10 => .array .int
  | 11 => .array .int
  | 12 => .int
  | 13 => .int
  | 14 => .array .int
  | 15 => .int
  | 16 => .int
  | 17 => .array .int
  | 18 => .array .int
  | 19 => .array .int
  | 20 => .array .int
  | 21 => .array .int
  | 22 => .array .int
  | 23 => .array .int
  | 24 => .array .int
  | 25 => .int
  | 26 => .array .int
  | 27 => .array .int
  | 28 => .array .int
  | _ => .array .long
abbrev wsX60 : List Cond := u_ws RX6 TX6 30
theorem nmX6 : ∀ a, a < 30 → ∀ b, b < 30 → a ≠ b → (TX6 a).2.1 ≠ (TX6 b).2.1 := by decide +kernel
theorem tyX6_ok : ∀ k, k < 30 → parseFieldDescriptor (TX6 k).2.2.1 = some (tyX6 k) := by decide +kernel
abbrev cX6_init : ByteArray := prog_8_method_1_code
def yX6_init : MethodName := ⟨RX6, "<init>", "()V"⟩
abbrev cX6_in : ByteArray := prog_8_method_3_code
def yX6_in : MethodName := ⟨RX6, "in", "(JJJ)Z"⟩
abbrev cX6_found : ByteArray := prog_8_method_4_code
def yX6_found : MethodName := ⟨RX6, "found", "(I)I"⟩
abbrev cX6_isSheet : ByteArray := prog_8_method_5_code
def yX6_isSheet : MethodName := ⟨RX6, "isSheet", "(I)Z"⟩
abbrev cX6_sheet : ByteArray := prog_8_method_6_code
def yX6_sheet : MethodName := ⟨RX6, "sheet", "(III)I"⟩
abbrev cX6_set : ByteArray := prog_8_method_7_code
def yX6_set : MethodName := ⟨RX6, "set", "(III)I"⟩
abbrev cX6_copy : ByteArray := prog_8_method_8_code
def yX6_copy : MethodName := ⟨RX6, "copy", "(IIIII)I"⟩
abbrev cX6_drop : ByteArray := prog_8_method_9_code
def yX6_drop : MethodName := ⟨RX6, "drop", "(I)I"⟩
abbrev cX6_isPlace : ByteArray := prog_8_method_10_code
def yX6_isPlace : MethodName := ⟨RX6, "isPlace", "(I)Z"⟩
abbrev cX6_alive : ByteArray := prog_8_method_11_code
def yX6_alive : MethodName := ⟨RX6, "alive", "(I)I"⟩
abbrev cX6_kindOf : ByteArray := prog_8_method_12_code
def yX6_kindOf : MethodName := ⟨RX6, "kindOf", "(I)I"⟩
abbrev cX6_net : ByteArray := prog_8_method_13_code
def yX6_net : MethodName := ⟨RX6, "net", "(IIII)I"⟩
abbrev cX6_clear : ByteArray := prog_8_method_14_code
def yX6_clear : MethodName := ⟨RX6, "clear", "(I)I"⟩
abbrev cX6_look : ByteArray := prog_8_method_15_code
def yX6_look : MethodName := ⟨RX6, "look", "(I)I"⟩
abbrev cX6_kind : ByteArray := prog_8_method_16_code
def yX6_kind : MethodName := ⟨RX6, "kind", "(I)I"⟩
abbrev cX6_isOf : ByteArray := prog_8_method_17_code
def yX6_isOf : MethodName := ⟨RX6, "isOf", "(II)Z"⟩
abbrev cX6_is : ByteArray := prog_8_method_18_code
def yX6_is : MethodName := ⟨RX6, "is", "(II)I"⟩
abbrev cX6_as : ByteArray := prog_8_method_19_code
def yX6_as : MethodName := ⟨RX6, "as", "(II)I"⟩
abbrev cX6_calls : ByteArray := prog_8_method_20_code
def yX6_calls : MethodName := ⟨RX6, "calls", "(I)I"⟩
abbrev cX6_began : ByteArray := prog_8_method_21_code
def yX6_began : MethodName := ⟨RX6, "began", "(I)V"⟩
abbrev cX6_bareSize : ByteArray := prog_8_method_22_code
def yX6_bareSize : MethodName := ⟨RX6, "bareSize", "(I)I"⟩
abbrev cX6_marked : ByteArray := prog_8_method_23_code
def yX6_marked : MethodName := ⟨RX6, "marked", "(I)I"⟩
abbrev cX6_sized : ByteArray := prog_8_method_24_code
def yX6_sized : MethodName := ⟨RX6, "sized", "(I)I"⟩
abbrev cX6_ask : ByteArray := prog_8_method_25_code
def yX6_ask : MethodName := ⟨RX6, "ask", "(II)I"⟩
abbrev cX6_trace : ByteArray := prog_8_method_26_code
def yX6_trace : MethodName := ⟨RX6, "trace", "(I)I"⟩
abbrev cX6_callFrom : ByteArray := prog_8_method_27_code
def yX6_callFrom : MethodName := ⟨RX6, "callFrom", "(III)I"⟩
abbrev cX6_callTo : ByteArray := prog_8_method_28_code
def yX6_callTo : MethodName := ⟨RX6, "callTo", "(III)I"⟩
abbrev cX6_isFree : ByteArray := prog_8_method_29_code
def yX6_isFree : MethodName := ⟨RX6, "isFree", "(IIII)Z"⟩
abbrev cX6_findChain : ByteArray := prog_8_method_30_code
def yX6_findChain : MethodName := ⟨RX6, "findChain", "(IIII)V"⟩
abbrev cX6_best : ByteArray := prog_8_method_31_code
def yX6_best : MethodName := ⟨RX6, "best", "(III)I"⟩
abbrev cX6_setUp : ByteArray := prog_8_method_32_code
def yX6_setUp : MethodName := ⟨RX6, "setUp", "(III)I"⟩
abbrev cX6_isLine : ByteArray := prog_8_method_33_code
def yX6_isLine : MethodName := ⟨RX6, "isLine", "(II)Z"⟩
abbrev cX6_isTaken : ByteArray := prog_8_method_34_code
def yX6_isTaken : MethodName := ⟨RX6, "isTaken", "(III)Z"⟩
abbrev cX6_call : ByteArray := prog_8_method_35_code
def yX6_call : MethodName := ⟨RX6, "call", "(IIII)I"⟩
abbrev cX6_end : ByteArray := prog_8_method_36_code
def yX6_end : MethodName := ⟨RX6, "end", "(II)I"⟩
abbrev cX6_line : ByteArray := prog_8_method_37_code
def yX6_line : MethodName := ⟨RX6, "line", "(III)I"⟩
abbrev cX6_free : ByteArray := prog_8_method_38_code
def yX6_free : MethodName := ⟨RX6, "free", "(IIII)I"⟩
abbrev cX6_die : ByteArray := prog_8_method_39_code
def yX6_die : MethodName := ⟨RX6, "die", "(II)I"⟩
abbrev cX6_mend : ByteArray := prog_8_method_40_code
def yX6_mend : MethodName := ⟨RX6, "mend", "(II)I"⟩
abbrev cX6_part : ByteArray := prog_8_method_41_code
def yX6_part : MethodName := ⟨RX6, "part", "(III)V"⟩
abbrev cX6_bit : ByteArray := prog_8_method_42_code
def yX6_bit : MethodName := ⟨RX6, "bit", "(IIIII)I"⟩
abbrev cX6_goes : ByteArray := prog_8_method_43_code
def yX6_goes : MethodName := ⟨RX6, "goes", "(IIII)I"⟩
abbrev cX6_next : ByteArray := prog_8_method_44_code
def yX6_next : MethodName := ⟨RX6, "next", "(I)Z"⟩
abbrev cX6_leastBy : ByteArray := prog_8_method_45_code
def yX6_leastBy : MethodName := ⟨RX6, "leastBy", "(I)I"⟩
abbrev cX6_findParts : ByteArray := prog_8_method_46_code
def yX6_findParts : MethodName := ⟨RX6, "findParts", "(II)V"⟩
abbrev cX6_demand : ByteArray := prog_8_method_47_code
def yX6_demand : MethodName := ⟨RX6, "demand", "(IIIII)I"⟩
abbrev cX6_cross : ByteArray := prog_8_method_48_code
def yX6_cross : MethodName := ⟨RX6, "cross", "(III)I"⟩
abbrev cX6_shut : ByteArray := prog_8_method_49_code
def yX6_shut : MethodName := ⟨RX6, "shut", "(II)J"⟩
abbrev cX6_count : ByteArray := prog_8_method_50_code
def yX6_count : MethodName := ⟨RX6, "count", "(I)I"⟩
abbrev cX6_status : ByteArray := prog_8_method_51_code
def yX6_status : MethodName := ⟨RX6, "status", "()I"⟩
def RJ9 : String := "java/lang/Math"
def TJ9 : u_T := fun k => match k with
  | _ => ("", "", "", false)
def tyJ9 : Nat → FieldType := fun k => match k with
  | _ => .int
abbrev wsJ90 : List Cond := u_ws RJ9 TJ9 0
theorem nmJ9 : ∀ a, a < 0 → ∀ b, b < 0 → a ≠ b → (TJ9 a).2.1 ≠ (TJ9 b).2.1 := by decide +kernel
theorem tyJ9_ok : ∀ k, k < 0 → parseFieldDescriptor (TJ9 k).2.2.1 = some (tyJ9 k) := by decide +kernel
abbrev cJ9_min_7cf53 : ByteArray := prog_9_method_69_code
def yJ9_min_7cf53 : MethodName := ⟨RJ9, "min", "(II)I"⟩
def RJ10 : String := "java/lang/System"
def TJ10 : u_T := fun k => match k with
  | _ => ("", "", "", false)
def tyJ10 : Nat → FieldType := fun k => match k with
  | _ => .int
abbrev wsJ100 : List Cond := u_ws RJ10 TJ10 0
theorem nmJ10 : ∀ a, a < 0 → ∀ b, b < 0 → a ≠ b → (TJ10 a).2.1 ≠ (TJ10 b).2.1 := by decide +kernel
theorem tyJ10_ok : ∀ k, k < 0 → parseFieldDescriptor (TJ10 k).2.2.1 = some (tyJ10 k) := by decide +kernel
def RJ7 : String := "java/util/Arrays"
def TJ7 : u_T := fun k => match k with
  | _ => ("", "", "", false)
def tyJ7 : Nat → FieldType := fun k => match k with
  | _ => .int
abbrev wsJ70 : List Cond := u_ws RJ7 TJ7 0
theorem nmJ7 : ∀ a, a < 0 → ∀ b, b < 0 → a ≠ b → (TJ7 a).2.1 ≠ (TJ7 b).2.1 := by decide +kernel
theorem tyJ7_ok : ∀ k, k < 0 → parseFieldDescriptor (TJ7 k).2.2.1 = some (tyJ7 k) := by decide +kernel
abbrev cJ7_fill_53178 : ByteArray := prog_11_method_103_code
def yJ7_fill_53178 : MethodName := ⟨RJ7, "fill", "([II)V"⟩
def RL : String := "StageSwitchLaw"
abbrev cL_law : ByteArray := code
def yL_law : MethodName := ⟨RL, "law", "([I)Z"⟩
def wsX0_init : List Cond := .code yX0_init cX0_init 1 none :: ([.methodLink RX0 3 objectInit, .instanceMethod objectInit, .code objectInit ⟨#[0xb1]⟩ 1 none, .arrayClass .int, .fieldLink RX0 9 "StageSwitch$Asks" "begun" "[I"] ++ wsX00)
def wsX0_emptyTrace : List Cond := .code yX0_emptyTrace cX0_emptyTrace 1 none :: ([.fieldLink RX0 15 "StageSwitch$Asks" "howMany" "I"] ++ wsX00)
def wsX5_within : List Cond := .code yX5_within cX5_within 3 (some .boolean) :: ([])
def wsX0_traced : List Cond := .code yX0_traced cX0_traced 2 (some .int) :: ([.fieldLink RX0 15 "StageSwitch$Asks" "howMany" "I", .fieldLink RX0 9 "StageSwitch$Asks" "begun" "[I", .constant RX0 23 (-1000000), .static yX5_within, .initialized RX5, .code yX5_within cX5_within 3 (some .boolean)] ++ wsX00)
def wsX1_toldKind : List Cond := .code yX1_toldKind cX1_toldKind 1 (some .int) :: ([.fieldLink RX1 53 "StageSwitch$Net" "alive" "I", .fieldLink RX1 15 "StageSwitch$Net" "linesEach" "I"] ++ wsX10)
def wsX0_begin : List Cond := .code yX0_begin cX0_begin 2 none :: ([.fieldLink RX0 15 "StageSwitch$Asks" "howMany" "I", .fieldLink RX0 9 "StageSwitch$Asks" "begun" "[I"] ++ wsX00)
def wsX0_sizeOfNet : List Cond := .code yX0_sizeOfNet cX0_sizeOfNet 2 (some .int) :: ([.fieldLink RX0 56 "StageSwitch$Net" "lines" "I", .methodLink RX0 52 yX0_begin, .instanceMethod yX0_begin, .selects RX0 yX0_begin yX0_begin, .initialized RX0, .code yX0_begin cX0_begin 2 none, .fieldLink RX0 15 "StageSwitch$Asks" "howMany" "I", .fieldLink RX0 9 "StageSwitch$Asks" "begun" "[I"] ++ wsX10 ++ wsX00)
def wsX0_sizeOfLoose : List Cond := .code yX0_sizeOfLoose cX0_sizeOfLoose 2 (some .int) :: ([.fieldLink RX0 59 "StageSwitch$Net" "alive" "I", .methodLink RX0 52 yX0_begin, .instanceMethod yX0_begin, .selects RX0 yX0_begin yX0_begin, .initialized RX0, .code yX0_begin cX0_begin 2 none, .fieldLink RX0 15 "StageSwitch$Asks" "howMany" "I", .fieldLink RX0 9 "StageSwitch$Asks" "begun" "[I", .methodLink RX0 40 yX0_sizeOfNet, .instanceMethod yX0_sizeOfNet, .selects RX0 yX0_sizeOfNet yX0_sizeOfNet, .code yX0_sizeOfNet cX0_sizeOfNet 2 (some .int), .fieldLink RX0 56 "StageSwitch$Net" "lines" "I"] ++ wsX10 ++ wsX00)
def wsX0_markOfNet : List Cond := .code yX0_markOfNet cX0_markOfNet 2 (some .int) :: ([.fieldLink RX0 62 "StageSwitch$Net" "calls" "I", .methodLink RX0 52 yX0_begin, .instanceMethod yX0_begin, .selects RX0 yX0_begin yX0_begin, .initialized RX0, .code yX0_begin cX0_begin 2 none, .fieldLink RX0 15 "StageSwitch$Asks" "howMany" "I", .fieldLink RX0 9 "StageSwitch$Asks" "begun" "[I"] ++ wsX10 ++ wsX00)
def wsX0_markOfLoose : List Cond := .code yX0_markOfLoose cX0_markOfLoose 2 (some .int) :: ([.methodLink RX0 52 yX0_begin, .instanceMethod yX0_begin, .selects RX0 yX0_begin yX0_begin, .initialized RX0, .code yX0_begin cX0_begin 2 none, .fieldLink RX0 15 "StageSwitch$Asks" "howMany" "I", .fieldLink RX0 9 "StageSwitch$Asks" "begun" "[I", .methodLink RX0 49 yX0_markOfNet, .instanceMethod yX0_markOfNet, .selects RX0 yX0_markOfNet yX0_markOfNet, .code yX0_markOfNet cX0_markOfNet 2 (some .int), .fieldLink RX0 62 "StageSwitch$Net" "calls" "I"] ++ wsX00 ++ wsX10)
def wsX0_sizeOfStrict_r1 : List Cond := [Cond.methodLink RX0 52 yX0_begin, Cond.instanceMethod yX0_begin, Cond.selects RX0 yX0_begin yX0_begin, Cond.initialized RX0, Cond.code yX0_begin cX0_begin 2 none, Cond.fieldLink RX0 15 "StageSwitch$Asks" "howMany" "I", Cond.fieldLink RX0 9 "StageSwitch$Asks" "begun" "[I", Cond.methodLink RX0 30 yX0_sizeOfLoose, Cond.instanceMethod yX0_sizeOfLoose, Cond.selects RX0 yX0_sizeOfLoose yX0_sizeOfLoose, Cond.code yX0_sizeOfLoose cX0_sizeOfLoose 2 (some .int), Cond.fieldLink RX0 59 "StageSwitch$Net" "alive" "I", Cond.methodLink RX0 40 yX0_sizeOfNet, Cond.instanceMethod yX0_sizeOfNet, Cond.selects RX0 yX0_sizeOfNet yX0_sizeOfNet, Cond.code yX0_sizeOfNet cX0_sizeOfNet 2 (some .int), Cond.fieldLink RX0 56 "StageSwitch$Net" "lines" "I", Cond.methodLink RX0 43 yX0_markOfLoose, Cond.instanceMethod yX0_markOfLoose, Cond.selects RX0 yX0_markOfLoose yX0_markOfLoose, Cond.code yX0_markOfLoose cX0_markOfLoose 2 (some .int), Cond.methodLink RX0 49 yX0_markOfNet, Cond.instanceMethod yX0_markOfNet, Cond.selects RX0 yX0_markOfNet yX0_markOfNet]
def wsX0_sizeOfStrict_r2 : List Cond := [Cond.code yX0_markOfNet cX0_markOfNet 2 (some .int), Cond.fieldLink RX0 62 "StageSwitch$Net" "calls" "I"]
def wsX0_sizeOfStrict : List Cond := .code yX0_sizeOfStrict cX0_sizeOfStrict 3 (some .int) :: ((wsX0_sizeOfStrict_r1 ++ wsX0_sizeOfStrict_r2) ++ wsX00 ++ wsX10)
def wsX0_sizeOfBare : List Cond := .code yX0_sizeOfBare cX0_sizeOfBare 2 (some .int) :: ([.methodLink RX0 52 yX0_begin, .instanceMethod yX0_begin, .selects RX0 yX0_begin yX0_begin, .initialized RX0, .code yX0_begin cX0_begin 2 none, .fieldLink RX0 15 "StageSwitch$Asks" "howMany" "I", .fieldLink RX0 9 "StageSwitch$Asks" "begun" "[I", .methodLink RX0 40 yX0_sizeOfNet, .instanceMethod yX0_sizeOfNet, .selects RX0 yX0_sizeOfNet yX0_sizeOfNet, .code yX0_sizeOfNet cX0_sizeOfNet 2 (some .int), .fieldLink RX0 56 "StageSwitch$Net" "lines" "I"] ++ wsX00 ++ wsX10)
def wsX0_sizeOf_r1 : List Cond := [Cond.methodLink RX0 24 yX1_toldKind, Cond.instanceMethod yX1_toldKind, Cond.selects RX1 yX1_toldKind yX1_toldKind, Cond.initialized RX1, Cond.code yX1_toldKind cX1_toldKind 1 (some .int), Cond.fieldLink RX1 53 "StageSwitch$Net" "alive" "I", Cond.fieldLink RX1 15 "StageSwitch$Net" "linesEach" "I", Cond.methodLink RX0 30 yX0_sizeOfLoose, Cond.instanceMethod yX0_sizeOfLoose, Cond.selects RX0 yX0_sizeOfLoose yX0_sizeOfLoose, Cond.initialized RX0, Cond.code yX0_sizeOfLoose cX0_sizeOfLoose 2 (some .int), Cond.fieldLink RX0 59 "StageSwitch$Net" "alive" "I", Cond.methodLink RX0 52 yX0_begin, Cond.instanceMethod yX0_begin, Cond.selects RX0 yX0_begin yX0_begin, Cond.code yX0_begin cX0_begin 2 none, Cond.fieldLink RX0 15 "StageSwitch$Asks" "howMany" "I", Cond.fieldLink RX0 9 "StageSwitch$Asks" "begun" "[I", Cond.methodLink RX0 40 yX0_sizeOfNet, Cond.instanceMethod yX0_sizeOfNet, Cond.selects RX0 yX0_sizeOfNet yX0_sizeOfNet, Cond.code yX0_sizeOfNet cX0_sizeOfNet 2 (some .int), Cond.fieldLink RX0 56 "StageSwitch$Net" "lines" "I"]
def wsX0_sizeOf_r2 : List Cond := [Cond.methodLink RX0 34 yX0_sizeOfStrict, Cond.instanceMethod yX0_sizeOfStrict, Cond.selects RX0 yX0_sizeOfStrict yX0_sizeOfStrict, Cond.code yX0_sizeOfStrict cX0_sizeOfStrict 3 (some .int), Cond.methodLink RX0 43 yX0_markOfLoose, Cond.instanceMethod yX0_markOfLoose, Cond.selects RX0 yX0_markOfLoose yX0_markOfLoose, Cond.code yX0_markOfLoose cX0_markOfLoose 2 (some .int), Cond.methodLink RX0 49 yX0_markOfNet, Cond.instanceMethod yX0_markOfNet, Cond.selects RX0 yX0_markOfNet yX0_markOfNet, Cond.code yX0_markOfNet cX0_markOfNet 2 (some .int), Cond.fieldLink RX0 62 "StageSwitch$Net" "calls" "I", Cond.methodLink RX0 37 yX0_sizeOfBare, Cond.instanceMethod yX0_sizeOfBare, Cond.selects RX0 yX0_sizeOfBare yX0_sizeOfBare, Cond.code yX0_sizeOfBare cX0_sizeOfBare 2 (some .int)]
def wsX0_sizeOf : List Cond := .code yX0_sizeOf cX0_sizeOf 2 (some .int) :: ((wsX0_sizeOf_r1 ++ wsX0_sizeOf_r2) ++ wsX10 ++ wsX00)
def wsX0_markOfBare : List Cond := .code yX0_markOfBare cX0_markOfBare 3 (some .int) :: ([.methodLink RX0 52 yX0_begin, .instanceMethod yX0_begin, .selects RX0 yX0_begin yX0_begin, .initialized RX0, .code yX0_begin cX0_begin 2 none, .fieldLink RX0 15 "StageSwitch$Asks" "howMany" "I", .fieldLink RX0 9 "StageSwitch$Asks" "begun" "[I", .methodLink RX0 49 yX0_markOfNet, .instanceMethod yX0_markOfNet, .selects RX0 yX0_markOfNet yX0_markOfNet, .code yX0_markOfNet cX0_markOfNet 2 (some .int), .fieldLink RX0 62 "StageSwitch$Net" "calls" "I", .methodLink RX0 37 yX0_sizeOfBare, .instanceMethod yX0_sizeOfBare, .selects RX0 yX0_sizeOfBare yX0_sizeOfBare, .code yX0_sizeOfBare cX0_sizeOfBare 2 (some .int), .methodLink RX0 40 yX0_sizeOfNet, .instanceMethod yX0_sizeOfNet, .selects RX0 yX0_sizeOfNet yX0_sizeOfNet, .code yX0_sizeOfNet cX0_sizeOfNet 2 (some .int), .fieldLink RX0 56 "StageSwitch$Net" "lines" "I"] ++ wsX00 ++ wsX10)
def wsX0_markOf_r1 : List Cond := [Cond.methodLink RX0 24 yX1_toldKind, Cond.instanceMethod yX1_toldKind, Cond.selects RX1 yX1_toldKind yX1_toldKind, Cond.initialized RX1, Cond.code yX1_toldKind cX1_toldKind 1 (some .int), Cond.fieldLink RX1 53 "StageSwitch$Net" "alive" "I", Cond.fieldLink RX1 15 "StageSwitch$Net" "linesEach" "I", Cond.methodLink RX0 43 yX0_markOfLoose, Cond.instanceMethod yX0_markOfLoose, Cond.selects RX0 yX0_markOfLoose yX0_markOfLoose, Cond.initialized RX0, Cond.code yX0_markOfLoose cX0_markOfLoose 2 (some .int), Cond.methodLink RX0 52 yX0_begin, Cond.instanceMethod yX0_begin, Cond.selects RX0 yX0_begin yX0_begin, Cond.code yX0_begin cX0_begin 2 none, Cond.fieldLink RX0 15 "StageSwitch$Asks" "howMany" "I", Cond.fieldLink RX0 9 "StageSwitch$Asks" "begun" "[I", Cond.methodLink RX0 49 yX0_markOfNet, Cond.instanceMethod yX0_markOfNet, Cond.selects RX0 yX0_markOfNet yX0_markOfNet, Cond.code yX0_markOfNet cX0_markOfNet 2 (some .int), Cond.fieldLink RX0 62 "StageSwitch$Net" "calls" "I", Cond.methodLink RX0 46 yX0_markOfBare]
def wsX0_markOf_r2 : List Cond := [Cond.instanceMethod yX0_markOfBare, Cond.selects RX0 yX0_markOfBare yX0_markOfBare, Cond.code yX0_markOfBare cX0_markOfBare 3 (some .int), Cond.methodLink RX0 37 yX0_sizeOfBare, Cond.instanceMethod yX0_sizeOfBare, Cond.selects RX0 yX0_sizeOfBare yX0_sizeOfBare, Cond.code yX0_sizeOfBare cX0_sizeOfBare 2 (some .int), Cond.methodLink RX0 40 yX0_sizeOfNet, Cond.instanceMethod yX0_sizeOfNet, Cond.selects RX0 yX0_sizeOfNet yX0_sizeOfNet, Cond.code yX0_sizeOfNet cX0_sizeOfNet 2 (some .int), Cond.fieldLink RX0 56 "StageSwitch$Net" "lines" "I"]
def wsX0_markOf : List Cond := .code yX0_markOf cX0_markOf 2 (some .int) :: ((wsX0_markOf_r1 ++ wsX0_markOf_r2) ++ wsX10 ++ wsX00)
def wsJ7_fill_53178 : List Cond := .code yJ7_fill_53178 cJ7_fill_53178 4 none :: ([])
def wsX1_init_r1 : List Cond := [Cond.methodLink RX1 3 objectInit, Cond.instanceMethod objectInit, Cond.code objectInit ⟨#[0xb1]⟩ 1 none, Cond.fieldLink RX1 9 "StageSwitch$Net" "middles" "I", Cond.fieldLink RX1 15 "StageSwitch$Net" "linesEach" "I", Cond.fieldLink RX1 18 "StageSwitch$Net" "switches" "I", Cond.fieldLink RX1 21 "StageSwitch$Net" "lines" "I", Cond.arrayClass .boolean, Cond.fieldLink RX1 24 "StageSwitch$Net" "dead" "[Z", Cond.arrayClass .int, Cond.fieldLink RX1 28 "StageSwitch$Net" "outOf" "[I", Cond.fieldLink RX1 32 "StageSwitch$Net" "middleOf" "[I", Cond.fieldLink RX1 35 "StageSwitch$Net" "outTaken" "[Z", Cond.fieldLink RX1 38 "StageSwitch$Net" "fromFirst" "[I", Cond.fieldLink RX1 41 "StageSwitch$Net" "toLast" "[I", Cond.fieldLink RX1 44 "StageSwitch$Net" "chain" "[I", Cond.fieldLink RX1 47 "StageSwitch$Net" "shedIn" "[I", Cond.fieldLink RX1 50 "StageSwitch$Net" "shedOut" "[I", Cond.fieldLink RX1 53 "StageSwitch$Net" "alive" "I", Cond.fieldLink RX1 56 "StageSwitch$Net" "calls" "I", Cond.fieldLink RX1 59 "StageSwitch$Net" "plannedX" "I", Cond.fieldLink RX1 62 "StageSwitch$Net" "plannedY" "I", Cond.constant RX1 65 (-1000000), Cond.methodLink RX1 66 yJ7_fill_53178]
def wsX1_init_r2 : List Cond := [Cond.static yJ7_fill_53178, Cond.initialized RJ7, Cond.code yJ7_fill_53178 cJ7_fill_53178 4 none]
def wsX1_init : List Cond := .code yX1_init cX1_init 4 none :: ((wsX1_init_r1 ++ wsX1_init_r2) ++ wsX10)
def wsX1_hasLine : List Cond := .code yX1_hasLine cX1_hasLine 2 (some .boolean) :: ([.fieldLink RX1 21 "StageSwitch$Net" "lines" "I", .static yX5_within, .initialized RX5, .code yX5_within cX5_within 3 (some .boolean)] ++ wsX10)
def wsX1_hasMiddle : List Cond := .code yX1_hasMiddle cX1_hasMiddle 2 (some .boolean) :: ([.fieldLink RX1 9 "StageSwitch$Net" "middles" "I", .static yX5_within, .initialized RX5, .code yX5_within cX5_within 3 (some .boolean)] ++ wsX10)
def wsX1_isBusy : List Cond := .code yX1_isBusy cX1_isBusy 3 (some .boolean) :: ([.fieldLink RX1 28 "StageSwitch$Net" "outOf" "[I", .constant RX1 65 (-1000000), .fieldLink RX1 35 "StageSwitch$Net" "outTaken" "[Z"] ++ wsX10)
def wsX1_link : List Cond := .code yX1_link cX1_link 3 (some .int) :: ([.fieldLink RX1 18 "StageSwitch$Net" "switches" "I", .fieldLink RX1 15 "StageSwitch$Net" "linesEach" "I"] ++ wsX10)
def wsX1_isFreeFrom : List Cond := .code yX1_isFreeFrom cX1_isFreeFrom 3 (some .boolean) :: ([.fieldLink RX1 24 "StageSwitch$Net" "dead" "[Z", .fieldLink RX1 38 "StageSwitch$Net" "fromFirst" "[I", .methodLink RX1 116 yX1_link, .instanceMethod yX1_link, .selects RX1 yX1_link yX1_link, .initialized RX1, .code yX1_link cX1_link 3 (some .int), .fieldLink RX1 18 "StageSwitch$Net" "switches" "I", .fieldLink RX1 15 "StageSwitch$Net" "linesEach" "I"] ++ wsX10)
def wsX1_isFreeTo : List Cond := .code yX1_isFreeTo cX1_isFreeTo 3 (some .boolean) :: ([.fieldLink RX1 24 "StageSwitch$Net" "dead" "[Z", .fieldLink RX1 41 "StageSwitch$Net" "toLast" "[I", .methodLink RX1 116 yX1_link, .instanceMethod yX1_link, .selects RX1 yX1_link yX1_link, .initialized RX1, .code yX1_link cX1_link 3 (some .int), .fieldLink RX1 18 "StageSwitch$Net" "switches" "I", .fieldLink RX1 15 "StageSwitch$Net" "linesEach" "I"] ++ wsX10)
def wsX1_isFree : List Cond := .code yX1_isFree cX1_isFree 4 (some .boolean) :: ([.methodLink RX1 105 yX1_isFreeFrom, .instanceMethod yX1_isFreeFrom, .selects RX1 yX1_isFreeFrom yX1_isFreeFrom, .initialized RX1, .code yX1_isFreeFrom cX1_isFreeFrom 3 (some .boolean), .fieldLink RX1 24 "StageSwitch$Net" "dead" "[Z", .fieldLink RX1 38 "StageSwitch$Net" "fromFirst" "[I", .methodLink RX1 116 yX1_link, .instanceMethod yX1_link, .selects RX1 yX1_link yX1_link, .code yX1_link cX1_link 3 (some .int), .fieldLink RX1 18 "StageSwitch$Net" "switches" "I", .fieldLink RX1 15 "StageSwitch$Net" "linesEach" "I", .methodLink RX1 109 yX1_isFreeTo, .instanceMethod yX1_isFreeTo, .selects RX1 yX1_isFreeTo yX1_isFreeTo, .code yX1_isFreeTo cX1_isFreeTo 3 (some .boolean), .fieldLink RX1 41 "StageSwitch$Net" "toLast" "[I"] ++ wsX10)
def wsX1_howManyFree : List Cond := .code yX1_howManyFree cX1_howManyFree 5 (some .int) :: ([.fieldLink RX1 9 "StageSwitch$Net" "middles" "I", .methodLink RX1 76 yX1_isFree, .instanceMethod yX1_isFree, .selects RX1 yX1_isFree yX1_isFree, .initialized RX1, .code yX1_isFree cX1_isFree 4 (some .boolean), .methodLink RX1 105 yX1_isFreeFrom, .instanceMethod yX1_isFreeFrom, .selects RX1 yX1_isFreeFrom yX1_isFreeFrom, .code yX1_isFreeFrom cX1_isFreeFrom 3 (some .boolean), .fieldLink RX1 24 "StageSwitch$Net" "dead" "[Z", .fieldLink RX1 38 "StageSwitch$Net" "fromFirst" "[I", .methodLink RX1 116 yX1_link, .instanceMethod yX1_link, .selects RX1 yX1_link yX1_link, .code yX1_link cX1_link 3 (some .int), .fieldLink RX1 18 "StageSwitch$Net" "switches" "I", .fieldLink RX1 15 "StageSwitch$Net" "linesEach" "I", .methodLink RX1 109 yX1_isFreeTo, .instanceMethod yX1_isFreeTo, .selects RX1 yX1_isFreeTo yX1_isFreeTo, .code yX1_isFreeTo cX1_isFreeTo 3 (some .boolean), .fieldLink RX1 41 "StageSwitch$Net" "toLast" "[I"] ++ wsX10)
def wsX1_walkChain : List Cond := .code yX1_walkChain cX1_walkChain 7 (some .int) :: ([.fieldLink RX1 41 "StageSwitch$Net" "toLast" "[I", .fieldLink RX1 21 "StageSwitch$Net" "lines" "I", .fieldLink RX1 44 "StageSwitch$Net" "chain" "[I", .fieldLink RX1 38 "StageSwitch$Net" "fromFirst" "[I", .fieldLink RX1 28 "StageSwitch$Net" "outOf" "[I", .methodLink RX1 116 yX1_link, .instanceMethod yX1_link, .selects RX1 yX1_link yX1_link, .initialized RX1, .code yX1_link cX1_link 3 (some .int), .fieldLink RX1 18 "StageSwitch$Net" "switches" "I", .fieldLink RX1 15 "StageSwitch$Net" "linesEach" "I"] ++ wsX10)
def wsX1_planMoves_r1 : List Cond := [Cond.constant RX1 65 (-1000000), Cond.fieldLink RX1 9 "StageSwitch$Net" "middles" "I", Cond.fieldLink RX1 59 "StageSwitch$Net" "plannedX" "I", Cond.fieldLink RX1 62 "StageSwitch$Net" "plannedY" "I", Cond.methodLink RX1 105 yX1_isFreeFrom, Cond.instanceMethod yX1_isFreeFrom, Cond.selects RX1 yX1_isFreeFrom yX1_isFreeFrom, Cond.initialized RX1, Cond.code yX1_isFreeFrom cX1_isFreeFrom 3 (some .boolean), Cond.fieldLink RX1 24 "StageSwitch$Net" "dead" "[Z", Cond.fieldLink RX1 38 "StageSwitch$Net" "fromFirst" "[I", Cond.methodLink RX1 116 yX1_link, Cond.instanceMethod yX1_link, Cond.selects RX1 yX1_link yX1_link, Cond.code yX1_link cX1_link 3 (some .int), Cond.fieldLink RX1 18 "StageSwitch$Net" "switches" "I", Cond.fieldLink RX1 15 "StageSwitch$Net" "linesEach" "I", Cond.methodLink RX1 109 yX1_isFreeTo, Cond.instanceMethod yX1_isFreeTo, Cond.selects RX1 yX1_isFreeTo yX1_isFreeTo, Cond.code yX1_isFreeTo cX1_isFreeTo 3 (some .boolean), Cond.fieldLink RX1 41 "StageSwitch$Net" "toLast" "[I", Cond.methodLink RX1 112 yX1_walkChain, Cond.instanceMethod yX1_walkChain]
def wsX1_planMoves_r2 : List Cond := [Cond.selects RX1 yX1_walkChain yX1_walkChain, Cond.code yX1_walkChain cX1_walkChain 7 (some .int), Cond.fieldLink RX1 21 "StageSwitch$Net" "lines" "I", Cond.fieldLink RX1 44 "StageSwitch$Net" "chain" "[I", Cond.fieldLink RX1 28 "StageSwitch$Net" "outOf" "[I"]
def wsX1_planMoves : List Cond := .code yX1_planMoves cX1_planMoves 7 (some .int) :: ((wsX1_planMoves_r1 ++ wsX1_planMoves_r2) ++ wsX10)
def wsX1_plan_r1 : List Cond := [Cond.fieldLink RX1 9 "StageSwitch$Net" "middles" "I", Cond.fieldLink RX1 59 "StageSwitch$Net" "plannedX" "I", Cond.constant RX1 65 (-1000000), Cond.methodLink RX1 76 yX1_isFree, Cond.instanceMethod yX1_isFree, Cond.selects RX1 yX1_isFree yX1_isFree, Cond.initialized RX1, Cond.code yX1_isFree cX1_isFree 4 (some .boolean), Cond.methodLink RX1 105 yX1_isFreeFrom, Cond.instanceMethod yX1_isFreeFrom, Cond.selects RX1 yX1_isFreeFrom yX1_isFreeFrom, Cond.code yX1_isFreeFrom cX1_isFreeFrom 3 (some .boolean), Cond.fieldLink RX1 24 "StageSwitch$Net" "dead" "[Z", Cond.fieldLink RX1 38 "StageSwitch$Net" "fromFirst" "[I", Cond.methodLink RX1 116 yX1_link, Cond.instanceMethod yX1_link, Cond.selects RX1 yX1_link yX1_link, Cond.code yX1_link cX1_link 3 (some .int), Cond.fieldLink RX1 18 "StageSwitch$Net" "switches" "I", Cond.fieldLink RX1 15 "StageSwitch$Net" "linesEach" "I", Cond.methodLink RX1 109 yX1_isFreeTo, Cond.instanceMethod yX1_isFreeTo, Cond.selects RX1 yX1_isFreeTo yX1_isFreeTo, Cond.code yX1_isFreeTo cX1_isFreeTo 3 (some .boolean)]
def wsX1_plan_r2 : List Cond := [Cond.fieldLink RX1 41 "StageSwitch$Net" "toLast" "[I", Cond.methodLink RX1 79 yX1_planMoves, Cond.instanceMethod yX1_planMoves, Cond.selects RX1 yX1_planMoves yX1_planMoves, Cond.code yX1_planMoves cX1_planMoves 7 (some .int), Cond.fieldLink RX1 62 "StageSwitch$Net" "plannedY" "I", Cond.methodLink RX1 112 yX1_walkChain, Cond.instanceMethod yX1_walkChain, Cond.selects RX1 yX1_walkChain yX1_walkChain, Cond.code yX1_walkChain cX1_walkChain 7 (some .int), Cond.fieldLink RX1 21 "StageSwitch$Net" "lines" "I", Cond.fieldLink RX1 44 "StageSwitch$Net" "chain" "[I", Cond.fieldLink RX1 28 "StageSwitch$Net" "outOf" "[I"]
def wsX1_plan : List Cond := .code yX1_plan cX1_plan 5 (some .int) :: ((wsX1_plan_r1 ++ wsX1_plan_r2) ++ wsX10)
def wsX1_leaveLinks : List Cond := .code yX1_leaveLinks cX1_leaveLinks 2 none :: ([.fieldLink RX1 38 "StageSwitch$Net" "fromFirst" "[I", .fieldLink RX1 32 "StageSwitch$Net" "middleOf" "[I", .fieldLink RX1 41 "StageSwitch$Net" "toLast" "[I", .fieldLink RX1 28 "StageSwitch$Net" "outOf" "[I", .constant RX1 65 (-1000000), .methodLink RX1 116 yX1_link, .instanceMethod yX1_link, .selects RX1 yX1_link yX1_link, .initialized RX1, .code yX1_link cX1_link 3 (some .int), .fieldLink RX1 18 "StageSwitch$Net" "switches" "I", .fieldLink RX1 15 "StageSwitch$Net" "linesEach" "I"] ++ wsX10)
def wsX1_takeLinks : List Cond := .code yX1_takeLinks cX1_takeLinks 3 none :: ([.fieldLink RX1 32 "StageSwitch$Net" "middleOf" "[I", .fieldLink RX1 38 "StageSwitch$Net" "fromFirst" "[I", .fieldLink RX1 41 "StageSwitch$Net" "toLast" "[I", .fieldLink RX1 28 "StageSwitch$Net" "outOf" "[I", .methodLink RX1 116 yX1_link, .instanceMethod yX1_link, .selects RX1 yX1_link yX1_link, .initialized RX1, .code yX1_link cX1_link 3 (some .int), .fieldLink RX1 18 "StageSwitch$Net" "switches" "I", .fieldLink RX1 15 "StageSwitch$Net" "linesEach" "I"] ++ wsX10)
def wsX1_swapChain_r1 : List Cond := [Cond.fieldLink RX1 44 "StageSwitch$Net" "chain" "[I", Cond.methodLink RX1 112 yX1_walkChain, Cond.instanceMethod yX1_walkChain, Cond.selects RX1 yX1_walkChain yX1_walkChain, Cond.initialized RX1, Cond.code yX1_walkChain cX1_walkChain 7 (some .int), Cond.fieldLink RX1 41 "StageSwitch$Net" "toLast" "[I", Cond.fieldLink RX1 21 "StageSwitch$Net" "lines" "I", Cond.fieldLink RX1 38 "StageSwitch$Net" "fromFirst" "[I", Cond.fieldLink RX1 28 "StageSwitch$Net" "outOf" "[I", Cond.methodLink RX1 116 yX1_link, Cond.instanceMethod yX1_link, Cond.selects RX1 yX1_link yX1_link, Cond.code yX1_link cX1_link 3 (some .int), Cond.fieldLink RX1 18 "StageSwitch$Net" "switches" "I", Cond.fieldLink RX1 15 "StageSwitch$Net" "linesEach" "I", Cond.methodLink RX1 95 yX1_leaveLinks, Cond.instanceMethod yX1_leaveLinks, Cond.selects RX1 yX1_leaveLinks yX1_leaveLinks, Cond.code yX1_leaveLinks cX1_leaveLinks 2 none, Cond.fieldLink RX1 32 "StageSwitch$Net" "middleOf" "[I", Cond.constant RX1 65 (-1000000), Cond.methodLink RX1 91 yX1_takeLinks, Cond.instanceMethod yX1_takeLinks]
def wsX1_swapChain_r2 : List Cond := [Cond.selects RX1 yX1_takeLinks yX1_takeLinks, Cond.code yX1_takeLinks cX1_takeLinks 3 none]
def wsX1_swapChain : List Cond := .code yX1_swapChain cX1_swapChain 6 none :: ((wsX1_swapChain_r1 ++ wsX1_swapChain_r2) ++ wsX10)
def wsX1_setUp_r1 : List Cond := [Cond.constant RX1 65 (-1000000), Cond.fieldLink RX1 59 "StageSwitch$Net" "plannedX" "I", Cond.fieldLink RX1 62 "StageSwitch$Net" "plannedY" "I", Cond.fieldLink RX1 28 "StageSwitch$Net" "outOf" "[I", Cond.fieldLink RX1 35 "StageSwitch$Net" "outTaken" "[Z", Cond.fieldLink RX1 56 "StageSwitch$Net" "calls" "I", Cond.methodLink RX1 83 yX1_plan, Cond.instanceMethod yX1_plan, Cond.selects RX1 yX1_plan yX1_plan, Cond.initialized RX1, Cond.code yX1_plan cX1_plan 5 (some .int), Cond.fieldLink RX1 9 "StageSwitch$Net" "middles" "I", Cond.methodLink RX1 76 yX1_isFree, Cond.instanceMethod yX1_isFree, Cond.selects RX1 yX1_isFree yX1_isFree, Cond.code yX1_isFree cX1_isFree 4 (some .boolean), Cond.methodLink RX1 105 yX1_isFreeFrom, Cond.instanceMethod yX1_isFreeFrom, Cond.selects RX1 yX1_isFreeFrom yX1_isFreeFrom, Cond.code yX1_isFreeFrom cX1_isFreeFrom 3 (some .boolean), Cond.fieldLink RX1 24 "StageSwitch$Net" "dead" "[Z", Cond.fieldLink RX1 38 "StageSwitch$Net" "fromFirst" "[I", Cond.methodLink RX1 116 yX1_link, Cond.instanceMethod yX1_link]
def wsX1_setUp_r2 : List Cond := [Cond.selects RX1 yX1_link yX1_link, Cond.code yX1_link cX1_link 3 (some .int), Cond.fieldLink RX1 18 "StageSwitch$Net" "switches" "I", Cond.fieldLink RX1 15 "StageSwitch$Net" "linesEach" "I", Cond.methodLink RX1 109 yX1_isFreeTo, Cond.instanceMethod yX1_isFreeTo, Cond.selects RX1 yX1_isFreeTo yX1_isFreeTo, Cond.code yX1_isFreeTo cX1_isFreeTo 3 (some .boolean), Cond.fieldLink RX1 41 "StageSwitch$Net" "toLast" "[I", Cond.methodLink RX1 79 yX1_planMoves, Cond.instanceMethod yX1_planMoves, Cond.selects RX1 yX1_planMoves yX1_planMoves, Cond.code yX1_planMoves cX1_planMoves 7 (some .int), Cond.methodLink RX1 112 yX1_walkChain, Cond.instanceMethod yX1_walkChain, Cond.selects RX1 yX1_walkChain yX1_walkChain, Cond.code yX1_walkChain cX1_walkChain 7 (some .int), Cond.fieldLink RX1 21 "StageSwitch$Net" "lines" "I", Cond.fieldLink RX1 44 "StageSwitch$Net" "chain" "[I", Cond.methodLink RX1 87 yX1_swapChain, Cond.instanceMethod yX1_swapChain, Cond.selects RX1 yX1_swapChain yX1_swapChain, Cond.code yX1_swapChain cX1_swapChain 6 none, Cond.methodLink RX1 95 yX1_leaveLinks]
def wsX1_setUp_r3 : List Cond := [Cond.instanceMethod yX1_leaveLinks, Cond.selects RX1 yX1_leaveLinks yX1_leaveLinks, Cond.code yX1_leaveLinks cX1_leaveLinks 2 none, Cond.fieldLink RX1 32 "StageSwitch$Net" "middleOf" "[I", Cond.methodLink RX1 91 yX1_takeLinks, Cond.instanceMethod yX1_takeLinks, Cond.selects RX1 yX1_takeLinks yX1_takeLinks, Cond.code yX1_takeLinks cX1_takeLinks 3 none]
def wsX1_setUp : List Cond := .code yX1_setUp cX1_setUp 5 (some .int) :: ((wsX1_setUp_r1 ++ (wsX1_setUp_r2 ++ wsX1_setUp_r3)) ++ wsX10)
def wsX1_takeOff : List Cond := .code yX1_takeOff cX1_takeOff 3 none :: ([.fieldLink RX1 28 "StageSwitch$Net" "outOf" "[I", .constant RX1 65 (-1000000), .fieldLink RX1 35 "StageSwitch$Net" "outTaken" "[Z", .fieldLink RX1 56 "StageSwitch$Net" "calls" "I", .methodLink RX1 95 yX1_leaveLinks, .instanceMethod yX1_leaveLinks, .selects RX1 yX1_leaveLinks yX1_leaveLinks, .initialized RX1, .code yX1_leaveLinks cX1_leaveLinks 2 none, .fieldLink RX1 38 "StageSwitch$Net" "fromFirst" "[I", .fieldLink RX1 32 "StageSwitch$Net" "middleOf" "[I", .fieldLink RX1 41 "StageSwitch$Net" "toLast" "[I", .methodLink RX1 116 yX1_link, .instanceMethod yX1_link, .selects RX1 yX1_link yX1_link, .code yX1_link cX1_link 3 (some .int), .fieldLink RX1 18 "StageSwitch$Net" "switches" "I", .fieldLink RX1 15 "StageSwitch$Net" "linesEach" "I"] ++ wsX10)
def wsX1_killMiddle_r1 : List Cond := [Cond.fieldLink RX1 21 "StageSwitch$Net" "lines" "I", Cond.fieldLink RX1 32 "StageSwitch$Net" "middleOf" "[I", Cond.fieldLink RX1 47 "StageSwitch$Net" "shedIn" "[I", Cond.fieldLink RX1 50 "StageSwitch$Net" "shedOut" "[I", Cond.fieldLink RX1 28 "StageSwitch$Net" "outOf" "[I", Cond.fieldLink RX1 24 "StageSwitch$Net" "dead" "[Z", Cond.fieldLink RX1 53 "StageSwitch$Net" "alive" "I", Cond.constant RX1 65 (-1000000), Cond.methodLink RX1 99 yX1_takeOff, Cond.instanceMethod yX1_takeOff, Cond.selects RX1 yX1_takeOff yX1_takeOff, Cond.initialized RX1, Cond.code yX1_takeOff cX1_takeOff 3 none, Cond.fieldLink RX1 35 "StageSwitch$Net" "outTaken" "[Z", Cond.fieldLink RX1 56 "StageSwitch$Net" "calls" "I", Cond.methodLink RX1 95 yX1_leaveLinks, Cond.instanceMethod yX1_leaveLinks, Cond.selects RX1 yX1_leaveLinks yX1_leaveLinks, Cond.code yX1_leaveLinks cX1_leaveLinks 2 none, Cond.fieldLink RX1 38 "StageSwitch$Net" "fromFirst" "[I", Cond.fieldLink RX1 41 "StageSwitch$Net" "toLast" "[I", Cond.methodLink RX1 116 yX1_link, Cond.instanceMethod yX1_link, Cond.selects RX1 yX1_link yX1_link]
def wsX1_killMiddle_r2 : List Cond := [Cond.code yX1_link cX1_link 3 (some .int), Cond.fieldLink RX1 18 "StageSwitch$Net" "switches" "I", Cond.fieldLink RX1 15 "StageSwitch$Net" "linesEach" "I", Cond.methodLink RX1 102 yX1_setUp, Cond.instanceMethod yX1_setUp, Cond.selects RX1 yX1_setUp yX1_setUp, Cond.code yX1_setUp cX1_setUp 5 (some .int), Cond.fieldLink RX1 59 "StageSwitch$Net" "plannedX" "I", Cond.fieldLink RX1 62 "StageSwitch$Net" "plannedY" "I", Cond.methodLink RX1 83 yX1_plan, Cond.instanceMethod yX1_plan, Cond.selects RX1 yX1_plan yX1_plan, Cond.code yX1_plan cX1_plan 5 (some .int), Cond.fieldLink RX1 9 "StageSwitch$Net" "middles" "I", Cond.methodLink RX1 76 yX1_isFree, Cond.instanceMethod yX1_isFree, Cond.selects RX1 yX1_isFree yX1_isFree, Cond.code yX1_isFree cX1_isFree 4 (some .boolean), Cond.methodLink RX1 105 yX1_isFreeFrom, Cond.instanceMethod yX1_isFreeFrom, Cond.selects RX1 yX1_isFreeFrom yX1_isFreeFrom, Cond.code yX1_isFreeFrom cX1_isFreeFrom 3 (some .boolean), Cond.methodLink RX1 109 yX1_isFreeTo, Cond.instanceMethod yX1_isFreeTo]
def wsX1_killMiddle_r3 : List Cond := [Cond.selects RX1 yX1_isFreeTo yX1_isFreeTo, Cond.code yX1_isFreeTo cX1_isFreeTo 3 (some .boolean), Cond.methodLink RX1 79 yX1_planMoves, Cond.instanceMethod yX1_planMoves, Cond.selects RX1 yX1_planMoves yX1_planMoves, Cond.code yX1_planMoves cX1_planMoves 7 (some .int), Cond.methodLink RX1 112 yX1_walkChain, Cond.instanceMethod yX1_walkChain, Cond.selects RX1 yX1_walkChain yX1_walkChain, Cond.code yX1_walkChain cX1_walkChain 7 (some .int), Cond.fieldLink RX1 44 "StageSwitch$Net" "chain" "[I", Cond.methodLink RX1 87 yX1_swapChain, Cond.instanceMethod yX1_swapChain, Cond.selects RX1 yX1_swapChain yX1_swapChain, Cond.code yX1_swapChain cX1_swapChain 6 none, Cond.methodLink RX1 91 yX1_takeLinks, Cond.instanceMethod yX1_takeLinks, Cond.selects RX1 yX1_takeLinks yX1_takeLinks, Cond.code yX1_takeLinks cX1_takeLinks 3 none]
def wsX1_killMiddle : List Cond := .code yX1_killMiddle cX1_killMiddle 5 (some .int) :: ((wsX1_killMiddle_r1 ++ (wsX1_killMiddle_r2 ++ wsX1_killMiddle_r3)) ++ wsX10)
def wsX1_reviveMiddle : List Cond := .code yX1_reviveMiddle cX1_reviveMiddle 2 (some .boolean) :: ([.fieldLink RX1 24 "StageSwitch$Net" "dead" "[Z", .fieldLink RX1 53 "StageSwitch$Net" "alive" "I"] ++ wsX10)
def wsX2_init : List Cond := .code yX2_init cX2_init 1 none :: ([.methodLink RX2 3 objectInit, .instanceMethod objectInit, .code objectInit ⟨#[0xb1]⟩ 1 none, .arrayClass .int, .fieldLink RX2 9 "StageSwitch$Parts" "order" "[I", .classLink RX2 15 "[[I", .fieldLink RX2 17 "StageSwitch$Parts" "left" "[[I"] ++ wsX20)
def wsX2_sumOfRow : List Cond := .code yX2_sumOfRow cX2_sumOfRow 4 (some .int) :: ([.fieldLink RX2 20 "StageSwitch$Parts" "size" "I", .fieldLink RX2 17 "StageSwitch$Parts" "left" "[[I"] ++ wsX20)
def wsX2_sumOfColumn : List Cond := .code yX2_sumOfColumn cX2_sumOfColumn 4 (some .int) :: ([.fieldLink RX2 20 "StageSwitch$Parts" "size" "I", .fieldLink RX2 17 "StageSwitch$Parts" "left" "[[I"] ++ wsX20)
def wsX2_takeTable : List Cond := .code yX2_takeTable cX2_takeTable 7 (some .boolean) :: ([.fieldLink RX2 20 "StageSwitch$Parts" "size" "I", .fieldLink RX2 24 "StageSwitch$Sheet" "items" "[I", .fieldLink RX2 17 "StageSwitch$Parts" "left" "[[I", .static yX5_within, .initialized RX5, .code yX5_within cX5_within 3 (some .boolean), .methodLink RX2 33 yX2_sumOfRow, .instanceMethod yX2_sumOfRow, .selects RX2 yX2_sumOfRow yX2_sumOfRow, .initialized RX2, .code yX2_sumOfRow cX2_sumOfRow 4 (some .int), .methodLink RX2 37 yX2_sumOfColumn, .instanceMethod yX2_sumOfColumn, .selects RX2 yX2_sumOfColumn yX2_sumOfColumn, .code yX2_sumOfColumn cX2_sumOfColumn 4 (some .int)] ++ wsX20 ++ wsX40)
def wsX2_findOrder : List Cond := .code yX2_findOrder cX2_findOrder 7 (some .boolean) :: ([.methodLink RX2 40 yX2_findOrder, .static yX2_findOrder, .initialized RX2])
def wsX2_takeOrderOff : List Cond := .code yX2_takeOrderOff cX2_takeOrderOff 2 none :: ([.fieldLink RX2 47 "StageSwitch$Parts" "times" "I", .fieldLink RX2 20 "StageSwitch$Parts" "size" "I", .fieldLink RX2 17 "StageSwitch$Parts" "left" "[[I", .fieldLink RX2 9 "StageSwitch$Parts" "order" "[I", .methodLink RX2 50 Lib.Math.min.name, .static Lib.Math.min.name, .initialized "java/lang/Math", .code Lib.Math.min.name Lib.Math.min.code 2 (some .int)] ++ wsX20)
def wsX2_takeUpTo : List Cond := .code yX2_takeUpTo cX2_takeUpTo 3 (some .int) :: ([.fieldLink RX2 20 "StageSwitch$Parts" "size" "I", .fieldLink RX2 17 "StageSwitch$Parts" "left" "[[I", .fieldLink RX2 9 "StageSwitch$Parts" "order" "[I", .methodLink RX2 40 yX2_findOrder, .static yX2_findOrder, .initialized RX2, .code yX2_findOrder cX2_findOrder 7 (some .boolean), .methodLink RX2 44 yX2_takeOrderOff, .instanceMethod yX2_takeOrderOff, .selects RX2 yX2_takeOrderOff yX2_takeOrderOff, .code yX2_takeOrderOff cX2_takeOrderOff 2 none, .fieldLink RX2 47 "StageSwitch$Parts" "times" "I", .methodLink RX2 50 Lib.Math.min.name, .static Lib.Math.min.name, .initialized "java/lang/Math", .code Lib.Math.min.name Lib.Math.min.code 2 (some .int)] ++ wsX20)
def wsX3_init : List Cond := .code yX3_init cX3_init 1 none :: ([.methodLink RX3 3 objectInit, .instanceMethod objectInit, .code objectInit ⟨#[0xb1]⟩ 1 none, .classLink RX3 9 "[[I", .arrayClass .int, .fieldLink RX3 11 "StageSwitch$Rounds" "bits" "[[I", .fieldLink RX3 16 "StageSwitch$Rounds" "orders" "[[I", .fieldLink RX3 19 "StageSwitch$Rounds" "lineInFor" "[I", .fieldLink RX3 23 "StageSwitch$Rounds" "halfOf" "[I"] ++ wsX30)
def wsX3_takeOrder : List Cond := .code yX3_takeOrder cX3_takeOrder 8 (some .boolean) :: ([.fieldLink RX3 26 "StageSwitch$Sheet" "items" "[I", .fieldLink RX3 16 "StageSwitch$Rounds" "orders" "[[I", .static yX5_within, .initialized RX5, .code yX5_within cX5_within 3 (some .boolean)] ++ wsX40 ++ wsX30)
def wsX3_other : List Cond := .code yX3_other cX3_other 1 (some .int) :: ([])
def wsX3_goRound : List Cond := .code yX3_goRound cX3_goRound 9 none :: ([.fieldLink RX3 16 "StageSwitch$Rounds" "orders" "[[I", .fieldLink RX3 19 "StageSwitch$Rounds" "lineInFor" "[I", .fieldLink RX3 23 "StageSwitch$Rounds" "halfOf" "[I", .methodLink RX3 46 yX3_other, .static yX3_other, .initialized RX3, .code yX3_other cX3_other 1 (some .int)] ++ wsX30)
def wsX3_setOuterStages : List Cond := .code yX3_setOuterStages cX3_setOuterStages 6 none :: ([.fieldLink RX3 11 "StageSwitch$Rounds" "bits" "[[I", .fieldLink RX3 23 "StageSwitch$Rounds" "halfOf" "[I", .fieldLink RX3 19 "StageSwitch$Rounds" "lineInFor" "[I"] ++ wsX30)
def wsX3_handToHalves : List Cond := .code yX3_handToHalves cX3_handToHalves 6 none :: ([.fieldLink RX3 23 "StageSwitch$Rounds" "halfOf" "[I", .fieldLink RX3 16 "StageSwitch$Rounds" "orders" "[[I"] ++ wsX30)
def wsX3_setAllSwitches : List Cond := .code yX3_setAllSwitches cX3_setAllSwitches 6 none :: ([.fieldLink RX3 11 "StageSwitch$Rounds" "bits" "[[I", .fieldLink RX3 16 "StageSwitch$Rounds" "orders" "[[I", .methodLink RX3 35 yX3_goRound, .instanceMethod yX3_goRound, .selects RX3 yX3_goRound yX3_goRound, .initialized RX3, .code yX3_goRound cX3_goRound 9 none, .fieldLink RX3 19 "StageSwitch$Rounds" "lineInFor" "[I", .fieldLink RX3 23 "StageSwitch$Rounds" "halfOf" "[I", .methodLink RX3 46 yX3_other, .static yX3_other, .code yX3_other cX3_other 1 (some .int), .methodLink RX3 39 yX3_setOuterStages, .instanceMethod yX3_setOuterStages, .selects RX3 yX3_setOuterStages yX3_setOuterStages, .code yX3_setOuterStages cX3_setOuterStages 6 none, .methodLink RX3 43 yX3_handToHalves, .instanceMethod yX3_handToHalves, .selects RX3 yX3_handToHalves yX3_handToHalves, .code yX3_handToHalves cX3_handToHalves 6 none] ++ wsX30)
def wsX3_takeBits : List Cond := .code yX3_takeBits cX3_takeBits 7 none :: ([.fieldLink RX3 11 "StageSwitch$Rounds" "bits" "[[I", .fieldLink RX3 26 "StageSwitch$Sheet" "items" "[I"] ++ wsX30 ++ wsX40)
def wsX3_follow : List Cond := .code yX3_follow cX3_follow 8 (some .int) :: ([.fieldLink RX3 11 "StageSwitch$Rounds" "bits" "[[I"] ++ wsX30)
def wsX4_init : List Cond := .code yX4_init cX4_init 3 none :: ([.methodLink RX4 1 objectInit, .instanceMethod objectInit, .code objectInit ⟨#[0xb1]⟩ 1 none, .fieldLink RX4 7 "StageSwitch$Sheet" "lane" "I", .arrayClass .int, .fieldLink RX4 13 "StageSwitch$Sheet" "items" "[I"] ++ wsX40)
def wsX4_holds : List Cond := .code yX4_holds cX4_holds 3 (some .boolean) :: ([.fieldLink RX4 13 "StageSwitch$Sheet" "items" "[I"] ++ wsX40)
def wsX4_cutToLane : List Cond := .code yX4_cutToLane cX4_cutToLane 2 (some .int) :: ([.fieldLink RX4 7 "StageSwitch$Sheet" "lane" "I"] ++ wsX40)
def wsX5_init_r1 : List Cond := [Cond.methodLink RX5 1 objectInit, Cond.instanceMethod objectInit, Cond.code objectInit ⟨#[0xb1]⟩ 1 none, Cond.classLink RX5 9 RX4, Cond.fieldLink RX5 11 "StageSwitch" "sheets" "[LStageSwitch$Sheet;", Cond.classLink RX5 15 RX1, Cond.fieldLink RX5 17 "StageSwitch" "shelf" "[LStageSwitch$Net;", Cond.classLink RX5 21 RX0, Cond.instantiable RX0 2, Cond.initialized RX0, Cond.fieldLink RX5 24 "StageSwitch" "asks" "LStageSwitch$Asks;", Cond.classLink RX5 28 RX3, Cond.instantiable RX3 4, Cond.initialized RX3, Cond.fieldLink RX5 31 "StageSwitch" "rounds" "LStageSwitch$Rounds;", Cond.classLink RX5 35 RX2, Cond.instantiable RX2 4, Cond.initialized RX2, Cond.fieldLink RX5 38 "StageSwitch" "parts" "LStageSwitch$Parts;", Cond.fieldLink RX5 42 "StageSwitch" "latestFinding" "I", Cond.instanceMethod yX0_init, Cond.code yX0_init cX0_init 1 none, Cond.methodLink RX0 3 objectInit, Cond.arrayClass .int]
def wsX5_init_r2 : List Cond := [Cond.fieldLink RX0 9 "StageSwitch$Asks" "begun" "[I", Cond.instanceMethod yX3_init, Cond.code yX3_init cX3_init 1 none, Cond.methodLink RX3 3 objectInit, Cond.classLink RX3 9 "[[I", Cond.fieldLink RX3 11 "StageSwitch$Rounds" "bits" "[[I", Cond.fieldLink RX3 16 "StageSwitch$Rounds" "orders" "[[I", Cond.fieldLink RX3 19 "StageSwitch$Rounds" "lineInFor" "[I", Cond.fieldLink RX3 23 "StageSwitch$Rounds" "halfOf" "[I", Cond.instanceMethod yX2_init, Cond.code yX2_init cX2_init 1 none, Cond.methodLink RX2 3 objectInit, Cond.fieldLink RX2 9 "StageSwitch$Parts" "order" "[I", Cond.classLink RX2 15 "[[I", Cond.fieldLink RX2 17 "StageSwitch$Parts" "left" "[[I"]
def wsX5_init : List Cond := .code yX5_init cX5_init 1 none :: ((wsX5_init_r1 ++ wsX5_init_r2) ++ wsX50 ++ wsX00 ++ wsX30 ++ wsX20)
def wsX5_isSheet : List Cond := .code yX5_isSheet cX5_isSheet 1 (some .boolean) :: ([.methodLink RX5 50 yX5_within, .static yX5_within, .initialized RX5, .code yX5_within cX5_within 3 (some .boolean)])
def wsX5_found : List Cond := .code yX5_found cX5_found 2 (some .int) :: ([.fieldLink RX5 42 "StageSwitch" "latestFinding" "I", .constant RX5 204 (-1000010)] ++ wsX50)
def wsX5_fine : List Cond := .code yX5_fine cX5_fine 2 (some .int) :: ([.fieldLink RX5 42 "StageSwitch" "latestFinding" "I"] ++ wsX50)
def wsX5_sheet_r1 : List Cond := [Cond.constant RX5 54 (-1000001), Cond.fieldLink RX5 11 "StageSwitch" "sheets" "[LStageSwitch$Sheet;", Cond.classLink RX5 9 RX4, Cond.instantiable RX4 2, Cond.initialized RX4, Cond.methodLink RX5 46 yX5_isSheet, Cond.static yX5_isSheet, Cond.initialized RX5, Cond.code yX5_isSheet cX5_isSheet 1 (some .boolean), Cond.methodLink RX5 50 yX5_within, Cond.static yX5_within, Cond.code yX5_within cX5_within 3 (some .boolean), Cond.methodLink RX5 55 yX5_found, Cond.instanceMethod yX5_found, Cond.selects RX5 yX5_found yX5_found, Cond.code yX5_found cX5_found 2 (some .int), Cond.fieldLink RX5 42 "StageSwitch" "latestFinding" "I", Cond.constant RX5 204 (-1000010), Cond.methodLink RX5 59 yX4_init, Cond.instanceMethod yX4_init, Cond.code yX4_init cX4_init 3 none, Cond.methodLink RX4 1 objectInit, Cond.instanceMethod objectInit, Cond.code objectInit ⟨#[0xb1]⟩ 1 none]
def wsX5_sheet_r2 : List Cond := [Cond.fieldLink RX4 7 "StageSwitch$Sheet" "lane" "I", Cond.arrayClass .int, Cond.fieldLink RX4 13 "StageSwitch$Sheet" "items" "[I", Cond.methodLink RX5 62 yX5_fine, Cond.instanceMethod yX5_fine, Cond.selects RX5 yX5_fine yX5_fine, Cond.code yX5_fine cX5_fine 2 (some .int)]
def wsX5_sheet : List Cond := .code yX5_sheet cX5_sheet 4 (some .int) :: ((wsX5_sheet_r1 ++ wsX5_sheet_r2) ++ wsX50 ++ wsX40)
def wsX5_set_r1 : List Cond := [Cond.constant RX5 54 (-1000001), Cond.fieldLink RX5 11 "StageSwitch" "sheets" "[LStageSwitch$Sheet;", Cond.fieldLink RX5 69 "StageSwitch$Sheet" "items" "[I", Cond.methodLink RX5 46 yX5_isSheet, Cond.static yX5_isSheet, Cond.initialized RX5, Cond.code yX5_isSheet cX5_isSheet 1 (some .boolean), Cond.methodLink RX5 50 yX5_within, Cond.static yX5_within, Cond.code yX5_within cX5_within 3 (some .boolean), Cond.methodLink RX5 55 yX5_found, Cond.instanceMethod yX5_found, Cond.selects RX5 yX5_found yX5_found, Cond.code yX5_found cX5_found 2 (some .int), Cond.fieldLink RX5 42 "StageSwitch" "latestFinding" "I", Cond.constant RX5 204 (-1000010), Cond.methodLink RX5 65 yX4_holds, Cond.instanceMethod yX4_holds, Cond.selects RX4 yX4_holds yX4_holds, Cond.initialized RX4, Cond.code yX4_holds cX4_holds 3 (some .boolean), Cond.fieldLink RX4 13 "StageSwitch$Sheet" "items" "[I", Cond.methodLink RX5 73 yX4_cutToLane, Cond.instanceMethod yX4_cutToLane]
def wsX5_set_r2 : List Cond := [Cond.selects RX4 yX4_cutToLane yX4_cutToLane, Cond.code yX4_cutToLane cX4_cutToLane 2 (some .int), Cond.fieldLink RX4 7 "StageSwitch$Sheet" "lane" "I", Cond.methodLink RX5 62 yX5_fine, Cond.instanceMethod yX5_fine, Cond.selects RX5 yX5_fine yX5_fine, Cond.code yX5_fine cX5_fine 2 (some .int)]
def wsX5_set : List Cond := .code yX5_set cX5_set 5 (some .int) :: ((wsX5_set_r1 ++ wsX5_set_r2) ++ wsX50 ++ wsX40)
def wsX5_copy_r1 : List Cond := [Cond.constant RX5 54 (-1000001), Cond.fieldLink RX5 11 "StageSwitch" "sheets" "[LStageSwitch$Sheet;", Cond.fieldLink RX5 76 "StageSwitch$Sheet" "lane" "I", Cond.fieldLink RX5 69 "StageSwitch$Sheet" "items" "[I", Cond.methodLink RX5 79 arraycopyName, Cond.native arraycopyName, Cond.static arraycopyName, Cond.initialized "java/lang/System", Cond.methodLink RX5 46 yX5_isSheet, Cond.static yX5_isSheet, Cond.initialized RX5, Cond.code yX5_isSheet cX5_isSheet 1 (some .boolean), Cond.methodLink RX5 50 yX5_within, Cond.static yX5_within, Cond.code yX5_within cX5_within 3 (some .boolean), Cond.methodLink RX5 55 yX5_found, Cond.instanceMethod yX5_found, Cond.selects RX5 yX5_found yX5_found, Cond.code yX5_found cX5_found 2 (some .int), Cond.fieldLink RX5 42 "StageSwitch" "latestFinding" "I", Cond.constant RX5 204 (-1000010), Cond.methodLink RX5 65 yX4_holds, Cond.instanceMethod yX4_holds, Cond.selects RX4 yX4_holds yX4_holds]
def wsX5_copy_r2 : List Cond := [Cond.initialized RX4, Cond.code yX4_holds cX4_holds 3 (some .boolean), Cond.fieldLink RX4 13 "StageSwitch$Sheet" "items" "[I", Cond.methodLink RX5 62 yX5_fine, Cond.instanceMethod yX5_fine, Cond.selects RX5 yX5_fine yX5_fine, Cond.code yX5_fine cX5_fine 2 (some .int)]
def wsX5_copy : List Cond := .code yX5_copy cX5_copy 8 (some .int) :: ((wsX5_copy_r1 ++ wsX5_copy_r2) ++ wsX50 ++ wsX40)
def wsX5_drop : List Cond := .code yX5_drop cX5_drop 3 (some .int) :: ([.constant RX5 54 (-1000001), .fieldLink RX5 11 "StageSwitch" "sheets" "[LStageSwitch$Sheet;", .fieldLink RX5 69 "StageSwitch$Sheet" "items" "[I", .methodLink RX5 46 yX5_isSheet, .static yX5_isSheet, .initialized RX5, .code yX5_isSheet cX5_isSheet 1 (some .boolean), .methodLink RX5 50 yX5_within, .static yX5_within, .code yX5_within cX5_within 3 (some .boolean), .methodLink RX5 55 yX5_found, .instanceMethod yX5_found, .selects RX5 yX5_found yX5_found, .code yX5_found cX5_found 2 (some .int), .fieldLink RX5 42 "StageSwitch" "latestFinding" "I", .constant RX5 204 (-1000010), .methodLink RX5 62 yX5_fine, .instanceMethod yX5_fine, .selects RX5 yX5_fine yX5_fine, .code yX5_fine cX5_fine 2 (some .int)] ++ wsX50 ++ wsX40)
def wsX5_isPlace : List Cond := .code yX5_isPlace cX5_isPlace 1 (some .boolean) :: ([.methodLink RX5 50 yX5_within, .static yX5_within, .initialized RX5, .code yX5_within cX5_within 3 (some .boolean)])
def wsX5_net_r1 : List Cond := [Cond.constant RX5 54 (-1000001), Cond.classLink RX5 15 RX1, Cond.instantiable RX1 17, Cond.initialized RX1, Cond.fieldLink RX5 17 "StageSwitch" "shelf" "[LStageSwitch$Net;", Cond.methodLink RX5 85 yX5_isPlace, Cond.static yX5_isPlace, Cond.initialized RX5, Cond.code yX5_isPlace cX5_isPlace 1 (some .boolean), Cond.methodLink RX5 50 yX5_within, Cond.static yX5_within, Cond.code yX5_within cX5_within 3 (some .boolean), Cond.methodLink RX5 88 yX1_init, Cond.instanceMethod yX1_init, Cond.code yX1_init cX1_init 4 none, Cond.methodLink RX1 3 objectInit, Cond.instanceMethod objectInit, Cond.code objectInit ⟨#[0xb1]⟩ 1 none, Cond.fieldLink RX1 9 "StageSwitch$Net" "middles" "I", Cond.fieldLink RX1 15 "StageSwitch$Net" "linesEach" "I", Cond.fieldLink RX1 18 "StageSwitch$Net" "switches" "I", Cond.fieldLink RX1 21 "StageSwitch$Net" "lines" "I", Cond.arrayClass .boolean, Cond.fieldLink RX1 24 "StageSwitch$Net" "dead" "[Z"]
def wsX5_net_r2 : List Cond := [Cond.arrayClass .int, Cond.fieldLink RX1 28 "StageSwitch$Net" "outOf" "[I", Cond.fieldLink RX1 32 "StageSwitch$Net" "middleOf" "[I", Cond.fieldLink RX1 35 "StageSwitch$Net" "outTaken" "[Z", Cond.fieldLink RX1 38 "StageSwitch$Net" "fromFirst" "[I", Cond.fieldLink RX1 41 "StageSwitch$Net" "toLast" "[I", Cond.fieldLink RX1 44 "StageSwitch$Net" "chain" "[I", Cond.fieldLink RX1 47 "StageSwitch$Net" "shedIn" "[I", Cond.fieldLink RX1 50 "StageSwitch$Net" "shedOut" "[I", Cond.fieldLink RX1 53 "StageSwitch$Net" "alive" "I", Cond.fieldLink RX1 56 "StageSwitch$Net" "calls" "I", Cond.fieldLink RX1 59 "StageSwitch$Net" "plannedX" "I", Cond.fieldLink RX1 62 "StageSwitch$Net" "plannedY" "I", Cond.constant RX1 65 (-1000000), Cond.methodLink RX1 66 yJ7_fill_53178, Cond.static yJ7_fill_53178, Cond.initialized RJ7, Cond.code yJ7_fill_53178 cJ7_fill_53178 4 none, Cond.methodLink RX5 91 yX1_toldKind, Cond.instanceMethod yX1_toldKind, Cond.selects RX1 yX1_toldKind yX1_toldKind, Cond.code yX1_toldKind cX1_toldKind 1 (some .int), Cond.methodLink RX5 62 yX5_fine, Cond.instanceMethod yX5_fine]
def wsX5_net_r3 : List Cond := [Cond.selects RX5 yX5_fine yX5_fine, Cond.code yX5_fine cX5_fine 2 (some .int), Cond.fieldLink RX5 42 "StageSwitch" "latestFinding" "I"]
def wsX5_net : List Cond := .code yX5_net cX5_net 6 (some .int) :: ((wsX5_net_r1 ++ (wsX5_net_r2 ++ wsX5_net_r3)) ++ wsX10 ++ wsX50)
def wsX5_clear : List Cond := .code yX5_clear cX5_clear 3 (some .int) :: ([.constant RX5 54 (-1000001), .fieldLink RX5 17 "StageSwitch" "shelf" "[LStageSwitch$Net;", .methodLink RX5 85 yX5_isPlace, .static yX5_isPlace, .initialized RX5, .code yX5_isPlace cX5_isPlace 1 (some .boolean), .methodLink RX5 50 yX5_within, .static yX5_within, .code yX5_within cX5_within 3 (some .boolean)] ++ wsX50)
def wsX5_kind_r1 : List Cond := [Cond.constant RX5 54 (-1000001), Cond.fieldLink RX5 17 "StageSwitch" "shelf" "[LStageSwitch$Net;", Cond.methodLink RX5 85 yX5_isPlace, Cond.static yX5_isPlace, Cond.initialized RX5, Cond.code yX5_isPlace cX5_isPlace 1 (some .boolean), Cond.methodLink RX5 50 yX5_within, Cond.static yX5_within, Cond.code yX5_within cX5_within 3 (some .boolean), Cond.methodLink RX5 55 yX5_found, Cond.instanceMethod yX5_found, Cond.selects RX5 yX5_found yX5_found, Cond.code yX5_found cX5_found 2 (some .int), Cond.fieldLink RX5 42 "StageSwitch" "latestFinding" "I", Cond.constant RX5 204 (-1000010), Cond.methodLink RX5 91 yX1_toldKind, Cond.instanceMethod yX1_toldKind, Cond.selects RX1 yX1_toldKind yX1_toldKind, Cond.initialized RX1, Cond.code yX1_toldKind cX1_toldKind 1 (some .int), Cond.fieldLink RX1 53 "StageSwitch$Net" "alive" "I", Cond.fieldLink RX1 15 "StageSwitch$Net" "linesEach" "I", Cond.methodLink RX5 62 yX5_fine, Cond.instanceMethod yX5_fine]
def wsX5_kind_r2 : List Cond := [Cond.selects RX5 yX5_fine yX5_fine, Cond.code yX5_fine cX5_fine 2 (some .int)]
def wsX5_kind : List Cond := .code yX5_kind cX5_kind 3 (some .int) :: ((wsX5_kind_r1 ++ wsX5_kind_r2) ++ wsX50 ++ wsX10)
def wsX5_isKind : List Cond := .code yX5_isKind cX5_isKind 1 (some .boolean) :: ([.methodLink RX5 50 yX5_within, .static yX5_within, .initialized RX5, .code yX5_within cX5_within 3 (some .boolean)])
def wsX5_countsAs : List Cond := .code yX5_countsAs cX5_countsAs 2 (some .boolean) :: ([])
def wsX5_is : List Cond := .code yX5_is cX5_is 4 (some .int) :: ([.constant RX5 54 (-1000001), .fieldLink RX5 17 "StageSwitch" "shelf" "[LStageSwitch$Net;", .methodLink RX5 85 yX5_isPlace, .static yX5_isPlace, .initialized RX5, .code yX5_isPlace cX5_isPlace 1 (some .boolean), .methodLink RX5 50 yX5_within, .static yX5_within, .code yX5_within cX5_within 3 (some .boolean), .methodLink RX5 95 yX5_isKind, .static yX5_isKind, .code yX5_isKind cX5_isKind 1 (some .boolean), .methodLink RX5 91 yX1_toldKind, .instanceMethod yX1_toldKind, .selects RX1 yX1_toldKind yX1_toldKind, .initialized RX1, .code yX1_toldKind cX1_toldKind 1 (some .int), .fieldLink RX1 53 "StageSwitch$Net" "alive" "I", .fieldLink RX1 15 "StageSwitch$Net" "linesEach" "I", .methodLink RX5 98 yX5_countsAs, .static yX5_countsAs, .code yX5_countsAs cX5_countsAs 2 (some .boolean)] ++ wsX50 ++ wsX10)
def wsX5_as_r1 : List Cond := [Cond.constant RX5 54 (-1000001), Cond.fieldLink RX5 17 "StageSwitch" "shelf" "[LStageSwitch$Net;", Cond.fieldLink RX5 101 "StageSwitch$Net" "alive" "I", Cond.methodLink RX5 85 yX5_isPlace, Cond.static yX5_isPlace, Cond.initialized RX5, Cond.code yX5_isPlace cX5_isPlace 1 (some .boolean), Cond.methodLink RX5 50 yX5_within, Cond.static yX5_within, Cond.code yX5_within cX5_within 3 (some .boolean), Cond.methodLink RX5 95 yX5_isKind, Cond.static yX5_isKind, Cond.code yX5_isKind cX5_isKind 1 (some .boolean), Cond.methodLink RX5 55 yX5_found, Cond.instanceMethod yX5_found, Cond.selects RX5 yX5_found yX5_found, Cond.code yX5_found cX5_found 2 (some .int), Cond.fieldLink RX5 42 "StageSwitch" "latestFinding" "I", Cond.constant RX5 204 (-1000010), Cond.methodLink RX5 91 yX1_toldKind, Cond.instanceMethod yX1_toldKind, Cond.selects RX1 yX1_toldKind yX1_toldKind, Cond.initialized RX1, Cond.code yX1_toldKind cX1_toldKind 1 (some .int)]
def wsX5_as_r2 : List Cond := [Cond.fieldLink RX1 53 "StageSwitch$Net" "alive" "I", Cond.fieldLink RX1 15 "StageSwitch$Net" "linesEach" "I", Cond.methodLink RX5 98 yX5_countsAs, Cond.static yX5_countsAs, Cond.code yX5_countsAs cX5_countsAs 2 (some .boolean), Cond.methodLink RX5 62 yX5_fine, Cond.instanceMethod yX5_fine, Cond.selects RX5 yX5_fine yX5_fine, Cond.code yX5_fine cX5_fine 2 (some .int)]
def wsX5_as : List Cond := .code yX5_as cX5_as 4 (some .int) :: ((wsX5_as_r1 ++ wsX5_as_r2) ++ wsX50 ++ wsX10)
def wsX5_ask_r1 : List Cond := [Cond.constant RX5 54 (-1000001), Cond.fieldLink RX5 24 "StageSwitch" "asks" "LStageSwitch$Asks;", Cond.fieldLink RX5 17 "StageSwitch" "shelf" "[LStageSwitch$Net;", Cond.methodLink RX5 85 yX5_isPlace, Cond.static yX5_isPlace, Cond.initialized RX5, Cond.code yX5_isPlace cX5_isPlace 1 (some .boolean), Cond.methodLink RX5 50 yX5_within, Cond.static yX5_within, Cond.code yX5_within cX5_within 3 (some .boolean), Cond.methodLink RX5 104 yX0_emptyTrace, Cond.instanceMethod yX0_emptyTrace, Cond.selects RX0 yX0_emptyTrace yX0_emptyTrace, Cond.initialized RX0, Cond.code yX0_emptyTrace cX0_emptyTrace 1 none, Cond.fieldLink RX0 15 "StageSwitch$Asks" "howMany" "I", Cond.methodLink RX5 55 yX5_found, Cond.instanceMethod yX5_found, Cond.selects RX5 yX5_found yX5_found, Cond.code yX5_found cX5_found 2 (some .int), Cond.fieldLink RX5 42 "StageSwitch" "latestFinding" "I", Cond.constant RX5 204 (-1000010), Cond.methodLink RX5 107 yX0_sizeOf, Cond.instanceMethod yX0_sizeOf]
def wsX5_ask_r2 : List Cond := [Cond.selects RX0 yX0_sizeOf yX0_sizeOf, Cond.code yX0_sizeOf cX0_sizeOf 2 (some .int), Cond.methodLink RX0 24 yX1_toldKind, Cond.instanceMethod yX1_toldKind, Cond.selects RX1 yX1_toldKind yX1_toldKind, Cond.initialized RX1, Cond.code yX1_toldKind cX1_toldKind 1 (some .int), Cond.fieldLink RX1 53 "StageSwitch$Net" "alive" "I", Cond.fieldLink RX1 15 "StageSwitch$Net" "linesEach" "I", Cond.methodLink RX0 30 yX0_sizeOfLoose, Cond.instanceMethod yX0_sizeOfLoose, Cond.selects RX0 yX0_sizeOfLoose yX0_sizeOfLoose, Cond.code yX0_sizeOfLoose cX0_sizeOfLoose 2 (some .int), Cond.fieldLink RX0 59 "StageSwitch$Net" "alive" "I", Cond.methodLink RX0 52 yX0_begin, Cond.instanceMethod yX0_begin, Cond.selects RX0 yX0_begin yX0_begin, Cond.code yX0_begin cX0_begin 2 none, Cond.fieldLink RX0 9 "StageSwitch$Asks" "begun" "[I", Cond.methodLink RX0 40 yX0_sizeOfNet, Cond.instanceMethod yX0_sizeOfNet, Cond.selects RX0 yX0_sizeOfNet yX0_sizeOfNet, Cond.code yX0_sizeOfNet cX0_sizeOfNet 2 (some .int), Cond.fieldLink RX0 56 "StageSwitch$Net" "lines" "I"]
def wsX5_ask_r3 : List Cond := [Cond.methodLink RX0 34 yX0_sizeOfStrict, Cond.instanceMethod yX0_sizeOfStrict, Cond.selects RX0 yX0_sizeOfStrict yX0_sizeOfStrict, Cond.code yX0_sizeOfStrict cX0_sizeOfStrict 3 (some .int), Cond.methodLink RX0 43 yX0_markOfLoose, Cond.instanceMethod yX0_markOfLoose, Cond.selects RX0 yX0_markOfLoose yX0_markOfLoose, Cond.code yX0_markOfLoose cX0_markOfLoose 2 (some .int), Cond.methodLink RX0 49 yX0_markOfNet, Cond.instanceMethod yX0_markOfNet, Cond.selects RX0 yX0_markOfNet yX0_markOfNet, Cond.code yX0_markOfNet cX0_markOfNet 2 (some .int), Cond.fieldLink RX0 62 "StageSwitch$Net" "calls" "I", Cond.methodLink RX0 37 yX0_sizeOfBare, Cond.instanceMethod yX0_sizeOfBare, Cond.selects RX0 yX0_sizeOfBare yX0_sizeOfBare, Cond.code yX0_sizeOfBare cX0_sizeOfBare 2 (some .int), Cond.methodLink RX5 111 yX0_markOf, Cond.instanceMethod yX0_markOf, Cond.selects RX0 yX0_markOf yX0_markOf, Cond.code yX0_markOf cX0_markOf 2 (some .int), Cond.methodLink RX0 46 yX0_markOfBare, Cond.instanceMethod yX0_markOfBare, Cond.selects RX0 yX0_markOfBare yX0_markOfBare]
def wsX5_ask_r4 : List Cond := [Cond.code yX0_markOfBare cX0_markOfBare 3 (some .int), Cond.methodLink RX5 62 yX5_fine, Cond.instanceMethod yX5_fine, Cond.selects RX5 yX5_fine yX5_fine, Cond.code yX5_fine cX5_fine 2 (some .int)]
def wsX5_ask : List Cond := .code yX5_ask cX5_ask 4 (some .int) :: ((wsX5_ask_r1 ++ (wsX5_ask_r2 ++ (wsX5_ask_r3 ++ wsX5_ask_r4))) ++ wsX50 ++ wsX00 ++ wsX10)
def wsX5_trace : List Cond := .code yX5_trace cX5_trace 2 (some .int) :: ([.fieldLink RX5 24 "StageSwitch" "asks" "LStageSwitch$Asks;", .methodLink RX5 114 yX0_traced, .instanceMethod yX0_traced, .selects RX0 yX0_traced yX0_traced, .initialized RX0, .code yX0_traced cX0_traced 2 (some .int), .fieldLink RX0 15 "StageSwitch$Asks" "howMany" "I", .fieldLink RX0 9 "StageSwitch$Asks" "begun" "[I", .constant RX0 23 (-1000000), .static yX5_within, .initialized RX5, .code yX5_within cX5_within 3 (some .boolean)] ++ wsX50 ++ wsX00)
def wsX5_call_r1 : List Cond := [Cond.constant RX5 54 (-1000001), Cond.fieldLink RX5 17 "StageSwitch" "shelf" "[LStageSwitch$Net;", Cond.constant RX5 123 (-1000002), Cond.methodLink RX5 85 yX5_isPlace, Cond.static yX5_isPlace, Cond.initialized RX5, Cond.code yX5_isPlace cX5_isPlace 1 (some .boolean), Cond.methodLink RX5 50 yX5_within, Cond.static yX5_within, Cond.code yX5_within cX5_within 3 (some .boolean), Cond.methodLink RX5 55 yX5_found, Cond.instanceMethod yX5_found, Cond.selects RX5 yX5_found yX5_found, Cond.code yX5_found cX5_found 2 (some .int), Cond.fieldLink RX5 42 "StageSwitch" "latestFinding" "I", Cond.constant RX5 204 (-1000010), Cond.methodLink RX5 117 yX1_hasLine, Cond.instanceMethod yX1_hasLine, Cond.selects RX1 yX1_hasLine yX1_hasLine, Cond.initialized RX1, Cond.code yX1_hasLine cX1_hasLine 2 (some .boolean), Cond.fieldLink RX1 21 "StageSwitch$Net" "lines" "I", Cond.methodLink RX5 120 yX1_isBusy, Cond.instanceMethod yX1_isBusy]
def wsX5_call_r2 : List Cond := [Cond.selects RX1 yX1_isBusy yX1_isBusy, Cond.code yX1_isBusy cX1_isBusy 3 (some .boolean), Cond.fieldLink RX1 28 "StageSwitch$Net" "outOf" "[I", Cond.constant RX1 65 (-1000000), Cond.fieldLink RX1 35 "StageSwitch$Net" "outTaken" "[Z", Cond.methodLink RX5 124 yX1_setUp, Cond.instanceMethod yX1_setUp, Cond.selects RX1 yX1_setUp yX1_setUp, Cond.code yX1_setUp cX1_setUp 5 (some .int), Cond.fieldLink RX1 59 "StageSwitch$Net" "plannedX" "I", Cond.fieldLink RX1 62 "StageSwitch$Net" "plannedY" "I", Cond.fieldLink RX1 56 "StageSwitch$Net" "calls" "I", Cond.methodLink RX1 83 yX1_plan, Cond.instanceMethod yX1_plan, Cond.selects RX1 yX1_plan yX1_plan, Cond.code yX1_plan cX1_plan 5 (some .int), Cond.fieldLink RX1 9 "StageSwitch$Net" "middles" "I", Cond.methodLink RX1 76 yX1_isFree, Cond.instanceMethod yX1_isFree, Cond.selects RX1 yX1_isFree yX1_isFree, Cond.code yX1_isFree cX1_isFree 4 (some .boolean), Cond.methodLink RX1 105 yX1_isFreeFrom, Cond.instanceMethod yX1_isFreeFrom, Cond.selects RX1 yX1_isFreeFrom yX1_isFreeFrom]
def wsX5_call_r3 : List Cond := [Cond.code yX1_isFreeFrom cX1_isFreeFrom 3 (some .boolean), Cond.fieldLink RX1 24 "StageSwitch$Net" "dead" "[Z", Cond.fieldLink RX1 38 "StageSwitch$Net" "fromFirst" "[I", Cond.methodLink RX1 116 yX1_link, Cond.instanceMethod yX1_link, Cond.selects RX1 yX1_link yX1_link, Cond.code yX1_link cX1_link 3 (some .int), Cond.fieldLink RX1 18 "StageSwitch$Net" "switches" "I", Cond.fieldLink RX1 15 "StageSwitch$Net" "linesEach" "I", Cond.methodLink RX1 109 yX1_isFreeTo, Cond.instanceMethod yX1_isFreeTo, Cond.selects RX1 yX1_isFreeTo yX1_isFreeTo, Cond.code yX1_isFreeTo cX1_isFreeTo 3 (some .boolean), Cond.fieldLink RX1 41 "StageSwitch$Net" "toLast" "[I", Cond.methodLink RX1 79 yX1_planMoves, Cond.instanceMethod yX1_planMoves, Cond.selects RX1 yX1_planMoves yX1_planMoves, Cond.code yX1_planMoves cX1_planMoves 7 (some .int), Cond.methodLink RX1 112 yX1_walkChain, Cond.instanceMethod yX1_walkChain, Cond.selects RX1 yX1_walkChain yX1_walkChain, Cond.code yX1_walkChain cX1_walkChain 7 (some .int), Cond.fieldLink RX1 44 "StageSwitch$Net" "chain" "[I", Cond.methodLink RX1 87 yX1_swapChain]
def wsX5_call_r4 : List Cond := [Cond.instanceMethod yX1_swapChain, Cond.selects RX1 yX1_swapChain yX1_swapChain, Cond.code yX1_swapChain cX1_swapChain 6 none, Cond.methodLink RX1 95 yX1_leaveLinks, Cond.instanceMethod yX1_leaveLinks, Cond.selects RX1 yX1_leaveLinks yX1_leaveLinks, Cond.code yX1_leaveLinks cX1_leaveLinks 2 none, Cond.fieldLink RX1 32 "StageSwitch$Net" "middleOf" "[I", Cond.methodLink RX1 91 yX1_takeLinks, Cond.instanceMethod yX1_takeLinks, Cond.selects RX1 yX1_takeLinks yX1_takeLinks, Cond.code yX1_takeLinks cX1_takeLinks 3 none, Cond.methodLink RX5 62 yX5_fine, Cond.instanceMethod yX5_fine, Cond.selects RX5 yX5_fine yX5_fine, Cond.code yX5_fine cX5_fine 2 (some .int)]
def wsX5_call : List Cond := .code yX5_call cX5_call 6 (some .int) :: ((wsX5_call_r1 ++ (wsX5_call_r2 ++ (wsX5_call_r3 ++ wsX5_call_r4))) ++ wsX50 ++ wsX10)
def wsX5_end_r1 : List Cond := [Cond.constant RX5 54 (-1000001), Cond.fieldLink RX5 17 "StageSwitch" "shelf" "[LStageSwitch$Net;", Cond.fieldLink RX5 128 "StageSwitch$Net" "outOf" "[I", Cond.methodLink RX5 85 yX5_isPlace, Cond.static yX5_isPlace, Cond.initialized RX5, Cond.code yX5_isPlace cX5_isPlace 1 (some .boolean), Cond.methodLink RX5 50 yX5_within, Cond.static yX5_within, Cond.code yX5_within cX5_within 3 (some .boolean), Cond.methodLink RX5 55 yX5_found, Cond.instanceMethod yX5_found, Cond.selects RX5 yX5_found yX5_found, Cond.code yX5_found cX5_found 2 (some .int), Cond.fieldLink RX5 42 "StageSwitch" "latestFinding" "I", Cond.constant RX5 204 (-1000010), Cond.methodLink RX5 117 yX1_hasLine, Cond.instanceMethod yX1_hasLine, Cond.selects RX1 yX1_hasLine yX1_hasLine, Cond.initialized RX1, Cond.code yX1_hasLine cX1_hasLine 2 (some .boolean), Cond.fieldLink RX1 21 "StageSwitch$Net" "lines" "I", Cond.methodLink RX5 131 yX1_takeOff, Cond.instanceMethod yX1_takeOff]
def wsX5_end_r2 : List Cond := [Cond.selects RX1 yX1_takeOff yX1_takeOff, Cond.code yX1_takeOff cX1_takeOff 3 none, Cond.fieldLink RX1 28 "StageSwitch$Net" "outOf" "[I", Cond.constant RX1 65 (-1000000), Cond.fieldLink RX1 35 "StageSwitch$Net" "outTaken" "[Z", Cond.fieldLink RX1 56 "StageSwitch$Net" "calls" "I", Cond.methodLink RX1 95 yX1_leaveLinks, Cond.instanceMethod yX1_leaveLinks, Cond.selects RX1 yX1_leaveLinks yX1_leaveLinks, Cond.code yX1_leaveLinks cX1_leaveLinks 2 none, Cond.fieldLink RX1 38 "StageSwitch$Net" "fromFirst" "[I", Cond.fieldLink RX1 32 "StageSwitch$Net" "middleOf" "[I", Cond.fieldLink RX1 41 "StageSwitch$Net" "toLast" "[I", Cond.methodLink RX1 116 yX1_link, Cond.instanceMethod yX1_link, Cond.selects RX1 yX1_link yX1_link, Cond.code yX1_link cX1_link 3 (some .int), Cond.fieldLink RX1 18 "StageSwitch$Net" "switches" "I", Cond.fieldLink RX1 15 "StageSwitch$Net" "linesEach" "I", Cond.methodLink RX5 62 yX5_fine, Cond.instanceMethod yX5_fine, Cond.selects RX5 yX5_fine yX5_fine, Cond.code yX5_fine cX5_fine 2 (some .int)]
def wsX5_end : List Cond := .code yX5_end cX5_end 5 (some .int) :: ((wsX5_end_r1 ++ wsX5_end_r2) ++ wsX50 ++ wsX10)
def wsX5_line_r1 : List Cond := [Cond.constant RX5 54 (-1000001), Cond.fieldLink RX5 17 "StageSwitch" "shelf" "[LStageSwitch$Net;", Cond.fieldLink RX5 128 "StageSwitch$Net" "outOf" "[I", Cond.fieldLink RX5 135 "StageSwitch$Net" "middleOf" "[I", Cond.methodLink RX5 85 yX5_isPlace, Cond.static yX5_isPlace, Cond.initialized RX5, Cond.code yX5_isPlace cX5_isPlace 1 (some .boolean), Cond.methodLink RX5 50 yX5_within, Cond.static yX5_within, Cond.code yX5_within cX5_within 3 (some .boolean), Cond.methodLink RX5 55 yX5_found, Cond.instanceMethod yX5_found, Cond.selects RX5 yX5_found yX5_found, Cond.code yX5_found cX5_found 2 (some .int), Cond.fieldLink RX5 42 "StageSwitch" "latestFinding" "I", Cond.constant RX5 204 (-1000010), Cond.methodLink RX5 117 yX1_hasLine, Cond.instanceMethod yX1_hasLine, Cond.selects RX1 yX1_hasLine yX1_hasLine, Cond.initialized RX1, Cond.code yX1_hasLine cX1_hasLine 2 (some .boolean), Cond.fieldLink RX1 21 "StageSwitch$Net" "lines" "I", Cond.methodLink RX5 62 yX5_fine]
def wsX5_line_r2 : List Cond := [Cond.instanceMethod yX5_fine, Cond.selects RX5 yX5_fine yX5_fine, Cond.code yX5_fine cX5_fine 2 (some .int)]
def wsX5_line : List Cond := .code yX5_line cX5_line 5 (some .int) :: ((wsX5_line_r1 ++ wsX5_line_r2) ++ wsX50 ++ wsX10)
def wsX5_free_r1 : List Cond := [Cond.constant RX5 54 (-1000001), Cond.fieldLink RX5 17 "StageSwitch" "shelf" "[LStageSwitch$Net;", Cond.constant RX5 123 (-1000002), Cond.methodLink RX5 85 yX5_isPlace, Cond.static yX5_isPlace, Cond.initialized RX5, Cond.code yX5_isPlace cX5_isPlace 1 (some .boolean), Cond.methodLink RX5 50 yX5_within, Cond.static yX5_within, Cond.code yX5_within cX5_within 3 (some .boolean), Cond.methodLink RX5 55 yX5_found, Cond.instanceMethod yX5_found, Cond.selects RX5 yX5_found yX5_found, Cond.code yX5_found cX5_found 2 (some .int), Cond.fieldLink RX5 42 "StageSwitch" "latestFinding" "I", Cond.constant RX5 204 (-1000010), Cond.methodLink RX5 117 yX1_hasLine, Cond.instanceMethod yX1_hasLine, Cond.selects RX1 yX1_hasLine yX1_hasLine, Cond.initialized RX1, Cond.code yX1_hasLine cX1_hasLine 2 (some .boolean), Cond.fieldLink RX1 21 "StageSwitch$Net" "lines" "I", Cond.methodLink RX5 120 yX1_isBusy, Cond.instanceMethod yX1_isBusy]
def wsX5_free_r2 : List Cond := [Cond.selects RX1 yX1_isBusy yX1_isBusy, Cond.code yX1_isBusy cX1_isBusy 3 (some .boolean), Cond.fieldLink RX1 28 "StageSwitch$Net" "outOf" "[I", Cond.constant RX1 65 (-1000000), Cond.fieldLink RX1 35 "StageSwitch$Net" "outTaken" "[Z", Cond.methodLink RX5 138 yX1_howManyFree, Cond.instanceMethod yX1_howManyFree, Cond.selects RX1 yX1_howManyFree yX1_howManyFree, Cond.code yX1_howManyFree cX1_howManyFree 5 (some .int), Cond.fieldLink RX1 9 "StageSwitch$Net" "middles" "I", Cond.methodLink RX1 76 yX1_isFree, Cond.instanceMethod yX1_isFree, Cond.selects RX1 yX1_isFree yX1_isFree, Cond.code yX1_isFree cX1_isFree 4 (some .boolean), Cond.methodLink RX1 105 yX1_isFreeFrom, Cond.instanceMethod yX1_isFreeFrom, Cond.selects RX1 yX1_isFreeFrom yX1_isFreeFrom, Cond.code yX1_isFreeFrom cX1_isFreeFrom 3 (some .boolean), Cond.fieldLink RX1 24 "StageSwitch$Net" "dead" "[Z", Cond.fieldLink RX1 38 "StageSwitch$Net" "fromFirst" "[I", Cond.methodLink RX1 116 yX1_link, Cond.instanceMethod yX1_link, Cond.selects RX1 yX1_link yX1_link, Cond.code yX1_link cX1_link 3 (some .int)]
def wsX5_free_r3 : List Cond := [Cond.fieldLink RX1 18 "StageSwitch$Net" "switches" "I", Cond.fieldLink RX1 15 "StageSwitch$Net" "linesEach" "I", Cond.methodLink RX1 109 yX1_isFreeTo, Cond.instanceMethod yX1_isFreeTo, Cond.selects RX1 yX1_isFreeTo yX1_isFreeTo, Cond.code yX1_isFreeTo cX1_isFreeTo 3 (some .boolean), Cond.fieldLink RX1 41 "StageSwitch$Net" "toLast" "[I", Cond.methodLink RX5 142 yX1_plan, Cond.instanceMethod yX1_plan, Cond.selects RX1 yX1_plan yX1_plan, Cond.code yX1_plan cX1_plan 5 (some .int), Cond.fieldLink RX1 59 "StageSwitch$Net" "plannedX" "I", Cond.methodLink RX1 79 yX1_planMoves, Cond.instanceMethod yX1_planMoves, Cond.selects RX1 yX1_planMoves yX1_planMoves, Cond.code yX1_planMoves cX1_planMoves 7 (some .int), Cond.fieldLink RX1 62 "StageSwitch$Net" "plannedY" "I", Cond.methodLink RX1 112 yX1_walkChain, Cond.instanceMethod yX1_walkChain, Cond.selects RX1 yX1_walkChain yX1_walkChain, Cond.code yX1_walkChain cX1_walkChain 7 (some .int), Cond.fieldLink RX1 44 "StageSwitch$Net" "chain" "[I", Cond.methodLink RX5 62 yX5_fine, Cond.instanceMethod yX5_fine]
def wsX5_free_r4 : List Cond := [Cond.selects RX5 yX5_fine yX5_fine, Cond.code yX5_fine cX5_fine 2 (some .int)]
def wsX5_free : List Cond := .code yX5_free cX5_free 6 (some .int) :: ((wsX5_free_r1 ++ (wsX5_free_r2 ++ (wsX5_free_r3 ++ wsX5_free_r4))) ++ wsX50 ++ wsX10)
def wsX5_die_r1 : List Cond := [Cond.constant RX5 54 (-1000001), Cond.fieldLink RX5 17 "StageSwitch" "shelf" "[LStageSwitch$Net;", Cond.fieldLink RX5 148 "StageSwitch$Net" "dead" "[Z", Cond.constant RX5 123 (-1000002), Cond.methodLink RX5 85 yX5_isPlace, Cond.static yX5_isPlace, Cond.initialized RX5, Cond.code yX5_isPlace cX5_isPlace 1 (some .boolean), Cond.methodLink RX5 50 yX5_within, Cond.static yX5_within, Cond.code yX5_within cX5_within 3 (some .boolean), Cond.methodLink RX5 55 yX5_found, Cond.instanceMethod yX5_found, Cond.selects RX5 yX5_found yX5_found, Cond.code yX5_found cX5_found 2 (some .int), Cond.fieldLink RX5 42 "StageSwitch" "latestFinding" "I", Cond.constant RX5 204 (-1000010), Cond.methodLink RX5 145 yX1_hasMiddle, Cond.instanceMethod yX1_hasMiddle, Cond.selects RX1 yX1_hasMiddle yX1_hasMiddle, Cond.initialized RX1, Cond.code yX1_hasMiddle cX1_hasMiddle 2 (some .boolean), Cond.fieldLink RX1 9 "StageSwitch$Net" "middles" "I", Cond.methodLink RX5 152 yX1_killMiddle]
def wsX5_die_r2 : List Cond := [Cond.instanceMethod yX1_killMiddle, Cond.selects RX1 yX1_killMiddle yX1_killMiddle, Cond.code yX1_killMiddle cX1_killMiddle 5 (some .int), Cond.fieldLink RX1 21 "StageSwitch$Net" "lines" "I", Cond.fieldLink RX1 32 "StageSwitch$Net" "middleOf" "[I", Cond.fieldLink RX1 47 "StageSwitch$Net" "shedIn" "[I", Cond.fieldLink RX1 50 "StageSwitch$Net" "shedOut" "[I", Cond.fieldLink RX1 28 "StageSwitch$Net" "outOf" "[I", Cond.fieldLink RX1 24 "StageSwitch$Net" "dead" "[Z", Cond.fieldLink RX1 53 "StageSwitch$Net" "alive" "I", Cond.constant RX1 65 (-1000000), Cond.methodLink RX1 99 yX1_takeOff, Cond.instanceMethod yX1_takeOff, Cond.selects RX1 yX1_takeOff yX1_takeOff, Cond.code yX1_takeOff cX1_takeOff 3 none, Cond.fieldLink RX1 35 "StageSwitch$Net" "outTaken" "[Z", Cond.fieldLink RX1 56 "StageSwitch$Net" "calls" "I", Cond.methodLink RX1 95 yX1_leaveLinks, Cond.instanceMethod yX1_leaveLinks, Cond.selects RX1 yX1_leaveLinks yX1_leaveLinks, Cond.code yX1_leaveLinks cX1_leaveLinks 2 none, Cond.fieldLink RX1 38 "StageSwitch$Net" "fromFirst" "[I", Cond.fieldLink RX1 41 "StageSwitch$Net" "toLast" "[I", Cond.methodLink RX1 116 yX1_link]
def wsX5_die_r3 : List Cond := [Cond.instanceMethod yX1_link, Cond.selects RX1 yX1_link yX1_link, Cond.code yX1_link cX1_link 3 (some .int), Cond.fieldLink RX1 18 "StageSwitch$Net" "switches" "I", Cond.fieldLink RX1 15 "StageSwitch$Net" "linesEach" "I", Cond.methodLink RX1 102 yX1_setUp, Cond.instanceMethod yX1_setUp, Cond.selects RX1 yX1_setUp yX1_setUp, Cond.code yX1_setUp cX1_setUp 5 (some .int), Cond.fieldLink RX1 59 "StageSwitch$Net" "plannedX" "I", Cond.fieldLink RX1 62 "StageSwitch$Net" "plannedY" "I", Cond.methodLink RX1 83 yX1_plan, Cond.instanceMethod yX1_plan, Cond.selects RX1 yX1_plan yX1_plan, Cond.code yX1_plan cX1_plan 5 (some .int), Cond.methodLink RX1 76 yX1_isFree, Cond.instanceMethod yX1_isFree, Cond.selects RX1 yX1_isFree yX1_isFree, Cond.code yX1_isFree cX1_isFree 4 (some .boolean), Cond.methodLink RX1 105 yX1_isFreeFrom, Cond.instanceMethod yX1_isFreeFrom, Cond.selects RX1 yX1_isFreeFrom yX1_isFreeFrom, Cond.code yX1_isFreeFrom cX1_isFreeFrom 3 (some .boolean), Cond.methodLink RX1 109 yX1_isFreeTo]
def wsX5_die_r4 : List Cond := [Cond.instanceMethod yX1_isFreeTo, Cond.selects RX1 yX1_isFreeTo yX1_isFreeTo, Cond.code yX1_isFreeTo cX1_isFreeTo 3 (some .boolean), Cond.methodLink RX1 79 yX1_planMoves, Cond.instanceMethod yX1_planMoves, Cond.selects RX1 yX1_planMoves yX1_planMoves, Cond.code yX1_planMoves cX1_planMoves 7 (some .int), Cond.methodLink RX1 112 yX1_walkChain, Cond.instanceMethod yX1_walkChain, Cond.selects RX1 yX1_walkChain yX1_walkChain, Cond.code yX1_walkChain cX1_walkChain 7 (some .int), Cond.fieldLink RX1 44 "StageSwitch$Net" "chain" "[I", Cond.methodLink RX1 87 yX1_swapChain, Cond.instanceMethod yX1_swapChain, Cond.selects RX1 yX1_swapChain yX1_swapChain, Cond.code yX1_swapChain cX1_swapChain 6 none, Cond.methodLink RX1 91 yX1_takeLinks, Cond.instanceMethod yX1_takeLinks, Cond.selects RX1 yX1_takeLinks yX1_takeLinks, Cond.code yX1_takeLinks cX1_takeLinks 3 none, Cond.methodLink RX5 62 yX5_fine, Cond.instanceMethod yX5_fine, Cond.selects RX5 yX5_fine yX5_fine, Cond.code yX5_fine cX5_fine 2 (some .int)]
def wsX5_die : List Cond := .code yX5_die cX5_die 4 (some .int) :: ((wsX5_die_r1 ++ (wsX5_die_r2 ++ (wsX5_die_r3 ++ wsX5_die_r4))) ++ wsX50 ++ wsX10)
def wsX5_mend_r1 : List Cond := [Cond.constant RX5 54 (-1000001), Cond.fieldLink RX5 17 "StageSwitch" "shelf" "[LStageSwitch$Net;", Cond.methodLink RX5 85 yX5_isPlace, Cond.static yX5_isPlace, Cond.initialized RX5, Cond.code yX5_isPlace cX5_isPlace 1 (some .boolean), Cond.methodLink RX5 50 yX5_within, Cond.static yX5_within, Cond.code yX5_within cX5_within 3 (some .boolean), Cond.methodLink RX5 55 yX5_found, Cond.instanceMethod yX5_found, Cond.selects RX5 yX5_found yX5_found, Cond.code yX5_found cX5_found 2 (some .int), Cond.fieldLink RX5 42 "StageSwitch" "latestFinding" "I", Cond.constant RX5 204 (-1000010), Cond.methodLink RX5 145 yX1_hasMiddle, Cond.instanceMethod yX1_hasMiddle, Cond.selects RX1 yX1_hasMiddle yX1_hasMiddle, Cond.initialized RX1, Cond.code yX1_hasMiddle cX1_hasMiddle 2 (some .boolean), Cond.fieldLink RX1 9 "StageSwitch$Net" "middles" "I", Cond.methodLink RX5 155 yX1_reviveMiddle, Cond.instanceMethod yX1_reviveMiddle, Cond.selects RX1 yX1_reviveMiddle yX1_reviveMiddle]
def wsX5_mend_r2 : List Cond := [Cond.code yX1_reviveMiddle cX1_reviveMiddle 2 (some .boolean), Cond.fieldLink RX1 24 "StageSwitch$Net" "dead" "[Z", Cond.fieldLink RX1 53 "StageSwitch$Net" "alive" "I", Cond.methodLink RX5 62 yX5_fine, Cond.instanceMethod yX5_fine, Cond.selects RX5 yX5_fine yX5_fine, Cond.code yX5_fine cX5_fine 2 (some .int)]
def wsX5_mend : List Cond := .code yX5_mend cX5_mend 4 (some .int) :: ((wsX5_mend_r1 ++ wsX5_mend_r2) ++ wsX50 ++ wsX10)
def wsX5_bit_r1 : List Cond := [Cond.constant RX5 54 (-1000001), Cond.fieldLink RX5 11 "StageSwitch" "sheets" "[LStageSwitch$Sheet;", Cond.fieldLink RX5 31 "StageSwitch" "rounds" "LStageSwitch$Rounds;", Cond.fieldLink RX5 165 "StageSwitch$Rounds" "bits" "[[I", Cond.methodLink RX5 46 yX5_isSheet, Cond.static yX5_isSheet, Cond.initialized RX5, Cond.code yX5_isSheet cX5_isSheet 1 (some .boolean), Cond.methodLink RX5 50 yX5_within, Cond.static yX5_within, Cond.code yX5_within cX5_within 3 (some .boolean), Cond.methodLink RX5 55 yX5_found, Cond.instanceMethod yX5_found, Cond.selects RX5 yX5_found yX5_found, Cond.code yX5_found cX5_found 2 (some .int), Cond.fieldLink RX5 42 "StageSwitch" "latestFinding" "I", Cond.constant RX5 204 (-1000010), Cond.methodLink RX5 65 yX4_holds, Cond.instanceMethod yX4_holds, Cond.selects RX4 yX4_holds yX4_holds, Cond.initialized RX4, Cond.code yX4_holds cX4_holds 3 (some .boolean), Cond.fieldLink RX4 13 "StageSwitch$Sheet" "items" "[I", Cond.methodLink RX5 158 yX3_takeOrder]
def wsX5_bit_r2 : List Cond := [Cond.instanceMethod yX3_takeOrder, Cond.selects RX3 yX3_takeOrder yX3_takeOrder, Cond.initialized RX3, Cond.code yX3_takeOrder cX3_takeOrder 8 (some .boolean), Cond.fieldLink RX3 26 "StageSwitch$Sheet" "items" "[I", Cond.fieldLink RX3 16 "StageSwitch$Rounds" "orders" "[[I", Cond.methodLink RX5 162 yX3_setAllSwitches, Cond.instanceMethod yX3_setAllSwitches, Cond.selects RX3 yX3_setAllSwitches yX3_setAllSwitches, Cond.code yX3_setAllSwitches cX3_setAllSwitches 6 none, Cond.fieldLink RX3 11 "StageSwitch$Rounds" "bits" "[[I", Cond.methodLink RX3 35 yX3_goRound, Cond.instanceMethod yX3_goRound, Cond.selects RX3 yX3_goRound yX3_goRound, Cond.code yX3_goRound cX3_goRound 9 none, Cond.fieldLink RX3 19 "StageSwitch$Rounds" "lineInFor" "[I", Cond.fieldLink RX3 23 "StageSwitch$Rounds" "halfOf" "[I", Cond.methodLink RX3 46 yX3_other, Cond.static yX3_other, Cond.code yX3_other cX3_other 1 (some .int), Cond.methodLink RX3 39 yX3_setOuterStages, Cond.instanceMethod yX3_setOuterStages, Cond.selects RX3 yX3_setOuterStages yX3_setOuterStages, Cond.code yX3_setOuterStages cX3_setOuterStages 6 none]
def wsX5_bit_r3 : List Cond := [Cond.methodLink RX3 43 yX3_handToHalves, Cond.instanceMethod yX3_handToHalves, Cond.selects RX3 yX3_handToHalves yX3_handToHalves, Cond.code yX3_handToHalves cX3_handToHalves 6 none, Cond.methodLink RX5 62 yX5_fine, Cond.instanceMethod yX5_fine, Cond.selects RX5 yX5_fine yX5_fine, Cond.code yX5_fine cX5_fine 2 (some .int)]
def wsX5_bit : List Cond := .code yX5_bit cX5_bit 7 (some .int) :: ((wsX5_bit_r1 ++ (wsX5_bit_r2 ++ wsX5_bit_r3)) ++ wsX50 ++ wsX30 ++ wsX40)
def wsX5_goes_r1 : List Cond := [Cond.constant RX5 54 (-1000001), Cond.fieldLink RX5 11 "StageSwitch" "sheets" "[LStageSwitch$Sheet;", Cond.fieldLink RX5 31 "StageSwitch" "rounds" "LStageSwitch$Rounds;", Cond.methodLink RX5 46 yX5_isSheet, Cond.static yX5_isSheet, Cond.initialized RX5, Cond.code yX5_isSheet cX5_isSheet 1 (some .boolean), Cond.methodLink RX5 50 yX5_within, Cond.static yX5_within, Cond.code yX5_within cX5_within 3 (some .boolean), Cond.methodLink RX5 55 yX5_found, Cond.instanceMethod yX5_found, Cond.selects RX5 yX5_found yX5_found, Cond.code yX5_found cX5_found 2 (some .int), Cond.fieldLink RX5 42 "StageSwitch" "latestFinding" "I", Cond.constant RX5 204 (-1000010), Cond.methodLink RX5 65 yX4_holds, Cond.instanceMethod yX4_holds, Cond.selects RX4 yX4_holds yX4_holds, Cond.initialized RX4, Cond.code yX4_holds cX4_holds 3 (some .boolean), Cond.fieldLink RX4 13 "StageSwitch$Sheet" "items" "[I", Cond.methodLink RX5 169 yX3_takeBits, Cond.instanceMethod yX3_takeBits]
def wsX5_goes_r2 : List Cond := [Cond.selects RX3 yX3_takeBits yX3_takeBits, Cond.initialized RX3, Cond.code yX3_takeBits cX3_takeBits 7 none, Cond.fieldLink RX3 11 "StageSwitch$Rounds" "bits" "[[I", Cond.fieldLink RX3 26 "StageSwitch$Sheet" "items" "[I", Cond.methodLink RX5 173 yX3_follow, Cond.instanceMethod yX3_follow, Cond.selects RX3 yX3_follow yX3_follow, Cond.code yX3_follow cX3_follow 8 (some .int), Cond.methodLink RX5 62 yX5_fine, Cond.instanceMethod yX5_fine, Cond.selects RX5 yX5_fine yX5_fine, Cond.code yX5_fine cX5_fine 2 (some .int)]
def wsX5_goes : List Cond := .code yX5_goes cX5_goes 6 (some .int) :: ((wsX5_goes_r1 ++ wsX5_goes_r2) ++ wsX50 ++ wsX40 ++ wsX30)
def wsX5_demand_r1 : List Cond := [Cond.constant RX5 54 (-1000001), Cond.fieldLink RX5 11 "StageSwitch" "sheets" "[LStageSwitch$Sheet;", Cond.fieldLink RX5 38 "StageSwitch" "parts" "LStageSwitch$Parts;", Cond.constant RX5 179 (-1000000), Cond.fieldLink RX5 183 "StageSwitch$Parts" "times" "I", Cond.fieldLink RX5 186 "StageSwitch$Parts" "order" "[I", Cond.methodLink RX5 46 yX5_isSheet, Cond.static yX5_isSheet, Cond.initialized RX5, Cond.code yX5_isSheet cX5_isSheet 1 (some .boolean), Cond.methodLink RX5 50 yX5_within, Cond.static yX5_within, Cond.code yX5_within cX5_within 3 (some .boolean), Cond.methodLink RX5 55 yX5_found, Cond.instanceMethod yX5_found, Cond.selects RX5 yX5_found yX5_found, Cond.code yX5_found cX5_found 2 (some .int), Cond.fieldLink RX5 42 "StageSwitch" "latestFinding" "I", Cond.constant RX5 204 (-1000010), Cond.methodLink RX5 65 yX4_holds, Cond.instanceMethod yX4_holds, Cond.selects RX4 yX4_holds yX4_holds, Cond.initialized RX4, Cond.code yX4_holds cX4_holds 3 (some .boolean)]
def wsX5_demand_r2 : List Cond := [Cond.fieldLink RX4 13 "StageSwitch$Sheet" "items" "[I", Cond.methodLink RX5 176 yX2_takeTable, Cond.instanceMethod yX2_takeTable, Cond.selects RX2 yX2_takeTable yX2_takeTable, Cond.initialized RX2, Cond.code yX2_takeTable cX2_takeTable 7 (some .boolean), Cond.fieldLink RX2 20 "StageSwitch$Parts" "size" "I", Cond.fieldLink RX2 24 "StageSwitch$Sheet" "items" "[I", Cond.fieldLink RX2 17 "StageSwitch$Parts" "left" "[[I", Cond.methodLink RX2 33 yX2_sumOfRow, Cond.instanceMethod yX2_sumOfRow, Cond.selects RX2 yX2_sumOfRow yX2_sumOfRow, Cond.code yX2_sumOfRow cX2_sumOfRow 4 (some .int), Cond.methodLink RX2 37 yX2_sumOfColumn, Cond.instanceMethod yX2_sumOfColumn, Cond.selects RX2 yX2_sumOfColumn yX2_sumOfColumn, Cond.code yX2_sumOfColumn cX2_sumOfColumn 4 (some .int), Cond.methodLink RX5 180 yX2_takeUpTo, Cond.instanceMethod yX2_takeUpTo, Cond.selects RX2 yX2_takeUpTo yX2_takeUpTo, Cond.code yX2_takeUpTo cX2_takeUpTo 3 (some .int), Cond.fieldLink RX2 9 "StageSwitch$Parts" "order" "[I", Cond.methodLink RX2 40 yX2_findOrder, Cond.static yX2_findOrder]
def wsX5_demand_r3 : List Cond := [Cond.code yX2_findOrder cX2_findOrder 7 (some .boolean), Cond.methodLink RX2 44 yX2_takeOrderOff, Cond.instanceMethod yX2_takeOrderOff, Cond.selects RX2 yX2_takeOrderOff yX2_takeOrderOff, Cond.code yX2_takeOrderOff cX2_takeOrderOff 2 none, Cond.fieldLink RX2 47 "StageSwitch$Parts" "times" "I", Cond.methodLink RX2 50 Lib.Math.min.name, Cond.static Lib.Math.min.name, Cond.initialized "java/lang/Math", Cond.code Lib.Math.min.name Lib.Math.min.code 2 (some .int), Cond.methodLink RX5 62 yX5_fine, Cond.instanceMethod yX5_fine, Cond.selects RX5 yX5_fine yX5_fine, Cond.code yX5_fine cX5_fine 2 (some .int)]
def wsX5_demand : List Cond := .code yX5_demand cX5_demand 7 (some .int) :: ((wsX5_demand_r1 ++ (wsX5_demand_r2 ++ wsX5_demand_r3)) ++ wsX50 ++ wsX20 ++ wsX40)
def wsX5_crosspoints : List Cond := .code yX5_crosspoints cX5_crosspoints 7 (some .int) :: ([.methodLink RX5 208 Lib.Math.min.name, .static Lib.Math.min.name, .initialized "java/lang/Math", .code Lib.Math.min.name Lib.Math.min.code 2 (some .int), .methodLink RX5 189 yX5_crosspoints, .static yX5_crosspoints, .initialized RX5])
def wsX5_cross : List Cond := .code yX5_cross cX5_cross 4 (some .int) :: ([.constant RX5 54 (-1000001), .methodLink RX5 50 yX5_within, .static yX5_within, .initialized RX5, .code yX5_within cX5_within 3 (some .boolean), .methodLink RX5 189 yX5_crosspoints, .static yX5_crosspoints, .code yX5_crosspoints cX5_crosspoints 7 (some .int), .methodLink RX5 208 Lib.Math.min.name, .static Lib.Math.min.name, .initialized "java/lang/Math", .code Lib.Math.min.name Lib.Math.min.code 2 (some .int)])
def wsX5_shut : List Cond := .code yX5_shut cX5_shut 8 (some .long) :: ([.constantLong RX5 193 (-1000001), .methodLink RX5 50 yX5_within, .static yX5_within, .initialized RX5, .code yX5_within cX5_within 3 (some .boolean)])
def wsX5_countSheets : List Cond := .code yX5_countSheets cX5_countSheets 3 (some .int) :: ([.fieldLink RX5 11 "StageSwitch" "sheets" "[LStageSwitch$Sheet;"] ++ wsX50)
def wsX5_countNets : List Cond := .code yX5_countNets cX5_countNets 5 (some .int) :: ([.fieldLink RX5 17 "StageSwitch" "shelf" "[LStageSwitch$Net;", .methodLink RX5 91 yX1_toldKind, .instanceMethod yX1_toldKind, .selects RX1 yX1_toldKind yX1_toldKind, .initialized RX1, .code yX1_toldKind cX1_toldKind 1 (some .int), .fieldLink RX1 53 "StageSwitch$Net" "alive" "I", .fieldLink RX1 15 "StageSwitch$Net" "linesEach" "I", .methodLink RX5 98 yX5_countsAs, .static yX5_countsAs, .initialized RX5, .code yX5_countsAs cX5_countsAs 2 (some .boolean)] ++ wsX50 ++ wsX10)
def wsX5_countCalls : List Cond := .code yX5_countCalls cX5_countCalls 4 (some .int) :: ([.fieldLink RX5 17 "StageSwitch" "shelf" "[LStageSwitch$Net;", .fieldLink RX5 205 "StageSwitch$Net" "calls" "I"] ++ wsX50 ++ wsX10)
def wsX5_count_r1 : List Cond := [Cond.constant RX5 54 (-1000001), Cond.methodLink RX5 195 yX5_countSheets, Cond.instanceMethod yX5_countSheets, Cond.selects RX5 yX5_countSheets yX5_countSheets, Cond.initialized RX5, Cond.code yX5_countSheets cX5_countSheets 3 (some .int), Cond.fieldLink RX5 11 "StageSwitch" "sheets" "[LStageSwitch$Sheet;", Cond.methodLink RX5 198 yX5_countNets, Cond.instanceMethod yX5_countNets, Cond.selects RX5 yX5_countNets yX5_countNets, Cond.code yX5_countNets cX5_countNets 5 (some .int), Cond.fieldLink RX5 17 "StageSwitch" "shelf" "[LStageSwitch$Net;", Cond.methodLink RX5 91 yX1_toldKind, Cond.instanceMethod yX1_toldKind, Cond.selects RX1 yX1_toldKind yX1_toldKind, Cond.initialized RX1, Cond.code yX1_toldKind cX1_toldKind 1 (some .int), Cond.fieldLink RX1 53 "StageSwitch$Net" "alive" "I", Cond.fieldLink RX1 15 "StageSwitch$Net" "linesEach" "I", Cond.methodLink RX5 98 yX5_countsAs, Cond.static yX5_countsAs, Cond.code yX5_countsAs cX5_countsAs 2 (some .boolean), Cond.methodLink RX5 201 yX5_countCalls, Cond.instanceMethod yX5_countCalls]
def wsX5_count_r2 : List Cond := [Cond.selects RX5 yX5_countCalls yX5_countCalls, Cond.code yX5_countCalls cX5_countCalls 4 (some .int), Cond.fieldLink RX5 205 "StageSwitch$Net" "calls" "I"]
def wsX5_count : List Cond := .code yX5_count cX5_count 2 (some .int) :: ((wsX5_count_r1 ++ wsX5_count_r2) ++ wsX50 ++ wsX10)
def wsX5_status : List Cond := .code yX5_status cX5_status 1 (some .int) :: ([.fieldLink RX5 42 "StageSwitch" "latestFinding" "I"] ++ wsX50)
def wsX6_init_r1 : List Cond := [Cond.methodLink RX6 1 objectInit, Cond.instanceMethod objectInit, Cond.code objectInit ⟨#[0xb1]⟩ 1 none, Cond.arrayClass .int, Cond.fieldLink RX6 7 "StageSwitchModel" "lane" "[I", Cond.fieldLink RX6 13 "StageSwitchModel" "many" "[I", Cond.fieldLink RX6 16 "StageSwitchModel" "item" "[I", Cond.fieldLink RX6 19 "StageSwitchModel" "middles" "[I", Cond.fieldLink RX6 22 "StageSwitchModel" "lines" "[I", Cond.fieldLink RX6 25 "StageSwitchModel" "outer" "[I", Cond.arrayClass .boolean, Cond.fieldLink RX6 28 "StageSwitchModel" "isDead" "[Z", Cond.fieldLink RX6 32 "StageSwitchModel" "out" "[I", Cond.fieldLink RX6 35 "StageSwitchModel" "by" "[I", Cond.fieldLink RX6 38 "StageSwitchModel" "trace" "[I", Cond.fieldLink RX6 41 "StageSwitchModel" "chain" "[I", Cond.fieldLink RX6 44 "StageSwitchModel" "off" "[I", Cond.fieldLink RX6 47 "StageSwitchModel" "bits" "[I", Cond.fieldLink RX6 50 "StageSwitchModel" "order" "[I", Cond.fieldLink RX6 53 "StageSwitchModel" "deeper" "[I", Cond.fieldLink RX6 56 "StageSwitchModel" "half" "[I", Cond.fieldLink RX6 59 "StageSwitchModel" "wentBlock" "[I", Cond.fieldLink RX6 62 "StageSwitchModel" "wentHalf" "[I", Cond.fieldLink RX6 65 "StageSwitchModel" "left" "[I"]
def wsX6_init_r2 : List Cond := [Cond.fieldLink RX6 68 "StageSwitchModel" "partOrder" "[I", Cond.fieldLink RX6 71 "StageSwitchModel" "often" "[I", Cond.fieldLink RX6 74 "StageSwitchModel" "row" "[I", Cond.arrayClass .long, Cond.fieldLink RX6 77 "StageSwitchModel" "costs" "[J"]
def wsX6_init : List Cond := .code yX6_init cX6_init 1 none :: ((wsX6_init_r1 ++ wsX6_init_r2) ++ wsX60)
def wsX6_in : List Cond := .code yX6_in cX6_in 6 (some .boolean) :: ([])
def wsX6_found : List Cond := .code yX6_found cX6_found 2 (some .int) :: ([.fieldLink RX6 85 "StageSwitchModel" "status" "I", .constant RX6 88 (-1000010)] ++ wsX60)
def wsX6_isSheet : List Cond := .code yX6_isSheet cX6_isSheet 1 (some .boolean) :: ([.constantLong RX6 89 (7), .methodLink RX6 91 yX6_in, .static yX6_in, .initialized RX6, .code yX6_in cX6_in 6 (some .boolean)])
def wsX6_sheet : List Cond := .code yX6_sheet cX6_sheet 5 (some .int) :: ([.fieldLink RX6 81 "StageSwitchModel" "thrown" "I", .constantLong RX6 99 (2), .constant RX6 101 (-1000001), .fieldLink RX6 85 "StageSwitchModel" "status" "I", .fieldLink RX6 7 "StageSwitchModel" "lane" "[I", .fieldLink RX6 13 "StageSwitchModel" "many" "[I", .fieldLink RX6 16 "StageSwitchModel" "item" "[I", .methodLink RX6 95 yX6_isSheet, .static yX6_isSheet, .initialized RX6, .code yX6_isSheet cX6_isSheet 1 (some .boolean), .constantLong RX6 89 (7), .methodLink RX6 91 yX6_in, .static yX6_in, .code yX6_in cX6_in 6 (some .boolean), .methodLink RX6 102 yX6_found, .instanceMethod yX6_found, .selects RX6 yX6_found yX6_found, .code yX6_found cX6_found 2 (some .int), .constant RX6 88 (-1000010)] ++ wsX60)
def wsX6_set : List Cond := .code yX6_set cX6_set 4 (some .int) :: ([.fieldLink RX6 81 "StageSwitchModel" "thrown" "I", .constant RX6 101 (-1000001), .fieldLink RX6 85 "StageSwitchModel" "status" "I", .fieldLink RX6 7 "StageSwitchModel" "lane" "[I", .fieldLink RX6 13 "StageSwitchModel" "many" "[I", .fieldLink RX6 16 "StageSwitchModel" "item" "[I", .methodLink RX6 95 yX6_isSheet, .static yX6_isSheet, .initialized RX6, .code yX6_isSheet cX6_isSheet 1 (some .boolean), .constantLong RX6 89 (7), .methodLink RX6 91 yX6_in, .static yX6_in, .code yX6_in cX6_in 6 (some .boolean), .methodLink RX6 102 yX6_found, .instanceMethod yX6_found, .selects RX6 yX6_found yX6_found, .code yX6_found cX6_found 2 (some .int), .constant RX6 88 (-1000010)] ++ wsX60)
def wsX6_copy : List Cond := .code yX6_copy cX6_copy 9 (some .int) :: ([.fieldLink RX6 81 "StageSwitchModel" "thrown" "I", .constant RX6 101 (-1000001), .fieldLink RX6 85 "StageSwitchModel" "status" "I", .fieldLink RX6 7 "StageSwitchModel" "lane" "[I", .fieldLink RX6 13 "StageSwitchModel" "many" "[I", .fieldLink RX6 16 "StageSwitchModel" "item" "[I", .methodLink RX6 95 yX6_isSheet, .static yX6_isSheet, .initialized RX6, .code yX6_isSheet cX6_isSheet 1 (some .boolean), .constantLong RX6 89 (7), .methodLink RX6 91 yX6_in, .static yX6_in, .code yX6_in cX6_in 6 (some .boolean), .methodLink RX6 102 yX6_found, .instanceMethod yX6_found, .selects RX6 yX6_found yX6_found, .code yX6_found cX6_found 2 (some .int), .constant RX6 88 (-1000010)] ++ wsX60)
def wsX6_drop : List Cond := .code yX6_drop cX6_drop 2 (some .int) :: ([.fieldLink RX6 81 "StageSwitchModel" "thrown" "I", .constant RX6 101 (-1000001), .fieldLink RX6 85 "StageSwitchModel" "status" "I", .fieldLink RX6 7 "StageSwitchModel" "lane" "[I", .fieldLink RX6 13 "StageSwitchModel" "many" "[I", .methodLink RX6 95 yX6_isSheet, .static yX6_isSheet, .initialized RX6, .code yX6_isSheet cX6_isSheet 1 (some .boolean), .constantLong RX6 89 (7), .methodLink RX6 91 yX6_in, .static yX6_in, .code yX6_in cX6_in 6 (some .boolean), .methodLink RX6 102 yX6_found, .instanceMethod yX6_found, .selects RX6 yX6_found yX6_found, .code yX6_found cX6_found 2 (some .int), .constant RX6 88 (-1000010)] ++ wsX60)
def wsX6_isPlace : List Cond := .code yX6_isPlace cX6_isPlace 1 (some .boolean) :: ([.constantLong RX6 106 (5), .methodLink RX6 91 yX6_in, .static yX6_in, .initialized RX6, .code yX6_in cX6_in 6 (some .boolean)])
def wsX6_alive : List Cond := .code yX6_alive cX6_alive 4 (some .int) :: ([.fieldLink RX6 19 "StageSwitchModel" "middles" "[I", .fieldLink RX6 28 "StageSwitchModel" "isDead" "[Z"] ++ wsX60)
def wsX6_kindOf : List Cond := .code yX6_kindOf cX6_kindOf 3 (some .int) :: ([.fieldLink RX6 22 "StageSwitchModel" "lines" "[I", .methodLink RX6 108 yX6_alive, .instanceMethod yX6_alive, .selects RX6 yX6_alive yX6_alive, .initialized RX6, .code yX6_alive cX6_alive 4 (some .int), .fieldLink RX6 19 "StageSwitchModel" "middles" "[I", .fieldLink RX6 28 "StageSwitchModel" "isDead" "[Z"] ++ wsX60)
def wsX6_net_r1 : List Cond := [Cond.fieldLink RX6 81 "StageSwitchModel" "thrown" "I", Cond.constantLong RX6 114 (12), Cond.constantLong RX6 116 (6), Cond.constant RX6 101 (-1000001), Cond.fieldLink RX6 85 "StageSwitchModel" "status" "I", Cond.fieldLink RX6 19 "StageSwitchModel" "middles" "[I", Cond.fieldLink RX6 22 "StageSwitchModel" "lines" "[I", Cond.fieldLink RX6 25 "StageSwitchModel" "outer" "[I", Cond.fieldLink RX6 28 "StageSwitchModel" "isDead" "[Z", Cond.fieldLink RX6 32 "StageSwitchModel" "out" "[I", Cond.constant RX6 118 (-1000000), Cond.fieldLink RX6 35 "StageSwitchModel" "by" "[I", Cond.methodLink RX6 111 yX6_isPlace, Cond.static yX6_isPlace, Cond.initialized RX6, Cond.code yX6_isPlace cX6_isPlace 1 (some .boolean), Cond.constantLong RX6 106 (5), Cond.methodLink RX6 91 yX6_in, Cond.static yX6_in, Cond.code yX6_in cX6_in 6 (some .boolean), Cond.methodLink RX6 119 yX6_kindOf, Cond.instanceMethod yX6_kindOf, Cond.selects RX6 yX6_kindOf yX6_kindOf, Cond.code yX6_kindOf cX6_kindOf 3 (some .int)]
def wsX6_net_r2 : List Cond := [Cond.methodLink RX6 108 yX6_alive, Cond.instanceMethod yX6_alive, Cond.selects RX6 yX6_alive yX6_alive, Cond.code yX6_alive cX6_alive 4 (some .int)]
def wsX6_net : List Cond := .code yX6_net cX6_net 6 (some .int) :: ((wsX6_net_r1 ++ wsX6_net_r2) ++ wsX60)
def wsX6_clear : List Cond := .code yX6_clear cX6_clear 3 (some .int) :: ([.fieldLink RX6 81 "StageSwitchModel" "thrown" "I", .constant RX6 101 (-1000001), .fieldLink RX6 19 "StageSwitchModel" "middles" "[I", .methodLink RX6 111 yX6_isPlace, .static yX6_isPlace, .initialized RX6, .code yX6_isPlace cX6_isPlace 1 (some .boolean), .constantLong RX6 106 (5), .methodLink RX6 91 yX6_in, .static yX6_in, .code yX6_in cX6_in 6 (some .boolean)] ++ wsX60)
def wsX6_look : List Cond := .code yX6_look cX6_look 2 (some .int) :: ([.fieldLink RX6 85 "StageSwitchModel" "status" "I", .fieldLink RX6 19 "StageSwitchModel" "middles" "[I", .methodLink RX6 102 yX6_found, .instanceMethod yX6_found, .selects RX6 yX6_found yX6_found, .initialized RX6, .code yX6_found cX6_found 2 (some .int), .constant RX6 88 (-1000010)] ++ wsX60)
def wsX6_kind_r1 : List Cond := [Cond.fieldLink RX6 81 "StageSwitchModel" "thrown" "I", Cond.constant RX6 101 (-1000001), Cond.methodLink RX6 111 yX6_isPlace, Cond.static yX6_isPlace, Cond.initialized RX6, Cond.code yX6_isPlace cX6_isPlace 1 (some .boolean), Cond.constantLong RX6 106 (5), Cond.methodLink RX6 91 yX6_in, Cond.static yX6_in, Cond.code yX6_in cX6_in 6 (some .boolean), Cond.methodLink RX6 122 yX6_look, Cond.instanceMethod yX6_look, Cond.selects RX6 yX6_look yX6_look, Cond.code yX6_look cX6_look 2 (some .int), Cond.fieldLink RX6 85 "StageSwitchModel" "status" "I", Cond.fieldLink RX6 19 "StageSwitchModel" "middles" "[I", Cond.methodLink RX6 102 yX6_found, Cond.instanceMethod yX6_found, Cond.selects RX6 yX6_found yX6_found, Cond.code yX6_found cX6_found 2 (some .int), Cond.constant RX6 88 (-1000010), Cond.methodLink RX6 119 yX6_kindOf, Cond.instanceMethod yX6_kindOf, Cond.selects RX6 yX6_kindOf yX6_kindOf]
def wsX6_kind_r2 : List Cond := [Cond.code yX6_kindOf cX6_kindOf 3 (some .int), Cond.fieldLink RX6 22 "StageSwitchModel" "lines" "[I", Cond.methodLink RX6 108 yX6_alive, Cond.instanceMethod yX6_alive, Cond.selects RX6 yX6_alive yX6_alive, Cond.code yX6_alive cX6_alive 4 (some .int), Cond.fieldLink RX6 28 "StageSwitchModel" "isDead" "[Z"]
def wsX6_kind : List Cond := .code yX6_kind cX6_kind 3 (some .int) :: ((wsX6_kind_r1 ++ wsX6_kind_r2) ++ wsX60)
def wsX6_isOf : List Cond := .code yX6_isOf cX6_isOf 2 (some .boolean) :: ([])
def wsX6_is_r1 : List Cond := [Cond.fieldLink RX6 81 "StageSwitchModel" "thrown" "I", Cond.constantLong RX6 125 (3), Cond.constant RX6 101 (-1000001), Cond.fieldLink RX6 19 "StageSwitchModel" "middles" "[I", Cond.methodLink RX6 111 yX6_isPlace, Cond.static yX6_isPlace, Cond.initialized RX6, Cond.code yX6_isPlace cX6_isPlace 1 (some .boolean), Cond.constantLong RX6 106 (5), Cond.methodLink RX6 91 yX6_in, Cond.static yX6_in, Cond.code yX6_in cX6_in 6 (some .boolean), Cond.methodLink RX6 119 yX6_kindOf, Cond.instanceMethod yX6_kindOf, Cond.selects RX6 yX6_kindOf yX6_kindOf, Cond.code yX6_kindOf cX6_kindOf 3 (some .int), Cond.fieldLink RX6 22 "StageSwitchModel" "lines" "[I", Cond.methodLink RX6 108 yX6_alive, Cond.instanceMethod yX6_alive, Cond.selects RX6 yX6_alive yX6_alive, Cond.code yX6_alive cX6_alive 4 (some .int), Cond.fieldLink RX6 28 "StageSwitchModel" "isDead" "[Z", Cond.methodLink RX6 127 yX6_isOf, Cond.static yX6_isOf]
def wsX6_is_r2 : List Cond := [Cond.code yX6_isOf cX6_isOf 2 (some .boolean)]
def wsX6_is : List Cond := .code yX6_is cX6_is 3 (some .int) :: ((wsX6_is_r1 ++ wsX6_is_r2) ++ wsX60)
def wsX6_as_r1 : List Cond := [Cond.fieldLink RX6 81 "StageSwitchModel" "thrown" "I", Cond.constantLong RX6 125 (3), Cond.constant RX6 101 (-1000001), Cond.methodLink RX6 111 yX6_isPlace, Cond.static yX6_isPlace, Cond.initialized RX6, Cond.code yX6_isPlace cX6_isPlace 1 (some .boolean), Cond.constantLong RX6 106 (5), Cond.methodLink RX6 91 yX6_in, Cond.static yX6_in, Cond.code yX6_in cX6_in 6 (some .boolean), Cond.methodLink RX6 122 yX6_look, Cond.instanceMethod yX6_look, Cond.selects RX6 yX6_look yX6_look, Cond.code yX6_look cX6_look 2 (some .int), Cond.fieldLink RX6 85 "StageSwitchModel" "status" "I", Cond.fieldLink RX6 19 "StageSwitchModel" "middles" "[I", Cond.methodLink RX6 102 yX6_found, Cond.instanceMethod yX6_found, Cond.selects RX6 yX6_found yX6_found, Cond.code yX6_found cX6_found 2 (some .int), Cond.constant RX6 88 (-1000010), Cond.methodLink RX6 119 yX6_kindOf, Cond.instanceMethod yX6_kindOf]
def wsX6_as_r2 : List Cond := [Cond.selects RX6 yX6_kindOf yX6_kindOf, Cond.code yX6_kindOf cX6_kindOf 3 (some .int), Cond.fieldLink RX6 22 "StageSwitchModel" "lines" "[I", Cond.methodLink RX6 108 yX6_alive, Cond.instanceMethod yX6_alive, Cond.selects RX6 yX6_alive yX6_alive, Cond.code yX6_alive cX6_alive 4 (some .int), Cond.fieldLink RX6 28 "StageSwitchModel" "isDead" "[Z", Cond.methodLink RX6 127 yX6_isOf, Cond.static yX6_isOf, Cond.code yX6_isOf cX6_isOf 2 (some .boolean)]
def wsX6_as : List Cond := .code yX6_as cX6_as 4 (some .int) :: ((wsX6_as_r1 ++ wsX6_as_r2) ++ wsX60)
def wsX6_calls : List Cond := .code yX6_calls cX6_calls 4 (some .int) :: ([.fieldLink RX6 19 "StageSwitchModel" "middles" "[I", .fieldLink RX6 32 "StageSwitchModel" "out" "[I", .constant RX6 118 (-1000000)] ++ wsX60)
def wsX6_began : List Cond := .code yX6_began cX6_began 2 none :: ([.fieldLink RX6 131 "StageSwitchModel" "traced" "I", .fieldLink RX6 38 "StageSwitchModel" "trace" "[I"] ++ wsX60)
def wsX6_bareSize : List Cond := .code yX6_bareSize cX6_bareSize 2 (some .int) :: ([.fieldLink RX6 25 "StageSwitchModel" "outer" "[I", .fieldLink RX6 22 "StageSwitchModel" "lines" "[I", .methodLink RX6 134 yX6_began, .instanceMethod yX6_began, .selects RX6 yX6_began yX6_began, .initialized RX6, .code yX6_began cX6_began 2 none, .fieldLink RX6 131 "StageSwitchModel" "traced" "I", .fieldLink RX6 38 "StageSwitchModel" "trace" "[I"] ++ wsX60)
def wsX6_marked_r1 : List Cond := [Cond.methodLink RX6 119 yX6_kindOf, Cond.instanceMethod yX6_kindOf, Cond.selects RX6 yX6_kindOf yX6_kindOf, Cond.initialized RX6, Cond.code yX6_kindOf cX6_kindOf 3 (some .int), Cond.fieldLink RX6 22 "StageSwitchModel" "lines" "[I", Cond.methodLink RX6 108 yX6_alive, Cond.instanceMethod yX6_alive, Cond.selects RX6 yX6_alive yX6_alive, Cond.code yX6_alive cX6_alive 4 (some .int), Cond.fieldLink RX6 19 "StageSwitchModel" "middles" "[I", Cond.fieldLink RX6 28 "StageSwitchModel" "isDead" "[Z", Cond.methodLink RX6 134 yX6_began, Cond.instanceMethod yX6_began, Cond.selects RX6 yX6_began yX6_began, Cond.code yX6_began cX6_began 2 none, Cond.fieldLink RX6 131 "StageSwitchModel" "traced" "I", Cond.fieldLink RX6 38 "StageSwitchModel" "trace" "[I", Cond.methodLink RX6 127 yX6_isOf, Cond.static yX6_isOf, Cond.code yX6_isOf cX6_isOf 2 (some .boolean), Cond.methodLink RX6 138 yX6_calls, Cond.instanceMethod yX6_calls, Cond.selects RX6 yX6_calls yX6_calls]
def wsX6_marked_r2 : List Cond := [Cond.code yX6_calls cX6_calls 4 (some .int), Cond.fieldLink RX6 32 "StageSwitchModel" "out" "[I", Cond.constant RX6 118 (-1000000), Cond.methodLink RX6 141 yX6_bareSize, Cond.instanceMethod yX6_bareSize, Cond.selects RX6 yX6_bareSize yX6_bareSize, Cond.code yX6_bareSize cX6_bareSize 2 (some .int), Cond.fieldLink RX6 25 "StageSwitchModel" "outer" "[I"]
def wsX6_marked : List Cond := .code yX6_marked cX6_marked 4 (some .int) :: ((wsX6_marked_r1 ++ wsX6_marked_r2) ++ wsX60)
def wsX6_sized_r1 : List Cond := [Cond.fieldLink RX6 25 "StageSwitchModel" "outer" "[I", Cond.fieldLink RX6 22 "StageSwitchModel" "lines" "[I", Cond.methodLink RX6 119 yX6_kindOf, Cond.instanceMethod yX6_kindOf, Cond.selects RX6 yX6_kindOf yX6_kindOf, Cond.initialized RX6, Cond.code yX6_kindOf cX6_kindOf 3 (some .int), Cond.methodLink RX6 108 yX6_alive, Cond.instanceMethod yX6_alive, Cond.selects RX6 yX6_alive yX6_alive, Cond.code yX6_alive cX6_alive 4 (some .int), Cond.fieldLink RX6 19 "StageSwitchModel" "middles" "[I", Cond.fieldLink RX6 28 "StageSwitchModel" "isDead" "[Z", Cond.methodLink RX6 141 yX6_bareSize, Cond.instanceMethod yX6_bareSize, Cond.selects RX6 yX6_bareSize yX6_bareSize, Cond.code yX6_bareSize cX6_bareSize 2 (some .int), Cond.methodLink RX6 134 yX6_began, Cond.instanceMethod yX6_began, Cond.selects RX6 yX6_began yX6_began, Cond.code yX6_began cX6_began 2 none, Cond.fieldLink RX6 131 "StageSwitchModel" "traced" "I", Cond.fieldLink RX6 38 "StageSwitchModel" "trace" "[I", Cond.methodLink RX6 127 yX6_isOf]
def wsX6_sized_r2 : List Cond := [Cond.static yX6_isOf, Cond.code yX6_isOf cX6_isOf 2 (some .boolean), Cond.methodLink RX6 144 yX6_marked, Cond.instanceMethod yX6_marked, Cond.selects RX6 yX6_marked yX6_marked, Cond.code yX6_marked cX6_marked 4 (some .int), Cond.methodLink RX6 138 yX6_calls, Cond.instanceMethod yX6_calls, Cond.selects RX6 yX6_calls yX6_calls, Cond.code yX6_calls cX6_calls 4 (some .int), Cond.fieldLink RX6 32 "StageSwitchModel" "out" "[I", Cond.constant RX6 118 (-1000000)]
def wsX6_sized : List Cond := .code yX6_sized cX6_sized 4 (some .int) :: ((wsX6_sized_r1 ++ wsX6_sized_r2) ++ wsX60)
def wsX6_ask_r1 : List Cond := [Cond.fieldLink RX6 81 "StageSwitchModel" "thrown" "I", Cond.constant RX6 101 (-1000001), Cond.fieldLink RX6 131 "StageSwitchModel" "traced" "I", Cond.methodLink RX6 111 yX6_isPlace, Cond.static yX6_isPlace, Cond.initialized RX6, Cond.code yX6_isPlace cX6_isPlace 1 (some .boolean), Cond.constantLong RX6 106 (5), Cond.methodLink RX6 91 yX6_in, Cond.static yX6_in, Cond.code yX6_in cX6_in 6 (some .boolean), Cond.methodLink RX6 122 yX6_look, Cond.instanceMethod yX6_look, Cond.selects RX6 yX6_look yX6_look, Cond.code yX6_look cX6_look 2 (some .int), Cond.fieldLink RX6 85 "StageSwitchModel" "status" "I", Cond.fieldLink RX6 19 "StageSwitchModel" "middles" "[I", Cond.methodLink RX6 102 yX6_found, Cond.instanceMethod yX6_found, Cond.selects RX6 yX6_found yX6_found, Cond.code yX6_found cX6_found 2 (some .int), Cond.constant RX6 88 (-1000010), Cond.methodLink RX6 147 yX6_sized, Cond.instanceMethod yX6_sized]
def wsX6_ask_r2 : List Cond := [Cond.selects RX6 yX6_sized yX6_sized, Cond.code yX6_sized cX6_sized 4 (some .int), Cond.fieldLink RX6 25 "StageSwitchModel" "outer" "[I", Cond.fieldLink RX6 22 "StageSwitchModel" "lines" "[I", Cond.methodLink RX6 119 yX6_kindOf, Cond.instanceMethod yX6_kindOf, Cond.selects RX6 yX6_kindOf yX6_kindOf, Cond.code yX6_kindOf cX6_kindOf 3 (some .int), Cond.methodLink RX6 108 yX6_alive, Cond.instanceMethod yX6_alive, Cond.selects RX6 yX6_alive yX6_alive, Cond.code yX6_alive cX6_alive 4 (some .int), Cond.fieldLink RX6 28 "StageSwitchModel" "isDead" "[Z", Cond.methodLink RX6 141 yX6_bareSize, Cond.instanceMethod yX6_bareSize, Cond.selects RX6 yX6_bareSize yX6_bareSize, Cond.code yX6_bareSize cX6_bareSize 2 (some .int), Cond.methodLink RX6 134 yX6_began, Cond.instanceMethod yX6_began, Cond.selects RX6 yX6_began yX6_began, Cond.code yX6_began cX6_began 2 none, Cond.fieldLink RX6 38 "StageSwitchModel" "trace" "[I", Cond.methodLink RX6 127 yX6_isOf, Cond.static yX6_isOf]
def wsX6_ask_r3 : List Cond := [Cond.code yX6_isOf cX6_isOf 2 (some .boolean), Cond.methodLink RX6 144 yX6_marked, Cond.instanceMethod yX6_marked, Cond.selects RX6 yX6_marked yX6_marked, Cond.code yX6_marked cX6_marked 4 (some .int), Cond.methodLink RX6 138 yX6_calls, Cond.instanceMethod yX6_calls, Cond.selects RX6 yX6_calls yX6_calls, Cond.code yX6_calls cX6_calls 4 (some .int), Cond.fieldLink RX6 32 "StageSwitchModel" "out" "[I", Cond.constant RX6 118 (-1000000)]
def wsX6_ask : List Cond := .code yX6_ask cX6_ask 4 (some .int) :: ((wsX6_ask_r1 ++ (wsX6_ask_r2 ++ wsX6_ask_r3)) ++ wsX60)
def wsX6_trace : List Cond := .code yX6_trace cX6_trace 2 (some .int) :: ([.fieldLink RX6 81 "StageSwitchModel" "thrown" "I", .fieldLink RX6 131 "StageSwitchModel" "traced" "I", .fieldLink RX6 38 "StageSwitchModel" "trace" "[I", .constant RX6 118 (-1000000), .methodLink RX6 91 yX6_in, .static yX6_in, .initialized RX6, .code yX6_in cX6_in 6 (some .boolean)] ++ wsX60)
def wsX6_callFrom : List Cond := .code yX6_callFrom cX6_callFrom 6 (some .int) :: ([.constant RX6 118 (-1000000), .fieldLink RX6 22 "StageSwitchModel" "lines" "[I", .fieldLink RX6 32 "StageSwitchModel" "out" "[I", .fieldLink RX6 35 "StageSwitchModel" "by" "[I"] ++ wsX60)
def wsX6_callTo : List Cond := .code yX6_callTo cX6_callTo 7 (some .int) :: ([.constant RX6 118 (-1000000), .fieldLink RX6 25 "StageSwitchModel" "outer" "[I", .fieldLink RX6 22 "StageSwitchModel" "lines" "[I", .fieldLink RX6 32 "StageSwitchModel" "out" "[I", .fieldLink RX6 35 "StageSwitchModel" "by" "[I"] ++ wsX60)
def wsX6_isFree : List Cond := .code yX6_isFree cX6_isFree 5 (some .boolean) :: ([.fieldLink RX6 28 "StageSwitchModel" "isDead" "[Z", .constant RX6 118 (-1000000), .methodLink RX6 150 yX6_callFrom, .instanceMethod yX6_callFrom, .selects RX6 yX6_callFrom yX6_callFrom, .initialized RX6, .code yX6_callFrom cX6_callFrom 6 (some .int), .fieldLink RX6 22 "StageSwitchModel" "lines" "[I", .fieldLink RX6 32 "StageSwitchModel" "out" "[I", .fieldLink RX6 35 "StageSwitchModel" "by" "[I", .methodLink RX6 154 yX6_callTo, .instanceMethod yX6_callTo, .selects RX6 yX6_callTo yX6_callTo, .code yX6_callTo cX6_callTo 7 (some .int), .fieldLink RX6 25 "StageSwitchModel" "outer" "[I"] ++ wsX60)
def wsX6_findChain : List Cond := .code yX6_findChain cX6_findChain 7 none :: ([.fieldLink RX6 157 "StageSwitchModel" "chained" "I", .constant RX6 118 (-1000000), .fieldLink RX6 41 "StageSwitchModel" "chain" "[I", .fieldLink RX6 22 "StageSwitchModel" "lines" "[I", .fieldLink RX6 32 "StageSwitchModel" "out" "[I", .methodLink RX6 154 yX6_callTo, .instanceMethod yX6_callTo, .selects RX6 yX6_callTo yX6_callTo, .initialized RX6, .code yX6_callTo cX6_callTo 7 (some .int), .fieldLink RX6 25 "StageSwitchModel" "outer" "[I", .fieldLink RX6 35 "StageSwitchModel" "by" "[I", .methodLink RX6 150 yX6_callFrom, .instanceMethod yX6_callFrom, .selects RX6 yX6_callFrom yX6_callFrom, .code yX6_callFrom cX6_callFrom 6 (some .int)] ++ wsX60)
def wsX6_best_r1 : List Cond := [Cond.fieldLink RX6 19 "StageSwitchModel" "middles" "[I", Cond.fieldLink RX6 164 "StageSwitchModel" "bestX" "I", Cond.constant RX6 118 (-1000000), Cond.fieldLink RX6 167 "StageSwitchModel" "bestY" "I", Cond.fieldLink RX6 28 "StageSwitchModel" "isDead" "[Z", Cond.fieldLink RX6 157 "StageSwitchModel" "chained" "I", Cond.methodLink RX6 160 yX6_isFree, Cond.instanceMethod yX6_isFree, Cond.selects RX6 yX6_isFree yX6_isFree, Cond.initialized RX6, Cond.code yX6_isFree cX6_isFree 5 (some .boolean), Cond.methodLink RX6 150 yX6_callFrom, Cond.instanceMethod yX6_callFrom, Cond.selects RX6 yX6_callFrom yX6_callFrom, Cond.code yX6_callFrom cX6_callFrom 6 (some .int), Cond.fieldLink RX6 22 "StageSwitchModel" "lines" "[I", Cond.fieldLink RX6 32 "StageSwitchModel" "out" "[I", Cond.fieldLink RX6 35 "StageSwitchModel" "by" "[I", Cond.methodLink RX6 154 yX6_callTo, Cond.instanceMethod yX6_callTo, Cond.selects RX6 yX6_callTo yX6_callTo, Cond.code yX6_callTo cX6_callTo 7 (some .int), Cond.fieldLink RX6 25 "StageSwitchModel" "outer" "[I", Cond.methodLink RX6 170 yX6_findChain]
def wsX6_best_r2 : List Cond := [Cond.instanceMethod yX6_findChain, Cond.selects RX6 yX6_findChain yX6_findChain, Cond.code yX6_findChain cX6_findChain 7 none, Cond.fieldLink RX6 41 "StageSwitchModel" "chain" "[I"]
def wsX6_best : List Cond := .code yX6_best cX6_best 7 (some .int) :: ((wsX6_best_r1 ++ wsX6_best_r2) ++ wsX60)
def wsX6_setUp_r1 : List Cond := [Cond.fieldLink RX6 22 "StageSwitchModel" "lines" "[I", Cond.constant RX6 118 (-1000000), Cond.fieldLink RX6 164 "StageSwitchModel" "bestX" "I", Cond.fieldLink RX6 167 "StageSwitchModel" "bestY" "I", Cond.fieldLink RX6 157 "StageSwitchModel" "chained" "I", Cond.fieldLink RX6 35 "StageSwitchModel" "by" "[I", Cond.fieldLink RX6 41 "StageSwitchModel" "chain" "[I", Cond.fieldLink RX6 32 "StageSwitchModel" "out" "[I", Cond.methodLink RX6 174 yX6_best, Cond.instanceMethod yX6_best, Cond.selects RX6 yX6_best yX6_best, Cond.initialized RX6, Cond.code yX6_best cX6_best 7 (some .int), Cond.fieldLink RX6 19 "StageSwitchModel" "middles" "[I", Cond.fieldLink RX6 28 "StageSwitchModel" "isDead" "[Z", Cond.methodLink RX6 160 yX6_isFree, Cond.instanceMethod yX6_isFree, Cond.selects RX6 yX6_isFree yX6_isFree, Cond.code yX6_isFree cX6_isFree 5 (some .boolean), Cond.methodLink RX6 150 yX6_callFrom, Cond.instanceMethod yX6_callFrom, Cond.selects RX6 yX6_callFrom yX6_callFrom, Cond.code yX6_callFrom cX6_callFrom 6 (some .int), Cond.methodLink RX6 154 yX6_callTo]
def wsX6_setUp_r2 : List Cond := [Cond.instanceMethod yX6_callTo, Cond.selects RX6 yX6_callTo yX6_callTo, Cond.code yX6_callTo cX6_callTo 7 (some .int), Cond.fieldLink RX6 25 "StageSwitchModel" "outer" "[I", Cond.methodLink RX6 170 yX6_findChain, Cond.instanceMethod yX6_findChain, Cond.selects RX6 yX6_findChain yX6_findChain, Cond.code yX6_findChain cX6_findChain 7 none]
def wsX6_setUp : List Cond := .code yX6_setUp cX6_setUp 6 (some .int) :: ((wsX6_setUp_r1 ++ wsX6_setUp_r2) ++ wsX60)
def wsX6_isLine : List Cond := .code yX6_isLine cX6_isLine 3 (some .boolean) :: ([.fieldLink RX6 25 "StageSwitchModel" "outer" "[I", .fieldLink RX6 22 "StageSwitchModel" "lines" "[I", .methodLink RX6 91 yX6_in, .static yX6_in, .initialized RX6, .code yX6_in cX6_in 6 (some .boolean)] ++ wsX60)
def wsX6_isTaken : List Cond := .code yX6_isTaken cX6_isTaken 6 (some .boolean) :: ([.fieldLink RX6 32 "StageSwitchModel" "out" "[I", .constant RX6 118 (-1000000)] ++ wsX60)
def wsX6_call_r1 : List Cond := [Cond.fieldLink RX6 81 "StageSwitchModel" "thrown" "I", Cond.constant RX6 101 (-1000001), Cond.fieldLink RX6 85 "StageSwitchModel" "status" "I", Cond.constant RX6 184 (-1000002), Cond.fieldLink RX6 22 "StageSwitchModel" "lines" "[I", Cond.constant RX6 118 (-1000000), Cond.methodLink RX6 111 yX6_isPlace, Cond.static yX6_isPlace, Cond.initialized RX6, Cond.code yX6_isPlace cX6_isPlace 1 (some .boolean), Cond.constantLong RX6 106 (5), Cond.methodLink RX6 91 yX6_in, Cond.static yX6_in, Cond.code yX6_in cX6_in 6 (some .boolean), Cond.methodLink RX6 122 yX6_look, Cond.instanceMethod yX6_look, Cond.selects RX6 yX6_look yX6_look, Cond.code yX6_look cX6_look 2 (some .int), Cond.fieldLink RX6 19 "StageSwitchModel" "middles" "[I", Cond.methodLink RX6 102 yX6_found, Cond.instanceMethod yX6_found, Cond.selects RX6 yX6_found yX6_found, Cond.code yX6_found cX6_found 2 (some .int), Cond.constant RX6 88 (-1000010)]
def wsX6_call_r2 : List Cond := [Cond.methodLink RX6 177 yX6_isLine, Cond.instanceMethod yX6_isLine, Cond.selects RX6 yX6_isLine yX6_isLine, Cond.code yX6_isLine cX6_isLine 3 (some .boolean), Cond.fieldLink RX6 25 "StageSwitchModel" "outer" "[I", Cond.methodLink RX6 180 yX6_isTaken, Cond.instanceMethod yX6_isTaken, Cond.selects RX6 yX6_isTaken yX6_isTaken, Cond.code yX6_isTaken cX6_isTaken 6 (some .boolean), Cond.fieldLink RX6 32 "StageSwitchModel" "out" "[I", Cond.methodLink RX6 174 yX6_best, Cond.instanceMethod yX6_best, Cond.selects RX6 yX6_best yX6_best, Cond.code yX6_best cX6_best 7 (some .int), Cond.fieldLink RX6 164 "StageSwitchModel" "bestX" "I", Cond.fieldLink RX6 167 "StageSwitchModel" "bestY" "I", Cond.fieldLink RX6 28 "StageSwitchModel" "isDead" "[Z", Cond.fieldLink RX6 157 "StageSwitchModel" "chained" "I", Cond.methodLink RX6 160 yX6_isFree, Cond.instanceMethod yX6_isFree, Cond.selects RX6 yX6_isFree yX6_isFree, Cond.code yX6_isFree cX6_isFree 5 (some .boolean), Cond.methodLink RX6 150 yX6_callFrom, Cond.instanceMethod yX6_callFrom]
def wsX6_call_r3 : List Cond := [Cond.selects RX6 yX6_callFrom yX6_callFrom, Cond.code yX6_callFrom cX6_callFrom 6 (some .int), Cond.fieldLink RX6 35 "StageSwitchModel" "by" "[I", Cond.methodLink RX6 154 yX6_callTo, Cond.instanceMethod yX6_callTo, Cond.selects RX6 yX6_callTo yX6_callTo, Cond.code yX6_callTo cX6_callTo 7 (some .int), Cond.methodLink RX6 170 yX6_findChain, Cond.instanceMethod yX6_findChain, Cond.selects RX6 yX6_findChain yX6_findChain, Cond.code yX6_findChain cX6_findChain 7 none, Cond.fieldLink RX6 41 "StageSwitchModel" "chain" "[I", Cond.methodLink RX6 185 yX6_setUp, Cond.instanceMethod yX6_setUp, Cond.selects RX6 yX6_setUp yX6_setUp, Cond.code yX6_setUp cX6_setUp 6 (some .int)]
def wsX6_call : List Cond := .code yX6_call cX6_call 8 (some .int) :: ((wsX6_call_r1 ++ (wsX6_call_r2 ++ wsX6_call_r3)) ++ wsX60)
def wsX6_end_r1 : List Cond := [Cond.fieldLink RX6 81 "StageSwitchModel" "thrown" "I", Cond.constant RX6 101 (-1000001), Cond.fieldLink RX6 85 "StageSwitchModel" "status" "I", Cond.fieldLink RX6 32 "StageSwitchModel" "out" "[I", Cond.constant RX6 118 (-1000000), Cond.methodLink RX6 111 yX6_isPlace, Cond.static yX6_isPlace, Cond.initialized RX6, Cond.code yX6_isPlace cX6_isPlace 1 (some .boolean), Cond.constantLong RX6 106 (5), Cond.methodLink RX6 91 yX6_in, Cond.static yX6_in, Cond.code yX6_in cX6_in 6 (some .boolean), Cond.methodLink RX6 122 yX6_look, Cond.instanceMethod yX6_look, Cond.selects RX6 yX6_look yX6_look, Cond.code yX6_look cX6_look 2 (some .int), Cond.fieldLink RX6 19 "StageSwitchModel" "middles" "[I", Cond.methodLink RX6 102 yX6_found, Cond.instanceMethod yX6_found, Cond.selects RX6 yX6_found yX6_found, Cond.code yX6_found cX6_found 2 (some .int), Cond.constant RX6 88 (-1000010), Cond.methodLink RX6 177 yX6_isLine]
def wsX6_end_r2 : List Cond := [Cond.instanceMethod yX6_isLine, Cond.selects RX6 yX6_isLine yX6_isLine, Cond.code yX6_isLine cX6_isLine 3 (some .boolean), Cond.fieldLink RX6 25 "StageSwitchModel" "outer" "[I", Cond.fieldLink RX6 22 "StageSwitchModel" "lines" "[I"]
def wsX6_end : List Cond := .code yX6_end cX6_end 6 (some .int) :: ((wsX6_end_r1 ++ wsX6_end_r2) ++ wsX60)
def wsX6_line_r1 : List Cond := [Cond.fieldLink RX6 81 "StageSwitchModel" "thrown" "I", Cond.constant RX6 101 (-1000001), Cond.fieldLink RX6 85 "StageSwitchModel" "status" "I", Cond.fieldLink RX6 32 "StageSwitchModel" "out" "[I", Cond.constant RX6 118 (-1000000), Cond.fieldLink RX6 35 "StageSwitchModel" "by" "[I", Cond.methodLink RX6 111 yX6_isPlace, Cond.static yX6_isPlace, Cond.initialized RX6, Cond.code yX6_isPlace cX6_isPlace 1 (some .boolean), Cond.constantLong RX6 106 (5), Cond.methodLink RX6 91 yX6_in, Cond.static yX6_in, Cond.code yX6_in cX6_in 6 (some .boolean), Cond.methodLink RX6 122 yX6_look, Cond.instanceMethod yX6_look, Cond.selects RX6 yX6_look yX6_look, Cond.code yX6_look cX6_look 2 (some .int), Cond.fieldLink RX6 19 "StageSwitchModel" "middles" "[I", Cond.methodLink RX6 102 yX6_found, Cond.instanceMethod yX6_found, Cond.selects RX6 yX6_found yX6_found, Cond.code yX6_found cX6_found 2 (some .int), Cond.constant RX6 88 (-1000010)]
def wsX6_line_r2 : List Cond := [Cond.methodLink RX6 177 yX6_isLine, Cond.instanceMethod yX6_isLine, Cond.selects RX6 yX6_isLine yX6_isLine, Cond.code yX6_isLine cX6_isLine 3 (some .boolean), Cond.fieldLink RX6 25 "StageSwitchModel" "outer" "[I", Cond.fieldLink RX6 22 "StageSwitchModel" "lines" "[I"]
def wsX6_line : List Cond := .code yX6_line cX6_line 6 (some .int) :: ((wsX6_line_r1 ++ wsX6_line_r2) ++ wsX60)
def wsX6_free_r1 : List Cond := [Cond.fieldLink RX6 81 "StageSwitchModel" "thrown" "I", Cond.constant RX6 101 (-1000001), Cond.fieldLink RX6 85 "StageSwitchModel" "status" "I", Cond.constant RX6 184 (-1000002), Cond.fieldLink RX6 22 "StageSwitchModel" "lines" "[I", Cond.fieldLink RX6 19 "StageSwitchModel" "middles" "[I", Cond.methodLink RX6 111 yX6_isPlace, Cond.static yX6_isPlace, Cond.initialized RX6, Cond.code yX6_isPlace cX6_isPlace 1 (some .boolean), Cond.constantLong RX6 106 (5), Cond.methodLink RX6 91 yX6_in, Cond.static yX6_in, Cond.code yX6_in cX6_in 6 (some .boolean), Cond.methodLink RX6 122 yX6_look, Cond.instanceMethod yX6_look, Cond.selects RX6 yX6_look yX6_look, Cond.code yX6_look cX6_look 2 (some .int), Cond.methodLink RX6 102 yX6_found, Cond.instanceMethod yX6_found, Cond.selects RX6 yX6_found yX6_found, Cond.code yX6_found cX6_found 2 (some .int), Cond.constant RX6 88 (-1000010), Cond.methodLink RX6 177 yX6_isLine]
def wsX6_free_r2 : List Cond := [Cond.instanceMethod yX6_isLine, Cond.selects RX6 yX6_isLine yX6_isLine, Cond.code yX6_isLine cX6_isLine 3 (some .boolean), Cond.fieldLink RX6 25 "StageSwitchModel" "outer" "[I", Cond.methodLink RX6 180 yX6_isTaken, Cond.instanceMethod yX6_isTaken, Cond.selects RX6 yX6_isTaken yX6_isTaken, Cond.code yX6_isTaken cX6_isTaken 6 (some .boolean), Cond.fieldLink RX6 32 "StageSwitchModel" "out" "[I", Cond.constant RX6 118 (-1000000), Cond.methodLink RX6 160 yX6_isFree, Cond.instanceMethod yX6_isFree, Cond.selects RX6 yX6_isFree yX6_isFree, Cond.code yX6_isFree cX6_isFree 5 (some .boolean), Cond.fieldLink RX6 28 "StageSwitchModel" "isDead" "[Z", Cond.methodLink RX6 150 yX6_callFrom, Cond.instanceMethod yX6_callFrom, Cond.selects RX6 yX6_callFrom yX6_callFrom, Cond.code yX6_callFrom cX6_callFrom 6 (some .int), Cond.fieldLink RX6 35 "StageSwitchModel" "by" "[I", Cond.methodLink RX6 154 yX6_callTo, Cond.instanceMethod yX6_callTo, Cond.selects RX6 yX6_callTo yX6_callTo, Cond.code yX6_callTo cX6_callTo 7 (some .int)]
def wsX6_free_r3 : List Cond := [Cond.methodLink RX6 174 yX6_best, Cond.instanceMethod yX6_best, Cond.selects RX6 yX6_best yX6_best, Cond.code yX6_best cX6_best 7 (some .int), Cond.fieldLink RX6 164 "StageSwitchModel" "bestX" "I", Cond.fieldLink RX6 167 "StageSwitchModel" "bestY" "I", Cond.fieldLink RX6 157 "StageSwitchModel" "chained" "I", Cond.methodLink RX6 170 yX6_findChain, Cond.instanceMethod yX6_findChain, Cond.selects RX6 yX6_findChain yX6_findChain, Cond.code yX6_findChain cX6_findChain 7 none, Cond.fieldLink RX6 41 "StageSwitchModel" "chain" "[I"]
def wsX6_free : List Cond := .code yX6_free cX6_free 11 (some .int) :: ((wsX6_free_r1 ++ (wsX6_free_r2 ++ wsX6_free_r3)) ++ wsX60)
def wsX6_die_r1 : List Cond := [Cond.fieldLink RX6 81 "StageSwitchModel" "thrown" "I", Cond.constant RX6 101 (-1000001), Cond.fieldLink RX6 85 "StageSwitchModel" "status" "I", Cond.fieldLink RX6 19 "StageSwitchModel" "middles" "[I", Cond.fieldLink RX6 28 "StageSwitchModel" "isDead" "[Z", Cond.constant RX6 184 (-1000002), Cond.fieldLink RX6 44 "StageSwitchModel" "off" "[I", Cond.fieldLink RX6 32 "StageSwitchModel" "out" "[I", Cond.constant RX6 118 (-1000000), Cond.fieldLink RX6 35 "StageSwitchModel" "by" "[I", Cond.methodLink RX6 111 yX6_isPlace, Cond.static yX6_isPlace, Cond.initialized RX6, Cond.code yX6_isPlace cX6_isPlace 1 (some .boolean), Cond.constantLong RX6 106 (5), Cond.methodLink RX6 91 yX6_in, Cond.static yX6_in, Cond.code yX6_in cX6_in 6 (some .boolean), Cond.methodLink RX6 122 yX6_look, Cond.instanceMethod yX6_look, Cond.selects RX6 yX6_look yX6_look, Cond.code yX6_look cX6_look 2 (some .int), Cond.methodLink RX6 102 yX6_found, Cond.instanceMethod yX6_found]
def wsX6_die_r2 : List Cond := [Cond.selects RX6 yX6_found yX6_found, Cond.code yX6_found cX6_found 2 (some .int), Cond.constant RX6 88 (-1000010), Cond.methodLink RX6 185 yX6_setUp, Cond.instanceMethod yX6_setUp, Cond.selects RX6 yX6_setUp yX6_setUp, Cond.code yX6_setUp cX6_setUp 6 (some .int), Cond.fieldLink RX6 22 "StageSwitchModel" "lines" "[I", Cond.fieldLink RX6 164 "StageSwitchModel" "bestX" "I", Cond.fieldLink RX6 167 "StageSwitchModel" "bestY" "I", Cond.fieldLink RX6 157 "StageSwitchModel" "chained" "I", Cond.fieldLink RX6 41 "StageSwitchModel" "chain" "[I", Cond.methodLink RX6 174 yX6_best, Cond.instanceMethod yX6_best, Cond.selects RX6 yX6_best yX6_best, Cond.code yX6_best cX6_best 7 (some .int), Cond.methodLink RX6 160 yX6_isFree, Cond.instanceMethod yX6_isFree, Cond.selects RX6 yX6_isFree yX6_isFree, Cond.code yX6_isFree cX6_isFree 5 (some .boolean), Cond.methodLink RX6 150 yX6_callFrom, Cond.instanceMethod yX6_callFrom, Cond.selects RX6 yX6_callFrom yX6_callFrom, Cond.code yX6_callFrom cX6_callFrom 6 (some .int)]
def wsX6_die_r3 : List Cond := [Cond.methodLink RX6 154 yX6_callTo, Cond.instanceMethod yX6_callTo, Cond.selects RX6 yX6_callTo yX6_callTo, Cond.code yX6_callTo cX6_callTo 7 (some .int), Cond.fieldLink RX6 25 "StageSwitchModel" "outer" "[I", Cond.methodLink RX6 170 yX6_findChain, Cond.instanceMethod yX6_findChain, Cond.selects RX6 yX6_findChain yX6_findChain, Cond.code yX6_findChain cX6_findChain 7 none]
def wsX6_die : List Cond := .code yX6_die cX6_die 7 (some .int) :: ((wsX6_die_r1 ++ (wsX6_die_r2 ++ wsX6_die_r3)) ++ wsX60)
def wsX6_mend : List Cond := .code yX6_mend cX6_mend 6 (some .int) :: ([.fieldLink RX6 81 "StageSwitchModel" "thrown" "I", .constant RX6 101 (-1000001), .fieldLink RX6 85 "StageSwitchModel" "status" "I", .fieldLink RX6 19 "StageSwitchModel" "middles" "[I", .fieldLink RX6 28 "StageSwitchModel" "isDead" "[Z", .methodLink RX6 111 yX6_isPlace, .static yX6_isPlace, .initialized RX6, .code yX6_isPlace cX6_isPlace 1 (some .boolean), .constantLong RX6 106 (5), .methodLink RX6 91 yX6_in, .static yX6_in, .code yX6_in cX6_in 6 (some .boolean), .methodLink RX6 122 yX6_look, .instanceMethod yX6_look, .selects RX6 yX6_look yX6_look, .code yX6_look cX6_look 2 (some .int), .methodLink RX6 102 yX6_found, .instanceMethod yX6_found, .selects RX6 yX6_found yX6_found, .code yX6_found cX6_found 2 (some .int), .constant RX6 88 (-1000010)] ++ wsX60)
def wsX6_part : List Cond := .code yX6_part cX6_part 12 none :: ([.fieldLink RX6 47 "StageSwitchModel" "bits" "[I", .fieldLink RX6 50 "StageSwitchModel" "order" "[I", .fieldLink RX6 56 "StageSwitchModel" "half" "[I", .fieldLink RX6 53 "StageSwitchModel" "deeper" "[I"] ++ wsX60)
def wsX6_bit_r1 : List Cond := [Cond.fieldLink RX6 81 "StageSwitchModel" "thrown" "I", Cond.constantLong RX6 188 (4), Cond.constant RX6 101 (-1000001), Cond.fieldLink RX6 7 "StageSwitchModel" "lane" "[I", Cond.fieldLink RX6 13 "StageSwitchModel" "many" "[I", Cond.fieldLink RX6 16 "StageSwitchModel" "item" "[I", Cond.fieldLink RX6 50 "StageSwitchModel" "order" "[I", Cond.fieldLink RX6 85 "StageSwitchModel" "status" "I", Cond.fieldLink RX6 53 "StageSwitchModel" "deeper" "[I", Cond.fieldLink RX6 47 "StageSwitchModel" "bits" "[I", Cond.methodLink RX6 95 yX6_isSheet, Cond.static yX6_isSheet, Cond.initialized RX6, Cond.code yX6_isSheet cX6_isSheet 1 (some .boolean), Cond.constantLong RX6 89 (7), Cond.methodLink RX6 91 yX6_in, Cond.static yX6_in, Cond.code yX6_in cX6_in 6 (some .boolean), Cond.methodLink RX6 102 yX6_found, Cond.instanceMethod yX6_found, Cond.selects RX6 yX6_found yX6_found, Cond.code yX6_found cX6_found 2 (some .int), Cond.constant RX6 88 (-1000010), Cond.methodLink RX6 190 yX6_part]
def wsX6_bit_r2 : List Cond := [Cond.instanceMethod yX6_part, Cond.selects RX6 yX6_part yX6_part, Cond.code yX6_part cX6_part 12 none, Cond.fieldLink RX6 56 "StageSwitchModel" "half" "[I"]
def wsX6_bit : List Cond := .code yX6_bit cX6_bit 10 (some .int) :: ((wsX6_bit_r1 ++ wsX6_bit_r2) ++ wsX60)
def wsX6_goes : List Cond := .code yX6_goes cX6_goes 12 (some .int) :: ([.fieldLink RX6 81 "StageSwitchModel" "thrown" "I", .constantLong RX6 188 (4), .constant RX6 101 (-1000001), .fieldLink RX6 85 "StageSwitchModel" "status" "I", .fieldLink RX6 7 "StageSwitchModel" "lane" "[I", .fieldLink RX6 13 "StageSwitchModel" "many" "[I", .fieldLink RX6 16 "StageSwitchModel" "item" "[I", .fieldLink RX6 59 "StageSwitchModel" "wentBlock" "[I", .fieldLink RX6 62 "StageSwitchModel" "wentHalf" "[I", .methodLink RX6 95 yX6_isSheet, .static yX6_isSheet, .initialized RX6, .code yX6_isSheet cX6_isSheet 1 (some .boolean), .constantLong RX6 89 (7), .methodLink RX6 91 yX6_in, .static yX6_in, .code yX6_in cX6_in 6 (some .boolean), .methodLink RX6 102 yX6_found, .instanceMethod yX6_found, .selects RX6 yX6_found yX6_found, .code yX6_found cX6_found 2 (some .int), .constant RX6 88 (-1000010)] ++ wsX60)
def wsX6_next : List Cond := .code yX6_next cX6_next 7 (some .boolean) :: ([.fieldLink RX6 74 "StageSwitchModel" "row" "[I"] ++ wsX60)
def wsX6_leastBy : List Cond := .code yX6_leastBy cX6_leastBy 4 (some .int) :: ([.constant RX6 194 (1000000), .fieldLink RX6 65 "StageSwitchModel" "left" "[I", .fieldLink RX6 74 "StageSwitchModel" "row" "[I"] ++ wsX60)
def wsX6_findParts : List Cond := .code yX6_findParts cX6_findParts 7 none :: ([.fieldLink RX6 195 "StageSwitchModel" "parts" "I", .fieldLink RX6 74 "StageSwitchModel" "row" "[I", .fieldLink RX6 68 "StageSwitchModel" "partOrder" "[I", .fieldLink RX6 65 "StageSwitchModel" "left" "[I", .fieldLink RX6 71 "StageSwitchModel" "often" "[I", .methodLink RX6 198 yX6_leastBy, .instanceMethod yX6_leastBy, .selects RX6 yX6_leastBy yX6_leastBy, .initialized RX6, .code yX6_leastBy cX6_leastBy 4 (some .int), .constant RX6 194 (1000000), .methodLink RX6 201 yX6_next, .instanceMethod yX6_next, .selects RX6 yX6_next yX6_next, .code yX6_next cX6_next 7 (some .boolean)] ++ wsX60)
def wsX6_demand_r1 : List Cond := [Cond.fieldLink RX6 81 "StageSwitchModel" "thrown" "I", Cond.constantLong RX6 116 (6), Cond.constantLong RX6 204 (-1), Cond.constant RX6 101 (-1000001), Cond.fieldLink RX6 7 "StageSwitchModel" "lane" "[I", Cond.fieldLink RX6 13 "StageSwitchModel" "many" "[I", Cond.fieldLink RX6 16 "StageSwitchModel" "item" "[I", Cond.constantLong RX6 206 (1000), Cond.fieldLink RX6 65 "StageSwitchModel" "left" "[I", Cond.fieldLink RX6 85 "StageSwitchModel" "status" "I", Cond.constant RX6 118 (-1000000), Cond.fieldLink RX6 195 "StageSwitchModel" "parts" "I", Cond.fieldLink RX6 71 "StageSwitchModel" "often" "[I", Cond.fieldLink RX6 68 "StageSwitchModel" "partOrder" "[I", Cond.methodLink RX6 95 yX6_isSheet, Cond.static yX6_isSheet, Cond.initialized RX6, Cond.code yX6_isSheet cX6_isSheet 1 (some .boolean), Cond.constantLong RX6 89 (7), Cond.methodLink RX6 91 yX6_in, Cond.static yX6_in, Cond.code yX6_in cX6_in 6 (some .boolean), Cond.methodLink RX6 102 yX6_found, Cond.instanceMethod yX6_found]
def wsX6_demand_r2 : List Cond := [Cond.selects RX6 yX6_found yX6_found, Cond.code yX6_found cX6_found 2 (some .int), Cond.constant RX6 88 (-1000010), Cond.methodLink RX6 208 yX6_findParts, Cond.instanceMethod yX6_findParts, Cond.selects RX6 yX6_findParts yX6_findParts, Cond.code yX6_findParts cX6_findParts 7 none, Cond.fieldLink RX6 74 "StageSwitchModel" "row" "[I", Cond.methodLink RX6 198 yX6_leastBy, Cond.instanceMethod yX6_leastBy, Cond.selects RX6 yX6_leastBy yX6_leastBy, Cond.code yX6_leastBy cX6_leastBy 4 (some .int), Cond.constant RX6 194 (1000000), Cond.methodLink RX6 201 yX6_next, Cond.instanceMethod yX6_next, Cond.selects RX6 yX6_next yX6_next, Cond.code yX6_next cX6_next 7 (some .boolean)]
def wsX6_demand : List Cond := .code yX6_demand cX6_demand 14 (some .int) :: ((wsX6_demand_r1 ++ wsX6_demand_r2) ++ wsX60)
def wsX6_cross : List Cond := .code yX6_cross cX6_cross 12 (some .int) :: ([.fieldLink RX6 81 "StageSwitchModel" "thrown" "I", .constantLong RX6 212 (64), .constantLong RX6 99 (2), .constant RX6 101 (-1000001), .fieldLink RX6 77 "StageSwitchModel" "costs" "[J", .methodLink RX6 91 yX6_in, .static yX6_in, .initialized RX6, .code yX6_in cX6_in 6 (some .boolean)] ++ wsX60)
def wsX6_shut : List Cond := .code yX6_shut cX6_shut 6 (some .long) :: ([.fieldLink RX6 81 "StageSwitchModel" "thrown" "I", .constantLong RX6 214 (9), .constantLong RX6 216 (10), .constantLong RX6 218 (-1000001), .methodLink RX6 91 yX6_in, .static yX6_in, .initialized RX6, .code yX6_in cX6_in 6 (some .boolean)] ++ wsX60)
def wsX6_count : List Cond := .code yX6_count cX6_count 4 (some .int) :: ([.fieldLink RX6 81 "StageSwitchModel" "thrown" "I", .fieldLink RX6 7 "StageSwitchModel" "lane" "[I", .fieldLink RX6 19 "StageSwitchModel" "middles" "[I", .constant RX6 101 (-1000001), .methodLink RX6 119 yX6_kindOf, .instanceMethod yX6_kindOf, .selects RX6 yX6_kindOf yX6_kindOf, .initialized RX6, .code yX6_kindOf cX6_kindOf 3 (some .int), .fieldLink RX6 22 "StageSwitchModel" "lines" "[I", .methodLink RX6 108 yX6_alive, .instanceMethod yX6_alive, .selects RX6 yX6_alive yX6_alive, .code yX6_alive cX6_alive 4 (some .int), .fieldLink RX6 28 "StageSwitchModel" "isDead" "[Z", .methodLink RX6 127 yX6_isOf, .static yX6_isOf, .code yX6_isOf cX6_isOf 2 (some .boolean), .methodLink RX6 138 yX6_calls, .instanceMethod yX6_calls, .selects RX6 yX6_calls yX6_calls, .code yX6_calls cX6_calls 4 (some .int), .fieldLink RX6 32 "StageSwitchModel" "out" "[I", .constant RX6 118 (-1000000)] ++ wsX60)
def wsX6_status : List Cond := .code yX6_status cX6_status 1 (some .int) :: ([.fieldLink RX6 81 "StageSwitchModel" "thrown" "I", .fieldLink RX6 85 "StageSwitchModel" "status" "I"] ++ wsX60)
def wsJ9_min_7cf53 : List Cond := .code yJ9_min_7cf53 cJ9_min_7cf53 2 (some .int) :: ([])
abbrev vwCl : List vw_C := [(RX0, TX0, 2), (RX1, TX1, 17), (RX2, TX2, 4), (RX3, TX3, 4), (RX4, TX4, 2), (RX5, TX5, 6), (RX6, TX6, 30)]
end
section
theorem dX0_init_0 : decode cX0_init 0 = .ok (.aload_n 0, 1) := by decide +kernel
theorem dX0_init_1 : decode cX0_init 1 = .ok (.invokespecial 3, 3) := by decide +kernel
theorem dX0_init_4 : decode cX0_init 4 = .ok (.aload_n 0, 1) := by decide +kernel
theorem dX0_init_5 : decode cX0_init 5 = .ok (.bipush 16, 2) := by decide +kernel
theorem dX0_init_7 : decode cX0_init 7 = .ok (.newarray .int, 2) := by decide +kernel
theorem dX0_init_9 : decode cX0_init 9 = .ok (.putfield 9, 3) := by decide +kernel
theorem dX0_init_12 : decode cX0_init 12 = .ok (.return_, 1) := by decide +kernel
theorem dX0_emptyTrace_0 : decode cX0_emptyTrace 0 = .ok (.aload_n 0, 1) := by decide +kernel
theorem dX0_emptyTrace_1 : decode cX0_emptyTrace 1 = .ok (.iconst 0, 1) := by decide +kernel
theorem dX0_emptyTrace_2 : decode cX0_emptyTrace 2 = .ok (.putfield 15, 3) := by decide +kernel
theorem dX0_emptyTrace_5 : decode cX0_emptyTrace 5 = .ok (.return_, 1) := by decide +kernel
set_option maxRecDepth 20000 in
theorem ggX0_traced_X5_within : GoodIn wsX0_traced wsX5_within := goodIn_r _ [6] (by decide +kernel) (by decide +kernel)
set_option maxRecDepth 20000 in
theorem gX0_traced_X5_within_n19 : GoodIn wsX0_traced (wsX5_within) := ggX0_traced_X5_within
theorem dX0_traced_0 : decode cX0_traced 0 = .ok (.iload_n 1, 1) := by decide +kernel
theorem dX0_traced_1 : decode cX0_traced 1 = .ok (.iconst 0, 1) := by decide +kernel
theorem dX0_traced_2 : decode cX0_traced 2 = .ok (.aload_n 0, 1) := by decide +kernel
theorem dX0_traced_3 : decode cX0_traced 3 = .ok (.getfield 15, 3) := by decide +kernel
theorem dX0_traced_6 : decode cX0_traced 6 = .ok (.iconst 1, 1) := by decide +kernel
theorem dX0_traced_7 : decode cX0_traced 7 = .ok (.isub, 1) := by decide +kernel
theorem dX0_traced_8 : decode cX0_traced 8 = .ok (.invokestatic 19, 3) := by decide +kernel
theorem dX0_traced_11 : decode cX0_traced 11 = .ok (.ifCond .eq 12, 3) := by decide +kernel
theorem dX0_traced_14 : decode cX0_traced 14 = .ok (.aload_n 0, 1) := by decide +kernel
theorem dX0_traced_15 : decode cX0_traced 15 = .ok (.getfield 9, 3) := by decide +kernel
theorem dX0_traced_18 : decode cX0_traced 18 = .ok (.iload_n 1, 1) := by decide +kernel
theorem dX0_traced_19 : decode cX0_traced 19 = .ok (.iaload, 1) := by decide +kernel
theorem dX0_traced_20 : decode cX0_traced 20 = .ok (.goto 5, 3) := by decide +kernel
theorem dX0_traced_23 : decode cX0_traced 23 = .ok (.ldc 23, 2) := by decide +kernel
theorem dX0_traced_25 : decode cX0_traced 25 = .ok (.ireturn, 1) := by decide +kernel
set_option maxRecDepth 20000 in
theorem ggX0_sizeOf_X1_toldKind : GoodIn wsX0_sizeOf wsX1_toldKind := goodIn_r _ [5, 6, 7, 42, 43, 44, 45, 46, 47, 48, 49, 50, 51, 52, 53, 54, 55, 56, 57, 58] (by decide +kernel) (by decide +kernel)
set_option maxRecDepth 20000 in
theorem gX0_sizeOf_X1_toldKind : GoodIn wsX0_sizeOf (wsV RX0 24 RX1 yX1_toldKind wsX1_toldKind) := goodIn_app (goodIn_of _ (by decide +kernel)) ggX0_sizeOf_X1_toldKind
set_option maxRecDepth 20000 in
theorem ggX0_sizeOf_X0_sizeOfLoose : GoodIn wsX0_sizeOf wsX0_sizeOfLoose := goodIn_r _ [12, 13, 14, 15, 16, 11, 17, 18, 19, 20, 21, 22, 23, 24, 42, 43, 44, 45, 46, 47, 48, 49, 50, 51, 52, 53, 54, 55, 56, 57, 58, 59, 60] (by decide +kernel) (by decide +kernel)
set_option maxRecDepth 20000 in
theorem gX0_sizeOf_X0_sizeOfLoose : GoodIn wsX0_sizeOf (wsV RX0 30 RX0 yX0_sizeOfLoose wsX0_sizeOfLoose) := goodIn_app (goodIn_of _ (by decide +kernel)) ggX0_sizeOf_X0_sizeOfLoose
set_option maxRecDepth 20000 in
theorem ggX0_sizeOf_X0_sizeOfStrict : GoodIn wsX0_sizeOf wsX0_sizeOfStrict := goodIn_r _ [28, 14, 15, 16, 11, 17, 18, 19, 8, 9, 10, 12, 13, 20, 21, 22, 23, 24, 29, 30, 31, 32, 33, 34, 35, 36, 37, 59, 60, 42, 43, 44, 45, 46, 47, 48, 49, 50, 51, 52, 53, 54, 55, 56, 57, 58] (by decide +kernel) (by decide +kernel)
set_option maxRecDepth 20000 in
theorem gX0_sizeOf_X0_sizeOfStrict : GoodIn wsX0_sizeOf (wsV RX0 34 RX0 yX0_sizeOfStrict wsX0_sizeOfStrict) := goodIn_app (goodIn_of _ (by decide +kernel)) ggX0_sizeOf_X0_sizeOfStrict
set_option maxRecDepth 20000 in
theorem ggX0_sizeOf_X0_sizeOfBare : GoodIn wsX0_sizeOf wsX0_sizeOfBare := goodIn_r _ [41, 14, 15, 16, 11, 17, 18, 19, 20, 21, 22, 23, 24, 59, 60, 42, 43, 44, 45, 46, 47, 48, 49, 50, 51, 52, 53, 54, 55, 56, 57, 58] (by decide +kernel) (by decide +kernel)
set_option maxRecDepth 20000 in
theorem gX0_sizeOf_X0_sizeOfBare : GoodIn wsX0_sizeOf (wsV RX0 37 RX0 yX0_sizeOfBare wsX0_sizeOfBare) := goodIn_app (goodIn_of _ (by decide +kernel)) ggX0_sizeOf_X0_sizeOfBare
set_option maxRecDepth 20000 in
theorem ggX0_sizeOf_X0_sizeOfNet : GoodIn wsX0_sizeOf wsX0_sizeOfNet := goodIn_r _ [23, 24, 14, 15, 16, 11, 17, 18, 19, 42, 43, 44, 45, 46, 47, 48, 49, 50, 51, 52, 53, 54, 55, 56, 57, 58, 59, 60] (by decide +kernel) (by decide +kernel)
set_option maxRecDepth 20000 in
theorem gX0_sizeOf_X0_sizeOfNet : GoodIn wsX0_sizeOf (wsV RX0 40 RX0 yX0_sizeOfNet wsX0_sizeOfNet) := goodIn_app (goodIn_of _ (by decide +kernel)) ggX0_sizeOf_X0_sizeOfNet
theorem dX0_sizeOf_0 : decode cX0_sizeOf 0 = .ok (.aload_n 1, 1) := by decide +kernel
theorem dX0_sizeOf_1 : decode cX0_sizeOf 1 = .ok (.invokevirtual 24, 3) := by decide +kernel
theorem dX0_sizeOf_4 : decode cX0_sizeOf 4 = .ok (.tableswitch 46 1 3 #[28, 34, 40], 28) := by decide +kernel
theorem dX0_sizeOf_32 : decode cX0_sizeOf 32 = .ok (.aload_n 0, 1) := by decide +kernel
theorem dX0_sizeOf_33 : decode cX0_sizeOf 33 = .ok (.aload_n 1, 1) := by decide +kernel
theorem dX0_sizeOf_34 : decode cX0_sizeOf 34 = .ok (.invokevirtual 30, 3) := by decide +kernel
theorem dX0_sizeOf_37 : decode cX0_sizeOf 37 = .ok (.ireturn, 1) := by decide +kernel
theorem dX0_sizeOf_38 : decode cX0_sizeOf 38 = .ok (.aload_n 0, 1) := by decide +kernel
theorem dX0_sizeOf_39 : decode cX0_sizeOf 39 = .ok (.aload_n 1, 1) := by decide +kernel
theorem dX0_sizeOf_40 : decode cX0_sizeOf 40 = .ok (.invokevirtual 34, 3) := by decide +kernel
theorem dX0_sizeOf_43 : decode cX0_sizeOf 43 = .ok (.ireturn, 1) := by decide +kernel
theorem dX0_sizeOf_44 : decode cX0_sizeOf 44 = .ok (.aload_n 0, 1) := by decide +kernel
theorem dX0_sizeOf_45 : decode cX0_sizeOf 45 = .ok (.aload_n 1, 1) := by decide +kernel
theorem dX0_sizeOf_46 : decode cX0_sizeOf 46 = .ok (.invokevirtual 37, 3) := by decide +kernel
theorem dX0_sizeOf_49 : decode cX0_sizeOf 49 = .ok (.ireturn, 1) := by decide +kernel
theorem dX0_sizeOf_50 : decode cX0_sizeOf 50 = .ok (.aload_n 0, 1) := by decide +kernel
theorem dX0_sizeOf_51 : decode cX0_sizeOf 51 = .ok (.aload_n 1, 1) := by decide +kernel
theorem dX0_sizeOf_52 : decode cX0_sizeOf 52 = .ok (.invokevirtual 40, 3) := by decide +kernel
theorem dX0_sizeOf_55 : decode cX0_sizeOf 55 = .ok (.ireturn, 1) := by decide +kernel
set_option maxRecDepth 20000 in
theorem ggX0_markOf_X1_toldKind : GoodIn wsX0_markOf wsX1_toldKind := goodIn_r _ [5, 6, 7, 37, 38, 39, 40, 41, 42, 43, 44, 45, 46, 47, 48, 49, 50, 51, 52, 53] (by decide +kernel) (by decide +kernel)
set_option maxRecDepth 20000 in
theorem gX0_markOf_X1_toldKind : GoodIn wsX0_markOf (wsV RX0 24 RX1 yX1_toldKind wsX1_toldKind) := goodIn_app (goodIn_of _ (by decide +kernel)) ggX0_markOf_X1_toldKind
set_option maxRecDepth 20000 in
theorem ggX0_markOf_X0_markOfLoose : GoodIn wsX0_markOf wsX0_markOfLoose := goodIn_r _ [12, 13, 14, 15, 11, 16, 17, 18, 19, 20, 21, 22, 23, 54, 55, 37, 38, 39, 40, 41, 42, 43, 44, 45, 46, 47, 48, 49, 50, 51, 52, 53] (by decide +kernel) (by decide +kernel)
set_option maxRecDepth 20000 in
theorem gX0_markOf_X0_markOfLoose : GoodIn wsX0_markOf (wsV RX0 43 RX0 yX0_markOfLoose wsX0_markOfLoose) := goodIn_app (goodIn_of _ (by decide +kernel)) ggX0_markOf_X0_markOfLoose
set_option maxRecDepth 20000 in
theorem ggX0_markOf_X0_markOfBare : GoodIn wsX0_markOf wsX0_markOfBare := goodIn_r _ [27, 13, 14, 15, 11, 16, 17, 18, 19, 20, 21, 22, 23, 28, 29, 30, 31, 32, 33, 34, 35, 36, 54, 55, 37, 38, 39, 40, 41, 42, 43, 44, 45, 46, 47, 48, 49, 50, 51, 52, 53] (by decide +kernel) (by decide +kernel)
set_option maxRecDepth 20000 in
theorem gX0_markOf_X0_markOfBare : GoodIn wsX0_markOf (wsV RX0 46 RX0 yX0_markOfBare wsX0_markOfBare) := goodIn_app (goodIn_of _ (by decide +kernel)) ggX0_markOf_X0_markOfBare
set_option maxRecDepth 20000 in
theorem ggX0_markOf_X0_markOfNet : GoodIn wsX0_markOf wsX0_markOfNet := goodIn_r _ [22, 23, 13, 14, 15, 11, 16, 17, 18, 37, 38, 39, 40, 41, 42, 43, 44, 45, 46, 47, 48, 49, 50, 51, 52, 53, 54, 55] (by decide +kernel) (by decide +kernel)
set_option maxRecDepth 20000 in
theorem gX0_markOf_X0_markOfNet : GoodIn wsX0_markOf (wsV RX0 49 RX0 yX0_markOfNet wsX0_markOfNet) := goodIn_app (goodIn_of _ (by decide +kernel)) ggX0_markOf_X0_markOfNet
theorem dX0_markOf_0 : decode cX0_markOf 0 = .ok (.aload_n 1, 1) := by decide +kernel
theorem dX0_markOf_1 : decode cX0_markOf 1 = .ok (.invokevirtual 24, 3) := by decide +kernel
theorem dX0_markOf_4 : decode cX0_markOf 4 = .ok (.tableswitch 40 1 3 #[28, 28, 34], 28) := by decide +kernel
theorem dX0_markOf_32 : decode cX0_markOf 32 = .ok (.aload_n 0, 1) := by decide +kernel
theorem dX0_markOf_33 : decode cX0_markOf 33 = .ok (.aload_n 1, 1) := by decide +kernel
theorem dX0_markOf_34 : decode cX0_markOf 34 = .ok (.invokevirtual 43, 3) := by decide +kernel
theorem dX0_markOf_37 : decode cX0_markOf 37 = .ok (.ireturn, 1) := by decide +kernel
theorem dX0_markOf_38 : decode cX0_markOf 38 = .ok (.aload_n 0, 1) := by decide +kernel
theorem dX0_markOf_39 : decode cX0_markOf 39 = .ok (.aload_n 1, 1) := by decide +kernel
theorem dX0_markOf_40 : decode cX0_markOf 40 = .ok (.invokevirtual 46, 3) := by decide +kernel
theorem dX0_markOf_43 : decode cX0_markOf 43 = .ok (.ireturn, 1) := by decide +kernel
theorem dX0_markOf_44 : decode cX0_markOf 44 = .ok (.aload_n 0, 1) := by decide +kernel
theorem dX0_markOf_45 : decode cX0_markOf 45 = .ok (.aload_n 1, 1) := by decide +kernel
theorem dX0_markOf_46 : decode cX0_markOf 46 = .ok (.invokevirtual 49, 3) := by decide +kernel
theorem dX0_markOf_49 : decode cX0_markOf 49 = .ok (.ireturn, 1) := by decide +kernel
set_option maxRecDepth 20000 in
theorem ggX0_sizeOfNet_X0_begin : GoodIn wsX0_sizeOfNet wsX0_begin := goodIn_r _ [6, 7, 8, 26, 27] (by decide +kernel) (by decide +kernel)
set_option maxRecDepth 20000 in
theorem gX0_sizeOfNet_X0_begin : GoodIn wsX0_sizeOfNet (wsV RX0 52 RX0 yX0_begin wsX0_begin) := goodIn_app (goodIn_of _ (by decide +kernel)) ggX0_sizeOfNet_X0_begin
theorem dX0_sizeOfNet_0 : decode cX0_sizeOfNet 0 = .ok (.aload_n 0, 1) := by decide +kernel
theorem dX0_sizeOfNet_1 : decode cX0_sizeOfNet 1 = .ok (.bipush 10, 2) := by decide +kernel
theorem dX0_sizeOfNet_3 : decode cX0_sizeOfNet 3 = .ok (.invokevirtual 52, 3) := by decide +kernel
theorem dX0_sizeOfNet_6 : decode cX0_sizeOfNet 6 = .ok (.aload_n 1, 1) := by decide +kernel
theorem dX0_sizeOfNet_7 : decode cX0_sizeOfNet 7 = .ok (.getfield 56, 3) := by decide +kernel
theorem dX0_sizeOfNet_10 : decode cX0_sizeOfNet 10 = .ok (.ireturn, 1) := by decide +kernel
set_option maxRecDepth 20000 in
theorem ggX0_sizeOfLoose_X0_begin : GoodIn wsX0_sizeOfLoose wsX0_begin := goodIn_r _ [6, 7, 8, 31, 32] (by decide +kernel) (by decide +kernel)
set_option maxRecDepth 20000 in
theorem gX0_sizeOfLoose_X0_begin : GoodIn wsX0_sizeOfLoose (wsV RX0 52 RX0 yX0_begin wsX0_begin) := goodIn_app (goodIn_of _ (by decide +kernel)) ggX0_sizeOfLoose_X0_begin
set_option maxRecDepth 20000 in
theorem ggX0_sizeOfLoose_X0_sizeOfNet : GoodIn wsX0_sizeOfLoose wsX0_sizeOfNet := goodIn_r _ [12, 13, 2, 3, 4, 5, 6, 7, 8, 14, 15, 16, 17, 18, 19, 20, 21, 22, 23, 24, 25, 26, 27, 28, 29, 30, 31, 32] (by decide +kernel) (by decide +kernel)
set_option maxRecDepth 20000 in
theorem gX0_sizeOfLoose_X0_sizeOfNet : GoodIn wsX0_sizeOfLoose (wsV RX0 40 RX0 yX0_sizeOfNet wsX0_sizeOfNet) := goodIn_app (goodIn_of _ (by decide +kernel)) ggX0_sizeOfLoose_X0_sizeOfNet
theorem dX0_sizeOfLoose_0 : decode cX0_sizeOfLoose 0 = .ok (.aload_n 0, 1) := by decide +kernel
theorem dX0_sizeOfLoose_1 : decode cX0_sizeOfLoose 1 = .ok (.bipush 11, 2) := by decide +kernel
theorem dX0_sizeOfLoose_3 : decode cX0_sizeOfLoose 3 = .ok (.invokevirtual 52, 3) := by decide +kernel
theorem dX0_sizeOfLoose_6 : decode cX0_sizeOfLoose 6 = .ok (.aload_n 0, 1) := by decide +kernel
theorem dX0_sizeOfLoose_7 : decode cX0_sizeOfLoose 7 = .ok (.aload_n 1, 1) := by decide +kernel
theorem dX0_sizeOfLoose_8 : decode cX0_sizeOfLoose 8 = .ok (.invokevirtual 40, 3) := by decide +kernel
theorem dX0_sizeOfLoose_11 : decode cX0_sizeOfLoose 11 = .ok (.aload_n 1, 1) := by decide +kernel
theorem dX0_sizeOfLoose_12 : decode cX0_sizeOfLoose 12 = .ok (.getfield 59, 3) := by decide +kernel
theorem dX0_sizeOfLoose_15 : decode cX0_sizeOfLoose 15 = .ok (.iadd, 1) := by decide +kernel
theorem dX0_sizeOfLoose_16 : decode cX0_sizeOfLoose 16 = .ok (.ireturn, 1) := by decide +kernel
set_option maxRecDepth 20000 in
theorem ggX0_sizeOfStrict_X0_begin : GoodIn wsX0_sizeOfStrict wsX0_begin := goodIn_r _ [5, 6, 7, 27, 28] (by decide +kernel) (by decide +kernel)
set_option maxRecDepth 20000 in
theorem gX0_sizeOfStrict_X0_begin : GoodIn wsX0_sizeOfStrict (wsV RX0 52 RX0 yX0_begin wsX0_begin) := goodIn_app (goodIn_of _ (by decide +kernel)) ggX0_sizeOfStrict_X0_begin
set_option maxRecDepth 20000 in
theorem ggX0_sizeOfStrict_X0_sizeOfLoose : GoodIn wsX0_sizeOfStrict wsX0_sizeOfLoose := goodIn_r _ [11, 12, 1, 2, 3, 4, 5, 6, 7, 13, 14, 15, 16, 17, 29, 30, 31, 32, 33, 34, 35, 36, 37, 38, 39, 40, 41, 42, 43, 44, 45, 27, 28] (by decide +kernel) (by decide +kernel)
set_option maxRecDepth 20000 in
theorem gX0_sizeOfStrict_X0_sizeOfLoose : GoodIn wsX0_sizeOfStrict (wsV RX0 30 RX0 yX0_sizeOfLoose wsX0_sizeOfLoose) := goodIn_app (goodIn_of _ (by decide +kernel)) ggX0_sizeOfStrict_X0_sizeOfLoose
set_option maxRecDepth 20000 in
theorem ggX0_sizeOfStrict_X0_markOfLoose : GoodIn wsX0_sizeOfStrict wsX0_markOfLoose := goodIn_r _ [21, 1, 2, 3, 4, 5, 6, 7, 22, 23, 24, 25, 26, 27, 28, 29, 30, 31, 32, 33, 34, 35, 36, 37, 38, 39, 40, 41, 42, 43, 44, 45] (by decide +kernel) (by decide +kernel)
set_option maxRecDepth 20000 in
theorem gX0_sizeOfStrict_X0_markOfLoose : GoodIn wsX0_sizeOfStrict (wsV RX0 43 RX0 yX0_markOfLoose wsX0_markOfLoose) := goodIn_app (goodIn_of _ (by decide +kernel)) ggX0_sizeOfStrict_X0_markOfLoose
theorem dX0_sizeOfStrict_0 : decode cX0_sizeOfStrict 0 = .ok (.aload_n 0, 1) := by decide +kernel
theorem dX0_sizeOfStrict_1 : decode cX0_sizeOfStrict 1 = .ok (.bipush 12, 2) := by decide +kernel
theorem dX0_sizeOfStrict_3 : decode cX0_sizeOfStrict 3 = .ok (.invokevirtual 52, 3) := by decide +kernel
theorem dX0_sizeOfStrict_6 : decode cX0_sizeOfStrict 6 = .ok (.aload_n 0, 1) := by decide +kernel
theorem dX0_sizeOfStrict_7 : decode cX0_sizeOfStrict 7 = .ok (.aload_n 1, 1) := by decide +kernel
theorem dX0_sizeOfStrict_8 : decode cX0_sizeOfStrict 8 = .ok (.invokevirtual 30, 3) := by decide +kernel
theorem dX0_sizeOfStrict_11 : decode cX0_sizeOfStrict 11 = .ok (.istore_n 2, 1) := by decide +kernel
theorem dX0_sizeOfStrict_12 : decode cX0_sizeOfStrict 12 = .ok (.iload_n 2, 1) := by decide +kernel
theorem dX0_sizeOfStrict_13 : decode cX0_sizeOfStrict 13 = .ok (.aload_n 0, 1) := by decide +kernel
theorem dX0_sizeOfStrict_14 : decode cX0_sizeOfStrict 14 = .ok (.aload_n 1, 1) := by decide +kernel
theorem dX0_sizeOfStrict_15 : decode cX0_sizeOfStrict 15 = .ok (.invokevirtual 43, 3) := by decide +kernel
theorem dX0_sizeOfStrict_18 : decode cX0_sizeOfStrict 18 = .ok (.iadd, 1) := by decide +kernel
theorem dX0_sizeOfStrict_19 : decode cX0_sizeOfStrict 19 = .ok (.ireturn, 1) := by decide +kernel
set_option maxRecDepth 20000 in
theorem ggX0_sizeOfBare_X0_begin : GoodIn wsX0_sizeOfBare wsX0_begin := goodIn_r _ [5, 6, 7, 13, 14] (by decide +kernel) (by decide +kernel)
set_option maxRecDepth 20000 in
theorem gX0_sizeOfBare_X0_begin : GoodIn wsX0_sizeOfBare (wsV RX0 52 RX0 yX0_begin wsX0_begin) := goodIn_app (goodIn_of _ (by decide +kernel)) ggX0_sizeOfBare_X0_begin
set_option maxRecDepth 20000 in
theorem ggX0_sizeOfBare_X0_sizeOfNet : GoodIn wsX0_sizeOfBare wsX0_sizeOfNet := goodIn_r _ [11, 12, 1, 2, 3, 4, 5, 6, 7, 15, 16, 17, 18, 19, 20, 21, 22, 23, 24, 25, 26, 27, 28, 29, 30, 31, 13, 14] (by decide +kernel) (by decide +kernel)
set_option maxRecDepth 20000 in
theorem gX0_sizeOfBare_X0_sizeOfNet : GoodIn wsX0_sizeOfBare (wsV RX0 40 RX0 yX0_sizeOfNet wsX0_sizeOfNet) := goodIn_app (goodIn_of _ (by decide +kernel)) ggX0_sizeOfBare_X0_sizeOfNet
theorem dX0_sizeOfBare_0 : decode cX0_sizeOfBare 0 = .ok (.aload_n 0, 1) := by decide +kernel
theorem dX0_sizeOfBare_1 : decode cX0_sizeOfBare 1 = .ok (.bipush 13, 2) := by decide +kernel
theorem dX0_sizeOfBare_3 : decode cX0_sizeOfBare 3 = .ok (.invokevirtual 52, 3) := by decide +kernel
theorem dX0_sizeOfBare_6 : decode cX0_sizeOfBare 6 = .ok (.aload_n 0, 1) := by decide +kernel
theorem dX0_sizeOfBare_7 : decode cX0_sizeOfBare 7 = .ok (.aload_n 1, 1) := by decide +kernel
theorem dX0_sizeOfBare_8 : decode cX0_sizeOfBare 8 = .ok (.invokevirtual 40, 3) := by decide +kernel
theorem dX0_sizeOfBare_11 : decode cX0_sizeOfBare 11 = .ok (.iconst 2, 1) := by decide +kernel
theorem dX0_sizeOfBare_12 : decode cX0_sizeOfBare 12 = .ok (.idiv, 1) := by decide +kernel
theorem dX0_sizeOfBare_13 : decode cX0_sizeOfBare 13 = .ok (.ireturn, 1) := by decide +kernel
set_option maxRecDepth 20000 in
theorem ggX0_markOfNet_X0_begin : GoodIn wsX0_markOfNet wsX0_begin := goodIn_r _ [6, 7, 8, 26, 27] (by decide +kernel) (by decide +kernel)
set_option maxRecDepth 20000 in
theorem gX0_markOfNet_X0_begin : GoodIn wsX0_markOfNet (wsV RX0 52 RX0 yX0_begin wsX0_begin) := goodIn_app (goodIn_of _ (by decide +kernel)) ggX0_markOfNet_X0_begin
theorem dX0_markOfNet_0 : decode cX0_markOfNet 0 = .ok (.aload_n 0, 1) := by decide +kernel
theorem dX0_markOfNet_1 : decode cX0_markOfNet 1 = .ok (.bipush 20, 2) := by decide +kernel
theorem dX0_markOfNet_3 : decode cX0_markOfNet 3 = .ok (.invokevirtual 52, 3) := by decide +kernel
theorem dX0_markOfNet_6 : decode cX0_markOfNet 6 = .ok (.aload_n 1, 1) := by decide +kernel
theorem dX0_markOfNet_7 : decode cX0_markOfNet 7 = .ok (.getfield 62, 3) := by decide +kernel
theorem dX0_markOfNet_10 : decode cX0_markOfNet 10 = .ok (.ireturn, 1) := by decide +kernel
set_option maxRecDepth 20000 in
theorem ggX0_markOfLoose_X0_begin : GoodIn wsX0_markOfLoose wsX0_begin := goodIn_r _ [5, 6, 7, 13, 14] (by decide +kernel) (by decide +kernel)
set_option maxRecDepth 20000 in
theorem gX0_markOfLoose_X0_begin : GoodIn wsX0_markOfLoose (wsV RX0 52 RX0 yX0_begin wsX0_begin) := goodIn_app (goodIn_of _ (by decide +kernel)) ggX0_markOfLoose_X0_begin
set_option maxRecDepth 20000 in
theorem ggX0_markOfLoose_X0_markOfNet : GoodIn wsX0_markOfLoose wsX0_markOfNet := goodIn_r _ [11, 12, 1, 2, 3, 4, 5, 6, 7, 15, 16, 17, 18, 19, 20, 21, 22, 23, 24, 25, 26, 27, 28, 29, 30, 31, 13, 14] (by decide +kernel) (by decide +kernel)
set_option maxRecDepth 20000 in
theorem gX0_markOfLoose_X0_markOfNet : GoodIn wsX0_markOfLoose (wsV RX0 49 RX0 yX0_markOfNet wsX0_markOfNet) := goodIn_app (goodIn_of _ (by decide +kernel)) ggX0_markOfLoose_X0_markOfNet
theorem dX0_markOfLoose_0 : decode cX0_markOfLoose 0 = .ok (.aload_n 0, 1) := by decide +kernel
theorem dX0_markOfLoose_1 : decode cX0_markOfLoose 1 = .ok (.bipush 21, 2) := by decide +kernel
theorem dX0_markOfLoose_3 : decode cX0_markOfLoose 3 = .ok (.invokevirtual 52, 3) := by decide +kernel
theorem dX0_markOfLoose_6 : decode cX0_markOfLoose 6 = .ok (.aload_n 0, 1) := by decide +kernel
theorem dX0_markOfLoose_7 : decode cX0_markOfLoose 7 = .ok (.aload_n 1, 1) := by decide +kernel
theorem dX0_markOfLoose_8 : decode cX0_markOfLoose 8 = .ok (.invokevirtual 49, 3) := by decide +kernel
theorem dX0_markOfLoose_11 : decode cX0_markOfLoose 11 = .ok (.bipush 100, 2) := by decide +kernel
theorem dX0_markOfLoose_13 : decode cX0_markOfLoose 13 = .ok (.iadd, 1) := by decide +kernel
theorem dX0_markOfLoose_14 : decode cX0_markOfLoose 14 = .ok (.ireturn, 1) := by decide +kernel
set_option maxRecDepth 20000 in
theorem ggX0_markOfBare_X0_begin : GoodIn wsX0_markOfBare wsX0_begin := goodIn_r _ [5, 6, 7, 22, 23] (by decide +kernel) (by decide +kernel)
set_option maxRecDepth 20000 in
theorem gX0_markOfBare_X0_begin : GoodIn wsX0_markOfBare (wsV RX0 52 RX0 yX0_begin wsX0_begin) := goodIn_app (goodIn_of _ (by decide +kernel)) ggX0_markOfBare_X0_begin
set_option maxRecDepth 20000 in
theorem ggX0_markOfBare_X0_markOfNet : GoodIn wsX0_markOfBare wsX0_markOfNet := goodIn_r _ [11, 12, 1, 2, 3, 4, 5, 6, 7, 24, 25, 26, 27, 28, 29, 30, 31, 32, 33, 34, 35, 36, 37, 38, 39, 40, 22, 23] (by decide +kernel) (by decide +kernel)
set_option maxRecDepth 20000 in
theorem gX0_markOfBare_X0_markOfNet : GoodIn wsX0_markOfBare (wsV RX0 49 RX0 yX0_markOfNet wsX0_markOfNet) := goodIn_app (goodIn_of _ (by decide +kernel)) ggX0_markOfBare_X0_markOfNet
set_option maxRecDepth 20000 in
theorem ggX0_markOfBare_X0_sizeOfBare : GoodIn wsX0_markOfBare wsX0_sizeOfBare := goodIn_r _ [16, 1, 2, 3, 4, 5, 6, 7, 17, 18, 19, 20, 21, 22, 23, 24, 25, 26, 27, 28, 29, 30, 31, 32, 33, 34, 35, 36, 37, 38, 39, 40] (by decide +kernel) (by decide +kernel)
set_option maxRecDepth 20000 in
theorem gX0_markOfBare_X0_sizeOfBare : GoodIn wsX0_markOfBare (wsV RX0 37 RX0 yX0_sizeOfBare wsX0_sizeOfBare) := goodIn_app (goodIn_of _ (by decide +kernel)) ggX0_markOfBare_X0_sizeOfBare
theorem dX0_markOfBare_0 : decode cX0_markOfBare 0 = .ok (.aload_n 0, 1) := by decide +kernel
theorem dX0_markOfBare_1 : decode cX0_markOfBare 1 = .ok (.bipush 22, 2) := by decide +kernel
theorem dX0_markOfBare_3 : decode cX0_markOfBare 3 = .ok (.invokevirtual 52, 3) := by decide +kernel
theorem dX0_markOfBare_6 : decode cX0_markOfBare 6 = .ok (.aload_n 0, 1) := by decide +kernel
theorem dX0_markOfBare_7 : decode cX0_markOfBare 7 = .ok (.aload_n 1, 1) := by decide +kernel
theorem dX0_markOfBare_8 : decode cX0_markOfBare 8 = .ok (.invokevirtual 49, 3) := by decide +kernel
theorem dX0_markOfBare_11 : decode cX0_markOfBare 11 = .ok (.istore_n 2, 1) := by decide +kernel
theorem dX0_markOfBare_12 : decode cX0_markOfBare 12 = .ok (.iload_n 2, 1) := by decide +kernel
theorem dX0_markOfBare_13 : decode cX0_markOfBare 13 = .ok (.aload_n 0, 1) := by decide +kernel
theorem dX0_markOfBare_14 : decode cX0_markOfBare 14 = .ok (.aload_n 1, 1) := by decide +kernel
theorem dX0_markOfBare_15 : decode cX0_markOfBare 15 = .ok (.invokevirtual 37, 3) := by decide +kernel
theorem dX0_markOfBare_18 : decode cX0_markOfBare 18 = .ok (.iadd, 1) := by decide +kernel
theorem dX0_markOfBare_19 : decode cX0_markOfBare 19 = .ok (.ireturn, 1) := by decide +kernel
theorem dX0_begin_0 : decode cX0_begin 0 = .ok (.aload_n 0, 1) := by decide +kernel
theorem dX0_begin_1 : decode cX0_begin 1 = .ok (.getfield 15, 3) := by decide +kernel
theorem dX0_begin_4 : decode cX0_begin 4 = .ok (.aload_n 0, 1) := by decide +kernel
theorem dX0_begin_5 : decode cX0_begin 5 = .ok (.getfield 9, 3) := by decide +kernel
theorem dX0_begin_8 : decode cX0_begin 8 = .ok (.arraylength, 1) := by decide +kernel
theorem dX0_begin_9 : decode cX0_begin 9 = .ok (.if_icmp .ge 23, 3) := by decide +kernel
theorem dX0_begin_12 : decode cX0_begin 12 = .ok (.aload_n 0, 1) := by decide +kernel
theorem dX0_begin_13 : decode cX0_begin 13 = .ok (.getfield 9, 3) := by decide +kernel
theorem dX0_begin_16 : decode cX0_begin 16 = .ok (.aload_n 0, 1) := by decide +kernel
theorem dX0_begin_17 : decode cX0_begin 17 = .ok (.getfield 15, 3) := by decide +kernel
theorem dX0_begin_20 : decode cX0_begin 20 = .ok (.iload_n 1, 1) := by decide +kernel
theorem dX0_begin_21 : decode cX0_begin 21 = .ok (.iastore, 1) := by decide +kernel
theorem dX0_begin_22 : decode cX0_begin 22 = .ok (.aload_n 0, 1) := by decide +kernel
theorem dX0_begin_23 : decode cX0_begin 23 = .ok (.dup, 1) := by decide +kernel
theorem dX0_begin_24 : decode cX0_begin 24 = .ok (.getfield 15, 3) := by decide +kernel
theorem dX0_begin_27 : decode cX0_begin 27 = .ok (.iconst 1, 1) := by decide +kernel
theorem dX0_begin_28 : decode cX0_begin 28 = .ok (.iadd, 1) := by decide +kernel
theorem dX0_begin_29 : decode cX0_begin 29 = .ok (.putfield 15, 3) := by decide +kernel
theorem dX0_begin_32 : decode cX0_begin 32 = .ok (.return_, 1) := by decide +kernel
set_option maxRecDepth 20000 in
theorem ggX1_init_J7_fill_53178 : GoodIn wsX1_init wsJ7_fill_53178 := goodIn_r _ [27] (by decide +kernel) (by decide +kernel)
set_option maxRecDepth 20000 in
theorem gX1_init_J7_fill_53178 : GoodIn wsX1_init (va_wsS RX1 66 yJ7_fill_53178 wsJ7_fill_53178) := goodIn_app (goodIn_of _ (by decide +kernel)) ggX1_init_J7_fill_53178
theorem dX1_init_0 : decode cX1_init 0 = .ok (.aload_n 0, 1) := by decide +kernel
theorem dX1_init_1 : decode cX1_init 1 = .ok (.invokespecial 3, 3) := by decide +kernel
theorem dX1_init_4 : decode cX1_init 4 = .ok (.aload_n 0, 1) := by decide +kernel
theorem dX1_init_5 : decode cX1_init 5 = .ok (.iload_n 1, 1) := by decide +kernel
theorem dX1_init_6 : decode cX1_init 6 = .ok (.putfield 9, 3) := by decide +kernel
theorem dX1_init_9 : decode cX1_init 9 = .ok (.aload_n 0, 1) := by decide +kernel
theorem dX1_init_10 : decode cX1_init 10 = .ok (.iload_n 2, 1) := by decide +kernel
theorem dX1_init_11 : decode cX1_init 11 = .ok (.putfield 15, 3) := by decide +kernel
theorem dX1_init_14 : decode cX1_init 14 = .ok (.aload_n 0, 1) := by decide +kernel
theorem dX1_init_15 : decode cX1_init 15 = .ok (.iload_n 3, 1) := by decide +kernel
theorem dX1_init_16 : decode cX1_init 16 = .ok (.putfield 18, 3) := by decide +kernel
theorem dX1_init_19 : decode cX1_init 19 = .ok (.aload_n 0, 1) := by decide +kernel
theorem dX1_init_20 : decode cX1_init 20 = .ok (.iload_n 3, 1) := by decide +kernel
theorem dX1_init_21 : decode cX1_init 21 = .ok (.iload_n 2, 1) := by decide +kernel
theorem dX1_init_22 : decode cX1_init 22 = .ok (.imul, 1) := by decide +kernel
theorem dX1_init_23 : decode cX1_init 23 = .ok (.putfield 21, 3) := by decide +kernel
theorem dX1_init_26 : decode cX1_init 26 = .ok (.aload_n 0, 1) := by decide +kernel
theorem dX1_init_27 : decode cX1_init 27 = .ok (.iload_n 1, 1) := by decide +kernel
theorem dX1_init_28 : decode cX1_init 28 = .ok (.newarray .boolean, 2) := by decide +kernel
theorem dX1_init_30 : decode cX1_init 30 = .ok (.putfield 24, 3) := by decide +kernel
theorem dX1_init_33 : decode cX1_init 33 = .ok (.aload_n 0, 1) := by decide +kernel
theorem dX1_init_34 : decode cX1_init 34 = .ok (.aload_n 0, 1) := by decide +kernel
theorem dX1_init_35 : decode cX1_init 35 = .ok (.getfield 21, 3) := by decide +kernel
theorem dX1_init_38 : decode cX1_init 38 = .ok (.newarray .int, 2) := by decide +kernel
theorem dX1_init_40 : decode cX1_init 40 = .ok (.putfield 28, 3) := by decide +kernel
theorem dX1_init_43 : decode cX1_init 43 = .ok (.aload_n 0, 1) := by decide +kernel
theorem dX1_init_44 : decode cX1_init 44 = .ok (.aload_n 0, 1) := by decide +kernel
theorem dX1_init_45 : decode cX1_init 45 = .ok (.getfield 21, 3) := by decide +kernel
theorem dX1_init_48 : decode cX1_init 48 = .ok (.newarray .int, 2) := by decide +kernel
theorem dX1_init_50 : decode cX1_init 50 = .ok (.putfield 32, 3) := by decide +kernel
theorem dX1_init_53 : decode cX1_init 53 = .ok (.aload_n 0, 1) := by decide +kernel
theorem dX1_init_54 : decode cX1_init 54 = .ok (.aload_n 0, 1) := by decide +kernel
theorem dX1_init_55 : decode cX1_init 55 = .ok (.getfield 21, 3) := by decide +kernel
theorem dX1_init_58 : decode cX1_init 58 = .ok (.newarray .boolean, 2) := by decide +kernel
theorem dX1_init_60 : decode cX1_init 60 = .ok (.putfield 35, 3) := by decide +kernel
theorem dX1_init_63 : decode cX1_init 63 = .ok (.aload_n 0, 1) := by decide +kernel
theorem dX1_init_64 : decode cX1_init 64 = .ok (.iload_n 1, 1) := by decide +kernel
theorem dX1_init_65 : decode cX1_init 65 = .ok (.iload_n 3, 1) := by decide +kernel
theorem dX1_init_66 : decode cX1_init 66 = .ok (.imul, 1) := by decide +kernel
theorem dX1_init_67 : decode cX1_init 67 = .ok (.newarray .int, 2) := by decide +kernel
theorem dX1_init_69 : decode cX1_init 69 = .ok (.putfield 38, 3) := by decide +kernel
theorem dX1_init_72 : decode cX1_init 72 = .ok (.aload_n 0, 1) := by decide +kernel
theorem dX1_init_73 : decode cX1_init 73 = .ok (.iload_n 1, 1) := by decide +kernel
theorem dX1_init_74 : decode cX1_init 74 = .ok (.iload_n 3, 1) := by decide +kernel
theorem dX1_init_75 : decode cX1_init 75 = .ok (.imul, 1) := by decide +kernel
theorem dX1_init_76 : decode cX1_init 76 = .ok (.newarray .int, 2) := by decide +kernel
theorem dX1_init_78 : decode cX1_init 78 = .ok (.putfield 41, 3) := by decide +kernel
theorem dX1_init_81 : decode cX1_init 81 = .ok (.aload_n 0, 1) := by decide +kernel
theorem dX1_init_82 : decode cX1_init 82 = .ok (.aload_n 0, 1) := by decide +kernel
theorem dX1_init_83 : decode cX1_init 83 = .ok (.getfield 21, 3) := by decide +kernel
theorem dX1_init_86 : decode cX1_init 86 = .ok (.newarray .int, 2) := by decide +kernel
theorem dX1_init_88 : decode cX1_init 88 = .ok (.putfield 44, 3) := by decide +kernel
theorem dX1_init_91 : decode cX1_init 91 = .ok (.aload_n 0, 1) := by decide +kernel
theorem dX1_init_92 : decode cX1_init 92 = .ok (.aload_n 0, 1) := by decide +kernel
theorem dX1_init_93 : decode cX1_init 93 = .ok (.getfield 21, 3) := by decide +kernel
theorem dX1_init_96 : decode cX1_init 96 = .ok (.newarray .int, 2) := by decide +kernel
theorem dX1_init_98 : decode cX1_init 98 = .ok (.putfield 47, 3) := by decide +kernel
theorem dX1_init_101 : decode cX1_init 101 = .ok (.aload_n 0, 1) := by decide +kernel
theorem dX1_init_102 : decode cX1_init 102 = .ok (.aload_n 0, 1) := by decide +kernel
theorem dX1_init_103 : decode cX1_init 103 = .ok (.getfield 21, 3) := by decide +kernel
theorem dX1_init_106 : decode cX1_init 106 = .ok (.newarray .int, 2) := by decide +kernel
theorem dX1_init_108 : decode cX1_init 108 = .ok (.putfield 50, 3) := by decide +kernel
theorem dX1_init_111 : decode cX1_init 111 = .ok (.aload_n 0, 1) := by decide +kernel
theorem dX1_init_112 : decode cX1_init 112 = .ok (.iload_n 1, 1) := by decide +kernel
theorem dX1_init_113 : decode cX1_init 113 = .ok (.putfield 53, 3) := by decide +kernel
theorem dX1_init_116 : decode cX1_init 116 = .ok (.aload_n 0, 1) := by decide +kernel
theorem dX1_init_117 : decode cX1_init 117 = .ok (.iconst 0, 1) := by decide +kernel
theorem dX1_init_118 : decode cX1_init 118 = .ok (.putfield 56, 3) := by decide +kernel
theorem dX1_init_121 : decode cX1_init 121 = .ok (.aload_n 0, 1) := by decide +kernel
theorem dX1_init_122 : decode cX1_init 122 = .ok (.iconst 0, 1) := by decide +kernel
theorem dX1_init_123 : decode cX1_init 123 = .ok (.putfield 59, 3) := by decide +kernel
theorem dX1_init_126 : decode cX1_init 126 = .ok (.aload_n 0, 1) := by decide +kernel
theorem dX1_init_127 : decode cX1_init 127 = .ok (.iconst 0, 1) := by decide +kernel
theorem dX1_init_128 : decode cX1_init 128 = .ok (.putfield 62, 3) := by decide +kernel
theorem dX1_init_131 : decode cX1_init 131 = .ok (.aload_n 0, 1) := by decide +kernel
theorem dX1_init_132 : decode cX1_init 132 = .ok (.getfield 28, 3) := by decide +kernel
theorem dX1_init_135 : decode cX1_init 135 = .ok (.ldc 65, 2) := by decide +kernel
theorem dX1_init_137 : decode cX1_init 137 = .ok (.invokestatic 66, 3) := by decide +kernel
theorem dX1_init_140 : decode cX1_init 140 = .ok (.aload_n 0, 1) := by decide +kernel
theorem dX1_init_141 : decode cX1_init 141 = .ok (.getfield 32, 3) := by decide +kernel
theorem dX1_init_144 : decode cX1_init 144 = .ok (.ldc 65, 2) := by decide +kernel
theorem dX1_init_146 : decode cX1_init 146 = .ok (.invokestatic 66, 3) := by decide +kernel
theorem dX1_init_149 : decode cX1_init 149 = .ok (.aload_n 0, 1) := by decide +kernel
theorem dX1_init_150 : decode cX1_init 150 = .ok (.getfield 38, 3) := by decide +kernel
theorem dX1_init_153 : decode cX1_init 153 = .ok (.iconst (-1), 1) := by decide +kernel
theorem dX1_init_154 : decode cX1_init 154 = .ok (.invokestatic 66, 3) := by decide +kernel
theorem dX1_init_157 : decode cX1_init 157 = .ok (.aload_n 0, 1) := by decide +kernel
theorem dX1_init_158 : decode cX1_init 158 = .ok (.getfield 41, 3) := by decide +kernel
theorem dX1_init_161 : decode cX1_init 161 = .ok (.iconst (-1), 1) := by decide +kernel
theorem dX1_init_162 : decode cX1_init 162 = .ok (.invokestatic 66, 3) := by decide +kernel
theorem dX1_init_165 : decode cX1_init 165 = .ok (.return_, 1) := by decide +kernel
set_option maxRecDepth 20000 in
theorem ggX1_hasLine_X5_within : GoodIn wsX1_hasLine wsX5_within := goodIn_r _ [4] (by decide +kernel) (by decide +kernel)
set_option maxRecDepth 20000 in
theorem gX1_hasLine_X5_within_n72 : GoodIn wsX1_hasLine (wsX5_within) := ggX1_hasLine_X5_within
theorem dX1_hasLine_0 : decode cX1_hasLine 0 = .ok (.iload_n 1, 1) := by decide +kernel
theorem dX1_hasLine_1 : decode cX1_hasLine 1 = .ok (.iconst 0, 1) := by decide +kernel
theorem dX1_hasLine_2 : decode cX1_hasLine 2 = .ok (.aload_n 0, 1) := by decide +kernel
theorem dX1_hasLine_3 : decode cX1_hasLine 3 = .ok (.getfield 21, 3) := by decide +kernel
theorem dX1_hasLine_6 : decode cX1_hasLine 6 = .ok (.iconst 1, 1) := by decide +kernel
theorem dX1_hasLine_7 : decode cX1_hasLine 7 = .ok (.isub, 1) := by decide +kernel
theorem dX1_hasLine_8 : decode cX1_hasLine 8 = .ok (.invokestatic 72, 3) := by decide +kernel
theorem dX1_hasLine_11 : decode cX1_hasLine 11 = .ok (.ireturn, 1) := by decide +kernel
set_option maxRecDepth 20000 in
theorem ggX1_hasMiddle_X5_within : GoodIn wsX1_hasMiddle wsX5_within := goodIn_r _ [4] (by decide +kernel) (by decide +kernel)
set_option maxRecDepth 20000 in
theorem gX1_hasMiddle_X5_within_n72 : GoodIn wsX1_hasMiddle (wsX5_within) := ggX1_hasMiddle_X5_within
theorem dX1_hasMiddle_0 : decode cX1_hasMiddle 0 = .ok (.iload_n 1, 1) := by decide +kernel
theorem dX1_hasMiddle_1 : decode cX1_hasMiddle 1 = .ok (.iconst 0, 1) := by decide +kernel
theorem dX1_hasMiddle_2 : decode cX1_hasMiddle 2 = .ok (.aload_n 0, 1) := by decide +kernel
theorem dX1_hasMiddle_3 : decode cX1_hasMiddle 3 = .ok (.getfield 9, 3) := by decide +kernel
theorem dX1_hasMiddle_6 : decode cX1_hasMiddle 6 = .ok (.iconst 1, 1) := by decide +kernel
theorem dX1_hasMiddle_7 : decode cX1_hasMiddle 7 = .ok (.isub, 1) := by decide +kernel
theorem dX1_hasMiddle_8 : decode cX1_hasMiddle 8 = .ok (.invokestatic 72, 3) := by decide +kernel
theorem dX1_hasMiddle_11 : decode cX1_hasMiddle 11 = .ok (.ireturn, 1) := by decide +kernel
theorem dX1_isBusy_0 : decode cX1_isBusy 0 = .ok (.aload_n 0, 1) := by decide +kernel
theorem dX1_isBusy_1 : decode cX1_isBusy 1 = .ok (.getfield 28, 3) := by decide +kernel
theorem dX1_isBusy_4 : decode cX1_isBusy 4 = .ok (.iload_n 1, 1) := by decide +kernel
theorem dX1_isBusy_5 : decode cX1_isBusy 5 = .ok (.iaload, 1) := by decide +kernel
theorem dX1_isBusy_6 : decode cX1_isBusy 6 = .ok (.ldc 65, 2) := by decide +kernel
theorem dX1_isBusy_8 : decode cX1_isBusy 8 = .ok (.if_icmp .ne 12, 3) := by decide +kernel
theorem dX1_isBusy_11 : decode cX1_isBusy 11 = .ok (.aload_n 0, 1) := by decide +kernel
theorem dX1_isBusy_12 : decode cX1_isBusy 12 = .ok (.getfield 35, 3) := by decide +kernel
theorem dX1_isBusy_15 : decode cX1_isBusy 15 = .ok (.iload_n 2, 1) := by decide +kernel
theorem dX1_isBusy_16 : decode cX1_isBusy 16 = .ok (.baload, 1) := by decide +kernel
theorem dX1_isBusy_17 : decode cX1_isBusy 17 = .ok (.ifCond .eq 7, 3) := by decide +kernel
theorem dX1_isBusy_20 : decode cX1_isBusy 20 = .ok (.iconst 1, 1) := by decide +kernel
theorem dX1_isBusy_21 : decode cX1_isBusy 21 = .ok (.goto 4, 3) := by decide +kernel
theorem dX1_isBusy_24 : decode cX1_isBusy 24 = .ok (.iconst 0, 1) := by decide +kernel
theorem dX1_isBusy_25 : decode cX1_isBusy 25 = .ok (.ireturn, 1) := by decide +kernel
theorem dX1_toldKind_0 : decode cX1_toldKind 0 = .ok (.aload_n 0, 1) := by decide +kernel
theorem dX1_toldKind_1 : decode cX1_toldKind 1 = .ok (.getfield 53, 3) := by decide +kernel
theorem dX1_toldKind_4 : decode cX1_toldKind 4 = .ok (.iconst 2, 1) := by decide +kernel
theorem dX1_toldKind_5 : decode cX1_toldKind 5 = .ok (.aload_n 0, 1) := by decide +kernel
theorem dX1_toldKind_6 : decode cX1_toldKind 6 = .ok (.getfield 15, 3) := by decide +kernel
theorem dX1_toldKind_9 : decode cX1_toldKind 9 = .ok (.imul, 1) := by decide +kernel
theorem dX1_toldKind_10 : decode cX1_toldKind 10 = .ok (.iconst 1, 1) := by decide +kernel
theorem dX1_toldKind_11 : decode cX1_toldKind 11 = .ok (.isub, 1) := by decide +kernel
theorem dX1_toldKind_12 : decode cX1_toldKind 12 = .ok (.if_icmp .lt 5, 3) := by decide +kernel
theorem dX1_toldKind_15 : decode cX1_toldKind 15 = .ok (.iconst 2, 1) := by decide +kernel
theorem dX1_toldKind_16 : decode cX1_toldKind 16 = .ok (.ireturn, 1) := by decide +kernel
theorem dX1_toldKind_17 : decode cX1_toldKind 17 = .ok (.aload_n 0, 1) := by decide +kernel
theorem dX1_toldKind_18 : decode cX1_toldKind 18 = .ok (.getfield 53, 3) := by decide +kernel
theorem dX1_toldKind_21 : decode cX1_toldKind 21 = .ok (.aload_n 0, 1) := by decide +kernel
theorem dX1_toldKind_22 : decode cX1_toldKind 22 = .ok (.getfield 15, 3) := by decide +kernel
theorem dX1_toldKind_25 : decode cX1_toldKind 25 = .ok (.if_icmp .lt 5, 3) := by decide +kernel
theorem dX1_toldKind_28 : decode cX1_toldKind 28 = .ok (.iconst 1, 1) := by decide +kernel
theorem dX1_toldKind_29 : decode cX1_toldKind 29 = .ok (.ireturn, 1) := by decide +kernel
theorem dX1_toldKind_30 : decode cX1_toldKind 30 = .ok (.aload_n 0, 1) := by decide +kernel
theorem dX1_toldKind_31 : decode cX1_toldKind 31 = .ok (.getfield 53, 3) := by decide +kernel
theorem dX1_toldKind_34 : decode cX1_toldKind 34 = .ok (.iconst 1, 1) := by decide +kernel
theorem dX1_toldKind_35 : decode cX1_toldKind 35 = .ok (.if_icmp .ne 7, 3) := by decide +kernel
theorem dX1_toldKind_38 : decode cX1_toldKind 38 = .ok (.iconst 3, 1) := by decide +kernel
theorem dX1_toldKind_39 : decode cX1_toldKind 39 = .ok (.goto 4, 3) := by decide +kernel
theorem dX1_toldKind_42 : decode cX1_toldKind 42 = .ok (.iconst 0, 1) := by decide +kernel
theorem dX1_toldKind_43 : decode cX1_toldKind 43 = .ok (.ireturn, 1) := by decide +kernel
set_option maxRecDepth 20000 in
theorem ggX1_howManyFree_X1_isFree : GoodIn wsX1_howManyFree wsX1_isFree := goodIn_r _ [6, 7, 8, 9, 5, 10, 11, 12, 13, 14, 15, 16, 17, 18, 19, 20, 21, 22, 23, 24, 25, 26, 27, 28, 29, 30, 31, 32, 33, 34, 35, 36, 37, 38, 39, 40] (by decide +kernel) (by decide +kernel)
set_option maxRecDepth 20000 in
theorem gX1_howManyFree_X1_isFree : GoodIn wsX1_howManyFree (wsV RX1 76 RX1 yX1_isFree wsX1_isFree) := goodIn_app (goodIn_of _ (by decide +kernel)) ggX1_howManyFree_X1_isFree
theorem dX1_howManyFree_0 : decode cX1_howManyFree 0 = .ok (.iconst 0, 1) := by decide +kernel
theorem dX1_howManyFree_1 : decode cX1_howManyFree 1 = .ok (.istore_n 3, 1) := by decide +kernel
theorem dX1_howManyFree_2 : decode cX1_howManyFree 2 = .ok (.iconst 0, 1) := by decide +kernel
theorem dX1_howManyFree_3 : decode cX1_howManyFree 3 = .ok (.istore 4, 2) := by decide +kernel
theorem dX1_howManyFree_5 : decode cX1_howManyFree 5 = .ok (.iload 4, 2) := by decide +kernel
theorem dX1_howManyFree_7 : decode cX1_howManyFree 7 = .ok (.aload_n 0, 1) := by decide +kernel
theorem dX1_howManyFree_8 : decode cX1_howManyFree 8 = .ok (.getfield 9, 3) := by decide +kernel
theorem dX1_howManyFree_11 : decode cX1_howManyFree 11 = .ok (.if_icmp .ge 23, 3) := by decide +kernel
theorem dX1_howManyFree_14 : decode cX1_howManyFree 14 = .ok (.aload_n 0, 1) := by decide +kernel
theorem dX1_howManyFree_15 : decode cX1_howManyFree 15 = .ok (.iload 4, 2) := by decide +kernel
theorem dX1_howManyFree_17 : decode cX1_howManyFree 17 = .ok (.iload_n 1, 1) := by decide +kernel
theorem dX1_howManyFree_18 : decode cX1_howManyFree 18 = .ok (.iload_n 2, 1) := by decide +kernel
theorem dX1_howManyFree_19 : decode cX1_howManyFree 19 = .ok (.invokevirtual 76, 3) := by decide +kernel
theorem dX1_howManyFree_22 : decode cX1_howManyFree 22 = .ok (.ifCond .eq 6, 3) := by decide +kernel
theorem dX1_howManyFree_25 : decode cX1_howManyFree 25 = .ok (.iinc 3 1, 3) := by decide +kernel
theorem dX1_howManyFree_28 : decode cX1_howManyFree 28 = .ok (.iinc 4 1, 3) := by decide +kernel
theorem dX1_howManyFree_31 : decode cX1_howManyFree 31 = .ok (.goto (-26), 3) := by decide +kernel
theorem dX1_howManyFree_34 : decode cX1_howManyFree 34 = .ok (.iload_n 3, 1) := by decide +kernel
theorem dX1_howManyFree_35 : decode cX1_howManyFree 35 = .ok (.ireturn, 1) := by decide +kernel
set_option maxRecDepth 20000 in
theorem ggX1_plan_X1_isFree : GoodIn wsX1_plan wsX1_isFree := goodIn_r _ [8, 9, 10, 11, 7, 12, 13, 14, 15, 16, 17, 18, 19, 20, 21, 22, 23, 24, 25, 38, 39, 40, 41, 42, 43, 44, 45, 46, 47, 48, 49, 50, 51, 52, 53, 54] (by decide +kernel) (by decide +kernel)
set_option maxRecDepth 20000 in
theorem gX1_plan_X1_isFree : GoodIn wsX1_plan (wsV RX1 76 RX1 yX1_isFree wsX1_isFree) := goodIn_app (goodIn_of _ (by decide +kernel)) ggX1_plan_X1_isFree
set_option maxRecDepth 20000 in
theorem ggX1_plan_X1_planMoves : GoodIn wsX1_plan wsX1_planMoves := goodIn_r _ [29, 3, 1, 2, 30, 9, 10, 11, 7, 12, 13, 14, 15, 16, 17, 18, 19, 20, 21, 22, 23, 24, 25, 31, 32, 33, 34, 35, 36, 37, 38, 39, 40, 41, 42, 43, 44, 45, 46, 47, 48, 49, 50, 51, 52, 53, 54] (by decide +kernel) (by decide +kernel)
set_option maxRecDepth 20000 in
theorem gX1_plan_X1_planMoves : GoodIn wsX1_plan (wsV RX1 79 RX1 yX1_planMoves wsX1_planMoves) := goodIn_app (goodIn_of _ (by decide +kernel)) ggX1_plan_X1_planMoves
theorem dX1_plan_0 : decode cX1_plan 0 = .ok (.iconst 0, 1) := by decide +kernel
theorem dX1_plan_1 : decode cX1_plan 1 = .ok (.istore 4, 2) := by decide +kernel
theorem dX1_plan_3 : decode cX1_plan 3 = .ok (.iload 4, 2) := by decide +kernel
theorem dX1_plan_5 : decode cX1_plan 5 = .ok (.aload_n 0, 1) := by decide +kernel
theorem dX1_plan_6 : decode cX1_plan 6 = .ok (.getfield 9, 3) := by decide +kernel
theorem dX1_plan_9 : decode cX1_plan 9 = .ok (.if_icmp .ge 28, 3) := by decide +kernel
theorem dX1_plan_12 : decode cX1_plan 12 = .ok (.aload_n 0, 1) := by decide +kernel
theorem dX1_plan_13 : decode cX1_plan 13 = .ok (.iload 4, 2) := by decide +kernel
theorem dX1_plan_15 : decode cX1_plan 15 = .ok (.iload_n 1, 1) := by decide +kernel
theorem dX1_plan_16 : decode cX1_plan 16 = .ok (.iload_n 2, 1) := by decide +kernel
theorem dX1_plan_17 : decode cX1_plan 17 = .ok (.invokevirtual 76, 3) := by decide +kernel
theorem dX1_plan_20 : decode cX1_plan 20 = .ok (.ifCond .eq 11, 3) := by decide +kernel
theorem dX1_plan_23 : decode cX1_plan 23 = .ok (.aload_n 0, 1) := by decide +kernel
theorem dX1_plan_24 : decode cX1_plan 24 = .ok (.iload 4, 2) := by decide +kernel
theorem dX1_plan_26 : decode cX1_plan 26 = .ok (.putfield 59, 3) := by decide +kernel
theorem dX1_plan_29 : decode cX1_plan 29 = .ok (.iconst 0, 1) := by decide +kernel
theorem dX1_plan_30 : decode cX1_plan 30 = .ok (.ireturn, 1) := by decide +kernel
theorem dX1_plan_31 : decode cX1_plan 31 = .ok (.iinc 4 1, 3) := by decide +kernel
theorem dX1_plan_34 : decode cX1_plan 34 = .ok (.goto (-31), 3) := by decide +kernel
theorem dX1_plan_37 : decode cX1_plan 37 = .ok (.iload_n 3, 1) := by decide +kernel
theorem dX1_plan_38 : decode cX1_plan 38 = .ok (.ifCond .eq 12, 3) := by decide +kernel
theorem dX1_plan_41 : decode cX1_plan 41 = .ok (.aload_n 0, 1) := by decide +kernel
theorem dX1_plan_42 : decode cX1_plan 42 = .ok (.iload_n 1, 1) := by decide +kernel
theorem dX1_plan_43 : decode cX1_plan 43 = .ok (.iload_n 2, 1) := by decide +kernel
theorem dX1_plan_44 : decode cX1_plan 44 = .ok (.invokevirtual 79, 3) := by decide +kernel
theorem dX1_plan_47 : decode cX1_plan 47 = .ok (.goto 5, 3) := by decide +kernel
theorem dX1_plan_50 : decode cX1_plan 50 = .ok (.ldc 65, 2) := by decide +kernel
theorem dX1_plan_52 : decode cX1_plan 52 = .ok (.ireturn, 1) := by decide +kernel
set_option maxRecDepth 20000 in
theorem ggX1_setUp_X1_plan : GoodIn wsX1_setUp wsX1_plan := goodIn_r _ [11, 12, 2, 1, 13, 14, 15, 10, 16, 17, 18, 19, 20, 21, 22, 23, 24, 25, 26, 27, 28, 29, 30, 31, 32, 33, 34, 35, 36, 37, 3, 38, 39, 40, 41, 42, 43, 4, 57, 58, 59, 60, 61, 62, 63, 64, 65, 66, 67, 68, 69, 70, 71, 72, 73] (by decide +kernel) (by decide +kernel)
set_option maxRecDepth 20000 in
theorem gX1_setUp_X1_plan : GoodIn wsX1_setUp (wsV RX1 83 RX1 yX1_plan wsX1_plan) := goodIn_app (goodIn_of _ (by decide +kernel)) ggX1_setUp_X1_plan
set_option maxRecDepth 20000 in
theorem ggX1_setUp_X1_swapChain : GoodIn wsX1_setUp wsX1_swapChain := goodIn_r _ [47, 43, 38, 39, 40, 10, 41, 33, 42, 22, 4, 23, 24, 25, 26, 27, 28, 48, 49, 50, 51, 52, 1, 53, 54, 55, 56, 57, 58, 59, 60, 61, 62, 63, 64, 65, 66, 67, 68, 69, 70, 71, 72, 73] (by decide +kernel) (by decide +kernel)
set_option maxRecDepth 20000 in
theorem gX1_setUp_X1_swapChain : GoodIn wsX1_setUp (wsV RX1 87 RX1 yX1_swapChain wsX1_swapChain) := goodIn_app (goodIn_of _ (by decide +kernel)) ggX1_setUp_X1_swapChain
set_option maxRecDepth 20000 in
theorem ggX1_setUp_X1_takeLinks : GoodIn wsX1_setUp wsX1_takeLinks := goodIn_r _ [56, 52, 22, 33, 4, 23, 24, 25, 10, 26, 27, 28, 57, 58, 59, 60, 61, 62, 63, 64, 65, 66, 67, 68, 69, 70, 71, 72, 73] (by decide +kernel) (by decide +kernel)
set_option maxRecDepth 20000 in
theorem gX1_setUp_X1_takeLinks : GoodIn wsX1_setUp (wsV RX1 91 RX1 yX1_takeLinks wsX1_takeLinks) := goodIn_app (goodIn_of _ (by decide +kernel)) ggX1_setUp_X1_takeLinks
theorem dX1_setUp_0 : decode cX1_setUp 0 = .ok (.aload_n 0, 1) := by decide +kernel
theorem dX1_setUp_1 : decode cX1_setUp 1 = .ok (.iload_n 1, 1) := by decide +kernel
theorem dX1_setUp_2 : decode cX1_setUp 2 = .ok (.iload_n 2, 1) := by decide +kernel
theorem dX1_setUp_3 : decode cX1_setUp 3 = .ok (.iload_n 3, 1) := by decide +kernel
theorem dX1_setUp_4 : decode cX1_setUp 4 = .ok (.invokevirtual 83, 3) := by decide +kernel
theorem dX1_setUp_7 : decode cX1_setUp 7 = .ok (.istore 4, 2) := by decide +kernel
theorem dX1_setUp_9 : decode cX1_setUp 9 = .ok (.iload 4, 2) := by decide +kernel
theorem dX1_setUp_11 : decode cX1_setUp 11 = .ok (.ldc 65, 2) := by decide +kernel
theorem dX1_setUp_13 : decode cX1_setUp 13 = .ok (.if_icmp .ne 6, 3) := by decide +kernel
theorem dX1_setUp_16 : decode cX1_setUp 16 = .ok (.ldc 65, 2) := by decide +kernel
theorem dX1_setUp_18 : decode cX1_setUp 18 = .ok (.ireturn, 1) := by decide +kernel
theorem dX1_setUp_19 : decode cX1_setUp 19 = .ok (.iload 4, 2) := by decide +kernel
theorem dX1_setUp_21 : decode cX1_setUp 21 = .ok (.ifCond .le 16, 3) := by decide +kernel
theorem dX1_setUp_24 : decode cX1_setUp 24 = .ok (.aload_n 0, 1) := by decide +kernel
theorem dX1_setUp_25 : decode cX1_setUp 25 = .ok (.aload_n 0, 1) := by decide +kernel
theorem dX1_setUp_26 : decode cX1_setUp 26 = .ok (.getfield 59, 3) := by decide +kernel
theorem dX1_setUp_29 : decode cX1_setUp 29 = .ok (.aload_n 0, 1) := by decide +kernel
theorem dX1_setUp_30 : decode cX1_setUp 30 = .ok (.getfield 62, 3) := by decide +kernel
theorem dX1_setUp_33 : decode cX1_setUp 33 = .ok (.iload_n 2, 1) := by decide +kernel
theorem dX1_setUp_34 : decode cX1_setUp 34 = .ok (.invokevirtual 87, 3) := by decide +kernel
theorem dX1_setUp_37 : decode cX1_setUp 37 = .ok (.aload_n 0, 1) := by decide +kernel
theorem dX1_setUp_38 : decode cX1_setUp 38 = .ok (.getfield 28, 3) := by decide +kernel
theorem dX1_setUp_41 : decode cX1_setUp 41 = .ok (.iload_n 1, 1) := by decide +kernel
theorem dX1_setUp_42 : decode cX1_setUp 42 = .ok (.iload_n 2, 1) := by decide +kernel
theorem dX1_setUp_43 : decode cX1_setUp 43 = .ok (.iastore, 1) := by decide +kernel
theorem dX1_setUp_44 : decode cX1_setUp 44 = .ok (.aload_n 0, 1) := by decide +kernel
theorem dX1_setUp_45 : decode cX1_setUp 45 = .ok (.getfield 35, 3) := by decide +kernel
theorem dX1_setUp_48 : decode cX1_setUp 48 = .ok (.iload_n 2, 1) := by decide +kernel
theorem dX1_setUp_49 : decode cX1_setUp 49 = .ok (.iconst 1, 1) := by decide +kernel
theorem dX1_setUp_50 : decode cX1_setUp 50 = .ok (.bastore, 1) := by decide +kernel
theorem dX1_setUp_51 : decode cX1_setUp 51 = .ok (.aload_n 0, 1) := by decide +kernel
theorem dX1_setUp_52 : decode cX1_setUp 52 = .ok (.dup, 1) := by decide +kernel
theorem dX1_setUp_53 : decode cX1_setUp 53 = .ok (.getfield 56, 3) := by decide +kernel
theorem dX1_setUp_56 : decode cX1_setUp 56 = .ok (.iconst 1, 1) := by decide +kernel
theorem dX1_setUp_57 : decode cX1_setUp 57 = .ok (.iadd, 1) := by decide +kernel
theorem dX1_setUp_58 : decode cX1_setUp 58 = .ok (.putfield 56, 3) := by decide +kernel
theorem dX1_setUp_61 : decode cX1_setUp 61 = .ok (.aload_n 0, 1) := by decide +kernel
theorem dX1_setUp_62 : decode cX1_setUp 62 = .ok (.iload_n 1, 1) := by decide +kernel
theorem dX1_setUp_63 : decode cX1_setUp 63 = .ok (.aload_n 0, 1) := by decide +kernel
theorem dX1_setUp_64 : decode cX1_setUp 64 = .ok (.getfield 59, 3) := by decide +kernel
theorem dX1_setUp_67 : decode cX1_setUp 67 = .ok (.invokevirtual 91, 3) := by decide +kernel
theorem dX1_setUp_70 : decode cX1_setUp 70 = .ok (.iload 4, 2) := by decide +kernel
theorem dX1_setUp_72 : decode cX1_setUp 72 = .ok (.ireturn, 1) := by decide +kernel
set_option maxRecDepth 20000 in
theorem ggX1_takeOff_X1_leaveLinks : GoodIn wsX1_takeOff wsX1_leaveLinks := goodIn_r _ [9, 10, 11, 12, 1, 2, 13, 14, 15, 8, 16, 17, 18, 19, 20, 21, 22, 23, 24, 25, 26, 27, 28, 29, 30, 31, 32, 33, 34, 35] (by decide +kernel) (by decide +kernel)
set_option maxRecDepth 20000 in
theorem gX1_takeOff_X1_leaveLinks : GoodIn wsX1_takeOff (wsV RX1 95 RX1 yX1_leaveLinks wsX1_leaveLinks) := goodIn_app (goodIn_of _ (by decide +kernel)) ggX1_takeOff_X1_leaveLinks
theorem dX1_takeOff_0 : decode cX1_takeOff 0 = .ok (.aload_n 0, 1) := by decide +kernel
theorem dX1_takeOff_1 : decode cX1_takeOff 1 = .ok (.getfield 28, 3) := by decide +kernel
theorem dX1_takeOff_4 : decode cX1_takeOff 4 = .ok (.iload_n 1, 1) := by decide +kernel
theorem dX1_takeOff_5 : decode cX1_takeOff 5 = .ok (.iaload, 1) := by decide +kernel
theorem dX1_takeOff_6 : decode cX1_takeOff 6 = .ok (.istore_n 2, 1) := by decide +kernel
theorem dX1_takeOff_7 : decode cX1_takeOff 7 = .ok (.iload_n 2, 1) := by decide +kernel
theorem dX1_takeOff_8 : decode cX1_takeOff 8 = .ok (.ldc 65, 2) := by decide +kernel
theorem dX1_takeOff_10 : decode cX1_takeOff 10 = .ok (.if_icmp .ne 4, 3) := by decide +kernel
theorem dX1_takeOff_13 : decode cX1_takeOff 13 = .ok (.return_, 1) := by decide +kernel
theorem dX1_takeOff_14 : decode cX1_takeOff 14 = .ok (.aload_n 0, 1) := by decide +kernel
theorem dX1_takeOff_15 : decode cX1_takeOff 15 = .ok (.iload_n 1, 1) := by decide +kernel
theorem dX1_takeOff_16 : decode cX1_takeOff 16 = .ok (.invokevirtual 95, 3) := by decide +kernel
theorem dX1_takeOff_19 : decode cX1_takeOff 19 = .ok (.aload_n 0, 1) := by decide +kernel
theorem dX1_takeOff_20 : decode cX1_takeOff 20 = .ok (.getfield 28, 3) := by decide +kernel
theorem dX1_takeOff_23 : decode cX1_takeOff 23 = .ok (.iload_n 1, 1) := by decide +kernel
theorem dX1_takeOff_24 : decode cX1_takeOff 24 = .ok (.ldc 65, 2) := by decide +kernel
theorem dX1_takeOff_26 : decode cX1_takeOff 26 = .ok (.iastore, 1) := by decide +kernel
theorem dX1_takeOff_27 : decode cX1_takeOff 27 = .ok (.aload_n 0, 1) := by decide +kernel
theorem dX1_takeOff_28 : decode cX1_takeOff 28 = .ok (.getfield 35, 3) := by decide +kernel
theorem dX1_takeOff_31 : decode cX1_takeOff 31 = .ok (.iload_n 2, 1) := by decide +kernel
theorem dX1_takeOff_32 : decode cX1_takeOff 32 = .ok (.iconst 0, 1) := by decide +kernel
theorem dX1_takeOff_33 : decode cX1_takeOff 33 = .ok (.bastore, 1) := by decide +kernel
theorem dX1_takeOff_34 : decode cX1_takeOff 34 = .ok (.aload_n 0, 1) := by decide +kernel
theorem dX1_takeOff_35 : decode cX1_takeOff 35 = .ok (.dup, 1) := by decide +kernel
theorem dX1_takeOff_36 : decode cX1_takeOff 36 = .ok (.getfield 56, 3) := by decide +kernel
theorem dX1_takeOff_39 : decode cX1_takeOff 39 = .ok (.iconst 1, 1) := by decide +kernel
theorem dX1_takeOff_40 : decode cX1_takeOff 40 = .ok (.isub, 1) := by decide +kernel
theorem dX1_takeOff_41 : decode cX1_takeOff 41 = .ok (.putfield 56, 3) := by decide +kernel
theorem dX1_takeOff_44 : decode cX1_takeOff 44 = .ok (.return_, 1) := by decide +kernel
set_option maxRecDepth 20000 in
theorem ggX1_killMiddle_X1_takeOff : GoodIn wsX1_killMiddle wsX1_takeOff := goodIn_r _ [13, 5, 8, 14, 15, 16, 17, 18, 12, 19, 20, 2, 21, 22, 23, 24, 25, 26, 27, 68, 69, 70, 71, 72, 73, 74, 75, 76, 77, 78, 79, 80, 81, 82, 83, 84] (by decide +kernel) (by decide +kernel)
set_option maxRecDepth 20000 in
theorem gX1_killMiddle_X1_takeOff : GoodIn wsX1_killMiddle (wsV RX1 99 RX1 yX1_takeOff wsX1_takeOff) := goodIn_app (goodIn_of _ (by decide +kernel)) ggX1_killMiddle_X1_takeOff
set_option maxRecDepth 20000 in
theorem ggX1_killMiddle_X1_setUp : GoodIn wsX1_killMiddle wsX1_setUp := goodIn_r _ [31, 8, 32, 33, 5, 14, 15, 34, 35, 36, 12, 37, 38, 39, 40, 41, 42, 43, 44, 45, 46, 6, 20, 22, 23, 24, 25, 26, 27, 47, 48, 49, 50, 21, 51, 52, 53, 54, 55, 56, 57, 58, 1, 59, 60, 61, 62, 63, 16, 17, 18, 19, 2, 64, 65, 66, 67, 68, 69, 70, 71, 72, 73, 74, 75, 76, 77, 78, 79, 80, 81, 82, 83, 84] (by decide +kernel) (by decide +kernel)
set_option maxRecDepth 20000 in
theorem gX1_killMiddle_X1_setUp : GoodIn wsX1_killMiddle (wsV RX1 102 RX1 yX1_setUp wsX1_setUp) := goodIn_app (goodIn_of _ (by decide +kernel)) ggX1_killMiddle_X1_setUp
theorem dX1_killMiddle_0 : decode cX1_killMiddle 0 = .ok (.iconst 0, 1) := by decide +kernel
theorem dX1_killMiddle_1 : decode cX1_killMiddle 1 = .ok (.istore_n 2, 1) := by decide +kernel
theorem dX1_killMiddle_2 : decode cX1_killMiddle 2 = .ok (.iconst 0, 1) := by decide +kernel
theorem dX1_killMiddle_3 : decode cX1_killMiddle 3 = .ok (.istore_n 3, 1) := by decide +kernel
theorem dX1_killMiddle_4 : decode cX1_killMiddle 4 = .ok (.iload_n 3, 1) := by decide +kernel
theorem dX1_killMiddle_5 : decode cX1_killMiddle 5 = .ok (.aload_n 0, 1) := by decide +kernel
theorem dX1_killMiddle_6 : decode cX1_killMiddle 6 = .ok (.getfield 21, 3) := by decide +kernel
theorem dX1_killMiddle_9 : decode cX1_killMiddle 9 = .ok (.if_icmp .ge 46, 3) := by decide +kernel
theorem dX1_killMiddle_12 : decode cX1_killMiddle 12 = .ok (.aload_n 0, 1) := by decide +kernel
theorem dX1_killMiddle_13 : decode cX1_killMiddle 13 = .ok (.getfield 32, 3) := by decide +kernel
theorem dX1_killMiddle_16 : decode cX1_killMiddle 16 = .ok (.iload_n 3, 1) := by decide +kernel
theorem dX1_killMiddle_17 : decode cX1_killMiddle 17 = .ok (.iaload, 1) := by decide +kernel
theorem dX1_killMiddle_18 : decode cX1_killMiddle 18 = .ok (.iload_n 1, 1) := by decide +kernel
theorem dX1_killMiddle_19 : decode cX1_killMiddle 19 = .ok (.if_icmp .ne 30, 3) := by decide +kernel
theorem dX1_killMiddle_22 : decode cX1_killMiddle 22 = .ok (.aload_n 0, 1) := by decide +kernel
theorem dX1_killMiddle_23 : decode cX1_killMiddle 23 = .ok (.getfield 47, 3) := by decide +kernel
theorem dX1_killMiddle_26 : decode cX1_killMiddle 26 = .ok (.iload_n 2, 1) := by decide +kernel
theorem dX1_killMiddle_27 : decode cX1_killMiddle 27 = .ok (.iload_n 3, 1) := by decide +kernel
theorem dX1_killMiddle_28 : decode cX1_killMiddle 28 = .ok (.iastore, 1) := by decide +kernel
theorem dX1_killMiddle_29 : decode cX1_killMiddle 29 = .ok (.aload_n 0, 1) := by decide +kernel
theorem dX1_killMiddle_30 : decode cX1_killMiddle 30 = .ok (.getfield 50, 3) := by decide +kernel
theorem dX1_killMiddle_33 : decode cX1_killMiddle 33 = .ok (.iload_n 2, 1) := by decide +kernel
theorem dX1_killMiddle_34 : decode cX1_killMiddle 34 = .ok (.aload_n 0, 1) := by decide +kernel
theorem dX1_killMiddle_35 : decode cX1_killMiddle 35 = .ok (.getfield 28, 3) := by decide +kernel
theorem dX1_killMiddle_38 : decode cX1_killMiddle 38 = .ok (.iload_n 3, 1) := by decide +kernel
theorem dX1_killMiddle_39 : decode cX1_killMiddle 39 = .ok (.iaload, 1) := by decide +kernel
theorem dX1_killMiddle_40 : decode cX1_killMiddle 40 = .ok (.iastore, 1) := by decide +kernel
theorem dX1_killMiddle_41 : decode cX1_killMiddle 41 = .ok (.aload_n 0, 1) := by decide +kernel
theorem dX1_killMiddle_42 : decode cX1_killMiddle 42 = .ok (.iload_n 3, 1) := by decide +kernel
theorem dX1_killMiddle_43 : decode cX1_killMiddle 43 = .ok (.invokevirtual 99, 3) := by decide +kernel
theorem dX1_killMiddle_46 : decode cX1_killMiddle 46 = .ok (.iinc 2 1, 3) := by decide +kernel
theorem dX1_killMiddle_49 : decode cX1_killMiddle 49 = .ok (.iinc 3 1, 3) := by decide +kernel
theorem dX1_killMiddle_52 : decode cX1_killMiddle 52 = .ok (.goto (-48), 3) := by decide +kernel
theorem dX1_killMiddle_55 : decode cX1_killMiddle 55 = .ok (.aload_n 0, 1) := by decide +kernel
theorem dX1_killMiddle_56 : decode cX1_killMiddle 56 = .ok (.getfield 24, 3) := by decide +kernel
theorem dX1_killMiddle_59 : decode cX1_killMiddle 59 = .ok (.iload_n 1, 1) := by decide +kernel
theorem dX1_killMiddle_60 : decode cX1_killMiddle 60 = .ok (.iconst 1, 1) := by decide +kernel
theorem dX1_killMiddle_61 : decode cX1_killMiddle 61 = .ok (.bastore, 1) := by decide +kernel
theorem dX1_killMiddle_62 : decode cX1_killMiddle 62 = .ok (.aload_n 0, 1) := by decide +kernel
theorem dX1_killMiddle_63 : decode cX1_killMiddle 63 = .ok (.dup, 1) := by decide +kernel
theorem dX1_killMiddle_64 : decode cX1_killMiddle 64 = .ok (.getfield 53, 3) := by decide +kernel
theorem dX1_killMiddle_67 : decode cX1_killMiddle 67 = .ok (.iconst 1, 1) := by decide +kernel
theorem dX1_killMiddle_68 : decode cX1_killMiddle 68 = .ok (.isub, 1) := by decide +kernel
theorem dX1_killMiddle_69 : decode cX1_killMiddle 69 = .ok (.putfield 53, 3) := by decide +kernel
theorem dX1_killMiddle_72 : decode cX1_killMiddle 72 = .ok (.iconst 0, 1) := by decide +kernel
theorem dX1_killMiddle_73 : decode cX1_killMiddle 73 = .ok (.istore_n 3, 1) := by decide +kernel
theorem dX1_killMiddle_74 : decode cX1_killMiddle 74 = .ok (.iconst 0, 1) := by decide +kernel
theorem dX1_killMiddle_75 : decode cX1_killMiddle 75 = .ok (.istore 4, 2) := by decide +kernel
theorem dX1_killMiddle_77 : decode cX1_killMiddle 77 = .ok (.iload 4, 2) := by decide +kernel
theorem dX1_killMiddle_79 : decode cX1_killMiddle 79 = .ok (.iload_n 2, 1) := by decide +kernel
theorem dX1_killMiddle_80 : decode cX1_killMiddle 80 = .ok (.if_icmp .ge 36, 3) := by decide +kernel
theorem dX1_killMiddle_83 : decode cX1_killMiddle 83 = .ok (.aload_n 0, 1) := by decide +kernel
theorem dX1_killMiddle_84 : decode cX1_killMiddle 84 = .ok (.aload_n 0, 1) := by decide +kernel
theorem dX1_killMiddle_85 : decode cX1_killMiddle 85 = .ok (.getfield 47, 3) := by decide +kernel
theorem dX1_killMiddle_88 : decode cX1_killMiddle 88 = .ok (.iload 4, 2) := by decide +kernel
theorem dX1_killMiddle_90 : decode cX1_killMiddle 90 = .ok (.iaload, 1) := by decide +kernel
theorem dX1_killMiddle_91 : decode cX1_killMiddle 91 = .ok (.aload_n 0, 1) := by decide +kernel
theorem dX1_killMiddle_92 : decode cX1_killMiddle 92 = .ok (.getfield 50, 3) := by decide +kernel
theorem dX1_killMiddle_95 : decode cX1_killMiddle 95 = .ok (.iload 4, 2) := by decide +kernel
theorem dX1_killMiddle_97 : decode cX1_killMiddle 97 = .ok (.iaload, 1) := by decide +kernel
theorem dX1_killMiddle_98 : decode cX1_killMiddle 98 = .ok (.iconst 1, 1) := by decide +kernel
theorem dX1_killMiddle_99 : decode cX1_killMiddle 99 = .ok (.invokevirtual 102, 3) := by decide +kernel
theorem dX1_killMiddle_102 : decode cX1_killMiddle 102 = .ok (.ldc 65, 2) := by decide +kernel
theorem dX1_killMiddle_104 : decode cX1_killMiddle 104 = .ok (.if_icmp .ne 6, 3) := by decide +kernel
theorem dX1_killMiddle_107 : decode cX1_killMiddle 107 = .ok (.iinc 3 1, 3) := by decide +kernel
theorem dX1_killMiddle_110 : decode cX1_killMiddle 110 = .ok (.iinc 4 1, 3) := by decide +kernel
theorem dX1_killMiddle_113 : decode cX1_killMiddle 113 = .ok (.goto (-36), 3) := by decide +kernel
theorem dX1_killMiddle_116 : decode cX1_killMiddle 116 = .ok (.iload_n 3, 1) := by decide +kernel
theorem dX1_killMiddle_117 : decode cX1_killMiddle 117 = .ok (.ireturn, 1) := by decide +kernel
theorem dX1_reviveMiddle_0 : decode cX1_reviveMiddle 0 = .ok (.aload_n 0, 1) := by decide +kernel
theorem dX1_reviveMiddle_1 : decode cX1_reviveMiddle 1 = .ok (.getfield 24, 3) := by decide +kernel
theorem dX1_reviveMiddle_4 : decode cX1_reviveMiddle 4 = .ok (.iload_n 1, 1) := by decide +kernel
theorem dX1_reviveMiddle_5 : decode cX1_reviveMiddle 5 = .ok (.baload, 1) := by decide +kernel
theorem dX1_reviveMiddle_6 : decode cX1_reviveMiddle 6 = .ok (.ifCond .ne 5, 3) := by decide +kernel
theorem dX1_reviveMiddle_9 : decode cX1_reviveMiddle 9 = .ok (.iconst 0, 1) := by decide +kernel
theorem dX1_reviveMiddle_10 : decode cX1_reviveMiddle 10 = .ok (.ireturn, 1) := by decide +kernel
theorem dX1_reviveMiddle_11 : decode cX1_reviveMiddle 11 = .ok (.aload_n 0, 1) := by decide +kernel
theorem dX1_reviveMiddle_12 : decode cX1_reviveMiddle 12 = .ok (.getfield 24, 3) := by decide +kernel
theorem dX1_reviveMiddle_15 : decode cX1_reviveMiddle 15 = .ok (.iload_n 1, 1) := by decide +kernel
theorem dX1_reviveMiddle_16 : decode cX1_reviveMiddle 16 = .ok (.iconst 0, 1) := by decide +kernel
theorem dX1_reviveMiddle_17 : decode cX1_reviveMiddle 17 = .ok (.bastore, 1) := by decide +kernel
theorem dX1_reviveMiddle_18 : decode cX1_reviveMiddle 18 = .ok (.aload_n 0, 1) := by decide +kernel
theorem dX1_reviveMiddle_19 : decode cX1_reviveMiddle 19 = .ok (.dup, 1) := by decide +kernel
theorem dX1_reviveMiddle_20 : decode cX1_reviveMiddle 20 = .ok (.getfield 53, 3) := by decide +kernel
theorem dX1_reviveMiddle_23 : decode cX1_reviveMiddle 23 = .ok (.iconst 1, 1) := by decide +kernel
theorem dX1_reviveMiddle_24 : decode cX1_reviveMiddle 24 = .ok (.iadd, 1) := by decide +kernel
theorem dX1_reviveMiddle_25 : decode cX1_reviveMiddle 25 = .ok (.putfield 53, 3) := by decide +kernel
theorem dX1_reviveMiddle_28 : decode cX1_reviveMiddle 28 = .ok (.iconst 1, 1) := by decide +kernel
theorem dX1_reviveMiddle_29 : decode cX1_reviveMiddle 29 = .ok (.ireturn, 1) := by decide +kernel
set_option maxRecDepth 20000 in
theorem ggX1_planMoves_X1_isFreeFrom : GoodIn wsX1_planMoves wsX1_isFreeFrom := goodIn_r _ [9, 10, 11, 12, 13, 14, 8, 15, 16, 17, 30, 31, 32, 33, 34, 35, 36, 37, 38, 39, 40, 41, 42, 43, 44, 45, 46] (by decide +kernel) (by decide +kernel)
set_option maxRecDepth 20000 in
theorem gX1_planMoves_X1_isFreeFrom : GoodIn wsX1_planMoves (wsV RX1 105 RX1 yX1_isFreeFrom wsX1_isFreeFrom) := goodIn_app (goodIn_of _ (by decide +kernel)) ggX1_planMoves_X1_isFreeFrom
set_option maxRecDepth 20000 in
theorem ggX1_planMoves_X1_isFreeTo : GoodIn wsX1_planMoves wsX1_isFreeTo := goodIn_r _ [21, 10, 22, 12, 13, 14, 8, 15, 16, 17, 30, 31, 32, 33, 34, 35, 36, 37, 38, 39, 40, 41, 42, 43, 44, 45, 46] (by decide +kernel) (by decide +kernel)
set_option maxRecDepth 20000 in
theorem gX1_planMoves_X1_isFreeTo : GoodIn wsX1_planMoves (wsV RX1 109 RX1 yX1_isFreeTo wsX1_isFreeTo) := goodIn_app (goodIn_of _ (by decide +kernel)) ggX1_planMoves_X1_isFreeTo
set_option maxRecDepth 20000 in
theorem ggX1_planMoves_X1_walkChain : GoodIn wsX1_planMoves wsX1_walkChain := goodIn_r _ [26, 22, 27, 28, 11, 29, 12, 13, 14, 8, 15, 16, 17, 30, 31, 32, 33, 34, 35, 36, 37, 38, 39, 40, 41, 42, 43, 44, 45, 46] (by decide +kernel) (by decide +kernel)
set_option maxRecDepth 20000 in
theorem gX1_planMoves_X1_walkChain : GoodIn wsX1_planMoves (wsV RX1 112 RX1 yX1_walkChain wsX1_walkChain) := goodIn_app (goodIn_of _ (by decide +kernel)) ggX1_planMoves_X1_walkChain
theorem dX1_planMoves_0 : decode cX1_planMoves 0 = .ok (.ldc 65, 2) := by decide +kernel
theorem dX1_planMoves_2 : decode cX1_planMoves 2 = .ok (.istore_n 3, 1) := by decide +kernel
theorem dX1_planMoves_3 : decode cX1_planMoves 3 = .ok (.iconst 0, 1) := by decide +kernel
theorem dX1_planMoves_4 : decode cX1_planMoves 4 = .ok (.istore 4, 2) := by decide +kernel
theorem dX1_planMoves_6 : decode cX1_planMoves 6 = .ok (.iload 4, 2) := by decide +kernel
theorem dX1_planMoves_8 : decode cX1_planMoves 8 = .ok (.aload_n 0, 1) := by decide +kernel
theorem dX1_planMoves_9 : decode cX1_planMoves 9 = .ok (.getfield 9, 3) := by decide +kernel
theorem dX1_planMoves_12 : decode cX1_planMoves 12 = .ok (.if_icmp .ge 91, 3) := by decide +kernel
theorem dX1_planMoves_15 : decode cX1_planMoves 15 = .ok (.aload_n 0, 1) := by decide +kernel
theorem dX1_planMoves_16 : decode cX1_planMoves 16 = .ok (.iload 4, 2) := by decide +kernel
theorem dX1_planMoves_18 : decode cX1_planMoves 18 = .ok (.iload_n 1, 1) := by decide +kernel
theorem dX1_planMoves_19 : decode cX1_planMoves 19 = .ok (.invokevirtual 105, 3) := by decide +kernel
theorem dX1_planMoves_22 : decode cX1_planMoves 22 = .ok (.ifCond .ne 6, 3) := by decide +kernel
theorem dX1_planMoves_25 : decode cX1_planMoves 25 = .ok (.goto 72, 3) := by decide +kernel
theorem dX1_planMoves_28 : decode cX1_planMoves 28 = .ok (.iconst 0, 1) := by decide +kernel
theorem dX1_planMoves_29 : decode cX1_planMoves 29 = .ok (.istore 5, 2) := by decide +kernel
theorem dX1_planMoves_31 : decode cX1_planMoves 31 = .ok (.iload 5, 2) := by decide +kernel
theorem dX1_planMoves_33 : decode cX1_planMoves 33 = .ok (.aload_n 0, 1) := by decide +kernel
theorem dX1_planMoves_34 : decode cX1_planMoves 34 = .ok (.getfield 9, 3) := by decide +kernel
theorem dX1_planMoves_37 : decode cX1_planMoves 37 = .ok (.if_icmp .ge 60, 3) := by decide +kernel
theorem dX1_planMoves_40 : decode cX1_planMoves 40 = .ok (.aload_n 0, 1) := by decide +kernel
theorem dX1_planMoves_41 : decode cX1_planMoves 41 = .ok (.iload 5, 2) := by decide +kernel
theorem dX1_planMoves_43 : decode cX1_planMoves 43 = .ok (.iload_n 2, 1) := by decide +kernel
theorem dX1_planMoves_44 : decode cX1_planMoves 44 = .ok (.invokevirtual 109, 3) := by decide +kernel
theorem dX1_planMoves_47 : decode cX1_planMoves 47 = .ok (.ifCond .ne 6, 3) := by decide +kernel
theorem dX1_planMoves_50 : decode cX1_planMoves 50 = .ok (.goto 41, 3) := by decide +kernel
theorem dX1_planMoves_53 : decode cX1_planMoves 53 = .ok (.aload_n 0, 1) := by decide +kernel
theorem dX1_planMoves_54 : decode cX1_planMoves 54 = .ok (.iload 4, 2) := by decide +kernel
theorem dX1_planMoves_56 : decode cX1_planMoves 56 = .ok (.iload 5, 2) := by decide +kernel
theorem dX1_planMoves_58 : decode cX1_planMoves 58 = .ok (.iload_n 2, 1) := by decide +kernel
theorem dX1_planMoves_59 : decode cX1_planMoves 59 = .ok (.invokevirtual 112, 3) := by decide +kernel
theorem dX1_planMoves_62 : decode cX1_planMoves 62 = .ok (.istore 6, 2) := by decide +kernel
theorem dX1_planMoves_64 : decode cX1_planMoves 64 = .ok (.iload_n 3, 1) := by decide +kernel
theorem dX1_planMoves_65 : decode cX1_planMoves 65 = .ok (.ldc 65, 2) := by decide +kernel
theorem dX1_planMoves_67 : decode cX1_planMoves 67 = .ok (.if_icmp .eq 9, 3) := by decide +kernel
theorem dX1_planMoves_70 : decode cX1_planMoves 70 = .ok (.iload 6, 2) := by decide +kernel
theorem dX1_planMoves_72 : decode cX1_planMoves 72 = .ok (.iload_n 3, 1) := by decide +kernel
theorem dX1_planMoves_73 : decode cX1_planMoves 73 = .ok (.if_icmp .ge 18, 3) := by decide +kernel
theorem dX1_planMoves_76 : decode cX1_planMoves 76 = .ok (.iload 6, 2) := by decide +kernel
theorem dX1_planMoves_78 : decode cX1_planMoves 78 = .ok (.istore_n 3, 1) := by decide +kernel
theorem dX1_planMoves_79 : decode cX1_planMoves 79 = .ok (.aload_n 0, 1) := by decide +kernel
theorem dX1_planMoves_80 : decode cX1_planMoves 80 = .ok (.iload 4, 2) := by decide +kernel
theorem dX1_planMoves_82 : decode cX1_planMoves 82 = .ok (.putfield 59, 3) := by decide +kernel
theorem dX1_planMoves_85 : decode cX1_planMoves 85 = .ok (.aload_n 0, 1) := by decide +kernel
theorem dX1_planMoves_86 : decode cX1_planMoves 86 = .ok (.iload 5, 2) := by decide +kernel
theorem dX1_planMoves_88 : decode cX1_planMoves 88 = .ok (.putfield 62, 3) := by decide +kernel
theorem dX1_planMoves_91 : decode cX1_planMoves 91 = .ok (.iinc 5 1, 3) := by decide +kernel
theorem dX1_planMoves_94 : decode cX1_planMoves 94 = .ok (.goto (-63), 3) := by decide +kernel
theorem dX1_planMoves_97 : decode cX1_planMoves 97 = .ok (.iinc 4 1, 3) := by decide +kernel
theorem dX1_planMoves_100 : decode cX1_planMoves 100 = .ok (.goto (-94), 3) := by decide +kernel
theorem dX1_planMoves_103 : decode cX1_planMoves 103 = .ok (.iload_n 3, 1) := by decide +kernel
theorem dX1_planMoves_104 : decode cX1_planMoves 104 = .ok (.ireturn, 1) := by decide +kernel
set_option maxRecDepth 20000 in
theorem ggX1_walkChain_X1_link : GoodIn wsX1_walkChain wsX1_link := goodIn_r _ [10, 11, 12, 13, 14, 15, 16, 17, 18, 19, 20, 21, 22, 23, 24, 25, 26, 27, 28, 29] (by decide +kernel) (by decide +kernel)
set_option maxRecDepth 20000 in
theorem gX1_walkChain_X1_link : GoodIn wsX1_walkChain (wsV RX1 116 RX1 yX1_link wsX1_link) := goodIn_app (goodIn_of _ (by decide +kernel)) ggX1_walkChain_X1_link
theorem dX1_walkChain_0 : decode cX1_walkChain 0 = .ok (.iconst 0, 1) := by decide +kernel
theorem dX1_walkChain_1 : decode cX1_walkChain 1 = .ok (.istore 4, 2) := by decide +kernel
theorem dX1_walkChain_3 : decode cX1_walkChain 3 = .ok (.aload_n 0, 1) := by decide +kernel
theorem dX1_walkChain_4 : decode cX1_walkChain 4 = .ok (.getfield 41, 3) := by decide +kernel
theorem dX1_walkChain_7 : decode cX1_walkChain 7 = .ok (.aload_n 0, 1) := by decide +kernel
theorem dX1_walkChain_8 : decode cX1_walkChain 8 = .ok (.iload_n 1, 1) := by decide +kernel
theorem dX1_walkChain_9 : decode cX1_walkChain 9 = .ok (.iload_n 3, 1) := by decide +kernel
theorem dX1_walkChain_10 : decode cX1_walkChain 10 = .ok (.invokevirtual 116, 3) := by decide +kernel
theorem dX1_walkChain_13 : decode cX1_walkChain 13 = .ok (.iaload, 1) := by decide +kernel
theorem dX1_walkChain_14 : decode cX1_walkChain 14 = .ok (.istore 5, 2) := by decide +kernel
theorem dX1_walkChain_16 : decode cX1_walkChain 16 = .ok (.iload 5, 2) := by decide +kernel
theorem dX1_walkChain_18 : decode cX1_walkChain 18 = .ok (.iconst (-1), 1) := by decide +kernel
theorem dX1_walkChain_19 : decode cX1_walkChain 19 = .ok (.if_icmp .eq 81, 3) := by decide +kernel
theorem dX1_walkChain_22 : decode cX1_walkChain 22 = .ok (.iload 4, 2) := by decide +kernel
theorem dX1_walkChain_24 : decode cX1_walkChain 24 = .ok (.aload_n 0, 1) := by decide +kernel
theorem dX1_walkChain_25 : decode cX1_walkChain 25 = .ok (.getfield 21, 3) := by decide +kernel
theorem dX1_walkChain_28 : decode cX1_walkChain 28 = .ok (.if_icmp .ge 72, 3) := by decide +kernel
theorem dX1_walkChain_31 : decode cX1_walkChain 31 = .ok (.aload_n 0, 1) := by decide +kernel
theorem dX1_walkChain_32 : decode cX1_walkChain 32 = .ok (.getfield 44, 3) := by decide +kernel
theorem dX1_walkChain_35 : decode cX1_walkChain 35 = .ok (.iload 4, 2) := by decide +kernel
theorem dX1_walkChain_37 : decode cX1_walkChain 37 = .ok (.iload 5, 2) := by decide +kernel
theorem dX1_walkChain_39 : decode cX1_walkChain 39 = .ok (.iastore, 1) := by decide +kernel
theorem dX1_walkChain_40 : decode cX1_walkChain 40 = .ok (.iinc 4 1, 3) := by decide +kernel
theorem dX1_walkChain_43 : decode cX1_walkChain 43 = .ok (.iload 4, 2) := by decide +kernel
theorem dX1_walkChain_45 : decode cX1_walkChain 45 = .ok (.iconst 2, 1) := by decide +kernel
theorem dX1_walkChain_46 : decode cX1_walkChain 46 = .ok (.irem, 1) := by decide +kernel
theorem dX1_walkChain_47 : decode cX1_walkChain 47 = .ok (.iconst 1, 1) := by decide +kernel
theorem dX1_walkChain_48 : decode cX1_walkChain 48 = .ok (.if_icmp .ne 7, 3) := by decide +kernel
theorem dX1_walkChain_51 : decode cX1_walkChain 51 = .ok (.iconst 1, 1) := by decide +kernel
theorem dX1_walkChain_52 : decode cX1_walkChain 52 = .ok (.goto 4, 3) := by decide +kernel
theorem dX1_walkChain_55 : decode cX1_walkChain 55 = .ok (.iconst 0, 1) := by decide +kernel
theorem dX1_walkChain_56 : decode cX1_walkChain 56 = .ok (.istore 6, 2) := by decide +kernel
theorem dX1_walkChain_58 : decode cX1_walkChain 58 = .ok (.iload 6, 2) := by decide +kernel
theorem dX1_walkChain_60 : decode cX1_walkChain 60 = .ok (.ifCond .eq 18, 3) := by decide +kernel
theorem dX1_walkChain_63 : decode cX1_walkChain 63 = .ok (.aload_n 0, 1) := by decide +kernel
theorem dX1_walkChain_64 : decode cX1_walkChain 64 = .ok (.getfield 38, 3) := by decide +kernel
theorem dX1_walkChain_67 : decode cX1_walkChain 67 = .ok (.aload_n 0, 1) := by decide +kernel
theorem dX1_walkChain_68 : decode cX1_walkChain 68 = .ok (.iload_n 2, 1) := by decide +kernel
theorem dX1_walkChain_69 : decode cX1_walkChain 69 = .ok (.iload 5, 2) := by decide +kernel
theorem dX1_walkChain_71 : decode cX1_walkChain 71 = .ok (.invokevirtual 116, 3) := by decide +kernel
theorem dX1_walkChain_74 : decode cX1_walkChain 74 = .ok (.iaload, 1) := by decide +kernel
theorem dX1_walkChain_75 : decode cX1_walkChain 75 = .ok (.goto 20, 3) := by decide +kernel
theorem dX1_walkChain_78 : decode cX1_walkChain 78 = .ok (.aload_n 0, 1) := by decide +kernel
theorem dX1_walkChain_79 : decode cX1_walkChain 79 = .ok (.getfield 41, 3) := by decide +kernel
theorem dX1_walkChain_82 : decode cX1_walkChain 82 = .ok (.aload_n 0, 1) := by decide +kernel
theorem dX1_walkChain_83 : decode cX1_walkChain 83 = .ok (.iload_n 1, 1) := by decide +kernel
theorem dX1_walkChain_84 : decode cX1_walkChain 84 = .ok (.aload_n 0, 1) := by decide +kernel
theorem dX1_walkChain_85 : decode cX1_walkChain 85 = .ok (.getfield 28, 3) := by decide +kernel
theorem dX1_walkChain_88 : decode cX1_walkChain 88 = .ok (.iload 5, 2) := by decide +kernel
theorem dX1_walkChain_90 : decode cX1_walkChain 90 = .ok (.iaload, 1) := by decide +kernel
theorem dX1_walkChain_91 : decode cX1_walkChain 91 = .ok (.invokevirtual 116, 3) := by decide +kernel
theorem dX1_walkChain_94 : decode cX1_walkChain 94 = .ok (.iaload, 1) := by decide +kernel
theorem dX1_walkChain_95 : decode cX1_walkChain 95 = .ok (.istore 5, 2) := by decide +kernel
theorem dX1_walkChain_97 : decode cX1_walkChain 97 = .ok (.goto (-81), 3) := by decide +kernel
theorem dX1_walkChain_100 : decode cX1_walkChain 100 = .ok (.iload 4, 2) := by decide +kernel
theorem dX1_walkChain_102 : decode cX1_walkChain 102 = .ok (.ireturn, 1) := by decide +kernel
set_option maxRecDepth 20000 in
theorem ggX1_swapChain_X1_walkChain : GoodIn wsX1_swapChain wsX1_walkChain := goodIn_r _ [6, 7, 8, 1, 9, 10, 11, 12, 13, 5, 14, 15, 16, 27, 28, 29, 30, 31, 32, 33, 34, 35, 36, 37, 38, 39, 40, 41, 42, 43] (by decide +kernel) (by decide +kernel)
set_option maxRecDepth 20000 in
theorem gX1_swapChain_X1_walkChain : GoodIn wsX1_swapChain (wsV RX1 112 RX1 yX1_walkChain wsX1_walkChain) := goodIn_app (goodIn_of _ (by decide +kernel)) ggX1_swapChain_X1_walkChain
set_option maxRecDepth 20000 in
theorem ggX1_swapChain_X1_leaveLinks : GoodIn wsX1_swapChain wsX1_leaveLinks := goodIn_r _ [20, 9, 21, 7, 10, 22, 11, 12, 13, 5, 14, 15, 16, 27, 28, 29, 30, 31, 32, 33, 34, 35, 36, 37, 38, 39, 40, 41, 42, 43] (by decide +kernel) (by decide +kernel)
set_option maxRecDepth 20000 in
theorem gX1_swapChain_X1_leaveLinks : GoodIn wsX1_swapChain (wsV RX1 95 RX1 yX1_leaveLinks wsX1_leaveLinks) := goodIn_app (goodIn_of _ (by decide +kernel)) ggX1_swapChain_X1_leaveLinks
set_option maxRecDepth 20000 in
theorem ggX1_swapChain_X1_takeLinks : GoodIn wsX1_swapChain wsX1_takeLinks := goodIn_r _ [26, 21, 9, 7, 10, 11, 12, 13, 5, 14, 15, 16, 27, 28, 29, 30, 31, 32, 33, 34, 35, 36, 37, 38, 39, 40, 41, 42, 43] (by decide +kernel) (by decide +kernel)
set_option maxRecDepth 20000 in
theorem gX1_swapChain_X1_takeLinks : GoodIn wsX1_swapChain (wsV RX1 91 RX1 yX1_takeLinks wsX1_takeLinks) := goodIn_app (goodIn_of _ (by decide +kernel)) ggX1_swapChain_X1_takeLinks
theorem dX1_swapChain_0 : decode cX1_swapChain 0 = .ok (.aload_n 0, 1) := by decide +kernel
theorem dX1_swapChain_1 : decode cX1_swapChain 1 = .ok (.iload_n 1, 1) := by decide +kernel
theorem dX1_swapChain_2 : decode cX1_swapChain 2 = .ok (.iload_n 2, 1) := by decide +kernel
theorem dX1_swapChain_3 : decode cX1_swapChain 3 = .ok (.iload_n 3, 1) := by decide +kernel
theorem dX1_swapChain_4 : decode cX1_swapChain 4 = .ok (.invokevirtual 112, 3) := by decide +kernel
theorem dX1_swapChain_7 : decode cX1_swapChain 7 = .ok (.istore 4, 2) := by decide +kernel
theorem dX1_swapChain_9 : decode cX1_swapChain 9 = .ok (.iconst 0, 1) := by decide +kernel
theorem dX1_swapChain_10 : decode cX1_swapChain 10 = .ok (.istore 5, 2) := by decide +kernel
theorem dX1_swapChain_12 : decode cX1_swapChain 12 = .ok (.iload 5, 2) := by decide +kernel
theorem dX1_swapChain_14 : decode cX1_swapChain 14 = .ok (.iload 4, 2) := by decide +kernel
theorem dX1_swapChain_16 : decode cX1_swapChain 16 = .ok (.if_icmp .ge 20, 3) := by decide +kernel
theorem dX1_swapChain_19 : decode cX1_swapChain 19 = .ok (.aload_n 0, 1) := by decide +kernel
theorem dX1_swapChain_20 : decode cX1_swapChain 20 = .ok (.aload_n 0, 1) := by decide +kernel
theorem dX1_swapChain_21 : decode cX1_swapChain 21 = .ok (.getfield 44, 3) := by decide +kernel
theorem dX1_swapChain_24 : decode cX1_swapChain 24 = .ok (.iload 5, 2) := by decide +kernel
theorem dX1_swapChain_26 : decode cX1_swapChain 26 = .ok (.iaload, 1) := by decide +kernel
theorem dX1_swapChain_27 : decode cX1_swapChain 27 = .ok (.invokevirtual 95, 3) := by decide +kernel
theorem dX1_swapChain_30 : decode cX1_swapChain 30 = .ok (.iinc 5 1, 3) := by decide +kernel
theorem dX1_swapChain_33 : decode cX1_swapChain 33 = .ok (.goto (-21), 3) := by decide +kernel
theorem dX1_swapChain_36 : decode cX1_swapChain 36 = .ok (.iconst 0, 1) := by decide +kernel
theorem dX1_swapChain_37 : decode cX1_swapChain 37 = .ok (.istore 5, 2) := by decide +kernel
theorem dX1_swapChain_39 : decode cX1_swapChain 39 = .ok (.iload 5, 2) := by decide +kernel
theorem dX1_swapChain_41 : decode cX1_swapChain 41 = .ok (.iload 4, 2) := by decide +kernel
theorem dX1_swapChain_43 : decode cX1_swapChain 43 = .ok (.if_icmp .ge 32, 3) := by decide +kernel
theorem dX1_swapChain_46 : decode cX1_swapChain 46 = .ok (.aload_n 0, 1) := by decide +kernel
theorem dX1_swapChain_47 : decode cX1_swapChain 47 = .ok (.aload_n 0, 1) := by decide +kernel
theorem dX1_swapChain_48 : decode cX1_swapChain 48 = .ok (.getfield 44, 3) := by decide +kernel
theorem dX1_swapChain_51 : decode cX1_swapChain 51 = .ok (.iload 5, 2) := by decide +kernel
theorem dX1_swapChain_53 : decode cX1_swapChain 53 = .ok (.iaload, 1) := by decide +kernel
theorem dX1_swapChain_54 : decode cX1_swapChain 54 = .ok (.iload 5, 2) := by decide +kernel
theorem dX1_swapChain_56 : decode cX1_swapChain 56 = .ok (.iconst 2, 1) := by decide +kernel
theorem dX1_swapChain_57 : decode cX1_swapChain 57 = .ok (.irem, 1) := by decide +kernel
theorem dX1_swapChain_58 : decode cX1_swapChain 58 = .ok (.ifCond .ne 7, 3) := by decide +kernel
theorem dX1_swapChain_61 : decode cX1_swapChain 61 = .ok (.iload_n 2, 1) := by decide +kernel
theorem dX1_swapChain_62 : decode cX1_swapChain 62 = .ok (.goto 4, 3) := by decide +kernel
theorem dX1_swapChain_65 : decode cX1_swapChain 65 = .ok (.iload_n 1, 1) := by decide +kernel
theorem dX1_swapChain_66 : decode cX1_swapChain 66 = .ok (.invokevirtual 91, 3) := by decide +kernel
theorem dX1_swapChain_69 : decode cX1_swapChain 69 = .ok (.iinc 5 1, 3) := by decide +kernel
theorem dX1_swapChain_72 : decode cX1_swapChain 72 = .ok (.goto (-33), 3) := by decide +kernel
theorem dX1_swapChain_75 : decode cX1_swapChain 75 = .ok (.return_, 1) := by decide +kernel
set_option maxRecDepth 20000 in
theorem ggX1_takeLinks_X1_link : GoodIn wsX1_takeLinks wsX1_link := goodIn_r _ [9, 10, 11, 12, 13, 14, 15, 16, 17, 18, 19, 20, 21, 22, 23, 24, 25, 26, 27, 28] (by decide +kernel) (by decide +kernel)
set_option maxRecDepth 20000 in
theorem gX1_takeLinks_X1_link : GoodIn wsX1_takeLinks (wsV RX1 116 RX1 yX1_link wsX1_link) := goodIn_app (goodIn_of _ (by decide +kernel)) ggX1_takeLinks_X1_link
theorem dX1_takeLinks_0 : decode cX1_takeLinks 0 = .ok (.aload_n 0, 1) := by decide +kernel
theorem dX1_takeLinks_1 : decode cX1_takeLinks 1 = .ok (.getfield 32, 3) := by decide +kernel
theorem dX1_takeLinks_4 : decode cX1_takeLinks 4 = .ok (.iload_n 1, 1) := by decide +kernel
theorem dX1_takeLinks_5 : decode cX1_takeLinks 5 = .ok (.iload_n 2, 1) := by decide +kernel
theorem dX1_takeLinks_6 : decode cX1_takeLinks 6 = .ok (.iastore, 1) := by decide +kernel
theorem dX1_takeLinks_7 : decode cX1_takeLinks 7 = .ok (.aload_n 0, 1) := by decide +kernel
theorem dX1_takeLinks_8 : decode cX1_takeLinks 8 = .ok (.getfield 38, 3) := by decide +kernel
theorem dX1_takeLinks_11 : decode cX1_takeLinks 11 = .ok (.aload_n 0, 1) := by decide +kernel
theorem dX1_takeLinks_12 : decode cX1_takeLinks 12 = .ok (.iload_n 2, 1) := by decide +kernel
theorem dX1_takeLinks_13 : decode cX1_takeLinks 13 = .ok (.iload_n 1, 1) := by decide +kernel
theorem dX1_takeLinks_14 : decode cX1_takeLinks 14 = .ok (.invokevirtual 116, 3) := by decide +kernel
theorem dX1_takeLinks_17 : decode cX1_takeLinks 17 = .ok (.iload_n 1, 1) := by decide +kernel
theorem dX1_takeLinks_18 : decode cX1_takeLinks 18 = .ok (.iastore, 1) := by decide +kernel
theorem dX1_takeLinks_19 : decode cX1_takeLinks 19 = .ok (.aload_n 0, 1) := by decide +kernel
theorem dX1_takeLinks_20 : decode cX1_takeLinks 20 = .ok (.getfield 41, 3) := by decide +kernel
theorem dX1_takeLinks_23 : decode cX1_takeLinks 23 = .ok (.aload_n 0, 1) := by decide +kernel
theorem dX1_takeLinks_24 : decode cX1_takeLinks 24 = .ok (.iload_n 2, 1) := by decide +kernel
theorem dX1_takeLinks_25 : decode cX1_takeLinks 25 = .ok (.aload_n 0, 1) := by decide +kernel
theorem dX1_takeLinks_26 : decode cX1_takeLinks 26 = .ok (.getfield 28, 3) := by decide +kernel
theorem dX1_takeLinks_29 : decode cX1_takeLinks 29 = .ok (.iload_n 1, 1) := by decide +kernel
theorem dX1_takeLinks_30 : decode cX1_takeLinks 30 = .ok (.iaload, 1) := by decide +kernel
theorem dX1_takeLinks_31 : decode cX1_takeLinks 31 = .ok (.invokevirtual 116, 3) := by decide +kernel
theorem dX1_takeLinks_34 : decode cX1_takeLinks 34 = .ok (.iload_n 1, 1) := by decide +kernel
theorem dX1_takeLinks_35 : decode cX1_takeLinks 35 = .ok (.iastore, 1) := by decide +kernel
theorem dX1_takeLinks_36 : decode cX1_takeLinks 36 = .ok (.return_, 1) := by decide +kernel
set_option maxRecDepth 20000 in
theorem ggX1_leaveLinks_X1_link : GoodIn wsX1_leaveLinks wsX1_link := goodIn_r _ [10, 11, 12, 13, 14, 15, 16, 17, 18, 19, 20, 21, 22, 23, 24, 25, 26, 27, 28, 29] (by decide +kernel) (by decide +kernel)
set_option maxRecDepth 20000 in
theorem gX1_leaveLinks_X1_link : GoodIn wsX1_leaveLinks (wsV RX1 116 RX1 yX1_link wsX1_link) := goodIn_app (goodIn_of _ (by decide +kernel)) ggX1_leaveLinks_X1_link
theorem dX1_leaveLinks_0 : decode cX1_leaveLinks 0 = .ok (.aload_n 0, 1) := by decide +kernel
theorem dX1_leaveLinks_1 : decode cX1_leaveLinks 1 = .ok (.getfield 38, 3) := by decide +kernel
theorem dX1_leaveLinks_4 : decode cX1_leaveLinks 4 = .ok (.aload_n 0, 1) := by decide +kernel
theorem dX1_leaveLinks_5 : decode cX1_leaveLinks 5 = .ok (.aload_n 0, 1) := by decide +kernel
theorem dX1_leaveLinks_6 : decode cX1_leaveLinks 6 = .ok (.getfield 32, 3) := by decide +kernel
theorem dX1_leaveLinks_9 : decode cX1_leaveLinks 9 = .ok (.iload_n 1, 1) := by decide +kernel
theorem dX1_leaveLinks_10 : decode cX1_leaveLinks 10 = .ok (.iaload, 1) := by decide +kernel
theorem dX1_leaveLinks_11 : decode cX1_leaveLinks 11 = .ok (.iload_n 1, 1) := by decide +kernel
theorem dX1_leaveLinks_12 : decode cX1_leaveLinks 12 = .ok (.invokevirtual 116, 3) := by decide +kernel
theorem dX1_leaveLinks_15 : decode cX1_leaveLinks 15 = .ok (.iconst (-1), 1) := by decide +kernel
theorem dX1_leaveLinks_16 : decode cX1_leaveLinks 16 = .ok (.iastore, 1) := by decide +kernel
theorem dX1_leaveLinks_17 : decode cX1_leaveLinks 17 = .ok (.aload_n 0, 1) := by decide +kernel
theorem dX1_leaveLinks_18 : decode cX1_leaveLinks 18 = .ok (.getfield 41, 3) := by decide +kernel
theorem dX1_leaveLinks_21 : decode cX1_leaveLinks 21 = .ok (.aload_n 0, 1) := by decide +kernel
theorem dX1_leaveLinks_22 : decode cX1_leaveLinks 22 = .ok (.aload_n 0, 1) := by decide +kernel
theorem dX1_leaveLinks_23 : decode cX1_leaveLinks 23 = .ok (.getfield 32, 3) := by decide +kernel
theorem dX1_leaveLinks_26 : decode cX1_leaveLinks 26 = .ok (.iload_n 1, 1) := by decide +kernel
theorem dX1_leaveLinks_27 : decode cX1_leaveLinks 27 = .ok (.iaload, 1) := by decide +kernel
theorem dX1_leaveLinks_28 : decode cX1_leaveLinks 28 = .ok (.aload_n 0, 1) := by decide +kernel
theorem dX1_leaveLinks_29 : decode cX1_leaveLinks 29 = .ok (.getfield 28, 3) := by decide +kernel
theorem dX1_leaveLinks_32 : decode cX1_leaveLinks 32 = .ok (.iload_n 1, 1) := by decide +kernel
theorem dX1_leaveLinks_33 : decode cX1_leaveLinks 33 = .ok (.iaload, 1) := by decide +kernel
theorem dX1_leaveLinks_34 : decode cX1_leaveLinks 34 = .ok (.invokevirtual 116, 3) := by decide +kernel
theorem dX1_leaveLinks_37 : decode cX1_leaveLinks 37 = .ok (.iconst (-1), 1) := by decide +kernel
theorem dX1_leaveLinks_38 : decode cX1_leaveLinks 38 = .ok (.iastore, 1) := by decide +kernel
theorem dX1_leaveLinks_39 : decode cX1_leaveLinks 39 = .ok (.aload_n 0, 1) := by decide +kernel
theorem dX1_leaveLinks_40 : decode cX1_leaveLinks 40 = .ok (.getfield 32, 3) := by decide +kernel
theorem dX1_leaveLinks_43 : decode cX1_leaveLinks 43 = .ok (.iload_n 1, 1) := by decide +kernel
theorem dX1_leaveLinks_44 : decode cX1_leaveLinks 44 = .ok (.ldc 65, 2) := by decide +kernel
theorem dX1_leaveLinks_46 : decode cX1_leaveLinks 46 = .ok (.iastore, 1) := by decide +kernel
theorem dX1_leaveLinks_47 : decode cX1_leaveLinks 47 = .ok (.return_, 1) := by decide +kernel
set_option maxRecDepth 20000 in
theorem ggX1_isFree_X1_isFreeFrom : GoodIn wsX1_isFree wsX1_isFreeFrom := goodIn_r _ [5, 6, 7, 8, 9, 10, 4, 11, 12, 13, 19, 20, 21, 22, 23, 24, 25, 26, 27, 28, 29, 30, 31, 32, 33, 34, 35] (by decide +kernel) (by decide +kernel)
set_option maxRecDepth 20000 in
theorem gX1_isFree_X1_isFreeFrom : GoodIn wsX1_isFree (wsV RX1 105 RX1 yX1_isFreeFrom wsX1_isFreeFrom) := goodIn_app (goodIn_of _ (by decide +kernel)) ggX1_isFree_X1_isFreeFrom
set_option maxRecDepth 20000 in
theorem ggX1_isFree_X1_isFreeTo : GoodIn wsX1_isFree wsX1_isFreeTo := goodIn_r _ [17, 6, 18, 8, 9, 10, 4, 11, 12, 13, 19, 20, 21, 22, 23, 24, 25, 26, 27, 28, 29, 30, 31, 32, 33, 34, 35] (by decide +kernel) (by decide +kernel)
set_option maxRecDepth 20000 in
theorem gX1_isFree_X1_isFreeTo : GoodIn wsX1_isFree (wsV RX1 109 RX1 yX1_isFreeTo wsX1_isFreeTo) := goodIn_app (goodIn_of _ (by decide +kernel)) ggX1_isFree_X1_isFreeTo
theorem dX1_isFree_0 : decode cX1_isFree 0 = .ok (.aload_n 0, 1) := by decide +kernel
theorem dX1_isFree_1 : decode cX1_isFree 1 = .ok (.iload_n 1, 1) := by decide +kernel
theorem dX1_isFree_2 : decode cX1_isFree 2 = .ok (.iload_n 2, 1) := by decide +kernel
theorem dX1_isFree_3 : decode cX1_isFree 3 = .ok (.invokevirtual 105, 3) := by decide +kernel
theorem dX1_isFree_6 : decode cX1_isFree 6 = .ok (.ifCond .eq 16, 3) := by decide +kernel
theorem dX1_isFree_9 : decode cX1_isFree 9 = .ok (.aload_n 0, 1) := by decide +kernel
theorem dX1_isFree_10 : decode cX1_isFree 10 = .ok (.iload_n 1, 1) := by decide +kernel
theorem dX1_isFree_11 : decode cX1_isFree 11 = .ok (.iload_n 3, 1) := by decide +kernel
theorem dX1_isFree_12 : decode cX1_isFree 12 = .ok (.invokevirtual 109, 3) := by decide +kernel
theorem dX1_isFree_15 : decode cX1_isFree 15 = .ok (.ifCond .eq 7, 3) := by decide +kernel
theorem dX1_isFree_18 : decode cX1_isFree 18 = .ok (.iconst 1, 1) := by decide +kernel
theorem dX1_isFree_19 : decode cX1_isFree 19 = .ok (.goto 4, 3) := by decide +kernel
theorem dX1_isFree_22 : decode cX1_isFree 22 = .ok (.iconst 0, 1) := by decide +kernel
theorem dX1_isFree_23 : decode cX1_isFree 23 = .ok (.ireturn, 1) := by decide +kernel
set_option maxRecDepth 20000 in
theorem ggX1_isFreeFrom_X1_link : GoodIn wsX1_isFreeFrom wsX1_link := goodIn_r _ [7, 8, 9, 10, 11, 12, 13, 14, 15, 16, 17, 18, 19, 20, 21, 22, 23, 24, 25, 26] (by decide +kernel) (by decide +kernel)
set_option maxRecDepth 20000 in
theorem gX1_isFreeFrom_X1_link : GoodIn wsX1_isFreeFrom (wsV RX1 116 RX1 yX1_link wsX1_link) := goodIn_app (goodIn_of _ (by decide +kernel)) ggX1_isFreeFrom_X1_link
theorem dX1_isFreeFrom_0 : decode cX1_isFreeFrom 0 = .ok (.aload_n 0, 1) := by decide +kernel
theorem dX1_isFreeFrom_1 : decode cX1_isFreeFrom 1 = .ok (.getfield 24, 3) := by decide +kernel
theorem dX1_isFreeFrom_4 : decode cX1_isFreeFrom 4 = .ok (.iload_n 1, 1) := by decide +kernel
theorem dX1_isFreeFrom_5 : decode cX1_isFreeFrom 5 = .ok (.baload, 1) := by decide +kernel
theorem dX1_isFreeFrom_6 : decode cX1_isFreeFrom 6 = .ok (.ifCond .ne 22, 3) := by decide +kernel
theorem dX1_isFreeFrom_9 : decode cX1_isFreeFrom 9 = .ok (.aload_n 0, 1) := by decide +kernel
theorem dX1_isFreeFrom_10 : decode cX1_isFreeFrom 10 = .ok (.getfield 38, 3) := by decide +kernel
theorem dX1_isFreeFrom_13 : decode cX1_isFreeFrom 13 = .ok (.aload_n 0, 1) := by decide +kernel
theorem dX1_isFreeFrom_14 : decode cX1_isFreeFrom 14 = .ok (.iload_n 1, 1) := by decide +kernel
theorem dX1_isFreeFrom_15 : decode cX1_isFreeFrom 15 = .ok (.iload_n 2, 1) := by decide +kernel
theorem dX1_isFreeFrom_16 : decode cX1_isFreeFrom 16 = .ok (.invokevirtual 116, 3) := by decide +kernel
theorem dX1_isFreeFrom_19 : decode cX1_isFreeFrom 19 = .ok (.iaload, 1) := by decide +kernel
theorem dX1_isFreeFrom_20 : decode cX1_isFreeFrom 20 = .ok (.iconst (-1), 1) := by decide +kernel
theorem dX1_isFreeFrom_21 : decode cX1_isFreeFrom 21 = .ok (.if_icmp .ne 7, 3) := by decide +kernel
theorem dX1_isFreeFrom_24 : decode cX1_isFreeFrom 24 = .ok (.iconst 1, 1) := by decide +kernel
theorem dX1_isFreeFrom_25 : decode cX1_isFreeFrom 25 = .ok (.goto 4, 3) := by decide +kernel
theorem dX1_isFreeFrom_28 : decode cX1_isFreeFrom 28 = .ok (.iconst 0, 1) := by decide +kernel
theorem dX1_isFreeFrom_29 : decode cX1_isFreeFrom 29 = .ok (.ireturn, 1) := by decide +kernel
set_option maxRecDepth 20000 in
theorem ggX1_isFreeTo_X1_link : GoodIn wsX1_isFreeTo wsX1_link := goodIn_r _ [7, 8, 9, 10, 11, 12, 13, 14, 15, 16, 17, 18, 19, 20, 21, 22, 23, 24, 25, 26] (by decide +kernel) (by decide +kernel)
set_option maxRecDepth 20000 in
theorem gX1_isFreeTo_X1_link : GoodIn wsX1_isFreeTo (wsV RX1 116 RX1 yX1_link wsX1_link) := goodIn_app (goodIn_of _ (by decide +kernel)) ggX1_isFreeTo_X1_link
theorem dX1_isFreeTo_0 : decode cX1_isFreeTo 0 = .ok (.aload_n 0, 1) := by decide +kernel
theorem dX1_isFreeTo_1 : decode cX1_isFreeTo 1 = .ok (.getfield 24, 3) := by decide +kernel
theorem dX1_isFreeTo_4 : decode cX1_isFreeTo 4 = .ok (.iload_n 1, 1) := by decide +kernel
theorem dX1_isFreeTo_5 : decode cX1_isFreeTo 5 = .ok (.baload, 1) := by decide +kernel
theorem dX1_isFreeTo_6 : decode cX1_isFreeTo 6 = .ok (.ifCond .ne 22, 3) := by decide +kernel
theorem dX1_isFreeTo_9 : decode cX1_isFreeTo 9 = .ok (.aload_n 0, 1) := by decide +kernel
theorem dX1_isFreeTo_10 : decode cX1_isFreeTo 10 = .ok (.getfield 41, 3) := by decide +kernel
theorem dX1_isFreeTo_13 : decode cX1_isFreeTo 13 = .ok (.aload_n 0, 1) := by decide +kernel
theorem dX1_isFreeTo_14 : decode cX1_isFreeTo 14 = .ok (.iload_n 1, 1) := by decide +kernel
theorem dX1_isFreeTo_15 : decode cX1_isFreeTo 15 = .ok (.iload_n 2, 1) := by decide +kernel
theorem dX1_isFreeTo_16 : decode cX1_isFreeTo 16 = .ok (.invokevirtual 116, 3) := by decide +kernel
theorem dX1_isFreeTo_19 : decode cX1_isFreeTo 19 = .ok (.iaload, 1) := by decide +kernel
theorem dX1_isFreeTo_20 : decode cX1_isFreeTo 20 = .ok (.iconst (-1), 1) := by decide +kernel
theorem dX1_isFreeTo_21 : decode cX1_isFreeTo 21 = .ok (.if_icmp .ne 7, 3) := by decide +kernel
theorem dX1_isFreeTo_24 : decode cX1_isFreeTo 24 = .ok (.iconst 1, 1) := by decide +kernel
theorem dX1_isFreeTo_25 : decode cX1_isFreeTo 25 = .ok (.goto 4, 3) := by decide +kernel
theorem dX1_isFreeTo_28 : decode cX1_isFreeTo 28 = .ok (.iconst 0, 1) := by decide +kernel
theorem dX1_isFreeTo_29 : decode cX1_isFreeTo 29 = .ok (.ireturn, 1) := by decide +kernel
theorem dX1_link_0 : decode cX1_link 0 = .ok (.iload_n 1, 1) := by decide +kernel
theorem dX1_link_1 : decode cX1_link 1 = .ok (.aload_n 0, 1) := by decide +kernel
theorem dX1_link_2 : decode cX1_link 2 = .ok (.getfield 18, 3) := by decide +kernel
theorem dX1_link_5 : decode cX1_link 5 = .ok (.imul, 1) := by decide +kernel
theorem dX1_link_6 : decode cX1_link 6 = .ok (.iload_n 2, 1) := by decide +kernel
theorem dX1_link_7 : decode cX1_link 7 = .ok (.aload_n 0, 1) := by decide +kernel
theorem dX1_link_8 : decode cX1_link 8 = .ok (.getfield 15, 3) := by decide +kernel
theorem dX1_link_11 : decode cX1_link 11 = .ok (.idiv, 1) := by decide +kernel
theorem dX1_link_12 : decode cX1_link 12 = .ok (.iadd, 1) := by decide +kernel
theorem dX1_link_13 : decode cX1_link 13 = .ok (.ireturn, 1) := by decide +kernel
theorem dX2_init_0 : decode cX2_init 0 = .ok (.aload_n 0, 1) := by decide +kernel
theorem dX2_init_1 : decode cX2_init 1 = .ok (.invokespecial 3, 3) := by decide +kernel
theorem dX2_init_4 : decode cX2_init 4 = .ok (.aload_n 0, 1) := by decide +kernel
theorem dX2_init_5 : decode cX2_init 5 = .ok (.bipush 6, 2) := by decide +kernel
theorem dX2_init_7 : decode cX2_init 7 = .ok (.newarray .int, 2) := by decide +kernel
theorem dX2_init_9 : decode cX2_init 9 = .ok (.putfield 9, 3) := by decide +kernel
theorem dX2_init_12 : decode cX2_init 12 = .ok (.aload_n 0, 1) := by decide +kernel
theorem dX2_init_13 : decode cX2_init 13 = .ok (.bipush 6, 2) := by decide +kernel
theorem dX2_init_15 : decode cX2_init 15 = .ok (.bipush 6, 2) := by decide +kernel
theorem dX2_init_17 : decode cX2_init 17 = .ok (.multianewarray 15 2, 4) := by decide +kernel
theorem dX2_init_21 : decode cX2_init 21 = .ok (.putfield 17, 3) := by decide +kernel
theorem dX2_init_24 : decode cX2_init 24 = .ok (.return_, 1) := by decide +kernel
set_option maxRecDepth 20000 in
theorem ggX2_takeTable_X5_within : GoodIn wsX2_takeTable wsX5_within := goodIn_r _ [6] (by decide +kernel) (by decide +kernel)
set_option maxRecDepth 20000 in
theorem gX2_takeTable_X5_within_n29 : GoodIn wsX2_takeTable (wsX5_within) := ggX2_takeTable_X5_within
set_option maxRecDepth 20000 in
theorem ggX2_takeTable_X2_sumOfRow : GoodIn wsX2_takeTable wsX2_sumOfRow := goodIn_r _ [11, 1, 3, 16, 17, 18, 19] (by decide +kernel) (by decide +kernel)
set_option maxRecDepth 20000 in
theorem gX2_takeTable_X2_sumOfRow : GoodIn wsX2_takeTable (wsV RX2 33 RX2 yX2_sumOfRow wsX2_sumOfRow) := goodIn_app (goodIn_of _ (by decide +kernel)) ggX2_takeTable_X2_sumOfRow
set_option maxRecDepth 20000 in
theorem ggX2_takeTable_X2_sumOfColumn : GoodIn wsX2_takeTable wsX2_sumOfColumn := goodIn_r _ [15, 1, 3, 16, 17, 18, 19] (by decide +kernel) (by decide +kernel)
set_option maxRecDepth 20000 in
theorem gX2_takeTable_X2_sumOfColumn : GoodIn wsX2_takeTable (wsV RX2 37 RX2 yX2_sumOfColumn wsX2_sumOfColumn) := goodIn_app (goodIn_of _ (by decide +kernel)) ggX2_takeTable_X2_sumOfColumn
theorem dX2_takeTable_0 : decode cX2_takeTable 0 = .ok (.aload_n 0, 1) := by decide +kernel
theorem dX2_takeTable_1 : decode cX2_takeTable 1 = .ok (.iload_n 3, 1) := by decide +kernel
theorem dX2_takeTable_2 : decode cX2_takeTable 2 = .ok (.putfield 20, 3) := by decide +kernel
theorem dX2_takeTable_5 : decode cX2_takeTable 5 = .ok (.iconst 0, 1) := by decide +kernel
theorem dX2_takeTable_6 : decode cX2_takeTable 6 = .ok (.istore 4, 2) := by decide +kernel
theorem dX2_takeTable_8 : decode cX2_takeTable 8 = .ok (.iload 4, 2) := by decide +kernel
theorem dX2_takeTable_10 : decode cX2_takeTable 10 = .ok (.iload_n 3, 1) := by decide +kernel
theorem dX2_takeTable_11 : decode cX2_takeTable 11 = .ok (.if_icmp .ge 66, 3) := by decide +kernel
theorem dX2_takeTable_14 : decode cX2_takeTable 14 = .ok (.iconst 0, 1) := by decide +kernel
theorem dX2_takeTable_15 : decode cX2_takeTable 15 = .ok (.istore 5, 2) := by decide +kernel
theorem dX2_takeTable_17 : decode cX2_takeTable 17 = .ok (.iload 5, 2) := by decide +kernel
theorem dX2_takeTable_19 : decode cX2_takeTable 19 = .ok (.iload_n 3, 1) := by decide +kernel
theorem dX2_takeTable_20 : decode cX2_takeTable 20 = .ok (.if_icmp .ge 51, 3) := by decide +kernel
theorem dX2_takeTable_23 : decode cX2_takeTable 23 = .ok (.aload_n 1, 1) := by decide +kernel
theorem dX2_takeTable_24 : decode cX2_takeTable 24 = .ok (.getfield 24, 3) := by decide +kernel
theorem dX2_takeTable_27 : decode cX2_takeTable 27 = .ok (.iload_n 2, 1) := by decide +kernel
theorem dX2_takeTable_28 : decode cX2_takeTable 28 = .ok (.iload 4, 2) := by decide +kernel
theorem dX2_takeTable_30 : decode cX2_takeTable 30 = .ok (.iload_n 3, 1) := by decide +kernel
theorem dX2_takeTable_31 : decode cX2_takeTable 31 = .ok (.imul, 1) := by decide +kernel
theorem dX2_takeTable_32 : decode cX2_takeTable 32 = .ok (.iadd, 1) := by decide +kernel
theorem dX2_takeTable_33 : decode cX2_takeTable 33 = .ok (.iload 5, 2) := by decide +kernel
theorem dX2_takeTable_35 : decode cX2_takeTable 35 = .ok (.iadd, 1) := by decide +kernel
theorem dX2_takeTable_36 : decode cX2_takeTable 36 = .ok (.iaload, 1) := by decide +kernel
theorem dX2_takeTable_37 : decode cX2_takeTable 37 = .ok (.istore 6, 2) := by decide +kernel
theorem dX2_takeTable_39 : decode cX2_takeTable 39 = .ok (.iload 6, 2) := by decide +kernel
theorem dX2_takeTable_41 : decode cX2_takeTable 41 = .ok (.iconst 0, 1) := by decide +kernel
theorem dX2_takeTable_42 : decode cX2_takeTable 42 = .ok (.sipush 1000, 3) := by decide +kernel
theorem dX2_takeTable_45 : decode cX2_takeTable 45 = .ok (.invokestatic 29, 3) := by decide +kernel
theorem dX2_takeTable_48 : decode cX2_takeTable 48 = .ok (.ifCond .ne 5, 3) := by decide +kernel
theorem dX2_takeTable_51 : decode cX2_takeTable 51 = .ok (.iconst 0, 1) := by decide +kernel
theorem dX2_takeTable_52 : decode cX2_takeTable 52 = .ok (.ireturn, 1) := by decide +kernel
theorem dX2_takeTable_53 : decode cX2_takeTable 53 = .ok (.aload_n 0, 1) := by decide +kernel
theorem dX2_takeTable_54 : decode cX2_takeTable 54 = .ok (.getfield 17, 3) := by decide +kernel
theorem dX2_takeTable_57 : decode cX2_takeTable 57 = .ok (.iload 4, 2) := by decide +kernel
theorem dX2_takeTable_59 : decode cX2_takeTable 59 = .ok (.aaload, 1) := by decide +kernel
theorem dX2_takeTable_60 : decode cX2_takeTable 60 = .ok (.iload 5, 2) := by decide +kernel
theorem dX2_takeTable_62 : decode cX2_takeTable 62 = .ok (.iload 6, 2) := by decide +kernel
theorem dX2_takeTable_64 : decode cX2_takeTable 64 = .ok (.iastore, 1) := by decide +kernel
theorem dX2_takeTable_65 : decode cX2_takeTable 65 = .ok (.iinc 5 1, 3) := by decide +kernel
theorem dX2_takeTable_68 : decode cX2_takeTable 68 = .ok (.goto (-51), 3) := by decide +kernel
theorem dX2_takeTable_71 : decode cX2_takeTable 71 = .ok (.iinc 4 1, 3) := by decide +kernel
theorem dX2_takeTable_74 : decode cX2_takeTable 74 = .ok (.goto (-66), 3) := by decide +kernel
theorem dX2_takeTable_77 : decode cX2_takeTable 77 = .ok (.aload_n 0, 1) := by decide +kernel
theorem dX2_takeTable_78 : decode cX2_takeTable 78 = .ok (.iconst 0, 1) := by decide +kernel
theorem dX2_takeTable_79 : decode cX2_takeTable 79 = .ok (.invokevirtual 33, 3) := by decide +kernel
theorem dX2_takeTable_82 : decode cX2_takeTable 82 = .ok (.istore 4, 2) := by decide +kernel
theorem dX2_takeTable_84 : decode cX2_takeTable 84 = .ok (.iconst 0, 1) := by decide +kernel
theorem dX2_takeTable_85 : decode cX2_takeTable 85 = .ok (.istore 5, 2) := by decide +kernel
theorem dX2_takeTable_87 : decode cX2_takeTable 87 = .ok (.iload 5, 2) := by decide +kernel
theorem dX2_takeTable_89 : decode cX2_takeTable 89 = .ok (.iload_n 3, 1) := by decide +kernel
theorem dX2_takeTable_90 : decode cX2_takeTable 90 = .ok (.if_icmp .ge 33, 3) := by decide +kernel
theorem dX2_takeTable_93 : decode cX2_takeTable 93 = .ok (.aload_n 0, 1) := by decide +kernel
theorem dX2_takeTable_94 : decode cX2_takeTable 94 = .ok (.iload 5, 2) := by decide +kernel
theorem dX2_takeTable_96 : decode cX2_takeTable 96 = .ok (.invokevirtual 33, 3) := by decide +kernel
theorem dX2_takeTable_99 : decode cX2_takeTable 99 = .ok (.iload 4, 2) := by decide +kernel
theorem dX2_takeTable_101 : decode cX2_takeTable 101 = .ok (.if_icmp .ne 14, 3) := by decide +kernel
theorem dX2_takeTable_104 : decode cX2_takeTable 104 = .ok (.aload_n 0, 1) := by decide +kernel
theorem dX2_takeTable_105 : decode cX2_takeTable 105 = .ok (.iload 5, 2) := by decide +kernel
theorem dX2_takeTable_107 : decode cX2_takeTable 107 = .ok (.invokevirtual 37, 3) := by decide +kernel
theorem dX2_takeTable_110 : decode cX2_takeTable 110 = .ok (.iload 4, 2) := by decide +kernel
theorem dX2_takeTable_112 : decode cX2_takeTable 112 = .ok (.if_icmp .eq 5, 3) := by decide +kernel
theorem dX2_takeTable_115 : decode cX2_takeTable 115 = .ok (.iconst 0, 1) := by decide +kernel
theorem dX2_takeTable_116 : decode cX2_takeTable 116 = .ok (.ireturn, 1) := by decide +kernel
theorem dX2_takeTable_117 : decode cX2_takeTable 117 = .ok (.iinc 5 1, 3) := by decide +kernel
theorem dX2_takeTable_120 : decode cX2_takeTable 120 = .ok (.goto (-33), 3) := by decide +kernel
theorem dX2_takeTable_123 : decode cX2_takeTable 123 = .ok (.iconst 1, 1) := by decide +kernel
theorem dX2_takeTable_124 : decode cX2_takeTable 124 = .ok (.ireturn, 1) := by decide +kernel
set_option maxRecDepth 20000 in
theorem ggX2_takeUpTo_X2_findOrder : GoodIn wsX2_takeUpTo wsX2_findOrder := goodIn_r _ [7, 4, 5, 6] (by decide +kernel) (by decide +kernel)
set_option maxRecDepth 20000 in
theorem gX2_takeUpTo_X2_findOrder : GoodIn wsX2_takeUpTo (va_wsS RX2 40 yX2_findOrder wsX2_findOrder) := goodIn_app (goodIn_of _ (by decide +kernel)) ggX2_takeUpTo_X2_findOrder
set_option maxRecDepth 20000 in
theorem ggX2_takeUpTo_X2_takeOrderOff : GoodIn wsX2_takeUpTo wsX2_takeOrderOff := goodIn_r _ [11, 12, 1, 2, 3, 13, 14, 15, 16, 17, 18, 19, 20] (by decide +kernel) (by decide +kernel)
set_option maxRecDepth 20000 in
theorem gX2_takeUpTo_X2_takeOrderOff : GoodIn wsX2_takeUpTo (wsV RX2 44 RX2 yX2_takeOrderOff wsX2_takeOrderOff) := goodIn_app (goodIn_of _ (by decide +kernel)) ggX2_takeUpTo_X2_takeOrderOff
theorem dX2_takeUpTo_0 : decode cX2_takeUpTo 0 = .ok (.iconst 0, 1) := by decide +kernel
theorem dX2_takeUpTo_1 : decode cX2_takeUpTo 1 = .ok (.istore_n 2, 1) := by decide +kernel
theorem dX2_takeUpTo_2 : decode cX2_takeUpTo 2 = .ok (.iload_n 2, 1) := by decide +kernel
theorem dX2_takeUpTo_3 : decode cX2_takeUpTo 3 = .ok (.iload_n 1, 1) := by decide +kernel
theorem dX2_takeUpTo_4 : decode cX2_takeUpTo 4 = .ok (.if_icmp .ge 33, 3) := by decide +kernel
theorem dX2_takeUpTo_7 : decode cX2_takeUpTo 7 = .ok (.iconst 0, 1) := by decide +kernel
theorem dX2_takeUpTo_8 : decode cX2_takeUpTo 8 = .ok (.iconst 0, 1) := by decide +kernel
theorem dX2_takeUpTo_9 : decode cX2_takeUpTo 9 = .ok (.aload_n 0, 1) := by decide +kernel
theorem dX2_takeUpTo_10 : decode cX2_takeUpTo 10 = .ok (.getfield 20, 3) := by decide +kernel
theorem dX2_takeUpTo_13 : decode cX2_takeUpTo 13 = .ok (.aload_n 0, 1) := by decide +kernel
theorem dX2_takeUpTo_14 : decode cX2_takeUpTo 14 = .ok (.getfield 17, 3) := by decide +kernel
theorem dX2_takeUpTo_17 : decode cX2_takeUpTo 17 = .ok (.aload_n 0, 1) := by decide +kernel
theorem dX2_takeUpTo_18 : decode cX2_takeUpTo 18 = .ok (.getfield 9, 3) := by decide +kernel
theorem dX2_takeUpTo_21 : decode cX2_takeUpTo 21 = .ok (.invokestatic 40, 3) := by decide +kernel
theorem dX2_takeUpTo_24 : decode cX2_takeUpTo 24 = .ok (.ifCond .eq 13, 3) := by decide +kernel
theorem dX2_takeUpTo_27 : decode cX2_takeUpTo 27 = .ok (.aload_n 0, 1) := by decide +kernel
theorem dX2_takeUpTo_28 : decode cX2_takeUpTo 28 = .ok (.invokevirtual 44, 3) := by decide +kernel
theorem dX2_takeUpTo_31 : decode cX2_takeUpTo 31 = .ok (.iinc 2 1, 3) := by decide +kernel
theorem dX2_takeUpTo_34 : decode cX2_takeUpTo 34 = .ok (.goto (-32), 3) := by decide +kernel
theorem dX2_takeUpTo_37 : decode cX2_takeUpTo 37 = .ok (.iload_n 2, 1) := by decide +kernel
theorem dX2_takeUpTo_38 : decode cX2_takeUpTo 38 = .ok (.ireturn, 1) := by decide +kernel
theorem dX2_takeOrderOff_0 : decode cX2_takeOrderOff 0 = .ok (.aload_n 0, 1) := by decide +kernel
theorem dX2_takeOrderOff_1 : decode cX2_takeOrderOff 1 = .ok (.sipush 1000, 3) := by decide +kernel
theorem dX2_takeOrderOff_4 : decode cX2_takeOrderOff 4 = .ok (.putfield 47, 3) := by decide +kernel
theorem dX2_takeOrderOff_7 : decode cX2_takeOrderOff 7 = .ok (.iconst 0, 1) := by decide +kernel
theorem dX2_takeOrderOff_8 : decode cX2_takeOrderOff 8 = .ok (.istore_n 1, 1) := by decide +kernel
theorem dX2_takeOrderOff_9 : decode cX2_takeOrderOff 9 = .ok (.iload_n 1, 1) := by decide +kernel
theorem dX2_takeOrderOff_10 : decode cX2_takeOrderOff 10 = .ok (.aload_n 0, 1) := by decide +kernel
theorem dX2_takeOrderOff_11 : decode cX2_takeOrderOff 11 = .ok (.getfield 20, 3) := by decide +kernel
theorem dX2_takeOrderOff_14 : decode cX2_takeOrderOff 14 = .ok (.if_icmp .ge 33, 3) := by decide +kernel
theorem dX2_takeOrderOff_17 : decode cX2_takeOrderOff 17 = .ok (.aload_n 0, 1) := by decide +kernel
theorem dX2_takeOrderOff_18 : decode cX2_takeOrderOff 18 = .ok (.aload_n 0, 1) := by decide +kernel
theorem dX2_takeOrderOff_19 : decode cX2_takeOrderOff 19 = .ok (.getfield 47, 3) := by decide +kernel
theorem dX2_takeOrderOff_22 : decode cX2_takeOrderOff 22 = .ok (.aload_n 0, 1) := by decide +kernel
theorem dX2_takeOrderOff_23 : decode cX2_takeOrderOff 23 = .ok (.getfield 17, 3) := by decide +kernel
theorem dX2_takeOrderOff_26 : decode cX2_takeOrderOff 26 = .ok (.iload_n 1, 1) := by decide +kernel
theorem dX2_takeOrderOff_27 : decode cX2_takeOrderOff 27 = .ok (.aaload, 1) := by decide +kernel
theorem dX2_takeOrderOff_28 : decode cX2_takeOrderOff 28 = .ok (.aload_n 0, 1) := by decide +kernel
theorem dX2_takeOrderOff_29 : decode cX2_takeOrderOff 29 = .ok (.getfield 9, 3) := by decide +kernel
theorem dX2_takeOrderOff_32 : decode cX2_takeOrderOff 32 = .ok (.iload_n 1, 1) := by decide +kernel
theorem dX2_takeOrderOff_33 : decode cX2_takeOrderOff 33 = .ok (.iaload, 1) := by decide +kernel
theorem dX2_takeOrderOff_34 : decode cX2_takeOrderOff 34 = .ok (.iaload, 1) := by decide +kernel
theorem dX2_takeOrderOff_35 : decode cX2_takeOrderOff 35 = .ok (.invokestatic 50, 3) := by decide +kernel
theorem dX2_takeOrderOff_38 : decode cX2_takeOrderOff 38 = .ok (.putfield 47, 3) := by decide +kernel
theorem dX2_takeOrderOff_41 : decode cX2_takeOrderOff 41 = .ok (.iinc 1 1, 3) := by decide +kernel
theorem dX2_takeOrderOff_44 : decode cX2_takeOrderOff 44 = .ok (.goto (-35), 3) := by decide +kernel
theorem dX2_takeOrderOff_47 : decode cX2_takeOrderOff 47 = .ok (.iconst 0, 1) := by decide +kernel
theorem dX2_takeOrderOff_48 : decode cX2_takeOrderOff 48 = .ok (.istore_n 1, 1) := by decide +kernel
theorem dX2_takeOrderOff_49 : decode cX2_takeOrderOff 49 = .ok (.iload_n 1, 1) := by decide +kernel
theorem dX2_takeOrderOff_50 : decode cX2_takeOrderOff 50 = .ok (.aload_n 0, 1) := by decide +kernel
theorem dX2_takeOrderOff_51 : decode cX2_takeOrderOff 51 = .ok (.getfield 20, 3) := by decide +kernel
theorem dX2_takeOrderOff_54 : decode cX2_takeOrderOff 54 = .ok (.if_icmp .ge 29, 3) := by decide +kernel
theorem dX2_takeOrderOff_57 : decode cX2_takeOrderOff 57 = .ok (.aload_n 0, 1) := by decide +kernel
theorem dX2_takeOrderOff_58 : decode cX2_takeOrderOff 58 = .ok (.getfield 17, 3) := by decide +kernel
theorem dX2_takeOrderOff_61 : decode cX2_takeOrderOff 61 = .ok (.iload_n 1, 1) := by decide +kernel
theorem dX2_takeOrderOff_62 : decode cX2_takeOrderOff 62 = .ok (.aaload, 1) := by decide +kernel
theorem dX2_takeOrderOff_63 : decode cX2_takeOrderOff 63 = .ok (.aload_n 0, 1) := by decide +kernel
theorem dX2_takeOrderOff_64 : decode cX2_takeOrderOff 64 = .ok (.getfield 9, 3) := by decide +kernel
theorem dX2_takeOrderOff_67 : decode cX2_takeOrderOff 67 = .ok (.iload_n 1, 1) := by decide +kernel
theorem dX2_takeOrderOff_68 : decode cX2_takeOrderOff 68 = .ok (.iaload, 1) := by decide +kernel
theorem dX2_takeOrderOff_69 : decode cX2_takeOrderOff 69 = .ok (.dup2, 1) := by decide +kernel
theorem dX2_takeOrderOff_70 : decode cX2_takeOrderOff 70 = .ok (.iaload, 1) := by decide +kernel
theorem dX2_takeOrderOff_71 : decode cX2_takeOrderOff 71 = .ok (.aload_n 0, 1) := by decide +kernel
theorem dX2_takeOrderOff_72 : decode cX2_takeOrderOff 72 = .ok (.getfield 47, 3) := by decide +kernel
theorem dX2_takeOrderOff_75 : decode cX2_takeOrderOff 75 = .ok (.isub, 1) := by decide +kernel
theorem dX2_takeOrderOff_76 : decode cX2_takeOrderOff 76 = .ok (.iastore, 1) := by decide +kernel
theorem dX2_takeOrderOff_77 : decode cX2_takeOrderOff 77 = .ok (.iinc 1 1, 3) := by decide +kernel
theorem dX2_takeOrderOff_80 : decode cX2_takeOrderOff 80 = .ok (.goto (-31), 3) := by decide +kernel
theorem dX2_takeOrderOff_83 : decode cX2_takeOrderOff 83 = .ok (.return_, 1) := by decide +kernel
set_option maxRecDepth 20000 in
theorem ggX2_findOrder_X2_findOrder : GoodIn wsX2_findOrder wsX2_findOrder := goodIn_r _ [0, 1, 2, 3] (by decide +kernel) (by decide +kernel)
set_option maxRecDepth 20000 in
theorem gX2_findOrder_X2_findOrder : GoodIn wsX2_findOrder (va_wsS RX2 40 yX2_findOrder wsX2_findOrder) := goodIn_app (goodIn_of _ (by decide +kernel)) ggX2_findOrder_X2_findOrder
theorem dX2_findOrder_0 : decode cX2_findOrder 0 = .ok (.iload_n 0, 1) := by decide +kernel
theorem dX2_findOrder_1 : decode cX2_findOrder 1 = .ok (.iload_n 2, 1) := by decide +kernel
theorem dX2_findOrder_2 : decode cX2_findOrder 2 = .ok (.if_icmp .lt 5, 3) := by decide +kernel
theorem dX2_findOrder_5 : decode cX2_findOrder 5 = .ok (.iconst 1, 1) := by decide +kernel
theorem dX2_findOrder_6 : decode cX2_findOrder 6 = .ok (.ireturn, 1) := by decide +kernel
theorem dX2_findOrder_7 : decode cX2_findOrder 7 = .ok (.iconst 0, 1) := by decide +kernel
theorem dX2_findOrder_8 : decode cX2_findOrder 8 = .ok (.istore 5, 2) := by decide +kernel
theorem dX2_findOrder_10 : decode cX2_findOrder 10 = .ok (.iload 5, 2) := by decide +kernel
theorem dX2_findOrder_12 : decode cX2_findOrder 12 = .ok (.iload_n 2, 1) := by decide +kernel
theorem dX2_findOrder_13 : decode cX2_findOrder 13 = .ok (.if_icmp .ge 67, 3) := by decide +kernel
theorem dX2_findOrder_16 : decode cX2_findOrder 16 = .ok (.iload_n 1, 1) := by decide +kernel
theorem dX2_findOrder_17 : decode cX2_findOrder 17 = .ok (.iload 5, 2) := by decide +kernel
theorem dX2_findOrder_19 : decode cX2_findOrder 19 = .ok (.ishr, 1) := by decide +kernel
theorem dX2_findOrder_20 : decode cX2_findOrder 20 = .ok (.iconst 1, 1) := by decide +kernel
theorem dX2_findOrder_21 : decode cX2_findOrder 21 = .ok (.iand, 1) := by decide +kernel
theorem dX2_findOrder_22 : decode cX2_findOrder 22 = .ok (.iconst 1, 1) := by decide +kernel
theorem dX2_findOrder_23 : decode cX2_findOrder 23 = .ok (.if_icmp .ne 7, 3) := by decide +kernel
theorem dX2_findOrder_26 : decode cX2_findOrder 26 = .ok (.iconst 1, 1) := by decide +kernel
theorem dX2_findOrder_27 : decode cX2_findOrder 27 = .ok (.goto 4, 3) := by decide +kernel
theorem dX2_findOrder_30 : decode cX2_findOrder 30 = .ok (.iconst 0, 1) := by decide +kernel
theorem dX2_findOrder_31 : decode cX2_findOrder 31 = .ok (.istore 6, 2) := by decide +kernel
theorem dX2_findOrder_33 : decode cX2_findOrder 33 = .ok (.iload 6, 2) := by decide +kernel
theorem dX2_findOrder_35 : decode cX2_findOrder 35 = .ok (.ifCond .ne 39, 3) := by decide +kernel
theorem dX2_findOrder_38 : decode cX2_findOrder 38 = .ok (.aload_n 3, 1) := by decide +kernel
theorem dX2_findOrder_39 : decode cX2_findOrder 39 = .ok (.iload_n 0, 1) := by decide +kernel
theorem dX2_findOrder_40 : decode cX2_findOrder 40 = .ok (.aaload, 1) := by decide +kernel
theorem dX2_findOrder_41 : decode cX2_findOrder 41 = .ok (.iload 5, 2) := by decide +kernel
theorem dX2_findOrder_43 : decode cX2_findOrder 43 = .ok (.iaload, 1) := by decide +kernel
theorem dX2_findOrder_44 : decode cX2_findOrder 44 = .ok (.ifCond .le 30, 3) := by decide +kernel
theorem dX2_findOrder_47 : decode cX2_findOrder 47 = .ok (.aload 4, 2) := by decide +kernel
theorem dX2_findOrder_49 : decode cX2_findOrder 49 = .ok (.iload_n 0, 1) := by decide +kernel
theorem dX2_findOrder_50 : decode cX2_findOrder 50 = .ok (.iload 5, 2) := by decide +kernel
theorem dX2_findOrder_52 : decode cX2_findOrder 52 = .ok (.iastore, 1) := by decide +kernel
theorem dX2_findOrder_53 : decode cX2_findOrder 53 = .ok (.iload_n 0, 1) := by decide +kernel
theorem dX2_findOrder_54 : decode cX2_findOrder 54 = .ok (.iconst 1, 1) := by decide +kernel
theorem dX2_findOrder_55 : decode cX2_findOrder 55 = .ok (.iadd, 1) := by decide +kernel
theorem dX2_findOrder_56 : decode cX2_findOrder 56 = .ok (.iload_n 1, 1) := by decide +kernel
theorem dX2_findOrder_57 : decode cX2_findOrder 57 = .ok (.iconst 1, 1) := by decide +kernel
theorem dX2_findOrder_58 : decode cX2_findOrder 58 = .ok (.iload 5, 2) := by decide +kernel
theorem dX2_findOrder_60 : decode cX2_findOrder 60 = .ok (.ishl, 1) := by decide +kernel
theorem dX2_findOrder_61 : decode cX2_findOrder 61 = .ok (.ior, 1) := by decide +kernel
theorem dX2_findOrder_62 : decode cX2_findOrder 62 = .ok (.iload_n 2, 1) := by decide +kernel
theorem dX2_findOrder_63 : decode cX2_findOrder 63 = .ok (.aload_n 3, 1) := by decide +kernel
theorem dX2_findOrder_64 : decode cX2_findOrder 64 = .ok (.aload 4, 2) := by decide +kernel
theorem dX2_findOrder_66 : decode cX2_findOrder 66 = .ok (.invokestatic 40, 3) := by decide +kernel
theorem dX2_findOrder_69 : decode cX2_findOrder 69 = .ok (.ifCond .eq 5, 3) := by decide +kernel
theorem dX2_findOrder_72 : decode cX2_findOrder 72 = .ok (.iconst 1, 1) := by decide +kernel
theorem dX2_findOrder_73 : decode cX2_findOrder 73 = .ok (.ireturn, 1) := by decide +kernel
theorem dX2_findOrder_74 : decode cX2_findOrder 74 = .ok (.iinc 5 1, 3) := by decide +kernel
theorem dX2_findOrder_77 : decode cX2_findOrder 77 = .ok (.goto (-67), 3) := by decide +kernel
theorem dX2_findOrder_80 : decode cX2_findOrder 80 = .ok (.iconst 0, 1) := by decide +kernel
theorem dX2_findOrder_81 : decode cX2_findOrder 81 = .ok (.ireturn, 1) := by decide +kernel
theorem dX2_sumOfRow_0 : decode cX2_sumOfRow 0 = .ok (.iconst 0, 1) := by decide +kernel
theorem dX2_sumOfRow_1 : decode cX2_sumOfRow 1 = .ok (.istore_n 2, 1) := by decide +kernel
theorem dX2_sumOfRow_2 : decode cX2_sumOfRow 2 = .ok (.iconst 0, 1) := by decide +kernel
theorem dX2_sumOfRow_3 : decode cX2_sumOfRow 3 = .ok (.istore_n 3, 1) := by decide +kernel
theorem dX2_sumOfRow_4 : decode cX2_sumOfRow 4 = .ok (.iload_n 3, 1) := by decide +kernel
theorem dX2_sumOfRow_5 : decode cX2_sumOfRow 5 = .ok (.aload_n 0, 1) := by decide +kernel
theorem dX2_sumOfRow_6 : decode cX2_sumOfRow 6 = .ok (.getfield 20, 3) := by decide +kernel
theorem dX2_sumOfRow_9 : decode cX2_sumOfRow 9 = .ok (.if_icmp .ge 20, 3) := by decide +kernel
theorem dX2_sumOfRow_12 : decode cX2_sumOfRow 12 = .ok (.iload_n 2, 1) := by decide +kernel
theorem dX2_sumOfRow_13 : decode cX2_sumOfRow 13 = .ok (.aload_n 0, 1) := by decide +kernel
theorem dX2_sumOfRow_14 : decode cX2_sumOfRow 14 = .ok (.getfield 17, 3) := by decide +kernel
theorem dX2_sumOfRow_17 : decode cX2_sumOfRow 17 = .ok (.iload_n 1, 1) := by decide +kernel
theorem dX2_sumOfRow_18 : decode cX2_sumOfRow 18 = .ok (.aaload, 1) := by decide +kernel
theorem dX2_sumOfRow_19 : decode cX2_sumOfRow 19 = .ok (.iload_n 3, 1) := by decide +kernel
theorem dX2_sumOfRow_20 : decode cX2_sumOfRow 20 = .ok (.iaload, 1) := by decide +kernel
theorem dX2_sumOfRow_21 : decode cX2_sumOfRow 21 = .ok (.iadd, 1) := by decide +kernel
theorem dX2_sumOfRow_22 : decode cX2_sumOfRow 22 = .ok (.istore_n 2, 1) := by decide +kernel
theorem dX2_sumOfRow_23 : decode cX2_sumOfRow 23 = .ok (.iinc 3 1, 3) := by decide +kernel
theorem dX2_sumOfRow_26 : decode cX2_sumOfRow 26 = .ok (.goto (-22), 3) := by decide +kernel
theorem dX2_sumOfRow_29 : decode cX2_sumOfRow 29 = .ok (.iload_n 2, 1) := by decide +kernel
theorem dX2_sumOfRow_30 : decode cX2_sumOfRow 30 = .ok (.ireturn, 1) := by decide +kernel
theorem dX2_sumOfColumn_0 : decode cX2_sumOfColumn 0 = .ok (.iconst 0, 1) := by decide +kernel
theorem dX2_sumOfColumn_1 : decode cX2_sumOfColumn 1 = .ok (.istore_n 2, 1) := by decide +kernel
theorem dX2_sumOfColumn_2 : decode cX2_sumOfColumn 2 = .ok (.iconst 0, 1) := by decide +kernel
theorem dX2_sumOfColumn_3 : decode cX2_sumOfColumn 3 = .ok (.istore_n 3, 1) := by decide +kernel
theorem dX2_sumOfColumn_4 : decode cX2_sumOfColumn 4 = .ok (.iload_n 3, 1) := by decide +kernel
theorem dX2_sumOfColumn_5 : decode cX2_sumOfColumn 5 = .ok (.aload_n 0, 1) := by decide +kernel
theorem dX2_sumOfColumn_6 : decode cX2_sumOfColumn 6 = .ok (.getfield 20, 3) := by decide +kernel
theorem dX2_sumOfColumn_9 : decode cX2_sumOfColumn 9 = .ok (.if_icmp .ge 20, 3) := by decide +kernel
theorem dX2_sumOfColumn_12 : decode cX2_sumOfColumn 12 = .ok (.iload_n 2, 1) := by decide +kernel
theorem dX2_sumOfColumn_13 : decode cX2_sumOfColumn 13 = .ok (.aload_n 0, 1) := by decide +kernel
theorem dX2_sumOfColumn_14 : decode cX2_sumOfColumn 14 = .ok (.getfield 17, 3) := by decide +kernel
theorem dX2_sumOfColumn_17 : decode cX2_sumOfColumn 17 = .ok (.iload_n 3, 1) := by decide +kernel
theorem dX2_sumOfColumn_18 : decode cX2_sumOfColumn 18 = .ok (.aaload, 1) := by decide +kernel
theorem dX2_sumOfColumn_19 : decode cX2_sumOfColumn 19 = .ok (.iload_n 1, 1) := by decide +kernel
theorem dX2_sumOfColumn_20 : decode cX2_sumOfColumn 20 = .ok (.iaload, 1) := by decide +kernel
theorem dX2_sumOfColumn_21 : decode cX2_sumOfColumn 21 = .ok (.iadd, 1) := by decide +kernel
theorem dX2_sumOfColumn_22 : decode cX2_sumOfColumn 22 = .ok (.istore_n 2, 1) := by decide +kernel
theorem dX2_sumOfColumn_23 : decode cX2_sumOfColumn 23 = .ok (.iinc 3 1, 3) := by decide +kernel
theorem dX2_sumOfColumn_26 : decode cX2_sumOfColumn 26 = .ok (.goto (-22), 3) := by decide +kernel
theorem dX2_sumOfColumn_29 : decode cX2_sumOfColumn 29 = .ok (.iload_n 2, 1) := by decide +kernel
theorem dX2_sumOfColumn_30 : decode cX2_sumOfColumn 30 = .ok (.ireturn, 1) := by decide +kernel
theorem dX3_init_0 : decode cX3_init 0 = .ok (.aload_n 0, 1) := by decide +kernel
theorem dX3_init_1 : decode cX3_init 1 = .ok (.invokespecial 3, 3) := by decide +kernel
theorem dX3_init_4 : decode cX3_init 4 = .ok (.aload_n 0, 1) := by decide +kernel
theorem dX3_init_5 : decode cX3_init 5 = .ok (.bipush 7, 2) := by decide +kernel
theorem dX3_init_7 : decode cX3_init 7 = .ok (.bipush 8, 2) := by decide +kernel
theorem dX3_init_9 : decode cX3_init 9 = .ok (.multianewarray 9 2, 4) := by decide +kernel
theorem dX3_init_13 : decode cX3_init 13 = .ok (.putfield 11, 3) := by decide +kernel
theorem dX3_init_16 : decode cX3_init 16 = .ok (.aload_n 0, 1) := by decide +kernel
theorem dX3_init_17 : decode cX3_init 17 = .ok (.iconst 4, 1) := by decide +kernel
theorem dX3_init_18 : decode cX3_init 18 = .ok (.bipush 16, 2) := by decide +kernel
theorem dX3_init_20 : decode cX3_init 20 = .ok (.multianewarray 9 2, 4) := by decide +kernel
theorem dX3_init_24 : decode cX3_init 24 = .ok (.putfield 16, 3) := by decide +kernel
theorem dX3_init_27 : decode cX3_init 27 = .ok (.aload_n 0, 1) := by decide +kernel
theorem dX3_init_28 : decode cX3_init 28 = .ok (.bipush 16, 2) := by decide +kernel
theorem dX3_init_30 : decode cX3_init 30 = .ok (.newarray .int, 2) := by decide +kernel
theorem dX3_init_32 : decode cX3_init 32 = .ok (.putfield 19, 3) := by decide +kernel
theorem dX3_init_35 : decode cX3_init 35 = .ok (.aload_n 0, 1) := by decide +kernel
theorem dX3_init_36 : decode cX3_init 36 = .ok (.bipush 16, 2) := by decide +kernel
theorem dX3_init_38 : decode cX3_init 38 = .ok (.newarray .int, 2) := by decide +kernel
theorem dX3_init_40 : decode cX3_init 40 = .ok (.putfield 23, 3) := by decide +kernel
theorem dX3_init_43 : decode cX3_init 43 = .ok (.return_, 1) := by decide +kernel
set_option maxRecDepth 20000 in
theorem ggX3_takeOrder_X5_within : GoodIn wsX3_takeOrder wsX5_within := goodIn_r _ [5] (by decide +kernel) (by decide +kernel)
set_option maxRecDepth 20000 in
theorem gX3_takeOrder_X5_within_n31 : GoodIn wsX3_takeOrder (wsX5_within) := ggX3_takeOrder_X5_within
theorem dX3_takeOrder_0 : decode cX3_takeOrder 0 = .ok (.iconst 1, 1) := by decide +kernel
theorem dX3_takeOrder_1 : decode cX3_takeOrder 1 = .ok (.iload_n 3, 1) := by decide +kernel
theorem dX3_takeOrder_2 : decode cX3_takeOrder 2 = .ok (.ishl, 1) := by decide +kernel
theorem dX3_takeOrder_3 : decode cX3_takeOrder 3 = .ok (.istore 4, 2) := by decide +kernel
theorem dX3_takeOrder_5 : decode cX3_takeOrder 5 = .ok (.iconst 0, 1) := by decide +kernel
theorem dX3_takeOrder_6 : decode cX3_takeOrder 6 = .ok (.istore 5, 2) := by decide +kernel
theorem dX3_takeOrder_8 : decode cX3_takeOrder 8 = .ok (.iconst 0, 1) := by decide +kernel
theorem dX3_takeOrder_9 : decode cX3_takeOrder 9 = .ok (.istore 6, 2) := by decide +kernel
theorem dX3_takeOrder_11 : decode cX3_takeOrder 11 = .ok (.iload 6, 2) := by decide +kernel
theorem dX3_takeOrder_13 : decode cX3_takeOrder 13 = .ok (.iload 4, 2) := by decide +kernel
theorem dX3_takeOrder_15 : decode cX3_takeOrder 15 = .ok (.if_icmp .ge 66, 3) := by decide +kernel
theorem dX3_takeOrder_18 : decode cX3_takeOrder 18 = .ok (.aload_n 1, 1) := by decide +kernel
theorem dX3_takeOrder_19 : decode cX3_takeOrder 19 = .ok (.getfield 26, 3) := by decide +kernel
theorem dX3_takeOrder_22 : decode cX3_takeOrder 22 = .ok (.iload_n 2, 1) := by decide +kernel
theorem dX3_takeOrder_23 : decode cX3_takeOrder 23 = .ok (.iload 6, 2) := by decide +kernel
theorem dX3_takeOrder_25 : decode cX3_takeOrder 25 = .ok (.iadd, 1) := by decide +kernel
theorem dX3_takeOrder_26 : decode cX3_takeOrder 26 = .ok (.iaload, 1) := by decide +kernel
theorem dX3_takeOrder_27 : decode cX3_takeOrder 27 = .ok (.istore 7, 2) := by decide +kernel
theorem dX3_takeOrder_29 : decode cX3_takeOrder 29 = .ok (.iload 7, 2) := by decide +kernel
theorem dX3_takeOrder_31 : decode cX3_takeOrder 31 = .ok (.iconst 0, 1) := by decide +kernel
theorem dX3_takeOrder_32 : decode cX3_takeOrder 32 = .ok (.iload 4, 2) := by decide +kernel
theorem dX3_takeOrder_34 : decode cX3_takeOrder 34 = .ok (.iconst 1, 1) := by decide +kernel
theorem dX3_takeOrder_35 : decode cX3_takeOrder 35 = .ok (.isub, 1) := by decide +kernel
theorem dX3_takeOrder_36 : decode cX3_takeOrder 36 = .ok (.invokestatic 31, 3) := by decide +kernel
theorem dX3_takeOrder_39 : decode cX3_takeOrder 39 = .ok (.ifCond .eq 14, 3) := by decide +kernel
theorem dX3_takeOrder_42 : decode cX3_takeOrder 42 = .ok (.iload 5, 2) := by decide +kernel
theorem dX3_takeOrder_44 : decode cX3_takeOrder 44 = .ok (.iload 7, 2) := by decide +kernel
theorem dX3_takeOrder_46 : decode cX3_takeOrder 46 = .ok (.ishr, 1) := by decide +kernel
theorem dX3_takeOrder_47 : decode cX3_takeOrder 47 = .ok (.iconst 1, 1) := by decide +kernel
theorem dX3_takeOrder_48 : decode cX3_takeOrder 48 = .ok (.iand, 1) := by decide +kernel
theorem dX3_takeOrder_49 : decode cX3_takeOrder 49 = .ok (.iconst 1, 1) := by decide +kernel
theorem dX3_takeOrder_50 : decode cX3_takeOrder 50 = .ok (.if_icmp .ne 5, 3) := by decide +kernel
theorem dX3_takeOrder_53 : decode cX3_takeOrder 53 = .ok (.iconst 0, 1) := by decide +kernel
theorem dX3_takeOrder_54 : decode cX3_takeOrder 54 = .ok (.ireturn, 1) := by decide +kernel
theorem dX3_takeOrder_55 : decode cX3_takeOrder 55 = .ok (.iload 5, 2) := by decide +kernel
theorem dX3_takeOrder_57 : decode cX3_takeOrder 57 = .ok (.iconst 1, 1) := by decide +kernel
theorem dX3_takeOrder_58 : decode cX3_takeOrder 58 = .ok (.iload 7, 2) := by decide +kernel
theorem dX3_takeOrder_60 : decode cX3_takeOrder 60 = .ok (.ishl, 1) := by decide +kernel
theorem dX3_takeOrder_61 : decode cX3_takeOrder 61 = .ok (.ior, 1) := by decide +kernel
theorem dX3_takeOrder_62 : decode cX3_takeOrder 62 = .ok (.istore 5, 2) := by decide +kernel
theorem dX3_takeOrder_64 : decode cX3_takeOrder 64 = .ok (.aload_n 0, 1) := by decide +kernel
theorem dX3_takeOrder_65 : decode cX3_takeOrder 65 = .ok (.getfield 16, 3) := by decide +kernel
theorem dX3_takeOrder_68 : decode cX3_takeOrder 68 = .ok (.iconst 0, 1) := by decide +kernel
theorem dX3_takeOrder_69 : decode cX3_takeOrder 69 = .ok (.aaload, 1) := by decide +kernel
theorem dX3_takeOrder_70 : decode cX3_takeOrder 70 = .ok (.iload 6, 2) := by decide +kernel
theorem dX3_takeOrder_72 : decode cX3_takeOrder 72 = .ok (.iload 7, 2) := by decide +kernel
theorem dX3_takeOrder_74 : decode cX3_takeOrder 74 = .ok (.iastore, 1) := by decide +kernel
theorem dX3_takeOrder_75 : decode cX3_takeOrder 75 = .ok (.iinc 6 1, 3) := by decide +kernel
theorem dX3_takeOrder_78 : decode cX3_takeOrder 78 = .ok (.goto (-67), 3) := by decide +kernel
theorem dX3_takeOrder_81 : decode cX3_takeOrder 81 = .ok (.iconst 1, 1) := by decide +kernel
theorem dX3_takeOrder_82 : decode cX3_takeOrder 82 = .ok (.ireturn, 1) := by decide +kernel
set_option maxRecDepth 20000 in
theorem ggX3_setAllSwitches_X3_goRound : GoodIn wsX3_setAllSwitches wsX3_goRound := goodIn_r _ [7, 2, 8, 9, 10, 11, 6, 12, 21, 22, 23, 24] (by decide +kernel) (by decide +kernel)
set_option maxRecDepth 20000 in
theorem gX3_setAllSwitches_X3_goRound : GoodIn wsX3_setAllSwitches (wsV RX3 35 RX3 yX3_goRound wsX3_goRound) := goodIn_app (goodIn_of _ (by decide +kernel)) ggX3_setAllSwitches_X3_goRound
set_option maxRecDepth 20000 in
theorem ggX3_setAllSwitches_X3_setOuterStages : GoodIn wsX3_setAllSwitches wsX3_setOuterStages := goodIn_r _ [16, 1, 9, 8, 21, 22, 23, 24] (by decide +kernel) (by decide +kernel)
set_option maxRecDepth 20000 in
theorem gX3_setAllSwitches_X3_setOuterStages : GoodIn wsX3_setAllSwitches (wsV RX3 39 RX3 yX3_setOuterStages wsX3_setOuterStages) := goodIn_app (goodIn_of _ (by decide +kernel)) ggX3_setAllSwitches_X3_setOuterStages
set_option maxRecDepth 20000 in
theorem ggX3_setAllSwitches_X3_handToHalves : GoodIn wsX3_setAllSwitches wsX3_handToHalves := goodIn_r _ [20, 9, 2, 21, 22, 23, 24] (by decide +kernel) (by decide +kernel)
set_option maxRecDepth 20000 in
theorem gX3_setAllSwitches_X3_handToHalves : GoodIn wsX3_setAllSwitches (wsV RX3 43 RX3 yX3_handToHalves wsX3_handToHalves) := goodIn_app (goodIn_of _ (by decide +kernel)) ggX3_setAllSwitches_X3_handToHalves
theorem dX3_setAllSwitches_0 : decode cX3_setAllSwitches 0 = .ok (.iconst 1, 1) := by decide +kernel
theorem dX3_setAllSwitches_1 : decode cX3_setAllSwitches 1 = .ok (.iload_n 1, 1) := by decide +kernel
theorem dX3_setAllSwitches_2 : decode cX3_setAllSwitches 2 = .ok (.ishl, 1) := by decide +kernel
theorem dX3_setAllSwitches_3 : decode cX3_setAllSwitches 3 = .ok (.istore_n 2, 1) := by decide +kernel
theorem dX3_setAllSwitches_4 : decode cX3_setAllSwitches 4 = .ok (.iconst 0, 1) := by decide +kernel
theorem dX3_setAllSwitches_5 : decode cX3_setAllSwitches 5 = .ok (.istore_n 3, 1) := by decide +kernel
theorem dX3_setAllSwitches_6 : decode cX3_setAllSwitches 6 = .ok (.iload_n 3, 1) := by decide +kernel
theorem dX3_setAllSwitches_7 : decode cX3_setAllSwitches 7 = .ok (.iload_n 1, 1) := by decide +kernel
theorem dX3_setAllSwitches_8 : decode cX3_setAllSwitches 8 = .ok (.iconst 1, 1) := by decide +kernel
theorem dX3_setAllSwitches_9 : decode cX3_setAllSwitches 9 = .ok (.isub, 1) := by decide +kernel
theorem dX3_setAllSwitches_10 : decode cX3_setAllSwitches 10 = .ok (.if_icmp .ge 65, 3) := by decide +kernel
theorem dX3_setAllSwitches_13 : decode cX3_setAllSwitches 13 = .ok (.iload_n 2, 1) := by decide +kernel
theorem dX3_setAllSwitches_14 : decode cX3_setAllSwitches 14 = .ok (.iload_n 3, 1) := by decide +kernel
theorem dX3_setAllSwitches_15 : decode cX3_setAllSwitches 15 = .ok (.ishr, 1) := by decide +kernel
theorem dX3_setAllSwitches_16 : decode cX3_setAllSwitches 16 = .ok (.istore 4, 2) := by decide +kernel
theorem dX3_setAllSwitches_18 : decode cX3_setAllSwitches 18 = .ok (.iconst 0, 1) := by decide +kernel
theorem dX3_setAllSwitches_19 : decode cX3_setAllSwitches 19 = .ok (.istore 5, 2) := by decide +kernel
theorem dX3_setAllSwitches_21 : decode cX3_setAllSwitches 21 = .ok (.iload 5, 2) := by decide +kernel
theorem dX3_setAllSwitches_23 : decode cX3_setAllSwitches 23 = .ok (.iload_n 2, 1) := by decide +kernel
theorem dX3_setAllSwitches_24 : decode cX3_setAllSwitches 24 = .ok (.if_icmp .ge 45, 3) := by decide +kernel
theorem dX3_setAllSwitches_27 : decode cX3_setAllSwitches 27 = .ok (.aload_n 0, 1) := by decide +kernel
theorem dX3_setAllSwitches_28 : decode cX3_setAllSwitches 28 = .ok (.iload_n 3, 1) := by decide +kernel
theorem dX3_setAllSwitches_29 : decode cX3_setAllSwitches 29 = .ok (.iload 5, 2) := by decide +kernel
theorem dX3_setAllSwitches_31 : decode cX3_setAllSwitches 31 = .ok (.iload 4, 2) := by decide +kernel
theorem dX3_setAllSwitches_33 : decode cX3_setAllSwitches 33 = .ok (.invokevirtual 35, 3) := by decide +kernel
theorem dX3_setAllSwitches_36 : decode cX3_setAllSwitches 36 = .ok (.aload_n 0, 1) := by decide +kernel
theorem dX3_setAllSwitches_37 : decode cX3_setAllSwitches 37 = .ok (.iconst 2, 1) := by decide +kernel
theorem dX3_setAllSwitches_38 : decode cX3_setAllSwitches 38 = .ok (.iload_n 1, 1) := by decide +kernel
theorem dX3_setAllSwitches_39 : decode cX3_setAllSwitches 39 = .ok (.imul, 1) := by decide +kernel
theorem dX3_setAllSwitches_40 : decode cX3_setAllSwitches 40 = .ok (.iconst 2, 1) := by decide +kernel
theorem dX3_setAllSwitches_41 : decode cX3_setAllSwitches 41 = .ok (.isub, 1) := by decide +kernel
theorem dX3_setAllSwitches_42 : decode cX3_setAllSwitches 42 = .ok (.iload_n 3, 1) := by decide +kernel
theorem dX3_setAllSwitches_43 : decode cX3_setAllSwitches 43 = .ok (.iload 5, 2) := by decide +kernel
theorem dX3_setAllSwitches_45 : decode cX3_setAllSwitches 45 = .ok (.iload 4, 2) := by decide +kernel
theorem dX3_setAllSwitches_47 : decode cX3_setAllSwitches 47 = .ok (.invokevirtual 39, 3) := by decide +kernel
theorem dX3_setAllSwitches_50 : decode cX3_setAllSwitches 50 = .ok (.aload_n 0, 1) := by decide +kernel
theorem dX3_setAllSwitches_51 : decode cX3_setAllSwitches 51 = .ok (.iload_n 3, 1) := by decide +kernel
theorem dX3_setAllSwitches_52 : decode cX3_setAllSwitches 52 = .ok (.iload 5, 2) := by decide +kernel
theorem dX3_setAllSwitches_54 : decode cX3_setAllSwitches 54 = .ok (.iload 4, 2) := by decide +kernel
theorem dX3_setAllSwitches_56 : decode cX3_setAllSwitches 56 = .ok (.invokevirtual 43, 3) := by decide +kernel
theorem dX3_setAllSwitches_59 : decode cX3_setAllSwitches 59 = .ok (.iload 5, 2) := by decide +kernel
theorem dX3_setAllSwitches_61 : decode cX3_setAllSwitches 61 = .ok (.iload 4, 2) := by decide +kernel
theorem dX3_setAllSwitches_63 : decode cX3_setAllSwitches 63 = .ok (.iadd, 1) := by decide +kernel
theorem dX3_setAllSwitches_64 : decode cX3_setAllSwitches 64 = .ok (.istore 5, 2) := by decide +kernel
theorem dX3_setAllSwitches_66 : decode cX3_setAllSwitches 66 = .ok (.goto (-45), 3) := by decide +kernel
theorem dX3_setAllSwitches_69 : decode cX3_setAllSwitches 69 = .ok (.iinc 3 1, 3) := by decide +kernel
theorem dX3_setAllSwitches_72 : decode cX3_setAllSwitches 72 = .ok (.goto (-66), 3) := by decide +kernel
theorem dX3_setAllSwitches_75 : decode cX3_setAllSwitches 75 = .ok (.iconst 0, 1) := by decide +kernel
theorem dX3_setAllSwitches_76 : decode cX3_setAllSwitches 76 = .ok (.istore_n 3, 1) := by decide +kernel
theorem dX3_setAllSwitches_77 : decode cX3_setAllSwitches 77 = .ok (.iload_n 3, 1) := by decide +kernel
theorem dX3_setAllSwitches_78 : decode cX3_setAllSwitches 78 = .ok (.iload_n 2, 1) := by decide +kernel
theorem dX3_setAllSwitches_79 : decode cX3_setAllSwitches 79 = .ok (.iconst 2, 1) := by decide +kernel
theorem dX3_setAllSwitches_80 : decode cX3_setAllSwitches 80 = .ok (.idiv, 1) := by decide +kernel
theorem dX3_setAllSwitches_81 : decode cX3_setAllSwitches 81 = .ok (.if_icmp .ge 31, 3) := by decide +kernel
theorem dX3_setAllSwitches_84 : decode cX3_setAllSwitches 84 = .ok (.aload_n 0, 1) := by decide +kernel
theorem dX3_setAllSwitches_85 : decode cX3_setAllSwitches 85 = .ok (.getfield 11, 3) := by decide +kernel
theorem dX3_setAllSwitches_88 : decode cX3_setAllSwitches 88 = .ok (.iload_n 1, 1) := by decide +kernel
theorem dX3_setAllSwitches_89 : decode cX3_setAllSwitches 89 = .ok (.iconst 1, 1) := by decide +kernel
theorem dX3_setAllSwitches_90 : decode cX3_setAllSwitches 90 = .ok (.isub, 1) := by decide +kernel
theorem dX3_setAllSwitches_91 : decode cX3_setAllSwitches 91 = .ok (.aaload, 1) := by decide +kernel
theorem dX3_setAllSwitches_92 : decode cX3_setAllSwitches 92 = .ok (.iload_n 3, 1) := by decide +kernel
theorem dX3_setAllSwitches_93 : decode cX3_setAllSwitches 93 = .ok (.aload_n 0, 1) := by decide +kernel
theorem dX3_setAllSwitches_94 : decode cX3_setAllSwitches 94 = .ok (.getfield 16, 3) := by decide +kernel
theorem dX3_setAllSwitches_97 : decode cX3_setAllSwitches 97 = .ok (.iload_n 1, 1) := by decide +kernel
theorem dX3_setAllSwitches_98 : decode cX3_setAllSwitches 98 = .ok (.iconst 1, 1) := by decide +kernel
theorem dX3_setAllSwitches_99 : decode cX3_setAllSwitches 99 = .ok (.isub, 1) := by decide +kernel
theorem dX3_setAllSwitches_100 : decode cX3_setAllSwitches 100 = .ok (.aaload, 1) := by decide +kernel
theorem dX3_setAllSwitches_101 : decode cX3_setAllSwitches 101 = .ok (.iconst 2, 1) := by decide +kernel
theorem dX3_setAllSwitches_102 : decode cX3_setAllSwitches 102 = .ok (.iload_n 3, 1) := by decide +kernel
theorem dX3_setAllSwitches_103 : decode cX3_setAllSwitches 103 = .ok (.imul, 1) := by decide +kernel
theorem dX3_setAllSwitches_104 : decode cX3_setAllSwitches 104 = .ok (.iaload, 1) := by decide +kernel
theorem dX3_setAllSwitches_105 : decode cX3_setAllSwitches 105 = .ok (.iastore, 1) := by decide +kernel
theorem dX3_setAllSwitches_106 : decode cX3_setAllSwitches 106 = .ok (.iinc 3 1, 3) := by decide +kernel
theorem dX3_setAllSwitches_109 : decode cX3_setAllSwitches 109 = .ok (.goto (-32), 3) := by decide +kernel
theorem dX3_setAllSwitches_112 : decode cX3_setAllSwitches 112 = .ok (.return_, 1) := by decide +kernel
theorem dX3_takeBits_0 : decode cX3_takeBits 0 = .ok (.iconst 1, 1) := by decide +kernel
theorem dX3_takeBits_1 : decode cX3_takeBits 1 = .ok (.iload_n 3, 1) := by decide +kernel
theorem dX3_takeBits_2 : decode cX3_takeBits 2 = .ok (.iconst 1, 1) := by decide +kernel
theorem dX3_takeBits_3 : decode cX3_takeBits 3 = .ok (.isub, 1) := by decide +kernel
theorem dX3_takeBits_4 : decode cX3_takeBits 4 = .ok (.ishl, 1) := by decide +kernel
theorem dX3_takeBits_5 : decode cX3_takeBits 5 = .ok (.istore 4, 2) := by decide +kernel
theorem dX3_takeBits_7 : decode cX3_takeBits 7 = .ok (.iconst 0, 1) := by decide +kernel
theorem dX3_takeBits_8 : decode cX3_takeBits 8 = .ok (.istore 5, 2) := by decide +kernel
theorem dX3_takeBits_10 : decode cX3_takeBits 10 = .ok (.iload 5, 2) := by decide +kernel
theorem dX3_takeBits_12 : decode cX3_takeBits 12 = .ok (.iconst 2, 1) := by decide +kernel
theorem dX3_takeBits_13 : decode cX3_takeBits 13 = .ok (.iload_n 3, 1) := by decide +kernel
theorem dX3_takeBits_14 : decode cX3_takeBits 14 = .ok (.imul, 1) := by decide +kernel
theorem dX3_takeBits_15 : decode cX3_takeBits 15 = .ok (.iconst 1, 1) := by decide +kernel
theorem dX3_takeBits_16 : decode cX3_takeBits 16 = .ok (.isub, 1) := by decide +kernel
theorem dX3_takeBits_17 : decode cX3_takeBits 17 = .ok (.if_icmp .ge 58, 3) := by decide +kernel
theorem dX3_takeBits_20 : decode cX3_takeBits 20 = .ok (.iconst 0, 1) := by decide +kernel
theorem dX3_takeBits_21 : decode cX3_takeBits 21 = .ok (.istore 6, 2) := by decide +kernel
theorem dX3_takeBits_23 : decode cX3_takeBits 23 = .ok (.iload 6, 2) := by decide +kernel
theorem dX3_takeBits_25 : decode cX3_takeBits 25 = .ok (.iload 4, 2) := by decide +kernel
theorem dX3_takeBits_27 : decode cX3_takeBits 27 = .ok (.if_icmp .ge 42, 3) := by decide +kernel
theorem dX3_takeBits_30 : decode cX3_takeBits 30 = .ok (.aload_n 0, 1) := by decide +kernel
theorem dX3_takeBits_31 : decode cX3_takeBits 31 = .ok (.getfield 11, 3) := by decide +kernel
theorem dX3_takeBits_34 : decode cX3_takeBits 34 = .ok (.iload 5, 2) := by decide +kernel
theorem dX3_takeBits_36 : decode cX3_takeBits 36 = .ok (.aaload, 1) := by decide +kernel
theorem dX3_takeBits_37 : decode cX3_takeBits 37 = .ok (.iload 6, 2) := by decide +kernel
theorem dX3_takeBits_39 : decode cX3_takeBits 39 = .ok (.aload_n 1, 1) := by decide +kernel
theorem dX3_takeBits_40 : decode cX3_takeBits 40 = .ok (.getfield 26, 3) := by decide +kernel
theorem dX3_takeBits_43 : decode cX3_takeBits 43 = .ok (.iload_n 2, 1) := by decide +kernel
theorem dX3_takeBits_44 : decode cX3_takeBits 44 = .ok (.iload 5, 2) := by decide +kernel
theorem dX3_takeBits_46 : decode cX3_takeBits 46 = .ok (.iload 4, 2) := by decide +kernel
theorem dX3_takeBits_48 : decode cX3_takeBits 48 = .ok (.imul, 1) := by decide +kernel
theorem dX3_takeBits_49 : decode cX3_takeBits 49 = .ok (.iadd, 1) := by decide +kernel
theorem dX3_takeBits_50 : decode cX3_takeBits 50 = .ok (.iload 6, 2) := by decide +kernel
theorem dX3_takeBits_52 : decode cX3_takeBits 52 = .ok (.iadd, 1) := by decide +kernel
theorem dX3_takeBits_53 : decode cX3_takeBits 53 = .ok (.iaload, 1) := by decide +kernel
theorem dX3_takeBits_54 : decode cX3_takeBits 54 = .ok (.ifCond .ne 7, 3) := by decide +kernel
theorem dX3_takeBits_57 : decode cX3_takeBits 57 = .ok (.iconst 0, 1) := by decide +kernel
theorem dX3_takeBits_58 : decode cX3_takeBits 58 = .ok (.goto 4, 3) := by decide +kernel
theorem dX3_takeBits_61 : decode cX3_takeBits 61 = .ok (.iconst 1, 1) := by decide +kernel
theorem dX3_takeBits_62 : decode cX3_takeBits 62 = .ok (.iastore, 1) := by decide +kernel
theorem dX3_takeBits_63 : decode cX3_takeBits 63 = .ok (.iinc 6 1, 3) := by decide +kernel
theorem dX3_takeBits_66 : decode cX3_takeBits 66 = .ok (.goto (-43), 3) := by decide +kernel
theorem dX3_takeBits_69 : decode cX3_takeBits 69 = .ok (.iinc 5 1, 3) := by decide +kernel
theorem dX3_takeBits_72 : decode cX3_takeBits 72 = .ok (.goto (-62), 3) := by decide +kernel
theorem dX3_takeBits_75 : decode cX3_takeBits 75 = .ok (.return_, 1) := by decide +kernel
theorem dX3_follow_0 : decode cX3_follow 0 = .ok (.iconst 0, 1) := by decide +kernel
theorem dX3_follow_1 : decode cX3_follow 1 = .ok (.istore_n 3, 1) := by decide +kernel
theorem dX3_follow_2 : decode cX3_follow 2 = .ok (.iload_n 2, 1) := by decide +kernel
theorem dX3_follow_3 : decode cX3_follow 3 = .ok (.istore 4, 2) := by decide +kernel
theorem dX3_follow_5 : decode cX3_follow 5 = .ok (.iconst 0, 1) := by decide +kernel
theorem dX3_follow_6 : decode cX3_follow 6 = .ok (.istore 5, 2) := by decide +kernel
theorem dX3_follow_8 : decode cX3_follow 8 = .ok (.iload 5, 2) := by decide +kernel
theorem dX3_follow_10 : decode cX3_follow 10 = .ok (.iload_n 1, 1) := by decide +kernel
theorem dX3_follow_11 : decode cX3_follow 11 = .ok (.iconst 1, 1) := by decide +kernel
theorem dX3_follow_12 : decode cX3_follow 12 = .ok (.isub, 1) := by decide +kernel
theorem dX3_follow_13 : decode cX3_follow 13 = .ok (.if_icmp .ge 56, 3) := by decide +kernel
theorem dX3_follow_16 : decode cX3_follow 16 = .ok (.iconst 1, 1) := by decide +kernel
theorem dX3_follow_17 : decode cX3_follow 17 = .ok (.iload_n 1, 1) := by decide +kernel
theorem dX3_follow_18 : decode cX3_follow 18 = .ok (.iload 5, 2) := by decide +kernel
theorem dX3_follow_20 : decode cX3_follow 20 = .ok (.isub, 1) := by decide +kernel
theorem dX3_follow_21 : decode cX3_follow 21 = .ok (.ishl, 1) := by decide +kernel
theorem dX3_follow_22 : decode cX3_follow 22 = .ok (.istore 6, 2) := by decide +kernel
theorem dX3_follow_24 : decode cX3_follow 24 = .ok (.iload 4, 2) := by decide +kernel
theorem dX3_follow_26 : decode cX3_follow 26 = .ok (.iconst 2, 1) := by decide +kernel
theorem dX3_follow_27 : decode cX3_follow 27 = .ok (.irem, 1) := by decide +kernel
theorem dX3_follow_28 : decode cX3_follow 28 = .ok (.aload_n 0, 1) := by decide +kernel
theorem dX3_follow_29 : decode cX3_follow 29 = .ok (.getfield 11, 3) := by decide +kernel
theorem dX3_follow_32 : decode cX3_follow 32 = .ok (.iload 5, 2) := by decide +kernel
theorem dX3_follow_34 : decode cX3_follow 34 = .ok (.aaload, 1) := by decide +kernel
theorem dX3_follow_35 : decode cX3_follow 35 = .ok (.iload_n 3, 1) := by decide +kernel
theorem dX3_follow_36 : decode cX3_follow 36 = .ok (.iload 6, 2) := by decide +kernel
theorem dX3_follow_38 : decode cX3_follow 38 = .ok (.imul, 1) := by decide +kernel
theorem dX3_follow_39 : decode cX3_follow 39 = .ok (.iconst 2, 1) := by decide +kernel
theorem dX3_follow_40 : decode cX3_follow 40 = .ok (.idiv, 1) := by decide +kernel
theorem dX3_follow_41 : decode cX3_follow 41 = .ok (.iload 4, 2) := by decide +kernel
theorem dX3_follow_43 : decode cX3_follow 43 = .ok (.iconst 2, 1) := by decide +kernel
theorem dX3_follow_44 : decode cX3_follow 44 = .ok (.idiv, 1) := by decide +kernel
theorem dX3_follow_45 : decode cX3_follow 45 = .ok (.iadd, 1) := by decide +kernel
theorem dX3_follow_46 : decode cX3_follow 46 = .ok (.iaload, 1) := by decide +kernel
theorem dX3_follow_47 : decode cX3_follow 47 = .ok (.ixor, 1) := by decide +kernel
theorem dX3_follow_48 : decode cX3_follow 48 = .ok (.istore 7, 2) := by decide +kernel
theorem dX3_follow_50 : decode cX3_follow 50 = .ok (.iconst 2, 1) := by decide +kernel
theorem dX3_follow_51 : decode cX3_follow 51 = .ok (.iload_n 3, 1) := by decide +kernel
theorem dX3_follow_52 : decode cX3_follow 52 = .ok (.imul, 1) := by decide +kernel
theorem dX3_follow_53 : decode cX3_follow 53 = .ok (.iload 7, 2) := by decide +kernel
theorem dX3_follow_55 : decode cX3_follow 55 = .ok (.iadd, 1) := by decide +kernel
theorem dX3_follow_56 : decode cX3_follow 56 = .ok (.istore_n 3, 1) := by decide +kernel
theorem dX3_follow_57 : decode cX3_follow 57 = .ok (.iload 4, 2) := by decide +kernel
theorem dX3_follow_59 : decode cX3_follow 59 = .ok (.iconst 2, 1) := by decide +kernel
theorem dX3_follow_60 : decode cX3_follow 60 = .ok (.idiv, 1) := by decide +kernel
theorem dX3_follow_61 : decode cX3_follow 61 = .ok (.istore 4, 2) := by decide +kernel
theorem dX3_follow_63 : decode cX3_follow 63 = .ok (.iinc 5 1, 3) := by decide +kernel
theorem dX3_follow_66 : decode cX3_follow 66 = .ok (.goto (-58), 3) := by decide +kernel
theorem dX3_follow_69 : decode cX3_follow 69 = .ok (.iload 4, 2) := by decide +kernel
theorem dX3_follow_71 : decode cX3_follow 71 = .ok (.aload_n 0, 1) := by decide +kernel
theorem dX3_follow_72 : decode cX3_follow 72 = .ok (.getfield 11, 3) := by decide +kernel
theorem dX3_follow_75 : decode cX3_follow 75 = .ok (.iload_n 1, 1) := by decide +kernel
theorem dX3_follow_76 : decode cX3_follow 76 = .ok (.iconst 1, 1) := by decide +kernel
theorem dX3_follow_77 : decode cX3_follow 77 = .ok (.isub, 1) := by decide +kernel
theorem dX3_follow_78 : decode cX3_follow 78 = .ok (.aaload, 1) := by decide +kernel
theorem dX3_follow_79 : decode cX3_follow 79 = .ok (.iload_n 3, 1) := by decide +kernel
theorem dX3_follow_80 : decode cX3_follow 80 = .ok (.iaload, 1) := by decide +kernel
theorem dX3_follow_81 : decode cX3_follow 81 = .ok (.ixor, 1) := by decide +kernel
theorem dX3_follow_82 : decode cX3_follow 82 = .ok (.istore 4, 2) := by decide +kernel
theorem dX3_follow_84 : decode cX3_follow 84 = .ok (.iload_n 1, 1) := by decide +kernel
theorem dX3_follow_85 : decode cX3_follow 85 = .ok (.iconst 2, 1) := by decide +kernel
theorem dX3_follow_86 : decode cX3_follow 86 = .ok (.isub, 1) := by decide +kernel
theorem dX3_follow_87 : decode cX3_follow 87 = .ok (.istore 5, 2) := by decide +kernel
theorem dX3_follow_89 : decode cX3_follow 89 = .ok (.iload 5, 2) := by decide +kernel
theorem dX3_follow_91 : decode cX3_follow 91 = .ok (.ifCond .lt 59, 3) := by decide +kernel
end
section
theorem dX3_follow_94 : decode cX3_follow 94 = .ok (.iconst 1, 1) := by decide +kernel
theorem dX3_follow_95 : decode cX3_follow 95 = .ok (.iload_n 1, 1) := by decide +kernel
theorem dX3_follow_96 : decode cX3_follow 96 = .ok (.iload 5, 2) := by decide +kernel
theorem dX3_follow_98 : decode cX3_follow 98 = .ok (.isub, 1) := by decide +kernel
theorem dX3_follow_99 : decode cX3_follow 99 = .ok (.ishl, 1) := by decide +kernel
theorem dX3_follow_100 : decode cX3_follow 100 = .ok (.istore 6, 2) := by decide +kernel
theorem dX3_follow_102 : decode cX3_follow 102 = .ok (.iload_n 3, 1) := by decide +kernel
theorem dX3_follow_103 : decode cX3_follow 103 = .ok (.iconst 2, 1) := by decide +kernel
theorem dX3_follow_104 : decode cX3_follow 104 = .ok (.irem, 1) := by decide +kernel
theorem dX3_follow_105 : decode cX3_follow 105 = .ok (.istore 7, 2) := by decide +kernel
theorem dX3_follow_107 : decode cX3_follow 107 = .ok (.iload_n 3, 1) := by decide +kernel
theorem dX3_follow_108 : decode cX3_follow 108 = .ok (.iconst 2, 1) := by decide +kernel
theorem dX3_follow_109 : decode cX3_follow 109 = .ok (.idiv, 1) := by decide +kernel
theorem dX3_follow_110 : decode cX3_follow 110 = .ok (.istore_n 3, 1) := by decide +kernel
theorem dX3_follow_111 : decode cX3_follow 111 = .ok (.iconst 2, 1) := by decide +kernel
theorem dX3_follow_112 : decode cX3_follow 112 = .ok (.iload 4, 2) := by decide +kernel
theorem dX3_follow_114 : decode cX3_follow 114 = .ok (.imul, 1) := by decide +kernel
theorem dX3_follow_115 : decode cX3_follow 115 = .ok (.iload 7, 2) := by decide +kernel
theorem dX3_follow_117 : decode cX3_follow 117 = .ok (.aload_n 0, 1) := by decide +kernel
theorem dX3_follow_118 : decode cX3_follow 118 = .ok (.getfield 11, 3) := by decide +kernel
theorem dX3_follow_121 : decode cX3_follow 121 = .ok (.iconst 2, 1) := by decide +kernel
theorem dX3_follow_122 : decode cX3_follow 122 = .ok (.iload_n 1, 1) := by decide +kernel
theorem dX3_follow_123 : decode cX3_follow 123 = .ok (.imul, 1) := by decide +kernel
theorem dX3_follow_124 : decode cX3_follow 124 = .ok (.iconst 2, 1) := by decide +kernel
theorem dX3_follow_125 : decode cX3_follow 125 = .ok (.isub, 1) := by decide +kernel
theorem dX3_follow_126 : decode cX3_follow 126 = .ok (.iload 5, 2) := by decide +kernel
theorem dX3_follow_128 : decode cX3_follow 128 = .ok (.isub, 1) := by decide +kernel
theorem dX3_follow_129 : decode cX3_follow 129 = .ok (.aaload, 1) := by decide +kernel
theorem dX3_follow_130 : decode cX3_follow 130 = .ok (.iload_n 3, 1) := by decide +kernel
theorem dX3_follow_131 : decode cX3_follow 131 = .ok (.iload 6, 2) := by decide +kernel
theorem dX3_follow_133 : decode cX3_follow 133 = .ok (.imul, 1) := by decide +kernel
theorem dX3_follow_134 : decode cX3_follow 134 = .ok (.iconst 2, 1) := by decide +kernel
theorem dX3_follow_135 : decode cX3_follow 135 = .ok (.idiv, 1) := by decide +kernel
theorem dX3_follow_136 : decode cX3_follow 136 = .ok (.iload 4, 2) := by decide +kernel
theorem dX3_follow_138 : decode cX3_follow 138 = .ok (.iadd, 1) := by decide +kernel
theorem dX3_follow_139 : decode cX3_follow 139 = .ok (.iaload, 1) := by decide +kernel
theorem dX3_follow_140 : decode cX3_follow 140 = .ok (.ixor, 1) := by decide +kernel
theorem dX3_follow_141 : decode cX3_follow 141 = .ok (.iadd, 1) := by decide +kernel
theorem dX3_follow_142 : decode cX3_follow 142 = .ok (.istore 4, 2) := by decide +kernel
theorem dX3_follow_144 : decode cX3_follow 144 = .ok (.iinc 5 (-1), 3) := by decide +kernel
theorem dX3_follow_147 : decode cX3_follow 147 = .ok (.goto (-58), 3) := by decide +kernel
theorem dX3_follow_150 : decode cX3_follow 150 = .ok (.iload 4, 2) := by decide +kernel
theorem dX3_follow_152 : decode cX3_follow 152 = .ok (.ireturn, 1) := by decide +kernel
set_option maxRecDepth 20000 in
theorem ggX3_goRound_X3_other : GoodIn wsX3_goRound wsX3_other := goodIn_r _ [7] (by decide +kernel) (by decide +kernel)
set_option maxRecDepth 20000 in
theorem gX3_goRound_X3_other : GoodIn wsX3_goRound (va_wsS RX3 46 yX3_other wsX3_other) := goodIn_app (goodIn_of _ (by decide +kernel)) ggX3_goRound_X3_other
theorem dX3_goRound_0 : decode cX3_goRound 0 = .ok (.aload_n 0, 1) := by decide +kernel
theorem dX3_goRound_1 : decode cX3_goRound 1 = .ok (.getfield 16, 3) := by decide +kernel
theorem dX3_goRound_4 : decode cX3_goRound 4 = .ok (.iload_n 1, 1) := by decide +kernel
theorem dX3_goRound_5 : decode cX3_goRound 5 = .ok (.aaload, 1) := by decide +kernel
theorem dX3_goRound_6 : decode cX3_goRound 6 = .ok (.astore 4, 2) := by decide +kernel
theorem dX3_goRound_8 : decode cX3_goRound 8 = .ok (.iconst 0, 1) := by decide +kernel
theorem dX3_goRound_9 : decode cX3_goRound 9 = .ok (.istore 5, 2) := by decide +kernel
theorem dX3_goRound_11 : decode cX3_goRound 11 = .ok (.iload 5, 2) := by decide +kernel
theorem dX3_goRound_13 : decode cX3_goRound 13 = .ok (.iload_n 3, 1) := by decide +kernel
theorem dX3_goRound_14 : decode cX3_goRound 14 = .ok (.if_icmp .ge 31, 3) := by decide +kernel
theorem dX3_goRound_17 : decode cX3_goRound 17 = .ok (.aload_n 0, 1) := by decide +kernel
theorem dX3_goRound_18 : decode cX3_goRound 18 = .ok (.getfield 19, 3) := by decide +kernel
theorem dX3_goRound_21 : decode cX3_goRound 21 = .ok (.aload 4, 2) := by decide +kernel
theorem dX3_goRound_23 : decode cX3_goRound 23 = .ok (.iload_n 2, 1) := by decide +kernel
theorem dX3_goRound_24 : decode cX3_goRound 24 = .ok (.iload 5, 2) := by decide +kernel
theorem dX3_goRound_26 : decode cX3_goRound 26 = .ok (.iadd, 1) := by decide +kernel
theorem dX3_goRound_27 : decode cX3_goRound 27 = .ok (.iaload, 1) := by decide +kernel
theorem dX3_goRound_28 : decode cX3_goRound 28 = .ok (.iload 5, 2) := by decide +kernel
theorem dX3_goRound_30 : decode cX3_goRound 30 = .ok (.iastore, 1) := by decide +kernel
theorem dX3_goRound_31 : decode cX3_goRound 31 = .ok (.aload_n 0, 1) := by decide +kernel
theorem dX3_goRound_32 : decode cX3_goRound 32 = .ok (.getfield 23, 3) := by decide +kernel
theorem dX3_goRound_35 : decode cX3_goRound 35 = .ok (.iload 5, 2) := by decide +kernel
theorem dX3_goRound_37 : decode cX3_goRound 37 = .ok (.iconst (-1), 1) := by decide +kernel
theorem dX3_goRound_38 : decode cX3_goRound 38 = .ok (.iastore, 1) := by decide +kernel
theorem dX3_goRound_39 : decode cX3_goRound 39 = .ok (.iinc 5 1, 3) := by decide +kernel
theorem dX3_goRound_42 : decode cX3_goRound 42 = .ok (.goto (-31), 3) := by decide +kernel
theorem dX3_goRound_45 : decode cX3_goRound 45 = .ok (.iconst 0, 1) := by decide +kernel
theorem dX3_goRound_46 : decode cX3_goRound 46 = .ok (.istore 5, 2) := by decide +kernel
theorem dX3_goRound_48 : decode cX3_goRound 48 = .ok (.iload 5, 2) := by decide +kernel
theorem dX3_goRound_50 : decode cX3_goRound 50 = .ok (.iload_n 3, 1) := by decide +kernel
theorem dX3_goRound_51 : decode cX3_goRound 51 = .ok (.if_icmp .ge 79, 3) := by decide +kernel
theorem dX3_goRound_54 : decode cX3_goRound 54 = .ok (.iload 5, 2) := by decide +kernel
theorem dX3_goRound_56 : decode cX3_goRound 56 = .ok (.istore 6, 2) := by decide +kernel
theorem dX3_goRound_58 : decode cX3_goRound 58 = .ok (.iconst 0, 1) := by decide +kernel
theorem dX3_goRound_59 : decode cX3_goRound 59 = .ok (.istore 7, 2) := by decide +kernel
theorem dX3_goRound_61 : decode cX3_goRound 61 = .ok (.iload 7, 2) := by decide +kernel
theorem dX3_goRound_63 : decode cX3_goRound 63 = .ok (.iload_n 3, 1) := by decide +kernel
theorem dX3_goRound_64 : decode cX3_goRound 64 = .ok (.if_icmp .ge 60, 3) := by decide +kernel
theorem dX3_goRound_67 : decode cX3_goRound 67 = .ok (.aload_n 0, 1) := by decide +kernel
theorem dX3_goRound_68 : decode cX3_goRound 68 = .ok (.getfield 23, 3) := by decide +kernel
theorem dX3_goRound_71 : decode cX3_goRound 71 = .ok (.iload 6, 2) := by decide +kernel
theorem dX3_goRound_73 : decode cX3_goRound 73 = .ok (.iaload, 1) := by decide +kernel
theorem dX3_goRound_74 : decode cX3_goRound 74 = .ok (.iconst (-1), 1) := by decide +kernel
theorem dX3_goRound_75 : decode cX3_goRound 75 = .ok (.if_icmp .ne 49, 3) := by decide +kernel
theorem dX3_goRound_78 : decode cX3_goRound 78 = .ok (.aload_n 0, 1) := by decide +kernel
theorem dX3_goRound_79 : decode cX3_goRound 79 = .ok (.getfield 23, 3) := by decide +kernel
theorem dX3_goRound_82 : decode cX3_goRound 82 = .ok (.iload 6, 2) := by decide +kernel
theorem dX3_goRound_84 : decode cX3_goRound 84 = .ok (.iconst 0, 1) := by decide +kernel
theorem dX3_goRound_85 : decode cX3_goRound 85 = .ok (.iastore, 1) := by decide +kernel
theorem dX3_goRound_86 : decode cX3_goRound 86 = .ok (.aload_n 0, 1) := by decide +kernel
theorem dX3_goRound_87 : decode cX3_goRound 87 = .ok (.getfield 19, 3) := by decide +kernel
theorem dX3_goRound_90 : decode cX3_goRound 90 = .ok (.aload 4, 2) := by decide +kernel
theorem dX3_goRound_92 : decode cX3_goRound 92 = .ok (.iload_n 2, 1) := by decide +kernel
theorem dX3_goRound_93 : decode cX3_goRound 93 = .ok (.iload 6, 2) := by decide +kernel
theorem dX3_goRound_95 : decode cX3_goRound 95 = .ok (.iadd, 1) := by decide +kernel
theorem dX3_goRound_96 : decode cX3_goRound 96 = .ok (.iaload, 1) := by decide +kernel
theorem dX3_goRound_97 : decode cX3_goRound 97 = .ok (.invokestatic 46, 3) := by decide +kernel
theorem dX3_goRound_100 : decode cX3_goRound 100 = .ok (.iaload, 1) := by decide +kernel
theorem dX3_goRound_101 : decode cX3_goRound 101 = .ok (.istore 8, 2) := by decide +kernel
theorem dX3_goRound_103 : decode cX3_goRound 103 = .ok (.aload_n 0, 1) := by decide +kernel
theorem dX3_goRound_104 : decode cX3_goRound 104 = .ok (.getfield 23, 3) := by decide +kernel
theorem dX3_goRound_107 : decode cX3_goRound 107 = .ok (.iload 8, 2) := by decide +kernel
theorem dX3_goRound_109 : decode cX3_goRound 109 = .ok (.iconst 1, 1) := by decide +kernel
theorem dX3_goRound_110 : decode cX3_goRound 110 = .ok (.iastore, 1) := by decide +kernel
theorem dX3_goRound_111 : decode cX3_goRound 111 = .ok (.iload 8, 2) := by decide +kernel
theorem dX3_goRound_113 : decode cX3_goRound 113 = .ok (.invokestatic 46, 3) := by decide +kernel
theorem dX3_goRound_116 : decode cX3_goRound 116 = .ok (.istore 6, 2) := by decide +kernel
theorem dX3_goRound_118 : decode cX3_goRound 118 = .ok (.iinc 7 1, 3) := by decide +kernel
theorem dX3_goRound_121 : decode cX3_goRound 121 = .ok (.goto (-60), 3) := by decide +kernel
theorem dX3_goRound_124 : decode cX3_goRound 124 = .ok (.iinc 5 1, 3) := by decide +kernel
theorem dX3_goRound_127 : decode cX3_goRound 127 = .ok (.goto (-79), 3) := by decide +kernel
theorem dX3_goRound_130 : decode cX3_goRound 130 = .ok (.return_, 1) := by decide +kernel
theorem dX3_setOuterStages_0 : decode cX3_setOuterStages 0 = .ok (.iconst 0, 1) := by decide +kernel
theorem dX3_setOuterStages_1 : decode cX3_setOuterStages 1 = .ok (.istore 5, 2) := by decide +kernel
theorem dX3_setOuterStages_3 : decode cX3_setOuterStages 3 = .ok (.iload 5, 2) := by decide +kernel
theorem dX3_setOuterStages_5 : decode cX3_setOuterStages 5 = .ok (.iload 4, 2) := by decide +kernel
theorem dX3_setOuterStages_7 : decode cX3_setOuterStages 7 = .ok (.iconst 2, 1) := by decide +kernel
theorem dX3_setOuterStages_8 : decode cX3_setOuterStages 8 = .ok (.idiv, 1) := by decide +kernel
theorem dX3_setOuterStages_9 : decode cX3_setOuterStages 9 = .ok (.if_icmp .ge 60, 3) := by decide +kernel
theorem dX3_setOuterStages_12 : decode cX3_setOuterStages 12 = .ok (.aload_n 0, 1) := by decide +kernel
theorem dX3_setOuterStages_13 : decode cX3_setOuterStages 13 = .ok (.getfield 11, 3) := by decide +kernel
theorem dX3_setOuterStages_16 : decode cX3_setOuterStages 16 = .ok (.iload_n 2, 1) := by decide +kernel
theorem dX3_setOuterStages_17 : decode cX3_setOuterStages 17 = .ok (.aaload, 1) := by decide +kernel
theorem dX3_setOuterStages_18 : decode cX3_setOuterStages 18 = .ok (.iload_n 3, 1) := by decide +kernel
theorem dX3_setOuterStages_19 : decode cX3_setOuterStages 19 = .ok (.iconst 2, 1) := by decide +kernel
theorem dX3_setOuterStages_20 : decode cX3_setOuterStages 20 = .ok (.idiv, 1) := by decide +kernel
theorem dX3_setOuterStages_21 : decode cX3_setOuterStages 21 = .ok (.iload 5, 2) := by decide +kernel
theorem dX3_setOuterStages_23 : decode cX3_setOuterStages 23 = .ok (.iadd, 1) := by decide +kernel
theorem dX3_setOuterStages_24 : decode cX3_setOuterStages 24 = .ok (.aload_n 0, 1) := by decide +kernel
theorem dX3_setOuterStages_25 : decode cX3_setOuterStages 25 = .ok (.getfield 23, 3) := by decide +kernel
theorem dX3_setOuterStages_28 : decode cX3_setOuterStages 28 = .ok (.iconst 2, 1) := by decide +kernel
theorem dX3_setOuterStages_29 : decode cX3_setOuterStages 29 = .ok (.iload 5, 2) := by decide +kernel
theorem dX3_setOuterStages_31 : decode cX3_setOuterStages 31 = .ok (.imul, 1) := by decide +kernel
theorem dX3_setOuterStages_32 : decode cX3_setOuterStages 32 = .ok (.iaload, 1) := by decide +kernel
theorem dX3_setOuterStages_33 : decode cX3_setOuterStages 33 = .ok (.iastore, 1) := by decide +kernel
theorem dX3_setOuterStages_34 : decode cX3_setOuterStages 34 = .ok (.aload_n 0, 1) := by decide +kernel
theorem dX3_setOuterStages_35 : decode cX3_setOuterStages 35 = .ok (.getfield 11, 3) := by decide +kernel
theorem dX3_setOuterStages_38 : decode cX3_setOuterStages 38 = .ok (.iload_n 1, 1) := by decide +kernel
theorem dX3_setOuterStages_39 : decode cX3_setOuterStages 39 = .ok (.iload_n 2, 1) := by decide +kernel
theorem dX3_setOuterStages_40 : decode cX3_setOuterStages 40 = .ok (.isub, 1) := by decide +kernel
theorem dX3_setOuterStages_41 : decode cX3_setOuterStages 41 = .ok (.aaload, 1) := by decide +kernel
theorem dX3_setOuterStages_42 : decode cX3_setOuterStages 42 = .ok (.iload_n 3, 1) := by decide +kernel
theorem dX3_setOuterStages_43 : decode cX3_setOuterStages 43 = .ok (.iconst 2, 1) := by decide +kernel
theorem dX3_setOuterStages_44 : decode cX3_setOuterStages 44 = .ok (.idiv, 1) := by decide +kernel
theorem dX3_setOuterStages_45 : decode cX3_setOuterStages 45 = .ok (.iload 5, 2) := by decide +kernel
theorem dX3_setOuterStages_47 : decode cX3_setOuterStages 47 = .ok (.iadd, 1) := by decide +kernel
theorem dX3_setOuterStages_48 : decode cX3_setOuterStages 48 = .ok (.aload_n 0, 1) := by decide +kernel
theorem dX3_setOuterStages_49 : decode cX3_setOuterStages 49 = .ok (.getfield 23, 3) := by decide +kernel
theorem dX3_setOuterStages_52 : decode cX3_setOuterStages 52 = .ok (.aload_n 0, 1) := by decide +kernel
theorem dX3_setOuterStages_53 : decode cX3_setOuterStages 53 = .ok (.getfield 19, 3) := by decide +kernel
theorem dX3_setOuterStages_56 : decode cX3_setOuterStages 56 = .ok (.iconst 2, 1) := by decide +kernel
theorem dX3_setOuterStages_57 : decode cX3_setOuterStages 57 = .ok (.iload 5, 2) := by decide +kernel
theorem dX3_setOuterStages_59 : decode cX3_setOuterStages 59 = .ok (.imul, 1) := by decide +kernel
theorem dX3_setOuterStages_60 : decode cX3_setOuterStages 60 = .ok (.iaload, 1) := by decide +kernel
theorem dX3_setOuterStages_61 : decode cX3_setOuterStages 61 = .ok (.iaload, 1) := by decide +kernel
theorem dX3_setOuterStages_62 : decode cX3_setOuterStages 62 = .ok (.iastore, 1) := by decide +kernel
theorem dX3_setOuterStages_63 : decode cX3_setOuterStages 63 = .ok (.iinc 5 1, 3) := by decide +kernel
theorem dX3_setOuterStages_66 : decode cX3_setOuterStages 66 = .ok (.goto (-63), 3) := by decide +kernel
theorem dX3_setOuterStages_69 : decode cX3_setOuterStages 69 = .ok (.return_, 1) := by decide +kernel
theorem dX3_handToHalves_0 : decode cX3_handToHalves 0 = .ok (.iconst 0, 1) := by decide +kernel
theorem dX3_handToHalves_1 : decode cX3_handToHalves 1 = .ok (.istore 4, 2) := by decide +kernel
theorem dX3_handToHalves_3 : decode cX3_handToHalves 3 = .ok (.iload 4, 2) := by decide +kernel
theorem dX3_handToHalves_5 : decode cX3_handToHalves 5 = .ok (.iload_n 3, 1) := by decide +kernel
theorem dX3_handToHalves_6 : decode cX3_handToHalves 6 = .ok (.if_icmp .ge 53, 3) := by decide +kernel
theorem dX3_handToHalves_9 : decode cX3_handToHalves 9 = .ok (.iload_n 2, 1) := by decide +kernel
theorem dX3_handToHalves_10 : decode cX3_handToHalves 10 = .ok (.aload_n 0, 1) := by decide +kernel
theorem dX3_handToHalves_11 : decode cX3_handToHalves 11 = .ok (.getfield 23, 3) := by decide +kernel
theorem dX3_handToHalves_14 : decode cX3_handToHalves 14 = .ok (.iload 4, 2) := by decide +kernel
theorem dX3_handToHalves_16 : decode cX3_handToHalves 16 = .ok (.iaload, 1) := by decide +kernel
theorem dX3_handToHalves_17 : decode cX3_handToHalves 17 = .ok (.iload_n 3, 1) := by decide +kernel
theorem dX3_handToHalves_18 : decode cX3_handToHalves 18 = .ok (.imul, 1) := by decide +kernel
theorem dX3_handToHalves_19 : decode cX3_handToHalves 19 = .ok (.iconst 2, 1) := by decide +kernel
theorem dX3_handToHalves_20 : decode cX3_handToHalves 20 = .ok (.idiv, 1) := by decide +kernel
theorem dX3_handToHalves_21 : decode cX3_handToHalves 21 = .ok (.iadd, 1) := by decide +kernel
theorem dX3_handToHalves_22 : decode cX3_handToHalves 22 = .ok (.istore 5, 2) := by decide +kernel
theorem dX3_handToHalves_24 : decode cX3_handToHalves 24 = .ok (.aload_n 0, 1) := by decide +kernel
theorem dX3_handToHalves_25 : decode cX3_handToHalves 25 = .ok (.getfield 16, 3) := by decide +kernel
theorem dX3_handToHalves_28 : decode cX3_handToHalves 28 = .ok (.iload_n 1, 1) := by decide +kernel
theorem dX3_handToHalves_29 : decode cX3_handToHalves 29 = .ok (.iconst 1, 1) := by decide +kernel
theorem dX3_handToHalves_30 : decode cX3_handToHalves 30 = .ok (.iadd, 1) := by decide +kernel
theorem dX3_handToHalves_31 : decode cX3_handToHalves 31 = .ok (.aaload, 1) := by decide +kernel
theorem dX3_handToHalves_32 : decode cX3_handToHalves 32 = .ok (.iload 5, 2) := by decide +kernel
theorem dX3_handToHalves_34 : decode cX3_handToHalves 34 = .ok (.iload 4, 2) := by decide +kernel
theorem dX3_handToHalves_36 : decode cX3_handToHalves 36 = .ok (.iconst 2, 1) := by decide +kernel
theorem dX3_handToHalves_37 : decode cX3_handToHalves 37 = .ok (.idiv, 1) := by decide +kernel
theorem dX3_handToHalves_38 : decode cX3_handToHalves 38 = .ok (.iadd, 1) := by decide +kernel
theorem dX3_handToHalves_39 : decode cX3_handToHalves 39 = .ok (.aload_n 0, 1) := by decide +kernel
theorem dX3_handToHalves_40 : decode cX3_handToHalves 40 = .ok (.getfield 16, 3) := by decide +kernel
theorem dX3_handToHalves_43 : decode cX3_handToHalves 43 = .ok (.iload_n 1, 1) := by decide +kernel
theorem dX3_handToHalves_44 : decode cX3_handToHalves 44 = .ok (.aaload, 1) := by decide +kernel
theorem dX3_handToHalves_45 : decode cX3_handToHalves 45 = .ok (.iload_n 2, 1) := by decide +kernel
theorem dX3_handToHalves_46 : decode cX3_handToHalves 46 = .ok (.iload 4, 2) := by decide +kernel
theorem dX3_handToHalves_48 : decode cX3_handToHalves 48 = .ok (.iadd, 1) := by decide +kernel
theorem dX3_handToHalves_49 : decode cX3_handToHalves 49 = .ok (.iaload, 1) := by decide +kernel
theorem dX3_handToHalves_50 : decode cX3_handToHalves 50 = .ok (.iconst 2, 1) := by decide +kernel
theorem dX3_handToHalves_51 : decode cX3_handToHalves 51 = .ok (.idiv, 1) := by decide +kernel
theorem dX3_handToHalves_52 : decode cX3_handToHalves 52 = .ok (.iastore, 1) := by decide +kernel
theorem dX3_handToHalves_53 : decode cX3_handToHalves 53 = .ok (.iinc 4 1, 3) := by decide +kernel
theorem dX3_handToHalves_56 : decode cX3_handToHalves 56 = .ok (.goto (-53), 3) := by decide +kernel
theorem dX3_handToHalves_59 : decode cX3_handToHalves 59 = .ok (.return_, 1) := by decide +kernel
theorem dX3_other_0 : decode cX3_other 0 = .ok (.iload_n 0, 1) := by decide +kernel
theorem dX3_other_1 : decode cX3_other 1 = .ok (.iconst 1, 1) := by decide +kernel
theorem dX3_other_2 : decode cX3_other 2 = .ok (.ixor, 1) := by decide +kernel
theorem dX3_other_3 : decode cX3_other 3 = .ok (.ireturn, 1) := by decide +kernel
theorem dX4_init_0 : decode cX4_init 0 = .ok (.aload_n 0, 1) := by decide +kernel
theorem dX4_init_1 : decode cX4_init 1 = .ok (.invokespecial 1, 3) := by decide +kernel
theorem dX4_init_4 : decode cX4_init 4 = .ok (.aload_n 0, 1) := by decide +kernel
theorem dX4_init_5 : decode cX4_init 5 = .ok (.iload_n 1, 1) := by decide +kernel
theorem dX4_init_6 : decode cX4_init 6 = .ok (.putfield 7, 3) := by decide +kernel
theorem dX4_init_9 : decode cX4_init 9 = .ok (.aload_n 0, 1) := by decide +kernel
theorem dX4_init_10 : decode cX4_init 10 = .ok (.iload_n 2, 1) := by decide +kernel
theorem dX4_init_11 : decode cX4_init 11 = .ok (.newarray .int, 2) := by decide +kernel
theorem dX4_init_13 : decode cX4_init 13 = .ok (.putfield 13, 3) := by decide +kernel
theorem dX4_init_16 : decode cX4_init 16 = .ok (.return_, 1) := by decide +kernel
theorem dX4_holds_0 : decode cX4_holds 0 = .ok (.iload_n 1, 1) := by decide +kernel
theorem dX4_holds_1 : decode cX4_holds 1 = .ok (.ifCond .lt 31, 3) := by decide +kernel
theorem dX4_holds_4 : decode cX4_holds 4 = .ok (.iload_n 2, 1) := by decide +kernel
theorem dX4_holds_5 : decode cX4_holds 5 = .ok (.ifCond .lt 27, 3) := by decide +kernel
theorem dX4_holds_8 : decode cX4_holds 8 = .ok (.iload_n 2, 1) := by decide +kernel
theorem dX4_holds_9 : decode cX4_holds 9 = .ok (.aload_n 0, 1) := by decide +kernel
theorem dX4_holds_10 : decode cX4_holds 10 = .ok (.getfield 13, 3) := by decide +kernel
theorem dX4_holds_13 : decode cX4_holds 13 = .ok (.arraylength, 1) := by decide +kernel
theorem dX4_holds_14 : decode cX4_holds 14 = .ok (.if_icmp .gt 18, 3) := by decide +kernel
theorem dX4_holds_17 : decode cX4_holds 17 = .ok (.iload_n 1, 1) := by decide +kernel
theorem dX4_holds_18 : decode cX4_holds 18 = .ok (.aload_n 0, 1) := by decide +kernel
theorem dX4_holds_19 : decode cX4_holds 19 = .ok (.getfield 13, 3) := by decide +kernel
theorem dX4_holds_22 : decode cX4_holds 22 = .ok (.arraylength, 1) := by decide +kernel
theorem dX4_holds_23 : decode cX4_holds 23 = .ok (.iload_n 2, 1) := by decide +kernel
theorem dX4_holds_24 : decode cX4_holds 24 = .ok (.isub, 1) := by decide +kernel
theorem dX4_holds_25 : decode cX4_holds 25 = .ok (.if_icmp .gt 7, 3) := by decide +kernel
theorem dX4_holds_28 : decode cX4_holds 28 = .ok (.iconst 1, 1) := by decide +kernel
theorem dX4_holds_29 : decode cX4_holds 29 = .ok (.goto 4, 3) := by decide +kernel
theorem dX4_holds_32 : decode cX4_holds 32 = .ok (.iconst 0, 1) := by decide +kernel
theorem dX4_holds_33 : decode cX4_holds 33 = .ok (.ireturn, 1) := by decide +kernel
theorem dX4_cutToLane_0 : decode cX4_cutToLane 0 = .ok (.aload_n 0, 1) := by decide +kernel
theorem dX4_cutToLane_1 : decode cX4_cutToLane 1 = .ok (.getfield 7, 3) := by decide +kernel
theorem dX4_cutToLane_4 : decode cX4_cutToLane 4 = .ok (.ifCond .ne 6, 3) := by decide +kernel
theorem dX4_cutToLane_7 : decode cX4_cutToLane 7 = .ok (.iload_n 1, 1) := by decide +kernel
theorem dX4_cutToLane_8 : decode cX4_cutToLane 8 = .ok (.i2b, 1) := by decide +kernel
theorem dX4_cutToLane_9 : decode cX4_cutToLane 9 = .ok (.ireturn, 1) := by decide +kernel
theorem dX4_cutToLane_10 : decode cX4_cutToLane 10 = .ok (.aload_n 0, 1) := by decide +kernel
theorem dX4_cutToLane_11 : decode cX4_cutToLane 11 = .ok (.getfield 7, 3) := by decide +kernel
theorem dX4_cutToLane_14 : decode cX4_cutToLane 14 = .ok (.iconst 1, 1) := by decide +kernel
theorem dX4_cutToLane_15 : decode cX4_cutToLane 15 = .ok (.if_icmp .ne 8, 3) := by decide +kernel
theorem dX4_cutToLane_18 : decode cX4_cutToLane 18 = .ok (.iload_n 1, 1) := by decide +kernel
theorem dX4_cutToLane_19 : decode cX4_cutToLane 19 = .ok (.i2s, 1) := by decide +kernel
theorem dX4_cutToLane_20 : decode cX4_cutToLane 20 = .ok (.goto 4, 3) := by decide +kernel
theorem dX4_cutToLane_23 : decode cX4_cutToLane 23 = .ok (.iload_n 1, 1) := by decide +kernel
theorem dX4_cutToLane_24 : decode cX4_cutToLane 24 = .ok (.ireturn, 1) := by decide +kernel
set_option maxRecDepth 20000 in
theorem ggX5_init_X0_init : GoodIn wsX5_init wsX0_init := goodIn_r _ [22, 23, 2, 3, 24, 25, 46, 47] (by decide +kernel) (by decide +kernel)
set_option maxRecDepth 20000 in
theorem gX5_init_X0_init_n23 : GoodIn wsX5_init (wsX0_init) := ggX5_init_X0_init
set_option maxRecDepth 20000 in
theorem ggX5_init_X3_init : GoodIn wsX5_init wsX3_init := goodIn_r _ [27, 28, 2, 3, 29, 24, 30, 31, 32, 33, 48, 49, 50, 51] (by decide +kernel) (by decide +kernel)
set_option maxRecDepth 20000 in
theorem gX5_init_X3_init_n30 : GoodIn wsX5_init (wsX3_init) := ggX5_init_X3_init
set_option maxRecDepth 20000 in
theorem ggX5_init_X2_init : GoodIn wsX5_init wsX2_init := goodIn_r _ [35, 36, 2, 3, 24, 37, 38, 39, 52, 53, 54, 55] (by decide +kernel) (by decide +kernel)
set_option maxRecDepth 20000 in
theorem gX5_init_X2_init_n37 : GoodIn wsX5_init (wsX2_init) := ggX5_init_X2_init
theorem dX5_init_0 : decode cX5_init 0 = .ok (.aload_n 0, 1) := by decide +kernel
theorem dX5_init_1 : decode cX5_init 1 = .ok (.invokespecial 1, 3) := by decide +kernel
theorem dX5_init_4 : decode cX5_init 4 = .ok (.aload_n 0, 1) := by decide +kernel
theorem dX5_init_5 : decode cX5_init 5 = .ok (.bipush 8, 2) := by decide +kernel
theorem dX5_init_7 : decode cX5_init 7 = .ok (.anewarray 9, 3) := by decide +kernel
theorem dX5_init_10 : decode cX5_init 10 = .ok (.putfield 11, 3) := by decide +kernel
theorem dX5_init_13 : decode cX5_init 13 = .ok (.aload_n 0, 1) := by decide +kernel
theorem dX5_init_14 : decode cX5_init 14 = .ok (.bipush 6, 2) := by decide +kernel
theorem dX5_init_16 : decode cX5_init 16 = .ok (.anewarray 15, 3) := by decide +kernel
theorem dX5_init_19 : decode cX5_init 19 = .ok (.putfield 17, 3) := by decide +kernel
theorem dX5_init_22 : decode cX5_init 22 = .ok (.aload_n 0, 1) := by decide +kernel
theorem dX5_init_23 : decode cX5_init 23 = .ok (.new 21, 3) := by decide +kernel
theorem dX5_init_26 : decode cX5_init 26 = .ok (.dup, 1) := by decide +kernel
theorem dX5_init_27 : decode cX5_init 27 = .ok (.invokespecial 23, 3) := by decide +kernel
theorem dX5_init_30 : decode cX5_init 30 = .ok (.putfield 24, 3) := by decide +kernel
theorem dX5_init_33 : decode cX5_init 33 = .ok (.aload_n 0, 1) := by decide +kernel
theorem dX5_init_34 : decode cX5_init 34 = .ok (.new 28, 3) := by decide +kernel
theorem dX5_init_37 : decode cX5_init 37 = .ok (.dup, 1) := by decide +kernel
theorem dX5_init_38 : decode cX5_init 38 = .ok (.invokespecial 30, 3) := by decide +kernel
theorem dX5_init_41 : decode cX5_init 41 = .ok (.putfield 31, 3) := by decide +kernel
theorem dX5_init_44 : decode cX5_init 44 = .ok (.aload_n 0, 1) := by decide +kernel
theorem dX5_init_45 : decode cX5_init 45 = .ok (.new 35, 3) := by decide +kernel
theorem dX5_init_48 : decode cX5_init 48 = .ok (.dup, 1) := by decide +kernel
theorem dX5_init_49 : decode cX5_init 49 = .ok (.invokespecial 37, 3) := by decide +kernel
theorem dX5_init_52 : decode cX5_init 52 = .ok (.putfield 38, 3) := by decide +kernel
theorem dX5_init_55 : decode cX5_init 55 = .ok (.aload_n 0, 1) := by decide +kernel
theorem dX5_init_56 : decode cX5_init 56 = .ok (.iconst 0, 1) := by decide +kernel
theorem dX5_init_57 : decode cX5_init 57 = .ok (.putfield 42, 3) := by decide +kernel
theorem dX5_init_60 : decode cX5_init 60 = .ok (.return_, 1) := by decide +kernel
set_option maxRecDepth 20000 in
theorem ggX5_sheet_X5_isSheet : GoodIn wsX5_sheet wsX5_isSheet := goodIn_r _ [9, 10, 11, 8, 12] (by decide +kernel) (by decide +kernel)
set_option maxRecDepth 20000 in
theorem gX5_sheet_X5_isSheet : GoodIn wsX5_sheet (va_wsS RX5 46 yX5_isSheet wsX5_isSheet) := goodIn_app (goodIn_of _ (by decide +kernel)) ggX5_sheet_X5_isSheet
set_option maxRecDepth 20000 in
theorem ggX5_sheet_X5_within : GoodIn wsX5_sheet wsX5_within := goodIn_r _ [12] (by decide +kernel) (by decide +kernel)
set_option maxRecDepth 20000 in
theorem gX5_sheet_X5_within : GoodIn wsX5_sheet (va_wsS RX5 50 yX5_within wsX5_within) := goodIn_app (goodIn_of _ (by decide +kernel)) ggX5_sheet_X5_within
set_option maxRecDepth 20000 in
theorem ggX5_sheet_X5_found : GoodIn wsX5_sheet wsX5_found := goodIn_r _ [16, 17, 18, 32, 33, 34, 35, 36, 37] (by decide +kernel) (by decide +kernel)
set_option maxRecDepth 20000 in
theorem gX5_sheet_X5_found : GoodIn wsX5_sheet (wsV RX5 55 RX5 yX5_found wsX5_found) := goodIn_app (goodIn_of _ (by decide +kernel)) ggX5_sheet_X5_found
set_option maxRecDepth 20000 in
theorem ggX5_sheet_X4_init : GoodIn wsX5_sheet wsX4_init := goodIn_r _ [21, 22, 23, 24, 25, 26, 27, 38, 39] (by decide +kernel) (by decide +kernel)
set_option maxRecDepth 20000 in
theorem gX5_sheet_X4_init : GoodIn wsX5_sheet (wsX4_init) := ggX5_sheet_X4_init
set_option maxRecDepth 20000 in
theorem ggX5_sheet_X5_fine : GoodIn wsX5_sheet wsX5_fine := goodIn_r _ [31, 17, 32, 33, 34, 35, 36, 37] (by decide +kernel) (by decide +kernel)
set_option maxRecDepth 20000 in
theorem gX5_sheet_X5_fine : GoodIn wsX5_sheet (wsV RX5 62 RX5 yX5_fine wsX5_fine) := goodIn_app (goodIn_of _ (by decide +kernel)) ggX5_sheet_X5_fine
theorem dX5_sheet_0 : decode cX5_sheet 0 = .ok (.iload_n 1, 1) := by decide +kernel
theorem dX5_sheet_1 : decode cX5_sheet 1 = .ok (.invokestatic 46, 3) := by decide +kernel
theorem dX5_sheet_4 : decode cX5_sheet 4 = .ok (.ifCond .eq 18, 3) := by decide +kernel
theorem dX5_sheet_7 : decode cX5_sheet 7 = .ok (.iload_n 2, 1) := by decide +kernel
theorem dX5_sheet_8 : decode cX5_sheet 8 = .ok (.iconst 0, 1) := by decide +kernel
theorem dX5_sheet_9 : decode cX5_sheet 9 = .ok (.iconst 2, 1) := by decide +kernel
theorem dX5_sheet_10 : decode cX5_sheet 10 = .ok (.invokestatic 50, 3) := by decide +kernel
theorem dX5_sheet_13 : decode cX5_sheet 13 = .ok (.ifCond .eq 9, 3) := by decide +kernel
theorem dX5_sheet_16 : decode cX5_sheet 16 = .ok (.iload_n 3, 1) := by decide +kernel
theorem dX5_sheet_17 : decode cX5_sheet 17 = .ok (.bipush 64, 2) := by decide +kernel
theorem dX5_sheet_19 : decode cX5_sheet 19 = .ok (.if_icmp .le 6, 3) := by decide +kernel
theorem dX5_sheet_22 : decode cX5_sheet 22 = .ok (.ldc 54, 2) := by decide +kernel
theorem dX5_sheet_24 : decode cX5_sheet 24 = .ok (.ireturn, 1) := by decide +kernel
theorem dX5_sheet_25 : decode cX5_sheet 25 = .ok (.iload_n 3, 1) := by decide +kernel
theorem dX5_sheet_26 : decode cX5_sheet 26 = .ok (.ifCond .ge 9, 3) := by decide +kernel
theorem dX5_sheet_29 : decode cX5_sheet 29 = .ok (.aload_n 0, 1) := by decide +kernel
theorem dX5_sheet_30 : decode cX5_sheet 30 = .ok (.iconst 4, 1) := by decide +kernel
theorem dX5_sheet_31 : decode cX5_sheet 31 = .ok (.invokevirtual 55, 3) := by decide +kernel
theorem dX5_sheet_34 : decode cX5_sheet 34 = .ok (.ireturn, 1) := by decide +kernel
theorem dX5_sheet_35 : decode cX5_sheet 35 = .ok (.aload_n 0, 1) := by decide +kernel
theorem dX5_sheet_36 : decode cX5_sheet 36 = .ok (.getfield 11, 3) := by decide +kernel
theorem dX5_sheet_39 : decode cX5_sheet 39 = .ok (.iload_n 1, 1) := by decide +kernel
theorem dX5_sheet_40 : decode cX5_sheet 40 = .ok (.new 9, 3) := by decide +kernel
theorem dX5_sheet_43 : decode cX5_sheet 43 = .ok (.dup, 1) := by decide +kernel
theorem dX5_sheet_44 : decode cX5_sheet 44 = .ok (.iload_n 2, 1) := by decide +kernel
theorem dX5_sheet_45 : decode cX5_sheet 45 = .ok (.iload_n 3, 1) := by decide +kernel
theorem dX5_sheet_46 : decode cX5_sheet 46 = .ok (.invokespecial 59, 3) := by decide +kernel
theorem dX5_sheet_49 : decode cX5_sheet 49 = .ok (.aastore, 1) := by decide +kernel
theorem dX5_sheet_50 : decode cX5_sheet 50 = .ok (.aload_n 0, 1) := by decide +kernel
theorem dX5_sheet_51 : decode cX5_sheet 51 = .ok (.iload_n 3, 1) := by decide +kernel
theorem dX5_sheet_52 : decode cX5_sheet 52 = .ok (.invokevirtual 62, 3) := by decide +kernel
theorem dX5_sheet_55 : decode cX5_sheet 55 = .ok (.ireturn, 1) := by decide +kernel
set_option maxRecDepth 20000 in
theorem ggX5_set_X5_isSheet : GoodIn wsX5_set wsX5_isSheet := goodIn_r _ [7, 8, 9, 6, 10] (by decide +kernel) (by decide +kernel)
set_option maxRecDepth 20000 in
theorem gX5_set_X5_isSheet : GoodIn wsX5_set (va_wsS RX5 46 yX5_isSheet wsX5_isSheet) := goodIn_app (goodIn_of _ (by decide +kernel)) ggX5_set_X5_isSheet
set_option maxRecDepth 20000 in
theorem ggX5_set_X5_found : GoodIn wsX5_set wsX5_found := goodIn_r _ [14, 15, 16, 32, 33, 34, 35, 36, 37] (by decide +kernel) (by decide +kernel)
set_option maxRecDepth 20000 in
theorem gX5_set_X5_found : GoodIn wsX5_set (wsV RX5 55 RX5 yX5_found wsX5_found) := goodIn_app (goodIn_of _ (by decide +kernel)) ggX5_set_X5_found
set_option maxRecDepth 20000 in
theorem ggX5_set_X4_holds : GoodIn wsX5_set wsX4_holds := goodIn_r _ [21, 22, 38, 39] (by decide +kernel) (by decide +kernel)
set_option maxRecDepth 20000 in
theorem gX5_set_X4_holds : GoodIn wsX5_set (wsV RX5 65 RX4 yX4_holds wsX4_holds) := goodIn_app (goodIn_of _ (by decide +kernel)) ggX5_set_X4_holds
set_option maxRecDepth 20000 in
theorem ggX5_set_X4_cutToLane : GoodIn wsX5_set wsX4_cutToLane := goodIn_r _ [26, 27, 38, 39] (by decide +kernel) (by decide +kernel)
set_option maxRecDepth 20000 in
theorem gX5_set_X4_cutToLane : GoodIn wsX5_set (wsV RX5 73 RX4 yX4_cutToLane wsX4_cutToLane) := goodIn_app (goodIn_of _ (by decide +kernel)) ggX5_set_X4_cutToLane
set_option maxRecDepth 20000 in
theorem ggX5_set_X5_fine : GoodIn wsX5_set wsX5_fine := goodIn_r _ [31, 15, 32, 33, 34, 35, 36, 37] (by decide +kernel) (by decide +kernel)
set_option maxRecDepth 20000 in
theorem gX5_set_X5_fine : GoodIn wsX5_set (wsV RX5 62 RX5 yX5_fine wsX5_fine) := goodIn_app (goodIn_of _ (by decide +kernel)) ggX5_set_X5_fine
theorem dX5_set_0 : decode cX5_set 0 = .ok (.iload_n 1, 1) := by decide +kernel
theorem dX5_set_1 : decode cX5_set 1 = .ok (.invokestatic 46, 3) := by decide +kernel
theorem dX5_set_4 : decode cX5_set 4 = .ok (.ifCond .ne 6, 3) := by decide +kernel
theorem dX5_set_7 : decode cX5_set 7 = .ok (.ldc 54, 2) := by decide +kernel
theorem dX5_set_9 : decode cX5_set 9 = .ok (.ireturn, 1) := by decide +kernel
theorem dX5_set_10 : decode cX5_set 10 = .ok (.aload_n 0, 1) := by decide +kernel
theorem dX5_set_11 : decode cX5_set 11 = .ok (.getfield 11, 3) := by decide +kernel
theorem dX5_set_14 : decode cX5_set 14 = .ok (.iload_n 1, 1) := by decide +kernel
theorem dX5_set_15 : decode cX5_set 15 = .ok (.aaload, 1) := by decide +kernel
theorem dX5_set_16 : decode cX5_set 16 = .ok (.astore 4, 2) := by decide +kernel
theorem dX5_set_18 : decode cX5_set 18 = .ok (.aload 4, 2) := by decide +kernel
theorem dX5_set_20 : decode cX5_set 20 = .ok (.ifnonnull 9, 3) := by decide +kernel
theorem dX5_set_23 : decode cX5_set 23 = .ok (.aload_n 0, 1) := by decide +kernel
theorem dX5_set_24 : decode cX5_set 24 = .ok (.iconst 1, 1) := by decide +kernel
theorem dX5_set_25 : decode cX5_set 25 = .ok (.invokevirtual 55, 3) := by decide +kernel
theorem dX5_set_28 : decode cX5_set 28 = .ok (.ireturn, 1) := by decide +kernel
theorem dX5_set_29 : decode cX5_set 29 = .ok (.aload 4, 2) := by decide +kernel
theorem dX5_set_31 : decode cX5_set 31 = .ok (.iload_n 2, 1) := by decide +kernel
theorem dX5_set_32 : decode cX5_set 32 = .ok (.iconst 1, 1) := by decide +kernel
theorem dX5_set_33 : decode cX5_set 33 = .ok (.invokevirtual 65, 3) := by decide +kernel
theorem dX5_set_36 : decode cX5_set 36 = .ok (.ifCond .ne 9, 3) := by decide +kernel
theorem dX5_set_39 : decode cX5_set 39 = .ok (.aload_n 0, 1) := by decide +kernel
theorem dX5_set_40 : decode cX5_set 40 = .ok (.iconst 2, 1) := by decide +kernel
theorem dX5_set_41 : decode cX5_set 41 = .ok (.invokevirtual 55, 3) := by decide +kernel
theorem dX5_set_44 : decode cX5_set 44 = .ok (.ireturn, 1) := by decide +kernel
theorem dX5_set_45 : decode cX5_set 45 = .ok (.aload 4, 2) := by decide +kernel
theorem dX5_set_47 : decode cX5_set 47 = .ok (.getfield 69, 3) := by decide +kernel
theorem dX5_set_50 : decode cX5_set 50 = .ok (.iload_n 2, 1) := by decide +kernel
theorem dX5_set_51 : decode cX5_set 51 = .ok (.aload 4, 2) := by decide +kernel
theorem dX5_set_53 : decode cX5_set 53 = .ok (.iload_n 3, 1) := by decide +kernel
theorem dX5_set_54 : decode cX5_set 54 = .ok (.invokevirtual 73, 3) := by decide +kernel
theorem dX5_set_57 : decode cX5_set 57 = .ok (.iastore, 1) := by decide +kernel
theorem dX5_set_58 : decode cX5_set 58 = .ok (.aload_n 0, 1) := by decide +kernel
theorem dX5_set_59 : decode cX5_set 59 = .ok (.aload 4, 2) := by decide +kernel
theorem dX5_set_61 : decode cX5_set 61 = .ok (.getfield 69, 3) := by decide +kernel
theorem dX5_set_64 : decode cX5_set 64 = .ok (.iload_n 2, 1) := by decide +kernel
theorem dX5_set_65 : decode cX5_set 65 = .ok (.iaload, 1) := by decide +kernel
theorem dX5_set_66 : decode cX5_set 66 = .ok (.invokevirtual 62, 3) := by decide +kernel
theorem dX5_set_69 : decode cX5_set 69 = .ok (.ireturn, 1) := by decide +kernel
set_option maxRecDepth 20000 in
theorem ggX5_copy_X5_isSheet : GoodIn wsX5_copy wsX5_isSheet := goodIn_r _ [12, 13, 14, 11, 15] (by decide +kernel) (by decide +kernel)
set_option maxRecDepth 20000 in
theorem gX5_copy_X5_isSheet : GoodIn wsX5_copy (va_wsS RX5 46 yX5_isSheet wsX5_isSheet) := goodIn_app (goodIn_of _ (by decide +kernel)) ggX5_copy_X5_isSheet
set_option maxRecDepth 20000 in
theorem ggX5_copy_X5_found : GoodIn wsX5_copy wsX5_found := goodIn_r _ [19, 20, 21, 32, 33, 34, 35, 36, 37] (by decide +kernel) (by decide +kernel)
set_option maxRecDepth 20000 in
theorem gX5_copy_X5_found : GoodIn wsX5_copy (wsV RX5 55 RX5 yX5_found wsX5_found) := goodIn_app (goodIn_of _ (by decide +kernel)) ggX5_copy_X5_found
set_option maxRecDepth 20000 in
theorem ggX5_copy_X4_holds : GoodIn wsX5_copy wsX4_holds := goodIn_r _ [26, 27, 38, 39] (by decide +kernel) (by decide +kernel)
set_option maxRecDepth 20000 in
theorem gX5_copy_X4_holds : GoodIn wsX5_copy (wsV RX5 65 RX4 yX4_holds wsX4_holds) := goodIn_app (goodIn_of _ (by decide +kernel)) ggX5_copy_X4_holds
set_option maxRecDepth 20000 in
theorem ggX5_copy_X5_fine : GoodIn wsX5_copy wsX5_fine := goodIn_r _ [31, 20, 32, 33, 34, 35, 36, 37] (by decide +kernel) (by decide +kernel)
set_option maxRecDepth 20000 in
theorem gX5_copy_X5_fine : GoodIn wsX5_copy (wsV RX5 62 RX5 yX5_fine wsX5_fine) := goodIn_app (goodIn_of _ (by decide +kernel)) ggX5_copy_X5_fine
theorem dX5_copy_0 : decode cX5_copy 0 = .ok (.iload_n 1, 1) := by decide +kernel
theorem dX5_copy_1 : decode cX5_copy 1 = .ok (.invokestatic 46, 3) := by decide +kernel
theorem dX5_copy_4 : decode cX5_copy 4 = .ok (.ifCond .eq 10, 3) := by decide +kernel
theorem dX5_copy_7 : decode cX5_copy 7 = .ok (.iload_n 3, 1) := by decide +kernel
theorem dX5_copy_8 : decode cX5_copy 8 = .ok (.invokestatic 46, 3) := by decide +kernel
theorem dX5_copy_11 : decode cX5_copy 11 = .ok (.ifCond .ne 6, 3) := by decide +kernel
theorem dX5_copy_14 : decode cX5_copy 14 = .ok (.ldc 54, 2) := by decide +kernel
theorem dX5_copy_16 : decode cX5_copy 16 = .ok (.ireturn, 1) := by decide +kernel
theorem dX5_copy_17 : decode cX5_copy 17 = .ok (.aload_n 0, 1) := by decide +kernel
theorem dX5_copy_18 : decode cX5_copy 18 = .ok (.getfield 11, 3) := by decide +kernel
theorem dX5_copy_21 : decode cX5_copy 21 = .ok (.iload_n 1, 1) := by decide +kernel
theorem dX5_copy_22 : decode cX5_copy 22 = .ok (.aaload, 1) := by decide +kernel
theorem dX5_copy_23 : decode cX5_copy 23 = .ok (.astore 6, 2) := by decide +kernel
theorem dX5_copy_25 : decode cX5_copy 25 = .ok (.aload_n 0, 1) := by decide +kernel
theorem dX5_copy_26 : decode cX5_copy 26 = .ok (.getfield 11, 3) := by decide +kernel
theorem dX5_copy_29 : decode cX5_copy 29 = .ok (.iload_n 3, 1) := by decide +kernel
theorem dX5_copy_30 : decode cX5_copy 30 = .ok (.aaload, 1) := by decide +kernel
theorem dX5_copy_31 : decode cX5_copy 31 = .ok (.astore 7, 2) := by decide +kernel
theorem dX5_copy_33 : decode cX5_copy 33 = .ok (.aload 6, 2) := by decide +kernel
theorem dX5_copy_35 : decode cX5_copy 35 = .ok (.ifnull 8, 3) := by decide +kernel
theorem dX5_copy_38 : decode cX5_copy 38 = .ok (.aload 7, 2) := by decide +kernel
theorem dX5_copy_40 : decode cX5_copy 40 = .ok (.ifnonnull 9, 3) := by decide +kernel
theorem dX5_copy_43 : decode cX5_copy 43 = .ok (.aload_n 0, 1) := by decide +kernel
theorem dX5_copy_44 : decode cX5_copy 44 = .ok (.iconst 1, 1) := by decide +kernel
theorem dX5_copy_45 : decode cX5_copy 45 = .ok (.invokevirtual 55, 3) := by decide +kernel
theorem dX5_copy_48 : decode cX5_copy 48 = .ok (.ireturn, 1) := by decide +kernel
theorem dX5_copy_49 : decode cX5_copy 49 = .ok (.aload 6, 2) := by decide +kernel
theorem dX5_copy_51 : decode cX5_copy 51 = .ok (.getfield 76, 3) := by decide +kernel
theorem dX5_copy_54 : decode cX5_copy 54 = .ok (.aload 7, 2) := by decide +kernel
theorem dX5_copy_56 : decode cX5_copy 56 = .ok (.getfield 76, 3) := by decide +kernel
theorem dX5_copy_59 : decode cX5_copy 59 = .ok (.if_icmp .eq 9, 3) := by decide +kernel
theorem dX5_copy_62 : decode cX5_copy 62 = .ok (.aload_n 0, 1) := by decide +kernel
theorem dX5_copy_63 : decode cX5_copy 63 = .ok (.iconst 5, 1) := by decide +kernel
theorem dX5_copy_64 : decode cX5_copy 64 = .ok (.invokevirtual 55, 3) := by decide +kernel
theorem dX5_copy_67 : decode cX5_copy 67 = .ok (.ireturn, 1) := by decide +kernel
theorem dX5_copy_68 : decode cX5_copy 68 = .ok (.aload 6, 2) := by decide +kernel
theorem dX5_copy_70 : decode cX5_copy 70 = .ok (.iload_n 2, 1) := by decide +kernel
theorem dX5_copy_71 : decode cX5_copy 71 = .ok (.iload 5, 2) := by decide +kernel
theorem dX5_copy_73 : decode cX5_copy 73 = .ok (.invokevirtual 65, 3) := by decide +kernel
theorem dX5_copy_76 : decode cX5_copy 76 = .ok (.ifCond .eq 15, 3) := by decide +kernel
theorem dX5_copy_79 : decode cX5_copy 79 = .ok (.aload 7, 2) := by decide +kernel
theorem dX5_copy_81 : decode cX5_copy 81 = .ok (.iload 4, 2) := by decide +kernel
theorem dX5_copy_83 : decode cX5_copy 83 = .ok (.iload 5, 2) := by decide +kernel
theorem dX5_copy_85 : decode cX5_copy 85 = .ok (.invokevirtual 65, 3) := by decide +kernel
theorem dX5_copy_88 : decode cX5_copy 88 = .ok (.ifCond .ne 9, 3) := by decide +kernel
theorem dX5_copy_91 : decode cX5_copy 91 = .ok (.aload_n 0, 1) := by decide +kernel
theorem dX5_copy_92 : decode cX5_copy 92 = .ok (.iconst 2, 1) := by decide +kernel
theorem dX5_copy_93 : decode cX5_copy 93 = .ok (.invokevirtual 55, 3) := by decide +kernel
theorem dX5_copy_96 : decode cX5_copy 96 = .ok (.ireturn, 1) := by decide +kernel
theorem dX5_copy_97 : decode cX5_copy 97 = .ok (.aload 6, 2) := by decide +kernel
theorem dX5_copy_99 : decode cX5_copy 99 = .ok (.getfield 69, 3) := by decide +kernel
theorem dX5_copy_102 : decode cX5_copy 102 = .ok (.iload_n 2, 1) := by decide +kernel
theorem dX5_copy_103 : decode cX5_copy 103 = .ok (.aload 7, 2) := by decide +kernel
theorem dX5_copy_105 : decode cX5_copy 105 = .ok (.getfield 69, 3) := by decide +kernel
theorem dX5_copy_108 : decode cX5_copy 108 = .ok (.iload 4, 2) := by decide +kernel
theorem dX5_copy_110 : decode cX5_copy 110 = .ok (.iload 5, 2) := by decide +kernel
theorem dX5_copy_112 : decode cX5_copy 112 = .ok (.invokestatic 79, 3) := by decide +kernel
theorem dX5_copy_115 : decode cX5_copy 115 = .ok (.aload_n 0, 1) := by decide +kernel
theorem dX5_copy_116 : decode cX5_copy 116 = .ok (.iload 5, 2) := by decide +kernel
theorem dX5_copy_118 : decode cX5_copy 118 = .ok (.invokevirtual 62, 3) := by decide +kernel
theorem dX5_copy_121 : decode cX5_copy 121 = .ok (.ireturn, 1) := by decide +kernel
set_option maxRecDepth 20000 in
theorem ggX5_drop_X5_isSheet : GoodIn wsX5_drop wsX5_isSheet := goodIn_r _ [7, 8, 9, 6, 10] (by decide +kernel) (by decide +kernel)
set_option maxRecDepth 20000 in
theorem gX5_drop_X5_isSheet : GoodIn wsX5_drop (va_wsS RX5 46 yX5_isSheet wsX5_isSheet) := goodIn_app (goodIn_of _ (by decide +kernel)) ggX5_drop_X5_isSheet
set_option maxRecDepth 20000 in
theorem ggX5_drop_X5_found : GoodIn wsX5_drop wsX5_found := goodIn_r _ [14, 15, 16, 21, 22, 23, 24, 25, 26] (by decide +kernel) (by decide +kernel)
set_option maxRecDepth 20000 in
theorem gX5_drop_X5_found : GoodIn wsX5_drop (wsV RX5 55 RX5 yX5_found wsX5_found) := goodIn_app (goodIn_of _ (by decide +kernel)) ggX5_drop_X5_found
set_option maxRecDepth 20000 in
theorem ggX5_drop_X5_fine : GoodIn wsX5_drop wsX5_fine := goodIn_r _ [20, 15, 21, 22, 23, 24, 25, 26] (by decide +kernel) (by decide +kernel)
set_option maxRecDepth 20000 in
theorem gX5_drop_X5_fine : GoodIn wsX5_drop (wsV RX5 62 RX5 yX5_fine wsX5_fine) := goodIn_app (goodIn_of _ (by decide +kernel)) ggX5_drop_X5_fine
theorem dX5_drop_0 : decode cX5_drop 0 = .ok (.iload_n 1, 1) := by decide +kernel
theorem dX5_drop_1 : decode cX5_drop 1 = .ok (.invokestatic 46, 3) := by decide +kernel
theorem dX5_drop_4 : decode cX5_drop 4 = .ok (.ifCond .ne 6, 3) := by decide +kernel
theorem dX5_drop_7 : decode cX5_drop 7 = .ok (.ldc 54, 2) := by decide +kernel
theorem dX5_drop_9 : decode cX5_drop 9 = .ok (.ireturn, 1) := by decide +kernel
theorem dX5_drop_10 : decode cX5_drop 10 = .ok (.aload_n 0, 1) := by decide +kernel
theorem dX5_drop_11 : decode cX5_drop 11 = .ok (.getfield 11, 3) := by decide +kernel
theorem dX5_drop_14 : decode cX5_drop 14 = .ok (.iload_n 1, 1) := by decide +kernel
theorem dX5_drop_15 : decode cX5_drop 15 = .ok (.aaload, 1) := by decide +kernel
theorem dX5_drop_16 : decode cX5_drop 16 = .ok (.astore_n 2, 1) := by decide +kernel
theorem dX5_drop_17 : decode cX5_drop 17 = .ok (.aload_n 2, 1) := by decide +kernel
theorem dX5_drop_18 : decode cX5_drop 18 = .ok (.ifnonnull 9, 3) := by decide +kernel
theorem dX5_drop_21 : decode cX5_drop 21 = .ok (.aload_n 0, 1) := by decide +kernel
theorem dX5_drop_22 : decode cX5_drop 22 = .ok (.iconst 1, 1) := by decide +kernel
theorem dX5_drop_23 : decode cX5_drop 23 = .ok (.invokevirtual 55, 3) := by decide +kernel
theorem dX5_drop_26 : decode cX5_drop 26 = .ok (.ireturn, 1) := by decide +kernel
theorem dX5_drop_27 : decode cX5_drop 27 = .ok (.aload_n 0, 1) := by decide +kernel
theorem dX5_drop_28 : decode cX5_drop 28 = .ok (.getfield 11, 3) := by decide +kernel
theorem dX5_drop_31 : decode cX5_drop 31 = .ok (.iload_n 1, 1) := by decide +kernel
theorem dX5_drop_32 : decode cX5_drop 32 = .ok (.aconst_null, 1) := by decide +kernel
theorem dX5_drop_33 : decode cX5_drop 33 = .ok (.aastore, 1) := by decide +kernel
theorem dX5_drop_34 : decode cX5_drop 34 = .ok (.aload_n 0, 1) := by decide +kernel
theorem dX5_drop_35 : decode cX5_drop 35 = .ok (.aload_n 2, 1) := by decide +kernel
theorem dX5_drop_36 : decode cX5_drop 36 = .ok (.getfield 69, 3) := by decide +kernel
theorem dX5_drop_39 : decode cX5_drop 39 = .ok (.arraylength, 1) := by decide +kernel
theorem dX5_drop_40 : decode cX5_drop 40 = .ok (.invokevirtual 62, 3) := by decide +kernel
theorem dX5_drop_43 : decode cX5_drop 43 = .ok (.ireturn, 1) := by decide +kernel
set_option maxRecDepth 20000 in
theorem ggX5_net_X5_isPlace : GoodIn wsX5_net wsX5_isPlace := goodIn_r _ [9, 10, 11, 8, 12] (by decide +kernel) (by decide +kernel)
set_option maxRecDepth 20000 in
theorem gX5_net_X5_isPlace : GoodIn wsX5_net (va_wsS RX5 85 yX5_isPlace wsX5_isPlace) := goodIn_app (goodIn_of _ (by decide +kernel)) ggX5_net_X5_isPlace
set_option maxRecDepth 20000 in
theorem ggX5_net_X5_within : GoodIn wsX5_net wsX5_within := goodIn_r _ [12] (by decide +kernel) (by decide +kernel)
set_option maxRecDepth 20000 in
theorem gX5_net_X5_within : GoodIn wsX5_net (va_wsS RX5 50 yX5_within wsX5_within) := goodIn_app (goodIn_of _ (by decide +kernel)) ggX5_net_X5_within
set_option maxRecDepth 20000 in
theorem ggX5_net_X1_init : GoodIn wsX5_net wsX1_init := goodIn_r _ [15, 16, 17, 18, 19, 20, 21, 22, 23, 24, 25, 26, 27, 28, 29, 30, 31, 32, 33, 34, 35, 36, 37, 38, 39, 40, 41, 42, 52, 53, 54, 55, 56, 57, 58, 59, 60, 61, 62, 63, 64, 65, 66, 67, 68] (by decide +kernel) (by decide +kernel)
set_option maxRecDepth 20000 in
theorem gX5_net_X1_init : GoodIn wsX5_net (wsX1_init) := ggX5_net_X1_init
set_option maxRecDepth 20000 in
theorem ggX5_net_X1_toldKind : GoodIn wsX5_net wsX1_toldKind := goodIn_r _ [46, 34, 20, 52, 53, 54, 55, 56, 57, 58, 59, 60, 61, 62, 63, 64, 65, 66, 67, 68] (by decide +kernel) (by decide +kernel)
set_option maxRecDepth 20000 in
theorem gX5_net_X1_toldKind : GoodIn wsX5_net (wsV RX5 91 RX1 yX1_toldKind wsX1_toldKind) := goodIn_app (goodIn_of _ (by decide +kernel)) ggX5_net_X1_toldKind
set_option maxRecDepth 20000 in
theorem ggX5_net_X5_fine : GoodIn wsX5_net wsX5_fine := goodIn_r _ [50, 51, 69, 70, 71, 72, 73, 74] (by decide +kernel) (by decide +kernel)
set_option maxRecDepth 20000 in
theorem gX5_net_X5_fine : GoodIn wsX5_net (wsV RX5 62 RX5 yX5_fine wsX5_fine) := goodIn_app (goodIn_of _ (by decide +kernel)) ggX5_net_X5_fine
theorem dX5_net_0 : decode cX5_net 0 = .ok (.iload_n 1, 1) := by decide +kernel
theorem dX5_net_1 : decode cX5_net 1 = .ok (.invokestatic 85, 3) := by decide +kernel
theorem dX5_net_4 : decode cX5_net 4 = .ok (.ifCond .eq 34, 3) := by decide +kernel
theorem dX5_net_7 : decode cX5_net 7 = .ok (.iload_n 2, 1) := by decide +kernel
theorem dX5_net_8 : decode cX5_net 8 = .ok (.iconst 1, 1) := by decide +kernel
theorem dX5_net_9 : decode cX5_net 9 = .ok (.bipush 12, 2) := by decide +kernel
theorem dX5_net_11 : decode cX5_net 11 = .ok (.invokestatic 50, 3) := by decide +kernel
theorem dX5_net_14 : decode cX5_net 14 = .ok (.ifCond .eq 24, 3) := by decide +kernel
theorem dX5_net_17 : decode cX5_net 17 = .ok (.iload_n 3, 1) := by decide +kernel
theorem dX5_net_18 : decode cX5_net 18 = .ok (.iconst 1, 1) := by decide +kernel
theorem dX5_net_19 : decode cX5_net 19 = .ok (.bipush 6, 2) := by decide +kernel
theorem dX5_net_21 : decode cX5_net 21 = .ok (.invokestatic 50, 3) := by decide +kernel
theorem dX5_net_24 : decode cX5_net 24 = .ok (.ifCond .eq 14, 3) := by decide +kernel
theorem dX5_net_27 : decode cX5_net 27 = .ok (.iload 4, 2) := by decide +kernel
theorem dX5_net_29 : decode cX5_net 29 = .ok (.iconst 1, 1) := by decide +kernel
theorem dX5_net_30 : decode cX5_net 30 = .ok (.bipush 6, 2) := by decide +kernel
theorem dX5_net_32 : decode cX5_net 32 = .ok (.invokestatic 50, 3) := by decide +kernel
theorem dX5_net_35 : decode cX5_net 35 = .ok (.ifCond .ne 6, 3) := by decide +kernel
theorem dX5_net_38 : decode cX5_net 38 = .ok (.ldc 54, 2) := by decide +kernel
theorem dX5_net_40 : decode cX5_net 40 = .ok (.ireturn, 1) := by decide +kernel
theorem dX5_net_41 : decode cX5_net 41 = .ok (.new 15, 3) := by decide +kernel
theorem dX5_net_44 : decode cX5_net 44 = .ok (.dup, 1) := by decide +kernel
theorem dX5_net_45 : decode cX5_net 45 = .ok (.iload_n 2, 1) := by decide +kernel
theorem dX5_net_46 : decode cX5_net 46 = .ok (.iload_n 3, 1) := by decide +kernel
theorem dX5_net_47 : decode cX5_net 47 = .ok (.iload 4, 2) := by decide +kernel
theorem dX5_net_49 : decode cX5_net 49 = .ok (.invokespecial 88, 3) := by decide +kernel
theorem dX5_net_52 : decode cX5_net 52 = .ok (.astore 5, 2) := by decide +kernel
theorem dX5_net_54 : decode cX5_net 54 = .ok (.aload_n 0, 1) := by decide +kernel
theorem dX5_net_55 : decode cX5_net 55 = .ok (.getfield 17, 3) := by decide +kernel
theorem dX5_net_58 : decode cX5_net 58 = .ok (.iload_n 1, 1) := by decide +kernel
theorem dX5_net_59 : decode cX5_net 59 = .ok (.aload 5, 2) := by decide +kernel
theorem dX5_net_61 : decode cX5_net 61 = .ok (.aastore, 1) := by decide +kernel
theorem dX5_net_62 : decode cX5_net 62 = .ok (.aload_n 0, 1) := by decide +kernel
theorem dX5_net_63 : decode cX5_net 63 = .ok (.aload 5, 2) := by decide +kernel
theorem dX5_net_65 : decode cX5_net 65 = .ok (.invokevirtual 91, 3) := by decide +kernel
theorem dX5_net_68 : decode cX5_net 68 = .ok (.invokevirtual 62, 3) := by decide +kernel
theorem dX5_net_71 : decode cX5_net 71 = .ok (.ireturn, 1) := by decide +kernel
set_option maxRecDepth 20000 in
theorem ggX5_clear_X5_isPlace : GoodIn wsX5_clear wsX5_isPlace := goodIn_r _ [6, 7, 8, 5, 9] (by decide +kernel) (by decide +kernel)
set_option maxRecDepth 20000 in
theorem gX5_clear_X5_isPlace : GoodIn wsX5_clear (va_wsS RX5 85 yX5_isPlace wsX5_isPlace) := goodIn_app (goodIn_of _ (by decide +kernel)) ggX5_clear_X5_isPlace
theorem dX5_clear_0 : decode cX5_clear 0 = .ok (.iload_n 1, 1) := by decide +kernel
theorem dX5_clear_1 : decode cX5_clear 1 = .ok (.invokestatic 85, 3) := by decide +kernel
theorem dX5_clear_4 : decode cX5_clear 4 = .ok (.ifCond .ne 6, 3) := by decide +kernel
theorem dX5_clear_7 : decode cX5_clear 7 = .ok (.ldc 54, 2) := by decide +kernel
theorem dX5_clear_9 : decode cX5_clear 9 = .ok (.ireturn, 1) := by decide +kernel
theorem dX5_clear_10 : decode cX5_clear 10 = .ok (.aload_n 0, 1) := by decide +kernel
theorem dX5_clear_11 : decode cX5_clear 11 = .ok (.getfield 17, 3) := by decide +kernel
theorem dX5_clear_14 : decode cX5_clear 14 = .ok (.iload_n 1, 1) := by decide +kernel
theorem dX5_clear_15 : decode cX5_clear 15 = .ok (.aaload, 1) := by decide +kernel
theorem dX5_clear_16 : decode cX5_clear 16 = .ok (.ifnull 7, 3) := by decide +kernel
theorem dX5_clear_19 : decode cX5_clear 19 = .ok (.iconst 1, 1) := by decide +kernel
theorem dX5_clear_20 : decode cX5_clear 20 = .ok (.goto 4, 3) := by decide +kernel
theorem dX5_clear_23 : decode cX5_clear 23 = .ok (.iconst 0, 1) := by decide +kernel
theorem dX5_clear_24 : decode cX5_clear 24 = .ok (.istore_n 2, 1) := by decide +kernel
theorem dX5_clear_25 : decode cX5_clear 25 = .ok (.aload_n 0, 1) := by decide +kernel
theorem dX5_clear_26 : decode cX5_clear 26 = .ok (.getfield 17, 3) := by decide +kernel
theorem dX5_clear_29 : decode cX5_clear 29 = .ok (.iload_n 1, 1) := by decide +kernel
theorem dX5_clear_30 : decode cX5_clear 30 = .ok (.aconst_null, 1) := by decide +kernel
theorem dX5_clear_31 : decode cX5_clear 31 = .ok (.aastore, 1) := by decide +kernel
theorem dX5_clear_32 : decode cX5_clear 32 = .ok (.iload_n 2, 1) := by decide +kernel
theorem dX5_clear_33 : decode cX5_clear 33 = .ok (.ifCond .eq 7, 3) := by decide +kernel
theorem dX5_clear_36 : decode cX5_clear 36 = .ok (.iconst 1, 1) := by decide +kernel
theorem dX5_clear_37 : decode cX5_clear 37 = .ok (.goto 4, 3) := by decide +kernel
theorem dX5_clear_40 : decode cX5_clear 40 = .ok (.iconst 0, 1) := by decide +kernel
theorem dX5_clear_41 : decode cX5_clear 41 = .ok (.ireturn, 1) := by decide +kernel
set_option maxRecDepth 20000 in
theorem ggX5_kind_X5_isPlace : GoodIn wsX5_kind wsX5_isPlace := goodIn_r _ [6, 7, 8, 5, 9] (by decide +kernel) (by decide +kernel)
set_option maxRecDepth 20000 in
theorem gX5_kind_X5_isPlace : GoodIn wsX5_kind (va_wsS RX5 85 yX5_isPlace wsX5_isPlace) := goodIn_app (goodIn_of _ (by decide +kernel)) ggX5_kind_X5_isPlace
set_option maxRecDepth 20000 in
theorem ggX5_kind_X5_found : GoodIn wsX5_kind wsX5_found := goodIn_r _ [13, 14, 15, 27, 28, 29, 30, 31, 32] (by decide +kernel) (by decide +kernel)
set_option maxRecDepth 20000 in
theorem gX5_kind_X5_found : GoodIn wsX5_kind (wsV RX5 55 RX5 yX5_found wsX5_found) := goodIn_app (goodIn_of _ (by decide +kernel)) ggX5_kind_X5_found
set_option maxRecDepth 20000 in
theorem ggX5_kind_X1_toldKind : GoodIn wsX5_kind wsX1_toldKind := goodIn_r _ [20, 21, 22, 33, 34, 35, 36, 37, 38, 39, 40, 41, 42, 43, 44, 45, 46, 47, 48, 49] (by decide +kernel) (by decide +kernel)
set_option maxRecDepth 20000 in
theorem gX5_kind_X1_toldKind : GoodIn wsX5_kind (wsV RX5 91 RX1 yX1_toldKind wsX1_toldKind) := goodIn_app (goodIn_of _ (by decide +kernel)) ggX5_kind_X1_toldKind
set_option maxRecDepth 20000 in
theorem ggX5_kind_X5_fine : GoodIn wsX5_kind wsX5_fine := goodIn_r _ [26, 14, 27, 28, 29, 30, 31, 32] (by decide +kernel) (by decide +kernel)
set_option maxRecDepth 20000 in
theorem gX5_kind_X5_fine : GoodIn wsX5_kind (wsV RX5 62 RX5 yX5_fine wsX5_fine) := goodIn_app (goodIn_of _ (by decide +kernel)) ggX5_kind_X5_fine
theorem dX5_kind_0 : decode cX5_kind 0 = .ok (.iload_n 1, 1) := by decide +kernel
theorem dX5_kind_1 : decode cX5_kind 1 = .ok (.invokestatic 85, 3) := by decide +kernel
theorem dX5_kind_4 : decode cX5_kind 4 = .ok (.ifCond .ne 6, 3) := by decide +kernel
theorem dX5_kind_7 : decode cX5_kind 7 = .ok (.ldc 54, 2) := by decide +kernel
theorem dX5_kind_9 : decode cX5_kind 9 = .ok (.ireturn, 1) := by decide +kernel
theorem dX5_kind_10 : decode cX5_kind 10 = .ok (.aload_n 0, 1) := by decide +kernel
theorem dX5_kind_11 : decode cX5_kind 11 = .ok (.getfield 17, 3) := by decide +kernel
theorem dX5_kind_14 : decode cX5_kind 14 = .ok (.iload_n 1, 1) := by decide +kernel
theorem dX5_kind_15 : decode cX5_kind 15 = .ok (.aaload, 1) := by decide +kernel
theorem dX5_kind_16 : decode cX5_kind 16 = .ok (.astore_n 2, 1) := by decide +kernel
theorem dX5_kind_17 : decode cX5_kind 17 = .ok (.aload_n 2, 1) := by decide +kernel
theorem dX5_kind_18 : decode cX5_kind 18 = .ok (.ifnonnull 9, 3) := by decide +kernel
theorem dX5_kind_21 : decode cX5_kind 21 = .ok (.aload_n 0, 1) := by decide +kernel
theorem dX5_kind_22 : decode cX5_kind 22 = .ok (.iconst 1, 1) := by decide +kernel
theorem dX5_kind_23 : decode cX5_kind 23 = .ok (.invokevirtual 55, 3) := by decide +kernel
theorem dX5_kind_26 : decode cX5_kind 26 = .ok (.ireturn, 1) := by decide +kernel
theorem dX5_kind_27 : decode cX5_kind 27 = .ok (.aload_n 0, 1) := by decide +kernel
theorem dX5_kind_28 : decode cX5_kind 28 = .ok (.aload_n 2, 1) := by decide +kernel
theorem dX5_kind_29 : decode cX5_kind 29 = .ok (.invokevirtual 91, 3) := by decide +kernel
theorem dX5_kind_32 : decode cX5_kind 32 = .ok (.invokevirtual 62, 3) := by decide +kernel
theorem dX5_kind_35 : decode cX5_kind 35 = .ok (.ireturn, 1) := by decide +kernel
set_option maxRecDepth 20000 in
theorem ggX5_is_X5_isPlace : GoodIn wsX5_is wsX5_isPlace := goodIn_r _ [6, 7, 8, 5, 9] (by decide +kernel) (by decide +kernel)
set_option maxRecDepth 20000 in
theorem gX5_is_X5_isPlace : GoodIn wsX5_is (va_wsS RX5 85 yX5_isPlace wsX5_isPlace) := goodIn_app (goodIn_of _ (by decide +kernel)) ggX5_is_X5_isPlace
set_option maxRecDepth 20000 in
theorem ggX5_is_X5_isKind : GoodIn wsX5_is wsX5_isKind := goodIn_r _ [12, 7, 8, 5, 9] (by decide +kernel) (by decide +kernel)
set_option maxRecDepth 20000 in
theorem gX5_is_X5_isKind : GoodIn wsX5_is (va_wsS RX5 95 yX5_isKind wsX5_isKind) := goodIn_app (goodIn_of _ (by decide +kernel)) ggX5_is_X5_isKind
set_option maxRecDepth 20000 in
theorem ggX5_is_X1_toldKind : GoodIn wsX5_is wsX1_toldKind := goodIn_r _ [17, 18, 19, 29, 30, 31, 32, 33, 34, 35, 36, 37, 38, 39, 40, 41, 42, 43, 44, 45] (by decide +kernel) (by decide +kernel)
set_option maxRecDepth 20000 in
theorem gX5_is_X1_toldKind : GoodIn wsX5_is (wsV RX5 91 RX1 yX1_toldKind wsX1_toldKind) := goodIn_app (goodIn_of _ (by decide +kernel)) ggX5_is_X1_toldKind
set_option maxRecDepth 20000 in
theorem ggX5_is_X5_countsAs : GoodIn wsX5_is wsX5_countsAs := goodIn_r _ [22] (by decide +kernel) (by decide +kernel)
set_option maxRecDepth 20000 in
theorem gX5_is_X5_countsAs : GoodIn wsX5_is (va_wsS RX5 98 yX5_countsAs wsX5_countsAs) := goodIn_app (goodIn_of _ (by decide +kernel)) ggX5_is_X5_countsAs
theorem dX5_is_0 : decode cX5_is 0 = .ok (.iload_n 1, 1) := by decide +kernel
theorem dX5_is_1 : decode cX5_is 1 = .ok (.invokestatic 85, 3) := by decide +kernel
theorem dX5_is_4 : decode cX5_is 4 = .ok (.ifCond .eq 10, 3) := by decide +kernel
theorem dX5_is_7 : decode cX5_is 7 = .ok (.iload_n 2, 1) := by decide +kernel
theorem dX5_is_8 : decode cX5_is 8 = .ok (.invokestatic 95, 3) := by decide +kernel
theorem dX5_is_11 : decode cX5_is 11 = .ok (.ifCond .ne 6, 3) := by decide +kernel
theorem dX5_is_14 : decode cX5_is 14 = .ok (.ldc 54, 2) := by decide +kernel
theorem dX5_is_16 : decode cX5_is 16 = .ok (.ireturn, 1) := by decide +kernel
theorem dX5_is_17 : decode cX5_is 17 = .ok (.aload_n 0, 1) := by decide +kernel
theorem dX5_is_18 : decode cX5_is 18 = .ok (.getfield 17, 3) := by decide +kernel
theorem dX5_is_21 : decode cX5_is 21 = .ok (.iload_n 1, 1) := by decide +kernel
theorem dX5_is_22 : decode cX5_is 22 = .ok (.aaload, 1) := by decide +kernel
theorem dX5_is_23 : decode cX5_is 23 = .ok (.astore_n 3, 1) := by decide +kernel
theorem dX5_is_24 : decode cX5_is 24 = .ok (.aload_n 3, 1) := by decide +kernel
theorem dX5_is_25 : decode cX5_is 25 = .ok (.ifnull 18, 3) := by decide +kernel
theorem dX5_is_28 : decode cX5_is 28 = .ok (.aload_n 3, 1) := by decide +kernel
theorem dX5_is_29 : decode cX5_is 29 = .ok (.invokevirtual 91, 3) := by decide +kernel
theorem dX5_is_32 : decode cX5_is 32 = .ok (.iload_n 2, 1) := by decide +kernel
theorem dX5_is_33 : decode cX5_is 33 = .ok (.invokestatic 98, 3) := by decide +kernel
theorem dX5_is_36 : decode cX5_is 36 = .ok (.ifCond .eq 7, 3) := by decide +kernel
theorem dX5_is_39 : decode cX5_is 39 = .ok (.iconst 1, 1) := by decide +kernel
theorem dX5_is_40 : decode cX5_is 40 = .ok (.goto 4, 3) := by decide +kernel
theorem dX5_is_43 : decode cX5_is 43 = .ok (.iconst 0, 1) := by decide +kernel
theorem dX5_is_44 : decode cX5_is 44 = .ok (.ireturn, 1) := by decide +kernel
set_option maxRecDepth 20000 in
theorem ggX5_as_X5_isPlace : GoodIn wsX5_as wsX5_isPlace := goodIn_r _ [7, 8, 9, 6, 10] (by decide +kernel) (by decide +kernel)
set_option maxRecDepth 20000 in
theorem gX5_as_X5_isPlace : GoodIn wsX5_as (va_wsS RX5 85 yX5_isPlace wsX5_isPlace) := goodIn_app (goodIn_of _ (by decide +kernel)) ggX5_as_X5_isPlace
set_option maxRecDepth 20000 in
theorem ggX5_as_X5_isKind : GoodIn wsX5_as wsX5_isKind := goodIn_r _ [13, 8, 9, 6, 10] (by decide +kernel) (by decide +kernel)
set_option maxRecDepth 20000 in
theorem gX5_as_X5_isKind : GoodIn wsX5_as (va_wsS RX5 95 yX5_isKind wsX5_isKind) := goodIn_app (goodIn_of _ (by decide +kernel)) ggX5_as_X5_isKind
set_option maxRecDepth 20000 in
theorem ggX5_as_X5_found : GoodIn wsX5_as wsX5_found := goodIn_r _ [17, 18, 19, 34, 35, 36, 37, 38, 39] (by decide +kernel) (by decide +kernel)
set_option maxRecDepth 20000 in
theorem gX5_as_X5_found : GoodIn wsX5_as (wsV RX5 55 RX5 yX5_found wsX5_found) := goodIn_app (goodIn_of _ (by decide +kernel)) ggX5_as_X5_found
set_option maxRecDepth 20000 in
theorem ggX5_as_X1_toldKind : GoodIn wsX5_as wsX1_toldKind := goodIn_r _ [24, 25, 26, 40, 41, 42, 43, 44, 45, 46, 47, 48, 49, 50, 51, 52, 53, 54, 55, 56] (by decide +kernel) (by decide +kernel)
set_option maxRecDepth 20000 in
theorem gX5_as_X1_toldKind : GoodIn wsX5_as (wsV RX5 91 RX1 yX1_toldKind wsX1_toldKind) := goodIn_app (goodIn_of _ (by decide +kernel)) ggX5_as_X1_toldKind
set_option maxRecDepth 20000 in
theorem ggX5_as_X5_countsAs : GoodIn wsX5_as wsX5_countsAs := goodIn_r _ [29] (by decide +kernel) (by decide +kernel)
set_option maxRecDepth 20000 in
theorem gX5_as_X5_countsAs : GoodIn wsX5_as (va_wsS RX5 98 yX5_countsAs wsX5_countsAs) := goodIn_app (goodIn_of _ (by decide +kernel)) ggX5_as_X5_countsAs
set_option maxRecDepth 20000 in
theorem ggX5_as_X5_fine : GoodIn wsX5_as wsX5_fine := goodIn_r _ [33, 18, 34, 35, 36, 37, 38, 39] (by decide +kernel) (by decide +kernel)
set_option maxRecDepth 20000 in
theorem gX5_as_X5_fine : GoodIn wsX5_as (wsV RX5 62 RX5 yX5_fine wsX5_fine) := goodIn_app (goodIn_of _ (by decide +kernel)) ggX5_as_X5_fine
theorem dX5_as_0 : decode cX5_as 0 = .ok (.iload_n 1, 1) := by decide +kernel
theorem dX5_as_1 : decode cX5_as 1 = .ok (.invokestatic 85, 3) := by decide +kernel
theorem dX5_as_4 : decode cX5_as 4 = .ok (.ifCond .eq 10, 3) := by decide +kernel
theorem dX5_as_7 : decode cX5_as 7 = .ok (.iload_n 2, 1) := by decide +kernel
theorem dX5_as_8 : decode cX5_as 8 = .ok (.invokestatic 95, 3) := by decide +kernel
theorem dX5_as_11 : decode cX5_as 11 = .ok (.ifCond .ne 6, 3) := by decide +kernel
theorem dX5_as_14 : decode cX5_as 14 = .ok (.ldc 54, 2) := by decide +kernel
theorem dX5_as_16 : decode cX5_as 16 = .ok (.ireturn, 1) := by decide +kernel
theorem dX5_as_17 : decode cX5_as 17 = .ok (.aload_n 0, 1) := by decide +kernel
theorem dX5_as_18 : decode cX5_as 18 = .ok (.getfield 17, 3) := by decide +kernel
theorem dX5_as_21 : decode cX5_as 21 = .ok (.iload_n 1, 1) := by decide +kernel
theorem dX5_as_22 : decode cX5_as 22 = .ok (.aaload, 1) := by decide +kernel
theorem dX5_as_23 : decode cX5_as 23 = .ok (.astore_n 3, 1) := by decide +kernel
theorem dX5_as_24 : decode cX5_as 24 = .ok (.aload_n 3, 1) := by decide +kernel
theorem dX5_as_25 : decode cX5_as 25 = .ok (.ifnonnull 9, 3) := by decide +kernel
theorem dX5_as_28 : decode cX5_as 28 = .ok (.aload_n 0, 1) := by decide +kernel
theorem dX5_as_29 : decode cX5_as 29 = .ok (.iconst 1, 1) := by decide +kernel
theorem dX5_as_30 : decode cX5_as 30 = .ok (.invokevirtual 55, 3) := by decide +kernel
theorem dX5_as_33 : decode cX5_as 33 = .ok (.ireturn, 1) := by decide +kernel
theorem dX5_as_34 : decode cX5_as 34 = .ok (.aload_n 3, 1) := by decide +kernel
theorem dX5_as_35 : decode cX5_as 35 = .ok (.invokevirtual 91, 3) := by decide +kernel
theorem dX5_as_38 : decode cX5_as 38 = .ok (.iload_n 2, 1) := by decide +kernel
theorem dX5_as_39 : decode cX5_as 39 = .ok (.invokestatic 98, 3) := by decide +kernel
theorem dX5_as_42 : decode cX5_as 42 = .ok (.ifCond .ne 9, 3) := by decide +kernel
theorem dX5_as_45 : decode cX5_as 45 = .ok (.aload_n 0, 1) := by decide +kernel
theorem dX5_as_46 : decode cX5_as 46 = .ok (.iconst 3, 1) := by decide +kernel
theorem dX5_as_47 : decode cX5_as 47 = .ok (.invokevirtual 55, 3) := by decide +kernel
theorem dX5_as_50 : decode cX5_as 50 = .ok (.ireturn, 1) := by decide +kernel
theorem dX5_as_51 : decode cX5_as 51 = .ok (.aload_n 0, 1) := by decide +kernel
theorem dX5_as_52 : decode cX5_as 52 = .ok (.aload_n 3, 1) := by decide +kernel
theorem dX5_as_53 : decode cX5_as 53 = .ok (.getfield 101, 3) := by decide +kernel
theorem dX5_as_56 : decode cX5_as 56 = .ok (.invokevirtual 62, 3) := by decide +kernel
theorem dX5_as_59 : decode cX5_as 59 = .ok (.ireturn, 1) := by decide +kernel
set_option maxRecDepth 20000 in
theorem ggX5_ask_X5_isPlace : GoodIn wsX5_ask wsX5_isPlace := goodIn_r _ [7, 8, 9, 6, 10] (by decide +kernel) (by decide +kernel)
set_option maxRecDepth 20000 in
theorem gX5_ask_X5_isPlace : GoodIn wsX5_ask (va_wsS RX5 85 yX5_isPlace wsX5_isPlace) := goodIn_app (goodIn_of _ (by decide +kernel)) ggX5_ask_X5_isPlace
set_option maxRecDepth 20000 in
theorem ggX5_ask_X5_within : GoodIn wsX5_ask wsX5_within := goodIn_r _ [10] (by decide +kernel) (by decide +kernel)
set_option maxRecDepth 20000 in
theorem gX5_ask_X5_within : GoodIn wsX5_ask (va_wsS RX5 50 yX5_within wsX5_within) := goodIn_app (goodIn_of _ (by decide +kernel)) ggX5_ask_X5_within
set_option maxRecDepth 20000 in
theorem ggX5_ask_X0_emptyTrace : GoodIn wsX5_ask wsX0_emptyTrace := goodIn_r _ [15, 16, 84, 85] (by decide +kernel) (by decide +kernel)
set_option maxRecDepth 20000 in
theorem gX5_ask_X0_emptyTrace : GoodIn wsX5_ask (wsV RX5 104 RX0 yX0_emptyTrace wsX0_emptyTrace) := goodIn_app (goodIn_of _ (by decide +kernel)) ggX5_ask_X0_emptyTrace
set_option maxRecDepth 20000 in
theorem ggX5_ask_X5_found : GoodIn wsX5_ask wsX5_found := goodIn_r _ [20, 21, 22, 78, 79, 80, 81, 82, 83] (by decide +kernel) (by decide +kernel)
set_option maxRecDepth 20000 in
theorem gX5_ask_X5_found : GoodIn wsX5_ask (wsV RX5 55 RX5 yX5_found wsX5_found) := goodIn_app (goodIn_of _ (by decide +kernel)) ggX5_ask_X5_found
set_option maxRecDepth 20000 in
theorem ggX5_ask_X0_sizeOf : GoodIn wsX5_ask wsX0_sizeOf := goodIn_r _ [26, 27, 28, 29, 30, 31, 32, 33, 34, 35, 36, 14, 37, 38, 39, 40, 41, 42, 16, 43, 44, 45, 46, 47, 48, 49, 50, 51, 52, 53, 54, 55, 56, 57, 58, 59, 60, 61, 62, 63, 64, 65, 86, 87, 88, 89, 90, 91, 92, 93, 94, 95, 96, 97, 98, 99, 100, 101, 102, 84, 85] (by decide +kernel) (by decide +kernel)
set_option maxRecDepth 20000 in
theorem gX5_ask_X0_sizeOf : GoodIn wsX5_ask (wsV RX5 107 RX0 yX0_sizeOf wsX0_sizeOf) := goodIn_app (goodIn_of _ (by decide +kernel)) ggX5_ask_X0_sizeOf
set_option maxRecDepth 20000 in
theorem ggX5_ask_X0_markOf : GoodIn wsX5_ask wsX0_markOf := goodIn_r _ [69, 27, 28, 29, 30, 31, 32, 33, 53, 54, 55, 14, 56, 39, 40, 41, 42, 16, 43, 57, 58, 59, 60, 61, 70, 71, 72, 73, 62, 63, 64, 65, 44, 45, 46, 47, 48, 86, 87, 88, 89, 90, 91, 92, 93, 94, 95, 96, 97, 98, 99, 100, 101, 102, 84, 85] (by decide +kernel) (by decide +kernel)
set_option maxRecDepth 20000 in
theorem gX5_ask_X0_markOf : GoodIn wsX5_ask (wsV RX5 111 RX0 yX0_markOf wsX0_markOf) := goodIn_app (goodIn_of _ (by decide +kernel)) ggX5_ask_X0_markOf
set_option maxRecDepth 20000 in
theorem ggX5_ask_X5_fine : GoodIn wsX5_ask wsX5_fine := goodIn_r _ [77, 21, 78, 79, 80, 81, 82, 83] (by decide +kernel) (by decide +kernel)
set_option maxRecDepth 20000 in
theorem gX5_ask_X5_fine : GoodIn wsX5_ask (wsV RX5 62 RX5 yX5_fine wsX5_fine) := goodIn_app (goodIn_of _ (by decide +kernel)) ggX5_ask_X5_fine
theorem dX5_ask_0 : decode cX5_ask 0 = .ok (.iload_n 1, 1) := by decide +kernel
theorem dX5_ask_1 : decode cX5_ask 1 = .ok (.invokestatic 85, 3) := by decide +kernel
theorem dX5_ask_4 : decode cX5_ask 4 = .ok (.ifCond .eq 12, 3) := by decide +kernel
theorem dX5_ask_7 : decode cX5_ask 7 = .ok (.iload_n 2, 1) := by decide +kernel
theorem dX5_ask_8 : decode cX5_ask 8 = .ok (.iconst 0, 1) := by decide +kernel
theorem dX5_ask_9 : decode cX5_ask 9 = .ok (.iconst 1, 1) := by decide +kernel
theorem dX5_ask_10 : decode cX5_ask 10 = .ok (.invokestatic 50, 3) := by decide +kernel
theorem dX5_ask_13 : decode cX5_ask 13 = .ok (.ifCond .ne 6, 3) := by decide +kernel
theorem dX5_ask_16 : decode cX5_ask 16 = .ok (.ldc 54, 2) := by decide +kernel
theorem dX5_ask_18 : decode cX5_ask 18 = .ok (.ireturn, 1) := by decide +kernel
theorem dX5_ask_19 : decode cX5_ask 19 = .ok (.aload_n 0, 1) := by decide +kernel
theorem dX5_ask_20 : decode cX5_ask 20 = .ok (.getfield 24, 3) := by decide +kernel
theorem dX5_ask_23 : decode cX5_ask 23 = .ok (.invokevirtual 104, 3) := by decide +kernel
theorem dX5_ask_26 : decode cX5_ask 26 = .ok (.aload_n 0, 1) := by decide +kernel
theorem dX5_ask_27 : decode cX5_ask 27 = .ok (.getfield 17, 3) := by decide +kernel
theorem dX5_ask_30 : decode cX5_ask 30 = .ok (.iload_n 1, 1) := by decide +kernel
theorem dX5_ask_31 : decode cX5_ask 31 = .ok (.aaload, 1) := by decide +kernel
theorem dX5_ask_32 : decode cX5_ask 32 = .ok (.astore_n 3, 1) := by decide +kernel
theorem dX5_ask_33 : decode cX5_ask 33 = .ok (.aload_n 3, 1) := by decide +kernel
theorem dX5_ask_34 : decode cX5_ask 34 = .ok (.ifnonnull 9, 3) := by decide +kernel
theorem dX5_ask_37 : decode cX5_ask 37 = .ok (.aload_n 0, 1) := by decide +kernel
theorem dX5_ask_38 : decode cX5_ask 38 = .ok (.iconst 1, 1) := by decide +kernel
theorem dX5_ask_39 : decode cX5_ask 39 = .ok (.invokevirtual 55, 3) := by decide +kernel
theorem dX5_ask_42 : decode cX5_ask 42 = .ok (.ireturn, 1) := by decide +kernel
theorem dX5_ask_43 : decode cX5_ask 43 = .ok (.aload_n 0, 1) := by decide +kernel
theorem dX5_ask_44 : decode cX5_ask 44 = .ok (.iload_n 2, 1) := by decide +kernel
theorem dX5_ask_45 : decode cX5_ask 45 = .ok (.ifCond .ne 14, 3) := by decide +kernel
theorem dX5_ask_48 : decode cX5_ask 48 = .ok (.aload_n 0, 1) := by decide +kernel
theorem dX5_ask_49 : decode cX5_ask 49 = .ok (.getfield 24, 3) := by decide +kernel
theorem dX5_ask_52 : decode cX5_ask 52 = .ok (.aload_n 3, 1) := by decide +kernel
theorem dX5_ask_53 : decode cX5_ask 53 = .ok (.invokevirtual 107, 3) := by decide +kernel
theorem dX5_ask_56 : decode cX5_ask 56 = .ok (.goto 11, 3) := by decide +kernel
theorem dX5_ask_59 : decode cX5_ask 59 = .ok (.aload_n 0, 1) := by decide +kernel
theorem dX5_ask_60 : decode cX5_ask 60 = .ok (.getfield 24, 3) := by decide +kernel
theorem dX5_ask_63 : decode cX5_ask 63 = .ok (.aload_n 3, 1) := by decide +kernel
theorem dX5_ask_64 : decode cX5_ask 64 = .ok (.invokevirtual 111, 3) := by decide +kernel
theorem dX5_ask_67 : decode cX5_ask 67 = .ok (.invokevirtual 62, 3) := by decide +kernel
theorem dX5_ask_70 : decode cX5_ask 70 = .ok (.ireturn, 1) := by decide +kernel
set_option maxRecDepth 20000 in
theorem ggX5_trace_X0_traced : GoodIn wsX5_trace wsX0_traced := goodIn_r _ [6, 7, 8, 9, 10, 11, 12, 19, 20] (by decide +kernel) (by decide +kernel)
set_option maxRecDepth 20000 in
theorem gX5_trace_X0_traced : GoodIn wsX5_trace (wsV RX5 114 RX0 yX0_traced wsX0_traced) := goodIn_app (goodIn_of _ (by decide +kernel)) ggX5_trace_X0_traced
theorem dX5_trace_0 : decode cX5_trace 0 = .ok (.aload_n 0, 1) := by decide +kernel
theorem dX5_trace_1 : decode cX5_trace 1 = .ok (.getfield 24, 3) := by decide +kernel
theorem dX5_trace_4 : decode cX5_trace 4 = .ok (.iload_n 1, 1) := by decide +kernel
theorem dX5_trace_5 : decode cX5_trace 5 = .ok (.invokevirtual 114, 3) := by decide +kernel
theorem dX5_trace_8 : decode cX5_trace 8 = .ok (.ireturn, 1) := by decide +kernel
set_option maxRecDepth 20000 in
theorem ggX5_call_X5_isPlace : GoodIn wsX5_call wsX5_isPlace := goodIn_r _ [7, 8, 9, 6, 10] (by decide +kernel) (by decide +kernel)
set_option maxRecDepth 20000 in
theorem gX5_call_X5_isPlace : GoodIn wsX5_call (va_wsS RX5 85 yX5_isPlace wsX5_isPlace) := goodIn_app (goodIn_of _ (by decide +kernel)) ggX5_call_X5_isPlace
set_option maxRecDepth 20000 in
theorem ggX5_call_X5_within : GoodIn wsX5_call wsX5_within := goodIn_r _ [10] (by decide +kernel) (by decide +kernel)
set_option maxRecDepth 20000 in
theorem gX5_call_X5_within : GoodIn wsX5_call (va_wsS RX5 50 yX5_within wsX5_within) := goodIn_app (goodIn_of _ (by decide +kernel)) ggX5_call_X5_within
set_option maxRecDepth 20000 in
theorem ggX5_call_X5_found : GoodIn wsX5_call wsX5_found := goodIn_r _ [14, 15, 16, 89, 90, 91, 92, 93, 94] (by decide +kernel) (by decide +kernel)
set_option maxRecDepth 20000 in
theorem gX5_call_X5_found : GoodIn wsX5_call (wsV RX5 55 RX5 yX5_found wsX5_found) := goodIn_app (goodIn_of _ (by decide +kernel)) ggX5_call_X5_found
set_option maxRecDepth 20000 in
theorem ggX5_call_X1_hasLine : GoodIn wsX5_call wsX1_hasLine := goodIn_r _ [21, 22, 9, 6, 10, 95, 96, 97, 98, 99, 100, 101, 102, 103, 104, 105, 106, 107, 108, 109, 110, 111] (by decide +kernel) (by decide +kernel)
set_option maxRecDepth 20000 in
theorem gX5_call_X1_hasLine : GoodIn wsX5_call (wsV RX5 117 RX1 yX1_hasLine wsX1_hasLine) := goodIn_app (goodIn_of _ (by decide +kernel)) ggX5_call_X1_hasLine
set_option maxRecDepth 20000 in
theorem ggX5_call_X1_isBusy : GoodIn wsX5_call wsX1_isBusy := goodIn_r _ [26, 27, 28, 29, 95, 96, 97, 98, 99, 100, 101, 102, 103, 104, 105, 106, 107, 108, 109, 110, 111] (by decide +kernel) (by decide +kernel)
set_option maxRecDepth 20000 in
theorem gX5_call_X1_isBusy : GoodIn wsX5_call (wsV RX5 120 RX1 yX1_isBusy wsX1_isBusy) := goodIn_app (goodIn_of _ (by decide +kernel)) ggX5_call_X1_isBusy
set_option maxRecDepth 20000 in
theorem ggX5_call_X1_setUp : GoodIn wsX5_call wsX1_setUp := goodIn_r _ [33, 28, 34, 35, 27, 29, 36, 37, 38, 39, 20, 40, 41, 42, 43, 44, 45, 46, 47, 48, 49, 50, 51, 52, 53, 54, 55, 56, 57, 58, 59, 60, 61, 62, 63, 64, 65, 66, 67, 68, 69, 70, 22, 71, 72, 73, 74, 75, 76, 77, 78, 79, 80, 81, 82, 83, 84, 95, 96, 97, 98, 99, 100, 101, 102, 103, 104, 105, 106, 107, 108, 109, 110, 111] (by decide +kernel) (by decide +kernel)
set_option maxRecDepth 20000 in
theorem gX5_call_X1_setUp : GoodIn wsX5_call (wsV RX5 124 RX1 yX1_setUp wsX1_setUp) := goodIn_app (goodIn_of _ (by decide +kernel)) ggX5_call_X1_setUp
set_option maxRecDepth 20000 in
theorem ggX5_call_X5_fine : GoodIn wsX5_call wsX5_fine := goodIn_r _ [88, 15, 89, 90, 91, 92, 93, 94] (by decide +kernel) (by decide +kernel)
set_option maxRecDepth 20000 in
theorem gX5_call_X5_fine : GoodIn wsX5_call (wsV RX5 62 RX5 yX5_fine wsX5_fine) := goodIn_app (goodIn_of _ (by decide +kernel)) ggX5_call_X5_fine
theorem dX5_call_0 : decode cX5_call 0 = .ok (.iload_n 1, 1) := by decide +kernel
theorem dX5_call_1 : decode cX5_call 1 = .ok (.invokestatic 85, 3) := by decide +kernel
theorem dX5_call_4 : decode cX5_call 4 = .ok (.ifCond .eq 13, 3) := by decide +kernel
theorem dX5_call_7 : decode cX5_call 7 = .ok (.iload 4, 2) := by decide +kernel
theorem dX5_call_9 : decode cX5_call 9 = .ok (.iconst 0, 1) := by decide +kernel
theorem dX5_call_10 : decode cX5_call 10 = .ok (.iconst 1, 1) := by decide +kernel
theorem dX5_call_11 : decode cX5_call 11 = .ok (.invokestatic 50, 3) := by decide +kernel
theorem dX5_call_14 : decode cX5_call 14 = .ok (.ifCond .ne 6, 3) := by decide +kernel
theorem dX5_call_17 : decode cX5_call 17 = .ok (.ldc 54, 2) := by decide +kernel
theorem dX5_call_19 : decode cX5_call 19 = .ok (.ireturn, 1) := by decide +kernel
theorem dX5_call_20 : decode cX5_call 20 = .ok (.aload_n 0, 1) := by decide +kernel
theorem dX5_call_21 : decode cX5_call 21 = .ok (.getfield 17, 3) := by decide +kernel
theorem dX5_call_24 : decode cX5_call 24 = .ok (.iload_n 1, 1) := by decide +kernel
theorem dX5_call_25 : decode cX5_call 25 = .ok (.aaload, 1) := by decide +kernel
theorem dX5_call_26 : decode cX5_call 26 = .ok (.astore 5, 2) := by decide +kernel
theorem dX5_call_28 : decode cX5_call 28 = .ok (.aload 5, 2) := by decide +kernel
theorem dX5_call_30 : decode cX5_call 30 = .ok (.ifnonnull 9, 3) := by decide +kernel
theorem dX5_call_33 : decode cX5_call 33 = .ok (.aload_n 0, 1) := by decide +kernel
theorem dX5_call_34 : decode cX5_call 34 = .ok (.iconst 1, 1) := by decide +kernel
theorem dX5_call_35 : decode cX5_call 35 = .ok (.invokevirtual 55, 3) := by decide +kernel
theorem dX5_call_38 : decode cX5_call 38 = .ok (.ireturn, 1) := by decide +kernel
theorem dX5_call_39 : decode cX5_call 39 = .ok (.aload 5, 2) := by decide +kernel
theorem dX5_call_41 : decode cX5_call 41 = .ok (.iload_n 2, 1) := by decide +kernel
theorem dX5_call_42 : decode cX5_call 42 = .ok (.invokevirtual 117, 3) := by decide +kernel
theorem dX5_call_45 : decode cX5_call 45 = .ok (.ifCond .eq 12, 3) := by decide +kernel
theorem dX5_call_48 : decode cX5_call 48 = .ok (.aload 5, 2) := by decide +kernel
theorem dX5_call_50 : decode cX5_call 50 = .ok (.iload_n 3, 1) := by decide +kernel
theorem dX5_call_51 : decode cX5_call 51 = .ok (.invokevirtual 117, 3) := by decide +kernel
theorem dX5_call_54 : decode cX5_call 54 = .ok (.ifCond .ne 6, 3) := by decide +kernel
theorem dX5_call_57 : decode cX5_call 57 = .ok (.ldc 54, 2) := by decide +kernel
theorem dX5_call_59 : decode cX5_call 59 = .ok (.ireturn, 1) := by decide +kernel
theorem dX5_call_60 : decode cX5_call 60 = .ok (.aload 5, 2) := by decide +kernel
theorem dX5_call_62 : decode cX5_call 62 = .ok (.iload_n 2, 1) := by decide +kernel
theorem dX5_call_63 : decode cX5_call 63 = .ok (.iload_n 3, 1) := by decide +kernel
theorem dX5_call_64 : decode cX5_call 64 = .ok (.invokevirtual 120, 3) := by decide +kernel
theorem dX5_call_67 : decode cX5_call 67 = .ok (.ifCond .eq 6, 3) := by decide +kernel
theorem dX5_call_70 : decode cX5_call 70 = .ok (.ldc 123, 2) := by decide +kernel
theorem dX5_call_72 : decode cX5_call 72 = .ok (.ireturn, 1) := by decide +kernel
theorem dX5_call_73 : decode cX5_call 73 = .ok (.aload_n 0, 1) := by decide +kernel
theorem dX5_call_74 : decode cX5_call 74 = .ok (.aload 5, 2) := by decide +kernel
theorem dX5_call_76 : decode cX5_call 76 = .ok (.iload_n 2, 1) := by decide +kernel
theorem dX5_call_77 : decode cX5_call 77 = .ok (.iload_n 3, 1) := by decide +kernel
theorem dX5_call_78 : decode cX5_call 78 = .ok (.iload 4, 2) := by decide +kernel
theorem dX5_call_80 : decode cX5_call 80 = .ok (.iconst 1, 1) := by decide +kernel
theorem dX5_call_81 : decode cX5_call 81 = .ok (.if_icmp .ne 7, 3) := by decide +kernel
theorem dX5_call_84 : decode cX5_call 84 = .ok (.iconst 1, 1) := by decide +kernel
theorem dX5_call_85 : decode cX5_call 85 = .ok (.goto 4, 3) := by decide +kernel
theorem dX5_call_88 : decode cX5_call 88 = .ok (.iconst 0, 1) := by decide +kernel
theorem dX5_call_89 : decode cX5_call 89 = .ok (.invokevirtual 124, 3) := by decide +kernel
theorem dX5_call_92 : decode cX5_call 92 = .ok (.invokevirtual 62, 3) := by decide +kernel
theorem dX5_call_95 : decode cX5_call 95 = .ok (.ireturn, 1) := by decide +kernel
set_option maxRecDepth 20000 in
theorem ggX5_end_X5_isPlace : GoodIn wsX5_end wsX5_isPlace := goodIn_r _ [7, 8, 9, 6, 10] (by decide +kernel) (by decide +kernel)
set_option maxRecDepth 20000 in
theorem gX5_end_X5_isPlace : GoodIn wsX5_end (va_wsS RX5 85 yX5_isPlace wsX5_isPlace) := goodIn_app (goodIn_of _ (by decide +kernel)) ggX5_end_X5_isPlace
set_option maxRecDepth 20000 in
theorem ggX5_end_X5_found : GoodIn wsX5_end wsX5_found := goodIn_r _ [14, 15, 16, 48, 49, 50, 51, 52, 53] (by decide +kernel) (by decide +kernel)
set_option maxRecDepth 20000 in
theorem gX5_end_X5_found : GoodIn wsX5_end (wsV RX5 55 RX5 yX5_found wsX5_found) := goodIn_app (goodIn_of _ (by decide +kernel)) ggX5_end_X5_found
set_option maxRecDepth 20000 in
theorem ggX5_end_X1_hasLine : GoodIn wsX5_end wsX1_hasLine := goodIn_r _ [21, 22, 9, 6, 10, 54, 55, 56, 57, 58, 59, 60, 61, 62, 63, 64, 65, 66, 67, 68, 69, 70] (by decide +kernel) (by decide +kernel)
set_option maxRecDepth 20000 in
theorem gX5_end_X1_hasLine : GoodIn wsX5_end (wsV RX5 117 RX1 yX1_hasLine wsX1_hasLine) := goodIn_app (goodIn_of _ (by decide +kernel)) ggX5_end_X1_hasLine
set_option maxRecDepth 20000 in
theorem ggX5_end_X1_takeOff : GoodIn wsX5_end wsX1_takeOff := goodIn_r _ [26, 27, 28, 29, 30, 31, 32, 33, 20, 34, 35, 36, 37, 38, 39, 40, 41, 42, 43, 54, 55, 56, 57, 58, 59, 60, 61, 62, 63, 64, 65, 66, 67, 68, 69, 70] (by decide +kernel) (by decide +kernel)
set_option maxRecDepth 20000 in
theorem gX5_end_X1_takeOff : GoodIn wsX5_end (wsV RX5 131 RX1 yX1_takeOff wsX1_takeOff) := goodIn_app (goodIn_of _ (by decide +kernel)) ggX5_end_X1_takeOff
set_option maxRecDepth 20000 in
theorem ggX5_end_X5_fine : GoodIn wsX5_end wsX5_fine := goodIn_r _ [47, 15, 48, 49, 50, 51, 52, 53] (by decide +kernel) (by decide +kernel)
set_option maxRecDepth 20000 in
theorem gX5_end_X5_fine : GoodIn wsX5_end (wsV RX5 62 RX5 yX5_fine wsX5_fine) := goodIn_app (goodIn_of _ (by decide +kernel)) ggX5_end_X5_fine
theorem dX5_end_0 : decode cX5_end 0 = .ok (.iload_n 1, 1) := by decide +kernel
theorem dX5_end_1 : decode cX5_end 1 = .ok (.invokestatic 85, 3) := by decide +kernel
theorem dX5_end_4 : decode cX5_end 4 = .ok (.ifCond .ne 6, 3) := by decide +kernel
theorem dX5_end_7 : decode cX5_end 7 = .ok (.ldc 54, 2) := by decide +kernel
theorem dX5_end_9 : decode cX5_end 9 = .ok (.ireturn, 1) := by decide +kernel
theorem dX5_end_10 : decode cX5_end 10 = .ok (.aload_n 0, 1) := by decide +kernel
theorem dX5_end_11 : decode cX5_end 11 = .ok (.getfield 17, 3) := by decide +kernel
theorem dX5_end_14 : decode cX5_end 14 = .ok (.iload_n 1, 1) := by decide +kernel
theorem dX5_end_15 : decode cX5_end 15 = .ok (.aaload, 1) := by decide +kernel
theorem dX5_end_16 : decode cX5_end 16 = .ok (.astore_n 3, 1) := by decide +kernel
theorem dX5_end_17 : decode cX5_end 17 = .ok (.aload_n 3, 1) := by decide +kernel
theorem dX5_end_18 : decode cX5_end 18 = .ok (.ifnonnull 9, 3) := by decide +kernel
theorem dX5_end_21 : decode cX5_end 21 = .ok (.aload_n 0, 1) := by decide +kernel
theorem dX5_end_22 : decode cX5_end 22 = .ok (.iconst 1, 1) := by decide +kernel
theorem dX5_end_23 : decode cX5_end 23 = .ok (.invokevirtual 55, 3) := by decide +kernel
theorem dX5_end_26 : decode cX5_end 26 = .ok (.ireturn, 1) := by decide +kernel
theorem dX5_end_27 : decode cX5_end 27 = .ok (.aload_n 3, 1) := by decide +kernel
theorem dX5_end_28 : decode cX5_end 28 = .ok (.iload_n 2, 1) := by decide +kernel
theorem dX5_end_29 : decode cX5_end 29 = .ok (.invokevirtual 117, 3) := by decide +kernel
theorem dX5_end_32 : decode cX5_end 32 = .ok (.ifCond .ne 6, 3) := by decide +kernel
theorem dX5_end_35 : decode cX5_end 35 = .ok (.ldc 54, 2) := by decide +kernel
theorem dX5_end_37 : decode cX5_end 37 = .ok (.ireturn, 1) := by decide +kernel
theorem dX5_end_38 : decode cX5_end 38 = .ok (.aload_n 3, 1) := by decide +kernel
theorem dX5_end_39 : decode cX5_end 39 = .ok (.getfield 128, 3) := by decide +kernel
theorem dX5_end_42 : decode cX5_end 42 = .ok (.iload_n 2, 1) := by decide +kernel
theorem dX5_end_43 : decode cX5_end 43 = .ok (.iaload, 1) := by decide +kernel
theorem dX5_end_44 : decode cX5_end 44 = .ok (.istore 4, 2) := by decide +kernel
theorem dX5_end_46 : decode cX5_end 46 = .ok (.aload_n 3, 1) := by decide +kernel
theorem dX5_end_47 : decode cX5_end 47 = .ok (.iload_n 2, 1) := by decide +kernel
theorem dX5_end_48 : decode cX5_end 48 = .ok (.invokevirtual 131, 3) := by decide +kernel
theorem dX5_end_51 : decode cX5_end 51 = .ok (.aload_n 0, 1) := by decide +kernel
theorem dX5_end_52 : decode cX5_end 52 = .ok (.iload 4, 2) := by decide +kernel
theorem dX5_end_54 : decode cX5_end 54 = .ok (.invokevirtual 62, 3) := by decide +kernel
theorem dX5_end_57 : decode cX5_end 57 = .ok (.ireturn, 1) := by decide +kernel
set_option maxRecDepth 20000 in
theorem ggX5_line_X5_isPlace : GoodIn wsX5_line wsX5_isPlace := goodIn_r _ [8, 9, 10, 7, 11] (by decide +kernel) (by decide +kernel)
set_option maxRecDepth 20000 in
theorem gX5_line_X5_isPlace : GoodIn wsX5_line (va_wsS RX5 85 yX5_isPlace wsX5_isPlace) := goodIn_app (goodIn_of _ (by decide +kernel)) ggX5_line_X5_isPlace
set_option maxRecDepth 20000 in
theorem ggX5_line_X5_within : GoodIn wsX5_line wsX5_within := goodIn_r _ [11] (by decide +kernel) (by decide +kernel)
set_option maxRecDepth 20000 in
theorem gX5_line_X5_within : GoodIn wsX5_line (va_wsS RX5 50 yX5_within wsX5_within) := goodIn_app (goodIn_of _ (by decide +kernel)) ggX5_line_X5_within
set_option maxRecDepth 20000 in
theorem ggX5_line_X5_found : GoodIn wsX5_line wsX5_found := goodIn_r _ [15, 16, 17, 28, 29, 30, 31, 32, 33] (by decide +kernel) (by decide +kernel)
set_option maxRecDepth 20000 in
theorem gX5_line_X5_found : GoodIn wsX5_line (wsV RX5 55 RX5 yX5_found wsX5_found) := goodIn_app (goodIn_of _ (by decide +kernel)) ggX5_line_X5_found
set_option maxRecDepth 20000 in
theorem ggX5_line_X1_hasLine : GoodIn wsX5_line wsX1_hasLine := goodIn_r _ [22, 23, 10, 7, 11, 34, 35, 36, 37, 38, 39, 40, 41, 42, 43, 44, 45, 46, 47, 48, 49, 50] (by decide +kernel) (by decide +kernel)
set_option maxRecDepth 20000 in
theorem gX5_line_X1_hasLine : GoodIn wsX5_line (wsV RX5 117 RX1 yX1_hasLine wsX1_hasLine) := goodIn_app (goodIn_of _ (by decide +kernel)) ggX5_line_X1_hasLine
set_option maxRecDepth 20000 in
theorem ggX5_line_X5_fine : GoodIn wsX5_line wsX5_fine := goodIn_r _ [27, 16, 28, 29, 30, 31, 32, 33] (by decide +kernel) (by decide +kernel)
set_option maxRecDepth 20000 in
theorem gX5_line_X5_fine : GoodIn wsX5_line (wsV RX5 62 RX5 yX5_fine wsX5_fine) := goodIn_app (goodIn_of _ (by decide +kernel)) ggX5_line_X5_fine
theorem dX5_line_0 : decode cX5_line 0 = .ok (.iload_n 1, 1) := by decide +kernel
theorem dX5_line_1 : decode cX5_line 1 = .ok (.invokestatic 85, 3) := by decide +kernel
theorem dX5_line_4 : decode cX5_line 4 = .ok (.ifCond .eq 12, 3) := by decide +kernel
theorem dX5_line_7 : decode cX5_line 7 = .ok (.iload_n 3, 1) := by decide +kernel
theorem dX5_line_8 : decode cX5_line 8 = .ok (.iconst 0, 1) := by decide +kernel
theorem dX5_line_9 : decode cX5_line 9 = .ok (.iconst 1, 1) := by decide +kernel
theorem dX5_line_10 : decode cX5_line 10 = .ok (.invokestatic 50, 3) := by decide +kernel
theorem dX5_line_13 : decode cX5_line 13 = .ok (.ifCond .ne 6, 3) := by decide +kernel
theorem dX5_line_16 : decode cX5_line 16 = .ok (.ldc 54, 2) := by decide +kernel
theorem dX5_line_18 : decode cX5_line 18 = .ok (.ireturn, 1) := by decide +kernel
theorem dX5_line_19 : decode cX5_line 19 = .ok (.aload_n 0, 1) := by decide +kernel
theorem dX5_line_20 : decode cX5_line 20 = .ok (.getfield 17, 3) := by decide +kernel
theorem dX5_line_23 : decode cX5_line 23 = .ok (.iload_n 1, 1) := by decide +kernel
theorem dX5_line_24 : decode cX5_line 24 = .ok (.aaload, 1) := by decide +kernel
theorem dX5_line_25 : decode cX5_line 25 = .ok (.astore 4, 2) := by decide +kernel
theorem dX5_line_27 : decode cX5_line 27 = .ok (.aload 4, 2) := by decide +kernel
theorem dX5_line_29 : decode cX5_line 29 = .ok (.ifnonnull 9, 3) := by decide +kernel
theorem dX5_line_32 : decode cX5_line 32 = .ok (.aload_n 0, 1) := by decide +kernel
theorem dX5_line_33 : decode cX5_line 33 = .ok (.iconst 1, 1) := by decide +kernel
theorem dX5_line_34 : decode cX5_line 34 = .ok (.invokevirtual 55, 3) := by decide +kernel
theorem dX5_line_37 : decode cX5_line 37 = .ok (.ireturn, 1) := by decide +kernel
theorem dX5_line_38 : decode cX5_line 38 = .ok (.aload 4, 2) := by decide +kernel
theorem dX5_line_40 : decode cX5_line 40 = .ok (.iload_n 2, 1) := by decide +kernel
theorem dX5_line_41 : decode cX5_line 41 = .ok (.invokevirtual 117, 3) := by decide +kernel
theorem dX5_line_44 : decode cX5_line 44 = .ok (.ifCond .ne 6, 3) := by decide +kernel
theorem dX5_line_47 : decode cX5_line 47 = .ok (.ldc 54, 2) := by decide +kernel
theorem dX5_line_49 : decode cX5_line 49 = .ok (.ireturn, 1) := by decide +kernel
theorem dX5_line_50 : decode cX5_line 50 = .ok (.aload_n 0, 1) := by decide +kernel
theorem dX5_line_51 : decode cX5_line 51 = .ok (.iload_n 3, 1) := by decide +kernel
theorem dX5_line_52 : decode cX5_line 52 = .ok (.ifCond .ne 13, 3) := by decide +kernel
theorem dX5_line_55 : decode cX5_line 55 = .ok (.aload 4, 2) := by decide +kernel
theorem dX5_line_57 : decode cX5_line 57 = .ok (.getfield 128, 3) := by decide +kernel
theorem dX5_line_60 : decode cX5_line 60 = .ok (.iload_n 2, 1) := by decide +kernel
theorem dX5_line_61 : decode cX5_line 61 = .ok (.iaload, 1) := by decide +kernel
theorem dX5_line_62 : decode cX5_line 62 = .ok (.goto 10, 3) := by decide +kernel
theorem dX5_line_65 : decode cX5_line 65 = .ok (.aload 4, 2) := by decide +kernel
theorem dX5_line_67 : decode cX5_line 67 = .ok (.getfield 135, 3) := by decide +kernel
theorem dX5_line_70 : decode cX5_line 70 = .ok (.iload_n 2, 1) := by decide +kernel
theorem dX5_line_71 : decode cX5_line 71 = .ok (.iaload, 1) := by decide +kernel
theorem dX5_line_72 : decode cX5_line 72 = .ok (.invokevirtual 62, 3) := by decide +kernel
theorem dX5_line_75 : decode cX5_line 75 = .ok (.ireturn, 1) := by decide +kernel
set_option maxRecDepth 20000 in
theorem ggX5_free_X5_isPlace : GoodIn wsX5_free wsX5_isPlace := goodIn_r _ [7, 8, 9, 6, 10] (by decide +kernel) (by decide +kernel)
set_option maxRecDepth 20000 in
theorem gX5_free_X5_isPlace : GoodIn wsX5_free (va_wsS RX5 85 yX5_isPlace wsX5_isPlace) := goodIn_app (goodIn_of _ (by decide +kernel)) ggX5_free_X5_isPlace
set_option maxRecDepth 20000 in
theorem ggX5_free_X5_within : GoodIn wsX5_free wsX5_within := goodIn_r _ [10] (by decide +kernel) (by decide +kernel)
set_option maxRecDepth 20000 in
theorem gX5_free_X5_within : GoodIn wsX5_free (va_wsS RX5 50 yX5_within wsX5_within) := goodIn_app (goodIn_of _ (by decide +kernel)) ggX5_free_X5_within
set_option maxRecDepth 20000 in
theorem ggX5_free_X5_found : GoodIn wsX5_free wsX5_found := goodIn_r _ [14, 15, 16, 75, 76, 77, 78, 79, 80] (by decide +kernel) (by decide +kernel)
set_option maxRecDepth 20000 in
theorem gX5_free_X5_found : GoodIn wsX5_free (wsV RX5 55 RX5 yX5_found wsX5_found) := goodIn_app (goodIn_of _ (by decide +kernel)) ggX5_free_X5_found
set_option maxRecDepth 20000 in
theorem ggX5_free_X1_hasLine : GoodIn wsX5_free wsX1_hasLine := goodIn_r _ [21, 22, 9, 6, 10, 81, 82, 83, 84, 85, 86, 87, 88, 89, 90, 91, 92, 93, 94, 95, 96, 97] (by decide +kernel) (by decide +kernel)
set_option maxRecDepth 20000 in
theorem gX5_free_X1_hasLine : GoodIn wsX5_free (wsV RX5 117 RX1 yX1_hasLine wsX1_hasLine) := goodIn_app (goodIn_of _ (by decide +kernel)) ggX5_free_X1_hasLine
set_option maxRecDepth 20000 in
theorem ggX5_free_X1_isBusy : GoodIn wsX5_free wsX1_isBusy := goodIn_r _ [26, 27, 28, 29, 81, 82, 83, 84, 85, 86, 87, 88, 89, 90, 91, 92, 93, 94, 95, 96, 97] (by decide +kernel) (by decide +kernel)
set_option maxRecDepth 20000 in
theorem gX5_free_X1_isBusy : GoodIn wsX5_free (wsV RX5 120 RX1 yX1_isBusy wsX1_isBusy) := goodIn_app (goodIn_of _ (by decide +kernel)) ggX5_free_X1_isBusy
set_option maxRecDepth 20000 in
theorem ggX5_free_X1_howManyFree : GoodIn wsX5_free wsX1_howManyFree := goodIn_r _ [33, 34, 35, 36, 37, 20, 38, 39, 40, 41, 42, 43, 44, 45, 46, 47, 48, 49, 50, 51, 52, 53, 54, 55, 81, 82, 83, 84, 85, 86, 87, 88, 89, 90, 91, 92, 93, 94, 95, 96, 97] (by decide +kernel) (by decide +kernel)
set_option maxRecDepth 20000 in
theorem gX5_free_X1_howManyFree : GoodIn wsX5_free (wsV RX5 138 RX1 yX1_howManyFree wsX1_howManyFree) := goodIn_app (goodIn_of _ (by decide +kernel)) ggX5_free_X1_howManyFree
set_option maxRecDepth 20000 in
theorem ggX5_free_X1_plan : GoodIn wsX5_free wsX1_plan := goodIn_r _ [59, 34, 60, 28, 35, 36, 37, 20, 38, 39, 40, 41, 42, 43, 44, 45, 46, 47, 48, 49, 50, 51, 52, 53, 54, 55, 61, 62, 63, 64, 65, 66, 67, 68, 69, 22, 70, 27, 81, 82, 83, 84, 85, 86, 87, 88, 89, 90, 91, 92, 93, 94, 95, 96, 97] (by decide +kernel) (by decide +kernel)
set_option maxRecDepth 20000 in
theorem gX5_free_X1_plan : GoodIn wsX5_free (wsV RX5 142 RX1 yX1_plan wsX1_plan) := goodIn_app (goodIn_of _ (by decide +kernel)) ggX5_free_X1_plan
set_option maxRecDepth 20000 in
theorem ggX5_free_X5_fine : GoodIn wsX5_free wsX5_fine := goodIn_r _ [74, 15, 75, 76, 77, 78, 79, 80] (by decide +kernel) (by decide +kernel)
set_option maxRecDepth 20000 in
theorem gX5_free_X5_fine : GoodIn wsX5_free (wsV RX5 62 RX5 yX5_fine wsX5_fine) := goodIn_app (goodIn_of _ (by decide +kernel)) ggX5_free_X5_fine
theorem dX5_free_0 : decode cX5_free 0 = .ok (.iload_n 1, 1) := by decide +kernel
theorem dX5_free_1 : decode cX5_free 1 = .ok (.invokestatic 85, 3) := by decide +kernel
theorem dX5_free_4 : decode cX5_free 4 = .ok (.ifCond .eq 13, 3) := by decide +kernel
theorem dX5_free_7 : decode cX5_free 7 = .ok (.iload 4, 2) := by decide +kernel
theorem dX5_free_9 : decode cX5_free 9 = .ok (.iconst 0, 1) := by decide +kernel
theorem dX5_free_10 : decode cX5_free 10 = .ok (.iconst 1, 1) := by decide +kernel
theorem dX5_free_11 : decode cX5_free 11 = .ok (.invokestatic 50, 3) := by decide +kernel
theorem dX5_free_14 : decode cX5_free 14 = .ok (.ifCond .ne 6, 3) := by decide +kernel
theorem dX5_free_17 : decode cX5_free 17 = .ok (.ldc 54, 2) := by decide +kernel
theorem dX5_free_19 : decode cX5_free 19 = .ok (.ireturn, 1) := by decide +kernel
theorem dX5_free_20 : decode cX5_free 20 = .ok (.aload_n 0, 1) := by decide +kernel
theorem dX5_free_21 : decode cX5_free 21 = .ok (.getfield 17, 3) := by decide +kernel
theorem dX5_free_24 : decode cX5_free 24 = .ok (.iload_n 1, 1) := by decide +kernel
theorem dX5_free_25 : decode cX5_free 25 = .ok (.aaload, 1) := by decide +kernel
theorem dX5_free_26 : decode cX5_free 26 = .ok (.astore 5, 2) := by decide +kernel
theorem dX5_free_28 : decode cX5_free 28 = .ok (.aload 5, 2) := by decide +kernel
theorem dX5_free_30 : decode cX5_free 30 = .ok (.ifnonnull 9, 3) := by decide +kernel
theorem dX5_free_33 : decode cX5_free 33 = .ok (.aload_n 0, 1) := by decide +kernel
theorem dX5_free_34 : decode cX5_free 34 = .ok (.iconst 1, 1) := by decide +kernel
theorem dX5_free_35 : decode cX5_free 35 = .ok (.invokevirtual 55, 3) := by decide +kernel
theorem dX5_free_38 : decode cX5_free 38 = .ok (.ireturn, 1) := by decide +kernel
theorem dX5_free_39 : decode cX5_free 39 = .ok (.aload 5, 2) := by decide +kernel
theorem dX5_free_41 : decode cX5_free 41 = .ok (.iload_n 2, 1) := by decide +kernel
theorem dX5_free_42 : decode cX5_free 42 = .ok (.invokevirtual 117, 3) := by decide +kernel
theorem dX5_free_45 : decode cX5_free 45 = .ok (.ifCond .eq 12, 3) := by decide +kernel
theorem dX5_free_48 : decode cX5_free 48 = .ok (.aload 5, 2) := by decide +kernel
theorem dX5_free_50 : decode cX5_free 50 = .ok (.iload_n 3, 1) := by decide +kernel
theorem dX5_free_51 : decode cX5_free 51 = .ok (.invokevirtual 117, 3) := by decide +kernel
theorem dX5_free_54 : decode cX5_free 54 = .ok (.ifCond .ne 6, 3) := by decide +kernel
theorem dX5_free_57 : decode cX5_free 57 = .ok (.ldc 54, 2) := by decide +kernel
theorem dX5_free_59 : decode cX5_free 59 = .ok (.ireturn, 1) := by decide +kernel
theorem dX5_free_60 : decode cX5_free 60 = .ok (.aload 5, 2) := by decide +kernel
theorem dX5_free_62 : decode cX5_free 62 = .ok (.iload_n 2, 1) := by decide +kernel
theorem dX5_free_63 : decode cX5_free 63 = .ok (.iload_n 3, 1) := by decide +kernel
theorem dX5_free_64 : decode cX5_free 64 = .ok (.invokevirtual 120, 3) := by decide +kernel
theorem dX5_free_67 : decode cX5_free 67 = .ok (.ifCond .eq 6, 3) := by decide +kernel
theorem dX5_free_70 : decode cX5_free 70 = .ok (.ldc 123, 2) := by decide +kernel
theorem dX5_free_72 : decode cX5_free 72 = .ok (.ireturn, 1) := by decide +kernel
theorem dX5_free_73 : decode cX5_free 73 = .ok (.aload_n 0, 1) := by decide +kernel
theorem dX5_free_74 : decode cX5_free 74 = .ok (.iload 4, 2) := by decide +kernel
theorem dX5_free_76 : decode cX5_free 76 = .ok (.ifCond .ne 13, 3) := by decide +kernel
theorem dX5_free_79 : decode cX5_free 79 = .ok (.aload 5, 2) := by decide +kernel
theorem dX5_free_81 : decode cX5_free 81 = .ok (.iload_n 2, 1) := by decide +kernel
theorem dX5_free_82 : decode cX5_free 82 = .ok (.iload_n 3, 1) := by decide +kernel
theorem dX5_free_83 : decode cX5_free 83 = .ok (.invokevirtual 138, 3) := by decide +kernel
theorem dX5_free_86 : decode cX5_free 86 = .ok (.goto 11, 3) := by decide +kernel
theorem dX5_free_89 : decode cX5_free 89 = .ok (.aload 5, 2) := by decide +kernel
theorem dX5_free_91 : decode cX5_free 91 = .ok (.iload_n 2, 1) := by decide +kernel
theorem dX5_free_92 : decode cX5_free 92 = .ok (.iload_n 3, 1) := by decide +kernel
theorem dX5_free_93 : decode cX5_free 93 = .ok (.iconst 1, 1) := by decide +kernel
theorem dX5_free_94 : decode cX5_free 94 = .ok (.invokevirtual 142, 3) := by decide +kernel
theorem dX5_free_97 : decode cX5_free 97 = .ok (.invokevirtual 62, 3) := by decide +kernel
theorem dX5_free_100 : decode cX5_free 100 = .ok (.ireturn, 1) := by decide +kernel
set_option maxRecDepth 20000 in
theorem ggX5_die_X5_isPlace : GoodIn wsX5_die wsX5_isPlace := goodIn_r _ [8, 9, 10, 7, 11] (by decide +kernel) (by decide +kernel)
set_option maxRecDepth 20000 in
theorem gX5_die_X5_isPlace : GoodIn wsX5_die (va_wsS RX5 85 yX5_isPlace wsX5_isPlace) := goodIn_app (goodIn_of _ (by decide +kernel)) ggX5_die_X5_isPlace
set_option maxRecDepth 20000 in
theorem ggX5_die_X5_found : GoodIn wsX5_die wsX5_found := goodIn_r _ [15, 16, 17, 97, 98, 99, 100, 101, 102] (by decide +kernel) (by decide +kernel)
set_option maxRecDepth 20000 in
theorem gX5_die_X5_found : GoodIn wsX5_die (wsV RX5 55 RX5 yX5_found wsX5_found) := goodIn_app (goodIn_of _ (by decide +kernel)) ggX5_die_X5_found
set_option maxRecDepth 20000 in
theorem ggX5_die_X1_hasMiddle : GoodIn wsX5_die wsX1_hasMiddle := goodIn_r _ [22, 23, 10, 7, 11, 103, 104, 105, 106, 107, 108, 109, 110, 111, 112, 113, 114, 115, 116, 117, 118, 119] (by decide +kernel) (by decide +kernel)
set_option maxRecDepth 20000 in
theorem gX5_die_X1_hasMiddle : GoodIn wsX5_die (wsV RX5 145 RX1 yX1_hasMiddle wsX1_hasMiddle) := goodIn_app (goodIn_of _ (by decide +kernel)) ggX5_die_X1_hasMiddle
set_option maxRecDepth 20000 in
theorem ggX5_die_X1_killMiddle : GoodIn wsX5_die wsX1_killMiddle := goodIn_r _ [27, 28, 29, 30, 31, 32, 33, 34, 35, 36, 37, 38, 21, 39, 40, 41, 42, 43, 44, 45, 46, 47, 48, 49, 50, 51, 52, 53, 54, 55, 56, 57, 58, 59, 60, 61, 62, 63, 23, 64, 65, 66, 67, 68, 69, 70, 71, 72, 73, 74, 75, 76, 77, 78, 79, 80, 81, 82, 83, 84, 85, 86, 87, 88, 89, 90, 91, 92, 103, 104, 105, 106, 107, 108, 109, 110, 111, 112, 113, 114, 115, 116, 117, 118, 119] (by decide +kernel) (by decide +kernel)
set_option maxRecDepth 20000 in
theorem gX5_die_X1_killMiddle : GoodIn wsX5_die (wsV RX5 152 RX1 yX1_killMiddle wsX1_killMiddle) := goodIn_app (goodIn_of _ (by decide +kernel)) ggX5_die_X1_killMiddle
set_option maxRecDepth 20000 in
theorem ggX5_die_X5_fine : GoodIn wsX5_die wsX5_fine := goodIn_r _ [96, 16, 97, 98, 99, 100, 101, 102] (by decide +kernel) (by decide +kernel)
set_option maxRecDepth 20000 in
theorem gX5_die_X5_fine : GoodIn wsX5_die (wsV RX5 62 RX5 yX5_fine wsX5_fine) := goodIn_app (goodIn_of _ (by decide +kernel)) ggX5_die_X5_fine
theorem dX5_die_0 : decode cX5_die 0 = .ok (.iload_n 1, 1) := by decide +kernel
theorem dX5_die_1 : decode cX5_die 1 = .ok (.invokestatic 85, 3) := by decide +kernel
theorem dX5_die_4 : decode cX5_die 4 = .ok (.ifCond .ne 6, 3) := by decide +kernel
theorem dX5_die_7 : decode cX5_die 7 = .ok (.ldc 54, 2) := by decide +kernel
theorem dX5_die_9 : decode cX5_die 9 = .ok (.ireturn, 1) := by decide +kernel
theorem dX5_die_10 : decode cX5_die 10 = .ok (.aload_n 0, 1) := by decide +kernel
theorem dX5_die_11 : decode cX5_die 11 = .ok (.getfield 17, 3) := by decide +kernel
theorem dX5_die_14 : decode cX5_die 14 = .ok (.iload_n 1, 1) := by decide +kernel
theorem dX5_die_15 : decode cX5_die 15 = .ok (.aaload, 1) := by decide +kernel
theorem dX5_die_16 : decode cX5_die 16 = .ok (.astore_n 3, 1) := by decide +kernel
theorem dX5_die_17 : decode cX5_die 17 = .ok (.aload_n 3, 1) := by decide +kernel
theorem dX5_die_18 : decode cX5_die 18 = .ok (.ifnonnull 9, 3) := by decide +kernel
theorem dX5_die_21 : decode cX5_die 21 = .ok (.aload_n 0, 1) := by decide +kernel
theorem dX5_die_22 : decode cX5_die 22 = .ok (.iconst 1, 1) := by decide +kernel
theorem dX5_die_23 : decode cX5_die 23 = .ok (.invokevirtual 55, 3) := by decide +kernel
theorem dX5_die_26 : decode cX5_die 26 = .ok (.ireturn, 1) := by decide +kernel
theorem dX5_die_27 : decode cX5_die 27 = .ok (.aload_n 3, 1) := by decide +kernel
theorem dX5_die_28 : decode cX5_die 28 = .ok (.iload_n 2, 1) := by decide +kernel
theorem dX5_die_29 : decode cX5_die 29 = .ok (.invokevirtual 145, 3) := by decide +kernel
theorem dX5_die_32 : decode cX5_die 32 = .ok (.ifCond .ne 6, 3) := by decide +kernel
theorem dX5_die_35 : decode cX5_die 35 = .ok (.ldc 54, 2) := by decide +kernel
theorem dX5_die_37 : decode cX5_die 37 = .ok (.ireturn, 1) := by decide +kernel
theorem dX5_die_38 : decode cX5_die 38 = .ok (.aload_n 3, 1) := by decide +kernel
theorem dX5_die_39 : decode cX5_die 39 = .ok (.getfield 148, 3) := by decide +kernel
theorem dX5_die_42 : decode cX5_die 42 = .ok (.iload_n 2, 1) := by decide +kernel
theorem dX5_die_43 : decode cX5_die 43 = .ok (.baload, 1) := by decide +kernel
theorem dX5_die_44 : decode cX5_die 44 = .ok (.ifCond .eq 6, 3) := by decide +kernel
theorem dX5_die_47 : decode cX5_die 47 = .ok (.ldc 123, 2) := by decide +kernel
theorem dX5_die_49 : decode cX5_die 49 = .ok (.ireturn, 1) := by decide +kernel
theorem dX5_die_50 : decode cX5_die 50 = .ok (.aload_n 0, 1) := by decide +kernel
theorem dX5_die_51 : decode cX5_die 51 = .ok (.aload_n 3, 1) := by decide +kernel
theorem dX5_die_52 : decode cX5_die 52 = .ok (.iload_n 2, 1) := by decide +kernel
theorem dX5_die_53 : decode cX5_die 53 = .ok (.invokevirtual 152, 3) := by decide +kernel
theorem dX5_die_56 : decode cX5_die 56 = .ok (.invokevirtual 62, 3) := by decide +kernel
theorem dX5_die_59 : decode cX5_die 59 = .ok (.ireturn, 1) := by decide +kernel
set_option maxRecDepth 20000 in
theorem ggX5_mend_X5_isPlace : GoodIn wsX5_mend wsX5_isPlace := goodIn_r _ [6, 7, 8, 5, 9] (by decide +kernel) (by decide +kernel)
set_option maxRecDepth 20000 in
theorem gX5_mend_X5_isPlace : GoodIn wsX5_mend (va_wsS RX5 85 yX5_isPlace wsX5_isPlace) := goodIn_app (goodIn_of _ (by decide +kernel)) ggX5_mend_X5_isPlace
set_option maxRecDepth 20000 in
theorem ggX5_mend_X5_found : GoodIn wsX5_mend wsX5_found := goodIn_r _ [13, 14, 15, 32, 33, 34, 35, 36, 37] (by decide +kernel) (by decide +kernel)
set_option maxRecDepth 20000 in
theorem gX5_mend_X5_found : GoodIn wsX5_mend (wsV RX5 55 RX5 yX5_found wsX5_found) := goodIn_app (goodIn_of _ (by decide +kernel)) ggX5_mend_X5_found
set_option maxRecDepth 20000 in
theorem ggX5_mend_X1_hasMiddle : GoodIn wsX5_mend wsX1_hasMiddle := goodIn_r _ [20, 21, 8, 5, 9, 38, 39, 40, 41, 42, 43, 44, 45, 46, 47, 48, 49, 50, 51, 52, 53, 54] (by decide +kernel) (by decide +kernel)
set_option maxRecDepth 20000 in
theorem gX5_mend_X1_hasMiddle : GoodIn wsX5_mend (wsV RX5 145 RX1 yX1_hasMiddle wsX1_hasMiddle) := goodIn_app (goodIn_of _ (by decide +kernel)) ggX5_mend_X1_hasMiddle
set_option maxRecDepth 20000 in
theorem ggX5_mend_X1_reviveMiddle : GoodIn wsX5_mend wsX1_reviveMiddle := goodIn_r _ [25, 26, 27, 38, 39, 40, 41, 42, 43, 44, 45, 46, 47, 48, 49, 50, 51, 52, 53, 54] (by decide +kernel) (by decide +kernel)
set_option maxRecDepth 20000 in
theorem gX5_mend_X1_reviveMiddle : GoodIn wsX5_mend (wsV RX5 155 RX1 yX1_reviveMiddle wsX1_reviveMiddle) := goodIn_app (goodIn_of _ (by decide +kernel)) ggX5_mend_X1_reviveMiddle
set_option maxRecDepth 20000 in
theorem ggX5_mend_X5_fine : GoodIn wsX5_mend wsX5_fine := goodIn_r _ [31, 14, 32, 33, 34, 35, 36, 37] (by decide +kernel) (by decide +kernel)
set_option maxRecDepth 20000 in
theorem gX5_mend_X5_fine : GoodIn wsX5_mend (wsV RX5 62 RX5 yX5_fine wsX5_fine) := goodIn_app (goodIn_of _ (by decide +kernel)) ggX5_mend_X5_fine
theorem dX5_mend_0 : decode cX5_mend 0 = .ok (.iload_n 1, 1) := by decide +kernel
theorem dX5_mend_1 : decode cX5_mend 1 = .ok (.invokestatic 85, 3) := by decide +kernel
theorem dX5_mend_4 : decode cX5_mend 4 = .ok (.ifCond .ne 6, 3) := by decide +kernel
theorem dX5_mend_7 : decode cX5_mend 7 = .ok (.ldc 54, 2) := by decide +kernel
theorem dX5_mend_9 : decode cX5_mend 9 = .ok (.ireturn, 1) := by decide +kernel
theorem dX5_mend_10 : decode cX5_mend 10 = .ok (.aload_n 0, 1) := by decide +kernel
theorem dX5_mend_11 : decode cX5_mend 11 = .ok (.getfield 17, 3) := by decide +kernel
theorem dX5_mend_14 : decode cX5_mend 14 = .ok (.iload_n 1, 1) := by decide +kernel
theorem dX5_mend_15 : decode cX5_mend 15 = .ok (.aaload, 1) := by decide +kernel
theorem dX5_mend_16 : decode cX5_mend 16 = .ok (.astore_n 3, 1) := by decide +kernel
theorem dX5_mend_17 : decode cX5_mend 17 = .ok (.aload_n 3, 1) := by decide +kernel
theorem dX5_mend_18 : decode cX5_mend 18 = .ok (.ifnonnull 9, 3) := by decide +kernel
theorem dX5_mend_21 : decode cX5_mend 21 = .ok (.aload_n 0, 1) := by decide +kernel
theorem dX5_mend_22 : decode cX5_mend 22 = .ok (.iconst 1, 1) := by decide +kernel
theorem dX5_mend_23 : decode cX5_mend 23 = .ok (.invokevirtual 55, 3) := by decide +kernel
theorem dX5_mend_26 : decode cX5_mend 26 = .ok (.ireturn, 1) := by decide +kernel
theorem dX5_mend_27 : decode cX5_mend 27 = .ok (.aload_n 3, 1) := by decide +kernel
theorem dX5_mend_28 : decode cX5_mend 28 = .ok (.iload_n 2, 1) := by decide +kernel
theorem dX5_mend_29 : decode cX5_mend 29 = .ok (.invokevirtual 145, 3) := by decide +kernel
theorem dX5_mend_32 : decode cX5_mend 32 = .ok (.ifCond .ne 6, 3) := by decide +kernel
theorem dX5_mend_35 : decode cX5_mend 35 = .ok (.ldc 54, 2) := by decide +kernel
theorem dX5_mend_37 : decode cX5_mend 37 = .ok (.ireturn, 1) := by decide +kernel
theorem dX5_mend_38 : decode cX5_mend 38 = .ok (.aload_n 0, 1) := by decide +kernel
theorem dX5_mend_39 : decode cX5_mend 39 = .ok (.aload_n 3, 1) := by decide +kernel
theorem dX5_mend_40 : decode cX5_mend 40 = .ok (.iload_n 2, 1) := by decide +kernel
theorem dX5_mend_41 : decode cX5_mend 41 = .ok (.invokevirtual 155, 3) := by decide +kernel
theorem dX5_mend_44 : decode cX5_mend 44 = .ok (.ifCond .eq 7, 3) := by decide +kernel
theorem dX5_mend_47 : decode cX5_mend 47 = .ok (.iconst 1, 1) := by decide +kernel
theorem dX5_mend_48 : decode cX5_mend 48 = .ok (.goto 4, 3) := by decide +kernel
theorem dX5_mend_51 : decode cX5_mend 51 = .ok (.iconst 0, 1) := by decide +kernel
theorem dX5_mend_52 : decode cX5_mend 52 = .ok (.invokevirtual 62, 3) := by decide +kernel
theorem dX5_mend_55 : decode cX5_mend 55 = .ok (.ireturn, 1) := by decide +kernel
set_option maxRecDepth 20000 in
theorem ggX5_bit_X5_isSheet : GoodIn wsX5_bit wsX5_isSheet := goodIn_r _ [8, 9, 10, 7, 11] (by decide +kernel) (by decide +kernel)
set_option maxRecDepth 20000 in
theorem gX5_bit_X5_isSheet : GoodIn wsX5_bit (va_wsS RX5 46 yX5_isSheet wsX5_isSheet) := goodIn_app (goodIn_of _ (by decide +kernel)) ggX5_bit_X5_isSheet
set_option maxRecDepth 20000 in
theorem ggX5_bit_X5_within : GoodIn wsX5_bit wsX5_within := goodIn_r _ [11] (by decide +kernel) (by decide +kernel)
set_option maxRecDepth 20000 in
theorem gX5_bit_X5_within : GoodIn wsX5_bit (va_wsS RX5 50 yX5_within wsX5_within) := goodIn_app (goodIn_of _ (by decide +kernel)) ggX5_bit_X5_within
set_option maxRecDepth 20000 in
theorem ggX5_bit_X5_found : GoodIn wsX5_bit wsX5_found := goodIn_r _ [15, 16, 17, 57, 58, 59, 60, 61, 62] (by decide +kernel) (by decide +kernel)
set_option maxRecDepth 20000 in
theorem gX5_bit_X5_found : GoodIn wsX5_bit (wsV RX5 55 RX5 yX5_found wsX5_found) := goodIn_app (goodIn_of _ (by decide +kernel)) ggX5_bit_X5_found
set_option maxRecDepth 20000 in
theorem ggX5_bit_X4_holds : GoodIn wsX5_bit wsX4_holds := goodIn_r _ [22, 23, 67, 68] (by decide +kernel) (by decide +kernel)
set_option maxRecDepth 20000 in
theorem gX5_bit_X4_holds : GoodIn wsX5_bit (wsV RX5 65 RX4 yX4_holds wsX4_holds) := goodIn_app (goodIn_of _ (by decide +kernel)) ggX5_bit_X4_holds
set_option maxRecDepth 20000 in
theorem ggX5_bit_X3_takeOrder : GoodIn wsX5_bit wsX3_takeOrder := goodIn_r _ [28, 29, 30, 10, 7, 11, 67, 68, 63, 64, 65, 66] (by decide +kernel) (by decide +kernel)
set_option maxRecDepth 20000 in
theorem gX5_bit_X3_takeOrder : GoodIn wsX5_bit (wsV RX5 158 RX3 yX3_takeOrder wsX3_takeOrder) := goodIn_app (goodIn_of _ (by decide +kernel)) ggX5_bit_X3_takeOrder
set_option maxRecDepth 20000 in
theorem ggX5_bit_X3_setAllSwitches : GoodIn wsX5_bit wsX3_setAllSwitches := goodIn_r _ [34, 35, 30, 36, 37, 38, 27, 39, 40, 41, 42, 43, 44, 45, 46, 47, 48, 49, 50, 51, 52, 63, 64, 65, 66] (by decide +kernel) (by decide +kernel)
set_option maxRecDepth 20000 in
theorem gX5_bit_X3_setAllSwitches : GoodIn wsX5_bit (wsV RX5 162 RX3 yX3_setAllSwitches wsX3_setAllSwitches) := goodIn_app (goodIn_of _ (by decide +kernel)) ggX5_bit_X3_setAllSwitches
set_option maxRecDepth 20000 in
theorem ggX5_bit_X5_fine : GoodIn wsX5_bit wsX5_fine := goodIn_r _ [56, 16, 57, 58, 59, 60, 61, 62] (by decide +kernel) (by decide +kernel)
set_option maxRecDepth 20000 in
theorem gX5_bit_X5_fine : GoodIn wsX5_bit (wsV RX5 62 RX5 yX5_fine wsX5_fine) := goodIn_app (goodIn_of _ (by decide +kernel)) ggX5_bit_X5_fine
theorem dX5_bit_0 : decode cX5_bit 0 = .ok (.iload_n 2, 1) := by decide +kernel
theorem dX5_bit_1 : decode cX5_bit 1 = .ok (.invokestatic 46, 3) := by decide +kernel
theorem dX5_bit_4 : decode cX5_bit 4 = .ok (.ifCond .eq 42, 3) := by decide +kernel
theorem dX5_bit_7 : decode cX5_bit 7 = .ok (.iload_n 1, 1) := by decide +kernel
theorem dX5_bit_8 : decode cX5_bit 8 = .ok (.iconst 1, 1) := by decide +kernel
theorem dX5_bit_9 : decode cX5_bit 9 = .ok (.iconst 4, 1) := by decide +kernel
theorem dX5_bit_10 : decode cX5_bit 10 = .ok (.invokestatic 50, 3) := by decide +kernel
theorem dX5_bit_13 : decode cX5_bit 13 = .ok (.ifCond .eq 33, 3) := by decide +kernel
theorem dX5_bit_16 : decode cX5_bit 16 = .ok (.iload 4, 2) := by decide +kernel
theorem dX5_bit_18 : decode cX5_bit 18 = .ok (.iconst 0, 1) := by decide +kernel
theorem dX5_bit_19 : decode cX5_bit 19 = .ok (.iconst 2, 1) := by decide +kernel
theorem dX5_bit_20 : decode cX5_bit 20 = .ok (.iload_n 1, 1) := by decide +kernel
theorem dX5_bit_21 : decode cX5_bit 21 = .ok (.imul, 1) := by decide +kernel
theorem dX5_bit_22 : decode cX5_bit 22 = .ok (.iconst 2, 1) := by decide +kernel
theorem dX5_bit_23 : decode cX5_bit 23 = .ok (.isub, 1) := by decide +kernel
theorem dX5_bit_24 : decode cX5_bit 24 = .ok (.invokestatic 50, 3) := by decide +kernel
theorem dX5_bit_27 : decode cX5_bit 27 = .ok (.ifCond .eq 19, 3) := by decide +kernel
theorem dX5_bit_30 : decode cX5_bit 30 = .ok (.iload 5, 2) := by decide +kernel
theorem dX5_bit_32 : decode cX5_bit 32 = .ok (.iconst 0, 1) := by decide +kernel
theorem dX5_bit_33 : decode cX5_bit 33 = .ok (.iconst 1, 1) := by decide +kernel
theorem dX5_bit_34 : decode cX5_bit 34 = .ok (.iload_n 1, 1) := by decide +kernel
theorem dX5_bit_35 : decode cX5_bit 35 = .ok (.iconst 1, 1) := by decide +kernel
theorem dX5_bit_36 : decode cX5_bit 36 = .ok (.isub, 1) := by decide +kernel
theorem dX5_bit_37 : decode cX5_bit 37 = .ok (.ishl, 1) := by decide +kernel
theorem dX5_bit_38 : decode cX5_bit 38 = .ok (.iconst 1, 1) := by decide +kernel
theorem dX5_bit_39 : decode cX5_bit 39 = .ok (.isub, 1) := by decide +kernel
theorem dX5_bit_40 : decode cX5_bit 40 = .ok (.invokestatic 50, 3) := by decide +kernel
theorem dX5_bit_43 : decode cX5_bit 43 = .ok (.ifCond .ne 6, 3) := by decide +kernel
theorem dX5_bit_46 : decode cX5_bit 46 = .ok (.ldc 54, 2) := by decide +kernel
theorem dX5_bit_48 : decode cX5_bit 48 = .ok (.ireturn, 1) := by decide +kernel
theorem dX5_bit_49 : decode cX5_bit 49 = .ok (.aload_n 0, 1) := by decide +kernel
theorem dX5_bit_50 : decode cX5_bit 50 = .ok (.getfield 11, 3) := by decide +kernel
theorem dX5_bit_53 : decode cX5_bit 53 = .ok (.iload_n 2, 1) := by decide +kernel
theorem dX5_bit_54 : decode cX5_bit 54 = .ok (.aaload, 1) := by decide +kernel
theorem dX5_bit_55 : decode cX5_bit 55 = .ok (.astore 6, 2) := by decide +kernel
theorem dX5_bit_57 : decode cX5_bit 57 = .ok (.aload 6, 2) := by decide +kernel
theorem dX5_bit_59 : decode cX5_bit 59 = .ok (.ifnonnull 9, 3) := by decide +kernel
theorem dX5_bit_62 : decode cX5_bit 62 = .ok (.aload_n 0, 1) := by decide +kernel
theorem dX5_bit_63 : decode cX5_bit 63 = .ok (.iconst 1, 1) := by decide +kernel
theorem dX5_bit_64 : decode cX5_bit 64 = .ok (.invokevirtual 55, 3) := by decide +kernel
theorem dX5_bit_67 : decode cX5_bit 67 = .ok (.ireturn, 1) := by decide +kernel
theorem dX5_bit_68 : decode cX5_bit 68 = .ok (.aload 6, 2) := by decide +kernel
theorem dX5_bit_70 : decode cX5_bit 70 = .ok (.iload_n 3, 1) := by decide +kernel
theorem dX5_bit_71 : decode cX5_bit 71 = .ok (.iconst 1, 1) := by decide +kernel
theorem dX5_bit_72 : decode cX5_bit 72 = .ok (.iload_n 1, 1) := by decide +kernel
theorem dX5_bit_73 : decode cX5_bit 73 = .ok (.ishl, 1) := by decide +kernel
theorem dX5_bit_74 : decode cX5_bit 74 = .ok (.invokevirtual 65, 3) := by decide +kernel
theorem dX5_bit_77 : decode cX5_bit 77 = .ok (.ifCond .ne 9, 3) := by decide +kernel
theorem dX5_bit_80 : decode cX5_bit 80 = .ok (.aload_n 0, 1) := by decide +kernel
theorem dX5_bit_81 : decode cX5_bit 81 = .ok (.iconst 2, 1) := by decide +kernel
theorem dX5_bit_82 : decode cX5_bit 82 = .ok (.invokevirtual 55, 3) := by decide +kernel
theorem dX5_bit_85 : decode cX5_bit 85 = .ok (.ireturn, 1) := by decide +kernel
theorem dX5_bit_86 : decode cX5_bit 86 = .ok (.aload_n 0, 1) := by decide +kernel
theorem dX5_bit_87 : decode cX5_bit 87 = .ok (.getfield 31, 3) := by decide +kernel
theorem dX5_bit_90 : decode cX5_bit 90 = .ok (.aload 6, 2) := by decide +kernel
theorem dX5_bit_92 : decode cX5_bit 92 = .ok (.iload_n 3, 1) := by decide +kernel
theorem dX5_bit_93 : decode cX5_bit 93 = .ok (.iload_n 1, 1) := by decide +kernel
theorem dX5_bit_94 : decode cX5_bit 94 = .ok (.invokevirtual 158, 3) := by decide +kernel
theorem dX5_bit_97 : decode cX5_bit 97 = .ok (.ifCond .ne 6, 3) := by decide +kernel
theorem dX5_bit_100 : decode cX5_bit 100 = .ok (.ldc 54, 2) := by decide +kernel
theorem dX5_bit_102 : decode cX5_bit 102 = .ok (.ireturn, 1) := by decide +kernel
theorem dX5_bit_103 : decode cX5_bit 103 = .ok (.aload_n 0, 1) := by decide +kernel
theorem dX5_bit_104 : decode cX5_bit 104 = .ok (.getfield 31, 3) := by decide +kernel
theorem dX5_bit_107 : decode cX5_bit 107 = .ok (.iload_n 1, 1) := by decide +kernel
theorem dX5_bit_108 : decode cX5_bit 108 = .ok (.invokevirtual 162, 3) := by decide +kernel
theorem dX5_bit_111 : decode cX5_bit 111 = .ok (.aload_n 0, 1) := by decide +kernel
theorem dX5_bit_112 : decode cX5_bit 112 = .ok (.aload_n 0, 1) := by decide +kernel
theorem dX5_bit_113 : decode cX5_bit 113 = .ok (.getfield 31, 3) := by decide +kernel
theorem dX5_bit_116 : decode cX5_bit 116 = .ok (.getfield 165, 3) := by decide +kernel
theorem dX5_bit_119 : decode cX5_bit 119 = .ok (.iload 4, 2) := by decide +kernel
theorem dX5_bit_121 : decode cX5_bit 121 = .ok (.aaload, 1) := by decide +kernel
theorem dX5_bit_122 : decode cX5_bit 122 = .ok (.iload 5, 2) := by decide +kernel
theorem dX5_bit_124 : decode cX5_bit 124 = .ok (.iaload, 1) := by decide +kernel
theorem dX5_bit_125 : decode cX5_bit 125 = .ok (.invokevirtual 62, 3) := by decide +kernel
theorem dX5_bit_128 : decode cX5_bit 128 = .ok (.ireturn, 1) := by decide +kernel
set_option maxRecDepth 20000 in
theorem ggX5_goes_X5_isSheet : GoodIn wsX5_goes wsX5_isSheet := goodIn_r _ [7, 8, 9, 6, 10] (by decide +kernel) (by decide +kernel)
set_option maxRecDepth 20000 in
theorem gX5_goes_X5_isSheet : GoodIn wsX5_goes (va_wsS RX5 46 yX5_isSheet wsX5_isSheet) := goodIn_app (goodIn_of _ (by decide +kernel)) ggX5_goes_X5_isSheet
set_option maxRecDepth 20000 in
theorem ggX5_goes_X5_within : GoodIn wsX5_goes wsX5_within := goodIn_r _ [10] (by decide +kernel) (by decide +kernel)
set_option maxRecDepth 20000 in
theorem gX5_goes_X5_within : GoodIn wsX5_goes (va_wsS RX5 50 yX5_within wsX5_within) := goodIn_app (goodIn_of _ (by decide +kernel)) ggX5_goes_X5_within
set_option maxRecDepth 20000 in
theorem ggX5_goes_X5_found : GoodIn wsX5_goes wsX5_found := goodIn_r _ [14, 15, 16, 38, 39, 40, 41, 42, 43] (by decide +kernel) (by decide +kernel)
set_option maxRecDepth 20000 in
theorem gX5_goes_X5_found : GoodIn wsX5_goes (wsV RX5 55 RX5 yX5_found wsX5_found) := goodIn_app (goodIn_of _ (by decide +kernel)) ggX5_goes_X5_found
set_option maxRecDepth 20000 in
theorem ggX5_goes_X4_holds : GoodIn wsX5_goes wsX4_holds := goodIn_r _ [21, 22, 44, 45] (by decide +kernel) (by decide +kernel)
set_option maxRecDepth 20000 in
theorem gX5_goes_X4_holds : GoodIn wsX5_goes (wsV RX5 65 RX4 yX4_holds wsX4_holds) := goodIn_app (goodIn_of _ (by decide +kernel)) ggX5_goes_X4_holds
set_option maxRecDepth 20000 in
theorem ggX5_goes_X3_takeBits : GoodIn wsX5_goes wsX3_takeBits := goodIn_r _ [27, 28, 29, 46, 47, 48, 49, 44, 45] (by decide +kernel) (by decide +kernel)
set_option maxRecDepth 20000 in
theorem gX5_goes_X3_takeBits : GoodIn wsX5_goes (wsV RX5 169 RX3 yX3_takeBits wsX3_takeBits) := goodIn_app (goodIn_of _ (by decide +kernel)) ggX5_goes_X3_takeBits
set_option maxRecDepth 20000 in
theorem ggX5_goes_X3_follow : GoodIn wsX5_goes wsX3_follow := goodIn_r _ [33, 28, 46, 47, 48, 49] (by decide +kernel) (by decide +kernel)
set_option maxRecDepth 20000 in
theorem gX5_goes_X3_follow : GoodIn wsX5_goes (wsV RX5 173 RX3 yX3_follow wsX3_follow) := goodIn_app (goodIn_of _ (by decide +kernel)) ggX5_goes_X3_follow
set_option maxRecDepth 20000 in
theorem ggX5_goes_X5_fine : GoodIn wsX5_goes wsX5_fine := goodIn_r _ [37, 15, 38, 39, 40, 41, 42, 43] (by decide +kernel) (by decide +kernel)
set_option maxRecDepth 20000 in
theorem gX5_goes_X5_fine : GoodIn wsX5_goes (wsV RX5 62 RX5 yX5_fine wsX5_fine) := goodIn_app (goodIn_of _ (by decide +kernel)) ggX5_goes_X5_fine
theorem dX5_goes_0 : decode cX5_goes 0 = .ok (.iload_n 2, 1) := by decide +kernel
theorem dX5_goes_1 : decode cX5_goes 1 = .ok (.invokestatic 46, 3) := by decide +kernel
theorem dX5_goes_4 : decode cX5_goes 4 = .ok (.ifCond .eq 26, 3) := by decide +kernel
theorem dX5_goes_7 : decode cX5_goes 7 = .ok (.iload_n 1, 1) := by decide +kernel
theorem dX5_goes_8 : decode cX5_goes 8 = .ok (.iconst 1, 1) := by decide +kernel
theorem dX5_goes_9 : decode cX5_goes 9 = .ok (.iconst 4, 1) := by decide +kernel
theorem dX5_goes_10 : decode cX5_goes 10 = .ok (.invokestatic 50, 3) := by decide +kernel
theorem dX5_goes_13 : decode cX5_goes 13 = .ok (.ifCond .eq 17, 3) := by decide +kernel
theorem dX5_goes_16 : decode cX5_goes 16 = .ok (.iload 4, 2) := by decide +kernel
theorem dX5_goes_18 : decode cX5_goes 18 = .ok (.iconst 0, 1) := by decide +kernel
theorem dX5_goes_19 : decode cX5_goes 19 = .ok (.iconst 1, 1) := by decide +kernel
theorem dX5_goes_20 : decode cX5_goes 20 = .ok (.iload_n 1, 1) := by decide +kernel
theorem dX5_goes_21 : decode cX5_goes 21 = .ok (.ishl, 1) := by decide +kernel
theorem dX5_goes_22 : decode cX5_goes 22 = .ok (.iconst 1, 1) := by decide +kernel
theorem dX5_goes_23 : decode cX5_goes 23 = .ok (.isub, 1) := by decide +kernel
theorem dX5_goes_24 : decode cX5_goes 24 = .ok (.invokestatic 50, 3) := by decide +kernel
theorem dX5_goes_27 : decode cX5_goes 27 = .ok (.ifCond .ne 6, 3) := by decide +kernel
theorem dX5_goes_30 : decode cX5_goes 30 = .ok (.ldc 54, 2) := by decide +kernel
theorem dX5_goes_32 : decode cX5_goes 32 = .ok (.ireturn, 1) := by decide +kernel
theorem dX5_goes_33 : decode cX5_goes 33 = .ok (.aload_n 0, 1) := by decide +kernel
theorem dX5_goes_34 : decode cX5_goes 34 = .ok (.getfield 11, 3) := by decide +kernel
theorem dX5_goes_37 : decode cX5_goes 37 = .ok (.iload_n 2, 1) := by decide +kernel
theorem dX5_goes_38 : decode cX5_goes 38 = .ok (.aaload, 1) := by decide +kernel
theorem dX5_goes_39 : decode cX5_goes 39 = .ok (.astore 5, 2) := by decide +kernel
theorem dX5_goes_41 : decode cX5_goes 41 = .ok (.aload 5, 2) := by decide +kernel
theorem dX5_goes_43 : decode cX5_goes 43 = .ok (.ifnonnull 9, 3) := by decide +kernel
theorem dX5_goes_46 : decode cX5_goes 46 = .ok (.aload_n 0, 1) := by decide +kernel
theorem dX5_goes_47 : decode cX5_goes 47 = .ok (.iconst 1, 1) := by decide +kernel
theorem dX5_goes_48 : decode cX5_goes 48 = .ok (.invokevirtual 55, 3) := by decide +kernel
theorem dX5_goes_51 : decode cX5_goes 51 = .ok (.ireturn, 1) := by decide +kernel
theorem dX5_goes_52 : decode cX5_goes 52 = .ok (.aload 5, 2) := by decide +kernel
theorem dX5_goes_54 : decode cX5_goes 54 = .ok (.iload_n 3, 1) := by decide +kernel
theorem dX5_goes_55 : decode cX5_goes 55 = .ok (.iconst 2, 1) := by decide +kernel
theorem dX5_goes_56 : decode cX5_goes 56 = .ok (.iload_n 1, 1) := by decide +kernel
theorem dX5_goes_57 : decode cX5_goes 57 = .ok (.imul, 1) := by decide +kernel
theorem dX5_goes_58 : decode cX5_goes 58 = .ok (.iconst 1, 1) := by decide +kernel
theorem dX5_goes_59 : decode cX5_goes 59 = .ok (.isub, 1) := by decide +kernel
theorem dX5_goes_60 : decode cX5_goes 60 = .ok (.iload_n 1, 1) := by decide +kernel
theorem dX5_goes_61 : decode cX5_goes 61 = .ok (.iconst 1, 1) := by decide +kernel
theorem dX5_goes_62 : decode cX5_goes 62 = .ok (.isub, 1) := by decide +kernel
theorem dX5_goes_63 : decode cX5_goes 63 = .ok (.ishl, 1) := by decide +kernel
theorem dX5_goes_64 : decode cX5_goes 64 = .ok (.invokevirtual 65, 3) := by decide +kernel
theorem dX5_goes_67 : decode cX5_goes 67 = .ok (.ifCond .ne 9, 3) := by decide +kernel
theorem dX5_goes_70 : decode cX5_goes 70 = .ok (.aload_n 0, 1) := by decide +kernel
theorem dX5_goes_71 : decode cX5_goes 71 = .ok (.iconst 2, 1) := by decide +kernel
theorem dX5_goes_72 : decode cX5_goes 72 = .ok (.invokevirtual 55, 3) := by decide +kernel
theorem dX5_goes_75 : decode cX5_goes 75 = .ok (.ireturn, 1) := by decide +kernel
theorem dX5_goes_76 : decode cX5_goes 76 = .ok (.aload_n 0, 1) := by decide +kernel
theorem dX5_goes_77 : decode cX5_goes 77 = .ok (.getfield 31, 3) := by decide +kernel
theorem dX5_goes_80 : decode cX5_goes 80 = .ok (.aload 5, 2) := by decide +kernel
theorem dX5_goes_82 : decode cX5_goes 82 = .ok (.iload_n 3, 1) := by decide +kernel
theorem dX5_goes_83 : decode cX5_goes 83 = .ok (.iload_n 1, 1) := by decide +kernel
theorem dX5_goes_84 : decode cX5_goes 84 = .ok (.invokevirtual 169, 3) := by decide +kernel
theorem dX5_goes_87 : decode cX5_goes 87 = .ok (.aload_n 0, 1) := by decide +kernel
theorem dX5_goes_88 : decode cX5_goes 88 = .ok (.aload_n 0, 1) := by decide +kernel
theorem dX5_goes_89 : decode cX5_goes 89 = .ok (.getfield 31, 3) := by decide +kernel
theorem dX5_goes_92 : decode cX5_goes 92 = .ok (.iload_n 1, 1) := by decide +kernel
theorem dX5_goes_93 : decode cX5_goes 93 = .ok (.iload 4, 2) := by decide +kernel
theorem dX5_goes_95 : decode cX5_goes 95 = .ok (.invokevirtual 173, 3) := by decide +kernel
theorem dX5_goes_98 : decode cX5_goes 98 = .ok (.invokevirtual 62, 3) := by decide +kernel
theorem dX5_goes_101 : decode cX5_goes 101 = .ok (.ireturn, 1) := by decide +kernel
set_option maxRecDepth 20000 in
theorem ggX5_demand_X5_isSheet : GoodIn wsX5_demand wsX5_isSheet := goodIn_r _ [10, 11, 12, 9, 13] (by decide +kernel) (by decide +kernel)
set_option maxRecDepth 20000 in
theorem gX5_demand_X5_isSheet : GoodIn wsX5_demand (va_wsS RX5 46 yX5_isSheet wsX5_isSheet) := goodIn_app (goodIn_of _ (by decide +kernel)) ggX5_demand_X5_isSheet
set_option maxRecDepth 20000 in
theorem ggX5_demand_X5_within : GoodIn wsX5_demand wsX5_within := goodIn_r _ [13] (by decide +kernel) (by decide +kernel)
set_option maxRecDepth 20000 in
theorem gX5_demand_X5_within : GoodIn wsX5_demand (va_wsS RX5 50 yX5_within wsX5_within) := goodIn_app (goodIn_of _ (by decide +kernel)) ggX5_demand_X5_within
set_option maxRecDepth 20000 in
theorem ggX5_demand_X5_found : GoodIn wsX5_demand wsX5_found := goodIn_r _ [17, 18, 19, 63, 64, 65, 66, 67, 68] (by decide +kernel) (by decide +kernel)
set_option maxRecDepth 20000 in
theorem gX5_demand_X5_found : GoodIn wsX5_demand (wsV RX5 55 RX5 yX5_found wsX5_found) := goodIn_app (goodIn_of _ (by decide +kernel)) ggX5_demand_X5_found
set_option maxRecDepth 20000 in
theorem ggX5_demand_X4_holds : GoodIn wsX5_demand wsX4_holds := goodIn_r _ [24, 25, 73, 74] (by decide +kernel) (by decide +kernel)
set_option maxRecDepth 20000 in
theorem gX5_demand_X4_holds : GoodIn wsX5_demand (wsV RX5 65 RX4 yX4_holds wsX4_holds) := goodIn_app (goodIn_of _ (by decide +kernel)) ggX5_demand_X4_holds
set_option maxRecDepth 20000 in
theorem ggX5_demand_X2_takeTable : GoodIn wsX5_demand wsX2_takeTable := goodIn_r _ [30, 31, 32, 33, 12, 9, 13, 34, 35, 36, 29, 37, 38, 39, 40, 41, 69, 70, 71, 72, 73, 74] (by decide +kernel) (by decide +kernel)
set_option maxRecDepth 20000 in
theorem gX5_demand_X2_takeTable : GoodIn wsX5_demand (wsV RX5 176 RX2 yX2_takeTable wsX2_takeTable) := goodIn_app (goodIn_of _ (by decide +kernel)) ggX5_demand_X2_takeTable
set_option maxRecDepth 20000 in
theorem ggX5_demand_X2_takeUpTo : GoodIn wsX5_demand wsX2_takeUpTo := goodIn_r _ [45, 31, 33, 46, 47, 48, 29, 49, 50, 51, 52, 53, 54, 55, 56, 57, 58, 69, 70, 71, 72] (by decide +kernel) (by decide +kernel)
set_option maxRecDepth 20000 in
theorem gX5_demand_X2_takeUpTo : GoodIn wsX5_demand (wsV RX5 180 RX2 yX2_takeUpTo wsX2_takeUpTo) := goodIn_app (goodIn_of _ (by decide +kernel)) ggX5_demand_X2_takeUpTo
set_option maxRecDepth 20000 in
theorem ggX5_demand_X5_fine : GoodIn wsX5_demand wsX5_fine := goodIn_r _ [62, 18, 63, 64, 65, 66, 67, 68] (by decide +kernel) (by decide +kernel)
set_option maxRecDepth 20000 in
theorem gX5_demand_X5_fine : GoodIn wsX5_demand (wsV RX5 62 RX5 yX5_fine wsX5_fine) := goodIn_app (goodIn_of _ (by decide +kernel)) ggX5_demand_X5_fine
theorem dX5_demand_0 : decode cX5_demand 0 = .ok (.iload_n 1, 1) := by decide +kernel
theorem dX5_demand_1 : decode cX5_demand 1 = .ok (.invokestatic 46, 3) := by decide +kernel
theorem dX5_demand_4 : decode cX5_demand 4 = .ok (.ifCond .eq 25, 3) := by decide +kernel
theorem dX5_demand_7 : decode cX5_demand 7 = .ok (.iload_n 3, 1) := by decide +kernel
theorem dX5_demand_8 : decode cX5_demand 8 = .ok (.iconst 1, 1) := by decide +kernel
theorem dX5_demand_9 : decode cX5_demand 9 = .ok (.bipush 6, 2) := by decide +kernel
theorem dX5_demand_11 : decode cX5_demand 11 = .ok (.invokestatic 50, 3) := by decide +kernel
theorem dX5_demand_14 : decode cX5_demand 14 = .ok (.ifCond .eq 15, 3) := by decide +kernel
theorem dX5_demand_17 : decode cX5_demand 17 = .ok (.iload 5, 2) := by decide +kernel
theorem dX5_demand_19 : decode cX5_demand 19 = .ok (.iconst (-1), 1) := by decide +kernel
theorem dX5_demand_20 : decode cX5_demand 20 = .ok (.iload_n 3, 1) := by decide +kernel
theorem dX5_demand_21 : decode cX5_demand 21 = .ok (.iconst 1, 1) := by decide +kernel
theorem dX5_demand_22 : decode cX5_demand 22 = .ok (.isub, 1) := by decide +kernel
theorem dX5_demand_23 : decode cX5_demand 23 = .ok (.invokestatic 50, 3) := by decide +kernel
theorem dX5_demand_26 : decode cX5_demand 26 = .ok (.ifCond .ne 6, 3) := by decide +kernel
theorem dX5_demand_29 : decode cX5_demand 29 = .ok (.ldc 54, 2) := by decide +kernel
theorem dX5_demand_31 : decode cX5_demand 31 = .ok (.ireturn, 1) := by decide +kernel
theorem dX5_demand_32 : decode cX5_demand 32 = .ok (.aload_n 0, 1) := by decide +kernel
theorem dX5_demand_33 : decode cX5_demand 33 = .ok (.getfield 11, 3) := by decide +kernel
theorem dX5_demand_36 : decode cX5_demand 36 = .ok (.iload_n 1, 1) := by decide +kernel
theorem dX5_demand_37 : decode cX5_demand 37 = .ok (.aaload, 1) := by decide +kernel
theorem dX5_demand_38 : decode cX5_demand 38 = .ok (.astore 6, 2) := by decide +kernel
theorem dX5_demand_40 : decode cX5_demand 40 = .ok (.aload 6, 2) := by decide +kernel
theorem dX5_demand_42 : decode cX5_demand 42 = .ok (.ifnonnull 9, 3) := by decide +kernel
theorem dX5_demand_45 : decode cX5_demand 45 = .ok (.aload_n 0, 1) := by decide +kernel
theorem dX5_demand_46 : decode cX5_demand 46 = .ok (.iconst 1, 1) := by decide +kernel
theorem dX5_demand_47 : decode cX5_demand 47 = .ok (.invokevirtual 55, 3) := by decide +kernel
theorem dX5_demand_50 : decode cX5_demand 50 = .ok (.ireturn, 1) := by decide +kernel
theorem dX5_demand_51 : decode cX5_demand 51 = .ok (.aload 6, 2) := by decide +kernel
theorem dX5_demand_53 : decode cX5_demand 53 = .ok (.iload_n 2, 1) := by decide +kernel
theorem dX5_demand_54 : decode cX5_demand 54 = .ok (.iload_n 3, 1) := by decide +kernel
theorem dX5_demand_55 : decode cX5_demand 55 = .ok (.iload_n 3, 1) := by decide +kernel
theorem dX5_demand_56 : decode cX5_demand 56 = .ok (.imul, 1) := by decide +kernel
theorem dX5_demand_57 : decode cX5_demand 57 = .ok (.invokevirtual 65, 3) := by decide +kernel
theorem dX5_demand_60 : decode cX5_demand 60 = .ok (.ifCond .ne 9, 3) := by decide +kernel
theorem dX5_demand_63 : decode cX5_demand 63 = .ok (.aload_n 0, 1) := by decide +kernel
theorem dX5_demand_64 : decode cX5_demand 64 = .ok (.iconst 2, 1) := by decide +kernel
theorem dX5_demand_65 : decode cX5_demand 65 = .ok (.invokevirtual 55, 3) := by decide +kernel
theorem dX5_demand_68 : decode cX5_demand 68 = .ok (.ireturn, 1) := by decide +kernel
theorem dX5_demand_69 : decode cX5_demand 69 = .ok (.aload_n 0, 1) := by decide +kernel
theorem dX5_demand_70 : decode cX5_demand 70 = .ok (.getfield 38, 3) := by decide +kernel
theorem dX5_demand_73 : decode cX5_demand 73 = .ok (.aload 6, 2) := by decide +kernel
theorem dX5_demand_75 : decode cX5_demand 75 = .ok (.iload_n 2, 1) := by decide +kernel
theorem dX5_demand_76 : decode cX5_demand 76 = .ok (.iload_n 3, 1) := by decide +kernel
theorem dX5_demand_77 : decode cX5_demand 77 = .ok (.invokevirtual 176, 3) := by decide +kernel
theorem dX5_demand_80 : decode cX5_demand 80 = .ok (.ifCond .ne 6, 3) := by decide +kernel
theorem dX5_demand_83 : decode cX5_demand 83 = .ok (.ldc 54, 2) := by decide +kernel
theorem dX5_demand_85 : decode cX5_demand 85 = .ok (.ireturn, 1) := by decide +kernel
theorem dX5_demand_86 : decode cX5_demand 86 = .ok (.iload 4, 2) := by decide +kernel
theorem dX5_demand_88 : decode cX5_demand 88 = .ok (.ldc 179, 2) := by decide +kernel
theorem dX5_demand_90 : decode cX5_demand 90 = .ok (.if_icmp .ne 17, 3) := by decide +kernel
theorem dX5_demand_93 : decode cX5_demand 93 = .ok (.aload_n 0, 1) := by decide +kernel
theorem dX5_demand_94 : decode cX5_demand 94 = .ok (.aload_n 0, 1) := by decide +kernel
theorem dX5_demand_95 : decode cX5_demand 95 = .ok (.getfield 38, 3) := by decide +kernel
theorem dX5_demand_98 : decode cX5_demand 98 = .ok (.bipush 36, 2) := by decide +kernel
theorem dX5_demand_100 : decode cX5_demand 100 = .ok (.invokevirtual 180, 3) := by decide +kernel
theorem dX5_demand_103 : decode cX5_demand 103 = .ok (.invokevirtual 62, 3) := by decide +kernel
theorem dX5_demand_106 : decode cX5_demand 106 = .ok (.ireturn, 1) := by decide +kernel
theorem dX5_demand_107 : decode cX5_demand 107 = .ok (.iload 4, 2) := by decide +kernel
theorem dX5_demand_109 : decode cX5_demand 109 = .ok (.iconst 0, 1) := by decide +kernel
theorem dX5_demand_110 : decode cX5_demand 110 = .ok (.bipush 35, 2) := by decide +kernel
theorem dX5_demand_112 : decode cX5_demand 112 = .ok (.invokestatic 50, 3) := by decide +kernel
theorem dX5_demand_115 : decode cX5_demand 115 = .ok (.ifCond .eq 19, 3) := by decide +kernel
theorem dX5_demand_118 : decode cX5_demand 118 = .ok (.aload_n 0, 1) := by decide +kernel
theorem dX5_demand_119 : decode cX5_demand 119 = .ok (.getfield 38, 3) := by decide +kernel
theorem dX5_demand_122 : decode cX5_demand 122 = .ok (.iload 4, 2) := by decide +kernel
theorem dX5_demand_124 : decode cX5_demand 124 = .ok (.iconst 1, 1) := by decide +kernel
theorem dX5_demand_125 : decode cX5_demand 125 = .ok (.iadd, 1) := by decide +kernel
theorem dX5_demand_126 : decode cX5_demand 126 = .ok (.invokevirtual 180, 3) := by decide +kernel
theorem dX5_demand_129 : decode cX5_demand 129 = .ok (.iload 4, 2) := by decide +kernel
theorem dX5_demand_131 : decode cX5_demand 131 = .ok (.if_icmp .gt 10, 3) := by decide +kernel
theorem dX5_demand_134 : decode cX5_demand 134 = .ok (.aload_n 0, 1) := by decide +kernel
theorem dX5_demand_135 : decode cX5_demand 135 = .ok (.ldc 179, 2) := by decide +kernel
theorem dX5_demand_137 : decode cX5_demand 137 = .ok (.invokevirtual 62, 3) := by decide +kernel
theorem dX5_demand_140 : decode cX5_demand 140 = .ok (.ireturn, 1) := by decide +kernel
end
section
theorem dX5_demand_141 : decode cX5_demand 141 = .ok (.aload_n 0, 1) := by decide +kernel
theorem dX5_demand_142 : decode cX5_demand 142 = .ok (.iload 5, 2) := by decide +kernel
theorem dX5_demand_144 : decode cX5_demand 144 = .ok (.iconst (-1), 1) := by decide +kernel
theorem dX5_demand_145 : decode cX5_demand 145 = .ok (.if_icmp .ne 13, 3) := by decide +kernel
theorem dX5_demand_148 : decode cX5_demand 148 = .ok (.aload_n 0, 1) := by decide +kernel
theorem dX5_demand_149 : decode cX5_demand 149 = .ok (.getfield 38, 3) := by decide +kernel
theorem dX5_demand_152 : decode cX5_demand 152 = .ok (.getfield 183, 3) := by decide +kernel
theorem dX5_demand_155 : decode cX5_demand 155 = .ok (.goto 13, 3) := by decide +kernel
theorem dX5_demand_158 : decode cX5_demand 158 = .ok (.aload_n 0, 1) := by decide +kernel
theorem dX5_demand_159 : decode cX5_demand 159 = .ok (.getfield 38, 3) := by decide +kernel
theorem dX5_demand_162 : decode cX5_demand 162 = .ok (.getfield 186, 3) := by decide +kernel
theorem dX5_demand_165 : decode cX5_demand 165 = .ok (.iload 5, 2) := by decide +kernel
theorem dX5_demand_167 : decode cX5_demand 167 = .ok (.iaload, 1) := by decide +kernel
theorem dX5_demand_168 : decode cX5_demand 168 = .ok (.invokevirtual 62, 3) := by decide +kernel
theorem dX5_demand_171 : decode cX5_demand 171 = .ok (.ireturn, 1) := by decide +kernel
set_option maxRecDepth 20000 in
theorem ggX5_cross_X5_within : GoodIn wsX5_cross wsX5_within := goodIn_r _ [5] (by decide +kernel) (by decide +kernel)
set_option maxRecDepth 20000 in
theorem gX5_cross_X5_within : GoodIn wsX5_cross (va_wsS RX5 50 yX5_within wsX5_within) := goodIn_app (goodIn_of _ (by decide +kernel)) ggX5_cross_X5_within
set_option maxRecDepth 20000 in
theorem ggX5_cross_X5_crosspoints : GoodIn wsX5_cross wsX5_crosspoints := goodIn_r _ [8, 9, 10, 11, 12, 6, 7, 4] (by decide +kernel) (by decide +kernel)
set_option maxRecDepth 20000 in
theorem gX5_cross_X5_crosspoints : GoodIn wsX5_cross (va_wsS RX5 189 yX5_crosspoints wsX5_crosspoints) := goodIn_app (goodIn_of _ (by decide +kernel)) ggX5_cross_X5_crosspoints
theorem dX5_cross_0 : decode cX5_cross 0 = .ok (.iload_n 1, 1) := by decide +kernel
theorem dX5_cross_1 : decode cX5_cross 1 = .ok (.iconst 1, 1) := by decide +kernel
theorem dX5_cross_2 : decode cX5_cross 2 = .ok (.bipush 64, 2) := by decide +kernel
theorem dX5_cross_4 : decode cX5_cross 4 = .ok (.invokestatic 50, 3) := by decide +kernel
theorem dX5_cross_7 : decode cX5_cross 7 = .ok (.ifCond .eq 21, 3) := by decide +kernel
theorem dX5_cross_10 : decode cX5_cross 10 = .ok (.iload_n 2, 1) := by decide +kernel
theorem dX5_cross_11 : decode cX5_cross 11 = .ok (.iconst 0, 1) := by decide +kernel
theorem dX5_cross_12 : decode cX5_cross 12 = .ok (.iconst 2, 1) := by decide +kernel
theorem dX5_cross_13 : decode cX5_cross 13 = .ok (.invokestatic 50, 3) := by decide +kernel
theorem dX5_cross_16 : decode cX5_cross 16 = .ok (.ifCond .eq 12, 3) := by decide +kernel
theorem dX5_cross_19 : decode cX5_cross 19 = .ok (.iload_n 3, 1) := by decide +kernel
theorem dX5_cross_20 : decode cX5_cross 20 = .ok (.iconst 0, 1) := by decide +kernel
theorem dX5_cross_21 : decode cX5_cross 21 = .ok (.iconst 1, 1) := by decide +kernel
theorem dX5_cross_22 : decode cX5_cross 22 = .ok (.invokestatic 50, 3) := by decide +kernel
theorem dX5_cross_25 : decode cX5_cross 25 = .ok (.ifCond .ne 6, 3) := by decide +kernel
theorem dX5_cross_28 : decode cX5_cross 28 = .ok (.ldc 54, 2) := by decide +kernel
theorem dX5_cross_30 : decode cX5_cross 30 = .ok (.ireturn, 1) := by decide +kernel
theorem dX5_cross_31 : decode cX5_cross 31 = .ok (.iload_n 1, 1) := by decide +kernel
theorem dX5_cross_32 : decode cX5_cross 32 = .ok (.iload_n 2, 1) := by decide +kernel
theorem dX5_cross_33 : decode cX5_cross 33 = .ok (.iload_n 3, 1) := by decide +kernel
theorem dX5_cross_34 : decode cX5_cross 34 = .ok (.invokestatic 189, 3) := by decide +kernel
theorem dX5_cross_37 : decode cX5_cross 37 = .ok (.ireturn, 1) := by decide +kernel
set_option maxRecDepth 20000 in
theorem ggX5_shut_X5_within : GoodIn wsX5_shut wsX5_within := goodIn_r _ [5] (by decide +kernel) (by decide +kernel)
set_option maxRecDepth 20000 in
theorem gX5_shut_X5_within : GoodIn wsX5_shut (va_wsS RX5 50 yX5_within wsX5_within) := goodIn_app (goodIn_of _ (by decide +kernel)) ggX5_shut_X5_within
theorem dX5_shut_0 : decode cX5_shut 0 = .ok (.iload_n 1, 1) := by decide +kernel
theorem dX5_shut_1 : decode cX5_shut 1 = .ok (.iconst 1, 1) := by decide +kernel
theorem dX5_shut_2 : decode cX5_shut 2 = .ok (.bipush 9, 2) := by decide +kernel
theorem dX5_shut_4 : decode cX5_shut 4 = .ok (.invokestatic 50, 3) := by decide +kernel
theorem dX5_shut_7 : decode cX5_shut 7 = .ok (.ifCond .eq 13, 3) := by decide +kernel
theorem dX5_shut_10 : decode cX5_shut 10 = .ok (.iload_n 2, 1) := by decide +kernel
theorem dX5_shut_11 : decode cX5_shut 11 = .ok (.iconst 0, 1) := by decide +kernel
theorem dX5_shut_12 : decode cX5_shut 12 = .ok (.bipush 10, 2) := by decide +kernel
theorem dX5_shut_14 : decode cX5_shut 14 = .ok (.invokestatic 50, 3) := by decide +kernel
theorem dX5_shut_17 : decode cX5_shut 17 = .ok (.ifCond .ne 7, 3) := by decide +kernel
theorem dX5_shut_20 : decode cX5_shut 20 = .ok (.ldc2_w 193, 3) := by decide +kernel
theorem dX5_shut_23 : decode cX5_shut 23 = .ok (.lreturn, 1) := by decide +kernel
theorem dX5_shut_24 : decode cX5_shut 24 = .ok (.bipush 100, 2) := by decide +kernel
theorem dX5_shut_26 : decode cX5_shut 26 = .ok (.bipush 10, 2) := by decide +kernel
theorem dX5_shut_28 : decode cX5_shut 28 = .ok (.iload_n 2, 1) := by decide +kernel
theorem dX5_shut_29 : decode cX5_shut 29 = .ok (.isub, 1) := by decide +kernel
theorem dX5_shut_30 : decode cX5_shut 30 = .ok (.bipush 10, 2) := by decide +kernel
theorem dX5_shut_32 : decode cX5_shut 32 = .ok (.iload_n 2, 1) := by decide +kernel
theorem dX5_shut_33 : decode cX5_shut 33 = .ok (.isub, 1) := by decide +kernel
theorem dX5_shut_34 : decode cX5_shut 34 = .ok (.imul, 1) := by decide +kernel
theorem dX5_shut_35 : decode cX5_shut 35 = .ok (.isub, 1) := by decide +kernel
theorem dX5_shut_36 : decode cX5_shut 36 = .ok (.i2l, 1) := by decide +kernel
theorem dX5_shut_37 : decode cX5_shut 37 = .ok (.lstore_n 3, 1) := by decide +kernel
theorem dX5_shut_38 : decode cX5_shut 38 = .ok (.lconst 1, 1) := by decide +kernel
theorem dX5_shut_39 : decode cX5_shut 39 = .ok (.lstore 5, 2) := by decide +kernel
theorem dX5_shut_41 : decode cX5_shut 41 = .ok (.iconst 0, 1) := by decide +kernel
theorem dX5_shut_42 : decode cX5_shut 42 = .ok (.istore 7, 2) := by decide +kernel
theorem dX5_shut_44 : decode cX5_shut 44 = .ok (.iload 7, 2) := by decide +kernel
theorem dX5_shut_46 : decode cX5_shut 46 = .ok (.iload_n 1, 1) := by decide +kernel
theorem dX5_shut_47 : decode cX5_shut 47 = .ok (.if_icmp .ge 15, 3) := by decide +kernel
theorem dX5_shut_50 : decode cX5_shut 50 = .ok (.lload 5, 2) := by decide +kernel
theorem dX5_shut_52 : decode cX5_shut 52 = .ok (.lload_n 3, 1) := by decide +kernel
theorem dX5_shut_53 : decode cX5_shut 53 = .ok (.lmul, 1) := by decide +kernel
theorem dX5_shut_54 : decode cX5_shut 54 = .ok (.lstore 5, 2) := by decide +kernel
theorem dX5_shut_56 : decode cX5_shut 56 = .ok (.iinc 7 1, 3) := by decide +kernel
theorem dX5_shut_59 : decode cX5_shut 59 = .ok (.goto (-15), 3) := by decide +kernel
theorem dX5_shut_62 : decode cX5_shut 62 = .ok (.lload 5, 2) := by decide +kernel
theorem dX5_shut_64 : decode cX5_shut 64 = .ok (.lreturn, 1) := by decide +kernel
set_option maxRecDepth 20000 in
theorem ggX5_count_X5_countSheets : GoodIn wsX5_count wsX5_countSheets := goodIn_r _ [6, 7, 28, 29, 30, 31, 32, 33] (by decide +kernel) (by decide +kernel)
set_option maxRecDepth 20000 in
theorem gX5_count_X5_countSheets : GoodIn wsX5_count (wsV RX5 195 RX5 yX5_countSheets wsX5_countSheets) := goodIn_app (goodIn_of _ (by decide +kernel)) ggX5_count_X5_countSheets
set_option maxRecDepth 20000 in
theorem ggX5_count_X5_countNets : GoodIn wsX5_count wsX5_countNets := goodIn_r _ [11, 12, 13, 14, 15, 16, 17, 18, 19, 20, 21, 5, 22, 28, 29, 30, 31, 32, 33, 34, 35, 36, 37, 38, 39, 40, 41, 42, 43, 44, 45, 46, 47, 48, 49, 50] (by decide +kernel) (by decide +kernel)
set_option maxRecDepth 20000 in
theorem gX5_count_X5_countNets : GoodIn wsX5_count (wsV RX5 198 RX5 yX5_countNets wsX5_countNets) := goodIn_app (goodIn_of _ (by decide +kernel)) ggX5_count_X5_countNets
set_option maxRecDepth 20000 in
theorem ggX5_count_X5_countCalls : GoodIn wsX5_count wsX5_countCalls := goodIn_r _ [26, 12, 27, 28, 29, 30, 31, 32, 33, 34, 35, 36, 37, 38, 39, 40, 41, 42, 43, 44, 45, 46, 47, 48, 49, 50] (by decide +kernel) (by decide +kernel)
set_option maxRecDepth 20000 in
theorem gX5_count_X5_countCalls : GoodIn wsX5_count (wsV RX5 201 RX5 yX5_countCalls wsX5_countCalls) := goodIn_app (goodIn_of _ (by decide +kernel)) ggX5_count_X5_countCalls
theorem dX5_count_0 : decode cX5_count 0 = .ok (.iload_n 1, 1) := by decide +kernel
theorem dX5_count_1 : decode cX5_count 1 = .ok (.tableswitch 73 0 5 #[39, 44, 50, 56, 62, 68], 39) := by decide +kernel
theorem dX5_count_40 : decode cX5_count 40 = .ok (.aload_n 0, 1) := by decide +kernel
theorem dX5_count_41 : decode cX5_count 41 = .ok (.invokevirtual 195, 3) := by decide +kernel
theorem dX5_count_44 : decode cX5_count 44 = .ok (.ireturn, 1) := by decide +kernel
theorem dX5_count_45 : decode cX5_count 45 = .ok (.aload_n 0, 1) := by decide +kernel
theorem dX5_count_46 : decode cX5_count 46 = .ok (.iconst 0, 1) := by decide +kernel
theorem dX5_count_47 : decode cX5_count 47 = .ok (.invokevirtual 198, 3) := by decide +kernel
theorem dX5_count_50 : decode cX5_count 50 = .ok (.ireturn, 1) := by decide +kernel
theorem dX5_count_51 : decode cX5_count 51 = .ok (.aload_n 0, 1) := by decide +kernel
theorem dX5_count_52 : decode cX5_count 52 = .ok (.iconst 1, 1) := by decide +kernel
theorem dX5_count_53 : decode cX5_count 53 = .ok (.invokevirtual 198, 3) := by decide +kernel
theorem dX5_count_56 : decode cX5_count 56 = .ok (.ireturn, 1) := by decide +kernel
theorem dX5_count_57 : decode cX5_count 57 = .ok (.aload_n 0, 1) := by decide +kernel
theorem dX5_count_58 : decode cX5_count 58 = .ok (.iconst 2, 1) := by decide +kernel
theorem dX5_count_59 : decode cX5_count 59 = .ok (.invokevirtual 198, 3) := by decide +kernel
theorem dX5_count_62 : decode cX5_count 62 = .ok (.ireturn, 1) := by decide +kernel
theorem dX5_count_63 : decode cX5_count 63 = .ok (.aload_n 0, 1) := by decide +kernel
theorem dX5_count_64 : decode cX5_count 64 = .ok (.iconst 3, 1) := by decide +kernel
theorem dX5_count_65 : decode cX5_count 65 = .ok (.invokevirtual 198, 3) := by decide +kernel
theorem dX5_count_68 : decode cX5_count 68 = .ok (.ireturn, 1) := by decide +kernel
theorem dX5_count_69 : decode cX5_count 69 = .ok (.aload_n 0, 1) := by decide +kernel
theorem dX5_count_70 : decode cX5_count 70 = .ok (.invokevirtual 201, 3) := by decide +kernel
theorem dX5_count_73 : decode cX5_count 73 = .ok (.ireturn, 1) := by decide +kernel
theorem dX5_count_74 : decode cX5_count 74 = .ok (.ldc 54, 2) := by decide +kernel
theorem dX5_count_76 : decode cX5_count 76 = .ok (.ireturn, 1) := by decide +kernel
theorem dX5_status_0 : decode cX5_status 0 = .ok (.aload_n 0, 1) := by decide +kernel
theorem dX5_status_1 : decode cX5_status 1 = .ok (.getfield 42, 3) := by decide +kernel
theorem dX5_status_4 : decode cX5_status 4 = .ok (.ireturn, 1) := by decide +kernel
theorem dX5_found_0 : decode cX5_found 0 = .ok (.aload_n 0, 1) := by decide +kernel
theorem dX5_found_1 : decode cX5_found 1 = .ok (.iload_n 1, 1) := by decide +kernel
theorem dX5_found_2 : decode cX5_found 2 = .ok (.putfield 42, 3) := by decide +kernel
theorem dX5_found_5 : decode cX5_found 5 = .ok (.ldc 204, 2) := by decide +kernel
theorem dX5_found_7 : decode cX5_found 7 = .ok (.iload_n 1, 1) := by decide +kernel
theorem dX5_found_8 : decode cX5_found 8 = .ok (.isub, 1) := by decide +kernel
theorem dX5_found_9 : decode cX5_found 9 = .ok (.ireturn, 1) := by decide +kernel
theorem dX5_fine_0 : decode cX5_fine 0 = .ok (.aload_n 0, 1) := by decide +kernel
theorem dX5_fine_1 : decode cX5_fine 1 = .ok (.iconst 0, 1) := by decide +kernel
theorem dX5_fine_2 : decode cX5_fine 2 = .ok (.putfield 42, 3) := by decide +kernel
theorem dX5_fine_5 : decode cX5_fine 5 = .ok (.iload_n 1, 1) := by decide +kernel
theorem dX5_fine_6 : decode cX5_fine 6 = .ok (.ireturn, 1) := by decide +kernel
theorem dX5_countSheets_0 : decode cX5_countSheets 0 = .ok (.iconst 0, 1) := by decide +kernel
theorem dX5_countSheets_1 : decode cX5_countSheets 1 = .ok (.istore_n 1, 1) := by decide +kernel
theorem dX5_countSheets_2 : decode cX5_countSheets 2 = .ok (.iconst 0, 1) := by decide +kernel
theorem dX5_countSheets_3 : decode cX5_countSheets 3 = .ok (.istore_n 2, 1) := by decide +kernel
theorem dX5_countSheets_4 : decode cX5_countSheets 4 = .ok (.iload_n 2, 1) := by decide +kernel
theorem dX5_countSheets_5 : decode cX5_countSheets 5 = .ok (.bipush 8, 2) := by decide +kernel
theorem dX5_countSheets_7 : decode cX5_countSheets 7 = .ok (.if_icmp .ge 21, 3) := by decide +kernel
theorem dX5_countSheets_10 : decode cX5_countSheets 10 = .ok (.aload_n 0, 1) := by decide +kernel
theorem dX5_countSheets_11 : decode cX5_countSheets 11 = .ok (.getfield 11, 3) := by decide +kernel
theorem dX5_countSheets_14 : decode cX5_countSheets 14 = .ok (.iload_n 2, 1) := by decide +kernel
theorem dX5_countSheets_15 : decode cX5_countSheets 15 = .ok (.aaload, 1) := by decide +kernel
theorem dX5_countSheets_16 : decode cX5_countSheets 16 = .ok (.ifnull 6, 3) := by decide +kernel
theorem dX5_countSheets_19 : decode cX5_countSheets 19 = .ok (.iinc 1 1, 3) := by decide +kernel
theorem dX5_countSheets_22 : decode cX5_countSheets 22 = .ok (.iinc 2 1, 3) := by decide +kernel
theorem dX5_countSheets_25 : decode cX5_countSheets 25 = .ok (.goto (-21), 3) := by decide +kernel
theorem dX5_countSheets_28 : decode cX5_countSheets 28 = .ok (.iload_n 1, 1) := by decide +kernel
theorem dX5_countSheets_29 : decode cX5_countSheets 29 = .ok (.ireturn, 1) := by decide +kernel
set_option maxRecDepth 20000 in
theorem ggX5_countNets_X1_toldKind : GoodIn wsX5_countNets wsX1_toldKind := goodIn_r _ [6, 7, 8, 19, 20, 21, 22, 23, 24, 25, 26, 27, 28, 29, 30, 31, 32, 33, 34, 35] (by decide +kernel) (by decide +kernel)
set_option maxRecDepth 20000 in
theorem gX5_countNets_X1_toldKind : GoodIn wsX5_countNets (wsV RX5 91 RX1 yX1_toldKind wsX1_toldKind) := goodIn_app (goodIn_of _ (by decide +kernel)) ggX5_countNets_X1_toldKind
set_option maxRecDepth 20000 in
theorem ggX5_countNets_X5_countsAs : GoodIn wsX5_countNets wsX5_countsAs := goodIn_r _ [12] (by decide +kernel) (by decide +kernel)
set_option maxRecDepth 20000 in
theorem gX5_countNets_X5_countsAs : GoodIn wsX5_countNets (va_wsS RX5 98 yX5_countsAs wsX5_countsAs) := goodIn_app (goodIn_of _ (by decide +kernel)) ggX5_countNets_X5_countsAs
theorem dX5_countNets_0 : decode cX5_countNets 0 = .ok (.iconst 0, 1) := by decide +kernel
theorem dX5_countNets_1 : decode cX5_countNets 1 = .ok (.istore_n 2, 1) := by decide +kernel
theorem dX5_countNets_2 : decode cX5_countNets 2 = .ok (.iconst 0, 1) := by decide +kernel
theorem dX5_countNets_3 : decode cX5_countNets 3 = .ok (.istore_n 3, 1) := by decide +kernel
theorem dX5_countNets_4 : decode cX5_countNets 4 = .ok (.iload_n 3, 1) := by decide +kernel
theorem dX5_countNets_5 : decode cX5_countNets 5 = .ok (.bipush 6, 2) := by decide +kernel
theorem dX5_countNets_7 : decode cX5_countNets 7 = .ok (.if_icmp .ge 37, 3) := by decide +kernel
theorem dX5_countNets_10 : decode cX5_countNets 10 = .ok (.aload_n 0, 1) := by decide +kernel
theorem dX5_countNets_11 : decode cX5_countNets 11 = .ok (.getfield 17, 3) := by decide +kernel
theorem dX5_countNets_14 : decode cX5_countNets 14 = .ok (.iload_n 3, 1) := by decide +kernel
theorem dX5_countNets_15 : decode cX5_countNets 15 = .ok (.aaload, 1) := by decide +kernel
theorem dX5_countNets_16 : decode cX5_countNets 16 = .ok (.astore 4, 2) := by decide +kernel
theorem dX5_countNets_18 : decode cX5_countNets 18 = .ok (.aload 4, 2) := by decide +kernel
theorem dX5_countNets_20 : decode cX5_countNets 20 = .ok (.ifnull 18, 3) := by decide +kernel
theorem dX5_countNets_23 : decode cX5_countNets 23 = .ok (.aload 4, 2) := by decide +kernel
theorem dX5_countNets_25 : decode cX5_countNets 25 = .ok (.invokevirtual 91, 3) := by decide +kernel
theorem dX5_countNets_28 : decode cX5_countNets 28 = .ok (.iload_n 1, 1) := by decide +kernel
theorem dX5_countNets_29 : decode cX5_countNets 29 = .ok (.invokestatic 98, 3) := by decide +kernel
theorem dX5_countNets_32 : decode cX5_countNets 32 = .ok (.ifCond .eq 6, 3) := by decide +kernel
theorem dX5_countNets_35 : decode cX5_countNets 35 = .ok (.iinc 2 1, 3) := by decide +kernel
theorem dX5_countNets_38 : decode cX5_countNets 38 = .ok (.iinc 3 1, 3) := by decide +kernel
theorem dX5_countNets_41 : decode cX5_countNets 41 = .ok (.goto (-37), 3) := by decide +kernel
theorem dX5_countNets_44 : decode cX5_countNets 44 = .ok (.iload_n 2, 1) := by decide +kernel
theorem dX5_countNets_45 : decode cX5_countNets 45 = .ok (.ireturn, 1) := by decide +kernel
theorem dX5_countCalls_0 : decode cX5_countCalls 0 = .ok (.iconst 0, 1) := by decide +kernel
theorem dX5_countCalls_1 : decode cX5_countCalls 1 = .ok (.istore_n 1, 1) := by decide +kernel
theorem dX5_countCalls_2 : decode cX5_countCalls 2 = .ok (.iconst 0, 1) := by decide +kernel
theorem dX5_countCalls_3 : decode cX5_countCalls 3 = .ok (.istore_n 2, 1) := by decide +kernel
theorem dX5_countCalls_4 : decode cX5_countCalls 4 = .ok (.iload_n 2, 1) := by decide +kernel
theorem dX5_countCalls_5 : decode cX5_countCalls 5 = .ok (.bipush 6, 2) := by decide +kernel
theorem dX5_countCalls_7 : decode cX5_countCalls 7 = .ok (.if_icmp .ge 27, 3) := by decide +kernel
theorem dX5_countCalls_10 : decode cX5_countCalls 10 = .ok (.aload_n 0, 1) := by decide +kernel
theorem dX5_countCalls_11 : decode cX5_countCalls 11 = .ok (.getfield 17, 3) := by decide +kernel
theorem dX5_countCalls_14 : decode cX5_countCalls 14 = .ok (.iload_n 2, 1) := by decide +kernel
theorem dX5_countCalls_15 : decode cX5_countCalls 15 = .ok (.aaload, 1) := by decide +kernel
theorem dX5_countCalls_16 : decode cX5_countCalls 16 = .ok (.astore_n 3, 1) := by decide +kernel
theorem dX5_countCalls_17 : decode cX5_countCalls 17 = .ok (.aload_n 3, 1) := by decide +kernel
theorem dX5_countCalls_18 : decode cX5_countCalls 18 = .ok (.ifnull 10, 3) := by decide +kernel
theorem dX5_countCalls_21 : decode cX5_countCalls 21 = .ok (.iload_n 1, 1) := by decide +kernel
theorem dX5_countCalls_22 : decode cX5_countCalls 22 = .ok (.aload_n 3, 1) := by decide +kernel
theorem dX5_countCalls_23 : decode cX5_countCalls 23 = .ok (.getfield 205, 3) := by decide +kernel
theorem dX5_countCalls_26 : decode cX5_countCalls 26 = .ok (.iadd, 1) := by decide +kernel
theorem dX5_countCalls_27 : decode cX5_countCalls 27 = .ok (.istore_n 1, 1) := by decide +kernel
theorem dX5_countCalls_28 : decode cX5_countCalls 28 = .ok (.iinc 2 1, 3) := by decide +kernel
theorem dX5_countCalls_31 : decode cX5_countCalls 31 = .ok (.goto (-27), 3) := by decide +kernel
theorem dX5_countCalls_34 : decode cX5_countCalls 34 = .ok (.iload_n 1, 1) := by decide +kernel
theorem dX5_countCalls_35 : decode cX5_countCalls 35 = .ok (.ireturn, 1) := by decide +kernel
theorem dX5_within_0 : decode cX5_within 0 = .ok (.iload_n 0, 1) := by decide +kernel
theorem dX5_within_1 : decode cX5_within 1 = .ok (.iload_n 1, 1) := by decide +kernel
theorem dX5_within_2 : decode cX5_within 2 = .ok (.if_icmp .lt 12, 3) := by decide +kernel
theorem dX5_within_5 : decode cX5_within 5 = .ok (.iload_n 0, 1) := by decide +kernel
theorem dX5_within_6 : decode cX5_within 6 = .ok (.iload_n 2, 1) := by decide +kernel
theorem dX5_within_7 : decode cX5_within 7 = .ok (.if_icmp .gt 7, 3) := by decide +kernel
theorem dX5_within_10 : decode cX5_within 10 = .ok (.iconst 1, 1) := by decide +kernel
theorem dX5_within_11 : decode cX5_within 11 = .ok (.goto 4, 3) := by decide +kernel
theorem dX5_within_14 : decode cX5_within 14 = .ok (.iconst 0, 1) := by decide +kernel
theorem dX5_within_15 : decode cX5_within 15 = .ok (.ireturn, 1) := by decide +kernel
set_option maxRecDepth 20000 in
theorem ggX5_isSheet_X5_within : GoodIn wsX5_isSheet wsX5_within := goodIn_r _ [4] (by decide +kernel) (by decide +kernel)
set_option maxRecDepth 20000 in
theorem gX5_isSheet_X5_within : GoodIn wsX5_isSheet (va_wsS RX5 50 yX5_within wsX5_within) := goodIn_app (goodIn_of _ (by decide +kernel)) ggX5_isSheet_X5_within
theorem dX5_isSheet_0 : decode cX5_isSheet 0 = .ok (.iload_n 0, 1) := by decide +kernel
theorem dX5_isSheet_1 : decode cX5_isSheet 1 = .ok (.iconst 0, 1) := by decide +kernel
theorem dX5_isSheet_2 : decode cX5_isSheet 2 = .ok (.bipush 7, 2) := by decide +kernel
theorem dX5_isSheet_4 : decode cX5_isSheet 4 = .ok (.invokestatic 50, 3) := by decide +kernel
theorem dX5_isSheet_7 : decode cX5_isSheet 7 = .ok (.ireturn, 1) := by decide +kernel
set_option maxRecDepth 20000 in
theorem ggX5_isPlace_X5_within : GoodIn wsX5_isPlace wsX5_within := goodIn_r _ [4] (by decide +kernel) (by decide +kernel)
set_option maxRecDepth 20000 in
theorem gX5_isPlace_X5_within : GoodIn wsX5_isPlace (va_wsS RX5 50 yX5_within wsX5_within) := goodIn_app (goodIn_of _ (by decide +kernel)) ggX5_isPlace_X5_within
theorem dX5_isPlace_0 : decode cX5_isPlace 0 = .ok (.iload_n 0, 1) := by decide +kernel
theorem dX5_isPlace_1 : decode cX5_isPlace 1 = .ok (.iconst 0, 1) := by decide +kernel
theorem dX5_isPlace_2 : decode cX5_isPlace 2 = .ok (.iconst 5, 1) := by decide +kernel
theorem dX5_isPlace_3 : decode cX5_isPlace 3 = .ok (.invokestatic 50, 3) := by decide +kernel
theorem dX5_isPlace_6 : decode cX5_isPlace 6 = .ok (.ireturn, 1) := by decide +kernel
set_option maxRecDepth 20000 in
theorem ggX5_isKind_X5_within : GoodIn wsX5_isKind wsX5_within := goodIn_r _ [4] (by decide +kernel) (by decide +kernel)
set_option maxRecDepth 20000 in
theorem gX5_isKind_X5_within : GoodIn wsX5_isKind (va_wsS RX5 50 yX5_within wsX5_within) := goodIn_app (goodIn_of _ (by decide +kernel)) ggX5_isKind_X5_within
theorem dX5_isKind_0 : decode cX5_isKind 0 = .ok (.iload_n 0, 1) := by decide +kernel
theorem dX5_isKind_1 : decode cX5_isKind 1 = .ok (.iconst 0, 1) := by decide +kernel
theorem dX5_isKind_2 : decode cX5_isKind 2 = .ok (.iconst 3, 1) := by decide +kernel
theorem dX5_isKind_3 : decode cX5_isKind 3 = .ok (.invokestatic 50, 3) := by decide +kernel
theorem dX5_isKind_6 : decode cX5_isKind 6 = .ok (.ireturn, 1) := by decide +kernel
theorem dX5_countsAs_0 : decode cX5_countsAs 0 = .ok (.iload_n 1, 1) := by decide +kernel
theorem dX5_countsAs_1 : decode cX5_countsAs 1 = .ok (.iload_n 0, 1) := by decide +kernel
theorem dX5_countsAs_2 : decode cX5_countsAs 2 = .ok (.if_icmp .eq 17, 3) := by decide +kernel
theorem dX5_countsAs_5 : decode cX5_countsAs 5 = .ok (.iload_n 1, 1) := by decide +kernel
theorem dX5_countsAs_6 : decode cX5_countsAs 6 = .ok (.ifCond .eq 13, 3) := by decide +kernel
theorem dX5_countsAs_9 : decode cX5_countsAs 9 = .ok (.iload_n 1, 1) := by decide +kernel
theorem dX5_countsAs_10 : decode cX5_countsAs 10 = .ok (.iconst 1, 1) := by decide +kernel
theorem dX5_countsAs_11 : decode cX5_countsAs 11 = .ok (.if_icmp .ne 12, 3) := by decide +kernel
theorem dX5_countsAs_14 : decode cX5_countsAs 14 = .ok (.iload_n 0, 1) := by decide +kernel
theorem dX5_countsAs_15 : decode cX5_countsAs 15 = .ok (.iconst 2, 1) := by decide +kernel
theorem dX5_countsAs_16 : decode cX5_countsAs 16 = .ok (.if_icmp .ne 7, 3) := by decide +kernel
theorem dX5_countsAs_19 : decode cX5_countsAs 19 = .ok (.iconst 1, 1) := by decide +kernel
theorem dX5_countsAs_20 : decode cX5_countsAs 20 = .ok (.goto 4, 3) := by decide +kernel
theorem dX5_countsAs_23 : decode cX5_countsAs 23 = .ok (.iconst 0, 1) := by decide +kernel
theorem dX5_countsAs_24 : decode cX5_countsAs 24 = .ok (.ireturn, 1) := by decide +kernel
set_option maxRecDepth 20000 in
theorem ggX5_crosspoints_X5_crosspoints : GoodIn wsX5_crosspoints wsX5_crosspoints := goodIn_r _ [0, 1, 2, 3, 4, 5, 6, 7] (by decide +kernel) (by decide +kernel)
set_option maxRecDepth 20000 in
theorem gX5_crosspoints_X5_crosspoints : GoodIn wsX5_crosspoints (va_wsS RX5 189 yX5_crosspoints wsX5_crosspoints) := goodIn_app (goodIn_of _ (by decide +kernel)) ggX5_crosspoints_X5_crosspoints
theorem dX5_crosspoints_0 : decode cX5_crosspoints 0 = .ok (.iload_n 0, 1) := by decide +kernel
theorem dX5_crosspoints_1 : decode cX5_crosspoints 1 = .ok (.iload_n 0, 1) := by decide +kernel
theorem dX5_crosspoints_2 : decode cX5_crosspoints 2 = .ok (.imul, 1) := by decide +kernel
theorem dX5_crosspoints_3 : decode cX5_crosspoints 3 = .ok (.istore_n 3, 1) := by decide +kernel
theorem dX5_crosspoints_4 : decode cX5_crosspoints 4 = .ok (.iload_n 1, 1) := by decide +kernel
theorem dX5_crosspoints_5 : decode cX5_crosspoints 5 = .ok (.ifCond .gt 5, 3) := by decide +kernel
theorem dX5_crosspoints_8 : decode cX5_crosspoints 8 = .ok (.iload_n 3, 1) := by decide +kernel
theorem dX5_crosspoints_9 : decode cX5_crosspoints 9 = .ok (.ireturn, 1) := by decide +kernel
theorem dX5_crosspoints_10 : decode cX5_crosspoints 10 = .ok (.iconst 2, 1) := by decide +kernel
theorem dX5_crosspoints_11 : decode cX5_crosspoints 11 = .ok (.istore 4, 2) := by decide +kernel
theorem dX5_crosspoints_13 : decode cX5_crosspoints 13 = .ok (.iload 4, 2) := by decide +kernel
theorem dX5_crosspoints_15 : decode cX5_crosspoints 15 = .ok (.iload_n 0, 1) := by decide +kernel
theorem dX5_crosspoints_16 : decode cX5_crosspoints 16 = .ok (.if_icmp .ge 67, 3) := by decide +kernel
theorem dX5_crosspoints_19 : decode cX5_crosspoints 19 = .ok (.iload_n 0, 1) := by decide +kernel
theorem dX5_crosspoints_20 : decode cX5_crosspoints 20 = .ok (.iload 4, 2) := by decide +kernel
theorem dX5_crosspoints_22 : decode cX5_crosspoints 22 = .ok (.irem, 1) := by decide +kernel
theorem dX5_crosspoints_23 : decode cX5_crosspoints 23 = .ok (.ifCond .ne 54, 3) := by decide +kernel
theorem dX5_crosspoints_26 : decode cX5_crosspoints 26 = .ok (.iload_n 0, 1) := by decide +kernel
theorem dX5_crosspoints_27 : decode cX5_crosspoints 27 = .ok (.iload 4, 2) := by decide +kernel
theorem dX5_crosspoints_29 : decode cX5_crosspoints 29 = .ok (.idiv, 1) := by decide +kernel
theorem dX5_crosspoints_30 : decode cX5_crosspoints 30 = .ok (.istore 5, 2) := by decide +kernel
theorem dX5_crosspoints_32 : decode cX5_crosspoints 32 = .ok (.iload_n 2, 1) := by decide +kernel
theorem dX5_crosspoints_33 : decode cX5_crosspoints 33 = .ok (.ifCond .ne 8, 3) := by decide +kernel
theorem dX5_crosspoints_36 : decode cX5_crosspoints 36 = .ok (.iload 4, 2) := by decide +kernel
theorem dX5_crosspoints_38 : decode cX5_crosspoints 38 = .ok (.goto 9, 3) := by decide +kernel
theorem dX5_crosspoints_41 : decode cX5_crosspoints 41 = .ok (.iconst 2, 1) := by decide +kernel
theorem dX5_crosspoints_42 : decode cX5_crosspoints 42 = .ok (.iload 4, 2) := by decide +kernel
theorem dX5_crosspoints_44 : decode cX5_crosspoints 44 = .ok (.imul, 1) := by decide +kernel
theorem dX5_crosspoints_45 : decode cX5_crosspoints 45 = .ok (.iconst 1, 1) := by decide +kernel
theorem dX5_crosspoints_46 : decode cX5_crosspoints 46 = .ok (.isub, 1) := by decide +kernel
theorem dX5_crosspoints_47 : decode cX5_crosspoints 47 = .ok (.istore 6, 2) := by decide +kernel
theorem dX5_crosspoints_49 : decode cX5_crosspoints 49 = .ok (.iload_n 3, 1) := by decide +kernel
theorem dX5_crosspoints_50 : decode cX5_crosspoints 50 = .ok (.iconst 2, 1) := by decide +kernel
theorem dX5_crosspoints_51 : decode cX5_crosspoints 51 = .ok (.iload 5, 2) := by decide +kernel
theorem dX5_crosspoints_53 : decode cX5_crosspoints 53 = .ok (.imul, 1) := by decide +kernel
theorem dX5_crosspoints_54 : decode cX5_crosspoints 54 = .ok (.iload 4, 2) := by decide +kernel
theorem dX5_crosspoints_56 : decode cX5_crosspoints 56 = .ok (.imul, 1) := by decide +kernel
theorem dX5_crosspoints_57 : decode cX5_crosspoints 57 = .ok (.iload 6, 2) := by decide +kernel
theorem dX5_crosspoints_59 : decode cX5_crosspoints 59 = .ok (.imul, 1) := by decide +kernel
theorem dX5_crosspoints_60 : decode cX5_crosspoints 60 = .ok (.iload 6, 2) := by decide +kernel
theorem dX5_crosspoints_62 : decode cX5_crosspoints 62 = .ok (.iload 5, 2) := by decide +kernel
theorem dX5_crosspoints_64 : decode cX5_crosspoints 64 = .ok (.iload_n 1, 1) := by decide +kernel
theorem dX5_crosspoints_65 : decode cX5_crosspoints 65 = .ok (.iconst 1, 1) := by decide +kernel
theorem dX5_crosspoints_66 : decode cX5_crosspoints 66 = .ok (.isub, 1) := by decide +kernel
theorem dX5_crosspoints_67 : decode cX5_crosspoints 67 = .ok (.iload_n 2, 1) := by decide +kernel
theorem dX5_crosspoints_68 : decode cX5_crosspoints 68 = .ok (.invokestatic 189, 3) := by decide +kernel
theorem dX5_crosspoints_71 : decode cX5_crosspoints 71 = .ok (.imul, 1) := by decide +kernel
theorem dX5_crosspoints_72 : decode cX5_crosspoints 72 = .ok (.iadd, 1) := by decide +kernel
theorem dX5_crosspoints_73 : decode cX5_crosspoints 73 = .ok (.invokestatic 208, 3) := by decide +kernel
theorem dX5_crosspoints_76 : decode cX5_crosspoints 76 = .ok (.istore_n 3, 1) := by decide +kernel
theorem dX5_crosspoints_77 : decode cX5_crosspoints 77 = .ok (.iinc 4 1, 3) := by decide +kernel
theorem dX5_crosspoints_80 : decode cX5_crosspoints 80 = .ok (.goto (-67), 3) := by decide +kernel
theorem dX5_crosspoints_83 : decode cX5_crosspoints 83 = .ok (.iload_n 3, 1) := by decide +kernel
theorem dX5_crosspoints_84 : decode cX5_crosspoints 84 = .ok (.ireturn, 1) := by decide +kernel
theorem dX6_init_0 : decode cX6_init 0 = .ok (.aload_n 0, 1) := by decide +kernel
theorem dX6_init_1 : decode cX6_init 1 = .ok (.invokespecial 1, 3) := by decide +kernel
theorem dX6_init_4 : decode cX6_init 4 = .ok (.aload_n 0, 1) := by decide +kernel
theorem dX6_init_5 : decode cX6_init 5 = .ok (.bipush 8, 2) := by decide +kernel
theorem dX6_init_7 : decode cX6_init 7 = .ok (.newarray .int, 2) := by decide +kernel
theorem dX6_init_9 : decode cX6_init 9 = .ok (.dup, 1) := by decide +kernel
theorem dX6_init_10 : decode cX6_init 10 = .ok (.iconst 0, 1) := by decide +kernel
theorem dX6_init_11 : decode cX6_init 11 = .ok (.iconst (-1), 1) := by decide +kernel
theorem dX6_init_12 : decode cX6_init 12 = .ok (.iastore, 1) := by decide +kernel
theorem dX6_init_13 : decode cX6_init 13 = .ok (.dup, 1) := by decide +kernel
theorem dX6_init_14 : decode cX6_init 14 = .ok (.iconst 1, 1) := by decide +kernel
theorem dX6_init_15 : decode cX6_init 15 = .ok (.iconst (-1), 1) := by decide +kernel
theorem dX6_init_16 : decode cX6_init 16 = .ok (.iastore, 1) := by decide +kernel
theorem dX6_init_17 : decode cX6_init 17 = .ok (.dup, 1) := by decide +kernel
theorem dX6_init_18 : decode cX6_init 18 = .ok (.iconst 2, 1) := by decide +kernel
theorem dX6_init_19 : decode cX6_init 19 = .ok (.iconst (-1), 1) := by decide +kernel
theorem dX6_init_20 : decode cX6_init 20 = .ok (.iastore, 1) := by decide +kernel
theorem dX6_init_21 : decode cX6_init 21 = .ok (.dup, 1) := by decide +kernel
theorem dX6_init_22 : decode cX6_init 22 = .ok (.iconst 3, 1) := by decide +kernel
theorem dX6_init_23 : decode cX6_init 23 = .ok (.iconst (-1), 1) := by decide +kernel
theorem dX6_init_24 : decode cX6_init 24 = .ok (.iastore, 1) := by decide +kernel
theorem dX6_init_25 : decode cX6_init 25 = .ok (.dup, 1) := by decide +kernel
theorem dX6_init_26 : decode cX6_init 26 = .ok (.iconst 4, 1) := by decide +kernel
theorem dX6_init_27 : decode cX6_init 27 = .ok (.iconst (-1), 1) := by decide +kernel
theorem dX6_init_28 : decode cX6_init 28 = .ok (.iastore, 1) := by decide +kernel
theorem dX6_init_29 : decode cX6_init 29 = .ok (.dup, 1) := by decide +kernel
theorem dX6_init_30 : decode cX6_init 30 = .ok (.iconst 5, 1) := by decide +kernel
theorem dX6_init_31 : decode cX6_init 31 = .ok (.iconst (-1), 1) := by decide +kernel
theorem dX6_init_32 : decode cX6_init 32 = .ok (.iastore, 1) := by decide +kernel
theorem dX6_init_33 : decode cX6_init 33 = .ok (.dup, 1) := by decide +kernel
theorem dX6_init_34 : decode cX6_init 34 = .ok (.bipush 6, 2) := by decide +kernel
theorem dX6_init_36 : decode cX6_init 36 = .ok (.iconst (-1), 1) := by decide +kernel
theorem dX6_init_37 : decode cX6_init 37 = .ok (.iastore, 1) := by decide +kernel
theorem dX6_init_38 : decode cX6_init 38 = .ok (.dup, 1) := by decide +kernel
theorem dX6_init_39 : decode cX6_init 39 = .ok (.bipush 7, 2) := by decide +kernel
theorem dX6_init_41 : decode cX6_init 41 = .ok (.iconst (-1), 1) := by decide +kernel
theorem dX6_init_42 : decode cX6_init 42 = .ok (.iastore, 1) := by decide +kernel
theorem dX6_init_43 : decode cX6_init 43 = .ok (.putfield 7, 3) := by decide +kernel
theorem dX6_init_46 : decode cX6_init 46 = .ok (.aload_n 0, 1) := by decide +kernel
theorem dX6_init_47 : decode cX6_init 47 = .ok (.bipush 8, 2) := by decide +kernel
theorem dX6_init_49 : decode cX6_init 49 = .ok (.newarray .int, 2) := by decide +kernel
theorem dX6_init_51 : decode cX6_init 51 = .ok (.putfield 13, 3) := by decide +kernel
theorem dX6_init_54 : decode cX6_init 54 = .ok (.aload_n 0, 1) := by decide +kernel
theorem dX6_init_55 : decode cX6_init 55 = .ok (.sipush 512, 3) := by decide +kernel
theorem dX6_init_58 : decode cX6_init 58 = .ok (.newarray .int, 2) := by decide +kernel
theorem dX6_init_60 : decode cX6_init 60 = .ok (.putfield 16, 3) := by decide +kernel
theorem dX6_init_63 : decode cX6_init 63 = .ok (.aload_n 0, 1) := by decide +kernel
theorem dX6_init_64 : decode cX6_init 64 = .ok (.bipush 6, 2) := by decide +kernel
theorem dX6_init_66 : decode cX6_init 66 = .ok (.newarray .int, 2) := by decide +kernel
theorem dX6_init_68 : decode cX6_init 68 = .ok (.putfield 19, 3) := by decide +kernel
theorem dX6_init_71 : decode cX6_init 71 = .ok (.aload_n 0, 1) := by decide +kernel
theorem dX6_init_72 : decode cX6_init 72 = .ok (.bipush 6, 2) := by decide +kernel
theorem dX6_init_74 : decode cX6_init 74 = .ok (.newarray .int, 2) := by decide +kernel
theorem dX6_init_76 : decode cX6_init 76 = .ok (.putfield 22, 3) := by decide +kernel
theorem dX6_init_79 : decode cX6_init 79 = .ok (.aload_n 0, 1) := by decide +kernel
theorem dX6_init_80 : decode cX6_init 80 = .ok (.bipush 6, 2) := by decide +kernel
theorem dX6_init_82 : decode cX6_init 82 = .ok (.newarray .int, 2) := by decide +kernel
theorem dX6_init_84 : decode cX6_init 84 = .ok (.putfield 25, 3) := by decide +kernel
theorem dX6_init_87 : decode cX6_init 87 = .ok (.aload_n 0, 1) := by decide +kernel
theorem dX6_init_88 : decode cX6_init 88 = .ok (.bipush 72, 2) := by decide +kernel
theorem dX6_init_90 : decode cX6_init 90 = .ok (.newarray .boolean, 2) := by decide +kernel
theorem dX6_init_92 : decode cX6_init 92 = .ok (.putfield 28, 3) := by decide +kernel
theorem dX6_init_95 : decode cX6_init 95 = .ok (.aload_n 0, 1) := by decide +kernel
theorem dX6_init_96 : decode cX6_init 96 = .ok (.sipush 216, 3) := by decide +kernel
theorem dX6_init_99 : decode cX6_init 99 = .ok (.newarray .int, 2) := by decide +kernel
theorem dX6_init_101 : decode cX6_init 101 = .ok (.putfield 32, 3) := by decide +kernel
theorem dX6_init_104 : decode cX6_init 104 = .ok (.aload_n 0, 1) := by decide +kernel
theorem dX6_init_105 : decode cX6_init 105 = .ok (.sipush 216, 3) := by decide +kernel
theorem dX6_init_108 : decode cX6_init 108 = .ok (.newarray .int, 2) := by decide +kernel
theorem dX6_init_110 : decode cX6_init 110 = .ok (.putfield 35, 3) := by decide +kernel
theorem dX6_init_113 : decode cX6_init 113 = .ok (.aload_n 0, 1) := by decide +kernel
theorem dX6_init_114 : decode cX6_init 114 = .ok (.bipush 16, 2) := by decide +kernel
theorem dX6_init_116 : decode cX6_init 116 = .ok (.newarray .int, 2) := by decide +kernel
theorem dX6_init_118 : decode cX6_init 118 = .ok (.putfield 38, 3) := by decide +kernel
theorem dX6_init_121 : decode cX6_init 121 = .ok (.aload_n 0, 1) := by decide +kernel
theorem dX6_init_122 : decode cX6_init 122 = .ok (.bipush 40, 2) := by decide +kernel
theorem dX6_init_124 : decode cX6_init 124 = .ok (.newarray .int, 2) := by decide +kernel
theorem dX6_init_126 : decode cX6_init 126 = .ok (.putfield 41, 3) := by decide +kernel
theorem dX6_init_129 : decode cX6_init 129 = .ok (.aload_n 0, 1) := by decide +kernel
theorem dX6_init_130 : decode cX6_init 130 = .ok (.bipush 36, 2) := by decide +kernel
theorem dX6_init_132 : decode cX6_init 132 = .ok (.newarray .int, 2) := by decide +kernel
theorem dX6_init_134 : decode cX6_init 134 = .ok (.putfield 44, 3) := by decide +kernel
theorem dX6_init_137 : decode cX6_init 137 = .ok (.aload_n 0, 1) := by decide +kernel
theorem dX6_init_138 : decode cX6_init 138 = .ok (.bipush 56, 2) := by decide +kernel
theorem dX6_init_140 : decode cX6_init 140 = .ok (.newarray .int, 2) := by decide +kernel
theorem dX6_init_142 : decode cX6_init 142 = .ok (.putfield 47, 3) := by decide +kernel
theorem dX6_init_145 : decode cX6_init 145 = .ok (.aload_n 0, 1) := by decide +kernel
theorem dX6_init_146 : decode cX6_init 146 = .ok (.bipush 16, 2) := by decide +kernel
theorem dX6_init_148 : decode cX6_init 148 = .ok (.newarray .int, 2) := by decide +kernel
theorem dX6_init_150 : decode cX6_init 150 = .ok (.putfield 50, 3) := by decide +kernel
theorem dX6_init_153 : decode cX6_init 153 = .ok (.aload_n 0, 1) := by decide +kernel
theorem dX6_init_154 : decode cX6_init 154 = .ok (.bipush 16, 2) := by decide +kernel
theorem dX6_init_156 : decode cX6_init 156 = .ok (.newarray .int, 2) := by decide +kernel
theorem dX6_init_158 : decode cX6_init 158 = .ok (.putfield 53, 3) := by decide +kernel
theorem dX6_init_161 : decode cX6_init 161 = .ok (.aload_n 0, 1) := by decide +kernel
theorem dX6_init_162 : decode cX6_init 162 = .ok (.bipush 16, 2) := by decide +kernel
theorem dX6_init_164 : decode cX6_init 164 = .ok (.newarray .int, 2) := by decide +kernel
theorem dX6_init_166 : decode cX6_init 166 = .ok (.putfield 56, 3) := by decide +kernel
theorem dX6_init_169 : decode cX6_init 169 = .ok (.aload_n 0, 1) := by decide +kernel
theorem dX6_init_170 : decode cX6_init 170 = .ok (.iconst 4, 1) := by decide +kernel
theorem dX6_init_171 : decode cX6_init 171 = .ok (.newarray .int, 2) := by decide +kernel
theorem dX6_init_173 : decode cX6_init 173 = .ok (.putfield 59, 3) := by decide +kernel
theorem dX6_init_176 : decode cX6_init 176 = .ok (.aload_n 0, 1) := by decide +kernel
theorem dX6_init_177 : decode cX6_init 177 = .ok (.iconst 4, 1) := by decide +kernel
theorem dX6_init_178 : decode cX6_init 178 = .ok (.newarray .int, 2) := by decide +kernel
theorem dX6_init_180 : decode cX6_init 180 = .ok (.putfield 62, 3) := by decide +kernel
theorem dX6_init_183 : decode cX6_init 183 = .ok (.aload_n 0, 1) := by decide +kernel
theorem dX6_init_184 : decode cX6_init 184 = .ok (.bipush 36, 2) := by decide +kernel
theorem dX6_init_186 : decode cX6_init 186 = .ok (.newarray .int, 2) := by decide +kernel
theorem dX6_init_188 : decode cX6_init 188 = .ok (.putfield 65, 3) := by decide +kernel
theorem dX6_init_191 : decode cX6_init 191 = .ok (.aload_n 0, 1) := by decide +kernel
theorem dX6_init_192 : decode cX6_init 192 = .ok (.sipush 300, 3) := by decide +kernel
theorem dX6_init_195 : decode cX6_init 195 = .ok (.newarray .int, 2) := by decide +kernel
theorem dX6_init_197 : decode cX6_init 197 = .ok (.putfield 68, 3) := by decide +kernel
theorem dX6_init_200 : decode cX6_init 200 = .ok (.aload_n 0, 1) := by decide +kernel
theorem dX6_init_201 : decode cX6_init 201 = .ok (.bipush 50, 2) := by decide +kernel
theorem dX6_init_203 : decode cX6_init 203 = .ok (.newarray .int, 2) := by decide +kernel
theorem dX6_init_205 : decode cX6_init 205 = .ok (.putfield 71, 3) := by decide +kernel
theorem dX6_init_208 : decode cX6_init 208 = .ok (.aload_n 0, 1) := by decide +kernel
theorem dX6_init_209 : decode cX6_init 209 = .ok (.bipush 6, 2) := by decide +kernel
theorem dX6_init_211 : decode cX6_init 211 = .ok (.newarray .int, 2) := by decide +kernel
theorem dX6_init_213 : decode cX6_init 213 = .ok (.putfield 74, 3) := by decide +kernel
theorem dX6_init_216 : decode cX6_init 216 = .ok (.aload_n 0, 1) := by decide +kernel
theorem dX6_init_217 : decode cX6_init 217 = .ok (.sipush 195, 3) := by decide +kernel
theorem dX6_init_220 : decode cX6_init 220 = .ok (.newarray .long, 2) := by decide +kernel
theorem dX6_init_222 : decode cX6_init 222 = .ok (.putfield 77, 3) := by decide +kernel
theorem dX6_init_225 : decode cX6_init 225 = .ok (.return_, 1) := by decide +kernel
theorem dX6_in_0 : decode cX6_in 0 = .ok (.lload_n 0, 1) := by decide +kernel
theorem dX6_in_1 : decode cX6_in 1 = .ok (.lload_n 2, 1) := by decide +kernel
theorem dX6_in_2 : decode cX6_in 2 = .ok (.lcmp, 1) := by decide +kernel
theorem dX6_in_3 : decode cX6_in 3 = .ok (.ifCond .lt 14, 3) := by decide +kernel
theorem dX6_in_6 : decode cX6_in 6 = .ok (.lload_n 0, 1) := by decide +kernel
theorem dX6_in_7 : decode cX6_in 7 = .ok (.lload 4, 2) := by decide +kernel
theorem dX6_in_9 : decode cX6_in 9 = .ok (.lcmp, 1) := by decide +kernel
theorem dX6_in_10 : decode cX6_in 10 = .ok (.ifCond .gt 7, 3) := by decide +kernel
theorem dX6_in_13 : decode cX6_in 13 = .ok (.iconst 1, 1) := by decide +kernel
theorem dX6_in_14 : decode cX6_in 14 = .ok (.goto 4, 3) := by decide +kernel
theorem dX6_in_17 : decode cX6_in 17 = .ok (.iconst 0, 1) := by decide +kernel
theorem dX6_in_18 : decode cX6_in 18 = .ok (.ireturn, 1) := by decide +kernel
theorem dX6_found_0 : decode cX6_found 0 = .ok (.aload_n 0, 1) := by decide +kernel
theorem dX6_found_1 : decode cX6_found 1 = .ok (.iload_n 1, 1) := by decide +kernel
theorem dX6_found_2 : decode cX6_found 2 = .ok (.putfield 85, 3) := by decide +kernel
theorem dX6_found_5 : decode cX6_found 5 = .ok (.ldc 88, 2) := by decide +kernel
theorem dX6_found_7 : decode cX6_found 7 = .ok (.iload_n 1, 1) := by decide +kernel
theorem dX6_found_8 : decode cX6_found 8 = .ok (.isub, 1) := by decide +kernel
theorem dX6_found_9 : decode cX6_found 9 = .ok (.ireturn, 1) := by decide +kernel
set_option maxRecDepth 20000 in
theorem ggX6_isSheet_X6_in : GoodIn wsX6_isSheet wsX6_in := goodIn_r _ [5] (by decide +kernel) (by decide +kernel)
set_option maxRecDepth 20000 in
theorem gX6_isSheet_X6_in : GoodIn wsX6_isSheet (va_wsS RX6 91 yX6_in wsX6_in) := goodIn_app (goodIn_of _ (by decide +kernel)) ggX6_isSheet_X6_in
theorem dX6_isSheet_0 : decode cX6_isSheet 0 = .ok (.iload_n 0, 1) := by decide +kernel
theorem dX6_isSheet_1 : decode cX6_isSheet 1 = .ok (.i2l, 1) := by decide +kernel
theorem dX6_isSheet_2 : decode cX6_isSheet 2 = .ok (.lconst 0, 1) := by decide +kernel
theorem dX6_isSheet_3 : decode cX6_isSheet 3 = .ok (.ldc2_w 89, 3) := by decide +kernel
theorem dX6_isSheet_6 : decode cX6_isSheet 6 = .ok (.invokestatic 91, 3) := by decide +kernel
theorem dX6_isSheet_9 : decode cX6_isSheet 9 = .ok (.ireturn, 1) := by decide +kernel
set_option maxRecDepth 20000 in
theorem ggX6_sheet_X6_isSheet : GoodIn wsX6_sheet wsX6_isSheet := goodIn_r _ [11, 12, 13, 14, 10, 15] (by decide +kernel) (by decide +kernel)
set_option maxRecDepth 20000 in
theorem gX6_sheet_X6_isSheet : GoodIn wsX6_sheet (va_wsS RX6 95 yX6_isSheet wsX6_isSheet) := goodIn_app (goodIn_of _ (by decide +kernel)) ggX6_sheet_X6_isSheet
set_option maxRecDepth 20000 in
theorem ggX6_sheet_X6_in : GoodIn wsX6_sheet wsX6_in := goodIn_r _ [15] (by decide +kernel) (by decide +kernel)
set_option maxRecDepth 20000 in
theorem gX6_sheet_X6_in : GoodIn wsX6_sheet (va_wsS RX6 91 yX6_in wsX6_in) := goodIn_app (goodIn_of _ (by decide +kernel)) ggX6_sheet_X6_in
set_option maxRecDepth 20000 in
theorem ggX6_sheet_X6_found : GoodIn wsX6_sheet wsX6_found := goodIn_r _ [19, 4, 20, 21, 22, 23, 24, 25, 26, 27, 28, 29, 30, 31, 32, 33, 34, 35, 36, 37, 38, 39, 40, 41, 42, 43, 44, 45, 46, 47, 48, 49, 50] (by decide +kernel) (by decide +kernel)
set_option maxRecDepth 20000 in
theorem gX6_sheet_X6_found : GoodIn wsX6_sheet (wsV RX6 102 RX6 yX6_found wsX6_found) := goodIn_app (goodIn_of _ (by decide +kernel)) ggX6_sheet_X6_found
theorem dX6_sheet_0 : decode cX6_sheet 0 = .ok (.aload_n 0, 1) := by decide +kernel
theorem dX6_sheet_1 : decode cX6_sheet 1 = .ok (.iconst 0, 1) := by decide +kernel
theorem dX6_sheet_2 : decode cX6_sheet 2 = .ok (.putfield 81, 3) := by decide +kernel
theorem dX6_sheet_5 : decode cX6_sheet 5 = .ok (.iload_n 1, 1) := by decide +kernel
theorem dX6_sheet_6 : decode cX6_sheet 6 = .ok (.invokestatic 95, 3) := by decide +kernel
theorem dX6_sheet_9 : decode cX6_sheet 9 = .ok (.ifCond .eq 21, 3) := by decide +kernel
theorem dX6_sheet_12 : decode cX6_sheet 12 = .ok (.iload_n 2, 1) := by decide +kernel
theorem dX6_sheet_13 : decode cX6_sheet 13 = .ok (.i2l, 1) := by decide +kernel
theorem dX6_sheet_14 : decode cX6_sheet 14 = .ok (.lconst 0, 1) := by decide +kernel
theorem dX6_sheet_15 : decode cX6_sheet 15 = .ok (.ldc2_w 99, 3) := by decide +kernel
theorem dX6_sheet_18 : decode cX6_sheet 18 = .ok (.invokestatic 91, 3) := by decide +kernel
theorem dX6_sheet_21 : decode cX6_sheet 21 = .ok (.ifCond .eq 9, 3) := by decide +kernel
theorem dX6_sheet_24 : decode cX6_sheet 24 = .ok (.iload_n 3, 1) := by decide +kernel
theorem dX6_sheet_25 : decode cX6_sheet 25 = .ok (.bipush 64, 2) := by decide +kernel
theorem dX6_sheet_27 : decode cX6_sheet 27 = .ok (.if_icmp .le 6, 3) := by decide +kernel
theorem dX6_sheet_30 : decode cX6_sheet 30 = .ok (.ldc 101, 2) := by decide +kernel
theorem dX6_sheet_32 : decode cX6_sheet 32 = .ok (.ireturn, 1) := by decide +kernel
theorem dX6_sheet_33 : decode cX6_sheet 33 = .ok (.aload_n 0, 1) := by decide +kernel
theorem dX6_sheet_34 : decode cX6_sheet 34 = .ok (.iconst 0, 1) := by decide +kernel
theorem dX6_sheet_35 : decode cX6_sheet 35 = .ok (.putfield 85, 3) := by decide +kernel
theorem dX6_sheet_38 : decode cX6_sheet 38 = .ok (.iload_n 3, 1) := by decide +kernel
theorem dX6_sheet_39 : decode cX6_sheet 39 = .ok (.ifCond .ge 9, 3) := by decide +kernel
theorem dX6_sheet_42 : decode cX6_sheet 42 = .ok (.aload_n 0, 1) := by decide +kernel
theorem dX6_sheet_43 : decode cX6_sheet 43 = .ok (.iconst 4, 1) := by decide +kernel
theorem dX6_sheet_44 : decode cX6_sheet 44 = .ok (.invokevirtual 102, 3) := by decide +kernel
theorem dX6_sheet_47 : decode cX6_sheet 47 = .ok (.ireturn, 1) := by decide +kernel
theorem dX6_sheet_48 : decode cX6_sheet 48 = .ok (.aload_n 0, 1) := by decide +kernel
theorem dX6_sheet_49 : decode cX6_sheet 49 = .ok (.getfield 7, 3) := by decide +kernel
theorem dX6_sheet_52 : decode cX6_sheet 52 = .ok (.iload_n 1, 1) := by decide +kernel
theorem dX6_sheet_53 : decode cX6_sheet 53 = .ok (.iload_n 2, 1) := by decide +kernel
theorem dX6_sheet_54 : decode cX6_sheet 54 = .ok (.iastore, 1) := by decide +kernel
theorem dX6_sheet_55 : decode cX6_sheet 55 = .ok (.aload_n 0, 1) := by decide +kernel
theorem dX6_sheet_56 : decode cX6_sheet 56 = .ok (.getfield 13, 3) := by decide +kernel
theorem dX6_sheet_59 : decode cX6_sheet 59 = .ok (.iload_n 1, 1) := by decide +kernel
theorem dX6_sheet_60 : decode cX6_sheet 60 = .ok (.iload_n 3, 1) := by decide +kernel
theorem dX6_sheet_61 : decode cX6_sheet 61 = .ok (.iastore, 1) := by decide +kernel
theorem dX6_sheet_62 : decode cX6_sheet 62 = .ok (.iconst 0, 1) := by decide +kernel
theorem dX6_sheet_63 : decode cX6_sheet 63 = .ok (.istore 4, 2) := by decide +kernel
theorem dX6_sheet_65 : decode cX6_sheet 65 = .ok (.iload 4, 2) := by decide +kernel
theorem dX6_sheet_67 : decode cX6_sheet 67 = .ok (.bipush 64, 2) := by decide +kernel
theorem dX6_sheet_69 : decode cX6_sheet 69 = .ok (.if_icmp .ge 22, 3) := by decide +kernel
theorem dX6_sheet_72 : decode cX6_sheet 72 = .ok (.aload_n 0, 1) := by decide +kernel
theorem dX6_sheet_73 : decode cX6_sheet 73 = .ok (.getfield 16, 3) := by decide +kernel
theorem dX6_sheet_76 : decode cX6_sheet 76 = .ok (.bipush 64, 2) := by decide +kernel
theorem dX6_sheet_78 : decode cX6_sheet 78 = .ok (.iload_n 1, 1) := by decide +kernel
theorem dX6_sheet_79 : decode cX6_sheet 79 = .ok (.imul, 1) := by decide +kernel
theorem dX6_sheet_80 : decode cX6_sheet 80 = .ok (.iload 4, 2) := by decide +kernel
theorem dX6_sheet_82 : decode cX6_sheet 82 = .ok (.iadd, 1) := by decide +kernel
theorem dX6_sheet_83 : decode cX6_sheet 83 = .ok (.iconst 0, 1) := by decide +kernel
theorem dX6_sheet_84 : decode cX6_sheet 84 = .ok (.iastore, 1) := by decide +kernel
theorem dX6_sheet_85 : decode cX6_sheet 85 = .ok (.iinc 4 1, 3) := by decide +kernel
theorem dX6_sheet_88 : decode cX6_sheet 88 = .ok (.goto (-23), 3) := by decide +kernel
theorem dX6_sheet_91 : decode cX6_sheet 91 = .ok (.iload_n 3, 1) := by decide +kernel
theorem dX6_sheet_92 : decode cX6_sheet 92 = .ok (.ireturn, 1) := by decide +kernel
set_option maxRecDepth 20000 in
theorem ggX6_set_X6_isSheet : GoodIn wsX6_set wsX6_isSheet := goodIn_r _ [10, 11, 12, 13, 9, 14] (by decide +kernel) (by decide +kernel)
set_option maxRecDepth 20000 in
theorem gX6_set_X6_isSheet : GoodIn wsX6_set (va_wsS RX6 95 yX6_isSheet wsX6_isSheet) := goodIn_app (goodIn_of _ (by decide +kernel)) ggX6_set_X6_isSheet
set_option maxRecDepth 20000 in
theorem ggX6_set_X6_found : GoodIn wsX6_set wsX6_found := goodIn_r _ [18, 3, 19, 20, 21, 22, 23, 24, 25, 26, 27, 28, 29, 30, 31, 32, 33, 34, 35, 36, 37, 38, 39, 40, 41, 42, 43, 44, 45, 46, 47, 48, 49] (by decide +kernel) (by decide +kernel)
set_option maxRecDepth 20000 in
theorem gX6_set_X6_found : GoodIn wsX6_set (wsV RX6 102 RX6 yX6_found wsX6_found) := goodIn_app (goodIn_of _ (by decide +kernel)) ggX6_set_X6_found
set_option maxRecDepth 20000 in
theorem ggX6_set_X6_in : GoodIn wsX6_set wsX6_in := goodIn_r _ [14] (by decide +kernel) (by decide +kernel)
set_option maxRecDepth 20000 in
theorem gX6_set_X6_in : GoodIn wsX6_set (va_wsS RX6 91 yX6_in wsX6_in) := goodIn_app (goodIn_of _ (by decide +kernel)) ggX6_set_X6_in
theorem dX6_set_0 : decode cX6_set 0 = .ok (.aload_n 0, 1) := by decide +kernel
theorem dX6_set_1 : decode cX6_set 1 = .ok (.iconst 0, 1) := by decide +kernel
theorem dX6_set_2 : decode cX6_set 2 = .ok (.putfield 81, 3) := by decide +kernel
theorem dX6_set_5 : decode cX6_set 5 = .ok (.iload_n 1, 1) := by decide +kernel
theorem dX6_set_6 : decode cX6_set 6 = .ok (.invokestatic 95, 3) := by decide +kernel
theorem dX6_set_9 : decode cX6_set 9 = .ok (.ifCond .ne 6, 3) := by decide +kernel
theorem dX6_set_12 : decode cX6_set 12 = .ok (.ldc 101, 2) := by decide +kernel
theorem dX6_set_14 : decode cX6_set 14 = .ok (.ireturn, 1) := by decide +kernel
theorem dX6_set_15 : decode cX6_set 15 = .ok (.aload_n 0, 1) := by decide +kernel
theorem dX6_set_16 : decode cX6_set 16 = .ok (.iconst 0, 1) := by decide +kernel
theorem dX6_set_17 : decode cX6_set 17 = .ok (.putfield 85, 3) := by decide +kernel
theorem dX6_set_20 : decode cX6_set 20 = .ok (.aload_n 0, 1) := by decide +kernel
theorem dX6_set_21 : decode cX6_set 21 = .ok (.getfield 7, 3) := by decide +kernel
theorem dX6_set_24 : decode cX6_set 24 = .ok (.iload_n 1, 1) := by decide +kernel
theorem dX6_set_25 : decode cX6_set 25 = .ok (.iaload, 1) := by decide +kernel
theorem dX6_set_26 : decode cX6_set 26 = .ok (.ifCond .ge 9, 3) := by decide +kernel
theorem dX6_set_29 : decode cX6_set 29 = .ok (.aload_n 0, 1) := by decide +kernel
theorem dX6_set_30 : decode cX6_set 30 = .ok (.iconst 1, 1) := by decide +kernel
theorem dX6_set_31 : decode cX6_set 31 = .ok (.invokevirtual 102, 3) := by decide +kernel
theorem dX6_set_34 : decode cX6_set 34 = .ok (.ireturn, 1) := by decide +kernel
theorem dX6_set_35 : decode cX6_set 35 = .ok (.iload_n 2, 1) := by decide +kernel
theorem dX6_set_36 : decode cX6_set 36 = .ok (.i2l, 1) := by decide +kernel
theorem dX6_set_37 : decode cX6_set 37 = .ok (.lconst 0, 1) := by decide +kernel
theorem dX6_set_38 : decode cX6_set 38 = .ok (.aload_n 0, 1) := by decide +kernel
theorem dX6_set_39 : decode cX6_set 39 = .ok (.getfield 13, 3) := by decide +kernel
theorem dX6_set_42 : decode cX6_set 42 = .ok (.iload_n 1, 1) := by decide +kernel
theorem dX6_set_43 : decode cX6_set 43 = .ok (.iaload, 1) := by decide +kernel
theorem dX6_set_44 : decode cX6_set 44 = .ok (.iconst 1, 1) := by decide +kernel
theorem dX6_set_45 : decode cX6_set 45 = .ok (.isub, 1) := by decide +kernel
theorem dX6_set_46 : decode cX6_set 46 = .ok (.i2l, 1) := by decide +kernel
theorem dX6_set_47 : decode cX6_set 47 = .ok (.invokestatic 91, 3) := by decide +kernel
theorem dX6_set_50 : decode cX6_set 50 = .ok (.ifCond .ne 9, 3) := by decide +kernel
theorem dX6_set_53 : decode cX6_set 53 = .ok (.aload_n 0, 1) := by decide +kernel
theorem dX6_set_54 : decode cX6_set 54 = .ok (.iconst 2, 1) := by decide +kernel
theorem dX6_set_55 : decode cX6_set 55 = .ok (.invokevirtual 102, 3) := by decide +kernel
theorem dX6_set_58 : decode cX6_set 58 = .ok (.ireturn, 1) := by decide +kernel
theorem dX6_set_59 : decode cX6_set 59 = .ok (.aload_n 0, 1) := by decide +kernel
theorem dX6_set_60 : decode cX6_set 60 = .ok (.getfield 16, 3) := by decide +kernel
theorem dX6_set_63 : decode cX6_set 63 = .ok (.bipush 64, 2) := by decide +kernel
theorem dX6_set_65 : decode cX6_set 65 = .ok (.iload_n 1, 1) := by decide +kernel
theorem dX6_set_66 : decode cX6_set 66 = .ok (.imul, 1) := by decide +kernel
theorem dX6_set_67 : decode cX6_set 67 = .ok (.iload_n 2, 1) := by decide +kernel
theorem dX6_set_68 : decode cX6_set 68 = .ok (.iadd, 1) := by decide +kernel
theorem dX6_set_69 : decode cX6_set 69 = .ok (.aload_n 0, 1) := by decide +kernel
theorem dX6_set_70 : decode cX6_set 70 = .ok (.getfield 7, 3) := by decide +kernel
theorem dX6_set_73 : decode cX6_set 73 = .ok (.iload_n 1, 1) := by decide +kernel
theorem dX6_set_74 : decode cX6_set 74 = .ok (.iaload, 1) := by decide +kernel
theorem dX6_set_75 : decode cX6_set 75 = .ok (.ifCond .ne 8, 3) := by decide +kernel
theorem dX6_set_78 : decode cX6_set 78 = .ok (.iload_n 3, 1) := by decide +kernel
theorem dX6_set_79 : decode cX6_set 79 = .ok (.i2b, 1) := by decide +kernel
theorem dX6_set_80 : decode cX6_set 80 = .ok (.goto 19, 3) := by decide +kernel
theorem dX6_set_83 : decode cX6_set 83 = .ok (.aload_n 0, 1) := by decide +kernel
theorem dX6_set_84 : decode cX6_set 84 = .ok (.getfield 7, 3) := by decide +kernel
theorem dX6_set_87 : decode cX6_set 87 = .ok (.iload_n 1, 1) := by decide +kernel
theorem dX6_set_88 : decode cX6_set 88 = .ok (.iaload, 1) := by decide +kernel
theorem dX6_set_89 : decode cX6_set 89 = .ok (.iconst 1, 1) := by decide +kernel
theorem dX6_set_90 : decode cX6_set 90 = .ok (.if_icmp .ne 8, 3) := by decide +kernel
theorem dX6_set_93 : decode cX6_set 93 = .ok (.iload_n 3, 1) := by decide +kernel
theorem dX6_set_94 : decode cX6_set 94 = .ok (.i2s, 1) := by decide +kernel
theorem dX6_set_95 : decode cX6_set 95 = .ok (.goto 4, 3) := by decide +kernel
theorem dX6_set_98 : decode cX6_set 98 = .ok (.iload_n 3, 1) := by decide +kernel
theorem dX6_set_99 : decode cX6_set 99 = .ok (.iastore, 1) := by decide +kernel
theorem dX6_set_100 : decode cX6_set 100 = .ok (.aload_n 0, 1) := by decide +kernel
theorem dX6_set_101 : decode cX6_set 101 = .ok (.getfield 16, 3) := by decide +kernel
theorem dX6_set_104 : decode cX6_set 104 = .ok (.bipush 64, 2) := by decide +kernel
theorem dX6_set_106 : decode cX6_set 106 = .ok (.iload_n 1, 1) := by decide +kernel
theorem dX6_set_107 : decode cX6_set 107 = .ok (.imul, 1) := by decide +kernel
theorem dX6_set_108 : decode cX6_set 108 = .ok (.iload_n 2, 1) := by decide +kernel
theorem dX6_set_109 : decode cX6_set 109 = .ok (.iadd, 1) := by decide +kernel
theorem dX6_set_110 : decode cX6_set 110 = .ok (.iaload, 1) := by decide +kernel
theorem dX6_set_111 : decode cX6_set 111 = .ok (.ireturn, 1) := by decide +kernel
set_option maxRecDepth 20000 in
theorem ggX6_copy_X6_isSheet : GoodIn wsX6_copy wsX6_isSheet := goodIn_r _ [10, 11, 12, 13, 9, 14] (by decide +kernel) (by decide +kernel)
set_option maxRecDepth 20000 in
theorem gX6_copy_X6_isSheet : GoodIn wsX6_copy (va_wsS RX6 95 yX6_isSheet wsX6_isSheet) := goodIn_app (goodIn_of _ (by decide +kernel)) ggX6_copy_X6_isSheet
set_option maxRecDepth 20000 in
theorem ggX6_copy_X6_found : GoodIn wsX6_copy wsX6_found := goodIn_r _ [18, 3, 19, 20, 21, 22, 23, 24, 25, 26, 27, 28, 29, 30, 31, 32, 33, 34, 35, 36, 37, 38, 39, 40, 41, 42, 43, 44, 45, 46, 47, 48, 49] (by decide +kernel) (by decide +kernel)
set_option maxRecDepth 20000 in
theorem gX6_copy_X6_found : GoodIn wsX6_copy (wsV RX6 102 RX6 yX6_found wsX6_found) := goodIn_app (goodIn_of _ (by decide +kernel)) ggX6_copy_X6_found
theorem dX6_copy_0 : decode cX6_copy 0 = .ok (.aload_n 0, 1) := by decide +kernel
theorem dX6_copy_1 : decode cX6_copy 1 = .ok (.iconst 0, 1) := by decide +kernel
theorem dX6_copy_2 : decode cX6_copy 2 = .ok (.putfield 81, 3) := by decide +kernel
theorem dX6_copy_5 : decode cX6_copy 5 = .ok (.iload_n 1, 1) := by decide +kernel
theorem dX6_copy_6 : decode cX6_copy 6 = .ok (.invokestatic 95, 3) := by decide +kernel
theorem dX6_copy_9 : decode cX6_copy 9 = .ok (.ifCond .eq 10, 3) := by decide +kernel
theorem dX6_copy_12 : decode cX6_copy 12 = .ok (.iload_n 3, 1) := by decide +kernel
theorem dX6_copy_13 : decode cX6_copy 13 = .ok (.invokestatic 95, 3) := by decide +kernel
theorem dX6_copy_16 : decode cX6_copy 16 = .ok (.ifCond .ne 6, 3) := by decide +kernel
theorem dX6_copy_19 : decode cX6_copy 19 = .ok (.ldc 101, 2) := by decide +kernel
theorem dX6_copy_21 : decode cX6_copy 21 = .ok (.ireturn, 1) := by decide +kernel
theorem dX6_copy_22 : decode cX6_copy 22 = .ok (.aload_n 0, 1) := by decide +kernel
theorem dX6_copy_23 : decode cX6_copy 23 = .ok (.iconst 0, 1) := by decide +kernel
theorem dX6_copy_24 : decode cX6_copy 24 = .ok (.putfield 85, 3) := by decide +kernel
theorem dX6_copy_27 : decode cX6_copy 27 = .ok (.aload_n 0, 1) := by decide +kernel
theorem dX6_copy_28 : decode cX6_copy 28 = .ok (.getfield 7, 3) := by decide +kernel
theorem dX6_copy_31 : decode cX6_copy 31 = .ok (.iload_n 1, 1) := by decide +kernel
theorem dX6_copy_32 : decode cX6_copy 32 = .ok (.iaload, 1) := by decide +kernel
theorem dX6_copy_33 : decode cX6_copy 33 = .ok (.ifCond .lt 12, 3) := by decide +kernel
theorem dX6_copy_36 : decode cX6_copy 36 = .ok (.aload_n 0, 1) := by decide +kernel
theorem dX6_copy_37 : decode cX6_copy 37 = .ok (.getfield 7, 3) := by decide +kernel
theorem dX6_copy_40 : decode cX6_copy 40 = .ok (.iload_n 3, 1) := by decide +kernel
theorem dX6_copy_41 : decode cX6_copy 41 = .ok (.iaload, 1) := by decide +kernel
theorem dX6_copy_42 : decode cX6_copy 42 = .ok (.ifCond .ge 9, 3) := by decide +kernel
theorem dX6_copy_45 : decode cX6_copy 45 = .ok (.aload_n 0, 1) := by decide +kernel
theorem dX6_copy_46 : decode cX6_copy 46 = .ok (.iconst 1, 1) := by decide +kernel
theorem dX6_copy_47 : decode cX6_copy 47 = .ok (.invokevirtual 102, 3) := by decide +kernel
theorem dX6_copy_50 : decode cX6_copy 50 = .ok (.ireturn, 1) := by decide +kernel
theorem dX6_copy_51 : decode cX6_copy 51 = .ok (.aload_n 0, 1) := by decide +kernel
theorem dX6_copy_52 : decode cX6_copy 52 = .ok (.getfield 7, 3) := by decide +kernel
theorem dX6_copy_55 : decode cX6_copy 55 = .ok (.iload_n 1, 1) := by decide +kernel
theorem dX6_copy_56 : decode cX6_copy 56 = .ok (.iaload, 1) := by decide +kernel
theorem dX6_copy_57 : decode cX6_copy 57 = .ok (.aload_n 0, 1) := by decide +kernel
theorem dX6_copy_58 : decode cX6_copy 58 = .ok (.getfield 7, 3) := by decide +kernel
theorem dX6_copy_61 : decode cX6_copy 61 = .ok (.iload_n 3, 1) := by decide +kernel
theorem dX6_copy_62 : decode cX6_copy 62 = .ok (.iaload, 1) := by decide +kernel
theorem dX6_copy_63 : decode cX6_copy 63 = .ok (.if_icmp .eq 9, 3) := by decide +kernel
theorem dX6_copy_66 : decode cX6_copy 66 = .ok (.aload_n 0, 1) := by decide +kernel
theorem dX6_copy_67 : decode cX6_copy 67 = .ok (.iconst 5, 1) := by decide +kernel
theorem dX6_copy_68 : decode cX6_copy 68 = .ok (.invokevirtual 102, 3) := by decide +kernel
theorem dX6_copy_71 : decode cX6_copy 71 = .ok (.ireturn, 1) := by decide +kernel
theorem dX6_copy_72 : decode cX6_copy 72 = .ok (.iload_n 2, 1) := by decide +kernel
theorem dX6_copy_73 : decode cX6_copy 73 = .ok (.ifCond .lt 48, 3) := by decide +kernel
theorem dX6_copy_76 : decode cX6_copy 76 = .ok (.iload 4, 2) := by decide +kernel
theorem dX6_copy_78 : decode cX6_copy 78 = .ok (.ifCond .lt 43, 3) := by decide +kernel
theorem dX6_copy_81 : decode cX6_copy 81 = .ok (.iload 5, 2) := by decide +kernel
theorem dX6_copy_83 : decode cX6_copy 83 = .ok (.ifCond .lt 38, 3) := by decide +kernel
theorem dX6_copy_86 : decode cX6_copy 86 = .ok (.iload_n 2, 1) := by decide +kernel
theorem dX6_copy_87 : decode cX6_copy 87 = .ok (.i2l, 1) := by decide +kernel
theorem dX6_copy_88 : decode cX6_copy 88 = .ok (.iload 5, 2) := by decide +kernel
theorem dX6_copy_90 : decode cX6_copy 90 = .ok (.i2l, 1) := by decide +kernel
theorem dX6_copy_91 : decode cX6_copy 91 = .ok (.ladd, 1) := by decide +kernel
theorem dX6_copy_92 : decode cX6_copy 92 = .ok (.aload_n 0, 1) := by decide +kernel
theorem dX6_copy_93 : decode cX6_copy 93 = .ok (.getfield 13, 3) := by decide +kernel
theorem dX6_copy_96 : decode cX6_copy 96 = .ok (.iload_n 1, 1) := by decide +kernel
theorem dX6_copy_97 : decode cX6_copy 97 = .ok (.iaload, 1) := by decide +kernel
theorem dX6_copy_98 : decode cX6_copy 98 = .ok (.i2l, 1) := by decide +kernel
theorem dX6_copy_99 : decode cX6_copy 99 = .ok (.lcmp, 1) := by decide +kernel
theorem dX6_copy_100 : decode cX6_copy 100 = .ok (.ifCond .gt 21, 3) := by decide +kernel
theorem dX6_copy_103 : decode cX6_copy 103 = .ok (.iload 4, 2) := by decide +kernel
theorem dX6_copy_105 : decode cX6_copy 105 = .ok (.i2l, 1) := by decide +kernel
theorem dX6_copy_106 : decode cX6_copy 106 = .ok (.iload 5, 2) := by decide +kernel
theorem dX6_copy_108 : decode cX6_copy 108 = .ok (.i2l, 1) := by decide +kernel
theorem dX6_copy_109 : decode cX6_copy 109 = .ok (.ladd, 1) := by decide +kernel
theorem dX6_copy_110 : decode cX6_copy 110 = .ok (.aload_n 0, 1) := by decide +kernel
theorem dX6_copy_111 : decode cX6_copy 111 = .ok (.getfield 13, 3) := by decide +kernel
theorem dX6_copy_114 : decode cX6_copy 114 = .ok (.iload_n 3, 1) := by decide +kernel
theorem dX6_copy_115 : decode cX6_copy 115 = .ok (.iaload, 1) := by decide +kernel
theorem dX6_copy_116 : decode cX6_copy 116 = .ok (.i2l, 1) := by decide +kernel
theorem dX6_copy_117 : decode cX6_copy 117 = .ok (.lcmp, 1) := by decide +kernel
theorem dX6_copy_118 : decode cX6_copy 118 = .ok (.ifCond .le 9, 3) := by decide +kernel
theorem dX6_copy_121 : decode cX6_copy 121 = .ok (.aload_n 0, 1) := by decide +kernel
theorem dX6_copy_122 : decode cX6_copy 122 = .ok (.iconst 2, 1) := by decide +kernel
theorem dX6_copy_123 : decode cX6_copy 123 = .ok (.invokevirtual 102, 3) := by decide +kernel
theorem dX6_copy_126 : decode cX6_copy 126 = .ok (.ireturn, 1) := by decide +kernel
theorem dX6_copy_127 : decode cX6_copy 127 = .ok (.iload_n 2, 1) := by decide +kernel
theorem dX6_copy_128 : decode cX6_copy 128 = .ok (.iload 4, 2) := by decide +kernel
theorem dX6_copy_130 : decode cX6_copy 130 = .ok (.if_icmp .lt 7, 3) := by decide +kernel
theorem dX6_copy_133 : decode cX6_copy 133 = .ok (.iconst 1, 1) := by decide +kernel
theorem dX6_copy_134 : decode cX6_copy 134 = .ok (.goto 4, 3) := by decide +kernel
theorem dX6_copy_137 : decode cX6_copy 137 = .ok (.iconst 0, 1) := by decide +kernel
theorem dX6_copy_138 : decode cX6_copy 138 = .ok (.istore 6, 2) := by decide +kernel
theorem dX6_copy_140 : decode cX6_copy 140 = .ok (.iconst 0, 1) := by decide +kernel
theorem dX6_copy_141 : decode cX6_copy 141 = .ok (.istore 7, 2) := by decide +kernel
theorem dX6_copy_143 : decode cX6_copy 143 = .ok (.iload 7, 2) := by decide +kernel
theorem dX6_copy_145 : decode cX6_copy 145 = .ok (.iload 5, 2) := by decide +kernel
theorem dX6_copy_147 : decode cX6_copy 147 = .ok (.if_icmp .ge 57, 3) := by decide +kernel
theorem dX6_copy_150 : decode cX6_copy 150 = .ok (.iload 6, 2) := by decide +kernel
theorem dX6_copy_152 : decode cX6_copy 152 = .ok (.ifCond .eq 8, 3) := by decide +kernel
theorem dX6_copy_155 : decode cX6_copy 155 = .ok (.iload 7, 2) := by decide +kernel
theorem dX6_copy_157 : decode cX6_copy 157 = .ok (.goto 10, 3) := by decide +kernel
theorem dX6_copy_160 : decode cX6_copy 160 = .ok (.iload 5, 2) := by decide +kernel
theorem dX6_copy_162 : decode cX6_copy 162 = .ok (.iconst 1, 1) := by decide +kernel
theorem dX6_copy_163 : decode cX6_copy 163 = .ok (.isub, 1) := by decide +kernel
theorem dX6_copy_164 : decode cX6_copy 164 = .ok (.iload 7, 2) := by decide +kernel
theorem dX6_copy_166 : decode cX6_copy 166 = .ok (.isub, 1) := by decide +kernel
theorem dX6_copy_167 : decode cX6_copy 167 = .ok (.istore 8, 2) := by decide +kernel
theorem dX6_copy_169 : decode cX6_copy 169 = .ok (.aload_n 0, 1) := by decide +kernel
theorem dX6_copy_170 : decode cX6_copy 170 = .ok (.getfield 16, 3) := by decide +kernel
theorem dX6_copy_173 : decode cX6_copy 173 = .ok (.bipush 64, 2) := by decide +kernel
theorem dX6_copy_175 : decode cX6_copy 175 = .ok (.iload_n 3, 1) := by decide +kernel
theorem dX6_copy_176 : decode cX6_copy 176 = .ok (.imul, 1) := by decide +kernel
theorem dX6_copy_177 : decode cX6_copy 177 = .ok (.iload 4, 2) := by decide +kernel
theorem dX6_copy_179 : decode cX6_copy 179 = .ok (.iadd, 1) := by decide +kernel
theorem dX6_copy_180 : decode cX6_copy 180 = .ok (.iload 8, 2) := by decide +kernel
theorem dX6_copy_182 : decode cX6_copy 182 = .ok (.iadd, 1) := by decide +kernel
theorem dX6_copy_183 : decode cX6_copy 183 = .ok (.aload_n 0, 1) := by decide +kernel
theorem dX6_copy_184 : decode cX6_copy 184 = .ok (.getfield 16, 3) := by decide +kernel
theorem dX6_copy_187 : decode cX6_copy 187 = .ok (.bipush 64, 2) := by decide +kernel
theorem dX6_copy_189 : decode cX6_copy 189 = .ok (.iload_n 1, 1) := by decide +kernel
theorem dX6_copy_190 : decode cX6_copy 190 = .ok (.imul, 1) := by decide +kernel
theorem dX6_copy_191 : decode cX6_copy 191 = .ok (.iload_n 2, 1) := by decide +kernel
theorem dX6_copy_192 : decode cX6_copy 192 = .ok (.iadd, 1) := by decide +kernel
theorem dX6_copy_193 : decode cX6_copy 193 = .ok (.iload 8, 2) := by decide +kernel
theorem dX6_copy_195 : decode cX6_copy 195 = .ok (.iadd, 1) := by decide +kernel
theorem dX6_copy_196 : decode cX6_copy 196 = .ok (.iaload, 1) := by decide +kernel
theorem dX6_copy_197 : decode cX6_copy 197 = .ok (.iastore, 1) := by decide +kernel
theorem dX6_copy_198 : decode cX6_copy 198 = .ok (.iinc 7 1, 3) := by decide +kernel
theorem dX6_copy_201 : decode cX6_copy 201 = .ok (.goto (-58), 3) := by decide +kernel
theorem dX6_copy_204 : decode cX6_copy 204 = .ok (.iload 5, 2) := by decide +kernel
theorem dX6_copy_206 : decode cX6_copy 206 = .ok (.ireturn, 1) := by decide +kernel
set_option maxRecDepth 20000 in
theorem ggX6_drop_X6_isSheet : GoodIn wsX6_drop wsX6_isSheet := goodIn_r _ [9, 10, 11, 12, 8, 13] (by decide +kernel) (by decide +kernel)
set_option maxRecDepth 20000 in
theorem gX6_drop_X6_isSheet : GoodIn wsX6_drop (va_wsS RX6 95 yX6_isSheet wsX6_isSheet) := goodIn_app (goodIn_of _ (by decide +kernel)) ggX6_drop_X6_isSheet
set_option maxRecDepth 20000 in
theorem ggX6_drop_X6_found : GoodIn wsX6_drop wsX6_found := goodIn_r _ [17, 3, 18, 19, 20, 21, 22, 23, 24, 25, 26, 27, 28, 29, 30, 31, 32, 33, 34, 35, 36, 37, 38, 39, 40, 41, 42, 43, 44, 45, 46, 47, 48] (by decide +kernel) (by decide +kernel)
set_option maxRecDepth 20000 in
theorem gX6_drop_X6_found : GoodIn wsX6_drop (wsV RX6 102 RX6 yX6_found wsX6_found) := goodIn_app (goodIn_of _ (by decide +kernel)) ggX6_drop_X6_found
theorem dX6_drop_0 : decode cX6_drop 0 = .ok (.aload_n 0, 1) := by decide +kernel
theorem dX6_drop_1 : decode cX6_drop 1 = .ok (.iconst 0, 1) := by decide +kernel
theorem dX6_drop_2 : decode cX6_drop 2 = .ok (.putfield 81, 3) := by decide +kernel
theorem dX6_drop_5 : decode cX6_drop 5 = .ok (.iload_n 1, 1) := by decide +kernel
theorem dX6_drop_6 : decode cX6_drop 6 = .ok (.invokestatic 95, 3) := by decide +kernel
theorem dX6_drop_9 : decode cX6_drop 9 = .ok (.ifCond .ne 6, 3) := by decide +kernel
theorem dX6_drop_12 : decode cX6_drop 12 = .ok (.ldc 101, 2) := by decide +kernel
theorem dX6_drop_14 : decode cX6_drop 14 = .ok (.ireturn, 1) := by decide +kernel
theorem dX6_drop_15 : decode cX6_drop 15 = .ok (.aload_n 0, 1) := by decide +kernel
theorem dX6_drop_16 : decode cX6_drop 16 = .ok (.iconst 0, 1) := by decide +kernel
theorem dX6_drop_17 : decode cX6_drop 17 = .ok (.putfield 85, 3) := by decide +kernel
theorem dX6_drop_20 : decode cX6_drop 20 = .ok (.aload_n 0, 1) := by decide +kernel
theorem dX6_drop_21 : decode cX6_drop 21 = .ok (.getfield 7, 3) := by decide +kernel
theorem dX6_drop_24 : decode cX6_drop 24 = .ok (.iload_n 1, 1) := by decide +kernel
theorem dX6_drop_25 : decode cX6_drop 25 = .ok (.iaload, 1) := by decide +kernel
theorem dX6_drop_26 : decode cX6_drop 26 = .ok (.ifCond .ge 9, 3) := by decide +kernel
theorem dX6_drop_29 : decode cX6_drop 29 = .ok (.aload_n 0, 1) := by decide +kernel
theorem dX6_drop_30 : decode cX6_drop 30 = .ok (.iconst 1, 1) := by decide +kernel
theorem dX6_drop_31 : decode cX6_drop 31 = .ok (.invokevirtual 102, 3) := by decide +kernel
theorem dX6_drop_34 : decode cX6_drop 34 = .ok (.ireturn, 1) := by decide +kernel
theorem dX6_drop_35 : decode cX6_drop 35 = .ok (.aload_n 0, 1) := by decide +kernel
theorem dX6_drop_36 : decode cX6_drop 36 = .ok (.getfield 7, 3) := by decide +kernel
theorem dX6_drop_39 : decode cX6_drop 39 = .ok (.iload_n 1, 1) := by decide +kernel
theorem dX6_drop_40 : decode cX6_drop 40 = .ok (.iconst (-1), 1) := by decide +kernel
theorem dX6_drop_41 : decode cX6_drop 41 = .ok (.iastore, 1) := by decide +kernel
theorem dX6_drop_42 : decode cX6_drop 42 = .ok (.aload_n 0, 1) := by decide +kernel
theorem dX6_drop_43 : decode cX6_drop 43 = .ok (.getfield 13, 3) := by decide +kernel
theorem dX6_drop_46 : decode cX6_drop 46 = .ok (.iload_n 1, 1) := by decide +kernel
theorem dX6_drop_47 : decode cX6_drop 47 = .ok (.iaload, 1) := by decide +kernel
theorem dX6_drop_48 : decode cX6_drop 48 = .ok (.ireturn, 1) := by decide +kernel
set_option maxRecDepth 20000 in
theorem ggX6_isPlace_X6_in : GoodIn wsX6_isPlace wsX6_in := goodIn_r _ [5] (by decide +kernel) (by decide +kernel)
set_option maxRecDepth 20000 in
theorem gX6_isPlace_X6_in : GoodIn wsX6_isPlace (va_wsS RX6 91 yX6_in wsX6_in) := goodIn_app (goodIn_of _ (by decide +kernel)) ggX6_isPlace_X6_in
theorem dX6_isPlace_0 : decode cX6_isPlace 0 = .ok (.iload_n 0, 1) := by decide +kernel
theorem dX6_isPlace_1 : decode cX6_isPlace 1 = .ok (.i2l, 1) := by decide +kernel
theorem dX6_isPlace_2 : decode cX6_isPlace 2 = .ok (.lconst 0, 1) := by decide +kernel
theorem dX6_isPlace_3 : decode cX6_isPlace 3 = .ok (.ldc2_w 106, 3) := by decide +kernel
theorem dX6_isPlace_6 : decode cX6_isPlace 6 = .ok (.invokestatic 91, 3) := by decide +kernel
theorem dX6_isPlace_9 : decode cX6_isPlace 9 = .ok (.ireturn, 1) := by decide +kernel
theorem dX6_alive_0 : decode cX6_alive 0 = .ok (.iconst 0, 1) := by decide +kernel
theorem dX6_alive_1 : decode cX6_alive 1 = .ok (.istore_n 2, 1) := by decide +kernel
theorem dX6_alive_2 : decode cX6_alive 2 = .ok (.iconst 0, 1) := by decide +kernel
theorem dX6_alive_3 : decode cX6_alive 3 = .ok (.istore_n 3, 1) := by decide +kernel
theorem dX6_alive_4 : decode cX6_alive 4 = .ok (.iload_n 3, 1) := by decide +kernel
theorem dX6_alive_5 : decode cX6_alive 5 = .ok (.aload_n 0, 1) := by decide +kernel
theorem dX6_alive_6 : decode cX6_alive 6 = .ok (.getfield 19, 3) := by decide +kernel
theorem dX6_alive_9 : decode cX6_alive 9 = .ok (.iload_n 1, 1) := by decide +kernel
theorem dX6_alive_10 : decode cX6_alive 10 = .ok (.iaload, 1) := by decide +kernel
theorem dX6_alive_11 : decode cX6_alive 11 = .ok (.if_icmp .ge 31, 3) := by decide +kernel
theorem dX6_alive_14 : decode cX6_alive 14 = .ok (.iload_n 2, 1) := by decide +kernel
theorem dX6_alive_15 : decode cX6_alive 15 = .ok (.aload_n 0, 1) := by decide +kernel
theorem dX6_alive_16 : decode cX6_alive 16 = .ok (.getfield 28, 3) := by decide +kernel
theorem dX6_alive_19 : decode cX6_alive 19 = .ok (.bipush 12, 2) := by decide +kernel
theorem dX6_alive_21 : decode cX6_alive 21 = .ok (.iload_n 1, 1) := by decide +kernel
theorem dX6_alive_22 : decode cX6_alive 22 = .ok (.imul, 1) := by decide +kernel
theorem dX6_alive_23 : decode cX6_alive 23 = .ok (.iload_n 3, 1) := by decide +kernel
theorem dX6_alive_24 : decode cX6_alive 24 = .ok (.iadd, 1) := by decide +kernel
theorem dX6_alive_25 : decode cX6_alive 25 = .ok (.baload, 1) := by decide +kernel
theorem dX6_alive_26 : decode cX6_alive 26 = .ok (.ifCond .eq 7, 3) := by decide +kernel
theorem dX6_alive_29 : decode cX6_alive 29 = .ok (.iconst 0, 1) := by decide +kernel
theorem dX6_alive_30 : decode cX6_alive 30 = .ok (.goto 4, 3) := by decide +kernel
theorem dX6_alive_33 : decode cX6_alive 33 = .ok (.iconst 1, 1) := by decide +kernel
theorem dX6_alive_34 : decode cX6_alive 34 = .ok (.iadd, 1) := by decide +kernel
theorem dX6_alive_35 : decode cX6_alive 35 = .ok (.istore_n 2, 1) := by decide +kernel
theorem dX6_alive_36 : decode cX6_alive 36 = .ok (.iinc 3 1, 3) := by decide +kernel
theorem dX6_alive_39 : decode cX6_alive 39 = .ok (.goto (-35), 3) := by decide +kernel
theorem dX6_alive_42 : decode cX6_alive 42 = .ok (.iload_n 2, 1) := by decide +kernel
theorem dX6_alive_43 : decode cX6_alive 43 = .ok (.ireturn, 1) := by decide +kernel
set_option maxRecDepth 20000 in
theorem ggX6_kindOf_X6_alive : GoodIn wsX6_kindOf wsX6_alive := goodIn_r _ [6, 7, 8, 9, 10, 11, 12, 13, 14, 15, 16, 17, 18, 19, 20, 21, 22, 23, 24, 25, 26, 27, 28, 29, 30, 31, 32, 33, 34, 35, 36, 37, 38] (by decide +kernel) (by decide +kernel)
set_option maxRecDepth 20000 in
theorem gX6_kindOf_X6_alive : GoodIn wsX6_kindOf (wsV RX6 108 RX6 yX6_alive wsX6_alive) := goodIn_app (goodIn_of _ (by decide +kernel)) ggX6_kindOf_X6_alive
theorem dX6_kindOf_0 : decode cX6_kindOf 0 = .ok (.aload_n 0, 1) := by decide +kernel
theorem dX6_kindOf_1 : decode cX6_kindOf 1 = .ok (.iload_n 1, 1) := by decide +kernel
theorem dX6_kindOf_2 : decode cX6_kindOf 2 = .ok (.invokevirtual 108, 3) := by decide +kernel
theorem dX6_kindOf_5 : decode cX6_kindOf 5 = .ok (.istore_n 2, 1) := by decide +kernel
theorem dX6_kindOf_6 : decode cX6_kindOf 6 = .ok (.iload_n 2, 1) := by decide +kernel
theorem dX6_kindOf_7 : decode cX6_kindOf 7 = .ok (.iconst 2, 1) := by decide +kernel
theorem dX6_kindOf_8 : decode cX6_kindOf 8 = .ok (.aload_n 0, 1) := by decide +kernel
theorem dX6_kindOf_9 : decode cX6_kindOf 9 = .ok (.getfield 22, 3) := by decide +kernel
theorem dX6_kindOf_12 : decode cX6_kindOf 12 = .ok (.iload_n 1, 1) := by decide +kernel
theorem dX6_kindOf_13 : decode cX6_kindOf 13 = .ok (.iaload, 1) := by decide +kernel
theorem dX6_kindOf_14 : decode cX6_kindOf 14 = .ok (.imul, 1) := by decide +kernel
theorem dX6_kindOf_15 : decode cX6_kindOf 15 = .ok (.iconst 1, 1) := by decide +kernel
theorem dX6_kindOf_16 : decode cX6_kindOf 16 = .ok (.isub, 1) := by decide +kernel
theorem dX6_kindOf_17 : decode cX6_kindOf 17 = .ok (.if_icmp .lt 7, 3) := by decide +kernel
theorem dX6_kindOf_20 : decode cX6_kindOf 20 = .ok (.iconst 2, 1) := by decide +kernel
theorem dX6_kindOf_21 : decode cX6_kindOf 21 = .ok (.goto 27, 3) := by decide +kernel
theorem dX6_kindOf_24 : decode cX6_kindOf 24 = .ok (.iload_n 2, 1) := by decide +kernel
theorem dX6_kindOf_25 : decode cX6_kindOf 25 = .ok (.aload_n 0, 1) := by decide +kernel
theorem dX6_kindOf_26 : decode cX6_kindOf 26 = .ok (.getfield 22, 3) := by decide +kernel
theorem dX6_kindOf_29 : decode cX6_kindOf 29 = .ok (.iload_n 1, 1) := by decide +kernel
theorem dX6_kindOf_30 : decode cX6_kindOf 30 = .ok (.iaload, 1) := by decide +kernel
theorem dX6_kindOf_31 : decode cX6_kindOf 31 = .ok (.if_icmp .lt 7, 3) := by decide +kernel
theorem dX6_kindOf_34 : decode cX6_kindOf 34 = .ok (.iconst 1, 1) := by decide +kernel
theorem dX6_kindOf_35 : decode cX6_kindOf 35 = .ok (.goto 13, 3) := by decide +kernel
theorem dX6_kindOf_38 : decode cX6_kindOf 38 = .ok (.iload_n 2, 1) := by decide +kernel
theorem dX6_kindOf_39 : decode cX6_kindOf 39 = .ok (.iconst 1, 1) := by decide +kernel
theorem dX6_kindOf_40 : decode cX6_kindOf 40 = .ok (.if_icmp .ne 7, 3) := by decide +kernel
theorem dX6_kindOf_43 : decode cX6_kindOf 43 = .ok (.iconst 3, 1) := by decide +kernel
theorem dX6_kindOf_44 : decode cX6_kindOf 44 = .ok (.goto 4, 3) := by decide +kernel
theorem dX6_kindOf_47 : decode cX6_kindOf 47 = .ok (.iconst 0, 1) := by decide +kernel
theorem dX6_kindOf_48 : decode cX6_kindOf 48 = .ok (.ireturn, 1) := by decide +kernel
set_option maxRecDepth 20000 in
theorem ggX6_net_X6_isPlace : GoodIn wsX6_net wsX6_isPlace := goodIn_r _ [16, 17, 18, 19, 15, 20] (by decide +kernel) (by decide +kernel)
set_option maxRecDepth 20000 in
theorem gX6_net_X6_isPlace : GoodIn wsX6_net (va_wsS RX6 111 yX6_isPlace wsX6_isPlace) := goodIn_app (goodIn_of _ (by decide +kernel)) ggX6_net_X6_isPlace
set_option maxRecDepth 20000 in
theorem ggX6_net_X6_in : GoodIn wsX6_net wsX6_in := goodIn_r _ [20] (by decide +kernel) (by decide +kernel)
set_option maxRecDepth 20000 in
theorem gX6_net_X6_in : GoodIn wsX6_net (va_wsS RX6 91 yX6_in wsX6_in) := goodIn_app (goodIn_of _ (by decide +kernel)) ggX6_net_X6_in
set_option maxRecDepth 20000 in
theorem ggX6_net_X6_kindOf : GoodIn wsX6_net wsX6_kindOf := goodIn_r _ [24, 7, 25, 26, 27, 15, 28, 6, 9, 29, 30, 31, 32, 33, 34, 35, 36, 37, 38, 39, 40, 41, 42, 43, 44, 45, 46, 47, 48, 49, 50, 51, 52, 53, 54, 55, 56, 57, 58] (by decide +kernel) (by decide +kernel)
set_option maxRecDepth 20000 in
theorem gX6_net_X6_kindOf : GoodIn wsX6_net (wsV RX6 119 RX6 yX6_kindOf wsX6_kindOf) := goodIn_app (goodIn_of _ (by decide +kernel)) ggX6_net_X6_kindOf
theorem dX6_net_0 : decode cX6_net 0 = .ok (.aload_n 0, 1) := by decide +kernel
theorem dX6_net_1 : decode cX6_net 1 = .ok (.iconst 0, 1) := by decide +kernel
theorem dX6_net_2 : decode cX6_net 2 = .ok (.putfield 81, 3) := by decide +kernel
theorem dX6_net_5 : decode cX6_net 5 = .ok (.iload_n 1, 1) := by decide +kernel
theorem dX6_net_6 : decode cX6_net 6 = .ok (.invokestatic 111, 3) := by decide +kernel
theorem dX6_net_9 : decode cX6_net 9 = .ok (.ifCond .eq 40, 3) := by decide +kernel
theorem dX6_net_12 : decode cX6_net 12 = .ok (.iload_n 2, 1) := by decide +kernel
theorem dX6_net_13 : decode cX6_net 13 = .ok (.i2l, 1) := by decide +kernel
theorem dX6_net_14 : decode cX6_net 14 = .ok (.lconst 1, 1) := by decide +kernel
theorem dX6_net_15 : decode cX6_net 15 = .ok (.ldc2_w 114, 3) := by decide +kernel
theorem dX6_net_18 : decode cX6_net 18 = .ok (.invokestatic 91, 3) := by decide +kernel
theorem dX6_net_21 : decode cX6_net 21 = .ok (.ifCond .eq 28, 3) := by decide +kernel
theorem dX6_net_24 : decode cX6_net 24 = .ok (.iload_n 3, 1) := by decide +kernel
theorem dX6_net_25 : decode cX6_net 25 = .ok (.i2l, 1) := by decide +kernel
theorem dX6_net_26 : decode cX6_net 26 = .ok (.lconst 1, 1) := by decide +kernel
theorem dX6_net_27 : decode cX6_net 27 = .ok (.ldc2_w 116, 3) := by decide +kernel
theorem dX6_net_30 : decode cX6_net 30 = .ok (.invokestatic 91, 3) := by decide +kernel
theorem dX6_net_33 : decode cX6_net 33 = .ok (.ifCond .eq 16, 3) := by decide +kernel
theorem dX6_net_36 : decode cX6_net 36 = .ok (.iload 4, 2) := by decide +kernel
theorem dX6_net_38 : decode cX6_net 38 = .ok (.i2l, 1) := by decide +kernel
theorem dX6_net_39 : decode cX6_net 39 = .ok (.lconst 1, 1) := by decide +kernel
theorem dX6_net_40 : decode cX6_net 40 = .ok (.ldc2_w 116, 3) := by decide +kernel
theorem dX6_net_43 : decode cX6_net 43 = .ok (.invokestatic 91, 3) := by decide +kernel
theorem dX6_net_46 : decode cX6_net 46 = .ok (.ifCond .ne 6, 3) := by decide +kernel
theorem dX6_net_49 : decode cX6_net 49 = .ok (.ldc 101, 2) := by decide +kernel
theorem dX6_net_51 : decode cX6_net 51 = .ok (.ireturn, 1) := by decide +kernel
theorem dX6_net_52 : decode cX6_net 52 = .ok (.aload_n 0, 1) := by decide +kernel
theorem dX6_net_53 : decode cX6_net 53 = .ok (.iconst 0, 1) := by decide +kernel
theorem dX6_net_54 : decode cX6_net 54 = .ok (.putfield 85, 3) := by decide +kernel
theorem dX6_net_57 : decode cX6_net 57 = .ok (.aload_n 0, 1) := by decide +kernel
theorem dX6_net_58 : decode cX6_net 58 = .ok (.getfield 19, 3) := by decide +kernel
theorem dX6_net_61 : decode cX6_net 61 = .ok (.iload_n 1, 1) := by decide +kernel
theorem dX6_net_62 : decode cX6_net 62 = .ok (.iload_n 2, 1) := by decide +kernel
theorem dX6_net_63 : decode cX6_net 63 = .ok (.iastore, 1) := by decide +kernel
theorem dX6_net_64 : decode cX6_net 64 = .ok (.aload_n 0, 1) := by decide +kernel
theorem dX6_net_65 : decode cX6_net 65 = .ok (.getfield 22, 3) := by decide +kernel
theorem dX6_net_68 : decode cX6_net 68 = .ok (.iload_n 1, 1) := by decide +kernel
theorem dX6_net_69 : decode cX6_net 69 = .ok (.iload_n 3, 1) := by decide +kernel
theorem dX6_net_70 : decode cX6_net 70 = .ok (.iastore, 1) := by decide +kernel
theorem dX6_net_71 : decode cX6_net 71 = .ok (.aload_n 0, 1) := by decide +kernel
theorem dX6_net_72 : decode cX6_net 72 = .ok (.getfield 25, 3) := by decide +kernel
theorem dX6_net_75 : decode cX6_net 75 = .ok (.iload_n 1, 1) := by decide +kernel
theorem dX6_net_76 : decode cX6_net 76 = .ok (.iload 4, 2) := by decide +kernel
theorem dX6_net_78 : decode cX6_net 78 = .ok (.iastore, 1) := by decide +kernel
theorem dX6_net_79 : decode cX6_net 79 = .ok (.iconst 0, 1) := by decide +kernel
theorem dX6_net_80 : decode cX6_net 80 = .ok (.istore 5, 2) := by decide +kernel
theorem dX6_net_82 : decode cX6_net 82 = .ok (.iload 5, 2) := by decide +kernel
theorem dX6_net_84 : decode cX6_net 84 = .ok (.bipush 12, 2) := by decide +kernel
theorem dX6_net_86 : decode cX6_net 86 = .ok (.if_icmp .ge 22, 3) := by decide +kernel
theorem dX6_net_89 : decode cX6_net 89 = .ok (.aload_n 0, 1) := by decide +kernel
theorem dX6_net_90 : decode cX6_net 90 = .ok (.getfield 28, 3) := by decide +kernel
theorem dX6_net_93 : decode cX6_net 93 = .ok (.bipush 12, 2) := by decide +kernel
theorem dX6_net_95 : decode cX6_net 95 = .ok (.iload_n 1, 1) := by decide +kernel
theorem dX6_net_96 : decode cX6_net 96 = .ok (.imul, 1) := by decide +kernel
theorem dX6_net_97 : decode cX6_net 97 = .ok (.iload 5, 2) := by decide +kernel
theorem dX6_net_99 : decode cX6_net 99 = .ok (.iadd, 1) := by decide +kernel
theorem dX6_net_100 : decode cX6_net 100 = .ok (.iconst 0, 1) := by decide +kernel
theorem dX6_net_101 : decode cX6_net 101 = .ok (.bastore, 1) := by decide +kernel
theorem dX6_net_102 : decode cX6_net 102 = .ok (.iinc 5 1, 3) := by decide +kernel
theorem dX6_net_105 : decode cX6_net 105 = .ok (.goto (-23), 3) := by decide +kernel
theorem dX6_net_108 : decode cX6_net 108 = .ok (.iconst 0, 1) := by decide +kernel
theorem dX6_net_109 : decode cX6_net 109 = .ok (.istore 5, 2) := by decide +kernel
theorem dX6_net_111 : decode cX6_net 111 = .ok (.iload 5, 2) := by decide +kernel
theorem dX6_net_113 : decode cX6_net 113 = .ok (.bipush 36, 2) := by decide +kernel
theorem dX6_net_115 : decode cX6_net 115 = .ok (.if_icmp .ge 37, 3) := by decide +kernel
theorem dX6_net_118 : decode cX6_net 118 = .ok (.aload_n 0, 1) := by decide +kernel
theorem dX6_net_119 : decode cX6_net 119 = .ok (.getfield 32, 3) := by decide +kernel
theorem dX6_net_122 : decode cX6_net 122 = .ok (.bipush 36, 2) := by decide +kernel
theorem dX6_net_124 : decode cX6_net 124 = .ok (.iload_n 1, 1) := by decide +kernel
theorem dX6_net_125 : decode cX6_net 125 = .ok (.imul, 1) := by decide +kernel
theorem dX6_net_126 : decode cX6_net 126 = .ok (.iload 5, 2) := by decide +kernel
theorem dX6_net_128 : decode cX6_net 128 = .ok (.iadd, 1) := by decide +kernel
theorem dX6_net_129 : decode cX6_net 129 = .ok (.ldc 118, 2) := by decide +kernel
theorem dX6_net_131 : decode cX6_net 131 = .ok (.iastore, 1) := by decide +kernel
theorem dX6_net_132 : decode cX6_net 132 = .ok (.aload_n 0, 1) := by decide +kernel
theorem dX6_net_133 : decode cX6_net 133 = .ok (.getfield 35, 3) := by decide +kernel
theorem dX6_net_136 : decode cX6_net 136 = .ok (.bipush 36, 2) := by decide +kernel
theorem dX6_net_138 : decode cX6_net 138 = .ok (.iload_n 1, 1) := by decide +kernel
theorem dX6_net_139 : decode cX6_net 139 = .ok (.imul, 1) := by decide +kernel
theorem dX6_net_140 : decode cX6_net 140 = .ok (.iload 5, 2) := by decide +kernel
theorem dX6_net_142 : decode cX6_net 142 = .ok (.iadd, 1) := by decide +kernel
theorem dX6_net_143 : decode cX6_net 143 = .ok (.ldc 118, 2) := by decide +kernel
theorem dX6_net_145 : decode cX6_net 145 = .ok (.iastore, 1) := by decide +kernel
theorem dX6_net_146 : decode cX6_net 146 = .ok (.iinc 5 1, 3) := by decide +kernel
theorem dX6_net_149 : decode cX6_net 149 = .ok (.goto (-38), 3) := by decide +kernel
theorem dX6_net_152 : decode cX6_net 152 = .ok (.aload_n 0, 1) := by decide +kernel
theorem dX6_net_153 : decode cX6_net 153 = .ok (.iload_n 1, 1) := by decide +kernel
theorem dX6_net_154 : decode cX6_net 154 = .ok (.invokevirtual 119, 3) := by decide +kernel
theorem dX6_net_157 : decode cX6_net 157 = .ok (.ireturn, 1) := by decide +kernel
set_option maxRecDepth 20000 in
theorem ggX6_clear_X6_isPlace : GoodIn wsX6_clear wsX6_isPlace := goodIn_r _ [7, 8, 9, 10, 6, 11] (by decide +kernel) (by decide +kernel)
set_option maxRecDepth 20000 in
theorem gX6_clear_X6_isPlace : GoodIn wsX6_clear (va_wsS RX6 111 yX6_isPlace wsX6_isPlace) := goodIn_app (goodIn_of _ (by decide +kernel)) ggX6_clear_X6_isPlace
theorem dX6_clear_0 : decode cX6_clear 0 = .ok (.aload_n 0, 1) := by decide +kernel
theorem dX6_clear_1 : decode cX6_clear 1 = .ok (.iconst 0, 1) := by decide +kernel
theorem dX6_clear_2 : decode cX6_clear 2 = .ok (.putfield 81, 3) := by decide +kernel
theorem dX6_clear_5 : decode cX6_clear 5 = .ok (.iload_n 1, 1) := by decide +kernel
theorem dX6_clear_6 : decode cX6_clear 6 = .ok (.invokestatic 111, 3) := by decide +kernel
theorem dX6_clear_9 : decode cX6_clear 9 = .ok (.ifCond .ne 6, 3) := by decide +kernel
theorem dX6_clear_12 : decode cX6_clear 12 = .ok (.ldc 101, 2) := by decide +kernel
theorem dX6_clear_14 : decode cX6_clear 14 = .ok (.ireturn, 1) := by decide +kernel
theorem dX6_clear_15 : decode cX6_clear 15 = .ok (.aload_n 0, 1) := by decide +kernel
theorem dX6_clear_16 : decode cX6_clear 16 = .ok (.getfield 19, 3) := by decide +kernel
theorem dX6_clear_19 : decode cX6_clear 19 = .ok (.iload_n 1, 1) := by decide +kernel
theorem dX6_clear_20 : decode cX6_clear 20 = .ok (.iaload, 1) := by decide +kernel
theorem dX6_clear_21 : decode cX6_clear 21 = .ok (.ifCond .le 7, 3) := by decide +kernel
theorem dX6_clear_24 : decode cX6_clear 24 = .ok (.iconst 1, 1) := by decide +kernel
theorem dX6_clear_25 : decode cX6_clear 25 = .ok (.goto 4, 3) := by decide +kernel
theorem dX6_clear_28 : decode cX6_clear 28 = .ok (.iconst 0, 1) := by decide +kernel
theorem dX6_clear_29 : decode cX6_clear 29 = .ok (.istore_n 2, 1) := by decide +kernel
theorem dX6_clear_30 : decode cX6_clear 30 = .ok (.aload_n 0, 1) := by decide +kernel
theorem dX6_clear_31 : decode cX6_clear 31 = .ok (.getfield 19, 3) := by decide +kernel
theorem dX6_clear_34 : decode cX6_clear 34 = .ok (.iload_n 1, 1) := by decide +kernel
theorem dX6_clear_35 : decode cX6_clear 35 = .ok (.iconst 0, 1) := by decide +kernel
theorem dX6_clear_36 : decode cX6_clear 36 = .ok (.iastore, 1) := by decide +kernel
theorem dX6_clear_37 : decode cX6_clear 37 = .ok (.iload_n 2, 1) := by decide +kernel
theorem dX6_clear_38 : decode cX6_clear 38 = .ok (.ifCond .eq 7, 3) := by decide +kernel
theorem dX6_clear_41 : decode cX6_clear 41 = .ok (.iconst 1, 1) := by decide +kernel
theorem dX6_clear_42 : decode cX6_clear 42 = .ok (.goto 4, 3) := by decide +kernel
theorem dX6_clear_45 : decode cX6_clear 45 = .ok (.iconst 0, 1) := by decide +kernel
theorem dX6_clear_46 : decode cX6_clear 46 = .ok (.ireturn, 1) := by decide +kernel
set_option maxRecDepth 20000 in
theorem ggX6_look_X6_found : GoodIn wsX6_look wsX6_found := goodIn_r _ [7, 1, 8, 9, 10, 11, 12, 13, 14, 15, 16, 17, 18, 19, 20, 21, 22, 23, 24, 25, 26, 27, 28, 29, 30, 31, 32, 33, 34, 35, 36, 37, 38] (by decide +kernel) (by decide +kernel)
set_option maxRecDepth 20000 in
theorem gX6_look_X6_found : GoodIn wsX6_look (wsV RX6 102 RX6 yX6_found wsX6_found) := goodIn_app (goodIn_of _ (by decide +kernel)) ggX6_look_X6_found
theorem dX6_look_0 : decode cX6_look 0 = .ok (.aload_n 0, 1) := by decide +kernel
theorem dX6_look_1 : decode cX6_look 1 = .ok (.iconst 0, 1) := by decide +kernel
theorem dX6_look_2 : decode cX6_look 2 = .ok (.putfield 85, 3) := by decide +kernel
theorem dX6_look_5 : decode cX6_look 5 = .ok (.aload_n 0, 1) := by decide +kernel
theorem dX6_look_6 : decode cX6_look 6 = .ok (.getfield 19, 3) := by decide +kernel
theorem dX6_look_9 : decode cX6_look 9 = .ok (.iload_n 1, 1) := by decide +kernel
theorem dX6_look_10 : decode cX6_look 10 = .ok (.iaload, 1) := by decide +kernel
theorem dX6_look_11 : decode cX6_look 11 = .ok (.ifCond .ne 11, 3) := by decide +kernel
theorem dX6_look_14 : decode cX6_look 14 = .ok (.aload_n 0, 1) := by decide +kernel
theorem dX6_look_15 : decode cX6_look 15 = .ok (.iconst 1, 1) := by decide +kernel
theorem dX6_look_16 : decode cX6_look 16 = .ok (.invokevirtual 102, 3) := by decide +kernel
theorem dX6_look_19 : decode cX6_look 19 = .ok (.goto 4, 3) := by decide +kernel
theorem dX6_look_22 : decode cX6_look 22 = .ok (.iconst 0, 1) := by decide +kernel
theorem dX6_look_23 : decode cX6_look 23 = .ok (.ireturn, 1) := by decide +kernel
set_option maxRecDepth 20000 in
theorem ggX6_kind_X6_isPlace : GoodIn wsX6_kind wsX6_isPlace := goodIn_r _ [6, 7, 8, 9, 5, 10] (by decide +kernel) (by decide +kernel)
set_option maxRecDepth 20000 in
theorem gX6_kind_X6_isPlace : GoodIn wsX6_kind (va_wsS RX6 111 yX6_isPlace wsX6_isPlace) := goodIn_app (goodIn_of _ (by decide +kernel)) ggX6_kind_X6_isPlace
set_option maxRecDepth 20000 in
theorem ggX6_kind_X6_look : GoodIn wsX6_kind wsX6_look := goodIn_r _ [14, 15, 16, 17, 18, 19, 5, 20, 21, 32, 33, 34, 35, 36, 37, 38, 39, 40, 41, 42, 43, 44, 45, 46, 47, 48, 49, 50, 51, 52, 53, 54, 55, 56, 57, 58, 59, 60, 61] (by decide +kernel) (by decide +kernel)
set_option maxRecDepth 20000 in
theorem gX6_kind_X6_look : GoodIn wsX6_kind (wsV RX6 122 RX6 yX6_look wsX6_look) := goodIn_app (goodIn_of _ (by decide +kernel)) ggX6_kind_X6_look
set_option maxRecDepth 20000 in
theorem ggX6_kind_X6_kindOf : GoodIn wsX6_kind wsX6_kindOf := goodIn_r _ [25, 26, 27, 28, 29, 5, 30, 16, 31, 32, 33, 34, 35, 36, 37, 38, 39, 40, 41, 42, 43, 44, 45, 46, 47, 48, 49, 50, 51, 52, 53, 54, 55, 56, 57, 58, 59, 60, 61] (by decide +kernel) (by decide +kernel)
set_option maxRecDepth 20000 in
theorem gX6_kind_X6_kindOf : GoodIn wsX6_kind (wsV RX6 119 RX6 yX6_kindOf wsX6_kindOf) := goodIn_app (goodIn_of _ (by decide +kernel)) ggX6_kind_X6_kindOf
theorem dX6_kind_0 : decode cX6_kind 0 = .ok (.aload_n 0, 1) := by decide +kernel
theorem dX6_kind_1 : decode cX6_kind 1 = .ok (.iconst 0, 1) := by decide +kernel
theorem dX6_kind_2 : decode cX6_kind 2 = .ok (.putfield 81, 3) := by decide +kernel
theorem dX6_kind_5 : decode cX6_kind 5 = .ok (.iload_n 1, 1) := by decide +kernel
theorem dX6_kind_6 : decode cX6_kind 6 = .ok (.invokestatic 111, 3) := by decide +kernel
theorem dX6_kind_9 : decode cX6_kind 9 = .ok (.ifCond .ne 6, 3) := by decide +kernel
theorem dX6_kind_12 : decode cX6_kind 12 = .ok (.ldc 101, 2) := by decide +kernel
theorem dX6_kind_14 : decode cX6_kind 14 = .ok (.ireturn, 1) := by decide +kernel
theorem dX6_kind_15 : decode cX6_kind 15 = .ok (.aload_n 0, 1) := by decide +kernel
theorem dX6_kind_16 : decode cX6_kind 16 = .ok (.iload_n 1, 1) := by decide +kernel
theorem dX6_kind_17 : decode cX6_kind 17 = .ok (.invokevirtual 122, 3) := by decide +kernel
theorem dX6_kind_20 : decode cX6_kind 20 = .ok (.istore_n 2, 1) := by decide +kernel
theorem dX6_kind_21 : decode cX6_kind 21 = .ok (.iload_n 2, 1) := by decide +kernel
theorem dX6_kind_22 : decode cX6_kind 22 = .ok (.ifCond .ge 7, 3) := by decide +kernel
theorem dX6_kind_25 : decode cX6_kind 25 = .ok (.iload_n 2, 1) := by decide +kernel
theorem dX6_kind_26 : decode cX6_kind 26 = .ok (.goto 8, 3) := by decide +kernel
theorem dX6_kind_29 : decode cX6_kind 29 = .ok (.aload_n 0, 1) := by decide +kernel
theorem dX6_kind_30 : decode cX6_kind 30 = .ok (.iload_n 1, 1) := by decide +kernel
theorem dX6_kind_31 : decode cX6_kind 31 = .ok (.invokevirtual 119, 3) := by decide +kernel
theorem dX6_kind_34 : decode cX6_kind 34 = .ok (.ireturn, 1) := by decide +kernel
theorem dX6_isOf_0 : decode cX6_isOf 0 = .ok (.iload_n 1, 1) := by decide +kernel
theorem dX6_isOf_1 : decode cX6_isOf 1 = .ok (.ifCond .eq 18, 3) := by decide +kernel
theorem dX6_isOf_4 : decode cX6_isOf 4 = .ok (.iload_n 0, 1) := by decide +kernel
theorem dX6_isOf_5 : decode cX6_isOf 5 = .ok (.iload_n 1, 1) := by decide +kernel
theorem dX6_isOf_6 : decode cX6_isOf 6 = .ok (.if_icmp .eq 13, 3) := by decide +kernel
theorem dX6_isOf_9 : decode cX6_isOf 9 = .ok (.iload_n 1, 1) := by decide +kernel
theorem dX6_isOf_10 : decode cX6_isOf 10 = .ok (.iconst 1, 1) := by decide +kernel
theorem dX6_isOf_11 : decode cX6_isOf 11 = .ok (.if_icmp .ne 12, 3) := by decide +kernel
theorem dX6_isOf_14 : decode cX6_isOf 14 = .ok (.iload_n 0, 1) := by decide +kernel
theorem dX6_isOf_15 : decode cX6_isOf 15 = .ok (.iconst 2, 1) := by decide +kernel
theorem dX6_isOf_16 : decode cX6_isOf 16 = .ok (.if_icmp .ne 7, 3) := by decide +kernel
theorem dX6_isOf_19 : decode cX6_isOf 19 = .ok (.iconst 1, 1) := by decide +kernel
theorem dX6_isOf_20 : decode cX6_isOf 20 = .ok (.goto 4, 3) := by decide +kernel
theorem dX6_isOf_23 : decode cX6_isOf 23 = .ok (.iconst 0, 1) := by decide +kernel
theorem dX6_isOf_24 : decode cX6_isOf 24 = .ok (.ireturn, 1) := by decide +kernel
set_option maxRecDepth 20000 in
theorem ggX6_is_X6_isPlace : GoodIn wsX6_is wsX6_isPlace := goodIn_r _ [8, 9, 10, 11, 7, 12] (by decide +kernel) (by decide +kernel)
set_option maxRecDepth 20000 in
theorem gX6_is_X6_isPlace : GoodIn wsX6_is (va_wsS RX6 111 yX6_isPlace wsX6_isPlace) := goodIn_app (goodIn_of _ (by decide +kernel)) ggX6_is_X6_isPlace
set_option maxRecDepth 20000 in
theorem ggX6_is_X6_in : GoodIn wsX6_is wsX6_in := goodIn_r _ [12] (by decide +kernel) (by decide +kernel)
set_option maxRecDepth 20000 in
theorem gX6_is_X6_in : GoodIn wsX6_is (va_wsS RX6 91 yX6_in wsX6_in) := goodIn_app (goodIn_of _ (by decide +kernel)) ggX6_is_X6_in
set_option maxRecDepth 20000 in
theorem ggX6_is_X6_kindOf : GoodIn wsX6_is wsX6_kindOf := goodIn_r _ [16, 17, 18, 19, 20, 7, 21, 4, 22, 26, 27, 28, 29, 30, 31, 32, 33, 34, 35, 36, 37, 38, 39, 40, 41, 42, 43, 44, 45, 46, 47, 48, 49, 50, 51, 52, 53, 54, 55] (by decide +kernel) (by decide +kernel)
set_option maxRecDepth 20000 in
theorem gX6_is_X6_kindOf : GoodIn wsX6_is (wsV RX6 119 RX6 yX6_kindOf wsX6_kindOf) := goodIn_app (goodIn_of _ (by decide +kernel)) ggX6_is_X6_kindOf
set_option maxRecDepth 20000 in
theorem ggX6_is_X6_isOf : GoodIn wsX6_is wsX6_isOf := goodIn_r _ [25] (by decide +kernel) (by decide +kernel)
set_option maxRecDepth 20000 in
theorem gX6_is_X6_isOf : GoodIn wsX6_is (va_wsS RX6 127 yX6_isOf wsX6_isOf) := goodIn_app (goodIn_of _ (by decide +kernel)) ggX6_is_X6_isOf
theorem dX6_is_0 : decode cX6_is 0 = .ok (.aload_n 0, 1) := by decide +kernel
theorem dX6_is_1 : decode cX6_is 1 = .ok (.iconst 0, 1) := by decide +kernel
theorem dX6_is_2 : decode cX6_is 2 = .ok (.putfield 81, 3) := by decide +kernel
theorem dX6_is_5 : decode cX6_is 5 = .ok (.iload_n 1, 1) := by decide +kernel
theorem dX6_is_6 : decode cX6_is 6 = .ok (.invokestatic 111, 3) := by decide +kernel
theorem dX6_is_9 : decode cX6_is 9 = .ok (.ifCond .eq 15, 3) := by decide +kernel
theorem dX6_is_12 : decode cX6_is 12 = .ok (.iload_n 2, 1) := by decide +kernel
theorem dX6_is_13 : decode cX6_is 13 = .ok (.i2l, 1) := by decide +kernel
theorem dX6_is_14 : decode cX6_is 14 = .ok (.lconst 0, 1) := by decide +kernel
theorem dX6_is_15 : decode cX6_is 15 = .ok (.ldc2_w 125, 3) := by decide +kernel
theorem dX6_is_18 : decode cX6_is 18 = .ok (.invokestatic 91, 3) := by decide +kernel
theorem dX6_is_21 : decode cX6_is 21 = .ok (.ifCond .ne 8, 3) := by decide +kernel
theorem dX6_is_24 : decode cX6_is 24 = .ok (.ldc 101, 2) := by decide +kernel
theorem dX6_is_26 : decode cX6_is 26 = .ok (.goto 29, 3) := by decide +kernel
theorem dX6_is_29 : decode cX6_is 29 = .ok (.aload_n 0, 1) := by decide +kernel
theorem dX6_is_30 : decode cX6_is 30 = .ok (.getfield 19, 3) := by decide +kernel
theorem dX6_is_33 : decode cX6_is 33 = .ok (.iload_n 1, 1) := by decide +kernel
theorem dX6_is_34 : decode cX6_is 34 = .ok (.iaload, 1) := by decide +kernel
theorem dX6_is_35 : decode cX6_is 35 = .ok (.ifCond .le 19, 3) := by decide +kernel
theorem dX6_is_38 : decode cX6_is 38 = .ok (.aload_n 0, 1) := by decide +kernel
theorem dX6_is_39 : decode cX6_is 39 = .ok (.iload_n 1, 1) := by decide +kernel
theorem dX6_is_40 : decode cX6_is 40 = .ok (.invokevirtual 119, 3) := by decide +kernel
theorem dX6_is_43 : decode cX6_is 43 = .ok (.iload_n 2, 1) := by decide +kernel
theorem dX6_is_44 : decode cX6_is 44 = .ok (.invokestatic 127, 3) := by decide +kernel
theorem dX6_is_47 : decode cX6_is 47 = .ok (.ifCond .eq 7, 3) := by decide +kernel
theorem dX6_is_50 : decode cX6_is 50 = .ok (.iconst 1, 1) := by decide +kernel
theorem dX6_is_51 : decode cX6_is 51 = .ok (.goto 4, 3) := by decide +kernel
theorem dX6_is_54 : decode cX6_is 54 = .ok (.iconst 0, 1) := by decide +kernel
theorem dX6_is_55 : decode cX6_is 55 = .ok (.ireturn, 1) := by decide +kernel
set_option maxRecDepth 20000 in
theorem ggX6_as_X6_isPlace : GoodIn wsX6_as wsX6_isPlace := goodIn_r _ [7, 8, 9, 10, 6, 11] (by decide +kernel) (by decide +kernel)
set_option maxRecDepth 20000 in
theorem gX6_as_X6_isPlace : GoodIn wsX6_as (va_wsS RX6 111 yX6_isPlace wsX6_isPlace) := goodIn_app (goodIn_of _ (by decide +kernel)) ggX6_as_X6_isPlace
set_option maxRecDepth 20000 in
theorem ggX6_as_X6_in : GoodIn wsX6_as wsX6_in := goodIn_r _ [11] (by decide +kernel) (by decide +kernel)
set_option maxRecDepth 20000 in
theorem gX6_as_X6_in : GoodIn wsX6_as (va_wsS RX6 91 yX6_in wsX6_in) := goodIn_app (goodIn_of _ (by decide +kernel)) ggX6_as_X6_in
set_option maxRecDepth 20000 in
theorem ggX6_as_X6_look : GoodIn wsX6_as wsX6_look := goodIn_r _ [15, 16, 17, 18, 19, 20, 6, 21, 22, 36, 37, 38, 39, 40, 41, 42, 43, 44, 45, 46, 47, 48, 49, 50, 51, 52, 53, 54, 55, 56, 57, 58, 59, 60, 61, 62, 63, 64, 65] (by decide +kernel) (by decide +kernel)
set_option maxRecDepth 20000 in
theorem gX6_as_X6_look : GoodIn wsX6_as (wsV RX6 122 RX6 yX6_look wsX6_look) := goodIn_app (goodIn_of _ (by decide +kernel)) ggX6_as_X6_look
set_option maxRecDepth 20000 in
theorem ggX6_as_X6_kindOf : GoodIn wsX6_as wsX6_kindOf := goodIn_r _ [26, 27, 28, 29, 30, 6, 31, 17, 32, 36, 37, 38, 39, 40, 41, 42, 43, 44, 45, 46, 47, 48, 49, 50, 51, 52, 53, 54, 55, 56, 57, 58, 59, 60, 61, 62, 63, 64, 65] (by decide +kernel) (by decide +kernel)
set_option maxRecDepth 20000 in
theorem gX6_as_X6_kindOf : GoodIn wsX6_as (wsV RX6 119 RX6 yX6_kindOf wsX6_kindOf) := goodIn_app (goodIn_of _ (by decide +kernel)) ggX6_as_X6_kindOf
set_option maxRecDepth 20000 in
theorem ggX6_as_X6_isOf : GoodIn wsX6_as wsX6_isOf := goodIn_r _ [35] (by decide +kernel) (by decide +kernel)
set_option maxRecDepth 20000 in
theorem gX6_as_X6_isOf : GoodIn wsX6_as (va_wsS RX6 127 yX6_isOf wsX6_isOf) := goodIn_app (goodIn_of _ (by decide +kernel)) ggX6_as_X6_isOf
set_option maxRecDepth 20000 in
theorem ggX6_as_X6_alive : GoodIn wsX6_as wsX6_alive := goodIn_r _ [31, 17, 32, 36, 37, 38, 39, 40, 41, 42, 43, 44, 45, 46, 47, 48, 49, 50, 51, 52, 53, 54, 55, 56, 57, 58, 59, 60, 61, 62, 63, 64, 65] (by decide +kernel) (by decide +kernel)
set_option maxRecDepth 20000 in
theorem gX6_as_X6_alive : GoodIn wsX6_as (wsV RX6 108 RX6 yX6_alive wsX6_alive) := goodIn_app (goodIn_of _ (by decide +kernel)) ggX6_as_X6_alive
set_option maxRecDepth 20000 in
theorem ggX6_as_X6_found : GoodIn wsX6_as wsX6_found := goodIn_r _ [21, 16, 22, 36, 37, 38, 39, 40, 41, 42, 43, 44, 45, 46, 47, 48, 49, 50, 51, 52, 53, 54, 55, 56, 57, 58, 59, 60, 61, 62, 63, 64, 65] (by decide +kernel) (by decide +kernel)
set_option maxRecDepth 20000 in
theorem gX6_as_X6_found : GoodIn wsX6_as (wsV RX6 102 RX6 yX6_found wsX6_found) := goodIn_app (goodIn_of _ (by decide +kernel)) ggX6_as_X6_found
theorem dX6_as_0 : decode cX6_as 0 = .ok (.aload_n 0, 1) := by decide +kernel
theorem dX6_as_1 : decode cX6_as 1 = .ok (.iconst 0, 1) := by decide +kernel
theorem dX6_as_2 : decode cX6_as 2 = .ok (.putfield 81, 3) := by decide +kernel
theorem dX6_as_5 : decode cX6_as 5 = .ok (.iload_n 1, 1) := by decide +kernel
theorem dX6_as_6 : decode cX6_as 6 = .ok (.invokestatic 111, 3) := by decide +kernel
theorem dX6_as_9 : decode cX6_as 9 = .ok (.ifCond .eq 15, 3) := by decide +kernel
theorem dX6_as_12 : decode cX6_as 12 = .ok (.iload_n 2, 1) := by decide +kernel
theorem dX6_as_13 : decode cX6_as 13 = .ok (.i2l, 1) := by decide +kernel
theorem dX6_as_14 : decode cX6_as 14 = .ok (.lconst 0, 1) := by decide +kernel
theorem dX6_as_15 : decode cX6_as 15 = .ok (.ldc2_w 125, 3) := by decide +kernel
theorem dX6_as_18 : decode cX6_as 18 = .ok (.invokestatic 91, 3) := by decide +kernel
theorem dX6_as_21 : decode cX6_as 21 = .ok (.ifCond .ne 6, 3) := by decide +kernel
theorem dX6_as_24 : decode cX6_as 24 = .ok (.ldc 101, 2) := by decide +kernel
theorem dX6_as_26 : decode cX6_as 26 = .ok (.ireturn, 1) := by decide +kernel
theorem dX6_as_27 : decode cX6_as 27 = .ok (.aload_n 0, 1) := by decide +kernel
theorem dX6_as_28 : decode cX6_as 28 = .ok (.iload_n 1, 1) := by decide +kernel
theorem dX6_as_29 : decode cX6_as 29 = .ok (.invokevirtual 122, 3) := by decide +kernel
theorem dX6_as_32 : decode cX6_as 32 = .ok (.istore_n 3, 1) := by decide +kernel
theorem dX6_as_33 : decode cX6_as 33 = .ok (.iload_n 3, 1) := by decide +kernel
theorem dX6_as_34 : decode cX6_as 34 = .ok (.ifCond .ge 7, 3) := by decide +kernel
theorem dX6_as_37 : decode cX6_as 37 = .ok (.iload_n 3, 1) := by decide +kernel
theorem dX6_as_38 : decode cX6_as 38 = .ok (.goto 28, 3) := by decide +kernel
theorem dX6_as_41 : decode cX6_as 41 = .ok (.aload_n 0, 1) := by decide +kernel
theorem dX6_as_42 : decode cX6_as 42 = .ok (.iload_n 1, 1) := by decide +kernel
theorem dX6_as_43 : decode cX6_as 43 = .ok (.invokevirtual 119, 3) := by decide +kernel
theorem dX6_as_46 : decode cX6_as 46 = .ok (.iload_n 2, 1) := by decide +kernel
theorem dX6_as_47 : decode cX6_as 47 = .ok (.invokestatic 127, 3) := by decide +kernel
theorem dX6_as_50 : decode cX6_as 50 = .ok (.ifCond .eq 11, 3) := by decide +kernel
theorem dX6_as_53 : decode cX6_as 53 = .ok (.aload_n 0, 1) := by decide +kernel
theorem dX6_as_54 : decode cX6_as 54 = .ok (.iload_n 1, 1) := by decide +kernel
theorem dX6_as_55 : decode cX6_as 55 = .ok (.invokevirtual 108, 3) := by decide +kernel
theorem dX6_as_58 : decode cX6_as 58 = .ok (.goto 8, 3) := by decide +kernel
theorem dX6_as_61 : decode cX6_as 61 = .ok (.aload_n 0, 1) := by decide +kernel
theorem dX6_as_62 : decode cX6_as 62 = .ok (.iconst 3, 1) := by decide +kernel
theorem dX6_as_63 : decode cX6_as 63 = .ok (.invokevirtual 102, 3) := by decide +kernel
theorem dX6_as_66 : decode cX6_as 66 = .ok (.ireturn, 1) := by decide +kernel
theorem dX6_calls_0 : decode cX6_calls 0 = .ok (.iconst 0, 1) := by decide +kernel
theorem dX6_calls_1 : decode cX6_calls 1 = .ok (.istore_n 2, 1) := by decide +kernel
theorem dX6_calls_2 : decode cX6_calls 2 = .ok (.iconst 0, 1) := by decide +kernel
theorem dX6_calls_3 : decode cX6_calls 3 = .ok (.istore_n 3, 1) := by decide +kernel
theorem dX6_calls_4 : decode cX6_calls 4 = .ok (.iload_n 3, 1) := by decide +kernel
theorem dX6_calls_5 : decode cX6_calls 5 = .ok (.bipush 36, 2) := by decide +kernel
theorem dX6_calls_7 : decode cX6_calls 7 = .ok (.if_icmp .ge 42, 3) := by decide +kernel
theorem dX6_calls_10 : decode cX6_calls 10 = .ok (.aload_n 0, 1) := by decide +kernel
theorem dX6_calls_11 : decode cX6_calls 11 = .ok (.getfield 19, 3) := by decide +kernel
theorem dX6_calls_14 : decode cX6_calls 14 = .ok (.iload_n 1, 1) := by decide +kernel
theorem dX6_calls_15 : decode cX6_calls 15 = .ok (.iaload, 1) := by decide +kernel
theorem dX6_calls_16 : decode cX6_calls 16 = .ok (.ifCond .le 33, 3) := by decide +kernel
theorem dX6_calls_19 : decode cX6_calls 19 = .ok (.iload_n 2, 1) := by decide +kernel
theorem dX6_calls_20 : decode cX6_calls 20 = .ok (.aload_n 0, 1) := by decide +kernel
theorem dX6_calls_21 : decode cX6_calls 21 = .ok (.getfield 32, 3) := by decide +kernel
theorem dX6_calls_24 : decode cX6_calls 24 = .ok (.bipush 36, 2) := by decide +kernel
theorem dX6_calls_26 : decode cX6_calls 26 = .ok (.iload_n 1, 1) := by decide +kernel
theorem dX6_calls_27 : decode cX6_calls 27 = .ok (.imul, 1) := by decide +kernel
theorem dX6_calls_28 : decode cX6_calls 28 = .ok (.iload_n 3, 1) := by decide +kernel
theorem dX6_calls_29 : decode cX6_calls 29 = .ok (.iadd, 1) := by decide +kernel
theorem dX6_calls_30 : decode cX6_calls 30 = .ok (.iaload, 1) := by decide +kernel
theorem dX6_calls_31 : decode cX6_calls 31 = .ok (.ldc 118, 2) := by decide +kernel
theorem dX6_calls_33 : decode cX6_calls 33 = .ok (.if_icmp .eq 7, 3) := by decide +kernel
theorem dX6_calls_36 : decode cX6_calls 36 = .ok (.iconst 1, 1) := by decide +kernel
theorem dX6_calls_37 : decode cX6_calls 37 = .ok (.goto 4, 3) := by decide +kernel
theorem dX6_calls_40 : decode cX6_calls 40 = .ok (.iconst 0, 1) := by decide +kernel
theorem dX6_calls_41 : decode cX6_calls 41 = .ok (.iadd, 1) := by decide +kernel
theorem dX6_calls_42 : decode cX6_calls 42 = .ok (.istore_n 2, 1) := by decide +kernel
theorem dX6_calls_43 : decode cX6_calls 43 = .ok (.iinc 3 1, 3) := by decide +kernel
theorem dX6_calls_46 : decode cX6_calls 46 = .ok (.goto (-42), 3) := by decide +kernel
theorem dX6_calls_49 : decode cX6_calls 49 = .ok (.iload_n 2, 1) := by decide +kernel
theorem dX6_calls_50 : decode cX6_calls 50 = .ok (.ireturn, 1) := by decide +kernel
theorem dX6_began_0 : decode cX6_began 0 = .ok (.aload_n 0, 1) := by decide +kernel
theorem dX6_began_1 : decode cX6_began 1 = .ok (.getfield 131, 3) := by decide +kernel
theorem dX6_began_4 : decode cX6_began 4 = .ok (.bipush 16, 2) := by decide +kernel
theorem dX6_began_6 : decode cX6_began 6 = .ok (.if_icmp .ge 23, 3) := by decide +kernel
theorem dX6_began_9 : decode cX6_began 9 = .ok (.aload_n 0, 1) := by decide +kernel
theorem dX6_began_10 : decode cX6_began 10 = .ok (.getfield 38, 3) := by decide +kernel
theorem dX6_began_13 : decode cX6_began 13 = .ok (.aload_n 0, 1) := by decide +kernel
theorem dX6_began_14 : decode cX6_began 14 = .ok (.getfield 131, 3) := by decide +kernel
theorem dX6_began_17 : decode cX6_began 17 = .ok (.iload_n 1, 1) := by decide +kernel
theorem dX6_began_18 : decode cX6_began 18 = .ok (.iastore, 1) := by decide +kernel
theorem dX6_began_19 : decode cX6_began 19 = .ok (.aload_n 0, 1) := by decide +kernel
theorem dX6_began_20 : decode cX6_began 20 = .ok (.dup, 1) := by decide +kernel
theorem dX6_began_21 : decode cX6_began 21 = .ok (.getfield 131, 3) := by decide +kernel
theorem dX6_began_24 : decode cX6_began 24 = .ok (.iconst 1, 1) := by decide +kernel
theorem dX6_began_25 : decode cX6_began 25 = .ok (.iadd, 1) := by decide +kernel
theorem dX6_began_26 : decode cX6_began 26 = .ok (.putfield 131, 3) := by decide +kernel
theorem dX6_began_29 : decode cX6_began 29 = .ok (.return_, 1) := by decide +kernel
set_option maxRecDepth 20000 in
theorem ggX6_bareSize_X6_began : GoodIn wsX6_bareSize wsX6_began := goodIn_r _ [7, 8, 9, 10, 11, 12, 13, 14, 15, 16, 17, 18, 19, 20, 21, 22, 23, 24, 25, 26, 27, 28, 29, 30, 31, 32, 33, 34, 35, 36, 37, 38, 39] (by decide +kernel) (by decide +kernel)
set_option maxRecDepth 20000 in
theorem gX6_bareSize_X6_began : GoodIn wsX6_bareSize (wsV RX6 134 RX6 yX6_began wsX6_began) := goodIn_app (goodIn_of _ (by decide +kernel)) ggX6_bareSize_X6_began
theorem dX6_bareSize_0 : decode cX6_bareSize 0 = .ok (.aload_n 0, 1) := by decide +kernel
theorem dX6_bareSize_1 : decode cX6_bareSize 1 = .ok (.bipush 13, 2) := by decide +kernel
theorem dX6_bareSize_3 : decode cX6_bareSize 3 = .ok (.invokevirtual 134, 3) := by decide +kernel
theorem dX6_bareSize_6 : decode cX6_bareSize 6 = .ok (.aload_n 0, 1) := by decide +kernel
theorem dX6_bareSize_7 : decode cX6_bareSize 7 = .ok (.bipush 10, 2) := by decide +kernel
theorem dX6_bareSize_9 : decode cX6_bareSize 9 = .ok (.invokevirtual 134, 3) := by decide +kernel
theorem dX6_bareSize_12 : decode cX6_bareSize 12 = .ok (.aload_n 0, 1) := by decide +kernel
theorem dX6_bareSize_13 : decode cX6_bareSize 13 = .ok (.getfield 25, 3) := by decide +kernel
theorem dX6_bareSize_16 : decode cX6_bareSize 16 = .ok (.iload_n 1, 1) := by decide +kernel
theorem dX6_bareSize_17 : decode cX6_bareSize 17 = .ok (.iaload, 1) := by decide +kernel
theorem dX6_bareSize_18 : decode cX6_bareSize 18 = .ok (.aload_n 0, 1) := by decide +kernel
theorem dX6_bareSize_19 : decode cX6_bareSize 19 = .ok (.getfield 22, 3) := by decide +kernel
theorem dX6_bareSize_22 : decode cX6_bareSize 22 = .ok (.iload_n 1, 1) := by decide +kernel
theorem dX6_bareSize_23 : decode cX6_bareSize 23 = .ok (.iaload, 1) := by decide +kernel
theorem dX6_bareSize_24 : decode cX6_bareSize 24 = .ok (.imul, 1) := by decide +kernel
theorem dX6_bareSize_25 : decode cX6_bareSize 25 = .ok (.iconst 2, 1) := by decide +kernel
theorem dX6_bareSize_26 : decode cX6_bareSize 26 = .ok (.idiv, 1) := by decide +kernel
theorem dX6_bareSize_27 : decode cX6_bareSize 27 = .ok (.ireturn, 1) := by decide +kernel
set_option maxRecDepth 20000 in
theorem ggX6_marked_X6_kindOf : GoodIn wsX6_marked wsX6_kindOf := goodIn_r _ [5, 6, 7, 8, 9, 4, 10, 11, 12, 33, 34, 35, 36, 37, 38, 39, 40, 41, 42, 43, 44, 45, 46, 47, 48, 49, 50, 51, 52, 53, 54, 55, 56, 57, 58, 59, 60, 61, 62] (by decide +kernel) (by decide +kernel)
set_option maxRecDepth 20000 in
theorem gX6_marked_X6_kindOf : GoodIn wsX6_marked (wsV RX6 119 RX6 yX6_kindOf wsX6_kindOf) := goodIn_app (goodIn_of _ (by decide +kernel)) ggX6_marked_X6_kindOf
set_option maxRecDepth 20000 in
theorem ggX6_marked_X6_began : GoodIn wsX6_marked wsX6_began := goodIn_r _ [16, 17, 18, 33, 34, 35, 36, 37, 38, 39, 40, 41, 42, 43, 44, 45, 46, 47, 48, 49, 50, 51, 52, 53, 54, 55, 56, 57, 58, 59, 60, 61, 62] (by decide +kernel) (by decide +kernel)
set_option maxRecDepth 20000 in
theorem gX6_marked_X6_began : GoodIn wsX6_marked (wsV RX6 134 RX6 yX6_began wsX6_began) := goodIn_app (goodIn_of _ (by decide +kernel)) ggX6_marked_X6_began
set_option maxRecDepth 20000 in
theorem ggX6_marked_X6_isOf : GoodIn wsX6_marked wsX6_isOf := goodIn_r _ [21] (by decide +kernel) (by decide +kernel)
set_option maxRecDepth 20000 in
theorem gX6_marked_X6_isOf : GoodIn wsX6_marked (va_wsS RX6 127 yX6_isOf wsX6_isOf) := goodIn_app (goodIn_of _ (by decide +kernel)) ggX6_marked_X6_isOf
set_option maxRecDepth 20000 in
theorem ggX6_marked_X6_calls : GoodIn wsX6_marked wsX6_calls := goodIn_r _ [25, 11, 26, 27, 33, 34, 35, 36, 37, 38, 39, 40, 41, 42, 43, 44, 45, 46, 47, 48, 49, 50, 51, 52, 53, 54, 55, 56, 57, 58, 59, 60, 61, 62] (by decide +kernel) (by decide +kernel)
set_option maxRecDepth 20000 in
theorem gX6_marked_X6_calls : GoodIn wsX6_marked (wsV RX6 138 RX6 yX6_calls wsX6_calls) := goodIn_app (goodIn_of _ (by decide +kernel)) ggX6_marked_X6_calls
set_option maxRecDepth 20000 in
theorem ggX6_marked_X6_bareSize : GoodIn wsX6_marked wsX6_bareSize := goodIn_r _ [31, 32, 6, 13, 14, 15, 4, 16, 17, 18, 33, 34, 35, 36, 37, 38, 39, 40, 41, 42, 43, 44, 45, 46, 47, 48, 49, 50, 51, 52, 53, 54, 55, 56, 57, 58, 59, 60, 61, 62] (by decide +kernel) (by decide +kernel)
set_option maxRecDepth 20000 in
theorem gX6_marked_X6_bareSize : GoodIn wsX6_marked (wsV RX6 141 RX6 yX6_bareSize wsX6_bareSize) := goodIn_app (goodIn_of _ (by decide +kernel)) ggX6_marked_X6_bareSize
theorem dX6_marked_0 : decode cX6_marked 0 = .ok (.aload_n 0, 1) := by decide +kernel
theorem dX6_marked_1 : decode cX6_marked 1 = .ok (.iload_n 1, 1) := by decide +kernel
theorem dX6_marked_2 : decode cX6_marked 2 = .ok (.invokevirtual 119, 3) := by decide +kernel
theorem dX6_marked_5 : decode cX6_marked 5 = .ok (.istore_n 2, 1) := by decide +kernel
theorem dX6_marked_6 : decode cX6_marked 6 = .ok (.iload_n 2, 1) := by decide +kernel
theorem dX6_marked_7 : decode cX6_marked 7 = .ok (.iconst 3, 1) := by decide +kernel
theorem dX6_marked_8 : decode cX6_marked 8 = .ok (.if_icmp .ne 9, 3) := by decide +kernel
theorem dX6_marked_11 : decode cX6_marked 11 = .ok (.aload_n 0, 1) := by decide +kernel
theorem dX6_marked_12 : decode cX6_marked 12 = .ok (.bipush 22, 2) := by decide +kernel
theorem dX6_marked_14 : decode cX6_marked 14 = .ok (.invokevirtual 134, 3) := by decide +kernel
theorem dX6_marked_17 : decode cX6_marked 17 = .ok (.iload_n 2, 1) := by decide +kernel
theorem dX6_marked_18 : decode cX6_marked 18 = .ok (.iconst 1, 1) := by decide +kernel
theorem dX6_marked_19 : decode cX6_marked 19 = .ok (.invokestatic 127, 3) := by decide +kernel
theorem dX6_marked_22 : decode cX6_marked 22 = .ok (.ifCond .eq 9, 3) := by decide +kernel
theorem dX6_marked_25 : decode cX6_marked 25 = .ok (.aload_n 0, 1) := by decide +kernel
theorem dX6_marked_26 : decode cX6_marked 26 = .ok (.bipush 21, 2) := by decide +kernel
theorem dX6_marked_28 : decode cX6_marked 28 = .ok (.invokevirtual 134, 3) := by decide +kernel
theorem dX6_marked_31 : decode cX6_marked 31 = .ok (.aload_n 0, 1) := by decide +kernel
theorem dX6_marked_32 : decode cX6_marked 32 = .ok (.bipush 20, 2) := by decide +kernel
theorem dX6_marked_34 : decode cX6_marked 34 = .ok (.invokevirtual 134, 3) := by decide +kernel
theorem dX6_marked_37 : decode cX6_marked 37 = .ok (.aload_n 0, 1) := by decide +kernel
theorem dX6_marked_38 : decode cX6_marked 38 = .ok (.iload_n 1, 1) := by decide +kernel
theorem dX6_marked_39 : decode cX6_marked 39 = .ok (.invokevirtual 138, 3) := by decide +kernel
theorem dX6_marked_42 : decode cX6_marked 42 = .ok (.iload_n 2, 1) := by decide +kernel
theorem dX6_marked_43 : decode cX6_marked 43 = .ok (.iconst 1, 1) := by decide +kernel
theorem dX6_marked_44 : decode cX6_marked 44 = .ok (.invokestatic 127, 3) := by decide +kernel
theorem dX6_marked_47 : decode cX6_marked 47 = .ok (.ifCond .eq 8, 3) := by decide +kernel
theorem dX6_marked_50 : decode cX6_marked 50 = .ok (.bipush 100, 2) := by decide +kernel
theorem dX6_marked_52 : decode cX6_marked 52 = .ok (.goto 4, 3) := by decide +kernel
theorem dX6_marked_55 : decode cX6_marked 55 = .ok (.iconst 0, 1) := by decide +kernel
theorem dX6_marked_56 : decode cX6_marked 56 = .ok (.iadd, 1) := by decide +kernel
theorem dX6_marked_57 : decode cX6_marked 57 = .ok (.istore_n 3, 1) := by decide +kernel
theorem dX6_marked_58 : decode cX6_marked 58 = .ok (.iload_n 2, 1) := by decide +kernel
theorem dX6_marked_59 : decode cX6_marked 59 = .ok (.iconst 3, 1) := by decide +kernel
theorem dX6_marked_60 : decode cX6_marked 60 = .ok (.if_icmp .ne 13, 3) := by decide +kernel
theorem dX6_marked_63 : decode cX6_marked 63 = .ok (.iload_n 3, 1) := by decide +kernel
theorem dX6_marked_64 : decode cX6_marked 64 = .ok (.aload_n 0, 1) := by decide +kernel
theorem dX6_marked_65 : decode cX6_marked 65 = .ok (.iload_n 1, 1) := by decide +kernel
theorem dX6_marked_66 : decode cX6_marked 66 = .ok (.invokevirtual 141, 3) := by decide +kernel
theorem dX6_marked_69 : decode cX6_marked 69 = .ok (.iadd, 1) := by decide +kernel
theorem dX6_marked_70 : decode cX6_marked 70 = .ok (.goto 4, 3) := by decide +kernel
theorem dX6_marked_73 : decode cX6_marked 73 = .ok (.iload_n 3, 1) := by decide +kernel
theorem dX6_marked_74 : decode cX6_marked 74 = .ok (.ireturn, 1) := by decide +kernel
set_option maxRecDepth 20000 in
theorem ggX6_sized_X6_kindOf : GoodIn wsX6_sized wsX6_kindOf := goodIn_r _ [7, 2, 8, 9, 10, 6, 11, 12, 13, 37, 38, 39, 40, 41, 42, 43, 44, 45, 46, 47, 48, 49, 50, 51, 52, 53, 54, 55, 56, 57, 58, 59, 60, 61, 62, 63, 64, 65, 66] (by decide +kernel) (by decide +kernel)
set_option maxRecDepth 20000 in
theorem gX6_sized_X6_kindOf : GoodIn wsX6_sized (wsV RX6 119 RX6 yX6_kindOf wsX6_kindOf) := goodIn_app (goodIn_of _ (by decide +kernel)) ggX6_sized_X6_kindOf
set_option maxRecDepth 20000 in
theorem ggX6_sized_X6_bareSize : GoodIn wsX6_sized wsX6_bareSize := goodIn_r _ [17, 1, 2, 18, 19, 20, 6, 21, 22, 23, 37, 38, 39, 40, 41, 42, 43, 44, 45, 46, 47, 48, 49, 50, 51, 52, 53, 54, 55, 56, 57, 58, 59, 60, 61, 62, 63, 64, 65, 66] (by decide +kernel) (by decide +kernel)
set_option maxRecDepth 20000 in
theorem gX6_sized_X6_bareSize : GoodIn wsX6_sized (wsV RX6 141 RX6 yX6_bareSize wsX6_bareSize) := goodIn_app (goodIn_of _ (by decide +kernel)) ggX6_sized_X6_bareSize
set_option maxRecDepth 20000 in
theorem ggX6_sized_X6_began : GoodIn wsX6_sized wsX6_began := goodIn_r _ [21, 22, 23, 37, 38, 39, 40, 41, 42, 43, 44, 45, 46, 47, 48, 49, 50, 51, 52, 53, 54, 55, 56, 57, 58, 59, 60, 61, 62, 63, 64, 65, 66] (by decide +kernel) (by decide +kernel)
set_option maxRecDepth 20000 in
theorem gX6_sized_X6_began : GoodIn wsX6_sized (wsV RX6 134 RX6 yX6_began wsX6_began) := goodIn_app (goodIn_of _ (by decide +kernel)) ggX6_sized_X6_began
set_option maxRecDepth 20000 in
theorem ggX6_sized_X6_isOf : GoodIn wsX6_sized wsX6_isOf := goodIn_r _ [26] (by decide +kernel) (by decide +kernel)
set_option maxRecDepth 20000 in
theorem gX6_sized_X6_isOf : GoodIn wsX6_sized (va_wsS RX6 127 yX6_isOf wsX6_isOf) := goodIn_app (goodIn_of _ (by decide +kernel)) ggX6_sized_X6_isOf
set_option maxRecDepth 20000 in
theorem ggX6_sized_X6_alive : GoodIn wsX6_sized wsX6_alive := goodIn_r _ [11, 12, 13, 37, 38, 39, 40, 41, 42, 43, 44, 45, 46, 47, 48, 49, 50, 51, 52, 53, 54, 55, 56, 57, 58, 59, 60, 61, 62, 63, 64, 65, 66] (by decide +kernel) (by decide +kernel)
set_option maxRecDepth 20000 in
theorem gX6_sized_X6_alive : GoodIn wsX6_sized (wsV RX6 108 RX6 yX6_alive wsX6_alive) := goodIn_app (goodIn_of _ (by decide +kernel)) ggX6_sized_X6_alive
set_option maxRecDepth 20000 in
theorem ggX6_sized_X6_marked : GoodIn wsX6_sized wsX6_marked := goodIn_r _ [30, 3, 4, 5, 6, 7, 2, 8, 9, 10, 11, 12, 13, 18, 19, 20, 21, 22, 23, 24, 25, 26, 31, 32, 33, 34, 35, 36, 14, 15, 16, 17, 1, 37, 38, 39, 40, 41, 42, 43, 44, 45, 46, 47, 48, 49, 50, 51, 52, 53, 54, 55, 56, 57, 58, 59, 60, 61, 62, 63, 64, 65, 66] (by decide +kernel) (by decide +kernel)
set_option maxRecDepth 20000 in
theorem gX6_sized_X6_marked : GoodIn wsX6_sized (wsV RX6 144 RX6 yX6_marked wsX6_marked) := goodIn_app (goodIn_of _ (by decide +kernel)) ggX6_sized_X6_marked
theorem dX6_sized_0 : decode cX6_sized 0 = .ok (.aload_n 0, 1) := by decide +kernel
theorem dX6_sized_1 : decode cX6_sized 1 = .ok (.iload_n 1, 1) := by decide +kernel
theorem dX6_sized_2 : decode cX6_sized 2 = .ok (.invokevirtual 119, 3) := by decide +kernel
theorem dX6_sized_5 : decode cX6_sized 5 = .ok (.istore_n 2, 1) := by decide +kernel
theorem dX6_sized_6 : decode cX6_sized 6 = .ok (.iload_n 2, 1) := by decide +kernel
theorem dX6_sized_7 : decode cX6_sized 7 = .ok (.iconst 3, 1) := by decide +kernel
theorem dX6_sized_8 : decode cX6_sized 8 = .ok (.if_icmp .ne 9, 3) := by decide +kernel
theorem dX6_sized_11 : decode cX6_sized 11 = .ok (.aload_n 0, 1) := by decide +kernel
theorem dX6_sized_12 : decode cX6_sized 12 = .ok (.iload_n 1, 1) := by decide +kernel
theorem dX6_sized_13 : decode cX6_sized 13 = .ok (.invokevirtual 141, 3) := by decide +kernel
theorem dX6_sized_16 : decode cX6_sized 16 = .ok (.ireturn, 1) := by decide +kernel
theorem dX6_sized_17 : decode cX6_sized 17 = .ok (.iload_n 2, 1) := by decide +kernel
theorem dX6_sized_18 : decode cX6_sized 18 = .ok (.iconst 2, 1) := by decide +kernel
theorem dX6_sized_19 : decode cX6_sized 19 = .ok (.if_icmp .ne 9, 3) := by decide +kernel
theorem dX6_sized_22 : decode cX6_sized 22 = .ok (.aload_n 0, 1) := by decide +kernel
theorem dX6_sized_23 : decode cX6_sized 23 = .ok (.bipush 12, 2) := by decide +kernel
theorem dX6_sized_25 : decode cX6_sized 25 = .ok (.invokevirtual 134, 3) := by decide +kernel
theorem dX6_sized_28 : decode cX6_sized 28 = .ok (.iload_n 2, 1) := by decide +kernel
theorem dX6_sized_29 : decode cX6_sized 29 = .ok (.iconst 1, 1) := by decide +kernel
theorem dX6_sized_30 : decode cX6_sized 30 = .ok (.invokestatic 127, 3) := by decide +kernel
theorem dX6_sized_33 : decode cX6_sized 33 = .ok (.ifCond .eq 9, 3) := by decide +kernel
theorem dX6_sized_36 : decode cX6_sized 36 = .ok (.aload_n 0, 1) := by decide +kernel
theorem dX6_sized_37 : decode cX6_sized 37 = .ok (.bipush 11, 2) := by decide +kernel
theorem dX6_sized_39 : decode cX6_sized 39 = .ok (.invokevirtual 134, 3) := by decide +kernel
theorem dX6_sized_42 : decode cX6_sized 42 = .ok (.aload_n 0, 1) := by decide +kernel
theorem dX6_sized_43 : decode cX6_sized 43 = .ok (.bipush 10, 2) := by decide +kernel
theorem dX6_sized_45 : decode cX6_sized 45 = .ok (.invokevirtual 134, 3) := by decide +kernel
theorem dX6_sized_48 : decode cX6_sized 48 = .ok (.aload_n 0, 1) := by decide +kernel
theorem dX6_sized_49 : decode cX6_sized 49 = .ok (.getfield 25, 3) := by decide +kernel
theorem dX6_sized_52 : decode cX6_sized 52 = .ok (.iload_n 1, 1) := by decide +kernel
theorem dX6_sized_53 : decode cX6_sized 53 = .ok (.iaload, 1) := by decide +kernel
theorem dX6_sized_54 : decode cX6_sized 54 = .ok (.aload_n 0, 1) := by decide +kernel
theorem dX6_sized_55 : decode cX6_sized 55 = .ok (.getfield 22, 3) := by decide +kernel
theorem dX6_sized_58 : decode cX6_sized 58 = .ok (.iload_n 1, 1) := by decide +kernel
theorem dX6_sized_59 : decode cX6_sized 59 = .ok (.iaload, 1) := by decide +kernel
theorem dX6_sized_60 : decode cX6_sized 60 = .ok (.imul, 1) := by decide +kernel
theorem dX6_sized_61 : decode cX6_sized 61 = .ok (.iload_n 2, 1) := by decide +kernel
theorem dX6_sized_62 : decode cX6_sized 62 = .ok (.iconst 1, 1) := by decide +kernel
theorem dX6_sized_63 : decode cX6_sized 63 = .ok (.invokestatic 127, 3) := by decide +kernel
theorem dX6_sized_66 : decode cX6_sized 66 = .ok (.ifCond .eq 11, 3) := by decide +kernel
theorem dX6_sized_69 : decode cX6_sized 69 = .ok (.aload_n 0, 1) := by decide +kernel
theorem dX6_sized_70 : decode cX6_sized 70 = .ok (.iload_n 1, 1) := by decide +kernel
theorem dX6_sized_71 : decode cX6_sized 71 = .ok (.invokevirtual 108, 3) := by decide +kernel
theorem dX6_sized_74 : decode cX6_sized 74 = .ok (.goto 4, 3) := by decide +kernel
theorem dX6_sized_77 : decode cX6_sized 77 = .ok (.iconst 0, 1) := by decide +kernel
theorem dX6_sized_78 : decode cX6_sized 78 = .ok (.iadd, 1) := by decide +kernel
theorem dX6_sized_79 : decode cX6_sized 79 = .ok (.istore_n 3, 1) := by decide +kernel
theorem dX6_sized_80 : decode cX6_sized 80 = .ok (.iload_n 2, 1) := by decide +kernel
theorem dX6_sized_81 : decode cX6_sized 81 = .ok (.iconst 2, 1) := by decide +kernel
theorem dX6_sized_82 : decode cX6_sized 82 = .ok (.if_icmp .ne 13, 3) := by decide +kernel
theorem dX6_sized_85 : decode cX6_sized 85 = .ok (.iload_n 3, 1) := by decide +kernel
theorem dX6_sized_86 : decode cX6_sized 86 = .ok (.aload_n 0, 1) := by decide +kernel
theorem dX6_sized_87 : decode cX6_sized 87 = .ok (.iload_n 1, 1) := by decide +kernel
theorem dX6_sized_88 : decode cX6_sized 88 = .ok (.invokevirtual 144, 3) := by decide +kernel
theorem dX6_sized_91 : decode cX6_sized 91 = .ok (.iadd, 1) := by decide +kernel
theorem dX6_sized_92 : decode cX6_sized 92 = .ok (.goto 4, 3) := by decide +kernel
theorem dX6_sized_95 : decode cX6_sized 95 = .ok (.iload_n 3, 1) := by decide +kernel
theorem dX6_sized_96 : decode cX6_sized 96 = .ok (.ireturn, 1) := by decide +kernel
set_option maxRecDepth 20000 in
theorem ggX6_ask_X6_isPlace : GoodIn wsX6_ask wsX6_isPlace := goodIn_r _ [7, 8, 9, 10, 6, 11] (by decide +kernel) (by decide +kernel)
set_option maxRecDepth 20000 in
theorem gX6_ask_X6_isPlace : GoodIn wsX6_ask (va_wsS RX6 111 yX6_isPlace wsX6_isPlace) := goodIn_app (goodIn_of _ (by decide +kernel)) ggX6_ask_X6_isPlace
set_option maxRecDepth 20000 in
theorem ggX6_ask_X6_in : GoodIn wsX6_ask wsX6_in := goodIn_r _ [11] (by decide +kernel) (by decide +kernel)
set_option maxRecDepth 20000 in
theorem gX6_ask_X6_in : GoodIn wsX6_ask (va_wsS RX6 91 yX6_in wsX6_in) := goodIn_app (goodIn_of _ (by decide +kernel)) ggX6_ask_X6_in
set_option maxRecDepth 20000 in
theorem ggX6_ask_X6_look : GoodIn wsX6_ask wsX6_look := goodIn_r _ [15, 16, 17, 18, 19, 20, 6, 21, 22, 60, 61, 62, 63, 64, 65, 66, 67, 68, 69, 70, 71, 72, 73, 74, 75, 76, 77, 78, 79, 80, 81, 82, 83, 84, 85, 86, 87, 88, 89] (by decide +kernel) (by decide +kernel)
set_option maxRecDepth 20000 in
theorem gX6_ask_X6_look : GoodIn wsX6_ask (wsV RX6 122 RX6 yX6_look wsX6_look) := goodIn_app (goodIn_of _ (by decide +kernel)) ggX6_ask_X6_look
set_option maxRecDepth 20000 in
theorem ggX6_ask_X6_sized : GoodIn wsX6_ask wsX6_sized := goodIn_r _ [26, 27, 28, 29, 30, 31, 6, 32, 33, 34, 35, 36, 17, 37, 38, 39, 40, 41, 42, 43, 44, 45, 3, 46, 47, 48, 49, 50, 51, 52, 53, 54, 55, 56, 57, 58, 59, 60, 61, 62, 63, 64, 65, 66, 67, 68, 69, 70, 71, 72, 73, 74, 75, 76, 77, 78, 79, 80, 81, 82, 83, 84, 85, 86, 87, 88, 89] (by decide +kernel) (by decide +kernel)
set_option maxRecDepth 20000 in
theorem gX6_ask_X6_sized : GoodIn wsX6_ask (wsV RX6 147 RX6 yX6_sized wsX6_sized) := goodIn_app (goodIn_of _ (by decide +kernel)) ggX6_ask_X6_sized
set_option maxRecDepth 20000 in
theorem ggX6_ask_X6_marked : GoodIn wsX6_ask wsX6_marked := goodIn_r _ [53, 29, 30, 31, 6, 32, 28, 33, 34, 35, 36, 17, 37, 42, 43, 44, 45, 3, 46, 47, 48, 49, 54, 55, 56, 57, 58, 59, 38, 39, 40, 41, 27, 60, 61, 62, 63, 64, 65, 66, 67, 68, 69, 70, 71, 72, 73, 74, 75, 76, 77, 78, 79, 80, 81, 82, 83, 84, 85, 86, 87, 88, 89] (by decide +kernel) (by decide +kernel)
set_option maxRecDepth 20000 in
theorem gX6_ask_X6_marked : GoodIn wsX6_ask (wsV RX6 144 RX6 yX6_marked wsX6_marked) := goodIn_app (goodIn_of _ (by decide +kernel)) ggX6_ask_X6_marked
theorem dX6_ask_0 : decode cX6_ask 0 = .ok (.aload_n 0, 1) := by decide +kernel
theorem dX6_ask_1 : decode cX6_ask 1 = .ok (.iconst 0, 1) := by decide +kernel
theorem dX6_ask_2 : decode cX6_ask 2 = .ok (.putfield 81, 3) := by decide +kernel
theorem dX6_ask_5 : decode cX6_ask 5 = .ok (.iload_n 1, 1) := by decide +kernel
theorem dX6_ask_6 : decode cX6_ask 6 = .ok (.invokestatic 111, 3) := by decide +kernel
theorem dX6_ask_9 : decode cX6_ask 9 = .ok (.ifCond .eq 13, 3) := by decide +kernel
theorem dX6_ask_12 : decode cX6_ask 12 = .ok (.iload_n 2, 1) := by decide +kernel
theorem dX6_ask_13 : decode cX6_ask 13 = .ok (.i2l, 1) := by decide +kernel
theorem dX6_ask_14 : decode cX6_ask 14 = .ok (.lconst 0, 1) := by decide +kernel
theorem dX6_ask_15 : decode cX6_ask 15 = .ok (.lconst 1, 1) := by decide +kernel
theorem dX6_ask_16 : decode cX6_ask 16 = .ok (.invokestatic 91, 3) := by decide +kernel
theorem dX6_ask_19 : decode cX6_ask 19 = .ok (.ifCond .ne 6, 3) := by decide +kernel
theorem dX6_ask_22 : decode cX6_ask 22 = .ok (.ldc 101, 2) := by decide +kernel
theorem dX6_ask_24 : decode cX6_ask 24 = .ok (.ireturn, 1) := by decide +kernel
theorem dX6_ask_25 : decode cX6_ask 25 = .ok (.aload_n 0, 1) := by decide +kernel
theorem dX6_ask_26 : decode cX6_ask 26 = .ok (.iconst 0, 1) := by decide +kernel
theorem dX6_ask_27 : decode cX6_ask 27 = .ok (.putfield 131, 3) := by decide +kernel
theorem dX6_ask_30 : decode cX6_ask 30 = .ok (.aload_n 0, 1) := by decide +kernel
theorem dX6_ask_31 : decode cX6_ask 31 = .ok (.iload_n 1, 1) := by decide +kernel
theorem dX6_ask_32 : decode cX6_ask 32 = .ok (.invokevirtual 122, 3) := by decide +kernel
theorem dX6_ask_35 : decode cX6_ask 35 = .ok (.istore_n 3, 1) := by decide +kernel
theorem dX6_ask_36 : decode cX6_ask 36 = .ok (.iload_n 3, 1) := by decide +kernel
theorem dX6_ask_37 : decode cX6_ask 37 = .ok (.ifCond .ge 7, 3) := by decide +kernel
theorem dX6_ask_40 : decode cX6_ask 40 = .ok (.iload_n 3, 1) := by decide +kernel
theorem dX6_ask_41 : decode cX6_ask 41 = .ok (.goto 20, 3) := by decide +kernel
theorem dX6_ask_44 : decode cX6_ask 44 = .ok (.iload_n 2, 1) := by decide +kernel
theorem dX6_ask_45 : decode cX6_ask 45 = .ok (.ifCond .ne 11, 3) := by decide +kernel
theorem dX6_ask_48 : decode cX6_ask 48 = .ok (.aload_n 0, 1) := by decide +kernel
theorem dX6_ask_49 : decode cX6_ask 49 = .ok (.iload_n 1, 1) := by decide +kernel
theorem dX6_ask_50 : decode cX6_ask 50 = .ok (.invokevirtual 147, 3) := by decide +kernel
theorem dX6_ask_53 : decode cX6_ask 53 = .ok (.goto 8, 3) := by decide +kernel
theorem dX6_ask_56 : decode cX6_ask 56 = .ok (.aload_n 0, 1) := by decide +kernel
theorem dX6_ask_57 : decode cX6_ask 57 = .ok (.iload_n 1, 1) := by decide +kernel
theorem dX6_ask_58 : decode cX6_ask 58 = .ok (.invokevirtual 144, 3) := by decide +kernel
theorem dX6_ask_61 : decode cX6_ask 61 = .ok (.ireturn, 1) := by decide +kernel
set_option maxRecDepth 20000 in
theorem ggX6_trace_X6_in : GoodIn wsX6_trace wsX6_in := goodIn_r _ [8] (by decide +kernel) (by decide +kernel)
set_option maxRecDepth 20000 in
theorem gX6_trace_X6_in : GoodIn wsX6_trace (va_wsS RX6 91 yX6_in wsX6_in) := goodIn_app (goodIn_of _ (by decide +kernel)) ggX6_trace_X6_in
theorem dX6_trace_0 : decode cX6_trace 0 = .ok (.aload_n 0, 1) := by decide +kernel
theorem dX6_trace_1 : decode cX6_trace 1 = .ok (.iconst 0, 1) := by decide +kernel
theorem dX6_trace_2 : decode cX6_trace 2 = .ok (.putfield 81, 3) := by decide +kernel
theorem dX6_trace_5 : decode cX6_trace 5 = .ok (.iload_n 1, 1) := by decide +kernel
theorem dX6_trace_6 : decode cX6_trace 6 = .ok (.i2l, 1) := by decide +kernel
theorem dX6_trace_7 : decode cX6_trace 7 = .ok (.lconst 0, 1) := by decide +kernel
theorem dX6_trace_8 : decode cX6_trace 8 = .ok (.aload_n 0, 1) := by decide +kernel
theorem dX6_trace_9 : decode cX6_trace 9 = .ok (.getfield 131, 3) := by decide +kernel
theorem dX6_trace_12 : decode cX6_trace 12 = .ok (.iconst 1, 1) := by decide +kernel
theorem dX6_trace_13 : decode cX6_trace 13 = .ok (.isub, 1) := by decide +kernel
theorem dX6_trace_14 : decode cX6_trace 14 = .ok (.i2l, 1) := by decide +kernel
theorem dX6_trace_15 : decode cX6_trace 15 = .ok (.invokestatic 91, 3) := by decide +kernel
theorem dX6_trace_18 : decode cX6_trace 18 = .ok (.ifCond .eq 12, 3) := by decide +kernel
theorem dX6_trace_21 : decode cX6_trace 21 = .ok (.aload_n 0, 1) := by decide +kernel
theorem dX6_trace_22 : decode cX6_trace 22 = .ok (.getfield 38, 3) := by decide +kernel
theorem dX6_trace_25 : decode cX6_trace 25 = .ok (.iload_n 1, 1) := by decide +kernel
theorem dX6_trace_26 : decode cX6_trace 26 = .ok (.iaload, 1) := by decide +kernel
theorem dX6_trace_27 : decode cX6_trace 27 = .ok (.goto 5, 3) := by decide +kernel
theorem dX6_trace_30 : decode cX6_trace 30 = .ok (.ldc 118, 2) := by decide +kernel
theorem dX6_trace_32 : decode cX6_trace 32 = .ok (.ireturn, 1) := by decide +kernel
theorem dX6_callFrom_0 : decode cX6_callFrom 0 = .ok (.ldc 118, 2) := by decide +kernel
theorem dX6_callFrom_2 : decode cX6_callFrom 2 = .ok (.istore 4, 2) := by decide +kernel
theorem dX6_callFrom_4 : decode cX6_callFrom 4 = .ok (.iload_n 2, 1) := by decide +kernel
theorem dX6_callFrom_5 : decode cX6_callFrom 5 = .ok (.aload_n 0, 1) := by decide +kernel
theorem dX6_callFrom_6 : decode cX6_callFrom 6 = .ok (.getfield 22, 3) := by decide +kernel
theorem dX6_callFrom_9 : decode cX6_callFrom 9 = .ok (.iload_n 1, 1) := by decide +kernel
theorem dX6_callFrom_10 : decode cX6_callFrom 10 = .ok (.iaload, 1) := by decide +kernel
theorem dX6_callFrom_11 : decode cX6_callFrom 11 = .ok (.imul, 1) := by decide +kernel
theorem dX6_callFrom_12 : decode cX6_callFrom 12 = .ok (.istore 5, 2) := by decide +kernel
theorem dX6_callFrom_14 : decode cX6_callFrom 14 = .ok (.iload 5, 2) := by decide +kernel
theorem dX6_callFrom_16 : decode cX6_callFrom 16 = .ok (.iload_n 2, 1) := by decide +kernel
theorem dX6_callFrom_17 : decode cX6_callFrom 17 = .ok (.iconst 1, 1) := by decide +kernel
theorem dX6_callFrom_18 : decode cX6_callFrom 18 = .ok (.iadd, 1) := by decide +kernel
theorem dX6_callFrom_19 : decode cX6_callFrom 19 = .ok (.aload_n 0, 1) := by decide +kernel
theorem dX6_callFrom_20 : decode cX6_callFrom 20 = .ok (.getfield 22, 3) := by decide +kernel
theorem dX6_callFrom_23 : decode cX6_callFrom 23 = .ok (.iload_n 1, 1) := by decide +kernel
theorem dX6_callFrom_24 : decode cX6_callFrom 24 = .ok (.iaload, 1) := by decide +kernel
theorem dX6_callFrom_25 : decode cX6_callFrom 25 = .ok (.imul, 1) := by decide +kernel
theorem dX6_callFrom_26 : decode cX6_callFrom 26 = .ok (.if_icmp .ge 51, 3) := by decide +kernel
theorem dX6_callFrom_29 : decode cX6_callFrom 29 = .ok (.aload_n 0, 1) := by decide +kernel
theorem dX6_callFrom_30 : decode cX6_callFrom 30 = .ok (.getfield 32, 3) := by decide +kernel
theorem dX6_callFrom_33 : decode cX6_callFrom 33 = .ok (.bipush 36, 2) := by decide +kernel
theorem dX6_callFrom_35 : decode cX6_callFrom 35 = .ok (.iload_n 1, 1) := by decide +kernel
theorem dX6_callFrom_36 : decode cX6_callFrom 36 = .ok (.imul, 1) := by decide +kernel
theorem dX6_callFrom_37 : decode cX6_callFrom 37 = .ok (.iload 5, 2) := by decide +kernel
theorem dX6_callFrom_39 : decode cX6_callFrom 39 = .ok (.iadd, 1) := by decide +kernel
theorem dX6_callFrom_40 : decode cX6_callFrom 40 = .ok (.iaload, 1) := by decide +kernel
theorem dX6_callFrom_41 : decode cX6_callFrom 41 = .ok (.ldc 118, 2) := by decide +kernel
theorem dX6_callFrom_43 : decode cX6_callFrom 43 = .ok (.if_icmp .eq 24, 3) := by decide +kernel
theorem dX6_callFrom_46 : decode cX6_callFrom 46 = .ok (.aload_n 0, 1) := by decide +kernel
end
section
theorem dX6_callFrom_47 : decode cX6_callFrom 47 = .ok (.getfield 35, 3) := by decide +kernel
theorem dX6_callFrom_50 : decode cX6_callFrom 50 = .ok (.bipush 36, 2) := by decide +kernel
theorem dX6_callFrom_52 : decode cX6_callFrom 52 = .ok (.iload_n 1, 1) := by decide +kernel
theorem dX6_callFrom_53 : decode cX6_callFrom 53 = .ok (.imul, 1) := by decide +kernel
theorem dX6_callFrom_54 : decode cX6_callFrom 54 = .ok (.iload 5, 2) := by decide +kernel
theorem dX6_callFrom_56 : decode cX6_callFrom 56 = .ok (.iadd, 1) := by decide +kernel
theorem dX6_callFrom_57 : decode cX6_callFrom 57 = .ok (.iaload, 1) := by decide +kernel
theorem dX6_callFrom_58 : decode cX6_callFrom 58 = .ok (.iload_n 3, 1) := by decide +kernel
theorem dX6_callFrom_59 : decode cX6_callFrom 59 = .ok (.if_icmp .ne 8, 3) := by decide +kernel
theorem dX6_callFrom_62 : decode cX6_callFrom 62 = .ok (.iload 5, 2) := by decide +kernel
theorem dX6_callFrom_64 : decode cX6_callFrom 64 = .ok (.goto 5, 3) := by decide +kernel
theorem dX6_callFrom_67 : decode cX6_callFrom 67 = .ok (.iload 4, 2) := by decide +kernel
theorem dX6_callFrom_69 : decode cX6_callFrom 69 = .ok (.istore 4, 2) := by decide +kernel
theorem dX6_callFrom_71 : decode cX6_callFrom 71 = .ok (.iinc 5 1, 3) := by decide +kernel
theorem dX6_callFrom_74 : decode cX6_callFrom 74 = .ok (.goto (-60), 3) := by decide +kernel
theorem dX6_callFrom_77 : decode cX6_callFrom 77 = .ok (.iload 4, 2) := by decide +kernel
theorem dX6_callFrom_79 : decode cX6_callFrom 79 = .ok (.ireturn, 1) := by decide +kernel
theorem dX6_callTo_0 : decode cX6_callTo 0 = .ok (.ldc 118, 2) := by decide +kernel
theorem dX6_callTo_2 : decode cX6_callTo 2 = .ok (.istore 4, 2) := by decide +kernel
theorem dX6_callTo_4 : decode cX6_callTo 4 = .ok (.iconst 0, 1) := by decide +kernel
theorem dX6_callTo_5 : decode cX6_callTo 5 = .ok (.istore 5, 2) := by decide +kernel
theorem dX6_callTo_7 : decode cX6_callTo 7 = .ok (.iload 5, 2) := by decide +kernel
theorem dX6_callTo_9 : decode cX6_callTo 9 = .ok (.aload_n 0, 1) := by decide +kernel
theorem dX6_callTo_10 : decode cX6_callTo 10 = .ok (.getfield 25, 3) := by decide +kernel
theorem dX6_callTo_13 : decode cX6_callTo 13 = .ok (.iload_n 1, 1) := by decide +kernel
theorem dX6_callTo_14 : decode cX6_callTo 14 = .ok (.iaload, 1) := by decide +kernel
theorem dX6_callTo_15 : decode cX6_callTo 15 = .ok (.aload_n 0, 1) := by decide +kernel
theorem dX6_callTo_16 : decode cX6_callTo 16 = .ok (.getfield 22, 3) := by decide +kernel
theorem dX6_callTo_19 : decode cX6_callTo 19 = .ok (.iload_n 1, 1) := by decide +kernel
theorem dX6_callTo_20 : decode cX6_callTo 20 = .ok (.iaload, 1) := by decide +kernel
theorem dX6_callTo_21 : decode cX6_callTo 21 = .ok (.imul, 1) := by decide +kernel
theorem dX6_callTo_22 : decode cX6_callTo 22 = .ok (.if_icmp .ge 68, 3) := by decide +kernel
theorem dX6_callTo_25 : decode cX6_callTo 25 = .ok (.aload_n 0, 1) := by decide +kernel
theorem dX6_callTo_26 : decode cX6_callTo 26 = .ok (.getfield 32, 3) := by decide +kernel
theorem dX6_callTo_29 : decode cX6_callTo 29 = .ok (.bipush 36, 2) := by decide +kernel
theorem dX6_callTo_31 : decode cX6_callTo 31 = .ok (.iload_n 1, 1) := by decide +kernel
theorem dX6_callTo_32 : decode cX6_callTo 32 = .ok (.imul, 1) := by decide +kernel
theorem dX6_callTo_33 : decode cX6_callTo 33 = .ok (.iload 5, 2) := by decide +kernel
theorem dX6_callTo_35 : decode cX6_callTo 35 = .ok (.iadd, 1) := by decide +kernel
theorem dX6_callTo_36 : decode cX6_callTo 36 = .ok (.iaload, 1) := by decide +kernel
theorem dX6_callTo_37 : decode cX6_callTo 37 = .ok (.istore 6, 2) := by decide +kernel
theorem dX6_callTo_39 : decode cX6_callTo 39 = .ok (.iload 6, 2) := by decide +kernel
theorem dX6_callTo_41 : decode cX6_callTo 41 = .ok (.ldc 118, 2) := by decide +kernel
theorem dX6_callTo_43 : decode cX6_callTo 43 = .ok (.if_icmp .eq 37, 3) := by decide +kernel
theorem dX6_callTo_46 : decode cX6_callTo 46 = .ok (.iload 6, 2) := by decide +kernel
theorem dX6_callTo_48 : decode cX6_callTo 48 = .ok (.aload_n 0, 1) := by decide +kernel
theorem dX6_callTo_49 : decode cX6_callTo 49 = .ok (.getfield 22, 3) := by decide +kernel
theorem dX6_callTo_52 : decode cX6_callTo 52 = .ok (.iload_n 1, 1) := by decide +kernel
theorem dX6_callTo_53 : decode cX6_callTo 53 = .ok (.iaload, 1) := by decide +kernel
theorem dX6_callTo_54 : decode cX6_callTo 54 = .ok (.idiv, 1) := by decide +kernel
theorem dX6_callTo_55 : decode cX6_callTo 55 = .ok (.iload_n 2, 1) := by decide +kernel
theorem dX6_callTo_56 : decode cX6_callTo 56 = .ok (.if_icmp .ne 24, 3) := by decide +kernel
theorem dX6_callTo_59 : decode cX6_callTo 59 = .ok (.aload_n 0, 1) := by decide +kernel
theorem dX6_callTo_60 : decode cX6_callTo 60 = .ok (.getfield 35, 3) := by decide +kernel
theorem dX6_callTo_63 : decode cX6_callTo 63 = .ok (.bipush 36, 2) := by decide +kernel
theorem dX6_callTo_65 : decode cX6_callTo 65 = .ok (.iload_n 1, 1) := by decide +kernel
theorem dX6_callTo_66 : decode cX6_callTo 66 = .ok (.imul, 1) := by decide +kernel
theorem dX6_callTo_67 : decode cX6_callTo 67 = .ok (.iload 5, 2) := by decide +kernel
theorem dX6_callTo_69 : decode cX6_callTo 69 = .ok (.iadd, 1) := by decide +kernel
theorem dX6_callTo_70 : decode cX6_callTo 70 = .ok (.iaload, 1) := by decide +kernel
theorem dX6_callTo_71 : decode cX6_callTo 71 = .ok (.iload_n 3, 1) := by decide +kernel
theorem dX6_callTo_72 : decode cX6_callTo 72 = .ok (.if_icmp .ne 8, 3) := by decide +kernel
theorem dX6_callTo_75 : decode cX6_callTo 75 = .ok (.iload 5, 2) := by decide +kernel
theorem dX6_callTo_77 : decode cX6_callTo 77 = .ok (.goto 5, 3) := by decide +kernel
theorem dX6_callTo_80 : decode cX6_callTo 80 = .ok (.iload 4, 2) := by decide +kernel
theorem dX6_callTo_82 : decode cX6_callTo 82 = .ok (.istore 4, 2) := by decide +kernel
theorem dX6_callTo_84 : decode cX6_callTo 84 = .ok (.iinc 5 1, 3) := by decide +kernel
theorem dX6_callTo_87 : decode cX6_callTo 87 = .ok (.goto (-80), 3) := by decide +kernel
theorem dX6_callTo_90 : decode cX6_callTo 90 = .ok (.iload 4, 2) := by decide +kernel
theorem dX6_callTo_92 : decode cX6_callTo 92 = .ok (.ireturn, 1) := by decide +kernel
set_option maxRecDepth 20000 in
theorem ggX6_isFree_X6_callFrom : GoodIn wsX6_isFree wsX6_callFrom := goodIn_r _ [7, 2, 8, 9, 10, 16, 17, 18, 19, 20, 21, 22, 23, 24, 25, 26, 27, 28, 29, 30, 31, 32, 33, 34, 35, 36, 37, 38, 39, 40, 41, 42, 43, 44, 45] (by decide +kernel) (by decide +kernel)
set_option maxRecDepth 20000 in
theorem gX6_isFree_X6_callFrom : GoodIn wsX6_isFree (wsV RX6 150 RX6 yX6_callFrom wsX6_callFrom) := goodIn_app (goodIn_of _ (by decide +kernel)) ggX6_isFree_X6_callFrom
set_option maxRecDepth 20000 in
theorem ggX6_isFree_X6_callTo : GoodIn wsX6_isFree wsX6_callTo := goodIn_r _ [14, 2, 15, 8, 9, 10, 16, 17, 18, 19, 20, 21, 22, 23, 24, 25, 26, 27, 28, 29, 30, 31, 32, 33, 34, 35, 36, 37, 38, 39, 40, 41, 42, 43, 44, 45] (by decide +kernel) (by decide +kernel)
set_option maxRecDepth 20000 in
theorem gX6_isFree_X6_callTo : GoodIn wsX6_isFree (wsV RX6 154 RX6 yX6_callTo wsX6_callTo) := goodIn_app (goodIn_of _ (by decide +kernel)) ggX6_isFree_X6_callTo
theorem dX6_isFree_0 : decode cX6_isFree 0 = .ok (.aload_n 0, 1) := by decide +kernel
theorem dX6_isFree_1 : decode cX6_isFree 1 = .ok (.getfield 28, 3) := by decide +kernel
theorem dX6_isFree_4 : decode cX6_isFree 4 = .ok (.bipush 12, 2) := by decide +kernel
theorem dX6_isFree_6 : decode cX6_isFree 6 = .ok (.iload_n 1, 1) := by decide +kernel
theorem dX6_isFree_7 : decode cX6_isFree 7 = .ok (.imul, 1) := by decide +kernel
theorem dX6_isFree_8 : decode cX6_isFree 8 = .ok (.iload 4, 2) := by decide +kernel
theorem dX6_isFree_10 : decode cX6_isFree 10 = .ok (.iadd, 1) := by decide +kernel
theorem dX6_isFree_11 : decode cX6_isFree 11 = .ok (.baload, 1) := by decide +kernel
theorem dX6_isFree_12 : decode cX6_isFree 12 = .ok (.ifCond .ne 33, 3) := by decide +kernel
theorem dX6_isFree_15 : decode cX6_isFree 15 = .ok (.aload_n 0, 1) := by decide +kernel
theorem dX6_isFree_16 : decode cX6_isFree 16 = .ok (.iload_n 1, 1) := by decide +kernel
theorem dX6_isFree_17 : decode cX6_isFree 17 = .ok (.iload_n 2, 1) := by decide +kernel
theorem dX6_isFree_18 : decode cX6_isFree 18 = .ok (.iload 4, 2) := by decide +kernel
theorem dX6_isFree_20 : decode cX6_isFree 20 = .ok (.invokevirtual 150, 3) := by decide +kernel
theorem dX6_isFree_23 : decode cX6_isFree 23 = .ok (.ldc 118, 2) := by decide +kernel
theorem dX6_isFree_25 : decode cX6_isFree 25 = .ok (.if_icmp .ne 20, 3) := by decide +kernel
theorem dX6_isFree_28 : decode cX6_isFree 28 = .ok (.aload_n 0, 1) := by decide +kernel
theorem dX6_isFree_29 : decode cX6_isFree 29 = .ok (.iload_n 1, 1) := by decide +kernel
theorem dX6_isFree_30 : decode cX6_isFree 30 = .ok (.iload_n 3, 1) := by decide +kernel
theorem dX6_isFree_31 : decode cX6_isFree 31 = .ok (.iload 4, 2) := by decide +kernel
theorem dX6_isFree_33 : decode cX6_isFree 33 = .ok (.invokevirtual 154, 3) := by decide +kernel
theorem dX6_isFree_36 : decode cX6_isFree 36 = .ok (.ldc 118, 2) := by decide +kernel
theorem dX6_isFree_38 : decode cX6_isFree 38 = .ok (.if_icmp .ne 7, 3) := by decide +kernel
theorem dX6_isFree_41 : decode cX6_isFree 41 = .ok (.iconst 1, 1) := by decide +kernel
theorem dX6_isFree_42 : decode cX6_isFree 42 = .ok (.goto 4, 3) := by decide +kernel
theorem dX6_isFree_45 : decode cX6_isFree 45 = .ok (.iconst 0, 1) := by decide +kernel
theorem dX6_isFree_46 : decode cX6_isFree 46 = .ok (.ireturn, 1) := by decide +kernel
set_option maxRecDepth 20000 in
theorem ggX6_findChain_X6_callTo : GoodIn wsX6_findChain wsX6_callTo := goodIn_r _ [10, 2, 11, 4, 5, 12, 17, 18, 19, 20, 21, 22, 23, 24, 25, 26, 27, 28, 29, 30, 31, 32, 33, 34, 35, 36, 37, 38, 39, 40, 41, 42, 43, 44, 45, 46] (by decide +kernel) (by decide +kernel)
set_option maxRecDepth 20000 in
theorem gX6_findChain_X6_callTo : GoodIn wsX6_findChain (wsV RX6 154 RX6 yX6_callTo wsX6_callTo) := goodIn_app (goodIn_of _ (by decide +kernel)) ggX6_findChain_X6_callTo
set_option maxRecDepth 20000 in
theorem ggX6_findChain_X6_callFrom : GoodIn wsX6_findChain wsX6_callFrom := goodIn_r _ [16, 2, 4, 5, 12, 17, 18, 19, 20, 21, 22, 23, 24, 25, 26, 27, 28, 29, 30, 31, 32, 33, 34, 35, 36, 37, 38, 39, 40, 41, 42, 43, 44, 45, 46] (by decide +kernel) (by decide +kernel)
set_option maxRecDepth 20000 in
theorem gX6_findChain_X6_callFrom : GoodIn wsX6_findChain (wsV RX6 150 RX6 yX6_callFrom wsX6_callFrom) := goodIn_app (goodIn_of _ (by decide +kernel)) ggX6_findChain_X6_callFrom
theorem dX6_findChain_0 : decode cX6_findChain 0 = .ok (.aload_n 0, 1) := by decide +kernel
theorem dX6_findChain_1 : decode cX6_findChain 1 = .ok (.iconst 0, 1) := by decide +kernel
theorem dX6_findChain_2 : decode cX6_findChain 2 = .ok (.putfield 157, 3) := by decide +kernel
theorem dX6_findChain_5 : decode cX6_findChain 5 = .ok (.aload_n 0, 1) := by decide +kernel
theorem dX6_findChain_6 : decode cX6_findChain 6 = .ok (.iload_n 1, 1) := by decide +kernel
theorem dX6_findChain_7 : decode cX6_findChain 7 = .ok (.iload_n 2, 1) := by decide +kernel
theorem dX6_findChain_8 : decode cX6_findChain 8 = .ok (.iload_n 3, 1) := by decide +kernel
theorem dX6_findChain_9 : decode cX6_findChain 9 = .ok (.invokevirtual 154, 3) := by decide +kernel
theorem dX6_findChain_12 : decode cX6_findChain 12 = .ok (.istore 5, 2) := by decide +kernel
theorem dX6_findChain_14 : decode cX6_findChain 14 = .ok (.iconst 1, 1) := by decide +kernel
theorem dX6_findChain_15 : decode cX6_findChain 15 = .ok (.istore 6, 2) := by decide +kernel
theorem dX6_findChain_17 : decode cX6_findChain 17 = .ok (.iload 5, 2) := by decide +kernel
theorem dX6_findChain_19 : decode cX6_findChain 19 = .ok (.ldc 118, 2) := by decide +kernel
theorem dX6_findChain_21 : decode cX6_findChain 21 = .ok (.if_icmp .eq 90, 3) := by decide +kernel
theorem dX6_findChain_24 : decode cX6_findChain 24 = .ok (.aload_n 0, 1) := by decide +kernel
theorem dX6_findChain_25 : decode cX6_findChain 25 = .ok (.getfield 41, 3) := by decide +kernel
theorem dX6_findChain_28 : decode cX6_findChain 28 = .ok (.aload_n 0, 1) := by decide +kernel
theorem dX6_findChain_29 : decode cX6_findChain 29 = .ok (.getfield 157, 3) := by decide +kernel
theorem dX6_findChain_32 : decode cX6_findChain 32 = .ok (.iload 5, 2) := by decide +kernel
theorem dX6_findChain_34 : decode cX6_findChain 34 = .ok (.iastore, 1) := by decide +kernel
theorem dX6_findChain_35 : decode cX6_findChain 35 = .ok (.aload_n 0, 1) := by decide +kernel
theorem dX6_findChain_36 : decode cX6_findChain 36 = .ok (.dup, 1) := by decide +kernel
theorem dX6_findChain_37 : decode cX6_findChain 37 = .ok (.getfield 157, 3) := by decide +kernel
theorem dX6_findChain_40 : decode cX6_findChain 40 = .ok (.iconst 1, 1) := by decide +kernel
theorem dX6_findChain_41 : decode cX6_findChain 41 = .ok (.iadd, 1) := by decide +kernel
theorem dX6_findChain_42 : decode cX6_findChain 42 = .ok (.putfield 157, 3) := by decide +kernel
theorem dX6_findChain_45 : decode cX6_findChain 45 = .ok (.iload 6, 2) := by decide +kernel
theorem dX6_findChain_47 : decode cX6_findChain 47 = .ok (.ifCond .eq 22, 3) := by decide +kernel
theorem dX6_findChain_50 : decode cX6_findChain 50 = .ok (.aload_n 0, 1) := by decide +kernel
theorem dX6_findChain_51 : decode cX6_findChain 51 = .ok (.iload_n 1, 1) := by decide +kernel
theorem dX6_findChain_52 : decode cX6_findChain 52 = .ok (.iload 5, 2) := by decide +kernel
theorem dX6_findChain_54 : decode cX6_findChain 54 = .ok (.aload_n 0, 1) := by decide +kernel
theorem dX6_findChain_55 : decode cX6_findChain 55 = .ok (.getfield 22, 3) := by decide +kernel
theorem dX6_findChain_58 : decode cX6_findChain 58 = .ok (.iload_n 1, 1) := by decide +kernel
theorem dX6_findChain_59 : decode cX6_findChain 59 = .ok (.iaload, 1) := by decide +kernel
theorem dX6_findChain_60 : decode cX6_findChain 60 = .ok (.idiv, 1) := by decide +kernel
theorem dX6_findChain_61 : decode cX6_findChain 61 = .ok (.iload 4, 2) := by decide +kernel
theorem dX6_findChain_63 : decode cX6_findChain 63 = .ok (.invokevirtual 150, 3) := by decide +kernel
theorem dX6_findChain_66 : decode cX6_findChain 66 = .ok (.goto 28, 3) := by decide +kernel
theorem dX6_findChain_69 : decode cX6_findChain 69 = .ok (.aload_n 0, 1) := by decide +kernel
theorem dX6_findChain_70 : decode cX6_findChain 70 = .ok (.iload_n 1, 1) := by decide +kernel
theorem dX6_findChain_71 : decode cX6_findChain 71 = .ok (.aload_n 0, 1) := by decide +kernel
theorem dX6_findChain_72 : decode cX6_findChain 72 = .ok (.getfield 32, 3) := by decide +kernel
theorem dX6_findChain_75 : decode cX6_findChain 75 = .ok (.bipush 36, 2) := by decide +kernel
theorem dX6_findChain_77 : decode cX6_findChain 77 = .ok (.iload_n 1, 1) := by decide +kernel
theorem dX6_findChain_78 : decode cX6_findChain 78 = .ok (.imul, 1) := by decide +kernel
theorem dX6_findChain_79 : decode cX6_findChain 79 = .ok (.iload 5, 2) := by decide +kernel
theorem dX6_findChain_81 : decode cX6_findChain 81 = .ok (.iadd, 1) := by decide +kernel
theorem dX6_findChain_82 : decode cX6_findChain 82 = .ok (.iaload, 1) := by decide +kernel
theorem dX6_findChain_83 : decode cX6_findChain 83 = .ok (.aload_n 0, 1) := by decide +kernel
theorem dX6_findChain_84 : decode cX6_findChain 84 = .ok (.getfield 22, 3) := by decide +kernel
theorem dX6_findChain_87 : decode cX6_findChain 87 = .ok (.iload_n 1, 1) := by decide +kernel
theorem dX6_findChain_88 : decode cX6_findChain 88 = .ok (.iaload, 1) := by decide +kernel
theorem dX6_findChain_89 : decode cX6_findChain 89 = .ok (.idiv, 1) := by decide +kernel
theorem dX6_findChain_90 : decode cX6_findChain 90 = .ok (.iload_n 3, 1) := by decide +kernel
theorem dX6_findChain_91 : decode cX6_findChain 91 = .ok (.invokevirtual 154, 3) := by decide +kernel
theorem dX6_findChain_94 : decode cX6_findChain 94 = .ok (.istore 5, 2) := by decide +kernel
theorem dX6_findChain_96 : decode cX6_findChain 96 = .ok (.iload 6, 2) := by decide +kernel
theorem dX6_findChain_98 : decode cX6_findChain 98 = .ok (.ifCond .ne 7, 3) := by decide +kernel
theorem dX6_findChain_101 : decode cX6_findChain 101 = .ok (.iconst 1, 1) := by decide +kernel
theorem dX6_findChain_102 : decode cX6_findChain 102 = .ok (.goto 4, 3) := by decide +kernel
theorem dX6_findChain_105 : decode cX6_findChain 105 = .ok (.iconst 0, 1) := by decide +kernel
theorem dX6_findChain_106 : decode cX6_findChain 106 = .ok (.istore 6, 2) := by decide +kernel
theorem dX6_findChain_108 : decode cX6_findChain 108 = .ok (.goto (-91), 3) := by decide +kernel
theorem dX6_findChain_111 : decode cX6_findChain 111 = .ok (.return_, 1) := by decide +kernel
set_option maxRecDepth 20000 in
theorem ggX6_best_X6_isFree : GoodIn wsX6_best wsX6_isFree := goodIn_r _ [11, 5, 3, 12, 13, 14, 10, 15, 16, 17, 18, 19, 20, 21, 22, 23, 29, 30, 31, 32, 33, 34, 35, 36, 37, 38, 39, 40, 41, 42, 43, 44, 45, 46, 47, 48, 49, 50, 51, 52, 53, 54, 55, 56, 57, 58] (by decide +kernel) (by decide +kernel)
set_option maxRecDepth 20000 in
theorem gX6_best_X6_isFree : GoodIn wsX6_best (wsV RX6 160 RX6 yX6_isFree wsX6_isFree) := goodIn_app (goodIn_of _ (by decide +kernel)) ggX6_best_X6_isFree
set_option maxRecDepth 20000 in
theorem ggX6_best_X6_callFrom : GoodIn wsX6_best wsX6_callFrom := goodIn_r _ [15, 3, 16, 17, 18, 29, 30, 31, 32, 33, 34, 35, 36, 37, 38, 39, 40, 41, 42, 43, 44, 45, 46, 47, 48, 49, 50, 51, 52, 53, 54, 55, 56, 57, 58] (by decide +kernel) (by decide +kernel)
set_option maxRecDepth 20000 in
theorem gX6_best_X6_callFrom : GoodIn wsX6_best (wsV RX6 150 RX6 yX6_callFrom wsX6_callFrom) := goodIn_app (goodIn_of _ (by decide +kernel)) ggX6_best_X6_callFrom
set_option maxRecDepth 20000 in
theorem ggX6_best_X6_callTo : GoodIn wsX6_best wsX6_callTo := goodIn_r _ [22, 3, 23, 16, 17, 18, 29, 30, 31, 32, 33, 34, 35, 36, 37, 38, 39, 40, 41, 42, 43, 44, 45, 46, 47, 48, 49, 50, 51, 52, 53, 54, 55, 56, 57, 58] (by decide +kernel) (by decide +kernel)
set_option maxRecDepth 20000 in
theorem gX6_best_X6_callTo : GoodIn wsX6_best (wsV RX6 154 RX6 yX6_callTo wsX6_callTo) := goodIn_app (goodIn_of _ (by decide +kernel)) ggX6_best_X6_callTo
set_option maxRecDepth 20000 in
theorem ggX6_best_X6_findChain : GoodIn wsX6_best wsX6_findChain := goodIn_r _ [27, 6, 3, 28, 16, 17, 19, 20, 21, 10, 22, 23, 18, 12, 13, 14, 15, 29, 30, 31, 32, 33, 34, 35, 36, 37, 38, 39, 40, 41, 42, 43, 44, 45, 46, 47, 48, 49, 50, 51, 52, 53, 54, 55, 56, 57, 58] (by decide +kernel) (by decide +kernel)
set_option maxRecDepth 20000 in
theorem gX6_best_X6_findChain : GoodIn wsX6_best (wsV RX6 170 RX6 yX6_findChain wsX6_findChain) := goodIn_app (goodIn_of _ (by decide +kernel)) ggX6_best_X6_findChain
theorem dX6_best_0 : decode cX6_best 0 = .ok (.iconst 0, 1) := by decide +kernel
theorem dX6_best_1 : decode cX6_best 1 = .ok (.istore 4, 2) := by decide +kernel
theorem dX6_best_3 : decode cX6_best 3 = .ok (.iload 4, 2) := by decide +kernel
theorem dX6_best_5 : decode cX6_best 5 = .ok (.aload_n 0, 1) := by decide +kernel
theorem dX6_best_6 : decode cX6_best 6 = .ok (.getfield 19, 3) := by decide +kernel
theorem dX6_best_9 : decode cX6_best 9 = .ok (.iload_n 1, 1) := by decide +kernel
theorem dX6_best_10 : decode cX6_best 10 = .ok (.iaload, 1) := by decide +kernel
theorem dX6_best_11 : decode cX6_best 11 = .ok (.if_icmp .ge 35, 3) := by decide +kernel
theorem dX6_best_14 : decode cX6_best 14 = .ok (.aload_n 0, 1) := by decide +kernel
theorem dX6_best_15 : decode cX6_best 15 = .ok (.iload_n 1, 1) := by decide +kernel
theorem dX6_best_16 : decode cX6_best 16 = .ok (.iload_n 2, 1) := by decide +kernel
theorem dX6_best_17 : decode cX6_best 17 = .ok (.iload_n 3, 1) := by decide +kernel
theorem dX6_best_18 : decode cX6_best 18 = .ok (.iload 4, 2) := by decide +kernel
theorem dX6_best_20 : decode cX6_best 20 = .ok (.invokevirtual 160, 3) := by decide +kernel
theorem dX6_best_23 : decode cX6_best 23 = .ok (.ifCond .eq 17, 3) := by decide +kernel
theorem dX6_best_26 : decode cX6_best 26 = .ok (.aload_n 0, 1) := by decide +kernel
theorem dX6_best_27 : decode cX6_best 27 = .ok (.iload 4, 2) := by decide +kernel
theorem dX6_best_29 : decode cX6_best 29 = .ok (.putfield 164, 3) := by decide +kernel
theorem dX6_best_32 : decode cX6_best 32 = .ok (.aload_n 0, 1) := by decide +kernel
theorem dX6_best_33 : decode cX6_best 33 = .ok (.ldc 118, 2) := by decide +kernel
theorem dX6_best_35 : decode cX6_best 35 = .ok (.putfield 167, 3) := by decide +kernel
theorem dX6_best_38 : decode cX6_best 38 = .ok (.iconst 0, 1) := by decide +kernel
theorem dX6_best_39 : decode cX6_best 39 = .ok (.ireturn, 1) := by decide +kernel
theorem dX6_best_40 : decode cX6_best 40 = .ok (.iinc 4 1, 3) := by decide +kernel
theorem dX6_best_43 : decode cX6_best 43 = .ok (.goto (-40), 3) := by decide +kernel
theorem dX6_best_46 : decode cX6_best 46 = .ok (.ldc 118, 2) := by decide +kernel
theorem dX6_best_48 : decode cX6_best 48 = .ok (.istore 4, 2) := by decide +kernel
theorem dX6_best_50 : decode cX6_best 50 = .ok (.iconst 0, 1) := by decide +kernel
theorem dX6_best_51 : decode cX6_best 51 = .ok (.istore 5, 2) := by decide +kernel
theorem dX6_best_53 : decode cX6_best 53 = .ok (.iload 5, 2) := by decide +kernel
theorem dX6_best_55 : decode cX6_best 55 = .ok (.aload_n 0, 1) := by decide +kernel
theorem dX6_best_56 : decode cX6_best 56 = .ok (.getfield 19, 3) := by decide +kernel
theorem dX6_best_59 : decode cX6_best 59 = .ok (.iload_n 1, 1) := by decide +kernel
theorem dX6_best_60 : decode cX6_best 60 = .ok (.iaload, 1) := by decide +kernel
theorem dX6_best_61 : decode cX6_best 61 = .ok (.if_icmp .ge 129, 3) := by decide +kernel
theorem dX6_best_64 : decode cX6_best 64 = .ok (.iconst 0, 1) := by decide +kernel
theorem dX6_best_65 : decode cX6_best 65 = .ok (.istore 6, 2) := by decide +kernel
theorem dX6_best_67 : decode cX6_best 67 = .ok (.iload 6, 2) := by decide +kernel
theorem dX6_best_69 : decode cX6_best 69 = .ok (.aload_n 0, 1) := by decide +kernel
theorem dX6_best_70 : decode cX6_best 70 = .ok (.getfield 19, 3) := by decide +kernel
theorem dX6_best_73 : decode cX6_best 73 = .ok (.iload_n 1, 1) := by decide +kernel
theorem dX6_best_74 : decode cX6_best 74 = .ok (.iaload, 1) := by decide +kernel
theorem dX6_best_75 : decode cX6_best 75 = .ok (.if_icmp .ge 109, 3) := by decide +kernel
theorem dX6_best_78 : decode cX6_best 78 = .ok (.aload_n 0, 1) := by decide +kernel
theorem dX6_best_79 : decode cX6_best 79 = .ok (.getfield 28, 3) := by decide +kernel
theorem dX6_best_82 : decode cX6_best 82 = .ok (.bipush 12, 2) := by decide +kernel
theorem dX6_best_84 : decode cX6_best 84 = .ok (.iload_n 1, 1) := by decide +kernel
theorem dX6_best_85 : decode cX6_best 85 = .ok (.imul, 1) := by decide +kernel
theorem dX6_best_86 : decode cX6_best 86 = .ok (.iload 5, 2) := by decide +kernel
theorem dX6_best_88 : decode cX6_best 88 = .ok (.iadd, 1) := by decide +kernel
theorem dX6_best_89 : decode cX6_best 89 = .ok (.baload, 1) := by decide +kernel
theorem dX6_best_90 : decode cX6_best 90 = .ok (.ifCond .ne 88, 3) := by decide +kernel
theorem dX6_best_93 : decode cX6_best 93 = .ok (.aload_n 0, 1) := by decide +kernel
theorem dX6_best_94 : decode cX6_best 94 = .ok (.getfield 28, 3) := by decide +kernel
theorem dX6_best_97 : decode cX6_best 97 = .ok (.bipush 12, 2) := by decide +kernel
theorem dX6_best_99 : decode cX6_best 99 = .ok (.iload_n 1, 1) := by decide +kernel
theorem dX6_best_100 : decode cX6_best 100 = .ok (.imul, 1) := by decide +kernel
theorem dX6_best_101 : decode cX6_best 101 = .ok (.iload 6, 2) := by decide +kernel
theorem dX6_best_103 : decode cX6_best 103 = .ok (.iadd, 1) := by decide +kernel
theorem dX6_best_104 : decode cX6_best 104 = .ok (.baload, 1) := by decide +kernel
theorem dX6_best_105 : decode cX6_best 105 = .ok (.ifCond .ne 73, 3) := by decide +kernel
theorem dX6_best_108 : decode cX6_best 108 = .ok (.aload_n 0, 1) := by decide +kernel
theorem dX6_best_109 : decode cX6_best 109 = .ok (.iload_n 1, 1) := by decide +kernel
theorem dX6_best_110 : decode cX6_best 110 = .ok (.iload_n 2, 1) := by decide +kernel
theorem dX6_best_111 : decode cX6_best 111 = .ok (.iload 5, 2) := by decide +kernel
theorem dX6_best_113 : decode cX6_best 113 = .ok (.invokevirtual 150, 3) := by decide +kernel
theorem dX6_best_116 : decode cX6_best 116 = .ok (.ldc 118, 2) := by decide +kernel
theorem dX6_best_118 : decode cX6_best 118 = .ok (.if_icmp .ne 60, 3) := by decide +kernel
theorem dX6_best_121 : decode cX6_best 121 = .ok (.aload_n 0, 1) := by decide +kernel
theorem dX6_best_122 : decode cX6_best 122 = .ok (.iload_n 1, 1) := by decide +kernel
theorem dX6_best_123 : decode cX6_best 123 = .ok (.iload_n 3, 1) := by decide +kernel
theorem dX6_best_124 : decode cX6_best 124 = .ok (.iload 6, 2) := by decide +kernel
theorem dX6_best_126 : decode cX6_best 126 = .ok (.invokevirtual 154, 3) := by decide +kernel
theorem dX6_best_129 : decode cX6_best 129 = .ok (.ldc 118, 2) := by decide +kernel
theorem dX6_best_131 : decode cX6_best 131 = .ok (.if_icmp .ne 47, 3) := by decide +kernel
theorem dX6_best_134 : decode cX6_best 134 = .ok (.aload_n 0, 1) := by decide +kernel
theorem dX6_best_135 : decode cX6_best 135 = .ok (.iload_n 1, 1) := by decide +kernel
theorem dX6_best_136 : decode cX6_best 136 = .ok (.iload_n 3, 1) := by decide +kernel
theorem dX6_best_137 : decode cX6_best 137 = .ok (.iload 5, 2) := by decide +kernel
theorem dX6_best_139 : decode cX6_best 139 = .ok (.iload 6, 2) := by decide +kernel
theorem dX6_best_141 : decode cX6_best 141 = .ok (.invokevirtual 170, 3) := by decide +kernel
theorem dX6_best_144 : decode cX6_best 144 = .ok (.iload 4, 2) := by decide +kernel
theorem dX6_best_146 : decode cX6_best 146 = .ok (.ldc 118, 2) := by decide +kernel
theorem dX6_best_148 : decode cX6_best 148 = .ok (.if_icmp .eq 12, 3) := by decide +kernel
theorem dX6_best_151 : decode cX6_best 151 = .ok (.aload_n 0, 1) := by decide +kernel
theorem dX6_best_152 : decode cX6_best 152 = .ok (.getfield 157, 3) := by decide +kernel
theorem dX6_best_155 : decode cX6_best 155 = .ok (.iload 4, 2) := by decide +kernel
theorem dX6_best_157 : decode cX6_best 157 = .ok (.if_icmp .ge 21, 3) := by decide +kernel
theorem dX6_best_160 : decode cX6_best 160 = .ok (.aload_n 0, 1) := by decide +kernel
theorem dX6_best_161 : decode cX6_best 161 = .ok (.getfield 157, 3) := by decide +kernel
theorem dX6_best_164 : decode cX6_best 164 = .ok (.istore 4, 2) := by decide +kernel
theorem dX6_best_166 : decode cX6_best 166 = .ok (.aload_n 0, 1) := by decide +kernel
theorem dX6_best_167 : decode cX6_best 167 = .ok (.iload 5, 2) := by decide +kernel
theorem dX6_best_169 : decode cX6_best 169 = .ok (.putfield 164, 3) := by decide +kernel
theorem dX6_best_172 : decode cX6_best 172 = .ok (.aload_n 0, 1) := by decide +kernel
theorem dX6_best_173 : decode cX6_best 173 = .ok (.iload 6, 2) := by decide +kernel
theorem dX6_best_175 : decode cX6_best 175 = .ok (.putfield 167, 3) := by decide +kernel
theorem dX6_best_178 : decode cX6_best 178 = .ok (.iinc 6 1, 3) := by decide +kernel
theorem dX6_best_181 : decode cX6_best 181 = .ok (.goto (-114), 3) := by decide +kernel
theorem dX6_best_184 : decode cX6_best 184 = .ok (.iinc 5 1, 3) := by decide +kernel
theorem dX6_best_187 : decode cX6_best 187 = .ok (.goto (-134), 3) := by decide +kernel
theorem dX6_best_190 : decode cX6_best 190 = .ok (.iload 4, 2) := by decide +kernel
theorem dX6_best_192 : decode cX6_best 192 = .ok (.ireturn, 1) := by decide +kernel
set_option maxRecDepth 20000 in
theorem ggX6_setUp_X6_best : GoodIn wsX6_setUp wsX6_best := goodIn_r _ [13, 14, 3, 2, 4, 15, 5, 16, 17, 18, 12, 19, 20, 21, 22, 23, 1, 8, 6, 24, 25, 26, 27, 28, 29, 30, 31, 32, 7, 33, 34, 35, 36, 37, 38, 39, 40, 41, 42, 43, 44, 45, 46, 47, 48, 49, 50, 51, 52, 53, 54, 55, 56, 57, 58, 59, 60, 61, 62] (by decide +kernel) (by decide +kernel)
set_option maxRecDepth 20000 in
theorem gX6_setUp_X6_best : GoodIn wsX6_setUp (wsV RX6 174 RX6 yX6_best wsX6_best) := goodIn_app (goodIn_of _ (by decide +kernel)) ggX6_setUp_X6_best
set_option maxRecDepth 20000 in
theorem ggX6_setUp_X6_findChain : GoodIn wsX6_setUp wsX6_findChain := goodIn_r _ [32, 5, 2, 7, 1, 8, 24, 25, 26, 12, 27, 28, 6, 20, 21, 22, 23, 33, 34, 35, 36, 37, 38, 39, 40, 41, 42, 43, 44, 45, 46, 47, 48, 49, 50, 51, 52, 53, 54, 55, 56, 57, 58, 59, 60, 61, 62] (by decide +kernel) (by decide +kernel)
set_option maxRecDepth 20000 in
theorem gX6_setUp_X6_findChain : GoodIn wsX6_setUp (wsV RX6 170 RX6 yX6_findChain wsX6_findChain) := goodIn_app (goodIn_of _ (by decide +kernel)) ggX6_setUp_X6_findChain
theorem dX6_setUp_0 : decode cX6_setUp 0 = .ok (.aload_n 0, 1) := by decide +kernel
theorem dX6_setUp_1 : decode cX6_setUp 1 = .ok (.iload_n 1, 1) := by decide +kernel
theorem dX6_setUp_2 : decode cX6_setUp 2 = .ok (.iload_n 2, 1) := by decide +kernel
theorem dX6_setUp_3 : decode cX6_setUp 3 = .ok (.aload_n 0, 1) := by decide +kernel
theorem dX6_setUp_4 : decode cX6_setUp 4 = .ok (.getfield 22, 3) := by decide +kernel
theorem dX6_setUp_7 : decode cX6_setUp 7 = .ok (.iload_n 1, 1) := by decide +kernel
theorem dX6_setUp_8 : decode cX6_setUp 8 = .ok (.iaload, 1) := by decide +kernel
theorem dX6_setUp_9 : decode cX6_setUp 9 = .ok (.idiv, 1) := by decide +kernel
theorem dX6_setUp_10 : decode cX6_setUp 10 = .ok (.iload_n 3, 1) := by decide +kernel
theorem dX6_setUp_11 : decode cX6_setUp 11 = .ok (.aload_n 0, 1) := by decide +kernel
theorem dX6_setUp_12 : decode cX6_setUp 12 = .ok (.getfield 22, 3) := by decide +kernel
theorem dX6_setUp_15 : decode cX6_setUp 15 = .ok (.iload_n 1, 1) := by decide +kernel
theorem dX6_setUp_16 : decode cX6_setUp 16 = .ok (.iaload, 1) := by decide +kernel
theorem dX6_setUp_17 : decode cX6_setUp 17 = .ok (.idiv, 1) := by decide +kernel
theorem dX6_setUp_18 : decode cX6_setUp 18 = .ok (.invokevirtual 174, 3) := by decide +kernel
theorem dX6_setUp_21 : decode cX6_setUp 21 = .ok (.istore 4, 2) := by decide +kernel
theorem dX6_setUp_23 : decode cX6_setUp 23 = .ok (.iload 4, 2) := by decide +kernel
theorem dX6_setUp_25 : decode cX6_setUp 25 = .ok (.ldc 118, 2) := by decide +kernel
theorem dX6_setUp_27 : decode cX6_setUp 27 = .ok (.if_icmp .ne 6, 3) := by decide +kernel
theorem dX6_setUp_30 : decode cX6_setUp 30 = .ok (.ldc 118, 2) := by decide +kernel
theorem dX6_setUp_32 : decode cX6_setUp 32 = .ok (.ireturn, 1) := by decide +kernel
theorem dX6_setUp_33 : decode cX6_setUp 33 = .ok (.iload 4, 2) := by decide +kernel
theorem dX6_setUp_35 : decode cX6_setUp 35 = .ok (.ifCond .le 94, 3) := by decide +kernel
theorem dX6_setUp_38 : decode cX6_setUp 38 = .ok (.aload_n 0, 1) := by decide +kernel
theorem dX6_setUp_39 : decode cX6_setUp 39 = .ok (.iload_n 1, 1) := by decide +kernel
theorem dX6_setUp_40 : decode cX6_setUp 40 = .ok (.iload_n 3, 1) := by decide +kernel
theorem dX6_setUp_41 : decode cX6_setUp 41 = .ok (.aload_n 0, 1) := by decide +kernel
theorem dX6_setUp_42 : decode cX6_setUp 42 = .ok (.getfield 22, 3) := by decide +kernel
theorem dX6_setUp_45 : decode cX6_setUp 45 = .ok (.iload_n 1, 1) := by decide +kernel
theorem dX6_setUp_46 : decode cX6_setUp 46 = .ok (.iaload, 1) := by decide +kernel
theorem dX6_setUp_47 : decode cX6_setUp 47 = .ok (.idiv, 1) := by decide +kernel
theorem dX6_setUp_48 : decode cX6_setUp 48 = .ok (.aload_n 0, 1) := by decide +kernel
theorem dX6_setUp_49 : decode cX6_setUp 49 = .ok (.getfield 164, 3) := by decide +kernel
theorem dX6_setUp_52 : decode cX6_setUp 52 = .ok (.aload_n 0, 1) := by decide +kernel
theorem dX6_setUp_53 : decode cX6_setUp 53 = .ok (.getfield 167, 3) := by decide +kernel
theorem dX6_setUp_56 : decode cX6_setUp 56 = .ok (.invokevirtual 170, 3) := by decide +kernel
theorem dX6_setUp_59 : decode cX6_setUp 59 = .ok (.iconst 0, 1) := by decide +kernel
theorem dX6_setUp_60 : decode cX6_setUp 60 = .ok (.istore 5, 2) := by decide +kernel
theorem dX6_setUp_62 : decode cX6_setUp 62 = .ok (.iload 5, 2) := by decide +kernel
theorem dX6_setUp_64 : decode cX6_setUp 64 = .ok (.aload_n 0, 1) := by decide +kernel
theorem dX6_setUp_65 : decode cX6_setUp 65 = .ok (.getfield 157, 3) := by decide +kernel
theorem dX6_setUp_68 : decode cX6_setUp 68 = .ok (.if_icmp .ge 61, 3) := by decide +kernel
theorem dX6_setUp_71 : decode cX6_setUp 71 = .ok (.aload_n 0, 1) := by decide +kernel
theorem dX6_setUp_72 : decode cX6_setUp 72 = .ok (.getfield 35, 3) := by decide +kernel
theorem dX6_setUp_75 : decode cX6_setUp 75 = .ok (.bipush 36, 2) := by decide +kernel
theorem dX6_setUp_77 : decode cX6_setUp 77 = .ok (.iload_n 1, 1) := by decide +kernel
theorem dX6_setUp_78 : decode cX6_setUp 78 = .ok (.imul, 1) := by decide +kernel
theorem dX6_setUp_79 : decode cX6_setUp 79 = .ok (.aload_n 0, 1) := by decide +kernel
theorem dX6_setUp_80 : decode cX6_setUp 80 = .ok (.getfield 41, 3) := by decide +kernel
theorem dX6_setUp_83 : decode cX6_setUp 83 = .ok (.iload 5, 2) := by decide +kernel
theorem dX6_setUp_85 : decode cX6_setUp 85 = .ok (.iaload, 1) := by decide +kernel
theorem dX6_setUp_86 : decode cX6_setUp 86 = .ok (.iadd, 1) := by decide +kernel
theorem dX6_setUp_87 : decode cX6_setUp 87 = .ok (.aload_n 0, 1) := by decide +kernel
theorem dX6_setUp_88 : decode cX6_setUp 88 = .ok (.getfield 35, 3) := by decide +kernel
theorem dX6_setUp_91 : decode cX6_setUp 91 = .ok (.bipush 36, 2) := by decide +kernel
theorem dX6_setUp_93 : decode cX6_setUp 93 = .ok (.iload_n 1, 1) := by decide +kernel
theorem dX6_setUp_94 : decode cX6_setUp 94 = .ok (.imul, 1) := by decide +kernel
theorem dX6_setUp_95 : decode cX6_setUp 95 = .ok (.aload_n 0, 1) := by decide +kernel
theorem dX6_setUp_96 : decode cX6_setUp 96 = .ok (.getfield 41, 3) := by decide +kernel
theorem dX6_setUp_99 : decode cX6_setUp 99 = .ok (.iload 5, 2) := by decide +kernel
theorem dX6_setUp_101 : decode cX6_setUp 101 = .ok (.iaload, 1) := by decide +kernel
theorem dX6_setUp_102 : decode cX6_setUp 102 = .ok (.iadd, 1) := by decide +kernel
theorem dX6_setUp_103 : decode cX6_setUp 103 = .ok (.iaload, 1) := by decide +kernel
theorem dX6_setUp_104 : decode cX6_setUp 104 = .ok (.aload_n 0, 1) := by decide +kernel
theorem dX6_setUp_105 : decode cX6_setUp 105 = .ok (.getfield 164, 3) := by decide +kernel
theorem dX6_setUp_108 : decode cX6_setUp 108 = .ok (.if_icmp .ne 10, 3) := by decide +kernel
theorem dX6_setUp_111 : decode cX6_setUp 111 = .ok (.aload_n 0, 1) := by decide +kernel
theorem dX6_setUp_112 : decode cX6_setUp 112 = .ok (.getfield 167, 3) := by decide +kernel
theorem dX6_setUp_115 : decode cX6_setUp 115 = .ok (.goto 7, 3) := by decide +kernel
theorem dX6_setUp_118 : decode cX6_setUp 118 = .ok (.aload_n 0, 1) := by decide +kernel
theorem dX6_setUp_119 : decode cX6_setUp 119 = .ok (.getfield 164, 3) := by decide +kernel
theorem dX6_setUp_122 : decode cX6_setUp 122 = .ok (.iastore, 1) := by decide +kernel
theorem dX6_setUp_123 : decode cX6_setUp 123 = .ok (.iinc 5 1, 3) := by decide +kernel
theorem dX6_setUp_126 : decode cX6_setUp 126 = .ok (.goto (-64), 3) := by decide +kernel
theorem dX6_setUp_129 : decode cX6_setUp 129 = .ok (.aload_n 0, 1) := by decide +kernel
theorem dX6_setUp_130 : decode cX6_setUp 130 = .ok (.getfield 32, 3) := by decide +kernel
theorem dX6_setUp_133 : decode cX6_setUp 133 = .ok (.bipush 36, 2) := by decide +kernel
theorem dX6_setUp_135 : decode cX6_setUp 135 = .ok (.iload_n 1, 1) := by decide +kernel
theorem dX6_setUp_136 : decode cX6_setUp 136 = .ok (.imul, 1) := by decide +kernel
theorem dX6_setUp_137 : decode cX6_setUp 137 = .ok (.iload_n 2, 1) := by decide +kernel
theorem dX6_setUp_138 : decode cX6_setUp 138 = .ok (.iadd, 1) := by decide +kernel
theorem dX6_setUp_139 : decode cX6_setUp 139 = .ok (.iload_n 3, 1) := by decide +kernel
theorem dX6_setUp_140 : decode cX6_setUp 140 = .ok (.iastore, 1) := by decide +kernel
theorem dX6_setUp_141 : decode cX6_setUp 141 = .ok (.aload_n 0, 1) := by decide +kernel
theorem dX6_setUp_142 : decode cX6_setUp 142 = .ok (.getfield 35, 3) := by decide +kernel
theorem dX6_setUp_145 : decode cX6_setUp 145 = .ok (.bipush 36, 2) := by decide +kernel
theorem dX6_setUp_147 : decode cX6_setUp 147 = .ok (.iload_n 1, 1) := by decide +kernel
theorem dX6_setUp_148 : decode cX6_setUp 148 = .ok (.imul, 1) := by decide +kernel
theorem dX6_setUp_149 : decode cX6_setUp 149 = .ok (.iload_n 2, 1) := by decide +kernel
theorem dX6_setUp_150 : decode cX6_setUp 150 = .ok (.iadd, 1) := by decide +kernel
theorem dX6_setUp_151 : decode cX6_setUp 151 = .ok (.aload_n 0, 1) := by decide +kernel
theorem dX6_setUp_152 : decode cX6_setUp 152 = .ok (.getfield 164, 3) := by decide +kernel
theorem dX6_setUp_155 : decode cX6_setUp 155 = .ok (.iastore, 1) := by decide +kernel
theorem dX6_setUp_156 : decode cX6_setUp 156 = .ok (.iload 4, 2) := by decide +kernel
theorem dX6_setUp_158 : decode cX6_setUp 158 = .ok (.ireturn, 1) := by decide +kernel
set_option maxRecDepth 20000 in
theorem ggX6_isLine_X6_in : GoodIn wsX6_isLine wsX6_in := goodIn_r _ [6] (by decide +kernel) (by decide +kernel)
set_option maxRecDepth 20000 in
theorem gX6_isLine_X6_in : GoodIn wsX6_isLine (va_wsS RX6 91 yX6_in wsX6_in) := goodIn_app (goodIn_of _ (by decide +kernel)) ggX6_isLine_X6_in
theorem dX6_isLine_0 : decode cX6_isLine 0 = .ok (.iload_n 2, 1) := by decide +kernel
theorem dX6_isLine_1 : decode cX6_isLine 1 = .ok (.i2l, 1) := by decide +kernel
theorem dX6_isLine_2 : decode cX6_isLine 2 = .ok (.lconst 0, 1) := by decide +kernel
theorem dX6_isLine_3 : decode cX6_isLine 3 = .ok (.aload_n 0, 1) := by decide +kernel
theorem dX6_isLine_4 : decode cX6_isLine 4 = .ok (.getfield 25, 3) := by decide +kernel
theorem dX6_isLine_7 : decode cX6_isLine 7 = .ok (.iload_n 1, 1) := by decide +kernel
theorem dX6_isLine_8 : decode cX6_isLine 8 = .ok (.iaload, 1) := by decide +kernel
theorem dX6_isLine_9 : decode cX6_isLine 9 = .ok (.aload_n 0, 1) := by decide +kernel
theorem dX6_isLine_10 : decode cX6_isLine 10 = .ok (.getfield 22, 3) := by decide +kernel
theorem dX6_isLine_13 : decode cX6_isLine 13 = .ok (.iload_n 1, 1) := by decide +kernel
theorem dX6_isLine_14 : decode cX6_isLine 14 = .ok (.iaload, 1) := by decide +kernel
theorem dX6_isLine_15 : decode cX6_isLine 15 = .ok (.imul, 1) := by decide +kernel
theorem dX6_isLine_16 : decode cX6_isLine 16 = .ok (.iconst 1, 1) := by decide +kernel
theorem dX6_isLine_17 : decode cX6_isLine 17 = .ok (.isub, 1) := by decide +kernel
theorem dX6_isLine_18 : decode cX6_isLine 18 = .ok (.i2l, 1) := by decide +kernel
theorem dX6_isLine_19 : decode cX6_isLine 19 = .ok (.invokestatic 91, 3) := by decide +kernel
theorem dX6_isLine_22 : decode cX6_isLine 22 = .ok (.ireturn, 1) := by decide +kernel
theorem dX6_isTaken_0 : decode cX6_isTaken 0 = .ok (.aload_n 0, 1) := by decide +kernel
theorem dX6_isTaken_1 : decode cX6_isTaken 1 = .ok (.getfield 32, 3) := by decide +kernel
theorem dX6_isTaken_4 : decode cX6_isTaken 4 = .ok (.bipush 36, 2) := by decide +kernel
theorem dX6_isTaken_6 : decode cX6_isTaken 6 = .ok (.iload_n 1, 1) := by decide +kernel
theorem dX6_isTaken_7 : decode cX6_isTaken 7 = .ok (.imul, 1) := by decide +kernel
theorem dX6_isTaken_8 : decode cX6_isTaken 8 = .ok (.iload_n 2, 1) := by decide +kernel
theorem dX6_isTaken_9 : decode cX6_isTaken 9 = .ok (.iadd, 1) := by decide +kernel
theorem dX6_isTaken_10 : decode cX6_isTaken 10 = .ok (.iaload, 1) := by decide +kernel
theorem dX6_isTaken_11 : decode cX6_isTaken 11 = .ok (.ldc 118, 2) := by decide +kernel
theorem dX6_isTaken_13 : decode cX6_isTaken 13 = .ok (.if_icmp .eq 7, 3) := by decide +kernel
theorem dX6_isTaken_16 : decode cX6_isTaken 16 = .ok (.iconst 1, 1) := by decide +kernel
theorem dX6_isTaken_17 : decode cX6_isTaken 17 = .ok (.goto 4, 3) := by decide +kernel
theorem dX6_isTaken_20 : decode cX6_isTaken 20 = .ok (.iconst 0, 1) := by decide +kernel
theorem dX6_isTaken_21 : decode cX6_isTaken 21 = .ok (.istore 4, 2) := by decide +kernel
theorem dX6_isTaken_23 : decode cX6_isTaken 23 = .ok (.iconst 0, 1) := by decide +kernel
theorem dX6_isTaken_24 : decode cX6_isTaken 24 = .ok (.istore 5, 2) := by decide +kernel
theorem dX6_isTaken_26 : decode cX6_isTaken 26 = .ok (.iload 5, 2) := by decide +kernel
theorem dX6_isTaken_28 : decode cX6_isTaken 28 = .ok (.bipush 36, 2) := by decide +kernel
theorem dX6_isTaken_30 : decode cX6_isTaken 30 = .ok (.if_icmp .ge 37, 3) := by decide +kernel
theorem dX6_isTaken_33 : decode cX6_isTaken 33 = .ok (.iload 4, 2) := by decide +kernel
theorem dX6_isTaken_35 : decode cX6_isTaken 35 = .ok (.ifCond .ne 19, 3) := by decide +kernel
theorem dX6_isTaken_38 : decode cX6_isTaken 38 = .ok (.aload_n 0, 1) := by decide +kernel
theorem dX6_isTaken_39 : decode cX6_isTaken 39 = .ok (.getfield 32, 3) := by decide +kernel
theorem dX6_isTaken_42 : decode cX6_isTaken 42 = .ok (.bipush 36, 2) := by decide +kernel
theorem dX6_isTaken_44 : decode cX6_isTaken 44 = .ok (.iload_n 1, 1) := by decide +kernel
theorem dX6_isTaken_45 : decode cX6_isTaken 45 = .ok (.imul, 1) := by decide +kernel
theorem dX6_isTaken_46 : decode cX6_isTaken 46 = .ok (.iload 5, 2) := by decide +kernel
theorem dX6_isTaken_48 : decode cX6_isTaken 48 = .ok (.iadd, 1) := by decide +kernel
theorem dX6_isTaken_49 : decode cX6_isTaken 49 = .ok (.iaload, 1) := by decide +kernel
theorem dX6_isTaken_50 : decode cX6_isTaken 50 = .ok (.iload_n 3, 1) := by decide +kernel
theorem dX6_isTaken_51 : decode cX6_isTaken 51 = .ok (.if_icmp .ne 7, 3) := by decide +kernel
theorem dX6_isTaken_54 : decode cX6_isTaken 54 = .ok (.iconst 1, 1) := by decide +kernel
theorem dX6_isTaken_55 : decode cX6_isTaken 55 = .ok (.goto 4, 3) := by decide +kernel
theorem dX6_isTaken_58 : decode cX6_isTaken 58 = .ok (.iconst 0, 1) := by decide +kernel
theorem dX6_isTaken_59 : decode cX6_isTaken 59 = .ok (.istore 4, 2) := by decide +kernel
theorem dX6_isTaken_61 : decode cX6_isTaken 61 = .ok (.iinc 5 1, 3) := by decide +kernel
theorem dX6_isTaken_64 : decode cX6_isTaken 64 = .ok (.goto (-38), 3) := by decide +kernel
theorem dX6_isTaken_67 : decode cX6_isTaken 67 = .ok (.iload 4, 2) := by decide +kernel
theorem dX6_isTaken_69 : decode cX6_isTaken 69 = .ok (.ireturn, 1) := by decide +kernel
set_option maxRecDepth 20000 in
theorem ggX6_call_X6_isPlace : GoodIn wsX6_call wsX6_isPlace := goodIn_r _ [10, 11, 12, 13, 9, 14] (by decide +kernel) (by decide +kernel)
set_option maxRecDepth 20000 in
theorem gX6_call_X6_isPlace : GoodIn wsX6_call (va_wsS RX6 111 yX6_isPlace wsX6_isPlace) := goodIn_app (goodIn_of _ (by decide +kernel)) ggX6_call_X6_isPlace
set_option maxRecDepth 20000 in
theorem ggX6_call_X6_in : GoodIn wsX6_call wsX6_in := goodIn_r _ [14] (by decide +kernel) (by decide +kernel)
set_option maxRecDepth 20000 in
theorem gX6_call_X6_in : GoodIn wsX6_call (va_wsS RX6 91 yX6_in wsX6_in) := goodIn_app (goodIn_of _ (by decide +kernel)) ggX6_call_X6_in
set_option maxRecDepth 20000 in
theorem ggX6_call_X6_look : GoodIn wsX6_call wsX6_look := goodIn_r _ [18, 3, 19, 20, 21, 22, 9, 23, 24, 65, 66, 67, 68, 69, 70, 71, 72, 73, 74, 75, 76, 77, 78, 79, 80, 81, 82, 83, 84, 85, 86, 87, 88, 89, 90, 91, 92, 93, 94] (by decide +kernel) (by decide +kernel)
set_option maxRecDepth 20000 in
theorem gX6_call_X6_look : GoodIn wsX6_call (wsV RX6 122 RX6 yX6_look wsX6_look) := goodIn_app (goodIn_of _ (by decide +kernel)) ggX6_call_X6_look
set_option maxRecDepth 20000 in
theorem ggX6_call_X6_isLine : GoodIn wsX6_call wsX6_isLine := goodIn_r _ [28, 29, 5, 12, 13, 9, 14, 65, 66, 67, 68, 69, 70, 71, 72, 73, 74, 75, 76, 77, 78, 79, 80, 81, 82, 83, 84, 85, 86, 87, 88, 89, 90, 91, 92, 93, 94] (by decide +kernel) (by decide +kernel)
set_option maxRecDepth 20000 in
theorem gX6_call_X6_isLine : GoodIn wsX6_call (wsV RX6 177 RX6 yX6_isLine wsX6_isLine) := goodIn_app (goodIn_of _ (by decide +kernel)) ggX6_call_X6_isLine
set_option maxRecDepth 20000 in
theorem ggX6_call_X6_isTaken : GoodIn wsX6_call wsX6_isTaken := goodIn_r _ [33, 34, 6, 65, 66, 67, 68, 69, 70, 71, 72, 73, 74, 75, 76, 77, 78, 79, 80, 81, 82, 83, 84, 85, 86, 87, 88, 89, 90, 91, 92, 93, 94] (by decide +kernel) (by decide +kernel)
set_option maxRecDepth 20000 in
theorem gX6_call_X6_isTaken : GoodIn wsX6_call (wsV RX6 180 RX6 yX6_isTaken wsX6_isTaken) := goodIn_app (goodIn_of _ (by decide +kernel)) ggX6_call_X6_isTaken
set_option maxRecDepth 20000 in
theorem ggX6_call_X6_best : GoodIn wsX6_call wsX6_best := goodIn_r _ [38, 19, 39, 6, 40, 41, 42, 43, 44, 45, 9, 46, 47, 48, 49, 50, 5, 34, 51, 52, 53, 54, 55, 29, 56, 57, 58, 59, 60, 65, 66, 67, 68, 69, 70, 71, 72, 73, 74, 75, 76, 77, 78, 79, 80, 81, 82, 83, 84, 85, 86, 87, 88, 89, 90, 91, 92, 93, 94] (by decide +kernel) (by decide +kernel)
set_option maxRecDepth 20000 in
theorem gX6_call_X6_best : GoodIn wsX6_call (wsV RX6 174 RX6 yX6_best wsX6_best) := goodIn_app (goodIn_of _ (by decide +kernel)) ggX6_call_X6_best
set_option maxRecDepth 20000 in
theorem ggX6_call_X6_setUp : GoodIn wsX6_call wsX6_setUp := goodIn_r _ [64, 5, 6, 39, 40, 42, 51, 60, 34, 35, 36, 37, 9, 38, 19, 41, 43, 44, 45, 46, 47, 48, 49, 50, 52, 53, 54, 55, 29, 56, 57, 58, 59, 65, 66, 67, 68, 69, 70, 71, 72, 73, 74, 75, 76, 77, 78, 79, 80, 81, 82, 83, 84, 85, 86, 87, 88, 89, 90, 91, 92, 93, 94] (by decide +kernel) (by decide +kernel)
set_option maxRecDepth 20000 in
theorem gX6_call_X6_setUp : GoodIn wsX6_call (wsV RX6 185 RX6 yX6_setUp wsX6_setUp) := goodIn_app (goodIn_of _ (by decide +kernel)) ggX6_call_X6_setUp
theorem dX6_call_0 : decode cX6_call 0 = .ok (.aload_n 0, 1) := by decide +kernel
theorem dX6_call_1 : decode cX6_call 1 = .ok (.iconst 0, 1) := by decide +kernel
theorem dX6_call_2 : decode cX6_call 2 = .ok (.putfield 81, 3) := by decide +kernel
theorem dX6_call_5 : decode cX6_call 5 = .ok (.iload_n 1, 1) := by decide +kernel
theorem dX6_call_6 : decode cX6_call 6 = .ok (.invokestatic 111, 3) := by decide +kernel
theorem dX6_call_9 : decode cX6_call 9 = .ok (.ifCond .eq 14, 3) := by decide +kernel
theorem dX6_call_12 : decode cX6_call 12 = .ok (.iload 4, 2) := by decide +kernel
theorem dX6_call_14 : decode cX6_call 14 = .ok (.i2l, 1) := by decide +kernel
theorem dX6_call_15 : decode cX6_call 15 = .ok (.lconst 0, 1) := by decide +kernel
theorem dX6_call_16 : decode cX6_call 16 = .ok (.lconst 1, 1) := by decide +kernel
theorem dX6_call_17 : decode cX6_call 17 = .ok (.invokestatic 91, 3) := by decide +kernel
theorem dX6_call_20 : decode cX6_call 20 = .ok (.ifCond .ne 6, 3) := by decide +kernel
theorem dX6_call_23 : decode cX6_call 23 = .ok (.ldc 101, 2) := by decide +kernel
theorem dX6_call_25 : decode cX6_call 25 = .ok (.ireturn, 1) := by decide +kernel
theorem dX6_call_26 : decode cX6_call 26 = .ok (.aload_n 0, 1) := by decide +kernel
theorem dX6_call_27 : decode cX6_call 27 = .ok (.getfield 85, 3) := by decide +kernel
theorem dX6_call_30 : decode cX6_call 30 = .ok (.istore 5, 2) := by decide +kernel
theorem dX6_call_32 : decode cX6_call 32 = .ok (.aload_n 0, 1) := by decide +kernel
theorem dX6_call_33 : decode cX6_call 33 = .ok (.iload_n 1, 1) := by decide +kernel
theorem dX6_call_34 : decode cX6_call 34 = .ok (.invokevirtual 122, 3) := by decide +kernel
theorem dX6_call_37 : decode cX6_call 37 = .ok (.istore 6, 2) := by decide +kernel
theorem dX6_call_39 : decode cX6_call 39 = .ok (.iload 6, 2) := by decide +kernel
theorem dX6_call_41 : decode cX6_call 41 = .ok (.ifCond .ge 6, 3) := by decide +kernel
theorem dX6_call_44 : decode cX6_call 44 = .ok (.iload 6, 2) := by decide +kernel
theorem dX6_call_46 : decode cX6_call 46 = .ok (.ireturn, 1) := by decide +kernel
theorem dX6_call_47 : decode cX6_call 47 = .ok (.aload_n 0, 1) := by decide +kernel
theorem dX6_call_48 : decode cX6_call 48 = .ok (.iload_n 1, 1) := by decide +kernel
theorem dX6_call_49 : decode cX6_call 49 = .ok (.iload_n 2, 1) := by decide +kernel
theorem dX6_call_50 : decode cX6_call 50 = .ok (.invokevirtual 177, 3) := by decide +kernel
theorem dX6_call_53 : decode cX6_call 53 = .ok (.ifCond .eq 12, 3) := by decide +kernel
theorem dX6_call_56 : decode cX6_call 56 = .ok (.aload_n 0, 1) := by decide +kernel
theorem dX6_call_57 : decode cX6_call 57 = .ok (.iload_n 1, 1) := by decide +kernel
theorem dX6_call_58 : decode cX6_call 58 = .ok (.iload_n 3, 1) := by decide +kernel
theorem dX6_call_59 : decode cX6_call 59 = .ok (.invokevirtual 177, 3) := by decide +kernel
theorem dX6_call_62 : decode cX6_call 62 = .ok (.ifCond .ne 12, 3) := by decide +kernel
theorem dX6_call_65 : decode cX6_call 65 = .ok (.aload_n 0, 1) := by decide +kernel
theorem dX6_call_66 : decode cX6_call 66 = .ok (.iload 5, 2) := by decide +kernel
theorem dX6_call_68 : decode cX6_call 68 = .ok (.putfield 85, 3) := by decide +kernel
theorem dX6_call_71 : decode cX6_call 71 = .ok (.ldc 101, 2) := by decide +kernel
theorem dX6_call_73 : decode cX6_call 73 = .ok (.ireturn, 1) := by decide +kernel
theorem dX6_call_74 : decode cX6_call 74 = .ok (.aload_n 0, 1) := by decide +kernel
theorem dX6_call_75 : decode cX6_call 75 = .ok (.iload_n 1, 1) := by decide +kernel
theorem dX6_call_76 : decode cX6_call 76 = .ok (.iload_n 2, 1) := by decide +kernel
theorem dX6_call_77 : decode cX6_call 77 = .ok (.iload_n 3, 1) := by decide +kernel
theorem dX6_call_78 : decode cX6_call 78 = .ok (.invokevirtual 180, 3) := by decide +kernel
theorem dX6_call_81 : decode cX6_call 81 = .ok (.ifCond .eq 12, 3) := by decide +kernel
theorem dX6_call_84 : decode cX6_call 84 = .ok (.aload_n 0, 1) := by decide +kernel
theorem dX6_call_85 : decode cX6_call 85 = .ok (.iload 5, 2) := by decide +kernel
theorem dX6_call_87 : decode cX6_call 87 = .ok (.putfield 85, 3) := by decide +kernel
theorem dX6_call_90 : decode cX6_call 90 = .ok (.ldc 184, 2) := by decide +kernel
theorem dX6_call_92 : decode cX6_call 92 = .ok (.ireturn, 1) := by decide +kernel
theorem dX6_call_93 : decode cX6_call 93 = .ok (.aload_n 0, 1) := by decide +kernel
theorem dX6_call_94 : decode cX6_call 94 = .ok (.iload_n 1, 1) := by decide +kernel
theorem dX6_call_95 : decode cX6_call 95 = .ok (.iload_n 2, 1) := by decide +kernel
theorem dX6_call_96 : decode cX6_call 96 = .ok (.aload_n 0, 1) := by decide +kernel
theorem dX6_call_97 : decode cX6_call 97 = .ok (.getfield 22, 3) := by decide +kernel
theorem dX6_call_100 : decode cX6_call 100 = .ok (.iload_n 1, 1) := by decide +kernel
theorem dX6_call_101 : decode cX6_call 101 = .ok (.iaload, 1) := by decide +kernel
theorem dX6_call_102 : decode cX6_call 102 = .ok (.idiv, 1) := by decide +kernel
theorem dX6_call_103 : decode cX6_call 103 = .ok (.iload_n 3, 1) := by decide +kernel
theorem dX6_call_104 : decode cX6_call 104 = .ok (.aload_n 0, 1) := by decide +kernel
theorem dX6_call_105 : decode cX6_call 105 = .ok (.getfield 22, 3) := by decide +kernel
theorem dX6_call_108 : decode cX6_call 108 = .ok (.iload_n 1, 1) := by decide +kernel
theorem dX6_call_109 : decode cX6_call 109 = .ok (.iaload, 1) := by decide +kernel
theorem dX6_call_110 : decode cX6_call 110 = .ok (.idiv, 1) := by decide +kernel
theorem dX6_call_111 : decode cX6_call 111 = .ok (.invokevirtual 174, 3) := by decide +kernel
theorem dX6_call_114 : decode cX6_call 114 = .ok (.istore 7, 2) := by decide +kernel
theorem dX6_call_116 : decode cX6_call 116 = .ok (.iload 7, 2) := by decide +kernel
theorem dX6_call_118 : decode cX6_call 118 = .ok (.ldc 118, 2) := by decide +kernel
theorem dX6_call_120 : decode cX6_call 120 = .ok (.if_icmp .eq 13, 3) := by decide +kernel
theorem dX6_call_123 : decode cX6_call 123 = .ok (.iload 7, 2) := by decide +kernel
theorem dX6_call_125 : decode cX6_call 125 = .ok (.ifCond .le 13, 3) := by decide +kernel
theorem dX6_call_128 : decode cX6_call 128 = .ok (.iload 4, 2) := by decide +kernel
theorem dX6_call_130 : decode cX6_call 130 = .ok (.ifCond .ne 8, 3) := by decide +kernel
theorem dX6_call_133 : decode cX6_call 133 = .ok (.ldc 118, 2) := by decide +kernel
theorem dX6_call_135 : decode cX6_call 135 = .ok (.goto 10, 3) := by decide +kernel
theorem dX6_call_138 : decode cX6_call 138 = .ok (.aload_n 0, 1) := by decide +kernel
theorem dX6_call_139 : decode cX6_call 139 = .ok (.iload_n 1, 1) := by decide +kernel
theorem dX6_call_140 : decode cX6_call 140 = .ok (.iload_n 2, 1) := by decide +kernel
theorem dX6_call_141 : decode cX6_call 141 = .ok (.iload_n 3, 1) := by decide +kernel
theorem dX6_call_142 : decode cX6_call 142 = .ok (.invokevirtual 185, 3) := by decide +kernel
theorem dX6_call_145 : decode cX6_call 145 = .ok (.ireturn, 1) := by decide +kernel
set_option maxRecDepth 20000 in
theorem ggX6_end_X6_isPlace : GoodIn wsX6_end wsX6_isPlace := goodIn_r _ [9, 10, 11, 12, 8, 13] (by decide +kernel) (by decide +kernel)
set_option maxRecDepth 20000 in
theorem gX6_end_X6_isPlace : GoodIn wsX6_end (va_wsS RX6 111 yX6_isPlace wsX6_isPlace) := goodIn_app (goodIn_of _ (by decide +kernel)) ggX6_end_X6_isPlace
set_option maxRecDepth 20000 in
theorem ggX6_end_X6_look : GoodIn wsX6_end wsX6_look := goodIn_r _ [17, 3, 18, 19, 20, 21, 8, 22, 23, 30, 31, 32, 33, 34, 35, 36, 37, 38, 39, 40, 41, 42, 43, 44, 45, 46, 47, 48, 49, 50, 51, 52, 53, 54, 55, 56, 57, 58, 59] (by decide +kernel) (by decide +kernel)
set_option maxRecDepth 20000 in
theorem gX6_end_X6_look : GoodIn wsX6_end (wsV RX6 122 RX6 yX6_look wsX6_look) := goodIn_app (goodIn_of _ (by decide +kernel)) ggX6_end_X6_look
set_option maxRecDepth 20000 in
theorem ggX6_end_X6_isLine : GoodIn wsX6_end wsX6_isLine := goodIn_r _ [27, 28, 29, 11, 12, 8, 13, 30, 31, 32, 33, 34, 35, 36, 37, 38, 39, 40, 41, 42, 43, 44, 45, 46, 47, 48, 49, 50, 51, 52, 53, 54, 55, 56, 57, 58, 59] (by decide +kernel) (by decide +kernel)
set_option maxRecDepth 20000 in
theorem gX6_end_X6_isLine : GoodIn wsX6_end (wsV RX6 177 RX6 yX6_isLine wsX6_isLine) := goodIn_app (goodIn_of _ (by decide +kernel)) ggX6_end_X6_isLine
theorem dX6_end_0 : decode cX6_end 0 = .ok (.aload_n 0, 1) := by decide +kernel
theorem dX6_end_1 : decode cX6_end 1 = .ok (.iconst 0, 1) := by decide +kernel
theorem dX6_end_2 : decode cX6_end 2 = .ok (.putfield 81, 3) := by decide +kernel
theorem dX6_end_5 : decode cX6_end 5 = .ok (.iload_n 1, 1) := by decide +kernel
theorem dX6_end_6 : decode cX6_end 6 = .ok (.invokestatic 111, 3) := by decide +kernel
theorem dX6_end_9 : decode cX6_end 9 = .ok (.ifCond .ne 6, 3) := by decide +kernel
theorem dX6_end_12 : decode cX6_end 12 = .ok (.ldc 101, 2) := by decide +kernel
theorem dX6_end_14 : decode cX6_end 14 = .ok (.ireturn, 1) := by decide +kernel
theorem dX6_end_15 : decode cX6_end 15 = .ok (.aload_n 0, 1) := by decide +kernel
theorem dX6_end_16 : decode cX6_end 16 = .ok (.getfield 85, 3) := by decide +kernel
theorem dX6_end_19 : decode cX6_end 19 = .ok (.istore_n 3, 1) := by decide +kernel
theorem dX6_end_20 : decode cX6_end 20 = .ok (.aload_n 0, 1) := by decide +kernel
theorem dX6_end_21 : decode cX6_end 21 = .ok (.iload_n 1, 1) := by decide +kernel
theorem dX6_end_22 : decode cX6_end 22 = .ok (.invokevirtual 122, 3) := by decide +kernel
theorem dX6_end_25 : decode cX6_end 25 = .ok (.istore 4, 2) := by decide +kernel
theorem dX6_end_27 : decode cX6_end 27 = .ok (.iload 4, 2) := by decide +kernel
theorem dX6_end_29 : decode cX6_end 29 = .ok (.ifCond .ge 6, 3) := by decide +kernel
theorem dX6_end_32 : decode cX6_end 32 = .ok (.iload 4, 2) := by decide +kernel
theorem dX6_end_34 : decode cX6_end 34 = .ok (.ireturn, 1) := by decide +kernel
theorem dX6_end_35 : decode cX6_end 35 = .ok (.aload_n 0, 1) := by decide +kernel
theorem dX6_end_36 : decode cX6_end 36 = .ok (.iload_n 1, 1) := by decide +kernel
theorem dX6_end_37 : decode cX6_end 37 = .ok (.iload_n 2, 1) := by decide +kernel
theorem dX6_end_38 : decode cX6_end 38 = .ok (.invokevirtual 177, 3) := by decide +kernel
theorem dX6_end_41 : decode cX6_end 41 = .ok (.ifCond .ne 11, 3) := by decide +kernel
theorem dX6_end_44 : decode cX6_end 44 = .ok (.aload_n 0, 1) := by decide +kernel
theorem dX6_end_45 : decode cX6_end 45 = .ok (.iload_n 3, 1) := by decide +kernel
theorem dX6_end_46 : decode cX6_end 46 = .ok (.putfield 85, 3) := by decide +kernel
theorem dX6_end_49 : decode cX6_end 49 = .ok (.ldc 101, 2) := by decide +kernel
theorem dX6_end_51 : decode cX6_end 51 = .ok (.ireturn, 1) := by decide +kernel
theorem dX6_end_52 : decode cX6_end 52 = .ok (.aload_n 0, 1) := by decide +kernel
theorem dX6_end_53 : decode cX6_end 53 = .ok (.getfield 32, 3) := by decide +kernel
theorem dX6_end_56 : decode cX6_end 56 = .ok (.bipush 36, 2) := by decide +kernel
theorem dX6_end_58 : decode cX6_end 58 = .ok (.iload_n 1, 1) := by decide +kernel
theorem dX6_end_59 : decode cX6_end 59 = .ok (.imul, 1) := by decide +kernel
theorem dX6_end_60 : decode cX6_end 60 = .ok (.iload_n 2, 1) := by decide +kernel
theorem dX6_end_61 : decode cX6_end 61 = .ok (.iadd, 1) := by decide +kernel
theorem dX6_end_62 : decode cX6_end 62 = .ok (.iaload, 1) := by decide +kernel
theorem dX6_end_63 : decode cX6_end 63 = .ok (.istore 5, 2) := by decide +kernel
theorem dX6_end_65 : decode cX6_end 65 = .ok (.aload_n 0, 1) := by decide +kernel
theorem dX6_end_66 : decode cX6_end 66 = .ok (.getfield 32, 3) := by decide +kernel
theorem dX6_end_69 : decode cX6_end 69 = .ok (.bipush 36, 2) := by decide +kernel
theorem dX6_end_71 : decode cX6_end 71 = .ok (.iload_n 1, 1) := by decide +kernel
theorem dX6_end_72 : decode cX6_end 72 = .ok (.imul, 1) := by decide +kernel
theorem dX6_end_73 : decode cX6_end 73 = .ok (.iload_n 2, 1) := by decide +kernel
theorem dX6_end_74 : decode cX6_end 74 = .ok (.iadd, 1) := by decide +kernel
theorem dX6_end_75 : decode cX6_end 75 = .ok (.ldc 118, 2) := by decide +kernel
theorem dX6_end_77 : decode cX6_end 77 = .ok (.iastore, 1) := by decide +kernel
theorem dX6_end_78 : decode cX6_end 78 = .ok (.iload 5, 2) := by decide +kernel
theorem dX6_end_80 : decode cX6_end 80 = .ok (.ireturn, 1) := by decide +kernel
set_option maxRecDepth 20000 in
theorem ggX6_line_X6_isPlace : GoodIn wsX6_line wsX6_isPlace := goodIn_r _ [10, 11, 12, 13, 9, 14] (by decide +kernel) (by decide +kernel)
set_option maxRecDepth 20000 in
theorem gX6_line_X6_isPlace : GoodIn wsX6_line (va_wsS RX6 111 yX6_isPlace wsX6_isPlace) := goodIn_app (goodIn_of _ (by decide +kernel)) ggX6_line_X6_isPlace
set_option maxRecDepth 20000 in
theorem ggX6_line_X6_in : GoodIn wsX6_line wsX6_in := goodIn_r _ [14] (by decide +kernel) (by decide +kernel)
set_option maxRecDepth 20000 in
theorem gX6_line_X6_in : GoodIn wsX6_line (va_wsS RX6 91 yX6_in wsX6_in) := goodIn_app (goodIn_of _ (by decide +kernel)) ggX6_line_X6_in
set_option maxRecDepth 20000 in
theorem ggX6_line_X6_look : GoodIn wsX6_line wsX6_look := goodIn_r _ [18, 3, 19, 20, 21, 22, 9, 23, 24, 31, 32, 33, 34, 35, 36, 37, 38, 39, 40, 41, 42, 43, 44, 45, 46, 47, 48, 49, 50, 51, 52, 53, 54, 55, 56, 57, 58, 59, 60] (by decide +kernel) (by decide +kernel)
set_option maxRecDepth 20000 in
theorem gX6_line_X6_look : GoodIn wsX6_line (wsV RX6 122 RX6 yX6_look wsX6_look) := goodIn_app (goodIn_of _ (by decide +kernel)) ggX6_line_X6_look
set_option maxRecDepth 20000 in
theorem ggX6_line_X6_isLine : GoodIn wsX6_line wsX6_isLine := goodIn_r _ [28, 29, 30, 12, 13, 9, 14, 31, 32, 33, 34, 35, 36, 37, 38, 39, 40, 41, 42, 43, 44, 45, 46, 47, 48, 49, 50, 51, 52, 53, 54, 55, 56, 57, 58, 59, 60] (by decide +kernel) (by decide +kernel)
set_option maxRecDepth 20000 in
theorem gX6_line_X6_isLine : GoodIn wsX6_line (wsV RX6 177 RX6 yX6_isLine wsX6_isLine) := goodIn_app (goodIn_of _ (by decide +kernel)) ggX6_line_X6_isLine
theorem dX6_line_0 : decode cX6_line 0 = .ok (.aload_n 0, 1) := by decide +kernel
theorem dX6_line_1 : decode cX6_line 1 = .ok (.iconst 0, 1) := by decide +kernel
theorem dX6_line_2 : decode cX6_line 2 = .ok (.putfield 81, 3) := by decide +kernel
theorem dX6_line_5 : decode cX6_line 5 = .ok (.iload_n 1, 1) := by decide +kernel
theorem dX6_line_6 : decode cX6_line 6 = .ok (.invokestatic 111, 3) := by decide +kernel
theorem dX6_line_9 : decode cX6_line 9 = .ok (.ifCond .eq 13, 3) := by decide +kernel
theorem dX6_line_12 : decode cX6_line 12 = .ok (.iload_n 3, 1) := by decide +kernel
theorem dX6_line_13 : decode cX6_line 13 = .ok (.i2l, 1) := by decide +kernel
theorem dX6_line_14 : decode cX6_line 14 = .ok (.lconst 0, 1) := by decide +kernel
theorem dX6_line_15 : decode cX6_line 15 = .ok (.lconst 1, 1) := by decide +kernel
theorem dX6_line_16 : decode cX6_line 16 = .ok (.invokestatic 91, 3) := by decide +kernel
theorem dX6_line_19 : decode cX6_line 19 = .ok (.ifCond .ne 6, 3) := by decide +kernel
theorem dX6_line_22 : decode cX6_line 22 = .ok (.ldc 101, 2) := by decide +kernel
theorem dX6_line_24 : decode cX6_line 24 = .ok (.ireturn, 1) := by decide +kernel
theorem dX6_line_25 : decode cX6_line 25 = .ok (.aload_n 0, 1) := by decide +kernel
theorem dX6_line_26 : decode cX6_line 26 = .ok (.getfield 85, 3) := by decide +kernel
theorem dX6_line_29 : decode cX6_line 29 = .ok (.istore 4, 2) := by decide +kernel
theorem dX6_line_31 : decode cX6_line 31 = .ok (.aload_n 0, 1) := by decide +kernel
theorem dX6_line_32 : decode cX6_line 32 = .ok (.iload_n 1, 1) := by decide +kernel
theorem dX6_line_33 : decode cX6_line 33 = .ok (.invokevirtual 122, 3) := by decide +kernel
theorem dX6_line_36 : decode cX6_line 36 = .ok (.istore 5, 2) := by decide +kernel
theorem dX6_line_38 : decode cX6_line 38 = .ok (.iload 5, 2) := by decide +kernel
theorem dX6_line_40 : decode cX6_line 40 = .ok (.ifCond .ge 6, 3) := by decide +kernel
theorem dX6_line_43 : decode cX6_line 43 = .ok (.iload 5, 2) := by decide +kernel
theorem dX6_line_45 : decode cX6_line 45 = .ok (.ireturn, 1) := by decide +kernel
theorem dX6_line_46 : decode cX6_line 46 = .ok (.aload_n 0, 1) := by decide +kernel
theorem dX6_line_47 : decode cX6_line 47 = .ok (.iload_n 1, 1) := by decide +kernel
theorem dX6_line_48 : decode cX6_line 48 = .ok (.iload_n 2, 1) := by decide +kernel
theorem dX6_line_49 : decode cX6_line 49 = .ok (.invokevirtual 177, 3) := by decide +kernel
theorem dX6_line_52 : decode cX6_line 52 = .ok (.ifCond .ne 12, 3) := by decide +kernel
theorem dX6_line_55 : decode cX6_line 55 = .ok (.aload_n 0, 1) := by decide +kernel
theorem dX6_line_56 : decode cX6_line 56 = .ok (.iload 4, 2) := by decide +kernel
theorem dX6_line_58 : decode cX6_line 58 = .ok (.putfield 85, 3) := by decide +kernel
theorem dX6_line_61 : decode cX6_line 61 = .ok (.ldc 101, 2) := by decide +kernel
theorem dX6_line_63 : decode cX6_line 63 = .ok (.ireturn, 1) := by decide +kernel
theorem dX6_line_64 : decode cX6_line 64 = .ok (.aload_n 0, 1) := by decide +kernel
theorem dX6_line_65 : decode cX6_line 65 = .ok (.getfield 32, 3) := by decide +kernel
theorem dX6_line_68 : decode cX6_line 68 = .ok (.bipush 36, 2) := by decide +kernel
theorem dX6_line_70 : decode cX6_line 70 = .ok (.iload_n 1, 1) := by decide +kernel
theorem dX6_line_71 : decode cX6_line 71 = .ok (.imul, 1) := by decide +kernel
theorem dX6_line_72 : decode cX6_line 72 = .ok (.iload_n 2, 1) := by decide +kernel
theorem dX6_line_73 : decode cX6_line 73 = .ok (.iadd, 1) := by decide +kernel
theorem dX6_line_74 : decode cX6_line 74 = .ok (.iaload, 1) := by decide +kernel
theorem dX6_line_75 : decode cX6_line 75 = .ok (.ldc 118, 2) := by decide +kernel
theorem dX6_line_77 : decode cX6_line 77 = .ok (.if_icmp .ne 8, 3) := by decide +kernel
theorem dX6_line_80 : decode cX6_line 80 = .ok (.ldc 118, 2) := by decide +kernel
theorem dX6_line_82 : decode cX6_line 82 = .ok (.goto 32, 3) := by decide +kernel
theorem dX6_line_85 : decode cX6_line 85 = .ok (.iload_n 3, 1) := by decide +kernel
theorem dX6_line_86 : decode cX6_line 86 = .ok (.ifCond .ne 17, 3) := by decide +kernel
theorem dX6_line_89 : decode cX6_line 89 = .ok (.aload_n 0, 1) := by decide +kernel
theorem dX6_line_90 : decode cX6_line 90 = .ok (.getfield 32, 3) := by decide +kernel
theorem dX6_line_93 : decode cX6_line 93 = .ok (.bipush 36, 2) := by decide +kernel
theorem dX6_line_95 : decode cX6_line 95 = .ok (.iload_n 1, 1) := by decide +kernel
theorem dX6_line_96 : decode cX6_line 96 = .ok (.imul, 1) := by decide +kernel
theorem dX6_line_97 : decode cX6_line 97 = .ok (.iload_n 2, 1) := by decide +kernel
theorem dX6_line_98 : decode cX6_line 98 = .ok (.iadd, 1) := by decide +kernel
theorem dX6_line_99 : decode cX6_line 99 = .ok (.iaload, 1) := by decide +kernel
theorem dX6_line_100 : decode cX6_line 100 = .ok (.goto 14, 3) := by decide +kernel
theorem dX6_line_103 : decode cX6_line 103 = .ok (.aload_n 0, 1) := by decide +kernel
theorem dX6_line_104 : decode cX6_line 104 = .ok (.getfield 35, 3) := by decide +kernel
theorem dX6_line_107 : decode cX6_line 107 = .ok (.bipush 36, 2) := by decide +kernel
theorem dX6_line_109 : decode cX6_line 109 = .ok (.iload_n 1, 1) := by decide +kernel
theorem dX6_line_110 : decode cX6_line 110 = .ok (.imul, 1) := by decide +kernel
theorem dX6_line_111 : decode cX6_line 111 = .ok (.iload_n 2, 1) := by decide +kernel
theorem dX6_line_112 : decode cX6_line 112 = .ok (.iadd, 1) := by decide +kernel
theorem dX6_line_113 : decode cX6_line 113 = .ok (.iaload, 1) := by decide +kernel
theorem dX6_line_114 : decode cX6_line 114 = .ok (.ireturn, 1) := by decide +kernel
set_option maxRecDepth 20000 in
theorem ggX6_free_X6_isPlace : GoodIn wsX6_free wsX6_isPlace := goodIn_r _ [10, 11, 12, 13, 9, 14] (by decide +kernel) (by decide +kernel)
set_option maxRecDepth 20000 in
theorem gX6_free_X6_isPlace : GoodIn wsX6_free (va_wsS RX6 111 yX6_isPlace wsX6_isPlace) := goodIn_app (goodIn_of _ (by decide +kernel)) ggX6_free_X6_isPlace
set_option maxRecDepth 20000 in
theorem ggX6_free_X6_in : GoodIn wsX6_free wsX6_in := goodIn_r _ [14] (by decide +kernel) (by decide +kernel)
set_option maxRecDepth 20000 in
theorem gX6_free_X6_in : GoodIn wsX6_free (va_wsS RX6 91 yX6_in wsX6_in) := goodIn_app (goodIn_of _ (by decide +kernel)) ggX6_free_X6_in
set_option maxRecDepth 20000 in
theorem ggX6_free_X6_look : GoodIn wsX6_free wsX6_look := goodIn_r _ [18, 3, 6, 19, 20, 21, 9, 22, 23, 61, 62, 63, 64, 65, 66, 67, 68, 69, 70, 71, 72, 73, 74, 75, 76, 77, 78, 79, 80, 81, 82, 83, 84, 85, 86, 87, 88, 89, 90] (by decide +kernel) (by decide +kernel)
set_option maxRecDepth 20000 in
theorem gX6_free_X6_look : GoodIn wsX6_free (wsV RX6 122 RX6 yX6_look wsX6_look) := goodIn_app (goodIn_of _ (by decide +kernel)) ggX6_free_X6_look
set_option maxRecDepth 20000 in
theorem ggX6_free_X6_isLine : GoodIn wsX6_free wsX6_isLine := goodIn_r _ [27, 28, 5, 12, 13, 9, 14, 61, 62, 63, 64, 65, 66, 67, 68, 69, 70, 71, 72, 73, 74, 75, 76, 77, 78, 79, 80, 81, 82, 83, 84, 85, 86, 87, 88, 89, 90] (by decide +kernel) (by decide +kernel)
set_option maxRecDepth 20000 in
theorem gX6_free_X6_isLine : GoodIn wsX6_free (wsV RX6 177 RX6 yX6_isLine wsX6_isLine) := goodIn_app (goodIn_of _ (by decide +kernel)) ggX6_free_X6_isLine
set_option maxRecDepth 20000 in
theorem ggX6_free_X6_isTaken : GoodIn wsX6_free wsX6_isTaken := goodIn_r _ [32, 33, 34, 61, 62, 63, 64, 65, 66, 67, 68, 69, 70, 71, 72, 73, 74, 75, 76, 77, 78, 79, 80, 81, 82, 83, 84, 85, 86, 87, 88, 89, 90] (by decide +kernel) (by decide +kernel)
set_option maxRecDepth 20000 in
theorem gX6_free_X6_isTaken : GoodIn wsX6_free (wsV RX6 180 RX6 yX6_isTaken wsX6_isTaken) := goodIn_app (goodIn_of _ (by decide +kernel)) ggX6_free_X6_isTaken
set_option maxRecDepth 20000 in
theorem ggX6_free_X6_isFree : GoodIn wsX6_free wsX6_isFree := goodIn_r _ [38, 39, 34, 40, 41, 42, 9, 43, 5, 33, 44, 45, 46, 47, 48, 28, 61, 62, 63, 64, 65, 66, 67, 68, 69, 70, 71, 72, 73, 74, 75, 76, 77, 78, 79, 80, 81, 82, 83, 84, 85, 86, 87, 88, 89, 90] (by decide +kernel) (by decide +kernel)
set_option maxRecDepth 20000 in
theorem gX6_free_X6_isFree : GoodIn wsX6_free (wsV RX6 160 RX6 yX6_isFree wsX6_isFree) := goodIn_app (goodIn_of _ (by decide +kernel)) ggX6_free_X6_isFree
set_option maxRecDepth 20000 in
theorem ggX6_free_X6_best : GoodIn wsX6_free wsX6_best := goodIn_r _ [52, 6, 53, 34, 54, 39, 55, 35, 36, 37, 9, 38, 40, 41, 42, 43, 5, 33, 44, 45, 46, 47, 48, 28, 56, 57, 58, 59, 60, 61, 62, 63, 64, 65, 66, 67, 68, 69, 70, 71, 72, 73, 74, 75, 76, 77, 78, 79, 80, 81, 82, 83, 84, 85, 86, 87, 88, 89, 90] (by decide +kernel) (by decide +kernel)
set_option maxRecDepth 20000 in
theorem gX6_free_X6_best : GoodIn wsX6_free (wsV RX6 174 RX6 yX6_best wsX6_best) := goodIn_app (goodIn_of _ (by decide +kernel)) ggX6_free_X6_best
theorem dX6_free_0 : decode cX6_free 0 = .ok (.aload_n 0, 1) := by decide +kernel
theorem dX6_free_1 : decode cX6_free 1 = .ok (.iconst 0, 1) := by decide +kernel
theorem dX6_free_2 : decode cX6_free 2 = .ok (.putfield 81, 3) := by decide +kernel
theorem dX6_free_5 : decode cX6_free 5 = .ok (.iload_n 1, 1) := by decide +kernel
theorem dX6_free_6 : decode cX6_free 6 = .ok (.invokestatic 111, 3) := by decide +kernel
theorem dX6_free_9 : decode cX6_free 9 = .ok (.ifCond .eq 14, 3) := by decide +kernel
theorem dX6_free_12 : decode cX6_free 12 = .ok (.iload 4, 2) := by decide +kernel
theorem dX6_free_14 : decode cX6_free 14 = .ok (.i2l, 1) := by decide +kernel
theorem dX6_free_15 : decode cX6_free 15 = .ok (.lconst 0, 1) := by decide +kernel
theorem dX6_free_16 : decode cX6_free 16 = .ok (.lconst 1, 1) := by decide +kernel
theorem dX6_free_17 : decode cX6_free 17 = .ok (.invokestatic 91, 3) := by decide +kernel
theorem dX6_free_20 : decode cX6_free 20 = .ok (.ifCond .ne 6, 3) := by decide +kernel
theorem dX6_free_23 : decode cX6_free 23 = .ok (.ldc 101, 2) := by decide +kernel
theorem dX6_free_25 : decode cX6_free 25 = .ok (.ireturn, 1) := by decide +kernel
theorem dX6_free_26 : decode cX6_free 26 = .ok (.aload_n 0, 1) := by decide +kernel
theorem dX6_free_27 : decode cX6_free 27 = .ok (.getfield 85, 3) := by decide +kernel
theorem dX6_free_30 : decode cX6_free 30 = .ok (.istore 5, 2) := by decide +kernel
theorem dX6_free_32 : decode cX6_free 32 = .ok (.aload_n 0, 1) := by decide +kernel
theorem dX6_free_33 : decode cX6_free 33 = .ok (.iload_n 1, 1) := by decide +kernel
theorem dX6_free_34 : decode cX6_free 34 = .ok (.invokevirtual 122, 3) := by decide +kernel
theorem dX6_free_37 : decode cX6_free 37 = .ok (.istore 6, 2) := by decide +kernel
theorem dX6_free_39 : decode cX6_free 39 = .ok (.iload 6, 2) := by decide +kernel
theorem dX6_free_41 : decode cX6_free 41 = .ok (.ifCond .ge 6, 3) := by decide +kernel
theorem dX6_free_44 : decode cX6_free 44 = .ok (.iload 6, 2) := by decide +kernel
theorem dX6_free_46 : decode cX6_free 46 = .ok (.ireturn, 1) := by decide +kernel
theorem dX6_free_47 : decode cX6_free 47 = .ok (.aload_n 0, 1) := by decide +kernel
theorem dX6_free_48 : decode cX6_free 48 = .ok (.iload_n 1, 1) := by decide +kernel
theorem dX6_free_49 : decode cX6_free 49 = .ok (.iload_n 2, 1) := by decide +kernel
theorem dX6_free_50 : decode cX6_free 50 = .ok (.invokevirtual 177, 3) := by decide +kernel
theorem dX6_free_53 : decode cX6_free 53 = .ok (.ifCond .eq 12, 3) := by decide +kernel
theorem dX6_free_56 : decode cX6_free 56 = .ok (.aload_n 0, 1) := by decide +kernel
theorem dX6_free_57 : decode cX6_free 57 = .ok (.iload_n 1, 1) := by decide +kernel
theorem dX6_free_58 : decode cX6_free 58 = .ok (.iload_n 3, 1) := by decide +kernel
theorem dX6_free_59 : decode cX6_free 59 = .ok (.invokevirtual 177, 3) := by decide +kernel
theorem dX6_free_62 : decode cX6_free 62 = .ok (.ifCond .ne 12, 3) := by decide +kernel
theorem dX6_free_65 : decode cX6_free 65 = .ok (.aload_n 0, 1) := by decide +kernel
theorem dX6_free_66 : decode cX6_free 66 = .ok (.iload 5, 2) := by decide +kernel
theorem dX6_free_68 : decode cX6_free 68 = .ok (.putfield 85, 3) := by decide +kernel
theorem dX6_free_71 : decode cX6_free 71 = .ok (.ldc 101, 2) := by decide +kernel
theorem dX6_free_73 : decode cX6_free 73 = .ok (.ireturn, 1) := by decide +kernel
theorem dX6_free_74 : decode cX6_free 74 = .ok (.aload_n 0, 1) := by decide +kernel
theorem dX6_free_75 : decode cX6_free 75 = .ok (.iload_n 1, 1) := by decide +kernel
theorem dX6_free_76 : decode cX6_free 76 = .ok (.iload_n 2, 1) := by decide +kernel
theorem dX6_free_77 : decode cX6_free 77 = .ok (.iload_n 3, 1) := by decide +kernel
theorem dX6_free_78 : decode cX6_free 78 = .ok (.invokevirtual 180, 3) := by decide +kernel
theorem dX6_free_81 : decode cX6_free 81 = .ok (.ifCond .eq 12, 3) := by decide +kernel
theorem dX6_free_84 : decode cX6_free 84 = .ok (.aload_n 0, 1) := by decide +kernel
theorem dX6_free_85 : decode cX6_free 85 = .ok (.iload 5, 2) := by decide +kernel
theorem dX6_free_87 : decode cX6_free 87 = .ok (.putfield 85, 3) := by decide +kernel
theorem dX6_free_90 : decode cX6_free 90 = .ok (.ldc 184, 2) := by decide +kernel
theorem dX6_free_92 : decode cX6_free 92 = .ok (.ireturn, 1) := by decide +kernel
theorem dX6_free_93 : decode cX6_free 93 = .ok (.iload_n 2, 1) := by decide +kernel
theorem dX6_free_94 : decode cX6_free 94 = .ok (.aload_n 0, 1) := by decide +kernel
theorem dX6_free_95 : decode cX6_free 95 = .ok (.getfield 22, 3) := by decide +kernel
theorem dX6_free_98 : decode cX6_free 98 = .ok (.iload_n 1, 1) := by decide +kernel
theorem dX6_free_99 : decode cX6_free 99 = .ok (.iaload, 1) := by decide +kernel
theorem dX6_free_100 : decode cX6_free 100 = .ok (.idiv, 1) := by decide +kernel
theorem dX6_free_101 : decode cX6_free 101 = .ok (.istore 7, 2) := by decide +kernel
theorem dX6_free_103 : decode cX6_free 103 = .ok (.iload_n 3, 1) := by decide +kernel
theorem dX6_free_104 : decode cX6_free 104 = .ok (.aload_n 0, 1) := by decide +kernel
theorem dX6_free_105 : decode cX6_free 105 = .ok (.getfield 22, 3) := by decide +kernel
theorem dX6_free_108 : decode cX6_free 108 = .ok (.iload_n 1, 1) := by decide +kernel
theorem dX6_free_109 : decode cX6_free 109 = .ok (.iaload, 1) := by decide +kernel
theorem dX6_free_110 : decode cX6_free 110 = .ok (.idiv, 1) := by decide +kernel
theorem dX6_free_111 : decode cX6_free 111 = .ok (.istore 8, 2) := by decide +kernel
theorem dX6_free_113 : decode cX6_free 113 = .ok (.iconst 0, 1) := by decide +kernel
theorem dX6_free_114 : decode cX6_free 114 = .ok (.istore 9, 2) := by decide +kernel
theorem dX6_free_116 : decode cX6_free 116 = .ok (.iconst 0, 1) := by decide +kernel
theorem dX6_free_117 : decode cX6_free 117 = .ok (.istore 10, 2) := by decide +kernel
theorem dX6_free_119 : decode cX6_free 119 = .ok (.iload 10, 2) := by decide +kernel
theorem dX6_free_121 : decode cX6_free 121 = .ok (.aload_n 0, 1) := by decide +kernel
theorem dX6_free_122 : decode cX6_free 122 = .ok (.getfield 19, 3) := by decide +kernel
theorem dX6_free_125 : decode cX6_free 125 = .ok (.iload_n 1, 1) := by decide +kernel
theorem dX6_free_126 : decode cX6_free 126 = .ok (.iaload, 1) := by decide +kernel
theorem dX6_free_127 : decode cX6_free 127 = .ok (.if_icmp .ge 33, 3) := by decide +kernel
theorem dX6_free_130 : decode cX6_free 130 = .ok (.iload 9, 2) := by decide +kernel
theorem dX6_free_132 : decode cX6_free 132 = .ok (.aload_n 0, 1) := by decide +kernel
theorem dX6_free_133 : decode cX6_free 133 = .ok (.iload_n 1, 1) := by decide +kernel
theorem dX6_free_134 : decode cX6_free 134 = .ok (.iload 7, 2) := by decide +kernel
theorem dX6_free_136 : decode cX6_free 136 = .ok (.iload 8, 2) := by decide +kernel
theorem dX6_free_138 : decode cX6_free 138 = .ok (.iload 10, 2) := by decide +kernel
theorem dX6_free_140 : decode cX6_free 140 = .ok (.invokevirtual 160, 3) := by decide +kernel
theorem dX6_free_143 : decode cX6_free 143 = .ok (.ifCond .eq 7, 3) := by decide +kernel
theorem dX6_free_146 : decode cX6_free 146 = .ok (.iconst 1, 1) := by decide +kernel
theorem dX6_free_147 : decode cX6_free 147 = .ok (.goto 4, 3) := by decide +kernel
theorem dX6_free_150 : decode cX6_free 150 = .ok (.iconst 0, 1) := by decide +kernel
theorem dX6_free_151 : decode cX6_free 151 = .ok (.iadd, 1) := by decide +kernel
theorem dX6_free_152 : decode cX6_free 152 = .ok (.istore 9, 2) := by decide +kernel
theorem dX6_free_154 : decode cX6_free 154 = .ok (.iinc 10 1, 3) := by decide +kernel
theorem dX6_free_157 : decode cX6_free 157 = .ok (.goto (-38), 3) := by decide +kernel
theorem dX6_free_160 : decode cX6_free 160 = .ok (.iload 4, 2) := by decide +kernel
theorem dX6_free_162 : decode cX6_free 162 = .ok (.ifCond .ne 8, 3) := by decide +kernel
theorem dX6_free_165 : decode cX6_free 165 = .ok (.iload 9, 2) := by decide +kernel
theorem dX6_free_167 : decode cX6_free 167 = .ok (.goto 12, 3) := by decide +kernel
theorem dX6_free_170 : decode cX6_free 170 = .ok (.aload_n 0, 1) := by decide +kernel
theorem dX6_free_171 : decode cX6_free 171 = .ok (.iload_n 1, 1) := by decide +kernel
theorem dX6_free_172 : decode cX6_free 172 = .ok (.iload 7, 2) := by decide +kernel
theorem dX6_free_174 : decode cX6_free 174 = .ok (.iload 8, 2) := by decide +kernel
theorem dX6_free_176 : decode cX6_free 176 = .ok (.invokevirtual 174, 3) := by decide +kernel
theorem dX6_free_179 : decode cX6_free 179 = .ok (.ireturn, 1) := by decide +kernel
set_option maxRecDepth 20000 in
theorem ggX6_die_X6_isPlace : GoodIn wsX6_die wsX6_isPlace := goodIn_r _ [14, 15, 16, 17, 13, 18] (by decide +kernel) (by decide +kernel)
set_option maxRecDepth 20000 in
theorem gX6_die_X6_isPlace : GoodIn wsX6_die (va_wsS RX6 111 yX6_isPlace wsX6_isPlace) := goodIn_app (goodIn_of _ (by decide +kernel)) ggX6_die_X6_isPlace
set_option maxRecDepth 20000 in
theorem ggX6_die_X6_look : GoodIn wsX6_die wsX6_look := goodIn_r _ [22, 3, 4, 23, 24, 25, 13, 26, 27, 58, 59, 60, 61, 62, 63, 64, 65, 66, 67, 68, 69, 70, 71, 72, 73, 74, 75, 76, 77, 78, 79, 80, 81, 82, 83, 84, 85, 86, 87] (by decide +kernel) (by decide +kernel)
set_option maxRecDepth 20000 in
theorem gX6_die_X6_look : GoodIn wsX6_die (wsV RX6 122 RX6 yX6_look wsX6_look) := goodIn_app (goodIn_of _ (by decide +kernel)) ggX6_die_X6_look
set_option maxRecDepth 20000 in
theorem ggX6_die_X6_in : GoodIn wsX6_die wsX6_in := goodIn_r _ [18] (by decide +kernel) (by decide +kernel)
set_option maxRecDepth 20000 in
theorem gX6_die_X6_in : GoodIn wsX6_die (va_wsS RX6 91 yX6_in wsX6_in) := goodIn_app (goodIn_of _ (by decide +kernel)) ggX6_die_X6_in
set_option maxRecDepth 20000 in
theorem ggX6_die_X6_setUp : GoodIn wsX6_die wsX6_setUp := goodIn_r _ [31, 32, 9, 33, 34, 35, 10, 36, 8, 37, 38, 39, 13, 40, 4, 5, 41, 42, 43, 44, 45, 46, 47, 48, 49, 50, 51, 52, 53, 54, 55, 56, 57, 58, 59, 60, 61, 62, 63, 64, 65, 66, 67, 68, 69, 70, 71, 72, 73, 74, 75, 76, 77, 78, 79, 80, 81, 82, 83, 84, 85, 86, 87] (by decide +kernel) (by decide +kernel)
set_option maxRecDepth 20000 in
theorem gX6_die_X6_setUp : GoodIn wsX6_die (wsV RX6 185 RX6 yX6_setUp wsX6_setUp) := goodIn_app (goodIn_of _ (by decide +kernel)) ggX6_die_X6_setUp
theorem dX6_die_0 : decode cX6_die 0 = .ok (.aload_n 0, 1) := by decide +kernel
theorem dX6_die_1 : decode cX6_die 1 = .ok (.iconst 0, 1) := by decide +kernel
theorem dX6_die_2 : decode cX6_die 2 = .ok (.putfield 81, 3) := by decide +kernel
theorem dX6_die_5 : decode cX6_die 5 = .ok (.iload_n 1, 1) := by decide +kernel
theorem dX6_die_6 : decode cX6_die 6 = .ok (.invokestatic 111, 3) := by decide +kernel
theorem dX6_die_9 : decode cX6_die 9 = .ok (.ifCond .ne 6, 3) := by decide +kernel
theorem dX6_die_12 : decode cX6_die 12 = .ok (.ldc 101, 2) := by decide +kernel
theorem dX6_die_14 : decode cX6_die 14 = .ok (.ireturn, 1) := by decide +kernel
theorem dX6_die_15 : decode cX6_die 15 = .ok (.aload_n 0, 1) := by decide +kernel
theorem dX6_die_16 : decode cX6_die 16 = .ok (.getfield 85, 3) := by decide +kernel
theorem dX6_die_19 : decode cX6_die 19 = .ok (.istore_n 3, 1) := by decide +kernel
theorem dX6_die_20 : decode cX6_die 20 = .ok (.aload_n 0, 1) := by decide +kernel
theorem dX6_die_21 : decode cX6_die 21 = .ok (.iload_n 1, 1) := by decide +kernel
theorem dX6_die_22 : decode cX6_die 22 = .ok (.invokevirtual 122, 3) := by decide +kernel
theorem dX6_die_25 : decode cX6_die 25 = .ok (.istore 4, 2) := by decide +kernel
theorem dX6_die_27 : decode cX6_die 27 = .ok (.iload 4, 2) := by decide +kernel
theorem dX6_die_29 : decode cX6_die 29 = .ok (.ifCond .ge 6, 3) := by decide +kernel
theorem dX6_die_32 : decode cX6_die 32 = .ok (.iload 4, 2) := by decide +kernel
theorem dX6_die_34 : decode cX6_die 34 = .ok (.ireturn, 1) := by decide +kernel
theorem dX6_die_35 : decode cX6_die 35 = .ok (.iload_n 2, 1) := by decide +kernel
theorem dX6_die_36 : decode cX6_die 36 = .ok (.i2l, 1) := by decide +kernel
theorem dX6_die_37 : decode cX6_die 37 = .ok (.lconst 0, 1) := by decide +kernel
theorem dX6_die_38 : decode cX6_die 38 = .ok (.aload_n 0, 1) := by decide +kernel
theorem dX6_die_39 : decode cX6_die 39 = .ok (.getfield 19, 3) := by decide +kernel
theorem dX6_die_42 : decode cX6_die 42 = .ok (.iload_n 1, 1) := by decide +kernel
theorem dX6_die_43 : decode cX6_die 43 = .ok (.iaload, 1) := by decide +kernel
theorem dX6_die_44 : decode cX6_die 44 = .ok (.iconst 1, 1) := by decide +kernel
theorem dX6_die_45 : decode cX6_die 45 = .ok (.isub, 1) := by decide +kernel
theorem dX6_die_46 : decode cX6_die 46 = .ok (.i2l, 1) := by decide +kernel
theorem dX6_die_47 : decode cX6_die 47 = .ok (.invokestatic 91, 3) := by decide +kernel
theorem dX6_die_50 : decode cX6_die 50 = .ok (.ifCond .ne 11, 3) := by decide +kernel
theorem dX6_die_53 : decode cX6_die 53 = .ok (.aload_n 0, 1) := by decide +kernel
theorem dX6_die_54 : decode cX6_die 54 = .ok (.iload_n 3, 1) := by decide +kernel
theorem dX6_die_55 : decode cX6_die 55 = .ok (.putfield 85, 3) := by decide +kernel
theorem dX6_die_58 : decode cX6_die 58 = .ok (.ldc 101, 2) := by decide +kernel
theorem dX6_die_60 : decode cX6_die 60 = .ok (.ireturn, 1) := by decide +kernel
theorem dX6_die_61 : decode cX6_die 61 = .ok (.aload_n 0, 1) := by decide +kernel
theorem dX6_die_62 : decode cX6_die 62 = .ok (.getfield 28, 3) := by decide +kernel
theorem dX6_die_65 : decode cX6_die 65 = .ok (.bipush 12, 2) := by decide +kernel
theorem dX6_die_67 : decode cX6_die 67 = .ok (.iload_n 1, 1) := by decide +kernel
theorem dX6_die_68 : decode cX6_die 68 = .ok (.imul, 1) := by decide +kernel
theorem dX6_die_69 : decode cX6_die 69 = .ok (.iload_n 2, 1) := by decide +kernel
theorem dX6_die_70 : decode cX6_die 70 = .ok (.iadd, 1) := by decide +kernel
theorem dX6_die_71 : decode cX6_die 71 = .ok (.baload, 1) := by decide +kernel
theorem dX6_die_72 : decode cX6_die 72 = .ok (.ifCond .eq 11, 3) := by decide +kernel
theorem dX6_die_75 : decode cX6_die 75 = .ok (.aload_n 0, 1) := by decide +kernel
theorem dX6_die_76 : decode cX6_die 76 = .ok (.iload_n 3, 1) := by decide +kernel
theorem dX6_die_77 : decode cX6_die 77 = .ok (.putfield 85, 3) := by decide +kernel
theorem dX6_die_80 : decode cX6_die 80 = .ok (.ldc 184, 2) := by decide +kernel
theorem dX6_die_82 : decode cX6_die 82 = .ok (.ireturn, 1) := by decide +kernel
theorem dX6_die_83 : decode cX6_die 83 = .ok (.aload_n 0, 1) := by decide +kernel
theorem dX6_die_84 : decode cX6_die 84 = .ok (.getfield 28, 3) := by decide +kernel
theorem dX6_die_87 : decode cX6_die 87 = .ok (.bipush 12, 2) := by decide +kernel
theorem dX6_die_89 : decode cX6_die 89 = .ok (.iload_n 1, 1) := by decide +kernel
theorem dX6_die_90 : decode cX6_die 90 = .ok (.imul, 1) := by decide +kernel
theorem dX6_die_91 : decode cX6_die 91 = .ok (.iload_n 2, 1) := by decide +kernel
theorem dX6_die_92 : decode cX6_die 92 = .ok (.iadd, 1) := by decide +kernel
theorem dX6_die_93 : decode cX6_die 93 = .ok (.iconst 1, 1) := by decide +kernel
theorem dX6_die_94 : decode cX6_die 94 = .ok (.bastore, 1) := by decide +kernel
theorem dX6_die_95 : decode cX6_die 95 = .ok (.iconst 0, 1) := by decide +kernel
theorem dX6_die_96 : decode cX6_die 96 = .ok (.istore 5, 2) := by decide +kernel
theorem dX6_die_98 : decode cX6_die 98 = .ok (.iload 5, 2) := by decide +kernel
theorem dX6_die_100 : decode cX6_die 100 = .ok (.bipush 36, 2) := by decide +kernel
theorem dX6_die_102 : decode cX6_die 102 = .ok (.if_icmp .ge 107, 3) := by decide +kernel
theorem dX6_die_105 : decode cX6_die 105 = .ok (.aload_n 0, 1) := by decide +kernel
theorem dX6_die_106 : decode cX6_die 106 = .ok (.getfield 44, 3) := by decide +kernel
theorem dX6_die_109 : decode cX6_die 109 = .ok (.iload 5, 2) := by decide +kernel
theorem dX6_die_111 : decode cX6_die 111 = .ok (.aload_n 0, 1) := by decide +kernel
theorem dX6_die_112 : decode cX6_die 112 = .ok (.getfield 32, 3) := by decide +kernel
theorem dX6_die_115 : decode cX6_die 115 = .ok (.bipush 36, 2) := by decide +kernel
theorem dX6_die_117 : decode cX6_die 117 = .ok (.iload_n 1, 1) := by decide +kernel
theorem dX6_die_118 : decode cX6_die 118 = .ok (.imul, 1) := by decide +kernel
theorem dX6_die_119 : decode cX6_die 119 = .ok (.iload 5, 2) := by decide +kernel
theorem dX6_die_121 : decode cX6_die 121 = .ok (.iadd, 1) := by decide +kernel
theorem dX6_die_122 : decode cX6_die 122 = .ok (.iaload, 1) := by decide +kernel
theorem dX6_die_123 : decode cX6_die 123 = .ok (.ldc 118, 2) := by decide +kernel
theorem dX6_die_125 : decode cX6_die 125 = .ok (.if_icmp .eq 34, 3) := by decide +kernel
theorem dX6_die_128 : decode cX6_die 128 = .ok (.aload_n 0, 1) := by decide +kernel
theorem dX6_die_129 : decode cX6_die 129 = .ok (.getfield 35, 3) := by decide +kernel
theorem dX6_die_132 : decode cX6_die 132 = .ok (.bipush 36, 2) := by decide +kernel
theorem dX6_die_134 : decode cX6_die 134 = .ok (.iload_n 1, 1) := by decide +kernel
theorem dX6_die_135 : decode cX6_die 135 = .ok (.imul, 1) := by decide +kernel
theorem dX6_die_136 : decode cX6_die 136 = .ok (.iload 5, 2) := by decide +kernel
theorem dX6_die_138 : decode cX6_die 138 = .ok (.iadd, 1) := by decide +kernel
theorem dX6_die_139 : decode cX6_die 139 = .ok (.iaload, 1) := by decide +kernel
theorem dX6_die_140 : decode cX6_die 140 = .ok (.iload_n 2, 1) := by decide +kernel
theorem dX6_die_141 : decode cX6_die 141 = .ok (.if_icmp .ne 18, 3) := by decide +kernel
theorem dX6_die_144 : decode cX6_die 144 = .ok (.aload_n 0, 1) := by decide +kernel
theorem dX6_die_145 : decode cX6_die 145 = .ok (.getfield 32, 3) := by decide +kernel
theorem dX6_die_148 : decode cX6_die 148 = .ok (.bipush 36, 2) := by decide +kernel
theorem dX6_die_150 : decode cX6_die 150 = .ok (.iload_n 1, 1) := by decide +kernel
theorem dX6_die_151 : decode cX6_die 151 = .ok (.imul, 1) := by decide +kernel
theorem dX6_die_152 : decode cX6_die 152 = .ok (.iload 5, 2) := by decide +kernel
theorem dX6_die_154 : decode cX6_die 154 = .ok (.iadd, 1) := by decide +kernel
theorem dX6_die_155 : decode cX6_die 155 = .ok (.iaload, 1) := by decide +kernel
theorem dX6_die_156 : decode cX6_die 156 = .ok (.goto 5, 3) := by decide +kernel
theorem dX6_die_159 : decode cX6_die 159 = .ok (.ldc 118, 2) := by decide +kernel
theorem dX6_die_161 : decode cX6_die 161 = .ok (.iastore, 1) := by decide +kernel
theorem dX6_die_162 : decode cX6_die 162 = .ok (.aload_n 0, 1) := by decide +kernel
theorem dX6_die_163 : decode cX6_die 163 = .ok (.getfield 32, 3) := by decide +kernel
theorem dX6_die_166 : decode cX6_die 166 = .ok (.bipush 36, 2) := by decide +kernel
theorem dX6_die_168 : decode cX6_die 168 = .ok (.iload_n 1, 1) := by decide +kernel
theorem dX6_die_169 : decode cX6_die 169 = .ok (.imul, 1) := by decide +kernel
theorem dX6_die_170 : decode cX6_die 170 = .ok (.iload 5, 2) := by decide +kernel
theorem dX6_die_172 : decode cX6_die 172 = .ok (.iadd, 1) := by decide +kernel
theorem dX6_die_173 : decode cX6_die 173 = .ok (.aload_n 0, 1) := by decide +kernel
theorem dX6_die_174 : decode cX6_die 174 = .ok (.getfield 44, 3) := by decide +kernel
theorem dX6_die_177 : decode cX6_die 177 = .ok (.iload 5, 2) := by decide +kernel
theorem dX6_die_179 : decode cX6_die 179 = .ok (.iaload, 1) := by decide +kernel
theorem dX6_die_180 : decode cX6_die 180 = .ok (.ldc 118, 2) := by decide +kernel
theorem dX6_die_182 : decode cX6_die 182 = .ok (.if_icmp .eq 8, 3) := by decide +kernel
theorem dX6_die_185 : decode cX6_die 185 = .ok (.ldc 118, 2) := by decide +kernel
theorem dX6_die_187 : decode cX6_die 187 = .ok (.goto 15, 3) := by decide +kernel
theorem dX6_die_190 : decode cX6_die 190 = .ok (.aload_n 0, 1) := by decide +kernel
theorem dX6_die_191 : decode cX6_die 191 = .ok (.getfield 32, 3) := by decide +kernel
theorem dX6_die_194 : decode cX6_die 194 = .ok (.bipush 36, 2) := by decide +kernel
theorem dX6_die_196 : decode cX6_die 196 = .ok (.iload_n 1, 1) := by decide +kernel
theorem dX6_die_197 : decode cX6_die 197 = .ok (.imul, 1) := by decide +kernel
theorem dX6_die_198 : decode cX6_die 198 = .ok (.iload 5, 2) := by decide +kernel
theorem dX6_die_200 : decode cX6_die 200 = .ok (.iadd, 1) := by decide +kernel
theorem dX6_die_201 : decode cX6_die 201 = .ok (.iaload, 1) := by decide +kernel
theorem dX6_die_202 : decode cX6_die 202 = .ok (.iastore, 1) := by decide +kernel
theorem dX6_die_203 : decode cX6_die 203 = .ok (.iinc 5 1, 3) := by decide +kernel
theorem dX6_die_206 : decode cX6_die 206 = .ok (.goto (-108), 3) := by decide +kernel
theorem dX6_die_209 : decode cX6_die 209 = .ok (.iconst 0, 1) := by decide +kernel
theorem dX6_die_210 : decode cX6_die 210 = .ok (.istore 5, 2) := by decide +kernel
theorem dX6_die_212 : decode cX6_die 212 = .ok (.iconst 0, 1) := by decide +kernel
theorem dX6_die_213 : decode cX6_die 213 = .ok (.istore 6, 2) := by decide +kernel
theorem dX6_die_215 : decode cX6_die 215 = .ok (.iload 6, 2) := by decide +kernel
theorem dX6_die_217 : decode cX6_die 217 = .ok (.bipush 36, 2) := by decide +kernel
theorem dX6_die_219 : decode cX6_die 219 = .ok (.if_icmp .ge 50, 3) := by decide +kernel
theorem dX6_die_222 : decode cX6_die 222 = .ok (.aload_n 0, 1) := by decide +kernel
theorem dX6_die_223 : decode cX6_die 223 = .ok (.getfield 44, 3) := by decide +kernel
theorem dX6_die_226 : decode cX6_die 226 = .ok (.iload 6, 2) := by decide +kernel
theorem dX6_die_228 : decode cX6_die 228 = .ok (.iaload, 1) := by decide +kernel
theorem dX6_die_229 : decode cX6_die 229 = .ok (.ldc 118, 2) := by decide +kernel
theorem dX6_die_231 : decode cX6_die 231 = .ok (.if_icmp .eq 32, 3) := by decide +kernel
theorem dX6_die_234 : decode cX6_die 234 = .ok (.iload 5, 2) := by decide +kernel
theorem dX6_die_236 : decode cX6_die 236 = .ok (.aload_n 0, 1) := by decide +kernel
theorem dX6_die_237 : decode cX6_die 237 = .ok (.iload_n 1, 1) := by decide +kernel
theorem dX6_die_238 : decode cX6_die 238 = .ok (.iload 6, 2) := by decide +kernel
theorem dX6_die_240 : decode cX6_die 240 = .ok (.aload_n 0, 1) := by decide +kernel
theorem dX6_die_241 : decode cX6_die 241 = .ok (.getfield 44, 3) := by decide +kernel
theorem dX6_die_244 : decode cX6_die 244 = .ok (.iload 6, 2) := by decide +kernel
theorem dX6_die_246 : decode cX6_die 246 = .ok (.iaload, 1) := by decide +kernel
theorem dX6_die_247 : decode cX6_die 247 = .ok (.invokevirtual 185, 3) := by decide +kernel
theorem dX6_die_250 : decode cX6_die 250 = .ok (.ldc 118, 2) := by decide +kernel
theorem dX6_die_252 : decode cX6_die 252 = .ok (.if_icmp .ne 7, 3) := by decide +kernel
theorem dX6_die_255 : decode cX6_die 255 = .ok (.iconst 1, 1) := by decide +kernel
theorem dX6_die_256 : decode cX6_die 256 = .ok (.goto 4, 3) := by decide +kernel
theorem dX6_die_259 : decode cX6_die 259 = .ok (.iconst 0, 1) := by decide +kernel
theorem dX6_die_260 : decode cX6_die 260 = .ok (.iadd, 1) := by decide +kernel
theorem dX6_die_261 : decode cX6_die 261 = .ok (.istore 5, 2) := by decide +kernel
theorem dX6_die_263 : decode cX6_die 263 = .ok (.iinc 6 1, 3) := by decide +kernel
theorem dX6_die_266 : decode cX6_die 266 = .ok (.goto (-51), 3) := by decide +kernel
theorem dX6_die_269 : decode cX6_die 269 = .ok (.iload 5, 2) := by decide +kernel
theorem dX6_die_271 : decode cX6_die 271 = .ok (.ireturn, 1) := by decide +kernel
set_option maxRecDepth 20000 in
theorem ggX6_mend_X6_isPlace : GoodIn wsX6_mend wsX6_isPlace := goodIn_r _ [9, 10, 11, 12, 8, 13] (by decide +kernel) (by decide +kernel)
set_option maxRecDepth 20000 in
theorem gX6_mend_X6_isPlace : GoodIn wsX6_mend (va_wsS RX6 111 yX6_isPlace wsX6_isPlace) := goodIn_app (goodIn_of _ (by decide +kernel)) ggX6_mend_X6_isPlace
set_option maxRecDepth 20000 in
theorem ggX6_mend_X6_look : GoodIn wsX6_mend wsX6_look := goodIn_r _ [17, 3, 4, 18, 19, 20, 8, 21, 22, 23, 24, 25, 26, 27, 28, 29, 30, 31, 32, 33, 34, 35, 36, 37, 38, 39, 40, 41, 42, 43, 44, 45, 46, 47, 48, 49, 50, 51, 52] (by decide +kernel) (by decide +kernel)
set_option maxRecDepth 20000 in
theorem gX6_mend_X6_look : GoodIn wsX6_mend (wsV RX6 122 RX6 yX6_look wsX6_look) := goodIn_app (goodIn_of _ (by decide +kernel)) ggX6_mend_X6_look
set_option maxRecDepth 20000 in
theorem ggX6_mend_X6_in : GoodIn wsX6_mend wsX6_in := goodIn_r _ [13] (by decide +kernel) (by decide +kernel)
set_option maxRecDepth 20000 in
theorem gX6_mend_X6_in : GoodIn wsX6_mend (va_wsS RX6 91 yX6_in wsX6_in) := goodIn_app (goodIn_of _ (by decide +kernel)) ggX6_mend_X6_in
theorem dX6_mend_0 : decode cX6_mend 0 = .ok (.aload_n 0, 1) := by decide +kernel
theorem dX6_mend_1 : decode cX6_mend 1 = .ok (.iconst 0, 1) := by decide +kernel
theorem dX6_mend_2 : decode cX6_mend 2 = .ok (.putfield 81, 3) := by decide +kernel
theorem dX6_mend_5 : decode cX6_mend 5 = .ok (.iload_n 1, 1) := by decide +kernel
theorem dX6_mend_6 : decode cX6_mend 6 = .ok (.invokestatic 111, 3) := by decide +kernel
theorem dX6_mend_9 : decode cX6_mend 9 = .ok (.ifCond .ne 6, 3) := by decide +kernel
theorem dX6_mend_12 : decode cX6_mend 12 = .ok (.ldc 101, 2) := by decide +kernel
theorem dX6_mend_14 : decode cX6_mend 14 = .ok (.ireturn, 1) := by decide +kernel
theorem dX6_mend_15 : decode cX6_mend 15 = .ok (.aload_n 0, 1) := by decide +kernel
theorem dX6_mend_16 : decode cX6_mend 16 = .ok (.getfield 85, 3) := by decide +kernel
theorem dX6_mend_19 : decode cX6_mend 19 = .ok (.istore_n 3, 1) := by decide +kernel
theorem dX6_mend_20 : decode cX6_mend 20 = .ok (.aload_n 0, 1) := by decide +kernel
theorem dX6_mend_21 : decode cX6_mend 21 = .ok (.iload_n 1, 1) := by decide +kernel
theorem dX6_mend_22 : decode cX6_mend 22 = .ok (.invokevirtual 122, 3) := by decide +kernel
theorem dX6_mend_25 : decode cX6_mend 25 = .ok (.istore 4, 2) := by decide +kernel
theorem dX6_mend_27 : decode cX6_mend 27 = .ok (.iload 4, 2) := by decide +kernel
theorem dX6_mend_29 : decode cX6_mend 29 = .ok (.ifCond .ge 6, 3) := by decide +kernel
theorem dX6_mend_32 : decode cX6_mend 32 = .ok (.iload 4, 2) := by decide +kernel
theorem dX6_mend_34 : decode cX6_mend 34 = .ok (.ireturn, 1) := by decide +kernel
theorem dX6_mend_35 : decode cX6_mend 35 = .ok (.iload_n 2, 1) := by decide +kernel
theorem dX6_mend_36 : decode cX6_mend 36 = .ok (.i2l, 1) := by decide +kernel
theorem dX6_mend_37 : decode cX6_mend 37 = .ok (.lconst 0, 1) := by decide +kernel
theorem dX6_mend_38 : decode cX6_mend 38 = .ok (.aload_n 0, 1) := by decide +kernel
theorem dX6_mend_39 : decode cX6_mend 39 = .ok (.getfield 19, 3) := by decide +kernel
theorem dX6_mend_42 : decode cX6_mend 42 = .ok (.iload_n 1, 1) := by decide +kernel
theorem dX6_mend_43 : decode cX6_mend 43 = .ok (.iaload, 1) := by decide +kernel
theorem dX6_mend_44 : decode cX6_mend 44 = .ok (.iconst 1, 1) := by decide +kernel
theorem dX6_mend_45 : decode cX6_mend 45 = .ok (.isub, 1) := by decide +kernel
theorem dX6_mend_46 : decode cX6_mend 46 = .ok (.i2l, 1) := by decide +kernel
theorem dX6_mend_47 : decode cX6_mend 47 = .ok (.invokestatic 91, 3) := by decide +kernel
theorem dX6_mend_50 : decode cX6_mend 50 = .ok (.ifCond .ne 11, 3) := by decide +kernel
theorem dX6_mend_53 : decode cX6_mend 53 = .ok (.aload_n 0, 1) := by decide +kernel
theorem dX6_mend_54 : decode cX6_mend 54 = .ok (.iload_n 3, 1) := by decide +kernel
theorem dX6_mend_55 : decode cX6_mend 55 = .ok (.putfield 85, 3) := by decide +kernel
theorem dX6_mend_58 : decode cX6_mend 58 = .ok (.ldc 101, 2) := by decide +kernel
theorem dX6_mend_60 : decode cX6_mend 60 = .ok (.ireturn, 1) := by decide +kernel
theorem dX6_mend_61 : decode cX6_mend 61 = .ok (.aload_n 0, 1) := by decide +kernel
theorem dX6_mend_62 : decode cX6_mend 62 = .ok (.getfield 28, 3) := by decide +kernel
theorem dX6_mend_65 : decode cX6_mend 65 = .ok (.bipush 12, 2) := by decide +kernel
theorem dX6_mend_67 : decode cX6_mend 67 = .ok (.iload_n 1, 1) := by decide +kernel
theorem dX6_mend_68 : decode cX6_mend 68 = .ok (.imul, 1) := by decide +kernel
theorem dX6_mend_69 : decode cX6_mend 69 = .ok (.iload_n 2, 1) := by decide +kernel
theorem dX6_mend_70 : decode cX6_mend 70 = .ok (.iadd, 1) := by decide +kernel
theorem dX6_mend_71 : decode cX6_mend 71 = .ok (.baload, 1) := by decide +kernel
theorem dX6_mend_72 : decode cX6_mend 72 = .ok (.istore 5, 2) := by decide +kernel
theorem dX6_mend_74 : decode cX6_mend 74 = .ok (.aload_n 0, 1) := by decide +kernel
theorem dX6_mend_75 : decode cX6_mend 75 = .ok (.getfield 28, 3) := by decide +kernel
theorem dX6_mend_78 : decode cX6_mend 78 = .ok (.bipush 12, 2) := by decide +kernel
theorem dX6_mend_80 : decode cX6_mend 80 = .ok (.iload_n 1, 1) := by decide +kernel
theorem dX6_mend_81 : decode cX6_mend 81 = .ok (.imul, 1) := by decide +kernel
theorem dX6_mend_82 : decode cX6_mend 82 = .ok (.iload_n 2, 1) := by decide +kernel
theorem dX6_mend_83 : decode cX6_mend 83 = .ok (.iadd, 1) := by decide +kernel
theorem dX6_mend_84 : decode cX6_mend 84 = .ok (.iconst 0, 1) := by decide +kernel
theorem dX6_mend_85 : decode cX6_mend 85 = .ok (.bastore, 1) := by decide +kernel
theorem dX6_mend_86 : decode cX6_mend 86 = .ok (.iload 5, 2) := by decide +kernel
theorem dX6_mend_88 : decode cX6_mend 88 = .ok (.ifCond .eq 7, 3) := by decide +kernel
theorem dX6_mend_91 : decode cX6_mend 91 = .ok (.iconst 1, 1) := by decide +kernel
theorem dX6_mend_92 : decode cX6_mend 92 = .ok (.goto 4, 3) := by decide +kernel
theorem dX6_mend_95 : decode cX6_mend 95 = .ok (.iconst 0, 1) := by decide +kernel
theorem dX6_mend_96 : decode cX6_mend 96 = .ok (.ireturn, 1) := by decide +kernel
theorem dX6_part_0 : decode cX6_part 0 = .ok (.iconst 1, 1) := by decide +kernel
theorem dX6_part_1 : decode cX6_part 1 = .ok (.iload_n 1, 1) := by decide +kernel
theorem dX6_part_2 : decode cX6_part 2 = .ok (.iload_n 2, 1) := by decide +kernel
theorem dX6_part_3 : decode cX6_part 3 = .ok (.isub, 1) := by decide +kernel
theorem dX6_part_4 : decode cX6_part 4 = .ok (.ishl, 1) := by decide +kernel
theorem dX6_part_5 : decode cX6_part 5 = .ok (.istore 4, 2) := by decide +kernel
theorem dX6_part_7 : decode cX6_part 7 = .ok (.iload_n 3, 1) := by decide +kernel
theorem dX6_part_8 : decode cX6_part 8 = .ok (.iload 4, 2) := by decide +kernel
theorem dX6_part_10 : decode cX6_part 10 = .ok (.imul, 1) := by decide +kernel
theorem dX6_part_11 : decode cX6_part 11 = .ok (.istore 5, 2) := by decide +kernel
theorem dX6_part_13 : decode cX6_part 13 = .ok (.bipush 8, 2) := by decide +kernel
theorem dX6_part_15 : decode cX6_part 15 = .ok (.iload_n 2, 1) := by decide +kernel
theorem dX6_part_16 : decode cX6_part 16 = .ok (.imul, 1) := by decide +kernel
theorem dX6_part_17 : decode cX6_part 17 = .ok (.iload_n 3, 1) := by decide +kernel
theorem dX6_part_18 : decode cX6_part 18 = .ok (.iload 4, 2) := by decide +kernel
theorem dX6_part_20 : decode cX6_part 20 = .ok (.imul, 1) := by decide +kernel
theorem dX6_part_21 : decode cX6_part 21 = .ok (.iconst 2, 1) := by decide +kernel
theorem dX6_part_22 : decode cX6_part 22 = .ok (.idiv, 1) := by decide +kernel
theorem dX6_part_23 : decode cX6_part 23 = .ok (.iadd, 1) := by decide +kernel
theorem dX6_part_24 : decode cX6_part 24 = .ok (.istore 6, 2) := by decide +kernel
theorem dX6_part_26 : decode cX6_part 26 = .ok (.bipush 8, 2) := by decide +kernel
theorem dX6_part_28 : decode cX6_part 28 = .ok (.iconst 2, 1) := by decide +kernel
theorem dX6_part_29 : decode cX6_part 29 = .ok (.iload_n 1, 1) := by decide +kernel
theorem dX6_part_30 : decode cX6_part 30 = .ok (.imul, 1) := by decide +kernel
theorem dX6_part_31 : decode cX6_part 31 = .ok (.iconst 2, 1) := by decide +kernel
theorem dX6_part_32 : decode cX6_part 32 = .ok (.isub, 1) := by decide +kernel
theorem dX6_part_33 : decode cX6_part 33 = .ok (.iload_n 2, 1) := by decide +kernel
theorem dX6_part_34 : decode cX6_part 34 = .ok (.isub, 1) := by decide +kernel
theorem dX6_part_35 : decode cX6_part 35 = .ok (.imul, 1) := by decide +kernel
theorem dX6_part_36 : decode cX6_part 36 = .ok (.iload_n 3, 1) := by decide +kernel
theorem dX6_part_37 : decode cX6_part 37 = .ok (.iload 4, 2) := by decide +kernel
theorem dX6_part_39 : decode cX6_part 39 = .ok (.imul, 1) := by decide +kernel
theorem dX6_part_40 : decode cX6_part 40 = .ok (.iconst 2, 1) := by decide +kernel
theorem dX6_part_41 : decode cX6_part 41 = .ok (.idiv, 1) := by decide +kernel
theorem dX6_part_42 : decode cX6_part 42 = .ok (.iadd, 1) := by decide +kernel
theorem dX6_part_43 : decode cX6_part 43 = .ok (.istore 7, 2) := by decide +kernel
theorem dX6_part_45 : decode cX6_part 45 = .ok (.iload 4, 2) := by decide +kernel
theorem dX6_part_47 : decode cX6_part 47 = .ok (.iconst 2, 1) := by decide +kernel
theorem dX6_part_48 : decode cX6_part 48 = .ok (.if_icmp .ne 18, 3) := by decide +kernel
theorem dX6_part_51 : decode cX6_part 51 = .ok (.aload_n 0, 1) := by decide +kernel
theorem dX6_part_52 : decode cX6_part 52 = .ok (.getfield 47, 3) := by decide +kernel
theorem dX6_part_55 : decode cX6_part 55 = .ok (.iload 6, 2) := by decide +kernel
theorem dX6_part_57 : decode cX6_part 57 = .ok (.aload_n 0, 1) := by decide +kernel
theorem dX6_part_58 : decode cX6_part 58 = .ok (.getfield 50, 3) := by decide +kernel
theorem dX6_part_61 : decode cX6_part 61 = .ok (.iload 5, 2) := by decide +kernel
theorem dX6_part_63 : decode cX6_part 63 = .ok (.iaload, 1) := by decide +kernel
theorem dX6_part_64 : decode cX6_part 64 = .ok (.iastore, 1) := by decide +kernel
theorem dX6_part_65 : decode cX6_part 65 = .ok (.return_, 1) := by decide +kernel
theorem dX6_part_66 : decode cX6_part 66 = .ok (.iconst 0, 1) := by decide +kernel
theorem dX6_part_67 : decode cX6_part 67 = .ok (.istore 8, 2) := by decide +kernel
theorem dX6_part_69 : decode cX6_part 69 = .ok (.iload 8, 2) := by decide +kernel
theorem dX6_part_71 : decode cX6_part 71 = .ok (.iload 4, 2) := by decide +kernel
theorem dX6_part_73 : decode cX6_part 73 = .ok (.if_icmp .ge 17, 3) := by decide +kernel
theorem dX6_part_76 : decode cX6_part 76 = .ok (.aload_n 0, 1) := by decide +kernel
theorem dX6_part_77 : decode cX6_part 77 = .ok (.getfield 56, 3) := by decide +kernel
theorem dX6_part_80 : decode cX6_part 80 = .ok (.iload 8, 2) := by decide +kernel
theorem dX6_part_82 : decode cX6_part 82 = .ok (.iconst (-1), 1) := by decide +kernel
theorem dX6_part_83 : decode cX6_part 83 = .ok (.iastore, 1) := by decide +kernel
theorem dX6_part_84 : decode cX6_part 84 = .ok (.iinc 8 1, 3) := by decide +kernel
theorem dX6_part_87 : decode cX6_part 87 = .ok (.goto (-18), 3) := by decide +kernel
theorem dX6_part_90 : decode cX6_part 90 = .ok (.iconst 0, 1) := by decide +kernel
theorem dX6_part_91 : decode cX6_part 91 = .ok (.istore 8, 2) := by decide +kernel
theorem dX6_part_93 : decode cX6_part 93 = .ok (.iload 8, 2) := by decide +kernel
theorem dX6_part_95 : decode cX6_part 95 = .ok (.iload 4, 2) := by decide +kernel
theorem dX6_part_97 : decode cX6_part 97 = .ok (.if_icmp .ge 86, 3) := by decide +kernel
theorem dX6_part_100 : decode cX6_part 100 = .ok (.iload 8, 2) := by decide +kernel
theorem dX6_part_102 : decode cX6_part 102 = .ok (.istore 9, 2) := by decide +kernel
theorem dX6_part_104 : decode cX6_part 104 = .ok (.aload_n 0, 1) := by decide +kernel
theorem dX6_part_105 : decode cX6_part 105 = .ok (.getfield 56, 3) := by decide +kernel
theorem dX6_part_108 : decode cX6_part 108 = .ok (.iload 9, 2) := by decide +kernel
theorem dX6_part_110 : decode cX6_part 110 = .ok (.iaload, 1) := by decide +kernel
theorem dX6_part_111 : decode cX6_part 111 = .ok (.ifCond .ge 66, 3) := by decide +kernel
theorem dX6_part_114 : decode cX6_part 114 = .ok (.aload_n 0, 1) := by decide +kernel
theorem dX6_part_115 : decode cX6_part 115 = .ok (.getfield 56, 3) := by decide +kernel
theorem dX6_part_118 : decode cX6_part 118 = .ok (.iload 9, 2) := by decide +kernel
theorem dX6_part_120 : decode cX6_part 120 = .ok (.iconst 0, 1) := by decide +kernel
theorem dX6_part_121 : decode cX6_part 121 = .ok (.iastore, 1) := by decide +kernel
theorem dX6_part_122 : decode cX6_part 122 = .ok (.aload_n 0, 1) := by decide +kernel
theorem dX6_part_123 : decode cX6_part 123 = .ok (.getfield 50, 3) := by decide +kernel
theorem dX6_part_126 : decode cX6_part 126 = .ok (.iload 5, 2) := by decide +kernel
theorem dX6_part_128 : decode cX6_part 128 = .ok (.iload 9, 2) := by decide +kernel
theorem dX6_part_130 : decode cX6_part 130 = .ok (.iadd, 1) := by decide +kernel
theorem dX6_part_131 : decode cX6_part 131 = .ok (.iaload, 1) := by decide +kernel
theorem dX6_part_132 : decode cX6_part 132 = .ok (.iconst 1, 1) := by decide +kernel
theorem dX6_part_133 : decode cX6_part 133 = .ok (.ixor, 1) := by decide +kernel
theorem dX6_part_134 : decode cX6_part 134 = .ok (.istore 10, 2) := by decide +kernel
theorem dX6_part_136 : decode cX6_part 136 = .ok (.iconst 0, 1) := by decide +kernel
theorem dX6_part_137 : decode cX6_part 137 = .ok (.istore 11, 2) := by decide +kernel
theorem dX6_part_139 : decode cX6_part 139 = .ok (.aload_n 0, 1) := by decide +kernel
theorem dX6_part_140 : decode cX6_part 140 = .ok (.getfield 50, 3) := by decide +kernel
theorem dX6_part_143 : decode cX6_part 143 = .ok (.iload 5, 2) := by decide +kernel
theorem dX6_part_145 : decode cX6_part 145 = .ok (.iload 11, 2) := by decide +kernel
theorem dX6_part_147 : decode cX6_part 147 = .ok (.iadd, 1) := by decide +kernel
theorem dX6_part_148 : decode cX6_part 148 = .ok (.iaload, 1) := by decide +kernel
theorem dX6_part_149 : decode cX6_part 149 = .ok (.iload 10, 2) := by decide +kernel
theorem dX6_part_151 : decode cX6_part 151 = .ok (.if_icmp .eq 9, 3) := by decide +kernel
theorem dX6_part_154 : decode cX6_part 154 = .ok (.iinc 11 1, 3) := by decide +kernel
theorem dX6_part_157 : decode cX6_part 157 = .ok (.goto (-18), 3) := by decide +kernel
theorem dX6_part_160 : decode cX6_part 160 = .ok (.aload_n 0, 1) := by decide +kernel
theorem dX6_part_161 : decode cX6_part 161 = .ok (.getfield 56, 3) := by decide +kernel
theorem dX6_part_164 : decode cX6_part 164 = .ok (.iload 11, 2) := by decide +kernel
theorem dX6_part_166 : decode cX6_part 166 = .ok (.iconst 1, 1) := by decide +kernel
theorem dX6_part_167 : decode cX6_part 167 = .ok (.iastore, 1) := by decide +kernel
theorem dX6_part_168 : decode cX6_part 168 = .ok (.iload 11, 2) := by decide +kernel
theorem dX6_part_170 : decode cX6_part 170 = .ok (.iconst 1, 1) := by decide +kernel
theorem dX6_part_171 : decode cX6_part 171 = .ok (.ixor, 1) := by decide +kernel
theorem dX6_part_172 : decode cX6_part 172 = .ok (.istore 9, 2) := by decide +kernel
theorem dX6_part_174 : decode cX6_part 174 = .ok (.goto (-70), 3) := by decide +kernel
theorem dX6_part_177 : decode cX6_part 177 = .ok (.iinc 8 1, 3) := by decide +kernel
theorem dX6_part_180 : decode cX6_part 180 = .ok (.goto (-87), 3) := by decide +kernel
theorem dX6_part_183 : decode cX6_part 183 = .ok (.iconst 0, 1) := by decide +kernel
theorem dX6_part_184 : decode cX6_part 184 = .ok (.istore 8, 2) := by decide +kernel
theorem dX6_part_186 : decode cX6_part 186 = .ok (.iload 8, 2) := by decide +kernel
theorem dX6_part_188 : decode cX6_part 188 = .ok (.iload 4, 2) := by decide +kernel
theorem dX6_part_190 : decode cX6_part 190 = .ok (.if_icmp .ge 102, 3) := by decide +kernel
theorem dX6_part_193 : decode cX6_part 193 = .ok (.aload_n 0, 1) := by decide +kernel
theorem dX6_part_194 : decode cX6_part 194 = .ok (.getfield 50, 3) := by decide +kernel
theorem dX6_part_197 : decode cX6_part 197 = .ok (.iload 5, 2) := by decide +kernel
theorem dX6_part_199 : decode cX6_part 199 = .ok (.iload 8, 2) := by decide +kernel
theorem dX6_part_201 : decode cX6_part 201 = .ok (.iadd, 1) := by decide +kernel
theorem dX6_part_202 : decode cX6_part 202 = .ok (.iaload, 1) := by decide +kernel
theorem dX6_part_203 : decode cX6_part 203 = .ok (.istore 9, 2) := by decide +kernel
theorem dX6_part_205 : decode cX6_part 205 = .ok (.iload 8, 2) := by decide +kernel
theorem dX6_part_207 : decode cX6_part 207 = .ok (.iconst 2, 1) := by decide +kernel
theorem dX6_part_208 : decode cX6_part 208 = .ok (.irem, 1) := by decide +kernel
theorem dX6_part_209 : decode cX6_part 209 = .ok (.ifCond .ne 22, 3) := by decide +kernel
theorem dX6_part_212 : decode cX6_part 212 = .ok (.aload_n 0, 1) := by decide +kernel
theorem dX6_part_213 : decode cX6_part 213 = .ok (.getfield 47, 3) := by decide +kernel
theorem dX6_part_216 : decode cX6_part 216 = .ok (.iload 6, 2) := by decide +kernel
theorem dX6_part_218 : decode cX6_part 218 = .ok (.iload 8, 2) := by decide +kernel
theorem dX6_part_220 : decode cX6_part 220 = .ok (.iconst 2, 1) := by decide +kernel
theorem dX6_part_221 : decode cX6_part 221 = .ok (.idiv, 1) := by decide +kernel
theorem dX6_part_222 : decode cX6_part 222 = .ok (.iadd, 1) := by decide +kernel
theorem dX6_part_223 : decode cX6_part 223 = .ok (.aload_n 0, 1) := by decide +kernel
theorem dX6_part_224 : decode cX6_part 224 = .ok (.getfield 56, 3) := by decide +kernel
theorem dX6_part_227 : decode cX6_part 227 = .ok (.iload 8, 2) := by decide +kernel
theorem dX6_part_229 : decode cX6_part 229 = .ok (.iaload, 1) := by decide +kernel
theorem dX6_part_230 : decode cX6_part 230 = .ok (.iastore, 1) := by decide +kernel
theorem dX6_part_231 : decode cX6_part 231 = .ok (.iload 9, 2) := by decide +kernel
theorem dX6_part_233 : decode cX6_part 233 = .ok (.iconst 2, 1) := by decide +kernel
theorem dX6_part_234 : decode cX6_part 234 = .ok (.irem, 1) := by decide +kernel
theorem dX6_part_235 : decode cX6_part 235 = .ok (.ifCond .ne 22, 3) := by decide +kernel
theorem dX6_part_238 : decode cX6_part 238 = .ok (.aload_n 0, 1) := by decide +kernel
theorem dX6_part_239 : decode cX6_part 239 = .ok (.getfield 47, 3) := by decide +kernel
theorem dX6_part_242 : decode cX6_part 242 = .ok (.iload 7, 2) := by decide +kernel
theorem dX6_part_244 : decode cX6_part 244 = .ok (.iload 9, 2) := by decide +kernel
theorem dX6_part_246 : decode cX6_part 246 = .ok (.iconst 2, 1) := by decide +kernel
theorem dX6_part_247 : decode cX6_part 247 = .ok (.idiv, 1) := by decide +kernel
theorem dX6_part_248 : decode cX6_part 248 = .ok (.iadd, 1) := by decide +kernel
theorem dX6_part_249 : decode cX6_part 249 = .ok (.aload_n 0, 1) := by decide +kernel
theorem dX6_part_250 : decode cX6_part 250 = .ok (.getfield 56, 3) := by decide +kernel
theorem dX6_part_253 : decode cX6_part 253 = .ok (.iload 8, 2) := by decide +kernel
theorem dX6_part_255 : decode cX6_part 255 = .ok (.iaload, 1) := by decide +kernel
theorem dX6_part_256 : decode cX6_part 256 = .ok (.iastore, 1) := by decide +kernel
theorem dX6_part_257 : decode cX6_part 257 = .ok (.aload_n 0, 1) := by decide +kernel
theorem dX6_part_258 : decode cX6_part 258 = .ok (.getfield 53, 3) := by decide +kernel
theorem dX6_part_261 : decode cX6_part 261 = .ok (.iload 5, 2) := by decide +kernel
theorem dX6_part_263 : decode cX6_part 263 = .ok (.aload_n 0, 1) := by decide +kernel
theorem dX6_part_264 : decode cX6_part 264 = .ok (.getfield 56, 3) := by decide +kernel
theorem dX6_part_267 : decode cX6_part 267 = .ok (.iload 8, 2) := by decide +kernel
theorem dX6_part_269 : decode cX6_part 269 = .ok (.iaload, 1) := by decide +kernel
theorem dX6_part_270 : decode cX6_part 270 = .ok (.iload 4, 2) := by decide +kernel
theorem dX6_part_272 : decode cX6_part 272 = .ok (.imul, 1) := by decide +kernel
theorem dX6_part_273 : decode cX6_part 273 = .ok (.iconst 2, 1) := by decide +kernel
theorem dX6_part_274 : decode cX6_part 274 = .ok (.idiv, 1) := by decide +kernel
theorem dX6_part_275 : decode cX6_part 275 = .ok (.iadd, 1) := by decide +kernel
theorem dX6_part_276 : decode cX6_part 276 = .ok (.iload 8, 2) := by decide +kernel
theorem dX6_part_278 : decode cX6_part 278 = .ok (.iconst 2, 1) := by decide +kernel
theorem dX6_part_279 : decode cX6_part 279 = .ok (.idiv, 1) := by decide +kernel
theorem dX6_part_280 : decode cX6_part 280 = .ok (.iadd, 1) := by decide +kernel
theorem dX6_part_281 : decode cX6_part 281 = .ok (.iload 9, 2) := by decide +kernel
theorem dX6_part_283 : decode cX6_part 283 = .ok (.iconst 2, 1) := by decide +kernel
theorem dX6_part_284 : decode cX6_part 284 = .ok (.idiv, 1) := by decide +kernel
theorem dX6_part_285 : decode cX6_part 285 = .ok (.iastore, 1) := by decide +kernel
theorem dX6_part_286 : decode cX6_part 286 = .ok (.iinc 8 1, 3) := by decide +kernel
theorem dX6_part_289 : decode cX6_part 289 = .ok (.goto (-103), 3) := by decide +kernel
theorem dX6_part_292 : decode cX6_part 292 = .ok (.return_, 1) := by decide +kernel
set_option maxRecDepth 20000 in
theorem ggX6_bit_X6_isSheet : GoodIn wsX6_bit wsX6_isSheet := goodIn_r _ [14, 15, 16, 17, 13, 18] (by decide +kernel) (by decide +kernel)
set_option maxRecDepth 20000 in
theorem gX6_bit_X6_isSheet : GoodIn wsX6_bit (va_wsS RX6 95 yX6_isSheet wsX6_isSheet) := goodIn_app (goodIn_of _ (by decide +kernel)) ggX6_bit_X6_isSheet
set_option maxRecDepth 20000 in
theorem ggX6_bit_X6_in : GoodIn wsX6_bit wsX6_in := goodIn_r _ [18] (by decide +kernel) (by decide +kernel)
set_option maxRecDepth 20000 in
theorem gX6_bit_X6_in : GoodIn wsX6_bit (va_wsS RX6 91 yX6_in wsX6_in) := goodIn_app (goodIn_of _ (by decide +kernel)) ggX6_bit_X6_in
set_option maxRecDepth 20000 in
theorem ggX6_bit_X6_found : GoodIn wsX6_bit wsX6_found := goodIn_r _ [22, 8, 23, 29, 30, 31, 32, 33, 34, 35, 36, 37, 38, 39, 40, 41, 42, 43, 44, 45, 46, 47, 48, 49, 50, 51, 52, 53, 54, 55, 56, 57, 58] (by decide +kernel) (by decide +kernel)
set_option maxRecDepth 20000 in
theorem gX6_bit_X6_found : GoodIn wsX6_bit (wsV RX6 102 RX6 yX6_found wsX6_found) := goodIn_app (goodIn_of _ (by decide +kernel)) ggX6_bit_X6_found
set_option maxRecDepth 20000 in
theorem ggX6_bit_X6_part : GoodIn wsX6_bit wsX6_part := goodIn_r _ [27, 10, 7, 28, 9, 29, 30, 31, 32, 33, 34, 35, 36, 37, 38, 39, 40, 41, 42, 43, 44, 45, 46, 47, 48, 49, 50, 51, 52, 53, 54, 55, 56, 57, 58] (by decide +kernel) (by decide +kernel)
set_option maxRecDepth 20000 in
theorem gX6_bit_X6_part : GoodIn wsX6_bit (wsV RX6 190 RX6 yX6_part wsX6_part) := goodIn_app (goodIn_of _ (by decide +kernel)) ggX6_bit_X6_part
theorem dX6_bit_0 : decode cX6_bit 0 = .ok (.aload_n 0, 1) := by decide +kernel
theorem dX6_bit_1 : decode cX6_bit 1 = .ok (.iconst 0, 1) := by decide +kernel
theorem dX6_bit_2 : decode cX6_bit 2 = .ok (.putfield 81, 3) := by decide +kernel
theorem dX6_bit_5 : decode cX6_bit 5 = .ok (.iload_n 2, 1) := by decide +kernel
theorem dX6_bit_6 : decode cX6_bit 6 = .ok (.invokestatic 95, 3) := by decide +kernel
theorem dX6_bit_9 : decode cX6_bit 9 = .ok (.ifCond .eq 49, 3) := by decide +kernel
theorem dX6_bit_12 : decode cX6_bit 12 = .ok (.iload_n 1, 1) := by decide +kernel
theorem dX6_bit_13 : decode cX6_bit 13 = .ok (.i2l, 1) := by decide +kernel
theorem dX6_bit_14 : decode cX6_bit 14 = .ok (.lconst 1, 1) := by decide +kernel
theorem dX6_bit_15 : decode cX6_bit 15 = .ok (.ldc2_w 188, 3) := by decide +kernel
theorem dX6_bit_18 : decode cX6_bit 18 = .ok (.invokestatic 91, 3) := by decide +kernel
theorem dX6_bit_21 : decode cX6_bit 21 = .ok (.ifCond .eq 37, 3) := by decide +kernel
theorem dX6_bit_24 : decode cX6_bit 24 = .ok (.iload 4, 2) := by decide +kernel
theorem dX6_bit_26 : decode cX6_bit 26 = .ok (.i2l, 1) := by decide +kernel
theorem dX6_bit_27 : decode cX6_bit 27 = .ok (.lconst 0, 1) := by decide +kernel
theorem dX6_bit_28 : decode cX6_bit 28 = .ok (.iconst 2, 1) := by decide +kernel
theorem dX6_bit_29 : decode cX6_bit 29 = .ok (.iload_n 1, 1) := by decide +kernel
theorem dX6_bit_30 : decode cX6_bit 30 = .ok (.imul, 1) := by decide +kernel
theorem dX6_bit_31 : decode cX6_bit 31 = .ok (.iconst 2, 1) := by decide +kernel
theorem dX6_bit_32 : decode cX6_bit 32 = .ok (.isub, 1) := by decide +kernel
theorem dX6_bit_33 : decode cX6_bit 33 = .ok (.i2l, 1) := by decide +kernel
theorem dX6_bit_34 : decode cX6_bit 34 = .ok (.invokestatic 91, 3) := by decide +kernel
theorem dX6_bit_37 : decode cX6_bit 37 = .ok (.ifCond .eq 21, 3) := by decide +kernel
theorem dX6_bit_40 : decode cX6_bit 40 = .ok (.iload 5, 2) := by decide +kernel
theorem dX6_bit_42 : decode cX6_bit 42 = .ok (.i2l, 1) := by decide +kernel
theorem dX6_bit_43 : decode cX6_bit 43 = .ok (.lconst 0, 1) := by decide +kernel
theorem dX6_bit_44 : decode cX6_bit 44 = .ok (.iconst 1, 1) := by decide +kernel
theorem dX6_bit_45 : decode cX6_bit 45 = .ok (.iload_n 1, 1) := by decide +kernel
theorem dX6_bit_46 : decode cX6_bit 46 = .ok (.iconst 1, 1) := by decide +kernel
theorem dX6_bit_47 : decode cX6_bit 47 = .ok (.isub, 1) := by decide +kernel
theorem dX6_bit_48 : decode cX6_bit 48 = .ok (.ishl, 1) := by decide +kernel
theorem dX6_bit_49 : decode cX6_bit 49 = .ok (.iconst 1, 1) := by decide +kernel
theorem dX6_bit_50 : decode cX6_bit 50 = .ok (.isub, 1) := by decide +kernel
theorem dX6_bit_51 : decode cX6_bit 51 = .ok (.i2l, 1) := by decide +kernel
theorem dX6_bit_52 : decode cX6_bit 52 = .ok (.invokestatic 91, 3) := by decide +kernel
theorem dX6_bit_55 : decode cX6_bit 55 = .ok (.ifCond .ne 6, 3) := by decide +kernel
theorem dX6_bit_58 : decode cX6_bit 58 = .ok (.ldc 101, 2) := by decide +kernel
theorem dX6_bit_60 : decode cX6_bit 60 = .ok (.ireturn, 1) := by decide +kernel
theorem dX6_bit_61 : decode cX6_bit 61 = .ok (.aload_n 0, 1) := by decide +kernel
theorem dX6_bit_62 : decode cX6_bit 62 = .ok (.getfield 7, 3) := by decide +kernel
theorem dX6_bit_65 : decode cX6_bit 65 = .ok (.iload_n 2, 1) := by decide +kernel
theorem dX6_bit_66 : decode cX6_bit 66 = .ok (.iaload, 1) := by decide +kernel
theorem dX6_bit_67 : decode cX6_bit 67 = .ok (.ifCond .ge 9, 3) := by decide +kernel
theorem dX6_bit_70 : decode cX6_bit 70 = .ok (.aload_n 0, 1) := by decide +kernel
theorem dX6_bit_71 : decode cX6_bit 71 = .ok (.iconst 1, 1) := by decide +kernel
theorem dX6_bit_72 : decode cX6_bit 72 = .ok (.invokevirtual 102, 3) := by decide +kernel
theorem dX6_bit_75 : decode cX6_bit 75 = .ok (.ireturn, 1) := by decide +kernel
theorem dX6_bit_76 : decode cX6_bit 76 = .ok (.iconst 1, 1) := by decide +kernel
theorem dX6_bit_77 : decode cX6_bit 77 = .ok (.iload_n 1, 1) := by decide +kernel
theorem dX6_bit_78 : decode cX6_bit 78 = .ok (.ishl, 1) := by decide +kernel
theorem dX6_bit_79 : decode cX6_bit 79 = .ok (.istore 6, 2) := by decide +kernel
theorem dX6_bit_81 : decode cX6_bit 81 = .ok (.iload_n 3, 1) := by decide +kernel
theorem dX6_bit_82 : decode cX6_bit 82 = .ok (.ifCond .lt 20, 3) := by decide +kernel
theorem dX6_bit_85 : decode cX6_bit 85 = .ok (.iload_n 3, 1) := by decide +kernel
theorem dX6_bit_86 : decode cX6_bit 86 = .ok (.i2l, 1) := by decide +kernel
theorem dX6_bit_87 : decode cX6_bit 87 = .ok (.iload 6, 2) := by decide +kernel
theorem dX6_bit_89 : decode cX6_bit 89 = .ok (.i2l, 1) := by decide +kernel
theorem dX6_bit_90 : decode cX6_bit 90 = .ok (.ladd, 1) := by decide +kernel
theorem dX6_bit_91 : decode cX6_bit 91 = .ok (.aload_n 0, 1) := by decide +kernel
theorem dX6_bit_92 : decode cX6_bit 92 = .ok (.getfield 13, 3) := by decide +kernel
theorem dX6_bit_95 : decode cX6_bit 95 = .ok (.iload_n 2, 1) := by decide +kernel
theorem dX6_bit_96 : decode cX6_bit 96 = .ok (.iaload, 1) := by decide +kernel
theorem dX6_bit_97 : decode cX6_bit 97 = .ok (.i2l, 1) := by decide +kernel
theorem dX6_bit_98 : decode cX6_bit 98 = .ok (.lcmp, 1) := by decide +kernel
theorem dX6_bit_99 : decode cX6_bit 99 = .ok (.ifCond .le 9, 3) := by decide +kernel
theorem dX6_bit_102 : decode cX6_bit 102 = .ok (.aload_n 0, 1) := by decide +kernel
theorem dX6_bit_103 : decode cX6_bit 103 = .ok (.iconst 2, 1) := by decide +kernel
theorem dX6_bit_104 : decode cX6_bit 104 = .ok (.invokevirtual 102, 3) := by decide +kernel
theorem dX6_bit_107 : decode cX6_bit 107 = .ok (.ireturn, 1) := by decide +kernel
theorem dX6_bit_108 : decode cX6_bit 108 = .ok (.iconst 0, 1) := by decide +kernel
theorem dX6_bit_109 : decode cX6_bit 109 = .ok (.istore 7, 2) := by decide +kernel
theorem dX6_bit_111 : decode cX6_bit 111 = .ok (.iconst 0, 1) := by decide +kernel
theorem dX6_bit_112 : decode cX6_bit 112 = .ok (.istore 8, 2) := by decide +kernel
theorem dX6_bit_114 : decode cX6_bit 114 = .ok (.iload 8, 2) := by decide +kernel
theorem dX6_bit_116 : decode cX6_bit 116 = .ok (.iload 6, 2) := by decide +kernel
theorem dX6_bit_118 : decode cX6_bit 118 = .ok (.if_icmp .ge 72, 3) := by decide +kernel
theorem dX6_bit_121 : decode cX6_bit 121 = .ok (.aload_n 0, 1) := by decide +kernel
theorem dX6_bit_122 : decode cX6_bit 122 = .ok (.getfield 16, 3) := by decide +kernel
theorem dX6_bit_125 : decode cX6_bit 125 = .ok (.bipush 64, 2) := by decide +kernel
theorem dX6_bit_127 : decode cX6_bit 127 = .ok (.iload_n 2, 1) := by decide +kernel
theorem dX6_bit_128 : decode cX6_bit 128 = .ok (.imul, 1) := by decide +kernel
theorem dX6_bit_129 : decode cX6_bit 129 = .ok (.iload_n 3, 1) := by decide +kernel
theorem dX6_bit_130 : decode cX6_bit 130 = .ok (.iadd, 1) := by decide +kernel
theorem dX6_bit_131 : decode cX6_bit 131 = .ok (.iload 8, 2) := by decide +kernel
theorem dX6_bit_133 : decode cX6_bit 133 = .ok (.iadd, 1) := by decide +kernel
theorem dX6_bit_134 : decode cX6_bit 134 = .ok (.iaload, 1) := by decide +kernel
theorem dX6_bit_135 : decode cX6_bit 135 = .ok (.istore 9, 2) := by decide +kernel
theorem dX6_bit_137 : decode cX6_bit 137 = .ok (.iload 9, 2) := by decide +kernel
theorem dX6_bit_139 : decode cX6_bit 139 = .ok (.i2l, 1) := by decide +kernel
theorem dX6_bit_140 : decode cX6_bit 140 = .ok (.lconst 0, 1) := by decide +kernel
theorem dX6_bit_141 : decode cX6_bit 141 = .ok (.iload 6, 2) := by decide +kernel
theorem dX6_bit_143 : decode cX6_bit 143 = .ok (.iconst 1, 1) := by decide +kernel
theorem dX6_bit_144 : decode cX6_bit 144 = .ok (.isub, 1) := by decide +kernel
theorem dX6_bit_145 : decode cX6_bit 145 = .ok (.i2l, 1) := by decide +kernel
theorem dX6_bit_146 : decode cX6_bit 146 = .ok (.invokestatic 91, 3) := by decide +kernel
theorem dX6_bit_149 : decode cX6_bit 149 = .ok (.ifCond .eq 14, 3) := by decide +kernel
theorem dX6_bit_152 : decode cX6_bit 152 = .ok (.iload 7, 2) := by decide +kernel
theorem dX6_bit_154 : decode cX6_bit 154 = .ok (.iload 9, 2) := by decide +kernel
theorem dX6_bit_156 : decode cX6_bit 156 = .ok (.ishr, 1) := by decide +kernel
theorem dX6_bit_157 : decode cX6_bit 157 = .ok (.iconst 1, 1) := by decide +kernel
theorem dX6_bit_158 : decode cX6_bit 158 = .ok (.iand, 1) := by decide +kernel
theorem dX6_bit_159 : decode cX6_bit 159 = .ok (.iconst 1, 1) := by decide +kernel
theorem dX6_bit_160 : decode cX6_bit 160 = .ok (.if_icmp .ne 6, 3) := by decide +kernel
theorem dX6_bit_163 : decode cX6_bit 163 = .ok (.ldc 101, 2) := by decide +kernel
theorem dX6_bit_165 : decode cX6_bit 165 = .ok (.ireturn, 1) := by decide +kernel
theorem dX6_bit_166 : decode cX6_bit 166 = .ok (.iload 7, 2) := by decide +kernel
theorem dX6_bit_168 : decode cX6_bit 168 = .ok (.iconst 1, 1) := by decide +kernel
theorem dX6_bit_169 : decode cX6_bit 169 = .ok (.iload 9, 2) := by decide +kernel
theorem dX6_bit_171 : decode cX6_bit 171 = .ok (.ishl, 1) := by decide +kernel
theorem dX6_bit_172 : decode cX6_bit 172 = .ok (.ior, 1) := by decide +kernel
theorem dX6_bit_173 : decode cX6_bit 173 = .ok (.istore 7, 2) := by decide +kernel
theorem dX6_bit_175 : decode cX6_bit 175 = .ok (.aload_n 0, 1) := by decide +kernel
theorem dX6_bit_176 : decode cX6_bit 176 = .ok (.getfield 50, 3) := by decide +kernel
theorem dX6_bit_179 : decode cX6_bit 179 = .ok (.iload 8, 2) := by decide +kernel
theorem dX6_bit_181 : decode cX6_bit 181 = .ok (.iload 9, 2) := by decide +kernel
theorem dX6_bit_183 : decode cX6_bit 183 = .ok (.iastore, 1) := by decide +kernel
theorem dX6_bit_184 : decode cX6_bit 184 = .ok (.iinc 8 1, 3) := by decide +kernel
theorem dX6_bit_187 : decode cX6_bit 187 = .ok (.goto (-73), 3) := by decide +kernel
theorem dX6_bit_190 : decode cX6_bit 190 = .ok (.aload_n 0, 1) := by decide +kernel
theorem dX6_bit_191 : decode cX6_bit 191 = .ok (.iconst 0, 1) := by decide +kernel
theorem dX6_bit_192 : decode cX6_bit 192 = .ok (.putfield 85, 3) := by decide +kernel
theorem dX6_bit_195 : decode cX6_bit 195 = .ok (.iconst 0, 1) := by decide +kernel
theorem dX6_bit_196 : decode cX6_bit 196 = .ok (.istore 8, 2) := by decide +kernel
theorem dX6_bit_198 : decode cX6_bit 198 = .ok (.iload 8, 2) := by decide +kernel
theorem dX6_bit_200 : decode cX6_bit 200 = .ok (.iload_n 1, 1) := by decide +kernel
theorem dX6_bit_201 : decode cX6_bit 201 = .ok (.if_icmp .ge 66, 3) := by decide +kernel
theorem dX6_bit_204 : decode cX6_bit 204 = .ok (.iconst 0, 1) := by decide +kernel
theorem dX6_bit_205 : decode cX6_bit 205 = .ok (.istore 9, 2) := by decide +kernel
theorem dX6_bit_207 : decode cX6_bit 207 = .ok (.iload 9, 2) := by decide +kernel
theorem dX6_bit_209 : decode cX6_bit 209 = .ok (.iconst 1, 1) := by decide +kernel
theorem dX6_bit_210 : decode cX6_bit 210 = .ok (.iload 8, 2) := by decide +kernel
theorem dX6_bit_212 : decode cX6_bit 212 = .ok (.ishl, 1) := by decide +kernel
theorem dX6_bit_213 : decode cX6_bit 213 = .ok (.if_icmp .ge 18, 3) := by decide +kernel
theorem dX6_bit_216 : decode cX6_bit 216 = .ok (.aload_n 0, 1) := by decide +kernel
theorem dX6_bit_217 : decode cX6_bit 217 = .ok (.iload_n 1, 1) := by decide +kernel
theorem dX6_bit_218 : decode cX6_bit 218 = .ok (.iload 8, 2) := by decide +kernel
theorem dX6_bit_220 : decode cX6_bit 220 = .ok (.iload 9, 2) := by decide +kernel
theorem dX6_bit_222 : decode cX6_bit 222 = .ok (.invokevirtual 190, 3) := by decide +kernel
theorem dX6_bit_225 : decode cX6_bit 225 = .ok (.iinc 9 1, 3) := by decide +kernel
theorem dX6_bit_228 : decode cX6_bit 228 = .ok (.goto (-21), 3) := by decide +kernel
theorem dX6_bit_231 : decode cX6_bit 231 = .ok (.iconst 0, 1) := by decide +kernel
theorem dX6_bit_232 : decode cX6_bit 232 = .ok (.istore 9, 2) := by decide +kernel
theorem dX6_bit_234 : decode cX6_bit 234 = .ok (.iload 9, 2) := by decide +kernel
theorem dX6_bit_236 : decode cX6_bit 236 = .ok (.iload 6, 2) := by decide +kernel
theorem dX6_bit_238 : decode cX6_bit 238 = .ok (.if_icmp .ge 23, 3) := by decide +kernel
theorem dX6_bit_241 : decode cX6_bit 241 = .ok (.aload_n 0, 1) := by decide +kernel
theorem dX6_bit_242 : decode cX6_bit 242 = .ok (.getfield 50, 3) := by decide +kernel
theorem dX6_bit_245 : decode cX6_bit 245 = .ok (.iload 9, 2) := by decide +kernel
theorem dX6_bit_247 : decode cX6_bit 247 = .ok (.aload_n 0, 1) := by decide +kernel
theorem dX6_bit_248 : decode cX6_bit 248 = .ok (.getfield 53, 3) := by decide +kernel
theorem dX6_bit_251 : decode cX6_bit 251 = .ok (.iload 9, 2) := by decide +kernel
theorem dX6_bit_253 : decode cX6_bit 253 = .ok (.iaload, 1) := by decide +kernel
theorem dX6_bit_254 : decode cX6_bit 254 = .ok (.iastore, 1) := by decide +kernel
theorem dX6_bit_255 : decode cX6_bit 255 = .ok (.iinc 9 1, 3) := by decide +kernel
theorem dX6_bit_258 : decode cX6_bit 258 = .ok (.goto (-24), 3) := by decide +kernel
theorem dX6_bit_261 : decode cX6_bit 261 = .ok (.iinc 8 1, 3) := by decide +kernel
theorem dX6_bit_264 : decode cX6_bit 264 = .ok (.goto (-66), 3) := by decide +kernel
theorem dX6_bit_267 : decode cX6_bit 267 = .ok (.aload_n 0, 1) := by decide +kernel
theorem dX6_bit_268 : decode cX6_bit 268 = .ok (.getfield 47, 3) := by decide +kernel
theorem dX6_bit_271 : decode cX6_bit 271 = .ok (.bipush 8, 2) := by decide +kernel
theorem dX6_bit_273 : decode cX6_bit 273 = .ok (.iload 4, 2) := by decide +kernel
theorem dX6_bit_275 : decode cX6_bit 275 = .ok (.imul, 1) := by decide +kernel
theorem dX6_bit_276 : decode cX6_bit 276 = .ok (.iload 5, 2) := by decide +kernel
theorem dX6_bit_278 : decode cX6_bit 278 = .ok (.iadd, 1) := by decide +kernel
theorem dX6_bit_279 : decode cX6_bit 279 = .ok (.iaload, 1) := by decide +kernel
theorem dX6_bit_280 : decode cX6_bit 280 = .ok (.ireturn, 1) := by decide +kernel
set_option maxRecDepth 20000 in
theorem ggX6_goes_X6_isSheet : GoodIn wsX6_goes wsX6_isSheet := goodIn_r _ [13, 14, 15, 16, 12, 17] (by decide +kernel) (by decide +kernel)
set_option maxRecDepth 20000 in
theorem gX6_goes_X6_isSheet : GoodIn wsX6_goes (va_wsS RX6 95 yX6_isSheet wsX6_isSheet) := goodIn_app (goodIn_of _ (by decide +kernel)) ggX6_goes_X6_isSheet
set_option maxRecDepth 20000 in
theorem ggX6_goes_X6_in : GoodIn wsX6_goes wsX6_in := goodIn_r _ [17] (by decide +kernel) (by decide +kernel)
set_option maxRecDepth 20000 in
theorem gX6_goes_X6_in : GoodIn wsX6_goes (va_wsS RX6 91 yX6_in wsX6_in) := goodIn_app (goodIn_of _ (by decide +kernel)) ggX6_goes_X6_in
set_option maxRecDepth 20000 in
theorem ggX6_goes_X6_found : GoodIn wsX6_goes wsX6_found := goodIn_r _ [21, 4, 22, 23, 24, 25, 26, 27, 28, 29, 30, 31, 32, 33, 34, 35, 36, 37, 38, 39, 40, 41, 42, 43, 44, 45, 46, 47, 48, 49, 50, 51, 52] (by decide +kernel) (by decide +kernel)
set_option maxRecDepth 20000 in
theorem gX6_goes_X6_found : GoodIn wsX6_goes (wsV RX6 102 RX6 yX6_found wsX6_found) := goodIn_app (goodIn_of _ (by decide +kernel)) ggX6_goes_X6_found
theorem dX6_goes_0 : decode cX6_goes 0 = .ok (.aload_n 0, 1) := by decide +kernel
theorem dX6_goes_1 : decode cX6_goes 1 = .ok (.iconst 0, 1) := by decide +kernel
theorem dX6_goes_2 : decode cX6_goes 2 = .ok (.putfield 81, 3) := by decide +kernel
theorem dX6_goes_5 : decode cX6_goes 5 = .ok (.iload_n 2, 1) := by decide +kernel
theorem dX6_goes_6 : decode cX6_goes 6 = .ok (.invokestatic 95, 3) := by decide +kernel
theorem dX6_goes_9 : decode cX6_goes 9 = .ok (.ifCond .eq 31, 3) := by decide +kernel
theorem dX6_goes_12 : decode cX6_goes 12 = .ok (.iload_n 1, 1) := by decide +kernel
theorem dX6_goes_13 : decode cX6_goes 13 = .ok (.i2l, 1) := by decide +kernel
theorem dX6_goes_14 : decode cX6_goes 14 = .ok (.lconst 1, 1) := by decide +kernel
theorem dX6_goes_15 : decode cX6_goes 15 = .ok (.ldc2_w 188, 3) := by decide +kernel
theorem dX6_goes_18 : decode cX6_goes 18 = .ok (.invokestatic 91, 3) := by decide +kernel
theorem dX6_goes_21 : decode cX6_goes 21 = .ok (.ifCond .eq 19, 3) := by decide +kernel
theorem dX6_goes_24 : decode cX6_goes 24 = .ok (.iload 4, 2) := by decide +kernel
theorem dX6_goes_26 : decode cX6_goes 26 = .ok (.i2l, 1) := by decide +kernel
theorem dX6_goes_27 : decode cX6_goes 27 = .ok (.lconst 0, 1) := by decide +kernel
theorem dX6_goes_28 : decode cX6_goes 28 = .ok (.iconst 1, 1) := by decide +kernel
theorem dX6_goes_29 : decode cX6_goes 29 = .ok (.iload_n 1, 1) := by decide +kernel
theorem dX6_goes_30 : decode cX6_goes 30 = .ok (.ishl, 1) := by decide +kernel
theorem dX6_goes_31 : decode cX6_goes 31 = .ok (.iconst 1, 1) := by decide +kernel
theorem dX6_goes_32 : decode cX6_goes 32 = .ok (.isub, 1) := by decide +kernel
theorem dX6_goes_33 : decode cX6_goes 33 = .ok (.i2l, 1) := by decide +kernel
theorem dX6_goes_34 : decode cX6_goes 34 = .ok (.invokestatic 91, 3) := by decide +kernel
theorem dX6_goes_37 : decode cX6_goes 37 = .ok (.ifCond .ne 6, 3) := by decide +kernel
theorem dX6_goes_40 : decode cX6_goes 40 = .ok (.ldc 101, 2) := by decide +kernel
theorem dX6_goes_42 : decode cX6_goes 42 = .ok (.ireturn, 1) := by decide +kernel
theorem dX6_goes_43 : decode cX6_goes 43 = .ok (.aload_n 0, 1) := by decide +kernel
theorem dX6_goes_44 : decode cX6_goes 44 = .ok (.iconst 0, 1) := by decide +kernel
theorem dX6_goes_45 : decode cX6_goes 45 = .ok (.putfield 85, 3) := by decide +kernel
theorem dX6_goes_48 : decode cX6_goes 48 = .ok (.aload_n 0, 1) := by decide +kernel
theorem dX6_goes_49 : decode cX6_goes 49 = .ok (.getfield 7, 3) := by decide +kernel
theorem dX6_goes_52 : decode cX6_goes 52 = .ok (.iload_n 2, 1) := by decide +kernel
theorem dX6_goes_53 : decode cX6_goes 53 = .ok (.iaload, 1) := by decide +kernel
theorem dX6_goes_54 : decode cX6_goes 54 = .ok (.ifCond .ge 9, 3) := by decide +kernel
theorem dX6_goes_57 : decode cX6_goes 57 = .ok (.aload_n 0, 1) := by decide +kernel
theorem dX6_goes_58 : decode cX6_goes 58 = .ok (.iconst 1, 1) := by decide +kernel
theorem dX6_goes_59 : decode cX6_goes 59 = .ok (.invokevirtual 102, 3) := by decide +kernel
theorem dX6_goes_62 : decode cX6_goes 62 = .ok (.ireturn, 1) := by decide +kernel
theorem dX6_goes_63 : decode cX6_goes 63 = .ok (.iconst 1, 1) := by decide +kernel
theorem dX6_goes_64 : decode cX6_goes 64 = .ok (.iload_n 1, 1) := by decide +kernel
theorem dX6_goes_65 : decode cX6_goes 65 = .ok (.iconst 1, 1) := by decide +kernel
theorem dX6_goes_66 : decode cX6_goes 66 = .ok (.isub, 1) := by decide +kernel
theorem dX6_goes_67 : decode cX6_goes 67 = .ok (.ishl, 1) := by decide +kernel
end
section
theorem dX6_goes_68 : decode cX6_goes 68 = .ok (.istore 5, 2) := by decide +kernel
theorem dX6_goes_70 : decode cX6_goes 70 = .ok (.iload_n 3, 1) := by decide +kernel
theorem dX6_goes_71 : decode cX6_goes 71 = .ok (.ifCond .lt 26, 3) := by decide +kernel
theorem dX6_goes_74 : decode cX6_goes 74 = .ok (.iload_n 3, 1) := by decide +kernel
theorem dX6_goes_75 : decode cX6_goes 75 = .ok (.i2l, 1) := by decide +kernel
theorem dX6_goes_76 : decode cX6_goes 76 = .ok (.iconst 2, 1) := by decide +kernel
theorem dX6_goes_77 : decode cX6_goes 77 = .ok (.iload_n 1, 1) := by decide +kernel
theorem dX6_goes_78 : decode cX6_goes 78 = .ok (.imul, 1) := by decide +kernel
theorem dX6_goes_79 : decode cX6_goes 79 = .ok (.iconst 1, 1) := by decide +kernel
theorem dX6_goes_80 : decode cX6_goes 80 = .ok (.isub, 1) := by decide +kernel
theorem dX6_goes_81 : decode cX6_goes 81 = .ok (.iload 5, 2) := by decide +kernel
theorem dX6_goes_83 : decode cX6_goes 83 = .ok (.imul, 1) := by decide +kernel
theorem dX6_goes_84 : decode cX6_goes 84 = .ok (.i2l, 1) := by decide +kernel
theorem dX6_goes_85 : decode cX6_goes 85 = .ok (.ladd, 1) := by decide +kernel
theorem dX6_goes_86 : decode cX6_goes 86 = .ok (.aload_n 0, 1) := by decide +kernel
theorem dX6_goes_87 : decode cX6_goes 87 = .ok (.getfield 13, 3) := by decide +kernel
theorem dX6_goes_90 : decode cX6_goes 90 = .ok (.iload_n 2, 1) := by decide +kernel
theorem dX6_goes_91 : decode cX6_goes 91 = .ok (.iaload, 1) := by decide +kernel
theorem dX6_goes_92 : decode cX6_goes 92 = .ok (.i2l, 1) := by decide +kernel
theorem dX6_goes_93 : decode cX6_goes 93 = .ok (.lcmp, 1) := by decide +kernel
theorem dX6_goes_94 : decode cX6_goes 94 = .ok (.ifCond .le 9, 3) := by decide +kernel
theorem dX6_goes_97 : decode cX6_goes 97 = .ok (.aload_n 0, 1) := by decide +kernel
theorem dX6_goes_98 : decode cX6_goes 98 = .ok (.iconst 2, 1) := by decide +kernel
theorem dX6_goes_99 : decode cX6_goes 99 = .ok (.invokevirtual 102, 3) := by decide +kernel
theorem dX6_goes_102 : decode cX6_goes 102 = .ok (.ireturn, 1) := by decide +kernel
theorem dX6_goes_103 : decode cX6_goes 103 = .ok (.bipush 64, 2) := by decide +kernel
theorem dX6_goes_105 : decode cX6_goes 105 = .ok (.iload_n 2, 1) := by decide +kernel
theorem dX6_goes_106 : decode cX6_goes 106 = .ok (.imul, 1) := by decide +kernel
theorem dX6_goes_107 : decode cX6_goes 107 = .ok (.iload_n 3, 1) := by decide +kernel
theorem dX6_goes_108 : decode cX6_goes 108 = .ok (.iadd, 1) := by decide +kernel
theorem dX6_goes_109 : decode cX6_goes 109 = .ok (.istore 6, 2) := by decide +kernel
theorem dX6_goes_111 : decode cX6_goes 111 = .ok (.iload 4, 2) := by decide +kernel
theorem dX6_goes_113 : decode cX6_goes 113 = .ok (.istore 7, 2) := by decide +kernel
theorem dX6_goes_115 : decode cX6_goes 115 = .ok (.iconst 0, 1) := by decide +kernel
theorem dX6_goes_116 : decode cX6_goes 116 = .ok (.istore 8, 2) := by decide +kernel
theorem dX6_goes_118 : decode cX6_goes 118 = .ok (.iconst 0, 1) := by decide +kernel
theorem dX6_goes_119 : decode cX6_goes 119 = .ok (.istore 9, 2) := by decide +kernel
theorem dX6_goes_121 : decode cX6_goes 121 = .ok (.iload 9, 2) := by decide +kernel
theorem dX6_goes_123 : decode cX6_goes 123 = .ok (.iload_n 1, 1) := by decide +kernel
theorem dX6_goes_124 : decode cX6_goes 124 = .ok (.if_icmp .ge 107, 3) := by decide +kernel
theorem dX6_goes_127 : decode cX6_goes 127 = .ok (.iconst 1, 1) := by decide +kernel
theorem dX6_goes_128 : decode cX6_goes 128 = .ok (.iload_n 1, 1) := by decide +kernel
theorem dX6_goes_129 : decode cX6_goes 129 = .ok (.iload 9, 2) := by decide +kernel
theorem dX6_goes_131 : decode cX6_goes 131 = .ok (.isub, 1) := by decide +kernel
theorem dX6_goes_132 : decode cX6_goes 132 = .ok (.ishl, 1) := by decide +kernel
theorem dX6_goes_133 : decode cX6_goes 133 = .ok (.istore 10, 2) := by decide +kernel
theorem dX6_goes_135 : decode cX6_goes 135 = .ok (.aload_n 0, 1) := by decide +kernel
theorem dX6_goes_136 : decode cX6_goes 136 = .ok (.getfield 16, 3) := by decide +kernel
theorem dX6_goes_139 : decode cX6_goes 139 = .ok (.iload 6, 2) := by decide +kernel
theorem dX6_goes_141 : decode cX6_goes 141 = .ok (.iload 9, 2) := by decide +kernel
theorem dX6_goes_143 : decode cX6_goes 143 = .ok (.iload 5, 2) := by decide +kernel
theorem dX6_goes_145 : decode cX6_goes 145 = .ok (.imul, 1) := by decide +kernel
theorem dX6_goes_146 : decode cX6_goes 146 = .ok (.iadd, 1) := by decide +kernel
theorem dX6_goes_147 : decode cX6_goes 147 = .ok (.iload 8, 2) := by decide +kernel
theorem dX6_goes_149 : decode cX6_goes 149 = .ok (.iload 10, 2) := by decide +kernel
theorem dX6_goes_151 : decode cX6_goes 151 = .ok (.imul, 1) := by decide +kernel
theorem dX6_goes_152 : decode cX6_goes 152 = .ok (.iconst 2, 1) := by decide +kernel
theorem dX6_goes_153 : decode cX6_goes 153 = .ok (.idiv, 1) := by decide +kernel
theorem dX6_goes_154 : decode cX6_goes 154 = .ok (.iadd, 1) := by decide +kernel
theorem dX6_goes_155 : decode cX6_goes 155 = .ok (.iload 7, 2) := by decide +kernel
theorem dX6_goes_157 : decode cX6_goes 157 = .ok (.iconst 2, 1) := by decide +kernel
theorem dX6_goes_158 : decode cX6_goes 158 = .ok (.idiv, 1) := by decide +kernel
theorem dX6_goes_159 : decode cX6_goes 159 = .ok (.iadd, 1) := by decide +kernel
theorem dX6_goes_160 : decode cX6_goes 160 = .ok (.iaload, 1) := by decide +kernel
theorem dX6_goes_161 : decode cX6_goes 161 = .ok (.ifCond .eq 7, 3) := by decide +kernel
theorem dX6_goes_164 : decode cX6_goes 164 = .ok (.iconst 1, 1) := by decide +kernel
theorem dX6_goes_165 : decode cX6_goes 165 = .ok (.goto 4, 3) := by decide +kernel
theorem dX6_goes_168 : decode cX6_goes 168 = .ok (.iconst 0, 1) := by decide +kernel
theorem dX6_goes_169 : decode cX6_goes 169 = .ok (.istore 11, 2) := by decide +kernel
theorem dX6_goes_171 : decode cX6_goes 171 = .ok (.aload_n 0, 1) := by decide +kernel
theorem dX6_goes_172 : decode cX6_goes 172 = .ok (.getfield 59, 3) := by decide +kernel
theorem dX6_goes_175 : decode cX6_goes 175 = .ok (.iload 9, 2) := by decide +kernel
theorem dX6_goes_177 : decode cX6_goes 177 = .ok (.iload 8, 2) := by decide +kernel
theorem dX6_goes_179 : decode cX6_goes 179 = .ok (.iastore, 1) := by decide +kernel
theorem dX6_goes_180 : decode cX6_goes 180 = .ok (.aload_n 0, 1) := by decide +kernel
theorem dX6_goes_181 : decode cX6_goes 181 = .ok (.getfield 62, 3) := by decide +kernel
theorem dX6_goes_184 : decode cX6_goes 184 = .ok (.iload 9, 2) := by decide +kernel
theorem dX6_goes_186 : decode cX6_goes 186 = .ok (.iload 11, 2) := by decide +kernel
theorem dX6_goes_188 : decode cX6_goes 188 = .ok (.ifCond .eq 12, 3) := by decide +kernel
theorem dX6_goes_191 : decode cX6_goes 191 = .ok (.iconst 1, 1) := by decide +kernel
theorem dX6_goes_192 : decode cX6_goes 192 = .ok (.iload 7, 2) := by decide +kernel
theorem dX6_goes_194 : decode cX6_goes 194 = .ok (.iconst 2, 1) := by decide +kernel
theorem dX6_goes_195 : decode cX6_goes 195 = .ok (.irem, 1) := by decide +kernel
theorem dX6_goes_196 : decode cX6_goes 196 = .ok (.isub, 1) := by decide +kernel
theorem dX6_goes_197 : decode cX6_goes 197 = .ok (.goto 7, 3) := by decide +kernel
theorem dX6_goes_200 : decode cX6_goes 200 = .ok (.iload 7, 2) := by decide +kernel
theorem dX6_goes_202 : decode cX6_goes 202 = .ok (.iconst 2, 1) := by decide +kernel
theorem dX6_goes_203 : decode cX6_goes 203 = .ok (.irem, 1) := by decide +kernel
theorem dX6_goes_204 : decode cX6_goes 204 = .ok (.iastore, 1) := by decide +kernel
theorem dX6_goes_205 : decode cX6_goes 205 = .ok (.iconst 2, 1) := by decide +kernel
theorem dX6_goes_206 : decode cX6_goes 206 = .ok (.iload 8, 2) := by decide +kernel
theorem dX6_goes_208 : decode cX6_goes 208 = .ok (.imul, 1) := by decide +kernel
theorem dX6_goes_209 : decode cX6_goes 209 = .ok (.aload_n 0, 1) := by decide +kernel
theorem dX6_goes_210 : decode cX6_goes 210 = .ok (.getfield 62, 3) := by decide +kernel
theorem dX6_goes_213 : decode cX6_goes 213 = .ok (.iload 9, 2) := by decide +kernel
theorem dX6_goes_215 : decode cX6_goes 215 = .ok (.iaload, 1) := by decide +kernel
theorem dX6_goes_216 : decode cX6_goes 216 = .ok (.iadd, 1) := by decide +kernel
theorem dX6_goes_217 : decode cX6_goes 217 = .ok (.istore 8, 2) := by decide +kernel
theorem dX6_goes_219 : decode cX6_goes 219 = .ok (.iload 7, 2) := by decide +kernel
theorem dX6_goes_221 : decode cX6_goes 221 = .ok (.iconst 2, 1) := by decide +kernel
theorem dX6_goes_222 : decode cX6_goes 222 = .ok (.idiv, 1) := by decide +kernel
theorem dX6_goes_223 : decode cX6_goes 223 = .ok (.istore 7, 2) := by decide +kernel
theorem dX6_goes_225 : decode cX6_goes 225 = .ok (.iinc 9 1, 3) := by decide +kernel
theorem dX6_goes_228 : decode cX6_goes 228 = .ok (.goto (-107), 3) := by decide +kernel
theorem dX6_goes_231 : decode cX6_goes 231 = .ok (.aload_n 0, 1) := by decide +kernel
theorem dX6_goes_232 : decode cX6_goes 232 = .ok (.getfield 62, 3) := by decide +kernel
theorem dX6_goes_235 : decode cX6_goes 235 = .ok (.iload_n 1, 1) := by decide +kernel
theorem dX6_goes_236 : decode cX6_goes 236 = .ok (.iconst 1, 1) := by decide +kernel
theorem dX6_goes_237 : decode cX6_goes 237 = .ok (.isub, 1) := by decide +kernel
theorem dX6_goes_238 : decode cX6_goes 238 = .ok (.iaload, 1) := by decide +kernel
theorem dX6_goes_239 : decode cX6_goes 239 = .ok (.istore 7, 2) := by decide +kernel
theorem dX6_goes_241 : decode cX6_goes 241 = .ok (.iload_n 1, 1) := by decide +kernel
theorem dX6_goes_242 : decode cX6_goes 242 = .ok (.iconst 2, 1) := by decide +kernel
theorem dX6_goes_243 : decode cX6_goes 243 = .ok (.isub, 1) := by decide +kernel
theorem dX6_goes_244 : decode cX6_goes 244 = .ok (.istore 9, 2) := by decide +kernel
theorem dX6_goes_246 : decode cX6_goes 246 = .ok (.iload 9, 2) := by decide +kernel
theorem dX6_goes_248 : decode cX6_goes 248 = .ok (.ifCond .lt 93, 3) := by decide +kernel
theorem dX6_goes_251 : decode cX6_goes 251 = .ok (.iconst 1, 1) := by decide +kernel
theorem dX6_goes_252 : decode cX6_goes 252 = .ok (.iload_n 1, 1) := by decide +kernel
theorem dX6_goes_253 : decode cX6_goes 253 = .ok (.iload 9, 2) := by decide +kernel
theorem dX6_goes_255 : decode cX6_goes 255 = .ok (.isub, 1) := by decide +kernel
theorem dX6_goes_256 : decode cX6_goes 256 = .ok (.ishl, 1) := by decide +kernel
theorem dX6_goes_257 : decode cX6_goes 257 = .ok (.istore 10, 2) := by decide +kernel
theorem dX6_goes_259 : decode cX6_goes 259 = .ok (.aload_n 0, 1) := by decide +kernel
theorem dX6_goes_260 : decode cX6_goes 260 = .ok (.getfield 16, 3) := by decide +kernel
theorem dX6_goes_263 : decode cX6_goes 263 = .ok (.iload 6, 2) := by decide +kernel
theorem dX6_goes_265 : decode cX6_goes 265 = .ok (.iconst 2, 1) := by decide +kernel
theorem dX6_goes_266 : decode cX6_goes 266 = .ok (.iload_n 1, 1) := by decide +kernel
theorem dX6_goes_267 : decode cX6_goes 267 = .ok (.imul, 1) := by decide +kernel
theorem dX6_goes_268 : decode cX6_goes 268 = .ok (.iconst 2, 1) := by decide +kernel
theorem dX6_goes_269 : decode cX6_goes 269 = .ok (.isub, 1) := by decide +kernel
theorem dX6_goes_270 : decode cX6_goes 270 = .ok (.iload 9, 2) := by decide +kernel
theorem dX6_goes_272 : decode cX6_goes 272 = .ok (.isub, 1) := by decide +kernel
theorem dX6_goes_273 : decode cX6_goes 273 = .ok (.iload 5, 2) := by decide +kernel
theorem dX6_goes_275 : decode cX6_goes 275 = .ok (.imul, 1) := by decide +kernel
theorem dX6_goes_276 : decode cX6_goes 276 = .ok (.iadd, 1) := by decide +kernel
theorem dX6_goes_277 : decode cX6_goes 277 = .ok (.aload_n 0, 1) := by decide +kernel
theorem dX6_goes_278 : decode cX6_goes 278 = .ok (.getfield 59, 3) := by decide +kernel
theorem dX6_goes_281 : decode cX6_goes 281 = .ok (.iload 9, 2) := by decide +kernel
theorem dX6_goes_283 : decode cX6_goes 283 = .ok (.iaload, 1) := by decide +kernel
theorem dX6_goes_284 : decode cX6_goes 284 = .ok (.iload 10, 2) := by decide +kernel
theorem dX6_goes_286 : decode cX6_goes 286 = .ok (.imul, 1) := by decide +kernel
theorem dX6_goes_287 : decode cX6_goes 287 = .ok (.iconst 2, 1) := by decide +kernel
theorem dX6_goes_288 : decode cX6_goes 288 = .ok (.idiv, 1) := by decide +kernel
theorem dX6_goes_289 : decode cX6_goes 289 = .ok (.iadd, 1) := by decide +kernel
theorem dX6_goes_290 : decode cX6_goes 290 = .ok (.iload 7, 2) := by decide +kernel
theorem dX6_goes_292 : decode cX6_goes 292 = .ok (.iadd, 1) := by decide +kernel
theorem dX6_goes_293 : decode cX6_goes 293 = .ok (.iaload, 1) := by decide +kernel
theorem dX6_goes_294 : decode cX6_goes 294 = .ok (.ifCond .eq 7, 3) := by decide +kernel
theorem dX6_goes_297 : decode cX6_goes 297 = .ok (.iconst 1, 1) := by decide +kernel
theorem dX6_goes_298 : decode cX6_goes 298 = .ok (.goto 4, 3) := by decide +kernel
theorem dX6_goes_301 : decode cX6_goes 301 = .ok (.iconst 0, 1) := by decide +kernel
theorem dX6_goes_302 : decode cX6_goes 302 = .ok (.istore 11, 2) := by decide +kernel
theorem dX6_goes_304 : decode cX6_goes 304 = .ok (.iconst 2, 1) := by decide +kernel
theorem dX6_goes_305 : decode cX6_goes 305 = .ok (.iload 7, 2) := by decide +kernel
theorem dX6_goes_307 : decode cX6_goes 307 = .ok (.imul, 1) := by decide +kernel
theorem dX6_goes_308 : decode cX6_goes 308 = .ok (.iload 11, 2) := by decide +kernel
theorem dX6_goes_310 : decode cX6_goes 310 = .ok (.ifCond .eq 15, 3) := by decide +kernel
theorem dX6_goes_313 : decode cX6_goes 313 = .ok (.iconst 1, 1) := by decide +kernel
theorem dX6_goes_314 : decode cX6_goes 314 = .ok (.aload_n 0, 1) := by decide +kernel
theorem dX6_goes_315 : decode cX6_goes 315 = .ok (.getfield 62, 3) := by decide +kernel
theorem dX6_goes_318 : decode cX6_goes 318 = .ok (.iload 9, 2) := by decide +kernel
theorem dX6_goes_320 : decode cX6_goes 320 = .ok (.iaload, 1) := by decide +kernel
theorem dX6_goes_321 : decode cX6_goes 321 = .ok (.isub, 1) := by decide +kernel
theorem dX6_goes_322 : decode cX6_goes 322 = .ok (.goto 10, 3) := by decide +kernel
theorem dX6_goes_325 : decode cX6_goes 325 = .ok (.aload_n 0, 1) := by decide +kernel
theorem dX6_goes_326 : decode cX6_goes 326 = .ok (.getfield 62, 3) := by decide +kernel
theorem dX6_goes_329 : decode cX6_goes 329 = .ok (.iload 9, 2) := by decide +kernel
theorem dX6_goes_331 : decode cX6_goes 331 = .ok (.iaload, 1) := by decide +kernel
theorem dX6_goes_332 : decode cX6_goes 332 = .ok (.iadd, 1) := by decide +kernel
theorem dX6_goes_333 : decode cX6_goes 333 = .ok (.istore 7, 2) := by decide +kernel
theorem dX6_goes_335 : decode cX6_goes 335 = .ok (.iinc 9 (-1), 3) := by decide +kernel
theorem dX6_goes_338 : decode cX6_goes 338 = .ok (.goto (-92), 3) := by decide +kernel
theorem dX6_goes_341 : decode cX6_goes 341 = .ok (.iload 7, 2) := by decide +kernel
theorem dX6_goes_343 : decode cX6_goes 343 = .ok (.ireturn, 1) := by decide +kernel
theorem dX6_next_0 : decode cX6_next 0 = .ok (.iload_n 1, 1) := by decide +kernel
theorem dX6_next_1 : decode cX6_next 1 = .ok (.iconst 2, 1) := by decide +kernel
theorem dX6_next_2 : decode cX6_next 2 = .ok (.isub, 1) := by decide +kernel
theorem dX6_next_3 : decode cX6_next 3 = .ok (.istore_n 2, 1) := by decide +kernel
theorem dX6_next_4 : decode cX6_next 4 = .ok (.iload_n 2, 1) := by decide +kernel
theorem dX6_next_5 : decode cX6_next 5 = .ok (.ifCond .lt 26, 3) := by decide +kernel
theorem dX6_next_8 : decode cX6_next 8 = .ok (.aload_n 0, 1) := by decide +kernel
theorem dX6_next_9 : decode cX6_next 9 = .ok (.getfield 74, 3) := by decide +kernel
theorem dX6_next_12 : decode cX6_next 12 = .ok (.iload_n 2, 1) := by decide +kernel
theorem dX6_next_13 : decode cX6_next 13 = .ok (.iaload, 1) := by decide +kernel
theorem dX6_next_14 : decode cX6_next 14 = .ok (.aload_n 0, 1) := by decide +kernel
theorem dX6_next_15 : decode cX6_next 15 = .ok (.getfield 74, 3) := by decide +kernel
theorem dX6_next_18 : decode cX6_next 18 = .ok (.iload_n 2, 1) := by decide +kernel
theorem dX6_next_19 : decode cX6_next 19 = .ok (.iconst 1, 1) := by decide +kernel
theorem dX6_next_20 : decode cX6_next 20 = .ok (.iadd, 1) := by decide +kernel
theorem dX6_next_21 : decode cX6_next 21 = .ok (.iaload, 1) := by decide +kernel
theorem dX6_next_22 : decode cX6_next 22 = .ok (.if_icmp .le 9, 3) := by decide +kernel
theorem dX6_next_25 : decode cX6_next 25 = .ok (.iinc 2 (-1), 3) := by decide +kernel
theorem dX6_next_28 : decode cX6_next 28 = .ok (.goto (-24), 3) := by decide +kernel
theorem dX6_next_31 : decode cX6_next 31 = .ok (.iload_n 2, 1) := by decide +kernel
theorem dX6_next_32 : decode cX6_next 32 = .ok (.ifCond .ge 5, 3) := by decide +kernel
theorem dX6_next_35 : decode cX6_next 35 = .ok (.iconst 0, 1) := by decide +kernel
theorem dX6_next_36 : decode cX6_next 36 = .ok (.ireturn, 1) := by decide +kernel
theorem dX6_next_37 : decode cX6_next 37 = .ok (.iload_n 1, 1) := by decide +kernel
theorem dX6_next_38 : decode cX6_next 38 = .ok (.iconst 1, 1) := by decide +kernel
theorem dX6_next_39 : decode cX6_next 39 = .ok (.isub, 1) := by decide +kernel
theorem dX6_next_40 : decode cX6_next 40 = .ok (.istore_n 3, 1) := by decide +kernel
theorem dX6_next_41 : decode cX6_next 41 = .ok (.aload_n 0, 1) := by decide +kernel
theorem dX6_next_42 : decode cX6_next 42 = .ok (.getfield 74, 3) := by decide +kernel
theorem dX6_next_45 : decode cX6_next 45 = .ok (.iload_n 3, 1) := by decide +kernel
theorem dX6_next_46 : decode cX6_next 46 = .ok (.iaload, 1) := by decide +kernel
theorem dX6_next_47 : decode cX6_next 47 = .ok (.aload_n 0, 1) := by decide +kernel
theorem dX6_next_48 : decode cX6_next 48 = .ok (.getfield 74, 3) := by decide +kernel
theorem dX6_next_51 : decode cX6_next 51 = .ok (.iload_n 2, 1) := by decide +kernel
theorem dX6_next_52 : decode cX6_next 52 = .ok (.iaload, 1) := by decide +kernel
theorem dX6_next_53 : decode cX6_next 53 = .ok (.if_icmp .ge 9, 3) := by decide +kernel
theorem dX6_next_56 : decode cX6_next 56 = .ok (.iinc 3 (-1), 3) := by decide +kernel
theorem dX6_next_59 : decode cX6_next 59 = .ok (.goto (-18), 3) := by decide +kernel
theorem dX6_next_62 : decode cX6_next 62 = .ok (.aload_n 0, 1) := by decide +kernel
theorem dX6_next_63 : decode cX6_next 63 = .ok (.getfield 74, 3) := by decide +kernel
theorem dX6_next_66 : decode cX6_next 66 = .ok (.iload_n 2, 1) := by decide +kernel
theorem dX6_next_67 : decode cX6_next 67 = .ok (.iaload, 1) := by decide +kernel
theorem dX6_next_68 : decode cX6_next 68 = .ok (.istore 4, 2) := by decide +kernel
theorem dX6_next_70 : decode cX6_next 70 = .ok (.aload_n 0, 1) := by decide +kernel
theorem dX6_next_71 : decode cX6_next 71 = .ok (.getfield 74, 3) := by decide +kernel
theorem dX6_next_74 : decode cX6_next 74 = .ok (.iload_n 2, 1) := by decide +kernel
theorem dX6_next_75 : decode cX6_next 75 = .ok (.aload_n 0, 1) := by decide +kernel
theorem dX6_next_76 : decode cX6_next 76 = .ok (.getfield 74, 3) := by decide +kernel
theorem dX6_next_79 : decode cX6_next 79 = .ok (.iload_n 3, 1) := by decide +kernel
theorem dX6_next_80 : decode cX6_next 80 = .ok (.iaload, 1) := by decide +kernel
theorem dX6_next_81 : decode cX6_next 81 = .ok (.iastore, 1) := by decide +kernel
theorem dX6_next_82 : decode cX6_next 82 = .ok (.aload_n 0, 1) := by decide +kernel
theorem dX6_next_83 : decode cX6_next 83 = .ok (.getfield 74, 3) := by decide +kernel
theorem dX6_next_86 : decode cX6_next 86 = .ok (.iload_n 3, 1) := by decide +kernel
theorem dX6_next_87 : decode cX6_next 87 = .ok (.iload 4, 2) := by decide +kernel
theorem dX6_next_89 : decode cX6_next 89 = .ok (.iastore, 1) := by decide +kernel
theorem dX6_next_90 : decode cX6_next 90 = .ok (.iload_n 2, 1) := by decide +kernel
theorem dX6_next_91 : decode cX6_next 91 = .ok (.iconst 1, 1) := by decide +kernel
theorem dX6_next_92 : decode cX6_next 92 = .ok (.iadd, 1) := by decide +kernel
theorem dX6_next_93 : decode cX6_next 93 = .ok (.istore 5, 2) := by decide +kernel
theorem dX6_next_95 : decode cX6_next 95 = .ok (.iload_n 1, 1) := by decide +kernel
theorem dX6_next_96 : decode cX6_next 96 = .ok (.iconst 1, 1) := by decide +kernel
theorem dX6_next_97 : decode cX6_next 97 = .ok (.isub, 1) := by decide +kernel
theorem dX6_next_98 : decode cX6_next 98 = .ok (.istore 6, 2) := by decide +kernel
theorem dX6_next_100 : decode cX6_next 100 = .ok (.iload 5, 2) := by decide +kernel
theorem dX6_next_102 : decode cX6_next 102 = .ok (.iload 6, 2) := by decide +kernel
theorem dX6_next_104 : decode cX6_next 104 = .ok (.if_icmp .ge 44, 3) := by decide +kernel
theorem dX6_next_107 : decode cX6_next 107 = .ok (.aload_n 0, 1) := by decide +kernel
theorem dX6_next_108 : decode cX6_next 108 = .ok (.getfield 74, 3) := by decide +kernel
theorem dX6_next_111 : decode cX6_next 111 = .ok (.iload 5, 2) := by decide +kernel
theorem dX6_next_113 : decode cX6_next 113 = .ok (.iaload, 1) := by decide +kernel
theorem dX6_next_114 : decode cX6_next 114 = .ok (.istore 4, 2) := by decide +kernel
theorem dX6_next_116 : decode cX6_next 116 = .ok (.aload_n 0, 1) := by decide +kernel
theorem dX6_next_117 : decode cX6_next 117 = .ok (.getfield 74, 3) := by decide +kernel
theorem dX6_next_120 : decode cX6_next 120 = .ok (.iload 5, 2) := by decide +kernel
theorem dX6_next_122 : decode cX6_next 122 = .ok (.aload_n 0, 1) := by decide +kernel
theorem dX6_next_123 : decode cX6_next 123 = .ok (.getfield 74, 3) := by decide +kernel
theorem dX6_next_126 : decode cX6_next 126 = .ok (.iload 6, 2) := by decide +kernel
theorem dX6_next_128 : decode cX6_next 128 = .ok (.iaload, 1) := by decide +kernel
theorem dX6_next_129 : decode cX6_next 129 = .ok (.iastore, 1) := by decide +kernel
theorem dX6_next_130 : decode cX6_next 130 = .ok (.aload_n 0, 1) := by decide +kernel
theorem dX6_next_131 : decode cX6_next 131 = .ok (.getfield 74, 3) := by decide +kernel
theorem dX6_next_134 : decode cX6_next 134 = .ok (.iload 6, 2) := by decide +kernel
theorem dX6_next_136 : decode cX6_next 136 = .ok (.iload 4, 2) := by decide +kernel
theorem dX6_next_138 : decode cX6_next 138 = .ok (.iastore, 1) := by decide +kernel
theorem dX6_next_139 : decode cX6_next 139 = .ok (.iinc 5 1, 3) := by decide +kernel
theorem dX6_next_142 : decode cX6_next 142 = .ok (.iinc 6 (-1), 3) := by decide +kernel
theorem dX6_next_145 : decode cX6_next 145 = .ok (.goto (-45), 3) := by decide +kernel
theorem dX6_next_148 : decode cX6_next 148 = .ok (.iconst 1, 1) := by decide +kernel
theorem dX6_next_149 : decode cX6_next 149 = .ok (.ireturn, 1) := by decide +kernel
theorem dX6_leastBy_0 : decode cX6_leastBy 0 = .ok (.ldc 194, 2) := by decide +kernel
theorem dX6_leastBy_2 : decode cX6_leastBy 2 = .ok (.istore_n 2, 1) := by decide +kernel
theorem dX6_leastBy_3 : decode cX6_leastBy 3 = .ok (.iconst 0, 1) := by decide +kernel
theorem dX6_leastBy_4 : decode cX6_leastBy 4 = .ok (.istore_n 3, 1) := by decide +kernel
theorem dX6_leastBy_5 : decode cX6_leastBy 5 = .ok (.iload_n 3, 1) := by decide +kernel
theorem dX6_leastBy_6 : decode cX6_leastBy 6 = .ok (.iload_n 1, 1) := by decide +kernel
theorem dX6_leastBy_7 : decode cX6_leastBy 7 = .ok (.if_icmp .ge 50, 3) := by decide +kernel
theorem dX6_leastBy_10 : decode cX6_leastBy 10 = .ok (.aload_n 0, 1) := by decide +kernel
theorem dX6_leastBy_11 : decode cX6_leastBy 11 = .ok (.getfield 65, 3) := by decide +kernel
theorem dX6_leastBy_14 : decode cX6_leastBy 14 = .ok (.bipush 6, 2) := by decide +kernel
theorem dX6_leastBy_16 : decode cX6_leastBy 16 = .ok (.iload_n 3, 1) := by decide +kernel
theorem dX6_leastBy_17 : decode cX6_leastBy 17 = .ok (.imul, 1) := by decide +kernel
theorem dX6_leastBy_18 : decode cX6_leastBy 18 = .ok (.aload_n 0, 1) := by decide +kernel
theorem dX6_leastBy_19 : decode cX6_leastBy 19 = .ok (.getfield 74, 3) := by decide +kernel
theorem dX6_leastBy_22 : decode cX6_leastBy 22 = .ok (.iload_n 3, 1) := by decide +kernel
theorem dX6_leastBy_23 : decode cX6_leastBy 23 = .ok (.iaload, 1) := by decide +kernel
theorem dX6_leastBy_24 : decode cX6_leastBy 24 = .ok (.iadd, 1) := by decide +kernel
theorem dX6_leastBy_25 : decode cX6_leastBy 25 = .ok (.iaload, 1) := by decide +kernel
theorem dX6_leastBy_26 : decode cX6_leastBy 26 = .ok (.iload_n 2, 1) := by decide +kernel
theorem dX6_leastBy_27 : decode cX6_leastBy 27 = .ok (.if_icmp .ge 22, 3) := by decide +kernel
theorem dX6_leastBy_30 : decode cX6_leastBy 30 = .ok (.aload_n 0, 1) := by decide +kernel
theorem dX6_leastBy_31 : decode cX6_leastBy 31 = .ok (.getfield 65, 3) := by decide +kernel
theorem dX6_leastBy_34 : decode cX6_leastBy 34 = .ok (.bipush 6, 2) := by decide +kernel
theorem dX6_leastBy_36 : decode cX6_leastBy 36 = .ok (.iload_n 3, 1) := by decide +kernel
theorem dX6_leastBy_37 : decode cX6_leastBy 37 = .ok (.imul, 1) := by decide +kernel
theorem dX6_leastBy_38 : decode cX6_leastBy 38 = .ok (.aload_n 0, 1) := by decide +kernel
theorem dX6_leastBy_39 : decode cX6_leastBy 39 = .ok (.getfield 74, 3) := by decide +kernel
theorem dX6_leastBy_42 : decode cX6_leastBy 42 = .ok (.iload_n 3, 1) := by decide +kernel
theorem dX6_leastBy_43 : decode cX6_leastBy 43 = .ok (.iaload, 1) := by decide +kernel
theorem dX6_leastBy_44 : decode cX6_leastBy 44 = .ok (.iadd, 1) := by decide +kernel
theorem dX6_leastBy_45 : decode cX6_leastBy 45 = .ok (.iaload, 1) := by decide +kernel
theorem dX6_leastBy_46 : decode cX6_leastBy 46 = .ok (.goto 4, 3) := by decide +kernel
theorem dX6_leastBy_49 : decode cX6_leastBy 49 = .ok (.iload_n 2, 1) := by decide +kernel
theorem dX6_leastBy_50 : decode cX6_leastBy 50 = .ok (.istore_n 2, 1) := by decide +kernel
theorem dX6_leastBy_51 : decode cX6_leastBy 51 = .ok (.iinc 3 1, 3) := by decide +kernel
theorem dX6_leastBy_54 : decode cX6_leastBy 54 = .ok (.goto (-49), 3) := by decide +kernel
theorem dX6_leastBy_57 : decode cX6_leastBy 57 = .ok (.iload_n 2, 1) := by decide +kernel
theorem dX6_leastBy_58 : decode cX6_leastBy 58 = .ok (.ireturn, 1) := by decide +kernel
set_option maxRecDepth 20000 in
theorem ggX6_findParts_X6_leastBy : GoodIn wsX6_findParts wsX6_leastBy := goodIn_r _ [10, 11, 4, 2, 16, 17, 18, 19, 20, 21, 22, 23, 24, 25, 26, 27, 28, 29, 30, 31, 32, 33, 34, 35, 36, 37, 38, 39, 40, 41, 42, 43, 44, 45] (by decide +kernel) (by decide +kernel)
set_option maxRecDepth 20000 in
theorem gX6_findParts_X6_leastBy : GoodIn wsX6_findParts (wsV RX6 198 RX6 yX6_leastBy wsX6_leastBy) := goodIn_app (goodIn_of _ (by decide +kernel)) ggX6_findParts_X6_leastBy
set_option maxRecDepth 20000 in
theorem ggX6_findParts_X6_next : GoodIn wsX6_findParts wsX6_next := goodIn_r _ [15, 2, 16, 17, 18, 19, 20, 21, 22, 23, 24, 25, 26, 27, 28, 29, 30, 31, 32, 33, 34, 35, 36, 37, 38, 39, 40, 41, 42, 43, 44, 45] (by decide +kernel) (by decide +kernel)
set_option maxRecDepth 20000 in
theorem gX6_findParts_X6_next : GoodIn wsX6_findParts (wsV RX6 201 RX6 yX6_next wsX6_next) := goodIn_app (goodIn_of _ (by decide +kernel)) ggX6_findParts_X6_next
theorem dX6_findParts_0 : decode cX6_findParts 0 = .ok (.aload_n 0, 1) := by decide +kernel
theorem dX6_findParts_1 : decode cX6_findParts 1 = .ok (.iconst 0, 1) := by decide +kernel
theorem dX6_findParts_2 : decode cX6_findParts 2 = .ok (.putfield 195, 3) := by decide +kernel
theorem dX6_findParts_5 : decode cX6_findParts 5 = .ok (.iload_n 2, 1) := by decide +kernel
theorem dX6_findParts_6 : decode cX6_findParts 6 = .ok (.istore_n 3, 1) := by decide +kernel
theorem dX6_findParts_7 : decode cX6_findParts 7 = .ok (.iload_n 3, 1) := by decide +kernel
theorem dX6_findParts_8 : decode cX6_findParts 8 = .ok (.ifCond .le 169, 3) := by decide +kernel
theorem dX6_findParts_11 : decode cX6_findParts 11 = .ok (.iconst 0, 1) := by decide +kernel
theorem dX6_findParts_12 : decode cX6_findParts 12 = .ok (.istore 4, 2) := by decide +kernel
theorem dX6_findParts_14 : decode cX6_findParts 14 = .ok (.iload 4, 2) := by decide +kernel
theorem dX6_findParts_16 : decode cX6_findParts 16 = .ok (.iload_n 1, 1) := by decide +kernel
theorem dX6_findParts_17 : decode cX6_findParts 17 = .ok (.if_icmp .ge 18, 3) := by decide +kernel
theorem dX6_findParts_20 : decode cX6_findParts 20 = .ok (.aload_n 0, 1) := by decide +kernel
theorem dX6_findParts_21 : decode cX6_findParts 21 = .ok (.getfield 74, 3) := by decide +kernel
theorem dX6_findParts_24 : decode cX6_findParts 24 = .ok (.iload 4, 2) := by decide +kernel
theorem dX6_findParts_26 : decode cX6_findParts 26 = .ok (.iload 4, 2) := by decide +kernel
theorem dX6_findParts_28 : decode cX6_findParts 28 = .ok (.iastore, 1) := by decide +kernel
theorem dX6_findParts_29 : decode cX6_findParts 29 = .ok (.iinc 4 1, 3) := by decide +kernel
theorem dX6_findParts_32 : decode cX6_findParts 32 = .ok (.goto (-18), 3) := by decide +kernel
theorem dX6_findParts_35 : decode cX6_findParts 35 = .ok (.aload_n 0, 1) := by decide +kernel
theorem dX6_findParts_36 : decode cX6_findParts 36 = .ok (.iload_n 1, 1) := by decide +kernel
theorem dX6_findParts_37 : decode cX6_findParts 37 = .ok (.invokevirtual 198, 3) := by decide +kernel
theorem dX6_findParts_40 : decode cX6_findParts 40 = .ok (.ifCond .ne 7, 3) := by decide +kernel
theorem dX6_findParts_43 : decode cX6_findParts 43 = .ok (.iconst 1, 1) := by decide +kernel
theorem dX6_findParts_44 : decode cX6_findParts 44 = .ok (.goto 4, 3) := by decide +kernel
theorem dX6_findParts_47 : decode cX6_findParts 47 = .ok (.iconst 0, 1) := by decide +kernel
theorem dX6_findParts_48 : decode cX6_findParts 48 = .ok (.istore 4, 2) := by decide +kernel
theorem dX6_findParts_50 : decode cX6_findParts 50 = .ok (.iload 4, 2) := by decide +kernel
theorem dX6_findParts_52 : decode cX6_findParts 52 = .ok (.ifCond .eq 29, 3) := by decide +kernel
theorem dX6_findParts_55 : decode cX6_findParts 55 = .ok (.aload_n 0, 1) := by decide +kernel
theorem dX6_findParts_56 : decode cX6_findParts 56 = .ok (.iload_n 1, 1) := by decide +kernel
theorem dX6_findParts_57 : decode cX6_findParts 57 = .ok (.invokevirtual 201, 3) := by decide +kernel
theorem dX6_findParts_60 : decode cX6_findParts 60 = .ok (.ifCond .eq 15, 3) := by decide +kernel
theorem dX6_findParts_63 : decode cX6_findParts 63 = .ok (.aload_n 0, 1) := by decide +kernel
theorem dX6_findParts_64 : decode cX6_findParts 64 = .ok (.iload_n 1, 1) := by decide +kernel
theorem dX6_findParts_65 : decode cX6_findParts 65 = .ok (.invokevirtual 198, 3) := by decide +kernel
theorem dX6_findParts_68 : decode cX6_findParts 68 = .ok (.ifCond .ne 7, 3) := by decide +kernel
theorem dX6_findParts_71 : decode cX6_findParts 71 = .ok (.iconst 1, 1) := by decide +kernel
theorem dX6_findParts_72 : decode cX6_findParts 72 = .ok (.goto 4, 3) := by decide +kernel
theorem dX6_findParts_75 : decode cX6_findParts 75 = .ok (.iconst 0, 1) := by decide +kernel
theorem dX6_findParts_76 : decode cX6_findParts 76 = .ok (.istore 4, 2) := by decide +kernel
theorem dX6_findParts_78 : decode cX6_findParts 78 = .ok (.goto (-28), 3) := by decide +kernel
theorem dX6_findParts_81 : decode cX6_findParts 81 = .ok (.aload_n 0, 1) := by decide +kernel
theorem dX6_findParts_82 : decode cX6_findParts 82 = .ok (.iload_n 1, 1) := by decide +kernel
theorem dX6_findParts_83 : decode cX6_findParts 83 = .ok (.invokevirtual 198, 3) := by decide +kernel
theorem dX6_findParts_86 : decode cX6_findParts 86 = .ok (.istore 5, 2) := by decide +kernel
theorem dX6_findParts_88 : decode cX6_findParts 88 = .ok (.iconst 0, 1) := by decide +kernel
theorem dX6_findParts_89 : decode cX6_findParts 89 = .ok (.istore 6, 2) := by decide +kernel
theorem dX6_findParts_91 : decode cX6_findParts 91 = .ok (.iload 6, 2) := by decide +kernel
theorem dX6_findParts_93 : decode cX6_findParts 93 = .ok (.iload_n 1, 1) := by decide +kernel
theorem dX6_findParts_94 : decode cX6_findParts 94 = .ok (.if_icmp .ge 54, 3) := by decide +kernel
theorem dX6_findParts_97 : decode cX6_findParts 97 = .ok (.aload_n 0, 1) := by decide +kernel
theorem dX6_findParts_98 : decode cX6_findParts 98 = .ok (.getfield 68, 3) := by decide +kernel
theorem dX6_findParts_101 : decode cX6_findParts 101 = .ok (.bipush 6, 2) := by decide +kernel
theorem dX6_findParts_103 : decode cX6_findParts 103 = .ok (.aload_n 0, 1) := by decide +kernel
theorem dX6_findParts_104 : decode cX6_findParts 104 = .ok (.getfield 195, 3) := by decide +kernel
theorem dX6_findParts_107 : decode cX6_findParts 107 = .ok (.imul, 1) := by decide +kernel
theorem dX6_findParts_108 : decode cX6_findParts 108 = .ok (.iload 6, 2) := by decide +kernel
theorem dX6_findParts_110 : decode cX6_findParts 110 = .ok (.iadd, 1) := by decide +kernel
theorem dX6_findParts_111 : decode cX6_findParts 111 = .ok (.aload_n 0, 1) := by decide +kernel
theorem dX6_findParts_112 : decode cX6_findParts 112 = .ok (.getfield 74, 3) := by decide +kernel
theorem dX6_findParts_115 : decode cX6_findParts 115 = .ok (.iload 6, 2) := by decide +kernel
theorem dX6_findParts_117 : decode cX6_findParts 117 = .ok (.iaload, 1) := by decide +kernel
theorem dX6_findParts_118 : decode cX6_findParts 118 = .ok (.iastore, 1) := by decide +kernel
theorem dX6_findParts_119 : decode cX6_findParts 119 = .ok (.aload_n 0, 1) := by decide +kernel
theorem dX6_findParts_120 : decode cX6_findParts 120 = .ok (.getfield 65, 3) := by decide +kernel
theorem dX6_findParts_123 : decode cX6_findParts 123 = .ok (.bipush 6, 2) := by decide +kernel
theorem dX6_findParts_125 : decode cX6_findParts 125 = .ok (.iload 6, 2) := by decide +kernel
theorem dX6_findParts_127 : decode cX6_findParts 127 = .ok (.imul, 1) := by decide +kernel
theorem dX6_findParts_128 : decode cX6_findParts 128 = .ok (.aload_n 0, 1) := by decide +kernel
theorem dX6_findParts_129 : decode cX6_findParts 129 = .ok (.getfield 74, 3) := by decide +kernel
theorem dX6_findParts_132 : decode cX6_findParts 132 = .ok (.iload 6, 2) := by decide +kernel
theorem dX6_findParts_134 : decode cX6_findParts 134 = .ok (.iaload, 1) := by decide +kernel
theorem dX6_findParts_135 : decode cX6_findParts 135 = .ok (.iadd, 1) := by decide +kernel
theorem dX6_findParts_136 : decode cX6_findParts 136 = .ok (.dup2, 1) := by decide +kernel
theorem dX6_findParts_137 : decode cX6_findParts 137 = .ok (.iaload, 1) := by decide +kernel
theorem dX6_findParts_138 : decode cX6_findParts 138 = .ok (.iload 5, 2) := by decide +kernel
theorem dX6_findParts_140 : decode cX6_findParts 140 = .ok (.isub, 1) := by decide +kernel
theorem dX6_findParts_141 : decode cX6_findParts 141 = .ok (.iastore, 1) := by decide +kernel
theorem dX6_findParts_142 : decode cX6_findParts 142 = .ok (.iinc 6 1, 3) := by decide +kernel
theorem dX6_findParts_145 : decode cX6_findParts 145 = .ok (.goto (-54), 3) := by decide +kernel
theorem dX6_findParts_148 : decode cX6_findParts 148 = .ok (.aload_n 0, 1) := by decide +kernel
theorem dX6_findParts_149 : decode cX6_findParts 149 = .ok (.getfield 71, 3) := by decide +kernel
theorem dX6_findParts_152 : decode cX6_findParts 152 = .ok (.aload_n 0, 1) := by decide +kernel
theorem dX6_findParts_153 : decode cX6_findParts 153 = .ok (.getfield 195, 3) := by decide +kernel
theorem dX6_findParts_156 : decode cX6_findParts 156 = .ok (.iload 5, 2) := by decide +kernel
theorem dX6_findParts_158 : decode cX6_findParts 158 = .ok (.iastore, 1) := by decide +kernel
theorem dX6_findParts_159 : decode cX6_findParts 159 = .ok (.aload_n 0, 1) := by decide +kernel
theorem dX6_findParts_160 : decode cX6_findParts 160 = .ok (.dup, 1) := by decide +kernel
theorem dX6_findParts_161 : decode cX6_findParts 161 = .ok (.getfield 195, 3) := by decide +kernel
theorem dX6_findParts_164 : decode cX6_findParts 164 = .ok (.iconst 1, 1) := by decide +kernel
theorem dX6_findParts_165 : decode cX6_findParts 165 = .ok (.iadd, 1) := by decide +kernel
theorem dX6_findParts_166 : decode cX6_findParts 166 = .ok (.putfield 195, 3) := by decide +kernel
theorem dX6_findParts_169 : decode cX6_findParts 169 = .ok (.iload_n 3, 1) := by decide +kernel
theorem dX6_findParts_170 : decode cX6_findParts 170 = .ok (.iload 5, 2) := by decide +kernel
theorem dX6_findParts_172 : decode cX6_findParts 172 = .ok (.isub, 1) := by decide +kernel
theorem dX6_findParts_173 : decode cX6_findParts 173 = .ok (.istore_n 3, 1) := by decide +kernel
theorem dX6_findParts_174 : decode cX6_findParts 174 = .ok (.goto (-167), 3) := by decide +kernel
theorem dX6_findParts_177 : decode cX6_findParts 177 = .ok (.return_, 1) := by decide +kernel
set_option maxRecDepth 20000 in
theorem ggX6_demand_X6_isSheet : GoodIn wsX6_demand wsX6_isSheet := goodIn_r _ [18, 19, 20, 21, 17, 22] (by decide +kernel) (by decide +kernel)
set_option maxRecDepth 20000 in
theorem gX6_demand_X6_isSheet : GoodIn wsX6_demand (va_wsS RX6 95 yX6_isSheet wsX6_isSheet) := goodIn_app (goodIn_of _ (by decide +kernel)) ggX6_demand_X6_isSheet
set_option maxRecDepth 20000 in
theorem ggX6_demand_X6_in : GoodIn wsX6_demand wsX6_in := goodIn_r _ [22] (by decide +kernel) (by decide +kernel)
set_option maxRecDepth 20000 in
theorem gX6_demand_X6_in : GoodIn wsX6_demand (va_wsS RX6 91 yX6_in wsX6_in) := goodIn_app (goodIn_of _ (by decide +kernel)) ggX6_demand_X6_in
set_option maxRecDepth 20000 in
theorem ggX6_demand_X6_found : GoodIn wsX6_demand wsX6_found := goodIn_r _ [26, 10, 27, 42, 43, 44, 45, 46, 47, 48, 49, 50, 51, 52, 53, 54, 55, 56, 57, 58, 59, 60, 61, 62, 63, 64, 65, 66, 67, 68, 69, 70, 71] (by decide +kernel) (by decide +kernel)
set_option maxRecDepth 20000 in
theorem gX6_demand_X6_found : GoodIn wsX6_demand (wsV RX6 102 RX6 yX6_found wsX6_found) := goodIn_app (goodIn_of _ (by decide +kernel)) ggX6_demand_X6_found
set_option maxRecDepth 20000 in
theorem ggX6_demand_X6_findParts : GoodIn wsX6_demand wsX6_findParts := goodIn_r _ [31, 12, 32, 14, 9, 13, 33, 34, 35, 17, 36, 37, 38, 39, 40, 41, 42, 43, 44, 45, 46, 47, 48, 49, 50, 51, 52, 53, 54, 55, 56, 57, 58, 59, 60, 61, 62, 63, 64, 65, 66, 67, 68, 69, 70, 71] (by decide +kernel) (by decide +kernel)
set_option maxRecDepth 20000 in
theorem gX6_demand_X6_findParts : GoodIn wsX6_demand (wsV RX6 208 RX6 yX6_findParts wsX6_findParts) := goodIn_app (goodIn_of _ (by decide +kernel)) ggX6_demand_X6_findParts
theorem dX6_demand_0 : decode cX6_demand 0 = .ok (.aload_n 0, 1) := by decide +kernel
theorem dX6_demand_1 : decode cX6_demand 1 = .ok (.iconst 0, 1) := by decide +kernel
theorem dX6_demand_2 : decode cX6_demand 2 = .ok (.putfield 81, 3) := by decide +kernel
theorem dX6_demand_5 : decode cX6_demand 5 = .ok (.iload_n 1, 1) := by decide +kernel
theorem dX6_demand_6 : decode cX6_demand 6 = .ok (.invokestatic 95, 3) := by decide +kernel
theorem dX6_demand_9 : decode cX6_demand 9 = .ok (.ifCond .eq 31, 3) := by decide +kernel
theorem dX6_demand_12 : decode cX6_demand 12 = .ok (.iload_n 3, 1) := by decide +kernel
theorem dX6_demand_13 : decode cX6_demand 13 = .ok (.i2l, 1) := by decide +kernel
theorem dX6_demand_14 : decode cX6_demand 14 = .ok (.lconst 1, 1) := by decide +kernel
theorem dX6_demand_15 : decode cX6_demand 15 = .ok (.ldc2_w 116, 3) := by decide +kernel
theorem dX6_demand_18 : decode cX6_demand 18 = .ok (.invokestatic 91, 3) := by decide +kernel
theorem dX6_demand_21 : decode cX6_demand 21 = .ok (.ifCond .eq 19, 3) := by decide +kernel
theorem dX6_demand_24 : decode cX6_demand 24 = .ok (.iload 5, 2) := by decide +kernel
theorem dX6_demand_26 : decode cX6_demand 26 = .ok (.i2l, 1) := by decide +kernel
theorem dX6_demand_27 : decode cX6_demand 27 = .ok (.ldc2_w 204, 3) := by decide +kernel
theorem dX6_demand_30 : decode cX6_demand 30 = .ok (.iload_n 3, 1) := by decide +kernel
theorem dX6_demand_31 : decode cX6_demand 31 = .ok (.iconst 1, 1) := by decide +kernel
theorem dX6_demand_32 : decode cX6_demand 32 = .ok (.isub, 1) := by decide +kernel
theorem dX6_demand_33 : decode cX6_demand 33 = .ok (.i2l, 1) := by decide +kernel
theorem dX6_demand_34 : decode cX6_demand 34 = .ok (.invokestatic 91, 3) := by decide +kernel
theorem dX6_demand_37 : decode cX6_demand 37 = .ok (.ifCond .ne 6, 3) := by decide +kernel
theorem dX6_demand_40 : decode cX6_demand 40 = .ok (.ldc 101, 2) := by decide +kernel
theorem dX6_demand_42 : decode cX6_demand 42 = .ok (.ireturn, 1) := by decide +kernel
theorem dX6_demand_43 : decode cX6_demand 43 = .ok (.aload_n 0, 1) := by decide +kernel
theorem dX6_demand_44 : decode cX6_demand 44 = .ok (.getfield 7, 3) := by decide +kernel
theorem dX6_demand_47 : decode cX6_demand 47 = .ok (.iload_n 1, 1) := by decide +kernel
theorem dX6_demand_48 : decode cX6_demand 48 = .ok (.iaload, 1) := by decide +kernel
theorem dX6_demand_49 : decode cX6_demand 49 = .ok (.ifCond .ge 9, 3) := by decide +kernel
theorem dX6_demand_52 : decode cX6_demand 52 = .ok (.aload_n 0, 1) := by decide +kernel
theorem dX6_demand_53 : decode cX6_demand 53 = .ok (.iconst 1, 1) := by decide +kernel
theorem dX6_demand_54 : decode cX6_demand 54 = .ok (.invokevirtual 102, 3) := by decide +kernel
theorem dX6_demand_57 : decode cX6_demand 57 = .ok (.ireturn, 1) := by decide +kernel
theorem dX6_demand_58 : decode cX6_demand 58 = .ok (.iload_n 2, 1) := by decide +kernel
theorem dX6_demand_59 : decode cX6_demand 59 = .ok (.ifCond .lt 21, 3) := by decide +kernel
theorem dX6_demand_62 : decode cX6_demand 62 = .ok (.iload_n 2, 1) := by decide +kernel
theorem dX6_demand_63 : decode cX6_demand 63 = .ok (.i2l, 1) := by decide +kernel
theorem dX6_demand_64 : decode cX6_demand 64 = .ok (.iload_n 3, 1) := by decide +kernel
theorem dX6_demand_65 : decode cX6_demand 65 = .ok (.iload_n 3, 1) := by decide +kernel
theorem dX6_demand_66 : decode cX6_demand 66 = .ok (.imul, 1) := by decide +kernel
theorem dX6_demand_67 : decode cX6_demand 67 = .ok (.i2l, 1) := by decide +kernel
theorem dX6_demand_68 : decode cX6_demand 68 = .ok (.ladd, 1) := by decide +kernel
theorem dX6_demand_69 : decode cX6_demand 69 = .ok (.aload_n 0, 1) := by decide +kernel
theorem dX6_demand_70 : decode cX6_demand 70 = .ok (.getfield 13, 3) := by decide +kernel
theorem dX6_demand_73 : decode cX6_demand 73 = .ok (.iload_n 1, 1) := by decide +kernel
theorem dX6_demand_74 : decode cX6_demand 74 = .ok (.iaload, 1) := by decide +kernel
theorem dX6_demand_75 : decode cX6_demand 75 = .ok (.i2l, 1) := by decide +kernel
theorem dX6_demand_76 : decode cX6_demand 76 = .ok (.lcmp, 1) := by decide +kernel
theorem dX6_demand_77 : decode cX6_demand 77 = .ok (.ifCond .le 9, 3) := by decide +kernel
theorem dX6_demand_80 : decode cX6_demand 80 = .ok (.aload_n 0, 1) := by decide +kernel
theorem dX6_demand_81 : decode cX6_demand 81 = .ok (.iconst 2, 1) := by decide +kernel
theorem dX6_demand_82 : decode cX6_demand 82 = .ok (.invokevirtual 102, 3) := by decide +kernel
theorem dX6_demand_85 : decode cX6_demand 85 = .ok (.ireturn, 1) := by decide +kernel
theorem dX6_demand_86 : decode cX6_demand 86 = .ok (.iconst 0, 1) := by decide +kernel
theorem dX6_demand_87 : decode cX6_demand 87 = .ok (.istore 6, 2) := by decide +kernel
theorem dX6_demand_89 : decode cX6_demand 89 = .ok (.iconst 1, 1) := by decide +kernel
theorem dX6_demand_90 : decode cX6_demand 90 = .ok (.istore 7, 2) := by decide +kernel
theorem dX6_demand_92 : decode cX6_demand 92 = .ok (.iconst 0, 1) := by decide +kernel
theorem dX6_demand_93 : decode cX6_demand 93 = .ok (.istore 8, 2) := by decide +kernel
theorem dX6_demand_95 : decode cX6_demand 95 = .ok (.iload 8, 2) := by decide +kernel
theorem dX6_demand_97 : decode cX6_demand 97 = .ok (.iload_n 3, 1) := by decide +kernel
theorem dX6_demand_98 : decode cX6_demand 98 = .ok (.if_icmp .ge 197, 3) := by decide +kernel
theorem dX6_demand_101 : decode cX6_demand 101 = .ok (.iconst 0, 1) := by decide +kernel
theorem dX6_demand_102 : decode cX6_demand 102 = .ok (.istore 9, 2) := by decide +kernel
theorem dX6_demand_104 : decode cX6_demand 104 = .ok (.iconst 0, 1) := by decide +kernel
theorem dX6_demand_105 : decode cX6_demand 105 = .ok (.istore 10, 2) := by decide +kernel
theorem dX6_demand_107 : decode cX6_demand 107 = .ok (.iconst 0, 1) := by decide +kernel
theorem dX6_demand_108 : decode cX6_demand 108 = .ok (.istore 11, 2) := by decide +kernel
theorem dX6_demand_110 : decode cX6_demand 110 = .ok (.iload 11, 2) := by decide +kernel
theorem dX6_demand_112 : decode cX6_demand 112 = .ok (.iload_n 3, 1) := by decide +kernel
theorem dX6_demand_113 : decode cX6_demand 113 = .ok (.if_icmp .ge 136, 3) := by decide +kernel
theorem dX6_demand_116 : decode cX6_demand 116 = .ok (.aload_n 0, 1) := by decide +kernel
theorem dX6_demand_117 : decode cX6_demand 117 = .ok (.getfield 16, 3) := by decide +kernel
theorem dX6_demand_120 : decode cX6_demand 120 = .ok (.bipush 64, 2) := by decide +kernel
theorem dX6_demand_122 : decode cX6_demand 122 = .ok (.iload_n 1, 1) := by decide +kernel
theorem dX6_demand_123 : decode cX6_demand 123 = .ok (.imul, 1) := by decide +kernel
theorem dX6_demand_124 : decode cX6_demand 124 = .ok (.iload_n 2, 1) := by decide +kernel
theorem dX6_demand_125 : decode cX6_demand 125 = .ok (.iadd, 1) := by decide +kernel
theorem dX6_demand_126 : decode cX6_demand 126 = .ok (.iload_n 3, 1) := by decide +kernel
theorem dX6_demand_127 : decode cX6_demand 127 = .ok (.iload 8, 2) := by decide +kernel
theorem dX6_demand_129 : decode cX6_demand 129 = .ok (.imul, 1) := by decide +kernel
theorem dX6_demand_130 : decode cX6_demand 130 = .ok (.iadd, 1) := by decide +kernel
theorem dX6_demand_131 : decode cX6_demand 131 = .ok (.iload 11, 2) := by decide +kernel
theorem dX6_demand_133 : decode cX6_demand 133 = .ok (.iadd, 1) := by decide +kernel
theorem dX6_demand_134 : decode cX6_demand 134 = .ok (.iaload, 1) := by decide +kernel
theorem dX6_demand_135 : decode cX6_demand 135 = .ok (.istore 12, 2) := by decide +kernel
theorem dX6_demand_137 : decode cX6_demand 137 = .ok (.aload_n 0, 1) := by decide +kernel
theorem dX6_demand_138 : decode cX6_demand 138 = .ok (.getfield 16, 3) := by decide +kernel
theorem dX6_demand_141 : decode cX6_demand 141 = .ok (.bipush 64, 2) := by decide +kernel
theorem dX6_demand_143 : decode cX6_demand 143 = .ok (.iload_n 1, 1) := by decide +kernel
theorem dX6_demand_144 : decode cX6_demand 144 = .ok (.imul, 1) := by decide +kernel
theorem dX6_demand_145 : decode cX6_demand 145 = .ok (.iload_n 2, 1) := by decide +kernel
theorem dX6_demand_146 : decode cX6_demand 146 = .ok (.iadd, 1) := by decide +kernel
theorem dX6_demand_147 : decode cX6_demand 147 = .ok (.iload_n 3, 1) := by decide +kernel
theorem dX6_demand_148 : decode cX6_demand 148 = .ok (.iload 11, 2) := by decide +kernel
theorem dX6_demand_150 : decode cX6_demand 150 = .ok (.imul, 1) := by decide +kernel
theorem dX6_demand_151 : decode cX6_demand 151 = .ok (.iadd, 1) := by decide +kernel
theorem dX6_demand_152 : decode cX6_demand 152 = .ok (.iload 8, 2) := by decide +kernel
theorem dX6_demand_154 : decode cX6_demand 154 = .ok (.iadd, 1) := by decide +kernel
theorem dX6_demand_155 : decode cX6_demand 155 = .ok (.iaload, 1) := by decide +kernel
theorem dX6_demand_156 : decode cX6_demand 156 = .ok (.istore 13, 2) := by decide +kernel
theorem dX6_demand_158 : decode cX6_demand 158 = .ok (.iload 7, 2) := by decide +kernel
theorem dX6_demand_160 : decode cX6_demand 160 = .ok (.ifCond .eq 33, 3) := by decide +kernel
theorem dX6_demand_163 : decode cX6_demand 163 = .ok (.iload 12, 2) := by decide +kernel
theorem dX6_demand_165 : decode cX6_demand 165 = .ok (.i2l, 1) := by decide +kernel
theorem dX6_demand_166 : decode cX6_demand 166 = .ok (.lconst 0, 1) := by decide +kernel
theorem dX6_demand_167 : decode cX6_demand 167 = .ok (.ldc2_w 206, 3) := by decide +kernel
theorem dX6_demand_170 : decode cX6_demand 170 = .ok (.invokestatic 91, 3) := by decide +kernel
theorem dX6_demand_173 : decode cX6_demand 173 = .ok (.ifCond .eq 20, 3) := by decide +kernel
theorem dX6_demand_176 : decode cX6_demand 176 = .ok (.iload 13, 2) := by decide +kernel
theorem dX6_demand_178 : decode cX6_demand 178 = .ok (.i2l, 1) := by decide +kernel
theorem dX6_demand_179 : decode cX6_demand 179 = .ok (.lconst 0, 1) := by decide +kernel
theorem dX6_demand_180 : decode cX6_demand 180 = .ok (.ldc2_w 206, 3) := by decide +kernel
theorem dX6_demand_183 : decode cX6_demand 183 = .ok (.invokestatic 91, 3) := by decide +kernel
theorem dX6_demand_186 : decode cX6_demand 186 = .ok (.ifCond .eq 7, 3) := by decide +kernel
theorem dX6_demand_189 : decode cX6_demand 189 = .ok (.iconst 1, 1) := by decide +kernel
theorem dX6_demand_190 : decode cX6_demand 190 = .ok (.goto 4, 3) := by decide +kernel
theorem dX6_demand_193 : decode cX6_demand 193 = .ok (.iconst 0, 1) := by decide +kernel
theorem dX6_demand_194 : decode cX6_demand 194 = .ok (.istore 7, 2) := by decide +kernel
theorem dX6_demand_196 : decode cX6_demand 196 = .ok (.iload 9, 2) := by decide +kernel
theorem dX6_demand_198 : decode cX6_demand 198 = .ok (.iload 7, 2) := by decide +kernel
theorem dX6_demand_200 : decode cX6_demand 200 = .ok (.ifCond .eq 8, 3) := by decide +kernel
theorem dX6_demand_203 : decode cX6_demand 203 = .ok (.iload 12, 2) := by decide +kernel
theorem dX6_demand_205 : decode cX6_demand 205 = .ok (.goto 4, 3) := by decide +kernel
theorem dX6_demand_208 : decode cX6_demand 208 = .ok (.iconst 0, 1) := by decide +kernel
theorem dX6_demand_209 : decode cX6_demand 209 = .ok (.iadd, 1) := by decide +kernel
theorem dX6_demand_210 : decode cX6_demand 210 = .ok (.istore 9, 2) := by decide +kernel
theorem dX6_demand_212 : decode cX6_demand 212 = .ok (.iload 10, 2) := by decide +kernel
theorem dX6_demand_214 : decode cX6_demand 214 = .ok (.iload 7, 2) := by decide +kernel
theorem dX6_demand_216 : decode cX6_demand 216 = .ok (.ifCond .eq 8, 3) := by decide +kernel
theorem dX6_demand_219 : decode cX6_demand 219 = .ok (.iload 13, 2) := by decide +kernel
theorem dX6_demand_221 : decode cX6_demand 221 = .ok (.goto 4, 3) := by decide +kernel
theorem dX6_demand_224 : decode cX6_demand 224 = .ok (.iconst 0, 1) := by decide +kernel
theorem dX6_demand_225 : decode cX6_demand 225 = .ok (.iadd, 1) := by decide +kernel
theorem dX6_demand_226 : decode cX6_demand 226 = .ok (.istore 10, 2) := by decide +kernel
theorem dX6_demand_228 : decode cX6_demand 228 = .ok (.aload_n 0, 1) := by decide +kernel
theorem dX6_demand_229 : decode cX6_demand 229 = .ok (.getfield 65, 3) := by decide +kernel
theorem dX6_demand_232 : decode cX6_demand 232 = .ok (.bipush 6, 2) := by decide +kernel
theorem dX6_demand_234 : decode cX6_demand 234 = .ok (.iload 8, 2) := by decide +kernel
theorem dX6_demand_236 : decode cX6_demand 236 = .ok (.imul, 1) := by decide +kernel
theorem dX6_demand_237 : decode cX6_demand 237 = .ok (.iload 11, 2) := by decide +kernel
theorem dX6_demand_239 : decode cX6_demand 239 = .ok (.iadd, 1) := by decide +kernel
theorem dX6_demand_240 : decode cX6_demand 240 = .ok (.iload 12, 2) := by decide +kernel
theorem dX6_demand_242 : decode cX6_demand 242 = .ok (.iastore, 1) := by decide +kernel
theorem dX6_demand_243 : decode cX6_demand 243 = .ok (.iinc 11 1, 3) := by decide +kernel
theorem dX6_demand_246 : decode cX6_demand 246 = .ok (.goto (-136), 3) := by decide +kernel
theorem dX6_demand_249 : decode cX6_demand 249 = .ok (.iload 8, 2) := by decide +kernel
theorem dX6_demand_251 : decode cX6_demand 251 = .ok (.ifCond .ne 8, 3) := by decide +kernel
theorem dX6_demand_254 : decode cX6_demand 254 = .ok (.iload 9, 2) := by decide +kernel
theorem dX6_demand_256 : decode cX6_demand 256 = .ok (.goto 5, 3) := by decide +kernel
theorem dX6_demand_259 : decode cX6_demand 259 = .ok (.iload 6, 2) := by decide +kernel
theorem dX6_demand_261 : decode cX6_demand 261 = .ok (.istore 6, 2) := by decide +kernel
theorem dX6_demand_263 : decode cX6_demand 263 = .ok (.iload 7, 2) := by decide +kernel
theorem dX6_demand_265 : decode cX6_demand 265 = .ok (.ifCond .eq 21, 3) := by decide +kernel
theorem dX6_demand_268 : decode cX6_demand 268 = .ok (.iload 9, 2) := by decide +kernel
theorem dX6_demand_270 : decode cX6_demand 270 = .ok (.iload 6, 2) := by decide +kernel
theorem dX6_demand_272 : decode cX6_demand 272 = .ok (.if_icmp .ne 14, 3) := by decide +kernel
theorem dX6_demand_275 : decode cX6_demand 275 = .ok (.iload 10, 2) := by decide +kernel
theorem dX6_demand_277 : decode cX6_demand 277 = .ok (.iload 6, 2) := by decide +kernel
theorem dX6_demand_279 : decode cX6_demand 279 = .ok (.if_icmp .ne 7, 3) := by decide +kernel
theorem dX6_demand_282 : decode cX6_demand 282 = .ok (.iconst 1, 1) := by decide +kernel
theorem dX6_demand_283 : decode cX6_demand 283 = .ok (.goto 4, 3) := by decide +kernel
theorem dX6_demand_286 : decode cX6_demand 286 = .ok (.iconst 0, 1) := by decide +kernel
theorem dX6_demand_287 : decode cX6_demand 287 = .ok (.istore 7, 2) := by decide +kernel
theorem dX6_demand_289 : decode cX6_demand 289 = .ok (.iinc 8 1, 3) := by decide +kernel
theorem dX6_demand_292 : decode cX6_demand 292 = .ok (.goto (-197), 3) := by decide +kernel
theorem dX6_demand_295 : decode cX6_demand 295 = .ok (.iload 7, 2) := by decide +kernel
theorem dX6_demand_297 : decode cX6_demand 297 = .ok (.ifCond .ne 6, 3) := by decide +kernel
theorem dX6_demand_300 : decode cX6_demand 300 = .ok (.ldc 101, 2) := by decide +kernel
theorem dX6_demand_302 : decode cX6_demand 302 = .ok (.ireturn, 1) := by decide +kernel
theorem dX6_demand_303 : decode cX6_demand 303 = .ok (.aload_n 0, 1) := by decide +kernel
theorem dX6_demand_304 : decode cX6_demand 304 = .ok (.iconst 0, 1) := by decide +kernel
theorem dX6_demand_305 : decode cX6_demand 305 = .ok (.putfield 85, 3) := by decide +kernel
theorem dX6_demand_308 : decode cX6_demand 308 = .ok (.aload_n 0, 1) := by decide +kernel
theorem dX6_demand_309 : decode cX6_demand 309 = .ok (.iload_n 3, 1) := by decide +kernel
theorem dX6_demand_310 : decode cX6_demand 310 = .ok (.iload 6, 2) := by decide +kernel
theorem dX6_demand_312 : decode cX6_demand 312 = .ok (.invokevirtual 208, 3) := by decide +kernel
theorem dX6_demand_315 : decode cX6_demand 315 = .ok (.iload 4, 2) := by decide +kernel
theorem dX6_demand_317 : decode cX6_demand 317 = .ok (.ldc 118, 2) := by decide +kernel
theorem dX6_demand_319 : decode cX6_demand 319 = .ok (.if_icmp .ne 10, 3) := by decide +kernel
theorem dX6_demand_322 : decode cX6_demand 322 = .ok (.aload_n 0, 1) := by decide +kernel
theorem dX6_demand_323 : decode cX6_demand 323 = .ok (.getfield 195, 3) := by decide +kernel
theorem dX6_demand_326 : decode cX6_demand 326 = .ok (.goto 53, 3) := by decide +kernel
theorem dX6_demand_329 : decode cX6_demand 329 = .ok (.iload 4, 2) := by decide +kernel
theorem dX6_demand_331 : decode cX6_demand 331 = .ok (.i2l, 1) := by decide +kernel
theorem dX6_demand_332 : decode cX6_demand 332 = .ok (.lconst 0, 1) := by decide +kernel
theorem dX6_demand_333 : decode cX6_demand 333 = .ok (.aload_n 0, 1) := by decide +kernel
theorem dX6_demand_334 : decode cX6_demand 334 = .ok (.getfield 195, 3) := by decide +kernel
theorem dX6_demand_337 : decode cX6_demand 337 = .ok (.iconst 1, 1) := by decide +kernel
theorem dX6_demand_338 : decode cX6_demand 338 = .ok (.isub, 1) := by decide +kernel
theorem dX6_demand_339 : decode cX6_demand 339 = .ok (.i2l, 1) := by decide +kernel
theorem dX6_demand_340 : decode cX6_demand 340 = .ok (.invokestatic 91, 3) := by decide +kernel
theorem dX6_demand_343 : decode cX6_demand 343 = .ok (.ifCond .ne 8, 3) := by decide +kernel
theorem dX6_demand_346 : decode cX6_demand 346 = .ok (.ldc 118, 2) := by decide +kernel
theorem dX6_demand_348 : decode cX6_demand 348 = .ok (.goto 31, 3) := by decide +kernel
theorem dX6_demand_351 : decode cX6_demand 351 = .ok (.iload 5, 2) := by decide +kernel
theorem dX6_demand_353 : decode cX6_demand 353 = .ok (.ifCond .ge 13, 3) := by decide +kernel
theorem dX6_demand_356 : decode cX6_demand 356 = .ok (.aload_n 0, 1) := by decide +kernel
theorem dX6_demand_357 : decode cX6_demand 357 = .ok (.getfield 71, 3) := by decide +kernel
theorem dX6_demand_360 : decode cX6_demand 360 = .ok (.iload 4, 2) := by decide +kernel
theorem dX6_demand_362 : decode cX6_demand 362 = .ok (.iaload, 1) := by decide +kernel
theorem dX6_demand_363 : decode cX6_demand 363 = .ok (.goto 16, 3) := by decide +kernel
theorem dX6_demand_366 : decode cX6_demand 366 = .ok (.aload_n 0, 1) := by decide +kernel
theorem dX6_demand_367 : decode cX6_demand 367 = .ok (.getfield 68, 3) := by decide +kernel
theorem dX6_demand_370 : decode cX6_demand 370 = .ok (.bipush 6, 2) := by decide +kernel
theorem dX6_demand_372 : decode cX6_demand 372 = .ok (.iload 4, 2) := by decide +kernel
theorem dX6_demand_374 : decode cX6_demand 374 = .ok (.imul, 1) := by decide +kernel
theorem dX6_demand_375 : decode cX6_demand 375 = .ok (.iload 5, 2) := by decide +kernel
theorem dX6_demand_377 : decode cX6_demand 377 = .ok (.iadd, 1) := by decide +kernel
theorem dX6_demand_378 : decode cX6_demand 378 = .ok (.iaload, 1) := by decide +kernel
theorem dX6_demand_379 : decode cX6_demand 379 = .ok (.ireturn, 1) := by decide +kernel
set_option maxRecDepth 20000 in
theorem ggX6_cross_X6_in : GoodIn wsX6_cross wsX6_in := goodIn_r _ [9] (by decide +kernel) (by decide +kernel)
set_option maxRecDepth 20000 in
theorem gX6_cross_X6_in : GoodIn wsX6_cross (va_wsS RX6 91 yX6_in wsX6_in) := goodIn_app (goodIn_of _ (by decide +kernel)) ggX6_cross_X6_in
theorem dX6_cross_0 : decode cX6_cross 0 = .ok (.aload_n 0, 1) := by decide +kernel
theorem dX6_cross_1 : decode cX6_cross 1 = .ok (.iconst 0, 1) := by decide +kernel
theorem dX6_cross_2 : decode cX6_cross 2 = .ok (.putfield 81, 3) := by decide +kernel
theorem dX6_cross_5 : decode cX6_cross 5 = .ok (.iload_n 1, 1) := by decide +kernel
theorem dX6_cross_6 : decode cX6_cross 6 = .ok (.i2l, 1) := by decide +kernel
theorem dX6_cross_7 : decode cX6_cross 7 = .ok (.lconst 1, 1) := by decide +kernel
theorem dX6_cross_8 : decode cX6_cross 8 = .ok (.ldc2_w 212, 3) := by decide +kernel
theorem dX6_cross_11 : decode cX6_cross 11 = .ok (.invokestatic 91, 3) := by decide +kernel
theorem dX6_cross_14 : decode cX6_cross 14 = .ok (.ifCond .eq 25, 3) := by decide +kernel
theorem dX6_cross_17 : decode cX6_cross 17 = .ok (.iload_n 2, 1) := by decide +kernel
theorem dX6_cross_18 : decode cX6_cross 18 = .ok (.i2l, 1) := by decide +kernel
theorem dX6_cross_19 : decode cX6_cross 19 = .ok (.lconst 0, 1) := by decide +kernel
theorem dX6_cross_20 : decode cX6_cross 20 = .ok (.ldc2_w 99, 3) := by decide +kernel
theorem dX6_cross_23 : decode cX6_cross 23 = .ok (.invokestatic 91, 3) := by decide +kernel
theorem dX6_cross_26 : decode cX6_cross 26 = .ok (.ifCond .eq 13, 3) := by decide +kernel
theorem dX6_cross_29 : decode cX6_cross 29 = .ok (.iload_n 3, 1) := by decide +kernel
theorem dX6_cross_30 : decode cX6_cross 30 = .ok (.i2l, 1) := by decide +kernel
theorem dX6_cross_31 : decode cX6_cross 31 = .ok (.lconst 0, 1) := by decide +kernel
theorem dX6_cross_32 : decode cX6_cross 32 = .ok (.lconst 1, 1) := by decide +kernel
theorem dX6_cross_33 : decode cX6_cross 33 = .ok (.invokestatic 91, 3) := by decide +kernel
theorem dX6_cross_36 : decode cX6_cross 36 = .ok (.ifCond .ne 6, 3) := by decide +kernel
theorem dX6_cross_39 : decode cX6_cross 39 = .ok (.ldc 101, 2) := by decide +kernel
theorem dX6_cross_41 : decode cX6_cross 41 = .ok (.ireturn, 1) := by decide +kernel
theorem dX6_cross_42 : decode cX6_cross 42 = .ok (.iconst 0, 1) := by decide +kernel
theorem dX6_cross_43 : decode cX6_cross 43 = .ok (.istore 4, 2) := by decide +kernel
theorem dX6_cross_45 : decode cX6_cross 45 = .ok (.iload 4, 2) := by decide +kernel
theorem dX6_cross_47 : decode cX6_cross 47 = .ok (.iload_n 2, 1) := by decide +kernel
theorem dX6_cross_48 : decode cX6_cross 48 = .ok (.if_icmp .gt 148, 3) := by decide +kernel
theorem dX6_cross_51 : decode cX6_cross 51 = .ok (.iconst 1, 1) := by decide +kernel
theorem dX6_cross_52 : decode cX6_cross 52 = .ok (.istore 5, 2) := by decide +kernel
theorem dX6_cross_54 : decode cX6_cross 54 = .ok (.iload 5, 2) := by decide +kernel
theorem dX6_cross_56 : decode cX6_cross 56 = .ok (.bipush 64, 2) := by decide +kernel
theorem dX6_cross_58 : decode cX6_cross 58 = .ok (.if_icmp .gt 132, 3) := by decide +kernel
theorem dX6_cross_61 : decode cX6_cross 61 = .ok (.iload 5, 2) := by decide +kernel
theorem dX6_cross_63 : decode cX6_cross 63 = .ok (.i2l, 1) := by decide +kernel
theorem dX6_cross_64 : decode cX6_cross 64 = .ok (.iload 5, 2) := by decide +kernel
theorem dX6_cross_66 : decode cX6_cross 66 = .ok (.i2l, 1) := by decide +kernel
theorem dX6_cross_67 : decode cX6_cross 67 = .ok (.lmul, 1) := by decide +kernel
theorem dX6_cross_68 : decode cX6_cross 68 = .ok (.lstore 6, 2) := by decide +kernel
theorem dX6_cross_70 : decode cX6_cross 70 = .ok (.iconst 2, 1) := by decide +kernel
theorem dX6_cross_71 : decode cX6_cross 71 = .ok (.istore 8, 2) := by decide +kernel
theorem dX6_cross_73 : decode cX6_cross 73 = .ok (.iload 8, 2) := by decide +kernel
theorem dX6_cross_75 : decode cX6_cross 75 = .ok (.iload 5, 2) := by decide +kernel
theorem dX6_cross_77 : decode cX6_cross 77 = .ok (.if_icmp .ge 92, 3) := by decide +kernel
theorem dX6_cross_80 : decode cX6_cross 80 = .ok (.iload 4, 2) := by decide +kernel
theorem dX6_cross_82 : decode cX6_cross 82 = .ok (.ifCond .le 87, 3) := by decide +kernel
theorem dX6_cross_85 : decode cX6_cross 85 = .ok (.iload 5, 2) := by decide +kernel
theorem dX6_cross_87 : decode cX6_cross 87 = .ok (.iload 8, 2) := by decide +kernel
theorem dX6_cross_89 : decode cX6_cross 89 = .ok (.irem, 1) := by decide +kernel
theorem dX6_cross_90 : decode cX6_cross 90 = .ok (.ifCond .ne 73, 3) := by decide +kernel
theorem dX6_cross_93 : decode cX6_cross 93 = .ok (.iload_n 3, 1) := by decide +kernel
theorem dX6_cross_94 : decode cX6_cross 94 = .ok (.ifCond .ne 8, 3) := by decide +kernel
theorem dX6_cross_97 : decode cX6_cross 97 = .ok (.iload 8, 2) := by decide +kernel
theorem dX6_cross_99 : decode cX6_cross 99 = .ok (.goto 9, 3) := by decide +kernel
theorem dX6_cross_102 : decode cX6_cross 102 = .ok (.iconst 2, 1) := by decide +kernel
theorem dX6_cross_103 : decode cX6_cross 103 = .ok (.iload 8, 2) := by decide +kernel
theorem dX6_cross_105 : decode cX6_cross 105 = .ok (.imul, 1) := by decide +kernel
theorem dX6_cross_106 : decode cX6_cross 106 = .ok (.iconst 1, 1) := by decide +kernel
theorem dX6_cross_107 : decode cX6_cross 107 = .ok (.isub, 1) := by decide +kernel
theorem dX6_cross_108 : decode cX6_cross 108 = .ok (.istore 9, 2) := by decide +kernel
theorem dX6_cross_110 : decode cX6_cross 110 = .ok (.ldc2_w 99, 3) := by decide +kernel
theorem dX6_cross_113 : decode cX6_cross 113 = .ok (.iload 5, 2) := by decide +kernel
theorem dX6_cross_115 : decode cX6_cross 115 = .ok (.i2l, 1) := by decide +kernel
theorem dX6_cross_116 : decode cX6_cross 116 = .ok (.lmul, 1) := by decide +kernel
theorem dX6_cross_117 : decode cX6_cross 117 = .ok (.iload 9, 2) := by decide +kernel
theorem dX6_cross_119 : decode cX6_cross 119 = .ok (.i2l, 1) := by decide +kernel
theorem dX6_cross_120 : decode cX6_cross 120 = .ok (.lmul, 1) := by decide +kernel
theorem dX6_cross_121 : decode cX6_cross 121 = .ok (.iload 9, 2) := by decide +kernel
theorem dX6_cross_123 : decode cX6_cross 123 = .ok (.i2l, 1) := by decide +kernel
theorem dX6_cross_124 : decode cX6_cross 124 = .ok (.aload_n 0, 1) := by decide +kernel
theorem dX6_cross_125 : decode cX6_cross 125 = .ok (.getfield 77, 3) := by decide +kernel
theorem dX6_cross_128 : decode cX6_cross 128 = .ok (.bipush 65, 2) := by decide +kernel
theorem dX6_cross_130 : decode cX6_cross 130 = .ok (.iload 4, 2) := by decide +kernel
theorem dX6_cross_132 : decode cX6_cross 132 = .ok (.iconst 1, 1) := by decide +kernel
theorem dX6_cross_133 : decode cX6_cross 133 = .ok (.isub, 1) := by decide +kernel
theorem dX6_cross_134 : decode cX6_cross 134 = .ok (.imul, 1) := by decide +kernel
theorem dX6_cross_135 : decode cX6_cross 135 = .ok (.iload 5, 2) := by decide +kernel
theorem dX6_cross_137 : decode cX6_cross 137 = .ok (.iload 8, 2) := by decide +kernel
theorem dX6_cross_139 : decode cX6_cross 139 = .ok (.idiv, 1) := by decide +kernel
theorem dX6_cross_140 : decode cX6_cross 140 = .ok (.iadd, 1) := by decide +kernel
theorem dX6_cross_141 : decode cX6_cross 141 = .ok (.laload, 1) := by decide +kernel
theorem dX6_cross_142 : decode cX6_cross 142 = .ok (.lmul, 1) := by decide +kernel
theorem dX6_cross_143 : decode cX6_cross 143 = .ok (.ladd, 1) := by decide +kernel
theorem dX6_cross_144 : decode cX6_cross 144 = .ok (.lstore 10, 2) := by decide +kernel
theorem dX6_cross_146 : decode cX6_cross 146 = .ok (.lload 10, 2) := by decide +kernel
theorem dX6_cross_148 : decode cX6_cross 148 = .ok (.lload 6, 2) := by decide +kernel
theorem dX6_cross_150 : decode cX6_cross 150 = .ok (.lcmp, 1) := by decide +kernel
theorem dX6_cross_151 : decode cX6_cross 151 = .ok (.ifCond .ge 8, 3) := by decide +kernel
theorem dX6_cross_154 : decode cX6_cross 154 = .ok (.lload 10, 2) := by decide +kernel
theorem dX6_cross_156 : decode cX6_cross 156 = .ok (.goto 5, 3) := by decide +kernel
theorem dX6_cross_159 : decode cX6_cross 159 = .ok (.lload 6, 2) := by decide +kernel
theorem dX6_cross_161 : decode cX6_cross 161 = .ok (.lstore 6, 2) := by decide +kernel
theorem dX6_cross_163 : decode cX6_cross 163 = .ok (.iinc 8 1, 3) := by decide +kernel
theorem dX6_cross_166 : decode cX6_cross 166 = .ok (.goto (-93), 3) := by decide +kernel
theorem dX6_cross_169 : decode cX6_cross 169 = .ok (.aload_n 0, 1) := by decide +kernel
theorem dX6_cross_170 : decode cX6_cross 170 = .ok (.getfield 77, 3) := by decide +kernel
theorem dX6_cross_173 : decode cX6_cross 173 = .ok (.bipush 65, 2) := by decide +kernel
theorem dX6_cross_175 : decode cX6_cross 175 = .ok (.iload 4, 2) := by decide +kernel
theorem dX6_cross_177 : decode cX6_cross 177 = .ok (.imul, 1) := by decide +kernel
theorem dX6_cross_178 : decode cX6_cross 178 = .ok (.iload 5, 2) := by decide +kernel
theorem dX6_cross_180 : decode cX6_cross 180 = .ok (.iadd, 1) := by decide +kernel
theorem dX6_cross_181 : decode cX6_cross 181 = .ok (.lload 6, 2) := by decide +kernel
theorem dX6_cross_183 : decode cX6_cross 183 = .ok (.lastore, 1) := by decide +kernel
theorem dX6_cross_184 : decode cX6_cross 184 = .ok (.iinc 5 1, 3) := by decide +kernel
theorem dX6_cross_187 : decode cX6_cross 187 = .ok (.goto (-133), 3) := by decide +kernel
theorem dX6_cross_190 : decode cX6_cross 190 = .ok (.iinc 4 1, 3) := by decide +kernel
theorem dX6_cross_193 : decode cX6_cross 193 = .ok (.goto (-148), 3) := by decide +kernel
theorem dX6_cross_196 : decode cX6_cross 196 = .ok (.aload_n 0, 1) := by decide +kernel
theorem dX6_cross_197 : decode cX6_cross 197 = .ok (.getfield 77, 3) := by decide +kernel
theorem dX6_cross_200 : decode cX6_cross 200 = .ok (.bipush 65, 2) := by decide +kernel
theorem dX6_cross_202 : decode cX6_cross 202 = .ok (.iload_n 2, 1) := by decide +kernel
theorem dX6_cross_203 : decode cX6_cross 203 = .ok (.imul, 1) := by decide +kernel
theorem dX6_cross_204 : decode cX6_cross 204 = .ok (.iload_n 1, 1) := by decide +kernel
theorem dX6_cross_205 : decode cX6_cross 205 = .ok (.iadd, 1) := by decide +kernel
theorem dX6_cross_206 : decode cX6_cross 206 = .ok (.laload, 1) := by decide +kernel
theorem dX6_cross_207 : decode cX6_cross 207 = .ok (.l2i, 1) := by decide +kernel
theorem dX6_cross_208 : decode cX6_cross 208 = .ok (.ireturn, 1) := by decide +kernel
set_option maxRecDepth 20000 in
theorem ggX6_shut_X6_in : GoodIn wsX6_shut wsX6_in := goodIn_r _ [8] (by decide +kernel) (by decide +kernel)
set_option maxRecDepth 20000 in
theorem gX6_shut_X6_in : GoodIn wsX6_shut (va_wsS RX6 91 yX6_in wsX6_in) := goodIn_app (goodIn_of _ (by decide +kernel)) ggX6_shut_X6_in
theorem dX6_shut_0 : decode cX6_shut 0 = .ok (.aload_n 0, 1) := by decide +kernel
theorem dX6_shut_1 : decode cX6_shut 1 = .ok (.iconst 0, 1) := by decide +kernel
theorem dX6_shut_2 : decode cX6_shut 2 = .ok (.putfield 81, 3) := by decide +kernel
theorem dX6_shut_5 : decode cX6_shut 5 = .ok (.iload_n 1, 1) := by decide +kernel
theorem dX6_shut_6 : decode cX6_shut 6 = .ok (.i2l, 1) := by decide +kernel
theorem dX6_shut_7 : decode cX6_shut 7 = .ok (.lconst 1, 1) := by decide +kernel
theorem dX6_shut_8 : decode cX6_shut 8 = .ok (.ldc2_w 214, 3) := by decide +kernel
theorem dX6_shut_11 : decode cX6_shut 11 = .ok (.invokestatic 91, 3) := by decide +kernel
theorem dX6_shut_14 : decode cX6_shut 14 = .ok (.ifCond .eq 15, 3) := by decide +kernel
theorem dX6_shut_17 : decode cX6_shut 17 = .ok (.iload_n 2, 1) := by decide +kernel
theorem dX6_shut_18 : decode cX6_shut 18 = .ok (.i2l, 1) := by decide +kernel
theorem dX6_shut_19 : decode cX6_shut 19 = .ok (.lconst 0, 1) := by decide +kernel
theorem dX6_shut_20 : decode cX6_shut 20 = .ok (.ldc2_w 216, 3) := by decide +kernel
theorem dX6_shut_23 : decode cX6_shut 23 = .ok (.invokestatic 91, 3) := by decide +kernel
theorem dX6_shut_26 : decode cX6_shut 26 = .ok (.ifCond .ne 7, 3) := by decide +kernel
theorem dX6_shut_29 : decode cX6_shut 29 = .ok (.ldc2_w 218, 3) := by decide +kernel
theorem dX6_shut_32 : decode cX6_shut 32 = .ok (.lreturn, 1) := by decide +kernel
theorem dX6_shut_33 : decode cX6_shut 33 = .ok (.lconst 1, 1) := by decide +kernel
theorem dX6_shut_34 : decode cX6_shut 34 = .ok (.lstore_n 3, 1) := by decide +kernel
theorem dX6_shut_35 : decode cX6_shut 35 = .ok (.iconst 0, 1) := by decide +kernel
theorem dX6_shut_36 : decode cX6_shut 36 = .ok (.istore 5, 2) := by decide +kernel
theorem dX6_shut_38 : decode cX6_shut 38 = .ok (.iload 5, 2) := by decide +kernel
theorem dX6_shut_40 : decode cX6_shut 40 = .ok (.iload_n 1, 1) := by decide +kernel
theorem dX6_shut_41 : decode cX6_shut 41 = .ok (.if_icmp .ge 25, 3) := by decide +kernel
theorem dX6_shut_44 : decode cX6_shut 44 = .ok (.lload_n 3, 1) := by decide +kernel
theorem dX6_shut_45 : decode cX6_shut 45 = .ok (.bipush 100, 2) := by decide +kernel
theorem dX6_shut_47 : decode cX6_shut 47 = .ok (.bipush 10, 2) := by decide +kernel
theorem dX6_shut_49 : decode cX6_shut 49 = .ok (.iload_n 2, 1) := by decide +kernel
theorem dX6_shut_50 : decode cX6_shut 50 = .ok (.isub, 1) := by decide +kernel
theorem dX6_shut_51 : decode cX6_shut 51 = .ok (.bipush 10, 2) := by decide +kernel
theorem dX6_shut_53 : decode cX6_shut 53 = .ok (.iload_n 2, 1) := by decide +kernel
theorem dX6_shut_54 : decode cX6_shut 54 = .ok (.isub, 1) := by decide +kernel
theorem dX6_shut_55 : decode cX6_shut 55 = .ok (.imul, 1) := by decide +kernel
theorem dX6_shut_56 : decode cX6_shut 56 = .ok (.isub, 1) := by decide +kernel
theorem dX6_shut_57 : decode cX6_shut 57 = .ok (.i2l, 1) := by decide +kernel
theorem dX6_shut_58 : decode cX6_shut 58 = .ok (.lmul, 1) := by decide +kernel
theorem dX6_shut_59 : decode cX6_shut 59 = .ok (.lstore_n 3, 1) := by decide +kernel
theorem dX6_shut_60 : decode cX6_shut 60 = .ok (.iinc 5 1, 3) := by decide +kernel
theorem dX6_shut_63 : decode cX6_shut 63 = .ok (.goto (-25), 3) := by decide +kernel
theorem dX6_shut_66 : decode cX6_shut 66 = .ok (.lload_n 3, 1) := by decide +kernel
theorem dX6_shut_67 : decode cX6_shut 67 = .ok (.lreturn, 1) := by decide +kernel
set_option maxRecDepth 20000 in
theorem ggX6_count_X6_kindOf : GoodIn wsX6_count wsX6_kindOf := goodIn_r _ [9, 10, 11, 12, 13, 8, 14, 3, 15, 25, 26, 27, 28, 29, 30, 31, 32, 33, 34, 35, 36, 37, 38, 39, 40, 41, 42, 43, 44, 45, 46, 47, 48, 49, 50, 51, 52, 53, 54] (by decide +kernel) (by decide +kernel)
set_option maxRecDepth 20000 in
theorem gX6_count_X6_kindOf : GoodIn wsX6_count (wsV RX6 119 RX6 yX6_kindOf wsX6_kindOf) := goodIn_app (goodIn_of _ (by decide +kernel)) ggX6_count_X6_kindOf
set_option maxRecDepth 20000 in
theorem ggX6_count_X6_isOf : GoodIn wsX6_count wsX6_isOf := goodIn_r _ [18] (by decide +kernel) (by decide +kernel)
set_option maxRecDepth 20000 in
theorem gX6_count_X6_isOf : GoodIn wsX6_count (va_wsS RX6 127 yX6_isOf wsX6_isOf) := goodIn_app (goodIn_of _ (by decide +kernel)) ggX6_count_X6_isOf
set_option maxRecDepth 20000 in
theorem ggX6_count_X6_calls : GoodIn wsX6_count wsX6_calls := goodIn_r _ [22, 3, 23, 24, 25, 26, 27, 28, 29, 30, 31, 32, 33, 34, 35, 36, 37, 38, 39, 40, 41, 42, 43, 44, 45, 46, 47, 48, 49, 50, 51, 52, 53, 54] (by decide +kernel) (by decide +kernel)
set_option maxRecDepth 20000 in
theorem gX6_count_X6_calls : GoodIn wsX6_count (wsV RX6 138 RX6 yX6_calls wsX6_calls) := goodIn_app (goodIn_of _ (by decide +kernel)) ggX6_count_X6_calls
theorem dX6_count_0 : decode cX6_count 0 = .ok (.aload_n 0, 1) := by decide +kernel
theorem dX6_count_1 : decode cX6_count 1 = .ok (.iconst 0, 1) := by decide +kernel
theorem dX6_count_2 : decode cX6_count 2 = .ok (.putfield 81, 3) := by decide +kernel
theorem dX6_count_5 : decode cX6_count 5 = .ok (.iconst 0, 1) := by decide +kernel
theorem dX6_count_6 : decode cX6_count 6 = .ok (.istore_n 2, 1) := by decide +kernel
theorem dX6_count_7 : decode cX6_count 7 = .ok (.iload_n 1, 1) := by decide +kernel
theorem dX6_count_8 : decode cX6_count 8 = .ok (.tableswitch 144 0 5 #[40, 73, 73, 73, 73, 120], 40) := by decide +kernel
theorem dX6_count_48 : decode cX6_count 48 = .ok (.iconst 0, 1) := by decide +kernel
theorem dX6_count_49 : decode cX6_count 49 = .ok (.istore_n 3, 1) := by decide +kernel
theorem dX6_count_50 : decode cX6_count 50 = .ok (.iload_n 3, 1) := by decide +kernel
theorem dX6_count_51 : decode cX6_count 51 = .ok (.bipush 8, 2) := by decide +kernel
theorem dX6_count_53 : decode cX6_count 53 = .ok (.if_icmp .ge 26, 3) := by decide +kernel
theorem dX6_count_56 : decode cX6_count 56 = .ok (.iload_n 2, 1) := by decide +kernel
theorem dX6_count_57 : decode cX6_count 57 = .ok (.aload_n 0, 1) := by decide +kernel
theorem dX6_count_58 : decode cX6_count 58 = .ok (.getfield 7, 3) := by decide +kernel
theorem dX6_count_61 : decode cX6_count 61 = .ok (.iload_n 3, 1) := by decide +kernel
theorem dX6_count_62 : decode cX6_count 62 = .ok (.iaload, 1) := by decide +kernel
theorem dX6_count_63 : decode cX6_count 63 = .ok (.ifCond .lt 7, 3) := by decide +kernel
theorem dX6_count_66 : decode cX6_count 66 = .ok (.iconst 1, 1) := by decide +kernel
theorem dX6_count_67 : decode cX6_count 67 = .ok (.goto 4, 3) := by decide +kernel
theorem dX6_count_70 : decode cX6_count 70 = .ok (.iconst 0, 1) := by decide +kernel
theorem dX6_count_71 : decode cX6_count 71 = .ok (.iadd, 1) := by decide +kernel
theorem dX6_count_72 : decode cX6_count 72 = .ok (.istore_n 2, 1) := by decide +kernel
theorem dX6_count_73 : decode cX6_count 73 = .ok (.iinc 3 1, 3) := by decide +kernel
theorem dX6_count_76 : decode cX6_count 76 = .ok (.goto (-26), 3) := by decide +kernel
theorem dX6_count_79 : decode cX6_count 79 = .ok (.iload_n 2, 1) := by decide +kernel
theorem dX6_count_80 : decode cX6_count 80 = .ok (.ireturn, 1) := by decide +kernel
theorem dX6_count_81 : decode cX6_count 81 = .ok (.iconst 0, 1) := by decide +kernel
theorem dX6_count_82 : decode cX6_count 82 = .ok (.istore_n 3, 1) := by decide +kernel
theorem dX6_count_83 : decode cX6_count 83 = .ok (.iload_n 3, 1) := by decide +kernel
theorem dX6_count_84 : decode cX6_count 84 = .ok (.bipush 6, 2) := by decide +kernel
theorem dX6_count_86 : decode cX6_count 86 = .ok (.if_icmp .ge 40, 3) := by decide +kernel
theorem dX6_count_89 : decode cX6_count 89 = .ok (.iload_n 2, 1) := by decide +kernel
theorem dX6_count_90 : decode cX6_count 90 = .ok (.aload_n 0, 1) := by decide +kernel
theorem dX6_count_91 : decode cX6_count 91 = .ok (.getfield 19, 3) := by decide +kernel
theorem dX6_count_94 : decode cX6_count 94 = .ok (.iload_n 3, 1) := by decide +kernel
theorem dX6_count_95 : decode cX6_count 95 = .ok (.iaload, 1) := by decide +kernel
theorem dX6_count_96 : decode cX6_count 96 = .ok (.ifCond .le 21, 3) := by decide +kernel
theorem dX6_count_99 : decode cX6_count 99 = .ok (.aload_n 0, 1) := by decide +kernel
theorem dX6_count_100 : decode cX6_count 100 = .ok (.iload_n 3, 1) := by decide +kernel
theorem dX6_count_101 : decode cX6_count 101 = .ok (.invokevirtual 119, 3) := by decide +kernel
theorem dX6_count_104 : decode cX6_count 104 = .ok (.iload_n 1, 1) := by decide +kernel
theorem dX6_count_105 : decode cX6_count 105 = .ok (.iconst 1, 1) := by decide +kernel
theorem dX6_count_106 : decode cX6_count 106 = .ok (.isub, 1) := by decide +kernel
theorem dX6_count_107 : decode cX6_count 107 = .ok (.invokestatic 127, 3) := by decide +kernel
theorem dX6_count_110 : decode cX6_count 110 = .ok (.ifCond .eq 7, 3) := by decide +kernel
theorem dX6_count_113 : decode cX6_count 113 = .ok (.iconst 1, 1) := by decide +kernel
theorem dX6_count_114 : decode cX6_count 114 = .ok (.goto 4, 3) := by decide +kernel
theorem dX6_count_117 : decode cX6_count 117 = .ok (.iconst 0, 1) := by decide +kernel
theorem dX6_count_118 : decode cX6_count 118 = .ok (.iadd, 1) := by decide +kernel
theorem dX6_count_119 : decode cX6_count 119 = .ok (.istore_n 2, 1) := by decide +kernel
theorem dX6_count_120 : decode cX6_count 120 = .ok (.iinc 3 1, 3) := by decide +kernel
theorem dX6_count_123 : decode cX6_count 123 = .ok (.goto (-40), 3) := by decide +kernel
theorem dX6_count_126 : decode cX6_count 126 = .ok (.iload_n 2, 1) := by decide +kernel
theorem dX6_count_127 : decode cX6_count 127 = .ok (.ireturn, 1) := by decide +kernel
theorem dX6_count_128 : decode cX6_count 128 = .ok (.iconst 0, 1) := by decide +kernel
theorem dX6_count_129 : decode cX6_count 129 = .ok (.istore_n 3, 1) := by decide +kernel
theorem dX6_count_130 : decode cX6_count 130 = .ok (.iload_n 3, 1) := by decide +kernel
theorem dX6_count_131 : decode cX6_count 131 = .ok (.bipush 6, 2) := by decide +kernel
theorem dX6_count_133 : decode cX6_count 133 = .ok (.if_icmp .ge 17, 3) := by decide +kernel
theorem dX6_count_136 : decode cX6_count 136 = .ok (.iload_n 2, 1) := by decide +kernel
theorem dX6_count_137 : decode cX6_count 137 = .ok (.aload_n 0, 1) := by decide +kernel
theorem dX6_count_138 : decode cX6_count 138 = .ok (.iload_n 3, 1) := by decide +kernel
theorem dX6_count_139 : decode cX6_count 139 = .ok (.invokevirtual 138, 3) := by decide +kernel
theorem dX6_count_142 : decode cX6_count 142 = .ok (.iadd, 1) := by decide +kernel
theorem dX6_count_143 : decode cX6_count 143 = .ok (.istore_n 2, 1) := by decide +kernel
theorem dX6_count_144 : decode cX6_count 144 = .ok (.iinc 3 1, 3) := by decide +kernel
theorem dX6_count_147 : decode cX6_count 147 = .ok (.goto (-17), 3) := by decide +kernel
theorem dX6_count_150 : decode cX6_count 150 = .ok (.iload_n 2, 1) := by decide +kernel
theorem dX6_count_151 : decode cX6_count 151 = .ok (.ireturn, 1) := by decide +kernel
theorem dX6_count_152 : decode cX6_count 152 = .ok (.ldc 101, 2) := by decide +kernel
theorem dX6_count_154 : decode cX6_count 154 = .ok (.ireturn, 1) := by decide +kernel
theorem dX6_status_0 : decode cX6_status 0 = .ok (.aload_n 0, 1) := by decide +kernel
theorem dX6_status_1 : decode cX6_status 1 = .ok (.iconst 0, 1) := by decide +kernel
theorem dX6_status_2 : decode cX6_status 2 = .ok (.putfield 81, 3) := by decide +kernel
theorem dX6_status_5 : decode cX6_status 5 = .ok (.aload_n 0, 1) := by decide +kernel
theorem dX6_status_6 : decode cX6_status 6 = .ok (.getfield 85, 3) := by decide +kernel
theorem dX6_status_9 : decode cX6_status 9 = .ok (.ireturn, 1) := by decide +kernel
theorem dJ9_min_7cf53_0 : decode cJ9_min_7cf53 0 = .ok (.iload_n 0, 1) := by decide +kernel
theorem dJ9_min_7cf53_1 : decode cJ9_min_7cf53 1 = .ok (.iload_n 1, 1) := by decide +kernel
theorem dJ9_min_7cf53_2 : decode cJ9_min_7cf53 2 = .ok (.if_icmp .gt 7, 3) := by decide +kernel
theorem dJ9_min_7cf53_5 : decode cJ9_min_7cf53 5 = .ok (.iload_n 0, 1) := by decide +kernel
theorem dJ9_min_7cf53_6 : decode cJ9_min_7cf53 6 = .ok (.goto 4, 3) := by decide +kernel
theorem dJ9_min_7cf53_9 : decode cJ9_min_7cf53 9 = .ok (.iload_n 1, 1) := by decide +kernel
theorem dJ9_min_7cf53_10 : decode cJ9_min_7cf53 10 = .ok (.ireturn, 1) := by decide +kernel
theorem dJ7_fill_53178_0 : decode cJ7_fill_53178 0 = .ok (.iconst 0, 1) := by decide +kernel
theorem dJ7_fill_53178_1 : decode cJ7_fill_53178 1 = .ok (.istore_n 2, 1) := by decide +kernel
theorem dJ7_fill_53178_2 : decode cJ7_fill_53178 2 = .ok (.aload_n 0, 1) := by decide +kernel
theorem dJ7_fill_53178_3 : decode cJ7_fill_53178 3 = .ok (.arraylength, 1) := by decide +kernel
theorem dJ7_fill_53178_4 : decode cJ7_fill_53178 4 = .ok (.istore_n 3, 1) := by decide +kernel
theorem dJ7_fill_53178_5 : decode cJ7_fill_53178 5 = .ok (.iload_n 2, 1) := by decide +kernel
theorem dJ7_fill_53178_6 : decode cJ7_fill_53178 6 = .ok (.iload_n 3, 1) := by decide +kernel
theorem dJ7_fill_53178_7 : decode cJ7_fill_53178 7 = .ok (.if_icmp .ge 13, 3) := by decide +kernel
theorem dJ7_fill_53178_10 : decode cJ7_fill_53178 10 = .ok (.aload_n 0, 1) := by decide +kernel
theorem dJ7_fill_53178_11 : decode cJ7_fill_53178 11 = .ok (.iload_n 2, 1) := by decide +kernel
theorem dJ7_fill_53178_12 : decode cJ7_fill_53178 12 = .ok (.iload_n 1, 1) := by decide +kernel
theorem dJ7_fill_53178_13 : decode cJ7_fill_53178 13 = .ok (.iastore, 1) := by decide +kernel
theorem dJ7_fill_53178_14 : decode cJ7_fill_53178 14 = .ok (.iinc 2 1, 3) := by decide +kernel
theorem dJ7_fill_53178_17 : decode cJ7_fill_53178 17 = .ok (.goto (-12), 3) := by decide +kernel
theorem dJ7_fill_53178_20 : decode cJ7_fill_53178 20 = .ok (.return_, 1) := by decide +kernel
end
section
/-! The state of a module: numbers by field, int rows by field, long rows by field -/
abbrev St : Type := (Nat → Int32) × (Nat → Nat → Int32) × (Nat → Nat → Int64)
def sF (s : St) (k : Nat) : Int32 := s.1 k
def sA (s : St) (k : Nat) : Nat → Int32 := s.2.1 k
def sJ (s : St) (k : Nat) : Nat → Int64 := s.2.2 k
def uF (s : St) (k : Nat) (v : Int32) : St := (va_up s.1 k v, s.2.1, s.2.2)
def uA (s : St) (k : Nat) (f : Nat → Int32) : St := (s.1, va_up s.2.1 k f, s.2.2)
def uJ (s : St) (k : Nat) (f : Nat → Int64) : St := (s.1, s.2.1, va_up s.2.2 k f)
theorem sF_uF (s : St) (k j : Nat) (v : Int32) : sF (uF s k v) j = if j = k then v else sF s j := rfl
theorem sA_uF (s : St) (k j : Nat) (v : Int32) : sA (uF s k v) j = sA s j := rfl
theorem sJ_uF (s : St) (k j : Nat) (v : Int32) : sJ (uF s k v) j = sJ s j := rfl
theorem sF_uA (s : St) (k j : Nat) (f : Nat → Int32) : sF (uA s k f) j = sF s j := rfl
theorem sA_uA (s : St) (k j : Nat) (f : Nat → Int32) : sA (uA s k f) j = if j = k then f else sA s j := rfl
theorem sJ_uA (s : St) (k j : Nat) (f : Nat → Int32) : sJ (uA s k f) j = sJ s j := rfl
theorem sF_uJ (s : St) (k j : Nat) (f : Nat → Int64) : sF (uJ s k f) j = sF s j := rfl
theorem sA_uJ (s : St) (k j : Nat) (f : Nat → Int64) : sA (uJ s k f) j = sA s j := rfl
theorem sJ_uJ (s : St) (k j : Nat) (f : Nat → Int64) : sJ (uJ s k f) j = if j = k then f else sJ s j := rfl
/-! Loops as propositions: the body, given what holds at the head -/
def lpN {σ : Type} (B : (σ → Prop) → σ → Prop) : Nat → σ → Prop
  | 0 => fun _ => False
  | n + 1 => B (lpN B n)
def lp {σ : Type} (B : (σ → Prop) → σ → Prop) (s : σ) : Prop := ∃ n, lpN B n s
theorem lp_W {σ : Type} {B : (σ → Prop) → σ → Prop} {P : σ → Prop} (h : ∀ K : σ → Prop, (∀ s, K s → P s) → ∀ s, B K s → P s) : ∀ s, lp B s → P s := by
  have key : ∀ n s, lpN B n s → P s := by
    intro n
    induction n with
    | zero => exact fun s q => q.elim
    | succ n ih => exact fun s q => h _ ih s q
  rintro s ⟨n, q⟩
  exact key n s q
theorem lp_of {σ : Type} {B : (σ → Prop) → σ → Prop} (I : σ → Prop) (μ : σ → Nat) (step : ∀ s, I s → ∀ K : σ → Prop, (∀ s', I s' → μ s' < μ s → K s') → B K s) : ∀ s, I s → lp B s := by
  have key : ∀ n s, I s → μ s < n → lpN B n s := by
    intro n
    induction n with
    | zero => exact fun s _ q => absurd q (Nat.not_lt_zero _)
    | succ n ih => exact fun s hs q => step s hs _ (fun s' h1 h2 => ih s' h1 (Nat.lt_of_lt_of_le h2 (Nat.le_of_lt_succ q)))
  exact fun s hs => ⟨μ s + 1, key _ s hs (Nat.lt_succ_self _)⟩
/-! What the machine's tables say of private members of a nest mate; the array classes -/
def nstL : List (String × Nat × MethodName) := [(RX5, 23, yX0_init), (RX5, 30, yX3_init), (RX5, 37, yX2_init), (RX0, 19, yX5_within), (RX1, 72, yX5_within), (RX2, 29, yX5_within), (RX3, 31, yX5_within)]
def nst (U : State) : Prop := ∀ q ∈ nstL, va_Nw (.methodLinkNest q.1 q.2.1 q.2.2 RX5) U
theorem nst.warm {s U : State} (hW : s.WarmedH U.vm) (h : nst s) : nst U := fun q hq => va_Nw.warmM hW (h q hq)
theorem nst.calling {U : State} {g : JFrame} {mk : MethodId} {a : Array Value} (h : nst U) : nst (U.calling g mk a) := fun q hq => va_Nw.same rfl rfl (h q hq)
def tyW (cy : Nat → ClassId) : List (ClassId × FieldType) := [(cy 0, .int), (cy 1, .boolean), (cy 2, .long), (cy 3, .array .int), (cy 4, .object "StageSwitch$Sheet"), (cy 5, .object "StageSwitch$Net")]
/-! The judgement: at a place of a method's code, with what holds of the heap -/
def iW (D : va_G) (A : Nat → Prop) (H0 : Heap) (ws : va_W) : Heap → List Loc → Prop := fun H locs => va_P D vwCl ws H ∧ va_D A ws ∧ va_S A H0 H locs
def iP (H0 : Heap) : Heap → List Loc → Prop := fun H locs => H = H0 ∧ locs = []
def atG (p : Program) (l : Launch) (e : Env) (R : Room) (s0 : State) (m : MethodId) (args : Array Value) (below : List Frame) (meth : Method) (c : Code) (cells slots : Nat) (Z : State → Prop) (nL : Nat) (I : Heap → List Loc → Prop) (lv : List (Nat × Value)) (st : List Value) (pc : Nat) : Prop :=
  ∀ (H : Heap) (locs : List Loc) (ls : Array Slot), I H locs → lv_has ls nL lv → W p l e R s0 m args below meth c H locs cells slots Z (F0 m pc ls st)
def ctB (p : Program) (s0 : State) (m : MethodId) (args : Array Value) (c : Code) (cc : ByteArray) (nL : Nat) (own : String) (ws : List Cond) : Prop :=
  p.tables.exec = Jvm.exec ∧ c.code = cc ∧ c.maxLocals = nL ∧ s0.vm.findClass own = some m.cls ∧ (∀ w ∈ ws, w.before args s0 = true) ∧ nst s0
def ctK (s0 : State) (D : va_G) (A : Nat → Prop) (H0 : Heap) (cy : Nat → ClassId) : Prop := va_K D vwCl (tyW cy) s0 ∧ ∀ q, H0.size ≤ q → A q
def pW (D : va_G) (cy : Nat → ClassId) (ws : va_W) (sz : Nat) : State → Prop := fun U => U.heap.size = sz ∧ va_P D vwCl ws U.heap ∧ va_K D vwCl (tyW cy) U ∧ nst U ∧ va_D (fun _ => True) ws
def qW {σ : Type} (D : va_G) (Wd : σ → va_W) (A : Nat → Prop) : σ → State → Prop := fun u t => va_P D vwCl (Wd u) t.heap ∧ va_D A (Wd u)
theorem pW.blind {D : va_G} {cy : Nat → ClassId} {ws : va_W} {sz : Nat} {av : List Value} : FrameBlind (va_Pc av (pW D cy ws sz)) := fun a U g mk q => by
  obtain ⟨q0, q1, qP, qK, qN, qD⟩ := q
  exact ⟨q0, q1, qP, va_K.moved (u := U) (U := U.calling g mk a) (Vm.Alike.refl U.vm) qK, qN.calling, qD⟩
/-- a contract over a world -/
def mI {σ : Type} (l : Launch) (y : MethodName) (ws : List Cond) (rm : Room) (D : va_G) (cy : Nat → ClassId) (av : List Value) (W0 : va_W) (Wd : σ → va_W) (Q : Int32 → σ → Prop) : Prop := ∀ sz : Nat, Met l y ws rm (va_Pc av (pW D cy W0 sz)) (va_Qi Q (qW D Wd (va_A W0 sz)) (va_A W0 sz)) rm.cells rm.slots (va_A W0 sz)
def mV {σ : Type} (l : Launch) (y : MethodName) (ws : List Cond) (rm : Room) (D : va_G) (cy : Nat → ClassId) (av : List Value) (W0 : va_W) (Wd : σ → va_W) (Q : σ → Prop) : Prop := ∀ sz : Nat, Met l y ws rm (va_Pc av (pW D cy W0 sz)) (va_Qv Q (qW D Wd (va_A W0 sz)) (va_A W0 sz)) rm.cells rm.slots (va_A W0 sz)
def mL {σ : Type} (l : Launch) (y : MethodName) (ws : List Cond) (rm : Room) (D : va_G) (cy : Nat → ClassId) (av : List Value) (W0 : va_W) (Wd : σ → va_W) (Q : Int64 → σ → Prop) : Prop := ∀ sz : Nat, Met l y ws rm (va_Pc av (pW D cy W0 sz)) (va_Ql Q (qW D Wd (va_A W0 sz)) (va_A W0 sz)) rm.cells rm.slots (va_A W0 sz)
/-- a contract of a method that looks at no cell -/
def mS (l : Launch) (y : MethodName) (ws : List Cond) (rm : Room) (av : List Value) (Q : Int32 → Prop) : Prop := Met l y ws rm (va_Pc av nst) (vp_Si Q) rm.cells rm.slots (fun _ => False)
section AW
variable {p : Program} {l : Launch} {e : Env} {R : Room} {s0 : State} {m : MethodId} {args : Array Value} {below : List Frame} {meth : Method} {c : Code} {cells slots : Nat} {Z : State → Prop} {nL : Nat} {I : Heap → List Loc → Prop} {lv : List (Nat × Value)} {st : List Value} {pc : Nat}
variable {cc : ByteArray} {own : String} {ws : List Cond} {D : va_G} {A : Nat → Prop} {H0 : Heap} {cy : Nat → ClassId}
theorem aw_iconst (C : ctB p s0 m args c cc nL own ws) {n : Int} {v : Int32} (hdg : decode cc pc = .ok (.iconst n, 1)) (hv : Int32.ofInt n = v) (kk : atG p l e R s0 m args below meth c cells slots Z nL I lv (.int v :: st) (pc + 1)) : atG p l e R s0 m args below meth c cells slots Z nL I lv st pc := fun H locs ls hI hl => lv_iconst C.1 C.2.1 hdg hv (kk H locs ls hI hl)
theorem aw_bipush (C : ctB p s0 m args c cc nL own ws) {n : Int} {v : Int32} (hdg : decode cc pc = .ok (.bipush n, 2)) (hv : (Int8.ofInt n).toInt32 = v) (kk : atG p l e R s0 m args below meth c cells slots Z nL I lv (.int v :: st) (pc + 2)) : atG p l e R s0 m args below meth c cells slots Z nL I lv st pc := fun H locs ls hI hl => lv_bipush C.1 C.2.1 hdg hv (kk H locs ls hI hl)
theorem aw_sipush (C : ctB p s0 m args c cc nL own ws) {n : Int} {v : Int32} (hdg : decode cc pc = .ok (.sipush n, 3)) (hv : (Int16.ofInt n).toInt32 = v) (kk : atG p l e R s0 m args below meth c cells slots Z nL I lv (.int v :: st) (pc + 3)) : atG p l e R s0 m args below meth c cells slots Z nL I lv st pc := fun H locs ls hI hl => lv_sipush C.1 C.2.1 hdg hv (kk H locs ls hI hl)
theorem aw_ldc (C : ctB p s0 m args c cc nL own ws) {i : Nat} {v : Int32} (hdg : decode cc pc = .ok (.ldc i, 2)) (hc : Cond.constant own i v ∈ ws) (kk : atG p l e R s0 m args below meth c cells slots Z nL I lv (.int v :: st) (pc + 2)) : atG p l e R s0 m args below meth c cells slots Z nL I lv st pc := fun H locs ls hI hl => lv_ldc C.1 C.2.1 C.2.2.2.1 (C.2.2.2.2.1 _ hc) hdg (kk H locs ls hI hl)
theorem aw_ldc2 (C : ctB p s0 m args c cc nL own ws) {i : Nat} {v : Int64} (hdg : decode cc pc = .ok (.ldc2_w i, 3)) (hc : Cond.constantLong own i v ∈ ws) (kk : atG p l e R s0 m args below meth c cells slots Z nL I lv (.long v :: st) (pc + 3)) : atG p l e R s0 m args below meth c cells slots Z nL I lv st pc := fun H locs ls hI hl => lv_ldc2 C.1 C.2.1 C.2.2.2.1 (C.2.2.2.2.1 _ hc) hdg (kk H locs ls hI hl)
theorem aw_lconst (C : ctB p s0 m args c cc nL own ws) {n : Fin 2} {v : Int64} (hdg : decode cc pc = .ok (.lconst n, 1)) (hv : Int64.ofNat (n : Nat) = v) (kk : atG p l e R s0 m args below meth c cells slots Z nL I lv (.long v :: st) (pc + 1)) : atG p l e R s0 m args below meth c cells slots Z nL I lv st pc := fun H locs ls hI hl => lv_lconst C.1 C.2.1 hdg hv (kk H locs ls hI hl)
theorem aw_null (C : ctB p s0 m args c cc nL own ws)  (hdg : decode cc pc = .ok (.aconst_null, 1))  (kk : atG p l e R s0 m args below meth c cells slots Z nL I lv (.null :: st) (pc + 1)) : atG p l e R s0 m args below meth c cells slots Z nL I lv st pc := fun H locs ls hI hl => lv_null C.1 C.2.1 hdg (kk H locs ls hI hl)
theorem aw_iload (C : ctB p s0 m args c cc nL own ws) {i : Nat} {x : Int32} (hdg : decode cc pc = .ok (.iload i, 2)) (q : Nat) (hq : lv[q]? = some (i, .int x)) (kk : atG p l e R s0 m args below meth c cells slots Z nL I lv (.int x :: st) (pc + 2)) : atG p l e R s0 m args below meth c cells slots Z nL I lv st pc := fun H locs ls hI hl => lv_iload C.1 C.2.1 hdg (lv_at hl q hq) (kk H locs ls hI hl)
theorem aw_iload_n (C : ctB p s0 m args c cc nL own ws) {f : Fin 4} {x : Int32} (hdg : decode cc pc = .ok (.iload_n f, 1)) (q : Nat) (hq : lv[q]? = some ((f : Nat), .int x)) (kk : atG p l e R s0 m args below meth c cells slots Z nL I lv (.int x :: st) (pc + 1)) : atG p l e R s0 m args below meth c cells slots Z nL I lv st pc := fun H locs ls hI hl => lv_iload_n C.1 C.2.1 hdg rfl (lv_at hl q hq) (kk H locs ls hI hl)
theorem aw_lload (C : ctB p s0 m args c cc nL own ws) {i : Nat} {x : Int64} (hdg : decode cc pc = .ok (.lload i, 2)) (q : Nat) (hq : lv[q]? = some (i, .long x)) (kk : atG p l e R s0 m args below meth c cells slots Z nL I lv (.long x :: st) (pc + 2)) : atG p l e R s0 m args below meth c cells slots Z nL I lv st pc := fun H locs ls hI hl => lv_lload C.1 C.2.1 hdg (lv_at hl q hq) (kk H locs ls hI hl)
theorem aw_lload_n (C : ctB p s0 m args c cc nL own ws) {f : Fin 4} {x : Int64} (hdg : decode cc pc = .ok (.lload_n f, 1)) (q : Nat) (hq : lv[q]? = some ((f : Nat), .long x)) (kk : atG p l e R s0 m args below meth c cells slots Z nL I lv (.long x :: st) (pc + 1)) : atG p l e R s0 m args below meth c cells slots Z nL I lv st pc := fun H locs ls hI hl => lv_lload_n C.1 C.2.1 hdg rfl (lv_at hl q hq) (kk H locs ls hI hl)
theorem aw_aload (C : ctB p s0 m args c cc nL own ws) {i : Nat} {x : Nat} (hdg : decode cc pc = .ok (.aload i, 2)) (q : Nat) (hq : lv[q]? = some (i, .ref x)) (kk : atG p l e R s0 m args below meth c cells slots Z nL I lv (.ref x :: st) (pc + 2)) : atG p l e R s0 m args below meth c cells slots Z nL I lv st pc := fun H locs ls hI hl => lv_aload C.1 C.2.1 hdg (lv_at hl q hq) (kk H locs ls hI hl)
theorem aw_aload_n (C : ctB p s0 m args c cc nL own ws) {f : Fin 4} {x : Nat} (hdg : decode cc pc = .ok (.aload_n f, 1)) (q : Nat) (hq : lv[q]? = some ((f : Nat), .ref x)) (kk : atG p l e R s0 m args below meth c cells slots Z nL I lv (.ref x :: st) (pc + 1)) : atG p l e R s0 m args below meth c cells slots Z nL I lv st pc := fun H locs ls hI hl => lv_aload_n C.1 C.2.1 hdg rfl (lv_at hl q hq) (kk H locs ls hI hl)
theorem aw_istore (C : ctB p s0 m args c cc nL own ws) {i : Nat} {x : Int32} {lv' : List (Nat × Value)} (hdg : decode cc pc = .ok (.istore i, 2)) (hn : i < nL) (hv : (i, Value.int x) :: lv.filter (fun q => !(q.1 == i) && !(q.1 + 1 == i && q.2.category == 2)) = lv') (kk : atG p l e R s0 m args below meth c cells slots Z nL I lv' st (pc + 2)) : atG p l e R s0 m args below meth c cells slots Z nL I lv (.int x :: st) pc := fun H locs ls hI hl => lv_istore C.1 C.2.1 hdg hl hn hv (fun ls2 hl2 => kk H locs ls2 hI hl2)
theorem aw_istore_n (C : ctB p s0 m args c cc nL own ws) {f : Fin 4} {x : Int32} {lv' : List (Nat × Value)} (hdg : decode cc pc = .ok (.istore_n f, 1)) (hn : (f : Nat) < nL) (hv : ((f : Nat), Value.int x) :: lv.filter (fun q => !(q.1 == (f : Nat)) && !(q.1 + 1 == (f : Nat) && q.2.category == 2)) = lv') (kk : atG p l e R s0 m args below meth c cells slots Z nL I lv' st (pc + 1)) : atG p l e R s0 m args below meth c cells slots Z nL I lv (.int x :: st) pc := fun H locs ls hI hl => lv_istore_n C.1 C.2.1 hdg rfl hl hn hv (fun ls2 hl2 => kk H locs ls2 hI hl2)
theorem aw_astore (C : ctB p s0 m args c cc nL own ws) {i : Nat} {x : Nat} {lv' : List (Nat × Value)} (hdg : decode cc pc = .ok (.astore i, 2)) (hn : i < nL) (hv : (i, Value.ref x) :: lv.filter (fun q => !(q.1 == i) && !(q.1 + 1 == i && q.2.category == 2)) = lv') (kk : atG p l e R s0 m args below meth c cells slots Z nL I lv' st (pc + 2)) : atG p l e R s0 m args below meth c cells slots Z nL I lv (.ref x :: st) pc := fun H locs ls hI hl => lv_astore C.1 C.2.1 hdg hl hn hv (fun ls2 hl2 => kk H locs ls2 hI hl2)
theorem aw_astore_n (C : ctB p s0 m args c cc nL own ws) {f : Fin 4} {x : Nat} {lv' : List (Nat × Value)} (hdg : decode cc pc = .ok (.astore_n f, 1)) (hn : (f : Nat) < nL) (hv : ((f : Nat), Value.ref x) :: lv.filter (fun q => !(q.1 == (f : Nat)) && !(q.1 + 1 == (f : Nat) && q.2.category == 2)) = lv') (kk : atG p l e R s0 m args below meth c cells slots Z nL I lv' st (pc + 1)) : atG p l e R s0 m args below meth c cells slots Z nL I lv (.ref x :: st) pc := fun H locs ls hI hl => lv_astore_n C.1 C.2.1 hdg rfl hl hn hv (fun ls2 hl2 => kk H locs ls2 hI hl2)
theorem aw_lstore (C : ctB p s0 m args c cc nL own ws) {i : Nat} {x : Int64} {lv' : List (Nat × Value)} (hdg : decode cc pc = .ok (.lstore i, 2)) (hn : i + 1 < nL) (hv : (i, Value.long x) :: lv.filter (fun q => !(q.1 == i) && (!(q.1 == i + 1) && !(q.1 + 1 == i && q.2.category == 2))) = lv') (kk : atG p l e R s0 m args below meth c cells slots Z nL I lv' st (pc + 2)) : atG p l e R s0 m args below meth c cells slots Z nL I lv (.long x :: st) pc := fun H locs ls hI hl => lv_lstore C.1 C.2.1 hdg hl hn hv (fun ls2 hl2 => kk H locs ls2 hI hl2)
theorem aw_lstore_n (C : ctB p s0 m args c cc nL own ws) {f : Fin 4} {x : Int64} {lv' : List (Nat × Value)} (hdg : decode cc pc = .ok (.lstore_n f, 1)) (hn : (f : Nat) + 1 < nL) (hv : ((f : Nat), Value.long x) :: lv.filter (fun q => !(q.1 == (f : Nat)) && (!(q.1 == (f : Nat) + 1) && !(q.1 + 1 == (f : Nat) && q.2.category == 2))) = lv') (kk : atG p l e R s0 m args below meth c cells slots Z nL I lv' st (pc + 1)) : atG p l e R s0 m args below meth c cells slots Z nL I lv (.long x :: st) pc := fun H locs ls hI hl => lv_lstore_n C.1 C.2.1 hdg rfl hl hn hv (fun ls2 hl2 => kk H locs ls2 hI hl2)
theorem aw_iinc (C : ctB p s0 m args c cc nL own ws) {i : Nat} {n : Int} {x v : Int32} {lv' : List (Nat × Value)} (hdg : decode cc pc = .ok (.iinc i n, 3)) (q : Nat) (hq : lv[q]? = some (i, .int x)) (hx : x + Int32.ofInt n = v) (hn : i < nL) (hv : (i, Value.int v) :: lv.filter (fun q => !(q.1 == i) && !(q.1 + 1 == i && q.2.category == 2)) = lv') (kk : atG p l e R s0 m args below meth c cells slots Z nL I lv' st (pc + 3)) : atG p l e R s0 m args below meth c cells slots Z nL I lv st pc := fun H locs ls hI hl => lv_iinc C.1 C.2.1 hdg hl hq hx hn hv (fun ls2 hl2 => kk H locs ls2 hI hl2)
theorem aw_dup (C : ctB p s0 m args c cc nL own ws) {a : Value} (hdg : decode cc pc = .ok (.dup, 1)) (ha : a.category = 1) (kk : atG p l e R s0 m args below meth c cells slots Z nL I lv (a :: a :: st) (pc + 1)) : atG p l e R s0 m args below meth c cells slots Z nL I lv (a :: st) pc := fun H locs ls hI hl => lv_dup C.1 C.2.1 hdg ha (kk H locs ls hI hl)
theorem aw_dup2 (C : ctB p s0 m args c cc nL own ws) {a b : Value} (hdg : decode cc pc = .ok (.dup2, 1)) (ha : a.category = 1) (hb : b.category = 1) (kk : atG p l e R s0 m args below meth c cells slots Z nL I lv (a :: b :: a :: b :: st) (pc + 1)) : atG p l e R s0 m args below meth c cells slots Z nL I lv (a :: b :: st) pc := fun H locs ls hI hl => lv_dup2_11 C.1 C.2.1 hdg ha hb (kk H locs ls hI hl)
theorem aw_iadd (C : ctB p s0 m args c cc nL own ws) {x y : Int32} (hdg : decode cc pc = .ok (.iadd, 1))  (kk : atG p l e R s0 m args below meth c cells slots Z nL I lv (.int (x + y) :: st) (pc + 1)) : atG p l e R s0 m args below meth c cells slots Z nL I lv (.int y :: .int x :: st) pc := fun H locs ls hI hl => lv_iadd C.1 C.2.1 hdg (kk H locs ls hI hl)
theorem aw_isub (C : ctB p s0 m args c cc nL own ws) {x y : Int32} (hdg : decode cc pc = .ok (.isub, 1))  (kk : atG p l e R s0 m args below meth c cells slots Z nL I lv (.int (x - y) :: st) (pc + 1)) : atG p l e R s0 m args below meth c cells slots Z nL I lv (.int y :: .int x :: st) pc := fun H locs ls hI hl => lv_isub C.1 C.2.1 hdg (kk H locs ls hI hl)
theorem aw_imul (C : ctB p s0 m args c cc nL own ws) {x y : Int32} (hdg : decode cc pc = .ok (.imul, 1))  (kk : atG p l e R s0 m args below meth c cells slots Z nL I lv (.int (x * y) :: st) (pc + 1)) : atG p l e R s0 m args below meth c cells slots Z nL I lv (.int y :: .int x :: st) pc := fun H locs ls hI hl => lv_imul C.1 C.2.1 hdg (kk H locs ls hI hl)
theorem aw_iand (C : ctB p s0 m args c cc nL own ws) {x y : Int32} (hdg : decode cc pc = .ok (.iand, 1))  (kk : atG p l e R s0 m args below meth c cells slots Z nL I lv (.int (x &&& y) :: st) (pc + 1)) : atG p l e R s0 m args below meth c cells slots Z nL I lv (.int y :: .int x :: st) pc := fun H locs ls hI hl => lv_iand C.1 C.2.1 hdg (kk H locs ls hI hl)
theorem aw_ior (C : ctB p s0 m args c cc nL own ws) {x y : Int32} (hdg : decode cc pc = .ok (.ior, 1))  (kk : atG p l e R s0 m args below meth c cells slots Z nL I lv (.int (x ||| y) :: st) (pc + 1)) : atG p l e R s0 m args below meth c cells slots Z nL I lv (.int y :: .int x :: st) pc := fun H locs ls hI hl => lv_ior C.1 C.2.1 hdg (kk H locs ls hI hl)
theorem aw_ixor (C : ctB p s0 m args c cc nL own ws) {x y : Int32} (hdg : decode cc pc = .ok (.ixor, 1))  (kk : atG p l e R s0 m args below meth c cells slots Z nL I lv (.int (x ^^^ y) :: st) (pc + 1)) : atG p l e R s0 m args below meth c cells slots Z nL I lv (.int y :: .int x :: st) pc := fun H locs ls hI hl => lv_ixor C.1 C.2.1 hdg (kk H locs ls hI hl)
theorem aw_ishl (C : ctB p s0 m args c cc nL own ws) {x y : Int32} (hdg : decode cc pc = .ok (.ishl, 1))  (kk : atG p l e R s0 m args below meth c cells slots Z nL I lv (.int (x <<< (y &&& 31)) :: st) (pc + 1)) : atG p l e R s0 m args below meth c cells slots Z nL I lv (.int y :: .int x :: st) pc := fun H locs ls hI hl => lv_ishl C.1 C.2.1 hdg (kk H locs ls hI hl)
theorem aw_ishr (C : ctB p s0 m args c cc nL own ws) {x y : Int32} (hdg : decode cc pc = .ok (.ishr, 1))  (kk : atG p l e R s0 m args below meth c cells slots Z nL I lv (.int (x >>> (y &&& 31)) :: st) (pc + 1)) : atG p l e R s0 m args below meth c cells slots Z nL I lv (.int y :: .int x :: st) pc := fun H locs ls hI hl => lv_ishr C.1 C.2.1 hdg (kk H locs ls hI hl)
theorem aw_idiv (C : ctB p s0 m args c cc nL own ws) {x y : Int32} (hdg : decode cc pc = .ok (.idiv, 1)) (hne : ¬ y = 0) (kk : atG p l e R s0 m args below meth c cells slots Z nL I lv (.int (x / y) :: st) (pc + 1)) : atG p l e R s0 m args below meth c cells slots Z nL I lv (.int y :: .int x :: st) pc := fun H locs ls hI hl => lv_idiv C.1 C.2.1 hdg hne (kk H locs ls hI hl)
theorem aw_irem (C : ctB p s0 m args c cc nL own ws) {x y : Int32} (hdg : decode cc pc = .ok (.irem, 1)) (hne : ¬ y = 0) (kk : atG p l e R s0 m args below meth c cells slots Z nL I lv (.int (x - x / y * y) :: st) (pc + 1)) : atG p l e R s0 m args below meth c cells slots Z nL I lv (.int y :: .int x :: st) pc := fun H locs ls hI hl => lv_irem C.1 C.2.1 hdg hne (kk H locs ls hI hl)
theorem aw_ladd (C : ctB p s0 m args c cc nL own ws) {x y : Int64} (hdg : decode cc pc = .ok (.ladd, 1))  (kk : atG p l e R s0 m args below meth c cells slots Z nL I lv (.long (x + y) :: st) (pc + 1)) : atG p l e R s0 m args below meth c cells slots Z nL I lv (.long y :: .long x :: st) pc := fun H locs ls hI hl => lv_ladd C.1 C.2.1 hdg (kk H locs ls hI hl)
theorem aw_lsub (C : ctB p s0 m args c cc nL own ws) {x y : Int64} (hdg : decode cc pc = .ok (.lsub, 1))  (kk : atG p l e R s0 m args below meth c cells slots Z nL I lv (.long (x - y) :: st) (pc + 1)) : atG p l e R s0 m args below meth c cells slots Z nL I lv (.long y :: .long x :: st) pc := fun H locs ls hI hl => lv_lsub C.1 C.2.1 hdg (kk H locs ls hI hl)
theorem aw_lmul (C : ctB p s0 m args c cc nL own ws) {x y : Int64} (hdg : decode cc pc = .ok (.lmul, 1))  (kk : atG p l e R s0 m args below meth c cells slots Z nL I lv (.long (x * y) :: st) (pc + 1)) : atG p l e R s0 m args below meth c cells slots Z nL I lv (.long y :: .long x :: st) pc := fun H locs ls hI hl => lv_lmul C.1 C.2.1 hdg (kk H locs ls hI hl)
theorem aw_i2l (C : ctB p s0 m args c cc nL own ws) {x : Int32} (hdg : decode cc pc = .ok (.i2l, 1))  (kk : atG p l e R s0 m args below meth c cells slots Z nL I lv (.long (x.toInt64) :: st) (pc + 1)) : atG p l e R s0 m args below meth c cells slots Z nL I lv (.int x :: st) pc := fun H locs ls hI hl => lv_i2l C.1 C.2.1 hdg rfl (kk H locs ls hI hl)
theorem aw_l2i (C : ctB p s0 m args c cc nL own ws) {x : Int64} (hdg : decode cc pc = .ok (.l2i, 1))  (kk : atG p l e R s0 m args below meth c cells slots Z nL I lv (.int (x.toInt32) :: st) (pc + 1)) : atG p l e R s0 m args below meth c cells slots Z nL I lv (.long x :: st) pc := fun H locs ls hI hl => lv_l2i C.1 C.2.1 hdg rfl (kk H locs ls hI hl)
theorem aw_i2b (C : ctB p s0 m args c cc nL own ws) {x : Int32} (hdg : decode cc pc = .ok (.i2b, 1))  (kk : atG p l e R s0 m args below meth c cells slots Z nL I lv (.int (x.toInt8.toInt32) :: st) (pc + 1)) : atG p l e R s0 m args below meth c cells slots Z nL I lv (.int x :: st) pc := fun H locs ls hI hl => lv_i2b C.1 C.2.1 hdg rfl (kk H locs ls hI hl)
theorem aw_i2s (C : ctB p s0 m args c cc nL own ws) {x : Int32} (hdg : decode cc pc = .ok (.i2s, 1))  (kk : atG p l e R s0 m args below meth c cells slots Z nL I lv (.int (x.toInt16.toInt32) :: st) (pc + 1)) : atG p l e R s0 m args below meth c cells slots Z nL I lv (.int x :: st) pc := fun H locs ls hI hl => lv_i2s C.1 C.2.1 hdg rfl (kk H locs ls hI hl)
theorem aw_lcmp (C : ctB p s0 m args c cc nL own ws) {x y : Int64} (hdg : decode cc pc = .ok (.lcmp, 1))  (kk : atG p l e R s0 m args below meth c cells slots Z nL I lv (.int (lg_cmp x y) :: st) (pc + 1)) : atG p l e R s0 m args below meth c cells slots Z nL I lv (.long y :: .long x :: st) pc := fun H locs ls hI hl => W.lcmp C.1 C.2.1 hdg (kk H locs ls hI hl)
theorem aw_name {x : Int32} (kk : ∀ y : Int32, y = x → atG p l e R s0 m args below meth c cells slots Z nL I lv (.int y :: st) pc) : atG p l e R s0 m args below meth c cells slots Z nL I lv (.int x :: st) pc := kk x rfl
theorem aw_nameL {x : Int64} (kk : ∀ y : Int64, y = x → atG p l e R s0 m args below meth c cells slots Z nL I lv (.long y :: st) pc) : atG p l e R s0 m args below meth c cells slots Z nL I lv (.long x :: st) pc := kk x rfl
theorem aw_lv {lv' : List (Nat × Value)} (ks : List Nat) (h : lv_pick lv ks = lv') (kk : atG p l e R s0 m args below meth c cells slots Z nL I lv' st pc) : atG p l e R s0 m args below meth c cells slots Z nL I lv st pc := fun H locs ls hI hl => kk H locs ls hI (lv_sub hl ks h)
theorem aw_goto (C : ctB p s0 m args c cc nL own ws) {off : Int} {tgt : Nat} (hdg : decode cc pc = .ok (.goto off, 3)) (ht : (pc : Int) + off = (tgt : Int)) (kk : atG p l e R s0 m args below meth c cells slots Z nL I lv st tgt) : atG p l e R s0 m args below meth c cells slots Z nL I lv st pc := fun H locs ls hI hl => lv_goto C.1 C.2.1 hdg ht (kk H locs ls hI hl)
theorem aw_if_eq (C : ctB p s0 m args c cc nL own ws) {x : Int32} {off : Int} {tgt : Nat} (hdg : decode cc pc = .ok (.ifCond .eq off, 3)) (ht : (pc : Int) + off = (tgt : Int)) (kt : x = 0 → atG p l e R s0 m args below meth c cells slots Z nL I lv st tgt) (kf : ¬ x = 0 → atG p l e R s0 m args below meth c cells slots Z nL I lv st (pc + 3)) : atG p l e R s0 m args below meth c cells slots Z nL I lv (.int x :: st) pc := fun H locs ls hI hl => lv_if_eq C.1 C.2.1 hdg ht (fun h => kt h H locs ls hI hl) (fun h => kf h H locs ls hI hl)
theorem aw_if_ne (C : ctB p s0 m args c cc nL own ws) {x : Int32} {off : Int} {tgt : Nat} (hdg : decode cc pc = .ok (.ifCond .ne off, 3)) (ht : (pc : Int) + off = (tgt : Int)) (kt : x ≠ 0 → atG p l e R s0 m args below meth c cells slots Z nL I lv st tgt) (kf : x = 0 → atG p l e R s0 m args below meth c cells slots Z nL I lv st (pc + 3)) : atG p l e R s0 m args below meth c cells slots Z nL I lv (.int x :: st) pc := fun H locs ls hI hl => lv_if_ne C.1 C.2.1 hdg ht (fun h => kt h H locs ls hI hl) (fun h => kf h H locs ls hI hl)
theorem aw_if_lt (C : ctB p s0 m args c cc nL own ws) {x : Int32} {off : Int} {tgt : Nat} (hdg : decode cc pc = .ok (.ifCond .lt off, 3)) (ht : (pc : Int) + off = (tgt : Int)) (kt : x < 0 → atG p l e R s0 m args below meth c cells slots Z nL I lv st tgt) (kf : ¬ x < 0 → atG p l e R s0 m args below meth c cells slots Z nL I lv st (pc + 3)) : atG p l e R s0 m args below meth c cells slots Z nL I lv (.int x :: st) pc := fun H locs ls hI hl => lv_if_lt C.1 C.2.1 hdg ht (fun h => kt h H locs ls hI hl) (fun h => kf h H locs ls hI hl)
theorem aw_if_ge (C : ctB p s0 m args c cc nL own ws) {x : Int32} {off : Int} {tgt : Nat} (hdg : decode cc pc = .ok (.ifCond .ge off, 3)) (ht : (pc : Int) + off = (tgt : Int)) (kt : 0 ≤ x → atG p l e R s0 m args below meth c cells slots Z nL I lv st tgt) (kf : ¬ 0 ≤ x → atG p l e R s0 m args below meth c cells slots Z nL I lv st (pc + 3)) : atG p l e R s0 m args below meth c cells slots Z nL I lv (.int x :: st) pc := fun H locs ls hI hl => lv_if_ge C.1 C.2.1 hdg ht (fun h => kt h H locs ls hI hl) (fun h => kf h H locs ls hI hl)
theorem aw_if_gt (C : ctB p s0 m args c cc nL own ws) {x : Int32} {off : Int} {tgt : Nat} (hdg : decode cc pc = .ok (.ifCond .gt off, 3)) (ht : (pc : Int) + off = (tgt : Int)) (kt : 0 < x → atG p l e R s0 m args below meth c cells slots Z nL I lv st tgt) (kf : ¬ 0 < x → atG p l e R s0 m args below meth c cells slots Z nL I lv st (pc + 3)) : atG p l e R s0 m args below meth c cells slots Z nL I lv (.int x :: st) pc := fun H locs ls hI hl => lv_if_gt C.1 C.2.1 hdg ht (fun h => kt h H locs ls hI hl) (fun h => kf h H locs ls hI hl)
theorem aw_if_le (C : ctB p s0 m args c cc nL own ws) {x : Int32} {off : Int} {tgt : Nat} (hdg : decode cc pc = .ok (.ifCond .le off, 3)) (ht : (pc : Int) + off = (tgt : Int)) (kt : x ≤ 0 → atG p l e R s0 m args below meth c cells slots Z nL I lv st tgt) (kf : ¬ x ≤ 0 → atG p l e R s0 m args below meth c cells slots Z nL I lv st (pc + 3)) : atG p l e R s0 m args below meth c cells slots Z nL I lv (.int x :: st) pc := fun H locs ls hI hl => lv_if_le C.1 C.2.1 hdg ht (fun h => kt h H locs ls hI hl) (fun h => kf h H locs ls hI hl)
theorem aw_icmp_eq (C : ctB p s0 m args c cc nL own ws) {x y : Int32} {off : Int} {tgt : Nat} (hdg : decode cc pc = .ok (.if_icmp .eq off, 3)) (ht : (pc : Int) + off = (tgt : Int)) (kt : x = y → atG p l e R s0 m args below meth c cells slots Z nL I lv st tgt) (kf : ¬ x = y → atG p l e R s0 m args below meth c cells slots Z nL I lv st (pc + 3)) : atG p l e R s0 m args below meth c cells slots Z nL I lv (.int y :: .int x :: st) pc := fun H locs ls hI hl => lv_icmp_eq C.1 C.2.1 hdg ht (fun h => kt h H locs ls hI hl) (fun h => kf h H locs ls hI hl)
theorem aw_icmp_ne (C : ctB p s0 m args c cc nL own ws) {x y : Int32} {off : Int} {tgt : Nat} (hdg : decode cc pc = .ok (.if_icmp .ne off, 3)) (ht : (pc : Int) + off = (tgt : Int)) (kt : x ≠ y → atG p l e R s0 m args below meth c cells slots Z nL I lv st tgt) (kf : x = y → atG p l e R s0 m args below meth c cells slots Z nL I lv st (pc + 3)) : atG p l e R s0 m args below meth c cells slots Z nL I lv (.int y :: .int x :: st) pc := fun H locs ls hI hl => lv_icmp_ne C.1 C.2.1 hdg ht (fun h => kt h H locs ls hI hl) (fun h => kf h H locs ls hI hl)
theorem aw_icmp_lt (C : ctB p s0 m args c cc nL own ws) {x y : Int32} {off : Int} {tgt : Nat} (hdg : decode cc pc = .ok (.if_icmp .lt off, 3)) (ht : (pc : Int) + off = (tgt : Int)) (kt : x < y → atG p l e R s0 m args below meth c cells slots Z nL I lv st tgt) (kf : ¬ x < y → atG p l e R s0 m args below meth c cells slots Z nL I lv st (pc + 3)) : atG p l e R s0 m args below meth c cells slots Z nL I lv (.int y :: .int x :: st) pc := fun H locs ls hI hl => lv_icmp_lt C.1 C.2.1 hdg ht (fun h => kt h H locs ls hI hl) (fun h => kf h H locs ls hI hl)
theorem aw_icmp_ge (C : ctB p s0 m args c cc nL own ws) {x y : Int32} {off : Int} {tgt : Nat} (hdg : decode cc pc = .ok (.if_icmp .ge off, 3)) (ht : (pc : Int) + off = (tgt : Int)) (kt : y ≤ x → atG p l e R s0 m args below meth c cells slots Z nL I lv st tgt) (kf : ¬ y ≤ x → atG p l e R s0 m args below meth c cells slots Z nL I lv st (pc + 3)) : atG p l e R s0 m args below meth c cells slots Z nL I lv (.int y :: .int x :: st) pc := fun H locs ls hI hl => lv_icmp_ge C.1 C.2.1 hdg ht (fun h => kt h H locs ls hI hl) (fun h => kf h H locs ls hI hl)
theorem aw_icmp_gt (C : ctB p s0 m args c cc nL own ws) {x y : Int32} {off : Int} {tgt : Nat} (hdg : decode cc pc = .ok (.if_icmp .gt off, 3)) (ht : (pc : Int) + off = (tgt : Int)) (kt : y < x → atG p l e R s0 m args below meth c cells slots Z nL I lv st tgt) (kf : ¬ y < x → atG p l e R s0 m args below meth c cells slots Z nL I lv st (pc + 3)) : atG p l e R s0 m args below meth c cells slots Z nL I lv (.int y :: .int x :: st) pc := fun H locs ls hI hl => lv_icmp_gt C.1 C.2.1 hdg ht (fun h => kt h H locs ls hI hl) (fun h => kf h H locs ls hI hl)
theorem aw_icmp_le (C : ctB p s0 m args c cc nL own ws) {x y : Int32} {off : Int} {tgt : Nat} (hdg : decode cc pc = .ok (.if_icmp .le off, 3)) (ht : (pc : Int) + off = (tgt : Int)) (kt : x ≤ y → atG p l e R s0 m args below meth c cells slots Z nL I lv st tgt) (kf : ¬ x ≤ y → atG p l e R s0 m args below meth c cells slots Z nL I lv st (pc + 3)) : atG p l e R s0 m args below meth c cells slots Z nL I lv (.int y :: .int x :: st) pc := fun H locs ls hI hl => lv_icmp_le C.1 C.2.1 hdg ht (fun h => kt h H locs ls hI hl) (fun h => kf h H locs ls hI hl)
theorem aw_tabIn (C : ctB p s0 m args c cc nL own ws) {dflt lo hi : Int} {offs : Array Int} {len : Nat} {x y : Int32} {off : Int} {tgt : Nat} (hdg : decode cc pc = .ok (.tableswitch dflt lo hi offs, len)) (hxy : x = y) (h1 : ¬ y.toInt < lo) (h2 : ¬ hi < y.toInt) (ho : offs[(y.toInt - lo).toNat]? = some off) (ht : (pc : Int) + off = (tgt : Int)) (kk : atG p l e R s0 m args below meth c cells slots Z nL I lv st tgt) : atG p l e R s0 m args below meth c cells slots Z nL I lv (.int x :: st) pc := fun H locs ls hI hl => by subst hxy; exact lv_tableIn C.1 C.2.1 hdg h1 h2 ho ht (kk H locs ls hI hl)
theorem aw_tabOut (C : ctB p s0 m args c cc nL own ws) {dflt lo hi : Int} {offs : Array Int} {len : Nat} {x : Int32} {tgt : Nat} (hdg : decode cc pc = .ok (.tableswitch dflt lo hi offs, len)) (h : x.toInt < lo ∨ hi < x.toInt) (ht : (pc : Int) + dflt = (tgt : Int)) (kk : atG p l e R s0 m args below meth c cells slots Z nL I lv st tgt) : atG p l e R s0 m args below meth c cells slots Z nL I lv (.int x :: st) pc := fun H locs ls hI hl => lv_tableOut C.1 C.2.1 hdg h ht (kk H locs ls hI hl)
theorem tab_out {x : Int32} {hi : Int} (lo : Int) (n : Nat) (hh : hi = lo + n - 1) (h : ∀ j : Nat, j < n → x.toInt ≠ lo + j) : x.toInt < lo ∨ hi < x.toInt := by
  by_cases q : x.toInt < lo
  · exact Or.inl q
  · refine Or.inr ?_
    by_cases r : hi < x.toInt
    · exact r
    · exact absurd (show x.toInt = lo + ((x.toInt - lo).toNat : Nat) by omega) (h _ (by omega))
theorem aw_iald (C : ctB p s0 m args c cc nL own ws) (K : ctK s0 D A H0 cy) {w0 : va_W} (hdg : decode cc pc = .ok (.iaload, 1)) (q0 : Nat) {a n : Nat} {f : Nat → Int32} {i : Int32} (ha : w0[q0]? = some (a, .inl (cy 0, n, .inl f))) (hin : vp_in i n) (kk : atG p l e R s0 m args below meth c cells slots Z nL (iW D A H0 w0) lv (.int (f i.toNatClampNeg) :: st) (pc + 1)) : atG p l e R s0 m args below meth c cells slots Z nL (iW D A H0 w0) lv (.int i :: .ref a :: st) pc := fun H locs ls hI hl => va_iald C.1 C.2.1 K.1 hI.1 q0 0 ha rfl hin hdg (kk H locs ls hI hl)
theorem aw_zald (C : ctB p s0 m args c cc nL own ws) (K : ctK s0 D A H0 cy) {w0 : va_W} (hdg : decode cc pc = .ok (.baload, 1)) (q0 : Nat) {a n : Nat} {f : Nat → Int32} {i : Int32} (ha : w0[q0]? = some (a, .inl (cy 1, n, .inl f))) (hin : vp_in i n) (kk : atG p l e R s0 m args below meth c cells slots Z nL (iW D A H0 w0) lv (.int (f i.toNatClampNeg) :: st) (pc + 1)) : atG p l e R s0 m args below meth c cells slots Z nL (iW D A H0 w0) lv (.int i :: .ref a :: st) pc := fun H locs ls hI hl => va_zald C.1 C.2.1 K.1 hI.1 q0 1 ha rfl hin hdg (kk H locs ls hI hl)
theorem aw_lald (C : ctB p s0 m args c cc nL own ws) (K : ctK s0 D A H0 cy) {w0 : va_W} (hdg : decode cc pc = .ok (.laload, 1)) (q0 : Nat) {a n : Nat} {f : Nat → Int64} {i : Int32} (ha : w0[q0]? = some (a, .inl (cy 2, n, .inr (.inl f)))) (hin : vp_in i n) (kk : atG p l e R s0 m args below meth c cells slots Z nL (iW D A H0 w0) lv (.long (f i.toNatClampNeg) :: st) (pc + 1)) : atG p l e R s0 m args below meth c cells slots Z nL (iW D A H0 w0) lv (.int i :: .ref a :: st) pc := fun H locs ls hI hl => va_lald C.1 C.2.1 K.1 hI.1 q0 2 ha rfl hin hdg (kk H locs ls hI hl)
theorem aw_iast (C : ctB p s0 m args c cc nL own ws) (K : ctK s0 D A H0 cy) {w0 w1 : va_W} (hdg : decode cc pc = .ok (.iastore, 1)) (q0 : Nat) {a n : Nat} {f : Nat → Int32} {i : Int32} {x : Int32} (ha : w0[q0]? = some (a, .inl (cy 0, n, .inl f))) (hw : w0.set q0 (a, .inl (cy 0, n, .inl (upd f i.toNatClampNeg x))) = w1) (hin : vp_in i n) (kk : atG p l e R s0 m args below meth c cells slots Z nL (iW D A H0 w1) lv st (pc + 1)) : atG p l e R s0 m args below meth c cells slots Z nL (iW D A H0 w0) lv (.int x :: .int i :: .ref a :: st) pc := fun H locs ls hI hl => va_iast C.1 C.2.1 K.1 hI.1 hI.2.1 hI.2.2 q0 0 ha rfl hin hdg (fun H1 locs1 h1 h2 h3 => by rw [hw] at h1 h2; exact kk H1 locs1 ls ⟨h1, h2, h3⟩ hl)
theorem aw_zast (C : ctB p s0 m args c cc nL own ws) (K : ctK s0 D A H0 cy) {w0 w1 : va_W} (hdg : decode cc pc = .ok (.bastore, 1)) (q0 : Nat) {a n : Nat} {f : Nat → Int32} {i : Int32} {x : Int32} (ha : w0[q0]? = some (a, .inl (cy 1, n, .inl f))) (hw : w0.set q0 (a, .inl (cy 1, n, .inl (upd f i.toNatClampNeg (vp_nar .boolean x)))) = w1) (hin : vp_in i n) (kk : atG p l e R s0 m args below meth c cells slots Z nL (iW D A H0 w1) lv st (pc + 1)) : atG p l e R s0 m args below meth c cells slots Z nL (iW D A H0 w0) lv (.int x :: .int i :: .ref a :: st) pc := fun H locs ls hI hl => va_zast C.1 C.2.1 K.1 hI.1 hI.2.1 hI.2.2 q0 1 ha rfl hin hdg (fun H1 locs1 h1 h2 h3 => by rw [hw] at h1 h2; exact kk H1 locs1 ls ⟨h1, h2, h3⟩ hl)
theorem aw_last (C : ctB p s0 m args c cc nL own ws) (K : ctK s0 D A H0 cy) {w0 w1 : va_W} (hdg : decode cc pc = .ok (.lastore, 1)) (q0 : Nat) {a n : Nat} {f : Nat → Int64} {i : Int32} {x : Int64} (ha : w0[q0]? = some (a, .inl (cy 2, n, .inr (.inl f)))) (hw : w0.set q0 (a, .inl (cy 2, n, .inr (.inl (vp_updL f i.toNatClampNeg x)))) = w1) (hin : vp_in i n) (kk : atG p l e R s0 m args below meth c cells slots Z nL (iW D A H0 w1) lv st (pc + 1)) : atG p l e R s0 m args below meth c cells slots Z nL (iW D A H0 w0) lv (.long x :: .int i :: .ref a :: st) pc := fun H locs ls hI hl => va_last C.1 C.2.1 K.1 hI.1 hI.2.1 hI.2.2 q0 2 ha rfl hin hdg (fun H1 locs1 h1 h2 h3 => by rw [hw] at h1 h2; exact kk H1 locs1 ls ⟨h1, h2, h3⟩ hl)
theorem aw_alen (C : ctB p s0 m args c cc nL own ws) (K : ctK s0 D A H0 cy) {w0 : va_W} (hdg : decode cc pc = .ok (.arraylength, 1)) (q0 t0 : Nat) {a : Nat} {cA : ClassId} {z : vp_A} {ty : FieldType} (ha : w0[q0]? = some (a, .inl (cA, z))) (ht : (tyW cy)[t0]? = some (cA, ty)) (kk : atG p l e R s0 m args below meth c cells slots Z nL (iW D A H0 w0) lv (.int (Int32.ofNat z.1) :: st) (pc + 1)) : atG p l e R s0 m args below meth c cells slots Z nL (iW D A H0 w0) lv (.ref a :: st) pc := fun H locs ls hI hl => va_alen C.1 C.2.1 K.1 hI.1 q0 t0 ha ht rfl hdg (kk H locs ls hI hl)
theorem aw_getX0 (C : ctB p s0 m args c cc nL own ws) (K : ctK s0 D A H0 cy) (hin : ∀ w ∈ wsX00, w ∈ ws) {w0 : va_W} {ix : Nat} (hdg : decode cc pc = .ok (.getfield ix, 3)) (k : Nat) (hk : k < 2) (hlk : Cond.fieldLink own ix (TX0 k).1 (TX0 k).2.1 (TX0 k).2.2.1 ∈ ws) (q0 : Nat) {a : Nat} {fs : List Value} (he : w0[q0]? = some (a, .inr (0, fs))) {v : Value} (hv : fs[k]? = some v) (kk : atG p l e R s0 m args below meth c cells slots Z nL (iW D A H0 w0) lv (v :: st) (pc + 3)) : atG p l e R s0 m args below meth c cells slots Z nL (iW D A H0 w0) lv (.ref a :: st) pc := fun H locs ls hI hl => va_get (D := D) (ci := 0) (v := v) (C := RX0) (T := TX0) (N := 2) C.1 C.2.1 C.2.2.2.2.1 hin C.2.2.2.1 K.1 hI.1 q0 he rfl k hk (C.2.2.2.2.1 _ hlk) (fun _ h => h) hv hdg (kk H locs ls hI hl)
theorem aw_putX0 (C : ctB p s0 m args c cc nL own ws) (K : ctK s0 D A H0 cy) (hin : ∀ w ∈ wsX00, w ∈ ws) {w0 w1 : va_W} {ix : Nat} (hdg : decode cc pc = .ok (.putfield ix, 3)) (k : Nat) (hk : k < 2) (hlk : Cond.fieldLink own ix (TX0 k).1 (TX0 k).2.1 (TX0 k).2.2.1 ∈ ws) (q0 : Nat) {a : Nat} {fs : List Value} (he : w0[q0]? = some (a, .inr (0, fs))) {ty : FieldType} {v : Value} (hfin : (TX0 k).2.2.2 = false) (hd : parseFieldDescriptor (TX0 k).2.2.1 = some ty) (hnr : narrow ty v = v) (hfit : fits ty v = true) (hlen : k < fs.length) (hw : w0.set q0 (a, .inr (0, fs.set k v)) = w1) (kk : atG p l e R s0 m args below meth c cells slots Z nL (iW D A H0 w1) lv st (pc + 3)) : atG p l e R s0 m args below meth c cells slots Z nL (iW D A H0 w0) lv (v :: .ref a :: st) pc := fun H locs ls hI hl => va_put (D := D) (ci := 0) (v := v) (ty := ty) (C := RX0) (T := TX0) (N := 2) C.1 C.2.1 C.2.2.2.2.1 hin tyX0 tyX0_ok nmX0 C.2.2.2.1 K.1 hI.1 hI.2.1 hI.2.2 q0 he rfl k hk (C.2.2.2.2.1 _ hlk) (fun _ h => h) hfin hd hnr hfit hlen hdg (fun H1 locs1 h1 h2 h3 => by rw [hw] at h1 h2; exact kk H1 locs1 ls ⟨h1, h2, h3⟩ hl)
theorem aw_getX1 (C : ctB p s0 m args c cc nL own ws) (K : ctK s0 D A H0 cy) (hin : ∀ w ∈ wsX10, w ∈ ws) {w0 : va_W} {ix : Nat} (hdg : decode cc pc = .ok (.getfield ix, 3)) (k : Nat) (hk : k < 17) (hlk : Cond.fieldLink own ix (TX1 k).1 (TX1 k).2.1 (TX1 k).2.2.1 ∈ ws) (q0 : Nat) {a : Nat} {fs : List Value} (he : w0[q0]? = some (a, .inr (1, fs))) {v : Value} (hv : fs[k]? = some v) (kk : atG p l e R s0 m args below meth c cells slots Z nL (iW D A H0 w0) lv (v :: st) (pc + 3)) : atG p l e R s0 m args below meth c cells slots Z nL (iW D A H0 w0) lv (.ref a :: st) pc := fun H locs ls hI hl => va_get (D := D) (ci := 1) (v := v) (C := RX1) (T := TX1) (N := 17) C.1 C.2.1 C.2.2.2.2.1 hin C.2.2.2.1 K.1 hI.1 q0 he rfl k hk (C.2.2.2.2.1 _ hlk) (fun _ h => h) hv hdg (kk H locs ls hI hl)
theorem aw_putX1 (C : ctB p s0 m args c cc nL own ws) (K : ctK s0 D A H0 cy) (hin : ∀ w ∈ wsX10, w ∈ ws) {w0 w1 : va_W} {ix : Nat} (hdg : decode cc pc = .ok (.putfield ix, 3)) (k : Nat) (hk : k < 17) (hlk : Cond.fieldLink own ix (TX1 k).1 (TX1 k).2.1 (TX1 k).2.2.1 ∈ ws) (q0 : Nat) {a : Nat} {fs : List Value} (he : w0[q0]? = some (a, .inr (1, fs))) {ty : FieldType} {v : Value} (hfin : (TX1 k).2.2.2 = false) (hd : parseFieldDescriptor (TX1 k).2.2.1 = some ty) (hnr : narrow ty v = v) (hfit : fits ty v = true) (hlen : k < fs.length) (hw : w0.set q0 (a, .inr (1, fs.set k v)) = w1) (kk : atG p l e R s0 m args below meth c cells slots Z nL (iW D A H0 w1) lv st (pc + 3)) : atG p l e R s0 m args below meth c cells slots Z nL (iW D A H0 w0) lv (v :: .ref a :: st) pc := fun H locs ls hI hl => va_put (D := D) (ci := 1) (v := v) (ty := ty) (C := RX1) (T := TX1) (N := 17) C.1 C.2.1 C.2.2.2.2.1 hin tyX1 tyX1_ok nmX1 C.2.2.2.1 K.1 hI.1 hI.2.1 hI.2.2 q0 he rfl k hk (C.2.2.2.2.1 _ hlk) (fun _ h => h) hfin hd hnr hfit hlen hdg (fun H1 locs1 h1 h2 h3 => by rw [hw] at h1 h2; exact kk H1 locs1 ls ⟨h1, h2, h3⟩ hl)
theorem aw_getX2 (C : ctB p s0 m args c cc nL own ws) (K : ctK s0 D A H0 cy) (hin : ∀ w ∈ wsX20, w ∈ ws) {w0 : va_W} {ix : Nat} (hdg : decode cc pc = .ok (.getfield ix, 3)) (k : Nat) (hk : k < 4) (hlk : Cond.fieldLink own ix (TX2 k).1 (TX2 k).2.1 (TX2 k).2.2.1 ∈ ws) (q0 : Nat) {a : Nat} {fs : List Value} (he : w0[q0]? = some (a, .inr (2, fs))) {v : Value} (hv : fs[k]? = some v) (kk : atG p l e R s0 m args below meth c cells slots Z nL (iW D A H0 w0) lv (v :: st) (pc + 3)) : atG p l e R s0 m args below meth c cells slots Z nL (iW D A H0 w0) lv (.ref a :: st) pc := fun H locs ls hI hl => va_get (D := D) (ci := 2) (v := v) (C := RX2) (T := TX2) (N := 4) C.1 C.2.1 C.2.2.2.2.1 hin C.2.2.2.1 K.1 hI.1 q0 he rfl k hk (C.2.2.2.2.1 _ hlk) (fun _ h => h) hv hdg (kk H locs ls hI hl)
theorem aw_putX2 (C : ctB p s0 m args c cc nL own ws) (K : ctK s0 D A H0 cy) (hin : ∀ w ∈ wsX20, w ∈ ws) {w0 w1 : va_W} {ix : Nat} (hdg : decode cc pc = .ok (.putfield ix, 3)) (k : Nat) (hk : k < 4) (hlk : Cond.fieldLink own ix (TX2 k).1 (TX2 k).2.1 (TX2 k).2.2.1 ∈ ws) (q0 : Nat) {a : Nat} {fs : List Value} (he : w0[q0]? = some (a, .inr (2, fs))) {ty : FieldType} {v : Value} (hfin : (TX2 k).2.2.2 = false) (hd : parseFieldDescriptor (TX2 k).2.2.1 = some ty) (hnr : narrow ty v = v) (hfit : fits ty v = true) (hlen : k < fs.length) (hw : w0.set q0 (a, .inr (2, fs.set k v)) = w1) (kk : atG p l e R s0 m args below meth c cells slots Z nL (iW D A H0 w1) lv st (pc + 3)) : atG p l e R s0 m args below meth c cells slots Z nL (iW D A H0 w0) lv (v :: .ref a :: st) pc := fun H locs ls hI hl => va_put (D := D) (ci := 2) (v := v) (ty := ty) (C := RX2) (T := TX2) (N := 4) C.1 C.2.1 C.2.2.2.2.1 hin tyX2 tyX2_ok nmX2 C.2.2.2.1 K.1 hI.1 hI.2.1 hI.2.2 q0 he rfl k hk (C.2.2.2.2.1 _ hlk) (fun _ h => h) hfin hd hnr hfit hlen hdg (fun H1 locs1 h1 h2 h3 => by rw [hw] at h1 h2; exact kk H1 locs1 ls ⟨h1, h2, h3⟩ hl)
theorem aw_getX3 (C : ctB p s0 m args c cc nL own ws) (K : ctK s0 D A H0 cy) (hin : ∀ w ∈ wsX30, w ∈ ws) {w0 : va_W} {ix : Nat} (hdg : decode cc pc = .ok (.getfield ix, 3)) (k : Nat) (hk : k < 4) (hlk : Cond.fieldLink own ix (TX3 k).1 (TX3 k).2.1 (TX3 k).2.2.1 ∈ ws) (q0 : Nat) {a : Nat} {fs : List Value} (he : w0[q0]? = some (a, .inr (3, fs))) {v : Value} (hv : fs[k]? = some v) (kk : atG p l e R s0 m args below meth c cells slots Z nL (iW D A H0 w0) lv (v :: st) (pc + 3)) : atG p l e R s0 m args below meth c cells slots Z nL (iW D A H0 w0) lv (.ref a :: st) pc := fun H locs ls hI hl => va_get (D := D) (ci := 3) (v := v) (C := RX3) (T := TX3) (N := 4) C.1 C.2.1 C.2.2.2.2.1 hin C.2.2.2.1 K.1 hI.1 q0 he rfl k hk (C.2.2.2.2.1 _ hlk) (fun _ h => h) hv hdg (kk H locs ls hI hl)
theorem aw_putX3 (C : ctB p s0 m args c cc nL own ws) (K : ctK s0 D A H0 cy) (hin : ∀ w ∈ wsX30, w ∈ ws) {w0 w1 : va_W} {ix : Nat} (hdg : decode cc pc = .ok (.putfield ix, 3)) (k : Nat) (hk : k < 4) (hlk : Cond.fieldLink own ix (TX3 k).1 (TX3 k).2.1 (TX3 k).2.2.1 ∈ ws) (q0 : Nat) {a : Nat} {fs : List Value} (he : w0[q0]? = some (a, .inr (3, fs))) {ty : FieldType} {v : Value} (hfin : (TX3 k).2.2.2 = false) (hd : parseFieldDescriptor (TX3 k).2.2.1 = some ty) (hnr : narrow ty v = v) (hfit : fits ty v = true) (hlen : k < fs.length) (hw : w0.set q0 (a, .inr (3, fs.set k v)) = w1) (kk : atG p l e R s0 m args below meth c cells slots Z nL (iW D A H0 w1) lv st (pc + 3)) : atG p l e R s0 m args below meth c cells slots Z nL (iW D A H0 w0) lv (v :: .ref a :: st) pc := fun H locs ls hI hl => va_put (D := D) (ci := 3) (v := v) (ty := ty) (C := RX3) (T := TX3) (N := 4) C.1 C.2.1 C.2.2.2.2.1 hin tyX3 tyX3_ok nmX3 C.2.2.2.1 K.1 hI.1 hI.2.1 hI.2.2 q0 he rfl k hk (C.2.2.2.2.1 _ hlk) (fun _ h => h) hfin hd hnr hfit hlen hdg (fun H1 locs1 h1 h2 h3 => by rw [hw] at h1 h2; exact kk H1 locs1 ls ⟨h1, h2, h3⟩ hl)
theorem aw_getX4 (C : ctB p s0 m args c cc nL own ws) (K : ctK s0 D A H0 cy) (hin : ∀ w ∈ wsX40, w ∈ ws) {w0 : va_W} {ix : Nat} (hdg : decode cc pc = .ok (.getfield ix, 3)) (k : Nat) (hk : k < 2) (hlk : Cond.fieldLink own ix (TX4 k).1 (TX4 k).2.1 (TX4 k).2.2.1 ∈ ws) (q0 : Nat) {a : Nat} {fs : List Value} (he : w0[q0]? = some (a, .inr (4, fs))) {v : Value} (hv : fs[k]? = some v) (kk : atG p l e R s0 m args below meth c cells slots Z nL (iW D A H0 w0) lv (v :: st) (pc + 3)) : atG p l e R s0 m args below meth c cells slots Z nL (iW D A H0 w0) lv (.ref a :: st) pc := fun H locs ls hI hl => va_get (D := D) (ci := 4) (v := v) (C := RX4) (T := TX4) (N := 2) C.1 C.2.1 C.2.2.2.2.1 hin C.2.2.2.1 K.1 hI.1 q0 he rfl k hk (C.2.2.2.2.1 _ hlk) (fun _ h => h) hv hdg (kk H locs ls hI hl)
theorem aw_putX4 (C : ctB p s0 m args c cc nL own ws) (K : ctK s0 D A H0 cy) (hin : ∀ w ∈ wsX40, w ∈ ws) {w0 w1 : va_W} {ix : Nat} (hdg : decode cc pc = .ok (.putfield ix, 3)) (k : Nat) (hk : k < 2) (hlk : Cond.fieldLink own ix (TX4 k).1 (TX4 k).2.1 (TX4 k).2.2.1 ∈ ws) (q0 : Nat) {a : Nat} {fs : List Value} (he : w0[q0]? = some (a, .inr (4, fs))) {ty : FieldType} {v : Value} (hfin : (TX4 k).2.2.2 = false) (hd : parseFieldDescriptor (TX4 k).2.2.1 = some ty) (hnr : narrow ty v = v) (hfit : fits ty v = true) (hlen : k < fs.length) (hw : w0.set q0 (a, .inr (4, fs.set k v)) = w1) (kk : atG p l e R s0 m args below meth c cells slots Z nL (iW D A H0 w1) lv st (pc + 3)) : atG p l e R s0 m args below meth c cells slots Z nL (iW D A H0 w0) lv (v :: .ref a :: st) pc := fun H locs ls hI hl => va_put (D := D) (ci := 4) (v := v) (ty := ty) (C := RX4) (T := TX4) (N := 2) C.1 C.2.1 C.2.2.2.2.1 hin tyX4 tyX4_ok nmX4 C.2.2.2.1 K.1 hI.1 hI.2.1 hI.2.2 q0 he rfl k hk (C.2.2.2.2.1 _ hlk) (fun _ h => h) hfin hd hnr hfit hlen hdg (fun H1 locs1 h1 h2 h3 => by rw [hw] at h1 h2; exact kk H1 locs1 ls ⟨h1, h2, h3⟩ hl)
theorem aw_getX5 (C : ctB p s0 m args c cc nL own ws) (K : ctK s0 D A H0 cy) (hin : ∀ w ∈ wsX50, w ∈ ws) {w0 : va_W} {ix : Nat} (hdg : decode cc pc = .ok (.getfield ix, 3)) (k : Nat) (hk : k < 6) (hlk : Cond.fieldLink own ix (TX5 k).1 (TX5 k).2.1 (TX5 k).2.2.1 ∈ ws) (q0 : Nat) {a : Nat} {fs : List Value} (he : w0[q0]? = some (a, .inr (5, fs))) {v : Value} (hv : fs[k]? = some v) (kk : atG p l e R s0 m args below meth c cells slots Z nL (iW D A H0 w0) lv (v :: st) (pc + 3)) : atG p l e R s0 m args below meth c cells slots Z nL (iW D A H0 w0) lv (.ref a :: st) pc := fun H locs ls hI hl => va_get (D := D) (ci := 5) (v := v) (C := RX5) (T := TX5) (N := 6) C.1 C.2.1 C.2.2.2.2.1 hin C.2.2.2.1 K.1 hI.1 q0 he rfl k hk (C.2.2.2.2.1 _ hlk) (fun _ h => h) hv hdg (kk H locs ls hI hl)
theorem aw_putX5 (C : ctB p s0 m args c cc nL own ws) (K : ctK s0 D A H0 cy) (hin : ∀ w ∈ wsX50, w ∈ ws) {w0 w1 : va_W} {ix : Nat} (hdg : decode cc pc = .ok (.putfield ix, 3)) (k : Nat) (hk : k < 6) (hlk : Cond.fieldLink own ix (TX5 k).1 (TX5 k).2.1 (TX5 k).2.2.1 ∈ ws) (q0 : Nat) {a : Nat} {fs : List Value} (he : w0[q0]? = some (a, .inr (5, fs))) {ty : FieldType} {v : Value} (hfin : (TX5 k).2.2.2 = false) (hd : parseFieldDescriptor (TX5 k).2.2.1 = some ty) (hnr : narrow ty v = v) (hfit : fits ty v = true) (hlen : k < fs.length) (hw : w0.set q0 (a, .inr (5, fs.set k v)) = w1) (kk : atG p l e R s0 m args below meth c cells slots Z nL (iW D A H0 w1) lv st (pc + 3)) : atG p l e R s0 m args below meth c cells slots Z nL (iW D A H0 w0) lv (v :: .ref a :: st) pc := fun H locs ls hI hl => va_put (D := D) (ci := 5) (v := v) (ty := ty) (C := RX5) (T := TX5) (N := 6) C.1 C.2.1 C.2.2.2.2.1 hin tyX5 tyX5_ok nmX5 C.2.2.2.1 K.1 hI.1 hI.2.1 hI.2.2 q0 he rfl k hk (C.2.2.2.2.1 _ hlk) (fun _ h => h) hfin hd hnr hfit hlen hdg (fun H1 locs1 h1 h2 h3 => by rw [hw] at h1 h2; exact kk H1 locs1 ls ⟨h1, h2, h3⟩ hl)
theorem aw_getX6 (C : ctB p s0 m args c cc nL own ws) (K : ctK s0 D A H0 cy) (hin : ∀ w ∈ wsX60, w ∈ ws) {w0 : va_W} {ix : Nat} (hdg : decode cc pc = .ok (.getfield ix, 3)) (k : Nat) (hk : k < 30) (hlk : Cond.fieldLink own ix (TX6 k).1 (TX6 k).2.1 (TX6 k).2.2.1 ∈ ws) (q0 : Nat) {a : Nat} {fs : List Value} (he : w0[q0]? = some (a, .inr (6, fs))) {v : Value} (hv : fs[k]? = some v) (kk : atG p l e R s0 m args below meth c cells slots Z nL (iW D A H0 w0) lv (v :: st) (pc + 3)) : atG p l e R s0 m args below meth c cells slots Z nL (iW D A H0 w0) lv (.ref a :: st) pc := fun H locs ls hI hl => va_get (D := D) (ci := 6) (v := v) (C := RX6) (T := TX6) (N := 30) C.1 C.2.1 C.2.2.2.2.1 hin C.2.2.2.1 K.1 hI.1 q0 he rfl k hk (C.2.2.2.2.1 _ hlk) (fun _ h => h) hv hdg (kk H locs ls hI hl)
theorem aw_putX6 (C : ctB p s0 m args c cc nL own ws) (K : ctK s0 D A H0 cy) (hin : ∀ w ∈ wsX60, w ∈ ws) {w0 w1 : va_W} {ix : Nat} (hdg : decode cc pc = .ok (.putfield ix, 3)) (k : Nat) (hk : k < 30) (hlk : Cond.fieldLink own ix (TX6 k).1 (TX6 k).2.1 (TX6 k).2.2.1 ∈ ws) (q0 : Nat) {a : Nat} {fs : List Value} (he : w0[q0]? = some (a, .inr (6, fs))) {ty : FieldType} {v : Value} (hfin : (TX6 k).2.2.2 = false) (hd : parseFieldDescriptor (TX6 k).2.2.1 = some ty) (hnr : narrow ty v = v) (hfit : fits ty v = true) (hlen : k < fs.length) (hw : w0.set q0 (a, .inr (6, fs.set k v)) = w1) (kk : atG p l e R s0 m args below meth c cells slots Z nL (iW D A H0 w1) lv st (pc + 3)) : atG p l e R s0 m args below meth c cells slots Z nL (iW D A H0 w0) lv (v :: .ref a :: st) pc := fun H locs ls hI hl => va_put (D := D) (ci := 6) (v := v) (ty := ty) (C := RX6) (T := TX6) (N := 30) C.1 C.2.1 C.2.2.2.2.1 hin tyX6 tyX6_ok nmX6 C.2.2.2.1 K.1 hI.1 hI.2.1 hI.2.2 q0 he rfl k hk (C.2.2.2.2.1 _ hlk) (fun _ h => h) hfin hd hnr hfit hlen hdg (fun H1 locs1 h1 h2 h3 => by rw [hw] at h1 h2; exact kk H1 locs1 ls ⟨h1, h2, h3⟩ hl)
end AW
section MET
variable {l : Launch} {D : va_G} {cy : Nat → ClassId} {y : MethodName} {ws ws' : List Cond} {rm : Room} {cc : ByteArray} {maxL : Nat} {av : List Value}
theorem metI {σ : Type} {Wd : σ → va_W} {u0 : σ} {Q : Int32 → σ → Prop} (hrm : rm.cells = 0 ∧ rm.slots = 0) (hy : plainName y.cls = true) (hw : ws = Cond.code y cc maxL (some .int) :: ws') (hn : (lg_sl av).length ≤ maxL) (body : ∀ {p : Program} {e : Env} {s0 : State} {m : MethodId} {below : List Frame} {meth : Method} {c : Code} {A : Nat → Prop} {Z : State → Prop}, ctB p s0 m av.toArray c cc maxL y.cls ws → ctK s0 D A s0.heap cy → (∀ (v : Int32) (u : σ), Q v u → ∀ pc, decode cc pc = .ok (.ireturn, 1) → atG p l e rm s0 m av.toArray below meth c 0 0 Z maxL (iW D A s0.heap (Wd u)) [] [.int v] pc) → atG p l e rm s0 m av.toArray below meth c 0 0 Z maxL (iW D A s0.heap (Wd u0)) (lv_args 0 av) [] 0) : mI l y ws rm D cy av (Wd u0) Wd Q := by
  intro sz
  rw [hrm.1, hrm.2]
  refine Met.ofW (cc := cc) (maxL := maxL) (ret := (some .int)) hy hw ?_
  intro p e s0 m args below meth c s₁ B hml hv
  obtain ⟨rfl, hsz, hP, hK, hN, hD0⟩ := hv
  have hx := B.exec
  have hb := B.bytes
  have hr := B.returns
  have hts := atoms_spec (ws := ws) B.pre
  have hown : s0.vm.findClass y.cls = some m.cls := findClass_of_methodNamed B.named
  have hlocks := B.notSynchronized
  subst hsz
  have hD := hD0.self (sz := s0.heap.size)
  have hA : ∀ q, s0.heap.size ≤ q → va_A (Wd u0) s0.heap.size q := fun q h => Or.inr h
  have hl := lv_entry av (n := maxL) hn
  rw [lg_entry_eq]
  refine body (A := va_A (Wd u0) s0.heap.size) ⟨hx, hb, hml, hown, hts, hN⟩ ⟨hK, hA⟩ ?_ s0.heap [] _ ⟨hP, hD, va_S.rf⟩ hl
  intro v u hq pc hd H locs ls hI hl
  exact W.iret (v := v) hx hb hr (fun t ht hW => ⟨⟨v, u, rfl, hq, by rw [ht]; exact hI.1, hI.2.1⟩, hI.2.2.F ht⟩) hI.2.2.2.2 hd
theorem metZ {σ : Type} {Wd : σ → va_W} {u0 : σ} {Q : Int32 → σ → Prop} {ty : FieldType} (hrm : rm.cells = 0 ∧ rm.slots = 0) (hy : plainName y.cls = true) (hw : ws = Cond.code y cc maxL (some ty) :: ws') (hn : (lg_sl av).length ≤ maxL) (body : ∀ {p : Program} {e : Env} {s0 : State} {m : MethodId} {below : List Frame} {meth : Method} {c : Code} {A : Nat → Prop} {Z : State → Prop}, ctB p s0 m av.toArray c cc maxL y.cls ws → ctK s0 D A s0.heap cy → (∀ (v : Int32) (u : σ), narrow ty (.int v) = .int v → Q v u → ∀ pc, decode cc pc = .ok (.ireturn, 1) → atG p l e rm s0 m av.toArray below meth c 0 0 Z maxL (iW D A s0.heap (Wd u)) [] [.int v] pc) → atG p l e rm s0 m av.toArray below meth c 0 0 Z maxL (iW D A s0.heap (Wd u0)) (lv_args 0 av) [] 0) : mI l y ws rm D cy av (Wd u0) Wd Q := by
  intro sz
  rw [hrm.1, hrm.2]
  refine Met.ofW (cc := cc) (maxL := maxL) (ret := (some ty)) hy hw ?_
  intro p e s0 m args below meth c s₁ B hml hv
  obtain ⟨rfl, hsz, hP, hK, hN, hD0⟩ := hv
  have hx := B.exec
  have hb := B.bytes
  have hr := B.returns
  have hts := atoms_spec (ws := ws) B.pre
  have hown : s0.vm.findClass y.cls = some m.cls := findClass_of_methodNamed B.named
  have hlocks := B.notSynchronized
  subst hsz
  have hD := hD0.self (sz := s0.heap.size)
  have hA : ∀ q, s0.heap.size ≤ q → va_A (Wd u0) s0.heap.size q := fun q h => Or.inr h
  have hl := lv_entry av (n := maxL) hn
  rw [lg_entry_eq]
  refine body (A := va_A (Wd u0) s0.heap.size) ⟨hx, hb, hml, hown, hts, hN⟩ ⟨hK, hA⟩ ?_ s0.heap [] _ ⟨hP, hD, va_S.rf⟩ hl
  intro v u hnr hq pc hd H locs ls hI hl
  exact W.zret (v := v) hx hb hr hnr (fun t ht hW => ⟨⟨v, u, rfl, hq, by rw [ht]; exact hI.1, hI.2.1⟩, hI.2.2.F ht⟩) hI.2.2.2.2 hd
theorem metL {σ : Type} {Wd : σ → va_W} {u0 : σ} {Q : Int64 → σ → Prop} (hrm : rm.cells = 0 ∧ rm.slots = 0) (hy : plainName y.cls = true) (hw : ws = Cond.code y cc maxL (some .long) :: ws') (hn : (lg_sl av).length ≤ maxL) (body : ∀ {p : Program} {e : Env} {s0 : State} {m : MethodId} {below : List Frame} {meth : Method} {c : Code} {A : Nat → Prop} {Z : State → Prop}, ctB p s0 m av.toArray c cc maxL y.cls ws → ctK s0 D A s0.heap cy → (∀ (v : Int64) (u : σ), Q v u → ∀ pc, decode cc pc = .ok (.lreturn, 1) → atG p l e rm s0 m av.toArray below meth c 0 0 Z maxL (iW D A s0.heap (Wd u)) [] [.long v] pc) → atG p l e rm s0 m av.toArray below meth c 0 0 Z maxL (iW D A s0.heap (Wd u0)) (lv_args 0 av) [] 0) : mL l y ws rm D cy av (Wd u0) Wd Q := by
  intro sz
  rw [hrm.1, hrm.2]
  refine Met.ofW (cc := cc) (maxL := maxL) (ret := (some .long)) hy hw ?_
  intro p e s0 m args below meth c s₁ B hml hv
  obtain ⟨rfl, hsz, hP, hK, hN, hD0⟩ := hv
  have hx := B.exec
  have hb := B.bytes
  have hr := B.returns
  have hts := atoms_spec (ws := ws) B.pre
  have hown : s0.vm.findClass y.cls = some m.cls := findClass_of_methodNamed B.named
  have hlocks := B.notSynchronized
  subst hsz
  have hD := hD0.self (sz := s0.heap.size)
  have hA : ∀ q, s0.heap.size ≤ q → va_A (Wd u0) s0.heap.size q := fun q h => Or.inr h
  have hl := lv_entry av (n := maxL) hn
  rw [lg_entry_eq]
  refine body (A := va_A (Wd u0) s0.heap.size) ⟨hx, hb, hml, hown, hts, hN⟩ ⟨hK, hA⟩ ?_ s0.heap [] _ ⟨hP, hD, va_S.rf⟩ hl
  intro v u hq pc hd H locs ls hI hl
  exact W.lret (v := v) hx hb hr (fun t ht hW => ⟨⟨v, u, rfl, hq, by rw [ht]; exact hI.1, hI.2.1⟩, hI.2.2.F ht⟩) hI.2.2.2.2 hd
theorem metV {σ : Type} {Wd : σ → va_W} {u0 : σ} {Q : σ → Prop} (hrm : rm.cells = 0 ∧ rm.slots = 0) (hy : plainName y.cls = true) (hw : ws = Cond.code y cc maxL none :: ws') (hn : (lg_sl av).length ≤ maxL) (body : ∀ {p : Program} {e : Env} {s0 : State} {m : MethodId} {below : List Frame} {meth : Method} {c : Code} {A : Nat → Prop} {Z : State → Prop}, ctB p s0 m av.toArray c cc maxL y.cls ws → ctK s0 D A s0.heap cy → (∀ (u : σ), Q u → ∀ pc, decode cc pc = .ok (.return_, 1) → atG p l e rm s0 m av.toArray below meth c 0 0 Z maxL (iW D A s0.heap (Wd u)) [] [] pc) → atG p l e rm s0 m av.toArray below meth c 0 0 Z maxL (iW D A s0.heap (Wd u0)) (lv_args 0 av) [] 0) : mV l y ws rm D cy av (Wd u0) Wd Q := by
  intro sz
  rw [hrm.1, hrm.2]
  refine Met.ofW (cc := cc) (maxL := maxL) (ret := none) hy hw ?_
  intro p e s0 m args below meth c s₁ B hml hv
  obtain ⟨rfl, hsz, hP, hK, hN, hD0⟩ := hv
  have hx := B.exec
  have hb := B.bytes
  have hr := B.returns
  have hts := atoms_spec (ws := ws) B.pre
  have hown : s0.vm.findClass y.cls = some m.cls := findClass_of_methodNamed B.named
  have hlocks := B.notSynchronized
  subst hsz
  have hD := hD0.self (sz := s0.heap.size)
  have hA : ∀ q, s0.heap.size ≤ q → va_A (Wd u0) s0.heap.size q := fun q h => Or.inr h
  have hl := lv_entry av (n := maxL) hn
  rw [lg_entry_eq]
  refine body (A := va_A (Wd u0) s0.heap.size) ⟨hx, hb, hml, hown, hts, hN⟩ ⟨hK, hA⟩ ?_ s0.heap [] _ ⟨hP, hD, va_S.rf⟩ hl
  intro u hq pc hd H locs ls hI hl
  exact W.vret hx hb hr (fun t ht hW => ⟨⟨u, rfl, hq, by rw [ht]; exact hI.1, hI.2.1⟩, hI.2.2.F ht⟩) hI.2.2.2.2 hd
theorem metSI {Q : Int32 → Prop} (hrm : rm.cells = 0 ∧ rm.slots = 0) (hy : plainName y.cls = true) (hw : ws = Cond.code y cc maxL (some .int) :: ws') (hn : (lg_sl av).length ≤ maxL) (body : ∀ {p : Program} {e : Env} {s0 : State} {m : MethodId} {below : List Frame} {meth : Method} {c : Code} {Z : State → Prop}, ctB p s0 m av.toArray c cc maxL y.cls ws → (∀ (v : Int32), Q v → ∀ pc, decode cc pc = .ok (.ireturn, 1) → atG p l e rm s0 m av.toArray below meth c 0 0 Z maxL (iP s0.heap) [] [.int v] pc) → atG p l e rm s0 m av.toArray below meth c 0 0 Z maxL (iP s0.heap) (lv_args 0 av) [] 0) : mS l y ws rm av Q := by
  unfold mS
  rw [hrm.1, hrm.2]
  refine Met.ofW (cc := cc) (maxL := maxL) (ret := (some .int)) hy hw ?_
  intro p e s0 m args below meth c s₁ B hml hv
  obtain ⟨rfl, hN⟩ := hv
  have hx := B.exec
  have hb := B.bytes
  have hr := B.returns
  have hts := atoms_spec (ws := ws) B.pre
  have hown : s0.vm.findClass y.cls = some m.cls := findClass_of_methodNamed B.named
  have hlocks := B.notSynchronized
  have hl := lv_entry av (n := maxL) hn
  rw [lg_entry_eq]
  refine body ⟨hx, hb, hml, hown, hts, hN⟩ ?_ s0.heap [] _ ⟨rfl, rfl⟩ hl
  rintro v hq pc hd H locs ls ⟨rfl, rfl⟩ hl
  exact W.iret (v := v) hx hb hr (fun t ht hW => ⟨v, rfl, hq, ht⟩) (fun q h => by cases h) hd
theorem metSZ {Q : Int32 → Prop} {ty : FieldType} (hrm : rm.cells = 0 ∧ rm.slots = 0) (hy : plainName y.cls = true) (hw : ws = Cond.code y cc maxL (some ty) :: ws') (hn : (lg_sl av).length ≤ maxL) (body : ∀ {p : Program} {e : Env} {s0 : State} {m : MethodId} {below : List Frame} {meth : Method} {c : Code} {Z : State → Prop}, ctB p s0 m av.toArray c cc maxL y.cls ws → (∀ (v : Int32), narrow ty (.int v) = .int v → Q v → ∀ pc, decode cc pc = .ok (.ireturn, 1) → atG p l e rm s0 m av.toArray below meth c 0 0 Z maxL (iP s0.heap) [] [.int v] pc) → atG p l e rm s0 m av.toArray below meth c 0 0 Z maxL (iP s0.heap) (lv_args 0 av) [] 0) : mS l y ws rm av Q := by
  unfold mS
  rw [hrm.1, hrm.2]
  refine Met.ofW (cc := cc) (maxL := maxL) (ret := (some ty)) hy hw ?_
  intro p e s0 m args below meth c s₁ B hml hv
  obtain ⟨rfl, hN⟩ := hv
  have hx := B.exec
  have hb := B.bytes
  have hr := B.returns
  have hts := atoms_spec (ws := ws) B.pre
  have hown : s0.vm.findClass y.cls = some m.cls := findClass_of_methodNamed B.named
  have hlocks := B.notSynchronized
  have hl := lv_entry av (n := maxL) hn
  rw [lg_entry_eq]
  refine body ⟨hx, hb, hml, hown, hts, hN⟩ ?_ s0.heap [] _ ⟨rfl, rfl⟩ hl
  rintro v hnr hq pc hd H locs ls ⟨rfl, rfl⟩ hl
  exact W.zret (v := v) hx hb hr hnr (fun t ht hW => ⟨v, rfl, hq, ht⟩) (fun q h => by cases h) hd
end MET
section CALL
variable {p : Program} {l : Launch} {e : Env} {R : Room} {s0 : State} {m : MethodId} {args : Array Value} {below : List Frame} {meth : Method} {c : Code} {cells slots : Nat} {Z : State → Prop} {nL : Nat} {I : Heap → List Loc → Prop} {lv : List (Nat × Value)} {st : List Value} {pc : Nat}
variable {cc : ByteArray} {own : String} {ws : List Cond} {D : va_G} {A : Nat → Prop} {H0 : Heap} {cy : Nat → ClassId}
variable {y : MethodName} {bytes : ByteArray} {maxL n ix : Nat} {ret : Option FieldType} {wsy : List Cond} {rm : Room} {As rest : List Value}
theorem ctB.fix (C : ctB p s0 m args c cc nL own ws) : CallFix p m c cc nL s0 args ws own := ⟨C.1, C.2.1, C.2.2.1, C.2.2.2.1, C.2.2.2.2.1⟩
theorem aw_callS (C : ctB p s0 m args c cc nL own ws) {Qc : Int32 → Prop} (hM : mS l y wsy rm As Qc) (cw : CallB R s0 args own ix y bytes maxL ret wsy rm rm.cells rm.slots n ∧ (Cond.static y).before args s0 = true) (hst : st = As.reverse ++ rest) (hn : As.length = n) (hcat : (rest.map fun v => v.category).sum ≤ 8) (h0 : rm.cells = 0 ∧ rm.slots = 0) (hR : cells ≤ R.cells ∧ slots ≤ R.slots) (hdg : decode cc pc = .ok (.invokestatic ix, 3)) (kk : ∀ r : Int32, Qc r → atG p l e R s0 m args below meth c cells slots Z nL I lv (.int r :: rest) (pc + 3)) : atG p l e R s0 m args below meth c cells slots Z nL I lv st pc := by
  intro H locs ls hI hl
  subst hst
  unfold mS at hM
  rw [h0.1, h0.2] at hM cw
  exact vp_callSi (va_Run.run (va_runS (As := As) (rest := rest) C.fix hM cw ⟨fun a U g mk q => ⟨q.1, q.2.calling⟩, fun U hU hW => ⟨rfl, C.2.2.2.2.2.warm hW⟩⟩ rfl hn hl.1 rfl (lv_room hcat) hdg hR)) (fun r hq => kk r hq H locs ls hI hl)
theorem aw_callSN (C : ctB p s0 m args c cc nL own ws) {host : String} {Qc : Int32 → Prop} (hM : mS l y wsy rm As Qc) (cw : va_CN R s0 args own ix y host bytes maxL ret wsy rm rm.cells rm.slots n ∧ (Cond.static y).before args s0 = true ∧ True) (hst : st = As.reverse ++ rest) (hn : As.length = n) (hcat : (rest.map fun v => v.category).sum ≤ 8) (h0 : rm.cells = 0 ∧ rm.slots = 0) (hR : cells ≤ R.cells ∧ slots ≤ R.slots) (hdg : decode cc pc = .ok (.invokestatic ix, 3)) (kk : ∀ r : Int32, Qc r → atG p l e R s0 m args below meth c cells slots Z nL I lv (.int r :: rest) (pc + 3)) : atG p l e R s0 m args below meth c cells slots Z nL I lv st pc := by
  intro H locs ls hI hl
  subst hst
  unfold mS at hM
  rw [h0.1, h0.2] at hM cw
  exact vp_callSi (va_Run.run (va_runSN (As := As) (rest := rest) C.fix hM cw ⟨fun a U g mk q => ⟨q.1, q.2.calling⟩, fun U hU hW => ⟨rfl, C.2.2.2.2.2.warm hW⟩⟩ rfl hn hl.1 rfl (lv_room hcat) hdg hR)) (fun r hq => kk r hq H locs ls hI hl)
theorem aw_callI (C : ctB p s0 m args c cc nL own ws) (K : ctK s0 D A H0 cy) {σ : Type} {Wd : σ → va_W} {w0 : va_W} {Qc : Int32 → σ → Prop} {Cn : String} {b : Nat} (hM : mI l y wsy rm D cy (.ref b :: As) w0 Wd Qc) (cw : CallW R s0 args own Cn ix y bytes maxL ret wsy rm rm.cells rm.slots n) (q0 ci : Nat) {rc : vw_C} {fs : List Value} (he : w0[q0]? = some (b, .inr (ci, fs))) (hc : vwCl[ci]? = some rc) (hrc : rc.1 = Cn) (hst : st = As.reverse ++ .ref b :: rest) (hn : As.length = n) (hcat : (rest.map fun v => v.category).sum ≤ 8) (hR : cells + rm.cells ≤ R.cells ∧ slots + rm.slots ≤ R.slots) (hdg : decode cc pc = .ok (.invokevirtual ix, 3)) (kk : ∀ (r : Int32) (u : σ), Qc r u → atG p l e R s0 m args below meth c (cells + rm.cells) (slots + rm.slots) Z nL (iW D A H0 (Wd u)) lv (.int r :: rest) (pc + 3)) : atG p l e R s0 m args below meth c cells slots Z nL (iW D A H0 w0) lv st pc := by
  intro H locs ls hI hl
  obtain ⟨hP, hD, hS⟩ := hI
  subst hst
  subst hrc
  have hF : ∀ q, va_A w0 H.size q → A q := fun q hq => hq.elim (fun ⟨k, e, hk⟩ => hD.2 k _ hk) (fun h => K.2 q (Nat.le_trans hS.1 h))
  refine va_calli (va_runV (As := As) (rest := rest) C.fix (hM H.size) cw ⟨pW.blind, va_recv K.1 hP hc he, fun U hU hW => ⟨rfl, by rw [hU], by rw [hU]; exact hP, va_K.moved hW.alike K.1, C.2.2.2.2.2.warm hW, hD.weaken (fun _ _ _ _ => trivial)⟩⟩ rfl hn hl.1 rfl (lv_room hcat) hdg hR) hS (fun q _ h => hF q h) hF (fun r u t H1 locs1 ht hvm hw hB hz1 hk1 hS1 => ?_)
  obtain ⟨h1, h2⟩ := hB
  rw [ht] at h1
  exact kk r u hw H1 locs1 ls ⟨h1, h2.weaken (fun _ q _ hq => hF _ hq), hS1⟩ hl
theorem aw_callL (C : ctB p s0 m args c cc nL own ws) (K : ctK s0 D A H0 cy) {σ : Type} {Wd : σ → va_W} {w0 : va_W} {Qc : Int64 → σ → Prop} {Cn : String} {b : Nat} (hM : mL l y wsy rm D cy (.ref b :: As) w0 Wd Qc) (cw : CallW R s0 args own Cn ix y bytes maxL ret wsy rm rm.cells rm.slots n) (q0 ci : Nat) {rc : vw_C} {fs : List Value} (he : w0[q0]? = some (b, .inr (ci, fs))) (hc : vwCl[ci]? = some rc) (hrc : rc.1 = Cn) (hst : st = As.reverse ++ .ref b :: rest) (hn : As.length = n) (hcat : (rest.map fun v => v.category).sum ≤ 8) (hR : cells + rm.cells ≤ R.cells ∧ slots + rm.slots ≤ R.slots) (hdg : decode cc pc = .ok (.invokevirtual ix, 3)) (kk : ∀ (r : Int64) (u : σ), Qc r u → atG p l e R s0 m args below meth c (cells + rm.cells) (slots + rm.slots) Z nL (iW D A H0 (Wd u)) lv (.long r :: rest) (pc + 3)) : atG p l e R s0 m args below meth c cells slots Z nL (iW D A H0 w0) lv st pc := by
  intro H locs ls hI hl
  obtain ⟨hP, hD, hS⟩ := hI
  subst hst
  subst hrc
  have hF : ∀ q, va_A w0 H.size q → A q := fun q hq => hq.elim (fun ⟨k, e, hk⟩ => hD.2 k _ hk) (fun h => K.2 q (Nat.le_trans hS.1 h))
  refine va_calll (va_runV (As := As) (rest := rest) C.fix (hM H.size) cw ⟨pW.blind, va_recv K.1 hP hc he, fun U hU hW => ⟨rfl, by rw [hU], by rw [hU]; exact hP, va_K.moved hW.alike K.1, C.2.2.2.2.2.warm hW, hD.weaken (fun _ _ _ _ => trivial)⟩⟩ rfl hn hl.1 rfl (lv_room hcat) hdg hR) hS (fun q _ h => hF q h) hF (fun r u t H1 locs1 ht hvm hw hB hz1 hk1 hS1 => ?_)
  obtain ⟨h1, h2⟩ := hB
  rw [ht] at h1
  exact kk r u hw H1 locs1 ls ⟨h1, h2.weaken (fun _ q _ hq => hF _ hq), hS1⟩ hl
theorem aw_callV (C : ctB p s0 m args c cc nL own ws) (K : ctK s0 D A H0 cy) {σ : Type} {Wd : σ → va_W} {w0 : va_W} {Qc : σ → Prop} {Cn : String} {b : Nat} (hM : mV l y wsy rm D cy (.ref b :: As) w0 Wd Qc) (cw : CallW R s0 args own Cn ix y bytes maxL ret wsy rm rm.cells rm.slots n) (q0 ci : Nat) {rc : vw_C} {fs : List Value} (he : w0[q0]? = some (b, .inr (ci, fs))) (hc : vwCl[ci]? = some rc) (hrc : rc.1 = Cn) (hst : st = As.reverse ++ .ref b :: rest) (hn : As.length = n) (hcat : (rest.map fun v => v.category).sum ≤ 8) (hR : cells + rm.cells ≤ R.cells ∧ slots + rm.slots ≤ R.slots) (hdg : decode cc pc = .ok (.invokevirtual ix, 3)) (kk : ∀ (u : σ), Qc u → atG p l e R s0 m args below meth c (cells + rm.cells) (slots + rm.slots) Z nL (iW D A H0 (Wd u)) lv rest (pc + 3)) : atG p l e R s0 m args below meth c cells slots Z nL (iW D A H0 w0) lv st pc := by
  intro H locs ls hI hl
  obtain ⟨hP, hD, hS⟩ := hI
  subst hst
  subst hrc
  have hF : ∀ q, va_A w0 H.size q → A q := fun q hq => hq.elim (fun ⟨k, e, hk⟩ => hD.2 k _ hk) (fun h => K.2 q (Nat.le_trans hS.1 h))
  refine va_callv (va_runV (As := As) (rest := rest) C.fix (hM H.size) cw ⟨pW.blind, va_recv K.1 hP hc he, fun U hU hW => ⟨rfl, by rw [hU], by rw [hU]; exact hP, va_K.moved hW.alike K.1, C.2.2.2.2.2.warm hW, hD.weaken (fun _ _ _ _ => trivial)⟩⟩ rfl hn hl.1 rfl (lv_room hcat) hdg hR) hS (fun q _ h => hF q h) hF (fun u t H1 locs1 ht hvm hw hB hz1 hk1 hS1 => ?_)
  obtain ⟨h1, h2⟩ := hB
  rw [ht] at h1
  exact kk u hw H1 locs1 ls ⟨h1, h2.weaken (fun _ q _ hq => hF _ hq), hS1⟩ hl
end CALL
end
section
/-! Worlds side by side: by membership and by permutation -/
theorem vP_mem {D : va_G} {cl : List vw_C} {ws : va_W} {H : Heap} (h : va_P D cl ws H) {x : Nat × va_E} (hx : x ∈ ws) : va_at D cl x H := by
  obtain ⟨k, hk⟩ := List.getElem?_of_mem hx
  exact h k x hk
theorem vP_of {D : va_G} {cl : List vw_C} {ws : va_W} {H : Heap} (h : ∀ x ∈ ws, va_at D cl x H) : va_P D cl ws H := fun k q hk => h q (List.mem_of_getElem? hk)
theorem vP_perm {D : va_G} {cl : List vw_C} {a b : va_W} {H : Heap} (hp : a.Perm b) (h : va_P D cl a H) : va_P D cl b H := vP_of fun x hx => vP_mem h (hp.mem_iff.mpr hx)
theorem vP_left {D : va_G} {cl : List vw_C} {a b : va_W} {H : Heap} (h : va_P D cl (a ++ b) H) : va_P D cl a H := vP_of fun x hx => vP_mem h (List.mem_append_left _ hx)
theorem vP_right {D : va_G} {cl : List vw_C} {a b : va_W} {H : Heap} (h : va_P D cl (a ++ b) H) : va_P D cl b H := vP_of fun x hx => vP_mem h (List.mem_append_right _ hx)
theorem vD_iff {A : Nat → Prop} {ws : va_W} : va_D A ws ↔ (ws.map Prod.fst).Nodup ∧ ∀ x ∈ ws, A x.1 := by
  constructor
  · intro h
    refine ⟨?_, fun x hx => ?_⟩
    · rw [List.Nodup, List.pairwise_iff_getElem]
      intro i j hi hj hij he
      rw [List.length_map] at hi hj
      rw [List.getElem_map, List.getElem_map] at he
      have := h.1 i j ws[i] ws[j] (List.getElem?_eq_getElem hi) (List.getElem?_eq_getElem hj) he
      omega
    · obtain ⟨k, hk⟩ := List.getElem?_of_mem hx
      exact h.2 k x hk
  · rintro ⟨h1, h2⟩
    refine ⟨fun i j p q hi hj he => ?_, fun k q hk => h2 q (List.mem_of_getElem? hk)⟩
    rw [List.Nodup, List.pairwise_iff_getElem] at h1
    obtain ⟨li, ei⟩ := List.getElem?_eq_some_iff.mp hi
    obtain ⟨lj, ej⟩ := List.getElem?_eq_some_iff.mp hj
    rcases Nat.lt_trichotomy i j with q1 | q1 | q1
    · exact absurd (by rw [List.getElem_map, List.getElem_map, ei, ej, he]) (h1 i j (by rw [List.length_map]; exact li) (by rw [List.length_map]; exact lj) q1)
    · exact q1
    · exact absurd (by rw [List.getElem_map, List.getElem_map, ei, ej, he]) (h1 j i (by rw [List.length_map]; exact lj) (by rw [List.length_map]; exact li) q1)
theorem vD_perm {A : Nat → Prop} {a b : va_W} (hp : a.Perm b) (h : va_D A a) : va_D A b := by
  rw [vD_iff] at h ⊢
  exact ⟨(hp.map Prod.fst).nodup_iff.mp h.1, fun x hx => h.2 x (hp.mem_iff.mpr hx)⟩
theorem vD_left {A : Nat → Prop} {a b : va_W} (h : va_D A (a ++ b)) : va_D A a := by
  rw [vD_iff] at h ⊢
  rw [List.map_append, List.nodup_append] at h
  exact ⟨h.1.1, fun x hx => h.2 x (List.mem_append_left _ hx)⟩
theorem fr_W {A : Nat → Prop} {D : va_G} {cl : List vw_C} {w0 wc wr wc2 w1 : va_W} {H H1 : Heap} (hP : va_P D cl w0 H) (hD : va_D A w0) (hp : w0.Perm (wc ++ wr)) (hk : ∀ q : Nat, q < H.size → ¬ va_A wc H.size q → H1[q]? = H[q]?) (hF : ∀ q, va_A wc H.size q → A q) (hP1 : va_P D cl wc2 H1) (hD1 : va_D (va_A wc H.size) wc2) (hp1 : w1.Perm (wc2 ++ wr)) : va_P D cl w1 H1 ∧ va_D A w1 := by
  have hP0 := vP_perm hp hP
  have hD0 := vD_perm hp hD
  have hr : ∀ x ∈ wr, x.1 < H.size ∧ ¬ va_A wc H.size x.1 := by
    intro x hx
    have hlt := (vP_mem hP0 (List.mem_append_right _ hx)).lt
    refine ⟨hlt, ?_⟩
    rintro (⟨k, e, hke⟩ | q)
    · rw [vD_iff] at hD0
      have h2 := hD0.1
      rw [List.map_append, List.nodup_append] at h2
      exact h2.2.2 x.1 (List.mem_map.mpr ⟨(x.1, e), List.mem_of_getElem? hke, rfl⟩) x.1 (List.mem_map.mpr ⟨x, hx, rfl⟩) rfl
    · omega
  have hPr : va_P D cl wr H1 := vP_of fun x hx => (vP_mem hP0 (List.mem_append_right _ hx)).kept (hk x.1 (hr x hx).1 (hr x hx).2)
  refine ⟨vP_perm hp1.symm (hP1.app hPr), vD_perm hp1.symm ?_⟩
  rw [vD_iff] at hD0 hD1 ⊢
  have h2 := hD0.1
  rw [List.map_append, List.nodup_append] at h2
  refine ⟨?_, fun x hx => ?_⟩
  · rw [List.map_append, List.nodup_append]
    refine ⟨hD1.1, h2.2.1, ?_⟩
    rintro a ha b hb rfl
    obtain ⟨x, hx, rfl⟩ := List.mem_map.mp ha
    obtain ⟨y, hy, he⟩ := List.mem_map.mp hb
    exact (hr y hy).2 (by rw [he]; exact hD1.2 x hx)
  · rcases List.mem_append.mp hx with h | h
    · exact hF _ (hD1.2 x h)
    · exact hD0.2 x (List.mem_append_right _ h)
section FR
variable {p : Program} {l : Launch} {e : Env} {R : Room} {s0 : State} {m : MethodId} {args : Array Value} {below : List Frame} {meth : Method} {c : Code} {cells slots : Nat} {Z : State → Prop} {nL : Nat} {I : Heap → List Loc → Prop} {lv : List (Nat × Value)} {st : List Value} {pc : Nat}
variable {cc : ByteArray} {own : String} {ws : List Cond} {D : va_G} {A : Nat → Prop} {H0 : Heap} {cy : Nat → ClassId}
variable {y : MethodName} {bytes : ByteArray} {maxL n ix : Nat} {ret : Option FieldType} {wsy : List Cond} {rm : Room} {As rest : List Value}
theorem aw_perm {w0 w1 : va_W} (hp : w0.Perm w1) (kk : atG p l e R s0 m args below meth c cells slots Z nL (iW D A H0 w1) lv st pc) : atG p l e R s0 m args below meth c cells slots Z nL (iW D A H0 w0) lv st pc := fun H locs ls hI hl => kk H locs ls ⟨vP_perm hp hI.1, vD_perm hp hI.2.1, hI.2.2⟩ hl
theorem aw_left {w0 w1 : va_W} (kk : atG p l e R s0 m args below meth c cells slots Z nL (iW D A H0 w0) lv st pc) : atG p l e R s0 m args below meth c cells slots Z nL (iW D A H0 (w0 ++ w1)) lv st pc := fun H locs ls hI hl => kk H locs ls ⟨vP_left hI.1, vD_left hI.2.1, hI.2.2⟩ hl
theorem aw_widen {cells2 slots2 : Nat} (h1 : cells ≤ cells2) (h2 : slots ≤ slots2) (kk : atG p l e R s0 m args below meth c cells2 slots2 Z nL I lv st pc) : atG p l e R s0 m args below meth c cells slots Z nL I lv st pc := fun H locs ls hI hl => W.widen h1 h2 (kk H locs ls hI hl)
theorem aw_callFI (C : ctB p s0 m args c cc nL own ws) (K : ctK s0 D A H0 cy) {cells2 slots2 : Nat} {σ : Type} {Wd : σ → va_W} {Wx : σ → va_W} {w0 wc wr : va_W} {Qc : Int32 → σ → Prop} {Cn : String} {b : Nat} (hM : mI l y wsy rm D cy (.ref b :: As) wc Wd Qc) (hp : w0.Perm (wc ++ wr)) (hp1 : ∀ u, (Wx u).Perm (Wd u ++ wr)) (cw : CallW R s0 args own Cn ix y bytes maxL ret wsy rm rm.cells rm.slots n) (q0 ci : Nat) {rc : vw_C} {fs : List Value} (he : wc[q0]? = some (b, .inr (ci, fs))) (hc : vwCl[ci]? = some rc) (hrc : rc.1 = Cn) (hst : st = As.reverse ++ .ref b :: rest) (hn : As.length = n) (hcat : (rest.map fun v => v.category).sum ≤ 8) (hc2 : cells + rm.cells = cells2) (hs2 : slots + rm.slots = slots2) (hR : cells2 ≤ R.cells ∧ slots2 ≤ R.slots) (hdg : decode cc pc = .ok (.invokevirtual ix, 3)) (kk : ∀ (r : Int32) (u : σ), Qc r u → atG p l e R s0 m args below meth c cells2 slots2 Z nL (iW D A H0 (Wx u)) lv (.int r :: rest) (pc + 3)) : atG p l e R s0 m args below meth c cells slots Z nL (iW D A H0 w0) lv st pc := by
  intro H locs ls hI hl
  obtain ⟨hP, hD, hS⟩ := hI
  subst hst
  subst hrc
  subst hc2
  subst hs2
  have hPc := vP_left (vP_perm hp hP)
  have hDc := vD_left (vD_perm hp hD)
  have hF : ∀ q, va_A wc H.size q → A q := fun q hq => hq.elim (fun ⟨k, e, hk⟩ => hDc.2 k _ hk) (fun h => K.2 q (Nat.le_trans hS.1 h))
  refine va_calli (va_runV (As := As) (rest := rest) C.fix (hM H.size) cw ⟨pW.blind, va_recv K.1 hPc hc he, fun U hU hW => ⟨rfl, by rw [hU], by rw [hU]; exact hPc, va_K.moved hW.alike K.1, C.2.2.2.2.2.warm hW, hDc.weaken (fun _ _ _ _ => trivial)⟩⟩ rfl hn hl.1 rfl (lv_room hcat) hdg hR) hS (fun q _ h => hF q h) hF (fun r u t H1 locs1 ht hvm hw hB hz1 hk1 hS1 => ?_)
  obtain ⟨h1, h2⟩ := hB
  rw [ht] at h1
  obtain ⟨h3, h4⟩ := fr_W hP hD hp hk1 hF h1 h2 (hp1 u)
  exact kk r u hw H1 locs1 ls ⟨h3, h4, hS1⟩ hl
theorem aw_callFV (C : ctB p s0 m args c cc nL own ws) (K : ctK s0 D A H0 cy) {cells2 slots2 : Nat} {σ : Type} {Wd : σ → va_W} {Wx : σ → va_W} {w0 wc wr : va_W} {Qc : σ → Prop} {Cn : String} {b : Nat} (hM : mV l y wsy rm D cy (.ref b :: As) wc Wd Qc) (hp : w0.Perm (wc ++ wr)) (hp1 : ∀ u, (Wx u).Perm (Wd u ++ wr)) (cw : CallW R s0 args own Cn ix y bytes maxL ret wsy rm rm.cells rm.slots n) (q0 ci : Nat) {rc : vw_C} {fs : List Value} (he : wc[q0]? = some (b, .inr (ci, fs))) (hc : vwCl[ci]? = some rc) (hrc : rc.1 = Cn) (hst : st = As.reverse ++ .ref b :: rest) (hn : As.length = n) (hcat : (rest.map fun v => v.category).sum ≤ 8) (hc2 : cells + rm.cells = cells2) (hs2 : slots + rm.slots = slots2) (hR : cells2 ≤ R.cells ∧ slots2 ≤ R.slots) (hdg : decode cc pc = .ok (.invokevirtual ix, 3)) (kk : ∀ (u : σ), Qc u → atG p l e R s0 m args below meth c cells2 slots2 Z nL (iW D A H0 (Wx u)) lv rest (pc + 3)) : atG p l e R s0 m args below meth c cells slots Z nL (iW D A H0 w0) lv st pc := by
  intro H locs ls hI hl
  obtain ⟨hP, hD, hS⟩ := hI
  subst hst
  subst hrc
  subst hc2
  subst hs2
  have hPc := vP_left (vP_perm hp hP)
  have hDc := vD_left (vD_perm hp hD)
  have hF : ∀ q, va_A wc H.size q → A q := fun q hq => hq.elim (fun ⟨k, e, hk⟩ => hDc.2 k _ hk) (fun h => K.2 q (Nat.le_trans hS.1 h))
  refine va_callv (va_runV (As := As) (rest := rest) C.fix (hM H.size) cw ⟨pW.blind, va_recv K.1 hPc hc he, fun U hU hW => ⟨rfl, by rw [hU], by rw [hU]; exact hPc, va_K.moved hW.alike K.1, C.2.2.2.2.2.warm hW, hDc.weaken (fun _ _ _ _ => trivial)⟩⟩ rfl hn hl.1 rfl (lv_room hcat) hdg hR) hS (fun q _ h => hF q h) hF (fun u t H1 locs1 ht hvm hw hB hz1 hk1 hS1 => ?_)
  obtain ⟨h1, h2⟩ := hB
  rw [ht] at h1
  obtain ⟨h3, h4⟩ := fr_W hP hD hp hk1 hF h1 h2 (hp1 u)
  exact kk u hw H1 locs1 ls ⟨h3, h4, hS1⟩ hl
theorem aw_callFTI (C : ctB p s0 m args c cc nL own ws) (K : ctK s0 D A H0 cy) {cells2 slots2 : Nat} {σ : Type} {Wd : σ → va_W} {Wx : σ → va_W} {w0 wc wr : va_W} {Qc : Int32 → σ → Prop} (hM : mI l y wsy rm D cy (As) wc Wd Qc) (hp : w0.Perm (wc ++ wr)) (hp1 : ∀ u, (Wx u).Perm (Wd u ++ wr)) (cw : CallB R s0 args own ix y bytes maxL ret wsy rm rm.cells rm.slots n ∧ (Cond.static y).before args s0 = true) (hst : st = As.reverse ++ rest) (hn : As.length = n) (hcat : (rest.map fun v => v.category).sum ≤ 8) (hc2 : cells + rm.cells = cells2) (hs2 : slots + rm.slots = slots2) (hR : cells2 ≤ R.cells ∧ slots2 ≤ R.slots) (hdg : decode cc pc = .ok (.invokestatic ix, 3)) (kk : ∀ (r : Int32) (u : σ), Qc r u → atG p l e R s0 m args below meth c cells2 slots2 Z nL (iW D A H0 (Wx u)) lv (.int r :: rest) (pc + 3)) : atG p l e R s0 m args below meth c cells slots Z nL (iW D A H0 w0) lv st pc := by
  intro H locs ls hI hl
  obtain ⟨hP, hD, hS⟩ := hI
  subst hst
  subst hc2
  subst hs2
  have hPc := vP_left (vP_perm hp hP)
  have hDc := vD_left (vD_perm hp hD)
  have hF : ∀ q, va_A wc H.size q → A q := fun q hq => hq.elim (fun ⟨k, e, hk⟩ => hDc.2 k _ hk) (fun h => K.2 q (Nat.le_trans hS.1 h))
  refine va_calli (va_runS (As := As) (rest := rest) C.fix (hM H.size) cw ⟨pW.blind, fun U hU hW => ⟨rfl, by rw [hU], by rw [hU]; exact hPc, va_K.moved hW.alike K.1, C.2.2.2.2.2.warm hW, hDc.weaken (fun _ _ _ _ => trivial)⟩⟩ rfl hn hl.1 rfl (lv_room hcat) hdg hR) hS (fun q _ h => hF q h) hF (fun r u t H1 locs1 ht hvm hw hB hz1 hk1 hS1 => ?_)
  obtain ⟨h1, h2⟩ := hB
  rw [ht] at h1
  obtain ⟨h3, h4⟩ := fr_W hP hD hp hk1 hF h1 h2 (hp1 u)
  exact kk r u hw H1 locs1 ls ⟨h3, h4, hS1⟩ hl
theorem aw_callFTV (C : ctB p s0 m args c cc nL own ws) (K : ctK s0 D A H0 cy) {cells2 slots2 : Nat} {σ : Type} {Wd : σ → va_W} {Wx : σ → va_W} {w0 wc wr : va_W} {Qc : σ → Prop} (hM : mV l y wsy rm D cy (As) wc Wd Qc) (hp : w0.Perm (wc ++ wr)) (hp1 : ∀ u, (Wx u).Perm (Wd u ++ wr)) (cw : CallB R s0 args own ix y bytes maxL ret wsy rm rm.cells rm.slots n ∧ (Cond.static y).before args s0 = true) (hst : st = As.reverse ++ rest) (hn : As.length = n) (hcat : (rest.map fun v => v.category).sum ≤ 8) (hc2 : cells + rm.cells = cells2) (hs2 : slots + rm.slots = slots2) (hR : cells2 ≤ R.cells ∧ slots2 ≤ R.slots) (hdg : decode cc pc = .ok (.invokestatic ix, 3)) (kk : ∀ (u : σ), Qc u → atG p l e R s0 m args below meth c cells2 slots2 Z nL (iW D A H0 (Wx u)) lv rest (pc + 3)) : atG p l e R s0 m args below meth c cells slots Z nL (iW D A H0 w0) lv st pc := by
  intro H locs ls hI hl
  obtain ⟨hP, hD, hS⟩ := hI
  subst hst
  subst hc2
  subst hs2
  have hPc := vP_left (vP_perm hp hP)
  have hDc := vD_left (vD_perm hp hD)
  have hF : ∀ q, va_A wc H.size q → A q := fun q hq => hq.elim (fun ⟨k, e, hk⟩ => hDc.2 k _ hk) (fun h => K.2 q (Nat.le_trans hS.1 h))
  refine va_callv (va_runS (As := As) (rest := rest) C.fix (hM H.size) cw ⟨pW.blind, fun U hU hW => ⟨rfl, by rw [hU], by rw [hU]; exact hPc, va_K.moved hW.alike K.1, C.2.2.2.2.2.warm hW, hDc.weaken (fun _ _ _ _ => trivial)⟩⟩ rfl hn hl.1 rfl (lv_room hcat) hdg hR) hS (fun q _ h => hF q h) hF (fun u t H1 locs1 ht hvm hw hB hz1 hk1 hS1 => ?_)
  obtain ⟨h1, h2⟩ := hB
  rw [ht] at h1
  obtain ⟨h3, h4⟩ := fr_W hP hD hp hk1 hF h1 h2 (hp1 u)
  exact kk u hw H1 locs1 ls ⟨h3, h4, hS1⟩ hl
theorem aw_callInit (C : ctB p s0 m args c cc nL own ws) (K : ctK s0 D A H0 cy) {cells2 slots2 : Nat} {σ : Type} {Wd : σ → va_W} {Wx : σ → va_W} {w0 wc wr : va_W} {Qc : σ → Prop} {b : Nat} (hM : mV l y wsy rm D cy (.ref b :: As) wc Wd Qc) (hp : w0.Perm (wc ++ wr)) (hp1 : ∀ u, (Wx u).Perm (Wd u ++ wr)) (cw : CallB R s0 args own ix y bytes maxL none wsy rm rm.cells rm.slots n ∧ y.name = "<init>" ∧ (Cond.instanceMethod y).before args s0 = true) (hst : st = As.reverse ++ .ref b :: rest) (hn : As.length = n) (hcat : (rest.map fun v => v.category).sum ≤ 8) (hc2 : cells + rm.cells = cells2) (hs2 : slots + rm.slots = slots2) (hR : cells2 ≤ R.cells ∧ slots2 ≤ R.slots) (hdg : decode cc pc = .ok (.invokespecial ix, 3)) (kk : ∀ (u : σ), Qc u → atG p l e R s0 m args below meth c cells2 slots2 Z nL (iW D A H0 (Wx u)) lv rest (pc + 3)) : atG p l e R s0 m args below meth c cells slots Z nL (iW D A H0 w0) lv st pc := by
  intro H locs ls hI hl
  obtain ⟨hP, hD, hS⟩ := hI
  subst hst
  subst hc2
  subst hs2
  have hPc := vP_left (vP_perm hp hP)
  have hDc := vD_left (vD_perm hp hD)
  have hF : ∀ q, va_A wc H.size q → A q := fun q hq => hq.elim (fun ⟨k, e, hk⟩ => hDc.2 k _ hk) (fun h => K.2 q (Nat.le_trans hS.1 h))
  refine va_callv (va_runI (As := As) (rest := rest) C.fix (hM H.size) cw ⟨pW.blind, fun U hU hW => ⟨rfl, by rw [hU], by rw [hU]; exact hPc, va_K.moved hW.alike K.1, C.2.2.2.2.2.warm hW, hDc.weaken (fun _ _ _ _ => trivial)⟩⟩ rfl hn hl.1 rfl (lv_room hcat) hdg hR) hS (fun q _ h => hF q h) hF (fun u t H1 locs1 ht hvm hw hB hz1 hk1 hS1 => ?_)
  obtain ⟨h1, h2⟩ := hB
  rw [ht] at h1
  obtain ⟨h3, h4⟩ := fr_W hP hD hp hk1 hF h1 h2 (hp1 u)
  exact kk u hw H1 locs1 ls ⟨h3, h4, hS1⟩ hl
theorem aw_callInitN (C : ctB p s0 m args c cc nL own ws) (K : ctK s0 D A H0 cy) {cells2 slots2 : Nat} {σ : Type} {Wd : σ → va_W} {Wx : σ → va_W} {w0 wc wr : va_W} {Qc : σ → Prop} {b : Nat} (hM : mV l y wsy rm D cy (.ref b :: As) wc Wd Qc) (hp : w0.Perm (wc ++ wr)) (hp1 : ∀ u, (Wx u).Perm (Wd u ++ wr)) {host : String} (cw : va_CN R s0 args own ix y host bytes maxL none wsy rm rm.cells rm.slots n ∧ y.name = "<init>" ∧ (Cond.instanceMethod y).before args s0 = true) (hst : st = As.reverse ++ .ref b :: rest) (hn : As.length = n) (hcat : (rest.map fun v => v.category).sum ≤ 8) (hc2 : cells + rm.cells = cells2) (hs2 : slots + rm.slots = slots2) (hR : cells2 ≤ R.cells ∧ slots2 ≤ R.slots) (hdg : decode cc pc = .ok (.invokespecial ix, 3)) (kk : ∀ (u : σ), Qc u → atG p l e R s0 m args below meth c cells2 slots2 Z nL (iW D A H0 (Wx u)) lv rest (pc + 3)) : atG p l e R s0 m args below meth c cells slots Z nL (iW D A H0 w0) lv st pc := by
  intro H locs ls hI hl
  obtain ⟨hP, hD, hS⟩ := hI
  subst hst
  subst hc2
  subst hs2
  have hPc := vP_left (vP_perm hp hP)
  have hDc := vD_left (vD_perm hp hD)
  have hF : ∀ q, va_A wc H.size q → A q := fun q hq => hq.elim (fun ⟨k, e, hk⟩ => hDc.2 k _ hk) (fun h => K.2 q (Nat.le_trans hS.1 h))
  refine va_callv (va_runIN (As := As) (rest := rest) C.fix (hM H.size) cw ⟨pW.blind, fun U hU hW => ⟨rfl, by rw [hU], by rw [hU]; exact hPc, va_K.moved hW.alike K.1, C.2.2.2.2.2.warm hW, hDc.weaken (fun _ _ _ _ => trivial)⟩⟩ rfl hn hl.1 rfl (lv_room hcat) hdg hR) hS (fun q _ h => hF q h) hF (fun u t H1 locs1 ht hvm hw hB hz1 hk1 hS1 => ?_)
  obtain ⟨h1, h2⟩ := hB
  rw [ht] at h1
  obtain ⟨h3, h4⟩ := fr_W hP hD hp hk1 hF h1 h2 (hp1 u)
  exact kk u hw H1 locs1 ls ⟨h3, h4, hS1⟩ hl
theorem ra_uni {t0 : Nat} {c1 cA : ClassId} {ty : FieldType} {tys : List (ClassId × FieldType)} (K : ctK s0 D A H0 cy) (ht : (tyW cy)[t0]? = some (c1, ty)) (hK2 : va_K D vwCl (tys ++ [(cA, ty)]) s0) : cA = c1 := by
  have h1 := (K.1.2 t0 _ ht).2
  have h2 := (hK2.2 tys.length (cA, ty) (by simp)).2
  have k1 : s0.vm.findClass ("[" ++ ty.toString) = some c1 := by
    cases ty with
    | object C => exact h1.choose_spec.choose_spec.2.2.2
    | _ => exact h1
  have k2 : s0.vm.findClass ("[" ++ ty.toString) = some cA := by
    cases ty with
    | object C => exact h2.choose_spec.choose_spec.2.2.2
    | _ => exact h2
  rw [k1] at k2
  exact (Option.some.inj k2).symm
theorem aw_newa (C : ctB p s0 m args c cc nL own ws) (K : ctK s0 D A H0 cy) {cells2 slots2 : Nat} {w0 : va_W} {atype : ArrayType} {ty : FieldType} {c1 : ClassId} (t0 : Nat) (hdg : decode cc pc = .ok (.newarray atype, 2)) (hty : newarray.typeOf atype = ty) (ht : (tyW cy)[t0]? = some (c1, ty)) (harr : Cond.arrayClass ty ∈ ws) {k : Int32} {N B : Nat} {a0 : vp_A} (ha : ∀ cA : ClassId, vp_cell cA a0 = arrV cA N (fun _ => defaultValue ty)) (hn : ¬ k < 0) (hN : k.toNatClampNeg = N) (hB : N ≤ B) (hbytes : B * componentBytes ty ≤ 536870912) (hc2 : cells + 1 = cells2) (hs2 : slots + B = slots2) (hR : cells2 ≤ R.cells ∧ slots2 ≤ R.slots) (kk : ∀ q : Nat, atG p l e R s0 m args below meth c cells2 slots2 Z nL (iW D A H0 (w0 ++ [(q, .inl (c1, a0))])) lv (.ref q :: st) (pc + 2)) : atG p l e R s0 m args below meth c cells slots Z nL (iW D A H0 w0) lv (.int k :: st) pc := by
  intro H locs ls hI hl
  subst hc2
  subst hs2
  subst hty
  refine va_newa (D := D) (cl := vwCl) (tys := tyW cy) C.1 C.2.1 (C.2.2.2.2.1 _ harr) rfl K.1 hI.1 hI.2.1 hI.2.2 K.2 ha hn hN (Nat.le_trans (Nat.mul_le_mul_right _ hB) hbytes) hR.1 (Nat.le_trans (Nat.add_le_add_left hB _) hR.2) hdg (fun q cA H1 hK2 h1 h2 h3 => ?_)
  have e := ra_uni K ht hK2
  subst e
  exact W.widen (Nat.le_refl _) (Nat.add_le_add_left hB _) (kk q H1 locs ls ⟨h1, h2, h3⟩ hl)
theorem aw_finX0 (C : ctB p s0 m args c cc nL own ws) (K : ctK s0 D A H0 cy) (hinit : meth.name = "<init>") (hin : ∀ w ∈ wsX00, w ∈ ws) {w0 w1 : va_W} {ix : Nat} (hdg : decode cc pc = .ok (.putfield ix, 3)) (k : Nat) (hk : k < 2) (hlk : Cond.fieldLink own ix (TX0 k).1 (TX0 k).2.1 (TX0 k).2.2.1 ∈ ws) (hdecl : (TX0 k).1 = own) (q0 : Nat) {a : Nat} {fs : List Value} (he : w0[q0]? = some (a, .inr (0, fs))) {ty : FieldType} {v : Value} (hfin : (TX0 k).2.2.2 = true) (hd : parseFieldDescriptor (TX0 k).2.2.1 = some ty) (hnr : narrow ty v = v) (hfit : fits ty v = true) (hlen : k < fs.length) (hw : w0.set q0 (a, .inr (0, fs.set k v)) = w1) (kk : atG p l e R s0 m args below meth c cells slots Z nL (iW D A H0 w1) lv st (pc + 3)) : atG p l e R s0 m args below meth c cells slots Z nL (iW D A H0 w0) lv (v :: .ref a :: st) pc := fun H locs ls hI hl => va_putF (D := D) (ci := 0) (v := v) (ty := ty) (C := RX0) (T := TX0) (N := 2) C.1 C.2.1 C.2.2.2.2.1 hin tyX0 tyX0_ok nmX0 C.2.2.2.1 K.1 hI.1 hI.2.1 hI.2.2 q0 he rfl k hk (C.2.2.2.2.1 _ hlk) (fun _ h => h) hfin hinit hdecl hd hnr hfit hlen hdg (fun H1 locs1 h1 h2 h3 => by rw [hw] at h1 h2; exact kk H1 locs1 ls ⟨h1, h2, h3⟩ hl)
theorem aw_newX0 (C : ctB p s0 m args c cc nL own ws) (K : ctK s0 D A H0 cy) {cells2 slots2 : Nat} (hin : ∀ w ∈ wsX00, w ∈ ws) {w0 : va_W} {ix : Nat} (hdg : decode cc pc = .ok (.new ix, 3)) (hcl : Cond.classLink own ix RX0 ∈ ws) (hinst : Cond.instantiable RX0 2 ∈ ws) (hini : Cond.initialized RX0 ∈ ws) {fs : List Value} (hfs : ∀ j, j < 2 → defaultValue (tyX0 j) = vp_V fs j) (hc2 : cells + 1 = cells2) (hs2 : slots + 2 = slots2) (hR : cells2 ≤ R.cells ∧ slots2 ≤ R.slots) (kk : ∀ q : Nat, atG p l e R s0 m args below meth c cells2 slots2 Z nL (iW D A H0 (w0 ++ [(q, .inr (0, fs))])) lv (.ref q :: st) (pc + 3)) : atG p l e R s0 m args below meth c cells slots Z nL (iW D A H0 w0) lv st pc := by
  intro H locs ls hI hl
  subst hc2
  subst hs2
  exact va_new (c0 := c) (ci := 0) (C := RX0) (T := TX0) (N := 2) C.1 C.2.1 C.2.2.2.2.1 hin tyX0 tyX0_ok C.2.2.2.1 (C.2.2.2.2.1 _ hcl) (C.2.2.2.2.1 _ hinst) (C.2.2.2.2.1 _ hini) K.1 hI.1 hI.2.1 hI.2.2 K.2 rfl hfs hR.1 hR.2 hdg (fun q H1 h1 h2 h3 => kk q H1 locs ls ⟨h1, h2, h3⟩ hl)
theorem aw_finX1 (C : ctB p s0 m args c cc nL own ws) (K : ctK s0 D A H0 cy) (hinit : meth.name = "<init>") (hin : ∀ w ∈ wsX10, w ∈ ws) {w0 w1 : va_W} {ix : Nat} (hdg : decode cc pc = .ok (.putfield ix, 3)) (k : Nat) (hk : k < 17) (hlk : Cond.fieldLink own ix (TX1 k).1 (TX1 k).2.1 (TX1 k).2.2.1 ∈ ws) (hdecl : (TX1 k).1 = own) (q0 : Nat) {a : Nat} {fs : List Value} (he : w0[q0]? = some (a, .inr (1, fs))) {ty : FieldType} {v : Value} (hfin : (TX1 k).2.2.2 = true) (hd : parseFieldDescriptor (TX1 k).2.2.1 = some ty) (hnr : narrow ty v = v) (hfit : fits ty v = true) (hlen : k < fs.length) (hw : w0.set q0 (a, .inr (1, fs.set k v)) = w1) (kk : atG p l e R s0 m args below meth c cells slots Z nL (iW D A H0 w1) lv st (pc + 3)) : atG p l e R s0 m args below meth c cells slots Z nL (iW D A H0 w0) lv (v :: .ref a :: st) pc := fun H locs ls hI hl => va_putF (D := D) (ci := 1) (v := v) (ty := ty) (C := RX1) (T := TX1) (N := 17) C.1 C.2.1 C.2.2.2.2.1 hin tyX1 tyX1_ok nmX1 C.2.2.2.1 K.1 hI.1 hI.2.1 hI.2.2 q0 he rfl k hk (C.2.2.2.2.1 _ hlk) (fun _ h => h) hfin hinit hdecl hd hnr hfit hlen hdg (fun H1 locs1 h1 h2 h3 => by rw [hw] at h1 h2; exact kk H1 locs1 ls ⟨h1, h2, h3⟩ hl)
theorem aw_newX1 (C : ctB p s0 m args c cc nL own ws) (K : ctK s0 D A H0 cy) {cells2 slots2 : Nat} (hin : ∀ w ∈ wsX10, w ∈ ws) {w0 : va_W} {ix : Nat} (hdg : decode cc pc = .ok (.new ix, 3)) (hcl : Cond.classLink own ix RX1 ∈ ws) (hinst : Cond.instantiable RX1 17 ∈ ws) (hini : Cond.initialized RX1 ∈ ws) {fs : List Value} (hfs : ∀ j, j < 17 → defaultValue (tyX1 j) = vp_V fs j) (hc2 : cells + 1 = cells2) (hs2 : slots + 17 = slots2) (hR : cells2 ≤ R.cells ∧ slots2 ≤ R.slots) (kk : ∀ q : Nat, atG p l e R s0 m args below meth c cells2 slots2 Z nL (iW D A H0 (w0 ++ [(q, .inr (1, fs))])) lv (.ref q :: st) (pc + 3)) : atG p l e R s0 m args below meth c cells slots Z nL (iW D A H0 w0) lv st pc := by
  intro H locs ls hI hl
  subst hc2
  subst hs2
  exact va_new (c0 := c) (ci := 1) (C := RX1) (T := TX1) (N := 17) C.1 C.2.1 C.2.2.2.2.1 hin tyX1 tyX1_ok C.2.2.2.1 (C.2.2.2.2.1 _ hcl) (C.2.2.2.2.1 _ hinst) (C.2.2.2.2.1 _ hini) K.1 hI.1 hI.2.1 hI.2.2 K.2 rfl hfs hR.1 hR.2 hdg (fun q H1 h1 h2 h3 => kk q H1 locs ls ⟨h1, h2, h3⟩ hl)
theorem aw_finX2 (C : ctB p s0 m args c cc nL own ws) (K : ctK s0 D A H0 cy) (hinit : meth.name = "<init>") (hin : ∀ w ∈ wsX20, w ∈ ws) {w0 w1 : va_W} {ix : Nat} (hdg : decode cc pc = .ok (.putfield ix, 3)) (k : Nat) (hk : k < 4) (hlk : Cond.fieldLink own ix (TX2 k).1 (TX2 k).2.1 (TX2 k).2.2.1 ∈ ws) (hdecl : (TX2 k).1 = own) (q0 : Nat) {a : Nat} {fs : List Value} (he : w0[q0]? = some (a, .inr (2, fs))) {ty : FieldType} {v : Value} (hfin : (TX2 k).2.2.2 = true) (hd : parseFieldDescriptor (TX2 k).2.2.1 = some ty) (hnr : narrow ty v = v) (hfit : fits ty v = true) (hlen : k < fs.length) (hw : w0.set q0 (a, .inr (2, fs.set k v)) = w1) (kk : atG p l e R s0 m args below meth c cells slots Z nL (iW D A H0 w1) lv st (pc + 3)) : atG p l e R s0 m args below meth c cells slots Z nL (iW D A H0 w0) lv (v :: .ref a :: st) pc := fun H locs ls hI hl => va_putF (D := D) (ci := 2) (v := v) (ty := ty) (C := RX2) (T := TX2) (N := 4) C.1 C.2.1 C.2.2.2.2.1 hin tyX2 tyX2_ok nmX2 C.2.2.2.1 K.1 hI.1 hI.2.1 hI.2.2 q0 he rfl k hk (C.2.2.2.2.1 _ hlk) (fun _ h => h) hfin hinit hdecl hd hnr hfit hlen hdg (fun H1 locs1 h1 h2 h3 => by rw [hw] at h1 h2; exact kk H1 locs1 ls ⟨h1, h2, h3⟩ hl)
theorem aw_newX2 (C : ctB p s0 m args c cc nL own ws) (K : ctK s0 D A H0 cy) {cells2 slots2 : Nat} (hin : ∀ w ∈ wsX20, w ∈ ws) {w0 : va_W} {ix : Nat} (hdg : decode cc pc = .ok (.new ix, 3)) (hcl : Cond.classLink own ix RX2 ∈ ws) (hinst : Cond.instantiable RX2 4 ∈ ws) (hini : Cond.initialized RX2 ∈ ws) {fs : List Value} (hfs : ∀ j, j < 4 → defaultValue (tyX2 j) = vp_V fs j) (hc2 : cells + 1 = cells2) (hs2 : slots + 4 = slots2) (hR : cells2 ≤ R.cells ∧ slots2 ≤ R.slots) (kk : ∀ q : Nat, atG p l e R s0 m args below meth c cells2 slots2 Z nL (iW D A H0 (w0 ++ [(q, .inr (2, fs))])) lv (.ref q :: st) (pc + 3)) : atG p l e R s0 m args below meth c cells slots Z nL (iW D A H0 w0) lv st pc := by
  intro H locs ls hI hl
  subst hc2
  subst hs2
  exact va_new (c0 := c) (ci := 2) (C := RX2) (T := TX2) (N := 4) C.1 C.2.1 C.2.2.2.2.1 hin tyX2 tyX2_ok C.2.2.2.1 (C.2.2.2.2.1 _ hcl) (C.2.2.2.2.1 _ hinst) (C.2.2.2.2.1 _ hini) K.1 hI.1 hI.2.1 hI.2.2 K.2 rfl hfs hR.1 hR.2 hdg (fun q H1 h1 h2 h3 => kk q H1 locs ls ⟨h1, h2, h3⟩ hl)
theorem aw_finX3 (C : ctB p s0 m args c cc nL own ws) (K : ctK s0 D A H0 cy) (hinit : meth.name = "<init>") (hin : ∀ w ∈ wsX30, w ∈ ws) {w0 w1 : va_W} {ix : Nat} (hdg : decode cc pc = .ok (.putfield ix, 3)) (k : Nat) (hk : k < 4) (hlk : Cond.fieldLink own ix (TX3 k).1 (TX3 k).2.1 (TX3 k).2.2.1 ∈ ws) (hdecl : (TX3 k).1 = own) (q0 : Nat) {a : Nat} {fs : List Value} (he : w0[q0]? = some (a, .inr (3, fs))) {ty : FieldType} {v : Value} (hfin : (TX3 k).2.2.2 = true) (hd : parseFieldDescriptor (TX3 k).2.2.1 = some ty) (hnr : narrow ty v = v) (hfit : fits ty v = true) (hlen : k < fs.length) (hw : w0.set q0 (a, .inr (3, fs.set k v)) = w1) (kk : atG p l e R s0 m args below meth c cells slots Z nL (iW D A H0 w1) lv st (pc + 3)) : atG p l e R s0 m args below meth c cells slots Z nL (iW D A H0 w0) lv (v :: .ref a :: st) pc := fun H locs ls hI hl => va_putF (D := D) (ci := 3) (v := v) (ty := ty) (C := RX3) (T := TX3) (N := 4) C.1 C.2.1 C.2.2.2.2.1 hin tyX3 tyX3_ok nmX3 C.2.2.2.1 K.1 hI.1 hI.2.1 hI.2.2 q0 he rfl k hk (C.2.2.2.2.1 _ hlk) (fun _ h => h) hfin hinit hdecl hd hnr hfit hlen hdg (fun H1 locs1 h1 h2 h3 => by rw [hw] at h1 h2; exact kk H1 locs1 ls ⟨h1, h2, h3⟩ hl)
theorem aw_newX3 (C : ctB p s0 m args c cc nL own ws) (K : ctK s0 D A H0 cy) {cells2 slots2 : Nat} (hin : ∀ w ∈ wsX30, w ∈ ws) {w0 : va_W} {ix : Nat} (hdg : decode cc pc = .ok (.new ix, 3)) (hcl : Cond.classLink own ix RX3 ∈ ws) (hinst : Cond.instantiable RX3 4 ∈ ws) (hini : Cond.initialized RX3 ∈ ws) {fs : List Value} (hfs : ∀ j, j < 4 → defaultValue (tyX3 j) = vp_V fs j) (hc2 : cells + 1 = cells2) (hs2 : slots + 4 = slots2) (hR : cells2 ≤ R.cells ∧ slots2 ≤ R.slots) (kk : ∀ q : Nat, atG p l e R s0 m args below meth c cells2 slots2 Z nL (iW D A H0 (w0 ++ [(q, .inr (3, fs))])) lv (.ref q :: st) (pc + 3)) : atG p l e R s0 m args below meth c cells slots Z nL (iW D A H0 w0) lv st pc := by
  intro H locs ls hI hl
  subst hc2
  subst hs2
  exact va_new (c0 := c) (ci := 3) (C := RX3) (T := TX3) (N := 4) C.1 C.2.1 C.2.2.2.2.1 hin tyX3 tyX3_ok C.2.2.2.1 (C.2.2.2.2.1 _ hcl) (C.2.2.2.2.1 _ hinst) (C.2.2.2.2.1 _ hini) K.1 hI.1 hI.2.1 hI.2.2 K.2 rfl hfs hR.1 hR.2 hdg (fun q H1 h1 h2 h3 => kk q H1 locs ls ⟨h1, h2, h3⟩ hl)
theorem aw_finX4 (C : ctB p s0 m args c cc nL own ws) (K : ctK s0 D A H0 cy) (hinit : meth.name = "<init>") (hin : ∀ w ∈ wsX40, w ∈ ws) {w0 w1 : va_W} {ix : Nat} (hdg : decode cc pc = .ok (.putfield ix, 3)) (k : Nat) (hk : k < 2) (hlk : Cond.fieldLink own ix (TX4 k).1 (TX4 k).2.1 (TX4 k).2.2.1 ∈ ws) (hdecl : (TX4 k).1 = own) (q0 : Nat) {a : Nat} {fs : List Value} (he : w0[q0]? = some (a, .inr (4, fs))) {ty : FieldType} {v : Value} (hfin : (TX4 k).2.2.2 = true) (hd : parseFieldDescriptor (TX4 k).2.2.1 = some ty) (hnr : narrow ty v = v) (hfit : fits ty v = true) (hlen : k < fs.length) (hw : w0.set q0 (a, .inr (4, fs.set k v)) = w1) (kk : atG p l e R s0 m args below meth c cells slots Z nL (iW D A H0 w1) lv st (pc + 3)) : atG p l e R s0 m args below meth c cells slots Z nL (iW D A H0 w0) lv (v :: .ref a :: st) pc := fun H locs ls hI hl => va_putF (D := D) (ci := 4) (v := v) (ty := ty) (C := RX4) (T := TX4) (N := 2) C.1 C.2.1 C.2.2.2.2.1 hin tyX4 tyX4_ok nmX4 C.2.2.2.1 K.1 hI.1 hI.2.1 hI.2.2 q0 he rfl k hk (C.2.2.2.2.1 _ hlk) (fun _ h => h) hfin hinit hdecl hd hnr hfit hlen hdg (fun H1 locs1 h1 h2 h3 => by rw [hw] at h1 h2; exact kk H1 locs1 ls ⟨h1, h2, h3⟩ hl)
theorem aw_newX4 (C : ctB p s0 m args c cc nL own ws) (K : ctK s0 D A H0 cy) {cells2 slots2 : Nat} (hin : ∀ w ∈ wsX40, w ∈ ws) {w0 : va_W} {ix : Nat} (hdg : decode cc pc = .ok (.new ix, 3)) (hcl : Cond.classLink own ix RX4 ∈ ws) (hinst : Cond.instantiable RX4 2 ∈ ws) (hini : Cond.initialized RX4 ∈ ws) {fs : List Value} (hfs : ∀ j, j < 2 → defaultValue (tyX4 j) = vp_V fs j) (hc2 : cells + 1 = cells2) (hs2 : slots + 2 = slots2) (hR : cells2 ≤ R.cells ∧ slots2 ≤ R.slots) (kk : ∀ q : Nat, atG p l e R s0 m args below meth c cells2 slots2 Z nL (iW D A H0 (w0 ++ [(q, .inr (4, fs))])) lv (.ref q :: st) (pc + 3)) : atG p l e R s0 m args below meth c cells slots Z nL (iW D A H0 w0) lv st pc := by
  intro H locs ls hI hl
  subst hc2
  subst hs2
  exact va_new (c0 := c) (ci := 4) (C := RX4) (T := TX4) (N := 2) C.1 C.2.1 C.2.2.2.2.1 hin tyX4 tyX4_ok C.2.2.2.1 (C.2.2.2.2.1 _ hcl) (C.2.2.2.2.1 _ hinst) (C.2.2.2.2.1 _ hini) K.1 hI.1 hI.2.1 hI.2.2 K.2 rfl hfs hR.1 hR.2 hdg (fun q H1 h1 h2 h3 => kk q H1 locs ls ⟨h1, h2, h3⟩ hl)
theorem aw_finX5 (C : ctB p s0 m args c cc nL own ws) (K : ctK s0 D A H0 cy) (hinit : meth.name = "<init>") (hin : ∀ w ∈ wsX50, w ∈ ws) {w0 w1 : va_W} {ix : Nat} (hdg : decode cc pc = .ok (.putfield ix, 3)) (k : Nat) (hk : k < 6) (hlk : Cond.fieldLink own ix (TX5 k).1 (TX5 k).2.1 (TX5 k).2.2.1 ∈ ws) (hdecl : (TX5 k).1 = own) (q0 : Nat) {a : Nat} {fs : List Value} (he : w0[q0]? = some (a, .inr (5, fs))) {ty : FieldType} {v : Value} (hfin : (TX5 k).2.2.2 = true) (hd : parseFieldDescriptor (TX5 k).2.2.1 = some ty) (hnr : narrow ty v = v) (hfit : fits ty v = true) (hlen : k < fs.length) (hw : w0.set q0 (a, .inr (5, fs.set k v)) = w1) (kk : atG p l e R s0 m args below meth c cells slots Z nL (iW D A H0 w1) lv st (pc + 3)) : atG p l e R s0 m args below meth c cells slots Z nL (iW D A H0 w0) lv (v :: .ref a :: st) pc := fun H locs ls hI hl => va_putF (D := D) (ci := 5) (v := v) (ty := ty) (C := RX5) (T := TX5) (N := 6) C.1 C.2.1 C.2.2.2.2.1 hin tyX5 tyX5_ok nmX5 C.2.2.2.1 K.1 hI.1 hI.2.1 hI.2.2 q0 he rfl k hk (C.2.2.2.2.1 _ hlk) (fun _ h => h) hfin hinit hdecl hd hnr hfit hlen hdg (fun H1 locs1 h1 h2 h3 => by rw [hw] at h1 h2; exact kk H1 locs1 ls ⟨h1, h2, h3⟩ hl)
theorem aw_newX5 (C : ctB p s0 m args c cc nL own ws) (K : ctK s0 D A H0 cy) {cells2 slots2 : Nat} (hin : ∀ w ∈ wsX50, w ∈ ws) {w0 : va_W} {ix : Nat} (hdg : decode cc pc = .ok (.new ix, 3)) (hcl : Cond.classLink own ix RX5 ∈ ws) (hinst : Cond.instantiable RX5 6 ∈ ws) (hini : Cond.initialized RX5 ∈ ws) {fs : List Value} (hfs : ∀ j, j < 6 → defaultValue (tyX5 j) = vp_V fs j) (hc2 : cells + 1 = cells2) (hs2 : slots + 6 = slots2) (hR : cells2 ≤ R.cells ∧ slots2 ≤ R.slots) (kk : ∀ q : Nat, atG p l e R s0 m args below meth c cells2 slots2 Z nL (iW D A H0 (w0 ++ [(q, .inr (5, fs))])) lv (.ref q :: st) (pc + 3)) : atG p l e R s0 m args below meth c cells slots Z nL (iW D A H0 w0) lv st pc := by
  intro H locs ls hI hl
  subst hc2
  subst hs2
  exact va_new (c0 := c) (ci := 5) (C := RX5) (T := TX5) (N := 6) C.1 C.2.1 C.2.2.2.2.1 hin tyX5 tyX5_ok C.2.2.2.1 (C.2.2.2.2.1 _ hcl) (C.2.2.2.2.1 _ hinst) (C.2.2.2.2.1 _ hini) K.1 hI.1 hI.2.1 hI.2.2 K.2 rfl hfs hR.1 hR.2 hdg (fun q H1 h1 h2 h3 => kk q H1 locs ls ⟨h1, h2, h3⟩ hl)
theorem aw_finX6 (C : ctB p s0 m args c cc nL own ws) (K : ctK s0 D A H0 cy) (hinit : meth.name = "<init>") (hin : ∀ w ∈ wsX60, w ∈ ws) {w0 w1 : va_W} {ix : Nat} (hdg : decode cc pc = .ok (.putfield ix, 3)) (k : Nat) (hk : k < 30) (hlk : Cond.fieldLink own ix (TX6 k).1 (TX6 k).2.1 (TX6 k).2.2.1 ∈ ws) (hdecl : (TX6 k).1 = own) (q0 : Nat) {a : Nat} {fs : List Value} (he : w0[q0]? = some (a, .inr (6, fs))) {ty : FieldType} {v : Value} (hfin : (TX6 k).2.2.2 = true) (hd : parseFieldDescriptor (TX6 k).2.2.1 = some ty) (hnr : narrow ty v = v) (hfit : fits ty v = true) (hlen : k < fs.length) (hw : w0.set q0 (a, .inr (6, fs.set k v)) = w1) (kk : atG p l e R s0 m args below meth c cells slots Z nL (iW D A H0 w1) lv st (pc + 3)) : atG p l e R s0 m args below meth c cells slots Z nL (iW D A H0 w0) lv (v :: .ref a :: st) pc := fun H locs ls hI hl => va_putF (D := D) (ci := 6) (v := v) (ty := ty) (C := RX6) (T := TX6) (N := 30) C.1 C.2.1 C.2.2.2.2.1 hin tyX6 tyX6_ok nmX6 C.2.2.2.1 K.1 hI.1 hI.2.1 hI.2.2 q0 he rfl k hk (C.2.2.2.2.1 _ hlk) (fun _ h => h) hfin hinit hdecl hd hnr hfit hlen hdg (fun H1 locs1 h1 h2 h3 => by rw [hw] at h1 h2; exact kk H1 locs1 ls ⟨h1, h2, h3⟩ hl)
theorem aw_newX6 (C : ctB p s0 m args c cc nL own ws) (K : ctK s0 D A H0 cy) {cells2 slots2 : Nat} (hin : ∀ w ∈ wsX60, w ∈ ws) {w0 : va_W} {ix : Nat} (hdg : decode cc pc = .ok (.new ix, 3)) (hcl : Cond.classLink own ix RX6 ∈ ws) (hinst : Cond.instantiable RX6 30 ∈ ws) (hini : Cond.initialized RX6 ∈ ws) {fs : List Value} (hfs : ∀ j, j < 30 → defaultValue (tyX6 j) = vp_V fs j) (hc2 : cells + 1 = cells2) (hs2 : slots + 30 = slots2) (hR : cells2 ≤ R.cells ∧ slots2 ≤ R.slots) (kk : ∀ q : Nat, atG p l e R s0 m args below meth c cells2 slots2 Z nL (iW D A H0 (w0 ++ [(q, .inr (6, fs))])) lv (.ref q :: st) (pc + 3)) : atG p l e R s0 m args below meth c cells slots Z nL (iW D A H0 w0) lv st pc := by
  intro H locs ls hI hl
  subst hc2
  subst hs2
  exact va_new (c0 := c) (ci := 6) (C := RX6) (T := TX6) (N := 30) C.1 C.2.1 C.2.2.2.2.1 hin tyX6 tyX6_ok C.2.2.2.1 (C.2.2.2.2.1 _ hcl) (C.2.2.2.2.1 _ hinst) (C.2.2.2.2.1 _ hini) K.1 hI.1 hI.2.1 hI.2.2 K.2 rfl hfs hR.1 hR.2 hdg (fun q H1 h1 h2 h3 => kk q H1 locs ls ⟨h1, h2, h3⟩ hl)
theorem aw_objInit (C : ctB p s0 m args c cc nL own ws) (hdg : decode cc pc = .ok (.invokespecial ix, 3)) (h1 : Cond.methodLink own ix objectInit ∈ ws) (h2 : Cond.instanceMethod objectInit ∈ ws) (h3 : Cond.code objectInit ⟨#[0xb1]⟩ 1 none ∈ ws) {a : Nat} (hR1 : 1 ≤ R.frames) (hR2 : (st.map fun v => v.category).sum + 12 ≤ R.locals) (kk : atG p l e R s0 m args below meth c cells slots Z nL I lv st (pc + 3)) : atG p l e R s0 m args below meth c cells slots Z nL I lv (.ref a :: st) pc := by
  intro H locs ls hI hl
  refine W.objInit C.1 C.2.1 C.2.2.2.1 (C.2.2.2.2.1 _ h1) (C.2.2.2.2.1 _ h2) (C.2.2.2.2.1 _ h3) rfl (by rw [C.2.2.1]; exact hl.1) rfl hdg ?_ ?_ ?_
  · exact hR1
  · show 2 * 0 + _ + 12 ≤ _
    omega
  · exact W.eq (g2 := F0 m (pc + 3) ls st) rfl (kk H locs ls hI hl)
theorem vp_in_lt {i : Int32} {n : Nat} (h : vp_in i n) : i.toNatClampNeg < n := Nat.not_le.mp fun q => h (Or.inr q)
theorem aw_aald (C : ctB p s0 m args c cc nL own ws) (K : ctK s0 D A H0 cy) {w0 : va_W} (hdg : decode cc pc = .ok (.aaload, 1)) (q0 : Nat) {a n : Nat} {f : Nat → Option Nat} {i : Int32} (ha : w0[q0]? = some (a, .inl (cy 3, n, .inr (.inr (.inr (.inr f)))))) (hin : vp_in i n) {r : Nat} (hf : f i.toNatClampNeg = some r) (kk : atG p l e R s0 m args below meth c cells slots Z nL (iW D A H0 w0) lv (.ref r :: st) (pc + 1)) : atG p l e R s0 m args below meth c cells slots Z nL (iW D A H0 w0) lv (.int i :: .ref a :: st) pc := by
  intro H locs ls hI hl
  have hlt := vp_in_lt hin
  exact W.aald (v := .ref r) (ty := .array .int) C.1 C.2.1 (hI.1 q0 _ ha) ((K.1.2 3 _ rfl).1 n (fun j => va_rf (f j))) rfl (fun q => by cases q) (by show ¬ (i < 0 ∨ (arrV _ _ _).slots.size ≤ _); rw [arrV_size]; exact hin) (by show (arrV _ _ _).slots[_]? = _; rw [arrV_read _ _ hlt, hf]; rfl) rfl rfl hdg (kk H locs ls hI hl)
theorem aw_mmin (C : ctB p s0 m args c cc nL own ws) (hdg : decode cc pc = .ok (.invokestatic ix, 3)) (h1 : Cond.methodLink own ix Lib.Math.min.name ∈ ws) (h2 : Cond.static Lib.Math.min.name ∈ ws) (h3 : Cond.initialized "java/lang/Math" ∈ ws) (h4 : Cond.code Lib.Math.min.name Lib.Math.min.code 2 (some .int) ∈ ws) (hR1 : 1 ≤ R.frames) (hR2 : (st.map fun v => v.category).sum + 13 ≤ R.locals) (hc : cells ≤ R.cells) (hs : slots ≤ R.slots) {x y : Int32} (kk : atG p l e R s0 m args below meth c cells slots Z nL I lv (.int (if y < x then y else x) :: st) (pc + 3)) : atG p l e R s0 m args below meth c cells slots Z nL I lv (.int y :: .int x :: st) pc := fun H locs ls hI hl => va_mmin C.1 C.2.1 (by rw [C.2.2.1]; exact hl.1.symm) C.2.2.2.1 (C.2.2.2.2.1 _ h1) (C.2.2.2.2.1 _ h2) (C.2.2.2.2.1 _ h3) (C.2.2.2.2.1 _ h4) hR1 hR2 hc hs hdg (kk H locs ls hI hl)
end FR
end
