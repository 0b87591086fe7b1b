section
-- ===== PART A: goes FIRST, ahead of the names: the tables' words, and 'selects' of the private methods out of them =====
/-- a private method of a class that the tables say can be made, by its rows of tables_1 -/
def lw_okq (q : MethodName × Nat) : Prop := (q.1.cls ≠ "java/lang/invoke/MethodHandle" ∧ q.1.cls ≠ "java/lang/invoke/VarHandle") ∧ Cond.instantiable q.1.cls q.2 ∈ tables_1 ∧ Cond.privateMethod q.1 ∈ tables_1 ∧ Cond.instanceMethod q.1 ∈ tables_1
theorem lw_p0 : lw_okq (⟨"MondayDeal", "startAnew", "()V"⟩, 13) := ⟨⟨by decide +kernel, by decide +kernel⟩, List.mem_of_getElem? (i := 20) (by decide +kernel), List.mem_of_getElem? (i := 292) (by decide +kernel), List.mem_of_getElem? (i := 293) (by decide +kernel)⟩
theorem lw_p1 : lw_okq (⟨"MondayDeal$Text", "nextToken", "()V"⟩, 5) := ⟨⟨by decide +kernel, by decide +kernel⟩, List.mem_of_getElem? (i := 28) (by decide +kernel), List.mem_of_getElem? (i := 364) (by decide +kernel), List.mem_of_getElem? (i := 365) (by decide +kernel)⟩
theorem lw_p2 : lw_okq (⟨"MondayDeal$Text", "readClause", "(LMondayDeal$Told;)Z"⟩, 5) := ⟨⟨by decide +kernel, by decide +kernel⟩, List.mem_of_getElem? (i := 28) (by decide +kernel), List.mem_of_getElem? (i := 371) (by decide +kernel), List.mem_of_getElem? (i := 372) (by decide +kernel)⟩
theorem lw_p3 : lw_okq (⟨"MondayDeal$Text", "reads", "(Ljava/lang/String;)Z"⟩, 5) := ⟨⟨by decide +kernel, by decide +kernel⟩, List.mem_of_getElem? (i := 28) (by decide +kernel), List.mem_of_getElem? (i := 376) (by decide +kernel), List.mem_of_getElem? (i := 377) (by decide +kernel)⟩
theorem lw_p4 : lw_okq (⟨"MondayDeal$Text", "readWork", "(LMondayDeal$Told;I)Z"⟩, 5) := ⟨⟨by decide +kernel, by decide +kernel⟩, List.mem_of_getElem? (i := 28) (by decide +kernel), List.mem_of_getElem? (i := 432) (by decide +kernel), List.mem_of_getElem? (i := 433) (by decide +kernel)⟩
theorem lw_p5 : lw_okq (⟨"MondayDeal$Text", "nextNumber", "(I)I"⟩, 5) := ⟨⟨by decide +kernel, by decide +kernel⟩, List.mem_of_getElem? (i := 28) (by decide +kernel), List.mem_of_getElem? (i := 436) (by decide +kernel), List.mem_of_getElem? (i := 437) (by decide +kernel)⟩
theorem lw_p6 : lw_okq (⟨"MondayDeal$Text", "readBehind", "(LMondayDeal$Told;)Z"⟩, 5) := ⟨⟨by decide +kernel, by decide +kernel⟩, List.mem_of_getElem? (i := 28) (by decide +kernel), List.mem_of_getElem? (i := 446) (by decide +kernel), List.mem_of_getElem? (i := 447) (by decide +kernel)⟩
theorem lw_p7 : lw_okq (⟨"MondayDeal$Text", "kindRead", "()I"⟩, 5) := ⟨⟨by decide +kernel, by decide +kernel⟩, List.mem_of_getElem? (i := 28) (by decide +kernel), List.mem_of_getElem? (i := 450) (by decide +kernel), List.mem_of_getElem? (i := 451) (by decide +kernel)⟩
theorem lw_p8 : lw_okq (⟨"MondayDeal$Text", "readKind", "(LMondayDeal$Told;I)Z"⟩, 5) := ⟨⟨by decide +kernel, by decide +kernel⟩, List.mem_of_getElem? (i := 28) (by decide +kernel), List.mem_of_getElem? (i := 458) (by decide +kernel), List.mem_of_getElem? (i := 459) (by decide +kernel)⟩
theorem lw_p9 : lw_okq (⟨"MondayDeal$Text", "ruleRead", "()I"⟩, 5) := ⟨⟨by decide +kernel, by decide +kernel⟩, List.mem_of_getElem? (i := 28) (by decide +kernel), List.mem_of_getElem? (i := 462) (by decide +kernel), List.mem_of_getElem? (i := 463) (by decide +kernel)⟩
theorem lw_p10 : lw_okq (⟨"MondayDeal$Text", "readRule", "(LMondayDeal$Told;I)Z"⟩, 5) := ⟨⟨by decide +kernel, by decide +kernel⟩, List.mem_of_getElem? (i := 28) (by decide +kernel), List.mem_of_getElem? (i := 469) (by decide +kernel), List.mem_of_getElem? (i := 470) (by decide +kernel)⟩
theorem lw_p11 : lw_okq (⟨"MondayDeal", "listed", "()LMondayDeal$Orders;"⟩, 13) := ⟨⟨by decide +kernel, by decide +kernel⟩, List.mem_of_getElem? (i := 20) (by decide +kernel), List.mem_of_getElem? (i := 493) (by decide +kernel), List.mem_of_getElem? (i := 494) (by decide +kernel)⟩
theorem lw_p12 : lw_okq (⟨"MondayDeal$Orders", "listFrom", "(LMondayDeal$Told;IIII)I"⟩, 4) := ⟨⟨by decide +kernel, by decide +kernel⟩, List.mem_of_getElem? (i := 112) (by decide +kernel), List.mem_of_getElem? (i := 502) (by decide +kernel), List.mem_of_getElem? (i := 503) (by decide +kernel)⟩
theorem lw_p13 : lw_okq (⟨"MondayDeal$Orders", "put", "(I)I"⟩, 4) := ⟨⟨by decide +kernel, by decide +kernel⟩, List.mem_of_getElem? (i := 112) (by decide +kernel), List.mem_of_getElem? (i := 506) (by decide +kernel), List.mem_of_getElem? (i := 507) (by decide +kernel)⟩
theorem lw_p14 : lw_okq (⟨"MondayDeal$Told", "breaks", "(IIII)Z"⟩, 11) := ⟨⟨by decide +kernel, by decide +kernel⟩, List.mem_of_getElem? (i := 54) (by decide +kernel), List.mem_of_getElem? (i := 514) (by decide +kernel), List.mem_of_getElem? (i := 515) (by decide +kernel)⟩
theorem lw_p15 : lw_okq (⟨"MondayDeal", "isWork", "(I)Z"⟩, 13) := ⟨⟨by decide +kernel, by decide +kernel⟩, List.mem_of_getElem? (i := 20) (by decide +kernel), List.mem_of_getElem? (i := 522) (by decide +kernel), List.mem_of_getElem? (i := 523) (by decide +kernel)⟩
def lw_privs_1 : List (MethodName × Nat) := [(⟨"MondayDeal", "startAnew", "()V"⟩, 13), (⟨"MondayDeal$Text", "nextToken", "()V"⟩, 5), (⟨"MondayDeal$Text", "readClause", "(LMondayDeal$Told;)Z"⟩, 5), (⟨"MondayDeal$Text", "reads", "(Ljava/lang/String;)Z"⟩, 5), (⟨"MondayDeal$Text", "readWork", "(LMondayDeal$Told;I)Z"⟩, 5), (⟨"MondayDeal$Text", "nextNumber", "(I)I"⟩, 5), (⟨"MondayDeal$Text", "readBehind", "(LMondayDeal$Told;)Z"⟩, 5), (⟨"MondayDeal$Text", "kindRead", "()I"⟩, 5), (⟨"MondayDeal$Text", "readKind", "(LMondayDeal$Told;I)Z"⟩, 5), (⟨"MondayDeal$Text", "ruleRead", "()I"⟩, 5), (⟨"MondayDeal$Text", "readRule", "(LMondayDeal$Told;I)Z"⟩, 5), (⟨"MondayDeal", "listed", "()LMondayDeal$Orders;"⟩, 13), (⟨"MondayDeal$Orders", "listFrom", "(LMondayDeal$Told;IIII)I"⟩, 4), (⟨"MondayDeal$Orders", "put", "(I)I"⟩, 4), (⟨"MondayDeal$Told", "breaks", "(IIII)Z"⟩, 11), (⟨"MondayDeal", "isWork", "(I)Z"⟩, 13)]
theorem lw_r1 : ∀ q ∈ lw_privs_1, lw_okq q := List.forall_mem_cons.mpr ⟨lw_p0, List.forall_mem_cons.mpr ⟨lw_p1, List.forall_mem_cons.mpr ⟨lw_p2, List.forall_mem_cons.mpr ⟨lw_p3, List.forall_mem_cons.mpr ⟨lw_p4, List.forall_mem_cons.mpr ⟨lw_p5, List.forall_mem_cons.mpr ⟨lw_p6, List.forall_mem_cons.mpr ⟨lw_p7, List.forall_mem_cons.mpr ⟨lw_p8, List.forall_mem_cons.mpr ⟨lw_p9, List.forall_mem_cons.mpr ⟨lw_p10, List.forall_mem_cons.mpr ⟨lw_p11, List.forall_mem_cons.mpr ⟨lw_p12, List.forall_mem_cons.mpr ⟨lw_p13, List.forall_mem_cons.mpr ⟨lw_p14, List.forall_mem_cons.mpr ⟨lw_p15, fun _ h => absurd h List.not_mem_nil⟩⟩⟩⟩⟩⟩⟩⟩⟩⟩⟩⟩⟩⟩⟩⟩
theorem lw_p16 : lw_okq (⟨"MondayDeal", "isOrder", "(I)Z"⟩, 13) := ⟨⟨by decide +kernel, by decide +kernel⟩, List.mem_of_getElem? (i := 20) (by decide +kernel), List.mem_of_getElem? (i := 546) (by decide +kernel), List.mem_of_getElem? (i := 547) (by decide +kernel)⟩
theorem lw_p17 : lw_okq (⟨"MondayDeal$Outlook", "begin", "(LMondayDeal$Told;LMondayDeal$State;)V"⟩, 12) := ⟨⟨by decide +kernel, by decide +kernel⟩, List.mem_of_getElem? (i := 142) (by decide +kernel), List.mem_of_getElem? (i := 592) (by decide +kernel), List.mem_of_getElem? (i := 593) (by decide +kernel)⟩
theorem lw_p18 : lw_okq (⟨"MondayDeal$Outlook", "play", "(LMondayDeal$Told;II)V"⟩, 12) := ⟨⟨by decide +kernel, by decide +kernel⟩, List.mem_of_getElem? (i := 142) (by decide +kernel), List.mem_of_getElem? (i := 601) (by decide +kernel), List.mem_of_getElem? (i := 602) (by decide +kernel)⟩
theorem lw_p19 : lw_okq (⟨"MondayDeal$Outlook", "doWork", "(LMondayDeal$Told;II)V"⟩, 12) := ⟨⟨by decide +kernel, by decide +kernel⟩, List.mem_of_getElem? (i := 142) (by decide +kernel), List.mem_of_getElem? (i := 606) (by decide +kernel), List.mem_of_getElem? (i := 607) (by decide +kernel)⟩
theorem lw_p20 : lw_okq (⟨"MondayDeal$Outlook", "lanesWith", "(LMondayDeal$Told;II)J"⟩, 12) := ⟨⟨by decide +kernel, by decide +kernel⟩, List.mem_of_getElem? (i := 142) (by decide +kernel), List.mem_of_getElem? (i := 614) (by decide +kernel), List.mem_of_getElem? (i := 615) (by decide +kernel)⟩
theorem lw_p21 : lw_okq (⟨"MondayDeal$Outlook", "ageBehind", "(LMondayDeal$Told;LMondayDeal$State;I)I"⟩, 12) := ⟨⟨by decide +kernel, by decide +kernel⟩, List.mem_of_getElem? (i := 142) (by decide +kernel), List.mem_of_getElem? (i := 618) (by decide +kernel), List.mem_of_getElem? (i := 619) (by decide +kernel)⟩
theorem lw_p22 : lw_okq (⟨"MondayDeal$Outlook", "isDone", "(I)Z"⟩, 12) := ⟨⟨by decide +kernel, by decide +kernel⟩, List.mem_of_getElem? (i := 142) (by decide +kernel), List.mem_of_getElem? (i := 622) (by decide +kernel), List.mem_of_getElem? (i := 623) (by decide +kernel)⟩
theorem lw_p23 : lw_okq (⟨"MondayDeal$Outlook", "earnedNow", "(I)I"⟩, 12) := ⟨⟨by decide +kernel, by decide +kernel⟩, List.mem_of_getElem? (i := 142) (by decide +kernel), List.mem_of_getElem? (i := 626) (by decide +kernel), List.mem_of_getElem? (i := 627) (by decide +kernel)⟩
theorem lw_p24 : lw_okq (⟨"MondayDeal", "refusalOf", "(I)I"⟩, 13) := ⟨⟨by decide +kernel, by decide +kernel⟩, List.mem_of_getElem? (i := 20) (by decide +kernel), List.mem_of_getElem? (i := 672) (by decide +kernel), List.mem_of_getElem? (i := 673) (by decide +kernel)⟩
theorem lw_p25 : lw_okq (⟨"MondayDeal", "foretold", "()LMondayDeal$Outlook;"⟩, 13) := ⟨⟨by decide +kernel, by decide +kernel⟩, List.mem_of_getElem? (i := 20) (by decide +kernel), List.mem_of_getElem? (i := 679) (by decide +kernel), List.mem_of_getElem? (i := 680) (by decide +kernel)⟩
theorem lw_p26 : lw_okq (⟨"MondayDeal$Outlook", "tallyAll", "(II)V"⟩, 12) := ⟨⟨by decide +kernel, by decide +kernel⟩, List.mem_of_getElem? (i := 142) (by decide +kernel), List.mem_of_getElem? (i := 694) (by decide +kernel), List.mem_of_getElem? (i := 695) (by decide +kernel)⟩
theorem lw_p27 : lw_okq (⟨"MondayDeal$Outlook", "addUp", "(I)V"⟩, 12) := ⟨⟨by decide +kernel, by decide +kernel⟩, List.mem_of_getElem? (i := 142) (by decide +kernel), List.mem_of_getElem? (i := 701) (by decide +kernel), List.mem_of_getElem? (i := 702) (by decide +kernel)⟩
theorem lw_p28 : lw_okq (⟨"MondayDeal", "partOfOrders", "(II)I"⟩, 13) := ⟨⟨by decide +kernel, by decide +kernel⟩, List.mem_of_getElem? (i := 20) (by decide +kernel), List.mem_of_getElem? (i := 710) (by decide +kernel), List.mem_of_getElem? (i := 711) (by decide +kernel)⟩
theorem lw_p29 : lw_okq (⟨"MondayDeal$Bets", "wonBy", "(I)I"⟩, 5) := ⟨⟨by decide +kernel, by decide +kernel⟩, List.mem_of_getElem? (i := 244) (by decide +kernel), List.mem_of_getElem? (i := 796) (by decide +kernel), List.mem_of_getElem? (i := 797) (by decide +kernel)⟩
theorem lw_p30 : lw_okq (⟨"MondayDeal$Facts", "agree", "(I)Z"⟩, 3) := ⟨⟨by decide +kernel, by decide +kernel⟩, List.mem_of_getElem? (i := 268) (by decide +kernel), List.mem_of_getElem? (i := 828) (by decide +kernel), List.mem_of_getElem? (i := 829) (by decide +kernel)⟩
theorem lw_p31 : lw_okq (⟨"MondayDeal$Told", "fewestBroken", "(IIIIII)I"⟩, 11) := ⟨⟨by decide +kernel, by decide +kernel⟩, List.mem_of_getElem? (i := 54) (by decide +kernel), List.mem_of_getElem? (i := 878) (by decide +kernel), List.mem_of_getElem? (i := 879) (by decide +kernel)⟩
def lw_privs_2 : List (MethodName × Nat) := [(⟨"MondayDeal", "isOrder", "(I)Z"⟩, 13), (⟨"MondayDeal$Outlook", "begin", "(LMondayDeal$Told;LMondayDeal$State;)V"⟩, 12), (⟨"MondayDeal$Outlook", "play", "(LMondayDeal$Told;II)V"⟩, 12), (⟨"MondayDeal$Outlook", "doWork", "(LMondayDeal$Told;II)V"⟩, 12), (⟨"MondayDeal$Outlook", "lanesWith", "(LMondayDeal$Told;II)J"⟩, 12), (⟨"MondayDeal$Outlook", "ageBehind", "(LMondayDeal$Told;LMondayDeal$State;I)I"⟩, 12), (⟨"MondayDeal$Outlook", "isDone", "(I)Z"⟩, 12), (⟨"MondayDeal$Outlook", "earnedNow", "(I)I"⟩, 12), (⟨"MondayDeal", "refusalOf", "(I)I"⟩, 13), (⟨"MondayDeal", "foretold", "()LMondayDeal$Outlook;"⟩, 13), (⟨"MondayDeal$Outlook", "tallyAll", "(II)V"⟩, 12), (⟨"MondayDeal$Outlook", "addUp", "(I)V"⟩, 12), (⟨"MondayDeal", "partOfOrders", "(II)I"⟩, 13), (⟨"MondayDeal$Bets", "wonBy", "(I)I"⟩, 5), (⟨"MondayDeal$Facts", "agree", "(I)Z"⟩, 3), (⟨"MondayDeal$Told", "fewestBroken", "(IIIIII)I"⟩, 11)]
theorem lw_r2 : ∀ q ∈ lw_privs_2, lw_okq q := List.forall_mem_cons.mpr ⟨lw_p16, List.forall_mem_cons.mpr ⟨lw_p17, List.forall_mem_cons.mpr ⟨lw_p18, List.forall_mem_cons.mpr ⟨lw_p19, List.forall_mem_cons.mpr ⟨lw_p20, List.forall_mem_cons.mpr ⟨lw_p21, List.forall_mem_cons.mpr ⟨lw_p22, List.forall_mem_cons.mpr ⟨lw_p23, List.forall_mem_cons.mpr ⟨lw_p24, List.forall_mem_cons.mpr ⟨lw_p25, List.forall_mem_cons.mpr ⟨lw_p26, List.forall_mem_cons.mpr ⟨lw_p27, List.forall_mem_cons.mpr ⟨lw_p28, List.forall_mem_cons.mpr ⟨lw_p29, List.forall_mem_cons.mpr ⟨lw_p30, List.forall_mem_cons.mpr ⟨lw_p31, fun _ h => absurd h List.not_mem_nil⟩⟩⟩⟩⟩⟩⟩⟩⟩⟩⟩⟩⟩⟩⟩⟩
theorem lw_p32 : lw_okq (⟨"MondayDealModel", "begin", "()V"⟩, 27) := ⟨⟨by decide +kernel, by decide +kernel⟩, List.mem_of_getElem? (i := 892) (by decide +kernel), List.mem_of_getElem? (i := 898) (by decide +kernel), List.mem_of_getElem? (i := 899) (by decide +kernel)⟩
theorem lw_p33 : lw_okq (⟨"MondayDealModel", "layOrders", "()V"⟩, 27) := ⟨⟨by decide +kernel, by decide +kernel⟩, List.mem_of_getElem? (i := 892) (by decide +kernel), List.mem_of_getElem? (i := 902) (by decide +kernel), List.mem_of_getElem? (i := 903) (by decide +kernel)⟩
theorem lw_p34 : lw_okq (⟨"MondayDealModel", "isAsBut", "(II)Z"⟩, 27) := ⟨⟨by decide +kernel, by decide +kernel⟩, List.mem_of_getElem? (i := 892) (by decide +kernel), List.mem_of_getElem? (i := 912) (by decide +kernel), List.mem_of_getElem? (i := 913) (by decide +kernel)⟩
theorem lw_p35 : lw_okq (⟨"MondayDealModel", "isAs", "(II)Z"⟩, 27) := ⟨⟨by decide +kernel, by decide +kernel⟩, List.mem_of_getElem? (i := 892) (by decide +kernel), List.mem_of_getElem? (i := 916) (by decide +kernel), List.mem_of_getElem? (i := 917) (by decide +kernel)⟩
theorem lw_p36 : lw_okq (⟨"MondayDealModel", "token", "()V"⟩, 27) := ⟨⟨by decide +kernel, by decide +kernel⟩, List.mem_of_getElem? (i := 892) (by decide +kernel), List.mem_of_getElem? (i := 1024) (by decide +kernel), List.mem_of_getElem? (i := 1025) (by decide +kernel)⟩
theorem lw_p37 : lw_okq (⟨"MondayDealModel", "readsClause", "()Z"⟩, 27) := ⟨⟨by decide +kernel, by decide +kernel⟩, List.mem_of_getElem? (i := 892) (by decide +kernel), List.mem_of_getElem? (i := 1031) (by decide +kernel), List.mem_of_getElem? (i := 1032) (by decide +kernel)⟩
theorem lw_p38 : lw_okq (⟨"MondayDealModel", "wordOf", "()I"⟩, 27) := ⟨⟨by decide +kernel, by decide +kernel⟩, List.mem_of_getElem? (i := 892) (by decide +kernel), List.mem_of_getElem? (i := 1035) (by decide +kernel), List.mem_of_getElem? (i := 1036) (by decide +kernel)⟩
theorem lw_p39 : lw_okq (⟨"MondayDealModel", "dayWord", "()I"⟩, 27) := ⟨⟨by decide +kernel, by decide +kernel⟩, List.mem_of_getElem? (i := 892) (by decide +kernel), List.mem_of_getElem? (i := 1039) (by decide +kernel), List.mem_of_getElem? (i := 1040) (by decide +kernel)⟩
theorem lw_p40 : lw_okq (⟨"MondayDealModel", "isWord", "(III)Z"⟩, 27) := ⟨⟨by decide +kernel, by decide +kernel⟩, List.mem_of_getElem? (i := 892) (by decide +kernel), List.mem_of_getElem? (i := 1044) (by decide +kernel), List.mem_of_getElem? (i := 1045) (by decide +kernel)⟩
theorem lw_p41 : lw_okq (⟨"MondayDealModel", "ruleWord", "()I"⟩, 27) := ⟨⟨by decide +kernel, by decide +kernel⟩, List.mem_of_getElem? (i := 892) (by decide +kernel), List.mem_of_getElem? (i := 1051) (by decide +kernel), List.mem_of_getElem? (i := 1052) (by decide +kernel)⟩
theorem lw_p42 : lw_okq (⟨"MondayDealModel", "readsRest", "(I)Z"⟩, 27) := ⟨⟨by decide +kernel, by decide +kernel⟩, List.mem_of_getElem? (i := 892) (by decide +kernel), List.mem_of_getElem? (i := 1069) (by decide +kernel), List.mem_of_getElem? (i := 1070) (by decide +kernel)⟩
theorem lw_p43 : lw_okq (⟨"MondayDealModel", "reads", "(III)Z"⟩, 27) := ⟨⟨by decide +kernel, by decide +kernel⟩, List.mem_of_getElem? (i := 892) (by decide +kernel), List.mem_of_getElem? (i := 1073) (by decide +kernel), List.mem_of_getElem? (i := 1074) (by decide +kernel)⟩
theorem lw_p44 : lw_okq (⟨"MondayDealModel", "tell", "(I)V"⟩, 27) := ⟨⟨by decide +kernel, by decide +kernel⟩, List.mem_of_getElem? (i := 892) (by decide +kernel), List.mem_of_getElem? (i := 1082) (by decide +kernel), List.mem_of_getElem? (i := 1083) (by decide +kernel)⟩
theorem lw_p45 : lw_okq (⟨"MondayDealModel", "addRule", "(I)V"⟩, 27) := ⟨⟨by decide +kernel, by decide +kernel⟩, List.mem_of_getElem? (i := 892) (by decide +kernel), List.mem_of_getElem? (i := 1087) (by decide +kernel), List.mem_of_getElem? (i := 1088) (by decide +kernel)⟩
theorem lw_p46 : lw_okq (⟨"MondayDealModel", "addWork", "(II)V"⟩, 27) := ⟨⟨by decide +kernel, by decide +kernel⟩, List.mem_of_getElem? (i := 892) (by decide +kernel), List.mem_of_getElem? (i := 1091) (by decide +kernel), List.mem_of_getElem? (i := 1092) (by decide +kernel)⟩
theorem lw_p47 : lw_okq (⟨"MondayDealModel", "clear", "()V"⟩, 27) := ⟨⟨by decide +kernel, by decide +kernel⟩, List.mem_of_getElem? (i := 892) (by decide +kernel), List.mem_of_getElem? (i := 1095) (by decide +kernel), List.mem_of_getElem? (i := 1096) (by decide +kernel)⟩
def lw_privs_3 : List (MethodName × Nat) := [(⟨"MondayDealModel", "begin", "()V"⟩, 27), (⟨"MondayDealModel", "layOrders", "()V"⟩, 27), (⟨"MondayDealModel", "isAsBut", "(II)Z"⟩, 27), (⟨"MondayDealModel", "isAs", "(II)Z"⟩, 27), (⟨"MondayDealModel", "token", "()V"⟩, 27), (⟨"MondayDealModel", "readsClause", "()Z"⟩, 27), (⟨"MondayDealModel", "wordOf", "()I"⟩, 27), (⟨"MondayDealModel", "dayWord", "()I"⟩, 27), (⟨"MondayDealModel", "isWord", "(III)Z"⟩, 27), (⟨"MondayDealModel", "ruleWord", "()I"⟩, 27), (⟨"MondayDealModel", "readsRest", "(I)Z"⟩, 27), (⟨"MondayDealModel", "reads", "(III)Z"⟩, 27), (⟨"MondayDealModel", "tell", "(I)V"⟩, 27), (⟨"MondayDealModel", "addRule", "(I)V"⟩, 27), (⟨"MondayDealModel", "addWork", "(II)V"⟩, 27), (⟨"MondayDealModel", "clear", "()V"⟩, 27)]
theorem lw_r3 : ∀ q ∈ lw_privs_3, lw_okq q := List.forall_mem_cons.mpr ⟨lw_p32, List.forall_mem_cons.mpr ⟨lw_p33, List.forall_mem_cons.mpr ⟨lw_p34, List.forall_mem_cons.mpr ⟨lw_p35, List.forall_mem_cons.mpr ⟨lw_p36, List.forall_mem_cons.mpr ⟨lw_p37, List.forall_mem_cons.mpr ⟨lw_p38, List.forall_mem_cons.mpr ⟨lw_p39, List.forall_mem_cons.mpr ⟨lw_p40, List.forall_mem_cons.mpr ⟨lw_p41, List.forall_mem_cons.mpr ⟨lw_p42, List.forall_mem_cons.mpr ⟨lw_p43, List.forall_mem_cons.mpr ⟨lw_p44, List.forall_mem_cons.mpr ⟨lw_p45, List.forall_mem_cons.mpr ⟨lw_p46, List.forall_mem_cons.mpr ⟨lw_p47, fun _ h => absurd h List.not_mem_nil⟩⟩⟩⟩⟩⟩⟩⟩⟩⟩⟩⟩⟩⟩⟩⟩
theorem lw_p48 : lw_okq (⟨"MondayDealModel", "firstMany", "(I)I"⟩, 27) := ⟨⟨by decide +kernel, by decide +kernel⟩, List.mem_of_getElem? (i := 892) (by decide +kernel), List.mem_of_getElem? (i := 1107) (by decide +kernel), List.mem_of_getElem? (i := 1108) (by decide +kernel)⟩
theorem lw_p49 : lw_okq (⟨"MondayDealModel", "isWork", "(I)Z"⟩, 27) := ⟨⟨by decide +kernel, by decide +kernel⟩, List.mem_of_getElem? (i := 892) (by decide +kernel), List.mem_of_getElem? (i := 1115) (by decide +kernel), List.mem_of_getElem? (i := 1116) (by decide +kernel)⟩
theorem lw_p50 : lw_okq (⟨"MondayDealModel", "earns", "(II)I"⟩, 27) := ⟨⟨by decide +kernel, by decide +kernel⟩, List.mem_of_getElem? (i := 892) (by decide +kernel), List.mem_of_getElem? (i := 1123) (by decide +kernel), List.mem_of_getElem? (i := 1124) (by decide +kernel)⟩
theorem lw_p51 : lw_okq (⟨"MondayDealModel", "isOrder", "(I)Z"⟩, 27) := ⟨⟨by decide +kernel, by decide +kernel⟩, List.mem_of_getElem? (i := 892) (by decide +kernel), List.mem_of_getElem? (i := 1135) (by decide +kernel), List.mem_of_getElem? (i := 1136) (by decide +kernel)⟩
theorem lw_p52 : lw_okq (⟨"MondayDealModel", "keepPast", "()V"⟩, 27) := ⟨⟨by decide +kernel, by decide +kernel⟩, List.mem_of_getElem? (i := 892) (by decide +kernel), List.mem_of_getElem? (i := 1147) (by decide +kernel), List.mem_of_getElem? (i := 1148) (by decide +kernel)⟩
theorem lw_p53 : lw_okq (⟨"MondayDealModel", "copy", "(II)V"⟩, 27) := ⟨⟨by decide +kernel, by decide +kernel⟩, List.mem_of_getElem? (i := 892) (by decide +kernel), List.mem_of_getElem? (i := 1151) (by decide +kernel), List.mem_of_getElem? (i := 1152) (by decide +kernel)⟩
theorem lw_p54 : lw_okq (⟨"MondayDealModel", "go", "(II)V"⟩, 27) := ⟨⟨by decide +kernel, by decide +kernel⟩, List.mem_of_getElem? (i := 892) (by decide +kernel), List.mem_of_getElem? (i := 1155) (by decide +kernel), List.mem_of_getElem? (i := 1156) (by decide +kernel)⟩
theorem lw_p55 : lw_okq (⟨"MondayDealModel", "doWork", "(II)V"⟩, 27) := ⟨⟨by decide +kernel, by decide +kernel⟩, List.mem_of_getElem? (i := 892) (by decide +kernel), List.mem_of_getElem? (i := 1159) (by decide +kernel), List.mem_of_getElem? (i := 1160) (by decide +kernel)⟩
theorem lw_p56 : lw_okq (⟨"MondayDealModel", "there", "(I)I"⟩, 27) := ⟨⟨by decide +kernel, by decide +kernel⟩, List.mem_of_getElem? (i := 892) (by decide +kernel), List.mem_of_getElem? (i := 1167) (by decide +kernel), List.mem_of_getElem? (i := 1168) (by decide +kernel)⟩
theorem lw_p57 : lw_okq (⟨"MondayDealModel", "earnedBy", "(II)I"⟩, 27) := ⟨⟨by decide +kernel, by decide +kernel⟩, List.mem_of_getElem? (i := 892) (by decide +kernel), List.mem_of_getElem? (i := 1193) (by decide +kernel), List.mem_of_getElem? (i := 1194) (by decide +kernel)⟩
theorem lw_p58 : lw_okq (⟨"MondayDealModel", "earnedInAll", "(I)I"⟩, 27) := ⟨⟨by decide +kernel, by decide +kernel⟩, List.mem_of_getElem? (i := 892) (by decide +kernel), List.mem_of_getElem? (i := 1207) (by decide +kernel), List.mem_of_getElem? (i := 1208) (by decide +kernel)⟩
theorem lw_p59 : lw_okq (⟨"MondayDealModel", "outmost", "(II)I"⟩, 27) := ⟨⟨by decide +kernel, by decide +kernel⟩, List.mem_of_getElem? (i := 892) (by decide +kernel), List.mem_of_getElem? (i := 1219) (by decide +kernel), List.mem_of_getElem? (i := 1220) (by decide +kernel)⟩
theorem lw_p60 : lw_okq (⟨"MondayDealModel", "wonBy", "(II)I"⟩, 27) := ⟨⟨by decide +kernel, by decide +kernel⟩, List.mem_of_getElem? (i := 892) (by decide +kernel), List.mem_of_getElem? (i := 1262) (by decide +kernel), List.mem_of_getElem? (i := 1263) (by decide +kernel)⟩
theorem lw_p61 : lw_okq (⟨"MondayDealModel", "fits", "(I)Z"⟩, 27) := ⟨⟨by decide +kernel, by decide +kernel⟩, List.mem_of_getElem? (i := 892) (by decide +kernel), List.mem_of_getElem? (i := 1279) (by decide +kernel), List.mem_of_getElem? (i := 1280) (by decide +kernel)⟩
theorem lw_p62 : lw_okq (⟨"MondayDealModel", "latestMany", "()I"⟩, 27) := ⟨⟨by decide +kernel, by decide +kernel⟩, List.mem_of_getElem? (i := 892) (by decide +kernel), List.mem_of_getElem? (i := 1283) (by decide +kernel), List.mem_of_getElem? (i := 1284) (by decide +kernel)⟩
theorem lw_p63 : lw_okq (⟨"MondayDealModel", "canBe", "(III)Z"⟩, 27) := ⟨⟨by decide +kernel, by decide +kernel⟩, List.mem_of_getElem? (i := 892) (by decide +kernel), List.mem_of_getElem? (i := 1305) (by decide +kernel), List.mem_of_getElem? (i := 1306) (by decide +kernel)⟩
def lw_privs_4 : List (MethodName × Nat) := [(⟨"MondayDealModel", "firstMany", "(I)I"⟩, 27), (⟨"MondayDealModel", "isWork", "(I)Z"⟩, 27), (⟨"MondayDealModel", "earns", "(II)I"⟩, 27), (⟨"MondayDealModel", "isOrder", "(I)Z"⟩, 27), (⟨"MondayDealModel", "keepPast", "()V"⟩, 27), (⟨"MondayDealModel", "copy", "(II)V"⟩, 27), (⟨"MondayDealModel", "go", "(II)V"⟩, 27), (⟨"MondayDealModel", "doWork", "(II)V"⟩, 27), (⟨"MondayDealModel", "there", "(I)I"⟩, 27), (⟨"MondayDealModel", "earnedBy", "(II)I"⟩, 27), (⟨"MondayDealModel", "earnedInAll", "(I)I"⟩, 27), (⟨"MondayDealModel", "outmost", "(II)I"⟩, 27), (⟨"MondayDealModel", "wonBy", "(II)I"⟩, 27), (⟨"MondayDealModel", "fits", "(I)Z"⟩, 27), (⟨"MondayDealModel", "latestMany", "()I"⟩, 27), (⟨"MondayDealModel", "canBe", "(III)Z"⟩, 27)]
theorem lw_r4 : ∀ q ∈ lw_privs_4, lw_okq q := List.forall_mem_cons.mpr ⟨lw_p48, List.forall_mem_cons.mpr ⟨lw_p49, List.forall_mem_cons.mpr ⟨lw_p50, List.forall_mem_cons.mpr ⟨lw_p51, List.forall_mem_cons.mpr ⟨lw_p52, List.forall_mem_cons.mpr ⟨lw_p53, List.forall_mem_cons.mpr ⟨lw_p54, List.forall_mem_cons.mpr ⟨lw_p55, List.forall_mem_cons.mpr ⟨lw_p56, List.forall_mem_cons.mpr ⟨lw_p57, List.forall_mem_cons.mpr ⟨lw_p58, List.forall_mem_cons.mpr ⟨lw_p59, List.forall_mem_cons.mpr ⟨lw_p60, List.forall_mem_cons.mpr ⟨lw_p61, List.forall_mem_cons.mpr ⟨lw_p62, List.forall_mem_cons.mpr ⟨lw_p63, fun _ h => absurd h List.not_mem_nil⟩⟩⟩⟩⟩⟩⟩⟩⟩⟩⟩⟩⟩⟩⟩⟩
def lw_privs : List (MethodName × Nat) := lw_privs_1 ++ (lw_privs_2 ++ (lw_privs_3 ++ (lw_privs_4)))
def lw_tbl : List Cond := k2_sels lw_privs ++ tables_1
theorem lw_privs_ok : ∀ q ∈ lw_privs, lw_okq q := by
  show ∀ q ∈ lw_privs_1 ++ (lw_privs_2 ++ (lw_privs_3 ++ (lw_privs_4))), lw_okq q
  exact List.forall_mem_append.mpr ⟨lw_r1, List.forall_mem_append.mpr ⟨lw_r2, List.forall_mem_append.mpr ⟨lw_r3, lw_r4⟩⟩⟩
end
section
def RX0 : String := "MondayDeal$Bets"
def TX0 : u_T := fun k => match k with
  | 0 => ("MondayDeal$Bets", "days", "[I", true)
  | 1 => ("MondayDeal$Bets", "firsts", "[I", true)
  | 2 => ("MondayDeal$Bets", "prices", "[I", true)
  | 3 => ("MondayDeal$Bets", "size", "I", false)
  | _ => ("MondayDeal$Bets", "outcomes", "J", false)
def tyX0 : Nat → FieldType := fun k => match k with
  | 0 => .array .int
  | 1 => .array .int
  | 2 => .array .int
  | 3 => .int
  | _ => .long
abbrev wsX00 : List Cond := u_ws RX0 TX0 5
theorem nmX0 : ∀ a, a < 5 → ∀ b, b < 5 → a ≠ b → (TX0 a).2.1 ≠ (TX0 b).2.1 := by decide +kernel
theorem tyX0_ok : ∀ k, k < 5 → parseFieldDescriptor (TX0 k).2.2.1 = some (tyX0 k) := by decide +kernel
def RX1 : String := "MondayDeal$Facts"
def TX1 : u_T := fun k => match k with
  | 0 => ("MondayDeal$Facts", "earlier", "[I", true)
  | 1 => ("MondayDeal$Facts", "later", "[I", true)
  | _ => ("MondayDeal$Facts", "size", "I", false)
def tyX1 : Nat → FieldType := fun k => match k with
  | 0 => .array .int
  | 1 => .array .int
  | _ => .int
abbrev wsX10 : List Cond := u_ws RX1 TX1 3
theorem nmX1 : ∀ a, a < 3 → ∀ b, b < 3 → a ≠ b → (TX1 a).2.1 ≠ (TX1 b).2.1 := by decide +kernel
theorem tyX1_ok : ∀ k, k < 3 → parseFieldDescriptor (TX1 k).2.2.1 = some (tyX1 k) := by decide +kernel
def RX2 : String := "MondayDeal$Orders"
def TX2 : u_T := fun k => match k with
  | 0 => ("MondayDeal$Orders", "packed", "[I", true)
  | 1 => ("MondayDeal$Orders", "size", "I", false)
  | 2 => ("MondayDeal$Orders", "placed", "[[I", true)
  | _ => ("MondayDeal$Orders", "follows", "[[I", true)
def tyX2 : Nat → FieldType := fun k => match k with
  | 0 => .array .int
  | 1 => .int
  | 2 => .array (.array .int)
  | _ => .array (.array .int)
abbrev wsX20 : List Cond := u_ws RX2 TX2 4
theorem nmX2 : ∀ a, a < 4 → ∀ b, b < 4 → a ≠ b → (TX2 a).2.1 ≠ (TX2 b).2.1 := by decide +kernel
theorem tyX2_ok : ∀ k, k < 4 → parseFieldDescriptor (TX2 k).2.2.1 = some (tyX2 k) := by decide +kernel
def RX3 : String := "MondayDeal$Outlook"
def TX3 : u_T := fun k => match k with
  | 0 => ("MondayDeal$Outlook", "old", "[[J", true)
  | 1 => ("MondayDeal$Outlook", "made", "[[J", true)
  | 2 => ("MondayDeal$Outlook", "lastOld", "[I", true)
  | 3 => ("MondayDeal$Outlook", "placeOf", "[I", true)
  | 4 => ("MondayDeal$Outlook", "done", "[J", true)
  | 5 => ("MondayDeal$Outlook", "gain", "[I", true)
  | 6 => ("MondayDeal$Outlook", "times", "[[J", true)
  | 7 => ("MondayDeal$Outlook", "totals", "[I", true)
  | 8 => ("MondayDeal$Outlook", "most", "I", false)
  | 9 => ("MondayDeal$Outlook", "mostOrder", "I", false)
  | 10 => ("MondayDeal$Outlook", "least", "I", false)
  | _ => ("MondayDeal$Outlook", "leastOrder", "I", false)
def tyX3 : Nat → FieldType := fun k => match k with
  | 0 => .array (.array .long)
  | 1 => .array (.array .long)
  | 2 => .array .int
  | 3 => .array .int
  | 4 => .array .long
  | 5 => .array .int
  | 6 => .array (.array .long)
  | 7 => .array .int
  | 8 => .int
  | 9 => .int
  | 10 => .int
  | _ => .int
abbrev wsX30 : List Cond := u_ws RX3 TX3 12
theorem nmX3 : ∀ a, a < 12 → ∀ b, b < 12 → a ≠ b → (TX3 a).2.1 ≠ (TX3 b).2.1 := by decide +kernel
theorem tyX3_ok : ∀ k, k < 12 → parseFieldDescriptor (TX3 k).2.2.1 = some (tyX3 k) := by decide +kernel
def RX4 : String := "MondayDeal$Past"
def TX4 : u_T := fun k => match k with
  | 0 => ("MondayDeal$Past", "states", "[LMondayDeal$State;", true)
  | 1 => ("MondayDeal$Past", "newest", "I", false)
  | _ => ("MondayDeal$Past", "size", "I", false)
def tyX4 : Nat → FieldType := fun k => match k with
  | 0 => .array (.object "MondayDeal$State")
  | 1 => .int
  | _ => .int
abbrev wsX40 : List Cond := u_ws RX4 TX4 3
theorem nmX4 : ∀ a, a < 3 → ∀ b, b < 3 → a ≠ b → (TX4 a).2.1 ≠ (TX4 b).2.1 := by decide +kernel
theorem tyX4_ok : ∀ k, k < 3 → parseFieldDescriptor (TX4 k).2.2.1 = some (tyX4 k) := by decide +kernel
def RX5 : String := "MondayDeal$State"
def TX5 : u_T := fun k => match k with
  | 0 => ("MondayDeal$State", "age", "[I", true)
  | 1 => ("MondayDeal$State", "done", "[I", true)
  | 2 => ("MondayDeal$State", "earned", "I", false)
  | 3 => ("MondayDeal$State", "weeks", "I", false)
  | _ => ("MondayDeal$State", "recent", "[I", true)
def tyX5 : Nat → FieldType := fun k => match k with
  | 0 => .array .int
  | 1 => .array .int
  | 2 => .int
  | 3 => .int
  | _ => .array .int
abbrev wsX50 : List Cond := u_ws RX5 TX5 5
theorem nmX5 : ∀ a, a < 5 → ∀ b, b < 5 → a ≠ b → (TX5 a).2.1 ≠ (TX5 b).2.1 := by decide +kernel
theorem tyX5_ok : ∀ k, k < 5 → parseFieldDescriptor (TX5 k).2.2.1 = some (tyX5 k) := by decide +kernel
def RX6 : String := "MondayDeal$Text"
def TX6 : u_T := fun k => match k with
  | 0 => ("MondayDeal$Text", "letters", "[C", true)
  | 1 => ("MondayDeal$Text", "length", "I", false)
  | 2 => ("MondayDeal$Text", "clauses", "I", false)
  | 3 => ("MondayDeal$Text", "start", "I", false)
  | _ => ("MondayDeal$Text", "end", "I", false)
def tyX6 : Nat → FieldType := fun k => match k with
  | 0 => .array .char
  | 1 => .int
  | 2 => .int
  | 3 => .int
  | _ => .int
abbrev wsX60 : List Cond := u_ws RX6 TX6 5
theorem nmX6 : ∀ a, a < 5 → ∀ b, b < 5 → a ≠ b → (TX6 a).2.1 ≠ (TX6 b).2.1 := by decide +kernel
theorem tyX6_ok : ∀ k, k < 5 → parseFieldDescriptor (TX6 k).2.2.1 = some (tyX6 k) := by decide +kernel
def RX7 : String := "MondayDeal$Told"
def TX7 : u_T := fun k => match k with
  | 0 => ("MondayDeal$Told", "kinds", "[I", true)
  | 1 => ("MondayDeal$Told", "works", "I", false)
  | 2 => ("MondayDeal$Told", "workDay", "[I", true)
  | 3 => ("MondayDeal$Told", "worth", "[I", true)
  | 4 => ("MondayDeal$Told", "keeps", "[I", true)
  | 5 => ("MondayDeal$Told", "feast", "[I", true)
  | 6 => ("MondayDeal$Told", "behind", "[I", true)
  | 7 => ("MondayDeal$Told", "rules", "I", false)
  | 8 => ("MondayDeal$Told", "ruleForm", "[I", true)
  | 9 => ("MondayDeal$Told", "ruleDay", "[I", true)
  | _ => ("MondayDeal$Told", "ruleOther", "[I", true)
def tyX7 : Nat → FieldType := fun k => match k with
  | 0 => .array .int
  | 1 => .int
  | 2 => .array .int
  | 3 => .array .int
  | 4 => .array .int
  | 5 => .array .int
  | 6 => .array .int
  | 7 => .int
  | 8 => .array .int
  | 9 => .array .int
  | _ => .array .int
abbrev wsX70 : List Cond := u_ws RX7 TX7 11
theorem nmX7 : ∀ a, a < 11 → ∀ b, b < 11 → a ≠ b → (TX7 a).2.1 ≠ (TX7 b).2.1 := by decide +kernel
theorem tyX7_ok : ∀ k, k < 11 → parseFieldDescriptor (TX7 k).2.2.1 = some (tyX7 k) := by decide +kernel
def RX8 : String := "MondayDeal"
def TX8 : u_T := fun k => match k with
  | 0 => ("MondayDeal", "text", "LMondayDeal$Text;", true)
  | 1 => ("MondayDeal", "told", "LMondayDeal$Told;", true)
  | 2 => ("MondayDeal", "draft", "LMondayDeal$Told;", true)
  | 3 => ("MondayDeal", "rows", "LMondayDeal$Orders;", true)
  | 4 => ("MondayDeal", "outlook", "LMondayDeal$Outlook;", true)
  | 5 => ("MondayDeal", "now", "LMondayDeal$State;", true)
  | 6 => ("MondayDeal", "past", "LMondayDeal$Past;", true)
  | 7 => ("MondayDeal", "kept", "[LMondayDeal$State;", true)
  | 8 => ("MondayDeal", "isKept", "[Z", true)
  | 9 => ("MondayDeal", "bets", "LMondayDeal$Bets;", true)
  | 10 => ("MondayDeal", "facts", "LMondayDeal$Facts;", true)
  | 11 => ("MondayDeal", "rowsStand", "Z", false)
  | _ => ("MondayDeal", "outlookStands", "Z", false)
def tyX8 : Nat → FieldType := fun k => match k with
  | 0 => .object "MondayDeal$Text"
  | 1 => .object "MondayDeal$Told"
  | 2 => .object "MondayDeal$Told"
  | 3 => .object "MondayDeal$Orders"
  | 4 => .object "MondayDeal$Outlook"
  | 5 => .object "MondayDeal$State"
  | 6 => .object "MondayDeal$Past"
  | 7 => .array (.object "MondayDeal$State")
  | 8 => .array .boolean
  | 9 => .object "MondayDeal$Bets"
  | 10 => .object "MondayDeal$Facts"
  | 11 => .boolean
  | _ => .boolean
abbrev wsX80 : List Cond := u_ws RX8 TX8 13
theorem nmX8 : ∀ a, a < 13 → ∀ b, b < 13 → a ≠ b → (TX8 a).2.1 ≠ (TX8 b).2.1 := by decide +kernel
theorem tyX8_ok : ∀ k, k < 13 → parseFieldDescriptor (TX8 k).2.2.1 = some (tyX8 k) := by decide +kernel
def RX9 : String := "MondayDealModel"
def TX9 : u_T := fun k => match k with
  | 0 => ("MondayDealModel", "row", "[I", true)
  | 1 => ("MondayDealModel", "pastMany", "I", false)
  | 2 => ("MondayDealModel", "isKept", "[Z", true)
  | 3 => ("MondayDealModel", "text", "[I", true)
  | 4 => ("MondayDealModel", "length", "I", false)
  | 5 => ("MondayDealModel", "read", "[I", true)
  | 6 => ("MondayDealModel", "readMany", "I", false)
  | 7 => ("MondayDealModel", "kinds", "[I", true)
  | 8 => ("MondayDealModel", "works", "I", false)
  | 9 => ("MondayDealModel", "days", "[I", true)
  | 10 => ("MondayDealModel", "worths", "[I", true)
  | 11 => ("MondayDealModel", "keeps", "[I", true)
  | 12 => ("MondayDealModel", "feasts", "[I", true)
  | 13 => ("MondayDealModel", "behinds", "[I", true)
  | 14 => ("MondayDealModel", "rules", "I", false)
  | 15 => ("MondayDealModel", "ruled", "[I", true)
  | 16 => ("MondayDealModel", "orders", "[I", true)
  | 17 => ("MondayDealModel", "orderMany", "I", false)
  | 18 => ("MondayDealModel", "at", "I", false)
  | 19 => ("MondayDealModel", "place", "I", false)
  | 20 => ("MondayDealModel", "end", "I", false)
  | 21 => ("MondayDealModel", "readWorks", "I", false)
  | 22 => ("MondayDealModel", "readRules", "I", false)
  | 23 => ("MondayDealModel", "bets", "[I", true)
  | 24 => ("MondayDealModel", "betMany", "I", false)
  | 25 => ("MondayDealModel", "told", "[I", true)
  | _ => ("MondayDealModel", "knownMany", "I", false)
def tyX9 : Nat → FieldType := fun k => match k with
  | 0 => .array .int
  | 1 => .int
  | 2 => .array .boolean
  | 3 => .array .int
  | 4 => .int
  | 5 => .array .int
  | 6 => .int
  | 7 => .array .int
  | 8 => .int
  | 9 => .array .int
  | 10 => .array .int
  | 11 => .array .int
  | 12 => .array .int
  | 13 => .array .int
  | 14 => .int
  | 15 => .array .int
  | 16 => .array .int
  | 17 => .int
  | 18 => .int
  | 19 => .int
  | 20 => .int
  | 21 => .int
  | 22 => .int
  | 23 => .array .int
  | 24 => .int
  | 25 => .array .int
  | _ => .int
abbrev wsX90 : List Cond := u_ws RX9 TX9 27
theorem nmX9 : ∀ a, a < 27 → ∀ b, b < 27 → a ≠ b → (TX9 a).2.1 ≠ (TX9 b).2.1 := by decide +kernel
theorem tyX9_ok : ∀ k, k < 27 → parseFieldDescriptor (TX9 k).2.2.1 = some (tyX9 k) := by decide +kernel
abbrev mcl : List vw_C := [(RX0, TX0, 5), (RX1, TX1, 3), (RX2, TX2, 4), (RX3, TX3, 12), (RX4, TX4, 3), (RX5, TX5, 5), (RX6, TX6, 5), (RX7, TX7, 11), (RX8, TX8, 13), (RX9, TX9, 27)]
def mty (ci : Nat) : Nat → FieldType := match ci with
  | 0 => tyX0
  | 1 => tyX1
  | 2 => tyX2
  | 3 => tyX3
  | 4 => tyX4
  | 5 => tyX5
  | 6 => tyX6
  | 7 => tyX7
  | 8 => tyX8
  | _ => tyX9
/-- the tables' words that stay good -/
def mg : List Cond := lw_tbl.filter goodWord
theorem mg_in {w : Cond} (h : w ∈ tables_1) (g : goodWord w = true) : w ∈ mg := List.mem_filter.mpr ⟨List.mem_append_right _ h, g⟩
theorem mg_sel {w : Cond} (h : w ∈ k2_sels lw_privs) (g : goodWord w = true) : w ∈ mg := List.mem_filter.mpr ⟨List.mem_append_left _ h, g⟩
theorem mg_tb {w : Cond} (h : w ∈ mg) : w ∈ lw_tbl := (List.mem_filter.mp h).1
theorem tb1 {w : Cond} {i : Nat} (h : tables_1_1[i]? = some w) : w ∈ tables_1 := List.mem_append_left _ (List.mem_of_getElem? h)
theorem tb2 {w : Cond} {i : Nat} (h : tables_1_2[i]? = some w) : w ∈ tables_1 := List.mem_append_right _ (List.mem_append_left _ (List.mem_of_getElem? h))
theorem tb3 {w : Cond} {i : Nat} (h : tables_1_3[i]? = some w) : w ∈ tables_1 := List.mem_append_right _ (List.mem_append_right _ (List.mem_append_left _ (List.mem_of_getElem? h)))
theorem tb4 {w : Cond} {i : Nat} (h : tables_1_4[i]? = some w) : w ∈ tables_1 := List.mem_append_right _ (List.mem_append_right _ (List.mem_append_right _ (List.mem_append_left _ (List.mem_of_getElem? h))))
theorem tb5 {w : Cond} {i : Nat} (h : tables_1_5[i]? = some w) : w ∈ tables_1 := List.mem_append_right _ (List.mem_append_right _ (List.mem_append_right _ (List.mem_append_right _ (List.mem_append_left _ (List.mem_of_getElem? h)))))
theorem tb6 {w : Cond} {i : Nat} (h : tables_1_6[i]? = some w) : w ∈ tables_1 := List.mem_append_right _ (List.mem_append_right _ (List.mem_append_right _ (List.mem_append_right _ (List.mem_append_right _ (List.mem_of_getElem? h)))))
theorem wcX0 : ∀ w ∈ wsX00, w ∈ mg := by
  have h : (wsX00).all (fun w => decide (w ∈ tables_1) && goodWord w) = true := by decide +kernel
  intro w hw
  have h1 := List.all_eq_true.mp h w hw
  simp only [Bool.and_eq_true, decide_eq_true_eq] at h1
  exact mg_in h1.1 h1.2
theorem wcX1 : ∀ w ∈ wsX10, w ∈ mg := by
  have h : (wsX10).all (fun w => decide (w ∈ tables_1) && goodWord w) = true := by decide +kernel
  intro w hw
  have h1 := List.all_eq_true.mp h w hw
  simp only [Bool.and_eq_true, decide_eq_true_eq] at h1
  exact mg_in h1.1 h1.2
theorem wcX2 : ∀ w ∈ wsX20, w ∈ mg := by
  have h : (wsX20).all (fun w => decide (w ∈ tables_1) && goodWord w) = true := by decide +kernel
  intro w hw
  have h1 := List.all_eq_true.mp h w hw
  simp only [Bool.and_eq_true, decide_eq_true_eq] at h1
  exact mg_in h1.1 h1.2
theorem wcX3 : ∀ w ∈ wsX30, w ∈ mg := by
  have h : (wsX30).all (fun w => decide (w ∈ tables_1) && goodWord w) = true := by decide +kernel
  intro w hw
  have h1 := List.all_eq_true.mp h w hw
  simp only [Bool.and_eq_true, decide_eq_true_eq] at h1
  exact mg_in h1.1 h1.2
theorem wcX4 : ∀ w ∈ wsX40, w ∈ mg := by
  have h : (wsX40).all (fun w => decide (w ∈ tables_1) && goodWord w) = true := by decide +kernel
  intro w hw
  have h1 := List.all_eq_true.mp h w hw
  simp only [Bool.and_eq_true, decide_eq_true_eq] at h1
  exact mg_in h1.1 h1.2
theorem wcX5 : ∀ w ∈ wsX50, w ∈ mg := by
  have h : (wsX50).all (fun w => decide (w ∈ tables_1) && goodWord w) = true := by decide +kernel
  intro w hw
  have h1 := List.all_eq_true.mp h w hw
  simp only [Bool.and_eq_true, decide_eq_true_eq] at h1
  exact mg_in h1.1 h1.2
theorem wcX6 : ∀ w ∈ wsX60, w ∈ mg := by
  have h : (wsX60).all (fun w => decide (w ∈ tables_1) && goodWord w) = true := by decide +kernel
  intro w hw
  have h1 := List.all_eq_true.mp h w hw
  simp only [Bool.and_eq_true, decide_eq_true_eq] at h1
  exact mg_in h1.1 h1.2
theorem wcX7 : ∀ w ∈ wsX70, w ∈ mg := by
  have h : (wsX70).all (fun w => decide (w ∈ tables_1) && goodWord w) = true := by decide +kernel
  intro w hw
  have h1 := List.all_eq_true.mp h w hw
  simp only [Bool.and_eq_true, decide_eq_true_eq] at h1
  exact mg_in h1.1 h1.2
theorem wcX8 : ∀ w ∈ wsX80, w ∈ mg := by
  have h : (wsX80).all (fun w => decide (w ∈ tables_1) && goodWord w) = true := by decide +kernel
  intro w hw
  have h1 := List.all_eq_true.mp h w hw
  simp only [Bool.and_eq_true, decide_eq_true_eq] at h1
  exact mg_in h1.1 h1.2
theorem wcX9 : ∀ w ∈ wsX90, w ∈ mg := by
  have h : (wsX90).all (fun w => decide (w ∈ tables_1) && goodWord w) = true := by decide +kernel
  intro w hw
  have h1 := List.all_eq_true.mp h w hw
  simp only [Bool.and_eq_true, decide_eq_true_eq] at h1
  exact mg_in h1.1 h1.2
end
section
/-! the mini machine: values, memories, worlds -/
abbrev mV : Type := Int ⊕ Int ⊕ Nat ⊕ Nat
abbrev mS : Type := List (Nat × Nat)
abbrev mH : Type := Nat → Nat → Int
abbrev mM : Type := mS × List (List Nat) × mH
abbrev mT : Type := MethodName × ByteArray × Nat × Option FieldType × List (Nat × Instr × Nat)
def inI (x : Int) : Prop := -2147483648 ≤ x ∧ x ≤ 2147483647
def inL (x : Int) : Prop := -9223372036854775808 ≤ x ∧ x ≤ 9223372036854775807
theorem inI_to {x : Int} (h : inI x) : (Int32.ofInt x).toInt = x := Int32.toInt_ofInt_of_le h.1 (Int.lt_of_le_of_lt h.2 (by decide))
theorem inL_to {x : Int} (h : inL x) : (Int64.ofInt x).toInt = x := Int64.toInt_ofInt_of_le h.1 (Int.lt_of_le_of_lt h.2 (by decide))
theorem inI_of (z : Int32) : inI z.toInt := ⟨Int32.le_toInt z, by have := Int32.toInt_lt z; omega⟩
theorem inL_of (z : Int64) : inL z.toInt := ⟨Int64.le_toInt z, by have := Int64.toInt_lt z; omega⟩
theorem inI_cl {x : Int} (h : inI x) : (Int32.ofInt x).toNatClampNeg = x.toNat := Int32.toNatClampNeg_ofInt_of_le h.1 (Int.lt_of_le_of_lt h.2 (by decide))
theorem inI_eq {x y : Int} (hx : inI x) (hy : inI y) : Int32.ofInt x = Int32.ofInt y ↔ x = y := ⟨fun h => by rw [← inI_to hx, ← inI_to hy, h], fun h => by rw [h]⟩
theorem inI_lt {x y : Int} (hx : inI x) (hy : inI y) : Int32.ofInt x < Int32.ofInt y ↔ x < y := by rw [Int32.lt_iff_toInt_lt, inI_to hx, inI_to hy]
theorem inI_le {x y : Int} (hx : inI x) (hy : inI y) : Int32.ofInt x ≤ Int32.ofInt y ↔ x ≤ y := by rw [Int32.le_iff_toInt_le, inI_to hx, inI_to hy]
theorem inL_eq {x y : Int} (hx : inL x) (hy : inL y) : Int64.ofInt x = Int64.ofInt y ↔ x = y := ⟨fun h => by rw [← inL_to hx, ← inL_to hy, h], fun h => by rw [h]⟩
theorem inL_lt {x y : Int} (hx : inL x) (hy : inL y) : Int64.ofInt x < Int64.ofInt y ↔ x < y := by rw [Int64.lt_iff_toInt_lt, inL_to hx, inL_to hy]
theorem inI_vp {x : Int} {n : Nat} (h0 : 0 ≤ x) (h : x < n) (hx : inI x) : vp_in (Int32.ofInt x) n := by
  rw [vp_in_iff, inI_to hx]; exact ⟨h0, h⟩
theorem inI_L {x : Int} (h : inI x) : inL x := ⟨by have := h.1; omega, by have := h.2; omega⟩
def hset (h : mH) (a i : Nat) (v : Int) : mH := fun b j => if b = a then (if j = i then v else h b j) else h b j
theorem hset_ne {h : mH} {a i b : Nat} {v : Int} (hb : b ≠ a) : hset h a i v b = h b := by
  funext j; simp [hset, hb]
def mref (ρ : Nat → Nat) (r : List (List Nat)) (a j : Nat) : Option Nat := match (r.getD a []).getD j 0 with
  | 0 => none
  | b + 1 => some (ρ b)
def mfld (ρ : Nat → Nat) (r : List (List Nat)) (h : mH) (ci a k : Nat) : Value := match mty ci k with
  | .int => .int (Int32.ofInt (h a k))
  | .boolean => .int (Int32.ofInt (h a k))
  | .long => .long (Int64.ofInt (h a k))
  | _ => va_rf (mref ρ r a k)
def mcell (cA : Nat → ClassId) (ρ : Nat → Nat) (r : List (List Nat)) (h : mH) (a : Nat) (q : Nat × Nat) : va_E :=
  if q.1 < 10 then .inr (q.1, (List.range q.2).map (mfld ρ r h q.1 a))
  else if q.1 = 11 then .inl (cA 11, q.2, .inr (.inl (fun j => Int64.ofInt (h a j))))
  else if q.1 < 14 then .inl (cA q.1, q.2, .inl (fun j => Int32.ofInt (h a j)))
  else .inl (cA q.1, q.2, .inr (.inr (.inr (.inr (fun j => mref ρ r a j)))))
def mW (cA : Nat → ClassId) (ρ : Nat → Nat) (M : mM) : va_W := (List.range M.1.length).map (fun a => (ρ a, mcell cA ρ M.2.1 M.2.2 a (M.1.getD a (0, 0))))
theorem mW_len {cA : Nat → ClassId} {ρ : Nat → Nat} {M : mM} : (mW cA ρ M).length = M.1.length := by simp [mW]
theorem mW_at {cA : Nat → ClassId} {ρ : Nat → Nat} {M : mM} {a : Nat} {q : Nat × Nat} (h : M.1[a]? = some q) : (mW cA ρ M)[a]? = some (ρ a, mcell cA ρ M.2.1 M.2.2 a q) := by
  have hl : a < M.1.length := (List.getElem?_eq_some_iff.mp h).1
  simp only [mW, List.getElem?_map, List.getElem?_range hl, Option.map_some, List.getD_eq_getElem?_getD, h, Option.getD_some]
theorem mW_set {cA : Nat → ClassId} {ρ : Nat → Nat} {M M' : mM} {a : Nat} {q : Nat × Nat} (hS : M'.1 = M.1) (ha : M.1[a]? = some q) (ho : ∀ b, b ≠ a → ∀ q', mcell cA ρ M'.2.1 M'.2.2 b q' = mcell cA ρ M.2.1 M.2.2 b q') {e : va_E} (he : e = mcell cA ρ M'.2.1 M'.2.2 a q) : (mW cA ρ M).set a (ρ a, e) = mW cA ρ M' := by
  have hl : a < M.1.length := (List.getElem?_eq_some_iff.mp ha).1
  apply List.ext_getElem?
  intro i
  by_cases hi : i = a
  · subst hi
    rw [List.getElem?_set_self (by rw [mW_len]; exact hl), mW_at (M := M') (q := q) (by rw [hS]; exact ha), he]
  · rw [List.getElem?_set_ne (Ne.symm hi)]
    simp only [mW, List.getElem?_map, hS]
    by_cases hk : i < M.1.length
    · rw [List.getElem?_range hk]
      simp [ho i hi]
    · rw [List.getElem?_eq_none (by simpa using hk)]
      rfl
theorem mcell_h {cA : Nat → ClassId} {ρ : Nat → Nat} {r : List (List Nat)} {h h' : mH} {b : Nat} (e : h' b = h b) (q : Nat × Nat) : mcell cA ρ r h' b q = mcell cA ρ r h b q := by
  have e2 : mfld ρ r h' q.1 b = mfld ρ r h q.1 b := by
    funext k
    simp only [mfld, e]
  simp only [mcell, e, e2]
/-- the ranges of what a memory holds -/
def mrg (kd j : Nat) (x : Int) : Prop := if kd = 11 ∨ (kd < 10 ∧ mty kd j = .long) then inL x else inI x
def mOK (M : mM) : Prop := ∀ (a : Nat) (q : Nat × Nat), M.1[a]? = some q → ∀ j, mrg q.1 j (M.2.2 a j)
theorem mOK_set {S : mS} {r : List (List Nat)} {h : mH} {a i : Nat} {v : Int} (h0 : mOK (S, r, h)) (hv : ∀ q, S[a]? = some q → mrg q.1 i v) : mOK (S, r, hset h a i v) := by
  intro b q hb j
  show mrg q.1 j (hset h a i v b j)
  unfold hset
  by_cases e : b = a
  · subst e
    rw [if_pos rfl]
    by_cases e2 : j = i
    · subst e2
      rw [if_pos rfl]
      exact hv q hb
    · rw [if_neg e2]
      exact h0 b q hb j
  · rw [if_neg e]
    exact h0 b q hb j
def mcv (ρ sa : Nat → Nat) : mV → Value
  | .inl x => .int (Int32.ofInt x)
  | .inr (.inl x) => .long (Int64.ofInt x)
  | .inr (.inr (.inl a)) => .ref (ρ a)
  | .inr (.inr (.inr k)) => .ref (sa k)
def mok : mV → Prop
  | .inl x => inI x
  | .inr (.inl x) => inL x
  | _ => True
/-- locals by their places -/
def mlr (ρ sa : Nat → Nat) (L : Array Slot) (n : Nat) (ls : List (Option mV)) : Prop := L.size = n ∧ lv_wf L ∧ ∀ (i : Nat) (v : mV), ls[i]? = some (some v) → L[i]? = some (.val (mcv ρ sa v)) ∧ mok v
def mll (ρ sa : Nat → Nat) (ls : List (Option mV)) : List (Nat × Value) := (List.range ls.length).filterMap (fun i => (ls.getD i none).map (fun v => (i, mcv ρ sa v)))
theorem mll_mem {ρ sa : Nat → Nat} {ls : List (Option mV)} {q : Nat × Value} : q ∈ mll ρ sa ls ↔ ∃ v, ls[q.1]? = some (some v) ∧ q.2 = mcv ρ sa v := by
  simp only [mll, List.mem_filterMap, List.mem_range]
  constructor
  · rintro ⟨i, hi, h⟩
    rw [List.getD_eq_getElem?_getD] at h
    cases hv : ls[i]? with
    | none => rw [hv] at h; simp at h
    | some o =>
      rw [hv] at h
      cases o with
      | none => simp at h
      | some v =>
        simp at h
        subst h
        exact ⟨v, hv, rfl⟩
  · rintro ⟨v, h1, h2⟩
    refine ⟨q.1, (List.getElem?_eq_some_iff.mp h1).1, ?_⟩
    rw [List.getD_eq_getElem?_getD, h1]
    simp [← h2]
theorem mlr_has {ρ sa : Nat → Nat} {L : Array Slot} {n : Nat} {ls : List (Option mV)} (h : mlr ρ sa L n ls) : lv_has L n (mll ρ sa ls) := ⟨h.1, h.2.1, fun q hq => by
  obtain ⟨v, h1, h2⟩ := mll_mem.mp hq
  rw [h2]
  exact (h.2.2 q.1 v h1).1⟩
/-- no long stands just before -/
def mn2 (ls : List (Option mV)) (i : Nat) : Bool := match i with
  | 0 => true
  | j + 1 => match ls[j]? with
    | some (some (.inr (.inl _))) => false
    | _ => true
theorem mcat {ρ sa : Nat → Nat} {v : mV} : (mcv ρ sa v).category = 2 → ∃ x, v = .inr (.inl x) := by
  intro h
  rcases v with x | x | x | x
  · simp [mcv, Value.category] at h
  · exact ⟨x, rfl⟩
  · simp [mcv, Value.category] at h
  · simp [mcv, Value.category] at h
theorem mlr_st1 {ρ sa : Nat → Nat} {L : Array Slot} {n i : Nat} {ls : List (Option mV)} {v : mV} (h : mlr ρ sa L n ls) (hv : mok v) (h2 : mn2 ls i = true) {L' : Array Slot} (hL : lv_has L' n ((i, mcv ρ sa v) :: (mll ρ sa ls).filter (fun q => !(q.1 == i) && !(q.1 + 1 == i && q.2.category == 2)))) : mlr ρ sa L' n (ls.set i (some v)) := by
  refine ⟨hL.1, hL.2.1, fun j w hj => ?_⟩
  by_cases e : j = i
  · subst e
    have hl : j < (ls.set j (some v)).length := (List.getElem?_eq_some_iff.mp hj).1
    rw [List.length_set] at hl
    rw [List.getElem?_set_self hl] at hj
    cases hj
    exact ⟨hL.2.2 (j, mcv ρ sa v) List.mem_cons_self, hv⟩
  · rw [List.getElem?_set_ne (Ne.symm e)] at hj
    refine ⟨hL.2.2 (j, mcv ρ sa w) (List.mem_cons_of_mem _ (List.mem_filter.mpr ⟨mll_mem.mpr ⟨w, hj, rfl⟩, ?_⟩)), (h.2.2 j w hj).2⟩
    simp only [Bool.and_eq_true, Bool.not_eq_true', beq_eq_false_iff_ne, ne_eq, Bool.and_eq_false_iff]
    refine ⟨e, ?_⟩
    by_cases e2 : j + 1 = i
    · right
      intro hc
      obtain ⟨x, rfl⟩ := mcat hc
      subst e2
      simp [mn2, hj] at h2
    · exact Or.inl e2
theorem mlr_st2 {ρ sa : Nat → Nat} {L : Array Slot} {n i : Nat} {ls : List (Option mV)} {v : mV} (h : mlr ρ sa L n ls) (hv : mok v) (h2 : mn2 ls i = true) {L' : Array Slot} (hL : lv_has L' n ((i, mcv ρ sa v) :: (mll ρ sa ls).filter (fun q => !(q.1 == i) && (!(q.1 == i + 1) && !(q.1 + 1 == i && q.2.category == 2))))) : mlr ρ sa L' n ((ls.set i (some v)).set (i + 1) none) := by
  refine ⟨hL.1, hL.2.1, fun j w hj => ?_⟩
  by_cases e1 : j = i + 1
  · subst e1
    have hl : i + 1 < ((ls.set i (some v)).set (i + 1) none).length := (List.getElem?_eq_some_iff.mp hj).1
    rw [List.length_set] at hl
    rw [List.getElem?_set_self hl] at hj
    cases hj
  · rw [List.getElem?_set_ne (Ne.symm e1)] at hj
    by_cases e : j = i
    · subst e
      have hl : j < (ls.set j (some v)).length := (List.getElem?_eq_some_iff.mp hj).1
      rw [List.length_set] at hl
      rw [List.getElem?_set_self hl] at hj
      cases hj
      exact ⟨hL.2.2 (j, mcv ρ sa v) List.mem_cons_self, hv⟩
    · rw [List.getElem?_set_ne (Ne.symm e)] at hj
      refine ⟨hL.2.2 (j, mcv ρ sa w) (List.mem_cons_of_mem _ (List.mem_filter.mpr ⟨mll_mem.mpr ⟨w, hj, rfl⟩, ?_⟩)), (h.2.2 j w hj).2⟩
      simp only [Bool.and_eq_true, Bool.not_eq_true', beq_eq_false_iff_ne, ne_eq, Bool.and_eq_false_iff]
      refine ⟨e, e1, ?_⟩
      by_cases e2 : j + 1 = i
      · right
        intro hc
        obtain ⟨x, rfl⟩ := mcat hc
        subst e2
        simp [mn2, hj] at h2
      · exact Or.inl e2
end
section
/-! what of the start stays true: classes, nest links, array classes, constants -/
def mAO (t : FieldType) (U : State) : Prop := (Cond.arrayOver (.array t)).before #[] U = true
theorem mAO_spec {U : State} {t : FieldType} (h : mAO t U) :
    ∃ comp c k, U.vm.findClass (FieldType.array t).toString = some comp ∧ (U.vm.classes.findIdx? fun (x : Class) => match x.kind with | .array component _ => component == comp | _ => false) = some c ∧ U.vm.classes[c]? = some k ∧ k.kind = .array comp (.array t) ∧ U.vm.findClass ("[" ++ (FieldType.array t).toString) = some c := by
  unfold mAO Cond.before at h
  simp only [Cond.holds, Cond.value, beq_iff_eq] at h
  cases hc : U.vm.findClass (FieldType.array t).toString with
  | none => simp [hc] at h
  | some comp =>
    simp only [hc, Option.bind_some, Option.bind_eq_some_iff, Option.map_eq_some_iff] at h
    obtain ⟨c, hi, k, hk, hb⟩ := h
    obtain ⟨hlt, hp, -⟩ := Array.findIdx?_eq_some_iff_getElem.mp hi
    have hkk : U.vm.classes[c] = k := (Array.getElem?_eq_some_iff.mp hk).2
    rw [hkk] at hp
    cases hkind : k.kind with
    | array component ty =>
      rw [hkind] at hb hp
      simp at hb hp
      exact ⟨comp, c, k, rfl, hi, hk, by rw [hkind, hp, hb.1], hb.2⟩
    | _ => rw [hkind] at hb; simp at hb
theorem mAO.moved {t : FieldType} {u U : State} (hvm : u.vm.Alike U.vm) (h : mAO t u) : mAO t U := by
  obtain ⟨comp, c, k, h1, h2, h3, h4, h5⟩ := mAO_spec h
  obtain ⟨k', hk', he⟩ := hvm.2.2 _ _ h3
  have hi : (U.vm.classes.findIdx? fun (x : Class) => match x.kind with | .array component _ => component == comp | _ => false) = some c := by
    have e1 := va_idx_bare U.vm comp
    have e2 := va_idx_bare u.vm comp
    rw [hvm.bare_eq] at e1
    exact e1.symm.trans (e2.trans h2)
  have hkind : k'.kind = .array comp (.array t) := by rw [he]; exact h4
  have f1 : U.vm.findClass (FieldType.array t).toString = some comp := by rw [hvm.findClass]; exact h1
  have f2 : U.vm.findClass ("[" ++ (FieldType.array t).toString) = some c := by rw [hvm.findClass]; exact h5
  unfold mAO Cond.before Cond.holds
  simp only [Cond.value]
  rw [f1, Option.bind_some]
  refine (congrArg (fun o : Option Nat => (o.bind (fun c => (U.vm.classes[c]?).map fun (k : Class) => match k.kind with | .array _ ty => decide (ty = FieldType.array t) && decide (U.vm.findClass ("[" ++ (FieldType.array t).toString) = some c) | _ => false) == some true)) hi).trans ?_
  simp [hk', hkind, f2]
def mtys (cA : Nat → ClassId) : List (ClassId × FieldType) := [(cA 10, .int), (cA 11, .long), (cA 12, .char), (cA 13, .boolean), (cA 14, .array .int), (cA 15, .array .long), (cA 16, .object "MondayDeal$State")]
def mNl : List (String × Nat × MethodName × String) := [("MondayDeal", 9, ⟨"MondayDeal$Text", "<init>", "()V"⟩, "MondayDeal"), ("MondayDeal", 18, ⟨"MondayDeal$Told", "<init>", "()V"⟩, "MondayDeal"), ("MondayDeal", 28, ⟨"MondayDeal$Orders", "<init>", "()V"⟩, "MondayDeal"), ("MondayDeal", 35, ⟨"MondayDeal$Outlook", "<init>", "()V"⟩, "MondayDeal"), ("MondayDeal", 42, ⟨"MondayDeal$State", "<init>", "()V"⟩, "MondayDeal"), ("MondayDeal$Past", 17, ⟨"MondayDeal$State", "<init>", "()V"⟩, "MondayDeal"), ("MondayDeal", 64, ⟨"MondayDeal$Bets", "<init>", "()V"⟩, "MondayDeal"), ("MondayDeal", 71, ⟨"MondayDeal$Facts", "<init>", "()V"⟩, "MondayDeal"), ("MondayDeal$Orders", 27, ⟨"MondayDeal", "isDay", "(I)Z"⟩, "MondayDeal")]
/-- the String constants: entry, text; their bytes -/
def mSt : List (Nat × String) := [(39, "calendar"), (50, "free"), (55, "idle"), (60, "work"), (66, "feast"), (68, "behind"), (86, "plain"), (88, "double"), (90, "short"), (92, "fast"), (94, "first"), (96, "beside"), (98, "ahead")]
def mSb : List (List Int32) := [[99, 97, 108, 101, 110, 100, 97, 114], [102, 114, 101, 101], [105, 100, 108, 101], [119, 111, 114, 107], [102, 101, 97, 115, 116], [98, 101, 104, 105, 110, 100], [112, 108, 97, 105, 110], [100, 111, 117, 98, 108, 101], [115, 104, 111, 114, 116], [102, 97, 115, 116], [102, 105, 114, 115, 116], [98, 101, 115, 105, 100, 101], [97, 104, 101, 97, 100]]
def mSl : List Nat := [8, 4, 4, 4, 5, 6, 5, 6, 5, 4, 5, 6, 5]
/-- Outlook's LANES -/
def mLn : List Int := [-6148914691236517206, -3689348814741910324, -1085102592571150096, -71777214294589696, -281470681808896, -4294967296]
def mEn (D : va_G) (cA sa : Nat → Nat) (A : Nat → Prop) (U : State) (H : Heap) : Prop :=
  va_K D mcl (mtys cA) U ∧ (∀ q ∈ mNl, va_Nw (.methodLinkNest q.1 q.2.1 q.2.2.1 q.2.2.2) U) ∧ va_AO "MondayDeal$State" U ∧ mAO .int U ∧ mAO .long U ∧
  (∀ (k : Nat) (q : Nat × String), mSt[k]? = some q → vk_R "MondayDeal$Text" q.1 q.2 (sa k) U) ∧ (∃ adV : Nat → Nat, vk_S 13 mSl mSb sa adV A U H) ∧ va_Z "java/lang/String" "COMPACT_STRINGS" "Z" (.int 1) A U H ∧ va_Zq "jdk/internal/util/Preconditions" "SIOOBE_FORMATTER" "Ljava/util/function/BiFunction;" A U H ∧
  va_Z "MondayDeal$Outlook" "LANES" "[J" (.ref (sa 13)) A U H ∧ va_T .long (sa 13) 6 (fun j => .long (Int64.ofInt (mLn.getD j 0))) A U H
theorem mEn.warm {D : va_G} {cA sa : Nat → Nat} {A : Nat → Prop} {s U : State} {H : Heap} (hW : s.WarmedH U.vm) (h : mEn D cA sa A s H) : mEn D cA sa A U H := by
  obtain ⟨h1, h2, h3, h4, h5, h6, ⟨adV, h7⟩, h8, h9, h10, h11⟩ := h
  have al := hW.alike
  exact ⟨va_K.moved al h1, fun q hq => va_Nw.warmM hW (h2 q hq), va_AO.moved al h3, mAO.moved al h4, mAO.moved al h5, fun k q hq => vk_R.warm hW (h6 k q hq), ⟨adV, vk_S.moved al h7⟩, va_Z.moved al h8, va_Zq.moved al h9, va_Z.moved al h10, va_T.moved al h11⟩
theorem mEn.same {D : va_G} {cA sa : Nat → Nat} {A : Nat → Prop} {s U : State} {H : Heap} (hv : U.vm = s.vm) (h : mEn D cA sa A s H) : mEn D cA sa A U H := by
  obtain ⟨h1, h2, h3, h4, h5, h6, ⟨adV, h7⟩, h8, h9, h10, h11⟩ := h
  have al : s.vm.Alike U.vm := by rw [hv]; exact Vm.Alike.refl _
  exact ⟨va_K.moved al h1, fun q hq => va_Nw.same rfl hv.symm (h2 q hq), va_AO.moved al h3, mAO.moved al h4, mAO.moved al h5, fun k q hq => vk_R.same hv (h6 k q hq), ⟨adV, vk_S.moved al h7⟩, va_Z.moved al h8, va_Zq.moved al h9, va_Z.moved al h10, va_T.moved al h11⟩
theorem mEn.kept {D : va_G} {cA sa : Nat → Nat} {A : Nat → Prop} {s : State} {H H1 : Heap} (h : mEn D cA sa A s H) (hq : ∀ a : Nat, a < H.size → ¬ A a → H1[a]? = H[a]?) : mEn D cA sa A s H1 := by
  obtain ⟨h1, h2, h3, h4, h5, h6, ⟨adV, h7⟩, h8, h9, h10, h11⟩ := h
  exact ⟨h1, h2, h3, h4, h5, h6, ⟨adV, h7.kept hq⟩, h8.kept hq, h9.kept hq, h10.kept hq, h11.kept hq⟩
theorem mEn.narrow {D : va_G} {cA sa : Nat → Nat} {A B : Nat → Prop} {s : State} {H : Heap} (h : mEn D cA sa A s H) (hAB : ∀ q, B q → A q) : mEn D cA sa B s H := by
  obtain ⟨h1, h2, h3, h4, h5, h6, ⟨adV, h7⟩, h8, h9, h10, h11⟩ := h
  exact ⟨h1, h2, h3, h4, h5, h6, ⟨adV, h7.narrow hAB⟩, h8.narrow hAB, h9.narrow hAB, h10.narrow hAB, h11.narrow hAB⟩
/-! the judgement -/
def mwy (mt : mT) : List Cond := Cond.code mt.1 mt.2.1 mt.2.2.1 mt.2.2.2.1 :: mg
def mtOK (mt : mT) (n : Nat) : Prop := Cond.code mt.1 mt.2.1 mt.2.2.1 mt.2.2.2.1 ∈ mg ∧ Cond.initialized mt.1.cls ∈ mg ∧ plainName mt.1.cls = true ∧ (mt.1.cls ≠ "java/lang/invoke/MethodHandle" ∧ mt.1.cls ≠ "java/lang/invoke/VarHandle" ∧ (parseMethodDescriptor mt.1.desc).map (fun d => d.parameters.length) = some n) ∧ (∀ q ∈ mt.2.2.2.2, decode mt.2.1 q.1 = .ok q.2) ∧ mt.2.2.1 ≤ 20
def mcd (mt : mT) (pc : Nat) : Option (Instr × Nat) := (mt.2.2.2.2.find? (fun q => q.1 == pc)).map (fun q => q.2)
def mCx (mt : mT) (d : Nat) (D : va_G) (cA sa : Nat → Nat) (p : Program) (R : Room) (s : State) (m : MethodId) (args : Array Value) (meth : Method) (c : Code) (A : Nat → Prop) : Prop :=
  p.tables.exec = Jvm.exec ∧ c.code = mt.2.1 ∧ meth.sig.returnType = mt.2.2.2.1 ∧ meth.locks = false ∧ c.maxLocals = mt.2.2.1 ∧ s.vm.findClass mt.1.cls = some m.cls ∧ meth.name = mt.1.name ∧ (∀ w ∈ mwy mt, w.before args s = true) ∧ mEn D cA sa A s s.heap ∧ d ≤ R.frames ∧ 64 * d ≤ R.locals ∧ (∀ q, s.heap.size ≤ q → A q) ∧ ∀ q ∈ mt.2.2.2.2, decode mt.2.1 q.1 = .ok q.2
def mRl (mt : mT) (D : va_G) (cA sa : Nat → Nat) (A : Nat → Prop) (s : State) (R : Room) (ρ0 : Nat → Nat) (n0 : Nat) (b : Nat × Nat) (ρ : Nat → Nat) (L : Array Slot) (H : Heap) (locs : List Loc) (cells slots : Nat) (ls : List (Option mV)) (st : List mV) (M : mM) : Prop :=
  ((∀ a, a < n0 → ρ a = ρ0 a) ∧ (M.1.length = n0 → ρ = ρ0)) ∧ n0 ≤ M.1.length ∧ mlr ρ sa L mt.2.2.1 ls ∧ (∀ v ∈ st, mok v) ∧ va_P D mcl (mW cA ρ M) H ∧ va_D A (mW cA ρ M) ∧ va_S A s.heap H locs ∧ mOK M ∧ cells + b.1 ≤ R.cells ∧ slots + b.2 ≤ R.slots
def mQc (D : va_G) (cA sa : Nat → Nat) (ρ0 : Nat → Nat) (n0 : Nat) (A : Nat → Prop) (Q : Option mV → mM → Prop) : Array Value → State → Outcome → State → Prop := fun _ st oc t =>
  (∃ (v : Option mV) (M : mM) (ρ : Nat → Nat), ((∀ a, a < n0 → ρ a = ρ0 a) ∧ (M.1.length = n0 → ρ = ρ0)) ∧ n0 ≤ M.1.length ∧ oc = .returned (v.map (mcv ρ sa)) ∧ Q v M ∧ mOK M ∧ (∀ x, v = some x → mok x) ∧ va_P D mcl (mW cA ρ M) t.heap ∧ va_D A (mW cA ρ M)) ∧ va_F A st t
def WP (l : Launch) (mt : mT) (d : Nat) (b : Nat × Nat) (pc : Nat) (ls : List (Option mV)) (st : List mV) (M : mM) (Q : Option mV → mM → Prop) : Prop :=
  ∀ (D : va_G) (cA sa : Nat → Nat) (p : Program) (e : Env) (R : Room) (s : State) (m : MethodId) (args : Array Value) (below : List Frame) (meth : Method) (c : Code) (A : Nat → Prop) (ρ0 : Nat → Nat) (n0 : Nat), mCx mt d D cA sa p R s m args meth c A →
  ∀ (ρ : Nat → Nat) (L : Array Slot) (H : Heap) (locs : List Loc) (cells slots : Nat), mRl mt D cA sa A s R ρ0 n0 b ρ L H locs cells slots ls st M →
  W p l e R s m args below meth c H locs cells slots (MQ below (mQc D cA sa ρ0 n0 A Q) args s R.cells R.slots A) (F0 m pc L (st.map (mcv ρ sa)))
/-- a method's contract -/
def Ev (l : Launch) (mt : mT) (d : Nat) (b : Nat × Nat) (as : List mV) (M : mM) (Q : Option mV → mM → Prop) : Prop :=
  (∀ v ∈ as, mok v) → mOK M → ∀ (D : va_G) (cA sa ρ : Nat → Nat) (sz : Nat),
  Met l mt.1 (mwy mt) ({ frames := d, cells := b.1, slots := b.2, locals := 64 * d }) (va_Pc (as.map (mcv ρ sa)) (fun U => U.heap.size = sz ∧ va_P D mcl (mW cA ρ M) U.heap ∧ mEn D cA sa (va_A (mW cA ρ M) sz) U U.heap ∧ va_D (fun _ => True) (mW cA ρ M))) (mQc D cA sa ρ M.1.length (va_A (mW cA ρ M) sz) Q) b.1 b.2 (va_A (mW cA ρ M) sz)
/-- the locals at a method's entry -/
def mla : List mV → List (Option mV)
  | [] => []
  | .inr (.inl x) :: r => some (.inr (.inl x)) :: none :: mla r
  | v :: r => some v :: mla r
theorem mcd_in {mt : mT} {pc len : Nat} {i : Instr} (h : mcd mt pc = some (i, len)) : ∃ q ∈ mt.2.2.2.2, q.1 = pc ∧ q.2 = (i, len) := by
  unfold mcd at h
  cases hf : mt.2.2.2.2.find? (fun q => q.1 == pc) with
  | none => rw [hf] at h; cases h
  | some q =>
    rw [hf] at h
    have h1 := List.find?_some hf
    exact ⟨q, List.mem_of_find?_eq_some hf, by simpa using h1, Option.some.inj h⟩
theorem mCx.dec {mt : mT} {d : Nat} {D : va_G} {cA sa : Nat → Nat} {p : Program} {R : Room} {s : State} {m : MethodId} {args : Array Value} {meth : Method} {c : Code} {A : Nat → Prop} (hC : mCx mt d D cA sa p R s m args meth c A) {pc len : Nat} {i : Instr} (h : mcd mt pc = some (i, len)) : decode mt.2.1 pc = .ok (i, len) := by
  obtain ⟨q, h1, h2, h3⟩ := mcd_in h
  have := hC.2.2.2.2.2.2.2.2.2.2.2.2 q h1
  rw [h2, h3] at this
  exact this
end
section
/-! numbers: Java's ints and longs as Int, wrapped -/
def i32 (x : Int) : Int := (Int32.ofInt x).toInt
def i64 (x : Int) : Int := (Int64.ofInt x).toInt
theorem i32_in (x : Int) : inI (i32 x) := inI_of _
theorem i64_in (x : Int) : inL (i64 x) := inL_of _
theorem i32_eq {x : Int} (h1 : -2147483648 ≤ x) (h2 : x ≤ 2147483647) : i32 x = x := inI_to ⟨h1, h2⟩
theorem i64_eq {x : Int} (h1 : -9223372036854775808 ≤ x) (h2 : x ≤ 9223372036854775807) : i64 x = x := inL_to ⟨h1, h2⟩
theorem i32_of (x : Int) : Int32.ofInt (i32 x) = Int32.ofInt x := Int32.ofInt_toInt _
theorem i64_of (x : Int) : Int64.ofInt (i64 x) = Int64.ofInt x := Int64.ofInt_toInt _
def jadd (x y : Int) : Int := i32 (x + y)
def jsub (x y : Int) : Int := i32 (x - y)
def jmul (x y : Int) : Int := i32 (x * y)
def jdiv (x y : Int) : Int := (Int32.ofInt x / Int32.ofInt y).toInt
def jrem (x y : Int) : Int := (Int32.ofInt x - Int32.ofInt x / Int32.ofInt y * Int32.ofInt y).toInt
def jand (x y : Int) : Int := (Int32.ofInt x &&& Int32.ofInt y).toInt
def jor (x y : Int) : Int := (Int32.ofInt x ||| Int32.ofInt y).toInt
def jxor (x y : Int) : Int := (Int32.ofInt x ^^^ Int32.ofInt y).toInt
def jshl (x y : Int) : Int := (Int32.ofInt x <<< (Int32.ofInt y &&& 31)).toInt
def jshr (x y : Int) : Int := (Int32.ofInt x >>> (Int32.ofInt y &&& 31)).toInt
def jushr (x y : Int) : Int := ((Int32.ofInt x).toUInt32 >>> ((Int32.ofInt y).toUInt32 &&& Int32.toUInt32 31)).toInt32.toInt
def jchr (x : Int) : Int := ((Int32.ofInt x).toUInt32 % 65536).toInt32.toInt
def kadd (x y : Int) : Int := i64 (x + y)
def ksub (x y : Int) : Int := i64 (x - y)
def kmul (x y : Int) : Int := i64 (x * y)
def kdiv (x y : Int) : Int := (Int64.ofInt x / Int64.ofInt y).toInt
def krem (x y : Int) : Int := (Int64.ofInt x - Int64.ofInt x / Int64.ofInt y * Int64.ofInt y).toInt
def kand (x y : Int) : Int := (Int64.ofInt x &&& Int64.ofInt y).toInt
def kor (x y : Int) : Int := (Int64.ofInt x ||| Int64.ofInt y).toInt
def kxor (x y : Int) : Int := (Int64.ofInt x ^^^ Int64.ofInt y).toInt
def kshl (x y : Int) : Int := (Int64.ofInt x <<< ((Int32.ofInt y).toInt64 &&& 63)).toInt
def kushr (x y : Int) : Int := ((Int64.ofInt x).toUInt64 >>> ((Int32.ofInt y).toInt64.toUInt64 &&& Int64.toUInt64 63)).toInt64.toInt
def kcmp (x y : Int) : Int := if y < x then 1 else if x = y then 0 else -1
theorem jadd_of (x y : Int) : Int32.ofInt (jadd x y) = Int32.ofInt x + Int32.ofInt y := (i32_of _).trans (Int32.ofInt_add _ _)
theorem jsub_of (x y : Int) : Int32.ofInt (jsub x y) = Int32.ofInt x - Int32.ofInt y := (i32_of _).trans (Int32.ofInt_sub _ _)
theorem jmul_of (x y : Int) : Int32.ofInt (jmul x y) = Int32.ofInt x * Int32.ofInt y := (i32_of _).trans (Int32.ofInt_mul _ _)
theorem kadd_of (x y : Int) : Int64.ofInt (kadd x y) = Int64.ofInt x + Int64.ofInt y := (i64_of _).trans (Int64.ofInt_add _ _)
theorem ksub_of (x y : Int) : Int64.ofInt (ksub x y) = Int64.ofInt x - Int64.ofInt y := (i64_of _).trans (Int64.ofInt_sub _ _)
theorem kmul_of (x y : Int) : Int64.ofInt (kmul x y) = Int64.ofInt x * Int64.ofInt y := (i64_of _).trans (Int64.ofInt_mul _ _)
theorem kcmp_of {x y : Int} (hx : inL x) (hy : inL y) : Int32.ofInt (kcmp x y) = lg_cmp (Int64.ofInt x) (Int64.ofInt y) := by
  unfold kcmp lg_cmp
  by_cases h : y < x
  · rw [if_pos h, if_pos ((inL_lt hy hx).mpr h)]; rfl
  · rw [if_neg h, if_neg (fun q => h ((inL_lt hy hx).mp q))]
    by_cases h2 : x = y
    · rw [if_pos h2, if_pos ((inL_eq hx hy).mpr h2)]; rfl
    · rw [if_neg h2, if_neg (fun q => h2 ((inL_eq hx hy).mp q))]; rfl
theorem kcmp_in (x y : Int) : inI (kcmp x y) := by
  unfold kcmp inI
  split
  · omega
  · split <;> omega
theorem i2l_of {x : Int} (h : inI x) : (Int32.ofInt x).toInt64 = Int64.ofInt x := Int32.toInt64_ofInt h.1 h.2
theorem okc {v : mV} {st : List mV} (h : mok v) (hs : ∀ w ∈ st, mok w) : ∀ w ∈ v :: st, mok w := fun w hw => by
  rcases List.mem_cons.mp hw with rfl | hw
  · exact h
  · exact hs w hw
theorem okt {v : mV} {st : List mV} (hs : ∀ w ∈ v :: st, mok w) : ∀ w ∈ st, mok w := fun w hw => hs w (List.mem_cons_of_mem _ hw)
theorem okh {v : mV} {st : List mV} (hs : ∀ w ∈ v :: st, mok w) : mok v := hs v List.mem_cons_self
section CX
variable {mt : mT} {d : Nat} {D : va_G} {cA sa : Nat → Nat} {p : Program} {R : Room} {s : State} {m : MethodId} {args : Array Value} {meth : Method} {c : Code} {A : Nat → Prop}
theorem mCx.own (h : mCx mt d D cA sa p R s m args meth c A) : s.vm.findClass mt.1.cls = some m.cls := h.2.2.2.2.2.1
theorem mCx.wd (h : mCx mt d D cA sa p R s m args meth c A) {w : Cond} (hw : w ∈ mg) : w.before args s = true := h.2.2.2.2.2.2.2.1 w (List.mem_cons_of_mem _ hw)
theorem mCx.wds (h : mCx mt d D cA sa p R s m args meth c A) : ∀ w ∈ mwy mt, w.before args s = true := h.2.2.2.2.2.2.2.1
theorem mCx.en (h : mCx mt d D cA sa p R s m args meth c A) : mEn D cA sa A s s.heap := h.2.2.2.2.2.2.2.2.1
theorem mCx.K (h : mCx mt d D cA sa p R s m args meth c A) : va_K D mcl (mtys cA) s := h.en.1
theorem mCx.mx (h : mCx mt d D cA sa p R s m args meth c A) : c.maxLocals = mt.2.2.1 := h.2.2.2.2.1
theorem mCx.fr (h : mCx mt d D cA sa p R s m args meth c A) : d ≤ R.frames := h.2.2.2.2.2.2.2.2.2.1
theorem mCx.lo (h : mCx mt d D cA sa p R s m args meth c A) : 64 * d ≤ R.locals := h.2.2.2.2.2.2.2.2.2.2.1
theorem mCx.ha (h : mCx mt d D cA sa p R s m args meth c A) : ∀ q, s.heap.size ≤ q → A q := h.2.2.2.2.2.2.2.2.2.2.2.1
end CX
section WR
variable {l : Launch} {mt : mT} {d : Nat} {b : Nat × Nat} {pc pc' i : Nat} {ls : List (Option mV)} {st st' : List mV} {M : mM} {Q : Option mV → mM → Prop} {x y n : Int} {a : Nat}
theorem WP_st (hok : (∀ v ∈ st, mok v) → (∀ (i : Nat) (v : mV), ls[i]? = some (some v) → mok v) → ∀ v ∈ st', mok v)
    (hs : ∀ (D : va_G) (cA sa : Nat → Nat) (p : Program) (e : Env) (R : Room) (s : State) (m : MethodId) (args : Array Value) (below : List Frame) (meth : Method) (c : Code) (A : Nat → Prop) (ρ : Nat → Nat) (L : Array Slot) (H : Heap) (locs : List Loc) (cells slots : Nat) (Q' : State → Prop), mCx mt d D cA sa p R s m args meth c A → mlr ρ sa L mt.2.2.1 ls → (∀ v ∈ st, mok v) → W p l e R s m args below meth c H locs cells slots Q' (F0 m pc' L (st'.map (mcv ρ sa))) → W p l e R s m args below meth c H locs cells slots Q' (F0 m pc L (st.map (mcv ρ sa))))
    (k : WP l mt d b pc' ls st' M Q) : WP l mt d b pc ls st M Q := by
  intro D cA sa p e R s m args below meth c A ρ0 n0 hC ρ L H locs cells slots hR
  obtain ⟨h1, h2, h3, h4, h5, h6, h7, h8, h9, h10⟩ := hR
  exact hs D cA sa p e R s m args below meth c A ρ L H locs cells slots _ hC h3 h4 (k D cA sa p e R s m args below meth c A ρ0 n0 hC ρ L H locs cells slots ⟨h1, h2, h3, hok h4 (fun i v hv => (h3.2.2 i v hv).2), h5, h6, h7, h8, h9, h10⟩)
theorem WP_ls {ls' : List (Option mV)}
    (hs : ∀ (D : va_G) (cA sa : Nat → Nat) (p : Program) (e : Env) (R : Room) (s : State) (m : MethodId) (args : Array Value) (below : List Frame) (meth : Method) (c : Code) (A : Nat → Prop) (ρ : Nat → Nat) (L : Array Slot) (H : Heap) (locs : List Loc) (cells slots : Nat) (Q' : State → Prop), mCx mt d D cA sa p R s m args meth c A → mlr ρ sa L mt.2.2.1 ls → (∀ v ∈ st, mok v) → (∀ L', mlr ρ sa L' mt.2.2.1 ls' → W p l e R s m args below meth c H locs cells slots Q' (F0 m pc' L' (st'.map (mcv ρ sa)))) → W p l e R s m args below meth c H locs cells slots Q' (F0 m pc L (st.map (mcv ρ sa))))
    (hok : (∀ v ∈ st, mok v) → ∀ v ∈ st', mok v)
    (k : WP l mt d b pc' ls' st' M Q) : WP l mt d b pc ls st M Q := by
  intro D cA sa p e R s m args below meth c A ρ0 n0 hC ρ L H locs cells slots hR
  obtain ⟨h1, h2, h3, h4, h5, h6, h7, h8, h9, h10⟩ := hR
  exact hs D cA sa p e R s m args below meth c A ρ L H locs cells slots _ hC h3 h4 (fun L' hL' => k D cA sa p e R s m args below meth c A ρ0 n0 hC ρ L' H locs cells slots ⟨h1, h2, hL', hok h4, h5, h6, h7, h8, h9, h10⟩)
theorem WP_iconst (hd : mcd mt pc = some (.iconst n, 1)) (hn : inI n) (k : WP l mt d b (pc + 1) ls (.inl n :: st) M Q) : WP l mt d b pc ls (st) M Q :=
  WP_st (st' := .inl n :: st) (st := st) (fun h hL => okc hn h) (fun D cA sa p e R s m args below meth c A ρ L H locs cells slots Q2 hC hl ho k => lv_iconst hC.1 hC.2.1 (hC.dec hd) rfl k) k
theorem WP_bipush (hd : mcd mt pc = some (.bipush n, 2)) (hn : inI n) (hv : (Int8.ofInt n).toInt32 = Int32.ofInt n) (k : WP l mt d b (pc + 2) ls (.inl n :: st) M Q) : WP l mt d b pc ls (st) M Q :=
  WP_st (st' := .inl n :: st) (st := st) (fun h hL => okc hn h) (fun D cA sa p e R s m args below meth c A ρ L H locs cells slots Q2 hC hl ho k => lv_bipush hC.1 hC.2.1 (hC.dec hd) hv k) k
theorem WP_sipush (hd : mcd mt pc = some (.sipush n, 3)) (hn : inI n) (hv : (Int16.ofInt n).toInt32 = Int32.ofInt n) (k : WP l mt d b (pc + 3) ls (.inl n :: st) M Q) : WP l mt d b pc ls (st) M Q :=
  WP_st (st' := .inl n :: st) (st := st) (fun h hL => okc hn h) (fun D cA sa p e R s m args below meth c A ρ L H locs cells slots Q2 hC hl ho k => lv_sipush hC.1 hC.2.1 (hC.dec hd) hv k) k
theorem WP_lconst {q : Fin 2} (hd : mcd mt pc = some (.lconst q, 1)) (hn : inL n) (hv : Int64.ofNat (q : Nat) = Int64.ofInt n) (k : WP l mt d b (pc + 1) ls (.inr (.inl n) :: st) M Q) : WP l mt d b pc ls (st) M Q :=
  WP_st (st' := .inr (.inl n) :: st) (st := st) (fun h hL => okc hn h) (fun D cA sa p e R s m args below meth c A ρ L H locs cells slots Q2 hC hl ho k => lv_lconst hC.1 hC.2.1 (hC.dec hd) hv k) k
theorem WP_ldc {idx : Nat} {v : Int32} (hd : mcd mt pc = some (.ldc idx, 2)) (hw : Cond.constant mt.1.cls idx v ∈ mg) (hn : inI n) (hv : v = Int32.ofInt n) (k : WP l mt d b (pc + 2) ls (.inl n :: st) M Q) : WP l mt d b pc ls (st) M Q :=
  WP_st (st' := .inl n :: st) (st := st) (fun h hL => okc hn h) (fun D cA sa p e R s m args below meth c A ρ L H locs cells slots Q2 hC hl ho k => lv_ldc hC.1 hC.2.1 hC.own (hv ▸ hC.wd hw) (hC.dec hd) k) k
theorem WP_ldcw {idx : Nat} {v : Int32} (hd : mcd mt pc = some (.ldc_w idx, 3)) (hw : Cond.constant mt.1.cls idx v ∈ mg) (hn : inI n) (hv : v = Int32.ofInt n) (k : WP l mt d b (pc + 3) ls (.inl n :: st) M Q) : WP l mt d b pc ls (st) M Q :=
  WP_st (st' := .inl n :: st) (st := st) (fun h hL => okc hn h) (fun D cA sa p e R s m args below meth c A ρ L H locs cells slots Q2 hC hl ho k => lv_ldcw hC.1 hC.2.1 hC.own (hv ▸ hC.wd hw) (hC.dec hd) k) k
theorem WP_ldc2 {idx : Nat} {v : Int64} (hd : mcd mt pc = some (.ldc2_w idx, 3)) (hw : Cond.constantLong mt.1.cls idx v ∈ mg) (hn : inL n) (hv : v = Int64.ofInt n) (k : WP l mt d b (pc + 3) ls (.inr (.inl n) :: st) M Q) : WP l mt d b pc ls (st) M Q :=
  WP_st (st' := .inr (.inl n) :: st) (st := st) (fun h hL => okc hn h) (fun D cA sa p e R s m args below meth c A ρ L H locs cells slots Q2 hC hl ho k => lv_ldc2 hC.1 hC.2.1 hC.own (hv ▸ hC.wd hw) (hC.dec hd) k) k
theorem WP_iload_n {q : Fin 4} (hd : mcd mt pc = some (.iload_n q, 1)) (hi : (q : Nat) = i) (hv : ls[i]? = some (some (.inl x))) (k : WP l mt d b (pc + 1) ls (.inl x :: st) M Q) : WP l mt d b pc ls (st) M Q :=
  WP_st (st' := .inl x :: st) (st := st) (fun h hL => okc (hL _ _ hv) h) (fun D cA sa p e R s m args below meth c A ρ L H locs cells slots Q2 hC hl ho k => lv_iload_n hC.1 hC.2.1 (hC.dec hd) hi (hl.2.2 _ _ hv).1 k) k
theorem WP_iload (hd : mcd mt pc = some (.iload i, 2)) (hv : ls[i]? = some (some (.inl x))) (k : WP l mt d b (pc + 2) ls (.inl x :: st) M Q) : WP l mt d b pc ls (st) M Q :=
  WP_st (st' := .inl x :: st) (st := st) (fun h hL => okc (hL _ _ hv) h) (fun D cA sa p e R s m args below meth c A ρ L H locs cells slots Q2 hC hl ho k => lv_iload hC.1 hC.2.1 (hC.dec hd) (hl.2.2 _ _ hv).1 k) k
theorem WP_lload_n {q : Fin 4} (hd : mcd mt pc = some (.lload_n q, 1)) (hi : (q : Nat) = i) (hv : ls[i]? = some (some (.inr (.inl x)))) (k : WP l mt d b (pc + 1) ls (.inr (.inl x) :: st) M Q) : WP l mt d b pc ls (st) M Q :=
  WP_st (st' := .inr (.inl x) :: st) (st := st) (fun h hL => okc (hL _ _ hv) h) (fun D cA sa p e R s m args below meth c A ρ L H locs cells slots Q2 hC hl ho k => lv_lload_n hC.1 hC.2.1 (hC.dec hd) hi (hl.2.2 _ _ hv).1 k) k
theorem WP_lload (hd : mcd mt pc = some (.lload i, 2)) (hv : ls[i]? = some (some (.inr (.inl x)))) (k : WP l mt d b (pc + 2) ls (.inr (.inl x) :: st) M Q) : WP l mt d b pc ls (st) M Q :=
  WP_st (st' := .inr (.inl x) :: st) (st := st) (fun h hL => okc (hL _ _ hv) h) (fun D cA sa p e R s m args below meth c A ρ L H locs cells slots Q2 hC hl ho k => lv_lload hC.1 hC.2.1 (hC.dec hd) (hl.2.2 _ _ hv).1 k) k
theorem WP_aload_n {q : Fin 4} (hd : mcd mt pc = some (.aload_n q, 1)) (hi : (q : Nat) = i) (hv : ls[i]? = some (some (.inr (.inr (.inl a))))) (k : WP l mt d b (pc + 1) ls (.inr (.inr (.inl a)) :: st) M Q) : WP l mt d b pc ls (st) M Q :=
  WP_st (st' := .inr (.inr (.inl a)) :: st) (st := st) (fun h hL => okc (hL _ _ hv) h) (fun D cA sa p e R s m args below meth c A ρ L H locs cells slots Q2 hC hl ho k => lv_aload_n hC.1 hC.2.1 (hC.dec hd) hi (hl.2.2 _ _ hv).1 k) k
theorem WP_aload (hd : mcd mt pc = some (.aload i, 2)) (hv : ls[i]? = some (some (.inr (.inr (.inl a))))) (k : WP l mt d b (pc + 2) ls (.inr (.inr (.inl a)) :: st) M Q) : WP l mt d b pc ls (st) M Q :=
  WP_st (st' := .inr (.inr (.inl a)) :: st) (st := st) (fun h hL => okc (hL _ _ hv) h) (fun D cA sa p e R s m args below meth c A ρ L H locs cells slots Q2 hC hl ho k => lv_aload hC.1 hC.2.1 (hC.dec hd) (hl.2.2 _ _ hv).1 k) k
theorem WP_sload_n {q : Fin 4} (hd : mcd mt pc = some (.aload_n q, 1)) (hi : (q : Nat) = i) (hv : ls[i]? = some (some (.inr (.inr (.inr a))))) (k : WP l mt d b (pc + 1) ls (.inr (.inr (.inr a)) :: st) M Q) : WP l mt d b pc ls (st) M Q :=
  WP_st (st' := .inr (.inr (.inr a)) :: st) (st := st) (fun h hL => okc (hL _ _ hv) h) (fun D cA sa p e R s m args below meth c A ρ L H locs cells slots Q2 hC hl ho k => lv_aload_n hC.1 hC.2.1 (hC.dec hd) hi (hl.2.2 _ _ hv).1 k) k
theorem WP_istore_n {q : Fin 4} (hd : mcd mt pc = some (.istore_n q, 1)) (hi : (q : Nat) = i) (hn : i < mt.2.2.1) (h2 : mn2 ls i = true) (k : WP l mt d b (pc + 1) (ls.set i (some (.inl x))) st M Q) : WP l mt d b pc ls (.inl x :: st) M Q := by
  intro D cA sa p e R s m args below meth c A ρ0 n0 hC ρ L H locs cells slots hR
  obtain ⟨g1, g2, g3, g4, g5, g6, g7, g8, g9, g10⟩ := hR
  exact lv_istore_n hC.1 hC.2.1 (hC.dec hd) hi (mlr_has g3) hn rfl (fun L' hL' => k D cA sa p e R s m args below meth c A ρ0 n0 hC ρ L' H locs cells slots ⟨g1, g2, mlr_st1 (v := .inl x) g3 (okh g4) h2 hL', okt g4, g5, g6, g7, g8, g9, g10⟩)
theorem WP_istore (hd : mcd mt pc = some (.istore i, 2)) (hn : i < mt.2.2.1) (h2 : mn2 ls i = true) (k : WP l mt d b (pc + 2) (ls.set i (some (.inl x))) st M Q) : WP l mt d b pc ls (.inl x :: st) M Q := by
  intro D cA sa p e R s m args below meth c A ρ0 n0 hC ρ L H locs cells slots hR
  obtain ⟨g1, g2, g3, g4, g5, g6, g7, g8, g9, g10⟩ := hR
  exact lv_istore hC.1 hC.2.1 (hC.dec hd) (mlr_has g3) hn rfl (fun L' hL' => k D cA sa p e R s m args below meth c A ρ0 n0 hC ρ L' H locs cells slots ⟨g1, g2, mlr_st1 (v := .inl x) g3 (okh g4) h2 hL', okt g4, g5, g6, g7, g8, g9, g10⟩)
theorem WP_astore_n {q : Fin 4} (hd : mcd mt pc = some (.astore_n q, 1)) (hi : (q : Nat) = i) (hn : i < mt.2.2.1) (h2 : mn2 ls i = true) (k : WP l mt d b (pc + 1) (ls.set i (some (.inr (.inr (.inl a))))) st M Q) : WP l mt d b pc ls (.inr (.inr (.inl a)) :: st) M Q := by
  intro D cA sa p e R s m args below meth c A ρ0 n0 hC ρ L H locs cells slots hR
  obtain ⟨g1, g2, g3, g4, g5, g6, g7, g8, g9, g10⟩ := hR
  exact lv_astore_n hC.1 hC.2.1 (hC.dec hd) hi (mlr_has g3) hn rfl (fun L' hL' => k D cA sa p e R s m args below meth c A ρ0 n0 hC ρ L' H locs cells slots ⟨g1, g2, mlr_st1 (v := .inr (.inr (.inl a))) g3 (okh g4) h2 hL', okt g4, g5, g6, g7, g8, g9, g10⟩)
theorem WP_astore (hd : mcd mt pc = some (.astore i, 2)) (hn : i < mt.2.2.1) (h2 : mn2 ls i = true) (k : WP l mt d b (pc + 2) (ls.set i (some (.inr (.inr (.inl a))))) st M Q) : WP l mt d b pc ls (.inr (.inr (.inl a)) :: st) M Q := by
  intro D cA sa p e R s m args below meth c A ρ0 n0 hC ρ L H locs cells slots hR
  obtain ⟨g1, g2, g3, g4, g5, g6, g7, g8, g9, g10⟩ := hR
  exact lv_astore hC.1 hC.2.1 (hC.dec hd) (mlr_has g3) hn rfl (fun L' hL' => k D cA sa p e R s m args below meth c A ρ0 n0 hC ρ L' H locs cells slots ⟨g1, g2, mlr_st1 (v := .inr (.inr (.inl a))) g3 (okh g4) h2 hL', okt g4, g5, g6, g7, g8, g9, g10⟩)
theorem WP_lstore_n {q : Fin 4} (hd : mcd mt pc = some (.lstore_n q, 1)) (hi : (q : Nat) = i) (hn : i + 1 < mt.2.2.1) (h2 : mn2 ls i = true) (k : WP l mt d b (pc + 1) ((ls.set i (some (.inr (.inl x)))).set (i + 1) none) st M Q) : WP l mt d b pc ls (.inr (.inl x) :: st) M Q := by
  intro D cA sa p e R s m args below meth c A ρ0 n0 hC ρ L H locs cells slots hR
  obtain ⟨g1, g2, g3, g4, g5, g6, g7, g8, g9, g10⟩ := hR
  exact lv_lstore_n hC.1 hC.2.1 (hC.dec hd) hi (mlr_has g3) hn rfl (fun L' hL' => k D cA sa p e R s m args below meth c A ρ0 n0 hC ρ L' H locs cells slots ⟨g1, g2, mlr_st2 (v := .inr (.inl x)) g3 (okh g4) h2 hL', okt g4, g5, g6, g7, g8, g9, g10⟩)
theorem WP_lstore (hd : mcd mt pc = some (.lstore i, 2)) (hn : i + 1 < mt.2.2.1) (h2 : mn2 ls i = true) (k : WP l mt d b (pc + 2) ((ls.set i (some (.inr (.inl x)))).set (i + 1) none) st M Q) : WP l mt d b pc ls (.inr (.inl x) :: st) M Q := by
  intro D cA sa p e R s m args below meth c A ρ0 n0 hC ρ L H locs cells slots hR
  obtain ⟨g1, g2, g3, g4, g5, g6, g7, g8, g9, g10⟩ := hR
  exact lv_lstore hC.1 hC.2.1 (hC.dec hd) (mlr_has g3) hn rfl (fun L' hL' => k D cA sa p e R s m args below meth c A ρ0 n0 hC ρ L' H locs cells slots ⟨g1, g2, mlr_st2 (v := .inr (.inl x)) g3 (okh g4) h2 hL', okt g4, g5, g6, g7, g8, g9, g10⟩)
theorem WP_iinc (hd : mcd mt pc = some (.iinc i n, 3)) (hv : ls[i]? = some (some (.inl x))) (hn : i < mt.2.2.1) (h2 : mn2 ls i = true) (k : WP l mt d b (pc + 3) (ls.set i (some (.inl (jadd x n)))) st M Q) : WP l mt d b pc ls st M Q := by
  intro D cA sa p e R s m args below meth c A ρ0 n0 hC ρ L H locs cells slots hR
  obtain ⟨g1, g2, g3, g4, g5, g6, g7, g8, g9, g10⟩ := hR
  obtain ⟨j, hj, hjv⟩ := List.mem_iff_getElem.mp (mll_mem (ρ := ρ) (sa := sa) (q := (i, .int (Int32.ofInt x))).mpr ⟨.inl x, hv, rfl⟩)
  exact lv_iinc (k := j) (v := Int32.ofInt (jadd x n)) hC.1 hC.2.1 (hC.dec hd) (mlr_has g3) (by rw [List.getElem?_eq_getElem hj, hjv]) (jadd_of x n).symm hn rfl (fun L' hL' => k D cA sa p e R s m args below meth c A ρ0 n0 hC ρ L' H locs cells slots ⟨g1, g2, mlr_st1 (v := .inl (jadd x n)) g3 (i32_in _) h2 hL', g4, g5, g6, g7, g8, g9, g10⟩)
theorem WP_iadd (hd : mcd mt pc = some (.iadd, 1)) (k : WP l mt d b (pc + 1) ls (.inl (jadd x y) :: st) M Q) : WP l mt d b pc ls (.inl y :: .inl x :: st) M Q :=
  WP_st (st' := .inl (jadd x y) :: st) (st := .inl y :: .inl x :: st) (fun h hL => okc (i32_in _) (okt (okt h))) (fun D cA sa p e R s m args below meth c A ρ L H locs cells slots Q2 hC hl ho k => lv_iadd hC.1 hC.2.1 (hC.dec hd) (by rw [← jadd_of]; exact k)) k
theorem WP_ladd (hd : mcd mt pc = some (.ladd, 1)) (k : WP l mt d b (pc + 1) ls (.inr (.inl (kadd x y)) :: st) M Q) : WP l mt d b pc ls (.inr (.inl y) :: .inr (.inl x) :: st) M Q :=
  WP_st (st' := .inr (.inl (kadd x y)) :: st) (st := .inr (.inl y) :: .inr (.inl x) :: st) (fun h hL => okc (i64_in _) (okt (okt h))) (fun D cA sa p e R s m args below meth c A ρ L H locs cells slots Q2 hC hl ho k => lv_ladd hC.1 hC.2.1 (hC.dec hd) (by rw [← kadd_of]; exact k)) k
theorem WP_isub (hd : mcd mt pc = some (.isub, 1)) (k : WP l mt d b (pc + 1) ls (.inl (jsub x y) :: st) M Q) : WP l mt d b pc ls (.inl y :: .inl x :: st) M Q :=
  WP_st (st' := .inl (jsub x y) :: st) (st := .inl y :: .inl x :: st) (fun h hL => okc (i32_in _) (okt (okt h))) (fun D cA sa p e R s m args below meth c A ρ L H locs cells slots Q2 hC hl ho k => lv_isub hC.1 hC.2.1 (hC.dec hd) (by rw [← jsub_of]; exact k)) k
theorem WP_lsub (hd : mcd mt pc = some (.lsub, 1)) (k : WP l mt d b (pc + 1) ls (.inr (.inl (ksub x y)) :: st) M Q) : WP l mt d b pc ls (.inr (.inl y) :: .inr (.inl x) :: st) M Q :=
  WP_st (st' := .inr (.inl (ksub x y)) :: st) (st := .inr (.inl y) :: .inr (.inl x) :: st) (fun h hL => okc (i64_in _) (okt (okt h))) (fun D cA sa p e R s m args below meth c A ρ L H locs cells slots Q2 hC hl ho k => lv_lsub hC.1 hC.2.1 (hC.dec hd) (by rw [← ksub_of]; exact k)) k
theorem WP_imul (hd : mcd mt pc = some (.imul, 1)) (k : WP l mt d b (pc + 1) ls (.inl (jmul x y) :: st) M Q) : WP l mt d b pc ls (.inl y :: .inl x :: st) M Q :=
  WP_st (st' := .inl (jmul x y) :: st) (st := .inl y :: .inl x :: st) (fun h hL => okc (i32_in _) (okt (okt h))) (fun D cA sa p e R s m args below meth c A ρ L H locs cells slots Q2 hC hl ho k => lv_imul hC.1 hC.2.1 (hC.dec hd) (by rw [← jmul_of]; exact k)) k
theorem WP_lmul (hd : mcd mt pc = some (.lmul, 1)) (k : WP l mt d b (pc + 1) ls (.inr (.inl (kmul x y)) :: st) M Q) : WP l mt d b pc ls (.inr (.inl y) :: .inr (.inl x) :: st) M Q :=
  WP_st (st' := .inr (.inl (kmul x y)) :: st) (st := .inr (.inl y) :: .inr (.inl x) :: st) (fun h hL => okc (i64_in _) (okt (okt h))) (fun D cA sa p e R s m args below meth c A ρ L H locs cells slots Q2 hC hl ho k => lv_lmul hC.1 hC.2.1 (hC.dec hd) (by rw [← kmul_of]; exact k)) k
theorem WP_iand (hd : mcd mt pc = some (.iand, 1)) (k : WP l mt d b (pc + 1) ls (.inl (jand x y) :: st) M Q) : WP l mt d b pc ls (.inl y :: .inl x :: st) M Q :=
  WP_st (st' := .inl (jand x y) :: st) (st := .inl y :: .inl x :: st) (fun h hL => okc (inI_of _) (okt (okt h))) (fun D cA sa p e R s m args below meth c A ρ L H locs cells slots Q2 hC hl ho k => lv_iand hC.1 hC.2.1 (hC.dec hd) (by have e := Int32.ofInt_toInt; rw [← e ((Int32.ofInt x) &&& Int32.ofInt y)]; exact k)) k
theorem WP_ior (hd : mcd mt pc = some (.ior, 1)) (k : WP l mt d b (pc + 1) ls (.inl (jor x y) :: st) M Q) : WP l mt d b pc ls (.inl y :: .inl x :: st) M Q :=
  WP_st (st' := .inl (jor x y) :: st) (st := .inl y :: .inl x :: st) (fun h hL => okc (inI_of _) (okt (okt h))) (fun D cA sa p e R s m args below meth c A ρ L H locs cells slots Q2 hC hl ho k => lv_ior hC.1 hC.2.1 (hC.dec hd) (by have e := Int32.ofInt_toInt; rw [← e ((Int32.ofInt x) ||| Int32.ofInt y)]; exact k)) k
theorem WP_ixor (hd : mcd mt pc = some (.ixor, 1)) (k : WP l mt d b (pc + 1) ls (.inl (jxor x y) :: st) M Q) : WP l mt d b pc ls (.inl y :: .inl x :: st) M Q :=
  WP_st (st' := .inl (jxor x y) :: st) (st := .inl y :: .inl x :: st) (fun h hL => okc (inI_of _) (okt (okt h))) (fun D cA sa p e R s m args below meth c A ρ L H locs cells slots Q2 hC hl ho k => lv_ixor hC.1 hC.2.1 (hC.dec hd) (by have e := Int32.ofInt_toInt; rw [← e ((Int32.ofInt x) ^^^ Int32.ofInt y)]; exact k)) k
theorem WP_ishl (hd : mcd mt pc = some (.ishl, 1)) (k : WP l mt d b (pc + 1) ls (.inl (jshl x y) :: st) M Q) : WP l mt d b pc ls (.inl y :: .inl x :: st) M Q :=
  WP_st (st' := .inl (jshl x y) :: st) (st := .inl y :: .inl x :: st) (fun h hL => okc (inI_of _) (okt (okt h))) (fun D cA sa p e R s m args below meth c A ρ L H locs cells slots Q2 hC hl ho k => lv_ishl hC.1 hC.2.1 (hC.dec hd) (by have e := Int32.ofInt_toInt; rw [← e ((Int32.ofInt x) <<< (Int32.ofInt y &&& 31))]; exact k)) k
theorem WP_ishr (hd : mcd mt pc = some (.ishr, 1)) (k : WP l mt d b (pc + 1) ls (.inl (jshr x y) :: st) M Q) : WP l mt d b pc ls (.inl y :: .inl x :: st) M Q :=
  WP_st (st' := .inl (jshr x y) :: st) (st := .inl y :: .inl x :: st) (fun h hL => okc (inI_of _) (okt (okt h))) (fun D cA sa p e R s m args below meth c A ρ L H locs cells slots Q2 hC hl ho k => lv_ishr hC.1 hC.2.1 (hC.dec hd) (by have e := Int32.ofInt_toInt; rw [← e ((Int32.ofInt x) >>> (Int32.ofInt y &&& 31))]; exact k)) k
theorem WP_land (hd : mcd mt pc = some (.land, 1)) (k : WP l mt d b (pc + 1) ls (.inr (.inl (kand x y)) :: st) M Q) : WP l mt d b pc ls (.inr (.inl y) :: .inr (.inl x) :: st) M Q :=
  WP_st (st' := .inr (.inl (kand x y)) :: st) (st := .inr (.inl y) :: .inr (.inl x) :: st) (fun h hL => okc (inL_of _) (okt (okt h))) (fun D cA sa p e R s m args below meth c A ρ L H locs cells slots Q2 hC hl ho k => lv_land hC.1 hC.2.1 (hC.dec hd) (by have e := Int64.ofInt_toInt; rw [← e ((Int64.ofInt x) &&& Int64.ofInt y)]; exact k)) k
theorem WP_lor (hd : mcd mt pc = some (.lor, 1)) (k : WP l mt d b (pc + 1) ls (.inr (.inl (kor x y)) :: st) M Q) : WP l mt d b pc ls (.inr (.inl y) :: .inr (.inl x) :: st) M Q :=
  WP_st (st' := .inr (.inl (kor x y)) :: st) (st := .inr (.inl y) :: .inr (.inl x) :: st) (fun h hL => okc (inL_of _) (okt (okt h))) (fun D cA sa p e R s m args below meth c A ρ L H locs cells slots Q2 hC hl ho k => lv_lor hC.1 hC.2.1 (hC.dec hd) (by have e := Int64.ofInt_toInt; rw [← e ((Int64.ofInt x) ||| Int64.ofInt y)]; exact k)) k
theorem WP_lxor (hd : mcd mt pc = some (.lxor, 1)) (k : WP l mt d b (pc + 1) ls (.inr (.inl (kxor x y)) :: st) M Q) : WP l mt d b pc ls (.inr (.inl y) :: .inr (.inl x) :: st) M Q :=
  WP_st (st' := .inr (.inl (kxor x y)) :: st) (st := .inr (.inl y) :: .inr (.inl x) :: st) (fun h hL => okc (inL_of _) (okt (okt h))) (fun D cA sa p e R s m args below meth c A ρ L H locs cells slots Q2 hC hl ho k => lv_lxor hC.1 hC.2.1 (hC.dec hd) (by have e := Int64.ofInt_toInt; rw [← e ((Int64.ofInt x) ^^^ Int64.ofInt y)]; exact k)) k
theorem WP_idiv (hd : mcd mt pc = some (.idiv, 1)) (hy : ¬ y = 0) (k : WP l mt d b (pc + 1) ls (.inl (jdiv x y) :: st) M Q) : WP l mt d b pc ls (.inl y :: .inl x :: st) M Q :=
  WP_st (st' := .inl (jdiv x y) :: st) (st := .inl y :: .inl x :: st) (fun h hL => okc (inI_of _) (okt (okt h))) (fun D cA sa p e R s m args below meth c A ρ L H locs cells slots Q2 hC hl ho k => lv_idiv hC.1 hC.2.1 (hC.dec hd) (fun q => hy ((inI_eq (okh ho) ⟨by decide, by decide⟩).mp q)) (by have e := Int32.ofInt_toInt; rw [← e (Int32.ofInt x / Int32.ofInt y)]; exact k)) k
theorem WP_irem (hd : mcd mt pc = some (.irem, 1)) (hy : ¬ y = 0) (k : WP l mt d b (pc + 1) ls (.inl (jrem x y) :: st) M Q) : WP l mt d b pc ls (.inl y :: .inl x :: st) M Q :=
  WP_st (st' := .inl (jrem x y) :: st) (st := .inl y :: .inl x :: st) (fun h hL => okc (inI_of _) (okt (okt h))) (fun D cA sa p e R s m args below meth c A ρ L H locs cells slots Q2 hC hl ho k => lv_irem hC.1 hC.2.1 (hC.dec hd) (fun q => hy ((inI_eq (okh ho) ⟨by decide, by decide⟩).mp q)) (by have e := Int32.ofInt_toInt; rw [← e (Int32.ofInt x - Int32.ofInt x / Int32.ofInt y * Int32.ofInt y)]; exact k)) k
theorem WP_ldiv (hd : mcd mt pc = some (.ldiv, 1)) (hy : ¬ y = 0) (k : WP l mt d b (pc + 1) ls (.inr (.inl (kdiv x y)) :: st) M Q) : WP l mt d b pc ls (.inr (.inl y) :: .inr (.inl x) :: st) M Q :=
  WP_st (st' := .inr (.inl (kdiv x y)) :: st) (st := .inr (.inl y) :: .inr (.inl x) :: st) (fun h hL => okc (inL_of _) (okt (okt h))) (fun D cA sa p e R s m args below meth c A ρ L H locs cells slots Q2 hC hl ho k => lv_ldiv hC.1 hC.2.1 (hC.dec hd) (fun q => hy ((inL_eq (okh ho) ⟨by decide, by decide⟩).mp q)) (by have e := Int64.ofInt_toInt; rw [← e (Int64.ofInt x / Int64.ofInt y)]; exact k)) k
theorem WP_lrem (hd : mcd mt pc = some (.lrem, 1)) (hy : ¬ y = 0) (k : WP l mt d b (pc + 1) ls (.inr (.inl (krem x y)) :: st) M Q) : WP l mt d b pc ls (.inr (.inl y) :: .inr (.inl x) :: st) M Q :=
  WP_st (st' := .inr (.inl (krem x y)) :: st) (st := .inr (.inl y) :: .inr (.inl x) :: st) (fun h hL => okc (inL_of _) (okt (okt h))) (fun D cA sa p e R s m args below meth c A ρ L H locs cells slots Q2 hC hl ho k => lv_lrem hC.1 hC.2.1 (hC.dec hd) (fun q => hy ((inL_eq (okh ho) ⟨by decide, by decide⟩).mp q)) (by have e := Int64.ofInt_toInt; rw [← e (Int64.ofInt x - Int64.ofInt x / Int64.ofInt y * Int64.ofInt y)]; exact k)) k
theorem WP_iushr (hd : mcd mt pc = some (.iushr, 1)) (k : WP l mt d b (pc + 1) ls (.inl (jushr x y) :: st) M Q) : WP l mt d b pc ls (.inl y :: .inl x :: st) M Q :=
  WP_st (st' := .inl (jushr x y) :: st) (st := .inl y :: .inl x :: st) (fun h hL => okc (inI_of _) (okt (okt h))) (fun D cA sa p e R s m args below meth c A ρ L H locs cells slots Q2 hC hl ho k => lv_iushr hC.1 hC.2.1 (hC.dec hd) (Int32.ofInt_toInt _).symm k) k
theorem WP_i2c (hd : mcd mt pc = some (.i2c, 1)) (k : WP l mt d b (pc + 1) ls (.inl (jchr x) :: st) M Q) : WP l mt d b pc ls (.inl x :: st) M Q :=
  WP_st (st' := .inl (jchr x) :: st) (st := .inl x :: st) (fun h hL => okc (inI_of _) (okt h)) (fun D cA sa p e R s m args below meth c A ρ L H locs cells slots Q2 hC hl ho k => lv_i2c hC.1 hC.2.1 (hC.dec hd) (Int32.ofInt_toInt _).symm k) k
theorem WP_lshl (hd : mcd mt pc = some (.lshl, 1)) (k : WP l mt d b (pc + 1) ls (.inr (.inl (kshl x y)) :: st) M Q) : WP l mt d b pc ls (.inl y :: .inr (.inl x) :: st) M Q :=
  WP_st (st' := .inr (.inl (kshl x y)) :: st) (st := .inl y :: .inr (.inl x) :: st) (fun h hL => okc (inL_of _) (okt (okt h))) (fun D cA sa p e R s m args below meth c A ρ L H locs cells slots Q2 hC hl ho k => lv_lshl hC.1 hC.2.1 (hC.dec hd) (Int64.ofInt_toInt _).symm k) k
theorem WP_lushr (hd : mcd mt pc = some (.lushr, 1)) (k : WP l mt d b (pc + 1) ls (.inr (.inl (kushr x y)) :: st) M Q) : WP l mt d b pc ls (.inl y :: .inr (.inl x) :: st) M Q :=
  WP_st (st' := .inr (.inl (kushr x y)) :: st) (st := .inl y :: .inr (.inl x) :: st) (fun h hL => okc (inL_of _) (okt (okt h))) (fun D cA sa p e R s m args below meth c A ρ L H locs cells slots Q2 hC hl ho k => lv_lushr hC.1 hC.2.1 (hC.dec hd) (Int64.ofInt_toInt _).symm k) k
theorem WP_i2l (hd : mcd mt pc = some (.i2l, 1)) (k : WP l mt d b (pc + 1) ls (.inr (.inl x) :: st) M Q) : WP l mt d b pc ls (.inl x :: st) M Q :=
  WP_st (st' := .inr (.inl x) :: st) (st := .inl x :: st) (fun h hL => okc (inI_L (okh h)) (okt h)) (fun D cA sa p e R s m args below meth c A ρ L H locs cells slots Q2 hC hl ho k => lv_i2l hC.1 hC.2.1 (hC.dec hd) (i2l_of (okh ho)) k) k
theorem WP_l2i (hd : mcd mt pc = some (.l2i, 1)) (k : WP l mt d b (pc + 1) ls (.inl (i32 x) :: st) M Q) : WP l mt d b pc ls (.inr (.inl x) :: st) M Q :=
  WP_st (st' := .inl (i32 x) :: st) (st := .inr (.inl x) :: st) (fun h hL => okc (i32_in _) (okt h)) (fun D cA sa p e R s m args below meth c A ρ L H locs cells slots Q2 hC hl ho k => lv_l2i hC.1 hC.2.1 (hC.dec hd) (by rw [i32_of]; exact Int64.toInt32_ofInt) k) k
theorem WP_lcmp (hd : mcd mt pc = some (.lcmp, 1)) (k : WP l mt d b (pc + 1) ls (.inl (kcmp x y) :: st) M Q) : WP l mt d b pc ls (.inr (.inl y) :: .inr (.inl x) :: st) M Q :=
  WP_st (st' := .inl (kcmp x y) :: st) (st := .inr (.inl y) :: .inr (.inl x) :: st) (fun h hL => okc (kcmp_in _ _) (okt (okt h))) (fun D cA sa p e R s m args below meth c A ρ L H locs cells slots Q2 hC hl ho k => W.lcmp hC.1 hC.2.1 (hC.dec hd) (by rw [← kcmp_of (okh (okt ho)) (okh ho)]; exact k)) k
theorem WP_dupi (hd : mcd mt pc = some (.dup, 1)) (k : WP l mt d b (pc + 1) ls (.inl x :: .inl x :: st) M Q) : WP l mt d b pc ls (.inl x :: st) M Q :=
  WP_st (st' := .inl x :: .inl x :: st) (st := .inl x :: st) (fun h hL => okc (okh h) h) (fun D cA sa p e R s m args below meth c A ρ L H locs cells slots Q2 hC hl ho k => lv_dup hC.1 hC.2.1 (hC.dec hd) rfl k) k
theorem WP_popi (hd : mcd mt pc = some (.pop, 1)) (k : WP l mt d b (pc + 1) ls (st) M Q) : WP l mt d b pc ls (.inl x :: st) M Q :=
  WP_st (st' := st) (st := .inl x :: st) (fun h hL => okt h) (fun D cA sa p e R s m args below meth c A ρ L H locs cells slots Q2 hC hl ho k => lv_pop hC.1 hC.2.1 (hC.dec hd) rfl k) k
theorem WP_dupa (hd : mcd mt pc = some (.dup, 1)) (k : WP l mt d b (pc + 1) ls (.inr (.inr (.inl a)) :: .inr (.inr (.inl a)) :: st) M Q) : WP l mt d b pc ls (.inr (.inr (.inl a)) :: st) M Q :=
  WP_st (st' := .inr (.inr (.inl a)) :: .inr (.inr (.inl a)) :: st) (st := .inr (.inr (.inl a)) :: st) (fun h hL => okc (okh h) h) (fun D cA sa p e R s m args below meth c A ρ L H locs cells slots Q2 hC hl ho k => lv_dup hC.1 hC.2.1 (hC.dec hd) rfl k) k
theorem WP_popa (hd : mcd mt pc = some (.pop, 1)) (k : WP l mt d b (pc + 1) ls (st) M Q) : WP l mt d b pc ls (.inr (.inr (.inl a)) :: st) M Q :=
  WP_st (st' := st) (st := .inr (.inr (.inl a)) :: st) (fun h hL => okt h) (fun D cA sa p e R s m args below meth c A ρ L H locs cells slots Q2 hC hl ho k => lv_pop hC.1 hC.2.1 (hC.dec hd) rfl k) k
theorem WP_dup2l (hd : mcd mt pc = some (.dup2, 1)) (k : WP l mt d b (pc + 1) ls (.inr (.inl x) :: .inr (.inl x) :: st) M Q) : WP l mt d b pc ls (.inr (.inl x) :: st) M Q :=
  WP_st (st' := .inr (.inl x) :: .inr (.inl x) :: st) (st := .inr (.inl x) :: st) (fun h hL => okc (okh h) h) (fun D cA sa p e R s m args below meth c A ρ L H locs cells slots Q2 hC hl ho k => lv_dup2_2 hC.1 hC.2.1 (hC.dec hd) rfl k) k
theorem WP_dup2ai (hd : mcd mt pc = some (.dup2, 1)) (k : WP l mt d b (pc + 1) ls (.inl x :: .inr (.inr (.inl a)) :: .inl x :: .inr (.inr (.inl a)) :: st) M Q) : WP l mt d b pc ls (.inl x :: .inr (.inr (.inl a)) :: st) M Q :=
  WP_st (st' := .inl x :: .inr (.inr (.inl a)) :: .inl x :: .inr (.inr (.inl a)) :: st) (st := .inl x :: .inr (.inr (.inl a)) :: st) (fun h hL => okc (okh h) (okc (okh (okt h)) h)) (fun D cA sa p e R s m args below meth c A ρ L H locs cells slots Q2 hC hl ho k => lv_dup2_11 hC.1 hC.2.1 (hC.dec hd) rfl rfl k) k
theorem WP_pop2ai (hd : mcd mt pc = some (.pop2, 1)) (k : WP l mt d b (pc + 1) ls st M Q) : WP l mt d b pc ls (.inl x :: .inr (.inr (.inl a)) :: st) M Q :=
  WP_st (fun h hL => okt (okt h)) (fun D cA sa p e R s m args below meth c A ρ L H locs cells slots Q2 hC hl ho k => lv_pop2_11 hC.1 hC.2.1 (hC.dec hd) rfl rfl k) k
theorem WP_goto {off : Int} {tgt : Nat} (hd : mcd mt pc = some (.goto off, 3)) (ht : (pc : Int) + off = (tgt : Int)) (k : WP l mt d b tgt ls st M Q) : WP l mt d b pc ls st M Q :=
  WP_st (fun h hL => h) (fun D cA sa p e R s m args below meth c A ρ L H locs cells slots Q2 hC hl ho k => lv_goto hC.1 hC.2.1 (hC.dec hd) ht k) k
theorem WP_if_eq {off : Int} {tgt : Nat} (hd : mcd mt pc = some (.ifCond .eq off, 3)) (ht : (pc : Int) + off = (tgt : Int)) (kt : x = 0 → WP l mt d b tgt ls st M Q) (kf : ¬ x = 0 → WP l mt d b (pc + 3) ls st M Q) : WP l mt d b pc ls (.inl x :: st) M Q := by
  intro D cA sa p e R s m args below meth c A ρ0 n0 hC ρ L H locs cells slots hR
  obtain ⟨g1, g2, g3, g4, g5, g6, g7, g8, g9, g10⟩ := hR
  have hx := (okh g4 : inI x)
  have hy := (⟨by decide, by decide⟩ : inI 0)
  have rr : mRl mt D cA sa A s R ρ0 n0 b ρ L H locs cells slots ls st M := ⟨g1, g2, g3, okt g4, g5, g6, g7, g8, g9, g10⟩
  have kt := fun q => kt q D cA sa p e R s m args below meth c A ρ0 n0 hC ρ L H locs cells slots rr
  have kf := fun q => kf q D cA sa p e R s m args below meth c A ρ0 n0 hC ρ L H locs cells slots rr
  exact lv_if_eq hC.1 hC.2.1 (hC.dec hd) ht (fun q => kt ((inI_eq hx hy).mp q)) (fun q => kf (fun z => q ((inI_eq hx hy).mpr z)))
theorem WP_if_ne {off : Int} {tgt : Nat} (hd : mcd mt pc = some (.ifCond .ne off, 3)) (ht : (pc : Int) + off = (tgt : Int)) (kt : x = 0 → WP l mt d b (pc + 3) ls st M Q) (kf : ¬ x = 0 → WP l mt d b tgt ls st M Q) : WP l mt d b pc ls (.inl x :: st) M Q := by
  intro D cA sa p e R s m args below meth c A ρ0 n0 hC ρ L H locs cells slots hR
  obtain ⟨g1, g2, g3, g4, g5, g6, g7, g8, g9, g10⟩ := hR
  have hx := (okh g4 : inI x)
  have hy := (⟨by decide, by decide⟩ : inI 0)
  have rr : mRl mt D cA sa A s R ρ0 n0 b ρ L H locs cells slots ls st M := ⟨g1, g2, g3, okt g4, g5, g6, g7, g8, g9, g10⟩
  have kt := fun q => kt q D cA sa p e R s m args below meth c A ρ0 n0 hC ρ L H locs cells slots rr
  have kf := fun q => kf q D cA sa p e R s m args below meth c A ρ0 n0 hC ρ L H locs cells slots rr
  exact lv_if_ne hC.1 hC.2.1 (hC.dec hd) ht (fun q => kf (fun z => q ((inI_eq hx hy).mpr z))) (fun q => kt ((inI_eq hx hy).mp q))
theorem WP_if_lt {off : Int} {tgt : Nat} (hd : mcd mt pc = some (.ifCond .lt off, 3)) (ht : (pc : Int) + off = (tgt : Int)) (kt : x < 0 → WP l mt d b tgt ls st M Q) (kf : ¬ x < 0 → WP l mt d b (pc + 3) ls st M Q) : WP l mt d b pc ls (.inl x :: st) M Q := by
  intro D cA sa p e R s m args below meth c A ρ0 n0 hC ρ L H locs cells slots hR
  obtain ⟨g1, g2, g3, g4, g5, g6, g7, g8, g9, g10⟩ := hR
  have hx := (okh g4 : inI x)
  have hy := (⟨by decide, by decide⟩ : inI 0)
  have rr : mRl mt D cA sa A s R ρ0 n0 b ρ L H locs cells slots ls st M := ⟨g1, g2, g3, okt g4, g5, g6, g7, g8, g9, g10⟩
  have kt := fun q => kt q D cA sa p e R s m args below meth c A ρ0 n0 hC ρ L H locs cells slots rr
  have kf := fun q => kf q D cA sa p e R s m args below meth c A ρ0 n0 hC ρ L H locs cells slots rr
  exact lv_if_lt hC.1 hC.2.1 (hC.dec hd) ht (fun q => kt ((inI_lt hx hy).mp q)) (fun q => kf (fun z => q ((inI_lt hx hy).mpr z)))
theorem WP_if_ge {off : Int} {tgt : Nat} (hd : mcd mt pc = some (.ifCond .ge off, 3)) (ht : (pc : Int) + off = (tgt : Int)) (kt : x < 0 → WP l mt d b (pc + 3) ls st M Q) (kf : ¬ x < 0 → WP l mt d b tgt ls st M Q) : WP l mt d b pc ls (.inl x :: st) M Q := by
  intro D cA sa p e R s m args below meth c A ρ0 n0 hC ρ L H locs cells slots hR
  obtain ⟨g1, g2, g3, g4, g5, g6, g7, g8, g9, g10⟩ := hR
  have hx := (okh g4 : inI x)
  have hy := (⟨by decide, by decide⟩ : inI 0)
  have rr : mRl mt D cA sa A s R ρ0 n0 b ρ L H locs cells slots ls st M := ⟨g1, g2, g3, okt g4, g5, g6, g7, g8, g9, g10⟩
  have kt := fun q => kt q D cA sa p e R s m args below meth c A ρ0 n0 hC ρ L H locs cells slots rr
  have kf := fun q => kf q D cA sa p e R s m args below meth c A ρ0 n0 hC ρ L H locs cells slots rr
  exact lv_if_ge hC.1 hC.2.1 (hC.dec hd) ht (fun q => kf (Int.not_lt.mpr ((inI_le hy hx).mp q))) (fun q => kt (Int.not_le.mp (fun z => q ((inI_le hy hx).mpr z))))
theorem WP_if_gt {off : Int} {tgt : Nat} (hd : mcd mt pc = some (.ifCond .gt off, 3)) (ht : (pc : Int) + off = (tgt : Int)) (kt : x ≤ 0 → WP l mt d b (pc + 3) ls st M Q) (kf : ¬ x ≤ 0 → WP l mt d b tgt ls st M Q) : WP l mt d b pc ls (.inl x :: st) M Q := by
  intro D cA sa p e R s m args below meth c A ρ0 n0 hC ρ L H locs cells slots hR
  obtain ⟨g1, g2, g3, g4, g5, g6, g7, g8, g9, g10⟩ := hR
  have hx := (okh g4 : inI x)
  have hy := (⟨by decide, by decide⟩ : inI 0)
  have rr : mRl mt D cA sa A s R ρ0 n0 b ρ L H locs cells slots ls st M := ⟨g1, g2, g3, okt g4, g5, g6, g7, g8, g9, g10⟩
  have kt := fun q => kt q D cA sa p e R s m args below meth c A ρ0 n0 hC ρ L H locs cells slots rr
  have kf := fun q => kf q D cA sa p e R s m args below meth c A ρ0 n0 hC ρ L H locs cells slots rr
  exact lv_if_gt hC.1 hC.2.1 (hC.dec hd) ht (fun q => kf (Int.not_le.mpr ((inI_lt hy hx).mp q))) (fun q => kt (Int.not_lt.mp (fun z => q ((inI_lt hy hx).mpr z))))
theorem WP_if_le {off : Int} {tgt : Nat} (hd : mcd mt pc = some (.ifCond .le off, 3)) (ht : (pc : Int) + off = (tgt : Int)) (kt : x ≤ 0 → WP l mt d b tgt ls st M Q) (kf : ¬ x ≤ 0 → WP l mt d b (pc + 3) ls st M Q) : WP l mt d b pc ls (.inl x :: st) M Q := by
  intro D cA sa p e R s m args below meth c A ρ0 n0 hC ρ L H locs cells slots hR
  obtain ⟨g1, g2, g3, g4, g5, g6, g7, g8, g9, g10⟩ := hR
  have hx := (okh g4 : inI x)
  have hy := (⟨by decide, by decide⟩ : inI 0)
  have rr : mRl mt D cA sa A s R ρ0 n0 b ρ L H locs cells slots ls st M := ⟨g1, g2, g3, okt g4, g5, g6, g7, g8, g9, g10⟩
  have kt := fun q => kt q D cA sa p e R s m args below meth c A ρ0 n0 hC ρ L H locs cells slots rr
  have kf := fun q => kf q D cA sa p e R s m args below meth c A ρ0 n0 hC ρ L H locs cells slots rr
  exact lv_if_le hC.1 hC.2.1 (hC.dec hd) ht (fun q => kt ((inI_le hx hy).mp q)) (fun q => kf (fun z => q ((inI_le hx hy).mpr z)))
theorem WP_icmp_eq {off : Int} {tgt : Nat} (hd : mcd mt pc = some (.if_icmp .eq off, 3)) (ht : (pc : Int) + off = (tgt : Int)) (kt : x = y → WP l mt d b tgt ls st M Q) (kf : ¬ x = y → WP l mt d b (pc + 3) ls st M Q) : WP l mt d b pc ls (.inl y :: .inl x :: st) M Q := by
  intro D cA sa p e R s m args below meth c A ρ0 n0 hC ρ L H locs cells slots hR
  obtain ⟨g1, g2, g3, g4, g5, g6, g7, g8, g9, g10⟩ := hR
  have hx := (okh (okt g4) : inI x)
  have hy := (okh g4 : inI y)
  have rr : mRl mt D cA sa A s R ρ0 n0 b ρ L H locs cells slots ls st M := ⟨g1, g2, g3, okt (okt g4), g5, g6, g7, g8, g9, g10⟩
  have kt := fun q => kt q D cA sa p e R s m args below meth c A ρ0 n0 hC ρ L H locs cells slots rr
  have kf := fun q => kf q D cA sa p e R s m args below meth c A ρ0 n0 hC ρ L H locs cells slots rr
  exact lv_icmp_eq hC.1 hC.2.1 (hC.dec hd) ht (fun q => kt ((inI_eq hx hy).mp q)) (fun q => kf (fun z => q ((inI_eq hx hy).mpr z)))
theorem WP_icmp_ne {off : Int} {tgt : Nat} (hd : mcd mt pc = some (.if_icmp .ne off, 3)) (ht : (pc : Int) + off = (tgt : Int)) (kt : x = y → WP l mt d b (pc + 3) ls st M Q) (kf : ¬ x = y → WP l mt d b tgt ls st M Q) : WP l mt d b pc ls (.inl y :: .inl x :: st) M Q := by
  intro D cA sa p e R s m args below meth c A ρ0 n0 hC ρ L H locs cells slots hR
  obtain ⟨g1, g2, g3, g4, g5, g6, g7, g8, g9, g10⟩ := hR
  have hx := (okh (okt g4) : inI x)
  have hy := (okh g4 : inI y)
  have rr : mRl mt D cA sa A s R ρ0 n0 b ρ L H locs cells slots ls st M := ⟨g1, g2, g3, okt (okt g4), g5, g6, g7, g8, g9, g10⟩
  have kt := fun q => kt q D cA sa p e R s m args below meth c A ρ0 n0 hC ρ L H locs cells slots rr
  have kf := fun q => kf q D cA sa p e R s m args below meth c A ρ0 n0 hC ρ L H locs cells slots rr
  exact lv_icmp_ne hC.1 hC.2.1 (hC.dec hd) ht (fun q => kf (fun z => q ((inI_eq hx hy).mpr z))) (fun q => kt ((inI_eq hx hy).mp q))
theorem WP_icmp_lt {off : Int} {tgt : Nat} (hd : mcd mt pc = some (.if_icmp .lt off, 3)) (ht : (pc : Int) + off = (tgt : Int)) (kt : x < y → WP l mt d b tgt ls st M Q) (kf : ¬ x < y → WP l mt d b (pc + 3) ls st M Q) : WP l mt d b pc ls (.inl y :: .inl x :: st) M Q := by
  intro D cA sa p e R s m args below meth c A ρ0 n0 hC ρ L H locs cells slots hR
  obtain ⟨g1, g2, g3, g4, g5, g6, g7, g8, g9, g10⟩ := hR
  have hx := (okh (okt g4) : inI x)
  have hy := (okh g4 : inI y)
  have rr : mRl mt D cA sa A s R ρ0 n0 b ρ L H locs cells slots ls st M := ⟨g1, g2, g3, okt (okt g4), g5, g6, g7, g8, g9, g10⟩
  have kt := fun q => kt q D cA sa p e R s m args below meth c A ρ0 n0 hC ρ L H locs cells slots rr
  have kf := fun q => kf q D cA sa p e R s m args below meth c A ρ0 n0 hC ρ L H locs cells slots rr
  exact lv_icmp_lt hC.1 hC.2.1 (hC.dec hd) ht (fun q => kt ((inI_lt hx hy).mp q)) (fun q => kf (fun z => q ((inI_lt hx hy).mpr z)))
theorem WP_icmp_ge {off : Int} {tgt : Nat} (hd : mcd mt pc = some (.if_icmp .ge off, 3)) (ht : (pc : Int) + off = (tgt : Int)) (kt : x < y → WP l mt d b (pc + 3) ls st M Q) (kf : ¬ x < y → WP l mt d b tgt ls st M Q) : WP l mt d b pc ls (.inl y :: .inl x :: st) M Q := by
  intro D cA sa p e R s m args below meth c A ρ0 n0 hC ρ L H locs cells slots hR
  obtain ⟨g1, g2, g3, g4, g5, g6, g7, g8, g9, g10⟩ := hR
  have hx := (okh (okt g4) : inI x)
  have hy := (okh g4 : inI y)
  have rr : mRl mt D cA sa A s R ρ0 n0 b ρ L H locs cells slots ls st M := ⟨g1, g2, g3, okt (okt g4), g5, g6, g7, g8, g9, g10⟩
  have kt := fun q => kt q D cA sa p e R s m args below meth c A ρ0 n0 hC ρ L H locs cells slots rr
  have kf := fun q => kf q D cA sa p e R s m args below meth c A ρ0 n0 hC ρ L H locs cells slots rr
  exact lv_icmp_ge hC.1 hC.2.1 (hC.dec hd) ht (fun q => kf (Int.not_lt.mpr ((inI_le hy hx).mp q))) (fun q => kt (Int.not_le.mp (fun z => q ((inI_le hy hx).mpr z))))
theorem WP_icmp_gt {off : Int} {tgt : Nat} (hd : mcd mt pc = some (.if_icmp .gt off, 3)) (ht : (pc : Int) + off = (tgt : Int)) (kt : x ≤ y → WP l mt d b (pc + 3) ls st M Q) (kf : ¬ x ≤ y → WP l mt d b tgt ls st M Q) : WP l mt d b pc ls (.inl y :: .inl x :: st) M Q := by
  intro D cA sa p e R s m args below meth c A ρ0 n0 hC ρ L H locs cells slots hR
  obtain ⟨g1, g2, g3, g4, g5, g6, g7, g8, g9, g10⟩ := hR
  have hx := (okh (okt g4) : inI x)
  have hy := (okh g4 : inI y)
  have rr : mRl mt D cA sa A s R ρ0 n0 b ρ L H locs cells slots ls st M := ⟨g1, g2, g3, okt (okt g4), g5, g6, g7, g8, g9, g10⟩
  have kt := fun q => kt q D cA sa p e R s m args below meth c A ρ0 n0 hC ρ L H locs cells slots rr
  have kf := fun q => kf q D cA sa p e R s m args below meth c A ρ0 n0 hC ρ L H locs cells slots rr
  exact lv_icmp_gt hC.1 hC.2.1 (hC.dec hd) ht (fun q => kf (Int.not_le.mpr ((inI_lt hy hx).mp q))) (fun q => kt (Int.not_lt.mp (fun z => q ((inI_lt hy hx).mpr z))))
theorem WP_icmp_le {off : Int} {tgt : Nat} (hd : mcd mt pc = some (.if_icmp .le off, 3)) (ht : (pc : Int) + off = (tgt : Int)) (kt : x ≤ y → WP l mt d b tgt ls st M Q) (kf : ¬ x ≤ y → WP l mt d b (pc + 3) ls st M Q) : WP l mt d b pc ls (.inl y :: .inl x :: st) M Q := by
  intro D cA sa p e R s m args below meth c A ρ0 n0 hC ρ L H locs cells slots hR
  obtain ⟨g1, g2, g3, g4, g5, g6, g7, g8, g9, g10⟩ := hR
  have hx := (okh (okt g4) : inI x)
  have hy := (okh g4 : inI y)
  have rr : mRl mt D cA sa A s R ρ0 n0 b ρ L H locs cells slots ls st M := ⟨g1, g2, g3, okt (okt g4), g5, g6, g7, g8, g9, g10⟩
  have kt := fun q => kt q D cA sa p e R s m args below meth c A ρ0 n0 hC ρ L H locs cells slots rr
  have kf := fun q => kf q D cA sa p e R s m args below meth c A ρ0 n0 hC ρ L H locs cells slots rr
  exact lv_icmp_le hC.1 hC.2.1 (hC.dec hd) ht (fun q => kt ((inI_le hx hy).mp q)) (fun q => kf (fun z => q ((inI_le hx hy).mpr z)))
theorem WP_tabI {dflt lo hi off : Int} {offs : Array Int} {len tgt : Nat} (hd : mcd mt pc = some (.tableswitch dflt lo hi offs, len)) (h1 : lo ≤ x) (h2 : x ≤ hi) (ho : offs[(x - lo).toNat]? = some off) (ht : (pc : Int) + off = (tgt : Int)) (k : WP l mt d b tgt ls st M Q) : WP l mt d b pc ls (.inl x :: st) M Q :=
  WP_st (fun h hL => okt h) (fun D cA sa p e R s m args below meth c A ρ L H locs cells slots Q2 hC hl hok k => by
    have e := inI_to (okh hok : inI x)
    exact lv_tableIn hC.1 hC.2.1 (hC.dec hd) (by rw [e]; omega) (by rw [e]; omega) (by rw [e]; exact ho) ht k) k
theorem WP_tabO {dflt lo hi : Int} {offs : Array Int} {len tgt : Nat} (hd : mcd mt pc = some (.tableswitch dflt lo hi offs, len)) (h : x < lo ∨ hi < x) (ht : (pc : Int) + dflt = (tgt : Int)) (k : WP l mt d b tgt ls st M Q) : WP l mt d b pc ls (.inl x :: st) M Q :=
  WP_st (fun h hL => okt h) (fun D cA sa p e R s m args below meth c A ρ L H locs cells slots Q2 hC hl hok k => by
    have e := inI_to (okh hok : inI x)
    exact lv_tableOut hC.1 hC.2.1 (hC.dec hd) (by rw [e]; exact h) ht k) k
theorem WP_look {dflt off : Int} {ps : Array (Int × Int)} {len tgt : Nat} (hd : mcd mt pc = some (.lookupswitch dflt ps, len)) (hp : (ps.toList.zip (ps.toList.drop 1)).all (fun (a, next) => a.1 < next.1) = true) (ho : Op.lookupswitch.offset ps.toList dflt x = off) (ht : (pc : Int) + off = (tgt : Int)) (k : WP l mt d b tgt ls st M Q) : WP l mt d b pc ls (.inl x :: st) M Q :=
  WP_st (fun h hL => okt h) (fun D cA sa p e R s m args below meth c A ρ L H locs cells slots Q2 hC hl hok k => by
    have e := inI_to (okh hok : inI x)
    exact lv_lookup hC.1 hC.2.1 (hC.dec hd) hp (by rw [e]; exact ho) ht k) k
/-- locals may be forgotten -/
def mkeep : List Bool → List (Option mV) → List (Option mV)
  | true :: q, v :: r => v :: mkeep q r
  | false :: q, _ :: r => none :: mkeep q r
  | _, _ => []
theorem mkeep_at : ∀ (q : List Bool) (ls : List (Option mV)) (i : Nat) (v : mV), (mkeep q ls)[i]? = some (some v) → ls[i]? = some (some v)
  | [], _, i, v => by simp [mkeep]
  | _ :: _, [], i, v => by simp [mkeep]
  | true :: q, w :: r, 0, v => by simp [mkeep]
  | true :: q, w :: r, i + 1, v => by
    simp only [mkeep, List.getElem?_cons_succ]
    exact mkeep_at q r i v
  | false :: q, w :: r, 0, v => by simp [mkeep]
  | false :: q, w :: r, i + 1, v => by
    simp only [mkeep, List.getElem?_cons_succ]
    exact mkeep_at q r i v
theorem WP_keep (q : List Bool) (k : WP l mt d b pc (mkeep q ls) st M Q) : WP l mt d b pc ls st M Q := by
  intro D cA sa p e R s m args below meth c A ρ0 n0 hC ρ L H locs cells slots hR
  obtain ⟨g1, g2, g3, g4, g5, g6, g7, g8, g9, g10⟩ := hR
  exact k D cA sa p e R s m args below meth c A ρ0 n0 hC ρ L H locs cells slots ⟨g1, g2, ⟨g3.1, g3.2.1, fun i v hv => g3.2.2 i v (mkeep_at q ls i v hv)⟩, g4, g5, g6, g7, g8, g9, g10⟩
end WR
end
section
/-! the rules of WP that touch memory, calls, returns -/
theorem mcl_lt {ci : Nat} {q : vw_C} (h : mcl[ci]? = some q) : ci < 10 := (List.getElem?_eq_some_iff.mp h).1
def mcK (ci : Nat) (C : String) (T : u_T) (N : Nat) : Prop := mcl[ci]? = some (C, T, N) ∧ (∀ w ∈ u_ws C T N, w ∈ mg) ∧ (∀ k, k < N → parseFieldDescriptor (T k).2.2.1 = some (mty ci k)) ∧ (∀ a, a < N → ∀ b, b < N → a ≠ b → (T a).2.1 ≠ (T b).2.1)
theorem mcK0 : mcK 0 RX0 TX0 5 := ⟨rfl, wcX0, tyX0_ok, nmX0⟩
theorem mcK1 : mcK 1 RX1 TX1 3 := ⟨rfl, wcX1, tyX1_ok, nmX1⟩
theorem mcK2 : mcK 2 RX2 TX2 4 := ⟨rfl, wcX2, tyX2_ok, nmX2⟩
theorem mcK3 : mcK 3 RX3 TX3 12 := ⟨rfl, wcX3, tyX3_ok, nmX3⟩
theorem mcK4 : mcK 4 RX4 TX4 3 := ⟨rfl, wcX4, tyX4_ok, nmX4⟩
theorem mcK5 : mcK 5 RX5 TX5 5 := ⟨rfl, wcX5, tyX5_ok, nmX5⟩
theorem mcK6 : mcK 6 RX6 TX6 5 := ⟨rfl, wcX6, tyX6_ok, nmX6⟩
theorem mcK7 : mcK 7 RX7 TX7 11 := ⟨rfl, wcX7, tyX7_ok, nmX7⟩
theorem mcK8 : mcK 8 RX8 TX8 13 := ⟨rfl, wcX8, tyX8_ok, nmX8⟩
theorem mcK9 : mcK 9 RX9 TX9 27 := ⟨rfl, wcX9, tyX9_ok, nmX9⟩
def mfl (own : String) (idx ci k : Nat) : Prop := ∃ (C : String) (T : u_T) (N : Nat), mcK ci C T N ∧ k < N ∧ Cond.fieldLink own idx (T k).1 (T k).2.1 (T k).2.2.1 ∈ mg
def mfw (own : String) (idx ci k : Nat) : Prop := ∃ (C : String) (T : u_T) (N : Nat), mcK ci C T N ∧ k < N ∧ Cond.fieldLink own idx (T k).1 (T k).2.1 (T k).2.2.1 ∈ mg ∧ (T k).2.2.2 = false
theorem map_set {α : Type} (n k : Nat) (f g : Nat → α) (h : ∀ j, j ≠ k → g j = f j) : ((List.range n).map f).set k (g k) = (List.range n).map g := by
  apply List.ext_getElem?
  intro i
  by_cases hi : i = k
  · subst hi
    by_cases hl : i < n
    · rw [List.getElem?_set_self (by simpa using hl)]
      simp [hl]
    · rw [List.getElem?_eq_none (by simpa using hl), List.getElem?_eq_none (by simpa using hl)]
  · rw [List.getElem?_set_ne (Ne.symm hi)]
    simp only [List.getElem?_map]
    by_cases hl : i < n
    · simp [hl, h i hi]
    · rw [List.getElem?_eq_none (by simpa using hl)]
      rfl
theorem hset_at {h : mH} {a i : Nat} {v : Int} : hset h a i v a i = v := by simp [hset]
theorem hset_nj {h : mH} {a i b j : Nat} {v : Int} (hj : j ≠ i) : hset h a i v b j = h b j := by simp [hset, hj]
theorem mcell_o {cA : Nat → ClassId} {ρ : Nat → Nat} {r : List (List Nat)} {h : mH} {a ci n : Nat} (hc : ci < 10) : mcell cA ρ r h a (ci, n) = .inr (ci, (List.range n).map (mfld ρ r h ci a)) := if_pos hc
section MR
variable {l : Launch} {mt : mT} {d : Nat} {b : Nat × Nat} {pc i : Nat} {ls : List (Option mV)} {st : List mV} {S : mS} {r : List (List Nat)} {h : mH} {M : mM} {Q : Option mV → mM → Prop} {x y n : Int} {a a' ci k N idx : Nat}
theorem WP_get {v : mV} (hd : mcd mt pc = some (.getfield idx, 3)) (hf : mfl mt.1.cls idx ci k) (hS : M.1[a]? = some (ci, N)) (hk : k < N) (hv : ∀ ρ sa : Nat → Nat, mfld ρ M.2.1 M.2.2 ci a k = mcv ρ sa v) (hok : mOK M → mok v) (kk : WP l mt d b (pc + 3) ls (v :: st) M Q) : WP l mt d b pc ls (.inr (.inr (.inl a)) :: st) M Q := by
  intro D cA sa p e R s m args below meth c A ρ0 n0 hC ρ L H locs cells slots hR
  obtain ⟨g1, g2, g3, g4, g5, g6, g7, g8, g9, g10⟩ := hR
  obtain ⟨C, T, N', ⟨c1, c2, c3, c4⟩, f1, f2⟩ := hf
  have he := mW_at (cA := cA) (ρ := ρ) hS
  rw [mcell_o (mcl_lt c1)] at he
  refine va_get (v := mcv ρ sa v) hC.1 hC.2.1 hC.wds (fun w hw => List.mem_cons_of_mem _ (c2 w hw)) hC.own hC.K g5 a he c1 k f1 (hC.wd f2) (fun _ z => z) ?_ (hC.dec hd) (kk D cA sa p e R s m args below meth c A ρ0 n0 hC ρ L H locs cells slots ⟨g1, g2, g3, okc (hok g8) (okt g4), g5, g6, g7, g8, g9, g10⟩)
  rw [List.getElem?_map, List.getElem?_range hk, ← hv ρ sa]
  rfl
theorem WP_getI (hd : mcd mt pc = some (.getfield idx, 3)) (hf : mfl mt.1.cls idx ci k) (hS : S[a]? = some (ci, N)) (hk : k < N) (hc : ci < 10) (hty : mty ci k = .int ∨ mty ci k = .boolean) (kk : WP l mt d b (pc + 3) ls (.inl (h a k) :: st) (S, r, h) Q) : WP l mt d b pc ls (.inr (.inr (.inl a)) :: st) (S, r, h) Q := by
  refine WP_get hd hf hS hk (fun ρ sa => ?_) (fun hO => ?_) kk
  · unfold mfld
    rcases hty with e | e <;> rw [e] <;> rfl
  · have h1 : mrg ci k (h a k) := hO a _ hS k
    have hne : ¬ (ci = 11 ∨ (ci < 10 ∧ mty ci k = .long)) := by
      rintro (z | ⟨-, z⟩)
      · omega
      · rcases hty with e | e <;> rw [e] at z <;> cases z
    unfold mrg at h1
    rw [if_neg hne] at h1
    exact h1
theorem WP_getL (hd : mcd mt pc = some (.getfield idx, 3)) (hf : mfl mt.1.cls idx ci k) (hS : S[a]? = some (ci, N)) (hk : k < N) (hc : ci < 10) (hty : mty ci k = .long) (kk : WP l mt d b (pc + 3) ls (.inr (.inl (h a k)) :: st) (S, r, h) Q) : WP l mt d b pc ls (.inr (.inr (.inl a)) :: st) (S, r, h) Q := by
  refine WP_get hd hf hS hk (fun ρ sa => ?_) (fun hO => ?_) kk
  · unfold mfld
    rw [hty]; rfl
  · have h1 : mrg ci k (h a k) := hO a _ hS k
    unfold mrg at h1
    rw [if_pos (Or.inr ⟨hc, hty⟩)] at h1
    exact h1
def mrty (t : FieldType) : Bool := match t with
  | .int => false
  | .boolean => false
  | .long => false
  | _ => true
theorem WP_getR (hd : mcd mt pc = some (.getfield idx, 3)) (hf : mfl mt.1.cls idx ci k) (hS : S[a]? = some (ci, N)) (hk : k < N) (hty : mrty (mty ci k) = true) (hr : (r.getD a []).getD k 0 = a' + 1) (kk : WP l mt d b (pc + 3) ls (.inr (.inr (.inl a')) :: st) (S, r, h) Q) : WP l mt d b pc ls (.inr (.inr (.inl a)) :: st) (S, r, h) Q := by
  refine WP_get (v := .inr (.inr (.inl a'))) hd hf hS hk (fun ρ sa => ?_) (fun _ => trivial) kk
  unfold mfld
  cases e : mty ci k <;> rw [e] at hty <;> first | (cases hty; done) | (simp only [mref]; show va_rf (match (r.getD a []).getD k 0 with | 0 => none | b + 1 => some (ρ b)) = _; rw [hr]; rfl)
/-- what a write leaves -/
theorem mRl.put {D : va_G} {cA sa : Nat → Nat} {A : Nat → Prop} {s : State} {R : Room} {ρ0 ρ : Nat → Nat} {n0 : Nat} {L : Array Slot} {H H1 : Heap} {locs locs1 : List Loc} {cells slots : Nat} {st' : List mV} {q : Nat × Nat} {v : Int} {e : va_E}
    (hR : mRl mt D cA sa A s R ρ0 n0 b ρ L H locs cells slots ls st (S, r, h)) (hS : S[a]? = some q) (hv : mrg q.1 i v) (hst : ∀ w ∈ st', mok w) (he : e = mcell cA ρ r (hset h a i v) a q)
    (hP : va_P D mcl ((mW cA ρ (S, r, h)).set a (ρ a, e)) H1) (hD : va_D A ((mW cA ρ (S, r, h)).set a (ρ a, e))) (hS1 : va_S A s.heap H1 locs1) : mRl mt D cA sa A s R ρ0 n0 b ρ L H1 locs1 cells slots ls st' (S, r, hset h a i v) := by
  obtain ⟨g1, g2, g3, g4, g5, g6, g7, g8, g9, g10⟩ := hR
  have ew : (mW cA ρ (S, r, h)).set a (ρ a, e) = mW cA ρ (S, r, hset h a i v) := mW_set (M := (S, r, h)) (M' := (S, r, hset h a i v)) rfl hS (fun b' hb q' => mcell_h (hset_ne hb) q') he
  rw [ew] at hP hD
  exact ⟨g1, g2, g3, hst, hP, hD, hS1, mOK_set g8 (fun q' hq' => by have : some q = some q' := hS.symm.trans hq'; cases this; exact hv), g9, g10⟩
theorem mfld_set {ρ : Nat → Nat} {v : Int} : ∀ j, j ≠ k → mfld ρ r (hset h a k v) ci a j = mfld ρ r h ci a j := fun j hj => by
  unfold mfld
  rw [hset_nj hj]
theorem WP_put {v : mV} (hd : mcd mt pc = some (.putfield idx, 3)) (hf : mfw mt.1.cls idx ci k) (hS : S[a]? = some (ci, N)) (hk : k < N) (hv : ∀ ρ sa : Nat → Nat, mfld ρ r (hset h a k x) ci a k = mcv ρ sa v) (hn : ∀ ρ sa : Nat → Nat, narrow (mty ci k) (mcv ρ sa v) = mcv ρ sa v) (hfit : ∀ ρ sa : Nat → Nat, fits (mty ci k) (mcv ρ sa v) = true) (hok : mok v → mrg ci k x) (kk : WP l mt d b (pc + 3) ls st (S, r, hset h a k x) Q) : WP l mt d b pc ls (v :: .inr (.inr (.inl a)) :: st) (S, r, h) Q := by
  intro D cA sa p e R s m args below meth c A ρ0 n0 hC ρ L H locs cells slots hR
  have hR0 := hR
  obtain ⟨g1, g2, g3, g4, g5, g6, g7, g8, g9, g10⟩ := hR
  obtain ⟨C, T, N', ⟨c1, c2, c3, c4⟩, f1, f2, f3⟩ := hf
  have he := mW_at (M := (S, r, h)) (cA := cA) (ρ := ρ) hS
  rw [mcell_o (mcl_lt c1)] at he
  refine va_put (ty := mty ci k) (v := mcv ρ sa v) hC.1 hC.2.1 hC.wds (fun w hw => List.mem_cons_of_mem _ (c2 w hw)) (mty ci) c3 c4 hC.own hC.K g5 g6 g7 a he c1 k f1 (hC.wd f2) (fun _ z => z) f3 (c3 k f1) (hn ρ sa) (hfit ρ sa) (by simpa using hk) (hC.dec hd) (fun H1 locs1 hP hD hS1 => ?_)
  refine kk D cA sa p e R s m args below meth c A ρ0 n0 hC ρ L H1 locs1 cells slots (hR0.put hS (hok (okh g4)) (okt (okt g4)) ?_ hP hD hS1)
  rw [mcell_o (mcl_lt c1), ← hv ρ sa, map_set N k (mfld ρ r h ci a) (mfld ρ r (hset h a k x) ci a) mfld_set]
theorem WP_putI (hd : mcd mt pc = some (.putfield idx, 3)) (hf : mfw mt.1.cls idx ci k) (hS : S[a]? = some (ci, N)) (hk : k < N) (hty : mty ci k = .int) (hc : ci < 10) (kk : WP l mt d b (pc + 3) ls st (S, r, hset h a k x) Q) : WP l mt d b pc ls (.inl x :: .inr (.inr (.inl a)) :: st) (S, r, h) Q := by
  refine WP_put hd hf hS hk (fun ρ sa => ?_) (fun ρ sa => ?_) (fun ρ sa => ?_) (fun hx => ?_) kk
  · unfold mfld; rw [hty, hset_at]; rfl
  · rw [hty]; rfl
  · rw [hty]; rfl
  · unfold mrg
    rw [if_neg (by rintro (z | ⟨-, z⟩); (· omega); (· rw [hty] at z; cases z))]
    exact hx
theorem WP_putL (hd : mcd mt pc = some (.putfield idx, 3)) (hf : mfw mt.1.cls idx ci k) (hS : S[a]? = some (ci, N)) (hk : k < N) (hty : mty ci k = .long) (hc : ci < 10) (kk : WP l mt d b (pc + 3) ls st (S, r, hset h a k x) Q) : WP l mt d b pc ls (.inr (.inl x) :: .inr (.inr (.inl a)) :: st) (S, r, h) Q := by
  refine WP_put hd hf hS hk (fun ρ sa => ?_) (fun ρ sa => ?_) (fun ρ sa => ?_) (fun hx => ?_) kk
  · unfold mfld; rw [hty, hset_at]; rfl
  · rw [hty]; rfl
  · rw [hty]; rfl
  · unfold mrg
    rw [if_pos (Or.inr ⟨hc, hty⟩)]
    exact hx
theorem WP_putZ (hd : mcd mt pc = some (.putfield idx, 3)) (hf : mfw mt.1.cls idx ci k) (hS : S[a]? = some (ci, N)) (hk : k < N) (hty : mty ci k = .boolean) (hc : ci < 10) (h01 : x = 0 ∨ x = 1) (kk : WP l mt d b (pc + 3) ls st (S, r, hset h a k x) Q) : WP l mt d b pc ls (.inl x :: .inr (.inr (.inl a)) :: st) (S, r, h) Q := by
  refine WP_put hd hf hS hk (fun ρ sa => ?_) (fun ρ sa => ?_) (fun ρ sa => ?_) (fun hx => ?_) kk
  · unfold mfld; rw [hty, hset_at]; rfl
  · rw [hty]; rcases h01 with rfl | rfl <;> rfl
  · rw [hty]; rcases h01 with rfl | rfl <;> rfl
  · unfold mrg
    rw [if_neg (by rintro (z | ⟨-, z⟩); (· omega); (· rw [hty] at z; cases z))]
    exact hx
/-! arrays -/
theorem mcell_i {cA : Nat → ClassId} {ρ : Nat → Nat} : mcell cA ρ r h a (10, N) = .inl (cA 10, N, .inl (fun j => Int32.ofInt (h a j))) := rfl
theorem mcell_l {cA : Nat → ClassId} {ρ : Nat → Nat} : mcell cA ρ r h a (11, N) = .inl (cA 11, N, .inr (.inl (fun j => Int64.ofInt (h a j)))) := rfl
theorem mcell_c {cA : Nat → ClassId} {ρ : Nat → Nat} : mcell cA ρ r h a (12, N) = .inl (cA 12, N, .inl (fun j => Int32.ofInt (h a j))) := rfl
theorem mcell_z {cA : Nat → ClassId} {ρ : Nat → Nat} : mcell cA ρ r h a (13, N) = .inl (cA 13, N, .inl (fun j => Int32.ofInt (h a j))) := rfl
theorem upd_h {v : Int} : upd (fun j => Int32.ofInt (h a j)) k (Int32.ofInt v) = fun j => Int32.ofInt (hset h a k v a j) := by
  funext j
  by_cases e : j = k
  · subst e; simp [upd, hset_at]
  · simp [upd, e, hset_nj e]
theorem updL_h {v : Int} : vp_updL (fun j => Int64.ofInt (h a j)) k (Int64.ofInt v) = fun j => Int64.ofInt (hset h a k v a j) := by
  funext j
  by_cases e : j = k
  · subst e; simp [vp_updL, hset_at]
  · simp [vp_updL, e, hset_nj e]
theorem rgI {kd j : Nat} (hk : 10 ≤ kd) (hn : kd ≠ 11) : mrg kd j x ↔ inI x := by
  unfold mrg
  rw [if_neg (by rintro (z | ⟨z, -⟩) <;> omega)]
theorem rgL {j : Nat} : mrg 11 j x ↔ inL x := by
  unfold mrg
  rw [if_pos (Or.inl rfl)]
theorem WP_iald (hd : mcd mt pc = some (.iaload, 1)) (hS : S[a]? = some (10, N)) (h0 : 0 ≤ x) (h1 : x < N) (kk : WP l mt d b (pc + 1) ls (.inl (h a x.toNat) :: st) (S, r, h) Q) : WP l mt d b pc ls (.inl x :: .inr (.inr (.inl a)) :: st) (S, r, h) Q := by
  intro D cA sa p e R s m args below meth c A ρ0 n0 hC ρ L H locs cells slots hR
  obtain ⟨g1, g2, g3, g4, g5, g6, g7, g8, g9, g10⟩ := hR
  have hx : inI x := okh g4
  refine va_iald (cA := cA 10) hC.1 hC.2.1 hC.K g5 a 0 (mW_at (M := (S, r, h)) hS) rfl (inI_vp h0 h1 hx) (hC.dec hd) ?_
  rw [inI_cl hx]
  exact kk D cA sa p e R s m args below meth c A ρ0 n0 hC ρ L H locs cells slots ⟨g1, g2, g3, okc ((rgI (by simp) (by simp)).mp (g8 a _ hS _)) (okt (okt g4)), g5, g6, g7, g8, g9, g10⟩
theorem WP_cald (hd : mcd mt pc = some (.caload, 1)) (hS : S[a]? = some (12, N)) (h0 : 0 ≤ x) (h1 : x < N) (kk : WP l mt d b (pc + 1) ls (.inl (h a x.toNat) :: st) (S, r, h) Q) : WP l mt d b pc ls (.inl x :: .inr (.inr (.inl a)) :: st) (S, r, h) Q := by
  intro D cA sa p e R s m args below meth c A ρ0 n0 hC ρ L H locs cells slots hR
  obtain ⟨g1, g2, g3, g4, g5, g6, g7, g8, g9, g10⟩ := hR
  have hx : inI x := okh g4
  refine va_cald (cA := cA 12) hC.1 hC.2.1 hC.K g5 a 2 (mW_at (M := (S, r, h)) hS) rfl (inI_vp h0 h1 hx) (hC.dec hd) ?_
  rw [inI_cl hx]
  exact kk D cA sa p e R s m args below meth c A ρ0 n0 hC ρ L H locs cells slots ⟨g1, g2, g3, okc ((rgI (by simp) (by simp)).mp (g8 a _ hS _)) (okt (okt g4)), g5, g6, g7, g8, g9, g10⟩
theorem WP_zald (hd : mcd mt pc = some (.baload, 1)) (hS : S[a]? = some (13, N)) (h0 : 0 ≤ x) (h1 : x < N) (kk : WP l mt d b (pc + 1) ls (.inl (h a x.toNat) :: st) (S, r, h) Q) : WP l mt d b pc ls (.inl x :: .inr (.inr (.inl a)) :: st) (S, r, h) Q := by
  intro D cA sa p e R s m args below meth c A ρ0 n0 hC ρ L H locs cells slots hR
  obtain ⟨g1, g2, g3, g4, g5, g6, g7, g8, g9, g10⟩ := hR
  have hx : inI x := okh g4
  refine va_zald (cA := cA 13) hC.1 hC.2.1 hC.K g5 a 3 (mW_at (M := (S, r, h)) hS) rfl (inI_vp h0 h1 hx) (hC.dec hd) ?_
  rw [inI_cl hx]
  exact kk D cA sa p e R s m args below meth c A ρ0 n0 hC ρ L H locs cells slots ⟨g1, g2, g3, okc ((rgI (by simp) (by simp)).mp (g8 a _ hS _)) (okt (okt g4)), g5, g6, g7, g8, g9, g10⟩
theorem WP_lald (hd : mcd mt pc = some (.laload, 1)) (hS : S[a]? = some (11, N)) (h0 : 0 ≤ x) (h1 : x < N) (kk : WP l mt d b (pc + 1) ls (.inr (.inl (h a x.toNat)) :: st) (S, r, h) Q) : WP l mt d b pc ls (.inl x :: .inr (.inr (.inl a)) :: st) (S, r, h) Q := by
  intro D cA sa p e R s m args below meth c A ρ0 n0 hC ρ L H locs cells slots hR
  obtain ⟨g1, g2, g3, g4, g5, g6, g7, g8, g9, g10⟩ := hR
  have hx : inI x := okh g4
  refine va_lald (cA := cA 11) hC.1 hC.2.1 hC.K g5 a 1 (mW_at (M := (S, r, h)) hS) rfl (inI_vp h0 h1 hx) (hC.dec hd) ?_
  rw [inI_cl hx]
  exact kk D cA sa p e R s m args below meth c A ρ0 n0 hC ρ L H locs cells slots ⟨g1, g2, g3, okc (rgL.mp (g8 a _ hS _)) (okt (okt g4)), g5, g6, g7, g8, g9, g10⟩
theorem WP_iast (hd : mcd mt pc = some (.iastore, 1)) (hS : S[a]? = some (10, N)) (h0 : 0 ≤ x) (h1 : x < N) (kk : WP l mt d b (pc + 1) ls st (S, r, hset h a x.toNat y) Q) : WP l mt d b pc ls (.inl y :: .inl x :: .inr (.inr (.inl a)) :: st) (S, r, h) Q := by
  intro D cA sa p e R s m args below meth c A ρ0 n0 hC ρ L H locs cells slots hR
  have hR0 := hR
  obtain ⟨g1, g2, g3, g4, g5, g6, g7, g8, g9, g10⟩ := hR
  have hx : inI x := okh (okt g4)
  refine va_iast (cA := cA 10) hC.1 hC.2.1 hC.K g5 g6 g7 a 0 (mW_at (M := (S, r, h)) hS) rfl (inI_vp h0 h1 hx) (hC.dec hd) (fun H1 locs1 hP hD hS1 => ?_)
  rw [inI_cl hx, upd_h] at hP hD
  exact kk D cA sa p e R s m args below meth c A ρ0 n0 hC ρ L H1 locs1 cells slots (hR0.put hS ((rgI (by simp) (by simp)).mpr (okh g4)) (okt (okt (okt g4))) rfl hP hD hS1)
theorem WP_last (hd : mcd mt pc = some (.lastore, 1)) (hS : S[a]? = some (11, N)) (h0 : 0 ≤ x) (h1 : x < N) (kk : WP l mt d b (pc + 1) ls st (S, r, hset h a x.toNat y) Q) : WP l mt d b pc ls (.inr (.inl y) :: .inl x :: .inr (.inr (.inl a)) :: st) (S, r, h) Q := by
  intro D cA sa p e R s m args below meth c A ρ0 n0 hC ρ L H locs cells slots hR
  have hR0 := hR
  obtain ⟨g1, g2, g3, g4, g5, g6, g7, g8, g9, g10⟩ := hR
  have hx : inI x := okh (okt g4)
  refine va_last (cA := cA 11) hC.1 hC.2.1 hC.K g5 g6 g7 a 1 (mW_at (M := (S, r, h)) hS) rfl (inI_vp h0 h1 hx) (hC.dec hd) (fun H1 locs1 hP hD hS1 => ?_)
  rw [inI_cl hx, updL_h] at hP hD
  exact kk D cA sa p e R s m args below meth c A ρ0 n0 hC ρ L H1 locs1 cells slots (hR0.put hS (rgL.mpr (okh g4)) (okt (okt (okt g4))) rfl hP hD hS1)
theorem WP_zast (hd : mcd mt pc = some (.bastore, 1)) (hS : S[a]? = some (13, N)) (h0 : 0 ≤ x) (h1 : x < N) (h01 : y = 0 ∨ y = 1) (kk : WP l mt d b (pc + 1) ls st (S, r, hset h a x.toNat y) Q) : WP l mt d b pc ls (.inl y :: .inl x :: .inr (.inr (.inl a)) :: st) (S, r, h) Q := by
  intro D cA sa p e R s m args below meth c A ρ0 n0 hC ρ L H locs cells slots hR
  have hR0 := hR
  obtain ⟨g1, g2, g3, g4, g5, g6, g7, g8, g9, g10⟩ := hR
  have hx : inI x := okh (okt g4)
  refine va_zast (cA := cA 13) hC.1 hC.2.1 hC.K g5 g6 g7 a 3 (mW_at (M := (S, r, h)) hS) rfl (inI_vp h0 h1 hx) (hC.dec hd) (fun H1 locs1 hP hD hS1 => ?_)
  have ey : vp_nar .boolean (Int32.ofInt y) = Int32.ofInt y := by rcases h01 with rfl | rfl <;> rfl
  rw [inI_cl hx, ey, upd_h] at hP hD
  exact kk D cA sa p e R s m args below meth c A ρ0 n0 hC ρ L H1 locs1 cells slots (hR0.put hS ((rgI (by simp) (by simp)).mpr (okh g4)) (okt (okt (okt g4))) rfl hP hD hS1)
theorem jchr_of : Int32.ofInt (jchr x) = vp_nar .char (Int32.ofInt x) := by
  rw [vp_nar_char]
  unfold jchr
  rw [Int32.ofInt_toInt]
  congr 1
theorem WP_cast (hd : mcd mt pc = some (.castore, 1)) (hS : S[a]? = some (12, N)) (h0 : 0 ≤ x) (h1 : x < N) (kk : WP l mt d b (pc + 1) ls st (S, r, hset h a x.toNat (jchr y)) Q) : WP l mt d b pc ls (.inl y :: .inl x :: .inr (.inr (.inl a)) :: st) (S, r, h) Q := by
  intro D cA sa p e R s m args below meth c A ρ0 n0 hC ρ L H locs cells slots hR
  have hR0 := hR
  obtain ⟨g1, g2, g3, g4, g5, g6, g7, g8, g9, g10⟩ := hR
  have hx : inI x := okh (okt g4)
  refine va_cast (cA := cA 12) hC.1 hC.2.1 hC.K g5 g6 g7 a 2 (mW_at (M := (S, r, h)) hS) rfl (inI_vp h0 h1 hx) (hC.dec hd) (fun H1 locs1 hP hD hS1 => ?_)
  rw [inI_cl hx, ← jchr_of, upd_h] at hP hD
  exact kk D cA sa p e R s m args below meth c A ρ0 n0 hC ρ L H1 locs1 cells slots (hR0.put hS ((rgI (by simp) (by simp)).mpr (inI_of _)) (okt (okt (okt g4))) rfl hP hD hS1)
theorem WP_alen (hd : mcd mt pc = some (.arraylength, 1)) (hS : S[a]? = some (10, N)) (hN : N ≤ 2147483647) (kk : WP l mt d b (pc + 1) ls (.inl (N : Int) :: st) (S, r, h) Q) : WP l mt d b pc ls (.inr (.inr (.inl a)) :: st) (S, r, h) Q := by
  intro D cA sa p e R s m args below meth c A ρ0 n0 hC ρ L H locs cells slots hR
  obtain ⟨g1, g2, g3, g4, g5, g6, g7, g8, g9, g10⟩ := hR
  exact va_alen (cA := cA 10) (v := Int32.ofInt (N : Int)) hC.1 hC.2.1 hC.K g5 a 0 (mW_at (M := (S, r, h)) hS) rfl Int32.ofInt_eq_ofNat.symm (hC.dec hd) (kk D cA sa p e R s m args below meth c A ρ0 n0 hC ρ L H locs cells slots ⟨g1, g2, g3, okc (show inI (N : Int) from ⟨by omega, by omega⟩) (okt g4), g5, g6, g7, g8, g9, g10⟩)
theorem WP_llen (hd : mcd mt pc = some (.arraylength, 1)) (hS : S[a]? = some (11, N)) (hN : N ≤ 2147483647) (kk : WP l mt d b (pc + 1) ls (.inl (N : Int) :: st) (S, r, h) Q) : WP l mt d b pc ls (.inr (.inr (.inl a)) :: st) (S, r, h) Q := by
  intro D cA sa p e R s m args below meth c A ρ0 n0 hC ρ L H locs cells slots hR
  obtain ⟨g1, g2, g3, g4, g5, g6, g7, g8, g9, g10⟩ := hR
  exact va_alen (cA := cA 11) (v := Int32.ofInt (N : Int)) hC.1 hC.2.1 hC.K g5 a 1 (mW_at (M := (S, r, h)) hS) rfl Int32.ofInt_eq_ofNat.symm (hC.dec hd) (kk D cA sa p e R s m args below meth c A ρ0 n0 hC ρ L H locs cells slots ⟨g1, g2, g3, okc (show inI (N : Int) from ⟨by omega, by omega⟩) (okt g4), g5, g6, g7, g8, g9, g10⟩)
theorem mcell_r {cA : Nat → ClassId} {ρ : Nat → Nat} (hc : 14 ≤ ci) : mcell cA ρ r h a (ci, N) = .inl (cA ci, N, .inr (.inr (.inr (.inr (fun j => mref ρ r a j))))) := by
  unfold mcell
  rw [if_neg (by show ¬ ci < 10; omega), if_neg (by show ¬ ci = 11; omega), if_neg (by show ¬ ci < 14; omega)]
theorem WP_aald {ty : FieldType} (hd : mcd mt pc = some (.aaload, 1)) (hS : S[a]? = some (ci, N)) (hc : 14 ≤ ci) (hty : ∀ cA, (mtys cA)[ci - 10]? = some (cA ci, ty)) (hrf : ty.isReference = true) (h0 : 0 ≤ x) (h1 : x < N) (hr : (r.getD a []).getD x.toNat 0 = a' + 1) (kk : WP l mt d b (pc + 1) ls (.inr (.inr (.inl a')) :: st) (S, r, h) Q) : WP l mt d b pc ls (.inl x :: .inr (.inr (.inl a)) :: st) (S, r, h) Q := by
  intro D cA sa p e R s m args below meth c A ρ0 n0 hC ρ L H locs cells slots hR
  obtain ⟨g1, g2, g3, g4, g5, g6, g7, g8, g9, g10⟩ := hR
  have hx : inI x := okh g4
  have ha := mW_at (M := (S, r, h)) (cA := cA) (ρ := ρ) hS
  rw [mcell_r hc] at ha
  have hin : vp_in (Int32.ofInt x) N := inI_vp h0 h1 hx
  have hlt : (Int32.ofInt x).toNatClampNeg < N := Nat.not_le.mp fun q => hin (Or.inr q)
  refine W.aald (v := va_rf (mref ρ r a (Int32.ofInt x).toNatClampNeg)) (ty := ty) hC.1 hC.2.1 (g5 a _ ha) ((hC.K.2 (ci - 10) _ (hty cA)).1 N (fun j => va_rf (mref ρ r a j))) hrf (fun q => by cases q) (by show ¬ (Int32.ofInt x < 0 ∨ (arrV _ _ _).slots.size ≤ _); rw [arrV_size]; exact hin) (by show (arrV _ _ _).slots[_]? = _; rw [arrV_read _ _ hlt]) rfl rfl (hC.dec hd) ?_
  have er : va_rf (mref ρ r a (Int32.ofInt x).toNatClampNeg) = .ref (ρ a') := by
    rw [inI_cl hx]
    unfold mref
    rw [hr]
    rfl
  rw [er]
  exact kk D cA sa p e R s m args below meth c A ρ0 n0 hC ρ L H locs cells slots ⟨g1, g2, g3, okc (v := .inr (.inr (.inl a'))) trivial (okt (okt g4)), g5, g6, g7, g8, g9, g10⟩
theorem mLn_in (j : Nat) : inL (mLn.getD j 0) := by
  by_cases hj : j < 6
  · have : ∀ j : Fin 6, -9223372036854775808 ≤ mLn.getD j.val 0 ∧ mLn.getD j.val 0 ≤ 9223372036854775807 := by decide
    exact this ⟨j, hj⟩
  · rw [List.getD_eq_getElem?_getD, List.getElem?_eq_none (by show 6 ≤ j; omega)]
    exact ⟨by decide, by decide⟩
theorem WP_lanes (hd : mcd mt pc = some (.getstatic idx, 3)) (hw : Cond.fieldLink mt.1.cls idx "MondayDeal$Outlook" "LANES" "[J" ∈ mg) (kk : WP l mt d b (pc + 3) ls (.inr (.inr (.inr 13)) :: st) M Q) : WP l mt d b pc ls st M Q := by
  intro D cA sa p e R s m args below meth c A ρ0 n0 hC ρ L H locs cells slots hR
  obtain ⟨g1, g2, g3, g4, g5, g6, g7, g8, g9, g10⟩ := hR
  exact va_gets hC.1 hC.2.1 hC.en.2.2.2.2.2.2.2.2.2.1 g7 hC.own (hC.wd hw) (fun _ z => z) (hC.dec hd) (kk D cA sa p e R s m args below meth c A ρ0 n0 hC ρ L H locs cells slots ⟨g1, g2, g3, okc (v := .inr (.inr (.inr 13))) trivial g4, g5, g6, g7, g8, g9, g10⟩)
theorem WP_lnld (hd : mcd mt pc = some (.laload, 1)) (h0 : 0 ≤ x) (h1 : x < 6) (kk : WP l mt d b (pc + 1) ls (.inr (.inl (mLn.getD x.toNat 0)) :: st) M Q) : WP l mt d b pc ls (.inl x :: .inr (.inr (.inr 13)) :: st) M Q := by
  intro D cA sa p e R s m args below meth c A ρ0 n0 hC ρ L H locs cells slots hR
  obtain ⟨g1, g2, g3, g4, g5, g6, g7, g8, g9, g10⟩ := hR
  have hx : inI x := okh g4
  exact va_tl hC.1 hC.2.1 hC.en.2.2.2.2.2.2.2.2.2.2 g7 (inI_vp h0 h1 hx) (by rw [inI_cl hx]; rfl) (hC.dec hd) (kk D cA sa p e R s m args below meth c A ρ0 n0 hC ρ L H locs cells slots ⟨g1, g2, g3, okc (mLn_in _) (okt (okt g4)), g5, g6, g7, g8, g9, g10⟩)
/-! returns -/
theorem WP_iret (hd : mcd mt pc = some (.ireturn, 1)) (hr : mt.2.2.2.1 = some .int) (hq : Q (some (.inl x)) M) : WP l mt d b pc ls [.inl x] M Q := by
  intro D cA sa p e R s m args below meth c A ρ0 n0 hC ρ L H locs cells slots hR
  obtain ⟨g1, g2, g3, g4, g5, g6, g7, g8, g9, g10⟩ := hR
  have hk := hC.2.2.2.1
  refine W.widen (k := R.cells) (n := R.slots) (by omega) (by omega) ?_
  exact W.iret hC.1 hC.2.1 (hC.2.2.1.trans hr) (fun t ht hW => ⟨⟨some (.inl x), M, ρ, g1, g2, rfl, hq, g8, fun y hy => by cases hy; exact okh g4, by rw [ht]; exact g5, g6⟩, g7.F ht⟩) g7.2.2 (hC.dec hd)
theorem WP_zret (hd : mcd mt pc = some (.ireturn, 1)) (hr : mt.2.2.2.1 = some .boolean) (h01 : x = 0 ∨ x = 1) (hq : Q (some (.inl x)) M) : WP l mt d b pc ls [.inl x] M Q := by
  intro D cA sa p e R s m args below meth c A ρ0 n0 hC ρ L H locs cells slots hR
  obtain ⟨g1, g2, g3, g4, g5, g6, g7, g8, g9, g10⟩ := hR
  have hk := hC.2.2.2.1
  refine W.widen (k := R.cells) (n := R.slots) (by omega) (by omega) ?_
  exact W.zret hC.1 hC.2.1 (hC.2.2.1.trans hr) (by rcases h01 with rfl | rfl <;> rfl) (fun t ht hW => ⟨⟨some (.inl x), M, ρ, g1, g2, rfl, hq, g8, fun y hy => by cases hy; exact okh g4, by rw [ht]; exact g5, g6⟩, g7.F ht⟩) g7.2.2 (hC.dec hd)
theorem WP_lret (hd : mcd mt pc = some (.lreturn, 1)) (hr : mt.2.2.2.1 = some .long) (hq : Q (some (.inr (.inl x))) M) : WP l mt d b pc ls [.inr (.inl x)] M Q := by
  intro D cA sa p e R s m args below meth c A ρ0 n0 hC ρ L H locs cells slots hR
  obtain ⟨g1, g2, g3, g4, g5, g6, g7, g8, g9, g10⟩ := hR
  have hk := hC.2.2.2.1
  refine W.widen (k := R.cells) (n := R.slots) (by omega) (by omega) ?_
  exact W.lret hC.1 hC.2.1 (hC.2.2.1.trans hr) (fun t ht hW => ⟨⟨some (.inr (.inl x)), M, ρ, g1, g2, rfl, hq, g8, fun y hy => by cases hy; exact okh g4, by rw [ht]; exact g5, g6⟩, g7.F ht⟩) g7.2.2 (hC.dec hd)
theorem WP_aret {C : String} (hd : mcd mt pc = some (.areturn, 1)) (hr : mt.2.2.2.1 = some (.object C)) (hq : Q (some (.inr (.inr (.inl a)))) M) : WP l mt d b pc ls [.inr (.inr (.inl a))] M Q := by
  intro D cA sa p e R s m args below meth c A ρ0 n0 hC ρ L H locs cells slots hR
  obtain ⟨g1, g2, g3, g4, g5, g6, g7, g8, g9, g10⟩ := hR
  have hk := hC.2.2.2.1
  refine W.widen (k := R.cells) (n := R.slots) (by omega) (by omega) ?_
  exact W.aret hC.1 hC.2.1 (hC.2.2.1.trans hr) (Or.inl ⟨C, rfl⟩) (Or.inr ⟨ρ a, rfl⟩) (fun t ht hW => ⟨⟨some (.inr (.inr (.inl a))), M, ρ, g1, g2, rfl, hq, g8, fun y hy => by cases hy; exact trivial, by rw [ht]; exact g5, g6⟩, g7.F ht⟩) g7.2.2 (hC.dec hd)
theorem WP_vret (hd : mcd mt pc = some (.return_, 1)) (hr : mt.2.2.2.1 = none) (hq : Q none M) : WP l mt d b pc ls [] M Q := by
  intro D cA sa p e R s m args below meth c A ρ0 n0 hC ρ L H locs cells slots hR
  obtain ⟨g1, g2, g3, g4, g5, g6, g7, g8, g9, g10⟩ := hR
  have hk := hC.2.2.2.1
  refine W.widen (k := R.cells) (n := R.slots) (by omega) (by omega) ?_
  exact W.vret hC.1 hC.2.1 (hC.2.2.1.trans hr) (fun t ht hW => ⟨⟨none, M, ρ, g1, g2, rfl, hq, g8, (fun y hy => by cases hy), by rw [ht]; exact g5, g6⟩, g7.F ht⟩) g7.2.2 (hC.dec hd)
end MR
end
section
/-! calls, and a contract out of a walk -/
theorem mg_good {w : Cond} (h : w ∈ mg) : goodWord w = true := (List.mem_filter.mp h).2
theorem mwy_good {mt mc : mT} (hc : Cond.code mc.1 mc.2.1 mc.2.2.1 mc.2.2.2.1 ∈ mg) : GoodIn (mwy mt) (mwy mc) := fun w hw => by
  rcases List.mem_cons.mp hw with rfl | hw
  · exact ⟨List.mem_cons_of_mem _ hc, good_of_word (mg_good hc)⟩
  · exact ⟨List.mem_cons_of_mem _ hw, good_of_word (mg_good hw)⟩
def mcw : mV → Nat
  | .inr (.inl _) => 2
  | _ => 1
theorem mcw_sum (ρ sa : Nat → Nat) : ∀ st : List mV, ((st.map (mcv ρ sa)).map fun v => v.category).sum = (st.map mcw).sum
  | [] => rfl
  | v :: st => by
    have ih := mcw_sum ρ sa st
    have e : (mcv ρ sa v).category = mcw v := by rcases v with x | x | x | x <;> rfl
    simp only [List.map_cons, List.sum_cons, ih, e]
theorem mcall {l : Launch} {D : va_G} {cA sa : Nat → Nat} {p : Program} {e : Env} {R : Room} {s : State} {m : MethodId} {args : Array Value} {below : List Frame} {meth : Method} {c : Code} {A : Nat → Prop} {ρ : Nat → Nat} {H : Heap} {locs : List Loc} {cells slots pc : Nat} {L : Array Slot} {st0 rest : List Value} {a : Array Value} {b1 : Nat × Nat} {M : mM} {Q1 : Option mV → mM → Prop} {Q' : State → Prop}
    (hr : va_Run p l e R s m args below meth c H locs cells slots b1.1 b1.2 (F0 m pc L st0) rest (mQc D cA sa ρ M.1.length (va_A (mW cA ρ M) H.size) Q1 a) (va_A (mW cA ρ M) H.size))
    (hS : va_S A s.heap H locs) (hF : ∀ q, va_A (mW cA ρ M) H.size q → A q)
    (kk : ∀ (v : Option mV) (M' : mM) (ρ' : Nat → Nat) (H1 : Heap) (locs1 : List Loc), ((∀ a, a < M.1.length → ρ' a = ρ a) ∧ (M'.1.length = M.1.length → ρ' = ρ)) → M.1.length ≤ M'.1.length → Q1 v M' → mOK M' → (∀ x, v = some x → mok x) → va_P D mcl (mW cA ρ' M') H1 → va_D A (mW cA ρ' M') → va_S A s.heap H1 locs1 → W p l e R s m args below meth c H1 locs1 (cells + b1.1) (slots + b1.2) Q' (F0 m (pc + 3) L ((v.map (mcv ρ' sa)).toList ++ rest))) :
    W p l e R s m args below meth c H locs cells slots Q' (F0 m pc L st0) := by
  intro T hT X
  obtain ⟨v, st₀, t, T', L', h0, X', hL, e1, e2, ⟨⟨v', M', ρ', k1, k2, k3, k4, k5, k6, k7, k8⟩, hz, hk⟩, st⟩ := hr T hT X
  cases k3
  rw [h0] at hz hk
  obtain ⟨t2, a1, b1⟩ := kk v' M' ρ' T'.heap (locs ++ L') k1 k2 k4 k5 k6 (by rw [e1]; exact k7) (k8.weaken (fun _ q _ h => hF q.1 h))
    ⟨Nat.le_trans hS.1 (by rw [e1]; exact hz), fun q h1 h2 => by rw [e1, hk q (Nat.lt_of_lt_of_le h1 hS.1) (fun z => h2 (hF q z))]; exact hS.2.1 q h1 h2, fun q hq => by
      rcases List.mem_append.mp hq with h | h
      · exact hS.2.2 q h
      · exact hF _ (hL q h)⟩ T' rfl X'
  exact ⟨t2, st t2 a1, b1⟩
theorem mfree {D : va_G} {cA : Nat → Nat} {s : State} {A : Nat → Prop} {ρ : Nat → Nat} {H : Heap} {locs : List Loc} {M : mM} (hD : va_D A (mW cA ρ M)) (hS : va_S A s.heap H locs) (hA : ∀ q, s.heap.size ≤ q → A q) : ∀ q, va_A (mW cA ρ M) H.size q → A q := fun q h => by
  rcases h with ⟨k, e, h⟩ | h
  · exact hD.2 k _ h
  · exact hA q (Nat.le_trans hS.1 h)
theorem mblind {D : va_G} {cA sa ρ : Nat → Nat} {M : mM} {as : List Value} {sz : Nat} {A : Nat → Prop} : FrameBlind (va_Pc as (fun U => U.heap.size = sz ∧ va_P D mcl (mW cA ρ M) U.heap ∧ mEn D cA sa A U U.heap ∧ va_D (fun _ => True) (mW cA ρ M))) := fun a U g mk q => by
  obtain ⟨q0, q1, q2, q3, q4⟩ := q
  exact ⟨q0, q1, q2, mEn.same (U := U.calling g mk a) rfl q3, q4⟩
theorem mpre {D : va_G} {cA sa ρ : Nat → Nat} {M : mM} {as : List Value} {A : Nat → Prop} {s : State} {H : Heap} {locs : List Loc} (hE : mEn D cA sa A s s.heap) (hP : va_P D mcl (mW cA ρ M) H) (hD : va_D A (mW cA ρ M)) (hS : va_S A s.heap H locs) (hF : ∀ q, va_A (mW cA ρ M) H.size q → A q) : ∀ U : State, U.heap = H → s.WarmedH U.vm → va_Pc as (fun U => U.heap.size = H.size ∧ va_P D mcl (mW cA ρ M) U.heap ∧ mEn D cA sa (va_A (mW cA ρ M) H.size) U U.heap ∧ va_D (fun _ => True) (mW cA ρ M)) as.toArray U := fun U hU hW =>
  ⟨rfl, by rw [hU], by rw [hU]; exact hP, by rw [hU]; exact mEn.warm hW ((hE.kept hS.2.1).narrow hF), hD.weaken (fun _ _ _ _ => trivial)⟩
section CR
variable {l : Launch} {mt mc : mT} {d : Nat} {b : Nat × Nat} {pc idx nA : Nat} {ls : List (Option mV)} {st st0 as : List mV} {M : mM} {Q Q1 : Option mV → mM → Prop}
theorem mcont {D : va_G} {cA sa : Nat → Nat} {p : Program} {e : Env} {R : Room} {s : State} {m : MethodId} {args : Array Value} {below : List Frame} {meth : Method} {c : Code} {A : Nat → Prop} {ρ ρ0 : Nat → Nat} {n0 : Nat} {H : Heap} {locs : List Loc} {cells slots : Nat} {L : Array Slot}
    (hC : mCx mt d D cA sa p R s m args meth c A) (hR : mRl mt D cA sa A s R ρ0 n0 b ρ L H locs cells slots ls st0 M) (hst : ∀ w ∈ st, mok w) (hlen : ∀ v M', Q1 v M' → M'.1.length = M.1.length) (kk : ∀ v M', Q1 v M' → WP l mt d b (pc + 3) ls (v.toList ++ st) M' Q) :
    ∀ (v : Option mV) (M' : mM) (ρ' : Nat → Nat) (H1 : Heap) (locs1 : List Loc), ((∀ a, a < M.1.length → ρ' a = ρ a) ∧ (M'.1.length = M.1.length → ρ' = ρ)) → M.1.length ≤ M'.1.length → Q1 v M' → mOK M' → (∀ x, v = some x → mok x) → va_P D mcl (mW cA ρ' M') H1 → va_D A (mW cA ρ' M') → va_S A s.heap H1 locs1 → W p l e R s m args below meth c H1 locs1 (cells + ((0, 0) : Nat × Nat).1) (slots + ((0, 0) : Nat × Nat).2) (MQ below (mQc D cA sa ρ0 n0 A Q) args s R.cells R.slots A) (F0 m (pc + 3) L ((v.map (mcv ρ' sa)).toList ++ st.map (mcv ρ sa))) := by
  intro v M' ρ' H1 locs1 k1 k2 k4 k5 k6 k7 k8 k9
  obtain ⟨g1, g2, g3, g4, g5, g6, g7, g8, g9, g10⟩ := hR
  have el := hlen v M' k4
  have er : ρ' = ρ := k1.2 el
  subst er
  have := kk v M' k4 D cA sa p e R s m args below meth c A ρ0 n0 hC ρ' L H1 locs1 cells slots ⟨⟨g1.1, fun z => g1.2 (el.symm.trans z)⟩, by rw [el]; exact g2, g3, (by
    intro w hw
    rcases List.mem_append.mp hw with h | h
    · cases v with
      | none => cases h
      | some x => rw [List.mem_singleton.mp h]; exact k6 x rfl
    · exact hst w h), k7, k8, k9, k5, g9, g10⟩
  rw [List.map_append] at this
  cases v <;> exact this
theorem WP_invS (hd : mcd mt pc = some (.invokestatic idx, 3)) (ho : mtOK mc nA) (hl : Cond.methodLink mt.1.cls idx mc.1 ∈ mg) (hs : Cond.static mc.1 ∈ mg) (hn : as.length = nA) (h1 : 1 ≤ d) (hE : Ev l mc (d - 1) (0, 0) as M Q1) (hlen : ∀ v M', Q1 v M' → M'.1.length = M.1.length) (hs0 : st0 = as.reverse ++ st) (hw : (st.map mcw).sum ≤ 8) (kk : ∀ v M', Q1 v M' → WP l mt d b (pc + 3) ls (v.toList ++ st) M' Q) : WP l mt d b pc ls st0 M Q := by
  subst hs0
  intro D cA sa p e R s m args below meth c A ρ0 n0 hC ρ L H locs cells slots hR
  have hR0 := hR
  obtain ⟨g1, g2, g3, g4, g5, g6, g7, g8, g9, g10⟩ := hR
  have hF := mfree (D := D) g6 g7 hC.ha
  have hfr := hC.fr
  have hlo := hC.lo
  have hmx := ho.2.2.2.2.2
  have hM := hE (fun v hv => g4 v (List.mem_append_left _ (List.mem_reverse.mpr hv))) g8 D cA sa ρ H.size
  have := va_runS (As := as.map (mcv ρ sa)) (rest := st.map (mcv ρ sa)) (g := F0 m pc L ((as.reverse ++ st).map (mcv ρ sa))) (locs := locs) (cells := cells) (slots := slots) (p := p) (e := e) (below := below) (meth := meth) (R := R) (H := H) ⟨hC.1, hC.2.1, hC.mx, hC.own, hC.wds⟩ hM ⟨callB_of (Ts := mwy mt) nA hC.wds (mwy_good ho.1) rfl rfl rfl (hC.wd ho.2.1) (hC.wd hl) ho.2.2.2.1 ⟨by show d - 1 + 1 ≤ R.frames; omega, by show 8 + (mc.2.2.1 + 11) + 64 * (d - 1) ≤ R.locals; omega⟩, hC.wd hs⟩ ⟨mblind, mpre hC.en g5 g6 g7 hF⟩ rfl (by rw [List.length_map]; exact hn) g3.1 (by rw [List.map_append, List.map_reverse]) (lv_room (by rw [mcw_sum]; exact hw)) (hC.dec hd) ⟨by omega, by omega⟩
  exact mcall this g7 hF (mcont hC hR0 (fun w hw => g4 w (List.mem_append_right _ hw)) hlen kk)
theorem WP_invSN {host : String} (hd : mcd mt pc = some (.invokestatic idx, 3)) (ho : mtOK mc nA) (hl : (mt.1.cls, idx, mc.1, host) ∈ mNl) (hs : Cond.static mc.1 ∈ mg) (hn : as.length = nA) (h1 : 1 ≤ d) (hE : Ev l mc (d - 1) (0, 0) as M Q1) (hlen : ∀ v M', Q1 v M' → M'.1.length = M.1.length) (hs0 : st0 = as.reverse ++ st) (hw : (st.map mcw).sum ≤ 8) (kk : ∀ v M', Q1 v M' → WP l mt d b (pc + 3) ls (v.toList ++ st) M' Q) : WP l mt d b pc ls st0 M Q := by
  subst hs0
  intro D cA sa p e R s m args below meth c A ρ0 n0 hC ρ L H locs cells slots hR
  have hR0 := hR
  obtain ⟨g1, g2, g3, g4, g5, g6, g7, g8, g9, g10⟩ := hR
  have hF := mfree (D := D) g6 g7 hC.ha
  have hfr := hC.fr
  have hlo := hC.lo
  have hmx := ho.2.2.2.2.2
  have hM := hE (fun v hv => g4 v (List.mem_append_left _ (List.mem_reverse.mpr hv))) g8 D cA sa ρ H.size
  have := va_runSN (host := host) (As := as.map (mcv ρ sa)) (rest := st.map (mcv ρ sa)) (g := F0 m pc L ((as.reverse ++ st).map (mcv ρ sa))) (locs := locs) (cells := cells) (slots := slots) (p := p) (e := e) (below := below) (meth := meth) (R := R) (H := H) ⟨hC.1, hC.2.1, hC.mx, hC.own, hC.wds⟩ hM ⟨va_cnB (Ts := mwy mt) nA hC.wds (mwy_good ho.1) rfl rfl rfl (hC.en.2.1 _ hl) (hC.wd ho.2.1) ho.2.2.2.1 ⟨by show d - 1 + 1 ≤ R.frames; omega, by show 8 + (mc.2.2.1 + 11) + 64 * (d - 1) ≤ R.locals; omega⟩, hC.wd hs, trivial⟩ ⟨mblind, mpre hC.en g5 g6 g7 hF⟩ rfl (by rw [List.length_map]; exact hn) g3.1 (by rw [List.map_append, List.map_reverse]) (lv_room (by rw [mcw_sum]; exact hw)) (hC.dec hd) ⟨by omega, by omega⟩
  exact mcall this g7 hF (mcont hC hR0 (fun w hw => g4 w (List.mem_append_right _ hw)) hlen kk)
theorem WP_invV {a ci N N' : Nat} {T : u_T} (hd : mcd mt pc = some (.invokevirtual idx, 3)) (ho : mtOK mc nA) (hl : Cond.methodLink mt.1.cls idx mc.1 ∈ mg) (hi : Cond.instanceMethod mc.1 ∈ mg) (hsel : Cond.selects mc.1.cls mc.1 mc.1 ∈ mg) (hcl : mcl[ci]? = some (mc.1.cls, T, N')) (hS : M.1[a]? = some (ci, N)) (hn : as.length = nA) (h1 : 1 ≤ d) (hE : Ev l mc (d - 1) (0, 0) (.inr (.inr (.inl a)) :: as) M Q1) (hlen : ∀ v M', Q1 v M' → M'.1.length = M.1.length) (hs0 : st0 = as.reverse ++ .inr (.inr (.inl a)) :: st) (hw : (st.map mcw).sum ≤ 8) (kk : ∀ v M', Q1 v M' → WP l mt d b (pc + 3) ls (v.toList ++ st) M' Q) : WP l mt d b pc ls st0 M Q := by
  subst hs0
  intro D cA sa p e R s m args below meth c A ρ0 n0 hC ρ L H locs cells slots hR
  have hR0 := hR
  obtain ⟨g1, g2, g3, g4, g5, g6, g7, g8, g9, g10⟩ := hR
  have hF := mfree (D := D) g6 g7 hC.ha
  have hfr := hC.fr
  have hlo := hC.lo
  have hmx := ho.2.2.2.2.2
  have hM := hE (okc trivial (fun v hv => g4 v (List.mem_append_left _ (List.mem_reverse.mpr hv)))) g8 D cA sa ρ H.size
  have he := mW_at (cA := cA) (ρ := ρ) hS
  rw [mcell_o (mcl_lt hcl)] at he
  have := va_runV (C := mc.1.cls) (b := ρ a) (As := as.map (mcv ρ sa)) (rest := st.map (mcv ρ sa)) (g := F0 m pc L ((as.reverse ++ .inr (.inr (.inl a)) :: st).map (mcv ρ sa))) (locs := locs) (cells := cells) (slots := slots) (p := p) (e := e) (below := below) (meth := meth) (R := R) (H := H) ⟨hC.1, hC.2.1, hC.mx, hC.own, hC.wds⟩ hM ⟨callB_of (Ts := mwy mt) nA hC.wds (mwy_good ho.1) rfl rfl rfl (hC.wd ho.2.1) (hC.wd hl) ho.2.2.2.1 ⟨by show d - 1 + 1 ≤ R.frames; omega, by show 8 + (mc.2.2.1 + 11) + 64 * (d - 1) ≤ R.locals; omega⟩, hC.wd hi, hC.wd hsel⟩ ⟨mblind, va_recv hC.K g5 hcl he, mpre hC.en g5 g6 g7 hF⟩ rfl (by rw [List.length_map]; exact hn) g3.1 (by rw [List.map_append, List.map_reverse]; rfl) (lv_room (by rw [mcw_sum]; exact hw)) (hC.dec hd) ⟨by omega, by omega⟩
  exact mcall this g7 hF (mcont hC hR0 (fun w hw => g4 w (List.mem_append_right _ (List.mem_cons_of_mem _ hw))) hlen kk)
end CR
theorem lg_mla (ρ sa : Nat → Nat) : ∀ as : List mV, (lg_sl (as.map (mcv ρ sa))).length = (mla as).length
  | [] => rfl
  | v :: as => by
    have ih := lg_mla ρ sa as
    have e : lg_sl ((v :: as).map (mcv ρ sa)) = (if (mcv ρ sa v).category = 2 then [.val (mcv ρ sa v), .second] else [.val (mcv ρ sa v)]) ++ lg_sl (as.map (mcv ρ sa)) := by
      simp [lg_sl]
    rw [e, List.length_append, ih]
    rcases v with x | x | x | x <;> simp [mcv, mla, Value.category] <;> omega
theorem mla_args (ρ sa : Nat → Nat) : ∀ (as : List mV) (k i : Nat) (v : mV), (mla as)[i]? = some (some v) → (k + i, mcv ρ sa v) ∈ lv_args k (as.map (mcv ρ sa)) ∧ v ∈ as
  | [], k, i, v, h => by simp [mla] at h
  | .inr (.inl x) :: as, k, i, v, h => by
    match i, h with
    | 0, h =>
      simp [mla] at h
      subst h
      exact ⟨List.mem_cons_self, List.mem_cons_self⟩
    | 1, h => simp [mla] at h
    | i + 2, h =>
      have h' : (mla as)[i]? = some (some v) := by simpa [mla] using h
      obtain ⟨a, b⟩ := mla_args ρ sa as (k + 2) i v h'
      refine ⟨List.mem_cons_of_mem _ ?_, List.mem_cons_of_mem _ b⟩
      have e : k + (i + 2) = k + 2 + i := by omega
      rw [e]
      exact a
  | .inl x :: as, k, i, v, h => by
    match i, h with
    | 0, h =>
      simp [mla] at h
      subst h
      exact ⟨List.mem_cons_self, List.mem_cons_self⟩
    | i + 1, h =>
      have h' : (mla as)[i]? = some (some v) := by simpa [mla] using h
      obtain ⟨a, b⟩ := mla_args ρ sa as (k + 1) i v h'
      refine ⟨List.mem_cons_of_mem _ ?_, List.mem_cons_of_mem _ b⟩
      have e : k + (i + 1) = k + 1 + i := by omega
      rw [e]
      exact a
  | .inr (.inr x) :: as, k, i, v, h => by
    have em : mla (.inr (.inr x) :: as) = some (.inr (.inr x)) :: mla as := by rcases x with x | x <;> rfl
    rw [em] at h
    match i, h with
    | 0, h =>
      simp at h
      subst h
      exact ⟨List.mem_cons_self, List.mem_cons_self⟩
    | i + 1, h =>
      have h' : (mla as)[i]? = some (some v) := by simpa using h
      obtain ⟨a, b⟩ := mla_args ρ sa as (k + 1) i v h'
      refine ⟨List.mem_cons_of_mem _ ?_, List.mem_cons_of_mem _ b⟩
      have e : k + (i + 1) = k + 1 + i := by omega
      rw [e]
      have ec : (mcv ρ sa (.inr (.inr x))).category = 1 := by rcases x with x | x <;> rfl
      rw [ec]
      exact a
theorem Ev.of {l : Launch} {mt : mT} {d nA : Nat} {b : Nat × Nat} {as : List mV} {M : mM} {Q : Option mV → mM → Prop} (ho : mtOK mt nA) (hl : (mla as).length ≤ mt.2.2.1) (k : WP l mt d b 0 (mla as ++ List.replicate (mt.2.2.1 - (mla as).length) none) [] M Q) : Ev l mt d b as M Q := by
  intro hok hO D cA sa ρ sz
  refine Met.ofW (cc := mt.2.1) (maxL := mt.2.2.1) (ret := mt.2.2.2.1) ho.2.2.1 rfl ?_
  intro p e s m args below meth c s₁ B hml hv
  obtain ⟨rfl, hsz, hP, hE, hD0⟩ := hv
  subst hsz
  have hts := atoms_spec (ws := mwy mt) B.pre
  have hown : s.vm.findClass mt.1.cls = some m.cls := findClass_of_methodNamed B.named
  have hnm := (name_of_methodNamed B.named B.method).1
  have hD := hD0.self (sz := s.heap.size)
  have hle : (lg_sl (as.map (mcv ρ sa))).length ≤ mt.2.2.1 := by rw [lg_mla]; exact hl
  have hen := lv_entry (as.map (mcv ρ sa)) hle
  rw [lg_entry_eq]
  refine k D cA sa p e _ s m _ below meth c (va_A (mW cA ρ M) s.heap.size) ρ M.1.length ⟨B.exec, B.bytes, B.returns, B.notSynchronized, hml, hown, hnm, hts, hE, Nat.le_refl _, Nat.le_refl _, fun q h => Or.inr h, ho.2.2.2.2.1⟩ ρ _ s.heap [] 0 0 ⟨⟨fun _ _ => rfl, fun _ => rfl⟩, Nat.le_refl _, ⟨hen.1, hen.2.1, fun i v hi => ?_⟩, (fun v hv => by cases hv), hP, hD, va_S.rf, hO, ?_, ?_⟩
  · have hi' : (mla as)[i]? = some (some v) := by
      by_cases hlt : i < (mla as).length
      · rw [List.getElem?_append_left hlt] at hi
        exact hi
      · rw [List.getElem?_append_right (by omega)] at hi
        have := List.mem_of_getElem? hi
        have := List.eq_of_mem_replicate this
        cases this
    obtain ⟨a, b⟩ := mla_args ρ sa as 0 i v hi'
    rw [Nat.zero_add] at a
    exact ⟨hen.2.2 _ a, hok v b⟩
  · show 0 + b.1 ≤ b.1; omega
  · show 0 + b.2 ≤ b.2; omega
end
section
/-! what decompiled texts are made of, and the rules in the order that a walk wants -/
def ald (h : mH) (a n : Nat) (i : Int) : Option Int := if 0 ≤ i ∧ i < n then some (h a i.toNat) else none
def ast (h : mH) (a n : Nat) (i v : Int) : Option mH := if 0 ≤ i ∧ i < n then some (hset h a i.toNat v) else none
def lnl (i : Int) : Option Int := if 0 ≤ i ∧ i < 6 then some (mLn.getD i.toNat 0) else none
def gin (n : Nat) (i : Int) : Option Nat := if 0 ≤ i ∧ i < n then some i.toNat else none
def hcpy (h : mH) (a a' : Nat) (sp dp n : Nat) : mH := fun b j => if b = a' then (if dp ≤ j ∧ j < dp + n then h a (sp + (j - dp)) else h b j) else h b j
def acp (h : mH) (a n : Nat) (sp : Int) (a' n' : Nat) (dp len : Int) : Option mH := if (0 ≤ sp ∧ 0 ≤ dp ∧ 0 ≤ len) ∧ sp + len ≤ n ∧ dp + len ≤ n' then some (hcpy h a a' sp.toNat dp.toNat len.toNat) else none
def hfil (h : mH) (a n : Nat) (v : Int) : mH := fun b j => if b = a then (if j < n then v else h b j) else h b j
def jmin (x y : Int) : Int := if y < x then y else x
theorem obind {α β : Type} {o : Option α} {f : α → Option β} {r : β} (h : o.bind f = some r) : ∃ x, o = some x ∧ f x = some r := Option.bind_eq_some_iff.mp h
theorem osome {α : Type} {c : Prop} [Decidable c] {x : Option α} {r : α} (h : (if c then x else none) = some r) : c ∧ x = some r := by
  by_cases hc : c
  · rw [if_pos hc] at h; exact ⟨hc, h⟩
  · rw [if_neg hc] at h; cases h
theorem onone {α : Type} {c : Prop} [Decidable c] {x : Option α} {r : α} (h : (if c then none else x) = some r) : ¬ c ∧ x = some r := by
  by_cases hc : c
  · rw [if_pos hc] at h; cases h
  · rw [if_neg hc] at h; exact ⟨hc, h⟩
theorem ald_some {h : mH} {a n : Nat} {i x : Int} (q : ald h a n i = some x) : 0 ≤ i ∧ i < n ∧ x = h a i.toNat := by
  obtain ⟨⟨h1, h2⟩, h3⟩ := osome q
  exact ⟨h1, h2, (Option.some.inj h3).symm⟩
theorem ast_some {h h' : mH} {a n : Nat} {i v : Int} (q : ast h a n i v = some h') : 0 ≤ i ∧ i < n ∧ h' = hset h a i.toNat v := by
  obtain ⟨⟨h1, h2⟩, h3⟩ := osome q
  exact ⟨h1, h2, (Option.some.inj h3).symm⟩
theorem lnl_some {i x : Int} (q : lnl i = some x) : 0 ≤ i ∧ i < 6 ∧ x = mLn.getD i.toNat 0 := by
  obtain ⟨⟨h1, h2⟩, h3⟩ := osome q
  exact ⟨h1, h2, (Option.some.inj h3).symm⟩
theorem gin_some {n x : Nat} {i : Int} (q : gin n i = some x) : 0 ≤ i ∧ i < n ∧ x = i.toNat := by
  obtain ⟨⟨h1, h2⟩, h3⟩ := osome q
  exact ⟨h1, h2, (Option.some.inj h3).symm⟩
theorem acp_some {h h' : mH} {a n a' n' : Nat} {sp dp len : Int} (q : acp h a n sp a' n' dp len = some h') : ((0 ≤ sp ∧ 0 ≤ dp ∧ 0 ≤ len) ∧ sp + len ≤ n ∧ dp + len ≤ n') ∧ h' = hcpy h a a' sp.toNat dp.toNat len.toNat := by
  obtain ⟨h1, h3⟩ := osome q
  exact ⟨h1, (Option.some.inj h3).symm⟩
/-- a loop: its body goes on, or leaves -/
def mloop {σ ρ : Type} (B : σ → Option (σ ⊕ ρ)) : Nat → σ → Option ρ
  | 0, _ => none
  | n + 1, s => (B s).bind (Sum.elim (mloop B n) some)
theorem mloop_sound {σ ρ : Type} {B : σ → Option (σ ⊕ ρ)} {P : σ → Prop} {K : ρ → Prop} (hs : ∀ s x, B s = some x → (∀ s', x = .inl s' → P s') → (∀ t, x = .inr t → K t) → P s) : ∀ (n : Nat) (s : σ) (t : ρ), mloop B n s = some t → K t → P s
  | 0, s, t, h, _ => by cases h
  | n + 1, s, t, h, hk => by
    obtain ⟨x, hx, h⟩ := obind h
    refine hs s x hx (fun s' e => ?_) (fun t' e => ?_)
    · subst e
      exact mloop_sound hs n s' t h hk
    · subst e
      cases h
      exact hk
def EvV (l : Launch) (mc : mT) (d : Nat) (as : List mV) (M : mM) (v : Option mV) (M' : mM) : Prop := Ev l mc d (0, 0) as M (fun v' M'' => v' = v ∧ M'' = M')
def mVok (mc : mT) (nA ci : Nat) : Prop := mtOK mc nA ∧ Cond.instanceMethod mc.1 ∈ mg ∧ Cond.selects mc.1.cls mc.1 mc.1 ∈ mg ∧ ∃ (T : u_T) (N : Nat), mcl[ci]? = some (mc.1.cls, T, N)
def mSok (mc : mT) (nA : Nat) : Prop := mtOK mc nA ∧ Cond.static mc.1 ∈ mg
section CD
variable {l : Launch} {mt mc : mT} {d : Nat} {b : Nat × Nat} {pc idx nA a ci N : Nat} {ls : List (Option mV)} {st st0 as : List mV} {S : mS} {r : List (List Nat)} {h h' : mH} {Q : Option mV → mM → Prop} {vv : mV}
theorem WP_cV (hE : EvV l mc (d - 1) (.inr (.inr (.inl a)) :: as) (S, r, h) (some vv) (S, r, h')) (hk : mVok mc nA ci) (hd : mcd mt pc = some (.invokevirtual idx, 3)) (hl : Cond.methodLink mt.1.cls idx mc.1 ∈ mg) (hS : S[a]? = some (ci, N)) (hn : as.length = nA) (h1 : 1 ≤ d) (hs0 : st0 = as.reverse ++ .inr (.inr (.inl a)) :: st) (hw : (st.map mcw).sum ≤ 8) (kk : WP l mt d b (pc + 3) ls (vv :: st) (S, r, h') Q) : WP l mt d b pc ls st0 (S, r, h) Q := by
  obtain ⟨k1, k2, k3, T, N', k4⟩ := hk
  exact WP_invV hd k1 hl k2 k3 k4 (M := (S, r, h)) hS hn h1 hE (fun v M' q => by rw [q.2]) hs0 hw (fun v M' q => by rw [q.1, q.2]; exact kk)
theorem WP_cVv (hE : EvV l mc (d - 1) (.inr (.inr (.inl a)) :: as) (S, r, h) none (S, r, h')) (hk : mVok mc nA ci) (hd : mcd mt pc = some (.invokevirtual idx, 3)) (hl : Cond.methodLink mt.1.cls idx mc.1 ∈ mg) (hS : S[a]? = some (ci, N)) (hn : as.length = nA) (h1 : 1 ≤ d) (hs0 : st0 = as.reverse ++ .inr (.inr (.inl a)) :: st) (hw : (st.map mcw).sum ≤ 8) (kk : WP l mt d b (pc + 3) ls st (S, r, h') Q) : WP l mt d b pc ls st0 (S, r, h) Q := by
  obtain ⟨k1, k2, k3, T, N', k4⟩ := hk
  exact WP_invV hd k1 hl k2 k3 k4 (M := (S, r, h)) hS hn h1 hE (fun v M' q => by rw [q.2]) hs0 hw (fun v M' q => by rw [q.1, q.2]; exact kk)
theorem WP_cS (hE : EvV l mc (d - 1) as (S, r, h) (some vv) (S, r, h')) (hk : mSok mc nA) (hd : mcd mt pc = some (.invokestatic idx, 3)) (hl : Cond.methodLink mt.1.cls idx mc.1 ∈ mg) (hn : as.length = nA) (h1 : 1 ≤ d) (hs0 : st0 = as.reverse ++ st) (hw : (st.map mcw).sum ≤ 8) (kk : WP l mt d b (pc + 3) ls (vv :: st) (S, r, h') Q) : WP l mt d b pc ls st0 (S, r, h) Q :=
  WP_invS hd hk.1 hl hk.2 hn h1 hE (fun v M' q => by rw [q.2]) hs0 hw (fun v M' q => by rw [q.1, q.2]; exact kk)
theorem WP_cSv (hE : EvV l mc (d - 1) as (S, r, h) none (S, r, h')) (hk : mSok mc nA) (hd : mcd mt pc = some (.invokestatic idx, 3)) (hl : Cond.methodLink mt.1.cls idx mc.1 ∈ mg) (hn : as.length = nA) (h1 : 1 ≤ d) (hs0 : st0 = as.reverse ++ st) (hw : (st.map mcw).sum ≤ 8) (kk : WP l mt d b (pc + 3) ls st (S, r, h') Q) : WP l mt d b pc ls st0 (S, r, h) Q :=
  WP_invS hd hk.1 hl hk.2 hn h1 hE (fun v M' q => by rw [q.2]) hs0 hw (fun v M' q => by rw [q.1, q.2]; exact kk)
theorem WP_cSN {host : String} (hE : EvV l mc (d - 1) as (S, r, h) (some vv) (S, r, h')) (hk : mSok mc nA) (hd : mcd mt pc = some (.invokestatic idx, 3)) (hl : (mt.1.cls, idx, mc.1, host) ∈ mNl) (hn : as.length = nA) (h1 : 1 ≤ d) (hs0 : st0 = as.reverse ++ st) (hw : (st.map mcw).sum ≤ 8) (kk : WP l mt d b (pc + 3) ls (vv :: st) (S, r, h') Q) : WP l mt d b pc ls st0 (S, r, h) Q :=
  WP_invSN hd hk.1 hl hk.2 hn h1 hE (fun v M' q => by rw [q.2]) hs0 hw (fun v M' q => by rw [q.1, q.2]; exact kk)
/-- what a write of a whole cell leaves -/
theorem mRl.upd {D : va_G} {cA sa : Nat → Nat} {A : Nat → Prop} {s : State} {R : Room} {ρ0 ρ : Nat → Nat} {n0 : Nat} {L : Array Slot} {H H1 : Heap} {locs locs1 : List Loc} {cells slots : Nat} {st' : List mV} {q : Nat × Nat} {e : va_E}
    (hR : mRl mt D cA sa A s R ρ0 n0 b ρ L H locs cells slots ls st (S, r, h)) (hS : S[a]? = some q) (ho : ∀ b, b ≠ a → h' b = h b) (hv : ∀ j, mrg q.1 j (h' a j)) (hst : ∀ w ∈ st', mok w) (he : e = mcell cA ρ r h' a q)
    (hP : va_P D mcl ((mW cA ρ (S, r, h)).set a (ρ a, e)) H1) (hD : va_D A ((mW cA ρ (S, r, h)).set a (ρ a, e))) (hS1 : va_S A s.heap H1 locs1) : mRl mt D cA sa A s R ρ0 n0 b ρ L H1 locs1 cells slots ls st' (S, r, h') := by
  obtain ⟨g1, g2, g3, g4, g5, g6, g7, g8, g9, g10⟩ := hR
  have ew : (mW cA ρ (S, r, h)).set a (ρ a, e) = mW cA ρ (S, r, h') := mW_set (M := (S, r, h)) (M' := (S, r, h')) rfl hS (fun b' hb q' => mcell_h (ho b' hb) q') he
  rw [ew] at hP hD
  refine ⟨g1, g2, g3, hst, hP, hD, hS1, fun b' q' hb' j => ?_, g9, g10⟩
  by_cases e' : b' = a
  · subst e'
    have : some q = some q' := hS.symm.trans hb'
    cases this
    exact hv j
  · show mrg q'.1 j (h' b' j)
    rw [ho b' e']
    exact g8 b' q' hb' j
theorem hcpy_ne {a a' sp dp n : Nat} : ∀ b, b ≠ a' → hcpy h a a' sp dp n b = h b := fun b hb => by
  funext j; simp [hcpy, hb]

theorem WP_acpI {a' n n' : Nat} {sp dp len : Int} (hd : mcd mt pc = some (.invokestatic idx, 3)) (hl : Cond.methodLink mt.1.cls idx arraycopyName ∈ mg) (hw3 : Cond.native arraycopyName ∈ mg ∧ Cond.static arraycopyName ∈ mg ∧ Cond.initialized "java/lang/System" ∈ mg) (hS0 : S[a]? = some (10, n)) (hS1 : S[a']? = some (10, n')) (hg : (0 ≤ sp ∧ 0 ≤ dp ∧ 0 ≤ len) ∧ sp + len ≤ n ∧ dp + len ≤ n') (h1 : 1 ≤ d) (hw : (st.map mcw).sum ≤ 8) (kk : WP l mt d b (pc + 3) ls st (S, r, hcpy h a a' sp.toNat dp.toNat len.toNat) Q) : WP l mt d b pc ls (.inl len :: .inl dp :: .inr (.inr (.inl a')) :: .inl sp :: .inr (.inr (.inl a)) :: st) (S, r, h) Q := by
  intro D cA sa p e R s m args below meth c A ρ0 n0 hC ρ L H locs cells slots hR
  have hR0 := hR
  obtain ⟨g1, g2, g3, g4, g5, g6, g7, g8, g9, g10⟩ := hR
  have i1 : inI len := okh g4
  have i2 : inI dp := okh (okt g4)
  have i3 : inI sp := okh (okt (okt (okt g4)))
  have hfr := hC.fr
  have hlo := hC.lo
  obtain ⟨⟨p1, p2, p3⟩, p4, p5⟩ := hg
  have hz : inI 0 := ⟨by decide, by decide⟩
  have hnf : nativeFrameWords "java/lang/System" "arraycopy" 5 + 11 ≤ 56 := by decide
  have hsum : ((st.map (mcv ρ sa)).map fun v => v.category).sum ≤ 8 := by rw [mcw_sum]; exact hw
  refine va_copyi (f := fun j => Int32.ofInt (h a j)) (g := fun j => Int32.ofInt (h a' j)) (c0 := cA 10) (c1 := cA 10) (ty := .int) hC.1 hC.2.1 (hC.mx.trans g3.1.symm) hC.own (hC.wd hl) (hC.wd hw3.1) (hC.wd hw3.2.1) (hC.wd hw3.2.2) hC.K g5 g6 g7 a a' 0 0 (mW_at (M := (S, r, h)) hS0) (mW_at (M := (S, r, h)) hS1) rfl rfl rfl (fun q => by have := (inI_lt i3 hz).mp q; omega) (fun q => by have := (inI_lt i2 hz).mp q; omega) (fun q => by have := (inI_lt i1 hz).mp q; omega) (by rw [inI_cl i3, inI_cl i1]; omega) (by rw [inI_cl i2, inI_cl i1]; omega) (fun i _ => rfl) (by omega) (Nat.le_trans (Nat.add_le_add hsum hnf) (by omega)) (hC.dec hd) (fun H1 locs1 hP hD hS' => ?_)
  rw [inI_cl i1, inI_cl i2, inI_cl i3] at hP hD
  have ef : va_cpy (fun j => Int32.ofInt (h a j)) (fun j => Int32.ofInt (h a' j)) sp.toNat dp.toNat len.toNat = fun j => Int32.ofInt (hcpy h a a' sp.toNat dp.toNat len.toNat a' j) := by
    funext j
    unfold va_cpy hcpy
    rw [if_pos rfl]
    split <;> rfl
  rw [ef] at hP hD
  refine kk D cA sa p e R s m args below meth c A ρ0 n0 hC ρ L H1 locs1 cells slots (hR0.upd hS1 hcpy_ne (fun j => ?_) (okt (okt (okt (okt (okt g4))))) rfl hP hD hS')
  unfold hcpy
  rw [if_pos rfl]
  split
  · have := g8 a _ hS0 (sp.toNat + (j - dp.toNat))
    exact (rgI (by simp) (by simp)).mpr ((rgI (by simp) (by simp)).mp this)
  · exact g8 a' _ hS1 j
theorem WP_acpL {a' n n' : Nat} {sp dp len : Int} (hd : mcd mt pc = some (.invokestatic idx, 3)) (hl : Cond.methodLink mt.1.cls idx arraycopyName ∈ mg) (hw3 : Cond.native arraycopyName ∈ mg ∧ Cond.static arraycopyName ∈ mg ∧ Cond.initialized "java/lang/System" ∈ mg) (hS0 : S[a]? = some (11, n)) (hS1 : S[a']? = some (11, n')) (hg : (0 ≤ sp ∧ 0 ≤ dp ∧ 0 ≤ len) ∧ sp + len ≤ n ∧ dp + len ≤ n') (h1 : 1 ≤ d) (hw : (st.map mcw).sum ≤ 8) (kk : WP l mt d b (pc + 3) ls st (S, r, hcpy h a a' sp.toNat dp.toNat len.toNat) Q) : WP l mt d b pc ls (.inl len :: .inl dp :: .inr (.inr (.inl a')) :: .inl sp :: .inr (.inr (.inl a)) :: st) (S, r, h) Q := by
  intro D cA sa p e R s m args below meth c A ρ0 n0 hC ρ L H locs cells slots hR
  have hR0 := hR
  obtain ⟨g1, g2, g3, g4, g5, g6, g7, g8, g9, g10⟩ := hR
  have i1 : inI len := okh g4
  have i2 : inI dp := okh (okt g4)
  have i3 : inI sp := okh (okt (okt (okt g4)))
  have hfr := hC.fr
  have hlo := hC.lo
  obtain ⟨⟨p1, p2, p3⟩, p4, p5⟩ := hg
  have hz : inI 0 := ⟨by decide, by decide⟩
  have hnf : nativeFrameWords "java/lang/System" "arraycopy" 5 + 11 ≤ 56 := by decide
  have hsum : ((st.map (mcv ρ sa)).map fun v => v.category).sum ≤ 8 := by rw [mcw_sum]; exact hw
  refine va_copyl (f := fun j => Int64.ofInt (h a j)) (g := fun j => Int64.ofInt (h a' j)) (c0 := cA 11) (c1 := cA 11) (ty := .long) hC.1 hC.2.1 (hC.mx.trans g3.1.symm) hC.own (hC.wd hl) (hC.wd hw3.1) (hC.wd hw3.2.1) (hC.wd hw3.2.2) hC.K g5 g6 g7 a a' 1 1 (mW_at (M := (S, r, h)) hS0) (mW_at (M := (S, r, h)) hS1) rfl rfl rfl (fun q => by have := (inI_lt i3 hz).mp q; omega) (fun q => by have := (inI_lt i2 hz).mp q; omega) (fun q => by have := (inI_lt i1 hz).mp q; omega) (by rw [inI_cl i3, inI_cl i1]; omega) (by rw [inI_cl i2, inI_cl i1]; omega) (fun i _ => rfl) (by omega) (Nat.le_trans (Nat.add_le_add hsum hnf) (by omega)) (hC.dec hd) (fun H1 locs1 hP hD hS' => ?_)
  rw [inI_cl i1, inI_cl i2, inI_cl i3] at hP hD
  have ef : va_cpy (fun j => Int64.ofInt (h a j)) (fun j => Int64.ofInt (h a' j)) sp.toNat dp.toNat len.toNat = fun j => Int64.ofInt (hcpy h a a' sp.toNat dp.toNat len.toNat a' j) := by
    funext j
    unfold va_cpy hcpy
    rw [if_pos rfl]
    split <;> rfl
  rw [ef] at hP hD
  refine kk D cA sa p e R s m args below meth c A ρ0 n0 hC ρ L H1 locs1 cells slots (hR0.upd hS1 hcpy_ne (fun j => ?_) (okt (okt (okt (okt (okt g4))))) rfl hP hD hS')
  unfold hcpy
  rw [if_pos rfl]
  split
  · exact g8 a _ hS0 (sp.toNat + (j - dp.toNat))
  · exact g8 a' _ hS1 j
theorem jmin_in {x y : Int} (hx : inI x) (hy : inI y) : inI (jmin x y) := by
  unfold jmin
  split
  · exact hy
  · exact hx
theorem WP_min {x y : Int} (hd : mcd mt pc = some (.invokestatic idx, 3)) (hl : Cond.methodLink mt.1.cls idx Lib.Math.min.name ∈ mg) (hw3 : Cond.static Lib.Math.min.name ∈ mg ∧ Cond.initialized "java/lang/Math" ∈ mg ∧ Cond.code Lib.Math.min.name Lib.Math.min.code 2 (some .int) ∈ mg) (h1 : 1 ≤ d) (hw : (st.map mcw).sum ≤ 8) (kk : WP l mt d b (pc + 3) ls (.inl (jmin x y) :: st) (S, r, h) Q) : WP l mt d b pc ls (.inl y :: .inl x :: st) (S, r, h) Q := by
  intro D cA sa p e R s m args below meth c A ρ0 n0 hC ρ L H locs cells slots hR
  obtain ⟨g1, g2, g3, g4, g5, g6, g7, g8, g9, g10⟩ := hR
  have hfr := hC.fr
  have hlo := hC.lo
  have iy : inI y := okh g4
  have ix : inI x := okh (okt g4)
  refine va_mmin hC.1 hC.2.1 (hC.mx.trans g3.1.symm) hC.own (hC.wd hl) (hC.wd hw3.1) (hC.wd hw3.2.1) (hC.wd hw3.2.2) (by omega) (by rw [mcw_sum]; omega) (by omega) (by omega) (hC.dec hd) ?_
  have em : (if Int32.ofInt y < Int32.ofInt x then Int32.ofInt y else Int32.ofInt x) = Int32.ofInt (jmin x y) := by
    unfold jmin
    by_cases q : y < x
    · rw [if_pos q, if_pos ((inI_lt iy ix).mpr q)]
    · rw [if_neg q, if_neg (fun z => q ((inI_lt iy ix).mp z))]
  rw [em]
  exact kk D cA sa p e R s m args below meth c A ρ0 n0 hC ρ L H locs cells slots ⟨g1, g2, g3, okc (jmin_in ix iy) (okt (okt g4)), g5, g6, g7, g8, g9, g10⟩
end CD
end
