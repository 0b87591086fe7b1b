section
-- ===== PART A: goes FIRST, ahead of the names: the tables' words, and 'selects' of the private methods out of them =====
/-- a private method of a class that the tables say can be made, by its rows of tables_1 -/
def lw_okq (q : MethodName × Nat) : Prop := (q.1.cls ≠ "java/lang/invoke/MethodHandle" ∧ q.1.cls ≠ "java/lang/invoke/VarHandle") ∧ Cond.instantiable q.1.cls q.2 ∈ tables_1 ∧ Cond.privateMethod q.1 ∈ tables_1 ∧ Cond.instanceMethod q.1 ∈ tables_1
theorem lw_p0 : lw_okq (⟨"MondayDeal", "startAnew", "()V"⟩, 13) := ⟨⟨by decide +kernel, by decide +kernel⟩, List.mem_of_getElem? (i := 20) (by decide +kernel), List.mem_of_getElem? (i := 292) (by decide +kernel), List.mem_of_getElem? (i := 293) (by decide +kernel)⟩
theorem lw_p1 : lw_okq (⟨"MondayDeal$Text", "nextToken", "()V"⟩, 5) := ⟨⟨by decide +kernel, by decide +kernel⟩, List.mem_of_getElem? (i := 28) (by decide +kernel), List.mem_of_getElem? (i := 364) (by decide +kernel), List.mem_of_getElem? (i := 365) (by decide +kernel)⟩
theorem lw_p2 : lw_okq (⟨"MondayDeal$Text", "readClause", "(LMondayDeal$Told;)Z"⟩, 5) := ⟨⟨by decide +kernel, by decide +kernel⟩, List.mem_of_getElem? (i := 28) (by decide +kernel), List.mem_of_getElem? (i := 371) (by decide +kernel), List.mem_of_getElem? (i := 372) (by decide +kernel)⟩
theorem lw_p3 : lw_okq (⟨"MondayDeal$Text", "reads", "(Ljava/lang/String;)Z"⟩, 5) := ⟨⟨by decide +kernel, by decide +kernel⟩, List.mem_of_getElem? (i := 28) (by decide +kernel), List.mem_of_getElem? (i := 376) (by decide +kernel), List.mem_of_getElem? (i := 377) (by decide +kernel)⟩
theorem lw_p4 : lw_okq (⟨"MondayDeal$Text", "readWork", "(LMondayDeal$Told;I)Z"⟩, 5) := ⟨⟨by decide +kernel, by decide +kernel⟩, List.mem_of_getElem? (i := 28) (by decide +kernel), List.mem_of_getElem? (i := 432) (by decide +kernel), List.mem_of_getElem? (i := 433) (by decide +kernel)⟩
theorem lw_p5 : lw_okq (⟨"MondayDeal$Text", "nextNumber", "(I)I"⟩, 5) := ⟨⟨by decide +kernel, by decide +kernel⟩, List.mem_of_getElem? (i := 28) (by decide +kernel), List.mem_of_getElem? (i := 436) (by decide +kernel), List.mem_of_getElem? (i := 437) (by decide +kernel)⟩
theorem lw_p6 : lw_okq (⟨"MondayDeal$Text", "readBehind", "(LMondayDeal$Told;)Z"⟩, 5) := ⟨⟨by decide +kernel, by decide +kernel⟩, List.mem_of_getElem? (i := 28) (by decide +kernel), List.mem_of_getElem? (i := 446) (by decide +kernel), List.mem_of_getElem? (i := 447) (by decide +kernel)⟩
theorem lw_p7 : lw_okq (⟨"MondayDeal$Text", "kindRead", "()I"⟩, 5) := ⟨⟨by decide +kernel, by decide +kernel⟩, List.mem_of_getElem? (i := 28) (by decide +kernel), List.mem_of_getElem? (i := 450) (by decide +kernel), List.mem_of_getElem? (i := 451) (by decide +kernel)⟩
theorem lw_p8 : lw_okq (⟨"MondayDeal$Text", "readKind", "(LMondayDeal$Told;I)Z"⟩, 5) := ⟨⟨by decide +kernel, by decide +kernel⟩, List.mem_of_getElem? (i := 28) (by decide +kernel), List.mem_of_getElem? (i := 458) (by decide +kernel), List.mem_of_getElem? (i := 459) (by decide +kernel)⟩
theorem lw_p9 : lw_okq (⟨"MondayDeal$Text", "ruleRead", "()I"⟩, 5) := ⟨⟨by decide +kernel, by decide +kernel⟩, List.mem_of_getElem? (i := 28) (by decide +kernel), List.mem_of_getElem? (i := 462) (by decide +kernel), List.mem_of_getElem? (i := 463) (by decide +kernel)⟩
theorem lw_p10 : lw_okq (⟨"MondayDeal$Text", "readRule", "(LMondayDeal$Told;I)Z"⟩, 5) := ⟨⟨by decide +kernel, by decide +kernel⟩, List.mem_of_getElem? (i := 28) (by decide +kernel), List.mem_of_getElem? (i := 469) (by decide +kernel), List.mem_of_getElem? (i := 470) (by decide +kernel)⟩
theorem lw_p11 : lw_okq (⟨"MondayDeal", "listed", "()LMondayDeal$Orders;"⟩, 13) := ⟨⟨by decide +kernel, by decide +kernel⟩, List.mem_of_getElem? (i := 20) (by decide +kernel), List.mem_of_getElem? (i := 493) (by decide +kernel), List.mem_of_getElem? (i := 494) (by decide +kernel)⟩
theorem lw_p12 : lw_okq (⟨"MondayDeal$Orders", "listFrom", "(LMondayDeal$Told;IIII)I"⟩, 4) := ⟨⟨by decide +kernel, by decide +kernel⟩, List.mem_of_getElem? (i := 112) (by decide +kernel), List.mem_of_getElem? (i := 502) (by decide +kernel), List.mem_of_getElem? (i := 503) (by decide +kernel)⟩
theorem lw_p13 : lw_okq (⟨"MondayDeal$Orders", "put", "(I)I"⟩, 4) := ⟨⟨by decide +kernel, by decide +kernel⟩, List.mem_of_getElem? (i := 112) (by decide +kernel), List.mem_of_getElem? (i := 506) (by decide +kernel), List.mem_of_getElem? (i := 507) (by decide +kernel)⟩
theorem lw_p14 : lw_okq (⟨"MondayDeal$Told", "breaks", "(IIII)Z"⟩, 11) := ⟨⟨by decide +kernel, by decide +kernel⟩, List.mem_of_getElem? (i := 54) (by decide +kernel), List.mem_of_getElem? (i := 514) (by decide +kernel), List.mem_of_getElem? (i := 515) (by decide +kernel)⟩
theorem lw_p15 : lw_okq (⟨"MondayDeal", "isWork", "(I)Z"⟩, 13) := ⟨⟨by decide +kernel, by decide +kernel⟩, List.mem_of_getElem? (i := 20) (by decide +kernel), List.mem_of_getElem? (i := 522) (by decide +kernel), List.mem_of_getElem? (i := 523) (by decide +kernel)⟩
def lw_privs_1 : List (MethodName × Nat) := [(⟨"MondayDeal", "startAnew", "()V"⟩, 13), (⟨"MondayDeal$Text", "nextToken", "()V"⟩, 5), (⟨"MondayDeal$Text", "readClause", "(LMondayDeal$Told;)Z"⟩, 5), (⟨"MondayDeal$Text", "reads", "(Ljava/lang/String;)Z"⟩, 5), (⟨"MondayDeal$Text", "readWork", "(LMondayDeal$Told;I)Z"⟩, 5), (⟨"MondayDeal$Text", "nextNumber", "(I)I"⟩, 5), (⟨"MondayDeal$Text", "readBehind", "(LMondayDeal$Told;)Z"⟩, 5), (⟨"MondayDeal$Text", "kindRead", "()I"⟩, 5), (⟨"MondayDeal$Text", "readKind", "(LMondayDeal$Told;I)Z"⟩, 5), (⟨"MondayDeal$Text", "ruleRead", "()I"⟩, 5), (⟨"MondayDeal$Text", "readRule", "(LMondayDeal$Told;I)Z"⟩, 5), (⟨"MondayDeal", "listed", "()LMondayDeal$Orders;"⟩, 13), (⟨"MondayDeal$Orders", "listFrom", "(LMondayDeal$Told;IIII)I"⟩, 4), (⟨"MondayDeal$Orders", "put", "(I)I"⟩, 4), (⟨"MondayDeal$Told", "breaks", "(IIII)Z"⟩, 11), (⟨"MondayDeal", "isWork", "(I)Z"⟩, 13)]
theorem lw_r1 : ∀ q ∈ lw_privs_1, lw_okq q := List.forall_mem_cons.mpr ⟨lw_p0, List.forall_mem_cons.mpr ⟨lw_p1, List.forall_mem_cons.mpr ⟨lw_p2, List.forall_mem_cons.mpr ⟨lw_p3, List.forall_mem_cons.mpr ⟨lw_p4, List.forall_mem_cons.mpr ⟨lw_p5, List.forall_mem_cons.mpr ⟨lw_p6, List.forall_mem_cons.mpr ⟨lw_p7, List.forall_mem_cons.mpr ⟨lw_p8, List.forall_mem_cons.mpr ⟨lw_p9, List.forall_mem_cons.mpr ⟨lw_p10, List.forall_mem_cons.mpr ⟨lw_p11, List.forall_mem_cons.mpr ⟨lw_p12, List.forall_mem_cons.mpr ⟨lw_p13, List.forall_mem_cons.mpr ⟨lw_p14, List.forall_mem_cons.mpr ⟨lw_p15, fun _ h => absurd h List.not_mem_nil⟩⟩⟩⟩⟩⟩⟩⟩⟩⟩⟩⟩⟩⟩⟩⟩
theorem lw_p16 : lw_okq (⟨"MondayDeal", "isOrder", "(I)Z"⟩, 13) := ⟨⟨by decide +kernel, by decide +kernel⟩, List.mem_of_getElem? (i := 20) (by decide +kernel), List.mem_of_getElem? (i := 546) (by decide +kernel), List.mem_of_getElem? (i := 547) (by decide +kernel)⟩
theorem lw_p17 : lw_okq (⟨"MondayDeal$Outlook", "begin", "(LMondayDeal$Told;LMondayDeal$State;)V"⟩, 12) := ⟨⟨by decide +kernel, by decide +kernel⟩, List.mem_of_getElem? (i := 142) (by decide +kernel), List.mem_of_getElem? (i := 592) (by decide +kernel), List.mem_of_getElem? (i := 593) (by decide +kernel)⟩
theorem lw_p18 : lw_okq (⟨"MondayDeal$Outlook", "play", "(LMondayDeal$Told;II)V"⟩, 12) := ⟨⟨by decide +kernel, by decide +kernel⟩, List.mem_of_getElem? (i := 142) (by decide +kernel), List.mem_of_getElem? (i := 601) (by decide +kernel), List.mem_of_getElem? (i := 602) (by decide +kernel)⟩
theorem lw_p19 : lw_okq (⟨"MondayDeal$Outlook", "doWork", "(LMondayDeal$Told;II)V"⟩, 12) := ⟨⟨by decide +kernel, by decide +kernel⟩, List.mem_of_getElem? (i := 142) (by decide +kernel), List.mem_of_getElem? (i := 606) (by decide +kernel), List.mem_of_getElem? (i := 607) (by decide +kernel)⟩
theorem lw_p20 : lw_okq (⟨"MondayDeal$Outlook", "lanesWith", "(LMondayDeal$Told;II)J"⟩, 12) := ⟨⟨by decide +kernel, by decide +kernel⟩, List.mem_of_getElem? (i := 142) (by decide +kernel), List.mem_of_getElem? (i := 614) (by decide +kernel), List.mem_of_getElem? (i := 615) (by decide +kernel)⟩
theorem lw_p21 : lw_okq (⟨"MondayDeal$Outlook", "ageBehind", "(LMondayDeal$Told;LMondayDeal$State;I)I"⟩, 12) := ⟨⟨by decide +kernel, by decide +kernel⟩, List.mem_of_getElem? (i := 142) (by decide +kernel), List.mem_of_getElem? (i := 618) (by decide +kernel), List.mem_of_getElem? (i := 619) (by decide +kernel)⟩
theorem lw_p22 : lw_okq (⟨"MondayDeal$Outlook", "isDone", "(I)Z"⟩, 12) := ⟨⟨by decide +kernel, by decide +kernel⟩, List.mem_of_getElem? (i := 142) (by decide +kernel), List.mem_of_getElem? (i := 622) (by decide +kernel), List.mem_of_getElem? (i := 623) (by decide +kernel)⟩
theorem lw_p23 : lw_okq (⟨"MondayDeal$Outlook", "earnedNow", "(I)I"⟩, 12) := ⟨⟨by decide +kernel, by decide +kernel⟩, List.mem_of_getElem? (i := 142) (by decide +kernel), List.mem_of_getElem? (i := 626) (by decide +kernel), List.mem_of_getElem? (i := 627) (by decide +kernel)⟩
theorem lw_p24 : lw_okq (⟨"MondayDeal", "refusalOf", "(I)I"⟩, 13) := ⟨⟨by decide +kernel, by decide +kernel⟩, List.mem_of_getElem? (i := 20) (by decide +kernel), List.mem_of_getElem? (i := 672) (by decide +kernel), List.mem_of_getElem? (i := 673) (by decide +kernel)⟩
theorem lw_p25 : lw_okq (⟨"MondayDeal", "foretold", "()LMondayDeal$Outlook;"⟩, 13) := ⟨⟨by decide +kernel, by decide +kernel⟩, List.mem_of_getElem? (i := 20) (by decide +kernel), List.mem_of_getElem? (i := 679) (by decide +kernel), List.mem_of_getElem? (i := 680) (by decide +kernel)⟩
theorem lw_p26 : lw_okq (⟨"MondayDeal$Outlook", "tallyAll", "(II)V"⟩, 12) := ⟨⟨by decide +kernel, by decide +kernel⟩, List.mem_of_getElem? (i := 142) (by decide +kernel), List.mem_of_getElem? (i := 694) (by decide +kernel), List.mem_of_getElem? (i := 695) (by decide +kernel)⟩
theorem lw_p27 : lw_okq (⟨"MondayDeal$Outlook", "addUp", "(I)V"⟩, 12) := ⟨⟨by decide +kernel, by decide +kernel⟩, List.mem_of_getElem? (i := 142) (by decide +kernel), List.mem_of_getElem? (i := 701) (by decide +kernel), List.mem_of_getElem? (i := 702) (by decide +kernel)⟩
theorem lw_p28 : lw_okq (⟨"MondayDeal", "partOfOrders", "(II)I"⟩, 13) := ⟨⟨by decide +kernel, by decide +kernel⟩, List.mem_of_getElem? (i := 20) (by decide +kernel), List.mem_of_getElem? (i := 710) (by decide +kernel), List.mem_of_getElem? (i := 711) (by decide +kernel)⟩
theorem lw_p29 : lw_okq (⟨"MondayDeal$Bets", "wonBy", "(I)I"⟩, 5) := ⟨⟨by decide +kernel, by decide +kernel⟩, List.mem_of_getElem? (i := 244) (by decide +kernel), List.mem_of_getElem? (i := 796) (by decide +kernel), List.mem_of_getElem? (i := 797) (by decide +kernel)⟩
theorem lw_p30 : lw_okq (⟨"MondayDeal$Facts", "agree", "(I)Z"⟩, 3) := ⟨⟨by decide +kernel, by decide +kernel⟩, List.mem_of_getElem? (i := 268) (by decide +kernel), List.mem_of_getElem? (i := 828) (by decide +kernel), List.mem_of_getElem? (i := 829) (by decide +kernel)⟩
theorem lw_p31 : lw_okq (⟨"MondayDeal$Told", "fewestBroken", "(IIIIII)I"⟩, 11) := ⟨⟨by decide +kernel, by decide +kernel⟩, List.mem_of_getElem? (i := 54) (by decide +kernel), List.mem_of_getElem? (i := 878) (by decide +kernel), List.mem_of_getElem? (i := 879) (by decide +kernel)⟩
def lw_privs_2 : List (MethodName × Nat) := [(⟨"MondayDeal", "isOrder", "(I)Z"⟩, 13), (⟨"MondayDeal$Outlook", "begin", "(LMondayDeal$Told;LMondayDeal$State;)V"⟩, 12), (⟨"MondayDeal$Outlook", "play", "(LMondayDeal$Told;II)V"⟩, 12), (⟨"MondayDeal$Outlook", "doWork", "(LMondayDeal$Told;II)V"⟩, 12), (⟨"MondayDeal$Outlook", "lanesWith", "(LMondayDeal$Told;II)J"⟩, 12), (⟨"MondayDeal$Outlook", "ageBehind", "(LMondayDeal$Told;LMondayDeal$State;I)I"⟩, 12), (⟨"MondayDeal$Outlook", "isDone", "(I)Z"⟩, 12), (⟨"MondayDeal$Outlook", "earnedNow", "(I)I"⟩, 12), (⟨"MondayDeal", "refusalOf", "(I)I"⟩, 13), (⟨"MondayDeal", "foretold", "()LMondayDeal$Outlook;"⟩, 13), (⟨"MondayDeal$Outlook", "tallyAll", "(II)V"⟩, 12), (⟨"MondayDeal$Outlook", "addUp", "(I)V"⟩, 12), (⟨"MondayDeal", "partOfOrders", "(II)I"⟩, 13), (⟨"MondayDeal$Bets", "wonBy", "(I)I"⟩, 5), (⟨"MondayDeal$Facts", "agree", "(I)Z"⟩, 3), (⟨"MondayDeal$Told", "fewestBroken", "(IIIIII)I"⟩, 11)]
theorem lw_r2 : ∀ q ∈ lw_privs_2, lw_okq q := List.forall_mem_cons.mpr ⟨lw_p16, List.forall_mem_cons.mpr ⟨lw_p17, List.forall_mem_cons.mpr ⟨lw_p18, List.forall_mem_cons.mpr ⟨lw_p19, List.forall_mem_cons.mpr ⟨lw_p20, List.forall_mem_cons.mpr ⟨lw_p21, List.forall_mem_cons.mpr ⟨lw_p22, List.forall_mem_cons.mpr ⟨lw_p23, List.forall_mem_cons.mpr ⟨lw_p24, List.forall_mem_cons.mpr ⟨lw_p25, List.forall_mem_cons.mpr ⟨lw_p26, List.forall_mem_cons.mpr ⟨lw_p27, List.forall_mem_cons.mpr ⟨lw_p28, List.forall_mem_cons.mpr ⟨lw_p29, List.forall_mem_cons.mpr ⟨lw_p30, List.forall_mem_cons.mpr ⟨lw_p31, fun _ h => absurd h List.not_mem_nil⟩⟩⟩⟩⟩⟩⟩⟩⟩⟩⟩⟩⟩⟩⟩⟩
theorem lw_p32 : lw_okq (⟨"MondayDealModel", "begin", "()V"⟩, 27) := ⟨⟨by decide +kernel, by decide +kernel⟩, List.mem_of_getElem? (i := 892) (by decide +kernel), List.mem_of_getElem? (i := 898) (by decide +kernel), List.mem_of_getElem? (i := 899) (by decide +kernel)⟩
theorem lw_p33 : lw_okq (⟨"MondayDealModel", "layOrders", "()V"⟩, 27) := ⟨⟨by decide +kernel, by decide +kernel⟩, List.mem_of_getElem? (i := 892) (by decide +kernel), List.mem_of_getElem? (i := 902) (by decide +kernel), List.mem_of_getElem? (i := 903) (by decide +kernel)⟩
theorem lw_p34 : lw_okq (⟨"MondayDealModel", "isAsBut", "(II)Z"⟩, 27) := ⟨⟨by decide +kernel, by decide +kernel⟩, List.mem_of_getElem? (i := 892) (by decide +kernel), List.mem_of_getElem? (i := 912) (by decide +kernel), List.mem_of_getElem? (i := 913) (by decide +kernel)⟩
theorem lw_p35 : lw_okq (⟨"MondayDealModel", "isAs", "(II)Z"⟩, 27) := ⟨⟨by decide +kernel, by decide +kernel⟩, List.mem_of_getElem? (i := 892) (by decide +kernel), List.mem_of_getElem? (i := 916) (by decide +kernel), List.mem_of_getElem? (i := 917) (by decide +kernel)⟩
theorem lw_p36 : lw_okq (⟨"MondayDealModel", "token", "()V"⟩, 27) := ⟨⟨by decide +kernel, by decide +kernel⟩, List.mem_of_getElem? (i := 892) (by decide +kernel), List.mem_of_getElem? (i := 1024) (by decide +kernel), List.mem_of_getElem? (i := 1025) (by decide +kernel)⟩
theorem lw_p37 : lw_okq (⟨"MondayDealModel", "readsClause", "()Z"⟩, 27) := ⟨⟨by decide +kernel, by decide +kernel⟩, List.mem_of_getElem? (i := 892) (by decide +kernel), List.mem_of_getElem? (i := 1031) (by decide +kernel), List.mem_of_getElem? (i := 1032) (by decide +kernel)⟩
theorem lw_p38 : lw_okq (⟨"MondayDealModel", "wordOf", "()I"⟩, 27) := ⟨⟨by decide +kernel, by decide +kernel⟩, List.mem_of_getElem? (i := 892) (by decide +kernel), List.mem_of_getElem? (i := 1035) (by decide +kernel), List.mem_of_getElem? (i := 1036) (by decide +kernel)⟩
theorem lw_p39 : lw_okq (⟨"MondayDealModel", "dayWord", "()I"⟩, 27) := ⟨⟨by decide +kernel, by decide +kernel⟩, List.mem_of_getElem? (i := 892) (by decide +kernel), List.mem_of_getElem? (i := 1039) (by decide +kernel), List.mem_of_getElem? (i := 1040) (by decide +kernel)⟩
theorem lw_p40 : lw_okq (⟨"MondayDealModel", "isWord", "(III)Z"⟩, 27) := ⟨⟨by decide +kernel, by decide +kernel⟩, List.mem_of_getElem? (i := 892) (by decide +kernel), List.mem_of_getElem? (i := 1044) (by decide +kernel), List.mem_of_getElem? (i := 1045) (by decide +kernel)⟩
theorem lw_p41 : lw_okq (⟨"MondayDealModel", "ruleWord", "()I"⟩, 27) := ⟨⟨by decide +kernel, by decide +kernel⟩, List.mem_of_getElem? (i := 892) (by decide +kernel), List.mem_of_getElem? (i := 1051) (by decide +kernel), List.mem_of_getElem? (i := 1052) (by decide +kernel)⟩
theorem lw_p42 : lw_okq (⟨"MondayDealModel", "readsRest", "(I)Z"⟩, 27) := ⟨⟨by decide +kernel, by decide +kernel⟩, List.mem_of_getElem? (i := 892) (by decide +kernel), List.mem_of_getElem? (i := 1069) (by decide +kernel), List.mem_of_getElem? (i := 1070) (by decide +kernel)⟩
theorem lw_p43 : lw_okq (⟨"MondayDealModel", "reads", "(III)Z"⟩, 27) := ⟨⟨by decide +kernel, by decide +kernel⟩, List.mem_of_getElem? (i := 892) (by decide +kernel), List.mem_of_getElem? (i := 1073) (by decide +kernel), List.mem_of_getElem? (i := 1074) (by decide +kernel)⟩
theorem lw_p44 : lw_okq (⟨"MondayDealModel", "tell", "(I)V"⟩, 27) := ⟨⟨by decide +kernel, by decide +kernel⟩, List.mem_of_getElem? (i := 892) (by decide +kernel), List.mem_of_getElem? (i := 1082) (by decide +kernel), List.mem_of_getElem? (i := 1083) (by decide +kernel)⟩
theorem lw_p45 : lw_okq (⟨"MondayDealModel", "addRule", "(I)V"⟩, 27) := ⟨⟨by decide +kernel, by decide +kernel⟩, List.mem_of_getElem? (i := 892) (by decide +kernel), List.mem_of_getElem? (i := 1087) (by decide +kernel), List.mem_of_getElem? (i := 1088) (by decide +kernel)⟩
theorem lw_p46 : lw_okq (⟨"MondayDealModel", "addWork", "(II)V"⟩, 27) := ⟨⟨by decide +kernel, by decide +kernel⟩, List.mem_of_getElem? (i := 892) (by decide +kernel), List.mem_of_getElem? (i := 1091) (by decide +kernel), List.mem_of_getElem? (i := 1092) (by decide +kernel)⟩
theorem lw_p47 : lw_okq (⟨"MondayDealModel", "clear", "()V"⟩, 27) := ⟨⟨by decide +kernel, by decide +kernel⟩, List.mem_of_getElem? (i := 892) (by decide +kernel), List.mem_of_getElem? (i := 1095) (by decide +kernel), List.mem_of_getElem? (i := 1096) (by decide +kernel)⟩
def lw_privs_3 : List (MethodName × Nat) := [(⟨"MondayDealModel", "begin", "()V"⟩, 27), (⟨"MondayDealModel", "layOrders", "()V"⟩, 27), (⟨"MondayDealModel", "isAsBut", "(II)Z"⟩, 27), (⟨"MondayDealModel", "isAs", "(II)Z"⟩, 27), (⟨"MondayDealModel", "token", "()V"⟩, 27), (⟨"MondayDealModel", "readsClause", "()Z"⟩, 27), (⟨"MondayDealModel", "wordOf", "()I"⟩, 27), (⟨"MondayDealModel", "dayWord", "()I"⟩, 27), (⟨"MondayDealModel", "isWord", "(III)Z"⟩, 27), (⟨"MondayDealModel", "ruleWord", "()I"⟩, 27), (⟨"MondayDealModel", "readsRest", "(I)Z"⟩, 27), (⟨"MondayDealModel", "reads", "(III)Z"⟩, 27), (⟨"MondayDealModel", "tell", "(I)V"⟩, 27), (⟨"MondayDealModel", "addRule", "(I)V"⟩, 27), (⟨"MondayDealModel", "addWork", "(II)V"⟩, 27), (⟨"MondayDealModel", "clear", "()V"⟩, 27)]
theorem lw_r3 : ∀ q ∈ lw_privs_3, lw_okq q := List.forall_mem_cons.mpr ⟨lw_p32, List.forall_mem_cons.mpr ⟨lw_p33, List.forall_mem_cons.mpr ⟨lw_p34, List.forall_mem_cons.mpr ⟨lw_p35, List.forall_mem_cons.mpr ⟨lw_p36, List.forall_mem_cons.mpr ⟨lw_p37, List.forall_mem_cons.mpr ⟨lw_p38, List.forall_mem_cons.mpr ⟨lw_p39, List.forall_mem_cons.mpr ⟨lw_p40, List.forall_mem_cons.mpr ⟨lw_p41, List.forall_mem_cons.mpr ⟨lw_p42, List.forall_mem_cons.mpr ⟨lw_p43, List.forall_mem_cons.mpr ⟨lw_p44, List.forall_mem_cons.mpr ⟨lw_p45, List.forall_mem_cons.mpr ⟨lw_p46, List.forall_mem_cons.mpr ⟨lw_p47, fun _ h => absurd h List.not_mem_nil⟩⟩⟩⟩⟩⟩⟩⟩⟩⟩⟩⟩⟩⟩⟩⟩
theorem lw_p48 : lw_okq (⟨"MondayDealModel", "firstMany", "(I)I"⟩, 27) := ⟨⟨by decide +kernel, by decide +kernel⟩, List.mem_of_getElem? (i := 892) (by decide +kernel), List.mem_of_getElem? (i := 1107) (by decide +kernel), List.mem_of_getElem? (i := 1108) (by decide +kernel)⟩
theorem lw_p49 : lw_okq (⟨"MondayDealModel", "isWork", "(I)Z"⟩, 27) := ⟨⟨by decide +kernel, by decide +kernel⟩, List.mem_of_getElem? (i := 892) (by decide +kernel), List.mem_of_getElem? (i := 1115) (by decide +kernel), List.mem_of_getElem? (i := 1116) (by decide +kernel)⟩
theorem lw_p50 : lw_okq (⟨"MondayDealModel", "earns", "(II)I"⟩, 27) := ⟨⟨by decide +kernel, by decide +kernel⟩, List.mem_of_getElem? (i := 892) (by decide +kernel), List.mem_of_getElem? (i := 1123) (by decide +kernel), List.mem_of_getElem? (i := 1124) (by decide +kernel)⟩
theorem lw_p51 : lw_okq (⟨"MondayDealModel", "isOrder", "(I)Z"⟩, 27) := ⟨⟨by decide +kernel, by decide +kernel⟩, List.mem_of_getElem? (i := 892) (by decide +kernel), List.mem_of_getElem? (i := 1135) (by decide +kernel), List.mem_of_getElem? (i := 1136) (by decide +kernel)⟩
theorem lw_p52 : lw_okq (⟨"MondayDealModel", "keepPast", "()V"⟩, 27) := ⟨⟨by decide +kernel, by decide +kernel⟩, List.mem_of_getElem? (i := 892) (by decide +kernel), List.mem_of_getElem? (i := 1147) (by decide +kernel), List.mem_of_getElem? (i := 1148) (by decide +kernel)⟩
theorem lw_p53 : lw_okq (⟨"MondayDealModel", "copy", "(II)V"⟩, 27) := ⟨⟨by decide +kernel, by decide +kernel⟩, List.mem_of_getElem? (i := 892) (by decide +kernel), List.mem_of_getElem? (i := 1151) (by decide +kernel), List.mem_of_getElem? (i := 1152) (by decide +kernel)⟩
theorem lw_p54 : lw_okq (⟨"MondayDealModel", "go", "(II)V"⟩, 27) := ⟨⟨by decide +kernel, by decide +kernel⟩, List.mem_of_getElem? (i := 892) (by decide +kernel), List.mem_of_getElem? (i := 1155) (by decide +kernel), List.mem_of_getElem? (i := 1156) (by decide +kernel)⟩
theorem lw_p55 : lw_okq (⟨"MondayDealModel", "doWork", "(II)V"⟩, 27) := ⟨⟨by decide +kernel, by decide +kernel⟩, List.mem_of_getElem? (i := 892) (by decide +kernel), List.mem_of_getElem? (i := 1159) (by decide +kernel), List.mem_of_getElem? (i := 1160) (by decide +kernel)⟩
theorem lw_p56 : lw_okq (⟨"MondayDealModel", "there", "(I)I"⟩, 27) := ⟨⟨by decide +kernel, by decide +kernel⟩, List.mem_of_getElem? (i := 892) (by decide +kernel), List.mem_of_getElem? (i := 1167) (by decide +kernel), List.mem_of_getElem? (i := 1168) (by decide +kernel)⟩
theorem lw_p57 : lw_okq (⟨"MondayDealModel", "earnedBy", "(II)I"⟩, 27) := ⟨⟨by decide +kernel, by decide +kernel⟩, List.mem_of_getElem? (i := 892) (by decide +kernel), List.mem_of_getElem? (i := 1193) (by decide +kernel), List.mem_of_getElem? (i := 1194) (by decide +kernel)⟩
theorem lw_p58 : lw_okq (⟨"MondayDealModel", "earnedInAll", "(I)I"⟩, 27) := ⟨⟨by decide +kernel, by decide +kernel⟩, List.mem_of_getElem? (i := 892) (by decide +kernel), List.mem_of_getElem? (i := 1207) (by decide +kernel), List.mem_of_getElem? (i := 1208) (by decide +kernel)⟩
theorem lw_p59 : lw_okq (⟨"MondayDealModel", "outmost", "(II)I"⟩, 27) := ⟨⟨by decide +kernel, by decide +kernel⟩, List.mem_of_getElem? (i := 892) (by decide +kernel), List.mem_of_getElem? (i := 1219) (by decide +kernel), List.mem_of_getElem? (i := 1220) (by decide +kernel)⟩
theorem lw_p60 : lw_okq (⟨"MondayDealModel", "wonBy", "(II)I"⟩, 27) := ⟨⟨by decide +kernel, by decide +kernel⟩, List.mem_of_getElem? (i := 892) (by decide +kernel), List.mem_of_getElem? (i := 1262) (by decide +kernel), List.mem_of_getElem? (i := 1263) (by decide +kernel)⟩
theorem lw_p61 : lw_okq (⟨"MondayDealModel", "fits", "(I)Z"⟩, 27) := ⟨⟨by decide +kernel, by decide +kernel⟩, List.mem_of_getElem? (i := 892) (by decide +kernel), List.mem_of_getElem? (i := 1279) (by decide +kernel), List.mem_of_getElem? (i := 1280) (by decide +kernel)⟩
theorem lw_p62 : lw_okq (⟨"MondayDealModel", "latestMany", "()I"⟩, 27) := ⟨⟨by decide +kernel, by decide +kernel⟩, List.mem_of_getElem? (i := 892) (by decide +kernel), List.mem_of_getElem? (i := 1283) (by decide +kernel), List.mem_of_getElem? (i := 1284) (by decide +kernel)⟩
theorem lw_p63 : lw_okq (⟨"MondayDealModel", "canBe", "(III)Z"⟩, 27) := ⟨⟨by decide +kernel, by decide +kernel⟩, List.mem_of_getElem? (i := 892) (by decide +kernel), List.mem_of_getElem? (i := 1305) (by decide +kernel), List.mem_of_getElem? (i := 1306) (by decide +kernel)⟩
def lw_privs_4 : List (MethodName × Nat) := [(⟨"MondayDealModel", "firstMany", "(I)I"⟩, 27), (⟨"MondayDealModel", "isWork", "(I)Z"⟩, 27), (⟨"MondayDealModel", "earns", "(II)I"⟩, 27), (⟨"MondayDealModel", "isOrder", "(I)Z"⟩, 27), (⟨"MondayDealModel", "keepPast", "()V"⟩, 27), (⟨"MondayDealModel", "copy", "(II)V"⟩, 27), (⟨"MondayDealModel", "go", "(II)V"⟩, 27), (⟨"MondayDealModel", "doWork", "(II)V"⟩, 27), (⟨"MondayDealModel", "there", "(I)I"⟩, 27), (⟨"MondayDealModel", "earnedBy", "(II)I"⟩, 27), (⟨"MondayDealModel", "earnedInAll", "(I)I"⟩, 27), (⟨"MondayDealModel", "outmost", "(II)I"⟩, 27), (⟨"MondayDealModel", "wonBy", "(II)I"⟩, 27), (⟨"MondayDealModel", "fits", "(I)Z"⟩, 27), (⟨"MondayDealModel", "latestMany", "()I"⟩, 27), (⟨"MondayDealModel", "canBe", "(III)Z"⟩, 27)]
theorem lw_r4 : ∀ q ∈ lw_privs_4, lw_okq q := List.forall_mem_cons.mpr ⟨lw_p48, List.forall_mem_cons.mpr ⟨lw_p49, List.forall_mem_cons.mpr ⟨lw_p50, List.forall_mem_cons.mpr ⟨lw_p51, List.forall_mem_cons.mpr ⟨lw_p52, List.forall_mem_cons.mpr ⟨lw_p53, List.forall_mem_cons.mpr ⟨lw_p54, List.forall_mem_cons.mpr ⟨lw_p55, List.forall_mem_cons.mpr ⟨lw_p56, List.forall_mem_cons.mpr ⟨lw_p57, List.forall_mem_cons.mpr ⟨lw_p58, List.forall_mem_cons.mpr ⟨lw_p59, List.forall_mem_cons.mpr ⟨lw_p60, List.forall_mem_cons.mpr ⟨lw_p61, List.forall_mem_cons.mpr ⟨lw_p62, List.forall_mem_cons.mpr ⟨lw_p63, fun _ h => absurd h List.not_mem_nil⟩⟩⟩⟩⟩⟩⟩⟩⟩⟩⟩⟩⟩⟩⟩⟩
def lw_privs : List (MethodName × Nat) := lw_privs_1 ++ (lw_privs_2 ++ (lw_privs_3 ++ (lw_privs_4)))
def lw_tbl : List Cond := k2_sels lw_privs ++ tables_1
theorem lw_privs_ok : ∀ q ∈ lw_privs, lw_okq q := by
  show ∀ q ∈ lw_privs_1 ++ (lw_privs_2 ++ (lw_privs_3 ++ (lw_privs_4))), lw_okq q
  exact List.forall_mem_append.mpr ⟨lw_r1, List.forall_mem_append.mpr ⟨lw_r2, List.forall_mem_append.mpr ⟨lw_r3, lw_r4⟩⟩⟩
end
section
def RX0 : String := "MondayDeal$Bets"
def TX0 : u_T := fun k => match k with
  | 0 => ("MondayDeal$Bets", "days", "[I", true)
  | 1 => ("MondayDeal$Bets", "firsts", "[I", true)
  | 2 => ("MondayDeal$Bets", "prices", "[I", true)
  | 3 => ("MondayDeal$Bets", "size", "I", false)
  | _ => ("MondayDeal$Bets", "outcomes", "J", false)
def tyX0 : Nat → FieldType := fun k => match k with
  | 0 => .array .int
  | 1 => .array .int
  | 2 => .array .int
  | 3 => .int
  | _ => .long
abbrev wsX00 : List Cond := u_ws RX0 TX0 5
theorem nmX0 : ∀ a, a < 5 → ∀ b, b < 5 → a ≠ b → (TX0 a).2.1 ≠ (TX0 b).2.1 := by decide +kernel
theorem tyX0_ok : ∀ k, k < 5 → parseFieldDescriptor (TX0 k).2.2.1 = some (tyX0 k) := by decide +kernel
def RX1 : String := "MondayDeal$Facts"
def TX1 : u_T := fun k => match k with
  | 0 => ("MondayDeal$Facts", "earlier", "[I", true)
  | 1 => ("MondayDeal$Facts", "later", "[I", true)
  | _ => ("MondayDeal$Facts", "size", "I", false)
def tyX1 : Nat → FieldType := fun k => match k with
  | 0 => .array .int
  | 1 => .array .int
  | _ => .int
abbrev wsX10 : List Cond := u_ws RX1 TX1 3
theorem nmX1 : ∀ a, a < 3 → ∀ b, b < 3 → a ≠ b → (TX1 a).2.1 ≠ (TX1 b).2.1 := by decide +kernel
theorem tyX1_ok : ∀ k, k < 3 → parseFieldDescriptor (TX1 k).2.2.1 = some (tyX1 k) := by decide +kernel
def RX2 : String := "MondayDeal$Orders"
def TX2 : u_T := fun k => match k with
  | 0 => ("MondayDeal$Orders", "packed", "[I", true)
  | 1 => ("MondayDeal$Orders", "size", "I", false)
  | 2 => ("MondayDeal$Orders", "placed", "[[I", true)
  | _ => ("MondayDeal$Orders", "follows", "[[I", true)
def tyX2 : Nat → FieldType := fun k => match k with
  | 0 => .array .int
  | 1 => .int
  | 2 => .array (.array .int)
  | _ => .array (.array .int)
abbrev wsX20 : List Cond := u_ws RX2 TX2 4
theorem nmX2 : ∀ a, a < 4 → ∀ b, b < 4 → a ≠ b → (TX2 a).2.1 ≠ (TX2 b).2.1 := by decide +kernel
theorem tyX2_ok : ∀ k, k < 4 → parseFieldDescriptor (TX2 k).2.2.1 = some (tyX2 k) := by decide +kernel
def RX3 : String := "MondayDeal$Outlook"
def TX3 : u_T := fun k => match k with
  | 0 => ("MondayDeal$Outlook", "old", "[[J", true)
  | 1 => ("MondayDeal$Outlook", "made", "[[J", true)
  | 2 => ("MondayDeal$Outlook", "lastOld", "[I", true)
  | 3 => ("MondayDeal$Outlook", "placeOf", "[I", true)
  | 4 => ("MondayDeal$Outlook", "done", "[J", true)
  | 5 => ("MondayDeal$Outlook", "gain", "[I", true)
  | 6 => ("MondayDeal$Outlook", "times", "[[J", true)
  | 7 => ("MondayDeal$Outlook", "totals", "[I", true)
  | 8 => ("MondayDeal$Outlook", "most", "I", false)
  | 9 => ("MondayDeal$Outlook", "mostOrder", "I", false)
  | 10 => ("MondayDeal$Outlook", "least", "I", false)
  | _ => ("MondayDeal$Outlook", "leastOrder", "I", false)
def tyX3 : Nat → FieldType := fun k => match k with
  | 0 => .array (.array .long)
  | 1 => .array (.array .long)
  | 2 => .array .int
  | 3 => .array .int
  | 4 => .array .long
  | 5 => .array .int
  | 6 => .array (.array .long)
  | 7 => .array .int
  | 8 => .int
  | 9 => .int
  | 10 => .int
  | _ => .int
abbrev wsX30 : List Cond := u_ws RX3 TX3 12
theorem nmX3 : ∀ a, a < 12 → ∀ b, b < 12 → a ≠ b → (TX3 a).2.1 ≠ (TX3 b).2.1 := by decide +kernel
theorem tyX3_ok : ∀ k, k < 12 → parseFieldDescriptor (TX3 k).2.2.1 = some (tyX3 k) := by decide +kernel
def RX4 : String := "MondayDeal$Past"
def TX4 : u_T := fun k => match k with
  | 0 => ("MondayDeal$Past", "states", "[LMondayDeal$State;", true)
  | 1 => ("MondayDeal$Past", "newest", "I", false)
  | _ => ("MondayDeal$Past", "size", "I", false)
def tyX4 : Nat → FieldType := fun k => match k with
  | 0 => .array (.object "MondayDeal$State")
  | 1 => .int
  | _ => .int
abbrev wsX40 : List Cond := u_ws RX4 TX4 3
theorem nmX4 : ∀ a, a < 3 → ∀ b, b < 3 → a ≠ b → (TX4 a).2.1 ≠ (TX4 b).2.1 := by decide +kernel
theorem tyX4_ok : ∀ k, k < 3 → parseFieldDescriptor (TX4 k).2.2.1 = some (tyX4 k) := by decide +kernel
def RX5 : String := "MondayDeal$State"
def TX5 : u_T := fun k => match k with
  | 0 => ("MondayDeal$State", "age", "[I", true)
  | 1 => ("MondayDeal$State", "done", "[I", true)
  | 2 => ("MondayDeal$State", "earned", "I", false)
  | 3 => ("MondayDeal$State", "weeks", "I", false)
  | _ => ("MondayDeal$State", "recent", "[I", true)
def tyX5 : Nat → FieldType := fun k => match k with
  | 0 => .array .int
  | 1 => .array .int
  | 2 => .int
  | 3 => .int
  | _ => .array .int
abbrev wsX50 : List Cond := u_ws RX5 TX5 5
theorem nmX5 : ∀ a, a < 5 → ∀ b, b < 5 → a ≠ b → (TX5 a).2.1 ≠ (TX5 b).2.1 := by decide +kernel
theorem tyX5_ok : ∀ k, k < 5 → parseFieldDescriptor (TX5 k).2.2.1 = some (tyX5 k) := by decide +kernel
def RX6 : String := "MondayDeal$Text"
def TX6 : u_T := fun k => match k with
  | 0 => ("MondayDeal$Text", "letters", "[C", true)
  | 1 => ("MondayDeal$Text", "length", "I", false)
  | 2 => ("MondayDeal$Text", "clauses", "I", false)
  | 3 => ("MondayDeal$Text", "start", "I", false)
  | _ => ("MondayDeal$Text", "end", "I", false)
def tyX6 : Nat → FieldType := fun k => match k with
  | 0 => .array .char
  | 1 => .int
  | 2 => .int
  | 3 => .int
  | _ => .int
abbrev wsX60 : List Cond := u_ws RX6 TX6 5
theorem nmX6 : ∀ a, a < 5 → ∀ b, b < 5 → a ≠ b → (TX6 a).2.1 ≠ (TX6 b).2.1 := by decide +kernel
theorem tyX6_ok : ∀ k, k < 5 → parseFieldDescriptor (TX6 k).2.2.1 = some (tyX6 k) := by decide +kernel
def RX7 : String := "MondayDeal$Told"
def TX7 : u_T := fun k => match k with
  | 0 => ("MondayDeal$Told", "kinds", "[I", true)
  | 1 => ("MondayDeal$Told", "works", "I", false)
  | 2 => ("MondayDeal$Told", "workDay", "[I", true)
  | 3 => ("MondayDeal$Told", "worth", "[I", true)
  | 4 => ("MondayDeal$Told", "keeps", "[I", true)
  | 5 => ("MondayDeal$Told", "feast", "[I", true)
  | 6 => ("MondayDeal$Told", "behind", "[I", true)
  | 7 => ("MondayDeal$Told", "rules", "I", false)
  | 8 => ("MondayDeal$Told", "ruleForm", "[I", true)
  | 9 => ("MondayDeal$Told", "ruleDay", "[I", true)
  | _ => ("MondayDeal$Told", "ruleOther", "[I", true)
def tyX7 : Nat → FieldType := fun k => match k with
  | 0 => .array .int
  | 1 => .int
  | 2 => .array .int
  | 3 => .array .int
  | 4 => .array .int
  | 5 => .array .int
  | 6 => .array .int
  | 7 => .int
  | 8 => .array .int
  | 9 => .array .int
  | _ => .array .int
abbrev wsX70 : List Cond := u_ws RX7 TX7 11
theorem nmX7 : ∀ a, a < 11 → ∀ b, b < 11 → a ≠ b → (TX7 a).2.1 ≠ (TX7 b).2.1 := by decide +kernel
theorem tyX7_ok : ∀ k, k < 11 → parseFieldDescriptor (TX7 k).2.2.1 = some (tyX7 k) := by decide +kernel
def RX8 : String := "MondayDeal"
def TX8 : u_T := fun k => match k with
  | 0 => ("MondayDeal", "text", "LMondayDeal$Text;", true)
  | 1 => ("MondayDeal", "told", "LMondayDeal$Told;", true)
  | 2 => ("MondayDeal", "draft", "LMondayDeal$Told;", true)
  | 3 => ("MondayDeal", "rows", "LMondayDeal$Orders;", true)
  | 4 => ("MondayDeal", "outlook", "LMondayDeal$Outlook;", true)
  | 5 => ("MondayDeal", "now", "LMondayDeal$State;", true)
  | 6 => ("MondayDeal", "past", "LMondayDeal$Past;", true)
  | 7 => ("MondayDeal", "kept", "[LMondayDeal$State;", true)
  | 8 => ("MondayDeal", "isKept", "[Z", true)
  | 9 => ("MondayDeal", "bets", "LMondayDeal$Bets;", true)
  | 10 => ("MondayDeal", "facts", "LMondayDeal$Facts;", true)
  | 11 => ("MondayDeal", "rowsStand", "Z", false)
  | _ => ("MondayDeal", "outlookStands", "Z", false)
def tyX8 : Nat → FieldType := fun k => match k with
  | 0 => .object "MondayDeal$Text"
  | 1 => .object "MondayDeal$Told"
  | 2 => .object "MondayDeal$Told"
  | 3 => .object "MondayDeal$Orders"
  | 4 => .object "MondayDeal$Outlook"
  | 5 => .object "MondayDeal$State"
  | 6 => .object "MondayDeal$Past"
  | 7 => .array (.object "MondayDeal$State")
  | 8 => .array .boolean
  | 9 => .object "MondayDeal$Bets"
  | 10 => .object "MondayDeal$Facts"
  | 11 => .boolean
  | _ => .boolean
abbrev wsX80 : List Cond := u_ws RX8 TX8 13
theorem nmX8 : ∀ a, a < 13 → ∀ b, b < 13 → a ≠ b → (TX8 a).2.1 ≠ (TX8 b).2.1 := by decide +kernel
theorem tyX8_ok : ∀ k, k < 13 → parseFieldDescriptor (TX8 k).2.2.1 = some (tyX8 k) := by decide +kernel
def RX9 : String := "MondayDealModel"
def TX9 : u_T := fun k => match k with
  | 0 => ("MondayDealModel", "row", "[I", true)
  | 1 => ("MondayDealModel", "pastMany", "I", false)
  | 2 => ("MondayDealModel", "isKept", "[Z", true)
  | 3 => ("MondayDealModel", "text", "[I", true)
  | 4 => ("MondayDealModel", "length", "I", false)
  | 5 => ("MondayDealModel", "read", "[I", true)
  | 6 => ("MondayDealModel", "readMany", "I", false)
  | 7 => ("MondayDealModel", "kinds", "[I", true)
  | 8 => ("MondayDealModel", "works", "I", false)
  | 9 => ("MondayDealModel", "days", "[I", true)
  | 10 => ("MondayDealModel", "worths", "[I", true)
  | 11 => ("MondayDealModel", "keeps", "[I", true)
  | 12 => ("MondayDealModel", "feasts", "[I", true)
  | 13 => ("MondayDealModel", "behinds", "[I", true)
  | 14 => ("MondayDealModel", "rules", "I", false)
  | 15 => ("MondayDealModel", "ruled", "[I", true)
  | 16 => ("MondayDealModel", "orders", "[I", true)
  | 17 => ("MondayDealModel", "orderMany", "I", false)
  | 18 => ("MondayDealModel", "at", "I", false)
  | 19 => ("MondayDealModel", "place", "I", false)
  | 20 => ("MondayDealModel", "end", "I", false)
  | 21 => ("MondayDealModel", "readWorks", "I", false)
  | 22 => ("MondayDealModel", "readRules", "I", false)
  | 23 => ("MondayDealModel", "bets", "[I", true)
  | 24 => ("MondayDealModel", "betMany", "I", false)
  | 25 => ("MondayDealModel", "told", "[I", true)
  | _ => ("MondayDealModel", "knownMany", "I", false)
def tyX9 : Nat → FieldType := fun k => match k with
  | 0 => .array .int
  | 1 => .int
  | 2 => .array .boolean
  | 3 => .array .int
  | 4 => .int
  | 5 => .array .int
  | 6 => .int
  | 7 => .array .int
  | 8 => .int
  | 9 => .array .int
  | 10 => .array .int
  | 11 => .array .int
  | 12 => .array .int
  | 13 => .array .int
  | 14 => .int
  | 15 => .array .int
  | 16 => .array .int
  | 17 => .int
  | 18 => .int
  | 19 => .int
  | 20 => .int
  | 21 => .int
  | 22 => .int
  | 23 => .array .int
  | 24 => .int
  | 25 => .array .int
  | _ => .int
abbrev wsX90 : List Cond := u_ws RX9 TX9 27
theorem nmX9 : ∀ a, a < 27 → ∀ b, b < 27 → a ≠ b → (TX9 a).2.1 ≠ (TX9 b).2.1 := by decide +kernel
theorem tyX9_ok : ∀ k, k < 27 → parseFieldDescriptor (TX9 k).2.2.1 = some (tyX9 k) := by decide +kernel
abbrev mcl : List vw_C := [(RX0, TX0, 5), (RX1, TX1, 3), (RX2, TX2, 4), (RX3, TX3, 12), (RX4, TX4, 3), (RX5, TX5, 5), (RX6, TX6, 5), (RX7, TX7, 11), (RX8, TX8, 13), (RX9, TX9, 27)]
def mty (ci : Nat) : Nat → FieldType := match ci with
  | 0 => tyX0
  | 1 => tyX1
  | 2 => tyX2
  | 3 => tyX3
  | 4 => tyX4
  | 5 => tyX5
  | 6 => tyX6
  | 7 => tyX7
  | 8 => tyX8
  | _ => tyX9
/-- the tables' words that stay good -/
def mg : List Cond := lw_tbl.filter goodWord
theorem mg_in {w : Cond} (h : w ∈ tables_1) (g : goodWord w = true) : w ∈ mg := List.mem_filter.mpr ⟨List.mem_append_right _ h, g⟩
theorem mg_sel {w : Cond} (h : w ∈ k2_sels lw_privs) (g : goodWord w = true) : w ∈ mg := List.mem_filter.mpr ⟨List.mem_append_left _ h, g⟩
theorem mg_tb {w : Cond} (h : w ∈ mg) : w ∈ lw_tbl := (List.mem_filter.mp h).1
theorem tb1 {w : Cond} {i : Nat} (h : tables_1_1[i]? = some w) : w ∈ tables_1 := List.mem_append_left _ (List.mem_of_getElem? h)
theorem tb2 {w : Cond} {i : Nat} (h : tables_1_2[i]? = some w) : w ∈ tables_1 := List.mem_append_right _ (List.mem_append_left _ (List.mem_of_getElem? h))
theorem tb3 {w : Cond} {i : Nat} (h : tables_1_3[i]? = some w) : w ∈ tables_1 := List.mem_append_right _ (List.mem_append_right _ (List.mem_append_left _ (List.mem_of_getElem? h)))
theorem tb4 {w : Cond} {i : Nat} (h : tables_1_4[i]? = some w) : w ∈ tables_1 := List.mem_append_right _ (List.mem_append_right _ (List.mem_append_right _ (List.mem_append_left _ (List.mem_of_getElem? h))))
theorem tb5 {w : Cond} {i : Nat} (h : tables_1_5[i]? = some w) : w ∈ tables_1 := List.mem_append_right _ (List.mem_append_right _ (List.mem_append_right _ (List.mem_append_right _ (List.mem_append_left _ (List.mem_of_getElem? h)))))
theorem tb6 {w : Cond} {i : Nat} (h : tables_1_6[i]? = some w) : w ∈ tables_1 := List.mem_append_right _ (List.mem_append_right _ (List.mem_append_right _ (List.mem_append_right _ (List.mem_append_right _ (List.mem_of_getElem? h)))))
theorem wcX0 : ∀ w ∈ wsX00, w ∈ mg := by
  have h : (wsX00).all (fun w => decide (w ∈ tables_1) && goodWord w) = true := by decide +kernel
  intro w hw
  have h1 := List.all_eq_true.mp h w hw
  simp only [Bool.and_eq_true, decide_eq_true_eq] at h1
  exact mg_in h1.1 h1.2
theorem wcX1 : ∀ w ∈ wsX10, w ∈ mg := by
  have h : (wsX10).all (fun w => decide (w ∈ tables_1) && goodWord w) = true := by decide +kernel
  intro w hw
  have h1 := List.all_eq_true.mp h w hw
  simp only [Bool.and_eq_true, decide_eq_true_eq] at h1
  exact mg_in h1.1 h1.2
theorem wcX2 : ∀ w ∈ wsX20, w ∈ mg := by
  have h : (wsX20).all (fun w => decide (w ∈ tables_1) && goodWord w) = true := by decide +kernel
  intro w hw
  have h1 := List.all_eq_true.mp h w hw
  simp only [Bool.and_eq_true, decide_eq_true_eq] at h1
  exact mg_in h1.1 h1.2
theorem wcX3 : ∀ w ∈ wsX30, w ∈ mg := by
  have h : (wsX30).all (fun w => decide (w ∈ tables_1) && goodWord w) = true := by decide +kernel
  intro w hw
  have h1 := List.all_eq_true.mp h w hw
  simp only [Bool.and_eq_true, decide_eq_true_eq] at h1
  exact mg_in h1.1 h1.2
theorem wcX4 : ∀ w ∈ wsX40, w ∈ mg := by
  have h : (wsX40).all (fun w => decide (w ∈ tables_1) && goodWord w) = true := by decide +kernel
  intro w hw
  have h1 := List.all_eq_true.mp h w hw
  simp only [Bool.and_eq_true, decide_eq_true_eq] at h1
  exact mg_in h1.1 h1.2
theorem wcX5 : ∀ w ∈ wsX50, w ∈ mg := by
  have h : (wsX50).all (fun w => decide (w ∈ tables_1) && goodWord w) = true := by decide +kernel
  intro w hw
  have h1 := List.all_eq_true.mp h w hw
  simp only [Bool.and_eq_true, decide_eq_true_eq] at h1
  exact mg_in h1.1 h1.2
theorem wcX6 : ∀ w ∈ wsX60, w ∈ mg := by
  have h : (wsX60).all (fun w => decide (w ∈ tables_1) && goodWord w) = true := by decide +kernel
  intro w hw
  have h1 := List.all_eq_true.mp h w hw
  simp only [Bool.and_eq_true, decide_eq_true_eq] at h1
  exact mg_in h1.1 h1.2
theorem wcX7 : ∀ w ∈ wsX70, w ∈ mg := by
  have h : (wsX70).all (fun w => decide (w ∈ tables_1) && goodWord w) = true := by decide +kernel
  intro w hw
  have h1 := List.all_eq_true.mp h w hw
  simp only [Bool.and_eq_true, decide_eq_true_eq] at h1
  exact mg_in h1.1 h1.2
theorem wcX8 : ∀ w ∈ wsX80, w ∈ mg := by
  have h : (wsX80).all (fun w => decide (w ∈ tables_1) && goodWord w) = true := by decide +kernel
  intro w hw
  have h1 := List.all_eq_true.mp h w hw
  simp only [Bool.and_eq_true, decide_eq_true_eq] at h1
  exact mg_in h1.1 h1.2
theorem wcX9 : ∀ w ∈ wsX90, w ∈ mg := by
  have h : (wsX90).all (fun w => decide (w ∈ tables_1) && goodWord w) = true := by decide +kernel
  intro w hw
  have h1 := List.all_eq_true.mp h w hw
  simp only [Bool.and_eq_true, decide_eq_true_eq] at h1
  exact mg_in h1.1 h1.2
end
section
/-! the mini machine: values, memories, worlds -/
abbrev mV : Type := Int ⊕ Int ⊕ Nat ⊕ Nat
abbrev mS : Type := List (Nat × Nat)
abbrev mH : Type := Nat → Nat → Int
abbrev mM : Type := mS × List (List Nat) × mH
abbrev mT : Type := MethodName × ByteArray × Nat × Option FieldType × List (Nat × Instr × Nat)
def inI (x : Int) : Prop := -2147483648 ≤ x ∧ x ≤ 2147483647
def inL (x : Int) : Prop := -9223372036854775808 ≤ x ∧ x ≤ 9223372036854775807
theorem inI_to {x : Int} (h : inI x) : (Int32.ofInt x).toInt = x := Int32.toInt_ofInt_of_le h.1 (Int.lt_of_le_of_lt h.2 (by decide))
theorem inL_to {x : Int} (h : inL x) : (Int64.ofInt x).toInt = x := Int64.toInt_ofInt_of_le h.1 (Int.lt_of_le_of_lt h.2 (by decide))
theorem inI_of (z : Int32) : inI z.toInt := ⟨Int32.le_toInt z, by have := Int32.toInt_lt z; omega⟩
theorem inL_of (z : Int64) : inL z.toInt := ⟨Int64.le_toInt z, by have := Int64.toInt_lt z; omega⟩
theorem inI_cl {x : Int} (h : inI x) : (Int32.ofInt x).toNatClampNeg = x.toNat := Int32.toNatClampNeg_ofInt_of_le h.1 (Int.lt_of_le_of_lt h.2 (by decide))
theorem inI_eq {x y : Int} (hx : inI x) (hy : inI y) : Int32.ofInt x = Int32.ofInt y ↔ x = y := ⟨fun h => by rw [← inI_to hx, ← inI_to hy, h], fun h => by rw [h]⟩
theorem inI_lt {x y : Int} (hx : inI x) (hy : inI y) : Int32.ofInt x < Int32.ofInt y ↔ x < y := by rw [Int32.lt_iff_toInt_lt, inI_to hx, inI_to hy]
theorem inI_le {x y : Int} (hx : inI x) (hy : inI y) : Int32.ofInt x ≤ Int32.ofInt y ↔ x ≤ y := by rw [Int32.le_iff_toInt_le, inI_to hx, inI_to hy]
theorem inL_eq {x y : Int} (hx : inL x) (hy : inL y) : Int64.ofInt x = Int64.ofInt y ↔ x = y := ⟨fun h => by rw [← inL_to hx, ← inL_to hy, h], fun h => by rw [h]⟩
theorem inL_lt {x y : Int} (hx : inL x) (hy : inL y) : Int64.ofInt x < Int64.ofInt y ↔ x < y := by rw [Int64.lt_iff_toInt_lt, inL_to hx, inL_to hy]
theorem inI_vp {x : Int} {n : Nat} (h0 : 0 ≤ x) (h : x < n) (hx : inI x) : vp_in (Int32.ofInt x) n := by
  rw [vp_in_iff, inI_to hx]; exact ⟨h0, h⟩
theorem inI_L {x : Int} (h : inI x) : inL x := ⟨by have := h.1; omega, by have := h.2; omega⟩
def hset (h : mH) (a i : Nat) (v : Int) : mH := fun b j => if b = a then (if j = i then v else h b j) else h b j
theorem hset_ne {h : mH} {a i b : Nat} {v : Int} (hb : b ≠ a) : hset h a i v b = h b := by
  funext j; simp [hset, hb]
def mref (ρ : Nat → Nat) (r : List (List Nat)) (a j : Nat) : Option Nat := match (r.getD a []).getD j 0 with
  | 0 => none
  | b + 1 => some (ρ b)
def mfld (ρ : Nat → Nat) (r : List (List Nat)) (h : mH) (ci a k : Nat) : Value := match mty ci k with
  | .int => .int (Int32.ofInt (h a k))
  | .boolean => .int (Int32.ofInt (h a k))
  | .long => .long (Int64.ofInt (h a k))
  | _ => va_rf (mref ρ r a k)
def mcell (cA : Nat → ClassId) (ρ : Nat → Nat) (r : List (List Nat)) (h : mH) (a : Nat) (q : Nat × Nat) : va_E :=
  if q.1 < 10 then .inr (q.1, (List.range q.2).map (mfld ρ r h q.1 a))
  else if q.1 = 11 then .inl (cA 11, q.2, .inr (.inl (fun j => Int64.ofInt (h a j))))
  else if q.1 < 14 then .inl (cA q.1, q.2, .inl (fun j => Int32.ofInt (h a j)))
  else .inl (cA q.1, q.2, .inr (.inr (.inr (.inr (fun j => mref ρ r a j)))))
def mW (cA : Nat → ClassId) (ρ : Nat → Nat) (M : mM) : va_W := (List.range M.1.length).map (fun a => (ρ a, mcell cA ρ M.2.1 M.2.2 a (M.1.getD a (0, 0))))
theorem mW_len {cA : Nat → ClassId} {ρ : Nat → Nat} {M : mM} : (mW cA ρ M).length = M.1.length := by simp [mW]
theorem mW_at {cA : Nat → ClassId} {ρ : Nat → Nat} {M : mM} {a : Nat} {q : Nat × Nat} (h : M.1[a]? = some q) : (mW cA ρ M)[a]? = some (ρ a, mcell cA ρ M.2.1 M.2.2 a q) := by
  have hl : a < M.1.length := (List.getElem?_eq_some_iff.mp h).1
  simp only [mW, List.getElem?_map, List.getElem?_range hl, Option.map_some, List.getD_eq_getElem?_getD, h, Option.getD_some]
theorem mW_set {cA : Nat → ClassId} {ρ : Nat → Nat} {M M' : mM} {a : Nat} {q : Nat × Nat} (hS : M'.1 = M.1) (ha : M.1[a]? = some q) (ho : ∀ b, b ≠ a → ∀ q', mcell cA ρ M'.2.1 M'.2.2 b q' = mcell cA ρ M.2.1 M.2.2 b q') {e : va_E} (he : e = mcell cA ρ M'.2.1 M'.2.2 a q) : (mW cA ρ M).set a (ρ a, e) = mW cA ρ M' := by
  have hl : a < M.1.length := (List.getElem?_eq_some_iff.mp ha).1
  apply List.ext_getElem?
  intro i
  by_cases hi : i = a
  · subst hi
    rw [List.getElem?_set_self (by rw [mW_len]; exact hl), mW_at (M := M') (q := q) (by rw [hS]; exact ha), he]
  · rw [List.getElem?_set_ne (Ne.symm hi)]
    simp only [mW, List.getElem?_map, hS]
    by_cases hk : i < M.1.length
    · rw [List.getElem?_range hk]
      simp [ho i hi]
    · rw [List.getElem?_eq_none (by simpa using hk)]
      rfl
theorem mcell_h {cA : Nat → ClassId} {ρ : Nat → Nat} {r : List (List Nat)} {h h' : mH} {b : Nat} (e : h' b = h b) (q : Nat × Nat) : mcell cA ρ r h' b q = mcell cA ρ r h b q := by
  have e2 : mfld ρ r h' q.1 b = mfld ρ r h q.1 b := by
    funext k
    simp only [mfld, e]
  simp only [mcell, e, e2]
/-- the ranges of what a memory holds -/
def mrg (kd j : Nat) (x : Int) : Prop := if kd = 11 ∨ (kd < 10 ∧ mty kd j = .long) then inL x else inI x
def mOK (M : mM) : Prop := ∀ (a : Nat) (q : Nat × Nat), M.1[a]? = some q → ∀ j, mrg q.1 j (M.2.2 a j)
theorem mOK_set {S : mS} {r : List (List Nat)} {h : mH} {a i : Nat} {v : Int} (h0 : mOK (S, r, h)) (hv : ∀ q, S[a]? = some q → mrg q.1 i v) : mOK (S, r, hset h a i v) := by
  intro b q hb j
  show mrg q.1 j (hset h a i v b j)
  unfold hset
  by_cases e : b = a
  · subst e
    rw [if_pos rfl]
    by_cases e2 : j = i
    · subst e2
      rw [if_pos rfl]
      exact hv q hb
    · rw [if_neg e2]
      exact h0 b q hb j
  · rw [if_neg e]
    exact h0 b q hb j
def mcv (ρ sa : Nat → Nat) : mV → Value
  | .inl x => .int (Int32.ofInt x)
  | .inr (.inl x) => .long (Int64.ofInt x)
  | .inr (.inr (.inl a)) => .ref (ρ a)
  | .inr (.inr (.inr k)) => .ref (sa k)
def mok : mV → Prop
  | .inl x => inI x
  | .inr (.inl x) => inL x
  | _ => True
/-- locals by their places -/
def mlr (ρ sa : Nat → Nat) (L : Array Slot) (n : Nat) (ls : List (Option mV)) : Prop := L.size = n ∧ lv_wf L ∧ ∀ (i : Nat) (v : mV), ls[i]? = some (some v) → L[i]? = some (.val (mcv ρ sa v)) ∧ mok v
def mll (ρ sa : Nat → Nat) (ls : List (Option mV)) : List (Nat × Value) := (List.range ls.length).filterMap (fun i => (ls.getD i none).map (fun v => (i, mcv ρ sa v)))
theorem mll_mem {ρ sa : Nat → Nat} {ls : List (Option mV)} {q : Nat × Value} : q ∈ mll ρ sa ls ↔ ∃ v, ls[q.1]? = some (some v) ∧ q.2 = mcv ρ sa v := by
  simp only [mll, List.mem_filterMap, List.mem_range]
  constructor
  · rintro ⟨i, hi, h⟩
    rw [List.getD_eq_getElem?_getD] at h
    cases hv : ls[i]? with
    | none => rw [hv] at h; simp at h
    | some o =>
      rw [hv] at h
      cases o with
      | none => simp at h
      | some v =>
        simp at h
        subst h
        exact ⟨v, hv, rfl⟩
  · rintro ⟨v, h1, h2⟩
    refine ⟨q.1, (List.getElem?_eq_some_iff.mp h1).1, ?_⟩
    rw [List.getD_eq_getElem?_getD, h1]
    simp [← h2]
theorem mlr_has {ρ sa : Nat → Nat} {L : Array Slot} {n : Nat} {ls : List (Option mV)} (h : mlr ρ sa L n ls) : lv_has L n (mll ρ sa ls) := ⟨h.1, h.2.1, fun q hq => by
  obtain ⟨v, h1, h2⟩ := mll_mem.mp hq
  rw [h2]
  exact (h.2.2 q.1 v h1).1⟩
/-- no long stands just before -/
def mn2 (ls : List (Option mV)) (i : Nat) : Bool := match i with
  | 0 => true
  | j + 1 => match ls[j]? with
    | some (some (.inr (.inl _))) => false
    | _ => true
theorem mcat {ρ sa : Nat → Nat} {v : mV} : (mcv ρ sa v).category = 2 → ∃ x, v = .inr (.inl x) := by
  intro h
  rcases v with x | x | x | x
  · simp [mcv, Value.category] at h
  · exact ⟨x, rfl⟩
  · simp [mcv, Value.category] at h
  · simp [mcv, Value.category] at h
theorem mlr_st1 {ρ sa : Nat → Nat} {L : Array Slot} {n i : Nat} {ls : List (Option mV)} {v : mV} (h : mlr ρ sa L n ls) (hv : mok v) (h2 : mn2 ls i = true) {L' : Array Slot} (hL : lv_has L' n ((i, mcv ρ sa v) :: (mll ρ sa ls).filter (fun q => !(q.1 == i) && !(q.1 + 1 == i && q.2.category == 2)))) : mlr ρ sa L' n (ls.set i (some v)) := by
  refine ⟨hL.1, hL.2.1, fun j w hj => ?_⟩
  by_cases e : j = i
  · subst e
    have hl : j < (ls.set j (some v)).length := (List.getElem?_eq_some_iff.mp hj).1
    rw [List.length_set] at hl
    rw [List.getElem?_set_self hl] at hj
    cases hj
    exact ⟨hL.2.2 (j, mcv ρ sa v) List.mem_cons_self, hv⟩
  · rw [List.getElem?_set_ne (Ne.symm e)] at hj
    refine ⟨hL.2.2 (j, mcv ρ sa w) (List.mem_cons_of_mem _ (List.mem_filter.mpr ⟨mll_mem.mpr ⟨w, hj, rfl⟩, ?_⟩)), (h.2.2 j w hj).2⟩
    simp only [Bool.and_eq_true, Bool.not_eq_true', beq_eq_false_iff_ne, ne_eq, Bool.and_eq_false_iff]
    refine ⟨e, ?_⟩
    by_cases e2 : j + 1 = i
    · right
      intro hc
      obtain ⟨x, rfl⟩ := mcat hc
      subst e2
      simp [mn2, hj] at h2
    · exact Or.inl e2
theorem mlr_st2 {ρ sa : Nat → Nat} {L : Array Slot} {n i : Nat} {ls : List (Option mV)} {v : mV} (h : mlr ρ sa L n ls) (hv : mok v) (h2 : mn2 ls i = true) {L' : Array Slot} (hL : lv_has L' n ((i, mcv ρ sa v) :: (mll ρ sa ls).filter (fun q => !(q.1 == i) && (!(q.1 == i + 1) && !(q.1 + 1 == i && q.2.category == 2))))) : mlr ρ sa L' n ((ls.set i (some v)).set (i + 1) none) := by
  refine ⟨hL.1, hL.2.1, fun j w hj => ?_⟩
  by_cases e1 : j = i + 1
  · subst e1
    have hl : i + 1 < ((ls.set i (some v)).set (i + 1) none).length := (List.getElem?_eq_some_iff.mp hj).1
    rw [List.length_set] at hl
    rw [List.getElem?_set_self hl] at hj
    cases hj
  · rw [List.getElem?_set_ne (Ne.symm e1)] at hj
    by_cases e : j = i
    · subst e
      have hl : j < (ls.set j (some v)).length := (List.getElem?_eq_some_iff.mp hj).1
      rw [List.length_set] at hl
      rw [List.getElem?_set_self hl] at hj
      cases hj
      exact ⟨hL.2.2 (j, mcv ρ sa v) List.mem_cons_self, hv⟩
    · rw [List.getElem?_set_ne (Ne.symm e)] at hj
      refine ⟨hL.2.2 (j, mcv ρ sa w) (List.mem_cons_of_mem _ (List.mem_filter.mpr ⟨mll_mem.mpr ⟨w, hj, rfl⟩, ?_⟩)), (h.2.2 j w hj).2⟩
      simp only [Bool.and_eq_true, Bool.not_eq_true', beq_eq_false_iff_ne, ne_eq, Bool.and_eq_false_iff]
      refine ⟨e, e1, ?_⟩
      by_cases e2 : j + 1 = i
      · right
        intro hc
        obtain ⟨x, rfl⟩ := mcat hc
        subst e2
        simp [mn2, hj] at h2
      · exact Or.inl e2
end
section
/-! what of the start stays true: classes, nest links, array classes, constants -/
def mAO (t : FieldType) (U : State) : Prop := (Cond.arrayOver (.array t)).before #[] U = true
theorem mAO_spec {U : State} {t : FieldType} (h : mAO t U) :
    ∃ comp c k, U.vm.findClass (FieldType.array t).toString = some comp ∧ (U.vm.classes.findIdx? fun (x : Class) => match x.kind with | .array component _ => component == comp | _ => false) = some c ∧ U.vm.classes[c]? = some k ∧ k.kind = .array comp (.array t) ∧ U.vm.findClass ("[" ++ (FieldType.array t).toString) = some c := by
  unfold mAO Cond.before at h
  simp only [Cond.holds, Cond.value, beq_iff_eq] at h
  cases hc : U.vm.findClass (FieldType.array t).toString with
  | none => simp [hc] at h
  | some comp =>
    simp only [hc, Option.bind_some, Option.bind_eq_some_iff, Option.map_eq_some_iff] at h
    obtain ⟨c, hi, k, hk, hb⟩ := h
    obtain ⟨hlt, hp, -⟩ := Array.findIdx?_eq_some_iff_getElem.mp hi
    have hkk : U.vm.classes[c] = k := (Array.getElem?_eq_some_iff.mp hk).2
    rw [hkk] at hp
    cases hkind : k.kind with
    | array component ty =>
      rw [hkind] at hb hp
      simp at hb hp
      exact ⟨comp, c, k, rfl, hi, hk, by rw [hkind, hp, hb.1], hb.2⟩
    | _ => rw [hkind] at hb; simp at hb
theorem mAO.moved {t : FieldType} {u U : State} (hvm : u.vm.Alike U.vm) (h : mAO t u) : mAO t U := by
  obtain ⟨comp, c, k, h1, h2, h3, h4, h5⟩ := mAO_spec h
  obtain ⟨k', hk', he⟩ := hvm.2.2 _ _ h3
  have hi : (U.vm.classes.findIdx? fun (x : Class) => match x.kind with | .array component _ => component == comp | _ => false) = some c := by
    have e1 := va_idx_bare U.vm comp
    have e2 := va_idx_bare u.vm comp
    rw [hvm.bare_eq] at e1
    exact e1.symm.trans (e2.trans h2)
  have hkind : k'.kind = .array comp (.array t) := by rw [he]; exact h4
  have f1 : U.vm.findClass (FieldType.array t).toString = some comp := by rw [hvm.findClass]; exact h1
  have f2 : U.vm.findClass ("[" ++ (FieldType.array t).toString) = some c := by rw [hvm.findClass]; exact h5
  unfold mAO Cond.before Cond.holds
  simp only [Cond.value]
  rw [f1, Option.bind_some]
  refine (congrArg (fun o : Option Nat => (o.bind (fun c => (U.vm.classes[c]?).map fun (k : Class) => match k.kind with | .array _ ty => decide (ty = FieldType.array t) && decide (U.vm.findClass ("[" ++ (FieldType.array t).toString) = some c) | _ => false) == some true)) hi).trans ?_
  simp [hk', hkind, f2]
def mtys (cA : Nat → ClassId) : List (ClassId × FieldType) := [(cA 10, .int), (cA 11, .long), (cA 12, .char), (cA 13, .boolean), (cA 14, .array .int), (cA 15, .array .long), (cA 16, .object "MondayDeal$State")]
def mNl : List (String × Nat × MethodName × String) := [("MondayDeal", 9, ⟨"MondayDeal$Text", "<init>", "()V"⟩, "MondayDeal"), ("MondayDeal", 18, ⟨"MondayDeal$Told", "<init>", "()V"⟩, "MondayDeal"), ("MondayDeal", 28, ⟨"MondayDeal$Orders", "<init>", "()V"⟩, "MondayDeal"), ("MondayDeal", 35, ⟨"MondayDeal$Outlook", "<init>", "()V"⟩, "MondayDeal"), ("MondayDeal", 42, ⟨"MondayDeal$State", "<init>", "()V"⟩, "MondayDeal"), ("MondayDeal$Past", 17, ⟨"MondayDeal$State", "<init>", "()V"⟩, "MondayDeal"), ("MondayDeal", 64, ⟨"MondayDeal$Bets", "<init>", "()V"⟩, "MondayDeal"), ("MondayDeal", 71, ⟨"MondayDeal$Facts", "<init>", "()V"⟩, "MondayDeal"), ("MondayDeal$Orders", 27, ⟨"MondayDeal", "isDay", "(I)Z"⟩, "MondayDeal")]
/-- the String constants: entry, text; their bytes -/
def mSt : List (Nat × String) := [(39, "calendar"), (50, "free"), (55, "idle"), (60, "work"), (66, "feast"), (68, "behind"), (86, "plain"), (88, "double"), (90, "short"), (92, "fast"), (94, "first"), (96, "beside"), (98, "ahead")]
def mSb : List (List Int32) := [[99, 97, 108, 101, 110, 100, 97, 114], [102, 114, 101, 101], [105, 100, 108, 101], [119, 111, 114, 107], [102, 101, 97, 115, 116], [98, 101, 104, 105, 110, 100], [112, 108, 97, 105, 110], [100, 111, 117, 98, 108, 101], [115, 104, 111, 114, 116], [102, 97, 115, 116], [102, 105, 114, 115, 116], [98, 101, 115, 105, 100, 101], [97, 104, 101, 97, 100]]
def mSl : List Nat := [8, 4, 4, 4, 5, 6, 5, 6, 5, 4, 5, 6, 5]
/-- Outlook's LANES -/
def mLn : List Int := [-6148914691236517206, -3689348814741910324, -1085102592571150096, -71777214294589696, -281470681808896, -4294967296]
def mEn (D : va_G) (cA sa : Nat → Nat) (A : Nat → Prop) (U : State) (H : Heap) : Prop :=
  va_K D mcl (mtys cA) U ∧ (∀ q ∈ mNl, va_Nw (.methodLinkNest q.1 q.2.1 q.2.2.1 q.2.2.2) U) ∧ va_AO "MondayDeal$State" U ∧ mAO .int U ∧ mAO .long U ∧
  (∀ (k : Nat) (q : Nat × String), mSt[k]? = some q → vk_R "MondayDeal$Text" q.1 q.2 (sa k) U) ∧ (∃ adV : Nat → Nat, vk_S 13 mSl mSb sa adV A U H) ∧ va_Z "java/lang/String" "COMPACT_STRINGS" "Z" (.int 1) A U H ∧ va_Zq "jdk/internal/util/Preconditions" "SIOOBE_FORMATTER" "Ljava/util/function/BiFunction;" A U H ∧
  va_Z "MondayDeal$Outlook" "LANES" "[J" (.ref (sa 13)) A U H ∧ va_T .long (sa 13) 6 (fun j => .long (Int64.ofInt (mLn.getD j 0))) A U H
theorem mEn.warm {D : va_G} {cA sa : Nat → Nat} {A : Nat → Prop} {s U : State} {H : Heap} (hW : s.WarmedH U.vm) (h : mEn D cA sa A s H) : mEn D cA sa A U H := by
  obtain ⟨h1, h2, h3, h4, h5, h6, ⟨adV, h7⟩, h8, h9, h10, h11⟩ := h
  have al := hW.alike
  exact ⟨va_K.moved al h1, fun q hq => va_Nw.warmM hW (h2 q hq), va_AO.moved al h3, mAO.moved al h4, mAO.moved al h5, fun k q hq => vk_R.warm hW (h6 k q hq), ⟨adV, vk_S.moved al h7⟩, va_Z.moved al h8, va_Zq.moved al h9, va_Z.moved al h10, va_T.moved al h11⟩
theorem mEn.same {D : va_G} {cA sa : Nat → Nat} {A : Nat → Prop} {s U : State} {H : Heap} (hv : U.vm = s.vm) (h : mEn D cA sa A s H) : mEn D cA sa A U H := by
  obtain ⟨h1, h2, h3, h4, h5, h6, ⟨adV, h7⟩, h8, h9, h10, h11⟩ := h
  have al : s.vm.Alike U.vm := by rw [hv]; exact Vm.Alike.refl _
  exact ⟨va_K.moved al h1, fun q hq => va_Nw.same rfl hv.symm (h2 q hq), va_AO.moved al h3, mAO.moved al h4, mAO.moved al h5, fun k q hq => vk_R.same hv (h6 k q hq), ⟨adV, vk_S.moved al h7⟩, va_Z.moved al h8, va_Zq.moved al h9, va_Z.moved al h10, va_T.moved al h11⟩
theorem mEn.kept {D : va_G} {cA sa : Nat → Nat} {A : Nat → Prop} {s : State} {H H1 : Heap} (h : mEn D cA sa A s H) (hq : ∀ a : Nat, a < H.size → ¬ A a → H1[a]? = H[a]?) : mEn D cA sa A s H1 := by
  obtain ⟨h1, h2, h3, h4, h5, h6, ⟨adV, h7⟩, h8, h9, h10, h11⟩ := h
  exact ⟨h1, h2, h3, h4, h5, h6, ⟨adV, h7.kept hq⟩, h8.kept hq, h9.kept hq, h10.kept hq, h11.kept hq⟩
theorem mEn.narrow {D : va_G} {cA sa : Nat → Nat} {A B : Nat → Prop} {s : State} {H : Heap} (h : mEn D cA sa A s H) (hAB : ∀ q, B q → A q) : mEn D cA sa B s H := by
  obtain ⟨h1, h2, h3, h4, h5, h6, ⟨adV, h7⟩, h8, h9, h10, h11⟩ := h
  exact ⟨h1, h2, h3, h4, h5, h6, ⟨adV, h7.narrow hAB⟩, h8.narrow hAB, h9.narrow hAB, h10.narrow hAB, h11.narrow hAB⟩
/-! the judgement -/
def mwy (mt : mT) : List Cond := Cond.code mt.1 mt.2.1 mt.2.2.1 mt.2.2.2.1 :: mg
def mtOK (mt : mT) (n : Nat) : Prop := Cond.code mt.1 mt.2.1 mt.2.2.1 mt.2.2.2.1 ∈ mg ∧ Cond.initialized mt.1.cls ∈ mg ∧ plainName mt.1.cls = true ∧ (mt.1.cls ≠ "java/lang/invoke/MethodHandle" ∧ mt.1.cls ≠ "java/lang/invoke/VarHandle" ∧ (parseMethodDescriptor mt.1.desc).map (fun d => d.parameters.length) = some n) ∧ (∀ q ∈ mt.2.2.2.2, decode mt.2.1 q.1 = .ok q.2) ∧ mt.2.2.1 ≤ 20
def mcd (mt : mT) (pc : Nat) : Option (Instr × Nat) := (mt.2.2.2.2.find? (fun q => q.1 == pc)).map (fun q => q.2)
def mCx (mt : mT) (d : Nat) (D : va_G) (cA sa : Nat → Nat) (p : Program) (R : Room) (s : State) (m : MethodId) (args : Array Value) (meth : Method) (c : Code) (A : Nat → Prop) : Prop :=
  p.tables.exec = Jvm.exec ∧ c.code = mt.2.1 ∧ meth.sig.returnType = mt.2.2.2.1 ∧ meth.locks = false ∧ c.maxLocals = mt.2.2.1 ∧ s.vm.findClass mt.1.cls = some m.cls ∧ meth.name = mt.1.name ∧ (∀ w ∈ mwy mt, w.before args s = true) ∧ mEn D cA sa A s s.heap ∧ d ≤ R.frames ∧ 64 * d ≤ R.locals ∧ (∀ q, s.heap.size ≤ q → A q) ∧ ∀ q ∈ mt.2.2.2.2, decode mt.2.1 q.1 = .ok q.2
def mRl (mt : mT) (D : va_G) (cA sa : Nat → Nat) (A : Nat → Prop) (s : State) (R : Room) (ρ0 : Nat → Nat) (n0 : Nat) (b : Nat × Nat) (ρ : Nat → Nat) (L : Array Slot) (H : Heap) (locs : List Loc) (cells slots : Nat) (ls : List (Option mV)) (st : List mV) (M : mM) : Prop :=
  ((∀ a, a < n0 → ρ a = ρ0 a) ∧ (M.1.length = n0 → ρ = ρ0)) ∧ n0 ≤ M.1.length ∧ mlr ρ sa L mt.2.2.1 ls ∧ (∀ v ∈ st, mok v) ∧ va_P D mcl (mW cA ρ M) H ∧ va_D A (mW cA ρ M) ∧ va_S A s.heap H locs ∧ mOK M ∧ cells + b.1 ≤ R.cells ∧ slots + b.2 ≤ R.slots
def mQc (D : va_G) (cA sa : Nat → Nat) (ρ0 : Nat → Nat) (n0 : Nat) (A : Nat → Prop) (Q : Option mV → mM → Prop) : Array Value → State → Outcome → State → Prop := fun _ st oc t =>
  (∃ (v : Option mV) (M : mM) (ρ : Nat → Nat), ((∀ a, a < n0 → ρ a = ρ0 a) ∧ (M.1.length = n0 → ρ = ρ0)) ∧ n0 ≤ M.1.length ∧ oc = .returned (v.map (mcv ρ sa)) ∧ Q v M ∧ mOK M ∧ (∀ x, v = some x → mok x) ∧ va_P D mcl (mW cA ρ M) t.heap ∧ va_D A (mW cA ρ M)) ∧ va_F A st t
def WP (l : Launch) (mt : mT) (d : Nat) (b : Nat × Nat) (pc : Nat) (ls : List (Option mV)) (st : List mV) (M : mM) (Q : Option mV → mM → Prop) : Prop :=
  ∀ (D : va_G) (cA sa : Nat → Nat) (p : Program) (e : Env) (R : Room) (s : State) (m : MethodId) (args : Array Value) (below : List Frame) (meth : Method) (c : Code) (A : Nat → Prop) (ρ0 : Nat → Nat) (n0 : Nat), mCx mt d D cA sa p R s m args meth c A →
  ∀ (ρ : Nat → Nat) (L : Array Slot) (H : Heap) (locs : List Loc) (cells slots : Nat), mRl mt D cA sa A s R ρ0 n0 b ρ L H locs cells slots ls st M →
  W p l e R s m args below meth c H locs cells slots (MQ below (mQc D cA sa ρ0 n0 A Q) args s R.cells R.slots A) (F0 m pc L (st.map (mcv ρ sa)))
/-- a method's contract -/
def Ev (l : Launch) (mt : mT) (d : Nat) (b : Nat × Nat) (as : List mV) (M : mM) (Q : Option mV → mM → Prop) : Prop :=
  (∀ v ∈ as, mok v) → mOK M → ∀ (D : va_G) (cA sa ρ : Nat → Nat) (sz : Nat),
  Met l mt.1 (mwy mt) ({ frames := d, cells := b.1, slots := b.2, locals := 64 * d }) (va_Pc (as.map (mcv ρ sa)) (fun U => U.heap.size = sz ∧ va_P D mcl (mW cA ρ M) U.heap ∧ mEn D cA sa (va_A (mW cA ρ M) sz) U U.heap ∧ va_D (fun _ => True) (mW cA ρ M))) (mQc D cA sa ρ M.1.length (va_A (mW cA ρ M) sz) Q) b.1 b.2 (va_A (mW cA ρ M) sz)
/-- the locals at a method's entry -/
def mla : List mV → List (Option mV)
  | [] => []
  | .inr (.inl x) :: r => some (.inr (.inl x)) :: none :: mla r
  | v :: r => some v :: mla r
theorem mcd_in {mt : mT} {pc len : Nat} {i : Instr} (h : mcd mt pc = some (i, len)) : ∃ q ∈ mt.2.2.2.2, q.1 = pc ∧ q.2 = (i, len) := by
  unfold mcd at h
  cases hf : mt.2.2.2.2.find? (fun q => q.1 == pc) with
  | none => rw [hf] at h; cases h
  | some q =>
    rw [hf] at h
    have h1 := List.find?_some hf
    exact ⟨q, List.mem_of_find?_eq_some hf, by simpa using h1, Option.some.inj h⟩
theorem mCx.dec {mt : mT} {d : Nat} {D : va_G} {cA sa : Nat → Nat} {p : Program} {R : Room} {s : State} {m : MethodId} {args : Array Value} {meth : Method} {c : Code} {A : Nat → Prop} (hC : mCx mt d D cA sa p R s m args meth c A) {pc len : Nat} {i : Instr} (h : mcd mt pc = some (i, len)) : decode mt.2.1 pc = .ok (i, len) := by
  obtain ⟨q, h1, h2, h3⟩ := mcd_in h
  have := hC.2.2.2.2.2.2.2.2.2.2.2.2 q h1
  rw [h2, h3] at this
  exact this
end
section
/-! numbers: Java's ints and longs as Int, wrapped -/
def i32 (x : Int) : Int := (Int32.ofInt x).toInt
def i64 (x : Int) : Int := (Int64.ofInt x).toInt
theorem i32_in (x : Int) : inI (i32 x) := inI_of _
theorem i64_in (x : Int) : inL (i64 x) := inL_of _
theorem i32_eq {x : Int} (h1 : -2147483648 ≤ x) (h2 : x ≤ 2147483647) : i32 x = x := inI_to ⟨h1, h2⟩
theorem i64_eq {x : Int} (h1 : -9223372036854775808 ≤ x) (h2 : x ≤ 9223372036854775807) : i64 x = x := inL_to ⟨h1, h2⟩
theorem i32_of (x : Int) : Int32.ofInt (i32 x) = Int32.ofInt x := Int32.ofInt_toInt _
theorem i64_of (x : Int) : Int64.ofInt (i64 x) = Int64.ofInt x := Int64.ofInt_toInt _
def jadd (x y : Int) : Int := i32 (x + y)
def jsub (x y : Int) : Int := i32 (x - y)
def jmul (x y : Int) : Int := i32 (x * y)
def jdiv (x y : Int) : Int := (Int32.ofInt x / Int32.ofInt y).toInt
def jrem (x y : Int) : Int := (Int32.ofInt x - Int32.ofInt x / Int32.ofInt y * Int32.ofInt y).toInt
def jand (x y : Int) : Int := (Int32.ofInt x &&& Int32.ofInt y).toInt
def jor (x y : Int) : Int := (Int32.ofInt x ||| Int32.ofInt y).toInt
def jxor (x y : Int) : Int := (Int32.ofInt x ^^^ Int32.ofInt y).toInt
def jshl (x y : Int) : Int := (Int32.ofInt x <<< (Int32.ofInt y &&& 31)).toInt
def jshr (x y : Int) : Int := (Int32.ofInt x >>> (Int32.ofInt y &&& 31)).toInt
def jushr (x y : Int) : Int := ((Int32.ofInt x).toUInt32 >>> ((Int32.ofInt y).toUInt32 &&& Int32.toUInt32 31)).toInt32.toInt
def jchr (x : Int) : Int := ((Int32.ofInt x).toUInt32 % 65536).toInt32.toInt
def kadd (x y : Int) : Int := i64 (x + y)
def ksub (x y : Int) : Int := i64 (x - y)
def kmul (x y : Int) : Int := i64 (x * y)
def kdiv (x y : Int) : Int := (Int64.ofInt x / Int64.ofInt y).toInt
def krem (x y : Int) : Int := (Int64.ofInt x - Int64.ofInt x / Int64.ofInt y * Int64.ofInt y).toInt
def kand (x y : Int) : Int := (Int64.ofInt x &&& Int64.ofInt y).toInt
def kor (x y : Int) : Int := (Int64.ofInt x ||| Int64.ofInt y).toInt
def kxor (x y : Int) : Int := (Int64.ofInt x ^^^ Int64.ofInt y).toInt
def kshl (x y : Int) : Int := (Int64.ofInt x <<< ((Int32.ofInt y).toInt64 &&& 63)).toInt
def kushr (x y : Int) : Int := ((Int64.ofInt x).toUInt64 >>> ((Int32.ofInt y).toInt64.toUInt64 &&& Int64.toUInt64 63)).toInt64.toInt
def kcmp (x y : Int) : Int := if y < x then 1 else if x = y then 0 else -1
theorem jadd_of (x y : Int) : Int32.ofInt (jadd x y) = Int32.ofInt x + Int32.ofInt y := (i32_of _).trans (Int32.ofInt_add _ _)
theorem jsub_of (x y : Int) : Int32.ofInt (jsub x y) = Int32.ofInt x - Int32.ofInt y := (i32_of _).trans (Int32.ofInt_sub _ _)
theorem jmul_of (x y : Int) : Int32.ofInt (jmul x y) = Int32.ofInt x * Int32.ofInt y := (i32_of _).trans (Int32.ofInt_mul _ _)
theorem kadd_of (x y : Int) : Int64.ofInt (kadd x y) = Int64.ofInt x + Int64.ofInt y := (i64_of _).trans (Int64.ofInt_add _ _)
theorem ksub_of (x y : Int) : Int64.ofInt (ksub x y) = Int64.ofInt x - Int64.ofInt y := (i64_of _).trans (Int64.ofInt_sub _ _)
theorem kmul_of (x y : Int) : Int64.ofInt (kmul x y) = Int64.ofInt x * Int64.ofInt y := (i64_of _).trans (Int64.ofInt_mul _ _)
theorem kcmp_of {x y : Int} (hx : inL x) (hy : inL y) : Int32.ofInt (kcmp x y) = lg_cmp (Int64.ofInt x) (Int64.ofInt y) := by
  unfold kcmp lg_cmp
  by_cases h : y < x
  · rw [if_pos h, if_pos ((inL_lt hy hx).mpr h)]; rfl
  · rw [if_neg h, if_neg (fun q => h ((inL_lt hy hx).mp q))]
    by_cases h2 : x = y
    · rw [if_pos h2, if_pos ((inL_eq hx hy).mpr h2)]; rfl
    · rw [if_neg h2, if_neg (fun q => h2 ((inL_eq hx hy).mp q))]; rfl
theorem kcmp_in (x y : Int) : inI (kcmp x y) := by
  unfold kcmp inI
  split
  · omega
  · split <;> omega
theorem i2l_of {x : Int} (h : inI x) : (Int32.ofInt x).toInt64 = Int64.ofInt x := Int32.toInt64_ofInt h.1 h.2
theorem okc {v : mV} {st : List mV} (h : mok v) (hs : ∀ w ∈ st, mok w) : ∀ w ∈ v :: st, mok w := fun w hw => by
  rcases List.mem_cons.mp hw with rfl | hw
  · exact h
  · exact hs w hw
theorem okt {v : mV} {st : List mV} (hs : ∀ w ∈ v :: st, mok w) : ∀ w ∈ st, mok w := fun w hw => hs w (List.mem_cons_of_mem _ hw)
theorem okh {v : mV} {st : List mV} (hs : ∀ w ∈ v :: st, mok w) : mok v := hs v List.mem_cons_self
section CX
variable {mt : mT} {d : Nat} {D : va_G} {cA sa : Nat → Nat} {p : Program} {R : Room} {s : State} {m : MethodId} {args : Array Value} {meth : Method} {c : Code} {A : Nat → Prop}
theorem mCx.own (h : mCx mt d D cA sa p R s m args meth c A) : s.vm.findClass mt.1.cls = some m.cls := h.2.2.2.2.2.1
theorem mCx.wd (h : mCx mt d D cA sa p R s m args meth c A) {w : Cond} (hw : w ∈ mg) : w.before args s = true := h.2.2.2.2.2.2.2.1 w (List.mem_cons_of_mem _ hw)
theorem mCx.wds (h : mCx mt d D cA sa p R s m args meth c A) : ∀ w ∈ mwy mt, w.before args s = true := h.2.2.2.2.2.2.2.1
theorem mCx.en (h : mCx mt d D cA sa p R s m args meth c A) : mEn D cA sa A s s.heap := h.2.2.2.2.2.2.2.2.1
theorem mCx.K (h : mCx mt d D cA sa p R s m args meth c A) : va_K D mcl (mtys cA) s := h.en.1
theorem mCx.mx (h : mCx mt d D cA sa p R s m args meth c A) : c.maxLocals = mt.2.2.1 := h.2.2.2.2.1
theorem mCx.fr (h : mCx mt d D cA sa p R s m args meth c A) : d ≤ R.frames := h.2.2.2.2.2.2.2.2.2.1
theorem mCx.lo (h : mCx mt d D cA sa p R s m args meth c A) : 64 * d ≤ R.locals := h.2.2.2.2.2.2.2.2.2.2.1
theorem mCx.ha (h : mCx mt d D cA sa p R s m args meth c A) : ∀ q, s.heap.size ≤ q → A q := h.2.2.2.2.2.2.2.2.2.2.2.1
end CX
section WR
variable {l : Launch} {mt : mT} {d : Nat} {b : Nat × Nat} {pc pc' i : Nat} {ls : List (Option mV)} {st st' : List mV} {M : mM} {Q : Option mV → mM → Prop} {x y n : Int} {a : Nat}
theorem WP_st (hok : (∀ v ∈ st, mok v) → (∀ (i : Nat) (v : mV), ls[i]? = some (some v) → mok v) → ∀ v ∈ st', mok v)
    (hs : ∀ (D : va_G) (cA sa : Nat → Nat) (p : Program) (e : Env) (R : Room) (s : State) (m : MethodId) (args : Array Value) (below : List Frame) (meth : Method) (c : Code) (A : Nat → Prop) (ρ : Nat → Nat) (L : Array Slot) (H : Heap) (locs : List Loc) (cells slots : Nat) (Q' : State → Prop), mCx mt d D cA sa p R s m args meth c A → mlr ρ sa L mt.2.2.1 ls → (∀ v ∈ st, mok v) → W p l e R s m args below meth c H locs cells slots Q' (F0 m pc' L (st'.map (mcv ρ sa))) → W p l e R s m args below meth c H locs cells slots Q' (F0 m pc L (st.map (mcv ρ sa))))
    (k : WP l mt d b pc' ls st' M Q) : WP l mt d b pc ls st M Q := by
  intro D cA sa p e R s m args below meth c A ρ0 n0 hC ρ L H locs cells slots hR
  obtain ⟨h1, h2, h3, h4, h5, h6, h7, h8, h9, h10⟩ := hR
  exact hs D cA sa p e R s m args below meth c A ρ L H locs cells slots _ hC h3 h4 (k D cA sa p e R s m args below meth c A ρ0 n0 hC ρ L H locs cells slots ⟨h1, h2, h3, hok h4 (fun i v hv => (h3.2.2 i v hv).2), h5, h6, h7, h8, h9, h10⟩)
theorem WP_ls {ls' : List (Option mV)}
    (hs : ∀ (D : va_G) (cA sa : Nat → Nat) (p : Program) (e : Env) (R : Room) (s : State) (m : MethodId) (args : Array Value) (below : List Frame) (meth : Method) (c : Code) (A : Nat → Prop) (ρ : Nat → Nat) (L : Array Slot) (H : Heap) (locs : List Loc) (cells slots : Nat) (Q' : State → Prop), mCx mt d D cA sa p R s m args meth c A → mlr ρ sa L mt.2.2.1 ls → (∀ v ∈ st, mok v) → (∀ L', mlr ρ sa L' mt.2.2.1 ls' → W p l e R s m args below meth c H locs cells slots Q' (F0 m pc' L' (st'.map (mcv ρ sa)))) → W p l e R s m args below meth c H locs cells slots Q' (F0 m pc L (st.map (mcv ρ sa))))
    (hok : (∀ v ∈ st, mok v) → ∀ v ∈ st', mok v)
    (k : WP l mt d b pc' ls' st' M Q) : WP l mt d b pc ls st M Q := by
  intro D cA sa p e R s m args below meth c A ρ0 n0 hC ρ L H locs cells slots hR
  obtain ⟨h1, h2, h3, h4, h5, h6, h7, h8, h9, h10⟩ := hR
  exact hs D cA sa p e R s m args below meth c A ρ L H locs cells slots _ hC h3 h4 (fun L' hL' => k D cA sa p e R s m args below meth c A ρ0 n0 hC ρ L' H locs cells slots ⟨h1, h2, hL', hok h4, h5, h6, h7, h8, h9, h10⟩)
theorem WP_iconst (hd : mcd mt pc = some (.iconst n, 1)) (hn : inI n) (k : WP l mt d b (pc + 1) ls (.inl n :: st) M Q) : WP l mt d b pc ls (st) M Q :=
  WP_st (st' := .inl n :: st) (st := st) (fun h hL => okc hn h) (fun D cA sa p e R s m args below meth c A ρ L H locs cells slots Q2 hC hl ho k => lv_iconst hC.1 hC.2.1 (hC.dec hd) rfl k) k
theorem WP_bipush (hd : mcd mt pc = some (.bipush n, 2)) (hn : inI n) (hv : (Int8.ofInt n).toInt32 = Int32.ofInt n) (k : WP l mt d b (pc + 2) ls (.inl n :: st) M Q) : WP l mt d b pc ls (st) M Q :=
  WP_st (st' := .inl n :: st) (st := st) (fun h hL => okc hn h) (fun D cA sa p e R s m args below meth c A ρ L H locs cells slots Q2 hC hl ho k => lv_bipush hC.1 hC.2.1 (hC.dec hd) hv k) k
theorem WP_sipush (hd : mcd mt pc = some (.sipush n, 3)) (hn : inI n) (hv : (Int16.ofInt n).toInt32 = Int32.ofInt n) (k : WP l mt d b (pc + 3) ls (.inl n :: st) M Q) : WP l mt d b pc ls (st) M Q :=
  WP_st (st' := .inl n :: st) (st := st) (fun h hL => okc hn h) (fun D cA sa p e R s m args below meth c A ρ L H locs cells slots Q2 hC hl ho k => lv_sipush hC.1 hC.2.1 (hC.dec hd) hv k) k
theorem WP_lconst {q : Fin 2} (hd : mcd mt pc = some (.lconst q, 1)) (hn : inL n) (hv : Int64.ofNat (q : Nat) = Int64.ofInt n) (k : WP l mt d b (pc + 1) ls (.inr (.inl n) :: st) M Q) : WP l mt d b pc ls (st) M Q :=
  WP_st (st' := .inr (.inl n) :: st) (st := st) (fun h hL => okc hn h) (fun D cA sa p e R s m args below meth c A ρ L H locs cells slots Q2 hC hl ho k => lv_lconst hC.1 hC.2.1 (hC.dec hd) hv k) k
theorem WP_ldc {idx : Nat} {v : Int32} (hd : mcd mt pc = some (.ldc idx, 2)) (hw : Cond.constant mt.1.cls idx v ∈ mg) (hn : inI n) (hv : v = Int32.ofInt n) (k : WP l mt d b (pc + 2) ls (.inl n :: st) M Q) : WP l mt d b pc ls (st) M Q :=
  WP_st (st' := .inl n :: st) (st := st) (fun h hL => okc hn h) (fun D cA sa p e R s m args below meth c A ρ L H locs cells slots Q2 hC hl ho k => lv_ldc hC.1 hC.2.1 hC.own (hv ▸ hC.wd hw) (hC.dec hd) k) k
theorem WP_ldcw {idx : Nat} {v : Int32} (hd : mcd mt pc = some (.ldc_w idx, 3)) (hw : Cond.constant mt.1.cls idx v ∈ mg) (hn : inI n) (hv : v = Int32.ofInt n) (k : WP l mt d b (pc + 3) ls (.inl n :: st) M Q) : WP l mt d b pc ls (st) M Q :=
  WP_st (st' := .inl n :: st) (st := st) (fun h hL => okc hn h) (fun D cA sa p e R s m args below meth c A ρ L H locs cells slots Q2 hC hl ho k => lv_ldcw hC.1 hC.2.1 hC.own (hv ▸ hC.wd hw) (hC.dec hd) k) k
theorem WP_ldc2 {idx : Nat} {v : Int64} (hd : mcd mt pc = some (.ldc2_w idx, 3)) (hw : Cond.constantLong mt.1.cls idx v ∈ mg) (hn : inL n) (hv : v = Int64.ofInt n) (k : WP l mt d b (pc + 3) ls (.inr (.inl n) :: st) M Q) : WP l mt d b pc ls (st) M Q :=
  WP_st (st' := .inr (.inl n) :: st) (st := st) (fun h hL => okc hn h) (fun D cA sa p e R s m args below meth c A ρ L H locs cells slots Q2 hC hl ho k => lv_ldc2 hC.1 hC.2.1 hC.own (hv ▸ hC.wd hw) (hC.dec hd) k) k
theorem WP_iload_n {q : Fin 4} (hd : mcd mt pc = some (.iload_n q, 1)) (hi : (q : Nat) = i) (hv : ls[i]? = some (some (.inl x))) (k : WP l mt d b (pc + 1) ls (.inl x :: st) M Q) : WP l mt d b pc ls (st) M Q :=
  WP_st (st' := .inl x :: st) (st := st) (fun h hL => okc (hL _ _ hv) h) (fun D cA sa p e R s m args below meth c A ρ L H locs cells slots Q2 hC hl ho k => lv_iload_n hC.1 hC.2.1 (hC.dec hd) hi (hl.2.2 _ _ hv).1 k) k
theorem WP_iload (hd : mcd mt pc = some (.iload i, 2)) (hv : ls[i]? = some (some (.inl x))) (k : WP l mt d b (pc + 2) ls (.inl x :: st) M Q) : WP l mt d b pc ls (st) M Q :=
  WP_st (st' := .inl x :: st) (st := st) (fun h hL => okc (hL _ _ hv) h) (fun D cA sa p e R s m args below meth c A ρ L H locs cells slots Q2 hC hl ho k => lv_iload hC.1 hC.2.1 (hC.dec hd) (hl.2.2 _ _ hv).1 k) k
theorem WP_lload_n {q : Fin 4} (hd : mcd mt pc = some (.lload_n q, 1)) (hi : (q : Nat) = i) (hv : ls[i]? = some (some (.inr (.inl x)))) (k : WP l mt d b (pc + 1) ls (.inr (.inl x) :: st) M Q) : WP l mt d b pc ls (st) M Q :=
  WP_st (st' := .inr (.inl x) :: st) (st := st) (fun h hL => okc (hL _ _ hv) h) (fun D cA sa p e R s m args below meth c A ρ L H locs cells slots Q2 hC hl ho k => lv_lload_n hC.1 hC.2.1 (hC.dec hd) hi (hl.2.2 _ _ hv).1 k) k
theorem WP_lload (hd : mcd mt pc = some (.lload i, 2)) (hv : ls[i]? = some (some (.inr (.inl x)))) (k : WP l mt d b (pc + 2) ls (.inr (.inl x) :: st) M Q) : WP l mt d b pc ls (st) M Q :=
  WP_st (st' := .inr (.inl x) :: st) (st := st) (fun h hL => okc (hL _ _ hv) h) (fun D cA sa p e R s m args below meth c A ρ L H locs cells slots Q2 hC hl ho k => lv_lload hC.1 hC.2.1 (hC.dec hd) (hl.2.2 _ _ hv).1 k) k
theorem WP_aload_n {q : Fin 4} (hd : mcd mt pc = some (.aload_n q, 1)) (hi : (q : Nat) = i) (hv : ls[i]? = some (some (.inr (.inr (.inl a))))) (k : WP l mt d b (pc + 1) ls (.inr (.inr (.inl a)) :: st) M Q) : WP l mt d b pc ls (st) M Q :=
  WP_st (st' := .inr (.inr (.inl a)) :: st) (st := st) (fun h hL => okc (hL _ _ hv) h) (fun D cA sa p e R s m args below meth c A ρ L H locs cells slots Q2 hC hl ho k => lv_aload_n hC.1 hC.2.1 (hC.dec hd) hi (hl.2.2 _ _ hv).1 k) k
theorem WP_aload (hd : mcd mt pc = some (.aload i, 2)) (hv : ls[i]? = some (some (.inr (.inr (.inl a))))) (k : WP l mt d b (pc + 2) ls (.inr (.inr (.inl a)) :: st) M Q) : WP l mt d b pc ls (st) M Q :=
  WP_st (st' := .inr (.inr (.inl a)) :: st) (st := st) (fun h hL => okc (hL _ _ hv) h) (fun D cA sa p e R s m args below meth c A ρ L H locs cells slots Q2 hC hl ho k => lv_aload hC.1 hC.2.1 (hC.dec hd) (hl.2.2 _ _ hv).1 k) k
theorem WP_sload_n {q : Fin 4} (hd : mcd mt pc = some (.aload_n q, 1)) (hi : (q : Nat) = i) (hv : ls[i]? = some (some (.inr (.inr (.inr a))))) (k : WP l mt d b (pc + 1) ls (.inr (.inr (.inr a)) :: st) M Q) : WP l mt d b pc ls (st) M Q :=
  WP_st (st' := .inr (.inr (.inr a)) :: st) (st := st) (fun h hL => okc (hL _ _ hv) h) (fun D cA sa p e R s m args below meth c A ρ L H locs cells slots Q2 hC hl ho k => lv_aload_n hC.1 hC.2.1 (hC.dec hd) hi (hl.2.2 _ _ hv).1 k) k
theorem WP_istore_n {q : Fin 4} (hd : mcd mt pc = some (.istore_n q, 1)) (hi : (q : Nat) = i) (hn : i < mt.2.2.1) (h2 : mn2 ls i = true) (k : WP l mt d b (pc + 1) (ls.set i (some (.inl x))) st M Q) : WP l mt d b pc ls (.inl x :: st) M Q := by
  intro D cA sa p e R s m args below meth c A ρ0 n0 hC ρ L H locs cells slots hR
  obtain ⟨g1, g2, g3, g4, g5, g6, g7, g8, g9, g10⟩ := hR
  exact lv_istore_n hC.1 hC.2.1 (hC.dec hd) hi (mlr_has g3) hn rfl (fun L' hL' => k D cA sa p e R s m args below meth c A ρ0 n0 hC ρ L' H locs cells slots ⟨g1, g2, mlr_st1 (v := .inl x) g3 (okh g4) h2 hL', okt g4, g5, g6, g7, g8, g9, g10⟩)
theorem WP_istore (hd : mcd mt pc = some (.istore i, 2)) (hn : i < mt.2.2.1) (h2 : mn2 ls i = true) (k : WP l mt d b (pc + 2) (ls.set i (some (.inl x))) st M Q) : WP l mt d b pc ls (.inl x :: st) M Q := by
  intro D cA sa p e R s m args below meth c A ρ0 n0 hC ρ L H locs cells slots hR
  obtain ⟨g1, g2, g3, g4, g5, g6, g7, g8, g9, g10⟩ := hR
  exact lv_istore hC.1 hC.2.1 (hC.dec hd) (mlr_has g3) hn rfl (fun L' hL' => k D cA sa p e R s m args below meth c A ρ0 n0 hC ρ L' H locs cells slots ⟨g1, g2, mlr_st1 (v := .inl x) g3 (okh g4) h2 hL', okt g4, g5, g6, g7, g8, g9, g10⟩)
theorem WP_astore_n {q : Fin 4} (hd : mcd mt pc = some (.astore_n q, 1)) (hi : (q : Nat) = i) (hn : i < mt.2.2.1) (h2 : mn2 ls i = true) (k : WP l mt d b (pc + 1) (ls.set i (some (.inr (.inr (.inl a))))) st M Q) : WP l mt d b pc ls (.inr (.inr (.inl a)) :: st) M Q := by
  intro D cA sa p e R s m args below meth c A ρ0 n0 hC ρ L H locs cells slots hR
  obtain ⟨g1, g2, g3, g4, g5, g6, g7, g8, g9, g10⟩ := hR
  exact lv_astore_n hC.1 hC.2.1 (hC.dec hd) hi (mlr_has g3) hn rfl (fun L' hL' => k D cA sa p e R s m args below meth c A ρ0 n0 hC ρ L' H locs cells slots ⟨g1, g2, mlr_st1 (v := .inr (.inr (.inl a))) g3 (okh g4) h2 hL', okt g4, g5, g6, g7, g8, g9, g10⟩)
theorem WP_astore (hd : mcd mt pc = some (.astore i, 2)) (hn : i < mt.2.2.1) (h2 : mn2 ls i = true) (k : WP l mt d b (pc + 2) (ls.set i (some (.inr (.inr (.inl a))))) st M Q) : WP l mt d b pc ls (.inr (.inr (.inl a)) :: st) M Q := by
  intro D cA sa p e R s m args below meth c A ρ0 n0 hC ρ L H locs cells slots hR
  obtain ⟨g1, g2, g3, g4, g5, g6, g7, g8, g9, g10⟩ := hR
  exact lv_astore hC.1 hC.2.1 (hC.dec hd) (mlr_has g3) hn rfl (fun L' hL' => k D cA sa p e R s m args below meth c A ρ0 n0 hC ρ L' H locs cells slots ⟨g1, g2, mlr_st1 (v := .inr (.inr (.inl a))) g3 (okh g4) h2 hL', okt g4, g5, g6, g7, g8, g9, g10⟩)
theorem WP_lstore_n {q : Fin 4} (hd : mcd mt pc = some (.lstore_n q, 1)) (hi : (q : Nat) = i) (hn : i + 1 < mt.2.2.1) (h2 : mn2 ls i = true) (k : WP l mt d b (pc + 1) ((ls.set i (some (.inr (.inl x)))).set (i + 1) none) st M Q) : WP l mt d b pc ls (.inr (.inl x) :: st) M Q := by
  intro D cA sa p e R s m args below meth c A ρ0 n0 hC ρ L H locs cells slots hR
  obtain ⟨g1, g2, g3, g4, g5, g6, g7, g8, g9, g10⟩ := hR
  exact lv_lstore_n hC.1 hC.2.1 (hC.dec hd) hi (mlr_has g3) hn rfl (fun L' hL' => k D cA sa p e R s m args below meth c A ρ0 n0 hC ρ L' H locs cells slots ⟨g1, g2, mlr_st2 (v := .inr (.inl x)) g3 (okh g4) h2 hL', okt g4, g5, g6, g7, g8, g9, g10⟩)
theorem WP_lstore (hd : mcd mt pc = some (.lstore i, 2)) (hn : i + 1 < mt.2.2.1) (h2 : mn2 ls i = true) (k : WP l mt d b (pc + 2) ((ls.set i (some (.inr (.inl x)))).set (i + 1) none) st M Q) : WP l mt d b pc ls (.inr (.inl x) :: st) M Q := by
  intro D cA sa p e R s m args below meth c A ρ0 n0 hC ρ L H locs cells slots hR
  obtain ⟨g1, g2, g3, g4, g5, g6, g7, g8, g9, g10⟩ := hR
  exact lv_lstore hC.1 hC.2.1 (hC.dec hd) (mlr_has g3) hn rfl (fun L' hL' => k D cA sa p e R s m args below meth c A ρ0 n0 hC ρ L' H locs cells slots ⟨g1, g2, mlr_st2 (v := .inr (.inl x)) g3 (okh g4) h2 hL', okt g4, g5, g6, g7, g8, g9, g10⟩)
theorem WP_iinc (hd : mcd mt pc = some (.iinc i n, 3)) (hv : ls[i]? = some (some (.inl x))) (hn : i < mt.2.2.1) (h2 : mn2 ls i = true) (k : WP l mt d b (pc + 3) (ls.set i (some (.inl (jadd x n)))) st M Q) : WP l mt d b pc ls st M Q := by
  intro D cA sa p e R s m args below meth c A ρ0 n0 hC ρ L H locs cells slots hR
  obtain ⟨g1, g2, g3, g4, g5, g6, g7, g8, g9, g10⟩ := hR
  obtain ⟨j, hj, hjv⟩ := List.mem_iff_getElem.mp (mll_mem (ρ := ρ) (sa := sa) (q := (i, .int (Int32.ofInt x))).mpr ⟨.inl x, hv, rfl⟩)
  exact lv_iinc (k := j) (v := Int32.ofInt (jadd x n)) hC.1 hC.2.1 (hC.dec hd) (mlr_has g3) (by rw [List.getElem?_eq_getElem hj, hjv]) (jadd_of x n).symm hn rfl (fun L' hL' => k D cA sa p e R s m args below meth c A ρ0 n0 hC ρ L' H locs cells slots ⟨g1, g2, mlr_st1 (v := .inl (jadd x n)) g3 (i32_in _) h2 hL', g4, g5, g6, g7, g8, g9, g10⟩)
theorem WP_iadd (hd : mcd mt pc = some (.iadd, 1)) (k : WP l mt d b (pc + 1) ls (.inl (jadd x y) :: st) M Q) : WP l mt d b pc ls (.inl y :: .inl x :: st) M Q :=
  WP_st (st' := .inl (jadd x y) :: st) (st := .inl y :: .inl x :: st) (fun h hL => okc (i32_in _) (okt (okt h))) (fun D cA sa p e R s m args below meth c A ρ L H locs cells slots Q2 hC hl ho k => lv_iadd hC.1 hC.2.1 (hC.dec hd) (by rw [← jadd_of]; exact k)) k
theorem WP_ladd (hd : mcd mt pc = some (.ladd, 1)) (k : WP l mt d b (pc + 1) ls (.inr (.inl (kadd x y)) :: st) M Q) : WP l mt d b pc ls (.inr (.inl y) :: .inr (.inl x) :: st) M Q :=
  WP_st (st' := .inr (.inl (kadd x y)) :: st) (st := .inr (.inl y) :: .inr (.inl x) :: st) (fun h hL => okc (i64_in _) (okt (okt h))) (fun D cA sa p e R s m args below meth c A ρ L H locs cells slots Q2 hC hl ho k => lv_ladd hC.1 hC.2.1 (hC.dec hd) (by rw [← kadd_of]; exact k)) k
theorem WP_isub (hd : mcd mt pc = some (.isub, 1)) (k : WP l mt d b (pc + 1) ls (.inl (jsub x y) :: st) M Q) : WP l mt d b pc ls (.inl y :: .inl x :: st) M Q :=
  WP_st (st' := .inl (jsub x y) :: st) (st := .inl y :: .inl x :: st) (fun h hL => okc (i32_in _) (okt (okt h))) (fun D cA sa p e R s m args below meth c A ρ L H locs cells slots Q2 hC hl ho k => lv_isub hC.1 hC.2.1 (hC.dec hd) (by rw [← jsub_of]; exact k)) k
theorem WP_lsub (hd : mcd mt pc = some (.lsub, 1)) (k : WP l mt d b (pc + 1) ls (.inr (.inl (ksub x y)) :: st) M Q) : WP l mt d b pc ls (.inr (.inl y) :: .inr (.inl x) :: st) M Q :=
  WP_st (st' := .inr (.inl (ksub x y)) :: st) (st := .inr (.inl y) :: .inr (.inl x) :: st) (fun h hL => okc (i64_in _) (okt (okt h))) (fun D cA sa p e R s m args below meth c A ρ L H locs cells slots Q2 hC hl ho k => lv_lsub hC.1 hC.2.1 (hC.dec hd) (by rw [← ksub_of]; exact k)) k
theorem WP_imul (hd : mcd mt pc = some (.imul, 1)) (k : WP l mt d b (pc + 1) ls (.inl (jmul x y) :: st) M Q) : WP l mt d b pc ls (.inl y :: .inl x :: st) M Q :=
  WP_st (st' := .inl (jmul x y) :: st) (st := .inl y :: .inl x :: st) (fun h hL => okc (i32_in _) (okt (okt h))) (fun D cA sa p e R s m args below meth c A ρ L H locs cells slots Q2 hC hl ho k => lv_imul hC.1 hC.2.1 (hC.dec hd) (by rw [← jmul_of]; exact k)) k
theorem WP_lmul (hd : mcd mt pc = some (.lmul, 1)) (k : WP l mt d b (pc + 1) ls (.inr (.inl (kmul x y)) :: st) M Q) : WP l mt d b pc ls (.inr (.inl y) :: .inr (.inl x) :: st) M Q :=
  WP_st (st' := .inr (.inl (kmul x y)) :: st) (st := .inr (.inl y) :: .inr (.inl x) :: st) (fun h hL => okc (i64_in _) (okt (okt h))) (fun D cA sa p e R s m args below meth c A ρ L H locs cells slots Q2 hC hl ho k => lv_lmul hC.1 hC.2.1 (hC.dec hd) (by rw [← kmul_of]; exact k)) k
theorem WP_iand (hd : mcd mt pc = some (.iand, 1)) (k : WP l mt d b (pc + 1) ls (.inl (jand x y) :: st) M Q) : WP l mt d b pc ls (.inl y :: .inl x :: st) M Q :=
  WP_st (st' := .inl (jand x y) :: st) (st := .inl y :: .inl x :: st) (fun h hL => okc (inI_of _) (okt (okt h))) (fun D cA sa p e R s m args below meth c A ρ L H locs cells slots Q2 hC hl ho k => lv_iand hC.1 hC.2.1 (hC.dec hd) (by have e := Int32.ofInt_toInt; rw [← e ((Int32.ofInt x) &&& Int32.ofInt y)]; exact k)) k
theorem WP_ior (hd : mcd mt pc = some (.ior, 1)) (k : WP l mt d b (pc + 1) ls (.inl (jor x y) :: st) M Q) : WP l mt d b pc ls (.inl y :: .inl x :: st) M Q :=
  WP_st (st' := .inl (jor x y) :: st) (st := .inl y :: .inl x :: st) (fun h hL => okc (inI_of _) (okt (okt h))) (fun D cA sa p e R s m args below meth c A ρ L H locs cells slots Q2 hC hl ho k => lv_ior hC.1 hC.2.1 (hC.dec hd) (by have e := Int32.ofInt_toInt; rw [← e ((Int32.ofInt x) ||| Int32.ofInt y)]; exact k)) k
theorem WP_ixor (hd : mcd mt pc = some (.ixor, 1)) (k : WP l mt d b (pc + 1) ls (.inl (jxor x y) :: st) M Q) : WP l mt d b pc ls (.inl y :: .inl x :: st) M Q :=
  WP_st (st' := .inl (jxor x y) :: st) (st := .inl y :: .inl x :: st) (fun h hL => okc (inI_of _) (okt (okt h))) (fun D cA sa p e R s m args below meth c A ρ L H locs cells slots Q2 hC hl ho k => lv_ixor hC.1 hC.2.1 (hC.dec hd) (by have e := Int32.ofInt_toInt; rw [← e ((Int32.ofInt x) ^^^ Int32.ofInt y)]; exact k)) k
theorem WP_ishl (hd : mcd mt pc = some (.ishl, 1)) (k : WP l mt d b (pc + 1) ls (.inl (jshl x y) :: st) M Q) : WP l mt d b pc ls (.inl y :: .inl x :: st) M Q :=
  WP_st (st' := .inl (jshl x y) :: st) (st := .inl y :: .inl x :: st) (fun h hL => okc (inI_of _) (okt (okt h))) (fun D cA sa p e R s m args below meth c A ρ L H locs cells slots Q2 hC hl ho k => lv_ishl hC.1 hC.2.1 (hC.dec hd) (by have e := Int32.ofInt_toInt; rw [← e ((Int32.ofInt x) <<< (Int32.ofInt y &&& 31))]; exact k)) k
theorem WP_ishr (hd : mcd mt pc = some (.ishr, 1)) (k : WP l mt d b (pc + 1) ls (.inl (jshr x y) :: st) M Q) : WP l mt d b pc ls (.inl y :: .inl x :: st) M Q :=
  WP_st (st' := .inl (jshr x y) :: st) (st := .inl y :: .inl x :: st) (fun h hL => okc (inI_of _) (okt (okt h))) (fun D cA sa p e R s m args below meth c A ρ L H locs cells slots Q2 hC hl ho k => lv_ishr hC.1 hC.2.1 (hC.dec hd) (by have e := Int32.ofInt_toInt; rw [← e ((Int32.ofInt x) >>> (Int32.ofInt y &&& 31))]; exact k)) k
theorem WP_land (hd : mcd mt pc = some (.land, 1)) (k : WP l mt d b (pc + 1) ls (.inr (.inl (kand x y)) :: st) M Q) : WP l mt d b pc ls (.inr (.inl y) :: .inr (.inl x) :: st) M Q :=
  WP_st (st' := .inr (.inl (kand x y)) :: st) (st := .inr (.inl y) :: .inr (.inl x) :: st) (fun h hL => okc (inL_of _) (okt (okt h))) (fun D cA sa p e R s m args below meth c A ρ L H locs cells slots Q2 hC hl ho k => lv_land hC.1 hC.2.1 (hC.dec hd) (by have e := Int64.ofInt_toInt; rw [← e ((Int64.ofInt x) &&& Int64.ofInt y)]; exact k)) k
theorem WP_lor (hd : mcd mt pc = some (.lor, 1)) (k : WP l mt d b (pc + 1) ls (.inr (.inl (kor x y)) :: st) M Q) : WP l mt d b pc ls (.inr (.inl y) :: .inr (.inl x) :: st) M Q :=
  WP_st (st' := .inr (.inl (kor x y)) :: st) (st := .inr (.inl y) :: .inr (.inl x) :: st) (fun h hL => okc (inL_of _) (okt (okt h))) (fun D cA sa p e R s m args below meth c A ρ L H locs cells slots Q2 hC hl ho k => lv_lor hC.1 hC.2.1 (hC.dec hd) (by have e := Int64.ofInt_toInt; rw [← e ((Int64.ofInt x) ||| Int64.ofInt y)]; exact k)) k
theorem WP_lxor (hd : mcd mt pc = some (.lxor, 1)) (k : WP l mt d b (pc + 1) ls (.inr (.inl (kxor x y)) :: st) M Q) : WP l mt d b pc ls (.inr (.inl y) :: .inr (.inl x) :: st) M Q :=
  WP_st (st' := .inr (.inl (kxor x y)) :: st) (st := .inr (.inl y) :: .inr (.inl x) :: st) (fun h hL => okc (inL_of _) (okt (okt h))) (fun D cA sa p e R s m args below meth c A ρ L H locs cells slots Q2 hC hl ho k => lv_lxor hC.1 hC.2.1 (hC.dec hd) (by have e := Int64.ofInt_toInt; rw [← e ((Int64.ofInt x) ^^^ Int64.ofInt y)]; exact k)) k
theorem WP_idiv (hd : mcd mt pc = some (.idiv, 1)) (hy : ¬ y = 0) (k : WP l mt d b (pc + 1) ls (.inl (jdiv x y) :: st) M Q) : WP l mt d b pc ls (.inl y :: .inl x :: st) M Q :=
  WP_st (st' := .inl (jdiv x y) :: st) (st := .inl y :: .inl x :: st) (fun h hL => okc (inI_of _) (okt (okt h))) (fun D cA sa p e R s m args below meth c A ρ L H locs cells slots Q2 hC hl ho k => lv_idiv hC.1 hC.2.1 (hC.dec hd) (fun q => hy ((inI_eq (okh ho) ⟨by decide, by decide⟩).mp q)) (by have e := Int32.ofInt_toInt; rw [← e (Int32.ofInt x / Int32.ofInt y)]; exact k)) k
theorem WP_irem (hd : mcd mt pc = some (.irem, 1)) (hy : ¬ y = 0) (k : WP l mt d b (pc + 1) ls (.inl (jrem x y) :: st) M Q) : WP l mt d b pc ls (.inl y :: .inl x :: st) M Q :=
  WP_st (st' := .inl (jrem x y) :: st) (st := .inl y :: .inl x :: st) (fun h hL => okc (inI_of _) (okt (okt h))) (fun D cA sa p e R s m args below meth c A ρ L H locs cells slots Q2 hC hl ho k => lv_irem hC.1 hC.2.1 (hC.dec hd) (fun q => hy ((inI_eq (okh ho) ⟨by decide, by decide⟩).mp q)) (by have e := Int32.ofInt_toInt; rw [← e (Int32.ofInt x - Int32.ofInt x / Int32.ofInt y * Int32.ofInt y)]; exact k)) k
theorem WP_ldiv (hd : mcd mt pc = some (.ldiv, 1)) (hy : ¬ y = 0) (k : WP l mt d b (pc + 1) ls (.inr (.inl (kdiv x y)) :: st) M Q) : WP l mt d b pc ls (.inr (.inl y) :: .inr (.inl x) :: st) M Q :=
  WP_st (st' := .inr (.inl (kdiv x y)) :: st) (st := .inr (.inl y) :: .inr (.inl x) :: st) (fun h hL => okc (inL_of _) (okt (okt h))) (fun D cA sa p e R s m args below meth c A ρ L H locs cells slots Q2 hC hl ho k => lv_ldiv hC.1 hC.2.1 (hC.dec hd) (fun q => hy ((inL_eq (okh ho) ⟨by decide, by decide⟩).mp q)) (by have e := Int64.ofInt_toInt; rw [← e (Int64.ofInt x / Int64.ofInt y)]; exact k)) k
theorem WP_lrem (hd : mcd mt pc = some (.lrem, 1)) (hy : ¬ y = 0) (k : WP l mt d b (pc + 1) ls (.inr (.inl (krem x y)) :: st) M Q) : WP l mt d b pc ls (.inr (.inl y) :: .inr (.inl x) :: st) M Q :=
  WP_st (st' := .inr (.inl (krem x y)) :: st) (st := .inr (.inl y) :: .inr (.inl x) :: st) (fun h hL => okc (inL_of _) (okt (okt h))) (fun D cA sa p e R s m args below meth c A ρ L H locs cells slots Q2 hC hl ho k => lv_lrem hC.1 hC.2.1 (hC.dec hd) (fun q => hy ((inL_eq (okh ho) ⟨by decide, by decide⟩).mp q)) (by have e := Int64.ofInt_toInt; rw [← e (Int64.ofInt x - Int64.ofInt x / Int64.ofInt y * Int64.ofInt y)]; exact k)) k
theorem WP_iushr (hd : mcd mt pc = some (.iushr, 1)) (k : WP l mt d b (pc + 1) ls (.inl (jushr x y) :: st) M Q) : WP l mt d b pc ls (.inl y :: .inl x :: st) M Q :=
  WP_st (st' := .inl (jushr x y) :: st) (st := .inl y :: .inl x :: st) (fun h hL => okc (inI_of _) (okt (okt h))) (fun D cA sa p e R s m args below meth c A ρ L H locs cells slots Q2 hC hl ho k => lv_iushr hC.1 hC.2.1 (hC.dec hd) (Int32.ofInt_toInt _).symm k) k
theorem WP_i2c (hd : mcd mt pc = some (.i2c, 1)) (k : WP l mt d b (pc + 1) ls (.inl (jchr x) :: st) M Q) : WP l mt d b pc ls (.inl x :: st) M Q :=
  WP_st (st' := .inl (jchr x) :: st) (st := .inl x :: st) (fun h hL => okc (inI_of _) (okt h)) (fun D cA sa p e R s m args below meth c A ρ L H locs cells slots Q2 hC hl ho k => lv_i2c hC.1 hC.2.1 (hC.dec hd) (Int32.ofInt_toInt _).symm k) k
theorem WP_lshl (hd : mcd mt pc = some (.lshl, 1)) (k : WP l mt d b (pc + 1) ls (.inr (.inl (kshl x y)) :: st) M Q) : WP l mt d b pc ls (.inl y :: .inr (.inl x) :: st) M Q :=
  WP_st (st' := .inr (.inl (kshl x y)) :: st) (st := .inl y :: .inr (.inl x) :: st) (fun h hL => okc (inL_of _) (okt (okt h))) (fun D cA sa p e R s m args below meth c A ρ L H locs cells slots Q2 hC hl ho k => lv_lshl hC.1 hC.2.1 (hC.dec hd) (Int64.ofInt_toInt _).symm k) k
theorem WP_lushr (hd : mcd mt pc = some (.lushr, 1)) (k : WP l mt d b (pc + 1) ls (.inr (.inl (kushr x y)) :: st) M Q) : WP l mt d b pc ls (.inl y :: .inr (.inl x) :: st) M Q :=
  WP_st (st' := .inr (.inl (kushr x y)) :: st) (st := .inl y :: .inr (.inl x) :: st) (fun h hL => okc (inL_of _) (okt (okt h))) (fun D cA sa p e R s m args below meth c A ρ L H locs cells slots Q2 hC hl ho k => lv_lushr hC.1 hC.2.1 (hC.dec hd) (Int64.ofInt_toInt _).symm k) k
theorem WP_i2l (hd : mcd mt pc = some (.i2l, 1)) (k : WP l mt d b (pc + 1) ls (.inr (.inl x) :: st) M Q) : WP l mt d b pc ls (.inl x :: st) M Q :=
  WP_st (st' := .inr (.inl x) :: st) (st := .inl x :: st) (fun h hL => okc (inI_L (okh h)) (okt h)) (fun D cA sa p e R s m args below meth c A ρ L H locs cells slots Q2 hC hl ho k => lv_i2l hC.1 hC.2.1 (hC.dec hd) (i2l_of (okh ho)) k) k
theorem WP_l2i (hd : mcd mt pc = some (.l2i, 1)) (k : WP l mt d b (pc + 1) ls (.inl (i32 x) :: st) M Q) : WP l mt d b pc ls (.inr (.inl x) :: st) M Q :=
  WP_st (st' := .inl (i32 x) :: st) (st := .inr (.inl x) :: st) (fun h hL => okc (i32_in _) (okt h)) (fun D cA sa p e R s m args below meth c A ρ L H locs cells slots Q2 hC hl ho k => lv_l2i hC.1 hC.2.1 (hC.dec hd) (by rw [i32_of]; exact Int64.toInt32_ofInt) k) k
theorem WP_lcmp (hd : mcd mt pc = some (.lcmp, 1)) (k : WP l mt d b (pc + 1) ls (.inl (kcmp x y) :: st) M Q) : WP l mt d b pc ls (.inr (.inl y) :: .inr (.inl x) :: st) M Q :=
  WP_st (st' := .inl (kcmp x y) :: st) (st := .inr (.inl y) :: .inr (.inl x) :: st) (fun h hL => okc (kcmp_in _ _) (okt (okt h))) (fun D cA sa p e R s m args below meth c A ρ L H locs cells slots Q2 hC hl ho k => W.lcmp hC.1 hC.2.1 (hC.dec hd) (by rw [← kcmp_of (okh (okt ho)) (okh ho)]; exact k)) k
theorem WP_dupi (hd : mcd mt pc = some (.dup, 1)) (k : WP l mt d b (pc + 1) ls (.inl x :: .inl x :: st) M Q) : WP l mt d b pc ls (.inl x :: st) M Q :=
  WP_st (st' := .inl x :: .inl x :: st) (st := .inl x :: st) (fun h hL => okc (okh h) h) (fun D cA sa p e R s m args below meth c A ρ L H locs cells slots Q2 hC hl ho k => lv_dup hC.1 hC.2.1 (hC.dec hd) rfl k) k
theorem WP_popi (hd : mcd mt pc = some (.pop, 1)) (k : WP l mt d b (pc + 1) ls (st) M Q) : WP l mt d b pc ls (.inl x :: st) M Q :=
  WP_st (st' := st) (st := .inl x :: st) (fun h hL => okt h) (fun D cA sa p e R s m args below meth c A ρ L H locs cells slots Q2 hC hl ho k => lv_pop hC.1 hC.2.1 (hC.dec hd) rfl k) k
theorem WP_dupa (hd : mcd mt pc = some (.dup, 1)) (k : WP l mt d b (pc + 1) ls (.inr (.inr (.inl a)) :: .inr (.inr (.inl a)) :: st) M Q) : WP l mt d b pc ls (.inr (.inr (.inl a)) :: st) M Q :=
  WP_st (st' := .inr (.inr (.inl a)) :: .inr (.inr (.inl a)) :: st) (st := .inr (.inr (.inl a)) :: st) (fun h hL => okc (okh h) h) (fun D cA sa p e R s m args below meth c A ρ L H locs cells slots Q2 hC hl ho k => lv_dup hC.1 hC.2.1 (hC.dec hd) rfl k) k
theorem WP_popa (hd : mcd mt pc = some (.pop, 1)) (k : WP l mt d b (pc + 1) ls (st) M Q) : WP l mt d b pc ls (.inr (.inr (.inl a)) :: st) M Q :=
  WP_st (st' := st) (st := .inr (.inr (.inl a)) :: st) (fun h hL => okt h) (fun D cA sa p e R s m args below meth c A ρ L H locs cells slots Q2 hC hl ho k => lv_pop hC.1 hC.2.1 (hC.dec hd) rfl k) k
theorem WP_dup2l (hd : mcd mt pc = some (.dup2, 1)) (k : WP l mt d b (pc + 1) ls (.inr (.inl x) :: .inr (.inl x) :: st) M Q) : WP l mt d b pc ls (.inr (.inl x) :: st) M Q :=
  WP_st (st' := .inr (.inl x) :: .inr (.inl x) :: st) (st := .inr (.inl x) :: st) (fun h hL => okc (okh h) h) (fun D cA sa p e R s m args below meth c A ρ L H locs cells slots Q2 hC hl ho k => lv_dup2_2 hC.1 hC.2.1 (hC.dec hd) rfl k) k
theorem WP_dup2ai (hd : mcd mt pc = some (.dup2, 1)) (k : WP l mt d b (pc + 1) ls (.inl x :: .inr (.inr (.inl a)) :: .inl x :: .inr (.inr (.inl a)) :: st) M Q) : WP l mt d b pc ls (.inl x :: .inr (.inr (.inl a)) :: st) M Q :=
  WP_st (st' := .inl x :: .inr (.inr (.inl a)) :: .inl x :: .inr (.inr (.inl a)) :: st) (st := .inl x :: .inr (.inr (.inl a)) :: st) (fun h hL => okc (okh h) (okc (okh (okt h)) h)) (fun D cA sa p e R s m args below meth c A ρ L H locs cells slots Q2 hC hl ho k => lv_dup2_11 hC.1 hC.2.1 (hC.dec hd) rfl rfl k) k
theorem WP_pop2ai (hd : mcd mt pc = some (.pop2, 1)) (k : WP l mt d b (pc + 1) ls st M Q) : WP l mt d b pc ls (.inl x :: .inr (.inr (.inl a)) :: st) M Q :=
  WP_st (fun h hL => okt (okt h)) (fun D cA sa p e R s m args below meth c A ρ L H locs cells slots Q2 hC hl ho k => lv_pop2_11 hC.1 hC.2.1 (hC.dec hd) rfl rfl k) k
theorem WP_goto {off : Int} {tgt : Nat} (hd : mcd mt pc = some (.goto off, 3)) (ht : (pc : Int) + off = (tgt : Int)) (k : WP l mt d b tgt ls st M Q) : WP l mt d b pc ls st M Q :=
  WP_st (fun h hL => h) (fun D cA sa p e R s m args below meth c A ρ L H locs cells slots Q2 hC hl ho k => lv_goto hC.1 hC.2.1 (hC.dec hd) ht k) k
theorem WP_if_eq {off : Int} {tgt : Nat} (hd : mcd mt pc = some (.ifCond .eq off, 3)) (ht : (pc : Int) + off = (tgt : Int)) (kt : x = 0 → WP l mt d b tgt ls st M Q) (kf : ¬ x = 0 → WP l mt d b (pc + 3) ls st M Q) : WP l mt d b pc ls (.inl x :: st) M Q := by
  intro D cA sa p e R s m args below meth c A ρ0 n0 hC ρ L H locs cells slots hR
  obtain ⟨g1, g2, g3, g4, g5, g6, g7, g8, g9, g10⟩ := hR
  have hx := (okh g4 : inI x)
  have hy := (⟨by decide, by decide⟩ : inI 0)
  have rr : mRl mt D cA sa A s R ρ0 n0 b ρ L H locs cells slots ls st M := ⟨g1, g2, g3, okt g4, g5, g6, g7, g8, g9, g10⟩
  have kt := fun q => kt q D cA sa p e R s m args below meth c A ρ0 n0 hC ρ L H locs cells slots rr
  have kf := fun q => kf q D cA sa p e R s m args below meth c A ρ0 n0 hC ρ L H locs cells slots rr
  exact lv_if_eq hC.1 hC.2.1 (hC.dec hd) ht (fun q => kt ((inI_eq hx hy).mp q)) (fun q => kf (fun z => q ((inI_eq hx hy).mpr z)))
theorem WP_if_ne {off : Int} {tgt : Nat} (hd : mcd mt pc = some (.ifCond .ne off, 3)) (ht : (pc : Int) + off = (tgt : Int)) (kt : x = 0 → WP l mt d b (pc + 3) ls st M Q) (kf : ¬ x = 0 → WP l mt d b tgt ls st M Q) : WP l mt d b pc ls (.inl x :: st) M Q := by
  intro D cA sa p e R s m args below meth c A ρ0 n0 hC ρ L H locs cells slots hR
  obtain ⟨g1, g2, g3, g4, g5, g6, g7, g8, g9, g10⟩ := hR
  have hx := (okh g4 : inI x)
  have hy := (⟨by decide, by decide⟩ : inI 0)
  have rr : mRl mt D cA sa A s R ρ0 n0 b ρ L H locs cells slots ls st M := ⟨g1, g2, g3, okt g4, g5, g6, g7, g8, g9, g10⟩
  have kt := fun q => kt q D cA sa p e R s m args below meth c A ρ0 n0 hC ρ L H locs cells slots rr
  have kf := fun q => kf q D cA sa p e R s m args below meth c A ρ0 n0 hC ρ L H locs cells slots rr
  exact lv_if_ne hC.1 hC.2.1 (hC.dec hd) ht (fun q => kf (fun z => q ((inI_eq hx hy).mpr z))) (fun q => kt ((inI_eq hx hy).mp q))
theorem WP_if_lt {off : Int} {tgt : Nat} (hd : mcd mt pc = some (.ifCond .lt off, 3)) (ht : (pc : Int) + off = (tgt : Int)) (kt : x < 0 → WP l mt d b tgt ls st M Q) (kf : ¬ x < 0 → WP l mt d b (pc + 3) ls st M Q) : WP l mt d b pc ls (.inl x :: st) M Q := by
  intro D cA sa p e R s m args below meth c A ρ0 n0 hC ρ L H locs cells slots hR
  obtain ⟨g1, g2, g3, g4, g5, g6, g7, g8, g9, g10⟩ := hR
  have hx := (okh g4 : inI x)
  have hy := (⟨by decide, by decide⟩ : inI 0)
  have rr : mRl mt D cA sa A s R ρ0 n0 b ρ L H locs cells slots ls st M := ⟨g1, g2, g3, okt g4, g5, g6, g7, g8, g9, g10⟩
  have kt := fun q => kt q D cA sa p e R s m args below meth c A ρ0 n0 hC ρ L H locs cells slots rr
  have kf := fun q => kf q D cA sa p e R s m args below meth c A ρ0 n0 hC ρ L H locs cells slots rr
  exact lv_if_lt hC.1 hC.2.1 (hC.dec hd) ht (fun q => kt ((inI_lt hx hy).mp q)) (fun q => kf (fun z => q ((inI_lt hx hy).mpr z)))
theorem WP_if_ge {off : Int} {tgt : Nat} (hd : mcd mt pc = some (.ifCond .ge off, 3)) (ht : (pc : Int) + off = (tgt : Int)) (kt : x < 0 → WP l mt d b (pc + 3) ls st M Q) (kf : ¬ x < 0 → WP l mt d b tgt ls st M Q) : WP l mt d b pc ls (.inl x :: st) M Q := by
  intro D cA sa p e R s m args below meth c A ρ0 n0 hC ρ L H locs cells slots hR
  obtain ⟨g1, g2, g3, g4, g5, g6, g7, g8, g9, g10⟩ := hR
  have hx := (okh g4 : inI x)
  have hy := (⟨by decide, by decide⟩ : inI 0)
  have rr : mRl mt D cA sa A s R ρ0 n0 b ρ L H locs cells slots ls st M := ⟨g1, g2, g3, okt g4, g5, g6, g7, g8, g9, g10⟩
  have kt := fun q => kt q D cA sa p e R s m args below meth c A ρ0 n0 hC ρ L H locs cells slots rr
  have kf := fun q => kf q D cA sa p e R s m args below meth c A ρ0 n0 hC ρ L H locs cells slots rr
  exact lv_if_ge hC.1 hC.2.1 (hC.dec hd) ht (fun q => kf (Int.not_lt.mpr ((inI_le hy hx).mp q))) (fun q => kt (Int.not_le.mp (fun z => q ((inI_le hy hx).mpr z))))
theorem WP_if_gt {off : Int} {tgt : Nat} (hd : mcd mt pc = some (.ifCond .gt off, 3)) (ht : (pc : Int) + off = (tgt : Int)) (kt : x ≤ 0 → WP l mt d b (pc + 3) ls st M Q) (kf : ¬ x ≤ 0 → WP l mt d b tgt ls st M Q) : WP l mt d b pc ls (.inl x :: st) M Q := by
  intro D cA sa p e R s m args below meth c A ρ0 n0 hC ρ L H locs cells slots hR
  obtain ⟨g1, g2, g3, g4, g5, g6, g7, g8, g9, g10⟩ := hR
  have hx := (okh g4 : inI x)
  have hy := (⟨by decide, by decide⟩ : inI 0)
  have rr : mRl mt D cA sa A s R ρ0 n0 b ρ L H locs cells slots ls st M := ⟨g1, g2, g3, okt g4, g5, g6, g7, g8, g9, g10⟩
  have kt := fun q => kt q D cA sa p e R s m args below meth c A ρ0 n0 hC ρ L H locs cells slots rr
  have kf := fun q => kf q D cA sa p e R s m args below meth c A ρ0 n0 hC ρ L H locs cells slots rr
  exact lv_if_gt hC.1 hC.2.1 (hC.dec hd) ht (fun q => kf (Int.not_le.mpr ((inI_lt hy hx).mp q))) (fun q => kt (Int.not_lt.mp (fun z => q ((inI_lt hy hx).mpr z))))
theorem WP_if_le {off : Int} {tgt : Nat} (hd : mcd mt pc = some (.ifCond .le off, 3)) (ht : (pc : Int) + off = (tgt : Int)) (kt : x ≤ 0 → WP l mt d b tgt ls st M Q) (kf : ¬ x ≤ 0 → WP l mt d b (pc + 3) ls st M Q) : WP l mt d b pc ls (.inl x :: st) M Q := by
  intro D cA sa p e R s m args below meth c A ρ0 n0 hC ρ L H locs cells slots hR
  obtain ⟨g1, g2, g3, g4, g5, g6, g7, g8, g9, g10⟩ := hR
  have hx := (okh g4 : inI x)
  have hy := (⟨by decide, by decide⟩ : inI 0)
  have rr : mRl mt D cA sa A s R ρ0 n0 b ρ L H locs cells slots ls st M := ⟨g1, g2, g3, okt g4, g5, g6, g7, g8, g9, g10⟩
  have kt := fun q => kt q D cA sa p e R s m args below meth c A ρ0 n0 hC ρ L H locs cells slots rr
  have kf := fun q => kf q D cA sa p e R s m args below meth c A ρ0 n0 hC ρ L H locs cells slots rr
  exact lv_if_le hC.1 hC.2.1 (hC.dec hd) ht (fun q => kt ((inI_le hx hy).mp q)) (fun q => kf (fun z => q ((inI_le hx hy).mpr z)))
theorem WP_icmp_eq {off : Int} {tgt : Nat} (hd : mcd mt pc = some (.if_icmp .eq off, 3)) (ht : (pc : Int) + off = (tgt : Int)) (kt : x = y → WP l mt d b tgt ls st M Q) (kf : ¬ x = y → WP l mt d b (pc + 3) ls st M Q) : WP l mt d b pc ls (.inl y :: .inl x :: st) M Q := by
  intro D cA sa p e R s m args below meth c A ρ0 n0 hC ρ L H locs cells slots hR
  obtain ⟨g1, g2, g3, g4, g5, g6, g7, g8, g9, g10⟩ := hR
  have hx := (okh (okt g4) : inI x)
  have hy := (okh g4 : inI y)
  have rr : mRl mt D cA sa A s R ρ0 n0 b ρ L H locs cells slots ls st M := ⟨g1, g2, g3, okt (okt g4), g5, g6, g7, g8, g9, g10⟩
  have kt := fun q => kt q D cA sa p e R s m args below meth c A ρ0 n0 hC ρ L H locs cells slots rr
  have kf := fun q => kf q D cA sa p e R s m args below meth c A ρ0 n0 hC ρ L H locs cells slots rr
  exact lv_icmp_eq hC.1 hC.2.1 (hC.dec hd) ht (fun q => kt ((inI_eq hx hy).mp q)) (fun q => kf (fun z => q ((inI_eq hx hy).mpr z)))
theorem WP_icmp_ne {off : Int} {tgt : Nat} (hd : mcd mt pc = some (.if_icmp .ne off, 3)) (ht : (pc : Int) + off = (tgt : Int)) (kt : x = y → WP l mt d b (pc + 3) ls st M Q) (kf : ¬ x = y → WP l mt d b tgt ls st M Q) : WP l mt d b pc ls (.inl y :: .inl x :: st) M Q := by
  intro D cA sa p e R s m args below meth c A ρ0 n0 hC ρ L H locs cells slots hR
  obtain ⟨g1, g2, g3, g4, g5, g6, g7, g8, g9, g10⟩ := hR
  have hx := (okh (okt g4) : inI x)
  have hy := (okh g4 : inI y)
  have rr : mRl mt D cA sa A s R ρ0 n0 b ρ L H locs cells slots ls st M := ⟨g1, g2, g3, okt (okt g4), g5, g6, g7, g8, g9, g10⟩
  have kt := fun q => kt q D cA sa p e R s m args below meth c A ρ0 n0 hC ρ L H locs cells slots rr
  have kf := fun q => kf q D cA sa p e R s m args below meth c A ρ0 n0 hC ρ L H locs cells slots rr
  exact lv_icmp_ne hC.1 hC.2.1 (hC.dec hd) ht (fun q => kf (fun z => q ((inI_eq hx hy).mpr z))) (fun q => kt ((inI_eq hx hy).mp q))
theorem WP_icmp_lt {off : Int} {tgt : Nat} (hd : mcd mt pc = some (.if_icmp .lt off, 3)) (ht : (pc : Int) + off = (tgt : Int)) (kt : x < y → WP l mt d b tgt ls st M Q) (kf : ¬ x < y → WP l mt d b (pc + 3) ls st M Q) : WP l mt d b pc ls (.inl y :: .inl x :: st) M Q := by
  intro D cA sa p e R s m args below meth c A ρ0 n0 hC ρ L H locs cells slots hR
  obtain ⟨g1, g2, g3, g4, g5, g6, g7, g8, g9, g10⟩ := hR
  have hx := (okh (okt g4) : inI x)
  have hy := (okh g4 : inI y)
  have rr : mRl mt D cA sa A s R ρ0 n0 b ρ L H locs cells slots ls st M := ⟨g1, g2, g3, okt (okt g4), g5, g6, g7, g8, g9, g10⟩
  have kt := fun q => kt q D cA sa p e R s m args below meth c A ρ0 n0 hC ρ L H locs cells slots rr
  have kf := fun q => kf q D cA sa p e R s m args below meth c A ρ0 n0 hC ρ L H locs cells slots rr
  exact lv_icmp_lt hC.1 hC.2.1 (hC.dec hd) ht (fun q => kt ((inI_lt hx hy).mp q)) (fun q => kf (fun z => q ((inI_lt hx hy).mpr z)))
theorem WP_icmp_ge {off : Int} {tgt : Nat} (hd : mcd mt pc = some (.if_icmp .ge off, 3)) (ht : (pc : Int) + off = (tgt : Int)) (kt : x < y → WP l mt d b (pc + 3) ls st M Q) (kf : ¬ x < y → WP l mt d b tgt ls st M Q) : WP l mt d b pc ls (.inl y :: .inl x :: st) M Q := by
  intro D cA sa p e R s m args below meth c A ρ0 n0 hC ρ L H locs cells slots hR
  obtain ⟨g1, g2, g3, g4, g5, g6, g7, g8, g9, g10⟩ := hR
  have hx := (okh (okt g4) : inI x)
  have hy := (okh g4 : inI y)
  have rr : mRl mt D cA sa A s R ρ0 n0 b ρ L H locs cells slots ls st M := ⟨g1, g2, g3, okt (okt g4), g5, g6, g7, g8, g9, g10⟩
  have kt := fun q => kt q D cA sa p e R s m args below meth c A ρ0 n0 hC ρ L H locs cells slots rr
  have kf := fun q => kf q D cA sa p e R s m args below meth c A ρ0 n0 hC ρ L H locs cells slots rr
  exact lv_icmp_ge hC.1 hC.2.1 (hC.dec hd) ht (fun q => kf (Int.not_lt.mpr ((inI_le hy hx).mp q))) (fun q => kt (Int.not_le.mp (fun z => q ((inI_le hy hx).mpr z))))
theorem WP_icmp_gt {off : Int} {tgt : Nat} (hd : mcd mt pc = some (.if_icmp .gt off, 3)) (ht : (pc : Int) + off = (tgt : Int)) (kt : x ≤ y → WP l mt d b (pc + 3) ls st M Q) (kf : ¬ x ≤ y → WP l mt d b tgt ls st M Q) : WP l mt d b pc ls (.inl y :: .inl x :: st) M Q := by
  intro D cA sa p e R s m args below meth c A ρ0 n0 hC ρ L H locs cells slots hR
  obtain ⟨g1, g2, g3, g4, g5, g6, g7, g8, g9, g10⟩ := hR
  have hx := (okh (okt g4) : inI x)
  have hy := (okh g4 : inI y)
  have rr : mRl mt D cA sa A s R ρ0 n0 b ρ L H locs cells slots ls st M := ⟨g1, g2, g3, okt (okt g4), g5, g6, g7, g8, g9, g10⟩
  have kt := fun q => kt q D cA sa p e R s m args below meth c A ρ0 n0 hC ρ L H locs cells slots rr
  have kf := fun q => kf q D cA sa p e R s m args below meth c A ρ0 n0 hC ρ L H locs cells slots rr
  exact lv_icmp_gt hC.1 hC.2.1 (hC.dec hd) ht (fun q => kf (Int.not_le.mpr ((inI_lt hy hx).mp q))) (fun q => kt (Int.not_lt.mp (fun z => q ((inI_lt hy hx).mpr z))))
theorem WP_icmp_le {off : Int} {tgt : Nat} (hd : mcd mt pc = some (.if_icmp .le off, 3)) (ht : (pc : Int) + off = (tgt : Int)) (kt : x ≤ y → WP l mt d b tgt ls st M Q) (kf : ¬ x ≤ y → WP l mt d b (pc + 3) ls st M Q) : WP l mt d b pc ls (.inl y :: .inl x :: st) M Q := by
  intro D cA sa p e R s m args below meth c A ρ0 n0 hC ρ L H locs cells slots hR
  obtain ⟨g1, g2, g3, g4, g5, g6, g7, g8, g9, g10⟩ := hR
  have hx := (okh (okt g4) : inI x)
  have hy := (okh g4 : inI y)
  have rr : mRl mt D cA sa A s R ρ0 n0 b ρ L H locs cells slots ls st M := ⟨g1, g2, g3, okt (okt g4), g5, g6, g7, g8, g9, g10⟩
  have kt := fun q => kt q D cA sa p e R s m args below meth c A ρ0 n0 hC ρ L H locs cells slots rr
  have kf := fun q => kf q D cA sa p e R s m args below meth c A ρ0 n0 hC ρ L H locs cells slots rr
  exact lv_icmp_le hC.1 hC.2.1 (hC.dec hd) ht (fun q => kt ((inI_le hx hy).mp q)) (fun q => kf (fun z => q ((inI_le hx hy).mpr z)))
theorem WP_tabI {dflt lo hi off : Int} {offs : Array Int} {len tgt : Nat} (hd : mcd mt pc = some (.tableswitch dflt lo hi offs, len)) (h1 : lo ≤ x) (h2 : x ≤ hi) (ho : offs[(x - lo).toNat]? = some off) (ht : (pc : Int) + off = (tgt : Int)) (k : WP l mt d b tgt ls st M Q) : WP l mt d b pc ls (.inl x :: st) M Q :=
  WP_st (fun h hL => okt h) (fun D cA sa p e R s m args below meth c A ρ L H locs cells slots Q2 hC hl hok k => by
    have e := inI_to (okh hok : inI x)
    exact lv_tableIn hC.1 hC.2.1 (hC.dec hd) (by rw [e]; omega) (by rw [e]; omega) (by rw [e]; exact ho) ht k) k
theorem WP_tabO {dflt lo hi : Int} {offs : Array Int} {len tgt : Nat} (hd : mcd mt pc = some (.tableswitch dflt lo hi offs, len)) (h : x < lo ∨ hi < x) (ht : (pc : Int) + dflt = (tgt : Int)) (k : WP l mt d b tgt ls st M Q) : WP l mt d b pc ls (.inl x :: st) M Q :=
  WP_st (fun h hL => okt h) (fun D cA sa p e R s m args below meth c A ρ L H locs cells slots Q2 hC hl hok k => by
    have e := inI_to (okh hok : inI x)
    exact lv_tableOut hC.1 hC.2.1 (hC.dec hd) (by rw [e]; exact h) ht k) k
theorem WP_look {dflt off : Int} {ps : Array (Int × Int)} {len tgt : Nat} (hd : mcd mt pc = some (.lookupswitch dflt ps, len)) (hp : (ps.toList.zip (ps.toList.drop 1)).all (fun (a, next) => a.1 < next.1) = true) (ho : Op.lookupswitch.offset ps.toList dflt x = off) (ht : (pc : Int) + off = (tgt : Int)) (k : WP l mt d b tgt ls st M Q) : WP l mt d b pc ls (.inl x :: st) M Q :=
  WP_st (fun h hL => okt h) (fun D cA sa p e R s m args below meth c A ρ L H locs cells slots Q2 hC hl hok k => by
    have e := inI_to (okh hok : inI x)
    exact lv_lookup hC.1 hC.2.1 (hC.dec hd) hp (by rw [e]; exact ho) ht k) k
/-- locals may be forgotten -/
def mkeep : List Bool → List (Option mV) → List (Option mV)
  | true :: q, v :: r => v :: mkeep q r
  | false :: q, _ :: r => none :: mkeep q r
  | _, _ => []
theorem mkeep_at : ∀ (q : List Bool) (ls : List (Option mV)) (i : Nat) (v : mV), (mkeep q ls)[i]? = some (some v) → ls[i]? = some (some v)
  | [], _, i, v => by simp [mkeep]
  | _ :: _, [], i, v => by simp [mkeep]
  | true :: q, w :: r, 0, v => by simp [mkeep]
  | true :: q, w :: r, i + 1, v => by
    simp only [mkeep, List.getElem?_cons_succ]
    exact mkeep_at q r i v
  | false :: q, w :: r, 0, v => by simp [mkeep]
  | false :: q, w :: r, i + 1, v => by
    simp only [mkeep, List.getElem?_cons_succ]
    exact mkeep_at q r i v
theorem WP_keep (q : List Bool) (k : WP l mt d b pc (mkeep q ls) st M Q) : WP l mt d b pc ls st M Q := by
  intro D cA sa p e R s m args below meth c A ρ0 n0 hC ρ L H locs cells slots hR
  obtain ⟨g1, g2, g3, g4, g5, g6, g7, g8, g9, g10⟩ := hR
  exact k D cA sa p e R s m args below meth c A ρ0 n0 hC ρ L H locs cells slots ⟨g1, g2, ⟨g3.1, g3.2.1, fun i v hv => g3.2.2 i v (mkeep_at q ls i v hv)⟩, g4, g5, g6, g7, g8, g9, g10⟩
end WR
end
section
/-! the rules of WP that touch memory, calls, returns -/
theorem mcl_lt {ci : Nat} {q : vw_C} (h : mcl[ci]? = some q) : ci < 10 := (List.getElem?_eq_some_iff.mp h).1
def mcK (ci : Nat) (C : String) (T : u_T) (N : Nat) : Prop := mcl[ci]? = some (C, T, N) ∧ (∀ w ∈ u_ws C T N, w ∈ mg) ∧ (∀ k, k < N → parseFieldDescriptor (T k).2.2.1 = some (mty ci k)) ∧ (∀ a, a < N → ∀ b, b < N → a ≠ b → (T a).2.1 ≠ (T b).2.1)
theorem mcK0 : mcK 0 RX0 TX0 5 := ⟨rfl, wcX0, tyX0_ok, nmX0⟩
theorem mcK1 : mcK 1 RX1 TX1 3 := ⟨rfl, wcX1, tyX1_ok, nmX1⟩
theorem mcK2 : mcK 2 RX2 TX2 4 := ⟨rfl, wcX2, tyX2_ok, nmX2⟩
theorem mcK3 : mcK 3 RX3 TX3 12 := ⟨rfl, wcX3, tyX3_ok, nmX3⟩
theorem mcK4 : mcK 4 RX4 TX4 3 := ⟨rfl, wcX4, tyX4_ok, nmX4⟩
theorem mcK5 : mcK 5 RX5 TX5 5 := ⟨rfl, wcX5, tyX5_ok, nmX5⟩
theorem mcK6 : mcK 6 RX6 TX6 5 := ⟨rfl, wcX6, tyX6_ok, nmX6⟩
theorem mcK7 : mcK 7 RX7 TX7 11 := ⟨rfl, wcX7, tyX7_ok, nmX7⟩
theorem mcK8 : mcK 8 RX8 TX8 13 := ⟨rfl, wcX8, tyX8_ok, nmX8⟩
theorem mcK9 : mcK 9 RX9 TX9 27 := ⟨rfl, wcX9, tyX9_ok, nmX9⟩
def mfl (own : String) (idx ci k : Nat) : Prop := ∃ (C : String) (T : u_T) (N : Nat), mcK ci C T N ∧ k < N ∧ Cond.fieldLink own idx (T k).1 (T k).2.1 (T k).2.2.1 ∈ mg
def mfw (own : String) (idx ci k : Nat) : Prop := ∃ (C : String) (T : u_T) (N : Nat), mcK ci C T N ∧ k < N ∧ Cond.fieldLink own idx (T k).1 (T k).2.1 (T k).2.2.1 ∈ mg ∧ (T k).2.2.2 = false
theorem map_set {α : Type} (n k : Nat) (f g : Nat → α) (h : ∀ j, j ≠ k → g j = f j) : ((List.range n).map f).set k (g k) = (List.range n).map g := by
  apply List.ext_getElem?
  intro i
  by_cases hi : i = k
  · subst hi
    by_cases hl : i < n
    · rw [List.getElem?_set_self (by simpa using hl)]
      simp [hl]
    · rw [List.getElem?_eq_none (by simpa using hl), List.getElem?_eq_none (by simpa using hl)]
  · rw [List.getElem?_set_ne (Ne.symm hi)]
    simp only [List.getElem?_map]
    by_cases hl : i < n
    · simp [hl, h i hi]
    · rw [List.getElem?_eq_none (by simpa using hl)]
      rfl
theorem hset_at {h : mH} {a i : Nat} {v : Int} : hset h a i v a i = v := by simp [hset]
theorem hset_nj {h : mH} {a i b j : Nat} {v : Int} (hj : j ≠ i) : hset h a i v b j = h b j := by simp [hset, hj]
theorem mcell_o {cA : Nat → ClassId} {ρ : Nat → Nat} {r : List (List Nat)} {h : mH} {a ci n : Nat} (hc : ci < 10) : mcell cA ρ r h a (ci, n) = .inr (ci, (List.range n).map (mfld ρ r h ci a)) := if_pos hc
section MR
variable {l : Launch} {mt : mT} {d : Nat} {b : Nat × Nat} {pc i : Nat} {ls : List (Option mV)} {st : List mV} {S : mS} {r : List (List Nat)} {h : mH} {M : mM} {Q : Option mV → mM → Prop} {x y n : Int} {a a' ci k N idx : Nat}
theorem WP_get {v : mV} (hd : mcd mt pc = some (.getfield idx, 3)) (hf : mfl mt.1.cls idx ci k) (hS : M.1[a]? = some (ci, N)) (hk : k < N) (hv : ∀ ρ sa : Nat → Nat, mfld ρ M.2.1 M.2.2 ci a k = mcv ρ sa v) (hok : mOK M → mok v) (kk : WP l mt d b (pc + 3) ls (v :: st) M Q) : WP l mt d b pc ls (.inr (.inr (.inl a)) :: st) M Q := by
  intro D cA sa p e R s m args below meth c A ρ0 n0 hC ρ L H locs cells slots hR
  obtain ⟨g1, g2, g3, g4, g5, g6, g7, g8, g9, g10⟩ := hR
  obtain ⟨C, T, N', ⟨c1, c2, c3, c4⟩, f1, f2⟩ := hf
  have he := mW_at (cA := cA) (ρ := ρ) hS
  rw [mcell_o (mcl_lt c1)] at he
  refine va_get (v := mcv ρ sa v) hC.1 hC.2.1 hC.wds (fun w hw => List.mem_cons_of_mem _ (c2 w hw)) hC.own hC.K g5 a he c1 k f1 (hC.wd f2) (fun _ z => z) ?_ (hC.dec hd) (kk D cA sa p e R s m args below meth c A ρ0 n0 hC ρ L H locs cells slots ⟨g1, g2, g3, okc (hok g8) (okt g4), g5, g6, g7, g8, g9, g10⟩)
  rw [List.getElem?_map, List.getElem?_range hk, ← hv ρ sa]
  rfl
theorem WP_getI (hd : mcd mt pc = some (.getfield idx, 3)) (hf : mfl mt.1.cls idx ci k) (hS : S[a]? = some (ci, N)) (hk : k < N) (hc : ci < 10) (hty : mty ci k = .int ∨ mty ci k = .boolean) (kk : WP l mt d b (pc + 3) ls (.inl (h a k) :: st) (S, r, h) Q) : WP l mt d b pc ls (.inr (.inr (.inl a)) :: st) (S, r, h) Q := by
  refine WP_get hd hf hS hk (fun ρ sa => ?_) (fun hO => ?_) kk
  · unfold mfld
    rcases hty with e | e <;> rw [e] <;> rfl
  · have h1 : mrg ci k (h a k) := hO a _ hS k
    have hne : ¬ (ci = 11 ∨ (ci < 10 ∧ mty ci k = .long)) := by
      rintro (z | ⟨-, z⟩)
      · omega
      · rcases hty with e | e <;> rw [e] at z <;> cases z
    unfold mrg at h1
    rw [if_neg hne] at h1
    exact h1
theorem WP_getL (hd : mcd mt pc = some (.getfield idx, 3)) (hf : mfl mt.1.cls idx ci k) (hS : S[a]? = some (ci, N)) (hk : k < N) (hc : ci < 10) (hty : mty ci k = .long) (kk : WP l mt d b (pc + 3) ls (.inr (.inl (h a k)) :: st) (S, r, h) Q) : WP l mt d b pc ls (.inr (.inr (.inl a)) :: st) (S, r, h) Q := by
  refine WP_get hd hf hS hk (fun ρ sa => ?_) (fun hO => ?_) kk
  · unfold mfld
    rw [hty]; rfl
  · have h1 : mrg ci k (h a k) := hO a _ hS k
    unfold mrg at h1
    rw [if_pos (Or.inr ⟨hc, hty⟩)] at h1
    exact h1
def mrty (t : FieldType) : Bool := match t with
  | .int => false
  | .boolean => false
  | .long => false
  | _ => true
theorem WP_getR (hd : mcd mt pc = some (.getfield idx, 3)) (hf : mfl mt.1.cls idx ci k) (hS : S[a]? = some (ci, N)) (hk : k < N) (hty : mrty (mty ci k) = true) (hr : (r.getD a []).getD k 0 = a' + 1) (kk : WP l mt d b (pc + 3) ls (.inr (.inr (.inl a')) :: st) (S, r, h) Q) : WP l mt d b pc ls (.inr (.inr (.inl a)) :: st) (S, r, h) Q := by
  refine WP_get (v := .inr (.inr (.inl a'))) hd hf hS hk (fun ρ sa => ?_) (fun _ => trivial) kk
  unfold mfld
  cases e : mty ci k <;> rw [e] at hty <;> first | (cases hty; done) | (simp only [mref]; show va_rf (match (r.getD a []).getD k 0 with | 0 => none | b + 1 => some (ρ b)) = _; rw [hr]; rfl)
/-- what a write leaves -/
theorem mRl.put {D : va_G} {cA sa : Nat → Nat} {A : Nat → Prop} {s : State} {R : Room} {ρ0 ρ : Nat → Nat} {n0 : Nat} {L : Array Slot} {H H1 : Heap} {locs locs1 : List Loc} {cells slots : Nat} {st' : List mV} {q : Nat × Nat} {v : Int} {e : va_E}
    (hR : mRl mt D cA sa A s R ρ0 n0 b ρ L H locs cells slots ls st (S, r, h)) (hS : S[a]? = some q) (hv : mrg q.1 i v) (hst : ∀ w ∈ st', mok w) (he : e = mcell cA ρ r (hset h a i v) a q)
    (hP : va_P D mcl ((mW cA ρ (S, r, h)).set a (ρ a, e)) H1) (hD : va_D A ((mW cA ρ (S, r, h)).set a (ρ a, e))) (hS1 : va_S A s.heap H1 locs1) : mRl mt D cA sa A s R ρ0 n0 b ρ L H1 locs1 cells slots ls st' (S, r, hset h a i v) := by
  obtain ⟨g1, g2, g3, g4, g5, g6, g7, g8, g9, g10⟩ := hR
  have ew : (mW cA ρ (S, r, h)).set a (ρ a, e) = mW cA ρ (S, r, hset h a i v) := mW_set (M := (S, r, h)) (M' := (S, r, hset h a i v)) rfl hS (fun b' hb q' => mcell_h (hset_ne hb) q') he
  rw [ew] at hP hD
  exact ⟨g1, g2, g3, hst, hP, hD, hS1, mOK_set g8 (fun q' hq' => by have : some q = some q' := hS.symm.trans hq'; cases this; exact hv), g9, g10⟩
theorem mfld_set {ρ : Nat → Nat} {v : Int} : ∀ j, j ≠ k → mfld ρ r (hset h a k v) ci a j = mfld ρ r h ci a j := fun j hj => by
  unfold mfld
  rw [hset_nj hj]
theorem WP_put {v : mV} (hd : mcd mt pc = some (.putfield idx, 3)) (hf : mfw mt.1.cls idx ci k) (hS : S[a]? = some (ci, N)) (hk : k < N) (hv : ∀ ρ sa : Nat → Nat, mfld ρ r (hset h a k x) ci a k = mcv ρ sa v) (hn : ∀ ρ sa : Nat → Nat, narrow (mty ci k) (mcv ρ sa v) = mcv ρ sa v) (hfit : ∀ ρ sa : Nat → Nat, fits (mty ci k) (mcv ρ sa v) = true) (hok : mok v → mrg ci k x) (kk : WP l mt d b (pc + 3) ls st (S, r, hset h a k x) Q) : WP l mt d b pc ls (v :: .inr (.inr (.inl a)) :: st) (S, r, h) Q := by
  intro D cA sa p e R s m args below meth c A ρ0 n0 hC ρ L H locs cells slots hR
  have hR0 := hR
  obtain ⟨g1, g2, g3, g4, g5, g6, g7, g8, g9, g10⟩ := hR
  obtain ⟨C, T, N', ⟨c1, c2, c3, c4⟩, f1, f2, f3⟩ := hf
  have he := mW_at (M := (S, r, h)) (cA := cA) (ρ := ρ) hS
  rw [mcell_o (mcl_lt c1)] at he
  refine va_put (ty := mty ci k) (v := mcv ρ sa v) hC.1 hC.2.1 hC.wds (fun w hw => List.mem_cons_of_mem _ (c2 w hw)) (mty ci) c3 c4 hC.own hC.K g5 g6 g7 a he c1 k f1 (hC.wd f2) (fun _ z => z) f3 (c3 k f1) (hn ρ sa) (hfit ρ sa) (by simpa using hk) (hC.dec hd) (fun H1 locs1 hP hD hS1 => ?_)
  refine kk D cA sa p e R s m args below meth c A ρ0 n0 hC ρ L H1 locs1 cells slots (hR0.put hS (hok (okh g4)) (okt (okt g4)) ?_ hP hD hS1)
  rw [mcell_o (mcl_lt c1), ← hv ρ sa, map_set N k (mfld ρ r h ci a) (mfld ρ r (hset h a k x) ci a) mfld_set]
theorem WP_putI (hd : mcd mt pc = some (.putfield idx, 3)) (hf : mfw mt.1.cls idx ci k) (hS : S[a]? = some (ci, N)) (hk : k < N) (hty : mty ci k = .int) (hc : ci < 10) (kk : WP l mt d b (pc + 3) ls st (S, r, hset h a k x) Q) : WP l mt d b pc ls (.inl x :: .inr (.inr (.inl a)) :: st) (S, r, h) Q := by
  refine WP_put hd hf hS hk (fun ρ sa => ?_) (fun ρ sa => ?_) (fun ρ sa => ?_) (fun hx => ?_) kk
  · unfold mfld; rw [hty, hset_at]; rfl
  · rw [hty]; rfl
  · rw [hty]; rfl
  · unfold mrg
    rw [if_neg (by rintro (z | ⟨-, z⟩); (· omega); (· rw [hty] at z; cases z))]
    exact hx
theorem WP_putL (hd : mcd mt pc = some (.putfield idx, 3)) (hf : mfw mt.1.cls idx ci k) (hS : S[a]? = some (ci, N)) (hk : k < N) (hty : mty ci k = .long) (hc : ci < 10) (kk : WP l mt d b (pc + 3) ls st (S, r, hset h a k x) Q) : WP l mt d b pc ls (.inr (.inl x) :: .inr (.inr (.inl a)) :: st) (S, r, h) Q := by
  refine WP_put hd hf hS hk (fun ρ sa => ?_) (fun ρ sa => ?_) (fun ρ sa => ?_) (fun hx => ?_) kk
  · unfold mfld; rw [hty, hset_at]; rfl
  · rw [hty]; rfl
  · rw [hty]; rfl
  · unfold mrg
    rw [if_pos (Or.inr ⟨hc, hty⟩)]
    exact hx
theorem WP_putZ (hd : mcd mt pc = some (.putfield idx, 3)) (hf : mfw mt.1.cls idx ci k) (hS : S[a]? = some (ci, N)) (hk : k < N) (hty : mty ci k = .boolean) (hc : ci < 10) (h01 : x = 0 ∨ x = 1) (kk : WP l mt d b (pc + 3) ls st (S, r, hset h a k x) Q) : WP l mt d b pc ls (.inl x :: .inr (.inr (.inl a)) :: st) (S, r, h) Q := by
  refine WP_put hd hf hS hk (fun ρ sa => ?_) (fun ρ sa => ?_) (fun ρ sa => ?_) (fun hx => ?_) kk
  · unfold mfld; rw [hty, hset_at]; rfl
  · rw [hty]; rcases h01 with rfl | rfl <;> rfl
  · rw [hty]; rcases h01 with rfl | rfl <;> rfl
  · unfold mrg
    rw [if_neg (by rintro (z | ⟨-, z⟩); (· omega); (· rw [hty] at z; cases z))]
    exact hx
/-! arrays -/
theorem mcell_i {cA : Nat → ClassId} {ρ : Nat → Nat} : mcell cA ρ r h a (10, N) = .inl (cA 10, N, .inl (fun j => Int32.ofInt (h a j))) := rfl
theorem mcell_l {cA : Nat → ClassId} {ρ : Nat → Nat} : mcell cA ρ r h a (11, N) = .inl (cA 11, N, .inr (.inl (fun j => Int64.ofInt (h a j)))) := rfl
theorem mcell_c {cA : Nat → ClassId} {ρ : Nat → Nat} : mcell cA ρ r h a (12, N) = .inl (cA 12, N, .inl (fun j => Int32.ofInt (h a j))) := rfl
theorem mcell_z {cA : Nat → ClassId} {ρ : Nat → Nat} : mcell cA ρ r h a (13, N) = .inl (cA 13, N, .inl (fun j => Int32.ofInt (h a j))) := rfl
theorem upd_h {v : Int} : upd (fun j => Int32.ofInt (h a j)) k (Int32.ofInt v) = fun j => Int32.ofInt (hset h a k v a j) := by
  funext j
  by_cases e : j = k
  · subst e; simp [upd, hset_at]
  · simp [upd, e, hset_nj e]
theorem updL_h {v : Int} : vp_updL (fun j => Int64.ofInt (h a j)) k (Int64.ofInt v) = fun j => Int64.ofInt (hset h a k v a j) := by
  funext j
  by_cases e : j = k
  · subst e; simp [vp_updL, hset_at]
  · simp [vp_updL, e, hset_nj e]
theorem rgI {kd j : Nat} (hk : 10 ≤ kd) (hn : kd ≠ 11) : mrg kd j x ↔ inI x := by
  unfold mrg
  rw [if_neg (by rintro (z | ⟨z, -⟩) <;> omega)]
theorem rgL {j : Nat} : mrg 11 j x ↔ inL x := by
  unfold mrg
  rw [if_pos (Or.inl rfl)]
theorem WP_iald (hd : mcd mt pc = some (.iaload, 1)) (hS : S[a]? = some (10, N)) (h0 : 0 ≤ x) (h1 : x < N) (kk : WP l mt d b (pc + 1) ls (.inl (h a x.toNat) :: st) (S, r, h) Q) : WP l mt d b pc ls (.inl x :: .inr (.inr (.inl a)) :: st) (S, r, h) Q := by
  intro D cA sa p e R s m args below meth c A ρ0 n0 hC ρ L H locs cells slots hR
  obtain ⟨g1, g2, g3, g4, g5, g6, g7, g8, g9, g10⟩ := hR
  have hx : inI x := okh g4
  refine va_iald (cA := cA 10) hC.1 hC.2.1 hC.K g5 a 0 (mW_at (M := (S, r, h)) hS) rfl (inI_vp h0 h1 hx) (hC.dec hd) ?_
  rw [inI_cl hx]
  exact kk D cA sa p e R s m args below meth c A ρ0 n0 hC ρ L H locs cells slots ⟨g1, g2, g3, okc ((rgI (by simp) (by simp)).mp (g8 a _ hS _)) (okt (okt g4)), g5, g6, g7, g8, g9, g10⟩
theorem WP_cald (hd : mcd mt pc = some (.caload, 1)) (hS : S[a]? = some (12, N)) (h0 : 0 ≤ x) (h1 : x < N) (kk : WP l mt d b (pc + 1) ls (.inl (h a x.toNat) :: st) (S, r, h) Q) : WP l mt d b pc ls (.inl x :: .inr (.inr (.inl a)) :: st) (S, r, h) Q := by
  intro D cA sa p e R s m args below meth c A ρ0 n0 hC ρ L H locs cells slots hR
  obtain ⟨g1, g2, g3, g4, g5, g6, g7, g8, g9, g10⟩ := hR
  have hx : inI x := okh g4
  refine va_cald (cA := cA 12) hC.1 hC.2.1 hC.K g5 a 2 (mW_at (M := (S, r, h)) hS) rfl (inI_vp h0 h1 hx) (hC.dec hd) ?_
  rw [inI_cl hx]
  exact kk D cA sa p e R s m args below meth c A ρ0 n0 hC ρ L H locs cells slots ⟨g1, g2, g3, okc ((rgI (by simp) (by simp)).mp (g8 a _ hS _)) (okt (okt g4)), g5, g6, g7, g8, g9, g10⟩
theorem WP_zald (hd : mcd mt pc = some (.baload, 1)) (hS : S[a]? = some (13, N)) (h0 : 0 ≤ x) (h1 : x < N) (kk : WP l mt d b (pc + 1) ls (.inl (h a x.toNat) :: st) (S, r, h) Q) : WP l mt d b pc ls (.inl x :: .inr (.inr (.inl a)) :: st) (S, r, h) Q := by
  intro D cA sa p e R s m args below meth c A ρ0 n0 hC ρ L H locs cells slots hR
  obtain ⟨g1, g2, g3, g4, g5, g6, g7, g8, g9, g10⟩ := hR
  have hx : inI x := okh g4
  refine va_zald (cA := cA 13) hC.1 hC.2.1 hC.K g5 a 3 (mW_at (M := (S, r, h)) hS) rfl (inI_vp h0 h1 hx) (hC.dec hd) ?_
  rw [inI_cl hx]
  exact kk D cA sa p e R s m args below meth c A ρ0 n0 hC ρ L H locs cells slots ⟨g1, g2, g3, okc ((rgI (by simp) (by simp)).mp (g8 a _ hS _)) (okt (okt g4)), g5, g6, g7, g8, g9, g10⟩
theorem WP_lald (hd : mcd mt pc = some (.laload, 1)) (hS : S[a]? = some (11, N)) (h0 : 0 ≤ x) (h1 : x < N) (kk : WP l mt d b (pc + 1) ls (.inr (.inl (h a x.toNat)) :: st) (S, r, h) Q) : WP l mt d b pc ls (.inl x :: .inr (.inr (.inl a)) :: st) (S, r, h) Q := by
  intro D cA sa p e R s m args below meth c A ρ0 n0 hC ρ L H locs cells slots hR
  obtain ⟨g1, g2, g3, g4, g5, g6, g7, g8, g9, g10⟩ := hR
  have hx : inI x := okh g4
  refine va_lald (cA := cA 11) hC.1 hC.2.1 hC.K g5 a 1 (mW_at (M := (S, r, h)) hS) rfl (inI_vp h0 h1 hx) (hC.dec hd) ?_
  rw [inI_cl hx]
  exact kk D cA sa p e R s m args below meth c A ρ0 n0 hC ρ L H locs cells slots ⟨g1, g2, g3, okc (rgL.mp (g8 a _ hS _)) (okt (okt g4)), g5, g6, g7, g8, g9, g10⟩
theorem WP_iast (hd : mcd mt pc = some (.iastore, 1)) (hS : S[a]? = some (10, N)) (h0 : 0 ≤ x) (h1 : x < N) (kk : WP l mt d b (pc + 1) ls st (S, r, hset h a x.toNat y) Q) : WP l mt d b pc ls (.inl y :: .inl x :: .inr (.inr (.inl a)) :: st) (S, r, h) Q := by
  intro D cA sa p e R s m args below meth c A ρ0 n0 hC ρ L H locs cells slots hR
  have hR0 := hR
  obtain ⟨g1, g2, g3, g4, g5, g6, g7, g8, g9, g10⟩ := hR
  have hx : inI x := okh (okt g4)
  refine va_iast (cA := cA 10) hC.1 hC.2.1 hC.K g5 g6 g7 a 0 (mW_at (M := (S, r, h)) hS) rfl (inI_vp h0 h1 hx) (hC.dec hd) (fun H1 locs1 hP hD hS1 => ?_)
  rw [inI_cl hx, upd_h] at hP hD
  exact kk D cA sa p e R s m args below meth c A ρ0 n0 hC ρ L H1 locs1 cells slots (hR0.put hS ((rgI (by simp) (by simp)).mpr (okh g4)) (okt (okt (okt g4))) rfl hP hD hS1)
theorem WP_last (hd : mcd mt pc = some (.lastore, 1)) (hS : S[a]? = some (11, N)) (h0 : 0 ≤ x) (h1 : x < N) (kk : WP l mt d b (pc + 1) ls st (S, r, hset h a x.toNat y) Q) : WP l mt d b pc ls (.inr (.inl y) :: .inl x :: .inr (.inr (.inl a)) :: st) (S, r, h) Q := by
  intro D cA sa p e R s m args below meth c A ρ0 n0 hC ρ L H locs cells slots hR
  have hR0 := hR
  obtain ⟨g1, g2, g3, g4, g5, g6, g7, g8, g9, g10⟩ := hR
  have hx : inI x := okh (okt g4)
  refine va_last (cA := cA 11) hC.1 hC.2.1 hC.K g5 g6 g7 a 1 (mW_at (M := (S, r, h)) hS) rfl (inI_vp h0 h1 hx) (hC.dec hd) (fun H1 locs1 hP hD hS1 => ?_)
  rw [inI_cl hx, updL_h] at hP hD
  exact kk D cA sa p e R s m args below meth c A ρ0 n0 hC ρ L H1 locs1 cells slots (hR0.put hS (rgL.mpr (okh g4)) (okt (okt (okt g4))) rfl hP hD hS1)
theorem WP_zast (hd : mcd mt pc = some (.bastore, 1)) (hS : S[a]? = some (13, N)) (h0 : 0 ≤ x) (h1 : x < N) (h01 : y = 0 ∨ y = 1) (kk : WP l mt d b (pc + 1) ls st (S, r, hset h a x.toNat y) Q) : WP l mt d b pc ls (.inl y :: .inl x :: .inr (.inr (.inl a)) :: st) (S, r, h) Q := by
  intro D cA sa p e R s m args below meth c A ρ0 n0 hC ρ L H locs cells slots hR
  have hR0 := hR
  obtain ⟨g1, g2, g3, g4, g5, g6, g7, g8, g9, g10⟩ := hR
  have hx : inI x := okh (okt g4)
  refine va_zast (cA := cA 13) hC.1 hC.2.1 hC.K g5 g6 g7 a 3 (mW_at (M := (S, r, h)) hS) rfl (inI_vp h0 h1 hx) (hC.dec hd) (fun H1 locs1 hP hD hS1 => ?_)
  have ey : vp_nar .boolean (Int32.ofInt y) = Int32.ofInt y := by rcases h01 with rfl | rfl <;> rfl
  rw [inI_cl hx, ey, upd_h] at hP hD
  exact kk D cA sa p e R s m args below meth c A ρ0 n0 hC ρ L H1 locs1 cells slots (hR0.put hS ((rgI (by simp) (by simp)).mpr (okh g4)) (okt (okt (okt g4))) rfl hP hD hS1)
theorem jchr_of : Int32.ofInt (jchr x) = vp_nar .char (Int32.ofInt x) := by
  rw [vp_nar_char]
  unfold jchr
  rw [Int32.ofInt_toInt]
  congr 1
theorem WP_cast (hd : mcd mt pc = some (.castore, 1)) (hS : S[a]? = some (12, N)) (h0 : 0 ≤ x) (h1 : x < N) (kk : WP l mt d b (pc + 1) ls st (S, r, hset h a x.toNat (jchr y)) Q) : WP l mt d b pc ls (.inl y :: .inl x :: .inr (.inr (.inl a)) :: st) (S, r, h) Q := by
  intro D cA sa p e R s m args below meth c A ρ0 n0 hC ρ L H locs cells slots hR
  have hR0 := hR
  obtain ⟨g1, g2, g3, g4, g5, g6, g7, g8, g9, g10⟩ := hR
  have hx : inI x := okh (okt g4)
  refine va_cast (cA := cA 12) hC.1 hC.2.1 hC.K g5 g6 g7 a 2 (mW_at (M := (S, r, h)) hS) rfl (inI_vp h0 h1 hx) (hC.dec hd) (fun H1 locs1 hP hD hS1 => ?_)
  rw [inI_cl hx, ← jchr_of, upd_h] at hP hD
  exact kk D cA sa p e R s m args below meth c A ρ0 n0 hC ρ L H1 locs1 cells slots (hR0.put hS ((rgI (by simp) (by simp)).mpr (inI_of _)) (okt (okt (okt g4))) rfl hP hD hS1)
theorem WP_alen (hd : mcd mt pc = some (.arraylength, 1)) (hS : S[a]? = some (10, N)) (hN : N ≤ 2147483647) (kk : WP l mt d b (pc + 1) ls (.inl (N : Int) :: st) (S, r, h) Q) : WP l mt d b pc ls (.inr (.inr (.inl a)) :: st) (S, r, h) Q := by
  intro D cA sa p e R s m args below meth c A ρ0 n0 hC ρ L H locs cells slots hR
  obtain ⟨g1, g2, g3, g4, g5, g6, g7, g8, g9, g10⟩ := hR
  exact va_alen (cA := cA 10) (v := Int32.ofInt (N : Int)) hC.1 hC.2.1 hC.K g5 a 0 (mW_at (M := (S, r, h)) hS) rfl Int32.ofInt_eq_ofNat.symm (hC.dec hd) (kk D cA sa p e R s m args below meth c A ρ0 n0 hC ρ L H locs cells slots ⟨g1, g2, g3, okc (show inI (N : Int) from ⟨by omega, by omega⟩) (okt g4), g5, g6, g7, g8, g9, g10⟩)
theorem WP_llen (hd : mcd mt pc = some (.arraylength, 1)) (hS : S[a]? = some (11, N)) (hN : N ≤ 2147483647) (kk : WP l mt d b (pc + 1) ls (.inl (N : Int) :: st) (S, r, h) Q) : WP l mt d b pc ls (.inr (.inr (.inl a)) :: st) (S, r, h) Q := by
  intro D cA sa p e R s m args below meth c A ρ0 n0 hC ρ L H locs cells slots hR
  obtain ⟨g1, g2, g3, g4, g5, g6, g7, g8, g9, g10⟩ := hR
  exact va_alen (cA := cA 11) (v := Int32.ofInt (N : Int)) hC.1 hC.2.1 hC.K g5 a 1 (mW_at (M := (S, r, h)) hS) rfl Int32.ofInt_eq_ofNat.symm (hC.dec hd) (kk D cA sa p e R s m args below meth c A ρ0 n0 hC ρ L H locs cells slots ⟨g1, g2, g3, okc (show inI (N : Int) from ⟨by omega, by omega⟩) (okt g4), g5, g6, g7, g8, g9, g10⟩)
theorem mcell_r {cA : Nat → ClassId} {ρ : Nat → Nat} (hc : 14 ≤ ci) : mcell cA ρ r h a (ci, N) = .inl (cA ci, N, .inr (.inr (.inr (.inr (fun j => mref ρ r a j))))) := by
  unfold mcell
  rw [if_neg (by show ¬ ci < 10; omega), if_neg (by show ¬ ci = 11; omega), if_neg (by show ¬ ci < 14; omega)]
theorem WP_aald {ty : FieldType} (hd : mcd mt pc = some (.aaload, 1)) (hS : S[a]? = some (ci, N)) (hc : 14 ≤ ci) (hty : ∀ cA, (mtys cA)[ci - 10]? = some (cA ci, ty)) (hrf : ty.isReference = true) (h0 : 0 ≤ x) (h1 : x < N) (hr : (r.getD a []).getD x.toNat 0 = a' + 1) (kk : WP l mt d b (pc + 1) ls (.inr (.inr (.inl a')) :: st) (S, r, h) Q) : WP l mt d b pc ls (.inl x :: .inr (.inr (.inl a)) :: st) (S, r, h) Q := by
  intro D cA sa p e R s m args below meth c A ρ0 n0 hC ρ L H locs cells slots hR
  obtain ⟨g1, g2, g3, g4, g5, g6, g7, g8, g9, g10⟩ := hR
  have hx : inI x := okh g4
  have ha := mW_at (M := (S, r, h)) (cA := cA) (ρ := ρ) hS
  rw [mcell_r hc] at ha
  have hin : vp_in (Int32.ofInt x) N := inI_vp h0 h1 hx
  have hlt : (Int32.ofInt x).toNatClampNeg < N := Nat.not_le.mp fun q => hin (Or.inr q)
  refine W.aald (v := va_rf (mref ρ r a (Int32.ofInt x).toNatClampNeg)) (ty := ty) hC.1 hC.2.1 (g5 a _ ha) ((hC.K.2 (ci - 10) _ (hty cA)).1 N (fun j => va_rf (mref ρ r a j))) hrf (fun q => by cases q) (by show ¬ (Int32.ofInt x < 0 ∨ (arrV _ _ _).slots.size ≤ _); rw [arrV_size]; exact hin) (by show (arrV _ _ _).slots[_]? = _; rw [arrV_read _ _ hlt]) rfl rfl (hC.dec hd) ?_
  have er : va_rf (mref ρ r a (Int32.ofInt x).toNatClampNeg) = .ref (ρ a') := by
    rw [inI_cl hx]
    unfold mref
    rw [hr]
    rfl
  rw [er]
  exact kk D cA sa p e R s m args below meth c A ρ0 n0 hC ρ L H locs cells slots ⟨g1, g2, g3, okc (v := .inr (.inr (.inl a'))) trivial (okt (okt g4)), g5, g6, g7, g8, g9, g10⟩
theorem mLn_in (j : Nat) : inL (mLn.getD j 0) := by
  by_cases hj : j < 6
  · have : ∀ j : Fin 6, -9223372036854775808 ≤ mLn.getD j.val 0 ∧ mLn.getD j.val 0 ≤ 9223372036854775807 := by decide
    exact this ⟨j, hj⟩
  · rw [List.getD_eq_getElem?_getD, List.getElem?_eq_none (by show 6 ≤ j; omega)]
    exact ⟨by decide, by decide⟩
theorem WP_lanes (hd : mcd mt pc = some (.getstatic idx, 3)) (hw : Cond.fieldLink mt.1.cls idx "MondayDeal$Outlook" "LANES" "[J" ∈ mg) (kk : WP l mt d b (pc + 3) ls (.inr (.inr (.inr 13)) :: st) M Q) : WP l mt d b pc ls st M Q := by
  intro D cA sa p e R s m args below meth c A ρ0 n0 hC ρ L H locs cells slots hR
  obtain ⟨g1, g2, g3, g4, g5, g6, g7, g8, g9, g10⟩ := hR
  exact va_gets hC.1 hC.2.1 hC.en.2.2.2.2.2.2.2.2.2.1 g7 hC.own (hC.wd hw) (fun _ z => z) (hC.dec hd) (kk D cA sa p e R s m args below meth c A ρ0 n0 hC ρ L H locs cells slots ⟨g1, g2, g3, okc (v := .inr (.inr (.inr 13))) trivial g4, g5, g6, g7, g8, g9, g10⟩)
theorem WP_lnld (hd : mcd mt pc = some (.laload, 1)) (h0 : 0 ≤ x) (h1 : x < 6) (kk : WP l mt d b (pc + 1) ls (.inr (.inl (mLn.getD x.toNat 0)) :: st) M Q) : WP l mt d b pc ls (.inl x :: .inr (.inr (.inr 13)) :: st) M Q := by
  intro D cA sa p e R s m args below meth c A ρ0 n0 hC ρ L H locs cells slots hR
  obtain ⟨g1, g2, g3, g4, g5, g6, g7, g8, g9, g10⟩ := hR
  have hx : inI x := okh g4
  exact va_tl hC.1 hC.2.1 hC.en.2.2.2.2.2.2.2.2.2.2 g7 (inI_vp h0 h1 hx) (by rw [inI_cl hx]; rfl) (hC.dec hd) (kk D cA sa p e R s m args below meth c A ρ0 n0 hC ρ L H locs cells slots ⟨g1, g2, g3, okc (mLn_in _) (okt (okt g4)), g5, g6, g7, g8, g9, g10⟩)
/-! returns -/
theorem WP_iret (hd : mcd mt pc = some (.ireturn, 1)) (hr : mt.2.2.2.1 = some .int) (hq : Q (some (.inl x)) M) : WP l mt d b pc ls [.inl x] M Q := by
  intro D cA sa p e R s m args below meth c A ρ0 n0 hC ρ L H locs cells slots hR
  obtain ⟨g1, g2, g3, g4, g5, g6, g7, g8, g9, g10⟩ := hR
  have hk := hC.2.2.2.1
  refine W.widen (k := R.cells) (n := R.slots) (by omega) (by omega) ?_
  exact W.iret hC.1 hC.2.1 (hC.2.2.1.trans hr) (fun t ht hW => ⟨⟨some (.inl x), M, ρ, g1, g2, rfl, hq, g8, fun y hy => by cases hy; exact okh g4, by rw [ht]; exact g5, g6⟩, g7.F ht⟩) g7.2.2 (hC.dec hd)
theorem WP_zret (hd : mcd mt pc = some (.ireturn, 1)) (hr : mt.2.2.2.1 = some .boolean) (h01 : x = 0 ∨ x = 1) (hq : Q (some (.inl x)) M) : WP l mt d b pc ls [.inl x] M Q := by
  intro D cA sa p e R s m args below meth c A ρ0 n0 hC ρ L H locs cells slots hR
  obtain ⟨g1, g2, g3, g4, g5, g6, g7, g8, g9, g10⟩ := hR
  have hk := hC.2.2.2.1
  refine W.widen (k := R.cells) (n := R.slots) (by omega) (by omega) ?_
  exact W.zret hC.1 hC.2.1 (hC.2.2.1.trans hr) (by rcases h01 with rfl | rfl <;> rfl) (fun t ht hW => ⟨⟨some (.inl x), M, ρ, g1, g2, rfl, hq, g8, fun y hy => by cases hy; exact okh g4, by rw [ht]; exact g5, g6⟩, g7.F ht⟩) g7.2.2 (hC.dec hd)
theorem WP_lret (hd : mcd mt pc = some (.lreturn, 1)) (hr : mt.2.2.2.1 = some .long) (hq : Q (some (.inr (.inl x))) M) : WP l mt d b pc ls [.inr (.inl x)] M Q := by
  intro D cA sa p e R s m args below meth c A ρ0 n0 hC ρ L H locs cells slots hR
  obtain ⟨g1, g2, g3, g4, g5, g6, g7, g8, g9, g10⟩ := hR
  have hk := hC.2.2.2.1
  refine W.widen (k := R.cells) (n := R.slots) (by omega) (by omega) ?_
  exact W.lret hC.1 hC.2.1 (hC.2.2.1.trans hr) (fun t ht hW => ⟨⟨some (.inr (.inl x)), M, ρ, g1, g2, rfl, hq, g8, fun y hy => by cases hy; exact okh g4, by rw [ht]; exact g5, g6⟩, g7.F ht⟩) g7.2.2 (hC.dec hd)
theorem WP_aret {C : String} (hd : mcd mt pc = some (.areturn, 1)) (hr : mt.2.2.2.1 = some (.object C)) (hq : Q (some (.inr (.inr (.inl a)))) M) : WP l mt d b pc ls [.inr (.inr (.inl a))] M Q := by
  intro D cA sa p e R s m args below meth c A ρ0 n0 hC ρ L H locs cells slots hR
  obtain ⟨g1, g2, g3, g4, g5, g6, g7, g8, g9, g10⟩ := hR
  have hk := hC.2.2.2.1
  refine W.widen (k := R.cells) (n := R.slots) (by omega) (by omega) ?_
  exact W.aret hC.1 hC.2.1 (hC.2.2.1.trans hr) (Or.inl ⟨C, rfl⟩) (Or.inr ⟨ρ a, rfl⟩) (fun t ht hW => ⟨⟨some (.inr (.inr (.inl a))), M, ρ, g1, g2, rfl, hq, g8, fun y hy => by cases hy; exact trivial, by rw [ht]; exact g5, g6⟩, g7.F ht⟩) g7.2.2 (hC.dec hd)
theorem WP_vret (hd : mcd mt pc = some (.return_, 1)) (hr : mt.2.2.2.1 = none) (hq : Q none M) : WP l mt d b pc ls [] M Q := by
  intro D cA sa p e R s m args below meth c A ρ0 n0 hC ρ L H locs cells slots hR
  obtain ⟨g1, g2, g3, g4, g5, g6, g7, g8, g9, g10⟩ := hR
  have hk := hC.2.2.2.1
  refine W.widen (k := R.cells) (n := R.slots) (by omega) (by omega) ?_
  exact W.vret hC.1 hC.2.1 (hC.2.2.1.trans hr) (fun t ht hW => ⟨⟨none, M, ρ, g1, g2, rfl, hq, g8, (fun y hy => by cases hy), by rw [ht]; exact g5, g6⟩, g7.F ht⟩) g7.2.2 (hC.dec hd)
end MR
end
section
/-! calls, and a contract out of a walk -/
theorem mg_good {w : Cond} (h : w ∈ mg) : goodWord w = true := (List.mem_filter.mp h).2
theorem mwy_good {mt mc : mT} (hc : Cond.code mc.1 mc.2.1 mc.2.2.1 mc.2.2.2.1 ∈ mg) : GoodIn (mwy mt) (mwy mc) := fun w hw => by
  rcases List.mem_cons.mp hw with rfl | hw
  · exact ⟨List.mem_cons_of_mem _ hc, good_of_word (mg_good hc)⟩
  · exact ⟨List.mem_cons_of_mem _ hw, good_of_word (mg_good hw)⟩
def mcw : mV → Nat
  | .inr (.inl _) => 2
  | _ => 1
theorem mcw_sum (ρ sa : Nat → Nat) : ∀ st : List mV, ((st.map (mcv ρ sa)).map fun v => v.category).sum = (st.map mcw).sum
  | [] => rfl
  | v :: st => by
    have ih := mcw_sum ρ sa st
    have e : (mcv ρ sa v).category = mcw v := by rcases v with x | x | x | x <;> rfl
    simp only [List.map_cons, List.sum_cons, ih, e]
theorem mcall {l : Launch} {D : va_G} {cA sa : Nat → Nat} {p : Program} {e : Env} {R : Room} {s : State} {m : MethodId} {args : Array Value} {below : List Frame} {meth : Method} {c : Code} {A : Nat → Prop} {ρ : Nat → Nat} {H : Heap} {locs : List Loc} {cells slots pc : Nat} {L : Array Slot} {st0 rest : List Value} {a : Array Value} {b1 : Nat × Nat} {M : mM} {Q1 : Option mV → mM → Prop} {Q' : State → Prop}
    (hr : va_Run p l e R s m args below meth c H locs cells slots b1.1 b1.2 (F0 m pc L st0) rest (mQc D cA sa ρ M.1.length (va_A (mW cA ρ M) H.size) Q1 a) (va_A (mW cA ρ M) H.size))
    (hS : va_S A s.heap H locs) (hF : ∀ q, va_A (mW cA ρ M) H.size q → A q)
    (kk : ∀ (v : Option mV) (M' : mM) (ρ' : Nat → Nat) (H1 : Heap) (locs1 : List Loc), ((∀ a, a < M.1.length → ρ' a = ρ a) ∧ (M'.1.length = M.1.length → ρ' = ρ)) → M.1.length ≤ M'.1.length → Q1 v M' → mOK M' → (∀ x, v = some x → mok x) → va_P D mcl (mW cA ρ' M') H1 → va_D A (mW cA ρ' M') → va_S A s.heap H1 locs1 → W p l e R s m args below meth c H1 locs1 (cells + b1.1) (slots + b1.2) Q' (F0 m (pc + 3) L ((v.map (mcv ρ' sa)).toList ++ rest))) :
    W p l e R s m args below meth c H locs cells slots Q' (F0 m pc L st0) := by
  intro T hT X
  obtain ⟨v, st₀, t, T', L', h0, X', hL, e1, e2, ⟨⟨v', M', ρ', k1, k2, k3, k4, k5, k6, k7, k8⟩, hz, hk⟩, st⟩ := hr T hT X
  cases k3
  rw [h0] at hz hk
  obtain ⟨t2, a1, b1⟩ := kk v' M' ρ' T'.heap (locs ++ L') k1 k2 k4 k5 k6 (by rw [e1]; exact k7) (k8.weaken (fun _ q _ h => hF q.1 h))
    ⟨Nat.le_trans hS.1 (by rw [e1]; exact hz), fun q h1 h2 => by rw [e1, hk q (Nat.lt_of_lt_of_le h1 hS.1) (fun z => h2 (hF q z))]; exact hS.2.1 q h1 h2, fun q hq => by
      rcases List.mem_append.mp hq with h | h
      · exact hS.2.2 q h
      · exact hF _ (hL q h)⟩ T' rfl X'
  exact ⟨t2, st t2 a1, b1⟩
theorem mfree {D : va_G} {cA : Nat → Nat} {s : State} {A : Nat → Prop} {ρ : Nat → Nat} {H : Heap} {locs : List Loc} {M : mM} (hD : va_D A (mW cA ρ M)) (hS : va_S A s.heap H locs) (hA : ∀ q, s.heap.size ≤ q → A q) : ∀ q, va_A (mW cA ρ M) H.size q → A q := fun q h => by
  rcases h with ⟨k, e, h⟩ | h
  · exact hD.2 k _ h
  · exact hA q (Nat.le_trans hS.1 h)
theorem mblind {D : va_G} {cA sa ρ : Nat → Nat} {M : mM} {as : List Value} {sz : Nat} {A : Nat → Prop} : FrameBlind (va_Pc as (fun U => U.heap.size = sz ∧ va_P D mcl (mW cA ρ M) U.heap ∧ mEn D cA sa A U U.heap ∧ va_D (fun _ => True) (mW cA ρ M))) := fun a U g mk q => by
  obtain ⟨q0, q1, q2, q3, q4⟩ := q
  exact ⟨q0, q1, q2, mEn.same (U := U.calling g mk a) rfl q3, q4⟩
theorem mpre {D : va_G} {cA sa ρ : Nat → Nat} {M : mM} {as : List Value} {A : Nat → Prop} {s : State} {H : Heap} {locs : List Loc} (hE : mEn D cA sa A s s.heap) (hP : va_P D mcl (mW cA ρ M) H) (hD : va_D A (mW cA ρ M)) (hS : va_S A s.heap H locs) (hF : ∀ q, va_A (mW cA ρ M) H.size q → A q) : ∀ U : State, U.heap = H → s.WarmedH U.vm → va_Pc as (fun U => U.heap.size = H.size ∧ va_P D mcl (mW cA ρ M) U.heap ∧ mEn D cA sa (va_A (mW cA ρ M) H.size) U U.heap ∧ va_D (fun _ => True) (mW cA ρ M)) as.toArray U := fun U hU hW =>
  ⟨rfl, by rw [hU], by rw [hU]; exact hP, by rw [hU]; exact mEn.warm hW ((hE.kept hS.2.1).narrow hF), hD.weaken (fun _ _ _ _ => trivial)⟩
section CR
variable {l : Launch} {mt mc : mT} {d : Nat} {b : Nat × Nat} {pc idx nA : Nat} {ls : List (Option mV)} {st st0 as : List mV} {M : mM} {Q Q1 : Option mV → mM → Prop}
theorem mcont {D : va_G} {cA sa : Nat → Nat} {p : Program} {e : Env} {R : Room} {s : State} {m : MethodId} {args : Array Value} {below : List Frame} {meth : Method} {c : Code} {A : Nat → Prop} {ρ ρ0 : Nat → Nat} {n0 : Nat} {H : Heap} {locs : List Loc} {cells slots : Nat} {L : Array Slot}
    (hC : mCx mt d D cA sa p R s m args meth c A) (hR : mRl mt D cA sa A s R ρ0 n0 b ρ L H locs cells slots ls st0 M) (hst : ∀ w ∈ st, mok w) (hlen : ∀ v M', Q1 v M' → M'.1.length = M.1.length) (kk : ∀ v M', Q1 v M' → WP l mt d b (pc + 3) ls (v.toList ++ st) M' Q) :
    ∀ (v : Option mV) (M' : mM) (ρ' : Nat → Nat) (H1 : Heap) (locs1 : List Loc), ((∀ a, a < M.1.length → ρ' a = ρ a) ∧ (M'.1.length = M.1.length → ρ' = ρ)) → M.1.length ≤ M'.1.length → Q1 v M' → mOK M' → (∀ x, v = some x → mok x) → va_P D mcl (mW cA ρ' M') H1 → va_D A (mW cA ρ' M') → va_S A s.heap H1 locs1 → W p l e R s m args below meth c H1 locs1 (cells + ((0, 0) : Nat × Nat).1) (slots + ((0, 0) : Nat × Nat).2) (MQ below (mQc D cA sa ρ0 n0 A Q) args s R.cells R.slots A) (F0 m (pc + 3) L ((v.map (mcv ρ' sa)).toList ++ st.map (mcv ρ sa))) := by
  intro v M' ρ' H1 locs1 k1 k2 k4 k5 k6 k7 k8 k9
  obtain ⟨g1, g2, g3, g4, g5, g6, g7, g8, g9, g10⟩ := hR
  have el := hlen v M' k4
  have er : ρ' = ρ := k1.2 el
  subst er
  have := kk v M' k4 D cA sa p e R s m args below meth c A ρ0 n0 hC ρ' L H1 locs1 cells slots ⟨⟨g1.1, fun z => g1.2 (el.symm.trans z)⟩, by rw [el]; exact g2, g3, (by
    intro w hw
    rcases List.mem_append.mp hw with h | h
    · cases v with
      | none => cases h
      | some x => rw [List.mem_singleton.mp h]; exact k6 x rfl
    · exact hst w h), k7, k8, k9, k5, g9, g10⟩
  rw [List.map_append] at this
  cases v <;> exact this
theorem WP_invS (hd : mcd mt pc = some (.invokestatic idx, 3)) (ho : mtOK mc nA) (hl : Cond.methodLink mt.1.cls idx mc.1 ∈ mg) (hs : Cond.static mc.1 ∈ mg) (hn : as.length = nA) (h1 : 1 ≤ d) (hE : Ev l mc (d - 1) (0, 0) as M Q1) (hlen : ∀ v M', Q1 v M' → M'.1.length = M.1.length) (hs0 : st0 = as.reverse ++ st) (hw : (st.map mcw).sum ≤ 8) (kk : ∀ v M', Q1 v M' → WP l mt d b (pc + 3) ls (v.toList ++ st) M' Q) : WP l mt d b pc ls st0 M Q := by
  subst hs0
  intro D cA sa p e R s m args below meth c A ρ0 n0 hC ρ L H locs cells slots hR
  have hR0 := hR
  obtain ⟨g1, g2, g3, g4, g5, g6, g7, g8, g9, g10⟩ := hR
  have hF := mfree (D := D) g6 g7 hC.ha
  have hfr := hC.fr
  have hlo := hC.lo
  have hmx := ho.2.2.2.2.2
  have hM := hE (fun v hv => g4 v (List.mem_append_left _ (List.mem_reverse.mpr hv))) g8 D cA sa ρ H.size
  have := va_runS (As := as.map (mcv ρ sa)) (rest := st.map (mcv ρ sa)) (g := F0 m pc L ((as.reverse ++ st).map (mcv ρ sa))) (locs := locs) (cells := cells) (slots := slots) (p := p) (e := e) (below := below) (meth := meth) (R := R) (H := H) ⟨hC.1, hC.2.1, hC.mx, hC.own, hC.wds⟩ hM ⟨callB_of (Ts := mwy mt) nA hC.wds (mwy_good ho.1) rfl rfl rfl (hC.wd ho.2.1) (hC.wd hl) ho.2.2.2.1 ⟨by show d - 1 + 1 ≤ R.frames; omega, by show 8 + (mc.2.2.1 + 11) + 64 * (d - 1) ≤ R.locals; omega⟩, hC.wd hs⟩ ⟨mblind, mpre hC.en g5 g6 g7 hF⟩ rfl (by rw [List.length_map]; exact hn) g3.1 (by rw [List.map_append, List.map_reverse]) (lv_room (by rw [mcw_sum]; exact hw)) (hC.dec hd) ⟨by omega, by omega⟩
  exact mcall this g7 hF (mcont hC hR0 (fun w hw => g4 w (List.mem_append_right _ hw)) hlen kk)
theorem WP_invSN {host : String} (hd : mcd mt pc = some (.invokestatic idx, 3)) (ho : mtOK mc nA) (hl : (mt.1.cls, idx, mc.1, host) ∈ mNl) (hs : Cond.static mc.1 ∈ mg) (hn : as.length = nA) (h1 : 1 ≤ d) (hE : Ev l mc (d - 1) (0, 0) as M Q1) (hlen : ∀ v M', Q1 v M' → M'.1.length = M.1.length) (hs0 : st0 = as.reverse ++ st) (hw : (st.map mcw).sum ≤ 8) (kk : ∀ v M', Q1 v M' → WP l mt d b (pc + 3) ls (v.toList ++ st) M' Q) : WP l mt d b pc ls st0 M Q := by
  subst hs0
  intro D cA sa p e R s m args below meth c A ρ0 n0 hC ρ L H locs cells slots hR
  have hR0 := hR
  obtain ⟨g1, g2, g3, g4, g5, g6, g7, g8, g9, g10⟩ := hR
  have hF := mfree (D := D) g6 g7 hC.ha
  have hfr := hC.fr
  have hlo := hC.lo
  have hmx := ho.2.2.2.2.2
  have hM := hE (fun v hv => g4 v (List.mem_append_left _ (List.mem_reverse.mpr hv))) g8 D cA sa ρ H.size
  have := va_runSN (host := host) (As := as.map (mcv ρ sa)) (rest := st.map (mcv ρ sa)) (g := F0 m pc L ((as.reverse ++ st).map (mcv ρ sa))) (locs := locs) (cells := cells) (slots := slots) (p := p) (e := e) (below := below) (meth := meth) (R := R) (H := H) ⟨hC.1, hC.2.1, hC.mx, hC.own, hC.wds⟩ hM ⟨va_cnB (Ts := mwy mt) nA hC.wds (mwy_good ho.1) rfl rfl rfl (hC.en.2.1 _ hl) (hC.wd ho.2.1) ho.2.2.2.1 ⟨by show d - 1 + 1 ≤ R.frames; omega, by show 8 + (mc.2.2.1 + 11) + 64 * (d - 1) ≤ R.locals; omega⟩, hC.wd hs, trivial⟩ ⟨mblind, mpre hC.en g5 g6 g7 hF⟩ rfl (by rw [List.length_map]; exact hn) g3.1 (by rw [List.map_append, List.map_reverse]) (lv_room (by rw [mcw_sum]; exact hw)) (hC.dec hd) ⟨by omega, by omega⟩
  exact mcall this g7 hF (mcont hC hR0 (fun w hw => g4 w (List.mem_append_right _ hw)) hlen kk)
theorem WP_invV {a ci N N' : Nat} {T : u_T} (hd : mcd mt pc = some (.invokevirtual idx, 3)) (ho : mtOK mc nA) (hl : Cond.methodLink mt.1.cls idx mc.1 ∈ mg) (hi : Cond.instanceMethod mc.1 ∈ mg) (hsel : Cond.selects mc.1.cls mc.1 mc.1 ∈ mg) (hcl : mcl[ci]? = some (mc.1.cls, T, N')) (hS : M.1[a]? = some (ci, N)) (hn : as.length = nA) (h1 : 1 ≤ d) (hE : Ev l mc (d - 1) (0, 0) (.inr (.inr (.inl a)) :: as) M Q1) (hlen : ∀ v M', Q1 v M' → M'.1.length = M.1.length) (hs0 : st0 = as.reverse ++ .inr (.inr (.inl a)) :: st) (hw : (st.map mcw).sum ≤ 8) (kk : ∀ v M', Q1 v M' → WP l mt d b (pc + 3) ls (v.toList ++ st) M' Q) : WP l mt d b pc ls st0 M Q := by
  subst hs0
  intro D cA sa p e R s m args below meth c A ρ0 n0 hC ρ L H locs cells slots hR
  have hR0 := hR
  obtain ⟨g1, g2, g3, g4, g5, g6, g7, g8, g9, g10⟩ := hR
  have hF := mfree (D := D) g6 g7 hC.ha
  have hfr := hC.fr
  have hlo := hC.lo
  have hmx := ho.2.2.2.2.2
  have hM := hE (okc trivial (fun v hv => g4 v (List.mem_append_left _ (List.mem_reverse.mpr hv)))) g8 D cA sa ρ H.size
  have he := mW_at (cA := cA) (ρ := ρ) hS
  rw [mcell_o (mcl_lt hcl)] at he
  have := va_runV (C := mc.1.cls) (b := ρ a) (As := as.map (mcv ρ sa)) (rest := st.map (mcv ρ sa)) (g := F0 m pc L ((as.reverse ++ .inr (.inr (.inl a)) :: st).map (mcv ρ sa))) (locs := locs) (cells := cells) (slots := slots) (p := p) (e := e) (below := below) (meth := meth) (R := R) (H := H) ⟨hC.1, hC.2.1, hC.mx, hC.own, hC.wds⟩ hM ⟨callB_of (Ts := mwy mt) nA hC.wds (mwy_good ho.1) rfl rfl rfl (hC.wd ho.2.1) (hC.wd hl) ho.2.2.2.1 ⟨by show d - 1 + 1 ≤ R.frames; omega, by show 8 + (mc.2.2.1 + 11) + 64 * (d - 1) ≤ R.locals; omega⟩, hC.wd hi, hC.wd hsel⟩ ⟨mblind, va_recv hC.K g5 hcl he, mpre hC.en g5 g6 g7 hF⟩ rfl (by rw [List.length_map]; exact hn) g3.1 (by rw [List.map_append, List.map_reverse]; rfl) (lv_room (by rw [mcw_sum]; exact hw)) (hC.dec hd) ⟨by omega, by omega⟩
  exact mcall this g7 hF (mcont hC hR0 (fun w hw => g4 w (List.mem_append_right _ (List.mem_cons_of_mem _ hw))) hlen kk)
end CR
theorem lg_mla (ρ sa : Nat → Nat) : ∀ as : List mV, (lg_sl (as.map (mcv ρ sa))).length = (mla as).length
  | [] => rfl
  | v :: as => by
    have ih := lg_mla ρ sa as
    have e : lg_sl ((v :: as).map (mcv ρ sa)) = (if (mcv ρ sa v).category = 2 then [.val (mcv ρ sa v), .second] else [.val (mcv ρ sa v)]) ++ lg_sl (as.map (mcv ρ sa)) := by
      simp [lg_sl]
    rw [e, List.length_append, ih]
    rcases v with x | x | x | x <;> simp [mcv, mla, Value.category] <;> omega
theorem mla_args (ρ sa : Nat → Nat) : ∀ (as : List mV) (k i : Nat) (v : mV), (mla as)[i]? = some (some v) → (k + i, mcv ρ sa v) ∈ lv_args k (as.map (mcv ρ sa)) ∧ v ∈ as
  | [], k, i, v, h => by simp [mla] at h
  | .inr (.inl x) :: as, k, i, v, h => by
    match i, h with
    | 0, h =>
      simp [mla] at h
      subst h
      exact ⟨List.mem_cons_self, List.mem_cons_self⟩
    | 1, h => simp [mla] at h
    | i + 2, h =>
      have h' : (mla as)[i]? = some (some v) := by simpa [mla] using h
      obtain ⟨a, b⟩ := mla_args ρ sa as (k + 2) i v h'
      refine ⟨List.mem_cons_of_mem _ ?_, List.mem_cons_of_mem _ b⟩
      have e : k + (i + 2) = k + 2 + i := by omega
      rw [e]
      exact a
  | .inl x :: as, k, i, v, h => by
    match i, h with
    | 0, h =>
      simp [mla] at h
      subst h
      exact ⟨List.mem_cons_self, List.mem_cons_self⟩
    | i + 1, h =>
      have h' : (mla as)[i]? = some (some v) := by simpa [mla] using h
      obtain ⟨a, b⟩ := mla_args ρ sa as (k + 1) i v h'
      refine ⟨List.mem_cons_of_mem _ ?_, List.mem_cons_of_mem _ b⟩
      have e : k + (i + 1) = k + 1 + i := by omega
      rw [e]
      exact a
  | .inr (.inr x) :: as, k, i, v, h => by
    have em : mla (.inr (.inr x) :: as) = some (.inr (.inr x)) :: mla as := by rcases x with x | x <;> rfl
    rw [em] at h
    match i, h with
    | 0, h =>
      simp at h
      subst h
      exact ⟨List.mem_cons_self, List.mem_cons_self⟩
    | i + 1, h =>
      have h' : (mla as)[i]? = some (some v) := by simpa using h
      obtain ⟨a, b⟩ := mla_args ρ sa as (k + 1) i v h'
      refine ⟨List.mem_cons_of_mem _ ?_, List.mem_cons_of_mem _ b⟩
      have e : k + (i + 1) = k + 1 + i := by omega
      rw [e]
      have ec : (mcv ρ sa (.inr (.inr x))).category = 1 := by rcases x with x | x <;> rfl
      rw [ec]
      exact a
theorem Ev.of {l : Launch} {mt : mT} {d nA : Nat} {b : Nat × Nat} {as : List mV} {M : mM} {Q : Option mV → mM → Prop} (ho : mtOK mt nA) (hl : (mla as).length ≤ mt.2.2.1) (k : WP l mt d b 0 (mla as ++ List.replicate (mt.2.2.1 - (mla as).length) none) [] M Q) : Ev l mt d b as M Q := by
  intro hok hO D cA sa ρ sz
  refine Met.ofW (cc := mt.2.1) (maxL := mt.2.2.1) (ret := mt.2.2.2.1) ho.2.2.1 rfl ?_
  intro p e s m args below meth c s₁ B hml hv
  obtain ⟨rfl, hsz, hP, hE, hD0⟩ := hv
  subst hsz
  have hts := atoms_spec (ws := mwy mt) B.pre
  have hown : s.vm.findClass mt.1.cls = some m.cls := findClass_of_methodNamed B.named
  have hnm := (name_of_methodNamed B.named B.method).1
  have hD := hD0.self (sz := s.heap.size)
  have hle : (lg_sl (as.map (mcv ρ sa))).length ≤ mt.2.2.1 := by rw [lg_mla]; exact hl
  have hen := lv_entry (as.map (mcv ρ sa)) hle
  rw [lg_entry_eq]
  refine k D cA sa p e _ s m _ below meth c (va_A (mW cA ρ M) s.heap.size) ρ M.1.length ⟨B.exec, B.bytes, B.returns, B.notSynchronized, hml, hown, hnm, hts, hE, Nat.le_refl _, Nat.le_refl _, fun q h => Or.inr h, ho.2.2.2.2.1⟩ ρ _ s.heap [] 0 0 ⟨⟨fun _ _ => rfl, fun _ => rfl⟩, Nat.le_refl _, ⟨hen.1, hen.2.1, fun i v hi => ?_⟩, (fun v hv => by cases hv), hP, hD, va_S.rf, hO, ?_, ?_⟩
  · have hi' : (mla as)[i]? = some (some v) := by
      by_cases hlt : i < (mla as).length
      · rw [List.getElem?_append_left hlt] at hi
        exact hi
      · rw [List.getElem?_append_right (by omega)] at hi
        have := List.mem_of_getElem? hi
        have := List.eq_of_mem_replicate this
        cases this
    obtain ⟨a, b⟩ := mla_args ρ sa as 0 i v hi'
    rw [Nat.zero_add] at a
    exact ⟨hen.2.2 _ a, hok v b⟩
  · show 0 + b.1 ≤ b.1; omega
  · show 0 + b.2 ≤ b.2; omega
end
section
/-! what decompiled texts are made of, and the rules in the order that a walk wants -/
def ald (h : mH) (a n : Nat) (i : Int) : Option Int := if 0 ≤ i ∧ i < n then some (h a i.toNat) else none
def ast (h : mH) (a n : Nat) (i v : Int) : Option mH := if 0 ≤ i ∧ i < n then some (hset h a i.toNat v) else none
def lnl (i : Int) : Option Int := if 0 ≤ i ∧ i < 6 then some (mLn.getD i.toNat 0) else none
def gin (n : Nat) (i : Int) : Option Nat := if 0 ≤ i ∧ i < n then some i.toNat else none
def hcpy (h : mH) (a a' : Nat) (sp dp n : Nat) : mH := fun b j => if b = a' then (if dp ≤ j ∧ j < dp + n then h a (sp + (j - dp)) else h b j) else h b j
def acp (h : mH) (a n : Nat) (sp : Int) (a' n' : Nat) (dp len : Int) : Option mH := if (0 ≤ sp ∧ 0 ≤ dp ∧ 0 ≤ len) ∧ sp + len ≤ n ∧ dp + len ≤ n' then some (hcpy h a a' sp.toNat dp.toNat len.toNat) else none
def hfil (h : mH) (a n : Nat) (v : Int) : mH := fun b j => if b = a then (if j < n then v else h b j) else h b j
def jmin (x y : Int) : Int := if y < x then y else x
theorem obind {α β : Type} {o : Option α} {f : α → Option β} {r : β} (h : o.bind f = some r) : ∃ x, o = some x ∧ f x = some r := Option.bind_eq_some_iff.mp h
theorem osome {α : Type} {c : Prop} [Decidable c] {x : Option α} {r : α} (h : (if c then x else none) = some r) : c ∧ x = some r := by
  by_cases hc : c
  · rw [if_pos hc] at h; exact ⟨hc, h⟩
  · rw [if_neg hc] at h; cases h
theorem onone {α : Type} {c : Prop} [Decidable c] {x : Option α} {r : α} (h : (if c then none else x) = some r) : ¬ c ∧ x = some r := by
  by_cases hc : c
  · rw [if_pos hc] at h; cases h
  · rw [if_neg hc] at h; exact ⟨hc, h⟩
theorem ald_some {h : mH} {a n : Nat} {i x : Int} (q : ald h a n i = some x) : 0 ≤ i ∧ i < n ∧ x = h a i.toNat := by
  obtain ⟨⟨h1, h2⟩, h3⟩ := osome q
  exact ⟨h1, h2, (Option.some.inj h3).symm⟩
theorem ast_some {h h' : mH} {a n : Nat} {i v : Int} (q : ast h a n i v = some h') : 0 ≤ i ∧ i < n ∧ h' = hset h a i.toNat v := by
  obtain ⟨⟨h1, h2⟩, h3⟩ := osome q
  exact ⟨h1, h2, (Option.some.inj h3).symm⟩
theorem lnl_some {i x : Int} (q : lnl i = some x) : 0 ≤ i ∧ i < 6 ∧ x = mLn.getD i.toNat 0 := by
  obtain ⟨⟨h1, h2⟩, h3⟩ := osome q
  exact ⟨h1, h2, (Option.some.inj h3).symm⟩
theorem gin_some {n x : Nat} {i : Int} (q : gin n i = some x) : 0 ≤ i ∧ i < n ∧ x = i.toNat := by
  obtain ⟨⟨h1, h2⟩, h3⟩ := osome q
  exact ⟨h1, h2, (Option.some.inj h3).symm⟩
theorem acp_some {h h' : mH} {a n a' n' : Nat} {sp dp len : Int} (q : acp h a n sp a' n' dp len = some h') : ((0 ≤ sp ∧ 0 ≤ dp ∧ 0 ≤ len) ∧ sp + len ≤ n ∧ dp + len ≤ n') ∧ h' = hcpy h a a' sp.toNat dp.toNat len.toNat := by
  obtain ⟨h1, h3⟩ := osome q
  exact ⟨h1, (Option.some.inj h3).symm⟩
/-- a loop: its body goes on, or leaves -/
def mloop {σ ρ : Type} (B : σ → Option (σ ⊕ ρ)) : Nat → σ → Option ρ
  | 0, _ => none
  | n + 1, s => (B s).bind (Sum.elim (mloop B n) some)
theorem mloop_sound {σ ρ : Type} {B : σ → Option (σ ⊕ ρ)} {P : σ → Prop} {K : ρ → Prop} (hs : ∀ s x, B s = some x → (∀ s', x = .inl s' → P s') → (∀ t, x = .inr t → K t) → P s) : ∀ (n : Nat) (s : σ) (t : ρ), mloop B n s = some t → K t → P s
  | 0, s, t, h, _ => by cases h
  | n + 1, s, t, h, hk => by
    obtain ⟨x, hx, h⟩ := obind h
    refine hs s x hx (fun s' e => ?_) (fun t' e => ?_)
    · subst e
      exact mloop_sound hs n s' t h hk
    · subst e
      cases h
      exact hk
def EvV (l : Launch) (mc : mT) (d : Nat) (as : List mV) (M : mM) (v : Option mV) (M' : mM) : Prop := Ev l mc d (0, 0) as M (fun v' M'' => v' = v ∧ M'' = M')
def mVok (mc : mT) (nA ci : Nat) : Prop := mtOK mc nA ∧ Cond.instanceMethod mc.1 ∈ mg ∧ Cond.selects mc.1.cls mc.1 mc.1 ∈ mg ∧ ∃ (T : u_T) (N : Nat), mcl[ci]? = some (mc.1.cls, T, N)
def mSok (mc : mT) (nA : Nat) : Prop := mtOK mc nA ∧ Cond.static mc.1 ∈ mg
section CD
variable {l : Launch} {mt mc : mT} {d : Nat} {b : Nat × Nat} {pc idx nA a ci N : Nat} {ls : List (Option mV)} {st st0 as : List mV} {S : mS} {r : List (List Nat)} {h h' : mH} {Q : Option mV → mM → Prop} {vv : mV}
theorem WP_cV (hE : EvV l mc (d - 1) (.inr (.inr (.inl a)) :: as) (S, r, h) (some vv) (S, r, h')) (hk : mVok mc nA ci) (hd : mcd mt pc = some (.invokevirtual idx, 3)) (hl : Cond.methodLink mt.1.cls idx mc.1 ∈ mg) (hS : S[a]? = some (ci, N)) (hn : as.length = nA) (h1 : 1 ≤ d) (hs0 : st0 = as.reverse ++ .inr (.inr (.inl a)) :: st) (hw : (st.map mcw).sum ≤ 8) (kk : WP l mt d b (pc + 3) ls (vv :: st) (S, r, h') Q) : WP l mt d b pc ls st0 (S, r, h) Q := by
  obtain ⟨k1, k2, k3, T, N', k4⟩ := hk
  exact WP_invV hd k1 hl k2 k3 k4 (M := (S, r, h)) hS hn h1 hE (fun v M' q => by rw [q.2]) hs0 hw (fun v M' q => by rw [q.1, q.2]; exact kk)
theorem WP_cVv (hE : EvV l mc (d - 1) (.inr (.inr (.inl a)) :: as) (S, r, h) none (S, r, h')) (hk : mVok mc nA ci) (hd : mcd mt pc = some (.invokevirtual idx, 3)) (hl : Cond.methodLink mt.1.cls idx mc.1 ∈ mg) (hS : S[a]? = some (ci, N)) (hn : as.length = nA) (h1 : 1 ≤ d) (hs0 : st0 = as.reverse ++ .inr (.inr (.inl a)) :: st) (hw : (st.map mcw).sum ≤ 8) (kk : WP l mt d b (pc + 3) ls st (S, r, h') Q) : WP l mt d b pc ls st0 (S, r, h) Q := by
  obtain ⟨k1, k2, k3, T, N', k4⟩ := hk
  exact WP_invV hd k1 hl k2 k3 k4 (M := (S, r, h)) hS hn h1 hE (fun v M' q => by rw [q.2]) hs0 hw (fun v M' q => by rw [q.1, q.2]; exact kk)
theorem WP_cS (hE : EvV l mc (d - 1) as (S, r, h) (some vv) (S, r, h')) (hk : mSok mc nA) (hd : mcd mt pc = some (.invokestatic idx, 3)) (hl : Cond.methodLink mt.1.cls idx mc.1 ∈ mg) (hn : as.length = nA) (h1 : 1 ≤ d) (hs0 : st0 = as.reverse ++ st) (hw : (st.map mcw).sum ≤ 8) (kk : WP l mt d b (pc + 3) ls (vv :: st) (S, r, h') Q) : WP l mt d b pc ls st0 (S, r, h) Q :=
  WP_invS hd hk.1 hl hk.2 hn h1 hE (fun v M' q => by rw [q.2]) hs0 hw (fun v M' q => by rw [q.1, q.2]; exact kk)
theorem WP_cSv (hE : EvV l mc (d - 1) as (S, r, h) none (S, r, h')) (hk : mSok mc nA) (hd : mcd mt pc = some (.invokestatic idx, 3)) (hl : Cond.methodLink mt.1.cls idx mc.1 ∈ mg) (hn : as.length = nA) (h1 : 1 ≤ d) (hs0 : st0 = as.reverse ++ st) (hw : (st.map mcw).sum ≤ 8) (kk : WP l mt d b (pc + 3) ls st (S, r, h') Q) : WP l mt d b pc ls st0 (S, r, h) Q :=
  WP_invS hd hk.1 hl hk.2 hn h1 hE (fun v M' q => by rw [q.2]) hs0 hw (fun v M' q => by rw [q.1, q.2]; exact kk)
theorem WP_cSN {host : String} (hE : EvV l mc (d - 1) as (S, r, h) (some vv) (S, r, h')) (hk : mSok mc nA) (hd : mcd mt pc = some (.invokestatic idx, 3)) (hl : (mt.1.cls, idx, mc.1, host) ∈ mNl) (hn : as.length = nA) (h1 : 1 ≤ d) (hs0 : st0 = as.reverse ++ st) (hw : (st.map mcw).sum ≤ 8) (kk : WP l mt d b (pc + 3) ls (vv :: st) (S, r, h') Q) : WP l mt d b pc ls st0 (S, r, h) Q :=
  WP_invSN hd hk.1 hl hk.2 hn h1 hE (fun v M' q => by rw [q.2]) hs0 hw (fun v M' q => by rw [q.1, q.2]; exact kk)
/-- what a write of a whole cell leaves -/
theorem mRl.upd {D : va_G} {cA sa : Nat → Nat} {A : Nat → Prop} {s : State} {R : Room} {ρ0 ρ : Nat → Nat} {n0 : Nat} {L : Array Slot} {H H1 : Heap} {locs locs1 : List Loc} {cells slots : Nat} {st' : List mV} {q : Nat × Nat} {e : va_E}
    (hR : mRl mt D cA sa A s R ρ0 n0 b ρ L H locs cells slots ls st (S, r, h)) (hS : S[a]? = some q) (ho : ∀ b, b ≠ a → h' b = h b) (hv : ∀ j, mrg q.1 j (h' a j)) (hst : ∀ w ∈ st', mok w) (he : e = mcell cA ρ r h' a q)
    (hP : va_P D mcl ((mW cA ρ (S, r, h)).set a (ρ a, e)) H1) (hD : va_D A ((mW cA ρ (S, r, h)).set a (ρ a, e))) (hS1 : va_S A s.heap H1 locs1) : mRl mt D cA sa A s R ρ0 n0 b ρ L H1 locs1 cells slots ls st' (S, r, h') := by
  obtain ⟨g1, g2, g3, g4, g5, g6, g7, g8, g9, g10⟩ := hR
  have ew : (mW cA ρ (S, r, h)).set a (ρ a, e) = mW cA ρ (S, r, h') := mW_set (M := (S, r, h)) (M' := (S, r, h')) rfl hS (fun b' hb q' => mcell_h (ho b' hb) q') he
  rw [ew] at hP hD
  refine ⟨g1, g2, g3, hst, hP, hD, hS1, fun b' q' hb' j => ?_, g9, g10⟩
  by_cases e' : b' = a
  · subst e'
    have : some q = some q' := hS.symm.trans hb'
    cases this
    exact hv j
  · show mrg q'.1 j (h' b' j)
    rw [ho b' e']
    exact g8 b' q' hb' j
theorem hcpy_ne {a a' sp dp n : Nat} : ∀ b, b ≠ a' → hcpy h a a' sp dp n b = h b := fun b hb => by
  funext j; simp [hcpy, hb]

theorem WP_acpI {a' n n' : Nat} {sp dp len : Int} (hd : mcd mt pc = some (.invokestatic idx, 3)) (hl : Cond.methodLink mt.1.cls idx arraycopyName ∈ mg) (hw3 : Cond.native arraycopyName ∈ mg ∧ Cond.static arraycopyName ∈ mg ∧ Cond.initialized "java/lang/System" ∈ mg) (hS0 : S[a]? = some (10, n)) (hS1 : S[a']? = some (10, n')) (hg : (0 ≤ sp ∧ 0 ≤ dp ∧ 0 ≤ len) ∧ sp + len ≤ n ∧ dp + len ≤ n') (h1 : 1 ≤ d) (hw : (st.map mcw).sum ≤ 8) (kk : WP l mt d b (pc + 3) ls st (S, r, hcpy h a a' sp.toNat dp.toNat len.toNat) Q) : WP l mt d b pc ls (.inl len :: .inl dp :: .inr (.inr (.inl a')) :: .inl sp :: .inr (.inr (.inl a)) :: st) (S, r, h) Q := by
  intro D cA sa p e R s m args below meth c A ρ0 n0 hC ρ L H locs cells slots hR
  have hR0 := hR
  obtain ⟨g1, g2, g3, g4, g5, g6, g7, g8, g9, g10⟩ := hR
  have i1 : inI len := okh g4
  have i2 : inI dp := okh (okt g4)
  have i3 : inI sp := okh (okt (okt (okt g4)))
  have hfr := hC.fr
  have hlo := hC.lo
  obtain ⟨⟨p1, p2, p3⟩, p4, p5⟩ := hg
  have hz : inI 0 := ⟨by decide, by decide⟩
  have hnf : nativeFrameWords "java/lang/System" "arraycopy" 5 + 11 ≤ 56 := by decide
  have hsum : ((st.map (mcv ρ sa)).map fun v => v.category).sum ≤ 8 := by rw [mcw_sum]; exact hw
  refine va_copyi (f := fun j => Int32.ofInt (h a j)) (g := fun j => Int32.ofInt (h a' j)) (c0 := cA 10) (c1 := cA 10) (ty := .int) hC.1 hC.2.1 (hC.mx.trans g3.1.symm) hC.own (hC.wd hl) (hC.wd hw3.1) (hC.wd hw3.2.1) (hC.wd hw3.2.2) hC.K g5 g6 g7 a a' 0 0 (mW_at (M := (S, r, h)) hS0) (mW_at (M := (S, r, h)) hS1) rfl rfl rfl (fun q => by have := (inI_lt i3 hz).mp q; omega) (fun q => by have := (inI_lt i2 hz).mp q; omega) (fun q => by have := (inI_lt i1 hz).mp q; omega) (by rw [inI_cl i3, inI_cl i1]; omega) (by rw [inI_cl i2, inI_cl i1]; omega) (fun i _ => rfl) (by omega) (Nat.le_trans (Nat.add_le_add hsum hnf) (by omega)) (hC.dec hd) (fun H1 locs1 hP hD hS' => ?_)
  rw [inI_cl i1, inI_cl i2, inI_cl i3] at hP hD
  have ef : va_cpy (fun j => Int32.ofInt (h a j)) (fun j => Int32.ofInt (h a' j)) sp.toNat dp.toNat len.toNat = fun j => Int32.ofInt (hcpy h a a' sp.toNat dp.toNat len.toNat a' j) := by
    funext j
    unfold va_cpy hcpy
    rw [if_pos rfl]
    split <;> rfl
  rw [ef] at hP hD
  refine kk D cA sa p e R s m args below meth c A ρ0 n0 hC ρ L H1 locs1 cells slots (hR0.upd hS1 hcpy_ne (fun j => ?_) (okt (okt (okt (okt (okt g4))))) rfl hP hD hS')
  unfold hcpy
  rw [if_pos rfl]
  split
  · have := g8 a _ hS0 (sp.toNat + (j - dp.toNat))
    exact (rgI (by simp) (by simp)).mpr ((rgI (by simp) (by simp)).mp this)
  · exact g8 a' _ hS1 j
theorem WP_acpL {a' n n' : Nat} {sp dp len : Int} (hd : mcd mt pc = some (.invokestatic idx, 3)) (hl : Cond.methodLink mt.1.cls idx arraycopyName ∈ mg) (hw3 : Cond.native arraycopyName ∈ mg ∧ Cond.static arraycopyName ∈ mg ∧ Cond.initialized "java/lang/System" ∈ mg) (hS0 : S[a]? = some (11, n)) (hS1 : S[a']? = some (11, n')) (hg : (0 ≤ sp ∧ 0 ≤ dp ∧ 0 ≤ len) ∧ sp + len ≤ n ∧ dp + len ≤ n') (h1 : 1 ≤ d) (hw : (st.map mcw).sum ≤ 8) (kk : WP l mt d b (pc + 3) ls st (S, r, hcpy h a a' sp.toNat dp.toNat len.toNat) Q) : WP l mt d b pc ls (.inl len :: .inl dp :: .inr (.inr (.inl a')) :: .inl sp :: .inr (.inr (.inl a)) :: st) (S, r, h) Q := by
  intro D cA sa p e R s m args below meth c A ρ0 n0 hC ρ L H locs cells slots hR
  have hR0 := hR
  obtain ⟨g1, g2, g3, g4, g5, g6, g7, g8, g9, g10⟩ := hR
  have i1 : inI len := okh g4
  have i2 : inI dp := okh (okt g4)
  have i3 : inI sp := okh (okt (okt (okt g4)))
  have hfr := hC.fr
  have hlo := hC.lo
  obtain ⟨⟨p1, p2, p3⟩, p4, p5⟩ := hg
  have hz : inI 0 := ⟨by decide, by decide⟩
  have hnf : nativeFrameWords "java/lang/System" "arraycopy" 5 + 11 ≤ 56 := by decide
  have hsum : ((st.map (mcv ρ sa)).map fun v => v.category).sum ≤ 8 := by rw [mcw_sum]; exact hw
  refine va_copyl (f := fun j => Int64.ofInt (h a j)) (g := fun j => Int64.ofInt (h a' j)) (c0 := cA 11) (c1 := cA 11) (ty := .long) hC.1 hC.2.1 (hC.mx.trans g3.1.symm) hC.own (hC.wd hl) (hC.wd hw3.1) (hC.wd hw3.2.1) (hC.wd hw3.2.2) hC.K g5 g6 g7 a a' 1 1 (mW_at (M := (S, r, h)) hS0) (mW_at (M := (S, r, h)) hS1) rfl rfl rfl (fun q => by have := (inI_lt i3 hz).mp q; omega) (fun q => by have := (inI_lt i2 hz).mp q; omega) (fun q => by have := (inI_lt i1 hz).mp q; omega) (by rw [inI_cl i3, inI_cl i1]; omega) (by rw [inI_cl i2, inI_cl i1]; omega) (fun i _ => rfl) (by omega) (Nat.le_trans (Nat.add_le_add hsum hnf) (by omega)) (hC.dec hd) (fun H1 locs1 hP hD hS' => ?_)
  rw [inI_cl i1, inI_cl i2, inI_cl i3] at hP hD
  have ef : va_cpy (fun j => Int64.ofInt (h a j)) (fun j => Int64.ofInt (h a' j)) sp.toNat dp.toNat len.toNat = fun j => Int64.ofInt (hcpy h a a' sp.toNat dp.toNat len.toNat a' j) := by
    funext j
    unfold va_cpy hcpy
    rw [if_pos rfl]
    split <;> rfl
  rw [ef] at hP hD
  refine kk D cA sa p e R s m args below meth c A ρ0 n0 hC ρ L H1 locs1 cells slots (hR0.upd hS1 hcpy_ne (fun j => ?_) (okt (okt (okt (okt (okt g4))))) rfl hP hD hS')
  unfold hcpy
  rw [if_pos rfl]
  split
  · exact g8 a _ hS0 (sp.toNat + (j - dp.toNat))
  · exact g8 a' _ hS1 j
theorem jmin_in {x y : Int} (hx : inI x) (hy : inI y) : inI (jmin x y) := by
  unfold jmin
  split
  · exact hy
  · exact hx
theorem WP_min {x y : Int} (hd : mcd mt pc = some (.invokestatic idx, 3)) (hl : Cond.methodLink mt.1.cls idx Lib.Math.min.name ∈ mg) (hw3 : Cond.static Lib.Math.min.name ∈ mg ∧ Cond.initialized "java/lang/Math" ∈ mg ∧ Cond.code Lib.Math.min.name Lib.Math.min.code 2 (some .int) ∈ mg) (h1 : 1 ≤ d) (hw : (st.map mcw).sum ≤ 8) (kk : WP l mt d b (pc + 3) ls (.inl (jmin x y) :: st) (S, r, h) Q) : WP l mt d b pc ls (.inl y :: .inl x :: st) (S, r, h) Q := by
  intro D cA sa p e R s m args below meth c A ρ0 n0 hC ρ L H locs cells slots hR
  obtain ⟨g1, g2, g3, g4, g5, g6, g7, g8, g9, g10⟩ := hR
  have hfr := hC.fr
  have hlo := hC.lo
  have iy : inI y := okh g4
  have ix : inI x := okh (okt g4)
  refine va_mmin hC.1 hC.2.1 (hC.mx.trans g3.1.symm) hC.own (hC.wd hl) (hC.wd hw3.1) (hC.wd hw3.2.1) (hC.wd hw3.2.2) (by omega) (by rw [mcw_sum]; omega) (by omega) (by omega) (hC.dec hd) ?_
  have em : (if Int32.ofInt y < Int32.ofInt x then Int32.ofInt y else Int32.ofInt x) = Int32.ofInt (jmin x y) := by
    unfold jmin
    by_cases q : y < x
    · rw [if_pos q, if_pos ((inI_lt iy ix).mpr q)]
    · rw [if_neg q, if_neg (fun z => q ((inI_lt iy ix).mp z))]
  rw [em]
  exact kk D cA sa p e R s m args below meth c A ρ0 n0 hC ρ L H locs cells slots ⟨g1, g2, g3, okc (jmin_in ix iy) (okt (okt g4)), g5, g6, g7, g8, g9, g10⟩
end CD
end
section
/-! the shapes of the two memories, as their constructors leave them -/
def SX : mS := [(8, 13), (6, 5), (12, 160), (7, 11), (10, 7), (10, 6), (10, 6), (10, 6), (10, 6), (10, 6), (10, 6), (10, 6), (10, 6), (7, 11), (10, 7), (10, 6), (10, 6), (10, 6), (10, 6), (10, 6), (10, 6), (10, 6), (10, 6), (2, 4), (10, 5040), (14, 7), (10, 7), (10, 7), (10, 7), (10, 7), (10, 7), (10, 7), (10, 7), (14, 7), (10, 7), (10, 7), (10, 7), (10, 7), (10, 7), (10, 7), (10, 7), (3, 12), (15, 8), (11, 6), (11, 6), (11, 6), (11, 6), (11, 6), (11, 6), (11, 6), (11, 6), (15, 8), (11, 6), (11, 6), (11, 6), (11, 6), (11, 6), (11, 6), (11, 6), (11, 6), (10, 6), (10, 7), (11, 6), (10, 6), (15, 6), (11, 13), (11, 13), (11, 13), (11, 13), (11, 13), (11, 13), (10, 64), (5, 5), (10, 6), (10, 6), (10, 4), (4, 3), (16, 8), (5, 5), (10, 6), (10, 6), (10, 4), (5, 5), (10, 6), (10, 6), (10, 4), (5, 5), (10, 6), (10, 6), (10, 4), (5, 5), (10, 6), (10, 6), (10, 4), (5, 5), (10, 6), (10, 6), (10, 4), (5, 5), (10, 6), (10, 6), (10, 4), (5, 5), (10, 6), (10, 6), (10, 4), (5, 5), (10, 6), (10, 6), (10, 4), (16, 2), (13, 2), (0, 5), (10, 6), (10, 6), (10, 6), (1, 3), (10, 8), (10, 8), (5, 5), (10, 6), (10, 6), (10, 4), (5, 5), (10, 6), (10, 6), (10, 4)]
def rX : List (List Nat) := [[2, 4, 14, 24, 42, 73, 77, 111, 112, 113, 117, 0, 0], [3, 0, 0, 0, 0], [], [5, 0, 6, 7, 8, 9, 10, 0, 11, 12, 13], [], [], [], [], [], [], [], [], [], [15, 0, 16, 17, 18, 19, 20, 0, 21, 22, 23], [], [], [], [], [], [], [], [], [], [25, 0, 26, 34], [], [27, 28, 29, 30, 31, 32, 33], [], [], [], [], [], [], [], [35, 36, 37, 38, 39, 40, 41], [], [], [], [], [], [], [], [43, 52, 61, 62, 63, 64, 65, 72, 0, 0, 0, 0], [44, 45, 46, 47, 48, 49, 50, 51], [], [], [], [], [], [], [], [], [53, 54, 55, 56, 57, 58, 59, 60], [], [], [], [], [], [], [], [], [], [], [], [], [66, 67, 68, 69, 70, 71], [], [], [], [], [], [], [], [74, 75, 0, 0, 76], [], [], [], [78, 0, 0], [79, 83, 87, 91, 95, 99, 103, 107], [80, 81, 0, 0, 82], [], [], [], [84, 85, 0, 0, 86], [], [], [], [88, 89, 0, 0, 90], [], [], [], [92, 93, 0, 0, 94], [], [], [], [96, 97, 0, 0, 98], [], [], [], [100, 101, 0, 0, 102], [], [], [], [104, 105, 0, 0, 106], [], [], [], [108, 109, 0, 0, 110], [], [], [], [120, 124], [], [114, 115, 116, 0, 0], [], [], [], [118, 119, 0], [], [], [121, 122, 0, 0, 123], [], [], [], [125, 126, 0, 0, 127], [], [], []]
def rfX (a k : Nat) : Nat := (rX.getD a []).getD k 0 - 1
def SM : mS := [(9, 27), (10, 216), (13, 2), (10, 160), (10, 56), (10, 7), (10, 6), (10, 6), (10, 6), (10, 6), (10, 6), (10, 18), (10, 5040), (10, 18), (10, 24)]
def rM : List (List Nat) := [[2, 0, 3, 4, 0, 5, 0, 6, 0, 7, 8, 9, 10, 11, 0, 12, 13, 0, 0, 0, 0, 0, 0, 14, 0, 15, 0], [], [], [], [], [], [], [], [], [], [], [], [], [], []]
def rfM (a k : Nat) : Nat := (rM.getD a []).getD k 0 - 1
theorem wfX0_0 {t : Nat} (h : SX[t]? = some (0, 5)) : SX[rfX t 0]? = some (10, 6) ∧ (rX.getD t []).getD 0 0 = rfX t 0 + 1 := by
  have hd : ∀ t : Fin 127, SX[t.val]? = some (0, 5) → SX[rfX t.val 0]? = some (10, 6) ∧ (rX.getD t.val []).getD 0 0 = rfX t.val 0 + 1 := by decide +kernel
  exact hd ⟨t, (List.getElem?_eq_some_iff.mp h).1⟩ h
theorem wfX0_1 {t : Nat} (h : SX[t]? = some (0, 5)) : SX[rfX t 1]? = some (10, 6) ∧ (rX.getD t []).getD 1 0 = rfX t 1 + 1 := by
  have hd : ∀ t : Fin 127, SX[t.val]? = some (0, 5) → SX[rfX t.val 1]? = some (10, 6) ∧ (rX.getD t.val []).getD 1 0 = rfX t.val 1 + 1 := by decide +kernel
  exact hd ⟨t, (List.getElem?_eq_some_iff.mp h).1⟩ h
theorem wfX0_2 {t : Nat} (h : SX[t]? = some (0, 5)) : SX[rfX t 2]? = some (10, 6) ∧ (rX.getD t []).getD 2 0 = rfX t 2 + 1 := by
  have hd : ∀ t : Fin 127, SX[t.val]? = some (0, 5) → SX[rfX t.val 2]? = some (10, 6) ∧ (rX.getD t.val []).getD 2 0 = rfX t.val 2 + 1 := by decide +kernel
  exact hd ⟨t, (List.getElem?_eq_some_iff.mp h).1⟩ h
theorem wfX1_0 {t : Nat} (h : SX[t]? = some (1, 3)) : SX[rfX t 0]? = some (10, 8) ∧ (rX.getD t []).getD 0 0 = rfX t 0 + 1 := by
  have hd : ∀ t : Fin 127, SX[t.val]? = some (1, 3) → SX[rfX t.val 0]? = some (10, 8) ∧ (rX.getD t.val []).getD 0 0 = rfX t.val 0 + 1 := by decide +kernel
  exact hd ⟨t, (List.getElem?_eq_some_iff.mp h).1⟩ h
theorem wfX1_1 {t : Nat} (h : SX[t]? = some (1, 3)) : SX[rfX t 1]? = some (10, 8) ∧ (rX.getD t []).getD 1 0 = rfX t 1 + 1 := by
  have hd : ∀ t : Fin 127, SX[t.val]? = some (1, 3) → SX[rfX t.val 1]? = some (10, 8) ∧ (rX.getD t.val []).getD 1 0 = rfX t.val 1 + 1 := by decide +kernel
  exact hd ⟨t, (List.getElem?_eq_some_iff.mp h).1⟩ h
theorem wfX2_0 {t : Nat} (h : SX[t]? = some (2, 4)) : SX[rfX t 0]? = some (10, 5040) ∧ (rX.getD t []).getD 0 0 = rfX t 0 + 1 := by
  have hd : ∀ t : Fin 127, SX[t.val]? = some (2, 4) → SX[rfX t.val 0]? = some (10, 5040) ∧ (rX.getD t.val []).getD 0 0 = rfX t.val 0 + 1 := by decide +kernel
  exact hd ⟨t, (List.getElem?_eq_some_iff.mp h).1⟩ h
theorem wfX2_2 {t : Nat} (h : SX[t]? = some (2, 4)) : SX[rfX t 2]? = some (14, 7) ∧ (rX.getD t []).getD 2 0 = rfX t 2 + 1 := by
  have hd : ∀ t : Fin 127, SX[t.val]? = some (2, 4) → SX[rfX t.val 2]? = some (14, 7) ∧ (rX.getD t.val []).getD 2 0 = rfX t.val 2 + 1 := by decide +kernel
  exact hd ⟨t, (List.getElem?_eq_some_iff.mp h).1⟩ h
theorem wfX2_3 {t : Nat} (h : SX[t]? = some (2, 4)) : SX[rfX t 3]? = some (14, 7) ∧ (rX.getD t []).getD 3 0 = rfX t 3 + 1 := by
  have hd : ∀ t : Fin 127, SX[t.val]? = some (2, 4) → SX[rfX t.val 3]? = some (14, 7) ∧ (rX.getD t.val []).getD 3 0 = rfX t.val 3 + 1 := by decide +kernel
  exact hd ⟨t, (List.getElem?_eq_some_iff.mp h).1⟩ h
theorem wfX3_0 {t : Nat} (h : SX[t]? = some (3, 12)) : SX[rfX t 0]? = some (15, 8) ∧ (rX.getD t []).getD 0 0 = rfX t 0 + 1 := by
  have hd : ∀ t : Fin 127, SX[t.val]? = some (3, 12) → SX[rfX t.val 0]? = some (15, 8) ∧ (rX.getD t.val []).getD 0 0 = rfX t.val 0 + 1 := by decide +kernel
  exact hd ⟨t, (List.getElem?_eq_some_iff.mp h).1⟩ h
theorem wfX3_1 {t : Nat} (h : SX[t]? = some (3, 12)) : SX[rfX t 1]? = some (15, 8) ∧ (rX.getD t []).getD 1 0 = rfX t 1 + 1 := by
  have hd : ∀ t : Fin 127, SX[t.val]? = some (3, 12) → SX[rfX t.val 1]? = some (15, 8) ∧ (rX.getD t.val []).getD 1 0 = rfX t.val 1 + 1 := by decide +kernel
  exact hd ⟨t, (List.getElem?_eq_some_iff.mp h).1⟩ h
theorem wfX3_2 {t : Nat} (h : SX[t]? = some (3, 12)) : SX[rfX t 2]? = some (10, 6) ∧ (rX.getD t []).getD 2 0 = rfX t 2 + 1 := by
  have hd : ∀ t : Fin 127, SX[t.val]? = some (3, 12) → SX[rfX t.val 2]? = some (10, 6) ∧ (rX.getD t.val []).getD 2 0 = rfX t.val 2 + 1 := by decide +kernel
  exact hd ⟨t, (List.getElem?_eq_some_iff.mp h).1⟩ h
theorem wfX3_3 {t : Nat} (h : SX[t]? = some (3, 12)) : SX[rfX t 3]? = some (10, 7) ∧ (rX.getD t []).getD 3 0 = rfX t 3 + 1 := by
  have hd : ∀ t : Fin 127, SX[t.val]? = some (3, 12) → SX[rfX t.val 3]? = some (10, 7) ∧ (rX.getD t.val []).getD 3 0 = rfX t.val 3 + 1 := by decide +kernel
  exact hd ⟨t, (List.getElem?_eq_some_iff.mp h).1⟩ h
theorem wfX3_4 {t : Nat} (h : SX[t]? = some (3, 12)) : SX[rfX t 4]? = some (11, 6) ∧ (rX.getD t []).getD 4 0 = rfX t 4 + 1 := by
  have hd : ∀ t : Fin 127, SX[t.val]? = some (3, 12) → SX[rfX t.val 4]? = some (11, 6) ∧ (rX.getD t.val []).getD 4 0 = rfX t.val 4 + 1 := by decide +kernel
  exact hd ⟨t, (List.getElem?_eq_some_iff.mp h).1⟩ h
theorem wfX3_5 {t : Nat} (h : SX[t]? = some (3, 12)) : SX[rfX t 5]? = some (10, 6) ∧ (rX.getD t []).getD 5 0 = rfX t 5 + 1 := by
  have hd : ∀ t : Fin 127, SX[t.val]? = some (3, 12) → SX[rfX t.val 5]? = some (10, 6) ∧ (rX.getD t.val []).getD 5 0 = rfX t.val 5 + 1 := by decide +kernel
  exact hd ⟨t, (List.getElem?_eq_some_iff.mp h).1⟩ h
theorem wfX3_6 {t : Nat} (h : SX[t]? = some (3, 12)) : SX[rfX t 6]? = some (15, 6) ∧ (rX.getD t []).getD 6 0 = rfX t 6 + 1 := by
  have hd : ∀ t : Fin 127, SX[t.val]? = some (3, 12) → SX[rfX t.val 6]? = some (15, 6) ∧ (rX.getD t.val []).getD 6 0 = rfX t.val 6 + 1 := by decide +kernel
  exact hd ⟨t, (List.getElem?_eq_some_iff.mp h).1⟩ h
theorem wfX3_7 {t : Nat} (h : SX[t]? = some (3, 12)) : SX[rfX t 7]? = some (10, 64) ∧ (rX.getD t []).getD 7 0 = rfX t 7 + 1 := by
  have hd : ∀ t : Fin 127, SX[t.val]? = some (3, 12) → SX[rfX t.val 7]? = some (10, 64) ∧ (rX.getD t.val []).getD 7 0 = rfX t.val 7 + 1 := by decide +kernel
  exact hd ⟨t, (List.getElem?_eq_some_iff.mp h).1⟩ h
theorem wfX4_0 {t : Nat} (h : SX[t]? = some (4, 3)) : SX[rfX t 0]? = some (16, 8) ∧ (rX.getD t []).getD 0 0 = rfX t 0 + 1 := by
  have hd : ∀ t : Fin 127, SX[t.val]? = some (4, 3) → SX[rfX t.val 0]? = some (16, 8) ∧ (rX.getD t.val []).getD 0 0 = rfX t.val 0 + 1 := by decide +kernel
  exact hd ⟨t, (List.getElem?_eq_some_iff.mp h).1⟩ h
theorem wfX5_0 {t : Nat} (h : SX[t]? = some (5, 5)) : SX[rfX t 0]? = some (10, 6) ∧ (rX.getD t []).getD 0 0 = rfX t 0 + 1 := by
  have hd : ∀ t : Fin 127, SX[t.val]? = some (5, 5) → SX[rfX t.val 0]? = some (10, 6) ∧ (rX.getD t.val []).getD 0 0 = rfX t.val 0 + 1 := by decide +kernel
  exact hd ⟨t, (List.getElem?_eq_some_iff.mp h).1⟩ h
theorem wfX5_1 {t : Nat} (h : SX[t]? = some (5, 5)) : SX[rfX t 1]? = some (10, 6) ∧ (rX.getD t []).getD 1 0 = rfX t 1 + 1 := by
  have hd : ∀ t : Fin 127, SX[t.val]? = some (5, 5) → SX[rfX t.val 1]? = some (10, 6) ∧ (rX.getD t.val []).getD 1 0 = rfX t.val 1 + 1 := by decide +kernel
  exact hd ⟨t, (List.getElem?_eq_some_iff.mp h).1⟩ h
theorem wfX5_4 {t : Nat} (h : SX[t]? = some (5, 5)) : SX[rfX t 4]? = some (10, 4) ∧ (rX.getD t []).getD 4 0 = rfX t 4 + 1 := by
  have hd : ∀ t : Fin 127, SX[t.val]? = some (5, 5) → SX[rfX t.val 4]? = some (10, 4) ∧ (rX.getD t.val []).getD 4 0 = rfX t.val 4 + 1 := by decide +kernel
  exact hd ⟨t, (List.getElem?_eq_some_iff.mp h).1⟩ h
theorem wfX6_0 {t : Nat} (h : SX[t]? = some (6, 5)) : SX[rfX t 0]? = some (12, 160) ∧ (rX.getD t []).getD 0 0 = rfX t 0 + 1 := by
  have hd : ∀ t : Fin 127, SX[t.val]? = some (6, 5) → SX[rfX t.val 0]? = some (12, 160) ∧ (rX.getD t.val []).getD 0 0 = rfX t.val 0 + 1 := by decide +kernel
  exact hd ⟨t, (List.getElem?_eq_some_iff.mp h).1⟩ h
theorem wfX7_0 {t : Nat} (h : SX[t]? = some (7, 11)) : SX[rfX t 0]? = some (10, 7) ∧ (rX.getD t []).getD 0 0 = rfX t 0 + 1 := by
  have hd : ∀ t : Fin 127, SX[t.val]? = some (7, 11) → SX[rfX t.val 0]? = some (10, 7) ∧ (rX.getD t.val []).getD 0 0 = rfX t.val 0 + 1 := by decide +kernel
  exact hd ⟨t, (List.getElem?_eq_some_iff.mp h).1⟩ h
theorem wfX7_2 {t : Nat} (h : SX[t]? = some (7, 11)) : SX[rfX t 2]? = some (10, 6) ∧ (rX.getD t []).getD 2 0 = rfX t 2 + 1 := by
  have hd : ∀ t : Fin 127, SX[t.val]? = some (7, 11) → SX[rfX t.val 2]? = some (10, 6) ∧ (rX.getD t.val []).getD 2 0 = rfX t.val 2 + 1 := by decide +kernel
  exact hd ⟨t, (List.getElem?_eq_some_iff.mp h).1⟩ h
theorem wfX7_3 {t : Nat} (h : SX[t]? = some (7, 11)) : SX[rfX t 3]? = some (10, 6) ∧ (rX.getD t []).getD 3 0 = rfX t 3 + 1 := by
  have hd : ∀ t : Fin 127, SX[t.val]? = some (7, 11) → SX[rfX t.val 3]? = some (10, 6) ∧ (rX.getD t.val []).getD 3 0 = rfX t.val 3 + 1 := by decide +kernel
  exact hd ⟨t, (List.getElem?_eq_some_iff.mp h).1⟩ h
theorem wfX7_4 {t : Nat} (h : SX[t]? = some (7, 11)) : SX[rfX t 4]? = some (10, 6) ∧ (rX.getD t []).getD 4 0 = rfX t 4 + 1 := by
  have hd : ∀ t : Fin 127, SX[t.val]? = some (7, 11) → SX[rfX t.val 4]? = some (10, 6) ∧ (rX.getD t.val []).getD 4 0 = rfX t.val 4 + 1 := by decide +kernel
  exact hd ⟨t, (List.getElem?_eq_some_iff.mp h).1⟩ h
theorem wfX7_5 {t : Nat} (h : SX[t]? = some (7, 11)) : SX[rfX t 5]? = some (10, 6) ∧ (rX.getD t []).getD 5 0 = rfX t 5 + 1 := by
  have hd : ∀ t : Fin 127, SX[t.val]? = some (7, 11) → SX[rfX t.val 5]? = some (10, 6) ∧ (rX.getD t.val []).getD 5 0 = rfX t.val 5 + 1 := by decide +kernel
  exact hd ⟨t, (List.getElem?_eq_some_iff.mp h).1⟩ h
theorem wfX7_6 {t : Nat} (h : SX[t]? = some (7, 11)) : SX[rfX t 6]? = some (10, 6) ∧ (rX.getD t []).getD 6 0 = rfX t 6 + 1 := by
  have hd : ∀ t : Fin 127, SX[t.val]? = some (7, 11) → SX[rfX t.val 6]? = some (10, 6) ∧ (rX.getD t.val []).getD 6 0 = rfX t.val 6 + 1 := by decide +kernel
  exact hd ⟨t, (List.getElem?_eq_some_iff.mp h).1⟩ h
theorem wfX7_8 {t : Nat} (h : SX[t]? = some (7, 11)) : SX[rfX t 8]? = some (10, 6) ∧ (rX.getD t []).getD 8 0 = rfX t 8 + 1 := by
  have hd : ∀ t : Fin 127, SX[t.val]? = some (7, 11) → SX[rfX t.val 8]? = some (10, 6) ∧ (rX.getD t.val []).getD 8 0 = rfX t.val 8 + 1 := by decide +kernel
  exact hd ⟨t, (List.getElem?_eq_some_iff.mp h).1⟩ h
theorem wfX7_9 {t : Nat} (h : SX[t]? = some (7, 11)) : SX[rfX t 9]? = some (10, 6) ∧ (rX.getD t []).getD 9 0 = rfX t 9 + 1 := by
  have hd : ∀ t : Fin 127, SX[t.val]? = some (7, 11) → SX[rfX t.val 9]? = some (10, 6) ∧ (rX.getD t.val []).getD 9 0 = rfX t.val 9 + 1 := by decide +kernel
  exact hd ⟨t, (List.getElem?_eq_some_iff.mp h).1⟩ h
theorem wfX7_10 {t : Nat} (h : SX[t]? = some (7, 11)) : SX[rfX t 10]? = some (10, 6) ∧ (rX.getD t []).getD 10 0 = rfX t 10 + 1 := by
  have hd : ∀ t : Fin 127, SX[t.val]? = some (7, 11) → SX[rfX t.val 10]? = some (10, 6) ∧ (rX.getD t.val []).getD 10 0 = rfX t.val 10 + 1 := by decide +kernel
  exact hd ⟨t, (List.getElem?_eq_some_iff.mp h).1⟩ h
theorem wfX8_0 {t : Nat} (h : SX[t]? = some (8, 13)) : SX[rfX t 0]? = some (6, 5) ∧ (rX.getD t []).getD 0 0 = rfX t 0 + 1 := by
  have hd : ∀ t : Fin 127, SX[t.val]? = some (8, 13) → SX[rfX t.val 0]? = some (6, 5) ∧ (rX.getD t.val []).getD 0 0 = rfX t.val 0 + 1 := by decide +kernel
  exact hd ⟨t, (List.getElem?_eq_some_iff.mp h).1⟩ h
theorem wfX8_1 {t : Nat} (h : SX[t]? = some (8, 13)) : SX[rfX t 1]? = some (7, 11) ∧ (rX.getD t []).getD 1 0 = rfX t 1 + 1 := by
  have hd : ∀ t : Fin 127, SX[t.val]? = some (8, 13) → SX[rfX t.val 1]? = some (7, 11) ∧ (rX.getD t.val []).getD 1 0 = rfX t.val 1 + 1 := by decide +kernel
  exact hd ⟨t, (List.getElem?_eq_some_iff.mp h).1⟩ h
theorem wfX8_2 {t : Nat} (h : SX[t]? = some (8, 13)) : SX[rfX t 2]? = some (7, 11) ∧ (rX.getD t []).getD 2 0 = rfX t 2 + 1 := by
  have hd : ∀ t : Fin 127, SX[t.val]? = some (8, 13) → SX[rfX t.val 2]? = some (7, 11) ∧ (rX.getD t.val []).getD 2 0 = rfX t.val 2 + 1 := by decide +kernel
  exact hd ⟨t, (List.getElem?_eq_some_iff.mp h).1⟩ h
theorem wfX8_3 {t : Nat} (h : SX[t]? = some (8, 13)) : SX[rfX t 3]? = some (2, 4) ∧ (rX.getD t []).getD 3 0 = rfX t 3 + 1 := by
  have hd : ∀ t : Fin 127, SX[t.val]? = some (8, 13) → SX[rfX t.val 3]? = some (2, 4) ∧ (rX.getD t.val []).getD 3 0 = rfX t.val 3 + 1 := by decide +kernel
  exact hd ⟨t, (List.getElem?_eq_some_iff.mp h).1⟩ h
theorem wfX8_4 {t : Nat} (h : SX[t]? = some (8, 13)) : SX[rfX t 4]? = some (3, 12) ∧ (rX.getD t []).getD 4 0 = rfX t 4 + 1 := by
  have hd : ∀ t : Fin 127, SX[t.val]? = some (8, 13) → SX[rfX t.val 4]? = some (3, 12) ∧ (rX.getD t.val []).getD 4 0 = rfX t.val 4 + 1 := by decide +kernel
  exact hd ⟨t, (List.getElem?_eq_some_iff.mp h).1⟩ h
theorem wfX8_5 {t : Nat} (h : SX[t]? = some (8, 13)) : SX[rfX t 5]? = some (5, 5) ∧ (rX.getD t []).getD 5 0 = rfX t 5 + 1 := by
  have hd : ∀ t : Fin 127, SX[t.val]? = some (8, 13) → SX[rfX t.val 5]? = some (5, 5) ∧ (rX.getD t.val []).getD 5 0 = rfX t.val 5 + 1 := by decide +kernel
  exact hd ⟨t, (List.getElem?_eq_some_iff.mp h).1⟩ h
theorem wfX8_6 {t : Nat} (h : SX[t]? = some (8, 13)) : SX[rfX t 6]? = some (4, 3) ∧ (rX.getD t []).getD 6 0 = rfX t 6 + 1 := by
  have hd : ∀ t : Fin 127, SX[t.val]? = some (8, 13) → SX[rfX t.val 6]? = some (4, 3) ∧ (rX.getD t.val []).getD 6 0 = rfX t.val 6 + 1 := by decide +kernel
  exact hd ⟨t, (List.getElem?_eq_some_iff.mp h).1⟩ h
theorem wfX8_7 {t : Nat} (h : SX[t]? = some (8, 13)) : SX[rfX t 7]? = some (16, 2) ∧ (rX.getD t []).getD 7 0 = rfX t 7 + 1 := by
  have hd : ∀ t : Fin 127, SX[t.val]? = some (8, 13) → SX[rfX t.val 7]? = some (16, 2) ∧ (rX.getD t.val []).getD 7 0 = rfX t.val 7 + 1 := by decide +kernel
  exact hd ⟨t, (List.getElem?_eq_some_iff.mp h).1⟩ h
theorem wfX8_8 {t : Nat} (h : SX[t]? = some (8, 13)) : SX[rfX t 8]? = some (13, 2) ∧ (rX.getD t []).getD 8 0 = rfX t 8 + 1 := by
  have hd : ∀ t : Fin 127, SX[t.val]? = some (8, 13) → SX[rfX t.val 8]? = some (13, 2) ∧ (rX.getD t.val []).getD 8 0 = rfX t.val 8 + 1 := by decide +kernel
  exact hd ⟨t, (List.getElem?_eq_some_iff.mp h).1⟩ h
theorem wfX8_9 {t : Nat} (h : SX[t]? = some (8, 13)) : SX[rfX t 9]? = some (0, 5) ∧ (rX.getD t []).getD 9 0 = rfX t 9 + 1 := by
  have hd : ∀ t : Fin 127, SX[t.val]? = some (8, 13) → SX[rfX t.val 9]? = some (0, 5) ∧ (rX.getD t.val []).getD 9 0 = rfX t.val 9 + 1 := by decide +kernel
  exact hd ⟨t, (List.getElem?_eq_some_iff.mp h).1⟩ h
theorem wfX8_10 {t : Nat} (h : SX[t]? = some (8, 13)) : SX[rfX t 10]? = some (1, 3) ∧ (rX.getD t []).getD 10 0 = rfX t 10 + 1 := by
  have hd : ∀ t : Fin 127, SX[t.val]? = some (8, 13) → SX[rfX t.val 10]? = some (1, 3) ∧ (rX.getD t.val []).getD 10 0 = rfX t.val 10 + 1 := by decide +kernel
  exact hd ⟨t, (List.getElem?_eq_some_iff.mp h).1⟩ h
theorem waX14_7 {t i : Nat} (h : SX[t]? = some (14, 7)) (hi : i < 7) : SX[rfX t i]? = some (10, 7) ∧ (rX.getD t []).getD i 0 = rfX t i + 1 := by
  have hd : ∀ t : Fin 127, SX[t.val]? = some (14, 7) → ∀ i : Fin 7, SX[rfX t.val i.val]? = some (10, 7) ∧ (rX.getD t.val []).getD i.val 0 = rfX t.val i.val + 1 := by decide +kernel
  exact hd ⟨t, (List.getElem?_eq_some_iff.mp h).1⟩ h ⟨i, hi⟩
theorem waX15_6 {t i : Nat} (h : SX[t]? = some (15, 6)) (hi : i < 6) : SX[rfX t i]? = some (11, 13) ∧ (rX.getD t []).getD i 0 = rfX t i + 1 := by
  have hd : ∀ t : Fin 127, SX[t.val]? = some (15, 6) → ∀ i : Fin 6, SX[rfX t.val i.val]? = some (11, 13) ∧ (rX.getD t.val []).getD i.val 0 = rfX t.val i.val + 1 := by decide +kernel
  exact hd ⟨t, (List.getElem?_eq_some_iff.mp h).1⟩ h ⟨i, hi⟩
theorem waX15_8 {t i : Nat} (h : SX[t]? = some (15, 8)) (hi : i < 8) : SX[rfX t i]? = some (11, 6) ∧ (rX.getD t []).getD i 0 = rfX t i + 1 := by
  have hd : ∀ t : Fin 127, SX[t.val]? = some (15, 8) → ∀ i : Fin 8, SX[rfX t.val i.val]? = some (11, 6) ∧ (rX.getD t.val []).getD i.val 0 = rfX t.val i.val + 1 := by decide +kernel
  exact hd ⟨t, (List.getElem?_eq_some_iff.mp h).1⟩ h ⟨i, hi⟩
theorem waX16_2 {t i : Nat} (h : SX[t]? = some (16, 2)) (hi : i < 2) : SX[rfX t i]? = some (5, 5) ∧ (rX.getD t []).getD i 0 = rfX t i + 1 := by
  have hd : ∀ t : Fin 127, SX[t.val]? = some (16, 2) → ∀ i : Fin 2, SX[rfX t.val i.val]? = some (5, 5) ∧ (rX.getD t.val []).getD i.val 0 = rfX t.val i.val + 1 := by decide +kernel
  exact hd ⟨t, (List.getElem?_eq_some_iff.mp h).1⟩ h ⟨i, hi⟩
theorem waX16_8 {t i : Nat} (h : SX[t]? = some (16, 8)) (hi : i < 8) : SX[rfX t i]? = some (5, 5) ∧ (rX.getD t []).getD i 0 = rfX t i + 1 := by
  have hd : ∀ t : Fin 127, SX[t.val]? = some (16, 8) → ∀ i : Fin 8, SX[rfX t.val i.val]? = some (5, 5) ∧ (rX.getD t.val []).getD i.val 0 = rfX t.val i.val + 1 := by decide +kernel
  exact hd ⟨t, (List.getElem?_eq_some_iff.mp h).1⟩ h ⟨i, hi⟩
theorem wfM9_0 {t : Nat} (h : SM[t]? = some (9, 27)) : SM[rfM t 0]? = some (10, 216) ∧ (rM.getD t []).getD 0 0 = rfM t 0 + 1 := by
  have hd : ∀ t : Fin 15, SM[t.val]? = some (9, 27) → SM[rfM t.val 0]? = some (10, 216) ∧ (rM.getD t.val []).getD 0 0 = rfM t.val 0 + 1 := by decide +kernel
  exact hd ⟨t, (List.getElem?_eq_some_iff.mp h).1⟩ h
theorem wfM9_2 {t : Nat} (h : SM[t]? = some (9, 27)) : SM[rfM t 2]? = some (13, 2) ∧ (rM.getD t []).getD 2 0 = rfM t 2 + 1 := by
  have hd : ∀ t : Fin 15, SM[t.val]? = some (9, 27) → SM[rfM t.val 2]? = some (13, 2) ∧ (rM.getD t.val []).getD 2 0 = rfM t.val 2 + 1 := by decide +kernel
  exact hd ⟨t, (List.getElem?_eq_some_iff.mp h).1⟩ h
theorem wfM9_3 {t : Nat} (h : SM[t]? = some (9, 27)) : SM[rfM t 3]? = some (10, 160) ∧ (rM.getD t []).getD 3 0 = rfM t 3 + 1 := by
  have hd : ∀ t : Fin 15, SM[t.val]? = some (9, 27) → SM[rfM t.val 3]? = some (10, 160) ∧ (rM.getD t.val []).getD 3 0 = rfM t.val 3 + 1 := by decide +kernel
  exact hd ⟨t, (List.getElem?_eq_some_iff.mp h).1⟩ h
theorem wfM9_5 {t : Nat} (h : SM[t]? = some (9, 27)) : SM[rfM t 5]? = some (10, 56) ∧ (rM.getD t []).getD 5 0 = rfM t 5 + 1 := by
  have hd : ∀ t : Fin 15, SM[t.val]? = some (9, 27) → SM[rfM t.val 5]? = some (10, 56) ∧ (rM.getD t.val []).getD 5 0 = rfM t.val 5 + 1 := by decide +kernel
  exact hd ⟨t, (List.getElem?_eq_some_iff.mp h).1⟩ h
theorem wfM9_7 {t : Nat} (h : SM[t]? = some (9, 27)) : SM[rfM t 7]? = some (10, 7) ∧ (rM.getD t []).getD 7 0 = rfM t 7 + 1 := by
  have hd : ∀ t : Fin 15, SM[t.val]? = some (9, 27) → SM[rfM t.val 7]? = some (10, 7) ∧ (rM.getD t.val []).getD 7 0 = rfM t.val 7 + 1 := by decide +kernel
  exact hd ⟨t, (List.getElem?_eq_some_iff.mp h).1⟩ h
theorem wfM9_9 {t : Nat} (h : SM[t]? = some (9, 27)) : SM[rfM t 9]? = some (10, 6) ∧ (rM.getD t []).getD 9 0 = rfM t 9 + 1 := by
  have hd : ∀ t : Fin 15, SM[t.val]? = some (9, 27) → SM[rfM t.val 9]? = some (10, 6) ∧ (rM.getD t.val []).getD 9 0 = rfM t.val 9 + 1 := by decide +kernel
  exact hd ⟨t, (List.getElem?_eq_some_iff.mp h).1⟩ h
theorem wfM9_10 {t : Nat} (h : SM[t]? = some (9, 27)) : SM[rfM t 10]? = some (10, 6) ∧ (rM.getD t []).getD 10 0 = rfM t 10 + 1 := by
  have hd : ∀ t : Fin 15, SM[t.val]? = some (9, 27) → SM[rfM t.val 10]? = some (10, 6) ∧ (rM.getD t.val []).getD 10 0 = rfM t.val 10 + 1 := by decide +kernel
  exact hd ⟨t, (List.getElem?_eq_some_iff.mp h).1⟩ h
theorem wfM9_11 {t : Nat} (h : SM[t]? = some (9, 27)) : SM[rfM t 11]? = some (10, 6) ∧ (rM.getD t []).getD 11 0 = rfM t 11 + 1 := by
  have hd : ∀ t : Fin 15, SM[t.val]? = some (9, 27) → SM[rfM t.val 11]? = some (10, 6) ∧ (rM.getD t.val []).getD 11 0 = rfM t.val 11 + 1 := by decide +kernel
  exact hd ⟨t, (List.getElem?_eq_some_iff.mp h).1⟩ h
theorem wfM9_12 {t : Nat} (h : SM[t]? = some (9, 27)) : SM[rfM t 12]? = some (10, 6) ∧ (rM.getD t []).getD 12 0 = rfM t 12 + 1 := by
  have hd : ∀ t : Fin 15, SM[t.val]? = some (9, 27) → SM[rfM t.val 12]? = some (10, 6) ∧ (rM.getD t.val []).getD 12 0 = rfM t.val 12 + 1 := by decide +kernel
  exact hd ⟨t, (List.getElem?_eq_some_iff.mp h).1⟩ h
theorem wfM9_13 {t : Nat} (h : SM[t]? = some (9, 27)) : SM[rfM t 13]? = some (10, 6) ∧ (rM.getD t []).getD 13 0 = rfM t 13 + 1 := by
  have hd : ∀ t : Fin 15, SM[t.val]? = some (9, 27) → SM[rfM t.val 13]? = some (10, 6) ∧ (rM.getD t.val []).getD 13 0 = rfM t.val 13 + 1 := by decide +kernel
  exact hd ⟨t, (List.getElem?_eq_some_iff.mp h).1⟩ h
theorem wfM9_15 {t : Nat} (h : SM[t]? = some (9, 27)) : SM[rfM t 15]? = some (10, 18) ∧ (rM.getD t []).getD 15 0 = rfM t 15 + 1 := by
  have hd : ∀ t : Fin 15, SM[t.val]? = some (9, 27) → SM[rfM t.val 15]? = some (10, 18) ∧ (rM.getD t.val []).getD 15 0 = rfM t.val 15 + 1 := by decide +kernel
  exact hd ⟨t, (List.getElem?_eq_some_iff.mp h).1⟩ h
theorem wfM9_16 {t : Nat} (h : SM[t]? = some (9, 27)) : SM[rfM t 16]? = some (10, 5040) ∧ (rM.getD t []).getD 16 0 = rfM t 16 + 1 := by
  have hd : ∀ t : Fin 15, SM[t.val]? = some (9, 27) → SM[rfM t.val 16]? = some (10, 5040) ∧ (rM.getD t.val []).getD 16 0 = rfM t.val 16 + 1 := by decide +kernel
  exact hd ⟨t, (List.getElem?_eq_some_iff.mp h).1⟩ h
theorem wfM9_23 {t : Nat} (h : SM[t]? = some (9, 27)) : SM[rfM t 23]? = some (10, 18) ∧ (rM.getD t []).getD 23 0 = rfM t 23 + 1 := by
  have hd : ∀ t : Fin 15, SM[t.val]? = some (9, 27) → SM[rfM t.val 23]? = some (10, 18) ∧ (rM.getD t.val []).getD 23 0 = rfM t.val 23 + 1 := by decide +kernel
  exact hd ⟨t, (List.getElem?_eq_some_iff.mp h).1⟩ h
theorem wfM9_25 {t : Nat} (h : SM[t]? = some (9, 27)) : SM[rfM t 25]? = some (10, 24) ∧ (rM.getD t []).getD 25 0 = rfM t 25 + 1 := by
  have hd : ∀ t : Fin 15, SM[t.val]? = some (9, 27) → SM[rfM t.val 25]? = some (10, 24) ∧ (rM.getD t.val []).getD 25 0 = rfM t.val 25 + 1 := by decide +kernel
  exact hd ⟨t, (List.getElem?_eq_some_iff.mp h).1⟩ h
theorem inx {x : Int} {n : Nat} (h0 : 0 ≤ x) (h1 : x < n) : x.toNat < n := by omega
theorem oite {α : Type} {c : Prop} [Decidable c] {x y : Option α} {r : α} (h : (if c then x else y) = some r) : (c ∧ x = some r) ∨ (¬ c ∧ y = some r) := by
  by_cases hc : c
  · rw [if_pos hc] at h; exact Or.inl ⟨hc, h⟩
  · rw [if_neg hc] at h; exact Or.inr ⟨hc, h⟩
end
section
/-! the methods: bytes, tables, words -/
def mtX0_init : mT := (⟨"MondayDeal$Bets", "<init>", "()V"⟩, prog_2_method_1_code, 1, none, [(0, .aload_n 0, 1), (1, .invokespecial 3, 3), (4, .aload_n 0, 1), (5, .bipush 6, 2), (7, .newarray .int, 2), (9, .putfield 9, 3), (12, .aload_n 0, 1), (13, .bipush 6, 2), (15, .newarray .int, 2), (17, .putfield 15, 3), (20, .aload_n 0, 1), (21, .bipush 6, 2), (23, .newarray .int, 2), (25, .putfield 18, 3), (28, .return_, 1)])
theorem okX0_init : mtOK mtX0_init 0 := ⟨mg_in (tb2 (i := 7) rfl) rfl, mg_in (tb1 (i := 8) rfl) rfl, by decide, ⟨by decide, by decide, by decide⟩, by decide +kernel, by decide⟩
def mtX0_add : mT := (⟨"MondayDeal$Bets", "add", "(III)Z"⟩, prog_2_method_2_code, 4, some .boolean, [(0, .aload_n 0, 1), (1, .getfield 21, 3), (4, .bipush 6, 2), (6, .if_icmp .lt 5, 3), (9, .iconst 0, 1), (10, .ireturn, 1), (11, .aload_n 0, 1), (12, .getfield 9, 3), (15, .aload_n 0, 1), (16, .getfield 21, 3), (19, .iload_n 1, 1), (20, .iastore, 1), (21, .aload_n 0, 1), (22, .getfield 15, 3), (25, .aload_n 0, 1), (26, .getfield 21, 3), (29, .iload_n 2, 1), (30, .iastore, 1), (31, .aload_n 0, 1), (32, .getfield 18, 3), (35, .aload_n 0, 1), (36, .getfield 21, 3), (39, .iload_n 3, 1), (40, .iastore, 1), (41, .aload_n 0, 1), (42, .dup, 1), (43, .getfield 21, 3), (46, .iconst 1, 1), (47, .iadd, 1), (48, .putfield 21, 3), (51, .iconst 1, 1), (52, .ireturn, 1)])
theorem okX0_add : mtOK mtX0_add 3 := ⟨mg_in (tb4 (i := 62) rfl) rfl, mg_in (tb1 (i := 8) rfl) rfl, by decide, ⟨by decide, by decide, by decide⟩, by decide +kernel, by decide⟩
theorem vkX0_add : mVok mtX0_add 3 0 := ⟨okX0_add, mg_in (tb4 (i := 60) rfl) rfl, mg_in (tb4 (i := 61) rfl) rfl, TX0, 5, rfl⟩
def mtX0_surest : mT := (⟨"MondayDeal$Bets", "surest", "(LMondayDeal$Orders;)I"⟩, prog_2_method_3_code, 6, some .int, [(0, .aload_n 0, 1), (1, .lconst 0, 1), (2, .putfield 25, 3), (5, .iconst 0, 1), (6, .istore_n 2, 1), (7, .iload_n 2, 1), (8, .aload_n 1, 1), (9, .getfield 29, 3), (12, .if_icmp .ge 30, 3), (15, .aload_n 0, 1), (16, .dup, 1), (17, .getfield 25, 3), (20, .lconst 1, 1), (21, .aload_n 0, 1), (22, .aload_n 1, 1), (23, .getfield 32, 3), (26, .iload_n 2, 1), (27, .iaload, 1), (28, .invokevirtual 35, 3), (31, .lshl, 1), (32, .lor, 1), (33, .putfield 25, 3), (36, .iinc 2 1, 3), (39, .goto (-32), 3), (42, .iconst 0, 1), (43, .istore_n 2, 1), (44, .iconst 0, 1), (45, .istore_n 3, 1), (46, .iconst 1, 1), (47, .istore 4, 2), (49, .iload 4, 2), (51, .iconst 1, 1), (52, .aload_n 0, 1), (53, .getfield 21, 3), (56, .ishl, 1), (57, .if_icmp .ge 29, 3), (60, .aload_n 0, 1), (61, .iload 4, 2), (63, .invokevirtual 39, 3), (66, .istore 5, 2), (68, .iload 5, 2), (70, .iload_n 3, 1), (71, .if_icmp .le 9, 3), (74, .iload 5, 2), (76, .istore_n 3, 1), (77, .iload 4, 2), (79, .istore_n 2, 1), (80, .iinc 4 1, 3), (83, .goto (-34), 3), (86, .iload_n 2, 1), (87, .ireturn, 1)])
theorem okX0_surest : mtOK mtX0_surest 1 := ⟨mg_in (tb4 (i := 74) rfl) rfl, mg_in (tb1 (i := 8) rfl) rfl, by decide, ⟨by decide, by decide, by decide⟩, by decide +kernel, by decide⟩
theorem vkX0_surest : mVok mtX0_surest 1 0 := ⟨okX0_surest, mg_in (tb4 (i := 72) rfl) rfl, mg_in (tb4 (i := 73) rfl) rfl, TX0, 5, rfl⟩
def mtX0_wonBy : mT := (⟨"MondayDeal$Bets", "wonBy", "(I)I"⟩, prog_2_method_4_code, 5, some .int, [(0, .iconst 0, 1), (1, .istore_n 2, 1), (2, .iconst 0, 1), (3, .istore_n 3, 1), (4, .iload_n 3, 1), (5, .aload_n 0, 1), (6, .getfield 21, 3), (9, .if_icmp .ge 50, 3), (12, .iconst 0, 1), (13, .istore 4, 2), (15, .iload 4, 2), (17, .aload_n 0, 1), (18, .getfield 15, 3), (21, .iload_n 3, 1), (22, .iaload, 1), (23, .if_icmp .ge 30, 3), (26, .iload_n 1, 1), (27, .iload 4, 2), (29, .invokestatic 42, 3), (32, .aload_n 0, 1), (33, .getfield 9, 3), (36, .iload_n 3, 1), (37, .iaload, 1), (38, .if_icmp .ne 9, 3), (41, .iload_n 2, 1), (42, .iconst 1, 1), (43, .iload_n 3, 1), (44, .ishl, 1), (45, .ior, 1), (46, .istore_n 2, 1), (47, .iinc 4 1, 3), (50, .goto (-35), 3), (53, .iinc 3 1, 3), (56, .goto (-52), 3), (59, .iload_n 2, 1), (60, .ireturn, 1)])
theorem okX0_wonBy : mtOK mtX0_wonBy 1 := ⟨mg_in (tb4 (i := 78) rfl) rfl, mg_in (tb1 (i := 8) rfl) rfl, by decide, ⟨by decide, by decide, by decide⟩, by decide +kernel, by decide⟩
theorem vkX0_wonBy : mVok mtX0_wonBy 1 0 := ⟨okX0_wonBy, mg_in (tb4 (i := 77) rfl) rfl, mg_sel (List.mem_of_getElem? (i := 29) rfl) rfl, TX0, 5, rfl⟩
def mtX0_leastWon : mT := (⟨"MondayDeal$Bets", "leastWon", "(I)I"⟩, prog_2_method_5_code, 5, some .int, [(0, .iconst 0, 1), (1, .istore_n 2, 1), (2, .iconst 0, 1), (3, .istore_n 3, 1), (4, .iload_n 3, 1), (5, .aload_n 0, 1), (6, .getfield 21, 3), (9, .if_icmp .ge 26, 3), (12, .iload_n 1, 1), (13, .iload_n 3, 1), (14, .ishr, 1), (15, .iconst 1, 1), (16, .iand, 1), (17, .ifCond .eq 12, 3), (20, .iload_n 2, 1), (21, .aload_n 0, 1), (22, .getfield 18, 3), (25, .iload_n 3, 1), (26, .iaload, 1), (27, .iadd, 1), (28, .istore_n 2, 1), (29, .iinc 3 1, 3), (32, .goto (-28), 3), (35, .iload_n 1, 1), (36, .invokestatic 46, 3), (39, .istore_n 3, 1), (40, .iconst 0, 1), (41, .istore 4, 2), (43, .iload 4, 2), (45, .iconst 1, 1), (46, .aload_n 0, 1), (47, .getfield 21, 3), (50, .ishl, 1), (51, .if_icmp .ge 35, 3), (54, .aload_n 0, 1), (55, .getfield 25, 3), (58, .iload 4, 2), (60, .lushr, 1), (61, .lconst 1, 1), (62, .land, 1), (63, .lconst 0, 1), (64, .lcmp, 1), (65, .ifCond .eq 15, 3), (68, .iload_n 3, 1), (69, .iload_n 1, 1), (70, .iload 4, 2), (72, .iand, 1), (73, .invokestatic 46, 3), (76, .invokestatic 51, 3), (79, .istore_n 3, 1), (80, .iinc 4 1, 3), (83, .goto (-40), 3), (86, .iload_n 3, 1), (87, .bipush 100, 2), (89, .imul, 1), (90, .iload_n 2, 1), (91, .isub, 1), (92, .ireturn, 1)])
theorem okX0_leastWon : mtOK mtX0_leastWon 1 := ⟨mg_in (tb4 (i := 83) rfl) rfl, mg_in (tb1 (i := 8) rfl) rfl, by decide, ⟨by decide, by decide, by decide⟩, by decide +kernel, by decide⟩
theorem vkX0_leastWon : mVok mtX0_leastWon 1 0 := ⟨okX0_leastWon, mg_in (tb4 (i := 81) rfl) rfl, mg_in (tb4 (i := 82) rfl) rfl, TX0, 5, rfl⟩
def mtX1_init : mT := (⟨"MondayDeal$Facts", "<init>", "()V"⟩, prog_3_method_1_code, 1, none, [(0, .aload_n 0, 1), (1, .invokespecial 3, 3), (4, .aload_n 0, 1), (5, .bipush 8, 2), (7, .newarray .int, 2), (9, .putfield 9, 3), (12, .aload_n 0, 1), (13, .bipush 8, 2), (15, .newarray .int, 2), (17, .putfield 15, 3), (20, .return_, 1)])
theorem okX1_init : mtOK mtX1_init 0 := ⟨mg_in (tb2 (i := 31) rfl) rfl, mg_in (tb1 (i := 9) rfl) rfl, by decide, ⟨by decide, by decide, by decide⟩, by decide +kernel, by decide⟩
def mtX1_add : mT := (⟨"MondayDeal$Facts", "add", "(II)Z"⟩, prog_3_method_2_code, 3, some .boolean, [(0, .aload_n 0, 1), (1, .getfield 18, 3), (4, .bipush 8, 2), (6, .if_icmp .lt 5, 3), (9, .iconst 0, 1), (10, .ireturn, 1), (11, .aload_n 0, 1), (12, .getfield 9, 3), (15, .aload_n 0, 1), (16, .getfield 18, 3), (19, .iload_n 1, 1), (20, .iastore, 1), (21, .aload_n 0, 1), (22, .getfield 15, 3), (25, .aload_n 0, 1), (26, .getfield 18, 3), (29, .iload_n 2, 1), (30, .iastore, 1), (31, .aload_n 0, 1), (32, .dup, 1), (33, .getfield 18, 3), (36, .iconst 1, 1), (37, .iadd, 1), (38, .putfield 18, 3), (41, .iconst 1, 1), (42, .ireturn, 1)])
theorem okX1_add : mtOK mtX1_add 2 := ⟨mg_in (tb4 (i := 94) rfl) rfl, mg_in (tb1 (i := 9) rfl) rfl, by decide, ⟨by decide, by decide, by decide⟩, by decide +kernel, by decide⟩
theorem vkX1_add : mVok mtX1_add 2 1 := ⟨okX1_add, mg_in (tb4 (i := 92) rfl) rfl, mg_in (tb4 (i := 93) rfl) rfl, TX1, 3, rfl⟩
def mtX1_agree : mT := (⟨"MondayDeal$Facts", "agree", "(I)Z"⟩, prog_3_method_3_code, 3, some .boolean, [(0, .iconst 0, 1), (1, .istore_n 2, 1), (2, .iload_n 2, 1), (3, .aload_n 0, 1), (4, .getfield 18, 3), (7, .if_icmp .ge 30, 3), (10, .iload_n 1, 1), (11, .aload_n 0, 1), (12, .getfield 9, 3), (15, .iload_n 2, 1), (16, .iaload, 1), (17, .aload_n 0, 1), (18, .getfield 15, 3), (21, .iload_n 2, 1), (22, .iaload, 1), (23, .invokestatic 22, 3), (26, .ifCond .ne 5, 3), (29, .iconst 0, 1), (30, .ireturn, 1), (31, .iinc 2 1, 3), (34, .goto (-32), 3), (37, .iconst 1, 1), (38, .ireturn, 1)])
theorem okX1_agree : mtOK mtX1_agree 1 := ⟨mg_in (tb4 (i := 110) rfl) rfl, mg_in (tb1 (i := 9) rfl) rfl, by decide, ⟨by decide, by decide, by decide⟩, by decide +kernel, by decide⟩
theorem vkX1_agree : mVok mtX1_agree 1 1 := ⟨okX1_agree, mg_in (tb4 (i := 109) rfl) rfl, mg_sel (List.mem_of_getElem? (i := 30) rfl) rfl, TX1, 3, rfl⟩
def mtX1_nextFit : mT := (⟨"MondayDeal$Facts", "nextFit", "(LMondayDeal$Orders;I)I"⟩, prog_3_method_4_code, 4, some .int, [(0, .iload_n 2, 1), (1, .istore_n 3, 1), (2, .iload_n 3, 1), (3, .aload_n 1, 1), (4, .getfield 28, 3), (7, .if_icmp .ge 24, 3), (10, .aload_n 0, 1), (11, .aload_n 1, 1), (12, .getfield 29, 3), (15, .iload_n 3, 1), (16, .iaload, 1), (17, .invokevirtual 32, 3), (20, .ifCond .eq 5, 3), (23, .iload_n 3, 1), (24, .ireturn, 1), (25, .iinc 3 1, 3), (28, .goto (-26), 3), (31, .iconst (-1), 1), (32, .ireturn, 1)])
theorem okX1_nextFit : mtOK mtX1_nextFit 2 := ⟨mg_in (tb4 (i := 117) rfl) rfl, mg_in (tb1 (i := 9) rfl) rfl, by decide, ⟨by decide, by decide, by decide⟩, by decide +kernel, by decide⟩
theorem vkX1_nextFit : mVok mtX1_nextFit 2 1 := ⟨okX1_nextFit, mg_in (tb4 (i := 115) rfl) rfl, mg_in (tb4 (i := 116) rfl) rfl, TX1, 3, rfl⟩
def mtX1_howManyFit : mT := (⟨"MondayDeal$Facts", "howManyFit", "(LMondayDeal$Orders;)I"⟩, prog_3_method_5_code, 4, some .int, [(0, .iconst 0, 1), (1, .istore_n 2, 1), (2, .iconst 0, 1), (3, .istore_n 3, 1), (4, .iload_n 3, 1), (5, .aload_n 1, 1), (6, .getfield 28, 3), (9, .if_icmp .ge 25, 3), (12, .aload_n 0, 1), (13, .aload_n 1, 1), (14, .getfield 29, 3), (17, .iload_n 3, 1), (18, .iaload, 1), (19, .invokevirtual 32, 3), (22, .ifCond .eq 6, 3), (25, .iinc 2 1, 3), (28, .iinc 3 1, 3), (31, .goto (-27), 3), (34, .iload_n 2, 1), (35, .ireturn, 1)])
theorem okX1_howManyFit : mtOK mtX1_howManyFit 1 := ⟨mg_in (tb4 (i := 106) rfl) rfl, mg_in (tb1 (i := 9) rfl) rfl, by decide, ⟨by decide, by decide, by decide⟩, by decide +kernel, by decide⟩
theorem vkX1_howManyFit : mVok mtX1_howManyFit 1 1 := ⟨okX1_howManyFit, mg_in (tb4 (i := 104) rfl) rfl, mg_in (tb4 (i := 105) rfl) rfl, TX1, 3, rfl⟩
def mtX1_weeksThatFit : mT := (⟨"MondayDeal$Facts", "weeksThatFit", "(LMondayDeal$State;)I"⟩, prog_3_method_6_code, 4, some .int, [(0, .iconst 0, 1), (1, .istore_n 2, 1), (2, .iconst 0, 1), (3, .istore_n 3, 1), (4, .iload_n 3, 1), (5, .iconst 4, 1), (6, .if_icmp .ge 36, 3), (9, .iload_n 3, 1), (10, .aload_n 1, 1), (11, .getfield 36, 3), (14, .if_icmp .ge 28, 3), (17, .aload_n 0, 1), (18, .aload_n 1, 1), (19, .getfield 41, 3), (22, .iload_n 3, 1), (23, .iaload, 1), (24, .invokevirtual 32, 3), (27, .ifCond .eq 9, 3), (30, .iload_n 2, 1), (31, .iconst 1, 1), (32, .iload_n 3, 1), (33, .ishl, 1), (34, .ior, 1), (35, .istore_n 2, 1), (36, .iinc 3 1, 3), (39, .goto (-35), 3), (42, .iload_n 2, 1), (43, .ireturn, 1)])
theorem okX1_weeksThatFit : mtOK mtX1_weeksThatFit 1 := ⟨mg_in (tb4 (i := 121) rfl) rfl, mg_in (tb1 (i := 9) rfl) rfl, by decide, ⟨by decide, by decide, by decide⟩, by decide +kernel, by decide⟩
theorem vkX1_weeksThatFit : mVok mtX1_weeksThatFit 1 1 := ⟨okX1_weeksThatFit, mg_in (tb4 (i := 119) rfl) rfl, mg_in (tb4 (i := 120) rfl) rfl, TX1, 3, rfl⟩
def mtX1_dayInAll : mT := (⟨"MondayDeal$Facts", "dayInAll", "(LMondayDeal$Orders;I)I"⟩, prog_3_method_7_code, 6, some .int, [(0, .aload_n 0, 1), (1, .aload_n 1, 1), (2, .iconst 0, 1), (3, .invokevirtual 44, 3), (6, .istore_n 3, 1), (7, .iload_n 3, 1), (8, .iconst (-1), 1), (9, .if_icmp .ne 5, 3), (12, .iconst (-1), 1), (13, .ireturn, 1), (14, .aload_n 1, 1), (15, .iload_n 3, 1), (16, .iload_n 2, 1), (17, .invokevirtual 48, 3), (20, .istore 4, 2), (22, .iload_n 3, 1), (23, .iconst 1, 1), (24, .iadd, 1), (25, .istore 5, 2), (27, .iload 5, 2), (29, .aload_n 1, 1), (30, .getfield 28, 3), (33, .if_icmp .ge 37, 3), (36, .aload_n 1, 1), (37, .iload 5, 2), (39, .iload_n 2, 1), (40, .invokevirtual 48, 3), (43, .iload 4, 2), (45, .if_icmp .eq 19, 3), (48, .aload_n 0, 1), (49, .aload_n 1, 1), (50, .getfield 29, 3), (53, .iload 5, 2), (55, .iaload, 1), (56, .invokevirtual 32, 3), (59, .ifCond .eq 5, 3), (62, .iconst (-1), 1), (63, .ireturn, 1), (64, .iinc 5 1, 3), (67, .goto (-40), 3), (70, .iload 4, 2), (72, .ireturn, 1)])
theorem okX1_dayInAll : mtOK mtX1_dayInAll 2 := ⟨mg_in (tb4 (i := 129) rfl) rfl, mg_in (tb1 (i := 9) rfl) rfl, by decide, ⟨by decide, by decide, by decide⟩, by decide +kernel, by decide⟩
theorem vkX1_dayInAll : mVok mtX1_dayInAll 2 1 := ⟨okX1_dayInAll, mg_in (tb4 (i := 127) rfl) rfl, mg_in (tb4 (i := 128) rfl) rfl, TX1, 3, rfl⟩
def mtX2_init : mT := (⟨"MondayDeal$Orders", "<init>", "()V"⟩, prog_4_method_1_code, 1, none, [(0, .aload_n 0, 1), (1, .invokespecial 3, 3), (4, .aload_n 0, 1), (5, .sipush 5040, 3), (8, .newarray .int, 2), (10, .putfield 9, 3), (13, .aload_n 0, 1), (14, .bipush 7, 2), (16, .bipush 7, 2), (18, .multianewarray 15 2, 4), (22, .putfield 17, 3), (25, .aload_n 0, 1), (26, .bipush 7, 2), (28, .bipush 7, 2), (30, .multianewarray 15 2, 4), (34, .putfield 20, 3), (37, .return_, 1)])
theorem okX2_init : mtOK mtX2_init 0 := ⟨mg_in (tb1 (i := 115) rfl) rfl, mg_in (tb1 (i := 4) rfl) rfl, by decide, ⟨by decide, by decide, by decide⟩, by decide +kernel, by decide⟩
def mtX2_dayIn : mT := (⟨"MondayDeal$Orders", "dayIn", "(II)I"⟩, prog_4_method_2_code, 2, some .int, [(0, .iload_n 0, 1), (1, .iconst 3, 1), (2, .bipush 6, 2), (4, .iload_n 1, 1), (5, .isub, 1), (6, .imul, 1), (7, .ishr, 1), (8, .bipush 7, 2), (10, .iand, 1), (11, .ireturn, 1)])
theorem okX2_dayIn : mtOK mtX2_dayIn 2 := ⟨mg_in (tb3 (i := 78) rfl) rfl, mg_in (tb1 (i := 4) rfl) rfl, by decide, ⟨by decide, by decide, by decide⟩, by decide +kernel, by decide⟩
theorem skX2_dayIn : mSok mtX2_dayIn 2 := ⟨okX2_dayIn, mg_in (tb3 (i := 77) rfl) rfl⟩
def mtX2_isAhead : mT := (⟨"MondayDeal$Orders", "isAhead", "(III)Z"⟩, prog_4_method_3_code, 5, some .boolean, [(0, .iconst 0, 1), (1, .istore_n 3, 1), (2, .iload_n 3, 1), (3, .bipush 7, 2), (5, .if_icmp .ge 40, 3), (8, .iload_n 0, 1), (9, .iload_n 3, 1), (10, .invokestatic 23, 3), (13, .istore 4, 2), (15, .iload 4, 2), (17, .iload_n 1, 1), (18, .if_icmp .eq 9, 3), (21, .iload 4, 2), (23, .iload_n 2, 1), (24, .if_icmp .ne 15, 3), (27, .iload 4, 2), (29, .iload_n 1, 1), (30, .if_icmp .ne 7, 3), (33, .iconst 1, 1), (34, .goto 4, 3), (37, .iconst 0, 1), (38, .ireturn, 1), (39, .iinc 3 1, 3), (42, .goto (-40), 3), (45, .iconst 0, 1), (46, .ireturn, 1)])
theorem okX2_isAhead : mtOK mtX2_isAhead 3 := ⟨mg_in (tb4 (i := 113) rfl) rfl, mg_in (tb1 (i := 4) rfl) rfl, by decide, ⟨by decide, by decide, by decide⟩, by decide +kernel, by decide⟩
theorem skX2_isAhead : mSok mtX2_isAhead 3 := ⟨okX2_isAhead, mg_in (tb4 (i := 112) rfl) rfl⟩
def mtX2_packedOf : mT := (⟨"MondayDeal$Orders", "packedOf", "(I)I"⟩, prog_4_method_4_code, 6, some .int, [(0, .iload_n 0, 1), (1, .ifCond .ge 5, 3), (4, .iconst (-1), 1), (5, .ireturn, 1), (6, .iload_n 0, 1), (7, .istore_n 1, 1), (8, .iconst 0, 1), (9, .istore_n 2, 1), (10, .iconst 0, 1), (11, .istore_n 3, 1), (12, .iconst 0, 1), (13, .istore 4, 2), (15, .iload 4, 2), (17, .bipush 7, 2), (19, .if_icmp .ge 56, 3), (22, .iload_n 1, 1), (23, .bipush 10, 2), (25, .irem, 1), (26, .istore 5, 2), (28, .iload_n 1, 1), (29, .bipush 10, 2), (31, .idiv, 1), (32, .istore_n 1, 1), (33, .iload 5, 2), (35, .invokestatic 27, 3), (38, .ifCond .eq 12, 3), (41, .iload_n 3, 1), (42, .iload 5, 2), (44, .ishr, 1), (45, .iconst 1, 1), (46, .iand, 1), (47, .ifCond .eq 5, 3), (50, .iconst (-1), 1), (51, .ireturn, 1), (52, .iload_n 3, 1), (53, .iconst 1, 1), (54, .iload 5, 2), (56, .ishl, 1), (57, .ior, 1), (58, .istore_n 3, 1), (59, .iload_n 2, 1), (60, .iload 5, 2), (62, .iconst 3, 1), (63, .iload 4, 2), (65, .imul, 1), (66, .ishl, 1), (67, .ior, 1), (68, .istore_n 2, 1), (69, .iinc 4 1, 3), (72, .goto (-57), 3), (75, .iload_n 1, 1), (76, .ifCond .ne 7, 3), (79, .iload_n 2, 1), (80, .goto 4, 3), (83, .iconst (-1), 1), (84, .ireturn, 1)])
theorem okX2_packedOf : mtOK mtX2_packedOf 1 := ⟨mg_in (tb3 (i := 85) rfl) rfl, mg_in (tb1 (i := 4) rfl) rfl, by decide, ⟨by decide, by decide, by decide⟩, by decide +kernel, by decide⟩
theorem skX2_packedOf : mSok mtX2_packedOf 1 := ⟨okX2_packedOf, mg_in (tb3 (i := 84) rfl) rfl⟩
def mtX2_listAll : mT := (⟨"MondayDeal$Orders", "listAll", "(LMondayDeal$Told;)V"⟩, prog_4_method_5_code, 3, none, [(0, .aload_n 0, 1), (1, .iconst 0, 1), (2, .putfield 31, 3), (5, .iconst 0, 1), (6, .istore_n 2, 1), (7, .iload_n 2, 1), (8, .bipush 7, 2), (10, .if_icmp .ge 29, 3), (13, .aload_n 0, 1), (14, .getfield 17, 3), (17, .iload_n 2, 1), (18, .aaload, 1), (19, .iconst 0, 1), (20, .invokestatic 35, 3), (23, .aload_n 0, 1), (24, .getfield 20, 3), (27, .iload_n 2, 1), (28, .aaload, 1), (29, .iconst 0, 1), (30, .invokestatic 35, 3), (33, .iinc 2 1, 3), (36, .goto (-29), 3), (39, .aload_n 0, 1), (40, .aload_n 1, 1), (41, .iconst 0, 1), (42, .iconst 0, 1), (43, .iconst (-1), 1), (44, .iconst 0, 1), (45, .invokevirtual 41, 3), (48, .pop, 1), (49, .return_, 1)])
theorem okX2_listAll : mtOK mtX2_listAll 1 := ⟨mg_in (tb3 (i := 19) rfl) rfl, mg_in (tb1 (i := 4) rfl) rfl, by decide, ⟨by decide, by decide, by decide⟩, by decide +kernel, by decide⟩
theorem vkX2_listAll : mVok mtX2_listAll 1 2 := ⟨okX2_listAll, mg_in (tb3 (i := 17) rfl) rfl, mg_in (tb3 (i := 18) rfl) rfl, TX2, 4, rfl⟩
def mtX2_listFrom : mT := (⟨"MondayDeal$Orders", "listFrom", "(LMondayDeal$Told;IIII)I"⟩, prog_4_method_6_code, 9, some .int, [(0, .iload_n 2, 1), (1, .bipush 7, 2), (3, .if_icmp .lt 10, 3), (6, .aload_n 0, 1), (7, .iload 5, 2), (9, .invokevirtual 45, 3), (12, .ireturn, 1), (13, .iconst 0, 1), (14, .istore 6, 2), (16, .iconst 0, 1), (17, .istore 7, 2), (19, .iload 7, 2), (21, .bipush 7, 2), (23, .if_icmp .ge 97, 3), (26, .iload_n 3, 1), (27, .iload 7, 2), (29, .ishr, 1), (30, .iconst 1, 1), (31, .iand, 1), (32, .ifCond .ne 82, 3), (35, .aload_n 1, 1), (36, .iload_n 3, 1), (37, .iload 4, 2), (39, .iload 7, 2), (41, .invokevirtual 49, 3), (44, .ifCond .ne 70, 3), (47, .aload_n 0, 1), (48, .aload_n 1, 1), (49, .iload_n 2, 1), (50, .iconst 1, 1), (51, .iadd, 1), (52, .iload_n 3, 1), (53, .iconst 1, 1), (54, .iload 7, 2), (56, .ishl, 1), (57, .ior, 1), (58, .iload 7, 2), (60, .iload 5, 2), (62, .iconst 3, 1), (63, .ishl, 1), (64, .iload 7, 2), (66, .ior, 1), (67, .invokevirtual 41, 3), (70, .istore 8, 2), (72, .aload_n 0, 1), (73, .getfield 17, 3), (76, .iload 7, 2), (78, .aaload, 1), (79, .iload_n 2, 1), (80, .dup2, 1), (81, .iaload, 1), (82, .iload 8, 2), (84, .iadd, 1), (85, .iastore, 1), (86, .iload 4, 2), (88, .iconst (-1), 1), (89, .if_icmp .eq 18, 3), (92, .aload_n 0, 1), (93, .getfield 20, 3), (96, .iload 4, 2), (98, .aaload, 1), (99, .iload 7, 2), (101, .dup2, 1), (102, .iaload, 1), (103, .iload 8, 2), (105, .iadd, 1), (106, .iastore, 1), (107, .iload 6, 2), (109, .iload 8, 2), (111, .iadd, 1), (112, .istore 6, 2), (114, .iinc 7 1, 3), (117, .goto (-98), 3), (120, .iload 6, 2), (122, .ireturn, 1)])
theorem okX2_listFrom : mtOK mtX2_listFrom 5 := ⟨mg_in (tb3 (i := 24) rfl) rfl, mg_in (tb1 (i := 4) rfl) rfl, by decide, ⟨by decide, by decide, by decide⟩, by decide +kernel, by decide⟩
theorem vkX2_listFrom : mVok mtX2_listFrom 5 2 := ⟨okX2_listFrom, mg_in (tb3 (i := 23) rfl) rfl, mg_sel (List.mem_of_getElem? (i := 12) rfl) rfl, TX2, 4, rfl⟩
def mtX2_put : mT := (⟨"MondayDeal$Orders", "put", "(I)I"⟩, prog_4_method_7_code, 2, some .int, [(0, .aload_n 0, 1), (1, .getfield 31, 3), (4, .sipush 5040, 3), (7, .if_icmp .lt 5, 3), (10, .iconst 0, 1), (11, .ireturn, 1), (12, .aload_n 0, 1), (13, .getfield 9, 3), (16, .aload_n 0, 1), (17, .getfield 31, 3), (20, .iload_n 1, 1), (21, .iastore, 1), (22, .aload_n 0, 1), (23, .dup, 1), (24, .getfield 31, 3), (27, .iconst 1, 1), (28, .iadd, 1), (29, .putfield 31, 3), (32, .iconst 1, 1), (33, .ireturn, 1)])
theorem okX2_put : mtOK mtX2_put 1 := ⟨mg_in (tb3 (i := 28) rfl) rfl, mg_in (tb1 (i := 4) rfl) rfl, by decide, ⟨by decide, by decide, by decide⟩, by decide +kernel, by decide⟩
theorem vkX2_put : mVok mtX2_put 1 2 := ⟨okX2_put, mg_in (tb3 (i := 27) rfl) rfl, mg_sel (List.mem_of_getElem? (i := 13) rfl) rfl, TX2, 4, rfl⟩
def mtX2_dayAt : mT := (⟨"MondayDeal$Orders", "dayAt", "(II)I"⟩, prog_4_method_8_code, 3, some .int, [(0, .aload_n 0, 1), (1, .getfield 9, 3), (4, .iload_n 1, 1), (5, .iaload, 1), (6, .iload_n 2, 1), (7, .invokestatic 23, 3), (10, .ireturn, 1)])
theorem okX2_dayAt : mtOK mtX2_dayAt 2 := ⟨mg_in (tb3 (i := 75) rfl) rfl, mg_in (tb1 (i := 4) rfl) rfl, by decide, ⟨by decide, by decide, by decide⟩, by decide +kernel, by decide⟩
theorem vkX2_dayAt : mVok mtX2_dayAt 2 2 := ⟨okX2_dayAt, mg_in (tb3 (i := 73) rfl) rfl, mg_in (tb3 (i := 74) rfl) rfl, TX2, 4, rfl⟩
def mtX2_firstChange : mT := (⟨"MondayDeal$Orders", "firstChange", "(I)I"⟩, prog_4_method_9_code, 4, some .int, [(0, .iload_n 1, 1), (1, .ifCond .ne 5, 3), (4, .iconst 0, 1), (5, .ireturn, 1), (6, .aload_n 0, 1), (7, .getfield 9, 3), (10, .iload_n 1, 1), (11, .iaload, 1), (12, .aload_n 0, 1), (13, .getfield 9, 3), (16, .iload_n 1, 1), (17, .iconst 1, 1), (18, .isub, 1), (19, .iaload, 1), (20, .ixor, 1), (21, .istore_n 2, 1), (22, .iconst 0, 1), (23, .istore_n 3, 1), (24, .iload_n 3, 1), (25, .bipush 6, 2), (27, .if_icmp .ge 17, 3), (30, .iload_n 2, 1), (31, .iload_n 3, 1), (32, .invokestatic 23, 3), (35, .ifCond .ne 9, 3), (38, .iinc 3 1, 3), (41, .goto (-17), 3), (44, .iload_n 3, 1), (45, .ireturn, 1)])
theorem okX2_firstChange : mtOK mtX2_firstChange 1 := ⟨mg_in (tb3 (i := 212) rfl) rfl, mg_in (tb1 (i := 4) rfl) rfl, by decide, ⟨by decide, by decide, by decide⟩, by decide +kernel, by decide⟩
theorem vkX2_firstChange : mVok mtX2_firstChange 1 2 := ⟨okX2_firstChange, mg_in (tb3 (i := 210) rfl) rfl, mg_in (tb3 (i := 211) rfl) rfl, TX2, 4, rfl⟩
def mtX2_find : mT := (⟨"MondayDeal$Orders", "find", "(I)I"⟩, prog_4_method_10_code, 5, some .int, [(0, .iconst 0, 1), (1, .istore_n 2, 1), (2, .aload_n 0, 1), (3, .getfield 31, 3), (6, .iconst 1, 1), (7, .isub, 1), (8, .istore_n 3, 1), (9, .iload_n 2, 1), (10, .iload_n 3, 1), (11, .if_icmp .gt 51, 3), (14, .iload_n 2, 1), (15, .iload_n 3, 1), (16, .iadd, 1), (17, .iconst 2, 1), (18, .idiv, 1), (19, .istore 4, 2), (21, .aload_n 0, 1), (22, .getfield 9, 3), (25, .iload 4, 2), (27, .iaload, 1), (28, .iload_n 1, 1), (29, .if_icmp .ne 6, 3), (32, .iload 4, 2), (34, .ireturn, 1), (35, .aload_n 0, 1), (36, .getfield 9, 3), (39, .iload 4, 2), (41, .iaload, 1), (42, .iload_n 1, 1), (43, .if_icmp .ge 11, 3), (46, .iload 4, 2), (48, .iconst 1, 1), (49, .iadd, 1), (50, .istore_n 2, 1), (51, .goto 8, 3), (54, .iload 4, 2), (56, .iconst 1, 1), (57, .isub, 1), (58, .istore_n 3, 1), (59, .goto (-50), 3), (62, .iconst (-1), 1), (63, .ireturn, 1)])
theorem okX2_find : mtOK mtX2_find 1 := ⟨mg_in (tb3 (i := 90) rfl) rfl, mg_in (tb1 (i := 4) rfl) rfl, by decide, ⟨by decide, by decide, by decide⟩, by decide +kernel, by decide⟩
theorem vkX2_find : mVok mtX2_find 1 2 := ⟨okX2_find, mg_in (tb3 (i := 88) rfl) rfl, mg_in (tb3 (i := 89) rfl) rfl, TX2, 4, rfl⟩
def mtX2_amongFirst : mT := (⟨"MondayDeal$Orders", "amongFirst", "(II)I"⟩, prog_4_method_11_code, 5, some .int, [(0, .iconst 0, 1), (1, .istore_n 3, 1), (2, .iconst 0, 1), (3, .istore 4, 2), (5, .iload 4, 2), (7, .iload_n 2, 1), (8, .if_icmp .ge 21, 3), (11, .iload_n 3, 1), (12, .aload_n 0, 1), (13, .getfield 17, 3), (16, .iload_n 1, 1), (17, .aaload, 1), (18, .iload 4, 2), (20, .iaload, 1), (21, .iadd, 1), (22, .istore_n 3, 1), (23, .iinc 4 1, 3), (26, .goto (-21), 3), (29, .iload_n 3, 1), (30, .ireturn, 1)])
theorem okX2_amongFirst : mtOK mtX2_amongFirst 2 := ⟨mg_in (tb4 (i := 35) rfl) rfl, mg_in (tb1 (i := 4) rfl) rfl, by decide, ⟨by decide, by decide, by decide⟩, by decide +kernel, by decide⟩
theorem vkX2_amongFirst : mVok mtX2_amongFirst 2 2 := ⟨okX2_amongFirst, mg_in (tb4 (i := 33) rfl) rfl, mg_in (tb4 (i := 34) rfl) rfl, TX2, 4, rfl⟩
def mtX2_longestWait : mT := (⟨"MondayDeal$Orders", "longestWait", "(I)I"⟩, prog_4_method_12_code, 4, some .int, [(0, .iconst 0, 1), (1, .istore_n 2, 1), (2, .iload_n 2, 1), (3, .bipush 6, 2), (5, .if_icmp .ge 20, 3), (8, .aload_n 0, 1), (9, .getfield 17, 3), (12, .iload_n 1, 1), (13, .aaload, 1), (14, .iload_n 2, 1), (15, .iaload, 1), (16, .ifCond .ne 9, 3), (19, .iinc 2 1, 3), (22, .goto (-20), 3), (25, .bipush 6, 2), (27, .istore_n 3, 1), (28, .iload_n 3, 1), (29, .ifCond .le 20, 3), (32, .aload_n 0, 1), (33, .getfield 17, 3), (36, .iload_n 1, 1), (37, .aaload, 1), (38, .iload_n 3, 1), (39, .iaload, 1), (40, .ifCond .ne 9, 3), (43, .iinc 3 (-1), 3), (46, .goto (-18), 3), (49, .bipush 7, 2), (51, .iload_n 2, 1), (52, .isub, 1), (53, .iload_n 3, 1), (54, .iadd, 1), (55, .ireturn, 1)])
theorem okX2_longestWait : mtOK mtX2_longestWait 1 := ⟨mg_in (tb4 (i := 54) rfl) rfl, mg_in (tb1 (i := 4) rfl) rfl, by decide, ⟨by decide, by decide, by decide⟩, by decide +kernel, by decide⟩
theorem vkX2_longestWait : mVok mtX2_longestWait 1 2 := ⟨okX2_longestWait, mg_in (tb4 (i := 52) rfl) rfl, mg_in (tb4 (i := 53) rfl) rfl, TX2, 4, rfl⟩
def mtX3_init : mT := (⟨"MondayDeal$Outlook", "<init>", "()V"⟩, prog_5_method_1_code, 1, none, [(0, .aload_n 0, 1), (1, .invokespecial 3, 3), (4, .aload_n 0, 1), (5, .bipush 8, 2), (7, .bipush 6, 2), (9, .multianewarray 9 2, 4), (13, .putfield 11, 3), (16, .aload_n 0, 1), (17, .bipush 8, 2), (19, .bipush 6, 2), (21, .multianewarray 9 2, 4), (25, .putfield 16, 3), (28, .aload_n 0, 1), (29, .bipush 6, 2), (31, .newarray .int, 2), (33, .putfield 19, 3), (36, .aload_n 0, 1), (37, .bipush 7, 2), (39, .newarray .int, 2), (41, .putfield 23, 3), (44, .aload_n 0, 1), (45, .bipush 6, 2), (47, .newarray .long, 2), (49, .putfield 26, 3), (52, .aload_n 0, 1), (53, .bipush 6, 2), (55, .newarray .int, 2), (57, .putfield 30, 3), (60, .aload_n 0, 1), (61, .bipush 6, 2), (63, .bipush 13, 2), (65, .multianewarray 9 2, 4), (69, .putfield 33, 3), (72, .aload_n 0, 1), (73, .bipush 64, 2), (75, .newarray .int, 2), (77, .putfield 36, 3), (80, .return_, 1)])
theorem okX3_init : mtOK mtX3_init 0 := ⟨mg_in (tb1 (i := 145) rfl) rfl, mg_in (tb1 (i := 5) rfl) rfl, by decide, ⟨by decide, by decide, by decide⟩, by decide +kernel, by decide⟩
def mtX3_look : mT := (⟨"MondayDeal$Outlook", "look", "(LMondayDeal$Told;LMondayDeal$State;LMondayDeal$Orders;)V"⟩, prog_5_method_2_code, 6, none, [(0, .aload_n 0, 1), (1, .aload_n 1, 1), (2, .aload_n 2, 1), (3, .invokevirtual 39, 3), (6, .iconst 0, 1), (7, .istore 4, 2), (9, .iload 4, 2), (11, .bipush 6, 2), (13, .if_icmp .ge 20, 3), (16, .aload_n 0, 1), (17, .getfield 33, 3), (20, .iload 4, 2), (22, .aaload, 1), (23, .lconst 0, 1), (24, .invokestatic 43, 3), (27, .iinc 4 1, 3), (30, .goto (-21), 3), (33, .iconst 0, 1), (34, .istore 4, 2), (36, .iload 4, 2), (38, .aload_n 3, 1), (39, .getfield 49, 3), (42, .if_icmp .ge 55, 3), (45, .aload_n 3, 1), (46, .iload 4, 2), (48, .invokevirtual 55, 3), (51, .istore 5, 2), (53, .iload 5, 2), (55, .bipush 7, 2), (57, .if_icmp .ge 24, 3), (60, .aload_n 0, 1), (61, .aload_n 1, 1), (62, .iload 5, 2), (64, .aload_n 3, 1), (65, .iload 4, 2), (67, .iload 5, 2), (69, .invokevirtual 59, 3), (72, .invokevirtual 63, 3), (75, .iinc 5 1, 3), (78, .goto (-25), 3), (81, .aload_n 0, 1), (82, .aload_n 1, 1), (83, .getfield 67, 3), (86, .iload 4, 2), (88, .invokevirtual 72, 3), (91, .iinc 4 1, 3), (94, .goto (-58), 3), (97, .aload_n 0, 1), (98, .aload_n 1, 1), (99, .getfield 67, 3), (102, .invokevirtual 76, 3), (105, .return_, 1)])
theorem okX3_look : mtOK mtX3_look 3 := ⟨mg_in (tb3 (i := 205) rfl) rfl, mg_in (tb1 (i := 5) rfl) rfl, by decide, ⟨by decide, by decide, by decide⟩, by decide +kernel, by decide⟩
theorem vkX3_look : mVok mtX3_look 3 3 := ⟨okX3_look, mg_in (tb3 (i := 203) rfl) rfl, mg_in (tb3 (i := 204) rfl) rfl, TX3, 12, rfl⟩
def mtX3_dealOut : mT := (⟨"MondayDeal$Outlook", "dealOut", "(LMondayDeal$Told;LMondayDeal$State;LMondayDeal$Orders;I)I"⟩, prog_5_method_3_code, 6, some .int, [(0, .aload_n 0, 1), (1, .aload_n 1, 1), (2, .aload_n 2, 1), (3, .invokevirtual 39, 3), (6, .iconst 0, 1), (7, .istore 5, 2), (9, .iload 5, 2), (11, .bipush 7, 2), (13, .if_icmp .ge 24, 3), (16, .aload_n 0, 1), (17, .aload_n 1, 1), (18, .iload 5, 2), (20, .aload_n 3, 1), (21, .iload 4, 2), (23, .iload 5, 2), (25, .invokevirtual 59, 3), (28, .invokevirtual 63, 3), (31, .iinc 5 1, 3), (34, .goto (-25), 3), (37, .iconst 0, 1), (38, .istore 5, 2), (40, .iload 5, 2), (42, .aload_n 1, 1), (43, .getfield 67, 3), (46, .if_icmp .ge 44, 3), (49, .aload_n 2, 1), (50, .getfield 80, 3), (53, .iload 5, 2), (55, .aload_n 0, 1), (56, .aload_n 1, 1), (57, .aload_n 2, 1), (58, .iload 5, 2), (60, .invokevirtual 85, 3), (63, .iastore, 1), (64, .aload_n 0, 1), (65, .iload 5, 2), (67, .invokevirtual 89, 3), (70, .ifCond .eq 14, 3), (73, .aload_n 2, 1), (74, .getfield 93, 3), (77, .iload 5, 2), (79, .dup2, 1), (80, .iaload, 1), (81, .iconst 1, 1), (82, .iadd, 1), (83, .iastore, 1), (84, .iinc 5 1, 3), (87, .goto (-47), 3), (90, .aload_n 0, 1), (91, .aload_n 1, 1), (92, .getfield 67, 3), (95, .invokevirtual 95, 3), (98, .istore 5, 2), (100, .aload_n 2, 1), (101, .dup, 1), (102, .getfield 98, 3), (105, .iload 5, 2), (107, .iadd, 1), (108, .putfield 98, 3), (111, .aload_n 2, 1), (112, .aload_n 3, 1), (113, .getfield 101, 3), (116, .iload 4, 2), (118, .iaload, 1), (119, .invokevirtual 104, 3), (122, .iload 5, 2), (124, .ireturn, 1)])
theorem okX3_dealOut : mtOK mtX3_dealOut 4 := ⟨mg_in (tb3 (i := 110) rfl) rfl, mg_in (tb1 (i := 5) rfl) rfl, by decide, ⟨by decide, by decide, by decide⟩, by decide +kernel, by decide⟩
theorem vkX3_dealOut : mVok mtX3_dealOut 4 3 := ⟨okX3_dealOut, mg_in (tb3 (i := 108) rfl) rfl, mg_in (tb3 (i := 109) rfl) rfl, TX3, 12, rfl⟩
def mtX3_begin : mT := (⟨"MondayDeal$Outlook", "begin", "(LMondayDeal$Told;LMondayDeal$State;)V"⟩, prog_5_method_4_code, 5, none, [(0, .iconst 0, 1), (1, .istore_n 3, 1), (2, .iload_n 3, 1), (3, .aload_n 1, 1), (4, .getfield 67, 3), (7, .if_icmp .ge 111, 3), (10, .aload_n 2, 1), (11, .getfield 80, 3), (14, .iload_n 3, 1), (15, .iaload, 1), (16, .iconst (-1), 1), (17, .if_icmp .eq 7, 3), (20, .iconst 1, 1), (21, .goto 4, 3), (24, .iconst 0, 1), (25, .istore 4, 2), (27, .aload_n 0, 1), (28, .getfield 11, 3), (31, .iconst 0, 1), (32, .aaload, 1), (33, .iload_n 3, 1), (34, .iload 4, 2), (36, .ifCond .eq 9, 3), (39, .ldc2_w 107, 3), (42, .goto 8, 3), (45, .getstatic 109, 3), (48, .iload_n 3, 1), (49, .laload, 1), (50, .lastore, 1), (51, .aload_n 0, 1), (52, .getfield 16, 3), (55, .iconst 0, 1), (56, .aaload, 1), (57, .iload_n 3, 1), (58, .lconst 0, 1), (59, .lastore, 1), (60, .aload_n 0, 1), (61, .getfield 19, 3), (64, .iload_n 3, 1), (65, .aload_n 1, 1), (66, .getfield 112, 3), (69, .iload_n 3, 1), (70, .iaload, 1), (71, .iconst 1, 1), (72, .isub, 1), (73, .iload 4, 2), (75, .ifCond .eq 12, 3), (78, .aload_n 2, 1), (79, .getfield 80, 3), (82, .iload_n 3, 1), (83, .iaload, 1), (84, .goto 4, 3), (87, .iconst 0, 1), (88, .isub, 1), (89, .iastore, 1), (90, .aload_n 0, 1), (91, .getfield 30, 3), (94, .iload_n 3, 1), (95, .aload_n 1, 1), (96, .aload_n 1, 1), (97, .getfield 115, 3), (100, .iload_n 3, 1), (101, .iaload, 1), (102, .aload_n 1, 1), (103, .getfield 118, 3), (106, .iload_n 3, 1), (107, .iaload, 1), (108, .invokevirtual 121, 3), (111, .iastore, 1), (112, .iinc 3 1, 3), (115, .goto (-113), 3), (118, .return_, 1)])
theorem okX3_begin : mtOK mtX3_begin 2 := ⟨mg_in (tb3 (i := 114) rfl) rfl, mg_in (tb1 (i := 5) rfl) rfl, by decide, ⟨by decide, by decide, by decide⟩, by decide +kernel, by decide⟩
theorem vkX3_begin : mVok mtX3_begin 2 3 := ⟨okX3_begin, mg_in (tb3 (i := 113) rfl) rfl, mg_sel (List.mem_of_getElem? (i := 17) rfl) rfl, TX3, 12, rfl⟩
def mtX3_play : mT := (⟨"MondayDeal$Outlook", "play", "(LMondayDeal$Told;II)V"⟩, prog_5_method_5_code, 5, none, [(0, .aload_n 0, 1), (1, .getfield 11, 3), (4, .iload_n 2, 1), (5, .aaload, 1), (6, .iconst 0, 1), (7, .aload_n 0, 1), (8, .getfield 11, 3), (11, .iload_n 2, 1), (12, .iconst 1, 1), (13, .iadd, 1), (14, .aaload, 1), (15, .iconst 0, 1), (16, .aload_n 1, 1), (17, .getfield 67, 3), (20, .invokestatic 124, 3), (23, .aload_n 0, 1), (24, .getfield 16, 3), (27, .iload_n 2, 1), (28, .aaload, 1), (29, .iconst 0, 1), (30, .aload_n 0, 1), (31, .getfield 16, 3), (34, .iload_n 2, 1), (35, .iconst 1, 1), (36, .iadd, 1), (37, .aaload, 1), (38, .iconst 0, 1), (39, .aload_n 1, 1), (40, .getfield 67, 3), (43, .invokestatic 124, 3), (46, .aload_n 0, 1), (47, .getfield 23, 3), (50, .iload_n 3, 1), (51, .iload_n 2, 1), (52, .iastore, 1), (53, .iconst 0, 1), (54, .istore 4, 2), (56, .iload 4, 2), (58, .aload_n 1, 1), (59, .getfield 67, 3), (62, .if_icmp .ge 28, 3), (65, .aload_n 1, 1), (66, .getfield 115, 3), (69, .iload 4, 2), (71, .iaload, 1), (72, .iload_n 3, 1), (73, .if_icmp .ne 11, 3), (76, .aload_n 0, 1), (77, .aload_n 1, 1), (78, .iload_n 2, 1), (79, .iload 4, 2), (81, .invokevirtual 130, 3), (84, .iinc 4 1, 3), (87, .goto (-31), 3), (90, .return_, 1)])
theorem okX3_play : mtOK mtX3_play 3 := ⟨mg_in (tb3 (i := 123) rfl) rfl, mg_in (tb1 (i := 5) rfl) rfl, by decide, ⟨by decide, by decide, by decide⟩, by decide +kernel, by decide⟩
theorem vkX3_play : mVok mtX3_play 3 3 := ⟨okX3_play, mg_in (tb3 (i := 122) rfl) rfl, mg_sel (List.mem_of_getElem? (i := 18) rfl) rfl, TX3, 12, rfl⟩
def mtX3_doWork : mT := (⟨"MondayDeal$Outlook", "doWork", "(LMondayDeal$Told;II)V"⟩, prog_5_method_6_code, 9, none, [(0, .aload_n 0, 1), (1, .getfield 11, 3), (4, .iload_n 2, 1), (5, .iconst 1, 1), (6, .iadd, 1), (7, .aaload, 1), (8, .astore 4, 2), (10, .aload_n 0, 1), (11, .getfield 16, 3), (14, .iload_n 2, 1), (15, .iconst 1, 1), (16, .iadd, 1), (17, .aaload, 1), (18, .astore 5, 2), (20, .aload_n 1, 1), (21, .iload_n 3, 1), (22, .invokevirtual 133, 3), (25, .ifCond .eq 7, 3), (28, .lconst 0, 1), (29, .goto 6, 3), (32, .ldc2_w 107, 3), (35, .lstore 6, 2), (37, .aload_n 1, 1), (38, .getfield 136, 3), (41, .iload_n 3, 1), (42, .iaload, 1), (43, .istore 8, 2), (45, .iload 8, 2), (47, .iconst (-1), 1), (48, .if_icmp .eq 44, 3), (51, .lload 6, 2), (53, .aload_n 0, 1), (54, .aload_n 1, 1), (55, .iload_n 2, 1), (56, .iload 8, 2), (58, .invokevirtual 139, 3), (61, .land, 1), (62, .lstore 6, 2), (64, .aload 4, 2), (66, .iload 8, 2), (68, .dup2, 1), (69, .laload, 1), (70, .lload 6, 2), (72, .ldc2_w 107, 3), (75, .lxor, 1), (76, .land, 1), (77, .lastore, 1), (78, .aload 5, 2), (80, .iload 8, 2), (82, .dup2, 1), (83, .laload, 1), (84, .lload 6, 2), (86, .ldc2_w 107, 3), (89, .lxor, 1), (90, .land, 1), (91, .lastore, 1), (92, .aload 4, 2), (94, .iload_n 3, 1), (95, .dup2, 1), (96, .laload, 1), (97, .lload 6, 2), (99, .ldc2_w 107, 3), (102, .lxor, 1), (103, .land, 1), (104, .lastore, 1), (105, .aload 5, 2), (107, .iload_n 3, 1), (108, .dup2, 1), (109, .laload, 1), (110, .lload 6, 2), (112, .lor, 1), (113, .lastore, 1), (114, .aload_n 0, 1), (115, .getfield 26, 3), (118, .iload_n 3, 1), (119, .lload 6, 2), (121, .lastore, 1), (122, .return_, 1)])
theorem okX3_doWork : mtOK mtX3_doWork 3 := ⟨mg_in (tb3 (i := 128) rfl) rfl, mg_in (tb1 (i := 5) rfl) rfl, by decide, ⟨by decide, by decide, by decide⟩, by decide +kernel, by decide⟩
theorem vkX3_doWork : mVok mtX3_doWork 3 3 := ⟨okX3_doWork, mg_in (tb3 (i := 127) rfl) rfl, mg_sel (List.mem_of_getElem? (i := 19) rfl) rfl, TX3, 12, rfl⟩
def mtX3_lanesWith : mT := (⟨"MondayDeal$Outlook", "lanesWith", "(LMondayDeal$Told;II)J"⟩, prog_5_method_7_code, 6, some .long, [(0, .lconst 0, 1), (1, .lstore 4, 2), (3, .iload_n 2, 1), (4, .aload_n 0, 1), (5, .getfield 19, 3), (8, .iload_n 3, 1), (9, .iaload, 1), (10, .if_icmp .gt 18, 3), (13, .lload 4, 2), (15, .aload_n 0, 1), (16, .getfield 11, 3), (19, .iload_n 2, 1), (20, .iconst 1, 1), (21, .iadd, 1), (22, .aaload, 1), (23, .iload_n 3, 1), (24, .laload, 1), (25, .lor, 1), (26, .lstore 4, 2), (28, .iload_n 2, 1), (29, .aload_n 0, 1), (30, .getfield 23, 3), (33, .aload_n 1, 1), (34, .getfield 115, 3), (37, .iload_n 3, 1), (38, .iaload, 1), (39, .iaload, 1), (40, .isub, 1), (41, .aload_n 1, 1), (42, .getfield 112, 3), (45, .iload_n 3, 1), (46, .iaload, 1), (47, .if_icmp .gt 18, 3), (50, .lload 4, 2), (52, .aload_n 0, 1), (53, .getfield 16, 3), (56, .iload_n 2, 1), (57, .iconst 1, 1), (58, .iadd, 1), (59, .aaload, 1), (60, .iload_n 3, 1), (61, .laload, 1), (62, .lor, 1), (63, .lstore 4, 2), (65, .lload 4, 2), (67, .lreturn, 1)])
theorem okX3_lanesWith : mtOK mtX3_lanesWith 3 := ⟨mg_in (tb3 (i := 136) rfl) rfl, mg_in (tb1 (i := 5) rfl) rfl, by decide, ⟨by decide, by decide, by decide⟩, by decide +kernel, by decide⟩
theorem vkX3_lanesWith : mVok mtX3_lanesWith 3 3 := ⟨okX3_lanesWith, mg_in (tb3 (i := 135) rfl) rfl, mg_sel (List.mem_of_getElem? (i := 20) rfl) rfl, TX3, 12, rfl⟩
def mtX3_ageBehind : mT := (⟨"MondayDeal$Outlook", "ageBehind", "(LMondayDeal$Told;LMondayDeal$State;I)I"⟩, prog_5_method_8_code, 5, some .int, [(0, .iconst (-1), 1), (1, .istore 4, 2), (3, .aload_n 0, 1), (4, .getfield 16, 3), (7, .bipush 7, 2), (9, .aaload, 1), (10, .iload_n 3, 1), (11, .laload, 1), (12, .lconst 1, 1), (13, .land, 1), (14, .lconst 0, 1), (15, .lcmp, 1), (16, .ifCond .eq 22, 3), (19, .bipush 6, 2), (21, .aload_n 0, 1), (22, .getfield 23, 3), (25, .aload_n 1, 1), (26, .getfield 115, 3), (29, .iload_n 3, 1), (30, .iaload, 1), (31, .iaload, 1), (32, .isub, 1), (33, .istore 4, 2), (35, .goto 30, 3), (38, .aload_n 0, 1), (39, .getfield 11, 3), (42, .bipush 7, 2), (44, .aaload, 1), (45, .iload_n 3, 1), (46, .laload, 1), (47, .lconst 1, 1), (48, .land, 1), (49, .lconst 0, 1), (50, .lcmp, 1), (51, .ifCond .eq 14, 3), (54, .aload_n 2, 1), (55, .getfield 80, 3), (58, .iload_n 3, 1), (59, .iaload, 1), (60, .bipush 7, 2), (62, .iadd, 1), (63, .istore 4, 2), (65, .iload 4, 2), (67, .aload_n 1, 1), (68, .getfield 112, 3), (71, .iload_n 3, 1), (72, .iaload, 1), (73, .if_icmp .gt 8, 3), (76, .iload 4, 2), (78, .goto 4, 3), (81, .iconst (-1), 1), (82, .ireturn, 1)])
theorem okX3_ageBehind : mtOK mtX3_ageBehind 3 := ⟨mg_in (tb3 (i := 140) rfl) rfl, mg_in (tb1 (i := 5) rfl) rfl, by decide, ⟨by decide, by decide, by decide⟩, by decide +kernel, by decide⟩
theorem vkX3_ageBehind : mVok mtX3_ageBehind 3 3 := ⟨okX3_ageBehind, mg_in (tb3 (i := 139) rfl) rfl, mg_sel (List.mem_of_getElem? (i := 21) rfl) rfl, TX3, 12, rfl⟩
def mtX3_isDone : mT := (⟨"MondayDeal$Outlook", "isDone", "(I)Z"⟩, prog_5_method_9_code, 2, some .boolean, [(0, .aload_n 0, 1), (1, .getfield 26, 3), (4, .iload_n 1, 1), (5, .laload, 1), (6, .lconst 1, 1), (7, .land, 1), (8, .lconst 0, 1), (9, .lcmp, 1), (10, .ifCond .eq 7, 3), (13, .iconst 1, 1), (14, .goto 4, 3), (17, .iconst 0, 1), (18, .ireturn, 1)])
theorem okX3_isDone : mtOK mtX3_isDone 1 := ⟨mg_in (tb3 (i := 144) rfl) rfl, mg_in (tb1 (i := 5) rfl) rfl, by decide, ⟨by decide, by decide, by decide⟩, by decide +kernel, by decide⟩
theorem vkX3_isDone : mVok mtX3_isDone 1 3 := ⟨okX3_isDone, mg_in (tb3 (i := 143) rfl) rfl, mg_sel (List.mem_of_getElem? (i := 22) rfl) rfl, TX3, 12, rfl⟩
def mtX3_earnedNow : mT := (⟨"MondayDeal$Outlook", "earnedNow", "(I)I"⟩, prog_5_method_10_code, 4, some .int, [(0, .iconst 0, 1), (1, .istore_n 2, 1), (2, .iconst 0, 1), (3, .istore_n 3, 1), (4, .iload_n 3, 1), (5, .iload_n 1, 1), (6, .if_icmp .ge 26, 3), (9, .aload_n 0, 1), (10, .iload_n 3, 1), (11, .invokevirtual 89, 3), (14, .ifCond .eq 12, 3), (17, .iload_n 2, 1), (18, .aload_n 0, 1), (19, .getfield 30, 3), (22, .iload_n 3, 1), (23, .iaload, 1), (24, .iadd, 1), (25, .istore_n 2, 1), (26, .iinc 3 1, 3), (29, .goto (-25), 3), (32, .iload_n 2, 1), (33, .ireturn, 1)])
theorem okX3_earnedNow : mtOK mtX3_earnedNow 1 := ⟨mg_in (tb3 (i := 148) rfl) rfl, mg_in (tb1 (i := 5) rfl) rfl, by decide, ⟨by decide, by decide, by decide⟩, by decide +kernel, by decide⟩
theorem vkX3_earnedNow : mVok mtX3_earnedNow 1 3 := ⟨okX3_earnedNow, mg_in (tb3 (i := 147) rfl) rfl, mg_sel (List.mem_of_getElem? (i := 23) rfl) rfl, TX3, 12, rfl⟩
def mtX3_tallyAll : mT := (⟨"MondayDeal$Outlook", "tallyAll", "(II)V"⟩, prog_5_method_11_code, 4, none, [(0, .iconst 0, 1), (1, .istore_n 3, 1), (2, .iload_n 3, 1), (3, .iload_n 1, 1), (4, .if_icmp .ge 24, 3), (7, .aload_n 0, 1), (8, .getfield 33, 3), (11, .iload_n 3, 1), (12, .aaload, 1), (13, .aload_n 0, 1), (14, .getfield 26, 3), (17, .iload_n 3, 1), (18, .laload, 1), (19, .invokestatic 143, 3), (22, .iinc 3 1, 3), (25, .goto (-23), 3), (28, .aload_n 0, 1), (29, .iload_n 1, 1), (30, .invokevirtual 95, 3), (33, .istore_n 3, 1), (34, .iload_n 2, 1), (35, .ifCond .eq 11, 3), (38, .iload_n 3, 1), (39, .aload_n 0, 1), (40, .getfield 146, 3), (43, .if_icmp .le 13, 3), (46, .aload_n 0, 1), (47, .iload_n 3, 1), (48, .putfield 146, 3), (51, .aload_n 0, 1), (52, .iload_n 2, 1), (53, .putfield 149, 3), (56, .iload_n 2, 1), (57, .ifCond .eq 11, 3), (60, .iload_n 3, 1), (61, .aload_n 0, 1), (62, .getfield 152, 3), (65, .if_icmp .ge 13, 3), (68, .aload_n 0, 1), (69, .iload_n 3, 1), (70, .putfield 152, 3), (73, .aload_n 0, 1), (74, .iload_n 2, 1), (75, .putfield 155, 3), (78, .return_, 1)])
theorem okX3_tallyAll : mtOK mtX3_tallyAll 2 := ⟨mg_in (tb3 (i := 216) rfl) rfl, mg_in (tb1 (i := 5) rfl) rfl, by decide, ⟨by decide, by decide, by decide⟩, by decide +kernel, by decide⟩
theorem vkX3_tallyAll : mVok mtX3_tallyAll 2 3 := ⟨okX3_tallyAll, mg_in (tb3 (i := 215) rfl) rfl, mg_sel (List.mem_of_getElem? (i := 26) rfl) rfl, TX3, 12, rfl⟩
def mtX3_tally : mT := (⟨"MondayDeal$Outlook", "tally", "([JJ)V"⟩, prog_5_method_12_code, 8, none, [(0, .lload_n 1, 1), (1, .lstore_n 3, 1), (2, .iconst 0, 1), (3, .istore 5, 2), (5, .iload 5, 2), (7, .bipush 13, 2), (9, .if_icmp .ge 34, 3), (12, .lload_n 3, 1), (13, .lconst 0, 1), (14, .lcmp, 1), (15, .ifCond .eq 28, 3), (18, .aload_n 0, 1), (19, .iload 5, 2), (21, .laload, 1), (22, .lload_n 3, 1), (23, .land, 1), (24, .lstore 6, 2), (26, .aload_n 0, 1), (27, .iload 5, 2), (29, .dup2, 1), (30, .laload, 1), (31, .lload_n 3, 1), (32, .lxor, 1), (33, .lastore, 1), (34, .lload 6, 2), (36, .lstore_n 3, 1), (37, .iinc 5 1, 3), (40, .goto (-35), 3), (43, .return_, 1)])
theorem okX3_tally : mtOK mtX3_tally 2 := ⟨mg_in (tb3 (i := 219) rfl) rfl, mg_in (tb1 (i := 5) rfl) rfl, by decide, ⟨by decide, by decide, by decide⟩, by decide +kernel, by decide⟩
theorem skX3_tally : mSok mtX3_tally 2 := ⟨okX3_tally, mg_in (tb3 (i := 218) rfl) rfl⟩
def mtX3_timesDone : mT := (⟨"MondayDeal$Outlook", "timesDone", "(II)I"⟩, prog_5_method_13_code, 5, some .int, [(0, .iconst 0, 1), (1, .istore_n 3, 1), (2, .iconst 0, 1), (3, .istore 4, 2), (5, .iload 4, 2), (7, .bipush 13, 2), (9, .if_icmp .ge 29, 3), (12, .iload_n 3, 1), (13, .aload_n 0, 1), (14, .getfield 33, 3), (17, .iload_n 1, 1), (18, .aaload, 1), (19, .iload 4, 2), (21, .laload, 1), (22, .iload_n 2, 1), (23, .lushr, 1), (24, .lconst 1, 1), (25, .land, 1), (26, .l2i, 1), (27, .iload 4, 2), (29, .ishl, 1), (30, .ior, 1), (31, .istore_n 3, 1), (32, .iinc 4 1, 3), (35, .goto (-30), 3), (38, .iload_n 3, 1), (39, .ireturn, 1)])
theorem okX3_timesDone : mtOK mtX3_timesDone 2 := ⟨mg_in (tb3 (i := 227) rfl) rfl, mg_in (tb1 (i := 5) rfl) rfl, by decide, ⟨by decide, by decide, by decide⟩, by decide +kernel, by decide⟩
theorem vkX3_timesDone : mVok mtX3_timesDone 2 3 := ⟨okX3_timesDone, mg_in (tb3 (i := 225) rfl) rfl, mg_in (tb3 (i := 226) rfl) rfl, TX3, 12, rfl⟩
def mtX3_addUp : mT := (⟨"MondayDeal$Outlook", "addUp", "(I)V"⟩, prog_5_method_14_code, 5, none, [(0, .iconst 0, 1), (1, .istore_n 2, 1), (2, .iload_n 2, 1), (3, .iconst 1, 1), (4, .iload_n 1, 1), (5, .ishl, 1), (6, .if_icmp .ge 51, 3), (9, .iconst 0, 1), (10, .istore_n 3, 1), (11, .iconst 0, 1), (12, .istore 4, 2), (14, .iload 4, 2), (16, .iload_n 1, 1), (17, .if_icmp .ge 27, 3), (20, .iload_n 3, 1), (21, .aload_n 0, 1), (22, .getfield 30, 3), (25, .iload 4, 2), (27, .iaload, 1), (28, .aload_n 0, 1), (29, .iload 4, 2), (31, .iload_n 2, 1), (32, .invokevirtual 158, 3), (35, .imul, 1), (36, .iadd, 1), (37, .istore_n 3, 1), (38, .iinc 4 1, 3), (41, .goto (-27), 3), (44, .aload_n 0, 1), (45, .getfield 36, 3), (48, .iload_n 2, 1), (49, .iload_n 3, 1), (50, .iastore, 1), (51, .iinc 2 1, 3), (54, .goto (-52), 3), (57, .return_, 1)])
theorem okX3_addUp : mtOK mtX3_addUp 1 := ⟨mg_in (tb3 (i := 223) rfl) rfl, mg_in (tb1 (i := 5) rfl) rfl, by decide, ⟨by decide, by decide, by decide⟩, by decide +kernel, by decide⟩
theorem vkX3_addUp : mVok mtX3_addUp 1 3 := ⟨okX3_addUp, mg_in (tb3 (i := 222) rfl) rfl, mg_sel (List.mem_of_getElem? (i := 27) rfl) rfl, TX3, 12, rfl⟩
def mtX3_doneInAll : mT := (⟨"MondayDeal$Outlook", "doneInAll", "(II)I"⟩, prog_5_method_15_code, 5, some .int, [(0, .iconst 0, 1), (1, .istore_n 3, 1), (2, .iconst 0, 1), (3, .istore 4, 2), (5, .iload 4, 2), (7, .iload_n 1, 1), (8, .if_icmp .ge 27, 3), (11, .aload_n 0, 1), (12, .iload 4, 2), (14, .iconst 0, 1), (15, .invokevirtual 158, 3), (18, .iload_n 2, 1), (19, .if_icmp .ne 10, 3), (22, .iload_n 3, 1), (23, .iconst 1, 1), (24, .iload 4, 2), (26, .ishl, 1), (27, .ior, 1), (28, .istore_n 3, 1), (29, .iinc 4 1, 3), (32, .goto (-27), 3), (35, .iload_n 3, 1), (36, .ireturn, 1)])
theorem okX3_doneInAll : mtOK mtX3_doneInAll 2 := ⟨mg_in (tb4 (i := 10) rfl) rfl, mg_in (tb1 (i := 5) rfl) rfl, by decide, ⟨by decide, by decide, by decide⟩, by decide +kernel, by decide⟩
theorem vkX3_doneInAll : mVok mtX3_doneInAll 2 3 := ⟨okX3_doneInAll, mg_in (tb4 (i := 8) rfl) rfl, mg_in (tb4 (i := 9) rfl) rfl, TX3, 12, rfl⟩
def mtX3_bestSet : mT := (⟨"MondayDeal$Outlook", "bestSet", "(III)I"⟩, prog_5_method_16_code, 6, some .int, [(0, .iconst 0, 1), (1, .istore 4, 2), (3, .iconst 1, 1), (4, .istore 5, 2), (6, .iload 5, 2), (8, .iconst 1, 1), (9, .iload_n 2, 1), (10, .ishl, 1), (11, .if_icmp .ge 46, 3), (14, .iload 5, 2), (16, .iload_n 3, 1), (17, .iand, 1), (18, .ifCond .ne 33, 3), (21, .iload 5, 2), (23, .invokestatic 161, 3), (26, .iload_n 1, 1), (27, .if_icmp .gt 24, 3), (30, .aload_n 0, 1), (31, .getfield 36, 3), (34, .iload 5, 2), (36, .iaload, 1), (37, .aload_n 0, 1), (38, .getfield 36, 3), (41, .iload 4, 2), (43, .iaload, 1), (44, .if_icmp .le 7, 3), (47, .iload 5, 2), (49, .istore 4, 2), (51, .iinc 5 1, 3), (54, .goto (-48), 3), (57, .iload 4, 2), (59, .ireturn, 1)])
theorem okX3_bestSet : mtOK mtX3_bestSet 3 := ⟨mg_in (tb4 (i := 26) rfl) rfl, mg_in (tb1 (i := 5) rfl) rfl, by decide, ⟨by decide, by decide, by decide⟩, by decide +kernel, by decide⟩
theorem vkX3_bestSet : mVok mtX3_bestSet 3 3 := ⟨okX3_bestSet, mg_in (tb4 (i := 24) rfl) rfl, mg_in (tb4 (i := 25) rfl) rfl, TX3, 12, rfl⟩
def mtX4_init : mT := (⟨"MondayDeal$Past", "<init>", "()V"⟩, prog_6_method_1_code, 2, none, [(0, .aload_n 0, 1), (1, .invokespecial 3, 3), (4, .aload_n 0, 1), (5, .bipush 8, 2), (7, .anewarray 9, 3), (10, .putfield 11, 3), (13, .iconst 0, 1), (14, .istore_n 1, 1), (15, .iload_n 1, 1), (16, .bipush 8, 2), (18, .if_icmp .ge 22, 3), (21, .aload_n 0, 1), (22, .getfield 11, 3), (25, .iload_n 1, 1), (26, .new 9, 3), (29, .dup, 1), (30, .invokespecial 17, 3), (33, .aastore, 1), (34, .iinc 1 1, 3), (37, .goto (-22), 3), (40, .return_, 1)])
theorem okX4_init : mtOK mtX4_init 0 := ⟨mg_in (tb1 (i := 227) rfl) rfl, mg_in (tb1 (i := 7) rfl) rfl, by decide, ⟨by decide, by decide, by decide⟩, by decide +kernel, by decide⟩
def mtX4_push : mT := (⟨"MondayDeal$Past", "push", "(LMondayDeal$State;)V"⟩, prog_6_method_2_code, 2, none, [(0, .aload_n 0, 1), (1, .aload_n 0, 1), (2, .getfield 18, 3), (5, .iconst 1, 1), (6, .iadd, 1), (7, .bipush 8, 2), (9, .irem, 1), (10, .putfield 18, 3), (13, .aload_n 0, 1), (14, .getfield 11, 3), (17, .aload_n 0, 1), (18, .getfield 18, 3), (21, .aaload, 1), (22, .aload_n 1, 1), (23, .invokevirtual 22, 3), (26, .aload_n 0, 1), (27, .aload_n 0, 1), (28, .getfield 26, 3), (31, .iconst 1, 1), (32, .iadd, 1), (33, .bipush 8, 2), (35, .invokestatic 29, 3), (38, .putfield 26, 3), (41, .return_, 1)])
theorem okX4_push : mtOK mtX4_push 1 := ⟨mg_in (tb3 (i := 98) rfl) rfl, mg_in (tb1 (i := 7) rfl) rfl, by decide, ⟨by decide, by decide, by decide⟩, by decide +kernel, by decide⟩
theorem vkX4_push : mVok mtX4_push 1 4 := ⟨okX4_push, mg_in (tb3 (i := 96) rfl) rfl, mg_in (tb3 (i := 97) rfl) rfl, TX4, 3, rfl⟩
def mtX4_pop : mT := (⟨"MondayDeal$Past", "pop", "(LMondayDeal$State;)V"⟩, prog_6_method_3_code, 2, none, [(0, .aload_n 1, 1), (1, .aload_n 0, 1), (2, .getfield 11, 3), (5, .aload_n 0, 1), (6, .getfield 18, 3), (9, .aaload, 1), (10, .invokevirtual 22, 3), (13, .aload_n 0, 1), (14, .aload_n 0, 1), (15, .getfield 18, 3), (18, .bipush 8, 2), (20, .iadd, 1), (21, .iconst 1, 1), (22, .isub, 1), (23, .bipush 8, 2), (25, .irem, 1), (26, .putfield 18, 3), (29, .aload_n 0, 1), (30, .dup, 1), (31, .getfield 26, 3), (34, .iconst 1, 1), (35, .isub, 1), (36, .putfield 26, 3), (39, .return_, 1)])
theorem okX4_pop : mtOK mtX4_pop 1 := ⟨mg_in (tb3 (i := 174) rfl) rfl, mg_in (tb1 (i := 7) rfl) rfl, by decide, ⟨by decide, by decide, by decide⟩, by decide +kernel, by decide⟩
theorem vkX4_pop : mVok mtX4_pop 1 4 := ⟨okX4_pop, mg_in (tb3 (i := 172) rfl) rfl, mg_in (tb3 (i := 173) rfl) rfl, TX4, 3, rfl⟩
def mtX5_init : mT := (⟨"MondayDeal$State", "<init>", "()V"⟩, prog_7_method_1_code, 1, none, [(0, .aload_n 0, 1), (1, .invokespecial 3, 3), (4, .aload_n 0, 1), (5, .bipush 6, 2), (7, .newarray .int, 2), (9, .putfield 9, 3), (12, .aload_n 0, 1), (13, .bipush 6, 2), (15, .newarray .int, 2), (17, .putfield 15, 3), (20, .aload_n 0, 1), (21, .iconst 4, 1), (22, .newarray .int, 2), (24, .putfield 18, 3), (27, .return_, 1)])
theorem okX5_init : mtOK mtX5_init 0 := ⟨mg_in (tb1 (i := 196) rfl) rfl, mg_in (tb1 (i := 6) rfl) rfl, by decide, ⟨by decide, by decide, by decide⟩, by decide +kernel, by decide⟩
def mtX5_clear : mT := (⟨"MondayDeal$State", "clear", "()V"⟩, prog_7_method_2_code, 1, none, [(0, .aload_n 0, 1), (1, .getfield 9, 3), (4, .iconst (-1), 1), (5, .invokestatic 21, 3), (8, .aload_n 0, 1), (9, .getfield 15, 3), (12, .iconst 0, 1), (13, .invokestatic 21, 3), (16, .aload_n 0, 1), (17, .iconst 0, 1), (18, .putfield 27, 3), (21, .aload_n 0, 1), (22, .iconst 0, 1), (23, .putfield 31, 3), (26, .aload_n 0, 1), (27, .getfield 18, 3), (30, .iconst 0, 1), (31, .invokestatic 21, 3), (34, .return_, 1)])
theorem okX5_clear : mtOK mtX5_clear 0 := ⟨mg_in (tb2 (i := 58) rfl) rfl, mg_in (tb1 (i := 6) rfl) rfl, by decide, ⟨by decide, by decide, by decide⟩, by decide +kernel, by decide⟩
theorem vkX5_clear : mVok mtX5_clear 0 5 := ⟨okX5_clear, mg_in (tb2 (i := 56) rfl) rfl, mg_in (tb2 (i := 57) rfl) rfl, TX5, 5, rfl⟩
def mtX5_copy : mT := (⟨"MondayDeal$State", "copy", "(LMondayDeal$State;)V"⟩, prog_7_method_3_code, 2, none, [(0, .aload_n 1, 1), (1, .getfield 9, 3), (4, .iconst 0, 1), (5, .aload_n 0, 1), (6, .getfield 9, 3), (9, .iconst 0, 1), (10, .bipush 6, 2), (12, .invokestatic 34, 3), (15, .aload_n 1, 1), (16, .getfield 15, 3), (19, .iconst 0, 1), (20, .aload_n 0, 1), (21, .getfield 15, 3), (24, .iconst 0, 1), (25, .bipush 6, 2), (27, .invokestatic 34, 3), (30, .aload_n 0, 1), (31, .aload_n 1, 1), (32, .getfield 27, 3), (35, .putfield 27, 3), (38, .aload_n 0, 1), (39, .aload_n 1, 1), (40, .getfield 31, 3), (43, .putfield 31, 3), (46, .aload_n 1, 1), (47, .getfield 18, 3), (50, .iconst 0, 1), (51, .aload_n 0, 1), (52, .getfield 18, 3), (55, .iconst 0, 1), (56, .iconst 4, 1), (57, .invokestatic 34, 3), (60, .return_, 1)])
theorem okX5_copy : mtOK mtX5_copy 1 := ⟨mg_in (tb3 (i := 102) rfl) rfl, mg_in (tb1 (i := 6) rfl) rfl, by decide, ⟨by decide, by decide, by decide⟩, by decide +kernel, by decide⟩
theorem vkX5_copy : mVok mtX5_copy 1 5 := ⟨okX5_copy, mg_in (tb3 (i := 100) rfl) rfl, mg_in (tb3 (i := 101) rfl) rfl, TX5, 5, rfl⟩
def mtX5_there : mT := (⟨"MondayDeal$State", "there", "()I"⟩, prog_7_method_4_code, 3, some .int, [(0, .iconst 0, 1), (1, .istore_n 1, 1), (2, .iconst 0, 1), (3, .istore_n 2, 1), (4, .iload_n 2, 1), (5, .bipush 6, 2), (7, .if_icmp .ge 25, 3), (10, .aload_n 0, 1), (11, .getfield 9, 3), (14, .iload_n 2, 1), (15, .iaload, 1), (16, .iconst (-1), 1), (17, .if_icmp .eq 9, 3), (20, .iload_n 1, 1), (21, .iconst 1, 1), (22, .iload_n 2, 1), (23, .ishl, 1), (24, .ior, 1), (25, .istore_n 1, 1), (26, .iinc 2 1, 3), (29, .goto (-25), 3), (32, .iload_n 1, 1), (33, .ireturn, 1)])
theorem okX5_there : mtOK mtX5_there 0 := ⟨mg_in (tb3 (i := 160) rfl) rfl, mg_in (tb1 (i := 6) rfl) rfl, by decide, ⟨by decide, by decide, by decide⟩, by decide +kernel, by decide⟩
theorem vkX5_there : mVok mtX5_there 0 5 := ⟨okX5_there, mg_in (tb3 (i := 158) rfl) rfl, mg_in (tb3 (i := 159) rfl) rfl, TX5, 5, rfl⟩
def mtX5_addWeek : mT := (⟨"MondayDeal$State", "addWeek", "(I)V"⟩, prog_7_method_5_code, 3, none, [(0, .iconst 3, 1), (1, .istore_n 2, 1), (2, .iload_n 2, 1), (3, .ifCond .le 23, 3), (6, .aload_n 0, 1), (7, .getfield 18, 3), (10, .iload_n 2, 1), (11, .aload_n 0, 1), (12, .getfield 18, 3), (15, .iload_n 2, 1), (16, .iconst 1, 1), (17, .isub, 1), (18, .iaload, 1), (19, .iastore, 1), (20, .iinc 2 (-1), 3), (23, .goto (-21), 3), (26, .aload_n 0, 1), (27, .getfield 18, 3), (30, .iconst 0, 1), (31, .iload_n 1, 1), (32, .iastore, 1), (33, .aload_n 0, 1), (34, .dup, 1), (35, .getfield 31, 3), (38, .iconst 1, 1), (39, .iadd, 1), (40, .putfield 31, 3), (43, .return_, 1)])
theorem okX5_addWeek : mtOK mtX5_addWeek 1 := ⟨mg_in (tb3 (i := 152) rfl) rfl, mg_in (tb1 (i := 6) rfl) rfl, by decide, ⟨by decide, by decide, by decide⟩, by decide +kernel, by decide⟩
theorem vkX5_addWeek : mVok mtX5_addWeek 1 5 := ⟨okX5_addWeek, mg_in (tb3 (i := 150) rfl) rfl, mg_in (tb3 (i := 151) rfl) rfl, TX5, 5, rfl⟩
def mtX5_timesFirst : mT := (⟨"MondayDeal$State", "timesFirst", "(I)I"⟩, prog_7_method_6_code, 4, some .int, [(0, .iconst 0, 1), (1, .istore_n 2, 1), (2, .iconst 0, 1), (3, .istore_n 3, 1), (4, .iload_n 3, 1), (5, .iconst 4, 1), (6, .if_icmp .ge 34, 3), (9, .iload_n 3, 1), (10, .aload_n 0, 1), (11, .getfield 31, 3), (14, .if_icmp .ge 26, 3), (17, .aload_n 0, 1), (18, .getfield 18, 3), (21, .iload_n 3, 1), (22, .iaload, 1), (23, .iconst 0, 1), (24, .invokestatic 40, 3), (27, .iload_n 1, 1), (28, .if_icmp .ne 6, 3), (31, .iinc 2 1, 3), (34, .iinc 3 1, 3), (37, .goto (-33), 3), (40, .iload_n 2, 1), (41, .ireturn, 1)])
theorem okX5_timesFirst : mtOK mtX5_timesFirst 1 := ⟨mg_in (tb4 (i := 141) rfl) rfl, mg_in (tb1 (i := 6) rfl) rfl, by decide, ⟨by decide, by decide, by decide⟩, by decide +kernel, by decide⟩
theorem vkX5_timesFirst : mVok mtX5_timesFirst 1 5 := ⟨okX5_timesFirst, mg_in (tb4 (i := 139) rfl) rfl, mg_in (tb4 (i := 140) rfl) rfl, TX5, 5, rfl⟩
def mtX6_init : mT := (⟨"MondayDeal$Text", "<init>", "()V"⟩, prog_8_method_1_code, 1, none, [(0, .aload_n 0, 1), (1, .invokespecial 3, 3), (4, .aload_n 0, 1), (5, .sipush 160, 3), (8, .newarray .char, 2), (10, .putfield 9, 3), (13, .return_, 1)])
theorem okX6_init : mtOK mtX6_init 0 := ⟨mg_in (tb1 (i := 31) rfl) rfl, mg_in (tb1 (i := 2) rfl) rfl, by decide, ⟨by decide, by decide, by decide⟩, by decide +kernel, by decide⟩
def mtX6_readInto : mT := (⟨"MondayDeal$Text", "readInto", "(LMondayDeal$Told;)I"⟩, prog_8_method_2_code, 2, some .int, [(0, .aload_n 0, 1), (1, .iconst 0, 1), (2, .putfield 15, 3), (5, .aload_n 0, 1), (6, .iconst 0, 1), (7, .putfield 19, 3), (10, .aload_n 0, 1), (11, .iconst 0, 1), (12, .putfield 22, 3), (15, .aload_n 0, 1), (16, .getfield 22, 3), (19, .bipush 14, 2), (21, .if_icmp .ge 66, 3), (24, .aload_n 0, 1), (25, .invokevirtual 25, 3), (28, .aload_n 0, 1), (29, .aload_n 1, 1), (30, .invokevirtual 28, 3), (33, .ifCond .ne 8, 3), (36, .aload_n 0, 1), (37, .getfield 15, 3), (40, .ireturn, 1), (41, .aload_n 0, 1), (42, .dup, 1), (43, .getfield 22, 3), (46, .iconst 1, 1), (47, .iadd, 1), (48, .putfield 22, 3), (51, .aload_n 0, 1), (52, .invokevirtual 25, 3), (55, .aload_n 0, 1), (56, .getfield 15, 3), (59, .aload_n 0, 1), (60, .getfield 32, 3), (63, .if_icmp .lt 5, 3), (66, .iconst (-1), 1), (67, .ireturn, 1), (68, .aload_n 0, 1), (69, .getfield 9, 3), (72, .aload_n 0, 1), (73, .getfield 15, 3), (76, .caload, 1), (77, .bipush 59, 2), (79, .if_icmp .eq (-64), 3), (82, .aload_n 0, 1), (83, .getfield 15, 3), (86, .ireturn, 1), (87, .aload_n 0, 1), (88, .getfield 15, 3), (91, .ireturn, 1)])
theorem okX6_readInto : mtOK mtX6_readInto 1 := ⟨mg_in (tb2 (i := 122) rfl) rfl, mg_in (tb1 (i := 2) rfl) rfl, by decide, ⟨by decide, by decide, by decide⟩, by decide +kernel, by decide⟩
theorem vkX6_readInto : mVok mtX6_readInto 1 6 := ⟨okX6_readInto, mg_in (tb2 (i := 120) rfl) rfl, mg_in (tb2 (i := 121) rfl) rfl, TX6, 5, rfl⟩
def mtX6_nextToken : mT := (⟨"MondayDeal$Text", "nextToken", "()V"⟩, prog_8_method_3_code, 2, none, [(0, .aload_n 0, 1), (1, .aload_n 0, 1), (2, .getfield 19, 3), (5, .putfield 15, 3), (8, .aload_n 0, 1), (9, .getfield 15, 3), (12, .aload_n 0, 1), (13, .getfield 32, 3), (16, .if_icmp .ge 30, 3), (19, .aload_n 0, 1), (20, .getfield 9, 3), (23, .aload_n 0, 1), (24, .getfield 15, 3), (27, .caload, 1), (28, .bipush 32, 2), (30, .if_icmp .ne 16, 3), (33, .aload_n 0, 1), (34, .dup, 1), (35, .getfield 15, 3), (38, .iconst 1, 1), (39, .iadd, 1), (40, .putfield 15, 3), (43, .goto (-35), 3), (46, .aload_n 0, 1), (47, .aload_n 0, 1), (48, .getfield 15, 3), (51, .putfield 19, 3), (54, .aload_n 0, 1), (55, .getfield 15, 3), (58, .aload_n 0, 1), (59, .getfield 32, 3), (62, .if_icmp .lt 4, 3), (65, .return_, 1), (66, .aload_n 0, 1), (67, .getfield 9, 3), (70, .aload_n 0, 1), (71, .getfield 15, 3), (74, .caload, 1), (75, .invokestatic 35, 3), (78, .istore_n 1, 1), (79, .aload_n 0, 1), (80, .dup, 1), (81, .getfield 19, 3), (84, .iconst 1, 1), (85, .iadd, 1), (86, .putfield 19, 3), (89, .iload_n 1, 1), (90, .ifCond .eq 43, 3), (93, .aload_n 0, 1), (94, .getfield 19, 3), (97, .aload_n 0, 1), (98, .getfield 32, 3), (101, .if_icmp .ge 32, 3), (104, .aload_n 0, 1), (105, .getfield 9, 3), (108, .aload_n 0, 1), (109, .getfield 19, 3), (112, .caload, 1), (113, .invokestatic 35, 3), (116, .iload_n 1, 1), (117, .if_icmp .ne 16, 3), (120, .aload_n 0, 1), (121, .dup, 1), (122, .getfield 19, 3), (125, .iconst 1, 1), (126, .iadd, 1), (127, .putfield 19, 3), (130, .goto (-41), 3), (133, .return_, 1)])
theorem okX6_nextToken : mtOK mtX6_nextToken 0 := ⟨mg_in (tb2 (i := 126) rfl) rfl, mg_in (tb1 (i := 2) rfl) rfl, by decide, ⟨by decide, by decide, by decide⟩, by decide +kernel, by decide⟩
theorem vkX6_nextToken : mVok mtX6_nextToken 0 6 := ⟨okX6_nextToken, mg_in (tb2 (i := 125) rfl) rfl, mg_sel (List.mem_of_getElem? (i := 1) rfl) rfl, TX6, 5, rfl⟩
def mtX6_sortOf : mT := (⟨"MondayDeal$Text", "sortOf", "(C)I"⟩, prog_8_method_4_code, 1, some .int, [(0, .iload_n 0, 1), (1, .bipush 97, 2), (3, .if_icmp .lt 11, 3), (6, .iload_n 0, 1), (7, .bipush 122, 2), (9, .if_icmp .gt 5, 3), (12, .iconst 1, 1), (13, .ireturn, 1), (14, .iload_n 0, 1), (15, .bipush 48, 2), (17, .if_icmp .lt 13, 3), (20, .iload_n 0, 1), (21, .bipush 57, 2), (23, .if_icmp .gt 7, 3), (26, .iconst 2, 1), (27, .goto 4, 3), (30, .iconst 0, 1), (31, .ireturn, 1)])
theorem okX6_sortOf : mtOK mtX6_sortOf 1 := ⟨mg_in (tb2 (i := 129) rfl) rfl, mg_in (tb1 (i := 2) rfl) rfl, by decide, ⟨by decide, by decide, by decide⟩, by decide +kernel, by decide⟩
theorem skX6_sortOf : mSok mtX6_sortOf 1 := ⟨okX6_sortOf, mg_in (tb2 (i := 128) rfl) rfl⟩
def mtX6_readClause : mT := (⟨"MondayDeal$Text", "readClause", "(LMondayDeal$Told;)Z"⟩, prog_8_method_5_code, 4, some .boolean, [(0, .aload_n 0, 1), (1, .ldc 39, 2), (3, .invokevirtual 41, 3), (6, .ifCond .eq 9, 3), (9, .aload_n 1, 1), (10, .invokevirtual 45, 3), (13, .iconst 1, 1), (14, .ireturn, 1), (15, .aload_n 0, 1), (16, .ldc 50, 2), (18, .invokevirtual 41, 3), (21, .ifCond .eq 10, 3), (24, .aload_n 1, 1), (25, .iconst 0, 1), (26, .putfield 52, 3), (29, .iconst 1, 1), (30, .ireturn, 1), (31, .aload_n 0, 1), (32, .ldc 55, 2), (34, .invokevirtual 41, 3), (37, .ifCond .eq 10, 3), (40, .aload_n 1, 1), (41, .iconst 0, 1), (42, .putfield 57, 3), (45, .iconst 1, 1), (46, .ireturn, 1), (47, .aload_n 0, 1), (48, .ldc 60, 2), (50, .invokevirtual 41, 3), (53, .ifCond .eq 10, 3), (56, .aload_n 0, 1), (57, .aload_n 1, 1), (58, .iconst 0, 1), (59, .invokevirtual 62, 3), (62, .ireturn, 1), (63, .aload_n 0, 1), (64, .ldc 66, 2), (66, .invokevirtual 41, 3), (69, .ifCond .eq 10, 3), (72, .aload_n 0, 1), (73, .aload_n 1, 1), (74, .iconst 1, 1), (75, .invokevirtual 62, 3), (78, .ireturn, 1), (79, .aload_n 0, 1), (80, .ldc 68, 2), (82, .invokevirtual 41, 3), (85, .ifCond .eq 9, 3), (88, .aload_n 0, 1), (89, .aload_n 1, 1), (90, .invokevirtual 70, 3), (93, .ireturn, 1), (94, .aload_n 0, 1), (95, .invokevirtual 73, 3), (98, .istore_n 2, 1), (99, .iload_n 2, 1), (100, .iconst (-1), 1), (101, .if_icmp .eq 10, 3), (104, .aload_n 0, 1), (105, .aload_n 1, 1), (106, .iload_n 2, 1), (107, .invokevirtual 77, 3), (110, .ireturn, 1), (111, .aload_n 0, 1), (112, .invokevirtual 80, 3), (115, .istore_n 3, 1), (116, .iload_n 3, 1), (117, .iconst (-1), 1), (118, .if_icmp .eq 16, 3), (121, .aload_n 0, 1), (122, .aload_n 1, 1), (123, .iload_n 3, 1), (124, .invokevirtual 83, 3), (127, .ifCond .eq 7, 3), (130, .iconst 1, 1), (131, .goto 4, 3), (134, .iconst 0, 1), (135, .ireturn, 1)])
theorem okX6_readClause : mtOK mtX6_readClause 1 := ⟨mg_in (tb2 (i := 133) rfl) rfl, mg_in (tb1 (i := 2) rfl) rfl, by decide, ⟨by decide, by decide, by decide⟩, by decide +kernel, by decide⟩
theorem vkX6_readClause : mVok mtX6_readClause 1 6 := ⟨okX6_readClause, mg_in (tb2 (i := 132) rfl) rfl, mg_sel (List.mem_of_getElem? (i := 2) rfl) rfl, TX6, 5, rfl⟩
def mtX6_kindRead : mT := (⟨"MondayDeal$Text", "kindRead", "()I"⟩, prog_8_method_6_code, 1, some .int, [(0, .aload_n 0, 1), (1, .ldc 86, 2), (3, .invokevirtual 41, 3), (6, .ifCond .eq 5, 3), (9, .iconst 0, 1), (10, .ireturn, 1), (11, .aload_n 0, 1), (12, .ldc 88, 2), (14, .invokevirtual 41, 3), (17, .ifCond .eq 5, 3), (20, .iconst 1, 1), (21, .ireturn, 1), (22, .aload_n 0, 1), (23, .ldc 90, 2), (25, .invokevirtual 41, 3), (28, .ifCond .eq 5, 3), (31, .iconst 2, 1), (32, .ireturn, 1), (33, .aload_n 0, 1), (34, .ldc 92, 2), (36, .invokevirtual 41, 3), (39, .ifCond .eq 7, 3), (42, .iconst 3, 1), (43, .goto 4, 3), (46, .iconst (-1), 1), (47, .ireturn, 1)])
theorem okX6_kindRead : mtOK mtX6_kindRead 0 := ⟨mg_in (tb2 (i := 212) rfl) rfl, mg_in (tb1 (i := 2) rfl) rfl, by decide, ⟨by decide, by decide, by decide⟩, by decide +kernel, by decide⟩
theorem vkX6_kindRead : mVok mtX6_kindRead 0 6 := ⟨okX6_kindRead, mg_in (tb2 (i := 211) rfl) rfl, mg_sel (List.mem_of_getElem? (i := 7) rfl) rfl, TX6, 5, rfl⟩
def mtX6_ruleRead : mT := (⟨"MondayDeal$Text", "ruleRead", "()I"⟩, prog_8_method_7_code, 1, some .int, [(0, .aload_n 0, 1), (1, .ldc 94, 2), (3, .invokevirtual 41, 3), (6, .ifCond .eq 5, 3), (9, .iconst 0, 1), (10, .ireturn, 1), (11, .aload_n 0, 1), (12, .ldc 96, 2), (14, .invokevirtual 41, 3), (17, .ifCond .eq 5, 3), (20, .iconst 1, 1), (21, .ireturn, 1), (22, .aload_n 0, 1), (23, .ldc 98, 2), (25, .invokevirtual 41, 3), (28, .ifCond .eq 7, 3), (31, .iconst 2, 1), (32, .goto 4, 3), (35, .iconst (-1), 1), (36, .ireturn, 1)])
theorem okX6_ruleRead : mtOK mtX6_ruleRead 0 := ⟨mg_in (tb2 (i := 224) rfl) rfl, mg_in (tb1 (i := 2) rfl) rfl, by decide, ⟨by decide, by decide, by decide⟩, by decide +kernel, by decide⟩
theorem vkX6_ruleRead : mVok mtX6_ruleRead 0 6 := ⟨okX6_ruleRead, mg_in (tb2 (i := 223) rfl) rfl, mg_sel (List.mem_of_getElem? (i := 9) rfl) rfl, TX6, 5, rfl⟩
def mtX6_readKind : mT := (⟨"MondayDeal$Text", "readKind", "(LMondayDeal$Told;I)Z"⟩, prog_8_method_8_code, 4, some .boolean, [(0, .aload_n 0, 1), (1, .bipush 6, 2), (3, .invokevirtual 100, 3), (6, .istore_n 3, 1), (7, .iload_n 3, 1), (8, .iconst (-1), 1), (9, .if_icmp .ne 5, 3), (12, .iconst 0, 1), (13, .ireturn, 1), (14, .aload_n 1, 1), (15, .getfield 104, 3), (18, .iload_n 3, 1), (19, .iload_n 2, 1), (20, .iastore, 1), (21, .iconst 1, 1), (22, .ireturn, 1)])
theorem okX6_readKind : mtOK mtX6_readKind 2 := ⟨mg_in (tb2 (i := 220) rfl) rfl, mg_in (tb1 (i := 2) rfl) rfl, by decide, ⟨by decide, by decide, by decide⟩, by decide +kernel, by decide⟩
theorem vkX6_readKind : mVok mtX6_readKind 2 6 := ⟨okX6_readKind, mg_in (tb2 (i := 219) rfl) rfl, mg_sel (List.mem_of_getElem? (i := 8) rfl) rfl, TX6, 5, rfl⟩
def mtX6_readWork : mT := (⟨"MondayDeal$Text", "readWork", "(LMondayDeal$Told;I)Z"⟩, prog_8_method_9_code, 6, some .boolean, [(0, .aload_n 1, 1), (1, .getfield 57, 3), (4, .bipush 6, 2), (6, .if_icmp .lt 5, 3), (9, .iconst 0, 1), (10, .ireturn, 1), (11, .aload_n 0, 1), (12, .bipush 6, 2), (14, .invokevirtual 100, 3), (17, .istore_n 3, 1), (18, .iload_n 3, 1), (19, .iconst (-1), 1), (20, .if_icmp .ne 5, 3), (23, .iconst 0, 1), (24, .ireturn, 1), (25, .aload_n 0, 1), (26, .bipush 99, 2), (28, .invokevirtual 100, 3), (31, .istore 4, 2), (33, .iload 4, 2), (35, .iconst (-1), 1), (36, .if_icmp .ne 5, 3), (39, .iconst 0, 1), (40, .ireturn, 1), (41, .aload_n 0, 1), (42, .bipush 20, 2), (44, .invokevirtual 100, 3), (47, .istore 5, 2), (49, .iload 5, 2), (51, .iconst (-1), 1), (52, .if_icmp .ne 5, 3), (55, .iconst 0, 1), (56, .ireturn, 1), (57, .aload_n 1, 1), (58, .iload_n 3, 1), (59, .iload 4, 2), (61, .iload 5, 2), (63, .iload_n 2, 1), (64, .invokevirtual 108, 3), (67, .iconst 1, 1), (68, .ireturn, 1)])
theorem okX6_readWork : mtOK mtX6_readWork 2 := ⟨mg_in (tb2 (i := 194) rfl) rfl, mg_in (tb1 (i := 2) rfl) rfl, by decide, ⟨by decide, by decide, by decide⟩, by decide +kernel, by decide⟩
theorem vkX6_readWork : mVok mtX6_readWork 2 6 := ⟨okX6_readWork, mg_in (tb2 (i := 193) rfl) rfl, mg_sel (List.mem_of_getElem? (i := 4) rfl) rfl, TX6, 5, rfl⟩
def mtX6_readBehind : mT := (⟨"MondayDeal$Text", "readBehind", "(LMondayDeal$Told;)Z"⟩, prog_8_method_10_code, 4, some .boolean, [(0, .aload_n 0, 1), (1, .aload_n 1, 1), (2, .getfield 57, 3), (5, .iconst 1, 1), (6, .isub, 1), (7, .invokevirtual 100, 3), (10, .istore_n 2, 1), (11, .iload_n 2, 1), (12, .iconst (-1), 1), (13, .if_icmp .ne 5, 3), (16, .iconst 0, 1), (17, .ireturn, 1), (18, .aload_n 0, 1), (19, .aload_n 1, 1), (20, .getfield 57, 3), (23, .iconst 1, 1), (24, .isub, 1), (25, .invokevirtual 100, 3), (28, .istore_n 3, 1), (29, .iload_n 3, 1), (30, .iconst (-1), 1), (31, .if_icmp .eq 8, 3), (34, .iload_n 3, 1), (35, .iload_n 2, 1), (36, .if_icmp .ne 5, 3), (39, .iconst 0, 1), (40, .ireturn, 1), (41, .aload_n 1, 1), (42, .getfield 112, 3), (45, .iload_n 2, 1), (46, .iload_n 3, 1), (47, .iastore, 1), (48, .iconst 1, 1), (49, .ireturn, 1)])
theorem okX6_readBehind : mtOK mtX6_readBehind 1 := ⟨mg_in (tb2 (i := 208) rfl) rfl, mg_in (tb1 (i := 2) rfl) rfl, by decide, ⟨by decide, by decide, by decide⟩, by decide +kernel, by decide⟩
theorem vkX6_readBehind : mVok mtX6_readBehind 1 6 := ⟨okX6_readBehind, mg_in (tb2 (i := 207) rfl) rfl, mg_sel (List.mem_of_getElem? (i := 6) rfl) rfl, TX6, 5, rfl⟩
def mtX6_readRule : mT := (⟨"MondayDeal$Text", "readRule", "(LMondayDeal$Told;I)Z"⟩, prog_8_method_11_code, 5, some .boolean, [(0, .aload_n 1, 1), (1, .getfield 52, 3), (4, .bipush 6, 2), (6, .if_icmp .lt 5, 3), (9, .iconst 0, 1), (10, .ireturn, 1), (11, .aload_n 0, 1), (12, .bipush 6, 2), (14, .invokevirtual 100, 3), (17, .istore_n 3, 1), (18, .iload_n 3, 1), (19, .iconst (-1), 1), (20, .if_icmp .ne 5, 3), (23, .iconst 0, 1), (24, .ireturn, 1), (25, .iconst (-1), 1), (26, .istore 4, 2), (28, .iload_n 2, 1), (29, .ifCond .eq 25, 3), (32, .aload_n 0, 1), (33, .bipush 6, 2), (35, .invokevirtual 100, 3), (38, .istore 4, 2), (40, .iload 4, 2), (42, .iconst (-1), 1), (43, .if_icmp .eq 9, 3), (46, .iload 4, 2), (48, .iload_n 3, 1), (49, .if_icmp .ne 5, 3), (52, .iconst 0, 1), (53, .ireturn, 1), (54, .aload_n 1, 1), (55, .iload_n 2, 1), (56, .iload_n 3, 1), (57, .iload 4, 2), (59, .invokevirtual 114, 3), (62, .iconst 1, 1), (63, .ireturn, 1)])
theorem okX6_readRule : mtOK mtX6_readRule 2 := ⟨mg_in (tb2 (i := 231) rfl) rfl, mg_in (tb1 (i := 2) rfl) rfl, by decide, ⟨by decide, by decide, by decide⟩, by decide +kernel, by decide⟩
theorem vkX6_readRule : mVok mtX6_readRule 2 6 := ⟨okX6_readRule, mg_in (tb2 (i := 230) rfl) rfl, mg_sel (List.mem_of_getElem? (i := 10) rfl) rfl, TX6, 5, rfl⟩
def mtX6_reads : mT := (⟨"MondayDeal$Text", "reads", "(Ljava/lang/String;)Z"⟩, prog_8_method_12_code, 3, some .boolean, [(0, .aload_n 0, 1), (1, .getfield 19, 3), (4, .aload_n 0, 1), (5, .getfield 15, 3), (8, .isub, 1), (9, .aload_n 1, 1), (10, .invokevirtual 118, 3), (13, .if_icmp .eq 5, 3), (16, .iconst 0, 1), (17, .ireturn, 1), (18, .iconst 0, 1), (19, .istore_n 2, 1), (20, .iload_n 2, 1), (21, .aload_n 1, 1), (22, .invokevirtual 118, 3), (25, .if_icmp .ge 30, 3), (28, .aload_n 0, 1), (29, .getfield 9, 3), (32, .aload_n 0, 1), (33, .getfield 15, 3), (36, .iload_n 2, 1), (37, .iadd, 1), (38, .caload, 1), (39, .aload_n 1, 1), (40, .iload_n 2, 1), (41, .invokevirtual 122, 3), (44, .if_icmp .eq 5, 3), (47, .iconst 0, 1), (48, .ireturn, 1), (49, .iinc 2 1, 3), (52, .goto (-32), 3), (55, .iconst 1, 1), (56, .ireturn, 1)])
theorem okX6_reads : mtOK mtX6_reads 1 := ⟨mg_in (tb2 (i := 138) rfl) rfl, mg_in (tb1 (i := 2) rfl) rfl, by decide, ⟨by decide, by decide, by decide⟩, by decide +kernel, by decide⟩
theorem vkX6_reads : mVok mtX6_reads 1 6 := ⟨okX6_reads, mg_in (tb2 (i := 137) rfl) rfl, mg_sel (List.mem_of_getElem? (i := 3) rfl) rfl, TX6, 5, rfl⟩
def mtX6_nextNumber : mT := (⟨"MondayDeal$Text", "nextNumber", "(I)I"⟩, prog_8_method_13_code, 5, some .int, [(0, .aload_n 0, 1), (1, .invokevirtual 25, 3), (4, .aload_n 0, 1), (5, .getfield 19, 3), (8, .aload_n 0, 1), (9, .getfield 15, 3), (12, .isub, 1), (13, .istore_n 2, 1), (14, .iload_n 2, 1), (15, .iconst 1, 1), (16, .if_icmp .lt 24, 3), (19, .iload_n 2, 1), (20, .iconst 2, 1), (21, .if_icmp .gt 19, 3), (24, .aload_n 0, 1), (25, .getfield 9, 3), (28, .aload_n 0, 1), (29, .getfield 15, 3), (32, .caload, 1), (33, .invokestatic 35, 3), (36, .iconst 2, 1), (37, .if_icmp .eq 5, 3), (40, .iconst (-1), 1), (41, .ireturn, 1), (42, .iconst 0, 1), (43, .istore_n 3, 1), (44, .aload_n 0, 1), (45, .getfield 15, 3), (48, .istore 4, 2), (50, .iload 4, 2), (52, .aload_n 0, 1), (53, .getfield 19, 3), (56, .if_icmp .ge 25, 3), (59, .iload_n 3, 1), (60, .bipush 10, 2), (62, .imul, 1), (63, .aload_n 0, 1), (64, .getfield 9, 3), (67, .iload 4, 2), (69, .caload, 1), (70, .iadd, 1), (71, .bipush 48, 2), (73, .isub, 1), (74, .istore_n 3, 1), (75, .iinc 4 1, 3), (78, .goto (-28), 3), (81, .iload_n 3, 1), (82, .iload_n 1, 1), (83, .if_icmp .gt 7, 3), (86, .iload_n 3, 1), (87, .goto 4, 3), (90, .iconst (-1), 1), (91, .ireturn, 1)])
theorem okX6_nextNumber : mtOK mtX6_nextNumber 1 := ⟨mg_in (tb2 (i := 198) rfl) rfl, mg_in (tb1 (i := 2) rfl) rfl, by decide, ⟨by decide, by decide, by decide⟩, by decide +kernel, by decide⟩
theorem vkX6_nextNumber : mVok mtX6_nextNumber 1 6 := ⟨okX6_nextNumber, mg_in (tb2 (i := 197) rfl) rfl, mg_sel (List.mem_of_getElem? (i := 5) rfl) rfl, TX6, 5, rfl⟩
def mtX7_init : mT := (⟨"MondayDeal$Told", "<init>", "()V"⟩, prog_9_method_1_code, 1, none, [(0, .aload_n 0, 1), (1, .invokespecial 3, 3), (4, .aload_n 0, 1), (5, .bipush 7, 2), (7, .newarray .int, 2), (9, .putfield 9, 3), (12, .aload_n 0, 1), (13, .bipush 6, 2), (15, .newarray .int, 2), (17, .putfield 15, 3), (20, .aload_n 0, 1), (21, .bipush 6, 2), (23, .newarray .int, 2), (25, .putfield 18, 3), (28, .aload_n 0, 1), (29, .bipush 6, 2), (31, .newarray .int, 2), (33, .putfield 21, 3), (36, .aload_n 0, 1), (37, .bipush 6, 2), (39, .newarray .int, 2), (41, .putfield 24, 3), (44, .aload_n 0, 1), (45, .bipush 6, 2), (47, .newarray .int, 2), (49, .putfield 27, 3), (52, .aload_n 0, 1), (53, .bipush 6, 2), (55, .newarray .int, 2), (57, .putfield 30, 3), (60, .aload_n 0, 1), (61, .bipush 6, 2), (63, .newarray .int, 2), (65, .putfield 33, 3), (68, .aload_n 0, 1), (69, .bipush 6, 2), (71, .newarray .int, 2), (73, .putfield 36, 3), (76, .return_, 1)])
theorem okX7_init : mtOK mtX7_init 0 := ⟨mg_in (tb1 (i := 57) rfl) rfl, mg_in (tb1 (i := 3) rfl) rfl, by decide, ⟨by decide, by decide, by decide⟩, by decide +kernel, by decide⟩
def mtX7_clear : mT := (⟨"MondayDeal$Told", "clear", "()V"⟩, prog_9_method_2_code, 1, none, [(0, .aload_n 0, 1), (1, .getfield 9, 3), (4, .iconst 0, 1), (5, .invokestatic 39, 3), (8, .aload_n 0, 1), (9, .iconst 0, 1), (10, .putfield 45, 3), (13, .aload_n 0, 1), (14, .iconst 0, 1), (15, .putfield 49, 3), (18, .return_, 1)])
theorem okX7_clear : mtOK mtX7_clear 0 := ⟨mg_in (tb2 (i := 47) rfl) rfl, mg_in (tb1 (i := 3) rfl) rfl, by decide, ⟨by decide, by decide, by decide⟩, by decide +kernel, by decide⟩
theorem vkX7_clear : mVok mtX7_clear 0 7 := ⟨okX7_clear, mg_in (tb2 (i := 45) rfl) rfl, mg_in (tb2 (i := 46) rfl) rfl, TX7, 11, rfl⟩
def mtX7_copy : mT := (⟨"MondayDeal$Told", "copy", "(LMondayDeal$Told;)V"⟩, prog_9_method_3_code, 2, none, [(0, .aload_n 1, 1), (1, .getfield 9, 3), (4, .iconst 0, 1), (5, .aload_n 0, 1), (6, .getfield 9, 3), (9, .iconst 0, 1), (10, .bipush 7, 2), (12, .invokestatic 52, 3), (15, .aload_n 0, 1), (16, .aload_n 1, 1), (17, .getfield 45, 3), (20, .putfield 45, 3), (23, .aload_n 1, 1), (24, .getfield 15, 3), (27, .iconst 0, 1), (28, .aload_n 0, 1), (29, .getfield 15, 3), (32, .iconst 0, 1), (33, .bipush 6, 2), (35, .invokestatic 52, 3), (38, .aload_n 1, 1), (39, .getfield 18, 3), (42, .iconst 0, 1), (43, .aload_n 0, 1), (44, .getfield 18, 3), (47, .iconst 0, 1), (48, .bipush 6, 2), (50, .invokestatic 52, 3), (53, .aload_n 1, 1), (54, .getfield 21, 3), (57, .iconst 0, 1), (58, .aload_n 0, 1), (59, .getfield 21, 3), (62, .iconst 0, 1), (63, .bipush 6, 2), (65, .invokestatic 52, 3), (68, .aload_n 1, 1), (69, .getfield 24, 3), (72, .iconst 0, 1), (73, .aload_n 0, 1), (74, .getfield 24, 3), (77, .iconst 0, 1), (78, .bipush 6, 2), (80, .invokestatic 52, 3), (83, .aload_n 1, 1), (84, .getfield 27, 3), (87, .iconst 0, 1), (88, .aload_n 0, 1), (89, .getfield 27, 3), (92, .iconst 0, 1), (93, .bipush 6, 2), (95, .invokestatic 52, 3), (98, .aload_n 0, 1), (99, .aload_n 1, 1), (100, .getfield 49, 3), (103, .putfield 49, 3), (106, .aload_n 1, 1), (107, .getfield 30, 3), (110, .iconst 0, 1), (111, .aload_n 0, 1), (112, .getfield 30, 3), (115, .iconst 0, 1), (116, .bipush 6, 2), (118, .invokestatic 52, 3), (121, .aload_n 1, 1), (122, .getfield 33, 3), (125, .iconst 0, 1), (126, .aload_n 0, 1), (127, .getfield 33, 3), (130, .iconst 0, 1), (131, .bipush 6, 2), (133, .invokestatic 52, 3), (136, .aload_n 1, 1), (137, .getfield 36, 3), (140, .iconst 0, 1), (141, .aload_n 0, 1), (142, .getfield 36, 3), (145, .iconst 0, 1), (146, .bipush 6, 2), (148, .invokestatic 52, 3), (151, .return_, 1)])
theorem okX7_copy : mtOK mtX7_copy 1 := ⟨mg_in (tb2 (i := 115) rfl) rfl, mg_in (tb1 (i := 3) rfl) rfl, by decide, ⟨by decide, by decide, by decide⟩, by decide +kernel, by decide⟩
theorem vkX7_copy : mVok mtX7_copy 1 7 := ⟨okX7_copy, mg_in (tb2 (i := 113) rfl) rfl, mg_in (tb2 (i := 114) rfl) rfl, TX7, 11, rfl⟩
def mtX7_addWork : mT := (⟨"MondayDeal$Told", "addWork", "(IIII)V"⟩, prog_9_method_4_code, 5, none, [(0, .aload_n 0, 1), (1, .getfield 45, 3), (4, .bipush 6, 2), (6, .if_icmp .lt 4, 3), (9, .return_, 1), (10, .aload_n 0, 1), (11, .getfield 15, 3), (14, .aload_n 0, 1), (15, .getfield 45, 3), (18, .iload_n 1, 1), (19, .iastore, 1), (20, .aload_n 0, 1), (21, .getfield 18, 3), (24, .aload_n 0, 1), (25, .getfield 45, 3), (28, .iload_n 2, 1), (29, .iastore, 1), (30, .aload_n 0, 1), (31, .getfield 21, 3), (34, .aload_n 0, 1), (35, .getfield 45, 3), (38, .iload_n 3, 1), (39, .iastore, 1), (40, .aload_n 0, 1), (41, .getfield 24, 3), (44, .aload_n 0, 1), (45, .getfield 45, 3), (48, .iload 4, 2), (50, .iastore, 1), (51, .aload_n 0, 1), (52, .getfield 27, 3), (55, .aload_n 0, 1), (56, .getfield 45, 3), (59, .iconst (-1), 1), (60, .iastore, 1), (61, .aload_n 0, 1), (62, .dup, 1), (63, .getfield 45, 3), (66, .iconst 1, 1), (67, .iadd, 1), (68, .putfield 45, 3), (71, .return_, 1)])
theorem okX7_addWork : mtOK mtX7_addWork 4 := ⟨mg_in (tb2 (i := 202) rfl) rfl, mg_in (tb1 (i := 3) rfl) rfl, by decide, ⟨by decide, by decide, by decide⟩, by decide +kernel, by decide⟩
theorem vkX7_addWork : mVok mtX7_addWork 4 7 := ⟨okX7_addWork, mg_in (tb2 (i := 200) rfl) rfl, mg_in (tb2 (i := 201) rfl) rfl, TX7, 11, rfl⟩
def mtX7_addRule : mT := (⟨"MondayDeal$Told", "addRule", "(III)V"⟩, prog_9_method_5_code, 4, none, [(0, .aload_n 0, 1), (1, .getfield 49, 3), (4, .bipush 6, 2), (6, .if_icmp .lt 4, 3), (9, .return_, 1), (10, .aload_n 0, 1), (11, .getfield 30, 3), (14, .aload_n 0, 1), (15, .getfield 49, 3), (18, .iload_n 1, 1), (19, .iastore, 1), (20, .aload_n 0, 1), (21, .getfield 33, 3), (24, .aload_n 0, 1), (25, .getfield 49, 3), (28, .iload_n 2, 1), (29, .iastore, 1), (30, .aload_n 0, 1), (31, .getfield 36, 3), (34, .aload_n 0, 1), (35, .getfield 49, 3), (38, .iload_n 3, 1), (39, .iastore, 1), (40, .aload_n 0, 1), (41, .dup, 1), (42, .getfield 49, 3), (45, .iconst 1, 1), (46, .iadd, 1), (47, .putfield 49, 3), (50, .return_, 1)])
theorem okX7_addRule : mtOK mtX7_addRule 3 := ⟨mg_in (tb2 (i := 235) rfl) rfl, mg_in (tb1 (i := 3) rfl) rfl, by decide, ⟨by decide, by decide, by decide⟩, by decide +kernel, by decide⟩
theorem vkX7_addRule : mVok mtX7_addRule 3 7 := ⟨okX7_addRule, mg_in (tb2 (i := 233) rfl) rfl, mg_in (tb2 (i := 234) rfl) rfl, TX7, 11, rfl⟩
def mtX7_worksOn : mT := (⟨"MondayDeal$Told", "worksOn", "(I)I"⟩, prog_9_method_6_code, 4, some .int, [(0, .iconst 0, 1), (1, .istore_n 2, 1), (2, .iconst 0, 1), (3, .istore_n 3, 1), (4, .iload_n 3, 1), (5, .aload_n 0, 1), (6, .getfield 45, 3), (9, .if_icmp .ge 25, 3), (12, .aload_n 0, 1), (13, .getfield 15, 3), (16, .iload_n 3, 1), (17, .iaload, 1), (18, .iload_n 1, 1), (19, .if_icmp .ne 9, 3), (22, .iload_n 2, 1), (23, .iconst 1, 1), (24, .iload_n 3, 1), (25, .ishl, 1), (26, .ior, 1), (27, .istore_n 2, 1), (28, .iinc 3 1, 3), (31, .goto (-27), 3), (34, .iload_n 2, 1), (35, .ireturn, 1)])
theorem okX7_worksOn : mtOK mtX7_worksOn 1 := ⟨mg_in (tb3 (i := 11) rfl) rfl, mg_in (tb1 (i := 3) rfl) rfl, by decide, ⟨by decide, by decide, by decide⟩, by decide +kernel, by decide⟩
theorem vkX7_worksOn : mVok mtX7_worksOn 1 7 := ⟨okX7_worksOn, mg_in (tb3 (i := 9) rfl) rfl, mg_in (tb3 (i := 10) rfl) rfl, TX7, 11, rfl⟩
def mtX7_isA : mT := (⟨"MondayDeal$Told", "isA", "(II)Z"⟩, prog_9_method_7_code, 4, some .boolean, [(0, .aload_n 0, 1), (1, .getfield 9, 3), (4, .iload_n 1, 1), (5, .iaload, 1), (6, .istore_n 3, 1), (7, .iload_n 2, 1), (8, .ifCond .eq 20, 3), (11, .iload_n 2, 1), (12, .iload_n 3, 1), (13, .iconst 1, 1), (14, .iadd, 1), (15, .if_icmp .eq 13, 3), (18, .iload_n 2, 1), (19, .iconst 1, 1), (20, .if_icmp .ne 12, 3), (23, .iload_n 3, 1), (24, .iconst 3, 1), (25, .if_icmp .eq 7, 3), (28, .iconst 1, 1), (29, .goto 4, 3), (32, .iconst 0, 1), (33, .ireturn, 1)])
theorem okX7_isA : mtOK mtX7_isA 2 := ⟨mg_in (tb3 (i := 52) rfl) rfl, mg_in (tb1 (i := 3) rfl) rfl, by decide, ⟨by decide, by decide, by decide⟩, by decide +kernel, by decide⟩
theorem vkX7_isA : mVok mtX7_isA 2 7 := ⟨okX7_isA, mg_in (tb3 (i := 50) rfl) rfl, mg_in (tb3 (i := 51) rfl) rfl, TX7, 11, rfl⟩
def mtX7_earnedOn : mT := (⟨"MondayDeal$Told", "earnedOn", "(II)I"⟩, prog_9_method_8_code, 3, some .int, [(0, .aload_n 0, 1), (1, .getfield 9, 3), (4, .iload_n 1, 1), (5, .iaload, 1), (6, .lookupswitch 34 #[(1, 26), (2, 30)], 26), (32, .iload_n 2, 1), (33, .iconst 2, 1), (34, .imul, 1), (35, .ireturn, 1), (36, .iload_n 2, 1), (37, .iconst 2, 1), (38, .idiv, 1), (39, .ireturn, 1), (40, .iload_n 2, 1), (41, .ireturn, 1)])
theorem okX7_earnedOn : mtOK mtX7_earnedOn 2 := ⟨mg_in (tb3 (i := 56) rfl) rfl, mg_in (tb1 (i := 3) rfl) rfl, by decide, ⟨by decide, by decide, by decide⟩, by decide +kernel, by decide⟩
theorem vkX7_earnedOn : mVok mtX7_earnedOn 2 7 := ⟨okX7_earnedOn, mg_in (tb3 (i := 54) rfl) rfl, mg_in (tb3 (i := 55) rfl) rfl, TX7, 11, rfl⟩
def mtX7_isForbidden : mT := (⟨"MondayDeal$Told", "isForbidden", "(I)Z"⟩, prog_9_method_9_code, 2, some .boolean, [(0, .aload_n 0, 1), (1, .getfield 24, 3), (4, .iload_n 1, 1), (5, .iaload, 1), (6, .iconst 1, 1), (7, .if_icmp .ne 22, 3), (10, .aload_n 0, 1), (11, .getfield 9, 3), (14, .aload_n 0, 1), (15, .getfield 15, 3), (18, .iload_n 1, 1), (19, .iaload, 1), (20, .iaload, 1), (21, .iconst 3, 1), (22, .if_icmp .ne 7, 3), (25, .iconst 1, 1), (26, .goto 4, 3), (29, .iconst 0, 1), (30, .ireturn, 1)])
theorem okX7_isForbidden : mtOK mtX7_isForbidden 1 := ⟨mg_in (tb3 (i := 132) rfl) rfl, mg_in (tb1 (i := 3) rfl) rfl, by decide, ⟨by decide, by decide, by decide⟩, by decide +kernel, by decide⟩
theorem vkX7_isForbidden : mVok mtX7_isForbidden 1 7 := ⟨okX7_isForbidden, mg_in (tb3 (i := 130) rfl) rfl, mg_in (tb3 (i := 131) rfl) rfl, TX7, 11, rfl⟩
def mtX7_brokenBy : mT := (⟨"MondayDeal$Told", "brokenBy", "(III)I"⟩, prog_9_method_10_code, 6, some .int, [(0, .iconst 0, 1), (1, .istore 4, 2), (3, .iconst 0, 1), (4, .istore 5, 2), (6, .iload 5, 2), (8, .aload_n 0, 1), (9, .getfield 49, 3), (12, .if_icmp .ge 30, 3), (15, .aload_n 0, 1), (16, .iload 5, 2), (18, .iload_n 1, 1), (19, .iload_n 2, 1), (20, .iload_n 3, 1), (21, .invokevirtual 58, 3), (24, .ifCond .eq 12, 3), (27, .iload 4, 2), (29, .iconst 1, 1), (30, .iload 5, 2), (32, .ishl, 1), (33, .ior, 1), (34, .istore 4, 2), (36, .iinc 5 1, 3), (39, .goto (-33), 3), (42, .iload 4, 2), (44, .ireturn, 1)])
theorem okX7_brokenBy : mtOK mtX7_brokenBy 3 := ⟨mg_in (tb3 (i := 32) rfl) rfl, mg_in (tb1 (i := 3) rfl) rfl, by decide, ⟨by decide, by decide, by decide⟩, by decide +kernel, by decide⟩
theorem vkX7_brokenBy : mVok mtX7_brokenBy 3 7 := ⟨okX7_brokenBy, mg_in (tb3 (i := 30) rfl) rfl, mg_in (tb3 (i := 31) rfl) rfl, TX7, 11, rfl⟩
def mtX7_breaks : mT := (⟨"MondayDeal$Told", "breaks", "(IIII)Z"⟩, prog_9_method_11_code, 7, some .boolean, [(0, .aload_n 0, 1), (1, .getfield 33, 3), (4, .iload_n 1, 1), (5, .iaload, 1), (6, .istore 5, 2), (8, .aload_n 0, 1), (9, .getfield 36, 3), (12, .iload_n 1, 1), (13, .iaload, 1), (14, .istore 6, 2), (16, .aload_n 0, 1), (17, .getfield 30, 3), (20, .iload_n 1, 1), (21, .iaload, 1), (22, .lookupswitch 76 #[(0, 26), (1, 44)], 26), (48, .iload_n 3, 1), (49, .iconst (-1), 1), (50, .if_icmp .ne 14, 3), (53, .iload 4, 2), (55, .iload 5, 2), (57, .if_icmp .ne 7, 3), (60, .iconst 1, 1), (61, .goto 4, 3), (64, .iconst 0, 1), (65, .ireturn, 1), (66, .iload 4, 2), (68, .iload 5, 2), (70, .if_icmp .ne 9, 3), (73, .iload_n 3, 1), (74, .iload 6, 2), (76, .if_icmp .eq 16, 3), (79, .iload 4, 2), (81, .iload 6, 2), (83, .if_icmp .ne 13, 3), (86, .iload_n 3, 1), (87, .iload 5, 2), (89, .if_icmp .ne 7, 3), (92, .iconst 1, 1), (93, .goto 4, 3), (96, .iconst 0, 1), (97, .ireturn, 1), (98, .iload 4, 2), (100, .iload 6, 2), (102, .if_icmp .ne 16, 3), (105, .iload_n 2, 1), (106, .iload 5, 2), (108, .ishr, 1), (109, .iconst 1, 1), (110, .iand, 1), (111, .ifCond .ne 7, 3), (114, .iconst 1, 1), (115, .goto 4, 3), (118, .iconst 0, 1), (119, .ireturn, 1)])
theorem okX7_breaks : mtOK mtX7_breaks 4 := ⟨mg_in (tb3 (i := 36) rfl) rfl, mg_in (tb1 (i := 3) rfl) rfl, by decide, ⟨by decide, by decide, by decide⟩, by decide +kernel, by decide⟩
theorem vkX7_breaks : mVok mtX7_breaks 4 7 := ⟨okX7_breaks, mg_in (tb3 (i := 35) rfl) rfl, mg_sel (List.mem_of_getElem? (i := 14) rfl) rfl, TX7, 11, rfl⟩
def mtX7_leftOutFor : mT := (⟨"MondayDeal$Told", "leftOutFor", "(II)I"⟩, prog_9_method_12_code, 3, some .int, [(0, .aload_n 0, 1), (1, .iconst 0, 1), (2, .iconst 0, 1), (3, .iconst (-1), 1), (4, .iconst 0, 1), (5, .iload_n 1, 1), (6, .iload_n 2, 1), (7, .invokevirtual 62, 3), (10, .ireturn, 1)])
theorem okX7_leftOutFor : mtOK mtX7_leftOutFor 2 := ⟨mg_in (tb4 (i := 156) rfl) rfl, mg_in (tb1 (i := 3) rfl) rfl, by decide, ⟨by decide, by decide, by decide⟩, by decide +kernel, by decide⟩
theorem vkX7_leftOutFor : mVok mtX7_leftOutFor 2 7 := ⟨okX7_leftOutFor, mg_in (tb4 (i := 154) rfl) rfl, mg_in (tb4 (i := 155) rfl) rfl, TX7, 11, rfl⟩
def mtX7_fewestBroken : mT := (⟨"MondayDeal$Told", "fewestBroken", "(IIIIII)I"⟩, prog_9_method_13_code, 11, some .int, [(0, .iload_n 1, 1), (1, .bipush 7, 2), (3, .if_icmp .lt 6, 3), (6, .iload 4, 2), (8, .ireturn, 1), (9, .bipush 127, 2), (11, .istore 7, 2), (13, .iconst 0, 1), (14, .istore 8, 2), (16, .iload 8, 2), (18, .bipush 7, 2), (20, .if_icmp .ge 97, 3), (23, .iload_n 3, 1), (24, .iload 5, 2), (26, .if_icmp .ne 7, 3), (29, .iconst 1, 1), (30, .goto 4, 3), (33, .iconst 0, 1), (34, .iload 8, 2), (36, .iload 6, 2), (38, .if_icmp .ne 7, 3), (41, .iconst 1, 1), (42, .goto 4, 3), (45, .iconst 0, 1), (46, .if_icmp .ne 7, 3), (49, .iconst 1, 1), (50, .goto 4, 3), (53, .iconst 0, 1), (54, .istore 9, 2), (56, .iload_n 2, 1), (57, .iload 8, 2), (59, .ishr, 1), (60, .iconst 1, 1), (61, .iand, 1), (62, .ifCond .ne 49, 3), (65, .iload 9, 2), (67, .ifCond .eq 44, 3), (70, .iload 4, 2), (72, .aload_n 0, 1), (73, .iload_n 2, 1), (74, .iload_n 3, 1), (75, .iload 8, 2), (77, .invokevirtual 66, 3), (80, .ior, 1), (81, .istore 10, 2), (83, .iload 7, 2), (85, .aload_n 0, 1), (86, .iload_n 1, 1), (87, .iconst 1, 1), (88, .iadd, 1), (89, .iload_n 2, 1), (90, .iconst 1, 1), (91, .iload 8, 2), (93, .ishl, 1), (94, .ior, 1), (95, .iload 8, 2), (97, .iload 10, 2), (99, .iload 5, 2), (101, .iload 6, 2), (103, .invokevirtual 62, 3), (106, .invokestatic 70, 3), (109, .istore 7, 2), (111, .iinc 8 1, 3), (114, .goto (-98), 3), (117, .iload 7, 2), (119, .ireturn, 1)])
theorem okX7_fewestBroken : mtOK mtX7_fewestBroken 6 := ⟨mg_in (tb4 (i := 160) rfl) rfl, mg_in (tb1 (i := 3) rfl) rfl, by decide, ⟨by decide, by decide, by decide⟩, by decide +kernel, by decide⟩
theorem vkX7_fewestBroken : mVok mtX7_fewestBroken 6 7 := ⟨okX7_fewestBroken, mg_in (tb4 (i := 159) rfl) rfl, mg_sel (List.mem_of_getElem? (i := 31) rfl) rfl, TX7, 11, rfl⟩
def mtX7_fewer : mT := (⟨"MondayDeal$Told", "fewer", "(II)I"⟩, prog_9_method_14_code, 4, some .int, [(0, .iload_n 0, 1), (1, .invokestatic 74, 3), (4, .istore_n 2, 1), (5, .iload_n 1, 1), (6, .invokestatic 74, 3), (9, .istore_n 3, 1), (10, .iload_n 2, 1), (11, .iload_n 3, 1), (12, .if_icmp .ne 9, 3), (15, .iload_n 0, 1), (16, .iload_n 1, 1), (17, .invokestatic 80, 3), (20, .ireturn, 1), (21, .iload_n 2, 1), (22, .iload_n 3, 1), (23, .if_icmp .ge 7, 3), (26, .iload_n 0, 1), (27, .goto 4, 3), (30, .iload_n 1, 1), (31, .ireturn, 1)])
theorem okX7_fewer : mtOK mtX7_fewer 2 := ⟨mg_in (tb4 (i := 164) rfl) rfl, mg_in (tb1 (i := 3) rfl) rfl, by decide, ⟨by decide, by decide, by decide⟩, by decide +kernel, by decide⟩
theorem skX7_fewer : mSok mtX7_fewer 2 := ⟨okX7_fewer, mg_in (tb4 (i := 163) rfl) rfl⟩
def mtX8_init : mT := (⟨"MondayDeal", "<init>", "()V"⟩, prog_1_method_1_code, 2, none, [(0, .aload_n 0, 1), (1, .invokespecial 1, 3), (4, .aload_n 0, 1), (5, .new 7, 3), (8, .dup, 1), (9, .invokespecial 9, 3), (12, .putfield 10, 3), (15, .aload_n 0, 1), (16, .new 16, 3), (19, .dup, 1), (20, .invokespecial 18, 3), (23, .putfield 19, 3), (26, .aload_n 0, 1), (27, .new 16, 3), (30, .dup, 1), (31, .invokespecial 18, 3), (34, .putfield 23, 3), (37, .aload_n 0, 1), (38, .new 26, 3), (41, .dup, 1), (42, .invokespecial 28, 3), (45, .putfield 29, 3), (48, .aload_n 0, 1), (49, .new 33, 3), (52, .dup, 1), (53, .invokespecial 35, 3), (56, .putfield 36, 3), (59, .aload_n 0, 1), (60, .new 40, 3), (63, .dup, 1), (64, .invokespecial 42, 3), (67, .putfield 43, 3), (70, .aload_n 0, 1), (71, .new 47, 3), (74, .dup, 1), (75, .invokespecial 49, 3), (78, .putfield 50, 3), (81, .aload_n 0, 1), (82, .iconst 2, 1), (83, .anewarray 40, 3), (86, .putfield 54, 3), (89, .aload_n 0, 1), (90, .iconst 2, 1), (91, .newarray .boolean, 2), (93, .putfield 58, 3), (96, .aload_n 0, 1), (97, .new 62, 3), (100, .dup, 1), (101, .invokespecial 64, 3), (104, .putfield 65, 3), (107, .aload_n 0, 1), (108, .new 69, 3), (111, .dup, 1), (112, .invokespecial 71, 3), (115, .putfield 72, 3), (118, .iconst 0, 1), (119, .istore_n 1, 1), (120, .iload_n 1, 1), (121, .iconst 2, 1), (122, .if_icmp .ge 22, 3), (125, .aload_n 0, 1), (126, .getfield 54, 3), (129, .iload_n 1, 1), (130, .new 40, 3), (133, .dup, 1), (134, .invokespecial 42, 3), (137, .aastore, 1), (138, .iinc 1 1, 3), (141, .goto (-21), 3), (144, .aload_n 0, 1), (145, .getfield 19, 3), (148, .invokevirtual 76, 3), (151, .aload_n 0, 1), (152, .invokevirtual 79, 3), (155, .return_, 1)])
theorem okX8_init : mtOK mtX8_init 0 := ⟨mg_in (tb1 (i := 23) rfl) rfl, mg_in (tb1 (i := 1) rfl) rfl, by decide, ⟨by decide, by decide, by decide⟩, by decide +kernel, by decide⟩
def mtX8_write : mT := (⟨"MondayDeal", "write", "(I)I"⟩, prog_1_method_2_code, 2, some .int, [(0, .iload_n 1, 1), (1, .ifCond .lt 10, 3), (4, .iload_n 1, 1), (5, .sipush 255, 3), (8, .if_icmp .le 6, 3), (11, .bipush (-3), 2), (13, .ireturn, 1), (14, .aload_n 0, 1), (15, .getfield 10, 3), (18, .getfield 82, 3), (21, .sipush 160, 3), (24, .if_icmp .lt 6, 3), (27, .bipush (-5), 2), (29, .ireturn, 1), (30, .aload_n 0, 1), (31, .getfield 10, 3), (34, .getfield 86, 3), (37, .aload_n 0, 1), (38, .getfield 10, 3), (41, .getfield 82, 3), (44, .iload_n 1, 1), (45, .i2c, 1), (46, .castore, 1), (47, .aload_n 0, 1), (48, .getfield 10, 3), (51, .dup, 1), (52, .getfield 82, 3), (55, .iconst 1, 1), (56, .iadd, 1), (57, .putfield 82, 3), (60, .aload_n 0, 1), (61, .getfield 10, 3), (64, .getfield 82, 3), (67, .ireturn, 1)])
theorem okX8_write : mtOK mtX8_write 1 := ⟨mg_in (tb2 (i := 103) rfl) rfl, mg_in (tb1 (i := 1) rfl) rfl, by decide, ⟨by decide, by decide, by decide⟩, by decide +kernel, by decide⟩
theorem vkX8_write : mVok mtX8_write 1 8 := ⟨okX8_write, mg_in (tb2 (i := 101) rfl) rfl, mg_in (tb2 (i := 102) rfl) rfl, TX8, 13, rfl⟩
def mtX8_erase : mT := (⟨"MondayDeal", "erase", "()I"⟩, prog_1_method_3_code, 2, some .int, [(0, .aload_n 0, 1), (1, .getfield 10, 3), (4, .getfield 82, 3), (7, .istore_n 1, 1), (8, .aload_n 0, 1), (9, .getfield 10, 3), (12, .iconst 0, 1), (13, .putfield 82, 3), (16, .iload_n 1, 1), (17, .ireturn, 1)])
theorem okX8_erase : mtOK mtX8_erase 0 := ⟨mg_in (tb2 (i := 107) rfl) rfl, mg_in (tb1 (i := 1) rfl) rfl, by decide, ⟨by decide, by decide, by decide⟩, by decide +kernel, by decide⟩
theorem vkX8_erase : mVok mtX8_erase 0 8 := ⟨okX8_erase, mg_in (tb2 (i := 105) rfl) rfl, mg_in (tb2 (i := 106) rfl) rfl, TX8, 13, rfl⟩
def mtX8_fault : mT := (⟨"MondayDeal", "fault", "()I"⟩, prog_1_method_4_code, 1, some .int, [(0, .aload_n 0, 1), (1, .getfield 23, 3), (4, .aload_n 0, 1), (5, .getfield 19, 3), (8, .invokevirtual 90, 3), (11, .aload_n 0, 1), (12, .getfield 10, 3), (15, .aload_n 0, 1), (16, .getfield 23, 3), (19, .invokevirtual 94, 3), (22, .ireturn, 1)])
theorem okX8_fault : mtOK mtX8_fault 0 := ⟨mg_in (tb2 (i := 111) rfl) rfl, mg_in (tb1 (i := 1) rfl) rfl, by decide, ⟨by decide, by decide, by decide⟩, by decide +kernel, by decide⟩
theorem vkX8_fault : mVok mtX8_fault 0 8 := ⟨okX8_fault, mg_in (tb2 (i := 109) rfl) rfl, mg_in (tb2 (i := 110) rfl) rfl, TX8, 13, rfl⟩
def mtX8_calendar : mT := (⟨"MondayDeal", "calendar", "()I"⟩, prog_1_method_5_code, 1, some .int, [(0, .aload_n 0, 1), (1, .getfield 23, 3), (4, .aload_n 0, 1), (5, .getfield 19, 3), (8, .invokevirtual 90, 3), (11, .aload_n 0, 1), (12, .getfield 10, 3), (15, .aload_n 0, 1), (16, .getfield 23, 3), (19, .invokevirtual 94, 3), (22, .iconst (-1), 1), (23, .if_icmp .eq 6, 3), (26, .bipush (-4), 2), (28, .ireturn, 1), (29, .aload_n 0, 1), (30, .getfield 19, 3), (33, .aload_n 0, 1), (34, .getfield 23, 3), (37, .invokevirtual 90, 3), (40, .aload_n 0, 1), (41, .getfield 10, 3), (44, .iconst 0, 1), (45, .putfield 82, 3), (48, .aload_n 0, 1), (49, .invokevirtual 79, 3), (52, .aload_n 0, 1), (53, .getfield 10, 3), (56, .getfield 98, 3), (59, .ireturn, 1)])
theorem okX8_calendar : mtOK mtX8_calendar 0 := ⟨mg_in (tb3 (i := 0) rfl) rfl, mg_in (tb1 (i := 1) rfl) rfl, by decide, ⟨by decide, by decide, by decide⟩, by decide +kernel, by decide⟩
theorem vkX8_calendar : mVok mtX8_calendar 0 8 := ⟨okX8_calendar, mg_in (tb2 (i := 238) rfl) rfl, mg_in (tb2 (i := 239) rfl) rfl, TX8, 13, rfl⟩
def mtX8_day : mT := (⟨"MondayDeal", "day", "(II)I"⟩, prog_1_method_6_code, 3, some .int, [(0, .iload_n 1, 1), (1, .invokestatic 101, 3), (4, .ifCond .ne 6, 3), (7, .bipush (-2), 2), (9, .ireturn, 1), (10, .iload_n 2, 1), (11, .tableswitch 56 0 2 #[25, 35, 44], 25), (36, .aload_n 0, 1), (37, .getfield 19, 3), (40, .getfield 105, 3), (43, .iload_n 1, 1), (44, .iaload, 1), (45, .ireturn, 1), (46, .aload_n 0, 1), (47, .getfield 19, 3), (50, .iload_n 1, 1), (51, .invokevirtual 109, 3), (54, .ireturn, 1), (55, .aload_n 0, 1), (56, .invokevirtual 113, 3), (59, .getfield 117, 3), (62, .iload_n 1, 1), (63, .aaload, 1), (64, .iconst 0, 1), (65, .iaload, 1), (66, .ireturn, 1), (67, .bipush (-3), 2), (69, .ireturn, 1)])
theorem okX8_day : mtOK mtX8_day 2 := ⟨mg_in (tb3 (i := 4) rfl) rfl, mg_in (tb1 (i := 1) rfl) rfl, by decide, ⟨by decide, by decide, by decide⟩, by decide +kernel, by decide⟩
theorem vkX8_day : mVok mtX8_day 2 8 := ⟨okX8_day, mg_in (tb3 (i := 2) rfl) rfl, mg_in (tb3 (i := 3) rfl) rfl, TX8, 13, rfl⟩
def mtX8_work : mT := (⟨"MondayDeal", "work", "(II)I"⟩, prog_1_method_7_code, 3, some .int, [(0, .aload_n 0, 1), (1, .iload_n 1, 1), (2, .invokevirtual 121, 3), (5, .ifCond .ne 6, 3), (8, .bipush (-2), 2), (10, .ireturn, 1), (11, .iload_n 2, 1), (12, .tableswitch 114 0 6 #[44, 54, 64, 74, 84, 94, 104], 44), (56, .aload_n 0, 1), (57, .getfield 19, 3), (60, .getfield 124, 3), (63, .iload_n 1, 1), (64, .iaload, 1), (65, .ireturn, 1), (66, .aload_n 0, 1), (67, .getfield 19, 3), (70, .getfield 127, 3), (73, .iload_n 1, 1), (74, .iaload, 1), (75, .ireturn, 1), (76, .aload_n 0, 1), (77, .getfield 19, 3), (80, .getfield 130, 3), (83, .iload_n 1, 1), (84, .iaload, 1), (85, .ireturn, 1), (86, .aload_n 0, 1), (87, .getfield 19, 3), (90, .getfield 133, 3), (93, .iload_n 1, 1), (94, .iaload, 1), (95, .ireturn, 1), (96, .aload_n 0, 1), (97, .getfield 19, 3), (100, .getfield 136, 3), (103, .iload_n 1, 1), (104, .iaload, 1), (105, .ireturn, 1), (106, .aload_n 0, 1), (107, .getfield 43, 3), (110, .getfield 139, 3), (113, .iload_n 1, 1), (114, .iaload, 1), (115, .ireturn, 1), (116, .aload_n 0, 1), (117, .getfield 43, 3), (120, .getfield 142, 3), (123, .iload_n 1, 1), (124, .iaload, 1), (125, .ireturn, 1), (126, .bipush (-3), 2), (128, .ireturn, 1)])
theorem okX8_work : mtOK mtX8_work 2 := ⟨mg_in (tb3 (i := 40) rfl) rfl, mg_in (tb1 (i := 1) rfl) rfl, by decide, ⟨by decide, by decide, by decide⟩, by decide +kernel, by decide⟩
theorem vkX8_work : mVok mtX8_work 2 8 := ⟨okX8_work, mg_in (tb3 (i := 38) rfl) rfl, mg_in (tb3 (i := 39) rfl) rfl, TX8, 13, rfl⟩
def mtX8_as : mT := (⟨"MondayDeal", "as", "(II)I"⟩, prog_1_method_8_code, 3, some .int, [(0, .iload_n 1, 1), (1, .invokestatic 101, 3), (4, .ifCond .ne 6, 3), (7, .bipush (-2), 2), (9, .ireturn, 1), (10, .iload_n 2, 1), (11, .ifCond .lt 8, 3), (14, .iload_n 2, 1), (15, .iconst 4, 1), (16, .if_icmp .le 6, 3), (19, .bipush (-3), 2), (21, .ireturn, 1), (22, .aload_n 0, 1), (23, .getfield 19, 3), (26, .iload_n 1, 1), (27, .iload_n 2, 1), (28, .invokevirtual 145, 3), (31, .ifCond .eq 16, 3), (34, .aload_n 0, 1), (35, .getfield 19, 3), (38, .iload_n 1, 1), (39, .bipush 15, 2), (41, .invokevirtual 149, 3), (44, .goto 5, 3), (47, .bipush (-4), 2), (49, .ireturn, 1)])
theorem okX8_as : mtOK mtX8_as 2 := ⟨mg_in (tb3 (i := 48) rfl) rfl, mg_in (tb1 (i := 1) rfl) rfl, by decide, ⟨by decide, by decide, by decide⟩, by decide +kernel, by decide⟩
theorem vkX8_as : mVok mtX8_as 2 8 := ⟨okX8_as, mg_in (tb3 (i := 46) rfl) rfl, mg_in (tb3 (i := 47) rfl) rfl, TX8, 13, rfl⟩
def mtX8_orders : mT := (⟨"MondayDeal", "orders", "()I"⟩, prog_1_method_9_code, 1, some .int, [(0, .aload_n 0, 1), (1, .invokevirtual 113, 3), (4, .getfield 153, 3), (7, .ireturn, 1)])
theorem okX8_orders : mtOK mtX8_orders 0 := ⟨mg_in (tb3 (i := 60) rfl) rfl, mg_in (tb1 (i := 1) rfl) rfl, by decide, ⟨by decide, by decide, by decide⟩, by decide +kernel, by decide⟩
theorem vkX8_orders : mVok mtX8_orders 0 8 := ⟨okX8_orders, mg_in (tb3 (i := 58) rfl) rfl, mg_in (tb3 (i := 59) rfl) rfl, TX8, 13, rfl⟩
def mtX8_order : mT := (⟨"MondayDeal", "order", "(II)I"⟩, prog_1_method_10_code, 3, some .int, [(0, .aload_n 0, 1), (1, .iload_n 1, 1), (2, .invokevirtual 156, 3), (5, .ifCond .ne 6, 3), (8, .bipush (-2), 2), (10, .ireturn, 1), (11, .iload_n 2, 1), (12, .invokestatic 159, 3), (15, .ifCond .eq 15, 3), (18, .aload_n 0, 1), (19, .getfield 29, 3), (22, .iload_n 1, 1), (23, .iload_n 2, 1), (24, .invokevirtual 162, 3), (27, .goto 5, 3), (30, .bipush (-3), 2), (32, .ireturn, 1)])
theorem okX8_order : mtOK mtX8_order 2 := ⟨mg_in (tb3 (i := 64) rfl) rfl, mg_in (tb1 (i := 1) rfl) rfl, by decide, ⟨by decide, by decide, by decide⟩, by decide +kernel, by decide⟩
theorem vkX8_order : mVok mtX8_order 2 8 := ⟨okX8_order, mg_in (tb3 (i := 62) rfl) rfl, mg_in (tb3 (i := 63) rfl) rfl, TX8, 13, rfl⟩
def mtX8_which : mT := (⟨"MondayDeal", "which", "(I)I"⟩, prog_1_method_11_code, 4, some .int, [(0, .iload_n 1, 1), (1, .invokestatic 165, 3), (4, .istore_n 2, 1), (5, .iload_n 2, 1), (6, .iconst (-1), 1), (7, .if_icmp .ne 6, 3), (10, .bipush (-3), 2), (12, .ireturn, 1), (13, .aload_n 0, 1), (14, .invokevirtual 113, 3), (17, .iload_n 2, 1), (18, .invokevirtual 168, 3), (21, .istore_n 3, 1), (22, .iload_n 3, 1), (23, .iconst (-1), 1), (24, .if_icmp .ne 8, 3), (27, .bipush (-4), 2), (29, .goto 4, 3), (32, .iload_n 3, 1), (33, .ireturn, 1)])
theorem okX8_which : mtOK mtX8_which 1 := ⟨mg_in (tb3 (i := 82) rfl) rfl, mg_in (tb1 (i := 1) rfl) rfl, by decide, ⟨by decide, by decide, by decide⟩, by decide +kernel, by decide⟩
theorem vkX8_which : mVok mtX8_which 1 8 := ⟨okX8_which, mg_in (tb3 (i := 80) rfl) rfl, mg_in (tb3 (i := 81) rfl) rfl, TX8, 13, rfl⟩
def mtX8_deal : mT := (⟨"MondayDeal", "deal", "(I)I"⟩, prog_1_method_12_code, 2, some .int, [(0, .aload_n 0, 1), (1, .iload_n 1, 1), (2, .invokevirtual 156, 3), (5, .ifCond .ne 6, 3), (8, .bipush (-2), 2), (10, .ireturn, 1), (11, .aload_n 0, 1), (12, .getfield 43, 3), (15, .getfield 171, 3), (18, .sipush 999, 3), (21, .if_icmp .lt 6, 3), (24, .bipush (-5), 2), (26, .ireturn, 1), (27, .aload_n 0, 1), (28, .getfield 50, 3), (31, .aload_n 0, 1), (32, .getfield 43, 3), (35, .invokevirtual 174, 3), (38, .aload_n 0, 1), (39, .iconst 0, 1), (40, .putfield 178, 3), (43, .aload_n 0, 1), (44, .getfield 36, 3), (47, .aload_n 0, 1), (48, .getfield 19, 3), (51, .aload_n 0, 1), (52, .getfield 43, 3), (55, .aload_n 0, 1), (56, .getfield 29, 3), (59, .iload_n 1, 1), (60, .invokevirtual 182, 3), (63, .ireturn, 1)])
theorem okX8_deal : mtOK mtX8_deal 1 := ⟨mg_in (tb3 (i := 94) rfl) rfl, mg_in (tb1 (i := 1) rfl) rfl, by decide, ⟨by decide, by decide, by decide⟩, by decide +kernel, by decide⟩
theorem vkX8_deal : mVok mtX8_deal 1 8 := ⟨okX8_deal, mg_in (tb3 (i := 92) rfl) rfl, mg_in (tb3 (i := 93) rfl) rfl, TX8, 13, rfl⟩
def mtX8_ready : mT := (⟨"MondayDeal", "ready", "(I)I"⟩, prog_1_method_13_code, 2, some .int, [(0, .aload_n 0, 1), (1, .iload_n 1, 1), (2, .invokevirtual 121, 3), (5, .ifCond .ne 6, 3), (8, .bipush (-2), 2), (10, .ireturn, 1), (11, .aload_n 0, 1), (12, .getfield 43, 3), (15, .getfield 139, 3), (18, .iload_n 1, 1), (19, .iaload, 1), (20, .iconst (-1), 1), (21, .if_icmp .eq 6, 3), (24, .bipush (-4), 2), (26, .ireturn, 1), (27, .aload_n 0, 1), (28, .getfield 50, 3), (31, .aload_n 0, 1), (32, .getfield 43, 3), (35, .invokevirtual 174, 3), (38, .aload_n 0, 1), (39, .iconst 0, 1), (40, .putfield 178, 3), (43, .aload_n 0, 1), (44, .getfield 43, 3), (47, .getfield 139, 3), (50, .iload_n 1, 1), (51, .iconst 0, 1), (52, .iastore, 1), (53, .aload_n 0, 1), (54, .getfield 43, 3), (57, .invokevirtual 186, 3), (60, .invokestatic 190, 3), (63, .ireturn, 1)])
theorem okX8_ready : mtOK mtX8_ready 1 := ⟨mg_in (tb3 (i := 156) rfl) rfl, mg_in (tb1 (i := 1) rfl) rfl, by decide, ⟨by decide, by decide, by decide⟩, by decide +kernel, by decide⟩
theorem vkX8_ready : mVok mtX8_ready 1 8 := ⟨okX8_ready, mg_in (tb3 (i := 154) rfl) rfl, mg_in (tb3 (i := 155) rfl) rfl, TX8, 13, rfl⟩
def mtX8_undo : mT := (⟨"MondayDeal", "undo", "()I"⟩, prog_1_method_14_code, 1, some .int, [(0, .aload_n 0, 1), (1, .getfield 50, 3), (4, .getfield 195, 3), (7, .ifCond .ne 6, 3), (10, .bipush (-4), 2), (12, .ireturn, 1), (13, .aload_n 0, 1), (14, .getfield 50, 3), (17, .aload_n 0, 1), (18, .getfield 43, 3), (21, .invokevirtual 196, 3), (24, .aload_n 0, 1), (25, .iconst 0, 1), (26, .putfield 178, 3), (29, .aload_n 0, 1), (30, .getfield 50, 3), (33, .getfield 195, 3), (36, .ireturn, 1)])
theorem okX8_undo : mtOK mtX8_undo 0 := ⟨mg_in (tb3 (i := 170) rfl) rfl, mg_in (tb1 (i := 1) rfl) rfl, by decide, ⟨by decide, by decide, by decide⟩, by decide +kernel, by decide⟩
theorem vkX8_undo : mVok mtX8_undo 0 8 := ⟨okX8_undo, mg_in (tb3 (i := 168) rfl) rfl, mg_in (tb3 (i := 169) rfl) rfl, TX8, 13, rfl⟩
def mtX8_keep : mT := (⟨"MondayDeal", "keep", "(I)I"⟩, prog_1_method_15_code, 2, some .int, [(0, .iload_n 1, 1), (1, .invokestatic 199, 3), (4, .ifCond .ne 6, 3), (7, .bipush (-2), 2), (9, .ireturn, 1), (10, .aload_n 0, 1), (11, .getfield 54, 3), (14, .iload_n 1, 1), (15, .aaload, 1), (16, .aload_n 0, 1), (17, .getfield 43, 3), (20, .invokevirtual 202, 3), (23, .aload_n 0, 1), (24, .getfield 58, 3), (27, .iload_n 1, 1), (28, .iconst 1, 1), (29, .bastore, 1), (30, .aload_n 0, 1), (31, .getfield 43, 3), (34, .getfield 171, 3), (37, .ireturn, 1)])
theorem okX8_keep : mtOK mtX8_keep 1 := ⟨mg_in (tb3 (i := 178) rfl) rfl, mg_in (tb1 (i := 1) rfl) rfl, by decide, ⟨by decide, by decide, by decide⟩, by decide +kernel, by decide⟩
theorem vkX8_keep : mVok mtX8_keep 1 8 := ⟨okX8_keep, mg_in (tb3 (i := 176) rfl) rfl, mg_in (tb3 (i := 177) rfl) rfl, TX8, 13, rfl⟩
def mtX8_back : mT := (⟨"MondayDeal", "back", "(I)I"⟩, prog_1_method_16_code, 2, some .int, [(0, .iload_n 1, 1), (1, .invokestatic 199, 3), (4, .ifCond .ne 6, 3), (7, .bipush (-2), 2), (9, .ireturn, 1), (10, .aload_n 0, 1), (11, .getfield 58, 3), (14, .iload_n 1, 1), (15, .baload, 1), (16, .ifCond .ne 6, 3), (19, .bipush (-4), 2), (21, .ireturn, 1), (22, .aload_n 0, 1), (23, .getfield 43, 3), (26, .aload_n 0, 1), (27, .getfield 54, 3), (30, .iload_n 1, 1), (31, .aaload, 1), (32, .invokevirtual 202, 3), (35, .aload_n 0, 1), (36, .getfield 50, 3), (39, .iconst 0, 1), (40, .putfield 195, 3), (43, .aload_n 0, 1), (44, .iconst 0, 1), (45, .putfield 178, 3), (48, .aload_n 0, 1), (49, .getfield 43, 3), (52, .getfield 171, 3), (55, .ireturn, 1)])
theorem okX8_back : mtOK mtX8_back 1 := ⟨mg_in (tb3 (i := 186) rfl) rfl, mg_in (tb1 (i := 1) rfl) rfl, by decide, ⟨by decide, by decide, by decide⟩, by decide +kernel, by decide⟩
theorem vkX8_back : mVok mtX8_back 1 8 := ⟨okX8_back, mg_in (tb3 (i := 184) rfl) rfl, mg_in (tb3 (i := 185) rfl) rfl, TX8, 13, rfl⟩
def mtX8_odds : mT := (⟨"MondayDeal", "odds", "(II)I"⟩, prog_1_method_17_code, 4, some .int, [(0, .aload_n 0, 1), (1, .iload_n 1, 1), (2, .invokevirtual 121, 3), (5, .ifCond .ne 6, 3), (8, .bipush (-2), 2), (10, .ireturn, 1), (11, .aload_n 0, 1), (12, .iload_n 2, 1), (13, .invokevirtual 204, 3), (16, .istore_n 3, 1), (17, .iload_n 3, 1), (18, .ifCond .ne 20, 3), (21, .aload_n 0, 1), (22, .aload_n 0, 1), (23, .invokevirtual 207, 3), (26, .iload_n 1, 1), (27, .iconst 0, 1), (28, .invokevirtual 211, 3), (31, .iload_n 2, 1), (32, .invokevirtual 214, 3), (35, .goto 4, 3), (38, .iload_n 3, 1), (39, .ireturn, 1)])
theorem okX8_odds : mtOK mtX8_odds 2 := ⟨mg_in (tb3 (i := 190) rfl) rfl, mg_in (tb1 (i := 1) rfl) rfl, by decide, ⟨by decide, by decide, by decide⟩, by decide +kernel, by decide⟩
theorem vkX8_odds : mVok mtX8_odds 2 8 := ⟨okX8_odds, mg_in (tb3 (i := 188) rfl) rfl, mg_in (tb3 (i := 189) rfl) rfl, TX8, 13, rfl⟩
def mtX8_mean : mT := (⟨"MondayDeal", "mean", "(I)I"⟩, prog_1_method_18_code, 3, some .int, [(0, .aload_n 0, 1), (1, .iload_n 1, 1), (2, .invokevirtual 204, 3), (5, .istore_n 2, 1), (6, .iload_n 2, 1), (7, .ifCond .ne 20, 3), (10, .aload_n 0, 1), (11, .aload_n 0, 1), (12, .invokevirtual 207, 3), (15, .getfield 217, 3), (18, .iconst 0, 1), (19, .iaload, 1), (20, .iload_n 1, 1), (21, .invokevirtual 214, 3), (24, .goto 4, 3), (27, .iload_n 2, 1), (28, .ireturn, 1)])
theorem okX8_mean : mtOK mtX8_mean 1 := ⟨mg_in (tb4 (i := 2) rfl) rfl, mg_in (tb1 (i := 1) rfl) rfl, by decide, ⟨by decide, by decide, by decide⟩, by decide +kernel, by decide⟩
theorem vkX8_mean : mVok mtX8_mean 1 8 := ⟨okX8_mean, mg_in (tb4 (i := 0) rfl) rfl, mg_in (tb4 (i := 1) rfl) rfl, TX8, 13, rfl⟩
def mtX8_safe : mT := (⟨"MondayDeal", "safe", "()I"⟩, prog_1_method_19_code, 1, some .int, [(0, .aload_n 0, 1), (1, .invokevirtual 113, 3), (4, .getfield 153, 3), (7, .ifCond .ne 8, 3), (10, .bipush (-4), 2), (12, .goto 24, 3), (15, .aload_n 0, 1), (16, .invokevirtual 207, 3), (19, .aload_n 0, 1), (20, .getfield 19, 3), (23, .getfield 220, 3), (26, .aload_n 0, 1), (27, .getfield 29, 3), (30, .getfield 153, 3), (33, .invokevirtual 223, 3), (36, .ireturn, 1)])
theorem okX8_safe : mtOK mtX8_safe 0 := ⟨mg_in (tb4 (i := 6) rfl) rfl, mg_in (tb1 (i := 1) rfl) rfl, by decide, ⟨by decide, by decide, by decide⟩, by decide +kernel, by decide⟩
theorem vkX8_safe : mVok mtX8_safe 0 8 := ⟨okX8_safe, mg_in (tb4 (i := 4) rfl) rfl, mg_in (tb4 (i := 5) rfl) rfl, TX8, 13, rfl⟩
def mtX8_best : mT := (⟨"MondayDeal", "best", "(I)I"⟩, prog_1_method_20_code, 3, some .int, [(0, .aload_n 0, 1), (1, .iload_n 1, 1), (2, .invokevirtual 204, 3), (5, .istore_n 2, 1), (6, .iload_n 2, 1), (7, .ifCond .eq 5, 3), (10, .iload_n 2, 1), (11, .ireturn, 1), (12, .iload_n 1, 1), (13, .ifCond .ne 13, 3), (16, .aload_n 0, 1), (17, .invokevirtual 207, 3), (20, .getfield 226, 3), (23, .goto 10, 3), (26, .aload_n 0, 1), (27, .invokevirtual 207, 3), (30, .getfield 229, 3), (33, .ireturn, 1)])
theorem okX8_best : mtOK mtX8_best 1 := ⟨mg_in (tb4 (i := 14) rfl) rfl, mg_in (tb1 (i := 1) rfl) rfl, by decide, ⟨by decide, by decide, by decide⟩, by decide +kernel, by decide⟩
theorem vkX8_best : mVok mtX8_best 1 8 := ⟨okX8_best, mg_in (tb4 (i := 12) rfl) rfl, mg_in (tb4 (i := 13) rfl) rfl, TX8, 13, rfl⟩
def mtX8_worst : mT := (⟨"MondayDeal", "worst", "(I)I"⟩, prog_1_method_21_code, 3, some .int, [(0, .aload_n 0, 1), (1, .iload_n 1, 1), (2, .invokevirtual 204, 3), (5, .istore_n 2, 1), (6, .iload_n 2, 1), (7, .ifCond .eq 5, 3), (10, .iload_n 2, 1), (11, .ireturn, 1), (12, .iload_n 1, 1), (13, .ifCond .ne 13, 3), (16, .aload_n 0, 1), (17, .invokevirtual 207, 3), (20, .getfield 232, 3), (23, .goto 10, 3), (26, .aload_n 0, 1), (27, .invokevirtual 207, 3), (30, .getfield 235, 3), (33, .ireturn, 1)])
theorem okX8_worst : mtOK mtX8_worst 1 := ⟨mg_in (tb4 (i := 18) rfl) rfl, mg_in (tb1 (i := 1) rfl) rfl, by decide, ⟨by decide, by decide, by decide⟩, by decide +kernel, by decide⟩
theorem vkX8_worst : mVok mtX8_worst 1 8 := ⟨okX8_worst, mg_in (tb4 (i := 16) rfl) rfl, mg_in (tb4 (i := 17) rfl) rfl, TX8, 13, rfl⟩
def mtX8_makeReady : mT := (⟨"MondayDeal", "makeReady", "(II)I"⟩, prog_1_method_22_code, 4, some .int, [(0, .iload_n 1, 1), (1, .iconst 1, 1), (2, .if_icmp .lt 15, 3), (5, .iload_n 1, 1), (6, .iconst 3, 1), (7, .if_icmp .gt 10, 3), (10, .iload_n 2, 1), (11, .invokestatic 238, 3), (14, .ifCond .ne 6, 3), (17, .bipush (-3), 2), (19, .ireturn, 1), (20, .aload_n 0, 1), (21, .invokevirtual 207, 3), (24, .iload_n 1, 1), (25, .aload_n 0, 1), (26, .getfield 19, 3), (29, .getfield 220, 3), (32, .aload_n 0, 1), (33, .getfield 43, 3), (36, .invokevirtual 186, 3), (39, .invokevirtual 241, 3), (42, .istore_n 3, 1), (43, .iload_n 2, 1), (44, .ifCond .ne 15, 3), (47, .aload_n 0, 1), (48, .getfield 36, 3), (51, .getfield 217, 3), (54, .iload_n 3, 1), (55, .iaload, 1), (56, .goto 4, 3), (59, .iload_n 3, 1), (60, .ireturn, 1)])
theorem okX8_makeReady : mtOK mtX8_makeReady 2 := ⟨mg_in (tb4 (i := 22) rfl) rfl, mg_in (tb1 (i := 1) rfl) rfl, by decide, ⟨by decide, by decide, by decide⟩, by decide +kernel, by decide⟩
theorem vkX8_makeReady : mVok mtX8_makeReady 2 8 := ⟨okX8_makeReady, mg_in (tb4 (i := 20) rfl) rfl, mg_in (tb4 (i := 21) rfl) rfl, TX8, 13, rfl⟩
def mtX8_fair : mT := (⟨"MondayDeal", "fair", "(III)I"⟩, prog_1_method_23_code, 5, some .int, [(0, .iload_n 1, 1), (1, .invokestatic 101, 3), (4, .ifCond .ne 6, 3), (7, .bipush (-2), 2), (9, .ireturn, 1), (10, .iload_n 2, 1), (11, .iconst 1, 1), (12, .if_icmp .lt 9, 3), (15, .iload_n 2, 1), (16, .bipush 7, 2), (18, .if_icmp .le 6, 3), (21, .bipush (-3), 2), (23, .ireturn, 1), (24, .aload_n 0, 1), (25, .iload_n 3, 1), (26, .invokevirtual 204, 3), (29, .istore 4, 2), (31, .iload 4, 2), (33, .ifCond .ne 20, 3), (36, .aload_n 0, 1), (37, .aload_n 0, 1), (38, .getfield 29, 3), (41, .iload_n 1, 1), (42, .iload_n 2, 1), (43, .invokevirtual 245, 3), (46, .iload_n 3, 1), (47, .invokevirtual 214, 3), (50, .goto 5, 3), (53, .iload 4, 2), (55, .ireturn, 1)])
theorem okX8_fair : mtOK mtX8_fair 3 := ⟨mg_in (tb4 (i := 31) rfl) rfl, mg_in (tb1 (i := 1) rfl) rfl, by decide, ⟨by decide, by decide, by decide⟩, by decide +kernel, by decide⟩
theorem vkX8_fair : mVok mtX8_fair 3 8 := ⟨okX8_fair, mg_in (tb4 (i := 29) rfl) rfl, mg_in (tb4 (i := 30) rfl) rfl, TX8, 13, rfl⟩
def mtX8_beside : mT := (⟨"MondayDeal", "beside", "(III)I"⟩, prog_1_method_24_code, 5, some .int, [(0, .iload_n 1, 1), (1, .iload_n 2, 1), (2, .invokestatic 248, 3), (5, .ifCond .ne 6, 3), (8, .bipush (-2), 2), (10, .ireturn, 1), (11, .aload_n 0, 1), (12, .iload_n 3, 1), (13, .invokevirtual 204, 3), (16, .istore 4, 2), (18, .iload 4, 2), (20, .ifCond .eq 6, 3), (23, .iload 4, 2), (25, .ireturn, 1), (26, .aload_n 0, 1), (27, .aload_n 0, 1), (28, .getfield 29, 3), (31, .getfield 251, 3), (34, .iload_n 1, 1), (35, .aaload, 1), (36, .iload_n 2, 1), (37, .iaload, 1), (38, .aload_n 0, 1), (39, .getfield 29, 3), (42, .getfield 251, 3), (45, .iload_n 2, 1), (46, .aaload, 1), (47, .iload_n 1, 1), (48, .iaload, 1), (49, .iadd, 1), (50, .iload_n 3, 1), (51, .invokevirtual 214, 3), (54, .ireturn, 1)])
theorem okX8_beside : mtOK mtX8_beside 3 := ⟨mg_in (tb4 (i := 39) rfl) rfl, mg_in (tb1 (i := 1) rfl) rfl, by decide, ⟨by decide, by decide, by decide⟩, by decide +kernel, by decide⟩
theorem vkX8_beside : mVok mtX8_beside 3 8 := ⟨okX8_beside, mg_in (tb4 (i := 37) rfl) rfl, mg_in (tb4 (i := 38) rfl) rfl, TX8, 13, rfl⟩
def mtX8_across : mT := (⟨"MondayDeal", "across", "(III)I"⟩, prog_1_method_25_code, 6, some .int, [(0, .iload_n 1, 1), (1, .invokestatic 101, 3), (4, .ifCond .eq 10, 3), (7, .iload_n 2, 1), (8, .invokestatic 101, 3), (11, .ifCond .ne 6, 3), (14, .bipush (-2), 2), (16, .ireturn, 1), (17, .aload_n 0, 1), (18, .iload_n 3, 1), (19, .invokevirtual 204, 3), (22, .istore 4, 2), (24, .iload 4, 2), (26, .ifCond .eq 6, 3), (29, .iload 4, 2), (31, .ireturn, 1), (32, .aload_n 0, 1), (33, .getfield 29, 3), (36, .getfield 117, 3), (39, .iload_n 1, 1), (40, .aaload, 1), (41, .bipush 6, 2), (43, .iaload, 1), (44, .aload_n 0, 1), (45, .getfield 29, 3), (48, .getfield 117, 3), (51, .iload_n 2, 1), (52, .aaload, 1), (53, .iconst 0, 1), (54, .iaload, 1), (55, .imul, 1), (56, .istore 5, 2), (58, .iload 5, 2), (60, .i2l, 1), (61, .aload_n 0, 1), (62, .getfield 29, 3), (65, .getfield 153, 3), (68, .aload_n 0, 1), (69, .getfield 29, 3), (72, .getfield 153, 3), (75, .imul, 1), (76, .i2l, 1), (77, .iload_n 3, 1), (78, .invokestatic 254, 3), (81, .l2i, 1), (82, .ireturn, 1)])
theorem okX8_across : mtOK mtX8_across 3 := ⟨mg_in (tb4 (i := 46) rfl) rfl, mg_in (tb1 (i := 1) rfl) rfl, by decide, ⟨by decide, by decide, by decide⟩, by decide +kernel, by decide⟩
theorem vkX8_across : mVok mtX8_across 3 8 := ⟨okX8_across, mg_in (tb4 (i := 44) rfl) rfl, mg_in (tb4 (i := 45) rfl) rfl, TX8, 13, rfl⟩
def mtX8_waits : mT := (⟨"MondayDeal", "waits", "(I)I"⟩, prog_1_method_26_code, 2, some .int, [(0, .iload_n 1, 1), (1, .invokestatic 101, 3), (4, .ifCond .ne 6, 3), (7, .bipush (-2), 2), (9, .ireturn, 1), (10, .aload_n 0, 1), (11, .invokevirtual 113, 3), (14, .getfield 153, 3), (17, .ifCond .ne 8, 3), (20, .bipush (-4), 2), (22, .goto 11, 3), (25, .aload_n 0, 1), (26, .getfield 29, 3), (29, .iload_n 1, 1), (30, .invokevirtual 258, 3), (33, .ireturn, 1)])
theorem okX8_waits : mtOK mtX8_waits 1 := ⟨mg_in (tb4 (i := 50) rfl) rfl, mg_in (tb1 (i := 1) rfl) rfl, by decide, ⟨by decide, by decide, by decide⟩, by decide +kernel, by decide⟩
theorem vkX8_waits : mVok mtX8_waits 1 8 := ⟨okX8_waits, mg_in (tb4 (i := 48) rfl) rfl, mg_in (tb4 (i := 49) rfl) rfl, TX8, 13, rfl⟩
def mtX8_bet : mT := (⟨"MondayDeal", "bet", "(III)I"⟩, prog_1_method_27_code, 4, some .int, [(0, .iload_n 1, 1), (1, .invokestatic 101, 3), (4, .ifCond .ne 6, 3), (7, .bipush (-2), 2), (9, .ireturn, 1), (10, .iload_n 2, 1), (11, .iconst 1, 1), (12, .if_icmp .lt 19, 3), (15, .iload_n 2, 1), (16, .bipush 7, 2), (18, .if_icmp .ge 13, 3), (21, .iload_n 3, 1), (22, .ifCond .lt 9, 3), (25, .iload_n 3, 1), (26, .bipush 99, 2), (28, .if_icmp .le 6, 3), (31, .bipush (-3), 2), (33, .ireturn, 1), (34, .aload_n 0, 1), (35, .getfield 65, 3), (38, .iload_n 1, 1), (39, .iload_n 2, 1), (40, .iload_n 3, 1), (41, .invokevirtual 261, 3), (44, .ifCond .eq 13, 3), (47, .aload_n 0, 1), (48, .getfield 65, 3), (51, .getfield 265, 3), (54, .goto 5, 3), (57, .bipush (-5), 2), (59, .ireturn, 1)])
theorem okX8_bet : mtOK mtX8_bet 3 := ⟨mg_in (tb4 (i := 58) rfl) rfl, mg_in (tb1 (i := 1) rfl) rfl, by decide, ⟨by decide, by decide, by decide⟩, by decide +kernel, by decide⟩
theorem vkX8_bet : mVok mtX8_bet 3 8 := ⟨okX8_bet, mg_in (tb4 (i := 56) rfl) rfl, mg_in (tb4 (i := 57) rfl) rfl, TX8, 13, rfl⟩
def mtX8_call : mT := (⟨"MondayDeal", "call", "()I"⟩, prog_1_method_28_code, 2, some .int, [(0, .aload_n 0, 1), (1, .getfield 65, 3), (4, .getfield 265, 3), (7, .istore_n 1, 1), (8, .aload_n 0, 1), (9, .getfield 65, 3), (12, .iconst 0, 1), (13, .putfield 265, 3), (16, .iload_n 1, 1), (17, .ireturn, 1)])
theorem okX8_call : mtOK mtX8_call 0 := ⟨mg_in (tb4 (i := 66) rfl) rfl, mg_in (tb1 (i := 1) rfl) rfl, by decide, ⟨by decide, by decide, by decide⟩, by decide +kernel, by decide⟩
theorem vkX8_call : mVok mtX8_call 0 8 := ⟨okX8_call, mg_in (tb4 (i := 64) rfl) rfl, mg_in (tb4 (i := 65) rfl) rfl, TX8, 13, rfl⟩
def mtX8_sure : mT := (⟨"MondayDeal", "sure", "(I)I"⟩, prog_1_method_29_code, 4, some .int, [(0, .aload_n 0, 1), (1, .iload_n 1, 1), (2, .invokevirtual 204, 3), (5, .istore_n 2, 1), (6, .iload_n 2, 1), (7, .ifCond .eq 5, 3), (10, .iload_n 2, 1), (11, .ireturn, 1), (12, .aload_n 0, 1), (13, .getfield 65, 3), (16, .aload_n 0, 1), (17, .getfield 29, 3), (20, .invokevirtual 266, 3), (23, .istore_n 3, 1), (24, .iload_n 1, 1), (25, .ifCond .ne 14, 3), (28, .aload_n 0, 1), (29, .getfield 65, 3), (32, .iload_n 3, 1), (33, .invokevirtual 270, 3), (36, .goto 4, 3), (39, .iload_n 3, 1), (40, .ireturn, 1)])
theorem okX8_sure : mtOK mtX8_sure 1 := ⟨mg_in (tb4 (i := 70) rfl) rfl, mg_in (tb1 (i := 1) rfl) rfl, by decide, ⟨by decide, by decide, by decide⟩, by decide +kernel, by decide⟩
theorem vkX8_sure : mVok mtX8_sure 1 8 := ⟨okX8_sure, mg_in (tb4 (i := 68) rfl) rfl, mg_in (tb4 (i := 69) rfl) rfl, TX8, 13, rfl⟩
def mtX8_known : mT := (⟨"MondayDeal", "known", "(III)I"⟩, prog_1_method_30_code, 5, some .int, [(0, .iload_n 1, 1), (1, .iload_n 2, 1), (2, .invokestatic 248, 3), (5, .ifCond .ne 6, 3), (8, .bipush (-2), 2), (10, .ireturn, 1), (11, .iload_n 3, 1), (12, .invokestatic 238, 3), (15, .ifCond .ne 6, 3), (18, .bipush (-3), 2), (20, .ireturn, 1), (21, .iload_n 3, 1), (22, .iconst 1, 1), (23, .if_icmp .ne 15, 3), (26, .aload_n 0, 1), (27, .getfield 72, 3), (30, .iload_n 1, 1), (31, .iload_n 2, 1), (32, .invokevirtual 273, 3), (35, .goto 12, 3), (38, .aload_n 0, 1), (39, .getfield 72, 3), (42, .iload_n 2, 1), (43, .iload_n 1, 1), (44, .invokevirtual 273, 3), (47, .istore 4, 2), (49, .iload 4, 2), (51, .ifCond .eq 13, 3), (54, .aload_n 0, 1), (55, .getfield 72, 3), (58, .getfield 275, 3), (61, .goto 5, 3), (64, .bipush (-5), 2), (66, .ireturn, 1)])
theorem okX8_known : mtOK mtX8_known 3 := ⟨mg_in (tb4 (i := 90) rfl) rfl, mg_in (tb1 (i := 1) rfl) rfl, by decide, ⟨by decide, by decide, by decide⟩, by decide +kernel, by decide⟩
theorem vkX8_known : mVok mtX8_known 3 8 := ⟨okX8_known, mg_in (tb4 (i := 88) rfl) rfl, mg_in (tb4 (i := 89) rfl) rfl, TX8, 13, rfl⟩
def mtX8_forget : mT := (⟨"MondayDeal", "forget", "()I"⟩, prog_1_method_31_code, 2, some .int, [(0, .aload_n 0, 1), (1, .getfield 72, 3), (4, .getfield 275, 3), (7, .istore_n 1, 1), (8, .aload_n 0, 1), (9, .getfield 72, 3), (12, .iconst 0, 1), (13, .putfield 275, 3), (16, .iload_n 1, 1), (17, .ireturn, 1)])
theorem okX8_forget : mtOK mtX8_forget 0 := ⟨mg_in (tb4 (i := 98) rfl) rfl, mg_in (tb1 (i := 1) rfl) rfl, by decide, ⟨by decide, by decide, by decide⟩, by decide +kernel, by decide⟩
theorem vkX8_forget : mVok mtX8_forget 0 8 := ⟨okX8_forget, mg_in (tb4 (i := 96) rfl) rfl, mg_in (tb4 (i := 97) rfl) rfl, TX8, 13, rfl⟩
def mtX8_fit : mT := (⟨"MondayDeal", "fit", "(I)I"⟩, prog_1_method_32_code, 2, some .int, [(0, .iload_n 1, 1), (1, .tableswitch 64 0 2 #[27, 39, 52], 27), (28, .aload_n 0, 1), (29, .getfield 72, 3), (32, .aload_n 0, 1), (33, .invokevirtual 113, 3), (36, .invokevirtual 276, 3), (39, .ireturn, 1), (40, .aload_n 0, 1), (41, .getfield 72, 3), (44, .aload_n 0, 1), (45, .invokevirtual 113, 3), (48, .iconst 0, 1), (49, .invokevirtual 279, 3), (52, .ireturn, 1), (53, .aload_n 0, 1), (54, .getfield 72, 3), (57, .aload_n 0, 1), (58, .getfield 43, 3), (61, .invokevirtual 283, 3), (64, .ireturn, 1), (65, .bipush (-3), 2), (67, .ireturn, 1)])
theorem okX8_fit : mtOK mtX8_fit 1 := ⟨mg_in (tb4 (i := 102) rfl) rfl, mg_in (tb1 (i := 1) rfl) rfl, by decide, ⟨by decide, by decide, by decide⟩, by decide +kernel, by decide⟩
theorem vkX8_fit : mVok mtX8_fit 1 8 := ⟨okX8_fit, mg_in (tb4 (i := 100) rfl) rfl, mg_in (tb4 (i := 101) rfl) rfl, TX8, 13, rfl⟩
def mtX8_at : mT := (⟨"MondayDeal", "at", "(I)I"⟩, prog_1_method_33_code, 2, some .int, [(0, .iload_n 1, 1), (1, .invokestatic 159, 3), (4, .ifCond .eq 18, 3), (7, .aload_n 0, 1), (8, .getfield 72, 3), (11, .aload_n 0, 1), (12, .invokevirtual 113, 3), (15, .iload_n 1, 1), (16, .invokevirtual 287, 3), (19, .goto 5, 3), (22, .bipush (-3), 2), (24, .ireturn, 1)])
theorem okX8_at : mtOK mtX8_at 1 := ⟨mg_in (tb4 (i := 125) rfl) rfl, mg_in (tb1 (i := 1) rfl) rfl, by decide, ⟨by decide, by decide, by decide⟩, by decide +kernel, by decide⟩
theorem vkX8_at : mVok mtX8_at 1 8 := ⟨okX8_at, mg_in (tb4 (i := 123) rfl) rfl, mg_in (tb4 (i := 124) rfl) rfl, TX8, 13, rfl⟩
def mtX8_doubt : mT := (⟨"MondayDeal", "doubt", "(II)J"⟩, prog_1_method_34_code, 7, some .long, [(0, .iload_n 1, 1), (1, .invokestatic 101, 3), (4, .ifCond .ne 7, 3), (7, .ldc2_w 290, 3), (10, .lreturn, 1), (11, .aload_n 0, 1), (12, .iload_n 2, 1), (13, .invokevirtual 204, 3), (16, .istore_n 3, 1), (17, .iload_n 3, 1), (18, .ifCond .eq 6, 3), (21, .iload_n 3, 1), (22, .i2l, 1), (23, .lreturn, 1), (24, .aload_n 0, 1), (25, .getfield 43, 3), (28, .getfield 171, 3), (31, .iconst 4, 1), (32, .invokestatic 292, 3), (35, .istore 4, 2), (37, .iload 4, 2), (39, .aload_n 0, 1), (40, .getfield 43, 3), (43, .iload_n 1, 1), (44, .invokevirtual 297, 3), (47, .aload_n 0, 1), (48, .getfield 29, 3), (51, .getfield 117, 3), (54, .iload_n 1, 1), (55, .aaload, 1), (56, .iconst 0, 1), (57, .iaload, 1), (58, .aload_n 0, 1), (59, .getfield 29, 3), (62, .getfield 153, 3), (65, .invokestatic 300, 3), (68, .lstore 5, 2), (70, .lload 5, 2), (72, .aload_n 0, 1), (73, .getfield 29, 3), (76, .getfield 153, 3), (79, .i2l, 1), (80, .iload 4, 2), (82, .invokestatic 304, 3), (85, .iload_n 2, 1), (86, .invokestatic 254, 3), (89, .lreturn, 1)])
theorem okX8_doubt : mtOK mtX8_doubt 2 := ⟨mg_in (tb4 (i := 135) rfl) rfl, mg_in (tb1 (i := 1) rfl) rfl, by decide, ⟨by decide, by decide, by decide⟩, by decide +kernel, by decide⟩
theorem vkX8_doubt : mVok mtX8_doubt 2 8 := ⟨okX8_doubt, mg_in (tb4 (i := 133) rfl) rfl, mg_in (tb4 (i := 134) rfl) rfl, TX8, 13, rfl⟩
def mtX8_loose : mT := (⟨"MondayDeal", "loose", "(III)I"⟩, prog_1_method_35_code, 5, some .int, [(0, .iload_n 1, 1), (1, .iload_n 2, 1), (2, .invokestatic 248, 3), (5, .ifCond .ne 6, 3), (8, .bipush (-2), 2), (10, .ireturn, 1), (11, .iload_n 3, 1), (12, .invokestatic 238, 3), (15, .ifCond .ne 6, 3), (18, .bipush (-3), 2), (20, .ireturn, 1), (21, .aload_n 0, 1), (22, .getfield 19, 3), (25, .iload_n 1, 1), (26, .iload_n 2, 1), (27, .invokevirtual 308, 3), (30, .istore 4, 2), (32, .iload_n 3, 1), (33, .ifCond .ne 11, 3), (36, .iload 4, 2), (38, .invokestatic 190, 3), (41, .goto 5, 3), (44, .iload 4, 2), (46, .ireturn, 1)])
theorem okX8_loose : mtOK mtX8_loose 3 := ⟨mg_in (tb4 (i := 152) rfl) rfl, mg_in (tb1 (i := 1) rfl) rfl, by decide, ⟨by decide, by decide, by decide⟩, by decide +kernel, by decide⟩
theorem vkX8_loose : mVok mtX8_loose 3 8 := ⟨okX8_loose, mg_in (tb4 (i := 150) rfl) rfl, mg_in (tb4 (i := 151) rfl) rfl, TX8, 13, rfl⟩
def mtX8_count : mT := (⟨"MondayDeal", "count", "(I)I"⟩, prog_1_method_36_code, 2, some .int, [(0, .iload_n 1, 1), (1, .tableswitch 123 0 8 #[51, 59, 67, 75, 83, 91, 99, 107, 115], 51), (52, .aload_n 0, 1), (53, .getfield 19, 3), (56, .getfield 220, 3), (59, .ireturn, 1), (60, .aload_n 0, 1), (61, .getfield 19, 3), (64, .getfield 311, 3), (67, .ireturn, 1), (68, .aload_n 0, 1), (69, .getfield 43, 3), (72, .getfield 171, 3), (75, .ireturn, 1), (76, .aload_n 0, 1), (77, .getfield 43, 3), (80, .getfield 314, 3), (83, .ireturn, 1), (84, .aload_n 0, 1), (85, .getfield 43, 3), (88, .invokevirtual 186, 3), (91, .ireturn, 1), (92, .aload_n 0, 1), (93, .getfield 65, 3), (96, .getfield 265, 3), (99, .ireturn, 1), (100, .aload_n 0, 1), (101, .getfield 72, 3), (104, .getfield 275, 3), (107, .ireturn, 1), (108, .aload_n 0, 1), (109, .getfield 50, 3), (112, .getfield 195, 3), (115, .ireturn, 1), (116, .aload_n 0, 1), (117, .getfield 10, 3), (120, .getfield 82, 3), (123, .ireturn, 1), (124, .bipush (-3), 2), (126, .ireturn, 1)])
theorem okX8_count : mtOK mtX8_count 1 := ⟨mg_in (tb4 (i := 170) rfl) rfl, mg_in (tb1 (i := 1) rfl) rfl, by decide, ⟨by decide, by decide, by decide⟩, by decide +kernel, by decide⟩
theorem vkX8_count : mVok mtX8_count 1 8 := ⟨okX8_count, mg_in (tb4 (i := 168) rfl) rfl, mg_in (tb4 (i := 169) rfl) rfl, TX8, 13, rfl⟩
def mtX8_startAnew : mT := (⟨"MondayDeal", "startAnew", "()V"⟩, prog_1_method_37_code, 2, none, [(0, .aload_n 0, 1), (1, .getfield 43, 3), (4, .invokevirtual 317, 3), (7, .aload_n 0, 1), (8, .getfield 50, 3), (11, .iconst 0, 1), (12, .putfield 195, 3), (15, .aload_n 0, 1), (16, .getfield 65, 3), (19, .iconst 0, 1), (20, .putfield 265, 3), (23, .aload_n 0, 1), (24, .getfield 72, 3), (27, .iconst 0, 1), (28, .putfield 275, 3), (31, .iconst 0, 1), (32, .istore_n 1, 1), (33, .iload_n 1, 1), (34, .iconst 2, 1), (35, .if_icmp .ge 16, 3), (38, .aload_n 0, 1), (39, .getfield 58, 3), (42, .iload_n 1, 1), (43, .iconst 0, 1), (44, .bastore, 1), (45, .iinc 1 1, 3), (48, .goto (-15), 3), (51, .aload_n 0, 1), (52, .iconst 0, 1), (53, .putfield 318, 3), (56, .aload_n 0, 1), (57, .iconst 0, 1), (58, .putfield 178, 3), (61, .return_, 1)])
theorem okX8_startAnew : mtOK mtX8_startAnew 0 := ⟨mg_in (tb2 (i := 54) rfl) rfl, mg_in (tb1 (i := 1) rfl) rfl, by decide, ⟨by decide, by decide, by decide⟩, by decide +kernel, by decide⟩
theorem vkX8_startAnew : mVok mtX8_startAnew 0 8 := ⟨okX8_startAnew, mg_in (tb2 (i := 53) rfl) rfl, mg_sel (List.mem_of_getElem? (i := 0) rfl) rfl, TX8, 13, rfl⟩
def mtX8_listed : mT := (⟨"MondayDeal", "listed", "()LMondayDeal$Orders;"⟩, prog_1_method_38_code, 1, some (.object "MondayDeal$Orders"), [(0, .aload_n 0, 1), (1, .getfield 318, 3), (4, .ifCond .ne 19, 3), (7, .aload_n 0, 1), (8, .getfield 29, 3), (11, .aload_n 0, 1), (12, .getfield 19, 3), (15, .invokevirtual 321, 3), (18, .aload_n 0, 1), (19, .iconst 1, 1), (20, .putfield 318, 3), (23, .aload_n 0, 1), (24, .getfield 29, 3), (27, .areturn, 1)])
theorem okX8_listed : mtOK mtX8_listed 0 := ⟨mg_in (tb3 (i := 15) rfl) rfl, mg_in (tb1 (i := 1) rfl) rfl, by decide, ⟨by decide, by decide, by decide⟩, by decide +kernel, by decide⟩
theorem vkX8_listed : mVok mtX8_listed 0 8 := ⟨okX8_listed, mg_in (tb3 (i := 14) rfl) rfl, mg_sel (List.mem_of_getElem? (i := 11) rfl) rfl, TX8, 13, rfl⟩
def mtX8_foretold : mT := (⟨"MondayDeal", "foretold", "()LMondayDeal$Outlook;"⟩, prog_1_method_39_code, 1, some (.object "MondayDeal$Outlook"), [(0, .aload_n 0, 1), (1, .getfield 178, 3), (4, .ifCond .ne 27, 3), (7, .aload_n 0, 1), (8, .getfield 36, 3), (11, .aload_n 0, 1), (12, .getfield 19, 3), (15, .aload_n 0, 1), (16, .getfield 43, 3), (19, .aload_n 0, 1), (20, .invokevirtual 113, 3), (23, .invokevirtual 324, 3), (26, .aload_n 0, 1), (27, .iconst 1, 1), (28, .putfield 178, 3), (31, .aload_n 0, 1), (32, .getfield 36, 3), (35, .areturn, 1)])
theorem okX8_foretold : mtOK mtX8_foretold 0 := ⟨mg_in (tb3 (i := 201) rfl) rfl, mg_in (tb1 (i := 1) rfl) rfl, by decide, ⟨by decide, by decide, by decide⟩, by decide +kernel, by decide⟩
theorem vkX8_foretold : mVok mtX8_foretold 0 8 := ⟨okX8_foretold, mg_in (tb3 (i := 200) rfl) rfl, mg_sel (List.mem_of_getElem? (i := 25) rfl) rfl, TX8, 13, rfl⟩
def mtX8_refusalOf : mT := (⟨"MondayDeal", "refusalOf", "(I)I"⟩, prog_1_method_40_code, 2, some .int, [(0, .iload_n 1, 1), (1, .invokestatic 238, 3), (4, .ifCond .ne 6, 3), (7, .bipush (-3), 2), (9, .ireturn, 1), (10, .aload_n 0, 1), (11, .invokevirtual 113, 3), (14, .getfield 153, 3), (17, .ifCond .ne 8, 3), (20, .bipush (-4), 2), (22, .goto 4, 3), (25, .iconst 0, 1), (26, .ireturn, 1)])
theorem okX8_refusalOf : mtOK mtX8_refusalOf 1 := ⟨mg_in (tb3 (i := 194) rfl) rfl, mg_in (tb1 (i := 1) rfl) rfl, by decide, ⟨by decide, by decide, by decide⟩, by decide +kernel, by decide⟩
theorem vkX8_refusalOf : mVok mtX8_refusalOf 1 8 := ⟨okX8_refusalOf, mg_in (tb3 (i := 193) rfl) rfl, mg_sel (List.mem_of_getElem? (i := 24) rfl) rfl, TX8, 13, rfl⟩
def mtX8_partOfOrders : mT := (⟨"MondayDeal", "partOfOrders", "(II)I"⟩, prog_1_method_41_code, 3, some .int, [(0, .iload_n 1, 1), (1, .i2l, 1), (2, .aload_n 0, 1), (3, .getfield 29, 3), (6, .getfield 153, 3), (9, .i2l, 1), (10, .iload_n 2, 1), (11, .invokestatic 254, 3), (14, .l2i, 1), (15, .ireturn, 1)])
theorem okX8_partOfOrders : mtOK mtX8_partOfOrders 2 := ⟨mg_in (tb3 (i := 232) rfl) rfl, mg_in (tb1 (i := 1) rfl) rfl, by decide, ⟨by decide, by decide, by decide⟩, by decide +kernel, by decide⟩
theorem vkX8_partOfOrders : mVok mtX8_partOfOrders 2 8 := ⟨okX8_partOfOrders, mg_in (tb3 (i := 231) rfl) rfl, mg_sel (List.mem_of_getElem? (i := 28) rfl) rfl, TX8, 13, rfl⟩
def mtX8_isWork : mT := (⟨"MondayDeal", "isWork", "(I)Z"⟩, prog_1_method_42_code, 2, some .boolean, [(0, .iload_n 1, 1), (1, .ifCond .lt 18, 3), (4, .iload_n 1, 1), (5, .aload_n 0, 1), (6, .getfield 19, 3), (9, .getfield 220, 3), (12, .if_icmp .ge 7, 3), (15, .iconst 1, 1), (16, .goto 4, 3), (19, .iconst 0, 1), (20, .ireturn, 1)])
theorem okX8_isWork : mtOK mtX8_isWork 1 := ⟨mg_in (tb3 (i := 44) rfl) rfl, mg_in (tb1 (i := 1) rfl) rfl, by decide, ⟨by decide, by decide, by decide⟩, by decide +kernel, by decide⟩
theorem vkX8_isWork : mVok mtX8_isWork 1 8 := ⟨okX8_isWork, mg_in (tb3 (i := 43) rfl) rfl, mg_sel (List.mem_of_getElem? (i := 15) rfl) rfl, TX8, 13, rfl⟩
def mtX8_isOrder : mT := (⟨"MondayDeal", "isOrder", "(I)Z"⟩, prog_1_method_43_code, 2, some .boolean, [(0, .iload_n 1, 1), (1, .ifCond .lt 18, 3), (4, .iload_n 1, 1), (5, .aload_n 0, 1), (6, .invokevirtual 113, 3), (9, .getfield 153, 3), (12, .if_icmp .ge 7, 3), (15, .iconst 1, 1), (16, .goto 4, 3), (19, .iconst 0, 1), (20, .ireturn, 1)])
theorem okX8_isOrder : mtOK mtX8_isOrder 1 := ⟨mg_in (tb3 (i := 68) rfl) rfl, mg_in (tb1 (i := 1) rfl) rfl, by decide, ⟨by decide, by decide, by decide⟩, by decide +kernel, by decide⟩
theorem vkX8_isOrder : mVok mtX8_isOrder 1 8 := ⟨okX8_isOrder, mg_in (tb3 (i := 67) rfl) rfl, mg_sel (List.mem_of_getElem? (i := 16) rfl) rfl, TX8, 13, rfl⟩
def mtX8_isDay : mT := (⟨"MondayDeal", "isDay", "(I)Z"⟩, prog_1_method_44_code, 1, some .boolean, [(0, .iload_n 0, 1), (1, .ifCond .lt 13, 3), (4, .iload_n 0, 1), (5, .bipush 7, 2), (7, .if_icmp .ge 7, 3), (10, .iconst 1, 1), (11, .goto 4, 3), (14, .iconst 0, 1), (15, .ireturn, 1)])
theorem okX8_isDay : mtOK mtX8_isDay 1 := ⟨mg_in (tb3 (i := 7) rfl) rfl, mg_in (tb1 (i := 1) rfl) rfl, by decide, ⟨by decide, by decide, by decide⟩, by decide +kernel, by decide⟩
theorem skX8_isDay : mSok mtX8_isDay 1 := ⟨okX8_isDay, mg_in (tb3 (i := 6) rfl) rfl⟩
def mtX8_areTwoDays : mT := (⟨"MondayDeal", "areTwoDays", "(II)Z"⟩, prog_1_method_45_code, 2, some .boolean, [(0, .iload_n 0, 1), (1, .invokestatic 101, 3), (4, .ifCond .eq 19, 3), (7, .iload_n 1, 1), (8, .invokestatic 101, 3), (11, .ifCond .eq 12, 3), (14, .iload_n 0, 1), (15, .iload_n 1, 1), (16, .if_icmp .eq 7, 3), (19, .iconst 1, 1), (20, .goto 4, 3), (23, .iconst 0, 1), (24, .ireturn, 1)])
theorem okX8_areTwoDays : mtOK mtX8_areTwoDays 2 := ⟨mg_in (tb4 (i := 42) rfl) rfl, mg_in (tb1 (i := 1) rfl) rfl, by decide, ⟨by decide, by decide, by decide⟩, by decide +kernel, by decide⟩
theorem skX8_areTwoDays : mSok mtX8_areTwoDays 2 := ⟨okX8_areTwoDays, mg_in (tb4 (i := 41) rfl) rfl⟩
def mtX8_isPlace : mT := (⟨"MondayDeal", "isPlace", "(I)Z"⟩, prog_1_method_46_code, 1, some .boolean, [(0, .iload_n 0, 1), (1, .ifCond .lt 13, 3), (4, .iload_n 0, 1), (5, .bipush 7, 2), (7, .if_icmp .ge 7, 3), (10, .iconst 1, 1), (11, .goto 4, 3), (14, .iconst 0, 1), (15, .ireturn, 1)])
theorem okX8_isPlace : mtOK mtX8_isPlace 1 := ⟨mg_in (tb3 (i := 71) rfl) rfl, mg_in (tb1 (i := 1) rfl) rfl, by decide, ⟨by decide, by decide, by decide⟩, by decide +kernel, by decide⟩
theorem skX8_isPlace : mSok mtX8_isPlace 1 := ⟨okX8_isPlace, mg_in (tb3 (i := 70) rfl) rfl⟩
def mtX8_isKeep : mT := (⟨"MondayDeal", "isKeep", "(I)Z"⟩, prog_1_method_47_code, 1, some .boolean, [(0, .iload_n 0, 1), (1, .ifCond .lt 12, 3), (4, .iload_n 0, 1), (5, .iconst 2, 1), (6, .if_icmp .ge 7, 3), (9, .iconst 1, 1), (10, .goto 4, 3), (13, .iconst 0, 1), (14, .ireturn, 1)])
theorem okX8_isKeep : mtOK mtX8_isKeep 1 := ⟨mg_in (tb3 (i := 181) rfl) rfl, mg_in (tb1 (i := 1) rfl) rfl, by decide, ⟨by decide, by decide, by decide⟩, by decide +kernel, by decide⟩
theorem skX8_isKeep : mSok mtX8_isKeep 1 := ⟨okX8_isKeep, mg_in (tb3 (i := 180) rfl) rfl⟩
def mtX8_isOneOfTwo : mT := (⟨"MondayDeal", "isOneOfTwo", "(I)Z"⟩, prog_1_method_48_code, 1, some .boolean, [(0, .iload_n 0, 1), (1, .ifCond .eq 8, 3), (4, .iload_n 0, 1), (5, .iconst 1, 1), (6, .if_icmp .ne 7, 3), (9, .iconst 1, 1), (10, .goto 4, 3), (13, .iconst 0, 1), (14, .ireturn, 1)])
theorem okX8_isOneOfTwo : mtOK mtX8_isOneOfTwo 1 := ⟨mg_in (tb3 (i := 197) rfl) rfl, mg_in (tb1 (i := 1) rfl) rfl, by decide, ⟨by decide, by decide, by decide⟩, by decide +kernel, by decide⟩
theorem skX8_isOneOfTwo : mSok mtX8_isOneOfTwo 1 := ⟨okX8_isOneOfTwo, mg_in (tb3 (i := 196) rfl) rfl⟩
def mtX8_inLowestTerms : mT := (⟨"MondayDeal", "inLowestTerms", "(JJI)J"⟩, prog_1_method_49_code, 7, some .long, [(0, .lload_n 0, 1), (1, .lload_n 2, 1), (2, .invokestatic 328, 3), (5, .lstore 5, 2), (7, .lload 5, 2), (9, .lconst 0, 1), (10, .lcmp, 1), (11, .ifCond .ne 5, 3), (14, .lconst 0, 1), (15, .lreturn, 1), (16, .iload 4, 2), (18, .ifCond .ne 10, 3), (21, .lload_n 0, 1), (22, .lload 5, 2), (24, .ldiv, 1), (25, .goto 7, 3), (28, .lload_n 2, 1), (29, .lload 5, 2), (31, .ldiv, 1), (32, .lreturn, 1)])
theorem okX8_inLowestTerms : mtOK mtX8_inLowestTerms 3 := ⟨mg_in (tb3 (i := 235) rfl) rfl, mg_in (tb1 (i := 1) rfl) rfl, by decide, ⟨by decide, by decide, by decide⟩, by decide +kernel, by decide⟩
theorem skX8_inLowestTerms : mSok mtX8_inLowestTerms 3 := ⟨okX8_inLowestTerms, mg_in (tb3 (i := 234) rfl) rfl⟩
def mtX8_commonDivisor : mT := (⟨"MondayDeal", "commonDivisor", "(JJ)J"⟩, prog_1_method_50_code, 11, some .long, [(0, .lload_n 0, 1), (1, .lstore 4, 2), (3, .lload_n 2, 1), (4, .lstore 6, 2), (6, .iconst 0, 1), (7, .istore 8, 2), (9, .iload 8, 2), (11, .sipush 130, 3), (14, .if_icmp .ge 31, 3), (17, .lload 6, 2), (19, .lconst 0, 1), (20, .lcmp, 1), (21, .ifCond .eq 24, 3), (24, .lload 4, 2), (26, .lload 6, 2), (28, .lrem, 1), (29, .lstore 9, 2), (31, .lload 6, 2), (33, .lstore 4, 2), (35, .lload 9, 2), (37, .lstore 6, 2), (39, .iinc 8 1, 3), (42, .goto (-33), 3), (45, .lload 4, 2), (47, .lreturn, 1)])
theorem okX8_commonDivisor : mtOK mtX8_commonDivisor 2 := ⟨mg_in (tb3 (i := 238) rfl) rfl, mg_in (tb1 (i := 1) rfl) rfl, by decide, ⟨by decide, by decide, by decide⟩, by decide +kernel, by decide⟩
theorem skX8_commonDivisor : mSok mtX8_commonDivisor 2 := ⟨okX8_commonDivisor, mg_in (tb3 (i := 237) rfl) rfl⟩
def mtX8_power : mT := (⟨"MondayDeal", "power", "(JI)J"⟩, prog_1_method_51_code, 6, some .long, [(0, .lconst 1, 1), (1, .lstore_n 3, 1), (2, .iconst 0, 1), (3, .istore 5, 2), (5, .iload 5, 2), (7, .iload_n 2, 1), (8, .if_icmp .ge 13, 3), (11, .lload_n 3, 1), (12, .lload_n 0, 1), (13, .lmul, 1), (14, .lstore_n 3, 1), (15, .iinc 5 1, 3), (18, .goto (-13), 3), (21, .lload_n 3, 1), (22, .lreturn, 1)])
theorem okX8_power : mtOK mtX8_power 2 := ⟨mg_in (tb4 (i := 148) rfl) rfl, mg_in (tb1 (i := 1) rfl) rfl, by decide, ⟨by decide, by decide, by decide⟩, by decide +kernel, by decide⟩
theorem skX8_power : mSok mtX8_power 2 := ⟨okX8_power, mg_in (tb4 (i := 147) rfl) rfl⟩
def mtX8_waysAtLeast : mT := (⟨"MondayDeal", "waysAtLeast", "(IIII)J"⟩, prog_1_method_52_code, 9, some .long, [(0, .lconst 0, 1), (1, .lstore 4, 2), (3, .lconst 1, 1), (4, .lstore 6, 2), (6, .iconst 0, 1), (7, .istore 8, 2), (9, .iload 8, 2), (11, .iload_n 0, 1), (12, .if_icmp .gt 58, 3), (15, .iload 8, 2), (17, .iload_n 1, 1), (18, .if_icmp .lt 30, 3), (21, .lload 4, 2), (23, .lload 6, 2), (25, .iload_n 2, 1), (26, .i2l, 1), (27, .iload 8, 2), (29, .invokestatic 304, 3), (32, .lmul, 1), (33, .iload_n 3, 1), (34, .iload_n 2, 1), (35, .isub, 1), (36, .i2l, 1), (37, .iload_n 0, 1), (38, .iload 8, 2), (40, .isub, 1), (41, .invokestatic 304, 3), (44, .lmul, 1), (45, .ladd, 1), (46, .lstore 4, 2), (48, .lload 6, 2), (50, .iload_n 0, 1), (51, .iload 8, 2), (53, .isub, 1), (54, .i2l, 1), (55, .lmul, 1), (56, .iload 8, 2), (58, .iconst 1, 1), (59, .iadd, 1), (60, .i2l, 1), (61, .ldiv, 1), (62, .lstore 6, 2), (64, .iinc 8 1, 3), (67, .goto (-58), 3), (70, .lload 4, 2), (72, .lreturn, 1)])
theorem okX8_waysAtLeast : mtOK mtX8_waysAtLeast 4 := ⟨mg_in (tb4 (i := 145) rfl) rfl, mg_in (tb1 (i := 1) rfl) rfl, by decide, ⟨by decide, by decide, by decide⟩, by decide +kernel, by decide⟩
theorem skX8_waysAtLeast : mSok mtX8_waysAtLeast 4 := ⟨okX8_waysAtLeast, mg_in (tb4 (i := 144) rfl) rfl⟩
def mtX9_init : mT := (⟨"MondayDealModel", "<init>", "()V"⟩, prog_11_method_1_code, 1, none, [(0, .aload_n 0, 1), (1, .invokespecial 1, 3), (4, .aload_n 0, 1), (5, .sipush 216, 3), (8, .newarray .int, 2), (10, .putfield 7, 3), (13, .aload_n 0, 1), (14, .iconst 2, 1), (15, .newarray .boolean, 2), (17, .putfield 13, 3), (20, .aload_n 0, 1), (21, .sipush 160, 3), (24, .newarray .int, 2), (26, .putfield 17, 3), (29, .aload_n 0, 1), (30, .bipush 56, 2), (32, .newarray .int, 2), (34, .putfield 20, 3), (37, .aload_n 0, 1), (38, .bipush 7, 2), (40, .newarray .int, 2), (42, .putfield 23, 3), (45, .aload_n 0, 1), (46, .bipush 6, 2), (48, .newarray .int, 2), (50, .putfield 26, 3), (53, .aload_n 0, 1), (54, .bipush 6, 2), (56, .newarray .int, 2), (58, .putfield 29, 3), (61, .aload_n 0, 1), (62, .bipush 6, 2), (64, .newarray .int, 2), (66, .putfield 32, 3), (69, .aload_n 0, 1), (70, .bipush 6, 2), (72, .newarray .int, 2), (74, .putfield 35, 3), (77, .aload_n 0, 1), (78, .bipush 6, 2), (80, .newarray .int, 2), (82, .putfield 38, 3), (85, .aload_n 0, 1), (86, .bipush 18, 2), (88, .newarray .int, 2), (90, .putfield 41, 3), (93, .aload_n 0, 1), (94, .sipush 5040, 3), (97, .newarray .int, 2), (99, .putfield 44, 3), (102, .aload_n 0, 1), (103, .bipush 18, 2), (105, .newarray .int, 2), (107, .putfield 47, 3), (110, .aload_n 0, 1), (111, .bipush 24, 2), (113, .newarray .int, 2), (115, .putfield 50, 3), (118, .aload_n 0, 1), (119, .invokevirtual 53, 3), (122, .return_, 1)])
theorem okX9_init : mtOK mtX9_init 0 := ⟨mg_in (tb4 (i := 175) rfl) rfl, mg_in (tb1 (i := 11) rfl) rfl, by decide, ⟨by decide, by decide, by decide⟩, by decide +kernel, by decide⟩
def mtX9_in : mT := (⟨"MondayDealModel", "in", "(JJJ)Z"⟩, prog_11_method_2_code, 6, some .boolean, [(0, .lload_n 0, 1), (1, .lload_n 2, 1), (2, .lcmp, 1), (3, .ifCond .lt 14, 3), (6, .lload_n 0, 1), (7, .lload 4, 2), (9, .lcmp, 1), (10, .ifCond .gt 7, 3), (13, .iconst 1, 1), (14, .goto 4, 3), (17, .iconst 0, 1), (18, .ireturn, 1)])
theorem okX9_in : mtOK mtX9_in 3 := ⟨mg_in (tb5 (i := 54) rfl) rfl, mg_in (tb1 (i := 11) rfl) rfl, by decide, ⟨by decide, by decide, by decide⟩, by decide +kernel, by decide⟩
theorem skX9_in : mSok mtX9_in 3 := ⟨okX9_in, mg_in (tb5 (i := 53) rfl) rfl⟩
def mtX9_has : mT := (⟨"MondayDealModel", "has", "(II)Z"⟩, prog_11_method_3_code, 2, some .boolean, [(0, .iload_n 0, 1), (1, .iload_n 1, 1), (2, .ishr, 1), (3, .iconst 1, 1), (4, .iand, 1), (5, .iconst 1, 1), (6, .if_icmp .ne 7, 3), (9, .iconst 1, 1), (10, .goto 4, 3), (13, .iconst 0, 1), (14, .ireturn, 1)])
theorem okX9_has : mtOK mtX9_has 2 := ⟨mg_in (tb4 (i := 190) rfl) rfl, mg_in (tb1 (i := 11) rfl) rfl, by decide, ⟨by decide, by decide, by decide⟩, by decide +kernel, by decide⟩
theorem skX9_has : mSok mtX9_has 2 := ⟨okX9_has, mg_in (tb4 (i := 189) rfl) rfl⟩
def mtX9_bits : mT := (⟨"MondayDealModel", "bits", "(I)I"⟩, prog_11_method_4_code, 3, some .int, [(0, .iconst 0, 1), (1, .istore_n 1, 1), (2, .iconst 0, 1), (3, .istore_n 2, 1), (4, .iload_n 2, 1), (5, .bipush 7, 2), (7, .if_icmp .ge 17, 3), (10, .iload_n 1, 1), (11, .iload_n 0, 1), (12, .iload_n 2, 1), (13, .ishr, 1), (14, .iconst 1, 1), (15, .iand, 1), (16, .iadd, 1), (17, .istore_n 1, 1), (18, .iinc 2 1, 3), (21, .goto (-17), 3), (24, .iload_n 1, 1), (25, .ireturn, 1)])
theorem okX9_bits : mtOK mtX9_bits 1 := ⟨mg_in (tb5 (i := 212) rfl) rfl, mg_in (tb1 (i := 11) rfl) rfl, by decide, ⟨by decide, by decide, by decide⟩, by decide +kernel, by decide⟩
theorem skX9_bits : mSok mtX9_bits 1 := ⟨okX9_bits, mg_in (tb5 (i := 211) rfl) rfl⟩
def mtX9_write : mT := (⟨"MondayDealModel", "write", "(I)I"⟩, prog_11_method_5_code, 2, some .int, [(0, .iload_n 1, 1), (1, .i2l, 1), (2, .lconst 0, 1), (3, .ldc2_w 56, 3), (6, .invokestatic 58, 3), (9, .ifCond .ne 6, 3), (12, .bipush (-3), 2), (14, .ireturn, 1), (15, .aload_n 0, 1), (16, .getfield 62, 3), (19, .sipush 160, 3), (22, .if_icmp .ne 6, 3), (25, .bipush (-5), 2), (27, .ireturn, 1), (28, .aload_n 0, 1), (29, .getfield 17, 3), (32, .aload_n 0, 1), (33, .getfield 62, 3), (36, .iload_n 1, 1), (37, .iastore, 1), (38, .aload_n 0, 1), (39, .dup, 1), (40, .getfield 62, 3), (43, .iconst 1, 1), (44, .iadd, 1), (45, .putfield 62, 3), (48, .aload_n 0, 1), (49, .getfield 62, 3), (52, .ireturn, 1)])
theorem okX9_write : mtOK mtX9_write 1 := ⟨mg_in (tb5 (i := 50) rfl) rfl, mg_in (tb1 (i := 11) rfl) rfl, by decide, ⟨by decide, by decide, by decide⟩, by decide +kernel, by decide⟩
theorem vkX9_write : mVok mtX9_write 1 9 := ⟨okX9_write, mg_in (tb5 (i := 48) rfl) rfl, mg_in (tb5 (i := 49) rfl) rfl, TX9, 27, rfl⟩
def mtX9_erase : mT := (⟨"MondayDealModel", "erase", "()I"⟩, prog_11_method_6_code, 2, some .int, [(0, .aload_n 0, 1), (1, .getfield 62, 3), (4, .istore_n 1, 1), (5, .aload_n 0, 1), (6, .iconst 0, 1), (7, .putfield 62, 3), (10, .iload_n 1, 1), (11, .ireturn, 1)])
theorem okX9_erase : mtOK mtX9_erase 0 := ⟨mg_in (tb5 (i := 58) rfl) rfl, mg_in (tb1 (i := 11) rfl) rfl, by decide, ⟨by decide, by decide, by decide⟩, by decide +kernel, by decide⟩
theorem vkX9_erase : mVok mtX9_erase 0 9 := ⟨okX9_erase, mg_in (tb5 (i := 56) rfl) rfl, mg_in (tb5 (i := 57) rfl) rfl, TX9, 27, rfl⟩
def mtX9_sort : mT := (⟨"MondayDealModel", "sort", "(I)I"⟩, prog_11_method_7_code, 1, some .int, [(0, .iload_n 0, 1), (1, .bipush 97, 2), (3, .if_icmp .lt 13, 3), (6, .iload_n 0, 1), (7, .bipush 122, 2), (9, .if_icmp .gt 7, 3), (12, .iconst 1, 1), (13, .goto 20, 3), (16, .iload_n 0, 1), (17, .bipush 48, 2), (19, .if_icmp .lt 13, 3), (22, .iload_n 0, 1), (23, .bipush 57, 2), (25, .if_icmp .gt 7, 3), (28, .iconst 2, 1), (29, .goto 4, 3), (32, .iconst 0, 1), (33, .ireturn, 1)])
theorem okX9_sort : mtOK mtX9_sort 1 := ⟨mg_in (tb5 (i := 69) rfl) rfl, mg_in (tb1 (i := 11) rfl) rfl, by decide, ⟨by decide, by decide, by decide⟩, by decide +kernel, by decide⟩
theorem skX9_sort : mSok mtX9_sort 1 := ⟨okX9_sort, mg_in (tb5 (i := 68) rfl) rfl⟩
def mtX9_token : mT := (⟨"MondayDealModel", "token", "()V"⟩, prog_11_method_8_code, 1, none, [(0, .aload_n 0, 1), (1, .getfield 66, 3), (4, .aload_n 0, 1), (5, .getfield 62, 3), (8, .if_icmp .ge 30, 3), (11, .aload_n 0, 1), (12, .getfield 17, 3), (15, .aload_n 0, 1), (16, .getfield 66, 3), (19, .iaload, 1), (20, .bipush 32, 2), (22, .if_icmp .ne 16, 3), (25, .aload_n 0, 1), (26, .dup, 1), (27, .getfield 66, 3), (30, .iconst 1, 1), (31, .iadd, 1), (32, .putfield 66, 3), (35, .goto (-35), 3), (38, .aload_n 0, 1), (39, .aload_n 0, 1), (40, .getfield 66, 3), (43, .putfield 69, 3), (46, .aload_n 0, 1), (47, .dup, 1), (48, .getfield 66, 3), (51, .aload_n 0, 1), (52, .getfield 66, 3), (55, .aload_n 0, 1), (56, .getfield 62, 3), (59, .if_icmp .ge 7, 3), (62, .iconst 1, 1), (63, .goto 4, 3), (66, .iconst 0, 1), (67, .iadd, 1), (68, .putfield 66, 3), (71, .aload_n 0, 1), (72, .getfield 66, 3), (75, .aload_n 0, 1), (76, .getfield 62, 3), (79, .if_icmp .ge 58, 3), (82, .aload_n 0, 1), (83, .getfield 17, 3), (86, .aload_n 0, 1), (87, .getfield 69, 3), (90, .iaload, 1), (91, .invokestatic 72, 3), (94, .ifCond .le 43, 3), (97, .aload_n 0, 1), (98, .getfield 17, 3), (101, .aload_n 0, 1), (102, .getfield 66, 3), (105, .iaload, 1), (106, .invokestatic 72, 3), (109, .aload_n 0, 1), (110, .getfield 17, 3), (113, .aload_n 0, 1), (114, .getfield 69, 3), (117, .iaload, 1), (118, .invokestatic 72, 3), (121, .if_icmp .ne 16, 3), (124, .aload_n 0, 1), (125, .dup, 1), (126, .getfield 66, 3), (129, .iconst 1, 1), (130, .iadd, 1), (131, .putfield 66, 3), (134, .goto (-63), 3), (137, .aload_n 0, 1), (138, .aload_n 0, 1), (139, .getfield 66, 3), (142, .putfield 76, 3), (145, .return_, 1)])
theorem okX9_token : mtOK mtX9_token 0 := ⟨mg_in (tb5 (i := 66) rfl) rfl, mg_in (tb1 (i := 11) rfl) rfl, by decide, ⟨by decide, by decide, by decide⟩, by decide +kernel, by decide⟩
theorem vkX9_token : mVok mtX9_token 0 9 := ⟨okX9_token, mg_in (tb5 (i := 65) rfl) rfl, mg_sel (List.mem_of_getElem? (i := 36) rfl) rfl, TX9, 27, rfl⟩
def mtX9_isWord : mT := (⟨"MondayDealModel", "isWord", "(III)Z"⟩, prog_11_method_9_code, 6, some .boolean, [(0, .aload_n 0, 1), (1, .getfield 76, 3), (4, .aload_n 0, 1), (5, .getfield 69, 3), (8, .isub, 1), (9, .iload_n 2, 1), (10, .if_icmp .ne 7, 3), (13, .iconst 1, 1), (14, .goto 4, 3), (17, .iconst 0, 1), (18, .istore 4, 2), (20, .iconst 0, 1), (21, .istore 5, 2), (23, .iload 4, 2), (25, .ifCond .eq 71, 3), (28, .iload 5, 2), (30, .iload_n 2, 1), (31, .if_icmp .ge 65, 3), (34, .aload_n 0, 1), (35, .getfield 17, 3), (38, .aload_n 0, 1), (39, .getfield 69, 3), (42, .iload 5, 2), (44, .iadd, 1), (45, .iaload, 1), (46, .bipush 96, 2), (48, .iload 5, 2), (50, .bipush 6, 2), (52, .if_icmp .ge 15, 3), (55, .iload_n 1, 1), (56, .iconst 5, 1), (57, .iload 5, 2), (59, .imul, 1), (60, .ishr, 1), (61, .bipush 31, 2), (63, .iand, 1), (64, .goto 15, 3), (67, .iload_n 3, 1), (68, .iconst 5, 1), (69, .iload 5, 2), (71, .bipush 6, 2), (73, .isub, 1), (74, .imul, 1), (75, .ishr, 1), (76, .bipush 31, 2), (78, .iand, 1), (79, .iadd, 1), (80, .if_icmp .ne 7, 3), (83, .iconst 1, 1), (84, .goto 4, 3), (87, .iconst 0, 1), (88, .istore 4, 2), (90, .iinc 5 1, 3), (93, .goto (-70), 3), (96, .iload 4, 2), (98, .ireturn, 1)])
theorem okX9_isWord : mtOK mtX9_isWord 3 := ⟨mg_in (tb5 (i := 86) rfl) rfl, mg_in (tb1 (i := 11) rfl) rfl, by decide, ⟨by decide, by decide, by decide⟩, by decide +kernel, by decide⟩
theorem vkX9_isWord : mVok mtX9_isWord 3 9 := ⟨okX9_isWord, mg_in (tb5 (i := 85) rfl) rfl, mg_sel (List.mem_of_getElem? (i := 40) rfl) rfl, TX9, 27, rfl⟩
def mtX9_dayWord : mT := (⟨"MondayDealModel", "dayWord", "()I"⟩, prog_11_method_10_code, 1, some .int, [(0, .aload_n 0, 1), (1, .ldc 79, 2), (3, .iconst 5, 1), (4, .iconst 0, 1), (5, .invokevirtual 80, 3), (8, .ifCond .eq 7, 3), (11, .iconst 1, 1), (12, .goto 50, 3), (15, .aload_n 0, 1), (16, .ldc 84, 2), (18, .bipush 6, 2), (20, .iconst 0, 1), (21, .invokevirtual 80, 3), (24, .ifCond .eq 7, 3), (27, .iconst 2, 1), (28, .goto 34, 3), (31, .aload_n 0, 1), (32, .ldc 85, 2), (34, .iconst 5, 1), (35, .iconst 0, 1), (36, .invokevirtual 80, 3), (39, .ifCond .eq 7, 3), (42, .iconst 3, 1), (43, .goto 19, 3), (46, .aload_n 0, 1), (47, .ldc 86, 2), (49, .iconst 4, 1), (50, .iconst 0, 1), (51, .invokevirtual 80, 3), (54, .ifCond .eq 7, 3), (57, .iconst 4, 1), (58, .goto 4, 3), (61, .iconst (-1), 1), (62, .ireturn, 1)])
theorem okX9_dayWord : mtOK mtX9_dayWord 0 := ⟨mg_in (tb5 (i := 81) rfl) rfl, mg_in (tb1 (i := 11) rfl) rfl, by decide, ⟨by decide, by decide, by decide⟩, by decide +kernel, by decide⟩
theorem vkX9_dayWord : mVok mtX9_dayWord 0 9 := ⟨okX9_dayWord, mg_in (tb5 (i := 80) rfl) rfl, mg_sel (List.mem_of_getElem? (i := 39) rfl) rfl, TX9, 27, rfl⟩
def mtX9_ruleWord : mT := (⟨"MondayDealModel", "ruleWord", "()I"⟩, prog_11_method_11_code, 1, some .int, [(0, .aload_n 0, 1), (1, .ldc 87, 2), (3, .iconst 5, 1), (4, .iconst 0, 1), (5, .invokevirtual 80, 3), (8, .ifCond .eq 8, 3), (11, .bipush 8, 2), (13, .goto 37, 3), (16, .aload_n 0, 1), (17, .ldc 88, 2), (19, .bipush 6, 2), (21, .iconst 0, 1), (22, .invokevirtual 80, 3), (25, .ifCond .eq 8, 3), (28, .bipush 9, 2), (30, .goto 20, 3), (33, .aload_n 0, 1), (34, .ldc 89, 2), (36, .iconst 5, 1), (37, .iconst 0, 1), (38, .invokevirtual 80, 3), (41, .ifCond .eq 8, 3), (44, .bipush 10, 2), (46, .goto 4, 3), (49, .iconst (-1), 1), (50, .ireturn, 1)])
theorem okX9_ruleWord : mtOK mtX9_ruleWord 0 := ⟨mg_in (tb5 (i := 93) rfl) rfl, mg_in (tb1 (i := 11) rfl) rfl, by decide, ⟨by decide, by decide, by decide⟩, by decide +kernel, by decide⟩
theorem vkX9_ruleWord : mVok mtX9_ruleWord 0 9 := ⟨okX9_ruleWord, mg_in (tb5 (i := 92) rfl) rfl, mg_sel (List.mem_of_getElem? (i := 41) rfl) rfl, TX9, 27, rfl⟩
def mtX9_wordOf : mT := (⟨"MondayDealModel", "wordOf", "()I"⟩, prog_11_method_12_code, 2, some .int, [(0, .aload_n 0, 1), (1, .invokevirtual 90, 3), (4, .iconst (-1), 1), (5, .if_icmp .eq 10, 3), (8, .aload_n 0, 1), (9, .invokevirtual 90, 3), (12, .goto 7, 3), (15, .aload_n 0, 1), (16, .invokevirtual 94, 3), (19, .istore_n 1, 1), (20, .iload_n 1, 1), (21, .iconst (-1), 1), (22, .if_icmp .eq 7, 3), (25, .iload_n 1, 1), (26, .goto 102, 3), (29, .aload_n 0, 1), (30, .ldc 97, 2), (32, .bipush 8, 2), (34, .sipush 577, 3), (37, .invokevirtual 80, 3), (40, .ifCond .eq 7, 3), (43, .iconst 0, 1), (44, .goto 84, 3), (47, .aload_n 0, 1), (48, .ldc 98, 2), (50, .iconst 4, 1), (51, .iconst 0, 1), (52, .invokevirtual 80, 3), (55, .ifCond .eq 7, 3), (58, .iconst 5, 1), (59, .goto 69, 3), (62, .aload_n 0, 1), (63, .ldc 99, 2), (65, .iconst 5, 1), (66, .iconst 0, 1), (67, .invokevirtual 80, 3), (70, .ifCond .eq 8, 3), (73, .bipush 6, 2), (75, .goto 53, 3), (78, .aload_n 0, 1), (79, .ldc 100, 2), (81, .bipush 6, 2), (83, .iconst 0, 1), (84, .invokevirtual 80, 3), (87, .ifCond .eq 8, 3), (90, .bipush 7, 2), (92, .goto 36, 3), (95, .aload_n 0, 1), (96, .ldc 101, 2), (98, .iconst 4, 1), (99, .iconst 0, 1), (100, .invokevirtual 80, 3), (103, .ifCond .eq 8, 3), (106, .bipush 11, 2), (108, .goto 20, 3), (111, .aload_n 0, 1), (112, .ldc 102, 2), (114, .iconst 4, 1), (115, .iconst 0, 1), (116, .invokevirtual 80, 3), (119, .ifCond .eq 8, 3), (122, .bipush 12, 2), (124, .goto 4, 3), (127, .iconst (-1), 1), (128, .ireturn, 1)])
theorem okX9_wordOf : mtOK mtX9_wordOf 0 := ⟨mg_in (tb5 (i := 77) rfl) rfl, mg_in (tb1 (i := 11) rfl) rfl, by decide, ⟨by decide, by decide, by decide⟩, by decide +kernel, by decide⟩
theorem vkX9_wordOf : mVok mtX9_wordOf 0 9 := ⟨okX9_wordOf, mg_in (tb5 (i := 76) rfl) rfl, mg_sel (List.mem_of_getElem? (i := 38) rfl) rfl, TX9, 27, rfl⟩
def mtX9_reads : mT := (⟨"MondayDealModel", "reads", "(III)Z"⟩, prog_11_method_13_code, 6, some .boolean, [(0, .aload_n 0, 1), (1, .getfield 69, 3), (4, .aload_n 0, 1), (5, .getfield 62, 3), (8, .if_icmp .eq 32, 3), (11, .aload_n 0, 1), (12, .getfield 17, 3), (15, .aload_n 0, 1), (16, .getfield 69, 3), (19, .iaload, 1), (20, .invokestatic 72, 3), (23, .iconst 2, 1), (24, .if_icmp .ne 16, 3), (27, .aload_n 0, 1), (28, .getfield 76, 3), (31, .aload_n 0, 1), (32, .getfield 69, 3), (35, .isub, 1), (36, .iconst 2, 1), (37, .if_icmp .le 5, 3), (40, .iconst 0, 1), (41, .ireturn, 1), (42, .iconst 0, 1), (43, .istore 4, 2), (45, .aload_n 0, 1), (46, .getfield 69, 3), (49, .istore 5, 2), (51, .iload 5, 2), (53, .aload_n 0, 1), (54, .getfield 76, 3), (57, .if_icmp .ge 27, 3), (60, .bipush 10, 2), (62, .iload 4, 2), (64, .imul, 1), (65, .aload_n 0, 1), (66, .getfield 17, 3), (69, .iload 5, 2), (71, .iaload, 1), (72, .iadd, 1), (73, .bipush 48, 2), (75, .isub, 1), (76, .istore 4, 2), (78, .iinc 5 1, 3), (81, .goto (-30), 3), (84, .iload 4, 2), (86, .iload_n 2, 1), (87, .if_icmp .gt 9, 3), (90, .iload 4, 2), (92, .iload_n 3, 1), (93, .if_icmp .ne 5, 3), (96, .iconst 0, 1), (97, .ireturn, 1), (98, .aload_n 0, 1), (99, .getfield 20, 3), (102, .iconst 4, 1), (103, .aload_n 0, 1), (104, .getfield 103, 3), (107, .imul, 1), (108, .iconst 1, 1), (109, .iadd, 1), (110, .iload_n 1, 1), (111, .iadd, 1), (112, .iload 4, 2), (114, .iastore, 1), (115, .aload_n 0, 1), (116, .invokevirtual 106, 3), (119, .iconst 1, 1), (120, .ireturn, 1)])
theorem okX9_reads : mtOK mtX9_reads 3 := ⟨mg_in (tb5 (i := 115) rfl) rfl, mg_in (tb1 (i := 11) rfl) rfl, by decide, ⟨by decide, by decide, by decide⟩, by decide +kernel, by decide⟩
theorem vkX9_reads : mVok mtX9_reads 3 9 := ⟨okX9_reads, mg_in (tb5 (i := 114) rfl) rfl, mg_sel (List.mem_of_getElem? (i := 43) rfl) rfl, TX9, 27, rfl⟩
def mtX9_isRule : mT := (⟨"MondayDealModel", "isRule", "(I)Z"⟩, prog_11_method_14_code, 1, some .boolean, [(0, .iload_n 0, 1), (1, .i2l, 1), (2, .ldc2_w 109, 3), (5, .ldc2_w 111, 3), (8, .invokestatic 58, 3), (11, .ireturn, 1)])
theorem okX9_isRule : mtOK mtX9_isRule 1 := ⟨mg_in (tb5 (i := 105) rfl) rfl, mg_in (tb1 (i := 11) rfl) rfl, by decide, ⟨by decide, by decide, by decide⟩, by decide +kernel, by decide⟩
theorem skX9_isRule : mSok mtX9_isRule 1 := ⟨okX9_isRule, mg_in (tb5 (i := 104) rfl) rfl⟩
def mtX9_readsRest : mT := (⟨"MondayDealModel", "readsRest", "(I)Z"⟩, prog_11_method_15_code, 2, some .boolean, [(0, .iload_n 1, 1), (1, .ifCond .eq 15, 3), (4, .iload_n 1, 1), (5, .bipush 11, 2), (7, .if_icmp .eq 9, 3), (10, .iload_n 1, 1), (11, .bipush 12, 2), (13, .if_icmp .ne 5, 3), (16, .iconst 1, 1), (17, .ireturn, 1), (18, .iload_n 1, 1), (19, .bipush 7, 2), (21, .if_icmp .ne 51, 3), (24, .aload_n 0, 1), (25, .iconst 0, 1), (26, .aload_n 0, 1), (27, .getfield 113, 3), (30, .iconst 1, 1), (31, .isub, 1), (32, .iconst (-1), 1), (33, .invokevirtual 116, 3), (36, .ifCond .eq 34, 3), (39, .aload_n 0, 1), (40, .iconst 1, 1), (41, .aload_n 0, 1), (42, .getfield 113, 3), (45, .iconst 1, 1), (46, .isub, 1), (47, .aload_n 0, 1), (48, .getfield 20, 3), (51, .iconst 4, 1), (52, .aload_n 0, 1), (53, .getfield 103, 3), (56, .imul, 1), (57, .iconst 1, 1), (58, .iadd, 1), (59, .iaload, 1), (60, .invokevirtual 116, 3), (63, .ifCond .eq 7, 3), (66, .iconst 1, 1), (67, .goto 4, 3), (70, .iconst 0, 1), (71, .ireturn, 1), (72, .aload_n 0, 1), (73, .iconst 0, 1), (74, .bipush 6, 2), (76, .iconst (-1), 1), (77, .invokevirtual 116, 3), (80, .ifCond .ne 5, 3), (83, .iconst 0, 1), (84, .ireturn, 1), (85, .iload_n 1, 1), (86, .iconst 5, 1), (87, .if_icmp .eq 9, 3), (90, .iload_n 1, 1), (91, .bipush 6, 2), (93, .if_icmp .ne 31, 3), (96, .aload_n 0, 1), (97, .iconst 1, 1), (98, .bipush 99, 2), (100, .iconst (-1), 1), (101, .invokevirtual 116, 3), (104, .ifCond .eq 18, 3), (107, .aload_n 0, 1), (108, .iconst 2, 1), (109, .bipush 20, 2), (111, .iconst (-1), 1), (112, .invokevirtual 116, 3), (115, .ifCond .eq 7, 3), (118, .iconst 1, 1), (119, .goto 4, 3), (122, .iconst 0, 1), (123, .ireturn, 1), (124, .iload_n 1, 1), (125, .invokestatic 119, 3), (128, .ifCond .eq 32, 3), (131, .iload_n 1, 1), (132, .bipush 8, 2), (134, .if_icmp .eq 26, 3), (137, .aload_n 0, 1), (138, .iconst 1, 1), (139, .bipush 6, 2), (141, .aload_n 0, 1), (142, .getfield 20, 3), (145, .iconst 4, 1), (146, .aload_n 0, 1), (147, .getfield 103, 3), (150, .imul, 1), (151, .iconst 1, 1), (152, .iadd, 1), (153, .iaload, 1), (154, .invokevirtual 116, 3), (157, .ifCond .eq 7, 3), (160, .iconst 1, 1), (161, .goto 4, 3), (164, .iconst 0, 1), (165, .ireturn, 1)])
theorem okX9_readsRest : mtOK mtX9_readsRest 1 := ⟨mg_in (tb5 (i := 111) rfl) rfl, mg_in (tb1 (i := 11) rfl) rfl, by decide, ⟨by decide, by decide, by decide⟩, by decide +kernel, by decide⟩
theorem vkX9_readsRest : mVok mtX9_readsRest 1 9 := ⟨okX9_readsRest, mg_in (tb5 (i := 110) rfl) rfl, mg_sel (List.mem_of_getElem? (i := 42) rfl) rfl, TX9, 27, rfl⟩
def mtX9_readsClause : mT := (⟨"MondayDealModel", "readsClause", "()Z"⟩, prog_11_method_16_code, 3, some .boolean, [(0, .aload_n 0, 1), (1, .invokevirtual 123, 3), (4, .istore_n 1, 1), (5, .iload_n 1, 1), (6, .iconst 5, 1), (7, .if_icmp .eq 9, 3), (10, .iload_n 1, 1), (11, .bipush 6, 2), (13, .if_icmp .ne 7, 3), (16, .iconst 1, 1), (17, .goto 4, 3), (20, .iconst 0, 1), (21, .istore_n 2, 1), (22, .iload_n 1, 1), (23, .iconst (-1), 1), (24, .if_icmp .eq 32, 3), (27, .iload_n 2, 1), (28, .ifCond .eq 12, 3), (31, .aload_n 0, 1), (32, .getfield 113, 3), (35, .bipush 6, 2), (37, .if_icmp .eq 19, 3), (40, .iload_n 1, 1), (41, .invokestatic 119, 3), (44, .ifCond .eq 14, 3), (47, .aload_n 0, 1), (48, .getfield 126, 3), (51, .bipush 6, 2), (53, .if_icmp .ne 5, 3), (56, .iconst 0, 1), (57, .ireturn, 1), (58, .aload_n 0, 1), (59, .invokevirtual 106, 3), (62, .aload_n 0, 1), (63, .getfield 20, 3), (66, .iconst 4, 1), (67, .aload_n 0, 1), (68, .getfield 103, 3), (71, .imul, 1), (72, .iload_n 1, 1), (73, .iastore, 1), (74, .aload_n 0, 1), (75, .iload_n 1, 1), (76, .invokevirtual 129, 3), (79, .ifCond .ne 5, 3), (82, .iconst 0, 1), (83, .ireturn, 1), (84, .aload_n 0, 1), (85, .iload_n 1, 1), (86, .ifCond .eq 9, 3), (89, .iload_n 1, 1), (90, .bipush 12, 2), (92, .if_icmp .ne 7, 3), (95, .iconst 0, 1), (96, .goto 20, 3), (99, .iload_n 2, 1), (100, .ifCond .eq 12, 3), (103, .aload_n 0, 1), (104, .getfield 113, 3), (107, .iconst 1, 1), (108, .iadd, 1), (109, .goto 7, 3), (112, .aload_n 0, 1), (113, .getfield 113, 3), (116, .putfield 113, 3), (119, .aload_n 0, 1), (120, .iload_n 1, 1), (121, .ifCond .eq 9, 3), (124, .iload_n 1, 1), (125, .bipush 11, 2), (127, .if_icmp .ne 7, 3), (130, .iconst 0, 1), (131, .goto 23, 3), (134, .iload_n 1, 1), (135, .invokestatic 119, 3), (138, .ifCond .eq 12, 3), (141, .aload_n 0, 1), (142, .getfield 126, 3), (145, .iconst 1, 1), (146, .iadd, 1), (147, .goto 7, 3), (150, .aload_n 0, 1), (151, .getfield 126, 3), (154, .putfield 126, 3), (157, .aload_n 0, 1), (158, .dup, 1), (159, .getfield 103, 3), (162, .iconst 1, 1), (163, .iadd, 1), (164, .putfield 103, 3), (167, .iconst 1, 1), (168, .ireturn, 1)])
theorem okX9_readsClause : mtOK mtX9_readsClause 0 := ⟨mg_in (tb5 (i := 73) rfl) rfl, mg_in (tb1 (i := 11) rfl) rfl, by decide, ⟨by decide, by decide, by decide⟩, by decide +kernel, by decide⟩
theorem vkX9_readsClause : mVok mtX9_readsClause 0 9 := ⟨okX9_readsClause, mg_in (tb5 (i := 72) rfl) rfl, mg_sel (List.mem_of_getElem? (i := 37) rfl) rfl, TX9, 27, rfl⟩
def mtX9_fault : mT := (⟨"MondayDealModel", "fault", "()I"⟩, prog_11_method_17_code, 2, some .int, [(0, .aload_n 0, 1), (1, .iconst 0, 1), (2, .putfield 66, 3), (5, .aload_n 0, 1), (6, .iconst 0, 1), (7, .putfield 103, 3), (10, .aload_n 0, 1), (11, .aload_n 0, 1), (12, .getfield 132, 3), (15, .putfield 113, 3), (18, .aload_n 0, 1), (19, .aload_n 0, 1), (20, .getfield 135, 3), (23, .putfield 126, 3), (26, .aload_n 0, 1), (27, .invokevirtual 106, 3), (30, .aload_n 0, 1), (31, .invokevirtual 138, 3), (34, .ifCond .ne 8, 3), (37, .aload_n 0, 1), (38, .getfield 69, 3), (41, .ireturn, 1), (42, .aload_n 0, 1), (43, .getfield 69, 3), (46, .aload_n 0, 1), (47, .getfield 62, 3), (50, .if_icmp .ge 70, 3), (53, .aload_n 0, 1), (54, .getfield 76, 3), (57, .aload_n 0, 1), (58, .getfield 69, 3), (61, .isub, 1), (62, .iconst 1, 1), (63, .if_icmp .ne 30, 3), (66, .aload_n 0, 1), (67, .getfield 17, 3), (70, .aload_n 0, 1), (71, .getfield 69, 3), (74, .iaload, 1), (75, .bipush 59, 2), (77, .if_icmp .ne 16, 3), (80, .aload_n 0, 1), (81, .getfield 103, 3), (84, .bipush 14, 2), (86, .if_icmp .ge 7, 3), (89, .iconst 1, 1), (90, .goto 4, 3), (93, .iconst 0, 1), (94, .istore_n 1, 1), (95, .iload_n 1, 1), (96, .ifCond .eq 12, 3), (99, .aload_n 0, 1), (100, .invokevirtual 106, 3), (103, .aload_n 0, 1), (104, .invokevirtual 138, 3), (107, .istore_n 1, 1), (108, .iload_n 1, 1), (109, .ifCond .ne 8, 3), (112, .aload_n 0, 1), (113, .getfield 69, 3), (116, .ireturn, 1), (117, .goto (-75), 3), (120, .iconst (-1), 1), (121, .ireturn, 1)])
theorem okX9_fault : mtOK mtX9_fault 0 := ⟨mg_in (tb5 (i := 62) rfl) rfl, mg_in (tb1 (i := 11) rfl) rfl, by decide, ⟨by decide, by decide, by decide⟩, by decide +kernel, by decide⟩
theorem vkX9_fault : mVok mtX9_fault 0 9 := ⟨okX9_fault, mg_in (tb5 (i := 60) rfl) rfl, mg_in (tb5 (i := 61) rfl) rfl, TX9, 27, rfl⟩
def mtX9_clear : mT := (⟨"MondayDealModel", "clear", "()V"⟩, prog_11_method_18_code, 2, none, [(0, .iconst 0, 1), (1, .istore_n 1, 1), (2, .iload_n 1, 1), (3, .bipush 7, 2), (5, .if_icmp .ge 16, 3), (8, .aload_n 0, 1), (9, .getfield 23, 3), (12, .iload_n 1, 1), (13, .iconst 0, 1), (14, .iastore, 1), (15, .iinc 1 1, 3), (18, .goto (-16), 3), (21, .aload_n 0, 1), (22, .iconst 0, 1), (23, .putfield 132, 3), (26, .aload_n 0, 1), (27, .iconst 0, 1), (28, .putfield 135, 3), (31, .return_, 1)])
theorem okX9_clear : mtOK mtX9_clear 0 := ⟨mg_in (tb5 (i := 137) rfl) rfl, mg_in (tb1 (i := 11) rfl) rfl, by decide, ⟨by decide, by decide, by decide⟩, by decide +kernel, by decide⟩
theorem vkX9_clear : mVok mtX9_clear 0 9 := ⟨okX9_clear, mg_in (tb5 (i := 136) rfl) rfl, mg_sel (List.mem_of_getElem? (i := 47) rfl) rfl, TX9, 27, rfl⟩
def mtX9_addWork : mT := (⟨"MondayDealModel", "addWork", "(II)V"⟩, prog_11_method_19_code, 3, none, [(0, .aload_n 0, 1), (1, .getfield 26, 3), (4, .aload_n 0, 1), (5, .getfield 132, 3), (8, .aload_n 0, 1), (9, .getfield 20, 3), (12, .iload_n 1, 1), (13, .iconst 1, 1), (14, .iadd, 1), (15, .iaload, 1), (16, .iastore, 1), (17, .aload_n 0, 1), (18, .getfield 29, 3), (21, .aload_n 0, 1), (22, .getfield 132, 3), (25, .aload_n 0, 1), (26, .getfield 20, 3), (29, .iload_n 1, 1), (30, .iconst 2, 1), (31, .iadd, 1), (32, .iaload, 1), (33, .iastore, 1), (34, .aload_n 0, 1), (35, .getfield 32, 3), (38, .aload_n 0, 1), (39, .getfield 132, 3), (42, .aload_n 0, 1), (43, .getfield 20, 3), (46, .iload_n 1, 1), (47, .iconst 3, 1), (48, .iadd, 1), (49, .iaload, 1), (50, .iastore, 1), (51, .aload_n 0, 1), (52, .getfield 35, 3), (55, .aload_n 0, 1), (56, .getfield 132, 3), (59, .iload_n 2, 1), (60, .iastore, 1), (61, .aload_n 0, 1), (62, .getfield 38, 3), (65, .aload_n 0, 1), (66, .getfield 132, 3), (69, .iconst (-1), 1), (70, .iastore, 1), (71, .aload_n 0, 1), (72, .dup, 1), (73, .getfield 132, 3), (76, .iconst 1, 1), (77, .iadd, 1), (78, .putfield 132, 3), (81, .return_, 1)])
theorem okX9_addWork : mtOK mtX9_addWork 2 := ⟨mg_in (tb5 (i := 133) rfl) rfl, mg_in (tb1 (i := 11) rfl) rfl, by decide, ⟨by decide, by decide, by decide⟩, by decide +kernel, by decide⟩
theorem vkX9_addWork : mVok mtX9_addWork 2 9 := ⟨okX9_addWork, mg_in (tb5 (i := 132) rfl) rfl, mg_sel (List.mem_of_getElem? (i := 46) rfl) rfl, TX9, 27, rfl⟩
def mtX9_addRule : mT := (⟨"MondayDealModel", "addRule", "(I)V"⟩, prog_11_method_20_code, 2, none, [(0, .aload_n 0, 1), (1, .getfield 41, 3), (4, .iconst 3, 1), (5, .aload_n 0, 1), (6, .getfield 135, 3), (9, .imul, 1), (10, .aload_n 0, 1), (11, .getfield 20, 3), (14, .iload_n 1, 1), (15, .iaload, 1), (16, .bipush 8, 2), (18, .isub, 1), (19, .iastore, 1), (20, .aload_n 0, 1), (21, .getfield 41, 3), (24, .iconst 3, 1), (25, .aload_n 0, 1), (26, .getfield 135, 3), (29, .imul, 1), (30, .iconst 1, 1), (31, .iadd, 1), (32, .aload_n 0, 1), (33, .getfield 20, 3), (36, .iload_n 1, 1), (37, .iconst 1, 1), (38, .iadd, 1), (39, .iaload, 1), (40, .iastore, 1), (41, .aload_n 0, 1), (42, .getfield 41, 3), (45, .iconst 3, 1), (46, .aload_n 0, 1), (47, .getfield 135, 3), (50, .imul, 1), (51, .iconst 2, 1), (52, .iadd, 1), (53, .aload_n 0, 1), (54, .getfield 20, 3), (57, .iload_n 1, 1), (58, .iconst 2, 1), (59, .iadd, 1), (60, .iaload, 1), (61, .iastore, 1), (62, .aload_n 0, 1), (63, .dup, 1), (64, .getfield 135, 3), (67, .iconst 1, 1), (68, .iadd, 1), (69, .putfield 135, 3), (72, .return_, 1)])
theorem okX9_addRule : mtOK mtX9_addRule 1 := ⟨mg_in (tb5 (i := 129) rfl) rfl, mg_in (tb1 (i := 11) rfl) rfl, by decide, ⟨by decide, by decide, by decide⟩, by decide +kernel, by decide⟩
theorem vkX9_addRule : mVok mtX9_addRule 1 9 := ⟨okX9_addRule, mg_in (tb5 (i := 128) rfl) rfl, mg_sel (List.mem_of_getElem? (i := 45) rfl) rfl, TX9, 27, rfl⟩
def mtX9_tell : mT := (⟨"MondayDealModel", "tell", "(I)V"⟩, prog_11_method_21_code, 3, none, [(0, .aload_n 0, 1), (1, .getfield 20, 3), (4, .iload_n 1, 1), (5, .iaload, 1), (6, .istore_n 2, 1), (7, .iload_n 2, 1), (8, .i2l, 1), (9, .lconst 1, 1), (10, .ldc2_w 142, 3), (13, .invokestatic 58, 3), (16, .ifCond .eq 22, 3), (19, .aload_n 0, 1), (20, .getfield 23, 3), (23, .aload_n 0, 1), (24, .getfield 20, 3), (27, .iload_n 1, 1), (28, .iconst 1, 1), (29, .iadd, 1), (30, .iaload, 1), (31, .iload_n 2, 1), (32, .iconst 1, 1), (33, .isub, 1), (34, .iastore, 1), (35, .goto 100, 3), (38, .iload_n 2, 1), (39, .invokestatic 119, 3), (42, .ifCond .eq 11, 3), (45, .aload_n 0, 1), (46, .iload_n 1, 1), (47, .invokevirtual 144, 3), (50, .goto 85, 3), (53, .iload_n 2, 1), (54, .iconst 5, 1), (55, .if_icmp .eq 9, 3), (58, .iload_n 2, 1), (59, .bipush 6, 2), (61, .if_icmp .ne 14, 3), (64, .aload_n 0, 1), (65, .iload_n 1, 1), (66, .iload_n 2, 1), (67, .iconst 5, 1), (68, .isub, 1), (69, .invokevirtual 148, 3), (72, .goto 63, 3), (75, .iload_n 2, 1), (76, .bipush 7, 2), (78, .if_icmp .ne 27, 3), (81, .aload_n 0, 1), (82, .getfield 38, 3), (85, .aload_n 0, 1), (86, .getfield 20, 3), (89, .iload_n 1, 1), (90, .iconst 1, 1), (91, .iadd, 1), (92, .iaload, 1), (93, .aload_n 0, 1), (94, .getfield 20, 3), (97, .iload_n 1, 1), (98, .iconst 2, 1), (99, .iadd, 1), (100, .iaload, 1), (101, .iastore, 1), (102, .goto 33, 3), (105, .iload_n 2, 1), (106, .ifCond .ne 10, 3), (109, .aload_n 0, 1), (110, .invokevirtual 152, 3), (113, .goto 22, 3), (116, .iload_n 2, 1), (117, .bipush 11, 2), (119, .if_icmp .ne 11, 3), (122, .aload_n 0, 1), (123, .iconst 0, 1), (124, .putfield 135, 3), (127, .goto 8, 3), (130, .aload_n 0, 1), (131, .iconst 0, 1), (132, .putfield 132, 3), (135, .return_, 1)])
theorem okX9_tell : mtOK mtX9_tell 1 := ⟨mg_in (tb5 (i := 124) rfl) rfl, mg_in (tb1 (i := 11) rfl) rfl, by decide, ⟨by decide, by decide, by decide⟩, by decide +kernel, by decide⟩
theorem vkX9_tell : mVok mtX9_tell 1 9 := ⟨okX9_tell, mg_in (tb5 (i := 123) rfl) rfl, mg_sel (List.mem_of_getElem? (i := 44) rfl) rfl, TX9, 27, rfl⟩
def mtX9_begin : mT := (⟨"MondayDealModel", "begin", "()V"⟩, prog_11_method_22_code, 2, none, [(0, .iconst 0, 1), (1, .istore_n 1, 1), (2, .iload_n 1, 1), (3, .bipush 18, 2), (5, .if_icmp .ge 32, 3), (8, .aload_n 0, 1), (9, .getfield 7, 3), (12, .iload_n 1, 1), (13, .iload_n 1, 1), (14, .bipush 6, 2), (16, .if_icmp .lt 9, 3), (19, .iload_n 1, 1), (20, .bipush 14, 2), (22, .if_icmp .lt 7, 3), (25, .iconst (-1), 1), (26, .goto 4, 3), (29, .iconst 0, 1), (30, .iastore, 1), (31, .iinc 1 1, 3), (34, .goto (-32), 3), (37, .aload_n 0, 1), (38, .iconst 0, 1), (39, .putfield 155, 3), (42, .aload_n 0, 1), (43, .getfield 13, 3), (46, .iconst 0, 1), (47, .iconst 0, 1), (48, .bastore, 1), (49, .aload_n 0, 1), (50, .getfield 13, 3), (53, .iconst 1, 1), (54, .iconst 0, 1), (55, .bastore, 1), (56, .aload_n 0, 1), (57, .iconst 0, 1), (58, .putfield 158, 3), (61, .aload_n 0, 1), (62, .iconst 0, 1), (63, .putfield 161, 3), (66, .aload_n 0, 1), (67, .invokevirtual 164, 3), (70, .return_, 1)])
theorem okX9_begin : mtOK mtX9_begin 0 := ⟨mg_in (tb4 (i := 180) rfl) rfl, mg_in (tb1 (i := 11) rfl) rfl, by decide, ⟨by decide, by decide, by decide⟩, by decide +kernel, by decide⟩
theorem vkX9_begin : mVok mtX9_begin 0 9 := ⟨okX9_begin, mg_in (tb4 (i := 179) rfl) rfl, mg_sel (List.mem_of_getElem? (i := 32) rfl) rfl, TX9, 27, rfl⟩
def mtX9_calendar : mT := (⟨"MondayDealModel", "calendar", "()I"⟩, prog_11_method_23_code, 2, some .int, [(0, .aload_n 0, 1), (1, .invokevirtual 167, 3), (4, .iconst (-1), 1), (5, .if_icmp .eq 6, 3), (8, .bipush (-4), 2), (10, .ireturn, 1), (11, .iconst 0, 1), (12, .istore_n 1, 1), (13, .iload_n 1, 1), (14, .aload_n 0, 1), (15, .getfield 103, 3), (18, .if_icmp .ge 16, 3), (21, .aload_n 0, 1), (22, .iconst 4, 1), (23, .iload_n 1, 1), (24, .imul, 1), (25, .invokevirtual 170, 3), (28, .iinc 1 1, 3), (31, .goto (-18), 3), (34, .aload_n 0, 1), (35, .invokevirtual 53, 3), (38, .aload_n 0, 1), (39, .iconst 0, 1), (40, .putfield 62, 3), (43, .aload_n 0, 1), (44, .getfield 103, 3), (47, .ireturn, 1)])
theorem okX9_calendar : mtOK mtX9_calendar 0 := ⟨mg_in (tb5 (i := 119) rfl) rfl, mg_in (tb1 (i := 11) rfl) rfl, by decide, ⟨by decide, by decide, by decide⟩, by decide +kernel, by decide⟩
theorem vkX9_calendar : mVok mtX9_calendar 0 9 := ⟨okX9_calendar, mg_in (tb5 (i := 117) rfl) rfl, mg_in (tb5 (i := 118) rfl) rfl, TX9, 27, rfl⟩
def mtX9_dayAt : mT := (⟨"MondayDealModel", "dayAt", "(II)I"⟩, prog_11_method_24_code, 2, some .int, [(0, .iload_n 0, 1), (1, .iconst 3, 1), (2, .bipush 6, 2), (4, .iload_n 1, 1), (5, .isub, 1), (6, .imul, 1), (7, .ishr, 1), (8, .bipush 7, 2), (10, .iand, 1), (11, .ireturn, 1)])
theorem okX9_dayAt : mtOK mtX9_dayAt 2 := ⟨mg_in (tb4 (i := 204) rfl) rfl, mg_in (tb1 (i := 11) rfl) rfl, by decide, ⟨by decide, by decide, by decide⟩, by decide +kernel, by decide⟩
theorem skX9_dayAt : mSok mtX9_dayAt 2 := ⟨okX9_dayAt, mg_in (tb4 (i := 203) rfl) rfl⟩
def mtX9_placeOf : mT := (⟨"MondayDealModel", "placeOf", "(II)I"⟩, prog_11_method_25_code, 3, some .int, [(0, .iconst 0, 1), (1, .istore_n 2, 1), (2, .iload_n 0, 1), (3, .iload_n 2, 1), (4, .invokestatic 173, 3), (7, .iload_n 1, 1), (8, .if_icmp .eq 9, 3), (11, .iinc 2 1, 3), (14, .goto (-12), 3), (17, .iload_n 2, 1), (18, .ireturn, 1)])
theorem okX9_placeOf : mtOK mtX9_placeOf 2 := ⟨mg_in (tb4 (i := 201) rfl) rfl, mg_in (tb1 (i := 11) rfl) rfl, by decide, ⟨by decide, by decide, by decide⟩, by decide +kernel, by decide⟩
theorem skX9_placeOf : mSok mtX9_placeOf 2 := ⟨okX9_placeOf, mg_in (tb4 (i := 200) rfl) rfl⟩
def mtX9_isAs : mT := (⟨"MondayDealModel", "isAs", "(II)Z"⟩, prog_11_method_26_code, 5, some .boolean, [(0, .iload_n 1, 1), (1, .aload_n 0, 1), (2, .getfield 41, 3), (5, .iconst 3, 1), (6, .iload_n 2, 1), (7, .imul, 1), (8, .iconst 1, 1), (9, .iadd, 1), (10, .iaload, 1), (11, .invokestatic 177, 3), (14, .istore_n 3, 1), (15, .aload_n 0, 1), (16, .getfield 41, 3), (19, .iconst 3, 1), (20, .iload_n 2, 1), (21, .imul, 1), (22, .iaload, 1), (23, .ifCond .ne 13, 3), (26, .iload_n 3, 1), (27, .ifCond .eq 7, 3), (30, .iconst 1, 1), (31, .goto 4, 3), (34, .iconst 0, 1), (35, .ireturn, 1), (36, .iload_n 1, 1), (37, .aload_n 0, 1), (38, .getfield 41, 3), (41, .iconst 3, 1), (42, .iload_n 2, 1), (43, .imul, 1), (44, .iconst 2, 1), (45, .iadd, 1), (46, .iaload, 1), (47, .invokestatic 177, 3), (50, .istore 4, 2), (52, .aload_n 0, 1), (53, .getfield 41, 3), (56, .iconst 3, 1), (57, .iload_n 2, 1), (58, .imul, 1), (59, .iaload, 1), (60, .iconst 2, 1), (61, .if_icmp .ne 17, 3), (64, .iload_n 3, 1), (65, .iload 4, 2), (67, .if_icmp .ge 7, 3), (70, .iconst 1, 1), (71, .goto 28, 3), (74, .iconst 0, 1), (75, .goto 24, 3), (78, .iload_n 3, 1), (79, .iload 4, 2), (81, .isub, 1), (82, .iconst 1, 1), (83, .if_icmp .eq 15, 3), (86, .iload 4, 2), (88, .iload_n 3, 1), (89, .isub, 1), (90, .iconst 1, 1), (91, .if_icmp .eq 7, 3), (94, .iconst 1, 1), (95, .goto 4, 3), (98, .iconst 0, 1), (99, .ireturn, 1)])
theorem okX9_isAs : mtOK mtX9_isAs 2 := ⟨mg_in (tb4 (i := 198) rfl) rfl, mg_in (tb1 (i := 11) rfl) rfl, by decide, ⟨by decide, by decide, by decide⟩, by decide +kernel, by decide⟩
theorem vkX9_isAs : mVok mtX9_isAs 2 9 := ⟨okX9_isAs, mg_in (tb4 (i := 197) rfl) rfl, mg_sel (List.mem_of_getElem? (i := 35) rfl) rfl, TX9, 27, rfl⟩
def mtX9_isAsBut : mT := (⟨"MondayDealModel", "isAsBut", "(II)Z"⟩, prog_11_method_27_code, 5, some .boolean, [(0, .iconst 1, 1), (1, .istore_n 3, 1), (2, .iconst 0, 1), (3, .istore 4, 2), (5, .iload 4, 2), (7, .aload_n 0, 1), (8, .getfield 135, 3), (11, .if_icmp .ge 38, 3), (14, .iload_n 3, 1), (15, .ifCond .eq 26, 3), (18, .iload_n 2, 1), (19, .iload 4, 2), (21, .invokestatic 180, 3), (24, .ifCond .ne 13, 3), (27, .aload_n 0, 1), (28, .iload_n 1, 1), (29, .iload 4, 2), (31, .invokevirtual 184, 3), (34, .ifCond .eq 7, 3), (37, .iconst 1, 1), (38, .goto 4, 3), (41, .iconst 0, 1), (42, .istore_n 3, 1), (43, .iinc 4 1, 3), (46, .goto (-41), 3), (49, .iload_n 3, 1), (50, .ireturn, 1)])
theorem okX9_isAsBut : mtOK mtX9_isAsBut 2 := ⟨mg_in (tb4 (i := 194) rfl) rfl, mg_in (tb1 (i := 11) rfl) rfl, by decide, ⟨by decide, by decide, by decide⟩, by decide +kernel, by decide⟩
theorem vkX9_isAsBut : mVok mtX9_isAsBut 2 9 := ⟨okX9_isAsBut, mg_in (tb4 (i := 193) rfl) rfl, mg_sel (List.mem_of_getElem? (i := 34) rfl) rfl, TX9, 27, rfl⟩
def mtX9_orderOf : mT := (⟨"MondayDealModel", "orderOf", "(I)I"⟩, prog_11_method_28_code, 8, some .int, [(0, .iload_n 0, 1), (1, .istore_n 1, 1), (2, .sipush 5040, 3), (5, .istore_n 2, 1), (6, .bipush 127, 2), (8, .istore_n 3, 1), (9, .iconst 0, 1), (10, .istore 4, 2), (12, .iconst 0, 1), (13, .istore 5, 2), (15, .iload 5, 2), (17, .bipush 7, 2), (19, .if_icmp .ge 78, 3), (22, .iload_n 2, 1), (23, .bipush 7, 2), (25, .iload 5, 2), (27, .isub, 1), (28, .idiv, 1), (29, .istore_n 2, 1), (30, .iload_n 1, 1), (31, .iload_n 2, 1), (32, .idiv, 1), (33, .istore 6, 2), (35, .iload_n 1, 1), (36, .iload_n 2, 1), (37, .irem, 1), (38, .istore_n 1, 1), (39, .iconst 0, 1), (40, .istore 7, 2), (42, .iload_n 3, 1), (43, .iload 7, 2), (45, .invokestatic 180, 3), (48, .ifCond .eq 8, 3), (51, .iload 6, 2), (53, .ifCond .le 20, 3), (56, .iload 6, 2), (58, .iload_n 3, 1), (59, .iload 7, 2), (61, .ishr, 1), (62, .iconst 1, 1), (63, .iand, 1), (64, .isub, 1), (65, .istore 6, 2), (67, .iinc 7 1, 3), (70, .goto (-28), 3), (73, .iload_n 3, 1), (74, .iconst 1, 1), (75, .iload 7, 2), (77, .ishl, 1), (78, .iconst (-1), 1), (79, .ixor, 1), (80, .iand, 1), (81, .istore_n 3, 1), (82, .iload 4, 2), (84, .iconst 3, 1), (85, .ishl, 1), (86, .iload 7, 2), (88, .ior, 1), (89, .istore 4, 2), (91, .iinc 5 1, 3), (94, .goto (-79), 3), (97, .iload 4, 2), (99, .ireturn, 1)])
theorem okX9_orderOf : mtOK mtX9_orderOf 1 := ⟨mg_in (tb4 (i := 187) rfl) rfl, mg_in (tb1 (i := 11) rfl) rfl, by decide, ⟨by decide, by decide, by decide⟩, by decide +kernel, by decide⟩
theorem skX9_orderOf : mSok mtX9_orderOf 1 := ⟨okX9_orderOf, mg_in (tb4 (i := 186) rfl) rfl⟩
def mtX9_layOrders : mT := (⟨"MondayDealModel", "layOrders", "()V"⟩, prog_11_method_29_code, 3, none, [(0, .aload_n 0, 1), (1, .iconst 0, 1), (2, .putfield 187, 3), (5, .iconst 0, 1), (6, .istore_n 1, 1), (7, .iload_n 1, 1), (8, .sipush 5040, 3), (11, .if_icmp .ge 43, 3), (14, .iload_n 1, 1), (15, .invokestatic 190, 3), (18, .istore_n 2, 1), (19, .aload_n 0, 1), (20, .iload_n 2, 1), (21, .iconst 0, 1), (22, .invokevirtual 193, 3), (25, .ifCond .eq 23, 3), (28, .aload_n 0, 1), (29, .getfield 44, 3), (32, .aload_n 0, 1), (33, .getfield 187, 3), (36, .iload_n 2, 1), (37, .iastore, 1), (38, .aload_n 0, 1), (39, .dup, 1), (40, .getfield 187, 3), (43, .iconst 1, 1), (44, .iadd, 1), (45, .putfield 187, 3), (48, .iinc 1 1, 3), (51, .goto (-44), 3), (54, .return_, 1)])
theorem okX9_layOrders : mtOK mtX9_layOrders 0 := ⟨mg_in (tb4 (i := 184) rfl) rfl, mg_in (tb1 (i := 11) rfl) rfl, by decide, ⟨by decide, by decide, by decide⟩, by decide +kernel, by decide⟩
theorem vkX9_layOrders : mVok mtX9_layOrders 0 9 := ⟨okX9_layOrders, mg_in (tb4 (i := 183) rfl) rfl, mg_sel (List.mem_of_getElem? (i := 33) rfl) rfl, TX9, 27, rfl⟩
def mtX9_isDay : mT := (⟨"MondayDealModel", "isDay", "(I)Z"⟩, prog_11_method_30_code, 1, some .boolean, [(0, .iload_n 0, 1), (1, .i2l, 1), (2, .lconst 0, 1), (3, .ldc2_w 196, 3), (6, .invokestatic 58, 3), (9, .ireturn, 1)])
theorem okX9_isDay : mtOK mtX9_isDay 1 := ⟨mg_in (tb5 (i := 144) rfl) rfl, mg_in (tb1 (i := 11) rfl) rfl, by decide, ⟨by decide, by decide, by decide⟩, by decide +kernel, by decide⟩
theorem skX9_isDay : mSok mtX9_isDay 1 := ⟨okX9_isDay, mg_in (tb5 (i := 143) rfl) rfl⟩
def mtX9_isWork : mT := (⟨"MondayDealModel", "isWork", "(I)Z"⟩, prog_11_method_31_code, 2, some .boolean, [(0, .iload_n 1, 1), (1, .i2l, 1), (2, .lconst 0, 1), (3, .aload_n 0, 1), (4, .getfield 132, 3), (7, .iconst 1, 1), (8, .isub, 1), (9, .i2l, 1), (10, .invokestatic 58, 3), (13, .ireturn, 1)])
theorem okX9_isWork : mtOK mtX9_isWork 1 := ⟨mg_in (tb5 (i := 157) rfl) rfl, mg_in (tb1 (i := 11) rfl) rfl, by decide, ⟨by decide, by decide, by decide⟩, by decide +kernel, by decide⟩
theorem vkX9_isWork : mVok mtX9_isWork 1 9 := ⟨okX9_isWork, mg_in (tb5 (i := 156) rfl) rfl, mg_sel (List.mem_of_getElem? (i := 49) rfl) rfl, TX9, 27, rfl⟩
def mtX9_isOrder : mT := (⟨"MondayDealModel", "isOrder", "(I)Z"⟩, prog_11_method_32_code, 2, some .boolean, [(0, .iload_n 1, 1), (1, .i2l, 1), (2, .lconst 0, 1), (3, .aload_n 0, 1), (4, .getfield 187, 3), (7, .iconst 1, 1), (8, .isub, 1), (9, .i2l, 1), (10, .invokestatic 58, 3), (13, .ireturn, 1)])
theorem okX9_isOrder : mtOK mtX9_isOrder 1 := ⟨mg_in (tb5 (i := 177) rfl) rfl, mg_in (tb1 (i := 11) rfl) rfl, by decide, ⟨by decide, by decide, by decide⟩, by decide +kernel, by decide⟩
theorem vkX9_isOrder : mVok mtX9_isOrder 1 9 := ⟨okX9_isOrder, mg_in (tb5 (i := 176) rfl) rfl, mg_sel (List.mem_of_getElem? (i := 51) rfl) rfl, TX9, 27, rfl⟩
def mtX9_firstMany : mT := (⟨"MondayDealModel", "firstMany", "(I)I"⟩, prog_11_method_33_code, 4, some .int, [(0, .iconst 0, 1), (1, .istore_n 2, 1), (2, .iconst 0, 1), (3, .istore_n 3, 1), (4, .iload_n 3, 1), (5, .aload_n 0, 1), (6, .getfield 187, 3), (9, .if_icmp .ge 31, 3), (12, .iload_n 2, 1), (13, .aload_n 0, 1), (14, .getfield 44, 3), (17, .iload_n 3, 1), (18, .iaload, 1), (19, .iconst 0, 1), (20, .invokestatic 173, 3), (23, .iload_n 1, 1), (24, .if_icmp .ne 7, 3), (27, .iconst 1, 1), (28, .goto 4, 3), (31, .iconst 0, 1), (32, .iadd, 1), (33, .istore_n 2, 1), (34, .iinc 3 1, 3), (37, .goto (-33), 3), (40, .iload_n 2, 1), (41, .ireturn, 1)])
theorem okX9_firstMany : mtOK mtX9_firstMany 1 := ⟨mg_in (tb5 (i := 149) rfl) rfl, mg_in (tb1 (i := 11) rfl) rfl, by decide, ⟨by decide, by decide, by decide⟩, by decide +kernel, by decide⟩
theorem vkX9_firstMany : mVok mtX9_firstMany 1 9 := ⟨okX9_firstMany, mg_in (tb5 (i := 148) rfl) rfl, mg_sel (List.mem_of_getElem? (i := 48) rfl) rfl, TX9, 27, rfl⟩
def mtX9_day : mT := (⟨"MondayDealModel", "day", "(II)I"⟩, prog_11_method_34_code, 5, some .int, [(0, .iload_n 1, 1), (1, .invokestatic 198, 3), (4, .ifCond .ne 6, 3), (7, .bipush (-2), 2), (9, .ireturn, 1), (10, .iconst 0, 1), (11, .istore_n 3, 1), (12, .iconst 0, 1), (13, .istore 4, 2), (15, .iload 4, 2), (17, .aload_n 0, 1), (18, .getfield 132, 3), (21, .if_icmp .ge 31, 3), (24, .iload_n 3, 1), (25, .aload_n 0, 1), (26, .getfield 26, 3), (29, .iload 4, 2), (31, .iaload, 1), (32, .iload_n 1, 1), (33, .if_icmp .ne 10, 3), (36, .iconst 1, 1), (37, .iload 4, 2), (39, .ishl, 1), (40, .goto 4, 3), (43, .iconst 0, 1), (44, .ior, 1), (45, .istore_n 3, 1), (46, .iinc 4 1, 3), (49, .goto (-34), 3), (52, .iload_n 2, 1), (53, .ifCond .ne 12, 3), (56, .aload_n 0, 1), (57, .getfield 23, 3), (60, .iload_n 1, 1), (61, .iaload, 1), (62, .goto 27, 3), (65, .iload_n 2, 1), (66, .iconst 1, 1), (67, .if_icmp .ne 7, 3), (70, .iload_n 3, 1), (71, .goto 18, 3), (74, .iload_n 2, 1), (75, .iconst 2, 1), (76, .if_icmp .ne 11, 3), (79, .aload_n 0, 1), (80, .iload_n 1, 1), (81, .invokevirtual 201, 3), (84, .goto 5, 3), (87, .bipush (-3), 2), (89, .ireturn, 1)])
theorem okX9_day : mtOK mtX9_day 2 := ⟨mg_in (tb5 (i := 141) rfl) rfl, mg_in (tb1 (i := 11) rfl) rfl, by decide, ⟨by decide, by decide, by decide⟩, by decide +kernel, by decide⟩
theorem vkX9_day : mVok mtX9_day 2 9 := ⟨okX9_day, mg_in (tb5 (i := 139) rfl) rfl, mg_in (tb5 (i := 140) rfl) rfl, TX9, 27, rfl⟩
def mtX9_work : mT := (⟨"MondayDealModel", "work", "(II)I"⟩, prog_11_method_35_code, 3, some .int, [(0, .aload_n 0, 1), (1, .iload_n 1, 1), (2, .invokevirtual 204, 3), (5, .ifCond .ne 6, 3), (8, .bipush (-2), 2), (10, .ireturn, 1), (11, .iload_n 2, 1), (12, .tableswitch 98 0 6 #[44, 51, 58, 65, 72, 79, 88], 44), (56, .aload_n 0, 1), (57, .getfield 26, 3), (60, .iload_n 1, 1), (61, .iaload, 1), (62, .ireturn, 1), (63, .aload_n 0, 1), (64, .getfield 29, 3), (67, .iload_n 1, 1), (68, .iaload, 1), (69, .ireturn, 1), (70, .aload_n 0, 1), (71, .getfield 32, 3), (74, .iload_n 1, 1), (75, .iaload, 1), (76, .ireturn, 1), (77, .aload_n 0, 1), (78, .getfield 35, 3), (81, .iload_n 1, 1), (82, .iaload, 1), (83, .ireturn, 1), (84, .aload_n 0, 1), (85, .getfield 38, 3), (88, .iload_n 1, 1), (89, .iaload, 1), (90, .ireturn, 1), (91, .aload_n 0, 1), (92, .getfield 7, 3), (95, .iconst 0, 1), (96, .iload_n 1, 1), (97, .iadd, 1), (98, .iaload, 1), (99, .ireturn, 1), (100, .aload_n 0, 1), (101, .getfield 7, 3), (104, .bipush 6, 2), (106, .iload_n 1, 1), (107, .iadd, 1), (108, .iaload, 1), (109, .ireturn, 1), (110, .bipush (-3), 2), (112, .ireturn, 1)])
theorem okX9_work : mtOK mtX9_work 2 := ⟨mg_in (tb5 (i := 153) rfl) rfl, mg_in (tb1 (i := 11) rfl) rfl, by decide, ⟨by decide, by decide, by decide⟩, by decide +kernel, by decide⟩
theorem vkX9_work : mVok mtX9_work 2 9 := ⟨okX9_work, mg_in (tb5 (i := 151) rfl) rfl, mg_in (tb5 (i := 152) rfl) rfl, TX9, 27, rfl⟩
def mtX9_earns : mT := (⟨"MondayDealModel", "earns", "(II)I"⟩, prog_11_method_36_code, 3, some .int, [(0, .aload_n 0, 1), (1, .getfield 23, 3), (4, .iload_n 1, 1), (5, .iaload, 1), (6, .iconst 1, 1), (7, .if_icmp .ne 9, 3), (10, .iconst 2, 1), (11, .iload_n 2, 1), (12, .imul, 1), (13, .goto 20, 3), (16, .aload_n 0, 1), (17, .getfield 23, 3), (20, .iload_n 1, 1), (21, .iaload, 1), (22, .iconst 2, 1), (23, .if_icmp .ne 9, 3), (26, .iload_n 2, 1), (27, .iconst 2, 1), (28, .idiv, 1), (29, .goto 4, 3), (32, .iload_n 2, 1), (33, .ireturn, 1)])
theorem okX9_earns : mtOK mtX9_earns 2 := ⟨mg_in (tb5 (i := 165) rfl) rfl, mg_in (tb1 (i := 11) rfl) rfl, by decide, ⟨by decide, by decide, by decide⟩, by decide +kernel, by decide⟩
theorem vkX9_earns : mVok mtX9_earns 2 9 := ⟨okX9_earns, mg_in (tb5 (i := 164) rfl) rfl, mg_sel (List.mem_of_getElem? (i := 50) rfl) rfl, TX9, 27, rfl⟩
def mtX9_as : mT := (⟨"MondayDealModel", "as", "(II)I"⟩, prog_11_method_37_code, 5, some .int, [(0, .iload_n 1, 1), (1, .invokestatic 198, 3), (4, .ifCond .ne 6, 3), (7, .bipush (-2), 2), (9, .ireturn, 1), (10, .iload_n 2, 1), (11, .i2l, 1), (12, .lconst 0, 1), (13, .ldc2_w 142, 3), (16, .invokestatic 58, 3), (19, .ifCond .ne 6, 3), (22, .bipush (-3), 2), (24, .ireturn, 1), (25, .aload_n 0, 1), (26, .getfield 23, 3), (29, .iload_n 1, 1), (30, .iaload, 1), (31, .istore_n 3, 1), (32, .iload_n 2, 1), (33, .ifCond .eq 25, 3), (36, .iload_n 2, 1), (37, .iconst 1, 1), (38, .if_icmp .ne 8, 3), (41, .iload_n 3, 1), (42, .iconst 3, 1), (43, .if_icmp .ne 15, 3), (46, .iload_n 2, 1), (47, .iconst 1, 1), (48, .if_icmp .le 14, 3), (51, .iload_n 2, 1), (52, .iload_n 3, 1), (53, .iconst 1, 1), (54, .iadd, 1), (55, .if_icmp .ne 7, 3), (58, .iconst 1, 1), (59, .goto 4, 3), (62, .iconst 0, 1), (63, .istore 4, 2), (65, .iload 4, 2), (67, .ifCond .eq 13, 3), (70, .aload_n 0, 1), (71, .iload_n 1, 1), (72, .bipush 15, 2), (74, .invokevirtual 207, 3), (77, .goto 5, 3), (80, .bipush (-4), 2), (82, .ireturn, 1)])
theorem okX9_as : mtOK mtX9_as 2 := ⟨mg_in (tb5 (i := 161) rfl) rfl, mg_in (tb1 (i := 11) rfl) rfl, by decide, ⟨by decide, by decide, by decide⟩, by decide +kernel, by decide⟩
theorem vkX9_as : mVok mtX9_as 2 9 := ⟨okX9_as, mg_in (tb5 (i := 159) rfl) rfl, mg_in (tb5 (i := 160) rfl) rfl, TX9, 27, rfl⟩
def mtX9_orders : mT := (⟨"MondayDealModel", "orders", "()I"⟩, prog_11_method_38_code, 1, some .int, [(0, .aload_n 0, 1), (1, .getfield 187, 3), (4, .ireturn, 1)])
theorem okX9_orders : mtOK mtX9_orders 0 := ⟨mg_in (tb5 (i := 169) rfl) rfl, mg_in (tb1 (i := 11) rfl) rfl, by decide, ⟨by decide, by decide, by decide⟩, by decide +kernel, by decide⟩
theorem vkX9_orders : mVok mtX9_orders 0 9 := ⟨okX9_orders, mg_in (tb5 (i := 167) rfl) rfl, mg_in (tb5 (i := 168) rfl) rfl, TX9, 27, rfl⟩
def mtX9_order : mT := (⟨"MondayDealModel", "order", "(II)I"⟩, prog_11_method_39_code, 3, some .int, [(0, .aload_n 0, 1), (1, .iload_n 1, 1), (2, .invokevirtual 210, 3), (5, .ifCond .ne 8, 3), (8, .bipush (-2), 2), (10, .goto 30, 3), (13, .iload_n 2, 1), (14, .i2l, 1), (15, .lconst 0, 1), (16, .ldc2_w 196, 3), (19, .invokestatic 58, 3), (22, .ifCond .eq 16, 3), (25, .aload_n 0, 1), (26, .getfield 44, 3), (29, .iload_n 1, 1), (30, .iaload, 1), (31, .iload_n 2, 1), (32, .invokestatic 173, 3), (35, .goto 5, 3), (38, .bipush (-3), 2), (40, .ireturn, 1)])
theorem okX9_order : mtOK mtX9_order 2 := ⟨mg_in (tb5 (i := 173) rfl) rfl, mg_in (tb1 (i := 11) rfl) rfl, by decide, ⟨by decide, by decide, by decide⟩, by decide +kernel, by decide⟩
theorem vkX9_order : mVok mtX9_order 2 9 := ⟨okX9_order, mg_in (tb5 (i := 171) rfl) rfl, mg_in (tb5 (i := 172) rfl) rfl, TX9, 27, rfl⟩
def mtX9_which : mT := (⟨"MondayDealModel", "which", "(I)I"⟩, prog_11_method_40_code, 7, some .int, [(0, .iload_n 1, 1), (1, .istore_n 2, 1), (2, .iconst 0, 1), (3, .istore_n 3, 1), (4, .iconst 0, 1), (5, .istore 4, 2), (7, .iconst 0, 1), (8, .istore 5, 2), (10, .iload 5, 2), (12, .bipush 7, 2), (14, .if_icmp .ge 73, 3), (17, .iload_n 2, 1), (18, .bipush 10, 2), (20, .irem, 1), (21, .istore 6, 2), (23, .iload_n 2, 1), (24, .bipush 10, 2), (26, .idiv, 1), (27, .istore_n 2, 1), (28, .iload 4, 2), (30, .iload 6, 2), (32, .i2l, 1), (33, .lconst 0, 1), (34, .ldc2_w 196, 3), (37, .invokestatic 58, 3), (40, .ifCond .eq 10, 3), (43, .iconst 1, 1), (44, .iload 6, 2), (46, .ishl, 1), (47, .goto 4, 3), (50, .iconst 0, 1), (51, .ior, 1), (52, .istore 4, 2), (54, .iload_n 3, 1), (55, .iload 6, 2), (57, .i2l, 1), (58, .lconst 0, 1), (59, .ldc2_w 196, 3), (62, .invokestatic 58, 3), (65, .ifCond .eq 13, 3), (68, .iload 6, 2), (70, .iconst 3, 1), (71, .iload 5, 2), (73, .imul, 1), (74, .ishl, 1), (75, .goto 4, 3), (78, .iconst 0, 1), (79, .ior, 1), (80, .istore_n 3, 1), (81, .iinc 5 1, 3), (84, .goto (-74), 3), (87, .iload_n 1, 1), (88, .ifCond .lt 14, 3), (91, .iload_n 2, 1), (92, .ifCond .ne 10, 3), (95, .iload 4, 2), (97, .bipush 127, 2), (99, .if_icmp .eq 6, 3), (102, .bipush (-3), 2), (104, .ireturn, 1), (105, .iconst 0, 1), (106, .istore 5, 2), (108, .iload 5, 2), (110, .aload_n 0, 1), (111, .getfield 187, 3), (114, .if_icmp .ge 23, 3), (117, .aload_n 0, 1), (118, .getfield 44, 3), (121, .iload 5, 2), (123, .iaload, 1), (124, .iload_n 3, 1), (125, .if_icmp .ne 6, 3), (128, .iload 5, 2), (130, .ireturn, 1), (131, .iinc 5 1, 3), (134, .goto (-26), 3), (137, .bipush (-4), 2), (139, .ireturn, 1)])
theorem okX9_which : mtOK mtX9_which 1 := ⟨mg_in (tb5 (i := 181) rfl) rfl, mg_in (tb1 (i := 11) rfl) rfl, by decide, ⟨by decide, by decide, by decide⟩, by decide +kernel, by decide⟩
theorem vkX9_which : mVok mtX9_which 1 9 := ⟨okX9_which, mg_in (tb5 (i := 179) rfl) rfl, mg_in (tb5 (i := 180) rfl) rfl, TX9, 27, rfl⟩
def mtX9_doWork : mT := (⟨"MondayDealModel", "doWork", "(II)V"⟩, prog_11_method_41_code, 3, none, [(0, .aload_n 0, 1), (1, .getfield 35, 3), (4, .iload_n 2, 1), (5, .iaload, 1), (6, .iconst 1, 1), (7, .if_icmp .ne 18, 3), (10, .aload_n 0, 1), (11, .getfield 23, 3), (14, .aload_n 0, 1), (15, .getfield 26, 3), (18, .iload_n 2, 1), (19, .iaload, 1), (20, .iaload, 1), (21, .iconst 3, 1), (22, .if_icmp .eq 32, 3), (25, .aload_n 0, 1), (26, .getfield 38, 3), (29, .iload_n 2, 1), (30, .iaload, 1), (31, .iconst (-1), 1), (32, .if_icmp .eq 23, 3), (35, .aload_n 0, 1), (36, .getfield 7, 3), (39, .iload_n 1, 1), (40, .iconst 0, 1), (41, .iadd, 1), (42, .aload_n 0, 1), (43, .getfield 38, 3), (46, .iload_n 2, 1), (47, .iaload, 1), (48, .iadd, 1), (49, .iaload, 1), (50, .iconst (-1), 1), (51, .if_icmp .ne 4, 3), (54, .return_, 1), (55, .aload_n 0, 1), (56, .getfield 38, 3), (59, .iload_n 2, 1), (60, .iaload, 1), (61, .iconst (-1), 1), (62, .if_icmp .eq 19, 3), (65, .aload_n 0, 1), (66, .getfield 7, 3), (69, .iload_n 1, 1), (70, .iconst 0, 1), (71, .iadd, 1), (72, .aload_n 0, 1), (73, .getfield 38, 3), (76, .iload_n 2, 1), (77, .iaload, 1), (78, .iadd, 1), (79, .iconst (-1), 1), (80, .iastore, 1), (81, .aload_n 0, 1), (82, .getfield 7, 3), (85, .iload_n 1, 1), (86, .iconst 0, 1), (87, .iadd, 1), (88, .iload_n 2, 1), (89, .iadd, 1), (90, .iconst 0, 1), (91, .iastore, 1), (92, .aload_n 0, 1), (93, .getfield 7, 3), (96, .iload_n 1, 1), (97, .bipush 6, 2), (99, .iadd, 1), (100, .iload_n 2, 1), (101, .iadd, 1), (102, .dup2, 1), (103, .iaload, 1), (104, .iconst 1, 1), (105, .iadd, 1), (106, .iastore, 1), (107, .aload_n 0, 1), (108, .getfield 7, 3), (111, .iload_n 1, 1), (112, .bipush 12, 2), (114, .iadd, 1), (115, .dup2, 1), (116, .iaload, 1), (117, .aload_n 0, 1), (118, .aload_n 0, 1), (119, .getfield 26, 3), (122, .iload_n 2, 1), (123, .iaload, 1), (124, .aload_n 0, 1), (125, .getfield 29, 3), (128, .iload_n 2, 1), (129, .iaload, 1), (130, .invokevirtual 207, 3), (133, .iadd, 1), (134, .iastore, 1), (135, .return_, 1)])
theorem okX9_doWork : mtOK mtX9_doWork 2 := ⟨mg_in (tb5 (i := 201) rfl) rfl, mg_in (tb1 (i := 11) rfl) rfl, by decide, ⟨by decide, by decide, by decide⟩, by decide +kernel, by decide⟩
theorem vkX9_doWork : mVok mtX9_doWork 2 9 := ⟨okX9_doWork, mg_in (tb5 (i := 200) rfl) rfl, mg_sel (List.mem_of_getElem? (i := 55) rfl) rfl, TX9, 27, rfl⟩
def mtX9_go : mT := (⟨"MondayDealModel", "go", "(II)V"⟩, prog_11_method_42_code, 6, none, [(0, .iconst 0, 1), (1, .istore_n 3, 1), (2, .iload_n 3, 1), (3, .bipush 7, 2), (5, .if_icmp .ge 119, 3), (8, .iconst 0, 1), (9, .istore 4, 2), (11, .iload 4, 2), (13, .aload_n 0, 1), (14, .getfield 132, 3), (17, .if_icmp .ge 61, 3), (20, .aload_n 0, 1), (21, .getfield 7, 3), (24, .iload_n 1, 1), (25, .iconst 0, 1), (26, .iadd, 1), (27, .iload 4, 2), (29, .iadd, 1), (30, .iaload, 1), (31, .istore 5, 2), (33, .aload_n 0, 1), (34, .getfield 7, 3), (37, .iload_n 1, 1), (38, .iconst 0, 1), (39, .iadd, 1), (40, .iload 4, 2), (42, .iadd, 1), (43, .iload 5, 2), (45, .iconst (-1), 1), (46, .if_icmp .eq 17, 3), (49, .iload 5, 2), (51, .iconst 1, 1), (52, .iadd, 1), (53, .aload_n 0, 1), (54, .getfield 32, 3), (57, .iload 4, 2), (59, .iaload, 1), (60, .if_icmp .le 7, 3), (63, .iconst (-1), 1), (64, .goto 7, 3), (67, .iload 5, 2), (69, .iconst 1, 1), (70, .iadd, 1), (71, .iastore, 1), (72, .iinc 4 1, 3), (75, .goto (-64), 3), (78, .iconst 0, 1), (79, .istore 4, 2), (81, .iload 4, 2), (83, .aload_n 0, 1), (84, .getfield 132, 3), (87, .if_icmp .ge 31, 3), (90, .aload_n 0, 1), (91, .getfield 26, 3), (94, .iload 4, 2), (96, .iaload, 1), (97, .iload_n 2, 1), (98, .iload_n 3, 1), (99, .invokestatic 173, 3), (102, .if_icmp .ne 10, 3), (105, .aload_n 0, 1), (106, .iload_n 1, 1), (107, .iload 4, 2), (109, .invokevirtual 213, 3), (112, .iinc 4 1, 3), (115, .goto (-34), 3), (118, .iinc 3 1, 3), (121, .goto (-119), 3), (124, .return_, 1)])
theorem okX9_go : mtOK mtX9_go 2 := ⟨mg_in (tb5 (i := 197) rfl) rfl, mg_in (tb1 (i := 11) rfl) rfl, by decide, ⟨by decide, by decide, by decide⟩, by decide +kernel, by decide⟩
theorem vkX9_go : mVok mtX9_go 2 9 := ⟨okX9_go, mg_in (tb5 (i := 196) rfl) rfl, mg_sel (List.mem_of_getElem? (i := 54) rfl) rfl, TX9, 27, rfl⟩
def mtX9_copy : mT := (⟨"MondayDealModel", "copy", "(II)V"⟩, prog_11_method_43_code, 4, none, [(0, .iconst 0, 1), (1, .istore_n 3, 1), (2, .iload_n 3, 1), (3, .bipush 18, 2), (5, .if_icmp .ge 25, 3), (8, .aload_n 0, 1), (9, .getfield 7, 3), (12, .iload_n 2, 1), (13, .iload_n 3, 1), (14, .iadd, 1), (15, .aload_n 0, 1), (16, .getfield 7, 3), (19, .iload_n 1, 1), (20, .iload_n 3, 1), (21, .iadd, 1), (22, .iaload, 1), (23, .iastore, 1), (24, .iinc 3 1, 3), (27, .goto (-25), 3), (30, .return_, 1)])
theorem okX9_copy : mtOK mtX9_copy 2 := ⟨mg_in (tb5 (i := 193) rfl) rfl, mg_in (tb1 (i := 11) rfl) rfl, by decide, ⟨by decide, by decide, by decide⟩, by decide +kernel, by decide⟩
theorem vkX9_copy : mVok mtX9_copy 2 9 := ⟨okX9_copy, mg_in (tb5 (i := 192) rfl) rfl, mg_sel (List.mem_of_getElem? (i := 53) rfl) rfl, TX9, 27, rfl⟩
def mtX9_keepPast : mT := (⟨"MondayDealModel", "keepPast", "()V"⟩, prog_11_method_44_code, 2, none, [(0, .iconst 0, 1), (1, .istore_n 1, 1), (2, .iload_n 1, 1), (3, .bipush 126, 2), (5, .if_icmp .ge 39, 3), (8, .aload_n 0, 1), (9, .getfield 155, 3), (12, .bipush 8, 2), (14, .if_icmp .ne 30, 3), (17, .aload_n 0, 1), (18, .getfield 7, 3), (21, .bipush 72, 2), (23, .iload_n 1, 1), (24, .iadd, 1), (25, .aload_n 0, 1), (26, .getfield 7, 3), (29, .bipush 72, 2), (31, .iload_n 1, 1), (32, .iadd, 1), (33, .bipush 18, 2), (35, .iadd, 1), (36, .iaload, 1), (37, .iastore, 1), (38, .iinc 1 1, 3), (41, .goto (-39), 3), (44, .aload_n 0, 1), (45, .dup, 1), (46, .getfield 155, 3), (49, .aload_n 0, 1), (50, .getfield 155, 3), (53, .bipush 8, 2), (55, .if_icmp .ne 7, 3), (58, .iconst 1, 1), (59, .goto 4, 3), (62, .iconst 0, 1), (63, .isub, 1), (64, .putfield 155, 3), (67, .aload_n 0, 1), (68, .iconst 0, 1), (69, .bipush 72, 2), (71, .bipush 18, 2), (73, .aload_n 0, 1), (74, .getfield 155, 3), (77, .imul, 1), (78, .iadd, 1), (79, .invokevirtual 216, 3), (82, .aload_n 0, 1), (83, .dup, 1), (84, .getfield 155, 3), (87, .iconst 1, 1), (88, .iadd, 1), (89, .putfield 155, 3), (92, .return_, 1)])
theorem okX9_keepPast : mtOK mtX9_keepPast 0 := ⟨mg_in (tb5 (i := 189) rfl) rfl, mg_in (tb1 (i := 11) rfl) rfl, by decide, ⟨by decide, by decide, by decide⟩, by decide +kernel, by decide⟩
theorem vkX9_keepPast : mVok mtX9_keepPast 0 9 := ⟨okX9_keepPast, mg_in (tb5 (i := 188) rfl) rfl, mg_sel (List.mem_of_getElem? (i := 52) rfl) rfl, TX9, 27, rfl⟩
def mtX9_deal : mT := (⟨"MondayDealModel", "deal", "(I)I"⟩, prog_11_method_45_code, 4, some .int, [(0, .aload_n 0, 1), (1, .iload_n 1, 1), (2, .invokevirtual 210, 3), (5, .ifCond .ne 6, 3), (8, .bipush (-2), 2), (10, .ireturn, 1), (11, .aload_n 0, 1), (12, .getfield 7, 3), (15, .bipush 13, 2), (17, .iaload, 1), (18, .sipush 999, 3), (21, .if_icmp .ne 6, 3), (24, .bipush (-5), 2), (26, .ireturn, 1), (27, .aload_n 0, 1), (28, .invokevirtual 219, 3), (31, .aload_n 0, 1), (32, .getfield 7, 3), (35, .bipush 12, 2), (37, .iaload, 1), (38, .istore_n 2, 1), (39, .aload_n 0, 1), (40, .iconst 0, 1), (41, .aload_n 0, 1), (42, .getfield 44, 3), (45, .iload_n 1, 1), (46, .iaload, 1), (47, .invokevirtual 222, 3), (50, .aload_n 0, 1), (51, .getfield 7, 3), (54, .bipush 13, 2), (56, .dup2, 1), (57, .iaload, 1), (58, .iconst 1, 1), (59, .iadd, 1), (60, .iastore, 1), (61, .iconst 3, 1), (62, .istore_n 3, 1), (63, .iload_n 3, 1), (64, .ifCond .le 29, 3), (67, .aload_n 0, 1), (68, .getfield 7, 3), (71, .bipush 14, 2), (73, .iload_n 3, 1), (74, .iadd, 1), (75, .aload_n 0, 1), (76, .getfield 7, 3), (79, .bipush 14, 2), (81, .iload_n 3, 1), (82, .iadd, 1), (83, .iconst 1, 1), (84, .isub, 1), (85, .iaload, 1), (86, .iastore, 1), (87, .iinc 3 (-1), 3), (90, .goto (-27), 3), (93, .aload_n 0, 1), (94, .getfield 7, 3), (97, .bipush 14, 2), (99, .aload_n 0, 1), (100, .getfield 44, 3), (103, .iload_n 1, 1), (104, .iaload, 1), (105, .iastore, 1), (106, .aload_n 0, 1), (107, .getfield 7, 3), (110, .bipush 12, 2), (112, .iaload, 1), (113, .iload_n 2, 1), (114, .isub, 1), (115, .ireturn, 1)])
theorem okX9_deal : mtOK mtX9_deal 1 := ⟨mg_in (tb5 (i := 185) rfl) rfl, mg_in (tb1 (i := 11) rfl) rfl, by decide, ⟨by decide, by decide, by decide⟩, by decide +kernel, by decide⟩
theorem vkX9_deal : mVok mtX9_deal 1 9 := ⟨okX9_deal, mg_in (tb5 (i := 183) rfl) rfl, mg_in (tb5 (i := 184) rfl) rfl, TX9, 27, rfl⟩
def mtX9_there : mT := (⟨"MondayDealModel", "there", "(I)I"⟩, prog_11_method_46_code, 4, some .int, [(0, .iconst 0, 1), (1, .istore_n 2, 1), (2, .iconst 0, 1), (3, .istore_n 3, 1), (4, .iload_n 3, 1), (5, .aload_n 0, 1), (6, .getfield 132, 3), (9, .if_icmp .ge 33, 3), (12, .iload_n 2, 1), (13, .aload_n 0, 1), (14, .getfield 7, 3), (17, .iload_n 1, 1), (18, .iconst 0, 1), (19, .iadd, 1), (20, .iload_n 3, 1), (21, .iadd, 1), (22, .iaload, 1), (23, .iconst (-1), 1), (24, .if_icmp .ne 7, 3), (27, .iconst 0, 1), (28, .goto 6, 3), (31, .iconst 1, 1), (32, .iload_n 3, 1), (33, .ishl, 1), (34, .ior, 1), (35, .istore_n 2, 1), (36, .iinc 3 1, 3), (39, .goto (-35), 3), (42, .iload_n 2, 1), (43, .ireturn, 1)])
theorem okX9_there : mtOK mtX9_there 1 := ⟨mg_in (tb5 (i := 209) rfl) rfl, mg_in (tb1 (i := 11) rfl) rfl, by decide, ⟨by decide, by decide, by decide⟩, by decide +kernel, by decide⟩
theorem vkX9_there : mVok mtX9_there 1 9 := ⟨okX9_there, mg_in (tb5 (i := 208) rfl) rfl, mg_sel (List.mem_of_getElem? (i := 56) rfl) rfl, TX9, 27, rfl⟩
def mtX9_ready : mT := (⟨"MondayDealModel", "ready", "(I)I"⟩, prog_11_method_47_code, 2, some .int, [(0, .aload_n 0, 1), (1, .iload_n 1, 1), (2, .invokevirtual 204, 3), (5, .ifCond .ne 6, 3), (8, .bipush (-2), 2), (10, .ireturn, 1), (11, .aload_n 0, 1), (12, .getfield 7, 3), (15, .iconst 0, 1), (16, .iload_n 1, 1), (17, .iadd, 1), (18, .iaload, 1), (19, .iconst (-1), 1), (20, .if_icmp .eq 6, 3), (23, .bipush (-4), 2), (25, .ireturn, 1), (26, .aload_n 0, 1), (27, .invokevirtual 219, 3), (30, .aload_n 0, 1), (31, .getfield 7, 3), (34, .iconst 0, 1), (35, .iload_n 1, 1), (36, .iadd, 1), (37, .iconst 0, 1), (38, .iastore, 1), (39, .aload_n 0, 1), (40, .iconst 0, 1), (41, .invokevirtual 225, 3), (44, .invokestatic 228, 3), (47, .ireturn, 1)])
theorem okX9_ready : mtOK mtX9_ready 1 := ⟨mg_in (tb5 (i := 205) rfl) rfl, mg_in (tb1 (i := 11) rfl) rfl, by decide, ⟨by decide, by decide, by decide⟩, by decide +kernel, by decide⟩
theorem vkX9_ready : mVok mtX9_ready 1 9 := ⟨okX9_ready, mg_in (tb5 (i := 203) rfl) rfl, mg_in (tb5 (i := 204) rfl) rfl, TX9, 27, rfl⟩
def mtX9_undo : mT := (⟨"MondayDealModel", "undo", "()I"⟩, prog_11_method_48_code, 1, some .int, [(0, .aload_n 0, 1), (1, .getfield 155, 3), (4, .ifCond .ne 6, 3), (7, .bipush (-4), 2), (9, .ireturn, 1), (10, .aload_n 0, 1), (11, .dup, 1), (12, .getfield 155, 3), (15, .iconst 1, 1), (16, .isub, 1), (17, .putfield 155, 3), (20, .aload_n 0, 1), (21, .bipush 72, 2), (23, .bipush 18, 2), (25, .aload_n 0, 1), (26, .getfield 155, 3), (29, .imul, 1), (30, .iadd, 1), (31, .iconst 0, 1), (32, .invokevirtual 216, 3), (35, .aload_n 0, 1), (36, .getfield 155, 3), (39, .ireturn, 1)])
theorem okX9_undo : mtOK mtX9_undo 0 := ⟨mg_in (tb5 (i := 216) rfl) rfl, mg_in (tb1 (i := 11) rfl) rfl, by decide, ⟨by decide, by decide, by decide⟩, by decide +kernel, by decide⟩
theorem vkX9_undo : mVok mtX9_undo 0 9 := ⟨okX9_undo, mg_in (tb5 (i := 214) rfl) rfl, mg_in (tb5 (i := 215) rfl) rfl, TX9, 27, rfl⟩
def mtX9_keep : mT := (⟨"MondayDealModel", "keep", "(I)I"⟩, prog_11_method_49_code, 2, some .int, [(0, .iload_n 1, 1), (1, .i2l, 1), (2, .lconst 0, 1), (3, .lconst 1, 1), (4, .invokestatic 58, 3), (7, .ifCond .ne 6, 3), (10, .bipush (-2), 2), (12, .ireturn, 1), (13, .aload_n 0, 1), (14, .iconst 0, 1), (15, .bipush 18, 2), (17, .iconst 1, 1), (18, .iload_n 1, 1), (19, .iadd, 1), (20, .imul, 1), (21, .invokevirtual 216, 3), (24, .aload_n 0, 1), (25, .getfield 13, 3), (28, .iload_n 1, 1), (29, .iconst 1, 1), (30, .bastore, 1), (31, .aload_n 0, 1), (32, .getfield 7, 3), (35, .bipush 13, 2), (37, .iaload, 1), (38, .ireturn, 1)])
theorem okX9_keep : mtOK mtX9_keep 1 := ⟨mg_in (tb5 (i := 220) rfl) rfl, mg_in (tb1 (i := 11) rfl) rfl, by decide, ⟨by decide, by decide, by decide⟩, by decide +kernel, by decide⟩
theorem vkX9_keep : mVok mtX9_keep 1 9 := ⟨okX9_keep, mg_in (tb5 (i := 218) rfl) rfl, mg_in (tb5 (i := 219) rfl) rfl, TX9, 27, rfl⟩
def mtX9_back : mT := (⟨"MondayDealModel", "back", "(I)I"⟩, prog_11_method_50_code, 2, some .int, [(0, .iload_n 1, 1), (1, .i2l, 1), (2, .lconst 0, 1), (3, .lconst 1, 1), (4, .invokestatic 58, 3), (7, .ifCond .ne 6, 3), (10, .bipush (-2), 2), (12, .ireturn, 1), (13, .aload_n 0, 1), (14, .getfield 13, 3), (17, .iload_n 1, 1), (18, .baload, 1), (19, .ifCond .ne 6, 3), (22, .bipush (-4), 2), (24, .ireturn, 1), (25, .aload_n 0, 1), (26, .bipush 18, 2), (28, .iconst 1, 1), (29, .iload_n 1, 1), (30, .iadd, 1), (31, .imul, 1), (32, .iconst 0, 1), (33, .invokevirtual 216, 3), (36, .aload_n 0, 1), (37, .iconst 0, 1), (38, .putfield 155, 3), (41, .aload_n 0, 1), (42, .getfield 7, 3), (45, .bipush 13, 2), (47, .iaload, 1), (48, .ireturn, 1)])
theorem okX9_back : mtOK mtX9_back 1 := ⟨mg_in (tb5 (i := 224) rfl) rfl, mg_in (tb1 (i := 11) rfl) rfl, by decide, ⟨by decide, by decide, by decide⟩, by decide +kernel, by decide⟩
theorem vkX9_back : mVok mtX9_back 1 9 := ⟨okX9_back, mg_in (tb5 (i := 222) rfl) rfl, mg_in (tb5 (i := 223) rfl) rfl, TX9, 27, rfl⟩
def mtX9_divisor : mT := (⟨"MondayDealModel", "divisor", "(JJ)J"⟩, prog_11_method_51_code, 10, some .long, [(0, .lload_n 0, 1), (1, .lstore 4, 2), (3, .lload_n 2, 1), (4, .lstore 6, 2), (6, .lload 6, 2), (8, .lconst 0, 1), (9, .lcmp, 1), (10, .ifCond .eq 21, 3), (13, .lload 4, 2), (15, .lload 6, 2), (17, .lrem, 1), (18, .lstore 8, 2), (20, .lload 6, 2), (22, .lstore 4, 2), (24, .lload 8, 2), (26, .lstore 6, 2), (28, .goto (-22), 3), (31, .lload 4, 2), (33, .lreturn, 1)])
theorem okX9_divisor : mtOK mtX9_divisor 2 := ⟨mg_in (tb6 (i := 1) rfl) rfl, mg_in (tb1 (i := 11) rfl) rfl, by decide, ⟨by decide, by decide, by decide⟩, by decide +kernel, by decide⟩
theorem skX9_divisor : mSok mtX9_divisor 2 := ⟨okX9_divisor, mg_in (tb6 (i := 0) rfl) rfl⟩
def mtX9_part : mT := (⟨"MondayDealModel", "part", "(JJI)J"⟩, prog_11_method_52_code, 7, some .long, [(0, .lload_n 0, 1), (1, .lload_n 2, 1), (2, .invokestatic 231, 3), (5, .lstore 5, 2), (7, .iload 4, 2), (9, .ifCond .ne 10, 3), (12, .lload_n 0, 1), (13, .lload 5, 2), (15, .ldiv, 1), (16, .goto 7, 3), (19, .lload_n 2, 1), (20, .lload 5, 2), (22, .ldiv, 1), (23, .lreturn, 1)])
theorem okX9_part : mtOK mtX9_part 3 := ⟨mg_in (tb5 (i := 238) rfl) rfl, mg_in (tb1 (i := 11) rfl) rfl, by decide, ⟨by decide, by decide, by decide⟩, by decide +kernel, by decide⟩
theorem skX9_part : mSok mtX9_part 3 := ⟨okX9_part, mg_in (tb5 (i := 237) rfl) rfl⟩
def mtX9_isPart : mT := (⟨"MondayDealModel", "isPart", "(I)Z"⟩, prog_11_method_53_code, 1, some .boolean, [(0, .iload_n 0, 1), (1, .i2l, 1), (2, .lconst 0, 1), (3, .lconst 1, 1), (4, .invokestatic 58, 3), (7, .ireturn, 1)])
theorem okX9_isPart : mtOK mtX9_isPart 1 := ⟨mg_in (tb5 (i := 231) rfl) rfl, mg_in (tb1 (i := 11) rfl) rfl, by decide, ⟨by decide, by decide, by decide⟩, by decide +kernel, by decide⟩
theorem skX9_isPart : mSok mtX9_isPart 1 := ⟨okX9_isPart, mg_in (tb5 (i := 230) rfl) rfl⟩
def mtX9_earnedBy : mT := (⟨"MondayDealModel", "earnedBy", "(II)I"⟩, prog_11_method_54_code, 4, some .int, [(0, .aload_n 0, 1), (1, .iconst 0, 1), (2, .bipush 54, 2), (4, .invokevirtual 216, 3), (7, .iconst 0, 1), (8, .istore_n 3, 1), (9, .iload_n 3, 1), (10, .aload_n 0, 1), (11, .getfield 132, 3), (14, .if_icmp .ge 39, 3), (17, .aload_n 0, 1), (18, .getfield 7, 3), (21, .bipush 54, 2), (23, .iload_n 3, 1), (24, .iadd, 1), (25, .iload_n 2, 1), (26, .iload_n 3, 1), (27, .invokestatic 180, 3), (30, .ifCond .eq 7, 3), (33, .iconst 0, 1), (34, .goto 12, 3), (37, .aload_n 0, 1), (38, .getfield 7, 3), (41, .bipush 54, 2), (43, .iload_n 3, 1), (44, .iadd, 1), (45, .iaload, 1), (46, .iastore, 1), (47, .iinc 3 1, 3), (50, .goto (-41), 3), (53, .aload_n 0, 1), (54, .bipush 54, 2), (56, .iload_n 1, 1), (57, .invokevirtual 222, 3), (60, .aload_n 0, 1), (61, .getfield 7, 3), (64, .bipush 66, 2), (66, .iaload, 1), (67, .aload_n 0, 1), (68, .getfield 7, 3), (71, .bipush 12, 2), (73, .iaload, 1), (74, .isub, 1), (75, .ireturn, 1)])
theorem okX9_earnedBy : mtOK mtX9_earnedBy 2 := ⟨mg_in (tb5 (i := 235) rfl) rfl, mg_in (tb1 (i := 11) rfl) rfl, by decide, ⟨by decide, by decide, by decide⟩, by decide +kernel, by decide⟩
theorem vkX9_earnedBy : mVok mtX9_earnedBy 2 9 := ⟨okX9_earnedBy, mg_in (tb5 (i := 234) rfl) rfl, mg_sel (List.mem_of_getElem? (i := 57) rfl) rfl, TX9, 27, rfl⟩
def mtX9_odds : mT := (⟨"MondayDealModel", "odds", "(II)I"⟩, prog_11_method_55_code, 5, some .int, [(0, .aload_n 0, 1), (1, .iload_n 1, 1), (2, .invokevirtual 204, 3), (5, .ifCond .ne 6, 3), (8, .bipush (-2), 2), (10, .ireturn, 1), (11, .iload_n 2, 1), (12, .invokestatic 235, 3), (15, .ifCond .ne 6, 3), (18, .bipush (-3), 2), (20, .ireturn, 1), (21, .aload_n 0, 1), (22, .getfield 187, 3), (25, .ifCond .ne 6, 3), (28, .bipush (-4), 2), (30, .ireturn, 1), (31, .iconst 0, 1), (32, .istore_n 3, 1), (33, .iconst 0, 1), (34, .istore 4, 2), (36, .iload 4, 2), (38, .aload_n 0, 1), (39, .getfield 187, 3), (42, .if_icmp .ge 51, 3), (45, .aload_n 0, 1), (46, .aload_n 0, 1), (47, .getfield 44, 3), (50, .iload 4, 2), (52, .iaload, 1), (53, .iconst 0, 1), (54, .invokevirtual 238, 3), (57, .pop, 1), (58, .iload_n 3, 1), (59, .aload_n 0, 1), (60, .getfield 7, 3), (63, .bipush 60, 2), (65, .iload_n 1, 1), (66, .iadd, 1), (67, .iaload, 1), (68, .aload_n 0, 1), (69, .getfield 7, 3), (72, .bipush 6, 2), (74, .iload_n 1, 1), (75, .iadd, 1), (76, .iaload, 1), (77, .if_icmp .le 7, 3), (80, .iconst 1, 1), (81, .goto 4, 3), (84, .iconst 0, 1), (85, .iadd, 1), (86, .istore_n 3, 1), (87, .iinc 4 1, 3), (90, .goto (-54), 3), (93, .iload_n 3, 1), (94, .i2l, 1), (95, .aload_n 0, 1), (96, .getfield 187, 3), (99, .i2l, 1), (100, .iload_n 2, 1), (101, .invokestatic 241, 3), (104, .l2i, 1), (105, .ireturn, 1)])
theorem okX9_odds : mtOK mtX9_odds 2 := ⟨mg_in (tb5 (i := 228) rfl) rfl, mg_in (tb1 (i := 11) rfl) rfl, by decide, ⟨by decide, by decide, by decide⟩, by decide +kernel, by decide⟩
theorem vkX9_odds : mVok mtX9_odds 2 9 := ⟨okX9_odds, mg_in (tb5 (i := 226) rfl) rfl, mg_in (tb5 (i := 227) rfl) rfl, TX9, 27, rfl⟩
def mtX9_earnedInAll : mT := (⟨"MondayDealModel", "earnedInAll", "(I)I"⟩, prog_11_method_56_code, 4, some .int, [(0, .iconst 0, 1), (1, .istore_n 2, 1), (2, .iconst 0, 1), (3, .istore_n 3, 1), (4, .iload_n 3, 1), (5, .aload_n 0, 1), (6, .getfield 187, 3), (9, .if_icmp .ge 23, 3), (12, .iload_n 2, 1), (13, .aload_n 0, 1), (14, .aload_n 0, 1), (15, .getfield 44, 3), (18, .iload_n 3, 1), (19, .iaload, 1), (20, .iload_n 1, 1), (21, .invokevirtual 238, 3), (24, .iadd, 1), (25, .istore_n 2, 1), (26, .iinc 3 1, 3), (29, .goto (-25), 3), (32, .iload_n 2, 1), (33, .ireturn, 1)])
theorem okX9_earnedInAll : mtOK mtX9_earnedInAll 1 := ⟨mg_in (tb6 (i := 9) rfl) rfl, mg_in (tb1 (i := 11) rfl) rfl, by decide, ⟨by decide, by decide, by decide⟩, by decide +kernel, by decide⟩
theorem vkX9_earnedInAll : mVok mtX9_earnedInAll 1 9 := ⟨okX9_earnedInAll, mg_in (tb6 (i := 8) rfl) rfl, mg_sel (List.mem_of_getElem? (i := 58) rfl) rfl, TX9, 27, rfl⟩
def mtX9_mean : mT := (⟨"MondayDealModel", "mean", "(I)I"⟩, prog_11_method_57_code, 2, some .int, [(0, .iload_n 1, 1), (1, .invokestatic 235, 3), (4, .ifCond .ne 8, 3), (7, .bipush (-3), 2), (9, .goto 31, 3), (12, .aload_n 0, 1), (13, .getfield 187, 3), (16, .ifCond .ne 8, 3), (19, .bipush (-4), 2), (21, .goto 19, 3), (24, .aload_n 0, 1), (25, .iconst 0, 1), (26, .invokevirtual 245, 3), (29, .i2l, 1), (30, .aload_n 0, 1), (31, .getfield 187, 3), (34, .i2l, 1), (35, .iload_n 1, 1), (36, .invokestatic 241, 3), (39, .l2i, 1), (40, .ireturn, 1)])
theorem okX9_mean : mtOK mtX9_mean 1 := ⟨mg_in (tb6 (i := 5) rfl) rfl, mg_in (tb1 (i := 11) rfl) rfl, by decide, ⟨by decide, by decide, by decide⟩, by decide +kernel, by decide⟩
theorem vkX9_mean : mVok mtX9_mean 1 9 := ⟨okX9_mean, mg_in (tb6 (i := 3) rfl) rfl, mg_in (tb6 (i := 4) rfl) rfl, TX9, 27, rfl⟩
def mtX9_safe : mT := (⟨"MondayDealModel", "safe", "()I"⟩, prog_11_method_58_code, 4, some .int, [(0, .aload_n 0, 1), (1, .getfield 187, 3), (4, .ifCond .ne 6, 3), (7, .bipush (-4), 2), (9, .ireturn, 1), (10, .iconst 1, 1), (11, .aload_n 0, 1), (12, .getfield 132, 3), (15, .ishl, 1), (16, .iconst 1, 1), (17, .isub, 1), (18, .istore_n 1, 1), (19, .iconst 0, 1), (20, .istore_n 2, 1), (21, .iload_n 2, 1), (22, .aload_n 0, 1), (23, .getfield 187, 3), (26, .if_icmp .ge 70, 3), (29, .aload_n 0, 1), (30, .aload_n 0, 1), (31, .getfield 44, 3), (34, .iload_n 2, 1), (35, .iaload, 1), (36, .iconst 0, 1), (37, .invokevirtual 238, 3), (40, .pop, 1), (41, .iconst 0, 1), (42, .istore_n 3, 1), (43, .iload_n 3, 1), (44, .aload_n 0, 1), (45, .getfield 132, 3), (48, .if_icmp .ge 42, 3), (51, .iload_n 1, 1), (52, .aload_n 0, 1), (53, .getfield 7, 3), (56, .bipush 60, 2), (58, .iload_n 3, 1), (59, .iadd, 1), (60, .iaload, 1), (61, .aload_n 0, 1), (62, .getfield 7, 3), (65, .bipush 6, 2), (67, .iload_n 3, 1), (68, .iadd, 1), (69, .iaload, 1), (70, .if_icmp .le 7, 3), (73, .iconst (-1), 1), (74, .goto 8, 3), (77, .iconst 1, 1), (78, .iload_n 3, 1), (79, .ishl, 1), (80, .iconst (-1), 1), (81, .ixor, 1), (82, .iand, 1), (83, .istore_n 1, 1), (84, .iinc 3 1, 3), (87, .goto (-44), 3), (90, .iinc 2 1, 3), (93, .goto (-72), 3), (96, .iload_n 1, 1), (97, .ireturn, 1)])
theorem okX9_safe : mtOK mtX9_safe 0 := ⟨mg_in (tb6 (i := 13) rfl) rfl, mg_in (tb1 (i := 11) rfl) rfl, by decide, ⟨by decide, by decide, by decide⟩, by decide +kernel, by decide⟩
theorem vkX9_safe : mVok mtX9_safe 0 9 := ⟨okX9_safe, mg_in (tb6 (i := 11) rfl) rfl, mg_in (tb6 (i := 12) rfl) rfl, TX9, 27, rfl⟩
def mtX9_outmost : mT := (⟨"MondayDealModel", "outmost", "(II)I"⟩, prog_11_method_59_code, 7, some .int, [(0, .iload_n 2, 1), (1, .invokestatic 235, 3), (4, .ifCond .ne 6, 3), (7, .bipush (-3), 2), (9, .ireturn, 1), (10, .aload_n 0, 1), (11, .getfield 187, 3), (14, .ifCond .ne 6, 3), (17, .bipush (-4), 2), (19, .ireturn, 1), (20, .iconst 0, 1), (21, .istore_n 3, 1), (22, .aload_n 0, 1), (23, .aload_n 0, 1), (24, .getfield 44, 3), (27, .iconst 0, 1), (28, .iaload, 1), (29, .iconst 0, 1), (30, .invokevirtual 238, 3), (33, .istore 4, 2), (35, .iconst 1, 1), (36, .istore 5, 2), (38, .iload 5, 2), (40, .aload_n 0, 1), (41, .getfield 187, 3), (44, .if_icmp .ge 61, 3), (47, .aload_n 0, 1), (48, .aload_n 0, 1), (49, .getfield 44, 3), (52, .iload 5, 2), (54, .iaload, 1), (55, .iconst 0, 1), (56, .invokevirtual 238, 3), (59, .istore 6, 2), (61, .iload_n 1, 1), (62, .iload 6, 2), (64, .imul, 1), (65, .iload_n 1, 1), (66, .iload 4, 2), (68, .imul, 1), (69, .if_icmp .le 8, 3), (72, .iload 5, 2), (74, .goto 4, 3), (77, .iload_n 3, 1), (78, .istore_n 3, 1), (79, .iload_n 1, 1), (80, .iload 6, 2), (82, .imul, 1), (83, .iload_n 1, 1), (84, .iload 4, 2), (86, .imul, 1), (87, .if_icmp .le 8, 3), (90, .iload 6, 2), (92, .goto 5, 3), (95, .iload 4, 2), (97, .istore 4, 2), (99, .iinc 5 1, 3), (102, .goto (-64), 3), (105, .iload_n 2, 1), (106, .ifCond .ne 8, 3), (109, .iload 4, 2), (111, .goto 4, 3), (114, .iload_n 3, 1), (115, .ireturn, 1)])
theorem okX9_outmost : mtOK mtX9_outmost 2 := ⟨mg_in (tb6 (i := 21) rfl) rfl, mg_in (tb1 (i := 11) rfl) rfl, by decide, ⟨by decide, by decide, by decide⟩, by decide +kernel, by decide⟩
theorem vkX9_outmost : mVok mtX9_outmost 2 9 := ⟨okX9_outmost, mg_in (tb6 (i := 20) rfl) rfl, mg_sel (List.mem_of_getElem? (i := 59) rfl) rfl, TX9, 27, rfl⟩
def mtX9_best : mT := (⟨"MondayDealModel", "best", "(I)I"⟩, prog_11_method_60_code, 2, some .int, [(0, .aload_n 0, 1), (1, .iconst 1, 1), (2, .iload_n 1, 1), (3, .invokevirtual 248, 3), (6, .ireturn, 1)])
theorem okX9_best : mtOK mtX9_best 1 := ⟨mg_in (tb6 (i := 17) rfl) rfl, mg_in (tb1 (i := 11) rfl) rfl, by decide, ⟨by decide, by decide, by decide⟩, by decide +kernel, by decide⟩
theorem vkX9_best : mVok mtX9_best 1 9 := ⟨okX9_best, mg_in (tb6 (i := 15) rfl) rfl, mg_in (tb6 (i := 16) rfl) rfl, TX9, 27, rfl⟩
def mtX9_worst : mT := (⟨"MondayDealModel", "worst", "(I)I"⟩, prog_11_method_61_code, 2, some .int, [(0, .aload_n 0, 1), (1, .iconst (-1), 1), (2, .iload_n 1, 1), (3, .invokevirtual 248, 3), (6, .ireturn, 1)])
theorem okX9_worst : mtOK mtX9_worst 1 := ⟨mg_in (tb6 (i := 25) rfl) rfl, mg_in (tb1 (i := 11) rfl) rfl, by decide, ⟨by decide, by decide, by decide⟩, by decide +kernel, by decide⟩
theorem vkX9_worst : mVok mtX9_worst 1 9 := ⟨okX9_worst, mg_in (tb6 (i := 23) rfl) rfl, mg_in (tb6 (i := 24) rfl) rfl, TX9, 27, rfl⟩
def mtX9_makeReady : mT := (⟨"MondayDealModel", "makeReady", "(II)I"⟩, prog_11_method_62_code, 7, some .int, [(0, .iload_n 1, 1), (1, .i2l, 1), (2, .lconst 1, 1), (3, .ldc2_w 251, 3), (6, .invokestatic 58, 3), (9, .ifCond .eq 10, 3), (12, .iload_n 2, 1), (13, .invokestatic 235, 3), (16, .ifCond .ne 6, 3), (19, .bipush (-3), 2), (21, .ireturn, 1), (22, .iconst 0, 1), (23, .istore_n 3, 1), (24, .aload_n 0, 1), (25, .iconst 0, 1), (26, .invokevirtual 245, 3), (29, .istore 4, 2), (31, .iconst 1, 1), (32, .istore 5, 2), (34, .iload 5, 2), (36, .iconst 1, 1), (37, .aload_n 0, 1), (38, .getfield 132, 3), (41, .ishl, 1), (42, .if_icmp .ge 67, 3), (45, .iload 5, 2), (47, .aload_n 0, 1), (48, .iconst 0, 1), (49, .invokevirtual 225, 3), (52, .iand, 1), (53, .ifCond .ne 50, 3), (56, .iload 5, 2), (58, .invokestatic 228, 3), (61, .iload_n 1, 1), (62, .if_icmp .gt 41, 3), (65, .aload_n 0, 1), (66, .iload 5, 2), (68, .invokevirtual 245, 3), (71, .istore 6, 2), (73, .iload 6, 2), (75, .iload 4, 2), (77, .if_icmp .le 8, 3), (80, .iload 5, 2), (82, .goto 4, 3), (85, .iload_n 3, 1), (86, .istore_n 3, 1), (87, .iload 6, 2), (89, .iload 4, 2), (91, .if_icmp .le 8, 3), (94, .iload 6, 2), (96, .goto 5, 3), (99, .iload 4, 2), (101, .istore 4, 2), (103, .iinc 5 1, 3), (106, .goto (-72), 3), (109, .iload_n 2, 1), (110, .ifCond .ne 8, 3), (113, .iload 4, 2), (115, .goto 4, 3), (118, .iload_n 3, 1), (119, .ireturn, 1)])
theorem okX9_makeReady : mtOK mtX9_makeReady 2 := ⟨mg_in (tb6 (i := 29) rfl) rfl, mg_in (tb1 (i := 11) rfl) rfl, by decide, ⟨by decide, by decide, by decide⟩, by decide +kernel, by decide⟩
theorem vkX9_makeReady : mVok mtX9_makeReady 2 9 := ⟨okX9_makeReady, mg_in (tb6 (i := 27) rfl) rfl, mg_in (tb6 (i := 28) rfl) rfl, TX9, 27, rfl⟩
def mtX9_fair : mT := (⟨"MondayDealModel", "fair", "(III)I"⟩, prog_11_method_63_code, 6, some .int, [(0, .iload_n 1, 1), (1, .invokestatic 198, 3), (4, .ifCond .ne 6, 3), (7, .bipush (-2), 2), (9, .ireturn, 1), (10, .iload_n 2, 1), (11, .i2l, 1), (12, .lconst 1, 1), (13, .ldc2_w 253, 3), (16, .invokestatic 58, 3), (19, .ifCond .eq 10, 3), (22, .iload_n 3, 1), (23, .invokestatic 235, 3), (26, .ifCond .ne 6, 3), (29, .bipush (-3), 2), (31, .ireturn, 1), (32, .aload_n 0, 1), (33, .getfield 187, 3), (36, .ifCond .ne 6, 3), (39, .bipush (-4), 2), (41, .ireturn, 1), (42, .iconst 0, 1), (43, .istore 4, 2), (45, .iconst 0, 1), (46, .istore 5, 2), (48, .iload 5, 2), (50, .aload_n 0, 1), (51, .getfield 187, 3), (54, .if_icmp .ge 34, 3), (57, .iload 4, 2), (59, .aload_n 0, 1), (60, .getfield 44, 3), (63, .iload 5, 2), (65, .iaload, 1), (66, .iload_n 1, 1), (67, .invokestatic 177, 3), (70, .iload_n 2, 1), (71, .if_icmp .ge 7, 3), (74, .iconst 1, 1), (75, .goto 4, 3), (78, .iconst 0, 1), (79, .iadd, 1), (80, .istore 4, 2), (82, .iinc 5 1, 3), (85, .goto (-37), 3), (88, .iload 4, 2), (90, .i2l, 1), (91, .aload_n 0, 1), (92, .getfield 187, 3), (95, .i2l, 1), (96, .iload_n 3, 1), (97, .invokestatic 241, 3), (100, .l2i, 1), (101, .ireturn, 1)])
theorem okX9_fair : mtOK mtX9_fair 3 := ⟨mg_in (tb6 (i := 34) rfl) rfl, mg_in (tb1 (i := 11) rfl) rfl, by decide, ⟨by decide, by decide, by decide⟩, by decide +kernel, by decide⟩
theorem vkX9_fair : mVok mtX9_fair 3 9 := ⟨okX9_fair, mg_in (tb6 (i := 32) rfl) rfl, mg_in (tb6 (i := 33) rfl) rfl, TX9, 27, rfl⟩
def mtX9_beside : mT := (⟨"MondayDealModel", "beside", "(III)I"⟩, prog_11_method_64_code, 7, some .int, [(0, .iload_n 1, 1), (1, .invokestatic 198, 3), (4, .ifCond .eq 15, 3), (7, .iload_n 2, 1), (8, .invokestatic 198, 3), (11, .ifCond .eq 8, 3), (14, .iload_n 1, 1), (15, .iload_n 2, 1), (16, .if_icmp .ne 6, 3), (19, .bipush (-2), 2), (21, .ireturn, 1), (22, .iload_n 3, 1), (23, .invokestatic 235, 3), (26, .ifCond .ne 6, 3), (29, .bipush (-3), 2), (31, .ireturn, 1), (32, .aload_n 0, 1), (33, .getfield 187, 3), (36, .ifCond .ne 6, 3), (39, .bipush (-4), 2), (41, .ireturn, 1), (42, .iconst 0, 1), (43, .istore 4, 2), (45, .iconst 0, 1), (46, .istore 5, 2), (48, .iload 5, 2), (50, .aload_n 0, 1), (51, .getfield 187, 3), (54, .if_icmp .ge 56, 3), (57, .aload_n 0, 1), (58, .getfield 44, 3), (61, .iload 5, 2), (63, .iaload, 1), (64, .iload_n 1, 1), (65, .invokestatic 177, 3), (68, .aload_n 0, 1), (69, .getfield 44, 3), (72, .iload 5, 2), (74, .iaload, 1), (75, .iload_n 2, 1), (76, .invokestatic 177, 3), (79, .isub, 1), (80, .istore 6, 2), (82, .iload 4, 2), (84, .iload 6, 2), (86, .iconst 1, 1), (87, .if_icmp .eq 9, 3), (90, .iload 6, 2), (92, .iconst (-1), 1), (93, .if_icmp .ne 7, 3), (96, .iconst 1, 1), (97, .goto 4, 3), (100, .iconst 0, 1), (101, .iadd, 1), (102, .istore 4, 2), (104, .iinc 5 1, 3), (107, .goto (-59), 3), (110, .iload 4, 2), (112, .i2l, 1), (113, .aload_n 0, 1), (114, .getfield 187, 3), (117, .i2l, 1), (118, .iload_n 3, 1), (119, .invokestatic 241, 3), (122, .l2i, 1), (123, .ireturn, 1)])
theorem okX9_beside : mtOK mtX9_beside 3 := ⟨mg_in (tb6 (i := 39) rfl) rfl, mg_in (tb1 (i := 11) rfl) rfl, by decide, ⟨by decide, by decide, by decide⟩, by decide +kernel, by decide⟩
theorem vkX9_beside : mVok mtX9_beside 3 9 := ⟨okX9_beside, mg_in (tb6 (i := 37) rfl) rfl, mg_in (tb6 (i := 38) rfl) rfl, TX9, 27, rfl⟩
def mtX9_across : mT := (⟨"MondayDealModel", "across", "(III)I"⟩, prog_11_method_65_code, 6, some .int, [(0, .iload_n 1, 1), (1, .invokestatic 198, 3), (4, .ifCond .eq 10, 3), (7, .iload_n 2, 1), (8, .invokestatic 198, 3), (11, .ifCond .ne 6, 3), (14, .bipush (-2), 2), (16, .ireturn, 1), (17, .iload_n 3, 1), (18, .invokestatic 235, 3), (21, .ifCond .ne 6, 3), (24, .bipush (-3), 2), (26, .ireturn, 1), (27, .aload_n 0, 1), (28, .getfield 187, 3), (31, .ifCond .ne 6, 3), (34, .bipush (-4), 2), (36, .ireturn, 1), (37, .iconst 0, 1), (38, .istore 4, 2), (40, .iconst 0, 1), (41, .istore 5, 2), (43, .iload 5, 2), (45, .aload_n 0, 1), (46, .getfield 187, 3), (49, .if_icmp .ge 35, 3), (52, .iload 4, 2), (54, .aload_n 0, 1), (55, .getfield 44, 3), (58, .iload 5, 2), (60, .iaload, 1), (61, .bipush 6, 2), (63, .invokestatic 173, 3), (66, .iload_n 1, 1), (67, .if_icmp .ne 7, 3), (70, .iconst 1, 1), (71, .goto 4, 3), (74, .iconst 0, 1), (75, .iadd, 1), (76, .istore 4, 2), (78, .iinc 5 1, 3), (81, .goto (-38), 3), (84, .iload 4, 2), (86, .i2l, 1), (87, .aload_n 0, 1), (88, .iload_n 2, 1), (89, .invokevirtual 201, 3), (92, .i2l, 1), (93, .lmul, 1), (94, .aload_n 0, 1), (95, .getfield 187, 3), (98, .i2l, 1), (99, .aload_n 0, 1), (100, .getfield 187, 3), (103, .i2l, 1), (104, .lmul, 1), (105, .iload_n 3, 1), (106, .invokestatic 241, 3), (109, .l2i, 1), (110, .ireturn, 1)])
theorem okX9_across : mtOK mtX9_across 3 := ⟨mg_in (tb6 (i := 43) rfl) rfl, mg_in (tb1 (i := 11) rfl) rfl, by decide, ⟨by decide, by decide, by decide⟩, by decide +kernel, by decide⟩
theorem vkX9_across : mVok mtX9_across 3 9 := ⟨okX9_across, mg_in (tb6 (i := 41) rfl) rfl, mg_in (tb6 (i := 42) rfl) rfl, TX9, 27, rfl⟩
def mtX9_waits : mT := (⟨"MondayDealModel", "waits", "(I)I"⟩, prog_11_method_66_code, 6, some .int, [(0, .iload_n 1, 1), (1, .invokestatic 198, 3), (4, .ifCond .ne 6, 3), (7, .bipush (-2), 2), (9, .ireturn, 1), (10, .aload_n 0, 1), (11, .getfield 187, 3), (14, .ifCond .ne 6, 3), (17, .bipush (-4), 2), (19, .ireturn, 1), (20, .bipush 6, 2), (22, .istore_n 2, 1), (23, .iconst 0, 1), (24, .istore_n 3, 1), (25, .iconst 0, 1), (26, .istore 4, 2), (28, .iload 4, 2), (30, .aload_n 0, 1), (31, .getfield 187, 3), (34, .if_icmp .ge 48, 3), (37, .aload_n 0, 1), (38, .getfield 44, 3), (41, .iload 4, 2), (43, .iaload, 1), (44, .iload_n 1, 1), (45, .invokestatic 177, 3), (48, .istore 5, 2), (50, .iload 5, 2), (52, .iload_n 2, 1), (53, .if_icmp .ge 8, 3), (56, .iload 5, 2), (58, .goto 4, 3), (61, .iload_n 2, 1), (62, .istore_n 2, 1), (63, .iload 5, 2), (65, .iload_n 3, 1), (66, .if_icmp .le 8, 3), (69, .iload 5, 2), (71, .goto 4, 3), (74, .iload_n 3, 1), (75, .istore_n 3, 1), (76, .iinc 4 1, 3), (79, .goto (-51), 3), (82, .bipush 7, 2), (84, .iload_n 3, 1), (85, .iadd, 1), (86, .iload_n 2, 1), (87, .isub, 1), (88, .ireturn, 1)])
theorem okX9_waits : mtOK mtX9_waits 1 := ⟨mg_in (tb6 (i := 47) rfl) rfl, mg_in (tb1 (i := 11) rfl) rfl, by decide, ⟨by decide, by decide, by decide⟩, by decide +kernel, by decide⟩
theorem vkX9_waits : mVok mtX9_waits 1 9 := ⟨okX9_waits, mg_in (tb6 (i := 45) rfl) rfl, mg_in (tb6 (i := 46) rfl) rfl, TX9, 27, rfl⟩
def mtX9_bet : mT := (⟨"MondayDealModel", "bet", "(III)I"⟩, prog_11_method_67_code, 4, some .int, [(0, .iload_n 1, 1), (1, .invokestatic 198, 3), (4, .ifCond .ne 6, 3), (7, .bipush (-2), 2), (9, .ireturn, 1), (10, .iload_n 2, 1), (11, .i2l, 1), (12, .lconst 1, 1), (13, .ldc2_w 196, 3), (16, .invokestatic 58, 3), (19, .ifCond .eq 15, 3), (22, .iload_n 3, 1), (23, .i2l, 1), (24, .lconst 0, 1), (25, .ldc2_w 255, 3), (28, .invokestatic 58, 3), (31, .ifCond .ne 6, 3), (34, .bipush (-3), 2), (36, .ireturn, 1), (37, .aload_n 0, 1), (38, .getfield 158, 3), (41, .bipush 6, 2), (43, .if_icmp .ne 6, 3), (46, .bipush (-5), 2), (48, .ireturn, 1), (49, .aload_n 0, 1), (50, .getfield 47, 3), (53, .iconst 3, 1), (54, .aload_n 0, 1), (55, .getfield 158, 3), (58, .imul, 1), (59, .iload_n 1, 1), (60, .iastore, 1), (61, .aload_n 0, 1), (62, .getfield 47, 3), (65, .iconst 3, 1), (66, .aload_n 0, 1), (67, .getfield 158, 3), (70, .imul, 1), (71, .iconst 1, 1), (72, .iadd, 1), (73, .iload_n 2, 1), (74, .iastore, 1), (75, .aload_n 0, 1), (76, .getfield 47, 3), (79, .iconst 3, 1), (80, .aload_n 0, 1), (81, .getfield 158, 3), (84, .imul, 1), (85, .iconst 2, 1), (86, .iadd, 1), (87, .iload_n 3, 1), (88, .iastore, 1), (89, .aload_n 0, 1), (90, .dup, 1), (91, .getfield 158, 3), (94, .iconst 1, 1), (95, .iadd, 1), (96, .putfield 158, 3), (99, .aload_n 0, 1), (100, .getfield 158, 3), (103, .ireturn, 1)])
theorem okX9_bet : mtOK mtX9_bet 3 := ⟨mg_in (tb6 (i := 51) rfl) rfl, mg_in (tb1 (i := 11) rfl) rfl, by decide, ⟨by decide, by decide, by decide⟩, by decide +kernel, by decide⟩
theorem vkX9_bet : mVok mtX9_bet 3 9 := ⟨okX9_bet, mg_in (tb6 (i := 49) rfl) rfl, mg_in (tb6 (i := 50) rfl) rfl, TX9, 27, rfl⟩
def mtX9_call : mT := (⟨"MondayDealModel", "call", "()I"⟩, prog_11_method_68_code, 2, some .int, [(0, .aload_n 0, 1), (1, .getfield 158, 3), (4, .istore_n 1, 1), (5, .aload_n 0, 1), (6, .iconst 0, 1), (7, .putfield 158, 3), (10, .iload_n 1, 1), (11, .ireturn, 1)])
theorem okX9_call : mtOK mtX9_call 0 := ⟨mg_in (tb6 (i := 56) rfl) rfl, mg_in (tb1 (i := 11) rfl) rfl, by decide, ⟨by decide, by decide, by decide⟩, by decide +kernel, by decide⟩
theorem vkX9_call : mVok mtX9_call 0 9 := ⟨okX9_call, mg_in (tb6 (i := 54) rfl) rfl, mg_in (tb6 (i := 55) rfl) rfl, TX9, 27, rfl⟩
def mtX9_wonBy : mT := (⟨"MondayDealModel", "wonBy", "(II)I"⟩, prog_11_method_69_code, 6, some .int, [(0, .iconst 0, 1), (1, .istore_n 3, 1), (2, .iconst 0, 1), (3, .istore 4, 2), (5, .iload 4, 2), (7, .aload_n 0, 1), (8, .getfield 158, 3), (11, .if_icmp .ge 82, 3), (14, .iload_n 1, 1), (15, .aload_n 0, 1), (16, .getfield 47, 3), (19, .iconst 3, 1), (20, .iload 4, 2), (22, .imul, 1), (23, .iaload, 1), (24, .invokestatic 177, 3), (27, .aload_n 0, 1), (28, .getfield 47, 3), (31, .iconst 3, 1), (32, .iload 4, 2), (34, .imul, 1), (35, .iconst 1, 1), (36, .iadd, 1), (37, .iaload, 1), (38, .if_icmp .ge 7, 3), (41, .iconst 1, 1), (42, .goto 4, 3), (45, .iconst 0, 1), (46, .istore 5, 2), (48, .iload_n 3, 1), (49, .iload_n 2, 1), (50, .iload 4, 2), (52, .invokestatic 180, 3), (55, .ifCond .ne 7, 3), (58, .iconst 0, 1), (59, .goto 26, 3), (62, .iload 5, 2), (64, .ifCond .eq 8, 3), (67, .bipush 100, 2), (69, .goto 4, 3), (72, .iconst 0, 1), (73, .aload_n 0, 1), (74, .getfield 47, 3), (77, .iconst 3, 1), (78, .iload 4, 2), (80, .imul, 1), (81, .iconst 2, 1), (82, .iadd, 1), (83, .iaload, 1), (84, .isub, 1), (85, .iadd, 1), (86, .istore_n 3, 1), (87, .iinc 4 1, 3), (90, .goto (-85), 3), (93, .iload_n 3, 1), (94, .ireturn, 1)])
theorem okX9_wonBy : mtOK mtX9_wonBy 2 := ⟨mg_in (tb6 (i := 64) rfl) rfl, mg_in (tb1 (i := 11) rfl) rfl, by decide, ⟨by decide, by decide, by decide⟩, by decide +kernel, by decide⟩
theorem vkX9_wonBy : mVok mtX9_wonBy 2 9 := ⟨okX9_wonBy, mg_in (tb6 (i := 63) rfl) rfl, mg_sel (List.mem_of_getElem? (i := 60) rfl) rfl, TX9, 27, rfl⟩
def mtX9_sure : mT := (⟨"MondayDealModel", "sure", "(I)I"⟩, prog_11_method_70_code, 8, some .int, [(0, .iload_n 1, 1), (1, .invokestatic 235, 3), (4, .ifCond .ne 6, 3), (7, .bipush (-3), 2), (9, .ireturn, 1), (10, .aload_n 0, 1), (11, .getfield 187, 3), (14, .ifCond .ne 6, 3), (17, .bipush (-4), 2), (19, .ireturn, 1), (20, .iconst 0, 1), (21, .istore_n 2, 1), (22, .iconst 0, 1), (23, .istore_n 3, 1), (24, .iconst 1, 1), (25, .istore 4, 2), (27, .iload 4, 2), (29, .iconst 1, 1), (30, .aload_n 0, 1), (31, .getfield 158, 3), (34, .ishl, 1), (35, .if_icmp .ge 95, 3), (38, .sipush 9999, 3), (41, .istore 5, 2), (43, .iconst 0, 1), (44, .istore 6, 2), (46, .iload 6, 2), (48, .aload_n 0, 1), (49, .getfield 187, 3), (52, .if_icmp .ge 46, 3), (55, .iload 5, 2), (57, .iload_n 3, 1), (58, .if_icmp .le 40, 3), (61, .aload_n 0, 1), (62, .aload_n 0, 1), (63, .getfield 44, 3), (66, .iload 6, 2), (68, .iaload, 1), (69, .iload 4, 2), (71, .invokevirtual 257, 3), (74, .istore 7, 2), (76, .iload 7, 2), (78, .iload 5, 2), (80, .if_icmp .ge 8, 3), (83, .iload 7, 2), (85, .goto 5, 3), (88, .iload 5, 2), (90, .istore 5, 2), (92, .iinc 6 1, 3), (95, .goto (-49), 3), (98, .iload 5, 2), (100, .iload_n 3, 1), (101, .if_icmp .le 8, 3), (104, .iload 4, 2), (106, .goto 4, 3), (109, .iload_n 2, 1), (110, .istore_n 2, 1), (111, .iload 5, 2), (113, .iload_n 3, 1), (114, .if_icmp .le 8, 3), (117, .iload 5, 2), (119, .goto 4, 3), (122, .iload_n 3, 1), (123, .istore_n 3, 1), (124, .iinc 4 1, 3), (127, .goto (-100), 3), (130, .iload_n 1, 1), (131, .ifCond .ne 7, 3), (134, .iload_n 3, 1), (135, .goto 4, 3), (138, .iload_n 2, 1), (139, .ireturn, 1)])
theorem okX9_sure : mtOK mtX9_sure 1 := ⟨mg_in (tb6 (i := 60) rfl) rfl, mg_in (tb1 (i := 11) rfl) rfl, by decide, ⟨by decide, by decide, by decide⟩, by decide +kernel, by decide⟩
theorem vkX9_sure : mVok mtX9_sure 1 9 := ⟨okX9_sure, mg_in (tb6 (i := 58) rfl) rfl, mg_in (tb6 (i := 59) rfl) rfl, TX9, 27, rfl⟩
def mtX9_known : mT := (⟨"MondayDealModel", "known", "(III)I"⟩, prog_11_method_71_code, 4, some .int, [(0, .iload_n 1, 1), (1, .invokestatic 198, 3), (4, .ifCond .eq 15, 3), (7, .iload_n 2, 1), (8, .invokestatic 198, 3), (11, .ifCond .eq 8, 3), (14, .iload_n 1, 1), (15, .iload_n 2, 1), (16, .if_icmp .ne 6, 3), (19, .bipush (-2), 2), (21, .ireturn, 1), (22, .iload_n 3, 1), (23, .invokestatic 235, 3), (26, .ifCond .ne 6, 3), (29, .bipush (-3), 2), (31, .ireturn, 1), (32, .aload_n 0, 1), (33, .getfield 161, 3), (36, .bipush 8, 2), (38, .if_icmp .ne 6, 3), (41, .bipush (-5), 2), (43, .ireturn, 1), (44, .aload_n 0, 1), (45, .getfield 50, 3), (48, .iconst 3, 1), (49, .aload_n 0, 1), (50, .getfield 161, 3), (53, .imul, 1), (54, .iload_n 1, 1), (55, .iastore, 1), (56, .aload_n 0, 1), (57, .getfield 50, 3), (60, .iconst 3, 1), (61, .aload_n 0, 1), (62, .getfield 161, 3), (65, .imul, 1), (66, .iconst 1, 1), (67, .iadd, 1), (68, .iload_n 2, 1), (69, .iastore, 1), (70, .aload_n 0, 1), (71, .getfield 50, 3), (74, .iconst 3, 1), (75, .aload_n 0, 1), (76, .getfield 161, 3), (79, .imul, 1), (80, .iconst 2, 1), (81, .iadd, 1), (82, .iload_n 3, 1), (83, .iastore, 1), (84, .aload_n 0, 1), (85, .dup, 1), (86, .getfield 161, 3), (89, .iconst 1, 1), (90, .iadd, 1), (91, .putfield 161, 3), (94, .aload_n 0, 1), (95, .getfield 161, 3), (98, .ireturn, 1)])
theorem okX9_known : mtOK mtX9_known 3 := ⟨mg_in (tb6 (i := 68) rfl) rfl, mg_in (tb1 (i := 11) rfl) rfl, by decide, ⟨by decide, by decide, by decide⟩, by decide +kernel, by decide⟩
theorem vkX9_known : mVok mtX9_known 3 9 := ⟨okX9_known, mg_in (tb6 (i := 66) rfl) rfl, mg_in (tb6 (i := 67) rfl) rfl, TX9, 27, rfl⟩
def mtX9_forget : mT := (⟨"MondayDealModel", "forget", "()I"⟩, prog_11_method_72_code, 2, some .int, [(0, .aload_n 0, 1), (1, .getfield 161, 3), (4, .istore_n 1, 1), (5, .aload_n 0, 1), (6, .iconst 0, 1), (7, .putfield 161, 3), (10, .iload_n 1, 1), (11, .ireturn, 1)])
theorem okX9_forget : mtOK mtX9_forget 0 := ⟨mg_in (tb6 (i := 72) rfl) rfl, mg_in (tb1 (i := 11) rfl) rfl, by decide, ⟨by decide, by decide, by decide⟩, by decide +kernel, by decide⟩
theorem vkX9_forget : mVok mtX9_forget 0 9 := ⟨okX9_forget, mg_in (tb6 (i := 70) rfl) rfl, mg_in (tb6 (i := 71) rfl) rfl, TX9, 27, rfl⟩
def mtX9_fits : mT := (⟨"MondayDealModel", "fits", "(I)Z"⟩, prog_11_method_73_code, 4, some .boolean, [(0, .iconst 1, 1), (1, .istore_n 2, 1), (2, .iconst 0, 1), (3, .istore_n 3, 1), (4, .iload_n 3, 1), (5, .aload_n 0, 1), (6, .getfield 161, 3), (9, .if_icmp .ge 75, 3), (12, .iload_n 2, 1), (13, .ifCond .eq 63, 3), (16, .iload_n 1, 1), (17, .aload_n 0, 1), (18, .getfield 50, 3), (21, .iconst 3, 1), (22, .iload_n 3, 1), (23, .imul, 1), (24, .iaload, 1), (25, .invokestatic 177, 3), (28, .iload_n 1, 1), (29, .aload_n 0, 1), (30, .getfield 50, 3), (33, .iconst 3, 1), (34, .iload_n 3, 1), (35, .imul, 1), (36, .iconst 1, 1), (37, .iadd, 1), (38, .iaload, 1), (39, .invokestatic 177, 3), (42, .if_icmp .ge 7, 3), (45, .iconst 1, 1), (46, .goto 4, 3), (49, .iconst 0, 1), (50, .aload_n 0, 1), (51, .getfield 50, 3), (54, .iconst 3, 1), (55, .iload_n 3, 1), (56, .imul, 1), (57, .iconst 2, 1), (58, .iadd, 1), (59, .iaload, 1), (60, .iconst 1, 1), (61, .if_icmp .ne 7, 3), (64, .iconst 1, 1), (65, .goto 4, 3), (68, .iconst 0, 1), (69, .if_icmp .ne 7, 3), (72, .iconst 1, 1), (73, .goto 4, 3), (76, .iconst 0, 1), (77, .istore_n 2, 1), (78, .iinc 3 1, 3), (81, .goto (-77), 3), (84, .iload_n 2, 1), (85, .ireturn, 1)])
theorem okX9_fits : mtOK mtX9_fits 1 := ⟨mg_in (tb6 (i := 81) rfl) rfl, mg_in (tb1 (i := 11) rfl) rfl, by decide, ⟨by decide, by decide, by decide⟩, by decide +kernel, by decide⟩
theorem vkX9_fits : mVok mtX9_fits 1 9 := ⟨okX9_fits, mg_in (tb6 (i := 80) rfl) rfl, mg_sel (List.mem_of_getElem? (i := 61) rfl) rfl, TX9, 27, rfl⟩
def mtX9_latestMany : mT := (⟨"MondayDealModel", "latestMany", "()I"⟩, prog_11_method_74_code, 1, some .int, [(0, .aload_n 0, 1), (1, .getfield 7, 3), (4, .bipush 13, 2), (6, .iaload, 1), (7, .iconst 4, 1), (8, .if_icmp .ge 13, 3), (11, .aload_n 0, 1), (12, .getfield 7, 3), (15, .bipush 13, 2), (17, .iaload, 1), (18, .goto 4, 3), (21, .iconst 4, 1), (22, .ireturn, 1)])
theorem okX9_latestMany : mtOK mtX9_latestMany 0 := ⟨mg_in (tb6 (i := 85) rfl) rfl, mg_in (tb1 (i := 11) rfl) rfl, by decide, ⟨by decide, by decide, by decide⟩, by decide +kernel, by decide⟩
theorem vkX9_latestMany : mVok mtX9_latestMany 0 9 := ⟨okX9_latestMany, mg_in (tb6 (i := 84) rfl) rfl, mg_sel (List.mem_of_getElem? (i := 62) rfl) rfl, TX9, 27, rfl⟩
def mtX9_fit : mT := (⟨"MondayDealModel", "fit", "(I)I"⟩, prog_11_method_75_code, 6, some .int, [(0, .iload_n 1, 1), (1, .i2l, 1), (2, .lconst 0, 1), (3, .ldc2_w 260, 3), (6, .invokestatic 58, 3), (9, .ifCond .ne 6, 3), (12, .bipush (-3), 2), (14, .ireturn, 1), (15, .iconst 0, 1), (16, .istore_n 2, 1), (17, .iconst (-1), 1), (18, .istore_n 3, 1), (19, .iconst 0, 1), (20, .istore 4, 2), (22, .iload 4, 2), (24, .aload_n 0, 1), (25, .getfield 187, 3), (28, .if_icmp .ge 51, 3), (31, .aload_n 0, 1), (32, .aload_n 0, 1), (33, .getfield 44, 3), (36, .iload 4, 2), (38, .iaload, 1), (39, .invokevirtual 262, 3), (42, .istore 5, 2), (44, .iload 5, 2), (46, .ifCond .eq 12, 3), (49, .iload_n 2, 1), (50, .ifCond .ne 8, 3), (53, .iload 4, 2), (55, .goto 4, 3), (58, .iload_n 3, 1), (59, .istore_n 3, 1), (60, .iload_n 2, 1), (61, .iload 5, 2), (63, .ifCond .eq 7, 3), (66, .iconst 1, 1), (67, .goto 4, 3), (70, .iconst 0, 1), (71, .iadd, 1), (72, .istore_n 2, 1), (73, .iinc 4 1, 3), (76, .goto (-54), 3), (79, .iconst 0, 1), (80, .istore 4, 2), (82, .iconst 0, 1), (83, .istore 5, 2), (85, .iload 5, 2), (87, .aload_n 0, 1), (88, .invokevirtual 265, 3), (91, .if_icmp .ge 39, 3), (94, .iload 4, 2), (96, .aload_n 0, 1), (97, .aload_n 0, 1), (98, .getfield 7, 3), (101, .bipush 14, 2), (103, .iload 5, 2), (105, .iadd, 1), (106, .iaload, 1), (107, .invokevirtual 262, 3), (110, .ifCond .eq 10, 3), (113, .iconst 1, 1), (114, .iload 5, 2), (116, .ishl, 1), (117, .goto 4, 3), (120, .iconst 0, 1), (121, .ior, 1), (122, .istore 4, 2), (124, .iinc 5 1, 3), (127, .goto (-42), 3), (130, .iload_n 1, 1), (131, .ifCond .ne 7, 3), (134, .iload_n 2, 1), (135, .goto 14, 3), (138, .iload_n 1, 1), (139, .iconst 1, 1), (140, .if_icmp .ne 7, 3), (143, .iload_n 3, 1), (144, .goto 5, 3), (147, .iload 4, 2), (149, .ireturn, 1)])
theorem okX9_fit : mtOK mtX9_fit 1 := ⟨mg_in (tb6 (i := 76) rfl) rfl, mg_in (tb1 (i := 11) rfl) rfl, by decide, ⟨by decide, by decide, by decide⟩, by decide +kernel, by decide⟩
theorem vkX9_fit : mVok mtX9_fit 1 9 := ⟨okX9_fit, mg_in (tb6 (i := 74) rfl) rfl, mg_in (tb6 (i := 75) rfl) rfl, TX9, 27, rfl⟩
def mtX9_at : mT := (⟨"MondayDealModel", "at", "(I)I"⟩, prog_11_method_76_code, 4, some .int, [(0, .iload_n 1, 1), (1, .i2l, 1), (2, .lconst 0, 1), (3, .ldc2_w 196, 3), (6, .invokestatic 58, 3), (9, .ifCond .ne 6, 3), (12, .bipush (-3), 2), (14, .ireturn, 1), (15, .iconst 0, 1), (16, .istore_n 2, 1), (17, .iconst 0, 1), (18, .istore_n 3, 1), (19, .iload_n 3, 1), (20, .aload_n 0, 1), (21, .getfield 187, 3), (24, .if_icmp .ge 41, 3), (27, .iload_n 2, 1), (28, .aload_n 0, 1), (29, .aload_n 0, 1), (30, .getfield 44, 3), (33, .iload_n 3, 1), (34, .iaload, 1), (35, .invokevirtual 262, 3), (38, .ifCond .eq 18, 3), (41, .iconst 1, 1), (42, .aload_n 0, 1), (43, .getfield 44, 3), (46, .iload_n 3, 1), (47, .iaload, 1), (48, .iload_n 1, 1), (49, .invokestatic 173, 3), (52, .ishl, 1), (53, .goto 4, 3), (56, .iconst 0, 1), (57, .ior, 1), (58, .istore_n 2, 1), (59, .iinc 3 1, 3), (62, .goto (-43), 3), (65, .iload_n 2, 1), (66, .invokestatic 228, 3), (69, .iconst 1, 1), (70, .if_icmp .eq 5, 3), (73, .iconst (-1), 1), (74, .ireturn, 1), (75, .iconst 0, 1), (76, .istore_n 3, 1), (77, .iload_n 2, 1), (78, .iload_n 3, 1), (79, .invokestatic 180, 3), (82, .ifCond .ne 9, 3), (85, .iinc 3 1, 3), (88, .goto (-11), 3), (91, .iload_n 3, 1), (92, .ireturn, 1)])
theorem okX9_at : mtOK mtX9_at 1 := ⟨mg_in (tb6 (i := 89) rfl) rfl, mg_in (tb1 (i := 11) rfl) rfl, by decide, ⟨by decide, by decide, by decide⟩, by decide +kernel, by decide⟩
theorem vkX9_at : mVok mtX9_at 1 9 := ⟨okX9_at, mg_in (tb6 (i := 87) rfl) rfl, mg_in (tb6 (i := 88) rfl) rfl, TX9, 27, rfl⟩
def mtX9_power : mT := (⟨"MondayDealModel", "power", "(JI)J"⟩, prog_11_method_77_code, 6, some .long, [(0, .lconst 1, 1), (1, .lstore_n 3, 1), (2, .iconst 0, 1), (3, .istore 5, 2), (5, .iload 5, 2), (7, .iload_n 2, 1), (8, .if_icmp .ge 13, 3), (11, .lload_n 3, 1), (12, .lload_n 0, 1), (13, .lmul, 1), (14, .lstore_n 3, 1), (15, .iinc 5 1, 3), (18, .goto (-13), 3), (21, .lload_n 3, 1), (22, .lreturn, 1)])
theorem okX9_power : mtOK mtX9_power 2 := ⟨mg_in (tb6 (i := 99) rfl) rfl, mg_in (tb1 (i := 11) rfl) rfl, by decide, ⟨by decide, by decide, by decide⟩, by decide +kernel, by decide⟩
theorem skX9_power : mSok mtX9_power 2 := ⟨okX9_power, mg_in (tb6 (i := 98) rfl) rfl⟩
def mtX9_doubt : mT := (⟨"MondayDealModel", "doubt", "(II)J"⟩, prog_11_method_78_code, 12, some .long, [(0, .iload_n 1, 1), (1, .invokestatic 198, 3), (4, .ifCond .ne 7, 3), (7, .ldc2_w 268, 3), (10, .lreturn, 1), (11, .iload_n 2, 1), (12, .invokestatic 235, 3), (15, .ifCond .ne 7, 3), (18, .ldc2_w 270, 3), (21, .lreturn, 1), (22, .aload_n 0, 1), (23, .getfield 187, 3), (26, .ifCond .ne 7, 3), (29, .ldc2_w 272, 3), (32, .lreturn, 1), (33, .aload_n 0, 1), (34, .invokevirtual 265, 3), (37, .istore_n 3, 1), (38, .iconst 0, 1), (39, .istore 4, 2), (41, .iconst 0, 1), (42, .istore 5, 2), (44, .iload 5, 2), (46, .iload_n 3, 1), (47, .if_icmp .ge 37, 3), (50, .iload 4, 2), (52, .aload_n 0, 1), (53, .getfield 7, 3), (56, .bipush 14, 2), (58, .iload 5, 2), (60, .iadd, 1), (61, .iaload, 1), (62, .iconst 0, 1), (63, .invokestatic 173, 3), (66, .iload_n 1, 1), (67, .if_icmp .ne 7, 3), (70, .iconst 1, 1), (71, .goto 4, 3), (74, .iconst 0, 1), (75, .iadd, 1), (76, .istore 4, 2), (78, .iinc 5 1, 3), (81, .goto (-37), 3), (84, .aload_n 0, 1), (85, .iload_n 1, 1), (86, .invokevirtual 201, 3), (89, .i2l, 1), (90, .lstore 5, 2), (92, .lconst 0, 1), (93, .lstore 7, 2), (95, .lconst 1, 1), (96, .lstore 9, 2), (98, .iconst 0, 1), (99, .istore 11, 2), (101, .iload 11, 2), (103, .iload_n 3, 1), (104, .if_icmp .gt 67, 3), (107, .lload 7, 2), (109, .iload 11, 2), (111, .iload 4, 2), (113, .if_icmp .lt 32, 3), (116, .lload 9, 2), (118, .lload 5, 2), (120, .iload 11, 2), (122, .invokestatic 274, 3), (125, .lmul, 1), (126, .aload_n 0, 1), (127, .getfield 187, 3), (130, .i2l, 1), (131, .lload 5, 2), (133, .lsub, 1), (134, .iload_n 3, 1), (135, .iload 11, 2), (137, .isub, 1), (138, .invokestatic 274, 3), (141, .lmul, 1), (142, .goto 4, 3), (145, .lconst 0, 1), (146, .ladd, 1), (147, .lstore 7, 2), (149, .lload 9, 2), (151, .iload_n 3, 1), (152, .iload 11, 2), (154, .isub, 1), (155, .i2l, 1), (156, .lmul, 1), (157, .iload 11, 2), (159, .iconst 1, 1), (160, .iadd, 1), (161, .i2l, 1), (162, .ldiv, 1), (163, .lstore 9, 2), (165, .iinc 11 1, 3), (168, .goto (-67), 3), (171, .lload 7, 2), (173, .aload_n 0, 1), (174, .getfield 187, 3), (177, .i2l, 1), (178, .iload_n 3, 1), (179, .invokestatic 274, 3), (182, .iload_n 2, 1), (183, .invokestatic 241, 3), (186, .lreturn, 1)])
theorem okX9_doubt : mtOK mtX9_doubt 2 := ⟨mg_in (tb6 (i := 93) rfl) rfl, mg_in (tb1 (i := 11) rfl) rfl, by decide, ⟨by decide, by decide, by decide⟩, by decide +kernel, by decide⟩
theorem vkX9_doubt : mVok mtX9_doubt 2 9 := ⟨okX9_doubt, mg_in (tb6 (i := 91) rfl) rfl, mg_in (tb6 (i := 92) rfl) rfl, TX9, 27, rfl⟩
def mtX9_canBe : mT := (⟨"MondayDealModel", "canBe", "(III)Z"⟩, prog_11_method_79_code, 7, some .boolean, [(0, .iconst 0, 1), (1, .istore 4, 2), (3, .iconst 0, 1), (4, .istore 5, 2), (6, .iload 5, 2), (8, .sipush 5040, 3), (11, .if_icmp .ge 55, 3), (14, .iload 4, 2), (16, .ifCond .ne 50, 3), (19, .iload 5, 2), (21, .invokestatic 190, 3), (24, .istore 6, 2), (26, .iload 6, 2), (28, .iload_n 1, 1), (29, .invokestatic 177, 3), (32, .iconst 1, 1), (33, .iadd, 1), (34, .iload 6, 2), (36, .iload_n 2, 1), (37, .invokestatic 177, 3), (40, .if_icmp .ne 17, 3), (43, .aload_n 0, 1), (44, .iload 6, 2), (46, .iload_n 3, 1), (47, .invokevirtual 193, 3), (50, .ifCond .eq 7, 3), (53, .iconst 1, 1), (54, .goto 4, 3), (57, .iconst 0, 1), (58, .istore 4, 2), (60, .iinc 5 1, 3), (63, .goto (-57), 3), (66, .iload 4, 2), (68, .ireturn, 1)])
theorem okX9_canBe : mtOK mtX9_canBe 3 := ⟨mg_in (tb6 (i := 107) rfl) rfl, mg_in (tb1 (i := 11) rfl) rfl, by decide, ⟨by decide, by decide, by decide⟩, by decide +kernel, by decide⟩
theorem vkX9_canBe : mVok mtX9_canBe 3 9 := ⟨okX9_canBe, mg_in (tb6 (i := 106) rfl) rfl, mg_sel (List.mem_of_getElem? (i := 63) rfl) rfl, TX9, 27, rfl⟩
def mtX9_loose : mT := (⟨"MondayDealModel", "loose", "(III)I"⟩, prog_11_method_80_code, 6, some .int, [(0, .iload_n 1, 1), (1, .invokestatic 198, 3), (4, .ifCond .eq 15, 3), (7, .iload_n 2, 1), (8, .invokestatic 198, 3), (11, .ifCond .eq 8, 3), (14, .iload_n 1, 1), (15, .iload_n 2, 1), (16, .if_icmp .ne 6, 3), (19, .bipush (-2), 2), (21, .ireturn, 1), (22, .iload_n 3, 1), (23, .invokestatic 235, 3), (26, .ifCond .ne 6, 3), (29, .bipush (-3), 2), (31, .ireturn, 1), (32, .iconst (-1), 1), (33, .istore 4, 2), (35, .iconst 0, 1), (36, .istore 5, 2), (38, .iload 5, 2), (40, .iconst 1, 1), (41, .aload_n 0, 1), (42, .getfield 135, 3), (45, .ishl, 1), (46, .if_icmp .ge 48, 3), (49, .iload 4, 2), (51, .iconst (-1), 1), (52, .if_icmp .eq 16, 3), (55, .iload 5, 2), (57, .invokestatic 228, 3), (60, .iload 4, 2), (62, .invokestatic 228, 3), (65, .if_icmp .ge 23, 3), (68, .aload_n 0, 1), (69, .iload_n 1, 1), (70, .iload_n 2, 1), (71, .iload 5, 2), (73, .invokevirtual 278, 3), (76, .ifCond .eq 8, 3), (79, .iload 5, 2), (81, .goto 5, 3), (84, .iload 4, 2), (86, .istore 4, 2), (88, .iinc 5 1, 3), (91, .goto (-53), 3), (94, .iload_n 3, 1), (95, .ifCond .ne 11, 3), (98, .iload 4, 2), (100, .invokestatic 228, 3), (103, .goto 5, 3), (106, .iload 4, 2), (108, .ireturn, 1)])
theorem okX9_loose : mtOK mtX9_loose 3 := ⟨mg_in (tb6 (i := 103) rfl) rfl, mg_in (tb1 (i := 11) rfl) rfl, by decide, ⟨by decide, by decide, by decide⟩, by decide +kernel, by decide⟩
theorem vkX9_loose : mVok mtX9_loose 3 9 := ⟨okX9_loose, mg_in (tb6 (i := 101) rfl) rfl, mg_in (tb6 (i := 102) rfl) rfl, TX9, 27, rfl⟩
def mtX9_count : mT := (⟨"MondayDealModel", "count", "(I)I"⟩, prog_11_method_81_code, 2, some .int, [(0, .iload_n 1, 1), (1, .tableswitch 103 0 8 #[51, 56, 61, 69, 77, 83, 88, 93, 98], 51), (52, .aload_n 0, 1), (53, .getfield 132, 3), (56, .ireturn, 1), (57, .aload_n 0, 1), (58, .getfield 135, 3), (61, .ireturn, 1), (62, .aload_n 0, 1), (63, .getfield 7, 3), (66, .bipush 13, 2), (68, .iaload, 1), (69, .ireturn, 1), (70, .aload_n 0, 1), (71, .getfield 7, 3), (74, .bipush 12, 2), (76, .iaload, 1), (77, .ireturn, 1), (78, .aload_n 0, 1), (79, .iconst 0, 1), (80, .invokevirtual 225, 3), (83, .ireturn, 1), (84, .aload_n 0, 1), (85, .getfield 158, 3), (88, .ireturn, 1), (89, .aload_n 0, 1), (90, .getfield 161, 3), (93, .ireturn, 1), (94, .aload_n 0, 1), (95, .getfield 155, 3), (98, .ireturn, 1), (99, .aload_n 0, 1), (100, .getfield 62, 3), (103, .ireturn, 1), (104, .bipush (-3), 2), (106, .ireturn, 1)])
theorem okX9_count : mtOK mtX9_count 1 := ⟨mg_in (tb6 (i := 111) rfl) rfl, mg_in (tb1 (i := 11) rfl) rfl, by decide, ⟨by decide, by decide, by decide⟩, by decide +kernel, by decide⟩
theorem vkX9_count : mVok mtX9_count 1 9 := ⟨okX9_count, mg_in (tb6 (i := 109) rfl) rfl, mg_in (tb6 (i := 110) rfl) rfl, TX9, 27, rfl⟩
def mtJ6_bitCount_0f7a4 : mT := (⟨"java/lang/Integer", "bitCount", "(I)I"⟩, prog_12_method_49_code, 1, some .int, [(0, .iload_n 0, 1), (1, .iload_n 0, 1), (2, .iconst 1, 1), (3, .iushr, 1), (4, .ldc_w 265, 3), (7, .iand, 1), (8, .isub, 1), (9, .istore_n 0, 1), (10, .iload_n 0, 1), (11, .ldc_w 266, 3), (14, .iand, 1), (15, .iload_n 0, 1), (16, .iconst 2, 1), (17, .iushr, 1), (18, .ldc_w 266, 3), (21, .iand, 1), (22, .iadd, 1), (23, .istore_n 0, 1), (24, .iload_n 0, 1), (25, .iload_n 0, 1), (26, .iconst 4, 1), (27, .iushr, 1), (28, .iadd, 1), (29, .ldc_w 267, 3), (32, .iand, 1), (33, .istore_n 0, 1), (34, .iload_n 0, 1), (35, .iload_n 0, 1), (36, .bipush 8, 2), (38, .iushr, 1), (39, .iadd, 1), (40, .istore_n 0, 1), (41, .iload_n 0, 1), (42, .iload_n 0, 1), (43, .bipush 16, 2), (45, .iushr, 1), (46, .iadd, 1), (47, .istore_n 0, 1), (48, .iload_n 0, 1), (49, .bipush 63, 2), (51, .iand, 1), (52, .ireturn, 1)])
theorem okJ6_bitCount_0f7a4 : mtOK mtJ6_bitCount_0f7a4 1 := ⟨mg_in (tb3 (i := 163) rfl) rfl, mg_in (tb1 (i := 18) rfl) rfl, by decide, ⟨by decide, by decide, by decide⟩, by decide +kernel, by decide⟩
theorem skJ6_bitCount_0f7a4 : mSok mtJ6_bitCount_0f7a4 1 := ⟨okJ6_bitCount_0f7a4, mg_in (tb3 (i := 162) rfl) rfl⟩
def mtJ7_fill_d0a16 : mT := (⟨"java/util/Arrays", "fill", "([JJ)V"⟩, prog_18_method_101_code, 5, none, [(0, .iconst 0, 1), (1, .istore_n 3, 1), (2, .aload_n 0, 1), (3, .arraylength, 1), (4, .istore 4, 2), (6, .iload_n 3, 1), (7, .iload 4, 2), (9, .if_icmp .ge 13, 3), (12, .aload_n 0, 1), (13, .iload_n 3, 1), (14, .lload_n 1, 1), (15, .lastore, 1), (16, .iinc 3 1, 3), (19, .goto (-13), 3), (22, .return_, 1)])
theorem okJ7_fill_d0a16 : mtOK mtJ7_fill_d0a16 2 := ⟨mg_in (tb3 (i := 208) rfl) rfl, mg_in (tb1 (i := 10) rfl) rfl, by decide, ⟨by decide, by decide, by decide⟩, by decide +kernel, by decide⟩
theorem skJ7_fill_d0a16 : mSok mtJ7_fill_d0a16 2 := ⟨okJ7_fill_d0a16, mg_in (tb3 (i := 207) rfl) rfl⟩
def mtJ7_fill_53178 : mT := (⟨"java/util/Arrays", "fill", "([II)V"⟩, prog_18_method_103_code, 4, none, [(0, .iconst 0, 1), (1, .istore_n 2, 1), (2, .aload_n 0, 1), (3, .arraylength, 1), (4, .istore_n 3, 1), (5, .iload_n 2, 1), (6, .iload_n 3, 1), (7, .if_icmp .ge 13, 3), (10, .aload_n 0, 1), (11, .iload_n 2, 1), (12, .iload_n 1, 1), (13, .iastore, 1), (14, .iinc 2 1, 3), (17, .goto (-12), 3), (20, .return_, 1)])
theorem okJ7_fill_53178 : mtOK mtJ7_fill_53178 2 := ⟨mg_in (tb2 (i := 50) rfl) rfl, mg_in (tb1 (i := 10) rfl) rfl, by decide, ⟨by decide, by decide, by decide⟩, by decide +kernel, by decide⟩
theorem skJ7_fill_53178 : mSok mtJ7_fill_53178 2 := ⟨okJ7_fill_53178, mg_in (tb2 (i := 49) rfl) rfl⟩
theorem fl8_10 : mfl "MondayDeal" 10 8 0 := ⟨_, _, _, mcK8, by decide, mg_in (tb2 (i := 60) rfl) rfl⟩
theorem fl8_19 : mfl "MondayDeal" 19 8 1 := ⟨_, _, _, mcK8, by decide, mg_in (tb2 (i := 61) rfl) rfl⟩
theorem fl8_23 : mfl "MondayDeal" 23 8 2 := ⟨_, _, _, mcK8, by decide, mg_in (tb2 (i := 62) rfl) rfl⟩
theorem fl8_29 : mfl "MondayDeal" 29 8 3 := ⟨_, _, _, mcK8, by decide, mg_in (tb2 (i := 63) rfl) rfl⟩
theorem fl8_36 : mfl "MondayDeal" 36 8 4 := ⟨_, _, _, mcK8, by decide, mg_in (tb2 (i := 64) rfl) rfl⟩
theorem fl8_43 : mfl "MondayDeal" 43 8 5 := ⟨_, _, _, mcK8, by decide, mg_in (tb2 (i := 65) rfl) rfl⟩
theorem fl8_50 : mfl "MondayDeal" 50 8 6 := ⟨_, _, _, mcK8, by decide, mg_in (tb2 (i := 66) rfl) rfl⟩
theorem fl8_54 : mfl "MondayDeal" 54 8 7 := ⟨_, _, _, mcK8, by decide, mg_in (tb2 (i := 67) rfl) rfl⟩
theorem fl8_58 : mfl "MondayDeal" 58 8 8 := ⟨_, _, _, mcK8, by decide, mg_in (tb2 (i := 68) rfl) rfl⟩
theorem fl8_65 : mfl "MondayDeal" 65 8 9 := ⟨_, _, _, mcK8, by decide, mg_in (tb2 (i := 69) rfl) rfl⟩
theorem fl8_72 : mfl "MondayDeal" 72 8 10 := ⟨_, _, _, mcK8, by decide, mg_in (tb2 (i := 70) rfl) rfl⟩
theorem fl8_82 : mfl "MondayDeal" 82 6 1 := ⟨_, _, _, mcK6, by decide, mg_in (tb1 (i := 35) rfl) rfl⟩
theorem fw8_82 : mfw "MondayDeal" 82 6 1 := ⟨_, _, _, mcK6, by decide, mg_in (tb1 (i := 35) rfl) rfl, rfl⟩
theorem fl8_86 : mfl "MondayDeal" 86 6 0 := ⟨_, _, _, mcK6, by decide, mg_in (tb1 (i := 34) rfl) rfl⟩
theorem fl8_98 : mfl "MondayDeal" 98 6 2 := ⟨_, _, _, mcK6, by decide, mg_in (tb1 (i := 38) rfl) rfl⟩
theorem fw8_98 : mfw "MondayDeal" 98 6 2 := ⟨_, _, _, mcK6, by decide, mg_in (tb1 (i := 38) rfl) rfl, rfl⟩
theorem fl8_105 : mfl "MondayDeal" 105 7 0 := ⟨_, _, _, mcK7, by decide, mg_in (tb1 (i := 60) rfl) rfl⟩
theorem fl8_117 : mfl "MondayDeal" 117 2 2 := ⟨_, _, _, mcK2, by decide, mg_in (tb1 (i := 129) rfl) rfl⟩
theorem fl8_124 : mfl "MondayDeal" 124 7 2 := ⟨_, _, _, mcK7, by decide, mg_in (tb1 (i := 68) rfl) rfl⟩
theorem fl8_127 : mfl "MondayDeal" 127 7 3 := ⟨_, _, _, mcK7, by decide, mg_in (tb1 (i := 71) rfl) rfl⟩
theorem fl8_130 : mfl "MondayDeal" 130 7 4 := ⟨_, _, _, mcK7, by decide, mg_in (tb1 (i := 74) rfl) rfl⟩
theorem fl8_133 : mfl "MondayDeal" 133 7 5 := ⟨_, _, _, mcK7, by decide, mg_in (tb1 (i := 76) rfl) rfl⟩
theorem fl8_136 : mfl "MondayDeal" 136 7 6 := ⟨_, _, _, mcK7, by decide, mg_in (tb1 (i := 79) rfl) rfl⟩
theorem fl8_139 : mfl "MondayDeal" 139 5 0 := ⟨_, _, _, mcK5, by decide, mg_in (tb1 (i := 200) rfl) rfl⟩
theorem fl8_142 : mfl "MondayDeal" 142 5 1 := ⟨_, _, _, mcK5, by decide, mg_in (tb1 (i := 203) rfl) rfl⟩
theorem fl8_153 : mfl "MondayDeal" 153 2 1 := ⟨_, _, _, mcK2, by decide, mg_in (tb1 (i := 127) rfl) rfl⟩
theorem fw8_153 : mfw "MondayDeal" 153 2 1 := ⟨_, _, _, mcK2, by decide, mg_in (tb1 (i := 127) rfl) rfl, rfl⟩
theorem fl8_171 : mfl "MondayDeal" 171 5 3 := ⟨_, _, _, mcK5, by decide, mg_in (tb1 (i := 209) rfl) rfl⟩
theorem fw8_171 : mfw "MondayDeal" 171 5 3 := ⟨_, _, _, mcK5, by decide, mg_in (tb1 (i := 209) rfl) rfl, rfl⟩
theorem fl8_178 : mfl "MondayDeal" 178 8 12 := ⟨_, _, _, mcK8, by decide, mg_in (tb2 (i := 72) rfl) rfl⟩
theorem fw8_178 : mfw "MondayDeal" 178 8 12 := ⟨_, _, _, mcK8, by decide, mg_in (tb2 (i := 72) rfl) rfl, rfl⟩
theorem fl8_195 : mfl "MondayDeal" 195 4 2 := ⟨_, _, _, mcK4, by decide, mg_in (tb1 (i := 235) rfl) rfl⟩
theorem fw8_195 : mfw "MondayDeal" 195 4 2 := ⟨_, _, _, mcK4, by decide, mg_in (tb1 (i := 235) rfl) rfl, rfl⟩
theorem fl8_217 : mfl "MondayDeal" 217 3 7 := ⟨_, _, _, mcK3, by decide, mg_in (tb1 (i := 157) rfl) rfl⟩
theorem fl8_220 : mfl "MondayDeal" 220 7 1 := ⟨_, _, _, mcK7, by decide, mg_in (tb1 (i := 65) rfl) rfl⟩
theorem fw8_220 : mfw "MondayDeal" 220 7 1 := ⟨_, _, _, mcK7, by decide, mg_in (tb1 (i := 65) rfl) rfl, rfl⟩
theorem fl8_226 : mfl "MondayDeal" 226 3 8 := ⟨_, _, _, mcK3, by decide, mg_in (tb1 (i := 159) rfl) rfl⟩
theorem fw8_226 : mfw "MondayDeal" 226 3 8 := ⟨_, _, _, mcK3, by decide, mg_in (tb1 (i := 159) rfl) rfl, rfl⟩
theorem fl8_229 : mfl "MondayDeal" 229 3 9 := ⟨_, _, _, mcK3, by decide, mg_in (tb1 (i := 161) rfl) rfl⟩
theorem fw8_229 : mfw "MondayDeal" 229 3 9 := ⟨_, _, _, mcK3, by decide, mg_in (tb1 (i := 161) rfl) rfl, rfl⟩
theorem fl8_232 : mfl "MondayDeal" 232 3 10 := ⟨_, _, _, mcK3, by decide, mg_in (tb1 (i := 163) rfl) rfl⟩
theorem fw8_232 : mfw "MondayDeal" 232 3 10 := ⟨_, _, _, mcK3, by decide, mg_in (tb1 (i := 163) rfl) rfl, rfl⟩
theorem fl8_235 : mfl "MondayDeal" 235 3 11 := ⟨_, _, _, mcK3, by decide, mg_in (tb1 (i := 165) rfl) rfl⟩
theorem fw8_235 : mfw "MondayDeal" 235 3 11 := ⟨_, _, _, mcK3, by decide, mg_in (tb1 (i := 165) rfl) rfl, rfl⟩
theorem fl8_251 : mfl "MondayDeal" 251 2 3 := ⟨_, _, _, mcK2, by decide, mg_in (tb1 (i := 131) rfl) rfl⟩
theorem fl8_265 : mfl "MondayDeal" 265 0 3 := ⟨_, _, _, mcK0, by decide, mg_in (tb2 (i := 13) rfl) rfl⟩
theorem fw8_265 : mfw "MondayDeal" 265 0 3 := ⟨_, _, _, mcK0, by decide, mg_in (tb2 (i := 13) rfl) rfl, rfl⟩
theorem fl8_275 : mfl "MondayDeal" 275 1 2 := ⟨_, _, _, mcK1, by decide, mg_in (tb2 (i := 36) rfl) rfl⟩
theorem fw8_275 : mfw "MondayDeal" 275 1 2 := ⟨_, _, _, mcK1, by decide, mg_in (tb2 (i := 36) rfl) rfl, rfl⟩
theorem fl8_311 : mfl "MondayDeal" 311 7 7 := ⟨_, _, _, mcK7, by decide, mg_in (tb1 (i := 83) rfl) rfl⟩
theorem fw8_311 : mfw "MondayDeal" 311 7 7 := ⟨_, _, _, mcK7, by decide, mg_in (tb1 (i := 83) rfl) rfl, rfl⟩
theorem fl8_314 : mfl "MondayDeal" 314 5 2 := ⟨_, _, _, mcK5, by decide, mg_in (tb1 (i := 206) rfl) rfl⟩
theorem fw8_314 : mfw "MondayDeal" 314 5 2 := ⟨_, _, _, mcK5, by decide, mg_in (tb1 (i := 206) rfl) rfl, rfl⟩
theorem fl8_318 : mfl "MondayDeal" 318 8 11 := ⟨_, _, _, mcK8, by decide, mg_in (tb2 (i := 71) rfl) rfl⟩
theorem fw8_318 : mfw "MondayDeal" 318 8 11 := ⟨_, _, _, mcK8, by decide, mg_in (tb2 (i := 71) rfl) rfl, rfl⟩
theorem fl0_9 : mfl "MondayDeal$Bets" 9 0 0 := ⟨_, _, _, mcK0, by decide, mg_in (tb2 (i := 9) rfl) rfl⟩
theorem fl0_15 : mfl "MondayDeal$Bets" 15 0 1 := ⟨_, _, _, mcK0, by decide, mg_in (tb2 (i := 10) rfl) rfl⟩
theorem fl0_18 : mfl "MondayDeal$Bets" 18 0 2 := ⟨_, _, _, mcK0, by decide, mg_in (tb2 (i := 11) rfl) rfl⟩
theorem fl0_21 : mfl "MondayDeal$Bets" 21 0 3 := ⟨_, _, _, mcK0, by decide, mg_in (tb2 (i := 12) rfl) rfl⟩
theorem fw0_21 : mfw "MondayDeal$Bets" 21 0 3 := ⟨_, _, _, mcK0, by decide, mg_in (tb2 (i := 12) rfl) rfl, rfl⟩
theorem fl0_25 : mfl "MondayDeal$Bets" 25 0 4 := ⟨_, _, _, mcK0, by decide, mg_in (tb2 (i := 14) rfl) rfl⟩
theorem fw0_25 : mfw "MondayDeal$Bets" 25 0 4 := ⟨_, _, _, mcK0, by decide, mg_in (tb2 (i := 14) rfl) rfl, rfl⟩
theorem fl0_29 : mfl "MondayDeal$Bets" 29 2 1 := ⟨_, _, _, mcK2, by decide, mg_in (tb1 (i := 124) rfl) rfl⟩
theorem fw0_29 : mfw "MondayDeal$Bets" 29 2 1 := ⟨_, _, _, mcK2, by decide, mg_in (tb1 (i := 124) rfl) rfl, rfl⟩
theorem fl0_32 : mfl "MondayDeal$Bets" 32 2 0 := ⟨_, _, _, mcK2, by decide, mg_in (tb1 (i := 120) rfl) rfl⟩
theorem fl1_9 : mfl "MondayDeal$Facts" 9 1 0 := ⟨_, _, _, mcK1, by decide, mg_in (tb2 (i := 33) rfl) rfl⟩
theorem fl1_15 : mfl "MondayDeal$Facts" 15 1 1 := ⟨_, _, _, mcK1, by decide, mg_in (tb2 (i := 34) rfl) rfl⟩
theorem fl1_18 : mfl "MondayDeal$Facts" 18 1 2 := ⟨_, _, _, mcK1, by decide, mg_in (tb2 (i := 35) rfl) rfl⟩
theorem fw1_18 : mfw "MondayDeal$Facts" 18 1 2 := ⟨_, _, _, mcK1, by decide, mg_in (tb2 (i := 35) rfl) rfl, rfl⟩
theorem fl1_28 : mfl "MondayDeal$Facts" 28 2 1 := ⟨_, _, _, mcK2, by decide, mg_in (tb1 (i := 125) rfl) rfl⟩
theorem fw1_28 : mfw "MondayDeal$Facts" 28 2 1 := ⟨_, _, _, mcK2, by decide, mg_in (tb1 (i := 125) rfl) rfl, rfl⟩
theorem fl1_29 : mfl "MondayDeal$Facts" 29 2 0 := ⟨_, _, _, mcK2, by decide, mg_in (tb1 (i := 122) rfl) rfl⟩
theorem fl1_36 : mfl "MondayDeal$Facts" 36 5 3 := ⟨_, _, _, mcK5, by decide, mg_in (tb1 (i := 208) rfl) rfl⟩
theorem fw1_36 : mfw "MondayDeal$Facts" 36 5 3 := ⟨_, _, _, mcK5, by decide, mg_in (tb1 (i := 208) rfl) rfl, rfl⟩
theorem fl1_41 : mfl "MondayDeal$Facts" 41 5 4 := ⟨_, _, _, mcK5, by decide, mg_in (tb1 (i := 211) rfl) rfl⟩
theorem fl2_9 : mfl "MondayDeal$Orders" 9 2 0 := ⟨_, _, _, mcK2, by decide, mg_in (tb1 (i := 119) rfl) rfl⟩
theorem fl2_17 : mfl "MondayDeal$Orders" 17 2 2 := ⟨_, _, _, mcK2, by decide, mg_in (tb1 (i := 128) rfl) rfl⟩
theorem fl2_20 : mfl "MondayDeal$Orders" 20 2 3 := ⟨_, _, _, mcK2, by decide, mg_in (tb1 (i := 130) rfl) rfl⟩
theorem fl2_31 : mfl "MondayDeal$Orders" 31 2 1 := ⟨_, _, _, mcK2, by decide, mg_in (tb1 (i := 126) rfl) rfl⟩
theorem fw2_31 : mfw "MondayDeal$Orders" 31 2 1 := ⟨_, _, _, mcK2, by decide, mg_in (tb1 (i := 126) rfl) rfl, rfl⟩
theorem fl3_11 : mfl "MondayDeal$Outlook" 11 3 0 := ⟨_, _, _, mcK3, by decide, mg_in (tb1 (i := 149) rfl) rfl⟩
theorem fl3_16 : mfl "MondayDeal$Outlook" 16 3 1 := ⟨_, _, _, mcK3, by decide, mg_in (tb1 (i := 150) rfl) rfl⟩
theorem fl3_19 : mfl "MondayDeal$Outlook" 19 3 2 := ⟨_, _, _, mcK3, by decide, mg_in (tb1 (i := 151) rfl) rfl⟩
theorem fl3_23 : mfl "MondayDeal$Outlook" 23 3 3 := ⟨_, _, _, mcK3, by decide, mg_in (tb1 (i := 152) rfl) rfl⟩
theorem fl3_26 : mfl "MondayDeal$Outlook" 26 3 4 := ⟨_, _, _, mcK3, by decide, mg_in (tb1 (i := 153) rfl) rfl⟩
theorem fl3_30 : mfl "MondayDeal$Outlook" 30 3 5 := ⟨_, _, _, mcK3, by decide, mg_in (tb1 (i := 154) rfl) rfl⟩
theorem fl3_33 : mfl "MondayDeal$Outlook" 33 3 6 := ⟨_, _, _, mcK3, by decide, mg_in (tb1 (i := 155) rfl) rfl⟩
theorem fl3_36 : mfl "MondayDeal$Outlook" 36 3 7 := ⟨_, _, _, mcK3, by decide, mg_in (tb1 (i := 156) rfl) rfl⟩
theorem fl3_49 : mfl "MondayDeal$Outlook" 49 2 1 := ⟨_, _, _, mcK2, by decide, mg_in (tb1 (i := 123) rfl) rfl⟩
theorem fw3_49 : mfw "MondayDeal$Outlook" 49 2 1 := ⟨_, _, _, mcK2, by decide, mg_in (tb1 (i := 123) rfl) rfl, rfl⟩
theorem fl3_67 : mfl "MondayDeal$Outlook" 67 7 1 := ⟨_, _, _, mcK7, by decide, mg_in (tb1 (i := 63) rfl) rfl⟩
theorem fw3_67 : mfw "MondayDeal$Outlook" 67 7 1 := ⟨_, _, _, mcK7, by decide, mg_in (tb1 (i := 63) rfl) rfl, rfl⟩
theorem fl3_80 : mfl "MondayDeal$Outlook" 80 5 0 := ⟨_, _, _, mcK5, by decide, mg_in (tb1 (i := 199) rfl) rfl⟩
theorem fl3_93 : mfl "MondayDeal$Outlook" 93 5 1 := ⟨_, _, _, mcK5, by decide, mg_in (tb1 (i := 202) rfl) rfl⟩
theorem fl3_98 : mfl "MondayDeal$Outlook" 98 5 2 := ⟨_, _, _, mcK5, by decide, mg_in (tb1 (i := 205) rfl) rfl⟩
theorem fw3_98 : mfw "MondayDeal$Outlook" 98 5 2 := ⟨_, _, _, mcK5, by decide, mg_in (tb1 (i := 205) rfl) rfl, rfl⟩
theorem fl3_101 : mfl "MondayDeal$Outlook" 101 2 0 := ⟨_, _, _, mcK2, by decide, mg_in (tb1 (i := 121) rfl) rfl⟩
theorem fl3_112 : mfl "MondayDeal$Outlook" 112 7 4 := ⟨_, _, _, mcK7, by decide, mg_in (tb1 (i := 73) rfl) rfl⟩
theorem fl3_115 : mfl "MondayDeal$Outlook" 115 7 2 := ⟨_, _, _, mcK7, by decide, mg_in (tb1 (i := 67) rfl) rfl⟩
theorem fl3_118 : mfl "MondayDeal$Outlook" 118 7 3 := ⟨_, _, _, mcK7, by decide, mg_in (tb1 (i := 70) rfl) rfl⟩
theorem fl3_136 : mfl "MondayDeal$Outlook" 136 7 6 := ⟨_, _, _, mcK7, by decide, mg_in (tb1 (i := 78) rfl) rfl⟩
theorem fl3_146 : mfl "MondayDeal$Outlook" 146 3 8 := ⟨_, _, _, mcK3, by decide, mg_in (tb1 (i := 158) rfl) rfl⟩
theorem fw3_146 : mfw "MondayDeal$Outlook" 146 3 8 := ⟨_, _, _, mcK3, by decide, mg_in (tb1 (i := 158) rfl) rfl, rfl⟩
theorem fl3_149 : mfl "MondayDeal$Outlook" 149 3 9 := ⟨_, _, _, mcK3, by decide, mg_in (tb1 (i := 160) rfl) rfl⟩
theorem fw3_149 : mfw "MondayDeal$Outlook" 149 3 9 := ⟨_, _, _, mcK3, by decide, mg_in (tb1 (i := 160) rfl) rfl, rfl⟩
theorem fl3_152 : mfl "MondayDeal$Outlook" 152 3 10 := ⟨_, _, _, mcK3, by decide, mg_in (tb1 (i := 162) rfl) rfl⟩
theorem fw3_152 : mfw "MondayDeal$Outlook" 152 3 10 := ⟨_, _, _, mcK3, by decide, mg_in (tb1 (i := 162) rfl) rfl, rfl⟩
theorem fl3_155 : mfl "MondayDeal$Outlook" 155 3 11 := ⟨_, _, _, mcK3, by decide, mg_in (tb1 (i := 164) rfl) rfl⟩
theorem fw3_155 : mfw "MondayDeal$Outlook" 155 3 11 := ⟨_, _, _, mcK3, by decide, mg_in (tb1 (i := 164) rfl) rfl, rfl⟩
theorem fl4_11 : mfl "MondayDeal$Past" 11 4 0 := ⟨_, _, _, mcK4, by decide, mg_in (tb1 (i := 232) rfl) rfl⟩
theorem fl4_18 : mfl "MondayDeal$Past" 18 4 1 := ⟨_, _, _, mcK4, by decide, mg_in (tb1 (i := 233) rfl) rfl⟩
theorem fw4_18 : mfw "MondayDeal$Past" 18 4 1 := ⟨_, _, _, mcK4, by decide, mg_in (tb1 (i := 233) rfl) rfl, rfl⟩
theorem fl4_26 : mfl "MondayDeal$Past" 26 4 2 := ⟨_, _, _, mcK4, by decide, mg_in (tb1 (i := 234) rfl) rfl⟩
theorem fw4_26 : mfw "MondayDeal$Past" 26 4 2 := ⟨_, _, _, mcK4, by decide, mg_in (tb1 (i := 234) rfl) rfl, rfl⟩
theorem fl5_9 : mfl "MondayDeal$State" 9 5 0 := ⟨_, _, _, mcK5, by decide, mg_in (tb1 (i := 198) rfl) rfl⟩
theorem fl5_15 : mfl "MondayDeal$State" 15 5 1 := ⟨_, _, _, mcK5, by decide, mg_in (tb1 (i := 201) rfl) rfl⟩
theorem fl5_18 : mfl "MondayDeal$State" 18 5 4 := ⟨_, _, _, mcK5, by decide, mg_in (tb1 (i := 210) rfl) rfl⟩
theorem fl5_27 : mfl "MondayDeal$State" 27 5 2 := ⟨_, _, _, mcK5, by decide, mg_in (tb1 (i := 204) rfl) rfl⟩
theorem fw5_27 : mfw "MondayDeal$State" 27 5 2 := ⟨_, _, _, mcK5, by decide, mg_in (tb1 (i := 204) rfl) rfl, rfl⟩
theorem fl5_31 : mfl "MondayDeal$State" 31 5 3 := ⟨_, _, _, mcK5, by decide, mg_in (tb1 (i := 207) rfl) rfl⟩
theorem fw5_31 : mfw "MondayDeal$State" 31 5 3 := ⟨_, _, _, mcK5, by decide, mg_in (tb1 (i := 207) rfl) rfl, rfl⟩
theorem fl6_9 : mfl "MondayDeal$Text" 9 6 0 := ⟨_, _, _, mcK6, by decide, mg_in (tb1 (i := 33) rfl) rfl⟩
theorem fl6_15 : mfl "MondayDeal$Text" 15 6 3 := ⟨_, _, _, mcK6, by decide, mg_in (tb1 (i := 39) rfl) rfl⟩
theorem fw6_15 : mfw "MondayDeal$Text" 15 6 3 := ⟨_, _, _, mcK6, by decide, mg_in (tb1 (i := 39) rfl) rfl, rfl⟩
theorem fl6_19 : mfl "MondayDeal$Text" 19 6 4 := ⟨_, _, _, mcK6, by decide, mg_in (tb1 (i := 40) rfl) rfl⟩
theorem fw6_19 : mfw "MondayDeal$Text" 19 6 4 := ⟨_, _, _, mcK6, by decide, mg_in (tb1 (i := 40) rfl) rfl, rfl⟩
theorem fl6_22 : mfl "MondayDeal$Text" 22 6 2 := ⟨_, _, _, mcK6, by decide, mg_in (tb1 (i := 37) rfl) rfl⟩
theorem fw6_22 : mfw "MondayDeal$Text" 22 6 2 := ⟨_, _, _, mcK6, by decide, mg_in (tb1 (i := 37) rfl) rfl, rfl⟩
theorem fl6_32 : mfl "MondayDeal$Text" 32 6 1 := ⟨_, _, _, mcK6, by decide, mg_in (tb1 (i := 36) rfl) rfl⟩
theorem fw6_32 : mfw "MondayDeal$Text" 32 6 1 := ⟨_, _, _, mcK6, by decide, mg_in (tb1 (i := 36) rfl) rfl, rfl⟩
theorem fl6_52 : mfl "MondayDeal$Text" 52 7 7 := ⟨_, _, _, mcK7, by decide, mg_in (tb1 (i := 82) rfl) rfl⟩
theorem fw6_52 : mfw "MondayDeal$Text" 52 7 7 := ⟨_, _, _, mcK7, by decide, mg_in (tb1 (i := 82) rfl) rfl, rfl⟩
theorem fl6_57 : mfl "MondayDeal$Text" 57 7 1 := ⟨_, _, _, mcK7, by decide, mg_in (tb1 (i := 64) rfl) rfl⟩
theorem fw6_57 : mfw "MondayDeal$Text" 57 7 1 := ⟨_, _, _, mcK7, by decide, mg_in (tb1 (i := 64) rfl) rfl, rfl⟩
theorem fl6_104 : mfl "MondayDeal$Text" 104 7 0 := ⟨_, _, _, mcK7, by decide, mg_in (tb1 (i := 61) rfl) rfl⟩
theorem fl6_112 : mfl "MondayDeal$Text" 112 7 6 := ⟨_, _, _, mcK7, by decide, mg_in (tb1 (i := 80) rfl) rfl⟩
theorem fl7_9 : mfl "MondayDeal$Told" 9 7 0 := ⟨_, _, _, mcK7, by decide, mg_in (tb1 (i := 59) rfl) rfl⟩
theorem fl7_15 : mfl "MondayDeal$Told" 15 7 2 := ⟨_, _, _, mcK7, by decide, mg_in (tb1 (i := 66) rfl) rfl⟩
theorem fl7_18 : mfl "MondayDeal$Told" 18 7 3 := ⟨_, _, _, mcK7, by decide, mg_in (tb1 (i := 69) rfl) rfl⟩
theorem fl7_21 : mfl "MondayDeal$Told" 21 7 4 := ⟨_, _, _, mcK7, by decide, mg_in (tb1 (i := 72) rfl) rfl⟩
theorem fl7_24 : mfl "MondayDeal$Told" 24 7 5 := ⟨_, _, _, mcK7, by decide, mg_in (tb1 (i := 75) rfl) rfl⟩
theorem fl7_27 : mfl "MondayDeal$Told" 27 7 6 := ⟨_, _, _, mcK7, by decide, mg_in (tb1 (i := 77) rfl) rfl⟩
theorem fl7_30 : mfl "MondayDeal$Told" 30 7 8 := ⟨_, _, _, mcK7, by decide, mg_in (tb1 (i := 84) rfl) rfl⟩
theorem fl7_33 : mfl "MondayDeal$Told" 33 7 9 := ⟨_, _, _, mcK7, by decide, mg_in (tb1 (i := 85) rfl) rfl⟩
theorem fl7_36 : mfl "MondayDeal$Told" 36 7 10 := ⟨_, _, _, mcK7, by decide, mg_in (tb1 (i := 86) rfl) rfl⟩
theorem fl7_45 : mfl "MondayDeal$Told" 45 7 1 := ⟨_, _, _, mcK7, by decide, mg_in (tb1 (i := 62) rfl) rfl⟩
theorem fw7_45 : mfw "MondayDeal$Told" 45 7 1 := ⟨_, _, _, mcK7, by decide, mg_in (tb1 (i := 62) rfl) rfl, rfl⟩
theorem fl7_49 : mfl "MondayDeal$Told" 49 7 7 := ⟨_, _, _, mcK7, by decide, mg_in (tb1 (i := 81) rfl) rfl⟩
theorem fw7_49 : mfw "MondayDeal$Told" 49 7 7 := ⟨_, _, _, mcK7, by decide, mg_in (tb1 (i := 81) rfl) rfl, rfl⟩
theorem fl9_7 : mfl "MondayDealModel" 7 9 0 := ⟨_, _, _, mcK9, by decide, mg_in (tb4 (i := 205) rfl) rfl⟩
theorem fl9_13 : mfl "MondayDealModel" 13 9 2 := ⟨_, _, _, mcK9, by decide, mg_in (tb4 (i := 207) rfl) rfl⟩
theorem fl9_17 : mfl "MondayDealModel" 17 9 3 := ⟨_, _, _, mcK9, by decide, mg_in (tb4 (i := 208) rfl) rfl⟩
theorem fl9_20 : mfl "MondayDealModel" 20 9 5 := ⟨_, _, _, mcK9, by decide, mg_in (tb4 (i := 210) rfl) rfl⟩
theorem fl9_23 : mfl "MondayDealModel" 23 9 7 := ⟨_, _, _, mcK9, by decide, mg_in (tb4 (i := 212) rfl) rfl⟩
theorem fl9_26 : mfl "MondayDealModel" 26 9 9 := ⟨_, _, _, mcK9, by decide, mg_in (tb4 (i := 214) rfl) rfl⟩
theorem fl9_29 : mfl "MondayDealModel" 29 9 10 := ⟨_, _, _, mcK9, by decide, mg_in (tb4 (i := 215) rfl) rfl⟩
theorem fl9_32 : mfl "MondayDealModel" 32 9 11 := ⟨_, _, _, mcK9, by decide, mg_in (tb4 (i := 216) rfl) rfl⟩
theorem fl9_35 : mfl "MondayDealModel" 35 9 12 := ⟨_, _, _, mcK9, by decide, mg_in (tb4 (i := 217) rfl) rfl⟩
theorem fl9_38 : mfl "MondayDealModel" 38 9 13 := ⟨_, _, _, mcK9, by decide, mg_in (tb4 (i := 218) rfl) rfl⟩
theorem fl9_41 : mfl "MondayDealModel" 41 9 15 := ⟨_, _, _, mcK9, by decide, mg_in (tb4 (i := 220) rfl) rfl⟩
theorem fl9_44 : mfl "MondayDealModel" 44 9 16 := ⟨_, _, _, mcK9, by decide, mg_in (tb4 (i := 221) rfl) rfl⟩
theorem fl9_47 : mfl "MondayDealModel" 47 9 23 := ⟨_, _, _, mcK9, by decide, mg_in (tb4 (i := 228) rfl) rfl⟩
theorem fl9_50 : mfl "MondayDealModel" 50 9 25 := ⟨_, _, _, mcK9, by decide, mg_in (tb4 (i := 230) rfl) rfl⟩
theorem fl9_62 : mfl "MondayDealModel" 62 9 4 := ⟨_, _, _, mcK9, by decide, mg_in (tb4 (i := 209) rfl) rfl⟩
theorem fw9_62 : mfw "MondayDealModel" 62 9 4 := ⟨_, _, _, mcK9, by decide, mg_in (tb4 (i := 209) rfl) rfl, rfl⟩
theorem fl9_66 : mfl "MondayDealModel" 66 9 18 := ⟨_, _, _, mcK9, by decide, mg_in (tb4 (i := 223) rfl) rfl⟩
theorem fw9_66 : mfw "MondayDealModel" 66 9 18 := ⟨_, _, _, mcK9, by decide, mg_in (tb4 (i := 223) rfl) rfl, rfl⟩
theorem fl9_69 : mfl "MondayDealModel" 69 9 19 := ⟨_, _, _, mcK9, by decide, mg_in (tb4 (i := 224) rfl) rfl⟩
theorem fw9_69 : mfw "MondayDealModel" 69 9 19 := ⟨_, _, _, mcK9, by decide, mg_in (tb4 (i := 224) rfl) rfl, rfl⟩
theorem fl9_76 : mfl "MondayDealModel" 76 9 20 := ⟨_, _, _, mcK9, by decide, mg_in (tb4 (i := 225) rfl) rfl⟩
theorem fw9_76 : mfw "MondayDealModel" 76 9 20 := ⟨_, _, _, mcK9, by decide, mg_in (tb4 (i := 225) rfl) rfl, rfl⟩
theorem fl9_103 : mfl "MondayDealModel" 103 9 6 := ⟨_, _, _, mcK9, by decide, mg_in (tb4 (i := 211) rfl) rfl⟩
theorem fw9_103 : mfw "MondayDealModel" 103 9 6 := ⟨_, _, _, mcK9, by decide, mg_in (tb4 (i := 211) rfl) rfl, rfl⟩
theorem fl9_113 : mfl "MondayDealModel" 113 9 21 := ⟨_, _, _, mcK9, by decide, mg_in (tb4 (i := 226) rfl) rfl⟩
theorem fw9_113 : mfw "MondayDealModel" 113 9 21 := ⟨_, _, _, mcK9, by decide, mg_in (tb4 (i := 226) rfl) rfl, rfl⟩
theorem fl9_126 : mfl "MondayDealModel" 126 9 22 := ⟨_, _, _, mcK9, by decide, mg_in (tb4 (i := 227) rfl) rfl⟩
theorem fw9_126 : mfw "MondayDealModel" 126 9 22 := ⟨_, _, _, mcK9, by decide, mg_in (tb4 (i := 227) rfl) rfl, rfl⟩
theorem fl9_132 : mfl "MondayDealModel" 132 9 8 := ⟨_, _, _, mcK9, by decide, mg_in (tb4 (i := 213) rfl) rfl⟩
theorem fw9_132 : mfw "MondayDealModel" 132 9 8 := ⟨_, _, _, mcK9, by decide, mg_in (tb4 (i := 213) rfl) rfl, rfl⟩
theorem fl9_135 : mfl "MondayDealModel" 135 9 14 := ⟨_, _, _, mcK9, by decide, mg_in (tb4 (i := 219) rfl) rfl⟩
theorem fw9_135 : mfw "MondayDealModel" 135 9 14 := ⟨_, _, _, mcK9, by decide, mg_in (tb4 (i := 219) rfl) rfl, rfl⟩
theorem fl9_155 : mfl "MondayDealModel" 155 9 1 := ⟨_, _, _, mcK9, by decide, mg_in (tb4 (i := 206) rfl) rfl⟩
theorem fw9_155 : mfw "MondayDealModel" 155 9 1 := ⟨_, _, _, mcK9, by decide, mg_in (tb4 (i := 206) rfl) rfl, rfl⟩
theorem fl9_158 : mfl "MondayDealModel" 158 9 24 := ⟨_, _, _, mcK9, by decide, mg_in (tb4 (i := 229) rfl) rfl⟩
theorem fw9_158 : mfw "MondayDealModel" 158 9 24 := ⟨_, _, _, mcK9, by decide, mg_in (tb4 (i := 229) rfl) rfl, rfl⟩
theorem fl9_161 : mfl "MondayDealModel" 161 9 26 := ⟨_, _, _, mcK9, by decide, mg_in (tb4 (i := 231) rfl) rfl⟩
theorem fw9_161 : mfw "MondayDealModel" 161 9 26 := ⟨_, _, _, mcK9, by decide, mg_in (tb4 (i := 231) rfl) rfl, rfl⟩
theorem fl9_187 : mfl "MondayDealModel" 187 9 17 := ⟨_, _, _, mcK9, by decide, mg_in (tb4 (i := 222) rfl) rfl⟩
theorem fw9_187 : mfw "MondayDealModel" 187 9 17 := ⟨_, _, _, mcK9, by decide, mg_in (tb4 (i := 222) rfl) rfl, rfl⟩
theorem ml8_76 : Cond.methodLink "MondayDeal" 76 ⟨"MondayDeal$Told", "clear", "()V"⟩ ∈ mg := mg_in (tb2 (i := 44) rfl) rfl
theorem ml8_79 : Cond.methodLink "MondayDeal" 79 ⟨"MondayDeal", "startAnew", "()V"⟩ ∈ mg := mg_in (tb2 (i := 51) rfl) rfl
theorem ml8_90 : Cond.methodLink "MondayDeal" 90 ⟨"MondayDeal$Told", "copy", "(LMondayDeal$Told;)V"⟩ ∈ mg := mg_in (tb2 (i := 112) rfl) rfl
theorem ml8_94 : Cond.methodLink "MondayDeal" 94 ⟨"MondayDeal$Text", "readInto", "(LMondayDeal$Told;)I"⟩ ∈ mg := mg_in (tb2 (i := 119) rfl) rfl
theorem ml8_101 : Cond.methodLink "MondayDeal" 101 ⟨"MondayDeal", "isDay", "(I)Z"⟩ ∈ mg := mg_in (tb3 (i := 5) rfl) rfl
theorem ml8_109 : Cond.methodLink "MondayDeal" 109 ⟨"MondayDeal$Told", "worksOn", "(I)I"⟩ ∈ mg := mg_in (tb3 (i := 8) rfl) rfl
theorem ml8_113 : Cond.methodLink "MondayDeal" 113 ⟨"MondayDeal", "listed", "()LMondayDeal$Orders;"⟩ ∈ mg := mg_in (tb3 (i := 12) rfl) rfl
theorem ml8_121 : Cond.methodLink "MondayDeal" 121 ⟨"MondayDeal", "isWork", "(I)Z"⟩ ∈ mg := mg_in (tb3 (i := 41) rfl) rfl
theorem ml8_145 : Cond.methodLink "MondayDeal" 145 ⟨"MondayDeal$Told", "isA", "(II)Z"⟩ ∈ mg := mg_in (tb3 (i := 49) rfl) rfl
theorem ml8_149 : Cond.methodLink "MondayDeal" 149 ⟨"MondayDeal$Told", "earnedOn", "(II)I"⟩ ∈ mg := mg_in (tb3 (i := 53) rfl) rfl
theorem ml8_156 : Cond.methodLink "MondayDeal" 156 ⟨"MondayDeal", "isOrder", "(I)Z"⟩ ∈ mg := mg_in (tb3 (i := 65) rfl) rfl
theorem ml8_159 : Cond.methodLink "MondayDeal" 159 ⟨"MondayDeal", "isPlace", "(I)Z"⟩ ∈ mg := mg_in (tb3 (i := 69) rfl) rfl
theorem ml8_162 : Cond.methodLink "MondayDeal" 162 ⟨"MondayDeal$Orders", "dayAt", "(II)I"⟩ ∈ mg := mg_in (tb3 (i := 72) rfl) rfl
theorem ml8_165 : Cond.methodLink "MondayDeal" 165 ⟨"MondayDeal$Orders", "packedOf", "(I)I"⟩ ∈ mg := mg_in (tb3 (i := 83) rfl) rfl
theorem ml8_168 : Cond.methodLink "MondayDeal" 168 ⟨"MondayDeal$Orders", "find", "(I)I"⟩ ∈ mg := mg_in (tb3 (i := 87) rfl) rfl
theorem ml8_174 : Cond.methodLink "MondayDeal" 174 ⟨"MondayDeal$Past", "push", "(LMondayDeal$State;)V"⟩ ∈ mg := mg_in (tb3 (i := 95) rfl) rfl
theorem ml8_182 : Cond.methodLink "MondayDeal" 182 ⟨"MondayDeal$Outlook", "dealOut", "(LMondayDeal$Told;LMondayDeal$State;LMondayDeal$Orders;I)I"⟩ ∈ mg := mg_in (tb3 (i := 107) rfl) rfl
theorem ml8_186 : Cond.methodLink "MondayDeal" 186 ⟨"MondayDeal$State", "there", "()I"⟩ ∈ mg := mg_in (tb3 (i := 157) rfl) rfl
theorem ml8_190 : Cond.methodLink "MondayDeal" 190 ⟨"java/lang/Integer", "bitCount", "(I)I"⟩ ∈ mg := mg_in (tb3 (i := 161) rfl) rfl
theorem ml8_196 : Cond.methodLink "MondayDeal" 196 ⟨"MondayDeal$Past", "pop", "(LMondayDeal$State;)V"⟩ ∈ mg := mg_in (tb3 (i := 171) rfl) rfl
theorem ml8_199 : Cond.methodLink "MondayDeal" 199 ⟨"MondayDeal", "isKeep", "(I)Z"⟩ ∈ mg := mg_in (tb3 (i := 179) rfl) rfl
theorem ml8_202 : Cond.methodLink "MondayDeal" 202 ⟨"MondayDeal$State", "copy", "(LMondayDeal$State;)V"⟩ ∈ mg := mg_in (tb3 (i := 182) rfl) rfl
theorem ml8_204 : Cond.methodLink "MondayDeal" 204 ⟨"MondayDeal", "refusalOf", "(I)I"⟩ ∈ mg := mg_in (tb3 (i := 191) rfl) rfl
theorem ml8_207 : Cond.methodLink "MondayDeal" 207 ⟨"MondayDeal", "foretold", "()LMondayDeal$Outlook;"⟩ ∈ mg := mg_in (tb3 (i := 198) rfl) rfl
theorem ml8_211 : Cond.methodLink "MondayDeal" 211 ⟨"MondayDeal$Outlook", "timesDone", "(II)I"⟩ ∈ mg := mg_in (tb3 (i := 228) rfl) rfl
theorem ml8_214 : Cond.methodLink "MondayDeal" 214 ⟨"MondayDeal", "partOfOrders", "(II)I"⟩ ∈ mg := mg_in (tb3 (i := 229) rfl) rfl
theorem ml8_223 : Cond.methodLink "MondayDeal" 223 ⟨"MondayDeal$Outlook", "doneInAll", "(II)I"⟩ ∈ mg := mg_in (tb4 (i := 7) rfl) rfl
theorem ml8_238 : Cond.methodLink "MondayDeal" 238 ⟨"MondayDeal", "isOneOfTwo", "(I)Z"⟩ ∈ mg := mg_in (tb3 (i := 195) rfl) rfl
theorem ml8_241 : Cond.methodLink "MondayDeal" 241 ⟨"MondayDeal$Outlook", "bestSet", "(III)I"⟩ ∈ mg := mg_in (tb4 (i := 23) rfl) rfl
theorem ml8_245 : Cond.methodLink "MondayDeal" 245 ⟨"MondayDeal$Orders", "amongFirst", "(II)I"⟩ ∈ mg := mg_in (tb4 (i := 32) rfl) rfl
theorem ml8_248 : Cond.methodLink "MondayDeal" 248 ⟨"MondayDeal", "areTwoDays", "(II)Z"⟩ ∈ mg := mg_in (tb4 (i := 40) rfl) rfl
theorem ml8_254 : Cond.methodLink "MondayDeal" 254 ⟨"MondayDeal", "inLowestTerms", "(JJI)J"⟩ ∈ mg := mg_in (tb3 (i := 233) rfl) rfl
theorem ml8_258 : Cond.methodLink "MondayDeal" 258 ⟨"MondayDeal$Orders", "longestWait", "(I)I"⟩ ∈ mg := mg_in (tb4 (i := 51) rfl) rfl
theorem ml8_261 : Cond.methodLink "MondayDeal" 261 ⟨"MondayDeal$Bets", "add", "(III)Z"⟩ ∈ mg := mg_in (tb4 (i := 59) rfl) rfl
theorem ml8_266 : Cond.methodLink "MondayDeal" 266 ⟨"MondayDeal$Bets", "surest", "(LMondayDeal$Orders;)I"⟩ ∈ mg := mg_in (tb4 (i := 71) rfl) rfl
theorem ml8_270 : Cond.methodLink "MondayDeal" 270 ⟨"MondayDeal$Bets", "leastWon", "(I)I"⟩ ∈ mg := mg_in (tb4 (i := 86) rfl) rfl
theorem ml8_273 : Cond.methodLink "MondayDeal" 273 ⟨"MondayDeal$Facts", "add", "(II)Z"⟩ ∈ mg := mg_in (tb4 (i := 91) rfl) rfl
theorem ml8_276 : Cond.methodLink "MondayDeal" 276 ⟨"MondayDeal$Facts", "howManyFit", "(LMondayDeal$Orders;)I"⟩ ∈ mg := mg_in (tb4 (i := 103) rfl) rfl
theorem ml8_279 : Cond.methodLink "MondayDeal" 279 ⟨"MondayDeal$Facts", "nextFit", "(LMondayDeal$Orders;I)I"⟩ ∈ mg := mg_in (tb4 (i := 114) rfl) rfl
theorem ml8_283 : Cond.methodLink "MondayDeal" 283 ⟨"MondayDeal$Facts", "weeksThatFit", "(LMondayDeal$State;)I"⟩ ∈ mg := mg_in (tb4 (i := 118) rfl) rfl
theorem ml8_287 : Cond.methodLink "MondayDeal" 287 ⟨"MondayDeal$Facts", "dayInAll", "(LMondayDeal$Orders;I)I"⟩ ∈ mg := mg_in (tb4 (i := 126) rfl) rfl
theorem ml8_292 : Cond.methodLink "MondayDeal" 292 ⟨"java/lang/Math", "min", "(II)I"⟩ ∈ mg := mg_in (tb4 (i := 137) rfl) rfl
theorem ml8_297 : Cond.methodLink "MondayDeal" 297 ⟨"MondayDeal$State", "timesFirst", "(I)I"⟩ ∈ mg := mg_in (tb4 (i := 138) rfl) rfl
theorem ml8_300 : Cond.methodLink "MondayDeal" 300 ⟨"MondayDeal", "waysAtLeast", "(IIII)J"⟩ ∈ mg := mg_in (tb4 (i := 143) rfl) rfl
theorem ml8_304 : Cond.methodLink "MondayDeal" 304 ⟨"MondayDeal", "power", "(JI)J"⟩ ∈ mg := mg_in (tb4 (i := 146) rfl) rfl
theorem ml8_308 : Cond.methodLink "MondayDeal" 308 ⟨"MondayDeal$Told", "leftOutFor", "(II)I"⟩ ∈ mg := mg_in (tb4 (i := 153) rfl) rfl
theorem ml8_317 : Cond.methodLink "MondayDeal" 317 ⟨"MondayDeal$State", "clear", "()V"⟩ ∈ mg := mg_in (tb2 (i := 55) rfl) rfl
theorem ml8_321 : Cond.methodLink "MondayDeal" 321 ⟨"MondayDeal$Orders", "listAll", "(LMondayDeal$Told;)V"⟩ ∈ mg := mg_in (tb3 (i := 16) rfl) rfl
theorem ml8_324 : Cond.methodLink "MondayDeal" 324 ⟨"MondayDeal$Outlook", "look", "(LMondayDeal$Told;LMondayDeal$State;LMondayDeal$Orders;)V"⟩ ∈ mg := mg_in (tb3 (i := 202) rfl) rfl
theorem ml8_328 : Cond.methodLink "MondayDeal" 328 ⟨"MondayDeal", "commonDivisor", "(JJ)J"⟩ ∈ mg := mg_in (tb3 (i := 236) rfl) rfl
theorem ml0_35 : Cond.methodLink "MondayDeal$Bets" 35 ⟨"MondayDeal$Bets", "wonBy", "(I)I"⟩ ∈ mg := mg_in (tb4 (i := 75) rfl) rfl
theorem ml0_39 : Cond.methodLink "MondayDeal$Bets" 39 ⟨"MondayDeal$Bets", "leastWon", "(I)I"⟩ ∈ mg := mg_in (tb4 (i := 80) rfl) rfl
theorem ml0_42 : Cond.methodLink "MondayDeal$Bets" 42 ⟨"MondayDeal$Orders", "dayIn", "(II)I"⟩ ∈ mg := mg_in (tb4 (i := 79) rfl) rfl
theorem ml0_46 : Cond.methodLink "MondayDeal$Bets" 46 ⟨"java/lang/Integer", "bitCount", "(I)I"⟩ ∈ mg := mg_in (tb4 (i := 84) rfl) rfl
theorem ml0_51 : Cond.methodLink "MondayDeal$Bets" 51 ⟨"java/lang/Math", "min", "(II)I"⟩ ∈ mg := mg_in (tb4 (i := 85) rfl) rfl
theorem ml1_22 : Cond.methodLink "MondayDeal$Facts" 22 ⟨"MondayDeal$Orders", "isAhead", "(III)Z"⟩ ∈ mg := mg_in (tb4 (i := 111) rfl) rfl
theorem ml1_32 : Cond.methodLink "MondayDeal$Facts" 32 ⟨"MondayDeal$Facts", "agree", "(I)Z"⟩ ∈ mg := mg_in (tb4 (i := 107) rfl) rfl
theorem ml1_44 : Cond.methodLink "MondayDeal$Facts" 44 ⟨"MondayDeal$Facts", "nextFit", "(LMondayDeal$Orders;I)I"⟩ ∈ mg := mg_in (tb4 (i := 130) rfl) rfl
theorem ml1_48 : Cond.methodLink "MondayDeal$Facts" 48 ⟨"MondayDeal$Orders", "dayAt", "(II)I"⟩ ∈ mg := mg_in (tb4 (i := 131) rfl) rfl
theorem ml2_23 : Cond.methodLink "MondayDeal$Orders" 23 ⟨"MondayDeal$Orders", "dayIn", "(II)I"⟩ ∈ mg := mg_in (tb3 (i := 76) rfl) rfl
theorem ml2_35 : Cond.methodLink "MondayDeal$Orders" 35 ⟨"java/util/Arrays", "fill", "([II)V"⟩ ∈ mg := mg_in (tb3 (i := 20) rfl) rfl
theorem ml2_41 : Cond.methodLink "MondayDeal$Orders" 41 ⟨"MondayDeal$Orders", "listFrom", "(LMondayDeal$Told;IIII)I"⟩ ∈ mg := mg_in (tb3 (i := 21) rfl) rfl
theorem ml2_45 : Cond.methodLink "MondayDeal$Orders" 45 ⟨"MondayDeal$Orders", "put", "(I)I"⟩ ∈ mg := mg_in (tb3 (i := 25) rfl) rfl
theorem ml2_49 : Cond.methodLink "MondayDeal$Orders" 49 ⟨"MondayDeal$Told", "brokenBy", "(III)I"⟩ ∈ mg := mg_in (tb3 (i := 29) rfl) rfl
theorem ml3_39 : Cond.methodLink "MondayDeal$Outlook" 39 ⟨"MondayDeal$Outlook", "begin", "(LMondayDeal$Told;LMondayDeal$State;)V"⟩ ∈ mg := mg_in (tb3 (i := 111) rfl) rfl
theorem ml3_43 : Cond.methodLink "MondayDeal$Outlook" 43 ⟨"java/util/Arrays", "fill", "([JJ)V"⟩ ∈ mg := mg_in (tb3 (i := 206) rfl) rfl
theorem ml3_55 : Cond.methodLink "MondayDeal$Outlook" 55 ⟨"MondayDeal$Orders", "firstChange", "(I)I"⟩ ∈ mg := mg_in (tb3 (i := 209) rfl) rfl
theorem ml3_59 : Cond.methodLink "MondayDeal$Outlook" 59 ⟨"MondayDeal$Orders", "dayAt", "(II)I"⟩ ∈ mg := mg_in (tb3 (i := 119) rfl) rfl
theorem ml3_63 : Cond.methodLink "MondayDeal$Outlook" 63 ⟨"MondayDeal$Outlook", "play", "(LMondayDeal$Told;II)V"⟩ ∈ mg := mg_in (tb3 (i := 120) rfl) rfl
theorem ml3_72 : Cond.methodLink "MondayDeal$Outlook" 72 ⟨"MondayDeal$Outlook", "tallyAll", "(II)V"⟩ ∈ mg := mg_in (tb3 (i := 213) rfl) rfl
theorem ml3_76 : Cond.methodLink "MondayDeal$Outlook" 76 ⟨"MondayDeal$Outlook", "addUp", "(I)V"⟩ ∈ mg := mg_in (tb3 (i := 220) rfl) rfl
theorem ml3_85 : Cond.methodLink "MondayDeal$Outlook" 85 ⟨"MondayDeal$Outlook", "ageBehind", "(LMondayDeal$Told;LMondayDeal$State;I)I"⟩ ∈ mg := mg_in (tb3 (i := 137) rfl) rfl
theorem ml3_89 : Cond.methodLink "MondayDeal$Outlook" 89 ⟨"MondayDeal$Outlook", "isDone", "(I)Z"⟩ ∈ mg := mg_in (tb3 (i := 141) rfl) rfl
theorem ml3_95 : Cond.methodLink "MondayDeal$Outlook" 95 ⟨"MondayDeal$Outlook", "earnedNow", "(I)I"⟩ ∈ mg := mg_in (tb3 (i := 145) rfl) rfl
theorem ml3_104 : Cond.methodLink "MondayDeal$Outlook" 104 ⟨"MondayDeal$State", "addWeek", "(I)V"⟩ ∈ mg := mg_in (tb3 (i := 149) rfl) rfl
theorem ml3_121 : Cond.methodLink "MondayDeal$Outlook" 121 ⟨"MondayDeal$Told", "earnedOn", "(II)I"⟩ ∈ mg := mg_in (tb3 (i := 118) rfl) rfl
theorem ml3_124 : Cond.methodLink "MondayDeal$Outlook" 124 ⟨"java/lang/System", "arraycopy", "(Ljava/lang/Object;ILjava/lang/Object;II)V"⟩ ∈ mg := mg_in (tb3 (i := 124) rfl) rfl
theorem ml3_130 : Cond.methodLink "MondayDeal$Outlook" 130 ⟨"MondayDeal$Outlook", "doWork", "(LMondayDeal$Told;II)V"⟩ ∈ mg := mg_in (tb3 (i := 125) rfl) rfl
theorem ml3_133 : Cond.methodLink "MondayDeal$Outlook" 133 ⟨"MondayDeal$Told", "isForbidden", "(I)Z"⟩ ∈ mg := mg_in (tb3 (i := 129) rfl) rfl
theorem ml3_139 : Cond.methodLink "MondayDeal$Outlook" 139 ⟨"MondayDeal$Outlook", "lanesWith", "(LMondayDeal$Told;II)J"⟩ ∈ mg := mg_in (tb3 (i := 133) rfl) rfl
theorem ml3_143 : Cond.methodLink "MondayDeal$Outlook" 143 ⟨"MondayDeal$Outlook", "tally", "([JJ)V"⟩ ∈ mg := mg_in (tb3 (i := 217) rfl) rfl
theorem ml3_158 : Cond.methodLink "MondayDeal$Outlook" 158 ⟨"MondayDeal$Outlook", "timesDone", "(II)I"⟩ ∈ mg := mg_in (tb3 (i := 224) rfl) rfl
theorem ml3_161 : Cond.methodLink "MondayDeal$Outlook" 161 ⟨"java/lang/Integer", "bitCount", "(I)I"⟩ ∈ mg := mg_in (tb4 (i := 27) rfl) rfl
theorem ml4_22 : Cond.methodLink "MondayDeal$Past" 22 ⟨"MondayDeal$State", "copy", "(LMondayDeal$State;)V"⟩ ∈ mg := mg_in (tb3 (i := 99) rfl) rfl
theorem ml4_29 : Cond.methodLink "MondayDeal$Past" 29 ⟨"java/lang/Math", "min", "(II)I"⟩ ∈ mg := mg_in (tb3 (i := 104) rfl) rfl
theorem ml5_21 : Cond.methodLink "MondayDeal$State" 21 ⟨"java/util/Arrays", "fill", "([II)V"⟩ ∈ mg := mg_in (tb2 (i := 59) rfl) rfl
theorem ml5_34 : Cond.methodLink "MondayDeal$State" 34 ⟨"java/lang/System", "arraycopy", "(Ljava/lang/Object;ILjava/lang/Object;II)V"⟩ ∈ mg := mg_in (tb3 (i := 103) rfl) rfl
theorem ml5_40 : Cond.methodLink "MondayDeal$State" 40 ⟨"MondayDeal$Orders", "dayIn", "(II)I"⟩ ∈ mg := mg_in (tb4 (i := 142) rfl) rfl
theorem ml6_25 : Cond.methodLink "MondayDeal$Text" 25 ⟨"MondayDeal$Text", "nextToken", "()V"⟩ ∈ mg := mg_in (tb2 (i := 123) rfl) rfl
theorem ml6_28 : Cond.methodLink "MondayDeal$Text" 28 ⟨"MondayDeal$Text", "readClause", "(LMondayDeal$Told;)Z"⟩ ∈ mg := mg_in (tb2 (i := 130) rfl) rfl
theorem ml6_35 : Cond.methodLink "MondayDeal$Text" 35 ⟨"MondayDeal$Text", "sortOf", "(C)I"⟩ ∈ mg := mg_in (tb2 (i := 127) rfl) rfl
theorem ml6_41 : Cond.methodLink "MondayDeal$Text" 41 ⟨"MondayDeal$Text", "reads", "(Ljava/lang/String;)Z"⟩ ∈ mg := mg_in (tb2 (i := 135) rfl) rfl
theorem ml6_45 : Cond.methodLink "MondayDeal$Text" 45 ⟨"MondayDeal$Told", "clear", "()V"⟩ ∈ mg := mg_in (tb2 (i := 187) rfl) rfl
theorem ml6_62 : Cond.methodLink "MondayDeal$Text" 62 ⟨"MondayDeal$Text", "readWork", "(LMondayDeal$Told;I)Z"⟩ ∈ mg := mg_in (tb2 (i := 191) rfl) rfl
theorem ml6_70 : Cond.methodLink "MondayDeal$Text" 70 ⟨"MondayDeal$Text", "readBehind", "(LMondayDeal$Told;)Z"⟩ ∈ mg := mg_in (tb2 (i := 205) rfl) rfl
theorem ml6_73 : Cond.methodLink "MondayDeal$Text" 73 ⟨"MondayDeal$Text", "kindRead", "()I"⟩ ∈ mg := mg_in (tb2 (i := 209) rfl) rfl
theorem ml6_77 : Cond.methodLink "MondayDeal$Text" 77 ⟨"MondayDeal$Text", "readKind", "(LMondayDeal$Told;I)Z"⟩ ∈ mg := mg_in (tb2 (i := 217) rfl) rfl
theorem ml6_80 : Cond.methodLink "MondayDeal$Text" 80 ⟨"MondayDeal$Text", "ruleRead", "()I"⟩ ∈ mg := mg_in (tb2 (i := 221) rfl) rfl
theorem ml6_83 : Cond.methodLink "MondayDeal$Text" 83 ⟨"MondayDeal$Text", "readRule", "(LMondayDeal$Told;I)Z"⟩ ∈ mg := mg_in (tb2 (i := 228) rfl) rfl
theorem ml6_100 : Cond.methodLink "MondayDeal$Text" 100 ⟨"MondayDeal$Text", "nextNumber", "(I)I"⟩ ∈ mg := mg_in (tb2 (i := 195) rfl) rfl
theorem ml6_108 : Cond.methodLink "MondayDeal$Text" 108 ⟨"MondayDeal$Told", "addWork", "(IIII)V"⟩ ∈ mg := mg_in (tb2 (i := 199) rfl) rfl
theorem ml6_114 : Cond.methodLink "MondayDeal$Text" 114 ⟨"MondayDeal$Told", "addRule", "(III)V"⟩ ∈ mg := mg_in (tb2 (i := 232) rfl) rfl
theorem ml7_39 : Cond.methodLink "MondayDeal$Told" 39 ⟨"java/util/Arrays", "fill", "([II)V"⟩ ∈ mg := mg_in (tb2 (i := 48) rfl) rfl
theorem ml7_52 : Cond.methodLink "MondayDeal$Told" 52 ⟨"java/lang/System", "arraycopy", "(Ljava/lang/Object;ILjava/lang/Object;II)V"⟩ ∈ mg := mg_in (tb2 (i := 116) rfl) rfl
theorem ml7_58 : Cond.methodLink "MondayDeal$Told" 58 ⟨"MondayDeal$Told", "breaks", "(IIII)Z"⟩ ∈ mg := mg_in (tb3 (i := 33) rfl) rfl
theorem ml7_62 : Cond.methodLink "MondayDeal$Told" 62 ⟨"MondayDeal$Told", "fewestBroken", "(IIIIII)I"⟩ ∈ mg := mg_in (tb4 (i := 157) rfl) rfl
theorem ml7_66 : Cond.methodLink "MondayDeal$Told" 66 ⟨"MondayDeal$Told", "brokenBy", "(III)I"⟩ ∈ mg := mg_in (tb4 (i := 161) rfl) rfl
theorem ml7_70 : Cond.methodLink "MondayDeal$Told" 70 ⟨"MondayDeal$Told", "fewer", "(II)I"⟩ ∈ mg := mg_in (tb4 (i := 162) rfl) rfl
theorem ml7_74 : Cond.methodLink "MondayDeal$Told" 74 ⟨"java/lang/Integer", "bitCount", "(I)I"⟩ ∈ mg := mg_in (tb4 (i := 165) rfl) rfl
theorem ml7_80 : Cond.methodLink "MondayDeal$Told" 80 ⟨"java/lang/Math", "min", "(II)I"⟩ ∈ mg := mg_in (tb4 (i := 166) rfl) rfl
theorem ml9_53 : Cond.methodLink "MondayDealModel" 53 ⟨"MondayDealModel", "begin", "()V"⟩ ∈ mg := mg_in (tb4 (i := 177) rfl) rfl
theorem ml9_58 : Cond.methodLink "MondayDealModel" 58 ⟨"MondayDealModel", "in", "(JJJ)Z"⟩ ∈ mg := mg_in (tb5 (i := 52) rfl) rfl
theorem ml9_72 : Cond.methodLink "MondayDealModel" 72 ⟨"MondayDealModel", "sort", "(I)I"⟩ ∈ mg := mg_in (tb5 (i := 67) rfl) rfl
theorem ml9_80 : Cond.methodLink "MondayDealModel" 80 ⟨"MondayDealModel", "isWord", "(III)Z"⟩ ∈ mg := mg_in (tb5 (i := 83) rfl) rfl
theorem ml9_90 : Cond.methodLink "MondayDealModel" 90 ⟨"MondayDealModel", "dayWord", "()I"⟩ ∈ mg := mg_in (tb5 (i := 78) rfl) rfl
theorem ml9_94 : Cond.methodLink "MondayDealModel" 94 ⟨"MondayDealModel", "ruleWord", "()I"⟩ ∈ mg := mg_in (tb5 (i := 90) rfl) rfl
theorem ml9_106 : Cond.methodLink "MondayDealModel" 106 ⟨"MondayDealModel", "token", "()V"⟩ ∈ mg := mg_in (tb5 (i := 63) rfl) rfl
theorem ml9_116 : Cond.methodLink "MondayDealModel" 116 ⟨"MondayDealModel", "reads", "(III)Z"⟩ ∈ mg := mg_in (tb5 (i := 112) rfl) rfl
theorem ml9_119 : Cond.methodLink "MondayDealModel" 119 ⟨"MondayDealModel", "isRule", "(I)Z"⟩ ∈ mg := mg_in (tb5 (i := 103) rfl) rfl
theorem ml9_123 : Cond.methodLink "MondayDealModel" 123 ⟨"MondayDealModel", "wordOf", "()I"⟩ ∈ mg := mg_in (tb5 (i := 74) rfl) rfl
theorem ml9_129 : Cond.methodLink "MondayDealModel" 129 ⟨"MondayDealModel", "readsRest", "(I)Z"⟩ ∈ mg := mg_in (tb5 (i := 108) rfl) rfl
theorem ml9_138 : Cond.methodLink "MondayDealModel" 138 ⟨"MondayDealModel", "readsClause", "()Z"⟩ ∈ mg := mg_in (tb5 (i := 70) rfl) rfl
theorem ml9_144 : Cond.methodLink "MondayDealModel" 144 ⟨"MondayDealModel", "addRule", "(I)V"⟩ ∈ mg := mg_in (tb5 (i := 126) rfl) rfl
theorem ml9_148 : Cond.methodLink "MondayDealModel" 148 ⟨"MondayDealModel", "addWork", "(II)V"⟩ ∈ mg := mg_in (tb5 (i := 130) rfl) rfl
theorem ml9_152 : Cond.methodLink "MondayDealModel" 152 ⟨"MondayDealModel", "clear", "()V"⟩ ∈ mg := mg_in (tb5 (i := 134) rfl) rfl
theorem ml9_164 : Cond.methodLink "MondayDealModel" 164 ⟨"MondayDealModel", "layOrders", "()V"⟩ ∈ mg := mg_in (tb4 (i := 181) rfl) rfl
theorem ml9_167 : Cond.methodLink "MondayDealModel" 167 ⟨"MondayDealModel", "fault", "()I"⟩ ∈ mg := mg_in (tb5 (i := 120) rfl) rfl
theorem ml9_170 : Cond.methodLink "MondayDealModel" 170 ⟨"MondayDealModel", "tell", "(I)V"⟩ ∈ mg := mg_in (tb5 (i := 121) rfl) rfl
theorem ml9_173 : Cond.methodLink "MondayDealModel" 173 ⟨"MondayDealModel", "dayAt", "(II)I"⟩ ∈ mg := mg_in (tb4 (i := 202) rfl) rfl
theorem ml9_177 : Cond.methodLink "MondayDealModel" 177 ⟨"MondayDealModel", "placeOf", "(II)I"⟩ ∈ mg := mg_in (tb4 (i := 199) rfl) rfl
theorem ml9_180 : Cond.methodLink "MondayDealModel" 180 ⟨"MondayDealModel", "has", "(II)Z"⟩ ∈ mg := mg_in (tb4 (i := 188) rfl) rfl
theorem ml9_184 : Cond.methodLink "MondayDealModel" 184 ⟨"MondayDealModel", "isAs", "(II)Z"⟩ ∈ mg := mg_in (tb4 (i := 195) rfl) rfl
theorem ml9_190 : Cond.methodLink "MondayDealModel" 190 ⟨"MondayDealModel", "orderOf", "(I)I"⟩ ∈ mg := mg_in (tb4 (i := 185) rfl) rfl
theorem ml9_193 : Cond.methodLink "MondayDealModel" 193 ⟨"MondayDealModel", "isAsBut", "(II)Z"⟩ ∈ mg := mg_in (tb4 (i := 191) rfl) rfl
theorem ml9_198 : Cond.methodLink "MondayDealModel" 198 ⟨"MondayDealModel", "isDay", "(I)Z"⟩ ∈ mg := mg_in (tb5 (i := 142) rfl) rfl
theorem ml9_201 : Cond.methodLink "MondayDealModel" 201 ⟨"MondayDealModel", "firstMany", "(I)I"⟩ ∈ mg := mg_in (tb5 (i := 146) rfl) rfl
theorem ml9_204 : Cond.methodLink "MondayDealModel" 204 ⟨"MondayDealModel", "isWork", "(I)Z"⟩ ∈ mg := mg_in (tb5 (i := 154) rfl) rfl
theorem ml9_207 : Cond.methodLink "MondayDealModel" 207 ⟨"MondayDealModel", "earns", "(II)I"⟩ ∈ mg := mg_in (tb5 (i := 162) rfl) rfl
theorem ml9_210 : Cond.methodLink "MondayDealModel" 210 ⟨"MondayDealModel", "isOrder", "(I)Z"⟩ ∈ mg := mg_in (tb5 (i := 174) rfl) rfl
theorem ml9_213 : Cond.methodLink "MondayDealModel" 213 ⟨"MondayDealModel", "doWork", "(II)V"⟩ ∈ mg := mg_in (tb5 (i := 198) rfl) rfl
theorem ml9_216 : Cond.methodLink "MondayDealModel" 216 ⟨"MondayDealModel", "copy", "(II)V"⟩ ∈ mg := mg_in (tb5 (i := 190) rfl) rfl
theorem ml9_219 : Cond.methodLink "MondayDealModel" 219 ⟨"MondayDealModel", "keepPast", "()V"⟩ ∈ mg := mg_in (tb5 (i := 186) rfl) rfl
theorem ml9_222 : Cond.methodLink "MondayDealModel" 222 ⟨"MondayDealModel", "go", "(II)V"⟩ ∈ mg := mg_in (tb5 (i := 194) rfl) rfl
theorem ml9_225 : Cond.methodLink "MondayDealModel" 225 ⟨"MondayDealModel", "there", "(I)I"⟩ ∈ mg := mg_in (tb5 (i := 206) rfl) rfl
theorem ml9_228 : Cond.methodLink "MondayDealModel" 228 ⟨"MondayDealModel", "bits", "(I)I"⟩ ∈ mg := mg_in (tb5 (i := 210) rfl) rfl
theorem ml9_231 : Cond.methodLink "MondayDealModel" 231 ⟨"MondayDealModel", "divisor", "(JJ)J"⟩ ∈ mg := mg_in (tb5 (i := 239) rfl) rfl
theorem ml9_235 : Cond.methodLink "MondayDealModel" 235 ⟨"MondayDealModel", "isPart", "(I)Z"⟩ ∈ mg := mg_in (tb5 (i := 229) rfl) rfl
theorem ml9_238 : Cond.methodLink "MondayDealModel" 238 ⟨"MondayDealModel", "earnedBy", "(II)I"⟩ ∈ mg := mg_in (tb5 (i := 232) rfl) rfl
theorem ml9_241 : Cond.methodLink "MondayDealModel" 241 ⟨"MondayDealModel", "part", "(JJI)J"⟩ ∈ mg := mg_in (tb5 (i := 236) rfl) rfl
theorem ml9_245 : Cond.methodLink "MondayDealModel" 245 ⟨"MondayDealModel", "earnedInAll", "(I)I"⟩ ∈ mg := mg_in (tb6 (i := 6) rfl) rfl
theorem ml9_248 : Cond.methodLink "MondayDealModel" 248 ⟨"MondayDealModel", "outmost", "(II)I"⟩ ∈ mg := mg_in (tb6 (i := 18) rfl) rfl
theorem ml9_257 : Cond.methodLink "MondayDealModel" 257 ⟨"MondayDealModel", "wonBy", "(II)I"⟩ ∈ mg := mg_in (tb6 (i := 61) rfl) rfl
theorem ml9_262 : Cond.methodLink "MondayDealModel" 262 ⟨"MondayDealModel", "fits", "(I)Z"⟩ ∈ mg := mg_in (tb6 (i := 78) rfl) rfl
theorem ml9_265 : Cond.methodLink "MondayDealModel" 265 ⟨"MondayDealModel", "latestMany", "()I"⟩ ∈ mg := mg_in (tb6 (i := 82) rfl) rfl
theorem ml9_274 : Cond.methodLink "MondayDealModel" 274 ⟨"MondayDealModel", "power", "(JI)J"⟩ ∈ mg := mg_in (tb6 (i := 97) rfl) rfl
theorem ml9_278 : Cond.methodLink "MondayDealModel" 278 ⟨"MondayDealModel", "canBe", "(III)Z"⟩ ∈ mg := mg_in (tb6 (i := 104) rfl) rfl
theorem kc9_79 : Cond.constant "MondayDealModel" 79 14976400 ∈ mg := mg_in (tb5 (i := 82) rfl) rfl
theorem kc9_84 : Cond.constant "MondayDealModel" 84 180442596 ∈ mg := mg_in (tb5 (i := 87) rfl) rfl
theorem kc9_85 : Cond.constant "MondayDealModel" 85 21576979 ∈ mg := mg_in (tb5 (i := 88) rfl) rfl
theorem kc9_86 : Cond.constant "MondayDealModel" 86 674854 ∈ mg := mg_in (tb5 (i := 89) rfl) rfl
theorem kc9_87 : Cond.constant "MondayDealModel" 87 21612838 ∈ mg := mg_in (tb5 (i := 94) rfl) rfl
theorem kc9_88 : Cond.constant "MondayDealModel" 88 172280994 ∈ mg := mg_in (tb5 (i := 95) rfl) rfl
theorem kc9_89 : Cond.constant "MondayDealModel" 89 4232449 ∈ mg := mg_in (tb5 (i := 96) rfl) rfl
theorem kc9_97 : Cond.constant "MondayDealModel" 97 149073955 ∈ mg := mg_in (tb5 (i := 97) rfl) rfl
theorem kc9_98 : Cond.constant "MondayDealModel" 98 379383 ∈ mg := mg_in (tb5 (i := 98) rfl) rfl
theorem kc9_99 : Cond.constant "MondayDealModel" 99 21595302 ∈ mg := mg_in (tb5 (i := 99) rfl) rfl
theorem kc9_100 : Cond.constant "MondayDealModel" 100 149201058 ∈ mg := mg_in (tb5 (i := 100) rfl) rfl
theorem kc9_101 : Cond.constant "MondayDealModel" 101 169542 ∈ mg := mg_in (tb5 (i := 101) rfl) rfl
theorem kc9_102 : Cond.constant "MondayDealModel" 102 176265 ∈ mg := mg_in (tb5 (i := 102) rfl) rfl
theorem kcJ_265 : Cond.constant "java/lang/Integer" 265 1431655765 ∈ mg := mg_in (tb3 (i := 164) rfl) rfl
theorem kcJ_266 : Cond.constant "java/lang/Integer" 266 858993459 ∈ mg := mg_in (tb3 (i := 165) rfl) rfl
theorem kcJ_267 : Cond.constant "java/lang/Integer" 267 252645135 ∈ mg := mg_in (tb3 (i := 166) rfl) rfl
theorem kl8_290 : Cond.constantLong "MondayDeal" 290 (-2) ∈ mg := mg_in (tb4 (i := 136) rfl) rfl
theorem kl3_107 : Cond.constantLong "MondayDeal$Outlook" 107 (-1) ∈ mg := mg_in (tb3 (i := 115) rfl) rfl
theorem kl9_56 : Cond.constantLong "MondayDealModel" 56 (255) ∈ mg := mg_in (tb5 (i := 51) rfl) rfl
theorem kl9_109 : Cond.constantLong "MondayDealModel" 109 (8) ∈ mg := mg_in (tb5 (i := 106) rfl) rfl
theorem kl9_111 : Cond.constantLong "MondayDealModel" 111 (10) ∈ mg := mg_in (tb5 (i := 107) rfl) rfl
theorem kl9_142 : Cond.constantLong "MondayDealModel" 142 (4) ∈ mg := mg_in (tb5 (i := 125) rfl) rfl
theorem kl9_196 : Cond.constantLong "MondayDealModel" 196 (6) ∈ mg := mg_in (tb5 (i := 145) rfl) rfl
theorem kl9_251 : Cond.constantLong "MondayDealModel" 251 (3) ∈ mg := mg_in (tb6 (i := 30) rfl) rfl
theorem kl9_253 : Cond.constantLong "MondayDealModel" 253 (7) ∈ mg := mg_in (tb6 (i := 35) rfl) rfl
theorem kl9_255 : Cond.constantLong "MondayDealModel" 255 (99) ∈ mg := mg_in (tb6 (i := 52) rfl) rfl
theorem kl9_260 : Cond.constantLong "MondayDealModel" 260 (2) ∈ mg := mg_in (tb6 (i := 77) rfl) rfl
theorem kl9_268 : Cond.constantLong "MondayDealModel" 268 (-2) ∈ mg := mg_in (tb6 (i := 94) rfl) rfl
theorem kl9_270 : Cond.constantLong "MondayDealModel" 270 (-3) ∈ mg := mg_in (tb6 (i := 95) rfl) rfl
theorem kl9_272 : Cond.constantLong "MondayDealModel" 272 (-4) ∈ mg := mg_in (tb6 (i := 96) rfl) rfl
theorem kacp : Cond.native arraycopyName ∈ mg ∧ Cond.static arraycopyName ∈ mg ∧ Cond.initialized "java/lang/System" ∈ mg := ⟨mg_in (tb2 (i := 118) rfl) rfl, mg_in (tb2 (i := 117) rfl) rfl, mg_in (tb1 (i := 12) rfl) rfl⟩
theorem kmin : Cond.static Lib.Math.min.name ∈ mg ∧ Cond.initialized "java/lang/Math" ∈ mg ∧ Cond.code Lib.Math.min.name Lib.Math.min.code 2 (some .int) ∈ mg := ⟨mg_in (tb3 (i := 105) rfl) rfl, mg_in (tb1 (i := 17) rfl) rfl, mg_in (tb3 (i := 106) (by decide +kernel)) rfl⟩
theorem klan : Cond.fieldLink "MondayDeal$Outlook" 109 "MondayDeal$Outlook" "LANES" "[J" ∈ mg := mg_in (tb3 (i := 116) rfl) rfl
end
section
def mfu : Nat := 100000
theorem hfil_s {h : mH} {a k : Nat} {v : Int} : hset (hfil h a k v) a k v = hfil h a (k + 1) v := by
  funext b j
  unfold hset hfil
  by_cases e : b = a
  · simp only [e, if_true]
    by_cases e2 : j = k
    · simp [e2]
    · by_cases e3 : j < k
      · simp [e2, e3, Nat.lt_succ_of_lt e3]
      · have : ¬ j < k + 1 := by omega
        simp [e2, e3, this]
  · simp [e]
theorem hfil_0 {h : mH} {a : Nat} {v : Int} : hfil h a 0 v = h := by
  funext b j
  unfold hfil
  by_cases e : b = a <;> simp [e]
theorem jaddN {k : Nat} (h : k + 1 ≤ 2147483647) : jadd (k : Int) 1 = ((k + 1 : Nat) : Int) := by
  unfold jadd
  rw [i32_eq (by omega) (by omega)]
  omega
theorem TJ7_fillI {l : Launch} {d : Nat} {Q : Option mV → mM → Prop} {a n : Nat} {v : Int} {h : mH} (hs : SX[a]? = some (10, n)) (hN : n ≤ 2147483647) (hq : Q none (SX, rX, hfil h a n v)) : ∀ (m k : Nat), k + m = n → WP l mtJ7_fill_53178 d (0, 0) 5 [some (.inr (.inr (.inl a))), some (.inl v), some (.inl (k : Int)), some (.inl (n : Int))] [] (SX, rX, hfil h a k v) Q := by
  intro m
  induction m with
  | zero =>
    intro k hk
    obtain rfl : k = n := by omega
    refine WP_iload_n (i := 2) rfl rfl rfl ?_
    refine WP_iload_n (i := 3) rfl rfl rfl ?_
    refine WP_icmp_ge rfl rfl (fun c => by omega) (fun c => ?_)
    exact WP_vret rfl rfl hq
  | succ m ih =>
    intro k hk
    refine WP_iload_n (i := 2) rfl rfl rfl ?_
    refine WP_iload_n (i := 3) rfl rfl rfl ?_
    refine WP_icmp_ge rfl rfl (fun c => ?_) (fun c => by omega)
    refine WP_aload_n (i := 0) rfl rfl rfl ?_
    refine WP_iload_n (i := 2) rfl rfl rfl ?_
    refine WP_iload_n (i := 1) rfl rfl rfl ?_
    refine WP_iast rfl hs (by omega) (by omega) ?_
    refine WP_iinc rfl rfl (Nat.le_of_ble_eq_true rfl) rfl ?_
    refine WP_goto rfl rfl ?_
    rw [Int.toNat_natCast, hfil_s, jaddN (by omega)]
    exact ih (k + 1) (by omega)
theorem EJ7_fill_53178 {l : Launch} {d : Nat} (_ : 0 ≤ d) {a n : Nat} {v : Int} {h : mH} (hs : SX[a]? = some (10, n)) (hN : n ≤ 2147483647) : EvV l mtJ7_fill_53178 d [.inr (.inr (.inl a)), .inl v] (SX, rX, h) none (SX, rX, hfil h a n v) := by
  refine Ev.of okJ7_fill_53178 (Nat.le_of_ble_eq_true rfl) ?_
  refine WP_iconst rfl ⟨by decide, by decide⟩ ?_
  refine WP_istore_n (i := 2) rfl rfl (Nat.le_of_ble_eq_true rfl) rfl ?_
  refine WP_aload_n (i := 0) rfl rfl rfl ?_
  refine WP_alen rfl hs hN ?_
  refine WP_istore_n (i := 3) rfl rfl (Nat.le_of_ble_eq_true rfl) rfl ?_
  have := TJ7_fillI (l := l) (d := d) (Q := fun v' M'' => v' = none ∧ M'' = (SX, rX, hfil h a n v)) hs hN ⟨rfl, rfl⟩ n 0 (by omega)
  rw [hfil_0] at this
  exact this
theorem TJ7_fillL {l : Launch} {d : Nat} {Q : Option mV → mM → Prop} {a n : Nat} {v : Int} {h : mH} (hs : SX[a]? = some (11, n)) (hN : n ≤ 2147483647) (hq : Q none (SX, rX, hfil h a n v)) : ∀ (m k : Nat), k + m = n → WP l mtJ7_fill_d0a16 d (0, 0) 6 [some (.inr (.inr (.inl a))), some (.inr (.inl v)), none, some (.inl (k : Int)), some (.inl (n : Int))] [] (SX, rX, hfil h a k v) Q := by
  intro m
  induction m with
  | zero =>
    intro k hk
    obtain rfl : k = n := by omega
    refine WP_iload_n (i := 3) rfl rfl rfl ?_
    refine WP_iload (i := 4) rfl rfl ?_
    refine WP_icmp_ge rfl rfl (fun c => by omega) (fun c => ?_)
    exact WP_vret rfl rfl hq
  | succ m ih =>
    intro k hk
    refine WP_iload_n (i := 3) rfl rfl rfl ?_
    refine WP_iload (i := 4) rfl rfl ?_
    refine WP_icmp_ge rfl rfl (fun c => ?_) (fun c => by omega)
    refine WP_aload_n (i := 0) rfl rfl rfl ?_
    refine WP_iload_n (i := 3) rfl rfl rfl ?_
    refine WP_lload_n (i := 1) rfl rfl rfl ?_
    refine WP_last rfl hs (by omega) (by omega) ?_
    refine WP_iinc rfl rfl (Nat.le_of_ble_eq_true rfl) rfl ?_
    refine WP_goto rfl rfl ?_
    rw [Int.toNat_natCast, hfil_s, jaddN (by omega)]
    exact ih (k + 1) (by omega)
theorem EJ7_fill_d0a16 {l : Launch} {d : Nat} (_ : 0 ≤ d) {a n : Nat} {v : Int} {h : mH} (hs : SX[a]? = some (11, n)) (hN : n ≤ 2147483647) : EvV l mtJ7_fill_d0a16 d [.inr (.inr (.inl a)), .inr (.inl v)] (SX, rX, h) none (SX, rX, hfil h a n v) := by
  refine Ev.of okJ7_fill_d0a16 (Nat.le_of_ble_eq_true rfl) ?_
  refine WP_iconst rfl ⟨by decide, by decide⟩ ?_
  refine WP_istore_n (i := 3) rfl rfl (Nat.le_of_ble_eq_true rfl) rfl ?_
  refine WP_aload_n (i := 0) rfl rfl rfl ?_
  refine WP_llen rfl hs hN ?_
  refine WP_istore (i := 4) rfl (Nat.le_of_ble_eq_true rfl) rfl ?_
  have := TJ7_fillL (l := l) (d := d) (Q := fun v' M'' => v' = none ∧ M'' = (SX, rX, hfil h a n v)) hs hN ⟨rfl, rfl⟩ n 0 (by omega)
  rw [hfil_0] at this
  exact this
end
section
/-! decompiled: J6_bitCount_0f7a4 X7_breaks X7_brokenBy X7_earnedOn X7_isForbidden X7_clear X7_addWork X7_addRule X7_copy X7_worksOn X7_isA X7_fewer X7_fewestBroken X7_leftOutFor -/
def fJ6_bitCount_0f7a4 (v0 : Int) (h : mH) : Option (Int) :=
  some (jand (jadd (jadd (jand (jadd (jadd (jand (jsub v0 (jand (jushr v0 1) 1431655765)) 858993459) (jand (jushr (jsub v0 (jand (jushr v0 1) 1431655765)) 2) 858993459)) (jushr (jadd (jand (jsub v0 (jand (jushr v0 1) 1431655765)) 858993459) (jand (jushr (jsub v0 (jand (jushr v0 1) 1431655765)) 2) 858993459)) 4)) 252645135) (jushr (jand (jadd (jadd (jand (jsub v0 (jand (jushr v0 1) 1431655765)) 858993459) (jand (jushr (jsub v0 (jand (jushr v0 1) 1431655765)) 2) 858993459)) (jushr (jadd (jand (jsub v0 (jand (jushr v0 1) 1431655765)) 858993459) (jand (jushr (jsub v0 (jand (jushr v0 1) 1431655765)) 2) 858993459)) 4)) 252645135) 8)) (jushr (jadd (jand (jadd (jadd (jand (jsub v0 (jand (jushr v0 1) 1431655765)) 858993459) (jand (jushr (jsub v0 (jand (jushr v0 1) 1431655765)) 2) 858993459)) (jushr (jadd (jand (jsub v0 (jand (jushr v0 1) 1431655765)) 858993459) (jand (jushr (jsub v0 (jand (jushr v0 1) 1431655765)) 2) 858993459)) 4)) 252645135) (jushr (jand (jadd (jadd (jand (jsub v0 (jand (jushr v0 1) 1431655765)) 858993459) (jand (jushr (jsub v0 (jand (jushr v0 1) 1431655765)) 2) 858993459)) (jushr (jadd (jand (jsub v0 (jand (jushr v0 1) 1431655765)) 858993459) (jand (jushr (jsub v0 (jand (jushr v0 1) 1431655765)) 2) 858993459)) 4)) 252645135) 8)) 16)) 63)
theorem TJ6_bitCount_0f7a4 {l : Launch} {d : Nat} (hd : 0 ≤ d) {Q : Option mV → mM → Prop} {v0 : Int} {h : mH}  {x : Int} (hf : fJ6_bitCount_0f7a4 v0 h = some x) (hr : ∀ rv, x = rv → Q (some (.inl rv)) (SX, rX, h)) : WP l mtJ6_bitCount_0f7a4 d (0, 0) 0 [some (.inl v0)] [] (SX, rX, h) Q := by
  unfold fJ6_bitCount_0f7a4 at hf
  refine WP_iload_n (i := 0) rfl rfl rfl ?_
  refine WP_iload_n (i := 0) rfl rfl rfl ?_
  refine WP_iconst rfl ⟨by decide, by decide⟩ ?_
  refine WP_iushr rfl ?_
  refine WP_ldcw (n := 1431655765) rfl kcJ_265 ⟨by decide, by decide⟩ (by decide) ?_
  refine WP_iand rfl ?_
  refine WP_isub rfl ?_
  refine WP_istore_n (i := 0) rfl rfl (Nat.le_of_ble_eq_true rfl) rfl ?_
  refine WP_iload_n (i := 0) rfl rfl rfl ?_
  refine WP_ldcw (n := 858993459) rfl kcJ_266 ⟨by decide, by decide⟩ (by decide) ?_
  refine WP_iand rfl ?_
  refine WP_iload_n (i := 0) rfl rfl rfl ?_
  refine WP_iconst rfl ⟨by decide, by decide⟩ ?_
  refine WP_iushr rfl ?_
  refine WP_ldcw (n := 858993459) rfl kcJ_266 ⟨by decide, by decide⟩ (by decide) ?_
  refine WP_iand rfl ?_
  refine WP_iadd rfl ?_
  refine WP_istore_n (i := 0) rfl rfl (Nat.le_of_ble_eq_true rfl) rfl ?_
  refine WP_iload_n (i := 0) rfl rfl rfl ?_
  refine WP_iload_n (i := 0) rfl rfl rfl ?_
  refine WP_iconst rfl ⟨by decide, by decide⟩ ?_
  refine WP_iushr rfl ?_
  refine WP_iadd rfl ?_
  refine WP_ldcw (n := 252645135) rfl kcJ_267 ⟨by decide, by decide⟩ (by decide) ?_
  refine WP_iand rfl ?_
  refine WP_istore_n (i := 0) rfl rfl (Nat.le_of_ble_eq_true rfl) rfl ?_
  refine WP_iload_n (i := 0) rfl rfl rfl ?_
  refine WP_iload_n (i := 0) rfl rfl rfl ?_
  refine WP_bipush rfl ⟨by decide, by decide⟩ (by decide) ?_
  refine WP_iushr rfl ?_
  refine WP_iadd rfl ?_
  refine WP_istore_n (i := 0) rfl rfl (Nat.le_of_ble_eq_true rfl) rfl ?_
  refine WP_iload_n (i := 0) rfl rfl rfl ?_
  refine WP_iload_n (i := 0) rfl rfl rfl ?_
  refine WP_bipush rfl ⟨by decide, by decide⟩ (by decide) ?_
  refine WP_iushr rfl ?_
  refine WP_iadd rfl ?_
  refine WP_istore_n (i := 0) rfl rfl (Nat.le_of_ble_eq_true rfl) rfl ?_
  refine WP_iload_n (i := 0) rfl rfl rfl ?_
  refine WP_bipush rfl ⟨by decide, by decide⟩ (by decide) ?_
  refine WP_iand rfl ?_
  cases hf
  exact WP_iret rfl rfl (hr _ rfl)
theorem EJ6_bitCount_0f7a4 {l : Launch} {d : Nat} (hd : 0 ≤ d) {v0 : Int} {h : mH}  {rv : Int} (hf : fJ6_bitCount_0f7a4 v0 h = some rv) : EvV l mtJ6_bitCount_0f7a4 d [.inl v0] (SX, rX, h) (some (.inl rv)) (SX, rX, h) :=
  Ev.of okJ6_bitCount_0f7a4 (Nat.le_of_ble_eq_true rfl) (TJ6_bitCount_0f7a4 hd  hf (fun a0 e => by cases e; exact ⟨rfl, rfl⟩))
def fX7_breaks_65 (t0 : Nat) (v1 : Int) (v2 : Int) (v3 : Int) (v4 : Int) (s0 : Int) (h : mH) : Option (Int) :=
  if s0 = 0 ∨ s0 = 1 then some s0 else none
def fX7_breaks_64 (t0 : Nat) (v1 : Int) (v2 : Int) (v3 : Int) (v4 : Int) (h : mH) : Option (Int) :=
  fX7_breaks_65 t0 v1 v2 v3 v4 0 h
def fX7_breaks_97 (t0 : Nat) (v1 : Int) (v2 : Int) (v3 : Int) (v4 : Int) (s0 : Int) (h : mH) : Option (Int) :=
  if s0 = 0 ∨ s0 = 1 then some s0 else none
def fX7_breaks_92 (t0 : Nat) (v1 : Int) (v2 : Int) (v3 : Int) (v4 : Int) (h : mH) : Option (Int) :=
  fX7_breaks_97 t0 v1 v2 v3 v4 1 h
def fX7_breaks_96 (t0 : Nat) (v1 : Int) (v2 : Int) (v3 : Int) (v4 : Int) (h : mH) : Option (Int) :=
  fX7_breaks_97 t0 v1 v2 v3 v4 0 h
def fX7_breaks_79 (t0 : Nat) (v1 : Int) (v2 : Int) (v3 : Int) (v4 : Int) (v5 : Int) (v6 : Int) (h : mH) : Option (Int) :=
  if v4 = v6 then if v3 = v5 then fX7_breaks_92 t0 v1 v2 v3 v4 h else fX7_breaks_96 t0 v1 v2 v3 v4 h else fX7_breaks_96 t0 v1 v2 v3 v4 h
def fX7_breaks_119 (t0 : Nat) (v1 : Int) (v2 : Int) (v3 : Int) (v4 : Int) (s0 : Int) (h : mH) : Option (Int) :=
  if s0 = 0 ∨ s0 = 1 then some s0 else none
def fX7_breaks_118 (t0 : Nat) (v1 : Int) (v2 : Int) (v3 : Int) (v4 : Int) (h : mH) : Option (Int) :=
  fX7_breaks_119 t0 v1 v2 v3 v4 0 h
def fX7_breaks (t0 : Nat) (v1 : Int) (v2 : Int) (v3 : Int) (v4 : Int) (h : mH) : Option (Int) :=
  (ald h (rfX t0 9) 6 v1).bind fun x1 => (ald h (rfX t0 10) 6 v1).bind fun x2 => (ald h (rfX t0 8) 6 v1).bind fun x3 => if x3 = 0 then if v3 = (-1) then if v4 = x1 then fX7_breaks_65 t0 v1 v2 v3 v4 1 h else fX7_breaks_64 t0 v1 v2 v3 v4 h else fX7_breaks_64 t0 v1 v2 v3 v4 h else if x3 = 1 then if v4 = x1 then if v3 = x2 then fX7_breaks_92 t0 v1 v2 v3 v4 h else fX7_breaks_79 t0 v1 v2 v3 v4 x1 x2 h else fX7_breaks_79 t0 v1 v2 v3 v4 x1 x2 h else if v4 = x2 then if (jand (jshr v2 x1) 1) = 0 then fX7_breaks_119 t0 v1 v2 v3 v4 1 h else fX7_breaks_118 t0 v1 v2 v3 v4 h else fX7_breaks_118 t0 v1 v2 v3 v4 h
theorem TX7_breaks_65 {l : Launch} {d : Nat} (hd : 0 ≤ d) {Q : Option mV → mM → Prop} {t0 : Nat} {v1 : Int} {v2 : Int} {v3 : Int} {v4 : Int} {s0 : Int} {h : mH} (hs0 : SX[t0]? = some (7, 11)) {x : Int} (hf : fX7_breaks_65 t0 v1 v2 v3 v4 s0 h = some x) (hr : ∀ rv, x = rv → Q (some (.inl rv)) (SX, rX, h)) : WP l mtX7_breaks d (0, 0) 65 [some (.inr (.inr (.inl t0))), some (.inl v1), some (.inl v2), some (.inl v3), some (.inl v4), none, none] [.inl s0] (SX, rX, h) Q := by
  unfold fX7_breaks_65 at hf
  obtain ⟨z1, hf⟩ := osome hf
  cases hf
  exact WP_zret rfl rfl z1 (hr _ rfl)
theorem TX7_breaks_64 {l : Launch} {d : Nat} (hd : 0 ≤ d) {Q : Option mV → mM → Prop} {t0 : Nat} {v1 : Int} {v2 : Int} {v3 : Int} {v4 : Int} {h : mH} (hs0 : SX[t0]? = some (7, 11)) {x : Int} (hf : fX7_breaks_64 t0 v1 v2 v3 v4 h = some x) (hr : ∀ rv, x = rv → Q (some (.inl rv)) (SX, rX, h)) : WP l mtX7_breaks d (0, 0) 64 [some (.inr (.inr (.inl t0))), some (.inl v1), some (.inl v2), some (.inl v3), some (.inl v4), none, none] [] (SX, rX, h) Q := by
  unfold fX7_breaks_64 at hf
  refine WP_iconst rfl ⟨by decide, by decide⟩ ?_
  exact WP_keep [true, true, true, true, true, false, false] (TX7_breaks_65 hd hs0 hf hr)
theorem TX7_breaks_97 {l : Launch} {d : Nat} (hd : 0 ≤ d) {Q : Option mV → mM → Prop} {t0 : Nat} {v1 : Int} {v2 : Int} {v3 : Int} {v4 : Int} {s0 : Int} {h : mH} (hs0 : SX[t0]? = some (7, 11)) {x : Int} (hf : fX7_breaks_97 t0 v1 v2 v3 v4 s0 h = some x) (hr : ∀ rv, x = rv → Q (some (.inl rv)) (SX, rX, h)) : WP l mtX7_breaks d (0, 0) 97 [some (.inr (.inr (.inl t0))), some (.inl v1), some (.inl v2), some (.inl v3), some (.inl v4), none, none] [.inl s0] (SX, rX, h) Q := by
  unfold fX7_breaks_97 at hf
  obtain ⟨z1, hf⟩ := osome hf
  cases hf
  exact WP_zret rfl rfl z1 (hr _ rfl)
theorem TX7_breaks_92 {l : Launch} {d : Nat} (hd : 0 ≤ d) {Q : Option mV → mM → Prop} {t0 : Nat} {v1 : Int} {v2 : Int} {v3 : Int} {v4 : Int} {h : mH} (hs0 : SX[t0]? = some (7, 11)) {x : Int} (hf : fX7_breaks_92 t0 v1 v2 v3 v4 h = some x) (hr : ∀ rv, x = rv → Q (some (.inl rv)) (SX, rX, h)) : WP l mtX7_breaks d (0, 0) 92 [some (.inr (.inr (.inl t0))), some (.inl v1), some (.inl v2), some (.inl v3), some (.inl v4), none, none] [] (SX, rX, h) Q := by
  unfold fX7_breaks_92 at hf
  refine WP_iconst rfl ⟨by decide, by decide⟩ ?_
  refine WP_goto rfl rfl ?_
  exact WP_keep [true, true, true, true, true, false, false] (TX7_breaks_97 hd hs0 hf hr)
theorem TX7_breaks_96 {l : Launch} {d : Nat} (hd : 0 ≤ d) {Q : Option mV → mM → Prop} {t0 : Nat} {v1 : Int} {v2 : Int} {v3 : Int} {v4 : Int} {h : mH} (hs0 : SX[t0]? = some (7, 11)) {x : Int} (hf : fX7_breaks_96 t0 v1 v2 v3 v4 h = some x) (hr : ∀ rv, x = rv → Q (some (.inl rv)) (SX, rX, h)) : WP l mtX7_breaks d (0, 0) 96 [some (.inr (.inr (.inl t0))), some (.inl v1), some (.inl v2), some (.inl v3), some (.inl v4), none, none] [] (SX, rX, h) Q := by
  unfold fX7_breaks_96 at hf
  refine WP_iconst rfl ⟨by decide, by decide⟩ ?_
  exact WP_keep [true, true, true, true, true, false, false] (TX7_breaks_97 hd hs0 hf hr)
theorem TX7_breaks_79 {l : Launch} {d : Nat} (hd : 0 ≤ d) {Q : Option mV → mM → Prop} {t0 : Nat} {v1 : Int} {v2 : Int} {v3 : Int} {v4 : Int} {v5 : Int} {v6 : Int} {h : mH} (hs0 : SX[t0]? = some (7, 11)) {x : Int} (hf : fX7_breaks_79 t0 v1 v2 v3 v4 v5 v6 h = some x) (hr : ∀ rv, x = rv → Q (some (.inl rv)) (SX, rX, h)) : WP l mtX7_breaks d (0, 0) 79 [some (.inr (.inr (.inl t0))), some (.inl v1), some (.inl v2), some (.inl v3), some (.inl v4), some (.inl v5), some (.inl v6)] [] (SX, rX, h) Q := by
  unfold fX7_breaks_79 at hf
  refine WP_iload (i := 4) rfl rfl ?_
  refine WP_iload (i := 6) rfl rfl ?_
  refine WP_icmp_ne rfl rfl (fun c1 => ?_) (fun c1 => ?_)
  · have hf := (if_pos c1).symm.trans hf
    refine WP_iload_n (i := 3) rfl rfl rfl ?_
    refine WP_iload (i := 5) rfl rfl ?_
    refine WP_icmp_ne rfl rfl (fun c2 => ?_) (fun c2 => ?_)
    · have hf := (if_pos c2).symm.trans hf
      exact WP_keep [true, true, true, true, true, false, false] (TX7_breaks_92 hd hs0 hf hr)
    · have hf := (if_neg c2).symm.trans hf
      exact WP_keep [true, true, true, true, true, false, false] (TX7_breaks_96 hd hs0 hf hr)
  · have hf := (if_neg c1).symm.trans hf
    exact WP_keep [true, true, true, true, true, false, false] (TX7_breaks_96 hd hs0 hf hr)
theorem TX7_breaks_119 {l : Launch} {d : Nat} (hd : 0 ≤ d) {Q : Option mV → mM → Prop} {t0 : Nat} {v1 : Int} {v2 : Int} {v3 : Int} {v4 : Int} {s0 : Int} {h : mH} (hs0 : SX[t0]? = some (7, 11)) {x : Int} (hf : fX7_breaks_119 t0 v1 v2 v3 v4 s0 h = some x) (hr : ∀ rv, x = rv → Q (some (.inl rv)) (SX, rX, h)) : WP l mtX7_breaks d (0, 0) 119 [some (.inr (.inr (.inl t0))), some (.inl v1), some (.inl v2), some (.inl v3), some (.inl v4), none, none] [.inl s0] (SX, rX, h) Q := by
  unfold fX7_breaks_119 at hf
  obtain ⟨z1, hf⟩ := osome hf
  cases hf
  exact WP_zret rfl rfl z1 (hr _ rfl)
theorem TX7_breaks_118 {l : Launch} {d : Nat} (hd : 0 ≤ d) {Q : Option mV → mM → Prop} {t0 : Nat} {v1 : Int} {v2 : Int} {v3 : Int} {v4 : Int} {h : mH} (hs0 : SX[t0]? = some (7, 11)) {x : Int} (hf : fX7_breaks_118 t0 v1 v2 v3 v4 h = some x) (hr : ∀ rv, x = rv → Q (some (.inl rv)) (SX, rX, h)) : WP l mtX7_breaks d (0, 0) 118 [some (.inr (.inr (.inl t0))), some (.inl v1), some (.inl v2), some (.inl v3), some (.inl v4), none, none] [] (SX, rX, h) Q := by
  unfold fX7_breaks_118 at hf
  refine WP_iconst rfl ⟨by decide, by decide⟩ ?_
  exact WP_keep [true, true, true, true, true, false, false] (TX7_breaks_119 hd hs0 hf hr)
theorem TX7_breaks {l : Launch} {d : Nat} (hd : 0 ≤ d) {Q : Option mV → mM → Prop} {t0 : Nat} {v1 : Int} {v2 : Int} {v3 : Int} {v4 : Int} {h : mH} (hs0 : SX[t0]? = some (7, 11)) {x : Int} (hf : fX7_breaks t0 v1 v2 v3 v4 h = some x) (hr : ∀ rv, x = rv → Q (some (.inl rv)) (SX, rX, h)) : WP l mtX7_breaks d (0, 0) 0 [some (.inr (.inr (.inl t0))), some (.inl v1), some (.inl v2), some (.inl v3), some (.inl v4), none, none] [] (SX, rX, h) Q := by
  unfold fX7_breaks at hf
  refine WP_aload_n (i := 0) rfl rfl rfl ?_
  refine WP_getR rfl fl7_33 hs0 (by decide) rfl (wfX7_9 hs0).2 ?_
  refine WP_iload_n (i := 1) rfl rfl rfl ?_
  obtain ⟨x1, hx1, hf⟩ := obind hf
  obtain ⟨bx1, cx1, ex1⟩ := ald_some hx1
  subst ex1
  refine WP_iald rfl (wfX7_9 hs0).1 bx1 cx1 ?_
  refine WP_istore (i := 5) rfl (Nat.le_of_ble_eq_true rfl) rfl ?_
  refine WP_aload_n (i := 0) rfl rfl rfl ?_
  refine WP_getR rfl fl7_36 hs0 (by decide) rfl (wfX7_10 hs0).2 ?_
  refine WP_iload_n (i := 1) rfl rfl rfl ?_
  obtain ⟨x2, hx2, hf⟩ := obind hf
  obtain ⟨bx2, cx2, ex2⟩ := ald_some hx2
  subst ex2
  refine WP_iald rfl (wfX7_10 hs0).1 bx2 cx2 ?_
  refine WP_istore (i := 6) rfl (Nat.le_of_ble_eq_true rfl) rfl ?_
  refine WP_aload_n (i := 0) rfl rfl rfl ?_
  refine WP_getR rfl fl7_30 hs0 (by decide) rfl (wfX7_8 hs0).2 ?_
  refine WP_iload_n (i := 1) rfl rfl rfl ?_
  obtain ⟨x3, hx3, hf⟩ := obind hf
  obtain ⟨bx3, cx3, ex3⟩ := ald_some hx3
  subst ex3
  refine WP_iald rfl (wfX7_8 hs0).1 bx3 cx3 ?_
  rcases oite hf with ⟨c4, hf⟩ | ⟨c4, hf⟩
  · refine WP_look rfl rfl (by rw [c4]; first | done | rfl) rfl ?_
    refine WP_iload_n (i := 3) rfl rfl rfl ?_
    refine WP_iconst rfl ⟨by decide, by decide⟩ ?_
    refine WP_icmp_ne rfl rfl (fun c5 => ?_) (fun c5 => ?_)
    · have hf := (if_pos c5).symm.trans hf
      refine WP_iload (i := 4) rfl rfl ?_
      refine WP_iload (i := 5) rfl rfl ?_
      refine WP_icmp_ne rfl rfl (fun c6 => ?_) (fun c6 => ?_)
      · have hf := (if_pos c6).symm.trans hf
        refine WP_iconst rfl ⟨by decide, by decide⟩ ?_
        refine WP_goto rfl rfl ?_
        exact WP_keep [true, true, true, true, true, false, false] (TX7_breaks_65 hd hs0 hf hr)
      · have hf := (if_neg c6).symm.trans hf
        exact WP_keep [true, true, true, true, true, false, false] (TX7_breaks_64 hd hs0 hf hr)
    · have hf := (if_neg c5).symm.trans hf
      exact WP_keep [true, true, true, true, true, false, false] (TX7_breaks_64 hd hs0 hf hr)
  · skip
    rcases oite hf with ⟨c7, hf⟩ | ⟨c7, hf⟩
    · refine WP_look rfl rfl (by rw [c7]; first | done | rfl) rfl ?_
      refine WP_iload (i := 4) rfl rfl ?_
      refine WP_iload (i := 5) rfl rfl ?_
      refine WP_icmp_ne rfl rfl (fun c8 => ?_) (fun c8 => ?_)
      · have hf := (if_pos c8).symm.trans hf
        refine WP_iload_n (i := 3) rfl rfl rfl ?_
        refine WP_iload (i := 6) rfl rfl ?_
        refine WP_icmp_eq rfl rfl (fun c9 => ?_) (fun c9 => ?_)
        · have hf := (if_pos c9).symm.trans hf
          exact WP_keep [true, true, true, true, true, false, false] (TX7_breaks_92 hd hs0 hf hr)
        · have hf := (if_neg c9).symm.trans hf
          exact WP_keep [true, true, true, true, true, true, true] (TX7_breaks_79 hd hs0 hf hr)
      · have hf := (if_neg c8).symm.trans hf
        exact WP_keep [true, true, true, true, true, true, true] (TX7_breaks_79 hd hs0 hf hr)
    · skip
      refine WP_look rfl rfl (by simp [Op.lookupswitch.offset, c4, c7, Ne.symm c4, Ne.symm c7]; rfl) rfl ?_
      refine WP_iload (i := 4) rfl rfl ?_
      refine WP_iload (i := 6) rfl rfl ?_
      refine WP_icmp_ne rfl rfl (fun c10 => ?_) (fun c10 => ?_)
      · have hf := (if_pos c10).symm.trans hf
        refine WP_iload_n (i := 2) rfl rfl rfl ?_
        refine WP_iload (i := 5) rfl rfl ?_
        refine WP_ishr rfl ?_
        refine WP_iconst rfl ⟨by decide, by decide⟩ ?_
        refine WP_iand rfl ?_
        refine WP_if_ne rfl rfl (fun c11 => ?_) (fun c11 => ?_)
        · have hf := (if_pos c11).symm.trans hf
          refine WP_iconst rfl ⟨by decide, by decide⟩ ?_
          refine WP_goto rfl rfl ?_
          exact WP_keep [true, true, true, true, true, false, false] (TX7_breaks_119 hd hs0 hf hr)
        · have hf := (if_neg c11).symm.trans hf
          exact WP_keep [true, true, true, true, true, false, false] (TX7_breaks_118 hd hs0 hf hr)
      · have hf := (if_neg c10).symm.trans hf
        exact WP_keep [true, true, true, true, true, false, false] (TX7_breaks_118 hd hs0 hf hr)
theorem EX7_breaks {l : Launch} {d : Nat} (hd : 0 ≤ d) {t0 : Nat} {v1 : Int} {v2 : Int} {v3 : Int} {v4 : Int} {h : mH} (hs0 : SX[t0]? = some (7, 11)) {rv : Int} (hf : fX7_breaks t0 v1 v2 v3 v4 h = some rv) : EvV l mtX7_breaks d [.inr (.inr (.inl t0)), .inl v1, .inl v2, .inl v3, .inl v4] (SX, rX, h) (some (.inl rv)) (SX, rX, h) :=
  Ev.of okX7_breaks (Nat.le_of_ble_eq_true rfl) (TX7_breaks hd hs0 hf (fun a0 e => by cases e; exact ⟨rfl, rfl⟩))
def fX7_brokenBy_36 (t0 : Nat) (v1 : Int) (v2 : Int) (v3 : Int) (v4 : Int) (v5 : Int) (h : mH) : Option ((Int × Int) ⊕ (Int)) :=
  some (.inl (v4, (jadd v5 1)))
def fX7_brokenBy_6 (t0 : Nat) (v1 : Int) (v2 : Int) (v3 : Int) (v4 : Int) (v5 : Int) (h : mH) : Option ((Int × Int) ⊕ (Int)) :=
  if v5 < (h t0 7) then (fX7_breaks t0 v5 v1 v2 v3 h).bind fun x2 => if x2 = 0 then fX7_brokenBy_36 t0 v1 v2 v3 v4 v5 h else fX7_brokenBy_36 t0 v1 v2 v3 (jor v4 (jshl 1 v5)) v5 h else some (.inr v4)
def fX7_brokenBy (t0 : Nat) (v1 : Int) (v2 : Int) (v3 : Int) (h : mH) : Option (Int) :=
  (mloop (fun s => fX7_brokenBy_6 t0 v1 v2 v3 s.1 s.2 h) mfu (0, 0)).bind fun q1 => some q1
theorem TX7_brokenBy_36 {l : Launch} {d : Nat} (hd : 1 ≤ d) {Q : Option mV → mM → Prop} {t0 : Nat} {v1 : Int} {v2 : Int} {v3 : Int} {v4 : Int} {v5 : Int} {h : mH} (hs0 : SX[t0]? = some (7, 11)) {x : (Int × Int) ⊕ (Int)} (hf : fX7_brokenBy_36 t0 v1 v2 v3 v4 v5 h = some x) (hc : ∀ (v4' : Int) (v5' : Int), x = .inl (v4', v5') → WP l mtX7_brokenBy d (0, 0) 6 [some (.inr (.inr (.inl t0))), some (.inl v1), some (.inl v2), some (.inl v3), some (.inl v4'), some (.inl v5')] [] (SX, rX, h) Q) (he42 : ∀ (v4' : Int), x = .inr v4' → WP l mtX7_brokenBy d (0, 0) 42 [some (.inr (.inr (.inl t0))), some (.inl v1), some (.inl v2), some (.inl v3), some (.inl v4'), none] [] (SX, rX, h) Q) : WP l mtX7_brokenBy d (0, 0) 36 [some (.inr (.inr (.inl t0))), some (.inl v1), some (.inl v2), some (.inl v3), some (.inl v4), some (.inl v5)] [] (SX, rX, h) Q := by
  unfold fX7_brokenBy_36 at hf
  refine WP_iinc rfl rfl (Nat.le_of_ble_eq_true rfl) rfl ?_
  refine WP_goto rfl rfl ?_
  cases hf
  exact WP_keep [true, true, true, true, true, true] (hc _ _ rfl)
theorem TX7_brokenBy_6 {l : Launch} {d : Nat} (hd : 1 ≤ d) {Q : Option mV → mM → Prop} {t0 : Nat} {v1 : Int} {v2 : Int} {v3 : Int} {v4 : Int} {v5 : Int} {h : mH} (hs0 : SX[t0]? = some (7, 11)) {x : (Int × Int) ⊕ (Int)} (hf : fX7_brokenBy_6 t0 v1 v2 v3 v4 v5 h = some x) (hc : ∀ (v4' : Int) (v5' : Int), x = .inl (v4', v5') → WP l mtX7_brokenBy d (0, 0) 6 [some (.inr (.inr (.inl t0))), some (.inl v1), some (.inl v2), some (.inl v3), some (.inl v4'), some (.inl v5')] [] (SX, rX, h) Q) (he42 : ∀ (v4' : Int), x = .inr v4' → WP l mtX7_brokenBy d (0, 0) 42 [some (.inr (.inr (.inl t0))), some (.inl v1), some (.inl v2), some (.inl v3), some (.inl v4'), none] [] (SX, rX, h) Q) : WP l mtX7_brokenBy d (0, 0) 6 [some (.inr (.inr (.inl t0))), some (.inl v1), some (.inl v2), some (.inl v3), some (.inl v4), some (.inl v5)] [] (SX, rX, h) Q := by
  unfold fX7_brokenBy_6 at hf
  refine WP_iload (i := 5) rfl rfl ?_
  refine WP_aload_n (i := 0) rfl rfl rfl ?_
  refine WP_getI rfl fl7_49 hs0 (by decide) (by decide) (Or.inl rfl) ?_
  refine WP_icmp_ge rfl rfl (fun c1 => ?_) (fun c1 => ?_)
  · have hf := (if_pos c1).symm.trans hf
    refine WP_aload_n (i := 0) rfl rfl rfl ?_
    refine WP_iload (i := 5) rfl rfl ?_
    refine WP_iload_n (i := 1) rfl rfl rfl ?_
    refine WP_iload_n (i := 2) rfl rfl rfl ?_
    refine WP_iload_n (i := 3) rfl rfl rfl ?_
    obtain ⟨x2, hx2, hf⟩ := obind hf
    refine WP_cV (EX7_breaks (by omega) hs0  hx2) vkX7_breaks rfl ml7_58 hs0 rfl (by omega) rfl (Nat.le_of_ble_eq_true rfl) ?_
    refine WP_if_eq rfl rfl (fun c4 => ?_) (fun c4 => ?_)
    · have hf := (if_pos c4).symm.trans hf
      exact WP_keep [true, true, true, true, true, true] (TX7_brokenBy_36 hd hs0 hf hc he42)
    · have hf := (if_neg c4).symm.trans hf
      refine WP_iload (i := 4) rfl rfl ?_
      refine WP_iconst rfl ⟨by decide, by decide⟩ ?_
      refine WP_iload (i := 5) rfl rfl ?_
      refine WP_ishl rfl ?_
      refine WP_ior rfl ?_
      refine WP_istore (i := 4) rfl (Nat.le_of_ble_eq_true rfl) rfl ?_
      exact WP_keep [true, true, true, true, true, true] (TX7_brokenBy_36 hd hs0 hf hc he42)
  · have hf := (if_neg c1).symm.trans hf
    cases hf
    exact WP_keep [true, true, true, true, true, false] (he42 _ rfl)
theorem TX7_brokenBy_6L {l : Launch} {d : Nat} (hd : 1 ≤ d) {Q : Option mV → mM → Prop} {t0 : Nat} {v1 : Int} {v2 : Int} {v3 : Int} {v4 : Int} {v5 : Int} {h : mH} (hs0 : SX[t0]? = some (7, 11)) {n : Nat} {x : Int} (hf : mloop (fun s => fX7_brokenBy_6 t0 v1 v2 v3 s.1 s.2 h) n (v4, v5) = some x) (he42 : ∀ (v4' : Int), x = v4' → WP l mtX7_brokenBy d (0, 0) 42 [some (.inr (.inr (.inl t0))), some (.inl v1), some (.inl v2), some (.inl v3), some (.inl v4'), none] [] (SX, rX, h) Q) : WP l mtX7_brokenBy d (0, 0) 6 [some (.inr (.inr (.inl t0))), some (.inl v1), some (.inl v2), some (.inl v3), some (.inl v4), some (.inl v5)] [] (SX, rX, h) Q :=
  mloop_sound (P := fun s => WP l mtX7_brokenBy d (0, 0) 6 [some (.inr (.inr (.inl t0))), some (.inl v1), some (.inl v2), some (.inl v3), some (.inl s.1), some (.inl s.2)] [] (SX, rX, h) Q) (K := fun t => t = x) (fun s y hx hc he => TX7_brokenBy_6 hd hs0  hx (fun a0 a1 e => hc (a0, a1) e) (fun a0 e => he42 a0 (he _ e).symm)) _ (v4, v5) _ hf rfl
theorem TX7_brokenBy {l : Launch} {d : Nat} (hd : 1 ≤ d) {Q : Option mV → mM → Prop} {t0 : Nat} {v1 : Int} {v2 : Int} {v3 : Int} {h : mH} (hs0 : SX[t0]? = some (7, 11)) {x : Int} (hf : fX7_brokenBy t0 v1 v2 v3 h = some x) (hr : ∀ rv, x = rv → Q (some (.inl rv)) (SX, rX, h)) : WP l mtX7_brokenBy d (0, 0) 0 [some (.inr (.inr (.inl t0))), some (.inl v1), some (.inl v2), some (.inl v3), none, none] [] (SX, rX, h) Q := by
  unfold fX7_brokenBy at hf
  refine WP_iconst rfl ⟨by decide, by decide⟩ ?_
  refine WP_istore (i := 4) rfl (Nat.le_of_ble_eq_true rfl) rfl ?_
  refine WP_iconst rfl ⟨by decide, by decide⟩ ?_
  refine WP_istore (i := 5) rfl (Nat.le_of_ble_eq_true rfl) rfl ?_
  obtain ⟨q1, hq1, hf⟩ := obind hf
  refine WP_keep [true, true, true, true, true, true] (TX7_brokenBy_6L hd hs0 hq1 (fun yq10 e => ?_))
  subst e
  refine WP_iload (i := 4) rfl rfl ?_
  cases hf
  exact WP_iret rfl rfl (hr _ rfl)
theorem EX7_brokenBy {l : Launch} {d : Nat} (hd : 1 ≤ d) {t0 : Nat} {v1 : Int} {v2 : Int} {v3 : Int} {h : mH} (hs0 : SX[t0]? = some (7, 11)) {rv : Int} (hf : fX7_brokenBy t0 v1 v2 v3 h = some rv) : EvV l mtX7_brokenBy d [.inr (.inr (.inl t0)), .inl v1, .inl v2, .inl v3] (SX, rX, h) (some (.inl rv)) (SX, rX, h) :=
  Ev.of okX7_brokenBy (Nat.le_of_ble_eq_true rfl) (TX7_brokenBy hd hs0 hf (fun a0 e => by cases e; exact ⟨rfl, rfl⟩))
def fX7_earnedOn (t0 : Nat) (v1 : Int) (v2 : Int) (h : mH) : Option (Int) :=
  (ald h (rfX t0 0) 7 v1).bind fun x1 => if x1 = 1 then some (jmul v2 2) else if x1 = 2 then some (jdiv v2 2) else some v2
theorem TX7_earnedOn {l : Launch} {d : Nat} (hd : 0 ≤ d) {Q : Option mV → mM → Prop} {t0 : Nat} {v1 : Int} {v2 : Int} {h : mH} (hs0 : SX[t0]? = some (7, 11)) {x : Int} (hf : fX7_earnedOn t0 v1 v2 h = some x) (hr : ∀ rv, x = rv → Q (some (.inl rv)) (SX, rX, h)) : WP l mtX7_earnedOn d (0, 0) 0 [some (.inr (.inr (.inl t0))), some (.inl v1), some (.inl v2)] [] (SX, rX, h) Q := by
  unfold fX7_earnedOn at hf
  refine WP_aload_n (i := 0) rfl rfl rfl ?_
  refine WP_getR rfl fl7_9 hs0 (by decide) rfl (wfX7_0 hs0).2 ?_
  refine WP_iload_n (i := 1) rfl rfl rfl ?_
  obtain ⟨x1, hx1, hf⟩ := obind hf
  obtain ⟨bx1, cx1, ex1⟩ := ald_some hx1
  subst ex1
  refine WP_iald rfl (wfX7_0 hs0).1 bx1 cx1 ?_
  rcases oite hf with ⟨c2, hf⟩ | ⟨c2, hf⟩
  · refine WP_look rfl rfl (by rw [c2]; first | done | rfl) rfl ?_
    refine WP_iload_n (i := 2) rfl rfl rfl ?_
    refine WP_iconst rfl ⟨by decide, by decide⟩ ?_
    refine WP_imul rfl ?_
    cases hf
    exact WP_iret rfl rfl (hr _ rfl)
  · skip
    rcases oite hf with ⟨c3, hf⟩ | ⟨c3, hf⟩
    · refine WP_look rfl rfl (by rw [c3]; first | done | rfl) rfl ?_
      refine WP_iload_n (i := 2) rfl rfl rfl ?_
      refine WP_iconst rfl ⟨by decide, by decide⟩ ?_
      refine WP_idiv rfl (by decide) ?_
      cases hf
      exact WP_iret rfl rfl (hr _ rfl)
    · skip
      refine WP_look rfl rfl (by simp [Op.lookupswitch.offset, c2, c3, Ne.symm c2, Ne.symm c3]; rfl) rfl ?_
      refine WP_iload_n (i := 2) rfl rfl rfl ?_
      cases hf
      exact WP_iret rfl rfl (hr _ rfl)
theorem EX7_earnedOn {l : Launch} {d : Nat} (hd : 0 ≤ d) {t0 : Nat} {v1 : Int} {v2 : Int} {h : mH} (hs0 : SX[t0]? = some (7, 11)) {rv : Int} (hf : fX7_earnedOn t0 v1 v2 h = some rv) : EvV l mtX7_earnedOn d [.inr (.inr (.inl t0)), .inl v1, .inl v2] (SX, rX, h) (some (.inl rv)) (SX, rX, h) :=
  Ev.of okX7_earnedOn (Nat.le_of_ble_eq_true rfl) (TX7_earnedOn hd hs0 hf (fun a0 e => by cases e; exact ⟨rfl, rfl⟩))
def fX7_isForbidden_30 (t0 : Nat) (v1 : Int) (s0 : Int) (h : mH) : Option (Int) :=
  if s0 = 0 ∨ s0 = 1 then some s0 else none
def fX7_isForbidden_29 (t0 : Nat) (v1 : Int) (h : mH) : Option (Int) :=
  fX7_isForbidden_30 t0 v1 0 h
def fX7_isForbidden (t0 : Nat) (v1 : Int) (h : mH) : Option (Int) :=
  (ald h (rfX t0 5) 6 v1).bind fun x1 => if x1 = 1 then (ald h (rfX t0 2) 6 v1).bind fun x3 => (ald h (rfX t0 0) 7 x3).bind fun x4 => if x4 = 3 then fX7_isForbidden_30 t0 v1 1 h else fX7_isForbidden_29 t0 v1 h else fX7_isForbidden_29 t0 v1 h
theorem TX7_isForbidden_30 {l : Launch} {d : Nat} (hd : 0 ≤ d) {Q : Option mV → mM → Prop} {t0 : Nat} {v1 : Int} {s0 : Int} {h : mH} (hs0 : SX[t0]? = some (7, 11)) {x : Int} (hf : fX7_isForbidden_30 t0 v1 s0 h = some x) (hr : ∀ rv, x = rv → Q (some (.inl rv)) (SX, rX, h)) : WP l mtX7_isForbidden d (0, 0) 30 [some (.inr (.inr (.inl t0))), some (.inl v1)] [.inl s0] (SX, rX, h) Q := by
  unfold fX7_isForbidden_30 at hf
  obtain ⟨z1, hf⟩ := osome hf
  cases hf
  exact WP_zret rfl rfl z1 (hr _ rfl)
theorem TX7_isForbidden_29 {l : Launch} {d : Nat} (hd : 0 ≤ d) {Q : Option mV → mM → Prop} {t0 : Nat} {v1 : Int} {h : mH} (hs0 : SX[t0]? = some (7, 11)) {x : Int} (hf : fX7_isForbidden_29 t0 v1 h = some x) (hr : ∀ rv, x = rv → Q (some (.inl rv)) (SX, rX, h)) : WP l mtX7_isForbidden d (0, 0) 29 [some (.inr (.inr (.inl t0))), some (.inl v1)] [] (SX, rX, h) Q := by
  unfold fX7_isForbidden_29 at hf
  refine WP_iconst rfl ⟨by decide, by decide⟩ ?_
  exact WP_keep [true, true] (TX7_isForbidden_30 hd hs0 hf hr)
theorem TX7_isForbidden {l : Launch} {d : Nat} (hd : 0 ≤ d) {Q : Option mV → mM → Prop} {t0 : Nat} {v1 : Int} {h : mH} (hs0 : SX[t0]? = some (7, 11)) {x : Int} (hf : fX7_isForbidden t0 v1 h = some x) (hr : ∀ rv, x = rv → Q (some (.inl rv)) (SX, rX, h)) : WP l mtX7_isForbidden d (0, 0) 0 [some (.inr (.inr (.inl t0))), some (.inl v1)] [] (SX, rX, h) Q := by
  unfold fX7_isForbidden at hf
  refine WP_aload_n (i := 0) rfl rfl rfl ?_
  refine WP_getR rfl fl7_24 hs0 (by decide) rfl (wfX7_5 hs0).2 ?_
  refine WP_iload_n (i := 1) rfl rfl rfl ?_
  obtain ⟨x1, hx1, hf⟩ := obind hf
  obtain ⟨bx1, cx1, ex1⟩ := ald_some hx1
  subst ex1
  refine WP_iald rfl (wfX7_5 hs0).1 bx1 cx1 ?_
  refine WP_iconst rfl ⟨by decide, by decide⟩ ?_
  refine WP_icmp_ne rfl rfl (fun c2 => ?_) (fun c2 => ?_)
  · have hf := (if_pos c2).symm.trans hf
    refine WP_aload_n (i := 0) rfl rfl rfl ?_
    refine WP_getR rfl fl7_9 hs0 (by decide) rfl (wfX7_0 hs0).2 ?_
    refine WP_aload_n (i := 0) rfl rfl rfl ?_
    refine WP_getR rfl fl7_15 hs0 (by decide) rfl (wfX7_2 hs0).2 ?_
    refine WP_iload_n (i := 1) rfl rfl rfl ?_
    obtain ⟨x3, hx3, hf⟩ := obind hf
    obtain ⟨bx3, cx3, ex3⟩ := ald_some hx3
    subst ex3
    refine WP_iald rfl (wfX7_2 hs0).1 bx3 cx3 ?_
    obtain ⟨x4, hx4, hf⟩ := obind hf
    obtain ⟨bx4, cx4, ex4⟩ := ald_some hx4
    subst ex4
    refine WP_iald rfl (wfX7_0 hs0).1 bx4 cx4 ?_
    refine WP_iconst rfl ⟨by decide, by decide⟩ ?_
    refine WP_icmp_ne rfl rfl (fun c5 => ?_) (fun c5 => ?_)
    · have hf := (if_pos c5).symm.trans hf
      refine WP_iconst rfl ⟨by decide, by decide⟩ ?_
      refine WP_goto rfl rfl ?_
      exact WP_keep [true, true] (TX7_isForbidden_30 hd hs0 hf hr)
    · have hf := (if_neg c5).symm.trans hf
      exact WP_keep [true, true] (TX7_isForbidden_29 hd hs0 hf hr)
  · have hf := (if_neg c2).symm.trans hf
    exact WP_keep [true, true] (TX7_isForbidden_29 hd hs0 hf hr)
theorem EX7_isForbidden {l : Launch} {d : Nat} (hd : 0 ≤ d) {t0 : Nat} {v1 : Int} {h : mH} (hs0 : SX[t0]? = some (7, 11)) {rv : Int} (hf : fX7_isForbidden t0 v1 h = some rv) : EvV l mtX7_isForbidden d [.inr (.inr (.inl t0)), .inl v1] (SX, rX, h) (some (.inl rv)) (SX, rX, h) :=
  Ev.of okX7_isForbidden (Nat.le_of_ble_eq_true rfl) (TX7_isForbidden hd hs0 hf (fun a0 e => by cases e; exact ⟨rfl, rfl⟩))
def fX7_clear (t0 : Nat) (h : mH) : Option (mH) :=
  some (hset (hset (hfil h (rfX t0 0) 7 0) t0 1 0) t0 7 0)
theorem TX7_clear {l : Launch} {d : Nat} (hd : 1 ≤ d) {Q : Option mV → mM → Prop} {t0 : Nat} {h : mH} (hs0 : SX[t0]? = some (7, 11)) {x : mH} (hf : fX7_clear t0 h = some x) (hr : ∀ rh, x = rh → Q none (SX, rX, rh)) : WP l mtX7_clear d (0, 0) 0 [some (.inr (.inr (.inl t0)))] [] (SX, rX, h) Q := by
  unfold fX7_clear at hf
  refine WP_aload_n (i := 0) rfl rfl rfl ?_
  refine WP_getR rfl fl7_9 hs0 (by decide) rfl (wfX7_0 hs0).2 ?_
  refine WP_iconst rfl ⟨by decide, by decide⟩ ?_
  refine WP_cSv (EJ7_fill_53178 (by omega) (wfX7_0 hs0).1 (by decide)) skJ7_fill_53178 rfl ml7_39 rfl (by omega) rfl (Nat.le_of_ble_eq_true rfl) ?_
  refine WP_aload_n (i := 0) rfl rfl rfl ?_
  refine WP_iconst rfl ⟨by decide, by decide⟩ ?_
  refine WP_putI rfl fw7_45 hs0 (by decide) rfl (by decide) ?_
  refine WP_aload_n (i := 0) rfl rfl rfl ?_
  refine WP_iconst rfl ⟨by decide, by decide⟩ ?_
  refine WP_putI rfl fw7_49 hs0 (by decide) rfl (by decide) ?_
  cases hf
  exact WP_vret rfl rfl (hr _ rfl)
theorem EX7_clear {l : Launch} {d : Nat} (hd : 1 ≤ d) {t0 : Nat} {h : mH} (hs0 : SX[t0]? = some (7, 11)) {rh : mH} (hf : fX7_clear t0 h = some rh) : EvV l mtX7_clear d [.inr (.inr (.inl t0))] (SX, rX, h) none (SX, rX, rh) :=
  Ev.of okX7_clear (Nat.le_of_ble_eq_true rfl) (TX7_clear hd hs0 hf (fun a0 e => by cases e; exact ⟨rfl, rfl⟩))
def fX7_addWork (t0 : Nat) (v1 : Int) (v2 : Int) (v3 : Int) (v4 : Int) (h : mH) : Option (mH) :=
  if (h t0 1) < 6 then (ast h (rfX t0 2) 6 (h t0 1) v1).bind fun h2 => (ast h2 (rfX t0 3) 6 (h2 t0 1) v2).bind fun h3 => (ast h3 (rfX t0 4) 6 (h3 t0 1) v3).bind fun h4 => (ast h4 (rfX t0 5) 6 (h4 t0 1) v4).bind fun h5 => (ast h5 (rfX t0 6) 6 (h5 t0 1) (-1)).bind fun h6 => some (hset h6 t0 1 (jadd (h6 t0 1) 1)) else some h
theorem TX7_addWork {l : Launch} {d : Nat} (hd : 0 ≤ d) {Q : Option mV → mM → Prop} {t0 : Nat} {v1 : Int} {v2 : Int} {v3 : Int} {v4 : Int} {h : mH} (hs0 : SX[t0]? = some (7, 11)) {x : mH} (hf : fX7_addWork t0 v1 v2 v3 v4 h = some x) (hr : ∀ rh, x = rh → Q none (SX, rX, rh)) : WP l mtX7_addWork d (0, 0) 0 [some (.inr (.inr (.inl t0))), some (.inl v1), some (.inl v2), some (.inl v3), some (.inl v4)] [] (SX, rX, h) Q := by
  unfold fX7_addWork at hf
  refine WP_aload_n (i := 0) rfl rfl rfl ?_
  refine WP_getI rfl fl7_45 hs0 (by decide) (by decide) (Or.inl rfl) ?_
  refine WP_bipush rfl ⟨by decide, by decide⟩ (by decide) ?_
  refine WP_icmp_lt rfl rfl (fun c1 => ?_) (fun c1 => ?_)
  · have hf := (if_pos c1).symm.trans hf
    refine WP_aload_n (i := 0) rfl rfl rfl ?_
    refine WP_getR rfl fl7_15 hs0 (by decide) rfl (wfX7_2 hs0).2 ?_
    refine WP_aload_n (i := 0) rfl rfl rfl ?_
    refine WP_getI rfl fl7_45 hs0 (by decide) (by decide) (Or.inl rfl) ?_
    refine WP_iload_n (i := 1) rfl rfl rfl ?_
    obtain ⟨h2, hh2, hf⟩ := obind hf
    obtain ⟨bh2, ch2, eh2⟩ := ast_some hh2
    subst eh2
    refine WP_iast rfl (wfX7_2 hs0).1 bh2 ch2 ?_
    refine WP_aload_n (i := 0) rfl rfl rfl ?_
    refine WP_getR rfl fl7_18 hs0 (by decide) rfl (wfX7_3 hs0).2 ?_
    refine WP_aload_n (i := 0) rfl rfl rfl ?_
    refine WP_getI rfl fl7_45 hs0 (by decide) (by decide) (Or.inl rfl) ?_
    refine WP_iload_n (i := 2) rfl rfl rfl ?_
    obtain ⟨h3, hh3, hf⟩ := obind hf
    obtain ⟨bh3, ch3, eh3⟩ := ast_some hh3
    subst eh3
    refine WP_iast rfl (wfX7_3 hs0).1 bh3 ch3 ?_
    refine WP_aload_n (i := 0) rfl rfl rfl ?_
    refine WP_getR rfl fl7_21 hs0 (by decide) rfl (wfX7_4 hs0).2 ?_
    refine WP_aload_n (i := 0) rfl rfl rfl ?_
    refine WP_getI rfl fl7_45 hs0 (by decide) (by decide) (Or.inl rfl) ?_
    refine WP_iload_n (i := 3) rfl rfl rfl ?_
    obtain ⟨h4, hh4, hf⟩ := obind hf
    obtain ⟨bh4, ch4, eh4⟩ := ast_some hh4
    subst eh4
    refine WP_iast rfl (wfX7_4 hs0).1 bh4 ch4 ?_
    refine WP_aload_n (i := 0) rfl rfl rfl ?_
    refine WP_getR rfl fl7_24 hs0 (by decide) rfl (wfX7_5 hs0).2 ?_
    refine WP_aload_n (i := 0) rfl rfl rfl ?_
    refine WP_getI rfl fl7_45 hs0 (by decide) (by decide) (Or.inl rfl) ?_
    refine WP_iload (i := 4) rfl rfl ?_
    obtain ⟨h5, hh5, hf⟩ := obind hf
    obtain ⟨bh5, ch5, eh5⟩ := ast_some hh5
    subst eh5
    refine WP_iast rfl (wfX7_5 hs0).1 bh5 ch5 ?_
    refine WP_aload_n (i := 0) rfl rfl rfl ?_
    refine WP_getR rfl fl7_27 hs0 (by decide) rfl (wfX7_6 hs0).2 ?_
    refine WP_aload_n (i := 0) rfl rfl rfl ?_
    refine WP_getI rfl fl7_45 hs0 (by decide) (by decide) (Or.inl rfl) ?_
    refine WP_iconst rfl ⟨by decide, by decide⟩ ?_
    obtain ⟨h6, hh6, hf⟩ := obind hf
    obtain ⟨bh6, ch6, eh6⟩ := ast_some hh6
    subst eh6
    refine WP_iast rfl (wfX7_6 hs0).1 bh6 ch6 ?_
    refine WP_aload_n (i := 0) rfl rfl rfl ?_
    refine WP_dupa rfl ?_
    refine WP_getI rfl fl7_45 hs0 (by decide) (by decide) (Or.inl rfl) ?_
    refine WP_iconst rfl ⟨by decide, by decide⟩ ?_
    refine WP_iadd rfl ?_
    refine WP_putI rfl fw7_45 hs0 (by decide) rfl (by decide) ?_
    cases hf
    exact WP_vret rfl rfl (hr _ rfl)
  · have hf := (if_neg c1).symm.trans hf
    cases hf
    exact WP_vret rfl rfl (hr _ rfl)
theorem EX7_addWork {l : Launch} {d : Nat} (hd : 0 ≤ d) {t0 : Nat} {v1 : Int} {v2 : Int} {v3 : Int} {v4 : Int} {h : mH} (hs0 : SX[t0]? = some (7, 11)) {rh : mH} (hf : fX7_addWork t0 v1 v2 v3 v4 h = some rh) : EvV l mtX7_addWork d [.inr (.inr (.inl t0)), .inl v1, .inl v2, .inl v3, .inl v4] (SX, rX, h) none (SX, rX, rh) :=
  Ev.of okX7_addWork (Nat.le_of_ble_eq_true rfl) (TX7_addWork hd hs0 hf (fun a0 e => by cases e; exact ⟨rfl, rfl⟩))
def fX7_addRule (t0 : Nat) (v1 : Int) (v2 : Int) (v3 : Int) (h : mH) : Option (mH) :=
  if (h t0 7) < 6 then (ast h (rfX t0 8) 6 (h t0 7) v1).bind fun h2 => (ast h2 (rfX t0 9) 6 (h2 t0 7) v2).bind fun h3 => (ast h3 (rfX t0 10) 6 (h3 t0 7) v3).bind fun h4 => some (hset h4 t0 7 (jadd (h4 t0 7) 1)) else some h
theorem TX7_addRule {l : Launch} {d : Nat} (hd : 0 ≤ d) {Q : Option mV → mM → Prop} {t0 : Nat} {v1 : Int} {v2 : Int} {v3 : Int} {h : mH} (hs0 : SX[t0]? = some (7, 11)) {x : mH} (hf : fX7_addRule t0 v1 v2 v3 h = some x) (hr : ∀ rh, x = rh → Q none (SX, rX, rh)) : WP l mtX7_addRule d (0, 0) 0 [some (.inr (.inr (.inl t0))), some (.inl v1), some (.inl v2), some (.inl v3)] [] (SX, rX, h) Q := by
  unfold fX7_addRule at hf
  refine WP_aload_n (i := 0) rfl rfl rfl ?_
  refine WP_getI rfl fl7_49 hs0 (by decide) (by decide) (Or.inl rfl) ?_
  refine WP_bipush rfl ⟨by decide, by decide⟩ (by decide) ?_
  refine WP_icmp_lt rfl rfl (fun c1 => ?_) (fun c1 => ?_)
  · have hf := (if_pos c1).symm.trans hf
    refine WP_aload_n (i := 0) rfl rfl rfl ?_
    refine WP_getR rfl fl7_30 hs0 (by decide) rfl (wfX7_8 hs0).2 ?_
    refine WP_aload_n (i := 0) rfl rfl rfl ?_
    refine WP_getI rfl fl7_49 hs0 (by decide) (by decide) (Or.inl rfl) ?_
    refine WP_iload_n (i := 1) rfl rfl rfl ?_
    obtain ⟨h2, hh2, hf⟩ := obind hf
    obtain ⟨bh2, ch2, eh2⟩ := ast_some hh2
    subst eh2
    refine WP_iast rfl (wfX7_8 hs0).1 bh2 ch2 ?_
    refine WP_aload_n (i := 0) rfl rfl rfl ?_
    refine WP_getR rfl fl7_33 hs0 (by decide) rfl (wfX7_9 hs0).2 ?_
    refine WP_aload_n (i := 0) rfl rfl rfl ?_
    refine WP_getI rfl fl7_49 hs0 (by decide) (by decide) (Or.inl rfl) ?_
    refine WP_iload_n (i := 2) rfl rfl rfl ?_
    obtain ⟨h3, hh3, hf⟩ := obind hf
    obtain ⟨bh3, ch3, eh3⟩ := ast_some hh3
    subst eh3
    refine WP_iast rfl (wfX7_9 hs0).1 bh3 ch3 ?_
    refine WP_aload_n (i := 0) rfl rfl rfl ?_
    refine WP_getR rfl fl7_36 hs0 (by decide) rfl (wfX7_10 hs0).2 ?_
    refine WP_aload_n (i := 0) rfl rfl rfl ?_
    refine WP_getI rfl fl7_49 hs0 (by decide) (by decide) (Or.inl rfl) ?_
    refine WP_iload_n (i := 3) rfl rfl rfl ?_
    obtain ⟨h4, hh4, hf⟩ := obind hf
    obtain ⟨bh4, ch4, eh4⟩ := ast_some hh4
    subst eh4
    refine WP_iast rfl (wfX7_10 hs0).1 bh4 ch4 ?_
    refine WP_aload_n (i := 0) rfl rfl rfl ?_
    refine WP_dupa rfl ?_
    refine WP_getI rfl fl7_49 hs0 (by decide) (by decide) (Or.inl rfl) ?_
    refine WP_iconst rfl ⟨by decide, by decide⟩ ?_
    refine WP_iadd rfl ?_
    refine WP_putI rfl fw7_49 hs0 (by decide) rfl (by decide) ?_
    cases hf
    exact WP_vret rfl rfl (hr _ rfl)
  · have hf := (if_neg c1).symm.trans hf
    cases hf
    exact WP_vret rfl rfl (hr _ rfl)
theorem EX7_addRule {l : Launch} {d : Nat} (hd : 0 ≤ d) {t0 : Nat} {v1 : Int} {v2 : Int} {v3 : Int} {h : mH} (hs0 : SX[t0]? = some (7, 11)) {rh : mH} (hf : fX7_addRule t0 v1 v2 v3 h = some rh) : EvV l mtX7_addRule d [.inr (.inr (.inl t0)), .inl v1, .inl v2, .inl v3] (SX, rX, h) none (SX, rX, rh) :=
  Ev.of okX7_addRule (Nat.le_of_ble_eq_true rfl) (TX7_addRule hd hs0 hf (fun a0 e => by cases e; exact ⟨rfl, rfl⟩))
def fX7_copy (t0 : Nat) (t1 : Nat) (h : mH) : Option (mH) :=
  (acp h (rfX t1 0) 7 0 (rfX t0 0) 7 0 7).bind fun h1 => (acp (hset h1 t0 1 (h1 t1 1)) (rfX t1 2) 6 0 (rfX t0 2) 6 0 6).bind fun h2 => (acp h2 (rfX t1 3) 6 0 (rfX t0 3) 6 0 6).bind fun h3 => (acp h3 (rfX t1 4) 6 0 (rfX t0 4) 6 0 6).bind fun h4 => (acp h4 (rfX t1 5) 6 0 (rfX t0 5) 6 0 6).bind fun h5 => (acp h5 (rfX t1 6) 6 0 (rfX t0 6) 6 0 6).bind fun h6 => (acp (hset h6 t0 7 (h6 t1 7)) (rfX t1 8) 6 0 (rfX t0 8) 6 0 6).bind fun h7 => (acp h7 (rfX t1 9) 6 0 (rfX t0 9) 6 0 6).bind fun h8 => (acp h8 (rfX t1 10) 6 0 (rfX t0 10) 6 0 6).bind fun h9 => some h9
theorem TX7_copy {l : Launch} {d : Nat} (hd : 1 ≤ d) {Q : Option mV → mM → Prop} {t0 : Nat} {t1 : Nat} {h : mH} (hs0 : SX[t0]? = some (7, 11)) (hs1 : SX[t1]? = some (7, 11)) {x : mH} (hf : fX7_copy t0 t1 h = some x) (hr : ∀ rh, x = rh → Q none (SX, rX, rh)) : WP l mtX7_copy d (0, 0) 0 [some (.inr (.inr (.inl t0))), some (.inr (.inr (.inl t1)))] [] (SX, rX, h) Q := by
  unfold fX7_copy at hf
  refine WP_aload_n (i := 1) rfl rfl rfl ?_
  refine WP_getR rfl fl7_9 hs1 (by decide) rfl (wfX7_0 hs1).2 ?_
  refine WP_iconst rfl ⟨by decide, by decide⟩ ?_
  refine WP_aload_n (i := 0) rfl rfl rfl ?_
  refine WP_getR rfl fl7_9 hs0 (by decide) rfl (wfX7_0 hs0).2 ?_
  refine WP_iconst rfl ⟨by decide, by decide⟩ ?_
  refine WP_bipush rfl ⟨by decide, by decide⟩ (by decide) ?_
  obtain ⟨h1, hh1, hf⟩ := obind hf
  obtain ⟨bh1, eh1⟩ := acp_some hh1
  subst eh1
  refine WP_acpI rfl ml7_52 kacp (wfX7_0 hs1).1 (wfX7_0 hs0).1 bh1 (by omega) (Nat.le_of_ble_eq_true rfl) ?_
  refine WP_aload_n (i := 0) rfl rfl rfl ?_
  refine WP_aload_n (i := 1) rfl rfl rfl ?_
  refine WP_getI rfl fl7_45 hs1 (by decide) (by decide) (Or.inl rfl) ?_
  refine WP_putI rfl fw7_45 hs0 (by decide) rfl (by decide) ?_
  refine WP_aload_n (i := 1) rfl rfl rfl ?_
  refine WP_getR rfl fl7_15 hs1 (by decide) rfl (wfX7_2 hs1).2 ?_
  refine WP_iconst rfl ⟨by decide, by decide⟩ ?_
  refine WP_aload_n (i := 0) rfl rfl rfl ?_
  refine WP_getR rfl fl7_15 hs0 (by decide) rfl (wfX7_2 hs0).2 ?_
  refine WP_iconst rfl ⟨by decide, by decide⟩ ?_
  refine WP_bipush rfl ⟨by decide, by decide⟩ (by decide) ?_
  obtain ⟨h2, hh2, hf⟩ := obind hf
  obtain ⟨bh2, eh2⟩ := acp_some hh2
  subst eh2
  refine WP_acpI rfl ml7_52 kacp (wfX7_2 hs1).1 (wfX7_2 hs0).1 bh2 (by omega) (Nat.le_of_ble_eq_true rfl) ?_
  refine WP_aload_n (i := 1) rfl rfl rfl ?_
  refine WP_getR rfl fl7_18 hs1 (by decide) rfl (wfX7_3 hs1).2 ?_
  refine WP_iconst rfl ⟨by decide, by decide⟩ ?_
  refine WP_aload_n (i := 0) rfl rfl rfl ?_
  refine WP_getR rfl fl7_18 hs0 (by decide) rfl (wfX7_3 hs0).2 ?_
  refine WP_iconst rfl ⟨by decide, by decide⟩ ?_
  refine WP_bipush rfl ⟨by decide, by decide⟩ (by decide) ?_
  obtain ⟨h3, hh3, hf⟩ := obind hf
  obtain ⟨bh3, eh3⟩ := acp_some hh3
  subst eh3
  refine WP_acpI rfl ml7_52 kacp (wfX7_3 hs1).1 (wfX7_3 hs0).1 bh3 (by omega) (Nat.le_of_ble_eq_true rfl) ?_
  refine WP_aload_n (i := 1) rfl rfl rfl ?_
  refine WP_getR rfl fl7_21 hs1 (by decide) rfl (wfX7_4 hs1).2 ?_
  refine WP_iconst rfl ⟨by decide, by decide⟩ ?_
  refine WP_aload_n (i := 0) rfl rfl rfl ?_
  refine WP_getR rfl fl7_21 hs0 (by decide) rfl (wfX7_4 hs0).2 ?_
  refine WP_iconst rfl ⟨by decide, by decide⟩ ?_
  refine WP_bipush rfl ⟨by decide, by decide⟩ (by decide) ?_
  obtain ⟨h4, hh4, hf⟩ := obind hf
  obtain ⟨bh4, eh4⟩ := acp_some hh4
  subst eh4
  refine WP_acpI rfl ml7_52 kacp (wfX7_4 hs1).1 (wfX7_4 hs0).1 bh4 (by omega) (Nat.le_of_ble_eq_true rfl) ?_
  refine WP_aload_n (i := 1) rfl rfl rfl ?_
  refine WP_getR rfl fl7_24 hs1 (by decide) rfl (wfX7_5 hs1).2 ?_
  refine WP_iconst rfl ⟨by decide, by decide⟩ ?_
  refine WP_aload_n (i := 0) rfl rfl rfl ?_
  refine WP_getR rfl fl7_24 hs0 (by decide) rfl (wfX7_5 hs0).2 ?_
  refine WP_iconst rfl ⟨by decide, by decide⟩ ?_
  refine WP_bipush rfl ⟨by decide, by decide⟩ (by decide) ?_
  obtain ⟨h5, hh5, hf⟩ := obind hf
  obtain ⟨bh5, eh5⟩ := acp_some hh5
  subst eh5
  refine WP_acpI rfl ml7_52 kacp (wfX7_5 hs1).1 (wfX7_5 hs0).1 bh5 (by omega) (Nat.le_of_ble_eq_true rfl) ?_
  refine WP_aload_n (i := 1) rfl rfl rfl ?_
  refine WP_getR rfl fl7_27 hs1 (by decide) rfl (wfX7_6 hs1).2 ?_
  refine WP_iconst rfl ⟨by decide, by decide⟩ ?_
  refine WP_aload_n (i := 0) rfl rfl rfl ?_
  refine WP_getR rfl fl7_27 hs0 (by decide) rfl (wfX7_6 hs0).2 ?_
  refine WP_iconst rfl ⟨by decide, by decide⟩ ?_
  refine WP_bipush rfl ⟨by decide, by decide⟩ (by decide) ?_
  obtain ⟨h6, hh6, hf⟩ := obind hf
  obtain ⟨bh6, eh6⟩ := acp_some hh6
  subst eh6
  refine WP_acpI rfl ml7_52 kacp (wfX7_6 hs1).1 (wfX7_6 hs0).1 bh6 (by omega) (Nat.le_of_ble_eq_true rfl) ?_
  refine WP_aload_n (i := 0) rfl rfl rfl ?_
  refine WP_aload_n (i := 1) rfl rfl rfl ?_
  refine WP_getI rfl fl7_49 hs1 (by decide) (by decide) (Or.inl rfl) ?_
  refine WP_putI rfl fw7_49 hs0 (by decide) rfl (by decide) ?_
  refine WP_aload_n (i := 1) rfl rfl rfl ?_
  refine WP_getR rfl fl7_30 hs1 (by decide) rfl (wfX7_8 hs1).2 ?_
  refine WP_iconst rfl ⟨by decide, by decide⟩ ?_
  refine WP_aload_n (i := 0) rfl rfl rfl ?_
  refine WP_getR rfl fl7_30 hs0 (by decide) rfl (wfX7_8 hs0).2 ?_
  refine WP_iconst rfl ⟨by decide, by decide⟩ ?_
  refine WP_bipush rfl ⟨by decide, by decide⟩ (by decide) ?_
  obtain ⟨h7, hh7, hf⟩ := obind hf
  obtain ⟨bh7, eh7⟩ := acp_some hh7
  subst eh7
  refine WP_acpI rfl ml7_52 kacp (wfX7_8 hs1).1 (wfX7_8 hs0).1 bh7 (by omega) (Nat.le_of_ble_eq_true rfl) ?_
  refine WP_aload_n (i := 1) rfl rfl rfl ?_
  refine WP_getR rfl fl7_33 hs1 (by decide) rfl (wfX7_9 hs1).2 ?_
  refine WP_iconst rfl ⟨by decide, by decide⟩ ?_
  refine WP_aload_n (i := 0) rfl rfl rfl ?_
  refine WP_getR rfl fl7_33 hs0 (by decide) rfl (wfX7_9 hs0).2 ?_
  refine WP_iconst rfl ⟨by decide, by decide⟩ ?_
  refine WP_bipush rfl ⟨by decide, by decide⟩ (by decide) ?_
  obtain ⟨h8, hh8, hf⟩ := obind hf
  obtain ⟨bh8, eh8⟩ := acp_some hh8
  subst eh8
  refine WP_acpI rfl ml7_52 kacp (wfX7_9 hs1).1 (wfX7_9 hs0).1 bh8 (by omega) (Nat.le_of_ble_eq_true rfl) ?_
  refine WP_aload_n (i := 1) rfl rfl rfl ?_
  refine WP_getR rfl fl7_36 hs1 (by decide) rfl (wfX7_10 hs1).2 ?_
  refine WP_iconst rfl ⟨by decide, by decide⟩ ?_
  refine WP_aload_n (i := 0) rfl rfl rfl ?_
  refine WP_getR rfl fl7_36 hs0 (by decide) rfl (wfX7_10 hs0).2 ?_
  refine WP_iconst rfl ⟨by decide, by decide⟩ ?_
  refine WP_bipush rfl ⟨by decide, by decide⟩ (by decide) ?_
  obtain ⟨h9, hh9, hf⟩ := obind hf
  obtain ⟨bh9, eh9⟩ := acp_some hh9
  subst eh9
  refine WP_acpI rfl ml7_52 kacp (wfX7_10 hs1).1 (wfX7_10 hs0).1 bh9 (by omega) (Nat.le_of_ble_eq_true rfl) ?_
  cases hf
  exact WP_vret rfl rfl (hr _ rfl)
theorem EX7_copy {l : Launch} {d : Nat} (hd : 1 ≤ d) {t0 : Nat} {t1 : Nat} {h : mH} (hs0 : SX[t0]? = some (7, 11)) (hs1 : SX[t1]? = some (7, 11)) {rh : mH} (hf : fX7_copy t0 t1 h = some rh) : EvV l mtX7_copy d [.inr (.inr (.inl t0)), .inr (.inr (.inl t1))] (SX, rX, h) none (SX, rX, rh) :=
  Ev.of okX7_copy (Nat.le_of_ble_eq_true rfl) (TX7_copy hd hs0 hs1 hf (fun a0 e => by cases e; exact ⟨rfl, rfl⟩))
def fX7_worksOn_28 (t0 : Nat) (v1 : Int) (v2 : Int) (v3 : Int) (h : mH) : Option ((Int × Int) ⊕ (Int)) :=
  some (.inl (v2, (jadd v3 1)))
def fX7_worksOn_4 (t0 : Nat) (v1 : Int) (v2 : Int) (v3 : Int) (h : mH) : Option ((Int × Int) ⊕ (Int)) :=
  if v3 < (h t0 1) then (ald h (rfX t0 2) 6 v3).bind fun x2 => if x2 = v1 then fX7_worksOn_28 t0 v1 (jor v2 (jshl 1 v3)) v3 h else fX7_worksOn_28 t0 v1 v2 v3 h else some (.inr v2)
def fX7_worksOn (t0 : Nat) (v1 : Int) (h : mH) : Option (Int) :=
  (mloop (fun s => fX7_worksOn_4 t0 v1 s.1 s.2 h) mfu (0, 0)).bind fun q1 => some q1
theorem TX7_worksOn_28 {l : Launch} {d : Nat} (hd : 0 ≤ d) {Q : Option mV → mM → Prop} {t0 : Nat} {v1 : Int} {v2 : Int} {v3 : Int} {h : mH} (hs0 : SX[t0]? = some (7, 11)) {x : (Int × Int) ⊕ (Int)} (hf : fX7_worksOn_28 t0 v1 v2 v3 h = some x) (hc : ∀ (v2' : Int) (v3' : Int), x = .inl (v2', v3') → WP l mtX7_worksOn d (0, 0) 4 [some (.inr (.inr (.inl t0))), some (.inl v1), some (.inl v2'), some (.inl v3')] [] (SX, rX, h) Q) (he34 : ∀ (v2' : Int), x = .inr v2' → WP l mtX7_worksOn d (0, 0) 34 [some (.inr (.inr (.inl t0))), some (.inl v1), some (.inl v2'), none] [] (SX, rX, h) Q) : WP l mtX7_worksOn d (0, 0) 28 [some (.inr (.inr (.inl t0))), some (.inl v1), some (.inl v2), some (.inl v3)] [] (SX, rX, h) Q := by
  unfold fX7_worksOn_28 at hf
  refine WP_iinc rfl rfl (Nat.le_of_ble_eq_true rfl) rfl ?_
  refine WP_goto rfl rfl ?_
  cases hf
  exact WP_keep [true, true, true, true] (hc _ _ rfl)
theorem TX7_worksOn_4 {l : Launch} {d : Nat} (hd : 0 ≤ d) {Q : Option mV → mM → Prop} {t0 : Nat} {v1 : Int} {v2 : Int} {v3 : Int} {h : mH} (hs0 : SX[t0]? = some (7, 11)) {x : (Int × Int) ⊕ (Int)} (hf : fX7_worksOn_4 t0 v1 v2 v3 h = some x) (hc : ∀ (v2' : Int) (v3' : Int), x = .inl (v2', v3') → WP l mtX7_worksOn d (0, 0) 4 [some (.inr (.inr (.inl t0))), some (.inl v1), some (.inl v2'), some (.inl v3')] [] (SX, rX, h) Q) (he34 : ∀ (v2' : Int), x = .inr v2' → WP l mtX7_worksOn d (0, 0) 34 [some (.inr (.inr (.inl t0))), some (.inl v1), some (.inl v2'), none] [] (SX, rX, h) Q) : WP l mtX7_worksOn d (0, 0) 4 [some (.inr (.inr (.inl t0))), some (.inl v1), some (.inl v2), some (.inl v3)] [] (SX, rX, h) Q := by
  unfold fX7_worksOn_4 at hf
  refine WP_iload_n (i := 3) rfl rfl rfl ?_
  refine WP_aload_n (i := 0) rfl rfl rfl ?_
  refine WP_getI rfl fl7_45 hs0 (by decide) (by decide) (Or.inl rfl) ?_
  refine WP_icmp_ge rfl rfl (fun c1 => ?_) (fun c1 => ?_)
  · have hf := (if_pos c1).symm.trans hf
    refine WP_aload_n (i := 0) rfl rfl rfl ?_
    refine WP_getR rfl fl7_15 hs0 (by decide) rfl (wfX7_2 hs0).2 ?_
    refine WP_iload_n (i := 3) rfl rfl rfl ?_
    obtain ⟨x2, hx2, hf⟩ := obind hf
    obtain ⟨bx2, cx2, ex2⟩ := ald_some hx2
    subst ex2
    refine WP_iald rfl (wfX7_2 hs0).1 bx2 cx2 ?_
    refine WP_iload_n (i := 1) rfl rfl rfl ?_
    refine WP_icmp_ne rfl rfl (fun c3 => ?_) (fun c3 => ?_)
    · have hf := (if_pos c3).symm.trans hf
      refine WP_iload_n (i := 2) rfl rfl rfl ?_
      refine WP_iconst rfl ⟨by decide, by decide⟩ ?_
      refine WP_iload_n (i := 3) rfl rfl rfl ?_
      refine WP_ishl rfl ?_
      refine WP_ior rfl ?_
      refine WP_istore_n (i := 2) rfl rfl (Nat.le_of_ble_eq_true rfl) rfl ?_
      exact WP_keep [true, true, true, true] (TX7_worksOn_28 hd hs0 hf hc he34)
    · have hf := (if_neg c3).symm.trans hf
      exact WP_keep [true, true, true, true] (TX7_worksOn_28 hd hs0 hf hc he34)
  · have hf := (if_neg c1).symm.trans hf
    cases hf
    exact WP_keep [true, true, true, false] (he34 _ rfl)
theorem TX7_worksOn_4L {l : Launch} {d : Nat} (hd : 0 ≤ d) {Q : Option mV → mM → Prop} {t0 : Nat} {v1 : Int} {v2 : Int} {v3 : Int} {h : mH} (hs0 : SX[t0]? = some (7, 11)) {n : Nat} {x : Int} (hf : mloop (fun s => fX7_worksOn_4 t0 v1 s.1 s.2 h) n (v2, v3) = some x) (he34 : ∀ (v2' : Int), x = v2' → WP l mtX7_worksOn d (0, 0) 34 [some (.inr (.inr (.inl t0))), some (.inl v1), some (.inl v2'), none] [] (SX, rX, h) Q) : WP l mtX7_worksOn d (0, 0) 4 [some (.inr (.inr (.inl t0))), some (.inl v1), some (.inl v2), some (.inl v3)] [] (SX, rX, h) Q :=
  mloop_sound (P := fun s => WP l mtX7_worksOn d (0, 0) 4 [some (.inr (.inr (.inl t0))), some (.inl v1), some (.inl s.1), some (.inl s.2)] [] (SX, rX, h) Q) (K := fun t => t = x) (fun s y hx hc he => TX7_worksOn_4 hd hs0  hx (fun a0 a1 e => hc (a0, a1) e) (fun a0 e => he34 a0 (he _ e).symm)) _ (v2, v3) _ hf rfl
theorem TX7_worksOn {l : Launch} {d : Nat} (hd : 0 ≤ d) {Q : Option mV → mM → Prop} {t0 : Nat} {v1 : Int} {h : mH} (hs0 : SX[t0]? = some (7, 11)) {x : Int} (hf : fX7_worksOn t0 v1 h = some x) (hr : ∀ rv, x = rv → Q (some (.inl rv)) (SX, rX, h)) : WP l mtX7_worksOn d (0, 0) 0 [some (.inr (.inr (.inl t0))), some (.inl v1), none, none] [] (SX, rX, h) Q := by
  unfold fX7_worksOn at hf
  refine WP_iconst rfl ⟨by decide, by decide⟩ ?_
  refine WP_istore_n (i := 2) rfl rfl (Nat.le_of_ble_eq_true rfl) rfl ?_
  refine WP_iconst rfl ⟨by decide, by decide⟩ ?_
  refine WP_istore_n (i := 3) rfl rfl (Nat.le_of_ble_eq_true rfl) rfl ?_
  obtain ⟨q1, hq1, hf⟩ := obind hf
  refine WP_keep [true, true, true, true] (TX7_worksOn_4L hd hs0 hq1 (fun yq10 e => ?_))
  subst e
  refine WP_iload_n (i := 2) rfl rfl rfl ?_
  cases hf
  exact WP_iret rfl rfl (hr _ rfl)
theorem EX7_worksOn {l : Launch} {d : Nat} (hd : 0 ≤ d) {t0 : Nat} {v1 : Int} {h : mH} (hs0 : SX[t0]? = some (7, 11)) {rv : Int} (hf : fX7_worksOn t0 v1 h = some rv) : EvV l mtX7_worksOn d [.inr (.inr (.inl t0)), .inl v1] (SX, rX, h) (some (.inl rv)) (SX, rX, h) :=
  Ev.of okX7_worksOn (Nat.le_of_ble_eq_true rfl) (TX7_worksOn hd hs0 hf (fun a0 e => by cases e; exact ⟨rfl, rfl⟩))
def fX7_isA_33 (t0 : Nat) (v1 : Int) (v2 : Int) (s0 : Int) (h : mH) : Option (Int) :=
  if s0 = 0 ∨ s0 = 1 then some s0 else none
def fX7_isA_28 (t0 : Nat) (v1 : Int) (v2 : Int) (h : mH) : Option (Int) :=
  fX7_isA_33 t0 v1 v2 1 h
def fX7_isA_32 (t0 : Nat) (v1 : Int) (v2 : Int) (h : mH) : Option (Int) :=
  fX7_isA_33 t0 v1 v2 0 h
def fX7_isA (t0 : Nat) (v1 : Int) (v2 : Int) (h : mH) : Option (Int) :=
  (ald h (rfX t0 0) 7 v1).bind fun x1 => if v2 = 0 then fX7_isA_28 t0 v1 v2 h else if v2 = (jadd x1 1) then fX7_isA_28 t0 v1 v2 h else if v2 = 1 then if x1 = 3 then fX7_isA_32 t0 v1 v2 h else fX7_isA_28 t0 v1 v2 h else fX7_isA_32 t0 v1 v2 h
theorem TX7_isA_33 {l : Launch} {d : Nat} (hd : 0 ≤ d) {Q : Option mV → mM → Prop} {t0 : Nat} {v1 : Int} {v2 : Int} {s0 : Int} {h : mH} (hs0 : SX[t0]? = some (7, 11)) {x : Int} (hf : fX7_isA_33 t0 v1 v2 s0 h = some x) (hr : ∀ rv, x = rv → Q (some (.inl rv)) (SX, rX, h)) : WP l mtX7_isA d (0, 0) 33 [some (.inr (.inr (.inl t0))), some (.inl v1), some (.inl v2), none] [.inl s0] (SX, rX, h) Q := by
  unfold fX7_isA_33 at hf
  obtain ⟨z1, hf⟩ := osome hf
  cases hf
  exact WP_zret rfl rfl z1 (hr _ rfl)
theorem TX7_isA_28 {l : Launch} {d : Nat} (hd : 0 ≤ d) {Q : Option mV → mM → Prop} {t0 : Nat} {v1 : Int} {v2 : Int} {h : mH} (hs0 : SX[t0]? = some (7, 11)) {x : Int} (hf : fX7_isA_28 t0 v1 v2 h = some x) (hr : ∀ rv, x = rv → Q (some (.inl rv)) (SX, rX, h)) : WP l mtX7_isA d (0, 0) 28 [some (.inr (.inr (.inl t0))), some (.inl v1), some (.inl v2), none] [] (SX, rX, h) Q := by
  unfold fX7_isA_28 at hf
  refine WP_iconst rfl ⟨by decide, by decide⟩ ?_
  refine WP_goto rfl rfl ?_
  exact WP_keep [true, true, true, false] (TX7_isA_33 hd hs0 hf hr)
theorem TX7_isA_32 {l : Launch} {d : Nat} (hd : 0 ≤ d) {Q : Option mV → mM → Prop} {t0 : Nat} {v1 : Int} {v2 : Int} {h : mH} (hs0 : SX[t0]? = some (7, 11)) {x : Int} (hf : fX7_isA_32 t0 v1 v2 h = some x) (hr : ∀ rv, x = rv → Q (some (.inl rv)) (SX, rX, h)) : WP l mtX7_isA d (0, 0) 32 [some (.inr (.inr (.inl t0))), some (.inl v1), some (.inl v2), none] [] (SX, rX, h) Q := by
  unfold fX7_isA_32 at hf
  refine WP_iconst rfl ⟨by decide, by decide⟩ ?_
  exact WP_keep [true, true, true, false] (TX7_isA_33 hd hs0 hf hr)
theorem TX7_isA {l : Launch} {d : Nat} (hd : 0 ≤ d) {Q : Option mV → mM → Prop} {t0 : Nat} {v1 : Int} {v2 : Int} {h : mH} (hs0 : SX[t0]? = some (7, 11)) {x : Int} (hf : fX7_isA t0 v1 v2 h = some x) (hr : ∀ rv, x = rv → Q (some (.inl rv)) (SX, rX, h)) : WP l mtX7_isA d (0, 0) 0 [some (.inr (.inr (.inl t0))), some (.inl v1), some (.inl v2), none] [] (SX, rX, h) Q := by
  unfold fX7_isA at hf
  refine WP_aload_n (i := 0) rfl rfl rfl ?_
  refine WP_getR rfl fl7_9 hs0 (by decide) rfl (wfX7_0 hs0).2 ?_
  refine WP_iload_n (i := 1) rfl rfl rfl ?_
  obtain ⟨x1, hx1, hf⟩ := obind hf
  obtain ⟨bx1, cx1, ex1⟩ := ald_some hx1
  subst ex1
  refine WP_iald rfl (wfX7_0 hs0).1 bx1 cx1 ?_
  refine WP_istore_n (i := 3) rfl rfl (Nat.le_of_ble_eq_true rfl) rfl ?_
  refine WP_iload_n (i := 2) rfl rfl rfl ?_
  refine WP_if_eq rfl rfl (fun c2 => ?_) (fun c2 => ?_)
  · have hf := (if_pos c2).symm.trans hf
    exact WP_keep [true, true, true, false] (TX7_isA_28 hd hs0 hf hr)
  · have hf := (if_neg c2).symm.trans hf
    refine WP_iload_n (i := 2) rfl rfl rfl ?_
    refine WP_iload_n (i := 3) rfl rfl rfl ?_
    refine WP_iconst rfl ⟨by decide, by decide⟩ ?_
    refine WP_iadd rfl ?_
    refine WP_icmp_eq rfl rfl (fun c3 => ?_) (fun c3 => ?_)
    · have hf := (if_pos c3).symm.trans hf
      exact WP_keep [true, true, true, false] (TX7_isA_28 hd hs0 hf hr)
    · have hf := (if_neg c3).symm.trans hf
      refine WP_iload_n (i := 2) rfl rfl rfl ?_
      refine WP_iconst rfl ⟨by decide, by decide⟩ ?_
      refine WP_icmp_ne rfl rfl (fun c4 => ?_) (fun c4 => ?_)
      · have hf := (if_pos c4).symm.trans hf
        refine WP_iload_n (i := 3) rfl rfl rfl ?_
        refine WP_iconst rfl ⟨by decide, by decide⟩ ?_
        refine WP_icmp_eq rfl rfl (fun c5 => ?_) (fun c5 => ?_)
        · have hf := (if_pos c5).symm.trans hf
          exact WP_keep [true, true, true, false] (TX7_isA_32 hd hs0 hf hr)
        · have hf := (if_neg c5).symm.trans hf
          exact WP_keep [true, true, true, false] (TX7_isA_28 hd hs0 hf hr)
      · have hf := (if_neg c4).symm.trans hf
        exact WP_keep [true, true, true, false] (TX7_isA_32 hd hs0 hf hr)
theorem EX7_isA {l : Launch} {d : Nat} (hd : 0 ≤ d) {t0 : Nat} {v1 : Int} {v2 : Int} {h : mH} (hs0 : SX[t0]? = some (7, 11)) {rv : Int} (hf : fX7_isA t0 v1 v2 h = some rv) : EvV l mtX7_isA d [.inr (.inr (.inl t0)), .inl v1, .inl v2] (SX, rX, h) (some (.inl rv)) (SX, rX, h) :=
  Ev.of okX7_isA (Nat.le_of_ble_eq_true rfl) (TX7_isA hd hs0 hf (fun a0 e => by cases e; exact ⟨rfl, rfl⟩))
def fX7_fewer_31 (v0 : Int) (v1 : Int) (s0 : Int) (h : mH) : Option (Int) :=
  some s0
def fX7_fewer (v0 : Int) (v1 : Int) (h : mH) : Option (Int) :=
  (fJ6_bitCount_0f7a4 v0 h).bind fun x1 => (fJ6_bitCount_0f7a4 v1 h).bind fun x3 => if x1 = x3 then some (jmin v0 v1) else if x1 < x3 then fX7_fewer_31 v0 v1 v0 h else fX7_fewer_31 v0 v1 v1 h
theorem TX7_fewer_31 {l : Launch} {d : Nat} (hd : 1 ≤ d) {Q : Option mV → mM → Prop} {v0 : Int} {v1 : Int} {s0 : Int} {h : mH}  {x : Int} (hf : fX7_fewer_31 v0 v1 s0 h = some x) (hr : ∀ rv, x = rv → Q (some (.inl rv)) (SX, rX, h)) : WP l mtX7_fewer d (0, 0) 31 [some (.inl v0), some (.inl v1), none, none] [.inl s0] (SX, rX, h) Q := by
  unfold fX7_fewer_31 at hf
  cases hf
  exact WP_iret rfl rfl (hr _ rfl)
theorem TX7_fewer {l : Launch} {d : Nat} (hd : 1 ≤ d) {Q : Option mV → mM → Prop} {v0 : Int} {v1 : Int} {h : mH}  {x : Int} (hf : fX7_fewer v0 v1 h = some x) (hr : ∀ rv, x = rv → Q (some (.inl rv)) (SX, rX, h)) : WP l mtX7_fewer d (0, 0) 0 [some (.inl v0), some (.inl v1), none, none] [] (SX, rX, h) Q := by
  unfold fX7_fewer at hf
  refine WP_iload_n (i := 0) rfl rfl rfl ?_
  obtain ⟨x1, hx1, hf⟩ := obind hf
  refine WP_cS (EJ6_bitCount_0f7a4 (by omega)   hx1) skJ6_bitCount_0f7a4 rfl ml7_74 rfl (by omega) rfl (Nat.le_of_ble_eq_true rfl) ?_
  refine WP_istore_n (i := 2) rfl rfl (Nat.le_of_ble_eq_true rfl) rfl ?_
  refine WP_iload_n (i := 1) rfl rfl rfl ?_
  obtain ⟨x3, hx3, hf⟩ := obind hf
  refine WP_cS (EJ6_bitCount_0f7a4 (by omega)   hx3) skJ6_bitCount_0f7a4 rfl ml7_74 rfl (by omega) rfl (Nat.le_of_ble_eq_true rfl) ?_
  refine WP_istore_n (i := 3) rfl rfl (Nat.le_of_ble_eq_true rfl) rfl ?_
  refine WP_iload_n (i := 2) rfl rfl rfl ?_
  refine WP_iload_n (i := 3) rfl rfl rfl ?_
  refine WP_icmp_ne rfl rfl (fun c5 => ?_) (fun c5 => ?_)
  · have hf := (if_pos c5).symm.trans hf
    refine WP_iload_n (i := 0) rfl rfl rfl ?_
    refine WP_iload_n (i := 1) rfl rfl rfl ?_
    refine WP_min rfl ml7_80 kmin (by omega) (Nat.le_of_ble_eq_true rfl) ?_
    cases hf
    exact WP_iret rfl rfl (hr _ rfl)
  · have hf := (if_neg c5).symm.trans hf
    refine WP_iload_n (i := 2) rfl rfl rfl ?_
    refine WP_iload_n (i := 3) rfl rfl rfl ?_
    refine WP_icmp_ge rfl rfl (fun c6 => ?_) (fun c6 => ?_)
    · have hf := (if_pos c6).symm.trans hf
      refine WP_iload_n (i := 0) rfl rfl rfl ?_
      refine WP_goto rfl rfl ?_
      exact WP_keep [true, true, false, false] (TX7_fewer_31 hd  hf hr)
    · have hf := (if_neg c6).symm.trans hf
      refine WP_iload_n (i := 1) rfl rfl rfl ?_
      exact WP_keep [true, true, false, false] (TX7_fewer_31 hd  hf hr)
theorem EX7_fewer {l : Launch} {d : Nat} (hd : 1 ≤ d) {v0 : Int} {v1 : Int} {h : mH}  {rv : Int} (hf : fX7_fewer v0 v1 h = some rv) : EvV l mtX7_fewer d [.inl v0, .inl v1] (SX, rX, h) (some (.inl rv)) (SX, rX, h) :=
  Ev.of okX7_fewer (Nat.le_of_ble_eq_true rfl) (TX7_fewer hd  hf (fun a0 e => by cases e; exact ⟨rfl, rfl⟩))
def fX7_fewestBroken_111 (self : Nat → Int → Int → Int → Int → Int → Int → mH → Option (Int)) (t0 : Nat) (v1 : Int) (v2 : Int) (v3 : Int) (v4 : Int) (v5 : Int) (v6 : Int) (v7 : Int) (v8 : Int) (h : mH) : Option ((Int × Int) ⊕ (Int)) :=
  some (.inl (v7, (jadd v8 1)))
def fX7_fewestBroken_54 (self : Nat → Int → Int → Int → Int → Int → Int → mH → Option (Int)) (t0 : Nat) (v1 : Int) (v2 : Int) (v3 : Int) (v4 : Int) (v5 : Int) (v6 : Int) (v7 : Int) (v8 : Int) (s0 : Int) (h : mH) : Option ((Int × Int) ⊕ (Int)) :=
  if (jand (jshr v2 v8) 1) = 0 then if s0 = 0 then fX7_fewestBroken_111 self t0 v1 v2 v3 v4 v5 v6 v7 v8 h else (fX7_brokenBy t0 v2 v3 v8 h).bind fun x3 => (self t0 (jadd v1 1) (jor v2 (jshl 1 v8)) v8 (jor v4 x3) v5 v6 h).bind fun x5 => (fX7_fewer v7 x5 h).bind fun x7 => fX7_fewestBroken_111 self t0 v1 v2 v3 v4 v5 v6 x7 v8 h else fX7_fewestBroken_111 self t0 v1 v2 v3 v4 v5 v6 v7 v8 h
def fX7_fewestBroken_46 (self : Nat → Int → Int → Int → Int → Int → Int → mH → Option (Int)) (t0 : Nat) (v1 : Int) (v2 : Int) (v3 : Int) (v4 : Int) (v5 : Int) (v6 : Int) (v7 : Int) (v8 : Int) (s0 : Int) (s1 : Int) (h : mH) : Option ((Int × Int) ⊕ (Int)) :=
  if s1 = s0 then fX7_fewestBroken_54 self t0 v1 v2 v3 v4 v5 v6 v7 v8 1 h else fX7_fewestBroken_54 self t0 v1 v2 v3 v4 v5 v6 v7 v8 0 h
def fX7_fewestBroken_34 (self : Nat → Int → Int → Int → Int → Int → Int → mH → Option (Int)) (t0 : Nat) (v1 : Int) (v2 : Int) (v3 : Int) (v4 : Int) (v5 : Int) (v6 : Int) (v7 : Int) (v8 : Int) (s0 : Int) (h : mH) : Option ((Int × Int) ⊕ (Int)) :=
  if v8 = v6 then fX7_fewestBroken_46 self t0 v1 v2 v3 v4 v5 v6 v7 v8 1 s0 h else fX7_fewestBroken_46 self t0 v1 v2 v3 v4 v5 v6 v7 v8 0 s0 h
def fX7_fewestBroken_16 (self : Nat → Int → Int → Int → Int → Int → Int → mH → Option (Int)) (t0 : Nat) (v1 : Int) (v2 : Int) (v3 : Int) (v4 : Int) (v5 : Int) (v6 : Int) (v7 : Int) (v8 : Int) (h : mH) : Option ((Int × Int) ⊕ (Int)) :=
  if v8 < 7 then if v3 = v5 then fX7_fewestBroken_34 self t0 v1 v2 v3 v4 v5 v6 v7 v8 1 h else fX7_fewestBroken_34 self t0 v1 v2 v3 v4 v5 v6 v7 v8 0 h else some (.inr v7)
def fX7_fewestBroken (self : Nat → Int → Int → Int → Int → Int → Int → mH → Option (Int)) (t0 : Nat) (v1 : Int) (v2 : Int) (v3 : Int) (v4 : Int) (v5 : Int) (v6 : Int) (h : mH) : Option (Int) :=
  if v1 < 7 then (mloop (fun s => fX7_fewestBroken_16 self t0 v1 v2 v3 v4 v5 v6 s.1 s.2 h) mfu (127, 0)).bind fun q2 => some q2 else some v4
theorem TX7_fewestBroken_111 {l : Launch} {d : Nat} (hd : 2 ≤ d) {self : Nat → Int → Int → Int → Int → Int → Int → mH → Option (Int)} (hself : ∀ (t0 : Nat) (v1 : Int) (v2 : Int) (v3 : Int) (v4 : Int) (v5 : Int) (v6 : Int) (h : mH) (rv : Int), SX[t0]? = some (7, 11) → self t0 v1 v2 v3 v4 v5 v6 h = some rv → EvV l mtX7_fewestBroken (d - 1) [.inr (.inr (.inl t0)), .inl v1, .inl v2, .inl v3, .inl v4, .inl v5, .inl v6] (SX, rX, h) (some (.inl rv)) (SX, rX, h)) {Q : Option mV → mM → Prop} {t0 : Nat} {v1 : Int} {v2 : Int} {v3 : Int} {v4 : Int} {v5 : Int} {v6 : Int} {v7 : Int} {v8 : Int} {h : mH} (hs0 : SX[t0]? = some (7, 11)) {x : (Int × Int) ⊕ (Int)} (hf : fX7_fewestBroken_111 self t0 v1 v2 v3 v4 v5 v6 v7 v8 h = some x) (hc : ∀ (v7' : Int) (v8' : Int), x = .inl (v7', v8') → WP l mtX7_fewestBroken d (0, 0) 16 [some (.inr (.inr (.inl t0))), some (.inl v1), some (.inl v2), some (.inl v3), some (.inl v4), some (.inl v5), some (.inl v6), some (.inl v7'), some (.inl v8'), none, none] [] (SX, rX, h) Q) (he117 : ∀ (v7' : Int), x = .inr v7' → WP l mtX7_fewestBroken d (0, 0) 117 [some (.inr (.inr (.inl t0))), some (.inl v1), some (.inl v2), some (.inl v3), some (.inl v4), some (.inl v5), some (.inl v6), some (.inl v7'), none, none, none] [] (SX, rX, h) Q) : WP l mtX7_fewestBroken d (0, 0) 111 [some (.inr (.inr (.inl t0))), some (.inl v1), some (.inl v2), some (.inl v3), some (.inl v4), some (.inl v5), some (.inl v6), some (.inl v7), some (.inl v8), none, none] [] (SX, rX, h) Q := by
  unfold fX7_fewestBroken_111 at hf
  refine WP_iinc rfl rfl (Nat.le_of_ble_eq_true rfl) rfl ?_
  refine WP_goto rfl rfl ?_
  cases hf
  exact WP_keep [true, true, true, true, true, true, true, true, true, false, false] (hc _ _ rfl)
theorem TX7_fewestBroken_54 {l : Launch} {d : Nat} (hd : 2 ≤ d) {self : Nat → Int → Int → Int → Int → Int → Int → mH → Option (Int)} (hself : ∀ (t0 : Nat) (v1 : Int) (v2 : Int) (v3 : Int) (v4 : Int) (v5 : Int) (v6 : Int) (h : mH) (rv : Int), SX[t0]? = some (7, 11) → self t0 v1 v2 v3 v4 v5 v6 h = some rv → EvV l mtX7_fewestBroken (d - 1) [.inr (.inr (.inl t0)), .inl v1, .inl v2, .inl v3, .inl v4, .inl v5, .inl v6] (SX, rX, h) (some (.inl rv)) (SX, rX, h)) {Q : Option mV → mM → Prop} {t0 : Nat} {v1 : Int} {v2 : Int} {v3 : Int} {v4 : Int} {v5 : Int} {v6 : Int} {v7 : Int} {v8 : Int} {s0 : Int} {h : mH} (hs0 : SX[t0]? = some (7, 11)) {x : (Int × Int) ⊕ (Int)} (hf : fX7_fewestBroken_54 self t0 v1 v2 v3 v4 v5 v6 v7 v8 s0 h = some x) (hc : ∀ (v7' : Int) (v8' : Int), x = .inl (v7', v8') → WP l mtX7_fewestBroken d (0, 0) 16 [some (.inr (.inr (.inl t0))), some (.inl v1), some (.inl v2), some (.inl v3), some (.inl v4), some (.inl v5), some (.inl v6), some (.inl v7'), some (.inl v8'), none, none] [] (SX, rX, h) Q) (he117 : ∀ (v7' : Int), x = .inr v7' → WP l mtX7_fewestBroken d (0, 0) 117 [some (.inr (.inr (.inl t0))), some (.inl v1), some (.inl v2), some (.inl v3), some (.inl v4), some (.inl v5), some (.inl v6), some (.inl v7'), none, none, none] [] (SX, rX, h) Q) : WP l mtX7_fewestBroken d (0, 0) 54 [some (.inr (.inr (.inl t0))), some (.inl v1), some (.inl v2), some (.inl v3), some (.inl v4), some (.inl v5), some (.inl v6), some (.inl v7), some (.inl v8), none, none] [.inl s0] (SX, rX, h) Q := by
  unfold fX7_fewestBroken_54 at hf
  refine WP_istore (i := 9) rfl (Nat.le_of_ble_eq_true rfl) rfl ?_
  refine WP_iload_n (i := 2) rfl rfl rfl ?_
  refine WP_iload (i := 8) rfl rfl ?_
  refine WP_ishr rfl ?_
  refine WP_iconst rfl ⟨by decide, by decide⟩ ?_
  refine WP_iand rfl ?_
  refine WP_if_ne rfl rfl (fun c1 => ?_) (fun c1 => ?_)
  · have hf := (if_pos c1).symm.trans hf
    refine WP_iload (i := 9) rfl rfl ?_
    refine WP_if_eq rfl rfl (fun c2 => ?_) (fun c2 => ?_)
    · have hf := (if_pos c2).symm.trans hf
      exact WP_keep [true, true, true, true, true, true, true, true, true, false, false] (TX7_fewestBroken_111 hd hself hs0 hf hc he117)
    · have hf := (if_neg c2).symm.trans hf
      refine WP_iload (i := 4) rfl rfl ?_
      refine WP_aload_n (i := 0) rfl rfl rfl ?_
      refine WP_iload_n (i := 2) rfl rfl rfl ?_
      refine WP_iload_n (i := 3) rfl rfl rfl ?_
      refine WP_iload (i := 8) rfl rfl ?_
      obtain ⟨x3, hx3, hf⟩ := obind hf
      refine WP_cV (EX7_brokenBy (by omega) hs0  hx3) vkX7_brokenBy rfl ml7_66 hs0 rfl (by omega) rfl (Nat.le_of_ble_eq_true rfl) ?_
      refine WP_ior rfl ?_
      refine WP_istore (i := 10) rfl (Nat.le_of_ble_eq_true rfl) rfl ?_
      refine WP_iload (i := 7) rfl rfl ?_
      refine WP_aload_n (i := 0) rfl rfl rfl ?_
      refine WP_iload_n (i := 1) rfl rfl rfl ?_
      refine WP_iconst rfl ⟨by decide, by decide⟩ ?_
      refine WP_iadd rfl ?_
      refine WP_iload_n (i := 2) rfl rfl rfl ?_
      refine WP_iconst rfl ⟨by decide, by decide⟩ ?_
      refine WP_iload (i := 8) rfl rfl ?_
      refine WP_ishl rfl ?_
      refine WP_ior rfl ?_
      refine WP_iload (i := 8) rfl rfl ?_
      refine WP_iload (i := 10) rfl rfl ?_
      refine WP_iload (i := 5) rfl rfl ?_
      refine WP_iload (i := 6) rfl rfl ?_
      obtain ⟨x5, hx5, hf⟩ := obind hf
      refine WP_cV (hself _ _ _ _ _ _ _ _ _ hs0 hx5) vkX7_fewestBroken rfl ml7_62 hs0 rfl (by omega) rfl (Nat.le_of_ble_eq_true rfl) ?_
      obtain ⟨x7, hx7, hf⟩ := obind hf
      refine WP_cS (EX7_fewer (by omega)   hx7) skX7_fewer rfl ml7_70 rfl (by omega) rfl (Nat.le_of_ble_eq_true rfl) ?_
      refine WP_istore (i := 7) rfl (Nat.le_of_ble_eq_true rfl) rfl ?_
      exact WP_keep [true, true, true, true, true, true, true, true, true, false, false] (TX7_fewestBroken_111 hd hself hs0 hf hc he117)
  · have hf := (if_neg c1).symm.trans hf
    exact WP_keep [true, true, true, true, true, true, true, true, true, false, false] (TX7_fewestBroken_111 hd hself hs0 hf hc he117)
theorem TX7_fewestBroken_46 {l : Launch} {d : Nat} (hd : 2 ≤ d) {self : Nat → Int → Int → Int → Int → Int → Int → mH → Option (Int)} (hself : ∀ (t0 : Nat) (v1 : Int) (v2 : Int) (v3 : Int) (v4 : Int) (v5 : Int) (v6 : Int) (h : mH) (rv : Int), SX[t0]? = some (7, 11) → self t0 v1 v2 v3 v4 v5 v6 h = some rv → EvV l mtX7_fewestBroken (d - 1) [.inr (.inr (.inl t0)), .inl v1, .inl v2, .inl v3, .inl v4, .inl v5, .inl v6] (SX, rX, h) (some (.inl rv)) (SX, rX, h)) {Q : Option mV → mM → Prop} {t0 : Nat} {v1 : Int} {v2 : Int} {v3 : Int} {v4 : Int} {v5 : Int} {v6 : Int} {v7 : Int} {v8 : Int} {s0 : Int} {s1 : Int} {h : mH} (hs0 : SX[t0]? = some (7, 11)) {x : (Int × Int) ⊕ (Int)} (hf : fX7_fewestBroken_46 self t0 v1 v2 v3 v4 v5 v6 v7 v8 s0 s1 h = some x) (hc : ∀ (v7' : Int) (v8' : Int), x = .inl (v7', v8') → WP l mtX7_fewestBroken d (0, 0) 16 [some (.inr (.inr (.inl t0))), some (.inl v1), some (.inl v2), some (.inl v3), some (.inl v4), some (.inl v5), some (.inl v6), some (.inl v7'), some (.inl v8'), none, none] [] (SX, rX, h) Q) (he117 : ∀ (v7' : Int), x = .inr v7' → WP l mtX7_fewestBroken d (0, 0) 117 [some (.inr (.inr (.inl t0))), some (.inl v1), some (.inl v2), some (.inl v3), some (.inl v4), some (.inl v5), some (.inl v6), some (.inl v7'), none, none, none] [] (SX, rX, h) Q) : WP l mtX7_fewestBroken d (0, 0) 46 [some (.inr (.inr (.inl t0))), some (.inl v1), some (.inl v2), some (.inl v3), some (.inl v4), some (.inl v5), some (.inl v6), some (.inl v7), some (.inl v8), none, none] [.inl s0, .inl s1] (SX, rX, h) Q := by
  unfold fX7_fewestBroken_46 at hf
  refine WP_icmp_ne rfl rfl (fun c1 => ?_) (fun c1 => ?_)
  · have hf := (if_pos c1).symm.trans hf
    refine WP_iconst rfl ⟨by decide, by decide⟩ ?_
    refine WP_goto rfl rfl ?_
    exact WP_keep [true, true, true, true, true, true, true, true, true, false, false] (TX7_fewestBroken_54 hd hself hs0 hf hc he117)
  · have hf := (if_neg c1).symm.trans hf
    refine WP_iconst rfl ⟨by decide, by decide⟩ ?_
    exact WP_keep [true, true, true, true, true, true, true, true, true, false, false] (TX7_fewestBroken_54 hd hself hs0 hf hc he117)
theorem TX7_fewestBroken_34 {l : Launch} {d : Nat} (hd : 2 ≤ d) {self : Nat → Int → Int → Int → Int → Int → Int → mH → Option (Int)} (hself : ∀ (t0 : Nat) (v1 : Int) (v2 : Int) (v3 : Int) (v4 : Int) (v5 : Int) (v6 : Int) (h : mH) (rv : Int), SX[t0]? = some (7, 11) → self t0 v1 v2 v3 v4 v5 v6 h = some rv → EvV l mtX7_fewestBroken (d - 1) [.inr (.inr (.inl t0)), .inl v1, .inl v2, .inl v3, .inl v4, .inl v5, .inl v6] (SX, rX, h) (some (.inl rv)) (SX, rX, h)) {Q : Option mV → mM → Prop} {t0 : Nat} {v1 : Int} {v2 : Int} {v3 : Int} {v4 : Int} {v5 : Int} {v6 : Int} {v7 : Int} {v8 : Int} {s0 : Int} {h : mH} (hs0 : SX[t0]? = some (7, 11)) {x : (Int × Int) ⊕ (Int)} (hf : fX7_fewestBroken_34 self t0 v1 v2 v3 v4 v5 v6 v7 v8 s0 h = some x) (hc : ∀ (v7' : Int) (v8' : Int), x = .inl (v7', v8') → WP l mtX7_fewestBroken d (0, 0) 16 [some (.inr (.inr (.inl t0))), some (.inl v1), some (.inl v2), some (.inl v3), some (.inl v4), some (.inl v5), some (.inl v6), some (.inl v7'), some (.inl v8'), none, none] [] (SX, rX, h) Q) (he117 : ∀ (v7' : Int), x = .inr v7' → WP l mtX7_fewestBroken d (0, 0) 117 [some (.inr (.inr (.inl t0))), some (.inl v1), some (.inl v2), some (.inl v3), some (.inl v4), some (.inl v5), some (.inl v6), some (.inl v7'), none, none, none] [] (SX, rX, h) Q) : WP l mtX7_fewestBroken d (0, 0) 34 [some (.inr (.inr (.inl t0))), some (.inl v1), some (.inl v2), some (.inl v3), some (.inl v4), some (.inl v5), some (.inl v6), some (.inl v7), some (.inl v8), none, none] [.inl s0] (SX, rX, h) Q := by
  unfold fX7_fewestBroken_34 at hf
  refine WP_iload (i := 8) rfl rfl ?_
  refine WP_iload (i := 6) rfl rfl ?_
  refine WP_icmp_ne rfl rfl (fun c1 => ?_) (fun c1 => ?_)
  · have hf := (if_pos c1).symm.trans hf
    refine WP_iconst rfl ⟨by decide, by decide⟩ ?_
    refine WP_goto rfl rfl ?_
    exact WP_keep [true, true, true, true, true, true, true, true, true, false, false] (TX7_fewestBroken_46 hd hself hs0 hf hc he117)
  · have hf := (if_neg c1).symm.trans hf
    refine WP_iconst rfl ⟨by decide, by decide⟩ ?_
    exact WP_keep [true, true, true, true, true, true, true, true, true, false, false] (TX7_fewestBroken_46 hd hself hs0 hf hc he117)
theorem TX7_fewestBroken_16 {l : Launch} {d : Nat} (hd : 2 ≤ d) {self : Nat → Int → Int → Int → Int → Int → Int → mH → Option (Int)} (hself : ∀ (t0 : Nat) (v1 : Int) (v2 : Int) (v3 : Int) (v4 : Int) (v5 : Int) (v6 : Int) (h : mH) (rv : Int), SX[t0]? = some (7, 11) → self t0 v1 v2 v3 v4 v5 v6 h = some rv → EvV l mtX7_fewestBroken (d - 1) [.inr (.inr (.inl t0)), .inl v1, .inl v2, .inl v3, .inl v4, .inl v5, .inl v6] (SX, rX, h) (some (.inl rv)) (SX, rX, h)) {Q : Option mV → mM → Prop} {t0 : Nat} {v1 : Int} {v2 : Int} {v3 : Int} {v4 : Int} {v5 : Int} {v6 : Int} {v7 : Int} {v8 : Int} {h : mH} (hs0 : SX[t0]? = some (7, 11)) {x : (Int × Int) ⊕ (Int)} (hf : fX7_fewestBroken_16 self t0 v1 v2 v3 v4 v5 v6 v7 v8 h = some x) (hc : ∀ (v7' : Int) (v8' : Int), x = .inl (v7', v8') → WP l mtX7_fewestBroken d (0, 0) 16 [some (.inr (.inr (.inl t0))), some (.inl v1), some (.inl v2), some (.inl v3), some (.inl v4), some (.inl v5), some (.inl v6), some (.inl v7'), some (.inl v8'), none, none] [] (SX, rX, h) Q) (he117 : ∀ (v7' : Int), x = .inr v7' → WP l mtX7_fewestBroken d (0, 0) 117 [some (.inr (.inr (.inl t0))), some (.inl v1), some (.inl v2), some (.inl v3), some (.inl v4), some (.inl v5), some (.inl v6), some (.inl v7'), none, none, none] [] (SX, rX, h) Q) : WP l mtX7_fewestBroken d (0, 0) 16 [some (.inr (.inr (.inl t0))), some (.inl v1), some (.inl v2), some (.inl v3), some (.inl v4), some (.inl v5), some (.inl v6), some (.inl v7), some (.inl v8), none, none] [] (SX, rX, h) Q := by
  unfold fX7_fewestBroken_16 at hf
  refine WP_iload (i := 8) rfl rfl ?_
  refine WP_bipush rfl ⟨by decide, by decide⟩ (by decide) ?_
  refine WP_icmp_ge rfl rfl (fun c1 => ?_) (fun c1 => ?_)
  · have hf := (if_pos c1).symm.trans hf
    refine WP_iload_n (i := 3) rfl rfl rfl ?_
    refine WP_iload (i := 5) rfl rfl ?_
    refine WP_icmp_ne rfl rfl (fun c2 => ?_) (fun c2 => ?_)
    · have hf := (if_pos c2).symm.trans hf
      refine WP_iconst rfl ⟨by decide, by decide⟩ ?_
      refine WP_goto rfl rfl ?_
      exact WP_keep [true, true, true, true, true, true, true, true, true, false, false] (TX7_fewestBroken_34 hd hself hs0 hf hc he117)
    · have hf := (if_neg c2).symm.trans hf
      refine WP_iconst rfl ⟨by decide, by decide⟩ ?_
      exact WP_keep [true, true, true, true, true, true, true, true, true, false, false] (TX7_fewestBroken_34 hd hself hs0 hf hc he117)
  · have hf := (if_neg c1).symm.trans hf
    cases hf
    exact WP_keep [true, true, true, true, true, true, true, true, false, false, false] (he117 _ rfl)
theorem TX7_fewestBroken_16L {l : Launch} {d : Nat} (hd : 2 ≤ d) {self : Nat → Int → Int → Int → Int → Int → Int → mH → Option (Int)} (hself : ∀ (t0 : Nat) (v1 : Int) (v2 : Int) (v3 : Int) (v4 : Int) (v5 : Int) (v6 : Int) (h : mH) (rv : Int), SX[t0]? = some (7, 11) → self t0 v1 v2 v3 v4 v5 v6 h = some rv → EvV l mtX7_fewestBroken (d - 1) [.inr (.inr (.inl t0)), .inl v1, .inl v2, .inl v3, .inl v4, .inl v5, .inl v6] (SX, rX, h) (some (.inl rv)) (SX, rX, h)) {Q : Option mV → mM → Prop} {t0 : Nat} {v1 : Int} {v2 : Int} {v3 : Int} {v4 : Int} {v5 : Int} {v6 : Int} {v7 : Int} {v8 : Int} {h : mH} (hs0 : SX[t0]? = some (7, 11)) {n : Nat} {x : Int} (hf : mloop (fun s => fX7_fewestBroken_16 self t0 v1 v2 v3 v4 v5 v6 s.1 s.2 h) n (v7, v8) = some x) (he117 : ∀ (v7' : Int), x = v7' → WP l mtX7_fewestBroken d (0, 0) 117 [some (.inr (.inr (.inl t0))), some (.inl v1), some (.inl v2), some (.inl v3), some (.inl v4), some (.inl v5), some (.inl v6), some (.inl v7'), none, none, none] [] (SX, rX, h) Q) : WP l mtX7_fewestBroken d (0, 0) 16 [some (.inr (.inr (.inl t0))), some (.inl v1), some (.inl v2), some (.inl v3), some (.inl v4), some (.inl v5), some (.inl v6), some (.inl v7), some (.inl v8), none, none] [] (SX, rX, h) Q :=
  mloop_sound (P := fun s => WP l mtX7_fewestBroken d (0, 0) 16 [some (.inr (.inr (.inl t0))), some (.inl v1), some (.inl v2), some (.inl v3), some (.inl v4), some (.inl v5), some (.inl v6), some (.inl s.1), some (.inl s.2), none, none] [] (SX, rX, h) Q) (K := fun t => t = x) (fun s y hx hc he => TX7_fewestBroken_16 hd hself hs0  hx (fun a0 a1 e => hc (a0, a1) e) (fun a0 e => he117 a0 (he _ e).symm)) _ (v7, v8) _ hf rfl
theorem TX7_fewestBroken {l : Launch} {d : Nat} (hd : 2 ≤ d) {self : Nat → Int → Int → Int → Int → Int → Int → mH → Option (Int)} (hself : ∀ (t0 : Nat) (v1 : Int) (v2 : Int) (v3 : Int) (v4 : Int) (v5 : Int) (v6 : Int) (h : mH) (rv : Int), SX[t0]? = some (7, 11) → self t0 v1 v2 v3 v4 v5 v6 h = some rv → EvV l mtX7_fewestBroken (d - 1) [.inr (.inr (.inl t0)), .inl v1, .inl v2, .inl v3, .inl v4, .inl v5, .inl v6] (SX, rX, h) (some (.inl rv)) (SX, rX, h)) {Q : Option mV → mM → Prop} {t0 : Nat} {v1 : Int} {v2 : Int} {v3 : Int} {v4 : Int} {v5 : Int} {v6 : Int} {h : mH} (hs0 : SX[t0]? = some (7, 11)) {x : Int} (hf : fX7_fewestBroken self t0 v1 v2 v3 v4 v5 v6 h = some x) (hr : ∀ rv, x = rv → Q (some (.inl rv)) (SX, rX, h)) : WP l mtX7_fewestBroken d (0, 0) 0 [some (.inr (.inr (.inl t0))), some (.inl v1), some (.inl v2), some (.inl v3), some (.inl v4), some (.inl v5), some (.inl v6), none, none, none, none] [] (SX, rX, h) Q := by
  unfold fX7_fewestBroken at hf
  refine WP_iload_n (i := 1) rfl rfl rfl ?_
  refine WP_bipush rfl ⟨by decide, by decide⟩ (by decide) ?_
  refine WP_icmp_lt rfl rfl (fun c1 => ?_) (fun c1 => ?_)
  · have hf := (if_pos c1).symm.trans hf
    refine WP_bipush rfl ⟨by decide, by decide⟩ (by decide) ?_
    refine WP_istore (i := 7) rfl (Nat.le_of_ble_eq_true rfl) rfl ?_
    refine WP_iconst rfl ⟨by decide, by decide⟩ ?_
    refine WP_istore (i := 8) rfl (Nat.le_of_ble_eq_true rfl) rfl ?_
    obtain ⟨q2, hq2, hf⟩ := obind hf
    refine WP_keep [true, true, true, true, true, true, true, true, true, false, false] (TX7_fewestBroken_16L hd hself hs0 hq2 (fun yq20 e => ?_))
    subst e
    refine WP_iload (i := 7) rfl rfl ?_
    cases hf
    exact WP_iret rfl rfl (hr _ rfl)
  · have hf := (if_neg c1).symm.trans hf
    refine WP_iload (i := 4) rfl rfl ?_
    cases hf
    exact WP_iret rfl rfl (hr _ rfl)
def fX7_fewestBrokenR : Nat → Nat → Int → Int → Int → Int → Int → Int → mH → Option (Int)
  | 0 => fun _ _ _ _ _ _ _ _ => none
  | n + 1 => fX7_fewestBroken (fX7_fewestBrokenR n)
theorem EX7_fewestBrokenR {l : Launch} : ∀ (n : Nat) {d : Nat} (hd : 2 + n ≤ d) {t0 : Nat} {v1 : Int} {v2 : Int} {v3 : Int} {v4 : Int} {v5 : Int} {v6 : Int} {h : mH} (hs0 : SX[t0]? = some (7, 11)) {rv : Int} (hf : fX7_fewestBrokenR n t0 v1 v2 v3 v4 v5 v6 h = some rv), EvV l mtX7_fewestBroken d [.inr (.inr (.inl t0)), .inl v1, .inl v2, .inl v3, .inl v4, .inl v5, .inl v6] (SX, rX, h) (some (.inl rv)) (SX, rX, h)
  | 0, _, _, _, _, _, _, _, _, _, _, _, _, hf => by cases hf
  | n + 1, d, hd, _, _, _, _, _, _, _, _, hs0, _, hf => Ev.of okX7_fewestBroken (Nat.le_of_ble_eq_true rfl) (TX7_fewestBroken (by omega) (fun _ _ _ _ _ _ _ _ _ g0 hz => EX7_fewestBrokenR n (by omega) g0 hz) hs0 hf (fun a0 e => by cases e; exact ⟨rfl, rfl⟩))
def FX7_fewestBroken : Nat → Int → Int → Int → Int → Int → Int → mH → Option (Int) := fX7_fewestBrokenR 8
theorem EX7_fewestBroken {l : Launch} {d : Nat} (hd : 10 ≤ d) {t0 : Nat} {v1 : Int} {v2 : Int} {v3 : Int} {v4 : Int} {v5 : Int} {v6 : Int} {h : mH} (hs0 : SX[t0]? = some (7, 11)) {rv : Int} (hf : FX7_fewestBroken t0 v1 v2 v3 v4 v5 v6 h = some rv) : EvV l mtX7_fewestBroken d [.inr (.inr (.inl t0)), .inl v1, .inl v2, .inl v3, .inl v4, .inl v5, .inl v6] (SX, rX, h) (some (.inl rv)) (SX, rX, h) := EX7_fewestBrokenR 8 (by omega) hs0 hf
def fX7_leftOutFor (t0 : Nat) (v1 : Int) (v2 : Int) (h : mH) : Option (Int) :=
  (FX7_fewestBroken t0 0 0 (-1) 0 v1 v2 h).bind fun x1 => some x1
theorem TX7_leftOutFor {l : Launch} {d : Nat} (hd : 11 ≤ d) {Q : Option mV → mM → Prop} {t0 : Nat} {v1 : Int} {v2 : Int} {h : mH} (hs0 : SX[t0]? = some (7, 11)) {x : Int} (hf : fX7_leftOutFor t0 v1 v2 h = some x) (hr : ∀ rv, x = rv → Q (some (.inl rv)) (SX, rX, h)) : WP l mtX7_leftOutFor d (0, 0) 0 [some (.inr (.inr (.inl t0))), some (.inl v1), some (.inl v2)] [] (SX, rX, h) Q := by
  unfold fX7_leftOutFor at hf
  refine WP_aload_n (i := 0) rfl rfl rfl ?_
  refine WP_iconst rfl ⟨by decide, by decide⟩ ?_
  refine WP_iconst rfl ⟨by decide, by decide⟩ ?_
  refine WP_iconst rfl ⟨by decide, by decide⟩ ?_
  refine WP_iconst rfl ⟨by decide, by decide⟩ ?_
  refine WP_iload_n (i := 1) rfl rfl rfl ?_
  refine WP_iload_n (i := 2) rfl rfl rfl ?_
  obtain ⟨x1, hx1, hf⟩ := obind hf
  refine WP_cV (EX7_fewestBroken (by omega) hs0  hx1) vkX7_fewestBroken rfl ml7_62 hs0 rfl (by omega) rfl (Nat.le_of_ble_eq_true rfl) ?_
  cases hf
  exact WP_iret rfl rfl (hr _ rfl)
theorem EX7_leftOutFor {l : Launch} {d : Nat} (hd : 11 ≤ d) {t0 : Nat} {v1 : Int} {v2 : Int} {h : mH} (hs0 : SX[t0]? = some (7, 11)) {rv : Int} (hf : fX7_leftOutFor t0 v1 v2 h = some rv) : EvV l mtX7_leftOutFor d [.inr (.inr (.inl t0)), .inl v1, .inl v2] (SX, rX, h) (some (.inl rv)) (SX, rX, h) :=
  Ev.of okX7_leftOutFor (Nat.le_of_ble_eq_true rfl) (TX7_leftOutFor hd hs0 hf (fun a0 e => by cases e; exact ⟨rfl, rfl⟩))
end
section
/-! decompiled: X0_add X2_dayIn X0_wonBy X0_leastWon X0_surest X1_add X2_isAhead X1_agree X1_nextFit X1_howManyFit X1_weeksThatFit X2_dayAt X1_dayInAll X8_isDay X2_packedOf X2_put X2_listFrom X2_listAll X2_firstChange X2_find X2_amongFirst X2_longestWait X5_addWeek X5_copy X4_push X4_pop X5_clear X5_there X5_timesFirst -/
def fX0_add (t0 : Nat) (v1 : Int) (v2 : Int) (v3 : Int) (h : mH) : Option (Int × mH) :=
  if (h t0 3) < 6 then (ast h (rfX t0 0) 6 (h t0 3) v1).bind fun h2 => (ast h2 (rfX t0 1) 6 (h2 t0 3) v2).bind fun h3 => (ast h3 (rfX t0 2) 6 (h3 t0 3) v3).bind fun h4 => some (1, (hset h4 t0 3 (jadd (h4 t0 3) 1))) else some (0, h)
theorem TX0_add {l : Launch} {d : Nat} (hd : 0 ≤ d) {Q : Option mV → mM → Prop} {t0 : Nat} {v1 : Int} {v2 : Int} {v3 : Int} {h : mH} (hs0 : SX[t0]? = some (0, 5)) {x : Int × mH} (hf : fX0_add t0 v1 v2 v3 h = some x) (hr : ∀ rv rh, x = (rv, rh) → Q (some (.inl rv)) (SX, rX, rh)) : WP l mtX0_add d (0, 0) 0 [some (.inr (.inr (.inl t0))), some (.inl v1), some (.inl v2), some (.inl v3)] [] (SX, rX, h) Q := by
  unfold fX0_add at hf
  refine WP_aload_n (i := 0) rfl rfl rfl ?_
  refine WP_getI rfl fl0_21 hs0 (by decide) (by decide) (Or.inl rfl) ?_
  refine WP_bipush rfl ⟨by decide, by decide⟩ (by decide) ?_
  refine WP_icmp_lt rfl rfl (fun c1 => ?_) (fun c1 => ?_)
  · have hf := (if_pos c1).symm.trans hf
    refine WP_aload_n (i := 0) rfl rfl rfl ?_
    refine WP_getR rfl fl0_9 hs0 (by decide) rfl (wfX0_0 hs0).2 ?_
    refine WP_aload_n (i := 0) rfl rfl rfl ?_
    refine WP_getI rfl fl0_21 hs0 (by decide) (by decide) (Or.inl rfl) ?_
    refine WP_iload_n (i := 1) rfl rfl rfl ?_
    obtain ⟨h2, hh2, hf⟩ := obind hf
    obtain ⟨bh2, ch2, eh2⟩ := ast_some hh2
    subst eh2
    refine WP_iast rfl (wfX0_0 hs0).1 bh2 ch2 ?_
    refine WP_aload_n (i := 0) rfl rfl rfl ?_
    refine WP_getR rfl fl0_15 hs0 (by decide) rfl (wfX0_1 hs0).2 ?_
    refine WP_aload_n (i := 0) rfl rfl rfl ?_
    refine WP_getI rfl fl0_21 hs0 (by decide) (by decide) (Or.inl rfl) ?_
    refine WP_iload_n (i := 2) rfl rfl rfl ?_
    obtain ⟨h3, hh3, hf⟩ := obind hf
    obtain ⟨bh3, ch3, eh3⟩ := ast_some hh3
    subst eh3
    refine WP_iast rfl (wfX0_1 hs0).1 bh3 ch3 ?_
    refine WP_aload_n (i := 0) rfl rfl rfl ?_
    refine WP_getR rfl fl0_18 hs0 (by decide) rfl (wfX0_2 hs0).2 ?_
    refine WP_aload_n (i := 0) rfl rfl rfl ?_
    refine WP_getI rfl fl0_21 hs0 (by decide) (by decide) (Or.inl rfl) ?_
    refine WP_iload_n (i := 3) rfl rfl rfl ?_
    obtain ⟨h4, hh4, hf⟩ := obind hf
    obtain ⟨bh4, ch4, eh4⟩ := ast_some hh4
    subst eh4
    refine WP_iast rfl (wfX0_2 hs0).1 bh4 ch4 ?_
    refine WP_aload_n (i := 0) rfl rfl rfl ?_
    refine WP_dupa rfl ?_
    refine WP_getI rfl fl0_21 hs0 (by decide) (by decide) (Or.inl rfl) ?_
    refine WP_iconst rfl ⟨by decide, by decide⟩ ?_
    refine WP_iadd rfl ?_
    refine WP_putI rfl fw0_21 hs0 (by decide) rfl (by decide) ?_
    refine WP_iconst rfl ⟨by decide, by decide⟩ ?_
    cases hf
    exact WP_zret rfl rfl (by decide) (hr _ _ rfl)
  · have hf := (if_neg c1).symm.trans hf
    refine WP_iconst rfl ⟨by decide, by decide⟩ ?_
    cases hf
    exact WP_zret rfl rfl (by decide) (hr _ _ rfl)
theorem EX0_add {l : Launch} {d : Nat} (hd : 0 ≤ d) {t0 : Nat} {v1 : Int} {v2 : Int} {v3 : Int} {h : mH} (hs0 : SX[t0]? = some (0, 5)) {rv : Int} {rh : mH} (hf : fX0_add t0 v1 v2 v3 h = some (rv, rh)) : EvV l mtX0_add d [.inr (.inr (.inl t0)), .inl v1, .inl v2, .inl v3] (SX, rX, h) (some (.inl rv)) (SX, rX, rh) :=
  Ev.of okX0_add (Nat.le_of_ble_eq_true rfl) (TX0_add hd hs0 hf (fun a0 a1 e => by cases e; exact ⟨rfl, rfl⟩))
def fX2_dayIn (v0 : Int) (v1 : Int) (h : mH) : Option (Int) :=
  some (jand (jshr v0 (jmul 3 (jsub 6 v1))) 7)
theorem TX2_dayIn {l : Launch} {d : Nat} (hd : 0 ≤ d) {Q : Option mV → mM → Prop} {v0 : Int} {v1 : Int} {h : mH}  {x : Int} (hf : fX2_dayIn v0 v1 h = some x) (hr : ∀ rv, x = rv → Q (some (.inl rv)) (SX, rX, h)) : WP l mtX2_dayIn d (0, 0) 0 [some (.inl v0), some (.inl v1)] [] (SX, rX, h) Q := by
  unfold fX2_dayIn at hf
  refine WP_iload_n (i := 0) rfl rfl rfl ?_
  refine WP_iconst rfl ⟨by decide, by decide⟩ ?_
  refine WP_bipush rfl ⟨by decide, by decide⟩ (by decide) ?_
  refine WP_iload_n (i := 1) rfl rfl rfl ?_
  refine WP_isub rfl ?_
  refine WP_imul rfl ?_
  refine WP_ishr rfl ?_
  refine WP_bipush rfl ⟨by decide, by decide⟩ (by decide) ?_
  refine WP_iand rfl ?_
  cases hf
  exact WP_iret rfl rfl (hr _ rfl)
theorem EX2_dayIn {l : Launch} {d : Nat} (hd : 0 ≤ d) {v0 : Int} {v1 : Int} {h : mH}  {rv : Int} (hf : fX2_dayIn v0 v1 h = some rv) : EvV l mtX2_dayIn d [.inl v0, .inl v1] (SX, rX, h) (some (.inl rv)) (SX, rX, h) :=
  Ev.of okX2_dayIn (Nat.le_of_ble_eq_true rfl) (TX2_dayIn hd  hf (fun a0 e => by cases e; exact ⟨rfl, rfl⟩))
def fX0_wonBy_47 (t0 : Nat) (v1 : Int) (v2 : Int) (v3 : Int) (v4 : Int) (h : mH) : Option ((Int × Int) ⊕ (Int)) :=
  some (.inl (v2, (jadd v4 1)))
def fX0_wonBy_15 (t0 : Nat) (v1 : Int) (v2 : Int) (v3 : Int) (v4 : Int) (h : mH) : Option ((Int × Int) ⊕ (Int)) :=
  (ald h (rfX t0 1) 6 v3).bind fun x1 => if v4 < x1 then (fX2_dayIn v1 v4 h).bind fun x3 => (ald h (rfX t0 0) 6 v3).bind fun x5 => if x3 = x5 then fX0_wonBy_47 t0 v1 (jor v2 (jshl 1 v3)) v3 v4 h else fX0_wonBy_47 t0 v1 v2 v3 v4 h else some (.inr v2)
def fX0_wonBy_4 (t0 : Nat) (v1 : Int) (v2 : Int) (v3 : Int) (h : mH) : Option ((Int × Int) ⊕ (Int)) :=
  if v3 < (h t0 3) then (mloop (fun s => fX0_wonBy_15 t0 v1 s.1 v3 s.2 h) mfu (v2, 0)).bind fun q2 => some (.inl (q2, (jadd v3 1))) else some (.inr v2)
def fX0_wonBy (t0 : Nat) (v1 : Int) (h : mH) : Option (Int) :=
  (mloop (fun s => fX0_wonBy_4 t0 v1 s.1 s.2 h) mfu (0, 0)).bind fun q1 => some q1
theorem TX0_wonBy_47 {l : Launch} {d : Nat} (hd : 1 ≤ d) {Q : Option mV → mM → Prop} {t0 : Nat} {v1 : Int} {v2 : Int} {v3 : Int} {v4 : Int} {h : mH} (hs0 : SX[t0]? = some (0, 5)) {x : (Int × Int) ⊕ (Int)} (hf : fX0_wonBy_47 t0 v1 v2 v3 v4 h = some x) (hc : ∀ (v2' : Int) (v4' : Int), x = .inl (v2', v4') → WP l mtX0_wonBy d (0, 0) 15 [some (.inr (.inr (.inl t0))), some (.inl v1), some (.inl v2'), some (.inl v3), some (.inl v4')] [] (SX, rX, h) Q) (he53 : ∀ (v2' : Int), x = .inr v2' → WP l mtX0_wonBy d (0, 0) 53 [some (.inr (.inr (.inl t0))), some (.inl v1), some (.inl v2'), some (.inl v3), none] [] (SX, rX, h) Q) : WP l mtX0_wonBy d (0, 0) 47 [some (.inr (.inr (.inl t0))), some (.inl v1), some (.inl v2), some (.inl v3), some (.inl v4)] [] (SX, rX, h) Q := by
  unfold fX0_wonBy_47 at hf
  refine WP_iinc rfl rfl (Nat.le_of_ble_eq_true rfl) rfl ?_
  refine WP_goto rfl rfl ?_
  cases hf
  exact WP_keep [true, true, true, true, true] (hc _ _ rfl)
theorem TX0_wonBy_15 {l : Launch} {d : Nat} (hd : 1 ≤ d) {Q : Option mV → mM → Prop} {t0 : Nat} {v1 : Int} {v2 : Int} {v3 : Int} {v4 : Int} {h : mH} (hs0 : SX[t0]? = some (0, 5)) {x : (Int × Int) ⊕ (Int)} (hf : fX0_wonBy_15 t0 v1 v2 v3 v4 h = some x) (hc : ∀ (v2' : Int) (v4' : Int), x = .inl (v2', v4') → WP l mtX0_wonBy d (0, 0) 15 [some (.inr (.inr (.inl t0))), some (.inl v1), some (.inl v2'), some (.inl v3), some (.inl v4')] [] (SX, rX, h) Q) (he53 : ∀ (v2' : Int), x = .inr v2' → WP l mtX0_wonBy d (0, 0) 53 [some (.inr (.inr (.inl t0))), some (.inl v1), some (.inl v2'), some (.inl v3), none] [] (SX, rX, h) Q) : WP l mtX0_wonBy d (0, 0) 15 [some (.inr (.inr (.inl t0))), some (.inl v1), some (.inl v2), some (.inl v3), some (.inl v4)] [] (SX, rX, h) Q := by
  unfold fX0_wonBy_15 at hf
  refine WP_iload (i := 4) rfl rfl ?_
  refine WP_aload_n (i := 0) rfl rfl rfl ?_
  refine WP_getR rfl fl0_15 hs0 (by decide) rfl (wfX0_1 hs0).2 ?_
  refine WP_iload_n (i := 3) rfl rfl rfl ?_
  obtain ⟨x1, hx1, hf⟩ := obind hf
  obtain ⟨bx1, cx1, ex1⟩ := ald_some hx1
  subst ex1
  refine WP_iald rfl (wfX0_1 hs0).1 bx1 cx1 ?_
  refine WP_icmp_ge rfl rfl (fun c2 => ?_) (fun c2 => ?_)
  · have hf := (if_pos c2).symm.trans hf
    refine WP_iload_n (i := 1) rfl rfl rfl ?_
    refine WP_iload (i := 4) rfl rfl ?_
    obtain ⟨x3, hx3, hf⟩ := obind hf
    refine WP_cS (EX2_dayIn (by omega)   hx3) skX2_dayIn rfl ml0_42 rfl (by omega) rfl (Nat.le_of_ble_eq_true rfl) ?_
    refine WP_aload_n (i := 0) rfl rfl rfl ?_
    refine WP_getR rfl fl0_9 hs0 (by decide) rfl (wfX0_0 hs0).2 ?_
    refine WP_iload_n (i := 3) rfl rfl rfl ?_
    obtain ⟨x5, hx5, hf⟩ := obind hf
    obtain ⟨bx5, cx5, ex5⟩ := ald_some hx5
    subst ex5
    refine WP_iald rfl (wfX0_0 hs0).1 bx5 cx5 ?_
    refine WP_icmp_ne rfl rfl (fun c6 => ?_) (fun c6 => ?_)
    · have hf := (if_pos c6).symm.trans hf
      refine WP_iload_n (i := 2) rfl rfl rfl ?_
      refine WP_iconst rfl ⟨by decide, by decide⟩ ?_
      refine WP_iload_n (i := 3) rfl rfl rfl ?_
      refine WP_ishl rfl ?_
      refine WP_ior rfl ?_
      refine WP_istore_n (i := 2) rfl rfl (Nat.le_of_ble_eq_true rfl) rfl ?_
      exact WP_keep [true, true, true, true, true] (TX0_wonBy_47 hd hs0 hf hc he53)
    · have hf := (if_neg c6).symm.trans hf
      exact WP_keep [true, true, true, true, true] (TX0_wonBy_47 hd hs0 hf hc he53)
  · have hf := (if_neg c2).symm.trans hf
    cases hf
    exact WP_keep [true, true, true, true, false] (he53 _ rfl)
theorem TX0_wonBy_15L {l : Launch} {d : Nat} (hd : 1 ≤ d) {Q : Option mV → mM → Prop} {t0 : Nat} {v1 : Int} {v2 : Int} {v3 : Int} {v4 : Int} {h : mH} (hs0 : SX[t0]? = some (0, 5)) {n : Nat} {x : Int} (hf : mloop (fun s => fX0_wonBy_15 t0 v1 s.1 v3 s.2 h) n (v2, v4) = some x) (he53 : ∀ (v2' : Int), x = v2' → WP l mtX0_wonBy d (0, 0) 53 [some (.inr (.inr (.inl t0))), some (.inl v1), some (.inl v2'), some (.inl v3), none] [] (SX, rX, h) Q) : WP l mtX0_wonBy d (0, 0) 15 [some (.inr (.inr (.inl t0))), some (.inl v1), some (.inl v2), some (.inl v3), some (.inl v4)] [] (SX, rX, h) Q :=
  mloop_sound (P := fun s => WP l mtX0_wonBy d (0, 0) 15 [some (.inr (.inr (.inl t0))), some (.inl v1), some (.inl s.1), some (.inl v3), some (.inl s.2)] [] (SX, rX, h) Q) (K := fun t => t = x) (fun s y hx hc he => TX0_wonBy_15 hd hs0  hx (fun a0 a1 e => hc (a0, a1) e) (fun a0 e => he53 a0 (he _ e).symm)) _ (v2, v4) _ hf rfl
theorem TX0_wonBy_4 {l : Launch} {d : Nat} (hd : 1 ≤ d) {Q : Option mV → mM → Prop} {t0 : Nat} {v1 : Int} {v2 : Int} {v3 : Int} {h : mH} (hs0 : SX[t0]? = some (0, 5)) {x : (Int × Int) ⊕ (Int)} (hf : fX0_wonBy_4 t0 v1 v2 v3 h = some x) (hc : ∀ (v2' : Int) (v3' : Int), x = .inl (v2', v3') → WP l mtX0_wonBy d (0, 0) 4 [some (.inr (.inr (.inl t0))), some (.inl v1), some (.inl v2'), some (.inl v3'), none] [] (SX, rX, h) Q) (he59 : ∀ (v2' : Int), x = .inr v2' → WP l mtX0_wonBy d (0, 0) 59 [some (.inr (.inr (.inl t0))), some (.inl v1), some (.inl v2'), none, none] [] (SX, rX, h) Q) : WP l mtX0_wonBy d (0, 0) 4 [some (.inr (.inr (.inl t0))), some (.inl v1), some (.inl v2), some (.inl v3), none] [] (SX, rX, h) Q := by
  unfold fX0_wonBy_4 at hf
  refine WP_iload_n (i := 3) rfl rfl rfl ?_
  refine WP_aload_n (i := 0) rfl rfl rfl ?_
  refine WP_getI rfl fl0_21 hs0 (by decide) (by decide) (Or.inl rfl) ?_
  refine WP_icmp_ge rfl rfl (fun c1 => ?_) (fun c1 => ?_)
  · have hf := (if_pos c1).symm.trans hf
    refine WP_iconst rfl ⟨by decide, by decide⟩ ?_
    refine WP_istore (i := 4) rfl (Nat.le_of_ble_eq_true rfl) rfl ?_
    obtain ⟨q2, hq2, hf⟩ := obind hf
    refine WP_keep [true, true, true, true, true] (TX0_wonBy_15L hd hs0 hq2 (fun yq20 e => ?_))
    subst e
    refine WP_iinc rfl rfl (Nat.le_of_ble_eq_true rfl) rfl ?_
    refine WP_goto rfl rfl ?_
    cases hf
    exact WP_keep [true, true, true, true, false] (hc _ _ rfl)
  · have hf := (if_neg c1).symm.trans hf
    cases hf
    exact WP_keep [true, true, true, false, false] (he59 _ rfl)
theorem TX0_wonBy_4L {l : Launch} {d : Nat} (hd : 1 ≤ d) {Q : Option mV → mM → Prop} {t0 : Nat} {v1 : Int} {v2 : Int} {v3 : Int} {h : mH} (hs0 : SX[t0]? = some (0, 5)) {n : Nat} {x : Int} (hf : mloop (fun s => fX0_wonBy_4 t0 v1 s.1 s.2 h) n (v2, v3) = some x) (he59 : ∀ (v2' : Int), x = v2' → WP l mtX0_wonBy d (0, 0) 59 [some (.inr (.inr (.inl t0))), some (.inl v1), some (.inl v2'), none, none] [] (SX, rX, h) Q) : WP l mtX0_wonBy d (0, 0) 4 [some (.inr (.inr (.inl t0))), some (.inl v1), some (.inl v2), some (.inl v3), none] [] (SX, rX, h) Q :=
  mloop_sound (P := fun s => WP l mtX0_wonBy d (0, 0) 4 [some (.inr (.inr (.inl t0))), some (.inl v1), some (.inl s.1), some (.inl s.2), none] [] (SX, rX, h) Q) (K := fun t => t = x) (fun s y hx hc he => TX0_wonBy_4 hd hs0  hx (fun a0 a1 e => hc (a0, a1) e) (fun a0 e => he59 a0 (he _ e).symm)) _ (v2, v3) _ hf rfl
theorem TX0_wonBy {l : Launch} {d : Nat} (hd : 1 ≤ d) {Q : Option mV → mM → Prop} {t0 : Nat} {v1 : Int} {h : mH} (hs0 : SX[t0]? = some (0, 5)) {x : Int} (hf : fX0_wonBy t0 v1 h = some x) (hr : ∀ rv, x = rv → Q (some (.inl rv)) (SX, rX, h)) : WP l mtX0_wonBy d (0, 0) 0 [some (.inr (.inr (.inl t0))), some (.inl v1), none, none, none] [] (SX, rX, h) Q := by
  unfold fX0_wonBy at hf
  refine WP_iconst rfl ⟨by decide, by decide⟩ ?_
  refine WP_istore_n (i := 2) rfl rfl (Nat.le_of_ble_eq_true rfl) rfl ?_
  refine WP_iconst rfl ⟨by decide, by decide⟩ ?_
  refine WP_istore_n (i := 3) rfl rfl (Nat.le_of_ble_eq_true rfl) rfl ?_
  obtain ⟨q1, hq1, hf⟩ := obind hf
  refine WP_keep [true, true, true, true, false] (TX0_wonBy_4L hd hs0 hq1 (fun yq10 e => ?_))
  subst e
  refine WP_iload_n (i := 2) rfl rfl rfl ?_
  cases hf
  exact WP_iret rfl rfl (hr _ rfl)
theorem EX0_wonBy {l : Launch} {d : Nat} (hd : 1 ≤ d) {t0 : Nat} {v1 : Int} {h : mH} (hs0 : SX[t0]? = some (0, 5)) {rv : Int} (hf : fX0_wonBy t0 v1 h = some rv) : EvV l mtX0_wonBy d [.inr (.inr (.inl t0)), .inl v1] (SX, rX, h) (some (.inl rv)) (SX, rX, h) :=
  Ev.of okX0_wonBy (Nat.le_of_ble_eq_true rfl) (TX0_wonBy hd hs0 hf (fun a0 e => by cases e; exact ⟨rfl, rfl⟩))
def fX0_leastWon_29 (t0 : Nat) (v1 : Int) (v2 : Int) (v3 : Int) (h : mH) : Option ((Int × Int) ⊕ (Int)) :=
  some (.inl (v2, (jadd v3 1)))
def fX0_leastWon_4 (t0 : Nat) (v1 : Int) (v2 : Int) (v3 : Int) (h : mH) : Option ((Int × Int) ⊕ (Int)) :=
  if v3 < (h t0 3) then if (jand (jshr v1 v3) 1) = 0 then fX0_leastWon_29 t0 v1 v2 v3 h else (ald h (rfX t0 2) 6 v3).bind fun x3 => fX0_leastWon_29 t0 v1 (jadd v2 x3) v3 h else some (.inr v2)
def fX0_leastWon_80 (t0 : Nat) (v1 : Int) (v2 : Int) (v3 : Int) (v4 : Int) (h : mH) : Option ((Int × Int) ⊕ (Int)) :=
  some (.inl (v3, (jadd v4 1)))
def fX0_leastWon_43 (t0 : Nat) (v1 : Int) (v2 : Int) (v3 : Int) (v4 : Int) (h : mH) : Option ((Int × Int) ⊕ (Int)) :=
  if v4 < (jshl 1 (h t0 3)) then if (kcmp (kand (kushr (h t0 4) v4) 1) 0) = 0 then fX0_leastWon_80 t0 v1 v2 v3 v4 h else (fJ6_bitCount_0f7a4 (jand v1 v4) h).bind fun x3 => fX0_leastWon_80 t0 v1 v2 (jmin v3 x3) v4 h else some (.inr v3)
def fX0_leastWon (t0 : Nat) (v1 : Int) (h : mH) : Option (Int) :=
  (mloop (fun s => fX0_leastWon_4 t0 v1 s.1 s.2 h) mfu (0, 0)).bind fun q1 => (fJ6_bitCount_0f7a4 v1 h).bind fun x2 => (mloop (fun s => fX0_leastWon_43 t0 v1 q1 s.1 s.2 h) mfu (x2, 0)).bind fun q4 => some (jsub (jmul q4 100) q1)
theorem TX0_leastWon_29 {l : Launch} {d : Nat} (hd : 1 ≤ d) {Q : Option mV → mM → Prop} {t0 : Nat} {v1 : Int} {v2 : Int} {v3 : Int} {h : mH} (hs0 : SX[t0]? = some (0, 5)) {x : (Int × Int) ⊕ (Int)} (hf : fX0_leastWon_29 t0 v1 v2 v3 h = some x) (hc : ∀ (v2' : Int) (v3' : Int), x = .inl (v2', v3') → WP l mtX0_leastWon d (0, 0) 4 [some (.inr (.inr (.inl t0))), some (.inl v1), some (.inl v2'), some (.inl v3'), none] [] (SX, rX, h) Q) (he35 : ∀ (v2' : Int), x = .inr v2' → WP l mtX0_leastWon d (0, 0) 35 [some (.inr (.inr (.inl t0))), some (.inl v1), some (.inl v2'), none, none] [] (SX, rX, h) Q) : WP l mtX0_leastWon d (0, 0) 29 [some (.inr (.inr (.inl t0))), some (.inl v1), some (.inl v2), some (.inl v3), none] [] (SX, rX, h) Q := by
  unfold fX0_leastWon_29 at hf
  refine WP_iinc rfl rfl (Nat.le_of_ble_eq_true rfl) rfl ?_
  refine WP_goto rfl rfl ?_
  cases hf
  exact WP_keep [true, true, true, true, false] (hc _ _ rfl)
theorem TX0_leastWon_4 {l : Launch} {d : Nat} (hd : 1 ≤ d) {Q : Option mV → mM → Prop} {t0 : Nat} {v1 : Int} {v2 : Int} {v3 : Int} {h : mH} (hs0 : SX[t0]? = some (0, 5)) {x : (Int × Int) ⊕ (Int)} (hf : fX0_leastWon_4 t0 v1 v2 v3 h = some x) (hc : ∀ (v2' : Int) (v3' : Int), x = .inl (v2', v3') → WP l mtX0_leastWon d (0, 0) 4 [some (.inr (.inr (.inl t0))), some (.inl v1), some (.inl v2'), some (.inl v3'), none] [] (SX, rX, h) Q) (he35 : ∀ (v2' : Int), x = .inr v2' → WP l mtX0_leastWon d (0, 0) 35 [some (.inr (.inr (.inl t0))), some (.inl v1), some (.inl v2'), none, none] [] (SX, rX, h) Q) : WP l mtX0_leastWon d (0, 0) 4 [some (.inr (.inr (.inl t0))), some (.inl v1), some (.inl v2), some (.inl v3), none] [] (SX, rX, h) Q := by
  unfold fX0_leastWon_4 at hf
  refine WP_iload_n (i := 3) rfl rfl rfl ?_
  refine WP_aload_n (i := 0) rfl rfl rfl ?_
  refine WP_getI rfl fl0_21 hs0 (by decide) (by decide) (Or.inl rfl) ?_
  refine WP_icmp_ge rfl rfl (fun c1 => ?_) (fun c1 => ?_)
  · have hf := (if_pos c1).symm.trans hf
    refine WP_iload_n (i := 1) rfl rfl rfl ?_
    refine WP_iload_n (i := 3) rfl rfl rfl ?_
    refine WP_ishr rfl ?_
    refine WP_iconst rfl ⟨by decide, by decide⟩ ?_
    refine WP_iand rfl ?_
    refine WP_if_eq rfl rfl (fun c2 => ?_) (fun c2 => ?_)
    · have hf := (if_pos c2).symm.trans hf
      exact WP_keep [true, true, true, true, false] (TX0_leastWon_29 hd hs0 hf hc he35)
    · have hf := (if_neg c2).symm.trans hf
      refine WP_iload_n (i := 2) rfl rfl rfl ?_
      refine WP_aload_n (i := 0) rfl rfl rfl ?_
      refine WP_getR rfl fl0_18 hs0 (by decide) rfl (wfX0_2 hs0).2 ?_
      refine WP_iload_n (i := 3) rfl rfl rfl ?_
      obtain ⟨x3, hx3, hf⟩ := obind hf
      obtain ⟨bx3, cx3, ex3⟩ := ald_some hx3
      subst ex3
      refine WP_iald rfl (wfX0_2 hs0).1 bx3 cx3 ?_
      refine WP_iadd rfl ?_
      refine WP_istore_n (i := 2) rfl rfl (Nat.le_of_ble_eq_true rfl) rfl ?_
      exact WP_keep [true, true, true, true, false] (TX0_leastWon_29 hd hs0 hf hc he35)
  · have hf := (if_neg c1).symm.trans hf
    cases hf
    exact WP_keep [true, true, true, false, false] (he35 _ rfl)
theorem TX0_leastWon_4L {l : Launch} {d : Nat} (hd : 1 ≤ d) {Q : Option mV → mM → Prop} {t0 : Nat} {v1 : Int} {v2 : Int} {v3 : Int} {h : mH} (hs0 : SX[t0]? = some (0, 5)) {n : Nat} {x : Int} (hf : mloop (fun s => fX0_leastWon_4 t0 v1 s.1 s.2 h) n (v2, v3) = some x) (he35 : ∀ (v2' : Int), x = v2' → WP l mtX0_leastWon d (0, 0) 35 [some (.inr (.inr (.inl t0))), some (.inl v1), some (.inl v2'), none, none] [] (SX, rX, h) Q) : WP l mtX0_leastWon d (0, 0) 4 [some (.inr (.inr (.inl t0))), some (.inl v1), some (.inl v2), some (.inl v3), none] [] (SX, rX, h) Q :=
  mloop_sound (P := fun s => WP l mtX0_leastWon d (0, 0) 4 [some (.inr (.inr (.inl t0))), some (.inl v1), some (.inl s.1), some (.inl s.2), none] [] (SX, rX, h) Q) (K := fun t => t = x) (fun s y hx hc he => TX0_leastWon_4 hd hs0  hx (fun a0 a1 e => hc (a0, a1) e) (fun a0 e => he35 a0 (he _ e).symm)) _ (v2, v3) _ hf rfl
theorem TX0_leastWon_80 {l : Launch} {d : Nat} (hd : 1 ≤ d) {Q : Option mV → mM → Prop} {t0 : Nat} {v1 : Int} {v2 : Int} {v3 : Int} {v4 : Int} {h : mH} (hs0 : SX[t0]? = some (0, 5)) {x : (Int × Int) ⊕ (Int)} (hf : fX0_leastWon_80 t0 v1 v2 v3 v4 h = some x) (hc : ∀ (v3' : Int) (v4' : Int), x = .inl (v3', v4') → WP l mtX0_leastWon d (0, 0) 43 [some (.inr (.inr (.inl t0))), some (.inl v1), some (.inl v2), some (.inl v3'), some (.inl v4')] [] (SX, rX, h) Q) (he86 : ∀ (v3' : Int), x = .inr v3' → WP l mtX0_leastWon d (0, 0) 86 [some (.inr (.inr (.inl t0))), some (.inl v1), some (.inl v2), some (.inl v3'), none] [] (SX, rX, h) Q) : WP l mtX0_leastWon d (0, 0) 80 [some (.inr (.inr (.inl t0))), some (.inl v1), some (.inl v2), some (.inl v3), some (.inl v4)] [] (SX, rX, h) Q := by
  unfold fX0_leastWon_80 at hf
  refine WP_iinc rfl rfl (Nat.le_of_ble_eq_true rfl) rfl ?_
  refine WP_goto rfl rfl ?_
  cases hf
  exact WP_keep [true, true, true, true, true] (hc _ _ rfl)
theorem TX0_leastWon_43 {l : Launch} {d : Nat} (hd : 1 ≤ d) {Q : Option mV → mM → Prop} {t0 : Nat} {v1 : Int} {v2 : Int} {v3 : Int} {v4 : Int} {h : mH} (hs0 : SX[t0]? = some (0, 5)) {x : (Int × Int) ⊕ (Int)} (hf : fX0_leastWon_43 t0 v1 v2 v3 v4 h = some x) (hc : ∀ (v3' : Int) (v4' : Int), x = .inl (v3', v4') → WP l mtX0_leastWon d (0, 0) 43 [some (.inr (.inr (.inl t0))), some (.inl v1), some (.inl v2), some (.inl v3'), some (.inl v4')] [] (SX, rX, h) Q) (he86 : ∀ (v3' : Int), x = .inr v3' → WP l mtX0_leastWon d (0, 0) 86 [some (.inr (.inr (.inl t0))), some (.inl v1), some (.inl v2), some (.inl v3'), none] [] (SX, rX, h) Q) : WP l mtX0_leastWon d (0, 0) 43 [some (.inr (.inr (.inl t0))), some (.inl v1), some (.inl v2), some (.inl v3), some (.inl v4)] [] (SX, rX, h) Q := by
  unfold fX0_leastWon_43 at hf
  refine WP_iload (i := 4) rfl rfl ?_
  refine WP_iconst rfl ⟨by decide, by decide⟩ ?_
  refine WP_aload_n (i := 0) rfl rfl rfl ?_
  refine WP_getI rfl fl0_21 hs0 (by decide) (by decide) (Or.inl rfl) ?_
  refine WP_ishl rfl ?_
  refine WP_icmp_ge rfl rfl (fun c1 => ?_) (fun c1 => ?_)
  · have hf := (if_pos c1).symm.trans hf
    refine WP_aload_n (i := 0) rfl rfl rfl ?_
    refine WP_getL rfl fl0_25 hs0 (by decide) (by decide) rfl ?_
    refine WP_iload (i := 4) rfl rfl ?_
    refine WP_lushr rfl ?_
    refine WP_lconst (n := 1) rfl ⟨by decide, by decide⟩ (by decide) ?_
    refine WP_land rfl ?_
    refine WP_lconst (n := 0) rfl ⟨by decide, by decide⟩ (by decide) ?_
    refine WP_lcmp rfl ?_
    refine WP_if_eq rfl rfl (fun c2 => ?_) (fun c2 => ?_)
    · have hf := (if_pos c2).symm.trans hf
      exact WP_keep [true, true, true, true, true] (TX0_leastWon_80 hd hs0 hf hc he86)
    · have hf := (if_neg c2).symm.trans hf
      refine WP_iload_n (i := 3) rfl rfl rfl ?_
      refine WP_iload_n (i := 1) rfl rfl rfl ?_
      refine WP_iload (i := 4) rfl rfl ?_
      refine WP_iand rfl ?_
      obtain ⟨x3, hx3, hf⟩ := obind hf
      refine WP_cS (EJ6_bitCount_0f7a4 (by omega)   hx3) skJ6_bitCount_0f7a4 rfl ml0_46 rfl (by omega) rfl (Nat.le_of_ble_eq_true rfl) ?_
      refine WP_min rfl ml0_51 kmin (by omega) (Nat.le_of_ble_eq_true rfl) ?_
      refine WP_istore_n (i := 3) rfl rfl (Nat.le_of_ble_eq_true rfl) rfl ?_
      exact WP_keep [true, true, true, true, true] (TX0_leastWon_80 hd hs0 hf hc he86)
  · have hf := (if_neg c1).symm.trans hf
    cases hf
    exact WP_keep [true, true, true, true, false] (he86 _ rfl)
theorem TX0_leastWon_43L {l : Launch} {d : Nat} (hd : 1 ≤ d) {Q : Option mV → mM → Prop} {t0 : Nat} {v1 : Int} {v2 : Int} {v3 : Int} {v4 : Int} {h : mH} (hs0 : SX[t0]? = some (0, 5)) {n : Nat} {x : Int} (hf : mloop (fun s => fX0_leastWon_43 t0 v1 v2 s.1 s.2 h) n (v3, v4) = some x) (he86 : ∀ (v3' : Int), x = v3' → WP l mtX0_leastWon d (0, 0) 86 [some (.inr (.inr (.inl t0))), some (.inl v1), some (.inl v2), some (.inl v3'), none] [] (SX, rX, h) Q) : WP l mtX0_leastWon d (0, 0) 43 [some (.inr (.inr (.inl t0))), some (.inl v1), some (.inl v2), some (.inl v3), some (.inl v4)] [] (SX, rX, h) Q :=
  mloop_sound (P := fun s => WP l mtX0_leastWon d (0, 0) 43 [some (.inr (.inr (.inl t0))), some (.inl v1), some (.inl v2), some (.inl s.1), some (.inl s.2)] [] (SX, rX, h) Q) (K := fun t => t = x) (fun s y hx hc he => TX0_leastWon_43 hd hs0  hx (fun a0 a1 e => hc (a0, a1) e) (fun a0 e => he86 a0 (he _ e).symm)) _ (v3, v4) _ hf rfl
theorem TX0_leastWon {l : Launch} {d : Nat} (hd : 1 ≤ d) {Q : Option mV → mM → Prop} {t0 : Nat} {v1 : Int} {h : mH} (hs0 : SX[t0]? = some (0, 5)) {x : Int} (hf : fX0_leastWon t0 v1 h = some x) (hr : ∀ rv, x = rv → Q (some (.inl rv)) (SX, rX, h)) : WP l mtX0_leastWon d (0, 0) 0 [some (.inr (.inr (.inl t0))), some (.inl v1), none, none, none] [] (SX, rX, h) Q := by
  unfold fX0_leastWon at hf
  refine WP_iconst rfl ⟨by decide, by decide⟩ ?_
  refine WP_istore_n (i := 2) rfl rfl (Nat.le_of_ble_eq_true rfl) rfl ?_
  refine WP_iconst rfl ⟨by decide, by decide⟩ ?_
  refine WP_istore_n (i := 3) rfl rfl (Nat.le_of_ble_eq_true rfl) rfl ?_
  obtain ⟨q1, hq1, hf⟩ := obind hf
  refine WP_keep [true, true, true, true, false] (TX0_leastWon_4L hd hs0 hq1 (fun yq10 e => ?_))
  subst e
  refine WP_iload_n (i := 1) rfl rfl rfl ?_
  obtain ⟨x2, hx2, hf⟩ := obind hf
  refine WP_cS (EJ6_bitCount_0f7a4 (by omega)   hx2) skJ6_bitCount_0f7a4 rfl ml0_46 rfl (by omega) rfl (Nat.le_of_ble_eq_true rfl) ?_
  refine WP_istore_n (i := 3) rfl rfl (Nat.le_of_ble_eq_true rfl) rfl ?_
  refine WP_iconst rfl ⟨by decide, by decide⟩ ?_
  refine WP_istore (i := 4) rfl (Nat.le_of_ble_eq_true rfl) rfl ?_
  obtain ⟨q4, hq4, hf⟩ := obind hf
  refine WP_keep [true, true, true, true, true] (TX0_leastWon_43L hd hs0 hq4 (fun yq40 e => ?_))
  subst e
  refine WP_iload_n (i := 3) rfl rfl rfl ?_
  refine WP_bipush rfl ⟨by decide, by decide⟩ (by decide) ?_
  refine WP_imul rfl ?_
  refine WP_iload_n (i := 2) rfl rfl rfl ?_
  refine WP_isub rfl ?_
  cases hf
  exact WP_iret rfl rfl (hr _ rfl)
theorem EX0_leastWon {l : Launch} {d : Nat} (hd : 1 ≤ d) {t0 : Nat} {v1 : Int} {h : mH} (hs0 : SX[t0]? = some (0, 5)) {rv : Int} (hf : fX0_leastWon t0 v1 h = some rv) : EvV l mtX0_leastWon d [.inr (.inr (.inl t0)), .inl v1] (SX, rX, h) (some (.inl rv)) (SX, rX, h) :=
  Ev.of okX0_leastWon (Nat.le_of_ble_eq_true rfl) (TX0_leastWon hd hs0 hf (fun a0 e => by cases e; exact ⟨rfl, rfl⟩))
def fX0_surest_7 (t0 : Nat) (t1 : Nat) (v2 : Int) (h : mH) : Option ((Int × mH) ⊕ (mH)) :=
  if v2 < (h t1 1) then (ald h (rfX t1 0) 5040 v2).bind fun x2 => (fX0_wonBy t0 x2 h).bind fun x3 => some (.inl ((jadd v2 1), (hset h t0 4 (kor (h t0 4) (kshl 1 x3))))) else some (.inr h)
def fX0_surest_80 (t0 : Nat) (t1 : Nat) (v2 : Int) (v3 : Int) (v4 : Int) (h : mH) : Option ((Int × Int × Int) ⊕ (Int)) :=
  some (.inl (v2, v3, (jadd v4 1)))
def fX0_surest_49 (t0 : Nat) (t1 : Nat) (v2 : Int) (v3 : Int) (v4 : Int) (h : mH) : Option ((Int × Int × Int) ⊕ (Int)) :=
  if v4 < (jshl 1 (h t0 3)) then (fX0_leastWon t0 v4 h).bind fun x2 => if x2 ≤ v3 then fX0_surest_80 t0 t1 v2 v3 v4 h else fX0_surest_80 t0 t1 v4 x2 v4 h else some (.inr v2)
def fX0_surest (t0 : Nat) (t1 : Nat) (h : mH) : Option (Int × mH) :=
  (mloop (fun s => fX0_surest_7 t0 t1 s.1 s.2) mfu (0, (hset h t0 4 0))).bind fun q1 => (mloop (fun s => fX0_surest_49 t0 t1 s.1 s.2.1 s.2.2 q1) mfu (0, 0, 1)).bind fun q2 => some (q2, q1)
theorem TX0_surest_7 {l : Launch} {d : Nat} (hd : 2 ≤ d) {Q : Option mV → mM → Prop} {t0 : Nat} {t1 : Nat} {v2 : Int} {h : mH} (hs0 : SX[t0]? = some (0, 5)) (hs1 : SX[t1]? = some (2, 4)) {x : (Int × mH) ⊕ (mH)} (hf : fX0_surest_7 t0 t1 v2 h = some x) (hc : ∀ (v2' : Int) (h' : mH), x = .inl (v2', h') → WP l mtX0_surest d (0, 0) 7 [some (.inr (.inr (.inl t0))), some (.inr (.inr (.inl t1))), some (.inl v2'), none, none, none] [] (SX, rX, h') Q) (he42 : ∀ (h' : mH), x = .inr h' → WP l mtX0_surest d (0, 0) 42 [some (.inr (.inr (.inl t0))), some (.inr (.inr (.inl t1))), none, none, none, none] [] (SX, rX, h') Q) : WP l mtX0_surest d (0, 0) 7 [some (.inr (.inr (.inl t0))), some (.inr (.inr (.inl t1))), some (.inl v2), none, none, none] [] (SX, rX, h) Q := by
  unfold fX0_surest_7 at hf
  refine WP_iload_n (i := 2) rfl rfl rfl ?_
  refine WP_aload_n (i := 1) rfl rfl rfl ?_
  refine WP_getI rfl fl0_29 hs1 (by decide) (by decide) (Or.inl rfl) ?_
  refine WP_icmp_ge rfl rfl (fun c1 => ?_) (fun c1 => ?_)
  · have hf := (if_pos c1).symm.trans hf
    refine WP_aload_n (i := 0) rfl rfl rfl ?_
    refine WP_dupa rfl ?_
    refine WP_getL rfl fl0_25 hs0 (by decide) (by decide) rfl ?_
    refine WP_lconst (n := 1) rfl ⟨by decide, by decide⟩ (by decide) ?_
    refine WP_aload_n (i := 0) rfl rfl rfl ?_
    refine WP_aload_n (i := 1) rfl rfl rfl ?_
    refine WP_getR rfl fl0_32 hs1 (by decide) rfl (wfX2_0 hs1).2 ?_
    refine WP_iload_n (i := 2) rfl rfl rfl ?_
    obtain ⟨x2, hx2, hf⟩ := obind hf
    obtain ⟨bx2, cx2, ex2⟩ := ald_some hx2
    subst ex2
    refine WP_iald rfl (wfX2_0 hs1).1 bx2 cx2 ?_
    obtain ⟨x3, hx3, hf⟩ := obind hf
    refine WP_cV (EX0_wonBy (by omega) hs0  hx3) vkX0_wonBy rfl ml0_35 hs0 rfl (by omega) rfl (Nat.le_of_ble_eq_true rfl) ?_
    refine WP_lshl rfl ?_
    refine WP_lor rfl ?_
    refine WP_putL rfl fw0_25 hs0 (by decide) rfl (by decide) ?_
    refine WP_iinc rfl rfl (Nat.le_of_ble_eq_true rfl) rfl ?_
    refine WP_goto rfl rfl ?_
    cases hf
    exact WP_keep [true, true, true, false, false, false] (hc _ _ rfl)
  · have hf := (if_neg c1).symm.trans hf
    cases hf
    exact WP_keep [true, true, false, false, false, false] (he42 _ rfl)
theorem TX0_surest_7L {l : Launch} {d : Nat} (hd : 2 ≤ d) {Q : Option mV → mM → Prop} {t0 : Nat} {t1 : Nat} {v2 : Int} {h : mH} (hs0 : SX[t0]? = some (0, 5)) (hs1 : SX[t1]? = some (2, 4)) {n : Nat} {x : mH} (hf : mloop (fun s => fX0_surest_7 t0 t1 s.1 s.2) n (v2, h) = some x) (he42 : ∀ (h' : mH), x = h' → WP l mtX0_surest d (0, 0) 42 [some (.inr (.inr (.inl t0))), some (.inr (.inr (.inl t1))), none, none, none, none] [] (SX, rX, h') Q) : WP l mtX0_surest d (0, 0) 7 [some (.inr (.inr (.inl t0))), some (.inr (.inr (.inl t1))), some (.inl v2), none, none, none] [] (SX, rX, h) Q :=
  mloop_sound (P := fun s => WP l mtX0_surest d (0, 0) 7 [some (.inr (.inr (.inl t0))), some (.inr (.inr (.inl t1))), some (.inl s.1), none, none, none] [] (SX, rX, s.2) Q) (K := fun t => t = x) (fun s y hx hc he => TX0_surest_7 hd hs0 hs1  hx (fun a0 a1 e => hc (a0, a1) e) (fun a0 e => he42 a0 (he _ e).symm)) _ (v2, h) _ hf rfl
theorem TX0_surest_80 {l : Launch} {d : Nat} (hd : 2 ≤ d) {Q : Option mV → mM → Prop} {t0 : Nat} {t1 : Nat} {v2 : Int} {v3 : Int} {v4 : Int} {h : mH} (hs0 : SX[t0]? = some (0, 5)) (hs1 : SX[t1]? = some (2, 4)) {x : (Int × Int × Int) ⊕ (Int)} (hf : fX0_surest_80 t0 t1 v2 v3 v4 h = some x) (hc : ∀ (v2' : Int) (v3' : Int) (v4' : Int), x = .inl (v2', v3', v4') → WP l mtX0_surest d (0, 0) 49 [some (.inr (.inr (.inl t0))), some (.inr (.inr (.inl t1))), some (.inl v2'), some (.inl v3'), some (.inl v4'), none] [] (SX, rX, h) Q) (he86 : ∀ (v2' : Int), x = .inr v2' → WP l mtX0_surest d (0, 0) 86 [some (.inr (.inr (.inl t0))), some (.inr (.inr (.inl t1))), some (.inl v2'), none, none, none] [] (SX, rX, h) Q) : WP l mtX0_surest d (0, 0) 80 [some (.inr (.inr (.inl t0))), some (.inr (.inr (.inl t1))), some (.inl v2), some (.inl v3), some (.inl v4), none] [] (SX, rX, h) Q := by
  unfold fX0_surest_80 at hf
  refine WP_iinc rfl rfl (Nat.le_of_ble_eq_true rfl) rfl ?_
  refine WP_goto rfl rfl ?_
  cases hf
  exact WP_keep [true, true, true, true, true, false] (hc _ _ _ rfl)
theorem TX0_surest_49 {l : Launch} {d : Nat} (hd : 2 ≤ d) {Q : Option mV → mM → Prop} {t0 : Nat} {t1 : Nat} {v2 : Int} {v3 : Int} {v4 : Int} {h : mH} (hs0 : SX[t0]? = some (0, 5)) (hs1 : SX[t1]? = some (2, 4)) {x : (Int × Int × Int) ⊕ (Int)} (hf : fX0_surest_49 t0 t1 v2 v3 v4 h = some x) (hc : ∀ (v2' : Int) (v3' : Int) (v4' : Int), x = .inl (v2', v3', v4') → WP l mtX0_surest d (0, 0) 49 [some (.inr (.inr (.inl t0))), some (.inr (.inr (.inl t1))), some (.inl v2'), some (.inl v3'), some (.inl v4'), none] [] (SX, rX, h) Q) (he86 : ∀ (v2' : Int), x = .inr v2' → WP l mtX0_surest d (0, 0) 86 [some (.inr (.inr (.inl t0))), some (.inr (.inr (.inl t1))), some (.inl v2'), none, none, none] [] (SX, rX, h) Q) : WP l mtX0_surest d (0, 0) 49 [some (.inr (.inr (.inl t0))), some (.inr (.inr (.inl t1))), some (.inl v2), some (.inl v3), some (.inl v4), none] [] (SX, rX, h) Q := by
  unfold fX0_surest_49 at hf
  refine WP_iload (i := 4) rfl rfl ?_
  refine WP_iconst rfl ⟨by decide, by decide⟩ ?_
  refine WP_aload_n (i := 0) rfl rfl rfl ?_
  refine WP_getI rfl fl0_21 hs0 (by decide) (by decide) (Or.inl rfl) ?_
  refine WP_ishl rfl ?_
  refine WP_icmp_ge rfl rfl (fun c1 => ?_) (fun c1 => ?_)
  · have hf := (if_pos c1).symm.trans hf
    refine WP_aload_n (i := 0) rfl rfl rfl ?_
    refine WP_iload (i := 4) rfl rfl ?_
    obtain ⟨x2, hx2, hf⟩ := obind hf
    refine WP_cV (EX0_leastWon (by omega) hs0  hx2) vkX0_leastWon rfl ml0_39 hs0 rfl (by omega) rfl (Nat.le_of_ble_eq_true rfl) ?_
    refine WP_istore (i := 5) rfl (Nat.le_of_ble_eq_true rfl) rfl ?_
    refine WP_iload (i := 5) rfl rfl ?_
    refine WP_iload_n (i := 3) rfl rfl rfl ?_
    refine WP_icmp_le rfl rfl (fun c4 => ?_) (fun c4 => ?_)
    · have hf := (if_pos c4).symm.trans hf
      exact WP_keep [true, true, true, true, true, false] (TX0_surest_80 hd hs0 hs1 hf hc he86)
    · have hf := (if_neg c4).symm.trans hf
      refine WP_iload (i := 5) rfl rfl ?_
      refine WP_istore_n (i := 3) rfl rfl (Nat.le_of_ble_eq_true rfl) rfl ?_
      refine WP_iload (i := 4) rfl rfl ?_
      refine WP_istore_n (i := 2) rfl rfl (Nat.le_of_ble_eq_true rfl) rfl ?_
      exact WP_keep [true, true, true, true, true, false] (TX0_surest_80 hd hs0 hs1 hf hc he86)
  · have hf := (if_neg c1).symm.trans hf
    cases hf
    exact WP_keep [true, true, true, false, false, false] (he86 _ rfl)
theorem TX0_surest_49L {l : Launch} {d : Nat} (hd : 2 ≤ d) {Q : Option mV → mM → Prop} {t0 : Nat} {t1 : Nat} {v2 : Int} {v3 : Int} {v4 : Int} {h : mH} (hs0 : SX[t0]? = some (0, 5)) (hs1 : SX[t1]? = some (2, 4)) {n : Nat} {x : Int} (hf : mloop (fun s => fX0_surest_49 t0 t1 s.1 s.2.1 s.2.2 h) n (v2, v3, v4) = some x) (he86 : ∀ (v2' : Int), x = v2' → WP l mtX0_surest d (0, 0) 86 [some (.inr (.inr (.inl t0))), some (.inr (.inr (.inl t1))), some (.inl v2'), none, none, none] [] (SX, rX, h) Q) : WP l mtX0_surest d (0, 0) 49 [some (.inr (.inr (.inl t0))), some (.inr (.inr (.inl t1))), some (.inl v2), some (.inl v3), some (.inl v4), none] [] (SX, rX, h) Q :=
  mloop_sound (P := fun s => WP l mtX0_surest d (0, 0) 49 [some (.inr (.inr (.inl t0))), some (.inr (.inr (.inl t1))), some (.inl s.1), some (.inl s.2.1), some (.inl s.2.2), none] [] (SX, rX, h) Q) (K := fun t => t = x) (fun s y hx hc he => TX0_surest_49 hd hs0 hs1  hx (fun a0 a1 a2 e => hc (a0, a1, a2) e) (fun a0 e => he86 a0 (he _ e).symm)) _ (v2, v3, v4) _ hf rfl
theorem TX0_surest {l : Launch} {d : Nat} (hd : 2 ≤ d) {Q : Option mV → mM → Prop} {t0 : Nat} {t1 : Nat} {h : mH} (hs0 : SX[t0]? = some (0, 5)) (hs1 : SX[t1]? = some (2, 4)) {x : Int × mH} (hf : fX0_surest t0 t1 h = some x) (hr : ∀ rv rh, x = (rv, rh) → Q (some (.inl rv)) (SX, rX, rh)) : WP l mtX0_surest d (0, 0) 0 [some (.inr (.inr (.inl t0))), some (.inr (.inr (.inl t1))), none, none, none, none] [] (SX, rX, h) Q := by
  unfold fX0_surest at hf
  refine WP_aload_n (i := 0) rfl rfl rfl ?_
  refine WP_lconst (n := 0) rfl ⟨by decide, by decide⟩ (by decide) ?_
  refine WP_putL rfl fw0_25 hs0 (by decide) rfl (by decide) ?_
  refine WP_iconst rfl ⟨by decide, by decide⟩ ?_
  refine WP_istore_n (i := 2) rfl rfl (Nat.le_of_ble_eq_true rfl) rfl ?_
  obtain ⟨q1, hq1, hf⟩ := obind hf
  refine WP_keep [true, true, true, false, false, false] (TX0_surest_7L hd hs0 hs1 hq1 (fun yq10 e => ?_))
  subst e
  refine WP_iconst rfl ⟨by decide, by decide⟩ ?_
  refine WP_istore_n (i := 2) rfl rfl (Nat.le_of_ble_eq_true rfl) rfl ?_
  refine WP_iconst rfl ⟨by decide, by decide⟩ ?_
  refine WP_istore_n (i := 3) rfl rfl (Nat.le_of_ble_eq_true rfl) rfl ?_
  refine WP_iconst rfl ⟨by decide, by decide⟩ ?_
  refine WP_istore (i := 4) rfl (Nat.le_of_ble_eq_true rfl) rfl ?_
  obtain ⟨q2, hq2, hf⟩ := obind hf
  refine WP_keep [true, true, true, true, true, false] (TX0_surest_49L hd hs0 hs1 hq2 (fun yq20 e => ?_))
  subst e
  refine WP_iload_n (i := 2) rfl rfl rfl ?_
  cases hf
  exact WP_iret rfl rfl (hr _ _ rfl)
theorem EX0_surest {l : Launch} {d : Nat} (hd : 2 ≤ d) {t0 : Nat} {t1 : Nat} {h : mH} (hs0 : SX[t0]? = some (0, 5)) (hs1 : SX[t1]? = some (2, 4)) {rv : Int} {rh : mH} (hf : fX0_surest t0 t1 h = some (rv, rh)) : EvV l mtX0_surest d [.inr (.inr (.inl t0)), .inr (.inr (.inl t1))] (SX, rX, h) (some (.inl rv)) (SX, rX, rh) :=
  Ev.of okX0_surest (Nat.le_of_ble_eq_true rfl) (TX0_surest hd hs0 hs1 hf (fun a0 a1 e => by cases e; exact ⟨rfl, rfl⟩))
def fX1_add (t0 : Nat) (v1 : Int) (v2 : Int) (h : mH) : Option (Int × mH) :=
  if (h t0 2) < 8 then (ast h (rfX t0 0) 8 (h t0 2) v1).bind fun h2 => (ast h2 (rfX t0 1) 8 (h2 t0 2) v2).bind fun h3 => some (1, (hset h3 t0 2 (jadd (h3 t0 2) 1))) else some (0, h)
theorem TX1_add {l : Launch} {d : Nat} (hd : 0 ≤ d) {Q : Option mV → mM → Prop} {t0 : Nat} {v1 : Int} {v2 : Int} {h : mH} (hs0 : SX[t0]? = some (1, 3)) {x : Int × mH} (hf : fX1_add t0 v1 v2 h = some x) (hr : ∀ rv rh, x = (rv, rh) → Q (some (.inl rv)) (SX, rX, rh)) : WP l mtX1_add d (0, 0) 0 [some (.inr (.inr (.inl t0))), some (.inl v1), some (.inl v2)] [] (SX, rX, h) Q := by
  unfold fX1_add at hf
  refine WP_aload_n (i := 0) rfl rfl rfl ?_
  refine WP_getI rfl fl1_18 hs0 (by decide) (by decide) (Or.inl rfl) ?_
  refine WP_bipush rfl ⟨by decide, by decide⟩ (by decide) ?_
  refine WP_icmp_lt rfl rfl (fun c1 => ?_) (fun c1 => ?_)
  · have hf := (if_pos c1).symm.trans hf
    refine WP_aload_n (i := 0) rfl rfl rfl ?_
    refine WP_getR rfl fl1_9 hs0 (by decide) rfl (wfX1_0 hs0).2 ?_
    refine WP_aload_n (i := 0) rfl rfl rfl ?_
    refine WP_getI rfl fl1_18 hs0 (by decide) (by decide) (Or.inl rfl) ?_
    refine WP_iload_n (i := 1) rfl rfl rfl ?_
    obtain ⟨h2, hh2, hf⟩ := obind hf
    obtain ⟨bh2, ch2, eh2⟩ := ast_some hh2
    subst eh2
    refine WP_iast rfl (wfX1_0 hs0).1 bh2 ch2 ?_
    refine WP_aload_n (i := 0) rfl rfl rfl ?_
    refine WP_getR rfl fl1_15 hs0 (by decide) rfl (wfX1_1 hs0).2 ?_
    refine WP_aload_n (i := 0) rfl rfl rfl ?_
    refine WP_getI rfl fl1_18 hs0 (by decide) (by decide) (Or.inl rfl) ?_
    refine WP_iload_n (i := 2) rfl rfl rfl ?_
    obtain ⟨h3, hh3, hf⟩ := obind hf
    obtain ⟨bh3, ch3, eh3⟩ := ast_some hh3
    subst eh3
    refine WP_iast rfl (wfX1_1 hs0).1 bh3 ch3 ?_
    refine WP_aload_n (i := 0) rfl rfl rfl ?_
    refine WP_dupa rfl ?_
    refine WP_getI rfl fl1_18 hs0 (by decide) (by decide) (Or.inl rfl) ?_
    refine WP_iconst rfl ⟨by decide, by decide⟩ ?_
    refine WP_iadd rfl ?_
    refine WP_putI rfl fw1_18 hs0 (by decide) rfl (by decide) ?_
    refine WP_iconst rfl ⟨by decide, by decide⟩ ?_
    cases hf
    exact WP_zret rfl rfl (by decide) (hr _ _ rfl)
  · have hf := (if_neg c1).symm.trans hf
    refine WP_iconst rfl ⟨by decide, by decide⟩ ?_
    cases hf
    exact WP_zret rfl rfl (by decide) (hr _ _ rfl)
theorem EX1_add {l : Launch} {d : Nat} (hd : 0 ≤ d) {t0 : Nat} {v1 : Int} {v2 : Int} {h : mH} (hs0 : SX[t0]? = some (1, 3)) {rv : Int} {rh : mH} (hf : fX1_add t0 v1 v2 h = some (rv, rh)) : EvV l mtX1_add d [.inr (.inr (.inl t0)), .inl v1, .inl v2] (SX, rX, h) (some (.inl rv)) (SX, rX, rh) :=
  Ev.of okX1_add (Nat.le_of_ble_eq_true rfl) (TX1_add hd hs0 hf (fun a0 a1 e => by cases e; exact ⟨rfl, rfl⟩))
def fX2_isAhead_38 (v0 : Int) (v1 : Int) (v2 : Int) (s0 : Int) (h : mH) : Option ((Int) ⊕ (Int ⊕ Unit)) :=
  if s0 = 0 ∨ s0 = 1 then some (.inr (.inl s0)) else none
def fX2_isAhead_2 (v0 : Int) (v1 : Int) (v2 : Int) (v3 : Int) (h : mH) : Option ((Int) ⊕ (Int ⊕ Unit)) :=
  if v3 < 7 then (fX2_dayIn v0 v3 h).bind fun x2 => if x2 = v1 then if x2 = v1 then fX2_isAhead_38 v0 v1 v2 1 h else fX2_isAhead_38 v0 v1 v2 0 h else if x2 = v2 then if x2 = v1 then fX2_isAhead_38 v0 v1 v2 1 h else fX2_isAhead_38 v0 v1 v2 0 h else some (.inl (jadd v3 1)) else some (.inr (.inr ()))
def fX2_isAhead (v0 : Int) (v1 : Int) (v2 : Int) (h : mH) : Option (Int) :=
  (mloop (fun s => fX2_isAhead_2 v0 v1 v2 s h) mfu 0).bind (Sum.elim (fun r => some r) (fun q1 => some 0))
theorem TX2_isAhead_38 {l : Launch} {d : Nat} (hd : 1 ≤ d) {Q : Option mV → mM → Prop} {v0 : Int} {v1 : Int} {v2 : Int} {s0 : Int} {h : mH}  {x : (Int) ⊕ (Int ⊕ Unit)} (hf : fX2_isAhead_38 v0 v1 v2 s0 h = some x) (hc : ∀ (v3' : Int), x = .inl v3' → WP l mtX2_isAhead d (0, 0) 2 [some (.inl v0), some (.inl v1), some (.inl v2), some (.inl v3'), none] [] (SX, rX, h) Q) (hr : ∀ rv, x = .inr (.inl rv) → Q (some (.inl rv)) (SX, rX, h)) (he45 : x = .inr (.inr ()) → WP l mtX2_isAhead d (0, 0) 45 [some (.inl v0), some (.inl v1), some (.inl v2), none, none] [] (SX, rX, h) Q) : WP l mtX2_isAhead d (0, 0) 38 [some (.inl v0), some (.inl v1), some (.inl v2), none, none] [.inl s0] (SX, rX, h) Q := by
  unfold fX2_isAhead_38 at hf
  obtain ⟨z1, hf⟩ := osome hf
  cases hf
  exact WP_zret rfl rfl z1 (hr _ rfl)
theorem TX2_isAhead_2 {l : Launch} {d : Nat} (hd : 1 ≤ d) {Q : Option mV → mM → Prop} {v0 : Int} {v1 : Int} {v2 : Int} {v3 : Int} {h : mH}  {x : (Int) ⊕ (Int ⊕ Unit)} (hf : fX2_isAhead_2 v0 v1 v2 v3 h = some x) (hc : ∀ (v3' : Int), x = .inl v3' → WP l mtX2_isAhead d (0, 0) 2 [some (.inl v0), some (.inl v1), some (.inl v2), some (.inl v3'), none] [] (SX, rX, h) Q) (hr : ∀ rv, x = .inr (.inl rv) → Q (some (.inl rv)) (SX, rX, h)) (he45 : x = .inr (.inr ()) → WP l mtX2_isAhead d (0, 0) 45 [some (.inl v0), some (.inl v1), some (.inl v2), none, none] [] (SX, rX, h) Q) : WP l mtX2_isAhead d (0, 0) 2 [some (.inl v0), some (.inl v1), some (.inl v2), some (.inl v3), none] [] (SX, rX, h) Q := by
  unfold fX2_isAhead_2 at hf
  refine WP_iload_n (i := 3) rfl rfl rfl ?_
  refine WP_bipush rfl ⟨by decide, by decide⟩ (by decide) ?_
  refine WP_icmp_ge rfl rfl (fun c1 => ?_) (fun c1 => ?_)
  · have hf := (if_pos c1).symm.trans hf
    refine WP_iload_n (i := 0) rfl rfl rfl ?_
    refine WP_iload_n (i := 3) rfl rfl rfl ?_
    obtain ⟨x2, hx2, hf⟩ := obind hf
    refine WP_cS (EX2_dayIn (by omega)   hx2) skX2_dayIn rfl ml2_23 rfl (by omega) rfl (Nat.le_of_ble_eq_true rfl) ?_
    refine WP_istore (i := 4) rfl (Nat.le_of_ble_eq_true rfl) rfl ?_
    refine WP_iload (i := 4) rfl rfl ?_
    refine WP_iload_n (i := 1) rfl rfl rfl ?_
    refine WP_icmp_eq rfl rfl (fun c4 => ?_) (fun c4 => ?_)
    · have hf := (if_pos c4).symm.trans hf
      refine WP_iload (i := 4) rfl rfl ?_
      refine WP_iload_n (i := 1) rfl rfl rfl ?_
      refine WP_icmp_ne rfl rfl (fun c5 => ?_) (fun c5 => ?_)
      · have hf := (if_pos c5).symm.trans hf
        refine WP_iconst rfl ⟨by decide, by decide⟩ ?_
        refine WP_goto rfl rfl ?_
        exact WP_keep [true, true, true, false, false] (TX2_isAhead_38 hd  hf hc hr he45)
      · have hf := (if_neg c5).symm.trans hf
        refine WP_iconst rfl ⟨by decide, by decide⟩ ?_
        exact WP_keep [true, true, true, false, false] (TX2_isAhead_38 hd  hf hc hr he45)
    · have hf := (if_neg c4).symm.trans hf
      refine WP_iload (i := 4) rfl rfl ?_
      refine WP_iload_n (i := 2) rfl rfl rfl ?_
      refine WP_icmp_ne rfl rfl (fun c6 => ?_) (fun c6 => ?_)
      · have hf := (if_pos c6).symm.trans hf
        refine WP_iload (i := 4) rfl rfl ?_
        refine WP_iload_n (i := 1) rfl rfl rfl ?_
        refine WP_icmp_ne rfl rfl (fun c7 => ?_) (fun c7 => ?_)
        · have hf := (if_pos c7).symm.trans hf
          refine WP_iconst rfl ⟨by decide, by decide⟩ ?_
          refine WP_goto rfl rfl ?_
          exact WP_keep [true, true, true, false, false] (TX2_isAhead_38 hd  hf hc hr he45)
        · have hf := (if_neg c7).symm.trans hf
          refine WP_iconst rfl ⟨by decide, by decide⟩ ?_
          exact WP_keep [true, true, true, false, false] (TX2_isAhead_38 hd  hf hc hr he45)
      · have hf := (if_neg c6).symm.trans hf
        refine WP_iinc rfl rfl (Nat.le_of_ble_eq_true rfl) rfl ?_
        refine WP_goto rfl rfl ?_
        cases hf
        exact WP_keep [true, true, true, true, false] (hc _ rfl)
  · have hf := (if_neg c1).symm.trans hf
    cases hf
    exact WP_keep [true, true, true, false, false] (he45  rfl)
theorem TX2_isAhead_2L {l : Launch} {d : Nat} (hd : 1 ≤ d) {Q : Option mV → mM → Prop} {v0 : Int} {v1 : Int} {v2 : Int} {v3 : Int} {h : mH}  {n : Nat} {x : Int ⊕ Unit} (hf : mloop (fun s => fX2_isAhead_2 v0 v1 v2 s h) n v3 = some x) (hr : ∀ rv, x = .inl rv → Q (some (.inl rv)) (SX, rX, h)) (he45 : x = .inr () → WP l mtX2_isAhead d (0, 0) 45 [some (.inl v0), some (.inl v1), some (.inl v2), none, none] [] (SX, rX, h) Q) : WP l mtX2_isAhead d (0, 0) 2 [some (.inl v0), some (.inl v1), some (.inl v2), some (.inl v3), none] [] (SX, rX, h) Q :=
  mloop_sound (P := fun s => WP l mtX2_isAhead d (0, 0) 2 [some (.inl v0), some (.inl v1), some (.inl v2), some (.inl s), none] [] (SX, rX, h) Q) (K := fun t => t = x) (fun s y hx hc he => TX2_isAhead_2 hd   hx (fun a0 e => hc a0 e) (fun a0 e => hr a0 (he _ e).symm) (fun  e => he45  (he _ e).symm)) _ v3 _ hf rfl
theorem TX2_isAhead {l : Launch} {d : Nat} (hd : 1 ≤ d) {Q : Option mV → mM → Prop} {v0 : Int} {v1 : Int} {v2 : Int} {h : mH}  {x : Int} (hf : fX2_isAhead v0 v1 v2 h = some x) (hr : ∀ rv, x = rv → Q (some (.inl rv)) (SX, rX, h)) : WP l mtX2_isAhead d (0, 0) 0 [some (.inl v0), some (.inl v1), some (.inl v2), none, none] [] (SX, rX, h) Q := by
  unfold fX2_isAhead at hf
  refine WP_iconst rfl ⟨by decide, by decide⟩ ?_
  refine WP_istore_n (i := 3) rfl rfl (Nat.le_of_ble_eq_true rfl) rfl ?_
  obtain ⟨q1, hq1, hf⟩ := obind hf
  refine WP_keep [true, true, true, true, false] (TX2_isAhead_2L hd  hq1 (fun a0 e => ?_) (fun  e => ?_))
  · subst e
    try dsimp only [Sum.elim_inl] at hf
    cases hf
    exact hr _ rfl
  · subst e
    try dsimp only [Sum.elim_inr, Sum.elim_inl] at hf
    refine WP_iconst rfl ⟨by decide, by decide⟩ ?_
    cases hf
    exact WP_zret rfl rfl (by decide) (hr _ rfl)
theorem EX2_isAhead {l : Launch} {d : Nat} (hd : 1 ≤ d) {v0 : Int} {v1 : Int} {v2 : Int} {h : mH}  {rv : Int} (hf : fX2_isAhead v0 v1 v2 h = some rv) : EvV l mtX2_isAhead d [.inl v0, .inl v1, .inl v2] (SX, rX, h) (some (.inl rv)) (SX, rX, h) :=
  Ev.of okX2_isAhead (Nat.le_of_ble_eq_true rfl) (TX2_isAhead hd  hf (fun a0 e => by cases e; exact ⟨rfl, rfl⟩))
def fX1_agree_2 (t0 : Nat) (v1 : Int) (v2 : Int) (h : mH) : Option ((Int) ⊕ (Int ⊕ Unit)) :=
  if v2 < (h t0 2) then (ald h (rfX t0 0) 8 v2).bind fun x2 => (ald h (rfX t0 1) 8 v2).bind fun x3 => (fX2_isAhead v1 x2 x3 h).bind fun x4 => if x4 = 0 then some (.inr (.inl 0)) else some (.inl (jadd v2 1)) else some (.inr (.inr ()))
def fX1_agree (t0 : Nat) (v1 : Int) (h : mH) : Option (Int) :=
  (mloop (fun s => fX1_agree_2 t0 v1 s h) mfu 0).bind (Sum.elim (fun r => some r) (fun q1 => some 1))
theorem TX1_agree_2 {l : Launch} {d : Nat} (hd : 2 ≤ d) {Q : Option mV → mM → Prop} {t0 : Nat} {v1 : Int} {v2 : Int} {h : mH} (hs0 : SX[t0]? = some (1, 3)) {x : (Int) ⊕ (Int ⊕ Unit)} (hf : fX1_agree_2 t0 v1 v2 h = some x) (hc : ∀ (v2' : Int), x = .inl v2' → WP l mtX1_agree d (0, 0) 2 [some (.inr (.inr (.inl t0))), some (.inl v1), some (.inl v2')] [] (SX, rX, h) Q) (hr : ∀ rv, x = .inr (.inl rv) → Q (some (.inl rv)) (SX, rX, h)) (he37 : x = .inr (.inr ()) → WP l mtX1_agree d (0, 0) 37 [some (.inr (.inr (.inl t0))), some (.inl v1), none] [] (SX, rX, h) Q) : WP l mtX1_agree d (0, 0) 2 [some (.inr (.inr (.inl t0))), some (.inl v1), some (.inl v2)] [] (SX, rX, h) Q := by
  unfold fX1_agree_2 at hf
  refine WP_iload_n (i := 2) rfl rfl rfl ?_
  refine WP_aload_n (i := 0) rfl rfl rfl ?_
  refine WP_getI rfl fl1_18 hs0 (by decide) (by decide) (Or.inl rfl) ?_
  refine WP_icmp_ge rfl rfl (fun c1 => ?_) (fun c1 => ?_)
  · have hf := (if_pos c1).symm.trans hf
    refine WP_iload_n (i := 1) rfl rfl rfl ?_
    refine WP_aload_n (i := 0) rfl rfl rfl ?_
    refine WP_getR rfl fl1_9 hs0 (by decide) rfl (wfX1_0 hs0).2 ?_
    refine WP_iload_n (i := 2) rfl rfl rfl ?_
    obtain ⟨x2, hx2, hf⟩ := obind hf
    obtain ⟨bx2, cx2, ex2⟩ := ald_some hx2
    subst ex2
    refine WP_iald rfl (wfX1_0 hs0).1 bx2 cx2 ?_
    refine WP_aload_n (i := 0) rfl rfl rfl ?_
    refine WP_getR rfl fl1_15 hs0 (by decide) rfl (wfX1_1 hs0).2 ?_
    refine WP_iload_n (i := 2) rfl rfl rfl ?_
    obtain ⟨x3, hx3, hf⟩ := obind hf
    obtain ⟨bx3, cx3, ex3⟩ := ald_some hx3
    subst ex3
    refine WP_iald rfl (wfX1_1 hs0).1 bx3 cx3 ?_
    obtain ⟨x4, hx4, hf⟩ := obind hf
    refine WP_cS (EX2_isAhead (by omega)   hx4) skX2_isAhead rfl ml1_22 rfl (by omega) rfl (Nat.le_of_ble_eq_true rfl) ?_
    refine WP_if_ne rfl rfl (fun c6 => ?_) (fun c6 => ?_)
    · have hf := (if_pos c6).symm.trans hf
      refine WP_iconst rfl ⟨by decide, by decide⟩ ?_
      cases hf
      exact WP_zret rfl rfl (by decide) (hr _ rfl)
    · have hf := (if_neg c6).symm.trans hf
      refine WP_iinc rfl rfl (Nat.le_of_ble_eq_true rfl) rfl ?_
      refine WP_goto rfl rfl ?_
      cases hf
      exact WP_keep [true, true, true] (hc _ rfl)
  · have hf := (if_neg c1).symm.trans hf
    cases hf
    exact WP_keep [true, true, false] (he37  rfl)
theorem TX1_agree_2L {l : Launch} {d : Nat} (hd : 2 ≤ d) {Q : Option mV → mM → Prop} {t0 : Nat} {v1 : Int} {v2 : Int} {h : mH} (hs0 : SX[t0]? = some (1, 3)) {n : Nat} {x : Int ⊕ Unit} (hf : mloop (fun s => fX1_agree_2 t0 v1 s h) n v2 = some x) (hr : ∀ rv, x = .inl rv → Q (some (.inl rv)) (SX, rX, h)) (he37 : x = .inr () → WP l mtX1_agree d (0, 0) 37 [some (.inr (.inr (.inl t0))), some (.inl v1), none] [] (SX, rX, h) Q) : WP l mtX1_agree d (0, 0) 2 [some (.inr (.inr (.inl t0))), some (.inl v1), some (.inl v2)] [] (SX, rX, h) Q :=
  mloop_sound (P := fun s => WP l mtX1_agree d (0, 0) 2 [some (.inr (.inr (.inl t0))), some (.inl v1), some (.inl s)] [] (SX, rX, h) Q) (K := fun t => t = x) (fun s y hx hc he => TX1_agree_2 hd hs0  hx (fun a0 e => hc a0 e) (fun a0 e => hr a0 (he _ e).symm) (fun  e => he37  (he _ e).symm)) _ v2 _ hf rfl
theorem TX1_agree {l : Launch} {d : Nat} (hd : 2 ≤ d) {Q : Option mV → mM → Prop} {t0 : Nat} {v1 : Int} {h : mH} (hs0 : SX[t0]? = some (1, 3)) {x : Int} (hf : fX1_agree t0 v1 h = some x) (hr : ∀ rv, x = rv → Q (some (.inl rv)) (SX, rX, h)) : WP l mtX1_agree d (0, 0) 0 [some (.inr (.inr (.inl t0))), some (.inl v1), none] [] (SX, rX, h) Q := by
  unfold fX1_agree at hf
  refine WP_iconst rfl ⟨by decide, by decide⟩ ?_
  refine WP_istore_n (i := 2) rfl rfl (Nat.le_of_ble_eq_true rfl) rfl ?_
  obtain ⟨q1, hq1, hf⟩ := obind hf
  refine WP_keep [true, true, true] (TX1_agree_2L hd hs0 hq1 (fun a0 e => ?_) (fun  e => ?_))
  · subst e
    try dsimp only [Sum.elim_inl] at hf
    cases hf
    exact hr _ rfl
  · subst e
    try dsimp only [Sum.elim_inr, Sum.elim_inl] at hf
    refine WP_iconst rfl ⟨by decide, by decide⟩ ?_
    cases hf
    exact WP_zret rfl rfl (by decide) (hr _ rfl)
theorem EX1_agree {l : Launch} {d : Nat} (hd : 2 ≤ d) {t0 : Nat} {v1 : Int} {h : mH} (hs0 : SX[t0]? = some (1, 3)) {rv : Int} (hf : fX1_agree t0 v1 h = some rv) : EvV l mtX1_agree d [.inr (.inr (.inl t0)), .inl v1] (SX, rX, h) (some (.inl rv)) (SX, rX, h) :=
  Ev.of okX1_agree (Nat.le_of_ble_eq_true rfl) (TX1_agree hd hs0 hf (fun a0 e => by cases e; exact ⟨rfl, rfl⟩))
def fX1_nextFit_2 (t0 : Nat) (t1 : Nat) (v2 : Int) (v3 : Int) (h : mH) : Option ((Int) ⊕ (Int ⊕ Unit)) :=
  if v3 < (h t1 1) then (ald h (rfX t1 0) 5040 v3).bind fun x2 => (fX1_agree t0 x2 h).bind fun x3 => if x3 = 0 then some (.inl (jadd v3 1)) else some (.inr (.inl v3)) else some (.inr (.inr ()))
def fX1_nextFit (t0 : Nat) (t1 : Nat) (v2 : Int) (h : mH) : Option (Int) :=
  (mloop (fun s => fX1_nextFit_2 t0 t1 v2 s h) mfu v2).bind (Sum.elim (fun r => some r) (fun q1 => some (-1)))
theorem TX1_nextFit_2 {l : Launch} {d : Nat} (hd : 3 ≤ d) {Q : Option mV → mM → Prop} {t0 : Nat} {t1 : Nat} {v2 : Int} {v3 : Int} {h : mH} (hs0 : SX[t0]? = some (1, 3)) (hs1 : SX[t1]? = some (2, 4)) {x : (Int) ⊕ (Int ⊕ Unit)} (hf : fX1_nextFit_2 t0 t1 v2 v3 h = some x) (hc : ∀ (v3' : Int), x = .inl v3' → WP l mtX1_nextFit d (0, 0) 2 [some (.inr (.inr (.inl t0))), some (.inr (.inr (.inl t1))), some (.inl v2), some (.inl v3')] [] (SX, rX, h) Q) (hr : ∀ rv, x = .inr (.inl rv) → Q (some (.inl rv)) (SX, rX, h)) (he31 : x = .inr (.inr ()) → WP l mtX1_nextFit d (0, 0) 31 [some (.inr (.inr (.inl t0))), some (.inr (.inr (.inl t1))), some (.inl v2), none] [] (SX, rX, h) Q) : WP l mtX1_nextFit d (0, 0) 2 [some (.inr (.inr (.inl t0))), some (.inr (.inr (.inl t1))), some (.inl v2), some (.inl v3)] [] (SX, rX, h) Q := by
  unfold fX1_nextFit_2 at hf
  refine WP_iload_n (i := 3) rfl rfl rfl ?_
  refine WP_aload_n (i := 1) rfl rfl rfl ?_
  refine WP_getI rfl fl1_28 hs1 (by decide) (by decide) (Or.inl rfl) ?_
  refine WP_icmp_ge rfl rfl (fun c1 => ?_) (fun c1 => ?_)
  · have hf := (if_pos c1).symm.trans hf
    refine WP_aload_n (i := 0) rfl rfl rfl ?_
    refine WP_aload_n (i := 1) rfl rfl rfl ?_
    refine WP_getR rfl fl1_29 hs1 (by decide) rfl (wfX2_0 hs1).2 ?_
    refine WP_iload_n (i := 3) rfl rfl rfl ?_
    obtain ⟨x2, hx2, hf⟩ := obind hf
    obtain ⟨bx2, cx2, ex2⟩ := ald_some hx2
    subst ex2
    refine WP_iald rfl (wfX2_0 hs1).1 bx2 cx2 ?_
    obtain ⟨x3, hx3, hf⟩ := obind hf
    refine WP_cV (EX1_agree (by omega) hs0  hx3) vkX1_agree rfl ml1_32 hs0 rfl (by omega) rfl (Nat.le_of_ble_eq_true rfl) ?_
    refine WP_if_eq rfl rfl (fun c5 => ?_) (fun c5 => ?_)
    · have hf := (if_pos c5).symm.trans hf
      refine WP_iinc rfl rfl (Nat.le_of_ble_eq_true rfl) rfl ?_
      refine WP_goto rfl rfl ?_
      cases hf
      exact WP_keep [true, true, true, true] (hc _ rfl)
    · have hf := (if_neg c5).symm.trans hf
      refine WP_iload_n (i := 3) rfl rfl rfl ?_
      cases hf
      exact WP_iret rfl rfl (hr _ rfl)
  · have hf := (if_neg c1).symm.trans hf
    cases hf
    exact WP_keep [true, true, true, false] (he31  rfl)
theorem TX1_nextFit_2L {l : Launch} {d : Nat} (hd : 3 ≤ d) {Q : Option mV → mM → Prop} {t0 : Nat} {t1 : Nat} {v2 : Int} {v3 : Int} {h : mH} (hs0 : SX[t0]? = some (1, 3)) (hs1 : SX[t1]? = some (2, 4)) {n : Nat} {x : Int ⊕ Unit} (hf : mloop (fun s => fX1_nextFit_2 t0 t1 v2 s h) n v3 = some x) (hr : ∀ rv, x = .inl rv → Q (some (.inl rv)) (SX, rX, h)) (he31 : x = .inr () → WP l mtX1_nextFit d (0, 0) 31 [some (.inr (.inr (.inl t0))), some (.inr (.inr (.inl t1))), some (.inl v2), none] [] (SX, rX, h) Q) : WP l mtX1_nextFit d (0, 0) 2 [some (.inr (.inr (.inl t0))), some (.inr (.inr (.inl t1))), some (.inl v2), some (.inl v3)] [] (SX, rX, h) Q :=
  mloop_sound (P := fun s => WP l mtX1_nextFit d (0, 0) 2 [some (.inr (.inr (.inl t0))), some (.inr (.inr (.inl t1))), some (.inl v2), some (.inl s)] [] (SX, rX, h) Q) (K := fun t => t = x) (fun s y hx hc he => TX1_nextFit_2 hd hs0 hs1  hx (fun a0 e => hc a0 e) (fun a0 e => hr a0 (he _ e).symm) (fun  e => he31  (he _ e).symm)) _ v3 _ hf rfl
theorem TX1_nextFit {l : Launch} {d : Nat} (hd : 3 ≤ d) {Q : Option mV → mM → Prop} {t0 : Nat} {t1 : Nat} {v2 : Int} {h : mH} (hs0 : SX[t0]? = some (1, 3)) (hs1 : SX[t1]? = some (2, 4)) {x : Int} (hf : fX1_nextFit t0 t1 v2 h = some x) (hr : ∀ rv, x = rv → Q (some (.inl rv)) (SX, rX, h)) : WP l mtX1_nextFit d (0, 0) 0 [some (.inr (.inr (.inl t0))), some (.inr (.inr (.inl t1))), some (.inl v2), none] [] (SX, rX, h) Q := by
  unfold fX1_nextFit at hf
  refine WP_iload_n (i := 2) rfl rfl rfl ?_
  refine WP_istore_n (i := 3) rfl rfl (Nat.le_of_ble_eq_true rfl) rfl ?_
  obtain ⟨q1, hq1, hf⟩ := obind hf
  refine WP_keep [true, true, true, true] (TX1_nextFit_2L hd hs0 hs1 hq1 (fun a0 e => ?_) (fun  e => ?_))
  · subst e
    try dsimp only [Sum.elim_inl] at hf
    cases hf
    exact hr _ rfl
  · subst e
    try dsimp only [Sum.elim_inr, Sum.elim_inl] at hf
    refine WP_iconst rfl ⟨by decide, by decide⟩ ?_
    cases hf
    exact WP_iret rfl rfl (hr _ rfl)
theorem EX1_nextFit {l : Launch} {d : Nat} (hd : 3 ≤ d) {t0 : Nat} {t1 : Nat} {v2 : Int} {h : mH} (hs0 : SX[t0]? = some (1, 3)) (hs1 : SX[t1]? = some (2, 4)) {rv : Int} (hf : fX1_nextFit t0 t1 v2 h = some rv) : EvV l mtX1_nextFit d [.inr (.inr (.inl t0)), .inr (.inr (.inl t1)), .inl v2] (SX, rX, h) (some (.inl rv)) (SX, rX, h) :=
  Ev.of okX1_nextFit (Nat.le_of_ble_eq_true rfl) (TX1_nextFit hd hs0 hs1 hf (fun a0 e => by cases e; exact ⟨rfl, rfl⟩))
def fX1_howManyFit_28 (t0 : Nat) (t1 : Nat) (v2 : Int) (v3 : Int) (h : mH) : Option ((Int × Int) ⊕ (Int)) :=
  some (.inl (v2, (jadd v3 1)))
def fX1_howManyFit_4 (t0 : Nat) (t1 : Nat) (v2 : Int) (v3 : Int) (h : mH) : Option ((Int × Int) ⊕ (Int)) :=
  if v3 < (h t1 1) then (ald h (rfX t1 0) 5040 v3).bind fun x2 => (fX1_agree t0 x2 h).bind fun x3 => if x3 = 0 then fX1_howManyFit_28 t0 t1 v2 v3 h else fX1_howManyFit_28 t0 t1 (jadd v2 1) v3 h else some (.inr v2)
def fX1_howManyFit (t0 : Nat) (t1 : Nat) (h : mH) : Option (Int) :=
  (mloop (fun s => fX1_howManyFit_4 t0 t1 s.1 s.2 h) mfu (0, 0)).bind fun q1 => some q1
theorem TX1_howManyFit_28 {l : Launch} {d : Nat} (hd : 3 ≤ d) {Q : Option mV → mM → Prop} {t0 : Nat} {t1 : Nat} {v2 : Int} {v3 : Int} {h : mH} (hs0 : SX[t0]? = some (1, 3)) (hs1 : SX[t1]? = some (2, 4)) {x : (Int × Int) ⊕ (Int)} (hf : fX1_howManyFit_28 t0 t1 v2 v3 h = some x) (hc : ∀ (v2' : Int) (v3' : Int), x = .inl (v2', v3') → WP l mtX1_howManyFit d (0, 0) 4 [some (.inr (.inr (.inl t0))), some (.inr (.inr (.inl t1))), some (.inl v2'), some (.inl v3')] [] (SX, rX, h) Q) (he34 : ∀ (v2' : Int), x = .inr v2' → WP l mtX1_howManyFit d (0, 0) 34 [some (.inr (.inr (.inl t0))), some (.inr (.inr (.inl t1))), some (.inl v2'), none] [] (SX, rX, h) Q) : WP l mtX1_howManyFit d (0, 0) 28 [some (.inr (.inr (.inl t0))), some (.inr (.inr (.inl t1))), some (.inl v2), some (.inl v3)] [] (SX, rX, h) Q := by
  unfold fX1_howManyFit_28 at hf
  refine WP_iinc rfl rfl (Nat.le_of_ble_eq_true rfl) rfl ?_
  refine WP_goto rfl rfl ?_
  cases hf
  exact WP_keep [true, true, true, true] (hc _ _ rfl)
theorem TX1_howManyFit_4 {l : Launch} {d : Nat} (hd : 3 ≤ d) {Q : Option mV → mM → Prop} {t0 : Nat} {t1 : Nat} {v2 : Int} {v3 : Int} {h : mH} (hs0 : SX[t0]? = some (1, 3)) (hs1 : SX[t1]? = some (2, 4)) {x : (Int × Int) ⊕ (Int)} (hf : fX1_howManyFit_4 t0 t1 v2 v3 h = some x) (hc : ∀ (v2' : Int) (v3' : Int), x = .inl (v2', v3') → WP l mtX1_howManyFit d (0, 0) 4 [some (.inr (.inr (.inl t0))), some (.inr (.inr (.inl t1))), some (.inl v2'), some (.inl v3')] [] (SX, rX, h) Q) (he34 : ∀ (v2' : Int), x = .inr v2' → WP l mtX1_howManyFit d (0, 0) 34 [some (.inr (.inr (.inl t0))), some (.inr (.inr (.inl t1))), some (.inl v2'), none] [] (SX, rX, h) Q) : WP l mtX1_howManyFit d (0, 0) 4 [some (.inr (.inr (.inl t0))), some (.inr (.inr (.inl t1))), some (.inl v2), some (.inl v3)] [] (SX, rX, h) Q := by
  unfold fX1_howManyFit_4 at hf
  refine WP_iload_n (i := 3) rfl rfl rfl ?_
  refine WP_aload_n (i := 1) rfl rfl rfl ?_
  refine WP_getI rfl fl1_28 hs1 (by decide) (by decide) (Or.inl rfl) ?_
  refine WP_icmp_ge rfl rfl (fun c1 => ?_) (fun c1 => ?_)
  · have hf := (if_pos c1).symm.trans hf
    refine WP_aload_n (i := 0) rfl rfl rfl ?_
    refine WP_aload_n (i := 1) rfl rfl rfl ?_
    refine WP_getR rfl fl1_29 hs1 (by decide) rfl (wfX2_0 hs1).2 ?_
    refine WP_iload_n (i := 3) rfl rfl rfl ?_
    obtain ⟨x2, hx2, hf⟩ := obind hf
    obtain ⟨bx2, cx2, ex2⟩ := ald_some hx2
    subst ex2
    refine WP_iald rfl (wfX2_0 hs1).1 bx2 cx2 ?_
    obtain ⟨x3, hx3, hf⟩ := obind hf
    refine WP_cV (EX1_agree (by omega) hs0  hx3) vkX1_agree rfl ml1_32 hs0 rfl (by omega) rfl (Nat.le_of_ble_eq_true rfl) ?_
    refine WP_if_eq rfl rfl (fun c5 => ?_) (fun c5 => ?_)
    · have hf := (if_pos c5).symm.trans hf
      exact WP_keep [true, true, true, true] (TX1_howManyFit_28 hd hs0 hs1 hf hc he34)
    · have hf := (if_neg c5).symm.trans hf
      refine WP_iinc rfl rfl (Nat.le_of_ble_eq_true rfl) rfl ?_
      exact WP_keep [true, true, true, true] (TX1_howManyFit_28 hd hs0 hs1 hf hc he34)
  · have hf := (if_neg c1).symm.trans hf
    cases hf
    exact WP_keep [true, true, true, false] (he34 _ rfl)
theorem TX1_howManyFit_4L {l : Launch} {d : Nat} (hd : 3 ≤ d) {Q : Option mV → mM → Prop} {t0 : Nat} {t1 : Nat} {v2 : Int} {v3 : Int} {h : mH} (hs0 : SX[t0]? = some (1, 3)) (hs1 : SX[t1]? = some (2, 4)) {n : Nat} {x : Int} (hf : mloop (fun s => fX1_howManyFit_4 t0 t1 s.1 s.2 h) n (v2, v3) = some x) (he34 : ∀ (v2' : Int), x = v2' → WP l mtX1_howManyFit d (0, 0) 34 [some (.inr (.inr (.inl t0))), some (.inr (.inr (.inl t1))), some (.inl v2'), none] [] (SX, rX, h) Q) : WP l mtX1_howManyFit d (0, 0) 4 [some (.inr (.inr (.inl t0))), some (.inr (.inr (.inl t1))), some (.inl v2), some (.inl v3)] [] (SX, rX, h) Q :=
  mloop_sound (P := fun s => WP l mtX1_howManyFit d (0, 0) 4 [some (.inr (.inr (.inl t0))), some (.inr (.inr (.inl t1))), some (.inl s.1), some (.inl s.2)] [] (SX, rX, h) Q) (K := fun t => t = x) (fun s y hx hc he => TX1_howManyFit_4 hd hs0 hs1  hx (fun a0 a1 e => hc (a0, a1) e) (fun a0 e => he34 a0 (he _ e).symm)) _ (v2, v3) _ hf rfl
theorem TX1_howManyFit {l : Launch} {d : Nat} (hd : 3 ≤ d) {Q : Option mV → mM → Prop} {t0 : Nat} {t1 : Nat} {h : mH} (hs0 : SX[t0]? = some (1, 3)) (hs1 : SX[t1]? = some (2, 4)) {x : Int} (hf : fX1_howManyFit t0 t1 h = some x) (hr : ∀ rv, x = rv → Q (some (.inl rv)) (SX, rX, h)) : WP l mtX1_howManyFit d (0, 0) 0 [some (.inr (.inr (.inl t0))), some (.inr (.inr (.inl t1))), none, none] [] (SX, rX, h) Q := by
  unfold fX1_howManyFit at hf
  refine WP_iconst rfl ⟨by decide, by decide⟩ ?_
  refine WP_istore_n (i := 2) rfl rfl (Nat.le_of_ble_eq_true rfl) rfl ?_
  refine WP_iconst rfl ⟨by decide, by decide⟩ ?_
  refine WP_istore_n (i := 3) rfl rfl (Nat.le_of_ble_eq_true rfl) rfl ?_
  obtain ⟨q1, hq1, hf⟩ := obind hf
  refine WP_keep [true, true, true, true] (TX1_howManyFit_4L hd hs0 hs1 hq1 (fun yq10 e => ?_))
  subst e
  refine WP_iload_n (i := 2) rfl rfl rfl ?_
  cases hf
  exact WP_iret rfl rfl (hr _ rfl)
theorem EX1_howManyFit {l : Launch} {d : Nat} (hd : 3 ≤ d) {t0 : Nat} {t1 : Nat} {h : mH} (hs0 : SX[t0]? = some (1, 3)) (hs1 : SX[t1]? = some (2, 4)) {rv : Int} (hf : fX1_howManyFit t0 t1 h = some rv) : EvV l mtX1_howManyFit d [.inr (.inr (.inl t0)), .inr (.inr (.inl t1))] (SX, rX, h) (some (.inl rv)) (SX, rX, h) :=
  Ev.of okX1_howManyFit (Nat.le_of_ble_eq_true rfl) (TX1_howManyFit hd hs0 hs1 hf (fun a0 e => by cases e; exact ⟨rfl, rfl⟩))
def fX1_weeksThatFit_36 (t0 : Nat) (t1 : Nat) (v2 : Int) (v3 : Int) (h : mH) : Option ((Int × Int) ⊕ (Int)) :=
  some (.inl (v2, (jadd v3 1)))
def fX1_weeksThatFit_4 (t0 : Nat) (t1 : Nat) (v2 : Int) (v3 : Int) (h : mH) : Option ((Int × Int) ⊕ (Int)) :=
  if v3 < 4 then if v3 < (h t1 3) then (ald h (rfX t1 4) 4 v3).bind fun x3 => (fX1_agree t0 x3 h).bind fun x4 => if x4 = 0 then fX1_weeksThatFit_36 t0 t1 v2 v3 h else fX1_weeksThatFit_36 t0 t1 (jor v2 (jshl 1 v3)) v3 h else some (.inr v2) else some (.inr v2)
def fX1_weeksThatFit (t0 : Nat) (t1 : Nat) (h : mH) : Option (Int) :=
  (mloop (fun s => fX1_weeksThatFit_4 t0 t1 s.1 s.2 h) mfu (0, 0)).bind fun q1 => some q1
theorem TX1_weeksThatFit_36 {l : Launch} {d : Nat} (hd : 3 ≤ d) {Q : Option mV → mM → Prop} {t0 : Nat} {t1 : Nat} {v2 : Int} {v3 : Int} {h : mH} (hs0 : SX[t0]? = some (1, 3)) (hs1 : SX[t1]? = some (5, 5)) {x : (Int × Int) ⊕ (Int)} (hf : fX1_weeksThatFit_36 t0 t1 v2 v3 h = some x) (hc : ∀ (v2' : Int) (v3' : Int), x = .inl (v2', v3') → WP l mtX1_weeksThatFit d (0, 0) 4 [some (.inr (.inr (.inl t0))), some (.inr (.inr (.inl t1))), some (.inl v2'), some (.inl v3')] [] (SX, rX, h) Q) (he42 : ∀ (v2' : Int), x = .inr v2' → WP l mtX1_weeksThatFit d (0, 0) 42 [some (.inr (.inr (.inl t0))), some (.inr (.inr (.inl t1))), some (.inl v2'), none] [] (SX, rX, h) Q) : WP l mtX1_weeksThatFit d (0, 0) 36 [some (.inr (.inr (.inl t0))), some (.inr (.inr (.inl t1))), some (.inl v2), some (.inl v3)] [] (SX, rX, h) Q := by
  unfold fX1_weeksThatFit_36 at hf
  refine WP_iinc rfl rfl (Nat.le_of_ble_eq_true rfl) rfl ?_
  refine WP_goto rfl rfl ?_
  cases hf
  exact WP_keep [true, true, true, true] (hc _ _ rfl)
theorem TX1_weeksThatFit_4 {l : Launch} {d : Nat} (hd : 3 ≤ d) {Q : Option mV → mM → Prop} {t0 : Nat} {t1 : Nat} {v2 : Int} {v3 : Int} {h : mH} (hs0 : SX[t0]? = some (1, 3)) (hs1 : SX[t1]? = some (5, 5)) {x : (Int × Int) ⊕ (Int)} (hf : fX1_weeksThatFit_4 t0 t1 v2 v3 h = some x) (hc : ∀ (v2' : Int) (v3' : Int), x = .inl (v2', v3') → WP l mtX1_weeksThatFit d (0, 0) 4 [some (.inr (.inr (.inl t0))), some (.inr (.inr (.inl t1))), some (.inl v2'), some (.inl v3')] [] (SX, rX, h) Q) (he42 : ∀ (v2' : Int), x = .inr v2' → WP l mtX1_weeksThatFit d (0, 0) 42 [some (.inr (.inr (.inl t0))), some (.inr (.inr (.inl t1))), some (.inl v2'), none] [] (SX, rX, h) Q) : WP l mtX1_weeksThatFit d (0, 0) 4 [some (.inr (.inr (.inl t0))), some (.inr (.inr (.inl t1))), some (.inl v2), some (.inl v3)] [] (SX, rX, h) Q := by
  unfold fX1_weeksThatFit_4 at hf
  refine WP_iload_n (i := 3) rfl rfl rfl ?_
  refine WP_iconst rfl ⟨by decide, by decide⟩ ?_
  refine WP_icmp_ge rfl rfl (fun c1 => ?_) (fun c1 => ?_)
  · have hf := (if_pos c1).symm.trans hf
    refine WP_iload_n (i := 3) rfl rfl rfl ?_
    refine WP_aload_n (i := 1) rfl rfl rfl ?_
    refine WP_getI rfl fl1_36 hs1 (by decide) (by decide) (Or.inl rfl) ?_
    refine WP_icmp_ge rfl rfl (fun c2 => ?_) (fun c2 => ?_)
    · have hf := (if_pos c2).symm.trans hf
      refine WP_aload_n (i := 0) rfl rfl rfl ?_
      refine WP_aload_n (i := 1) rfl rfl rfl ?_
      refine WP_getR rfl fl1_41 hs1 (by decide) rfl (wfX5_4 hs1).2 ?_
      refine WP_iload_n (i := 3) rfl rfl rfl ?_
      obtain ⟨x3, hx3, hf⟩ := obind hf
      obtain ⟨bx3, cx3, ex3⟩ := ald_some hx3
      subst ex3
      refine WP_iald rfl (wfX5_4 hs1).1 bx3 cx3 ?_
      obtain ⟨x4, hx4, hf⟩ := obind hf
      refine WP_cV (EX1_agree (by omega) hs0  hx4) vkX1_agree rfl ml1_32 hs0 rfl (by omega) rfl (Nat.le_of_ble_eq_true rfl) ?_
      refine WP_if_eq rfl rfl (fun c6 => ?_) (fun c6 => ?_)
      · have hf := (if_pos c6).symm.trans hf
        exact WP_keep [true, true, true, true] (TX1_weeksThatFit_36 hd hs0 hs1 hf hc he42)
      · have hf := (if_neg c6).symm.trans hf
        refine WP_iload_n (i := 2) rfl rfl rfl ?_
        refine WP_iconst rfl ⟨by decide, by decide⟩ ?_
        refine WP_iload_n (i := 3) rfl rfl rfl ?_
        refine WP_ishl rfl ?_
        refine WP_ior rfl ?_
        refine WP_istore_n (i := 2) rfl rfl (Nat.le_of_ble_eq_true rfl) rfl ?_
        exact WP_keep [true, true, true, true] (TX1_weeksThatFit_36 hd hs0 hs1 hf hc he42)
    · have hf := (if_neg c2).symm.trans hf
      cases hf
      exact WP_keep [true, true, true, false] (he42 _ rfl)
  · have hf := (if_neg c1).symm.trans hf
    cases hf
    exact WP_keep [true, true, true, false] (he42 _ rfl)
theorem TX1_weeksThatFit_4L {l : Launch} {d : Nat} (hd : 3 ≤ d) {Q : Option mV → mM → Prop} {t0 : Nat} {t1 : Nat} {v2 : Int} {v3 : Int} {h : mH} (hs0 : SX[t0]? = some (1, 3)) (hs1 : SX[t1]? = some (5, 5)) {n : Nat} {x : Int} (hf : mloop (fun s => fX1_weeksThatFit_4 t0 t1 s.1 s.2 h) n (v2, v3) = some x) (he42 : ∀ (v2' : Int), x = v2' → WP l mtX1_weeksThatFit d (0, 0) 42 [some (.inr (.inr (.inl t0))), some (.inr (.inr (.inl t1))), some (.inl v2'), none] [] (SX, rX, h) Q) : WP l mtX1_weeksThatFit d (0, 0) 4 [some (.inr (.inr (.inl t0))), some (.inr (.inr (.inl t1))), some (.inl v2), some (.inl v3)] [] (SX, rX, h) Q :=
  mloop_sound (P := fun s => WP l mtX1_weeksThatFit d (0, 0) 4 [some (.inr (.inr (.inl t0))), some (.inr (.inr (.inl t1))), some (.inl s.1), some (.inl s.2)] [] (SX, rX, h) Q) (K := fun t => t = x) (fun s y hx hc he => TX1_weeksThatFit_4 hd hs0 hs1  hx (fun a0 a1 e => hc (a0, a1) e) (fun a0 e => he42 a0 (he _ e).symm)) _ (v2, v3) _ hf rfl
theorem TX1_weeksThatFit {l : Launch} {d : Nat} (hd : 3 ≤ d) {Q : Option mV → mM → Prop} {t0 : Nat} {t1 : Nat} {h : mH} (hs0 : SX[t0]? = some (1, 3)) (hs1 : SX[t1]? = some (5, 5)) {x : Int} (hf : fX1_weeksThatFit t0 t1 h = some x) (hr : ∀ rv, x = rv → Q (some (.inl rv)) (SX, rX, h)) : WP l mtX1_weeksThatFit d (0, 0) 0 [some (.inr (.inr (.inl t0))), some (.inr (.inr (.inl t1))), none, none] [] (SX, rX, h) Q := by
  unfold fX1_weeksThatFit at hf
  refine WP_iconst rfl ⟨by decide, by decide⟩ ?_
  refine WP_istore_n (i := 2) rfl rfl (Nat.le_of_ble_eq_true rfl) rfl ?_
  refine WP_iconst rfl ⟨by decide, by decide⟩ ?_
  refine WP_istore_n (i := 3) rfl rfl (Nat.le_of_ble_eq_true rfl) rfl ?_
  obtain ⟨q1, hq1, hf⟩ := obind hf
  refine WP_keep [true, true, true, true] (TX1_weeksThatFit_4L hd hs0 hs1 hq1 (fun yq10 e => ?_))
  subst e
  refine WP_iload_n (i := 2) rfl rfl rfl ?_
  cases hf
  exact WP_iret rfl rfl (hr _ rfl)
theorem EX1_weeksThatFit {l : Launch} {d : Nat} (hd : 3 ≤ d) {t0 : Nat} {t1 : Nat} {h : mH} (hs0 : SX[t0]? = some (1, 3)) (hs1 : SX[t1]? = some (5, 5)) {rv : Int} (hf : fX1_weeksThatFit t0 t1 h = some rv) : EvV l mtX1_weeksThatFit d [.inr (.inr (.inl t0)), .inr (.inr (.inl t1))] (SX, rX, h) (some (.inl rv)) (SX, rX, h) :=
  Ev.of okX1_weeksThatFit (Nat.le_of_ble_eq_true rfl) (TX1_weeksThatFit hd hs0 hs1 hf (fun a0 e => by cases e; exact ⟨rfl, rfl⟩))
def fX2_dayAt (t0 : Nat) (v1 : Int) (v2 : Int) (h : mH) : Option (Int) :=
  (ald h (rfX t0 0) 5040 v1).bind fun x1 => (fX2_dayIn x1 v2 h).bind fun x2 => some x2
theorem TX2_dayAt {l : Launch} {d : Nat} (hd : 1 ≤ d) {Q : Option mV → mM → Prop} {t0 : Nat} {v1 : Int} {v2 : Int} {h : mH} (hs0 : SX[t0]? = some (2, 4)) {x : Int} (hf : fX2_dayAt t0 v1 v2 h = some x) (hr : ∀ rv, x = rv → Q (some (.inl rv)) (SX, rX, h)) : WP l mtX2_dayAt d (0, 0) 0 [some (.inr (.inr (.inl t0))), some (.inl v1), some (.inl v2)] [] (SX, rX, h) Q := by
  unfold fX2_dayAt at hf
  refine WP_aload_n (i := 0) rfl rfl rfl ?_
  refine WP_getR rfl fl2_9 hs0 (by decide) rfl (wfX2_0 hs0).2 ?_
  refine WP_iload_n (i := 1) rfl rfl rfl ?_
  obtain ⟨x1, hx1, hf⟩ := obind hf
  obtain ⟨bx1, cx1, ex1⟩ := ald_some hx1
  subst ex1
  refine WP_iald rfl (wfX2_0 hs0).1 bx1 cx1 ?_
  refine WP_iload_n (i := 2) rfl rfl rfl ?_
  obtain ⟨x2, hx2, hf⟩ := obind hf
  refine WP_cS (EX2_dayIn (by omega)   hx2) skX2_dayIn rfl ml2_23 rfl (by omega) rfl (Nat.le_of_ble_eq_true rfl) ?_
  cases hf
  exact WP_iret rfl rfl (hr _ rfl)
theorem EX2_dayAt {l : Launch} {d : Nat} (hd : 1 ≤ d) {t0 : Nat} {v1 : Int} {v2 : Int} {h : mH} (hs0 : SX[t0]? = some (2, 4)) {rv : Int} (hf : fX2_dayAt t0 v1 v2 h = some rv) : EvV l mtX2_dayAt d [.inr (.inr (.inl t0)), .inl v1, .inl v2] (SX, rX, h) (some (.inl rv)) (SX, rX, h) :=
  Ev.of okX2_dayAt (Nat.le_of_ble_eq_true rfl) (TX2_dayAt hd hs0 hf (fun a0 e => by cases e; exact ⟨rfl, rfl⟩))
def fX1_dayInAll_64 (t0 : Nat) (t1 : Nat) (v2 : Int) (v4 : Int) (v5 : Int) (h : mH) : Option ((Int) ⊕ (Int ⊕ Unit)) :=
  some (.inl (jadd v5 1))
def fX1_dayInAll_27 (t0 : Nat) (t1 : Nat) (v2 : Int) (v4 : Int) (v5 : Int) (h : mH) : Option ((Int) ⊕ (Int ⊕ Unit)) :=
  if v5 < (h t1 1) then (fX2_dayAt t1 v5 v2 h).bind fun x2 => if x2 = v4 then fX1_dayInAll_64 t0 t1 v2 v4 v5 h else (ald h (rfX t1 0) 5040 v5).bind fun x5 => (fX1_agree t0 x5 h).bind fun x6 => if x6 = 0 then fX1_dayInAll_64 t0 t1 v2 v4 v5 h else some (.inr (.inl (-1))) else some (.inr (.inr ()))
def fX1_dayInAll (t0 : Nat) (t1 : Nat) (v2 : Int) (h : mH) : Option (Int) :=
  (fX1_nextFit t0 t1 0 h).bind fun x1 => if x1 = (-1) then some (-1) else (fX2_dayAt t1 x1 v2 h).bind fun x4 => (mloop (fun s => fX1_dayInAll_27 t0 t1 v2 x4 s h) mfu (jadd x1 1)).bind (Sum.elim (fun r => some r) (fun q6 => some x4))
theorem TX1_dayInAll_64 {l : Launch} {d : Nat} (hd : 4 ≤ d) {Q : Option mV → mM → Prop} {t0 : Nat} {t1 : Nat} {v2 : Int} {v4 : Int} {v5 : Int} {h : mH} (hs0 : SX[t0]? = some (1, 3)) (hs1 : SX[t1]? = some (2, 4)) {x : (Int) ⊕ (Int ⊕ Unit)} (hf : fX1_dayInAll_64 t0 t1 v2 v4 v5 h = some x) (hc : ∀ (v5' : Int), x = .inl v5' → WP l mtX1_dayInAll d (0, 0) 27 [some (.inr (.inr (.inl t0))), some (.inr (.inr (.inl t1))), some (.inl v2), none, some (.inl v4), some (.inl v5')] [] (SX, rX, h) Q) (hr : ∀ rv, x = .inr (.inl rv) → Q (some (.inl rv)) (SX, rX, h)) (he70 : x = .inr (.inr ()) → WP l mtX1_dayInAll d (0, 0) 70 [some (.inr (.inr (.inl t0))), some (.inr (.inr (.inl t1))), some (.inl v2), none, some (.inl v4), none] [] (SX, rX, h) Q) : WP l mtX1_dayInAll d (0, 0) 64 [some (.inr (.inr (.inl t0))), some (.inr (.inr (.inl t1))), some (.inl v2), none, some (.inl v4), some (.inl v5)] [] (SX, rX, h) Q := by
  unfold fX1_dayInAll_64 at hf
  refine WP_iinc rfl rfl (Nat.le_of_ble_eq_true rfl) rfl ?_
  refine WP_goto rfl rfl ?_
  cases hf
  exact WP_keep [true, true, true, false, true, true] (hc _ rfl)
theorem TX1_dayInAll_27 {l : Launch} {d : Nat} (hd : 4 ≤ d) {Q : Option mV → mM → Prop} {t0 : Nat} {t1 : Nat} {v2 : Int} {v4 : Int} {v5 : Int} {h : mH} (hs0 : SX[t0]? = some (1, 3)) (hs1 : SX[t1]? = some (2, 4)) {x : (Int) ⊕ (Int ⊕ Unit)} (hf : fX1_dayInAll_27 t0 t1 v2 v4 v5 h = some x) (hc : ∀ (v5' : Int), x = .inl v5' → WP l mtX1_dayInAll d (0, 0) 27 [some (.inr (.inr (.inl t0))), some (.inr (.inr (.inl t1))), some (.inl v2), none, some (.inl v4), some (.inl v5')] [] (SX, rX, h) Q) (hr : ∀ rv, x = .inr (.inl rv) → Q (some (.inl rv)) (SX, rX, h)) (he70 : x = .inr (.inr ()) → WP l mtX1_dayInAll d (0, 0) 70 [some (.inr (.inr (.inl t0))), some (.inr (.inr (.inl t1))), some (.inl v2), none, some (.inl v4), none] [] (SX, rX, h) Q) : WP l mtX1_dayInAll d (0, 0) 27 [some (.inr (.inr (.inl t0))), some (.inr (.inr (.inl t1))), some (.inl v2), none, some (.inl v4), some (.inl v5)] [] (SX, rX, h) Q := by
  unfold fX1_dayInAll_27 at hf
  refine WP_iload (i := 5) rfl rfl ?_
  refine WP_aload_n (i := 1) rfl rfl rfl ?_
  refine WP_getI rfl fl1_28 hs1 (by decide) (by decide) (Or.inl rfl) ?_
  refine WP_icmp_ge rfl rfl (fun c1 => ?_) (fun c1 => ?_)
  · have hf := (if_pos c1).symm.trans hf
    refine WP_aload_n (i := 1) rfl rfl rfl ?_
    refine WP_iload (i := 5) rfl rfl ?_
    refine WP_iload_n (i := 2) rfl rfl rfl ?_
    obtain ⟨x2, hx2, hf⟩ := obind hf
    refine WP_cV (EX2_dayAt (by omega) hs1  hx2) vkX2_dayAt rfl ml1_48 hs1 rfl (by omega) rfl (Nat.le_of_ble_eq_true rfl) ?_
    refine WP_iload (i := 4) rfl rfl ?_
    refine WP_icmp_eq rfl rfl (fun c4 => ?_) (fun c4 => ?_)
    · have hf := (if_pos c4).symm.trans hf
      exact WP_keep [true, true, true, false, true, true] (TX1_dayInAll_64 hd hs0 hs1 hf hc hr he70)
    · have hf := (if_neg c4).symm.trans hf
      refine WP_aload_n (i := 0) rfl rfl rfl ?_
      refine WP_aload_n (i := 1) rfl rfl rfl ?_
      refine WP_getR rfl fl1_29 hs1 (by decide) rfl (wfX2_0 hs1).2 ?_
      refine WP_iload (i := 5) rfl rfl ?_
      obtain ⟨x5, hx5, hf⟩ := obind hf
      obtain ⟨bx5, cx5, ex5⟩ := ald_some hx5
      subst ex5
      refine WP_iald rfl (wfX2_0 hs1).1 bx5 cx5 ?_
      obtain ⟨x6, hx6, hf⟩ := obind hf
      refine WP_cV (EX1_agree (by omega) hs0  hx6) vkX1_agree rfl ml1_32 hs0 rfl (by omega) rfl (Nat.le_of_ble_eq_true rfl) ?_
      refine WP_if_eq rfl rfl (fun c8 => ?_) (fun c8 => ?_)
      · have hf := (if_pos c8).symm.trans hf
        exact WP_keep [true, true, true, false, true, true] (TX1_dayInAll_64 hd hs0 hs1 hf hc hr he70)
      · have hf := (if_neg c8).symm.trans hf
        refine WP_iconst rfl ⟨by decide, by decide⟩ ?_
        cases hf
        exact WP_iret rfl rfl (hr _ rfl)
  · have hf := (if_neg c1).symm.trans hf
    cases hf
    exact WP_keep [true, true, true, false, true, false] (he70  rfl)
theorem TX1_dayInAll_27L {l : Launch} {d : Nat} (hd : 4 ≤ d) {Q : Option mV → mM → Prop} {t0 : Nat} {t1 : Nat} {v2 : Int} {v4 : Int} {v5 : Int} {h : mH} (hs0 : SX[t0]? = some (1, 3)) (hs1 : SX[t1]? = some (2, 4)) {n : Nat} {x : Int ⊕ Unit} (hf : mloop (fun s => fX1_dayInAll_27 t0 t1 v2 v4 s h) n v5 = some x) (hr : ∀ rv, x = .inl rv → Q (some (.inl rv)) (SX, rX, h)) (he70 : x = .inr () → WP l mtX1_dayInAll d (0, 0) 70 [some (.inr (.inr (.inl t0))), some (.inr (.inr (.inl t1))), some (.inl v2), none, some (.inl v4), none] [] (SX, rX, h) Q) : WP l mtX1_dayInAll d (0, 0) 27 [some (.inr (.inr (.inl t0))), some (.inr (.inr (.inl t1))), some (.inl v2), none, some (.inl v4), some (.inl v5)] [] (SX, rX, h) Q :=
  mloop_sound (P := fun s => WP l mtX1_dayInAll d (0, 0) 27 [some (.inr (.inr (.inl t0))), some (.inr (.inr (.inl t1))), some (.inl v2), none, some (.inl v4), some (.inl s)] [] (SX, rX, h) Q) (K := fun t => t = x) (fun s y hx hc he => TX1_dayInAll_27 hd hs0 hs1  hx (fun a0 e => hc a0 e) (fun a0 e => hr a0 (he _ e).symm) (fun  e => he70  (he _ e).symm)) _ v5 _ hf rfl
theorem TX1_dayInAll {l : Launch} {d : Nat} (hd : 4 ≤ d) {Q : Option mV → mM → Prop} {t0 : Nat} {t1 : Nat} {v2 : Int} {h : mH} (hs0 : SX[t0]? = some (1, 3)) (hs1 : SX[t1]? = some (2, 4)) {x : Int} (hf : fX1_dayInAll t0 t1 v2 h = some x) (hr : ∀ rv, x = rv → Q (some (.inl rv)) (SX, rX, h)) : WP l mtX1_dayInAll d (0, 0) 0 [some (.inr (.inr (.inl t0))), some (.inr (.inr (.inl t1))), some (.inl v2), none, none, none] [] (SX, rX, h) Q := by
  unfold fX1_dayInAll at hf
  refine WP_aload_n (i := 0) rfl rfl rfl ?_
  refine WP_aload_n (i := 1) rfl rfl rfl ?_
  refine WP_iconst rfl ⟨by decide, by decide⟩ ?_
  obtain ⟨x1, hx1, hf⟩ := obind hf
  refine WP_cV (EX1_nextFit (by omega) hs0 hs1  hx1) vkX1_nextFit rfl ml1_44 hs0 rfl (by omega) rfl (Nat.le_of_ble_eq_true rfl) ?_
  refine WP_istore_n (i := 3) rfl rfl (Nat.le_of_ble_eq_true rfl) rfl ?_
  refine WP_iload_n (i := 3) rfl rfl rfl ?_
  refine WP_iconst rfl ⟨by decide, by decide⟩ ?_
  refine WP_icmp_ne rfl rfl (fun c3 => ?_) (fun c3 => ?_)
  · have hf := (if_pos c3).symm.trans hf
    refine WP_iconst rfl ⟨by decide, by decide⟩ ?_
    cases hf
    exact WP_iret rfl rfl (hr _ rfl)
  · have hf := (if_neg c3).symm.trans hf
    refine WP_aload_n (i := 1) rfl rfl rfl ?_
    refine WP_iload_n (i := 3) rfl rfl rfl ?_
    refine WP_iload_n (i := 2) rfl rfl rfl ?_
    obtain ⟨x4, hx4, hf⟩ := obind hf
    refine WP_cV (EX2_dayAt (by omega) hs1  hx4) vkX2_dayAt rfl ml1_48 hs1 rfl (by omega) rfl (Nat.le_of_ble_eq_true rfl) ?_
    refine WP_istore (i := 4) rfl (Nat.le_of_ble_eq_true rfl) rfl ?_
    refine WP_iload_n (i := 3) rfl rfl rfl ?_
    refine WP_iconst rfl ⟨by decide, by decide⟩ ?_
    refine WP_iadd rfl ?_
    refine WP_istore (i := 5) rfl (Nat.le_of_ble_eq_true rfl) rfl ?_
    obtain ⟨q6, hq6, hf⟩ := obind hf
    refine WP_keep [true, true, true, false, true, true] (TX1_dayInAll_27L hd hs0 hs1 hq6 (fun a0 e => ?_) (fun  e => ?_))
    · subst e
      try dsimp only [Sum.elim_inl] at hf
      cases hf
      exact hr _ rfl
    · subst e
      try dsimp only [Sum.elim_inr, Sum.elim_inl] at hf
      refine WP_iload (i := 4) rfl rfl ?_
      cases hf
      exact WP_iret rfl rfl (hr _ rfl)
theorem EX1_dayInAll {l : Launch} {d : Nat} (hd : 4 ≤ d) {t0 : Nat} {t1 : Nat} {v2 : Int} {h : mH} (hs0 : SX[t0]? = some (1, 3)) (hs1 : SX[t1]? = some (2, 4)) {rv : Int} (hf : fX1_dayInAll t0 t1 v2 h = some rv) : EvV l mtX1_dayInAll d [.inr (.inr (.inl t0)), .inr (.inr (.inl t1)), .inl v2] (SX, rX, h) (some (.inl rv)) (SX, rX, h) :=
  Ev.of okX1_dayInAll (Nat.le_of_ble_eq_true rfl) (TX1_dayInAll hd hs0 hs1 hf (fun a0 e => by cases e; exact ⟨rfl, rfl⟩))
def fX8_isDay_15 (v0 : Int) (s0 : Int) (h : mH) : Option (Int) :=
  if s0 = 0 ∨ s0 = 1 then some s0 else none
def fX8_isDay_14 (v0 : Int) (h : mH) : Option (Int) :=
  fX8_isDay_15 v0 0 h
def fX8_isDay (v0 : Int) (h : mH) : Option (Int) :=
  if v0 < 0 then fX8_isDay_14 v0 h else if v0 < 7 then fX8_isDay_15 v0 1 h else fX8_isDay_14 v0 h
theorem TX8_isDay_15 {l : Launch} {d : Nat} (hd : 0 ≤ d) {Q : Option mV → mM → Prop} {v0 : Int} {s0 : Int} {h : mH}  {x : Int} (hf : fX8_isDay_15 v0 s0 h = some x) (hr : ∀ rv, x = rv → Q (some (.inl rv)) (SX, rX, h)) : WP l mtX8_isDay d (0, 0) 15 [some (.inl v0)] [.inl s0] (SX, rX, h) Q := by
  unfold fX8_isDay_15 at hf
  obtain ⟨z1, hf⟩ := osome hf
  cases hf
  exact WP_zret rfl rfl z1 (hr _ rfl)
theorem TX8_isDay_14 {l : Launch} {d : Nat} (hd : 0 ≤ d) {Q : Option mV → mM → Prop} {v0 : Int} {h : mH}  {x : Int} (hf : fX8_isDay_14 v0 h = some x) (hr : ∀ rv, x = rv → Q (some (.inl rv)) (SX, rX, h)) : WP l mtX8_isDay d (0, 0) 14 [some (.inl v0)] [] (SX, rX, h) Q := by
  unfold fX8_isDay_14 at hf
  refine WP_iconst rfl ⟨by decide, by decide⟩ ?_
  exact WP_keep [true] (TX8_isDay_15 hd  hf hr)
theorem TX8_isDay {l : Launch} {d : Nat} (hd : 0 ≤ d) {Q : Option mV → mM → Prop} {v0 : Int} {h : mH}  {x : Int} (hf : fX8_isDay v0 h = some x) (hr : ∀ rv, x = rv → Q (some (.inl rv)) (SX, rX, h)) : WP l mtX8_isDay d (0, 0) 0 [some (.inl v0)] [] (SX, rX, h) Q := by
  unfold fX8_isDay at hf
  refine WP_iload_n (i := 0) rfl rfl rfl ?_
  refine WP_if_lt rfl rfl (fun c1 => ?_) (fun c1 => ?_)
  · have hf := (if_pos c1).symm.trans hf
    exact WP_keep [true] (TX8_isDay_14 hd  hf hr)
  · have hf := (if_neg c1).symm.trans hf
    refine WP_iload_n (i := 0) rfl rfl rfl ?_
    refine WP_bipush rfl ⟨by decide, by decide⟩ (by decide) ?_
    refine WP_icmp_ge rfl rfl (fun c2 => ?_) (fun c2 => ?_)
    · have hf := (if_pos c2).symm.trans hf
      refine WP_iconst rfl ⟨by decide, by decide⟩ ?_
      refine WP_goto rfl rfl ?_
      exact WP_keep [true] (TX8_isDay_15 hd  hf hr)
    · have hf := (if_neg c2).symm.trans hf
      exact WP_keep [true] (TX8_isDay_14 hd  hf hr)
theorem EX8_isDay {l : Launch} {d : Nat} (hd : 0 ≤ d) {v0 : Int} {h : mH}  {rv : Int} (hf : fX8_isDay v0 h = some rv) : EvV l mtX8_isDay d [.inl v0] (SX, rX, h) (some (.inl rv)) (SX, rX, h) :=
  Ev.of okX8_isDay (Nat.le_of_ble_eq_true rfl) (TX8_isDay hd  hf (fun a0 e => by cases e; exact ⟨rfl, rfl⟩))
def fX2_packedOf_15 (v0 : Int) (v1 : Int) (v2 : Int) (v3 : Int) (v4 : Int) (h : mH) : Option ((Int × Int × Int × Int) ⊕ (Int ⊕ (Int × Int))) :=
  if v4 < 7 then (fX8_isDay (jrem v1 10) h).bind fun x2 => if x2 = 0 then some (.inr (.inl (-1))) else if (jand (jshr v3 (jrem v1 10)) 1) = 0 then some (.inl ((jdiv v1 10), (jor v2 (jshl (jrem v1 10) (jmul 3 v4))), (jor v3 (jshl 1 (jrem v1 10))), (jadd v4 1))) else some (.inr (.inl (-1))) else some (.inr (.inr (v1, v2)))
def fX2_packedOf_84 (v0 : Int) (s0 : Int) (h : mH) : Option (Int) :=
  some s0
def fX2_packedOf (v0 : Int) (h : mH) : Option (Int) :=
  if v0 < 0 then some (-1) else (mloop (fun s => fX2_packedOf_15 v0 s.1 s.2.1 s.2.2.1 s.2.2.2 h) mfu (v0, 0, 0, 0)).bind (Sum.elim (fun r => some r) (fun q2 => if q2.1 = 0 then fX2_packedOf_84 v0 q2.2 h else fX2_packedOf_84 v0 (-1) h))
theorem TX2_packedOf_15 {l : Launch} {d : Nat} (hd : 1 ≤ d) {Q : Option mV → mM → Prop} {v0 : Int} {v1 : Int} {v2 : Int} {v3 : Int} {v4 : Int} {h : mH}  {x : (Int × Int × Int × Int) ⊕ (Int ⊕ (Int × Int))} (hf : fX2_packedOf_15 v0 v1 v2 v3 v4 h = some x) (hc : ∀ (v1' : Int) (v2' : Int) (v3' : Int) (v4' : Int), x = .inl (v1', v2', v3', v4') → WP l mtX2_packedOf d (0, 0) 15 [some (.inl v0), some (.inl v1'), some (.inl v2'), some (.inl v3'), some (.inl v4'), none] [] (SX, rX, h) Q) (hr : ∀ rv, x = .inr (.inl rv) → Q (some (.inl rv)) (SX, rX, h)) (he75 : ∀ (v1' : Int) (v2' : Int), x = .inr (.inr (v1', v2')) → WP l mtX2_packedOf d (0, 0) 75 [some (.inl v0), some (.inl v1'), some (.inl v2'), none, none, none] [] (SX, rX, h) Q) : WP l mtX2_packedOf d (0, 0) 15 [some (.inl v0), some (.inl v1), some (.inl v2), some (.inl v3), some (.inl v4), none] [] (SX, rX, h) Q := by
  unfold fX2_packedOf_15 at hf
  refine WP_iload (i := 4) rfl rfl ?_
  refine WP_bipush rfl ⟨by decide, by decide⟩ (by decide) ?_
  refine WP_icmp_ge rfl rfl (fun c1 => ?_) (fun c1 => ?_)
  · have hf := (if_pos c1).symm.trans hf
    refine WP_iload_n (i := 1) rfl rfl rfl ?_
    refine WP_bipush rfl ⟨by decide, by decide⟩ (by decide) ?_
    refine WP_irem rfl (by decide) ?_
    refine WP_istore (i := 5) rfl (Nat.le_of_ble_eq_true rfl) rfl ?_
    refine WP_iload_n (i := 1) rfl rfl rfl ?_
    refine WP_bipush rfl ⟨by decide, by decide⟩ (by decide) ?_
    refine WP_idiv rfl (by decide) ?_
    refine WP_istore_n (i := 1) rfl rfl (Nat.le_of_ble_eq_true rfl) rfl ?_
    refine WP_iload (i := 5) rfl rfl ?_
    obtain ⟨x2, hx2, hf⟩ := obind hf
    refine WP_cSN (host := "MondayDeal") (EX8_isDay (by omega)   hx2) skX8_isDay rfl (List.mem_of_getElem? (i := 8) rfl) rfl (by omega) rfl (Nat.le_of_ble_eq_true rfl) ?_
    refine WP_if_eq rfl rfl (fun c4 => ?_) (fun c4 => ?_)
    · have hf := (if_pos c4).symm.trans hf
      refine WP_iconst rfl ⟨by decide, by decide⟩ ?_
      cases hf
      exact WP_iret rfl rfl (hr _ rfl)
    · have hf := (if_neg c4).symm.trans hf
      refine WP_iload_n (i := 3) rfl rfl rfl ?_
      refine WP_iload (i := 5) rfl rfl ?_
      refine WP_ishr rfl ?_
      refine WP_iconst rfl ⟨by decide, by decide⟩ ?_
      refine WP_iand rfl ?_
      refine WP_if_eq rfl rfl (fun c5 => ?_) (fun c5 => ?_)
      · have hf := (if_pos c5).symm.trans hf
        refine WP_iload_n (i := 3) rfl rfl rfl ?_
        refine WP_iconst rfl ⟨by decide, by decide⟩ ?_
        refine WP_iload (i := 5) rfl rfl ?_
        refine WP_ishl rfl ?_
        refine WP_ior rfl ?_
        refine WP_istore_n (i := 3) rfl rfl (Nat.le_of_ble_eq_true rfl) rfl ?_
        refine WP_iload_n (i := 2) rfl rfl rfl ?_
        refine WP_iload (i := 5) rfl rfl ?_
        refine WP_iconst rfl ⟨by decide, by decide⟩ ?_
        refine WP_iload (i := 4) rfl rfl ?_
        refine WP_imul rfl ?_
        refine WP_ishl rfl ?_
        refine WP_ior rfl ?_
        refine WP_istore_n (i := 2) rfl rfl (Nat.le_of_ble_eq_true rfl) rfl ?_
        refine WP_iinc rfl rfl (Nat.le_of_ble_eq_true rfl) rfl ?_
        refine WP_goto rfl rfl ?_
        cases hf
        exact WP_keep [true, true, true, true, true, false] (hc _ _ _ _ rfl)
      · have hf := (if_neg c5).symm.trans hf
        refine WP_iconst rfl ⟨by decide, by decide⟩ ?_
        cases hf
        exact WP_iret rfl rfl (hr _ rfl)
  · have hf := (if_neg c1).symm.trans hf
    cases hf
    exact WP_keep [true, true, true, false, false, false] (he75 _ _ rfl)
theorem TX2_packedOf_15L {l : Launch} {d : Nat} (hd : 1 ≤ d) {Q : Option mV → mM → Prop} {v0 : Int} {v1 : Int} {v2 : Int} {v3 : Int} {v4 : Int} {h : mH}  {n : Nat} {x : Int ⊕ (Int × Int)} (hf : mloop (fun s => fX2_packedOf_15 v0 s.1 s.2.1 s.2.2.1 s.2.2.2 h) n (v1, v2, v3, v4) = some x) (hr : ∀ rv, x = .inl rv → Q (some (.inl rv)) (SX, rX, h)) (he75 : ∀ (v1' : Int) (v2' : Int), x = .inr (v1', v2') → WP l mtX2_packedOf d (0, 0) 75 [some (.inl v0), some (.inl v1'), some (.inl v2'), none, none, none] [] (SX, rX, h) Q) : WP l mtX2_packedOf d (0, 0) 15 [some (.inl v0), some (.inl v1), some (.inl v2), some (.inl v3), some (.inl v4), none] [] (SX, rX, h) Q :=
  mloop_sound (P := fun s => WP l mtX2_packedOf d (0, 0) 15 [some (.inl v0), some (.inl s.1), some (.inl s.2.1), some (.inl s.2.2.1), some (.inl s.2.2.2), none] [] (SX, rX, h) Q) (K := fun t => t = x) (fun s y hx hc he => TX2_packedOf_15 hd   hx (fun a0 a1 a2 a3 e => hc (a0, a1, a2, a3) e) (fun a0 e => hr a0 (he _ e).symm) (fun a0 a1 e => he75 a0 a1 (he _ e).symm)) _ (v1, v2, v3, v4) _ hf rfl
theorem TX2_packedOf_84 {l : Launch} {d : Nat} (hd : 1 ≤ d) {Q : Option mV → mM → Prop} {v0 : Int} {s0 : Int} {h : mH}  {x : Int} (hf : fX2_packedOf_84 v0 s0 h = some x) (hr : ∀ rv, x = rv → Q (some (.inl rv)) (SX, rX, h)) : WP l mtX2_packedOf d (0, 0) 84 [some (.inl v0), none, none, none, none, none] [.inl s0] (SX, rX, h) Q := by
  unfold fX2_packedOf_84 at hf
  cases hf
  exact WP_iret rfl rfl (hr _ rfl)
theorem TX2_packedOf {l : Launch} {d : Nat} (hd : 1 ≤ d) {Q : Option mV → mM → Prop} {v0 : Int} {h : mH}  {x : Int} (hf : fX2_packedOf v0 h = some x) (hr : ∀ rv, x = rv → Q (some (.inl rv)) (SX, rX, h)) : WP l mtX2_packedOf d (0, 0) 0 [some (.inl v0), none, none, none, none, none] [] (SX, rX, h) Q := by
  unfold fX2_packedOf at hf
  refine WP_iload_n (i := 0) rfl rfl rfl ?_
  refine WP_if_ge rfl rfl (fun c1 => ?_) (fun c1 => ?_)
  · have hf := (if_pos c1).symm.trans hf
    refine WP_iconst rfl ⟨by decide, by decide⟩ ?_
    cases hf
    exact WP_iret rfl rfl (hr _ rfl)
  · have hf := (if_neg c1).symm.trans hf
    refine WP_iload_n (i := 0) rfl rfl rfl ?_
    refine WP_istore_n (i := 1) rfl rfl (Nat.le_of_ble_eq_true rfl) rfl ?_
    refine WP_iconst rfl ⟨by decide, by decide⟩ ?_
    refine WP_istore_n (i := 2) rfl rfl (Nat.le_of_ble_eq_true rfl) rfl ?_
    refine WP_iconst rfl ⟨by decide, by decide⟩ ?_
    refine WP_istore_n (i := 3) rfl rfl (Nat.le_of_ble_eq_true rfl) rfl ?_
    refine WP_iconst rfl ⟨by decide, by decide⟩ ?_
    refine WP_istore (i := 4) rfl (Nat.le_of_ble_eq_true rfl) rfl ?_
    obtain ⟨q2, hq2, hf⟩ := obind hf
    refine WP_keep [true, true, true, true, true, false] (TX2_packedOf_15L hd  hq2 (fun a0 e => ?_) (fun yq20 yq21 e => ?_))
    · subst e
      try dsimp only [Sum.elim_inl] at hf
      cases hf
      exact hr _ rfl
    · subst e
      try dsimp only [Sum.elim_inr, Sum.elim_inl] at hf
      refine WP_iload_n (i := 1) rfl rfl rfl ?_
      refine WP_if_ne rfl rfl (fun c3 => ?_) (fun c3 => ?_)
      · have hf := (if_pos c3).symm.trans hf
        refine WP_iload_n (i := 2) rfl rfl rfl ?_
        refine WP_goto rfl rfl ?_
        exact WP_keep [true, false, false, false, false, false] (TX2_packedOf_84 hd  hf hr)
      · have hf := (if_neg c3).symm.trans hf
        refine WP_iconst rfl ⟨by decide, by decide⟩ ?_
        exact WP_keep [true, false, false, false, false, false] (TX2_packedOf_84 hd  hf hr)
theorem EX2_packedOf {l : Launch} {d : Nat} (hd : 1 ≤ d) {v0 : Int} {h : mH}  {rv : Int} (hf : fX2_packedOf v0 h = some rv) : EvV l mtX2_packedOf d [.inl v0] (SX, rX, h) (some (.inl rv)) (SX, rX, h) :=
  Ev.of okX2_packedOf (Nat.le_of_ble_eq_true rfl) (TX2_packedOf hd  hf (fun a0 e => by cases e; exact ⟨rfl, rfl⟩))
def fX2_put (t0 : Nat) (v1 : Int) (h : mH) : Option (Int × mH) :=
  if (h t0 1) < 5040 then (ast h (rfX t0 0) 5040 (h t0 1) v1).bind fun h2 => some (1, (hset h2 t0 1 (jadd (h2 t0 1) 1))) else some (0, h)
theorem TX2_put {l : Launch} {d : Nat} (hd : 0 ≤ d) {Q : Option mV → mM → Prop} {t0 : Nat} {v1 : Int} {h : mH} (hs0 : SX[t0]? = some (2, 4)) {x : Int × mH} (hf : fX2_put t0 v1 h = some x) (hr : ∀ rv rh, x = (rv, rh) → Q (some (.inl rv)) (SX, rX, rh)) : WP l mtX2_put d (0, 0) 0 [some (.inr (.inr (.inl t0))), some (.inl v1)] [] (SX, rX, h) Q := by
  unfold fX2_put at hf
  refine WP_aload_n (i := 0) rfl rfl rfl ?_
  refine WP_getI rfl fl2_31 hs0 (by decide) (by decide) (Or.inl rfl) ?_
  refine WP_sipush rfl ⟨by decide, by decide⟩ (by decide) ?_
  refine WP_icmp_lt rfl rfl (fun c1 => ?_) (fun c1 => ?_)
  · have hf := (if_pos c1).symm.trans hf
    refine WP_aload_n (i := 0) rfl rfl rfl ?_
    refine WP_getR rfl fl2_9 hs0 (by decide) rfl (wfX2_0 hs0).2 ?_
    refine WP_aload_n (i := 0) rfl rfl rfl ?_
    refine WP_getI rfl fl2_31 hs0 (by decide) (by decide) (Or.inl rfl) ?_
    refine WP_iload_n (i := 1) rfl rfl rfl ?_
    obtain ⟨h2, hh2, hf⟩ := obind hf
    obtain ⟨bh2, ch2, eh2⟩ := ast_some hh2
    subst eh2
    refine WP_iast rfl (wfX2_0 hs0).1 bh2 ch2 ?_
    refine WP_aload_n (i := 0) rfl rfl rfl ?_
    refine WP_dupa rfl ?_
    refine WP_getI rfl fl2_31 hs0 (by decide) (by decide) (Or.inl rfl) ?_
    refine WP_iconst rfl ⟨by decide, by decide⟩ ?_
    refine WP_iadd rfl ?_
    refine WP_putI rfl fw2_31 hs0 (by decide) rfl (by decide) ?_
    refine WP_iconst rfl ⟨by decide, by decide⟩ ?_
    cases hf
    exact WP_iret rfl rfl (hr _ _ rfl)
  · have hf := (if_neg c1).symm.trans hf
    refine WP_iconst rfl ⟨by decide, by decide⟩ ?_
    cases hf
    exact WP_iret rfl rfl (hr _ _ rfl)
theorem EX2_put {l : Launch} {d : Nat} (hd : 0 ≤ d) {t0 : Nat} {v1 : Int} {h : mH} (hs0 : SX[t0]? = some (2, 4)) {rv : Int} {rh : mH} (hf : fX2_put t0 v1 h = some (rv, rh)) : EvV l mtX2_put d [.inr (.inr (.inl t0)), .inl v1] (SX, rX, h) (some (.inl rv)) (SX, rX, rh) :=
  Ev.of okX2_put (Nat.le_of_ble_eq_true rfl) (TX2_put hd hs0 hf (fun a0 a1 e => by cases e; exact ⟨rfl, rfl⟩))
def fX2_listFrom_114 (self : Nat → Nat → Int → Int → Int → Int → mH → Option (Int × mH)) (t0 : Nat) (t1 : Nat) (v2 : Int) (v3 : Int) (v4 : Int) (v5 : Int) (v6 : Int) (v7 : Int) (h : mH) : Option ((Int × Int × mH) ⊕ ((Int × mH))) :=
  some (.inl (v6, (jadd v7 1), h))
def fX2_listFrom_107 (self : Nat → Nat → Int → Int → Int → Int → mH → Option (Int × mH)) (t0 : Nat) (t1 : Nat) (v2 : Int) (v3 : Int) (v4 : Int) (v5 : Int) (v6 : Int) (v7 : Int) (v8 : Int) (h : mH) : Option ((Int × Int × mH) ⊕ ((Int × mH))) :=
  fX2_listFrom_114 self t0 t1 v2 v3 v4 v5 (jadd v6 v8) v7 h
def fX2_listFrom_19 (self : Nat → Nat → Int → Int → Int → Int → mH → Option (Int × mH)) (t0 : Nat) (t1 : Nat) (v2 : Int) (v3 : Int) (v4 : Int) (v5 : Int) (v6 : Int) (v7 : Int) (h : mH) : Option ((Int × Int × mH) ⊕ ((Int × mH))) :=
  if v7 < 7 then if (jand (jshr v3 v7) 1) = 0 then (fX7_brokenBy t1 v3 v4 v7 h).bind fun x3 => if x3 = 0 then (self t0 t1 (jadd v2 1) (jor v3 (jshl 1 v7)) v7 (jor (jshl v5 3) v7) h).bind fun x6 => (gin 7 v7).bind fun j8 => (ald x6.2 (rfX (rfX t0 2) j8) 7 v2).bind fun x9 => (ast x6.2 (rfX (rfX t0 2) j8) 7 v2 (jadd x9 x6.1)).bind fun h10 => if v4 = (-1) then fX2_listFrom_107 self t0 t1 v2 v3 v4 v5 v6 v7 x6.1 h10 else (gin 7 v4).bind fun j12 => (ald h10 (rfX (rfX t0 3) j12) 7 v7).bind fun x13 => (ast h10 (rfX (rfX t0 3) j12) 7 v7 (jadd x13 x6.1)).bind fun h14 => fX2_listFrom_107 self t0 t1 v2 v3 v4 v5 v6 v7 x6.1 h14 else fX2_listFrom_114 self t0 t1 v2 v3 v4 v5 v6 v7 h else fX2_listFrom_114 self t0 t1 v2 v3 v4 v5 v6 v7 h else some (.inr (v6, h))
def fX2_listFrom (self : Nat → Nat → Int → Int → Int → Int → mH → Option (Int × mH)) (t0 : Nat) (t1 : Nat) (v2 : Int) (v3 : Int) (v4 : Int) (v5 : Int) (h : mH) : Option (Int × mH) :=
  if v2 < 7 then (mloop (fun s => fX2_listFrom_19 self t0 t1 v2 v3 v4 v5 s.1 s.2.1 s.2.2) mfu (0, 0, h)).bind fun q2 => some (q2.1, q2.2) else (fX2_put t0 v5 h).bind fun x3 => some (x3.1, x3.2)
theorem TX2_listFrom_114 {l : Launch} {d : Nat} (hd : 2 ≤ d) {self : Nat → Nat → Int → Int → Int → Int → mH → Option (Int × mH)} (hself : ∀ (t0 : Nat) (t1 : Nat) (v2 : Int) (v3 : Int) (v4 : Int) (v5 : Int) (h : mH) (rv : Int) (rh : mH), SX[t0]? = some (2, 4) → SX[t1]? = some (7, 11) → self t0 t1 v2 v3 v4 v5 h = some (rv, rh) → EvV l mtX2_listFrom (d - 1) [.inr (.inr (.inl t0)), .inr (.inr (.inl t1)), .inl v2, .inl v3, .inl v4, .inl v5] (SX, rX, h) (some (.inl rv)) (SX, rX, rh)) {Q : Option mV → mM → Prop} {t0 : Nat} {t1 : Nat} {v2 : Int} {v3 : Int} {v4 : Int} {v5 : Int} {v6 : Int} {v7 : Int} {h : mH} (hs0 : SX[t0]? = some (2, 4)) (hs1 : SX[t1]? = some (7, 11)) {x : (Int × Int × mH) ⊕ ((Int × mH))} (hf : fX2_listFrom_114 self t0 t1 v2 v3 v4 v5 v6 v7 h = some x) (hc : ∀ (v6' : Int) (v7' : Int) (h' : mH), x = .inl (v6', v7', h') → WP l mtX2_listFrom d (0, 0) 19 [some (.inr (.inr (.inl t0))), some (.inr (.inr (.inl t1))), some (.inl v2), some (.inl v3), some (.inl v4), some (.inl v5), some (.inl v6'), some (.inl v7'), none] [] (SX, rX, h') Q) (he120 : ∀ (v6' : Int) (h' : mH), x = .inr (v6', h') → WP l mtX2_listFrom d (0, 0) 120 [some (.inr (.inr (.inl t0))), some (.inr (.inr (.inl t1))), some (.inl v2), some (.inl v3), some (.inl v4), some (.inl v5), some (.inl v6'), none, none] [] (SX, rX, h') Q) : WP l mtX2_listFrom d (0, 0) 114 [some (.inr (.inr (.inl t0))), some (.inr (.inr (.inl t1))), some (.inl v2), some (.inl v3), some (.inl v4), some (.inl v5), some (.inl v6), some (.inl v7), none] [] (SX, rX, h) Q := by
  unfold fX2_listFrom_114 at hf
  refine WP_iinc rfl rfl (Nat.le_of_ble_eq_true rfl) rfl ?_
  refine WP_goto rfl rfl ?_
  cases hf
  exact WP_keep [true, true, true, true, true, true, true, true, false] (hc _ _ _ rfl)
theorem TX2_listFrom_107 {l : Launch} {d : Nat} (hd : 2 ≤ d) {self : Nat → Nat → Int → Int → Int → Int → mH → Option (Int × mH)} (hself : ∀ (t0 : Nat) (t1 : Nat) (v2 : Int) (v3 : Int) (v4 : Int) (v5 : Int) (h : mH) (rv : Int) (rh : mH), SX[t0]? = some (2, 4) → SX[t1]? = some (7, 11) → self t0 t1 v2 v3 v4 v5 h = some (rv, rh) → EvV l mtX2_listFrom (d - 1) [.inr (.inr (.inl t0)), .inr (.inr (.inl t1)), .inl v2, .inl v3, .inl v4, .inl v5] (SX, rX, h) (some (.inl rv)) (SX, rX, rh)) {Q : Option mV → mM → Prop} {t0 : Nat} {t1 : Nat} {v2 : Int} {v3 : Int} {v4 : Int} {v5 : Int} {v6 : Int} {v7 : Int} {v8 : Int} {h : mH} (hs0 : SX[t0]? = some (2, 4)) (hs1 : SX[t1]? = some (7, 11)) {x : (Int × Int × mH) ⊕ ((Int × mH))} (hf : fX2_listFrom_107 self t0 t1 v2 v3 v4 v5 v6 v7 v8 h = some x) (hc : ∀ (v6' : Int) (v7' : Int) (h' : mH), x = .inl (v6', v7', h') → WP l mtX2_listFrom d (0, 0) 19 [some (.inr (.inr (.inl t0))), some (.inr (.inr (.inl t1))), some (.inl v2), some (.inl v3), some (.inl v4), some (.inl v5), some (.inl v6'), some (.inl v7'), none] [] (SX, rX, h') Q) (he120 : ∀ (v6' : Int) (h' : mH), x = .inr (v6', h') → WP l mtX2_listFrom d (0, 0) 120 [some (.inr (.inr (.inl t0))), some (.inr (.inr (.inl t1))), some (.inl v2), some (.inl v3), some (.inl v4), some (.inl v5), some (.inl v6'), none, none] [] (SX, rX, h') Q) : WP l mtX2_listFrom d (0, 0) 107 [some (.inr (.inr (.inl t0))), some (.inr (.inr (.inl t1))), some (.inl v2), some (.inl v3), some (.inl v4), some (.inl v5), some (.inl v6), some (.inl v7), some (.inl v8)] [] (SX, rX, h) Q := by
  unfold fX2_listFrom_107 at hf
  refine WP_iload (i := 6) rfl rfl ?_
  refine WP_iload (i := 8) rfl rfl ?_
  refine WP_iadd rfl ?_
  refine WP_istore (i := 6) rfl (Nat.le_of_ble_eq_true rfl) rfl ?_
  exact WP_keep [true, true, true, true, true, true, true, true, false] (TX2_listFrom_114 hd hself hs0 hs1 hf hc he120)
theorem TX2_listFrom_19 {l : Launch} {d : Nat} (hd : 2 ≤ d) {self : Nat → Nat → Int → Int → Int → Int → mH → Option (Int × mH)} (hself : ∀ (t0 : Nat) (t1 : Nat) (v2 : Int) (v3 : Int) (v4 : Int) (v5 : Int) (h : mH) (rv : Int) (rh : mH), SX[t0]? = some (2, 4) → SX[t1]? = some (7, 11) → self t0 t1 v2 v3 v4 v5 h = some (rv, rh) → EvV l mtX2_listFrom (d - 1) [.inr (.inr (.inl t0)), .inr (.inr (.inl t1)), .inl v2, .inl v3, .inl v4, .inl v5] (SX, rX, h) (some (.inl rv)) (SX, rX, rh)) {Q : Option mV → mM → Prop} {t0 : Nat} {t1 : Nat} {v2 : Int} {v3 : Int} {v4 : Int} {v5 : Int} {v6 : Int} {v7 : Int} {h : mH} (hs0 : SX[t0]? = some (2, 4)) (hs1 : SX[t1]? = some (7, 11)) {x : (Int × Int × mH) ⊕ ((Int × mH))} (hf : fX2_listFrom_19 self t0 t1 v2 v3 v4 v5 v6 v7 h = some x) (hc : ∀ (v6' : Int) (v7' : Int) (h' : mH), x = .inl (v6', v7', h') → WP l mtX2_listFrom d (0, 0) 19 [some (.inr (.inr (.inl t0))), some (.inr (.inr (.inl t1))), some (.inl v2), some (.inl v3), some (.inl v4), some (.inl v5), some (.inl v6'), some (.inl v7'), none] [] (SX, rX, h') Q) (he120 : ∀ (v6' : Int) (h' : mH), x = .inr (v6', h') → WP l mtX2_listFrom d (0, 0) 120 [some (.inr (.inr (.inl t0))), some (.inr (.inr (.inl t1))), some (.inl v2), some (.inl v3), some (.inl v4), some (.inl v5), some (.inl v6'), none, none] [] (SX, rX, h') Q) : WP l mtX2_listFrom d (0, 0) 19 [some (.inr (.inr (.inl t0))), some (.inr (.inr (.inl t1))), some (.inl v2), some (.inl v3), some (.inl v4), some (.inl v5), some (.inl v6), some (.inl v7), none] [] (SX, rX, h) Q := by
  unfold fX2_listFrom_19 at hf
  refine WP_iload (i := 7) rfl rfl ?_
  refine WP_bipush rfl ⟨by decide, by decide⟩ (by decide) ?_
  refine WP_icmp_ge rfl rfl (fun c1 => ?_) (fun c1 => ?_)
  · have hf := (if_pos c1).symm.trans hf
    refine WP_iload_n (i := 3) rfl rfl rfl ?_
    refine WP_iload (i := 7) rfl rfl ?_
    refine WP_ishr rfl ?_
    refine WP_iconst rfl ⟨by decide, by decide⟩ ?_
    refine WP_iand rfl ?_
    refine WP_if_ne rfl rfl (fun c2 => ?_) (fun c2 => ?_)
    · have hf := (if_pos c2).symm.trans hf
      refine WP_aload_n (i := 1) rfl rfl rfl ?_
      refine WP_iload_n (i := 3) rfl rfl rfl ?_
      refine WP_iload (i := 4) rfl rfl ?_
      refine WP_iload (i := 7) rfl rfl ?_
      obtain ⟨x3, hx3, hf⟩ := obind hf
      refine WP_cV (EX7_brokenBy (by omega) hs1  hx3) vkX7_brokenBy rfl ml2_49 hs1 rfl (by omega) rfl (Nat.le_of_ble_eq_true rfl) ?_
      refine WP_if_ne rfl rfl (fun c5 => ?_) (fun c5 => ?_)
      · have hf := (if_pos c5).symm.trans hf
        refine WP_aload_n (i := 0) rfl rfl rfl ?_
        refine WP_aload_n (i := 1) rfl rfl rfl ?_
        refine WP_iload_n (i := 2) rfl rfl rfl ?_
        refine WP_iconst rfl ⟨by decide, by decide⟩ ?_
        refine WP_iadd rfl ?_
        refine WP_iload_n (i := 3) rfl rfl rfl ?_
        refine WP_iconst rfl ⟨by decide, by decide⟩ ?_
        refine WP_iload (i := 7) rfl rfl ?_
        refine WP_ishl rfl ?_
        refine WP_ior rfl ?_
        refine WP_iload (i := 7) rfl rfl ?_
        refine WP_iload (i := 5) rfl rfl ?_
        refine WP_iconst rfl ⟨by decide, by decide⟩ ?_
        refine WP_ishl rfl ?_
        refine WP_iload (i := 7) rfl rfl ?_
        refine WP_ior rfl ?_
        obtain ⟨⟨x6, h7⟩, hx6, hf⟩ := obind hf
        try dsimp only at hf
        refine WP_cV (hself _ _ _ _ _ _ _ _ _ hs0 hs1 hx6) vkX2_listFrom rfl ml2_41 hs0 rfl (by omega) rfl (Nat.le_of_ble_eq_true rfl) ?_
        refine WP_istore (i := 8) rfl (Nat.le_of_ble_eq_true rfl) rfl ?_
        refine WP_aload_n (i := 0) rfl rfl rfl ?_
        refine WP_getR rfl fl2_17 hs0 (by decide) rfl (wfX2_2 hs0).2 ?_
        refine WP_iload (i := 7) rfl rfl ?_
        obtain ⟨j8, hj8, hf⟩ := obind hf
        obtain ⟨bj8, cj8, ej8⟩ := gin_some hj8
        subst ej8
        have wj8 := waX14_7 (wfX2_2 hs0).1 (inx bj8 cj8)
        refine WP_aald (ty := .array .int) rfl (wfX2_2 hs0).1 (by decide) (fun _ => rfl) rfl bj8 cj8 wj8.2 ?_
        refine WP_iload_n (i := 2) rfl rfl rfl ?_
        refine WP_dup2ai rfl ?_
        obtain ⟨x9, hx9, hf⟩ := obind hf
        obtain ⟨bx9, cx9, ex9⟩ := ald_some hx9
        subst ex9
        refine WP_iald rfl wj8.1 bx9 cx9 ?_
        refine WP_iload (i := 8) rfl rfl ?_
        refine WP_iadd rfl ?_
        obtain ⟨h10, hh10, hf⟩ := obind hf
        obtain ⟨bh10, ch10, eh10⟩ := ast_some hh10
        subst eh10
        refine WP_iast rfl wj8.1 bh10 ch10 ?_
        refine WP_iload (i := 4) rfl rfl ?_
        refine WP_iconst rfl ⟨by decide, by decide⟩ ?_
        refine WP_icmp_eq rfl rfl (fun c11 => ?_) (fun c11 => ?_)
        · have hf := (if_pos c11).symm.trans hf
          exact WP_keep [true, true, true, true, true, true, true, true, true] (TX2_listFrom_107 hd hself hs0 hs1 hf hc he120)
        · have hf := (if_neg c11).symm.trans hf
          refine WP_aload_n (i := 0) rfl rfl rfl ?_
          refine WP_getR rfl fl2_20 hs0 (by decide) rfl (wfX2_3 hs0).2 ?_
          refine WP_iload (i := 4) rfl rfl ?_
          obtain ⟨j12, hj12, hf⟩ := obind hf
          obtain ⟨bj12, cj12, ej12⟩ := gin_some hj12
          subst ej12
          have wj12 := waX14_7 (wfX2_3 hs0).1 (inx bj12 cj12)
          refine WP_aald (ty := .array .int) rfl (wfX2_3 hs0).1 (by decide) (fun _ => rfl) rfl bj12 cj12 wj12.2 ?_
          refine WP_iload (i := 7) rfl rfl ?_
          refine WP_dup2ai rfl ?_
          obtain ⟨x13, hx13, hf⟩ := obind hf
          obtain ⟨bx13, cx13, ex13⟩ := ald_some hx13
          subst ex13
          refine WP_iald rfl wj12.1 bx13 cx13 ?_
          refine WP_iload (i := 8) rfl rfl ?_
          refine WP_iadd rfl ?_
          obtain ⟨h14, hh14, hf⟩ := obind hf
          obtain ⟨bh14, ch14, eh14⟩ := ast_some hh14
          subst eh14
          refine WP_iast rfl wj12.1 bh14 ch14 ?_
          exact WP_keep [true, true, true, true, true, true, true, true, true] (TX2_listFrom_107 hd hself hs0 hs1 hf hc he120)
      · have hf := (if_neg c5).symm.trans hf
        exact WP_keep [true, true, true, true, true, true, true, true, false] (TX2_listFrom_114 hd hself hs0 hs1 hf hc he120)
    · have hf := (if_neg c2).symm.trans hf
      exact WP_keep [true, true, true, true, true, true, true, true, false] (TX2_listFrom_114 hd hself hs0 hs1 hf hc he120)
  · have hf := (if_neg c1).symm.trans hf
    cases hf
    exact WP_keep [true, true, true, true, true, true, true, false, false] (he120 _ _ rfl)
theorem TX2_listFrom_19L {l : Launch} {d : Nat} (hd : 2 ≤ d) {self : Nat → Nat → Int → Int → Int → Int → mH → Option (Int × mH)} (hself : ∀ (t0 : Nat) (t1 : Nat) (v2 : Int) (v3 : Int) (v4 : Int) (v5 : Int) (h : mH) (rv : Int) (rh : mH), SX[t0]? = some (2, 4) → SX[t1]? = some (7, 11) → self t0 t1 v2 v3 v4 v5 h = some (rv, rh) → EvV l mtX2_listFrom (d - 1) [.inr (.inr (.inl t0)), .inr (.inr (.inl t1)), .inl v2, .inl v3, .inl v4, .inl v5] (SX, rX, h) (some (.inl rv)) (SX, rX, rh)) {Q : Option mV → mM → Prop} {t0 : Nat} {t1 : Nat} {v2 : Int} {v3 : Int} {v4 : Int} {v5 : Int} {v6 : Int} {v7 : Int} {h : mH} (hs0 : SX[t0]? = some (2, 4)) (hs1 : SX[t1]? = some (7, 11)) {n : Nat} {x : (Int × mH)} (hf : mloop (fun s => fX2_listFrom_19 self t0 t1 v2 v3 v4 v5 s.1 s.2.1 s.2.2) n (v6, v7, h) = some x) (he120 : ∀ (v6' : Int) (h' : mH), x = (v6', h') → WP l mtX2_listFrom d (0, 0) 120 [some (.inr (.inr (.inl t0))), some (.inr (.inr (.inl t1))), some (.inl v2), some (.inl v3), some (.inl v4), some (.inl v5), some (.inl v6'), none, none] [] (SX, rX, h') Q) : WP l mtX2_listFrom d (0, 0) 19 [some (.inr (.inr (.inl t0))), some (.inr (.inr (.inl t1))), some (.inl v2), some (.inl v3), some (.inl v4), some (.inl v5), some (.inl v6), some (.inl v7), none] [] (SX, rX, h) Q :=
  mloop_sound (P := fun s => WP l mtX2_listFrom d (0, 0) 19 [some (.inr (.inr (.inl t0))), some (.inr (.inr (.inl t1))), some (.inl v2), some (.inl v3), some (.inl v4), some (.inl v5), some (.inl s.1), some (.inl s.2.1), none] [] (SX, rX, s.2.2) Q) (K := fun t => t = x) (fun s y hx hc he => TX2_listFrom_19 hd hself hs0 hs1  hx (fun a0 a1 a2 e => hc (a0, a1, a2) e) (fun a0 a1 e => he120 a0 a1 (he _ e).symm)) _ (v6, v7, h) _ hf rfl
theorem TX2_listFrom {l : Launch} {d : Nat} (hd : 2 ≤ d) {self : Nat → Nat → Int → Int → Int → Int → mH → Option (Int × mH)} (hself : ∀ (t0 : Nat) (t1 : Nat) (v2 : Int) (v3 : Int) (v4 : Int) (v5 : Int) (h : mH) (rv : Int) (rh : mH), SX[t0]? = some (2, 4) → SX[t1]? = some (7, 11) → self t0 t1 v2 v3 v4 v5 h = some (rv, rh) → EvV l mtX2_listFrom (d - 1) [.inr (.inr (.inl t0)), .inr (.inr (.inl t1)), .inl v2, .inl v3, .inl v4, .inl v5] (SX, rX, h) (some (.inl rv)) (SX, rX, rh)) {Q : Option mV → mM → Prop} {t0 : Nat} {t1 : Nat} {v2 : Int} {v3 : Int} {v4 : Int} {v5 : Int} {h : mH} (hs0 : SX[t0]? = some (2, 4)) (hs1 : SX[t1]? = some (7, 11)) {x : Int × mH} (hf : fX2_listFrom self t0 t1 v2 v3 v4 v5 h = some x) (hr : ∀ rv rh, x = (rv, rh) → Q (some (.inl rv)) (SX, rX, rh)) : WP l mtX2_listFrom d (0, 0) 0 [some (.inr (.inr (.inl t0))), some (.inr (.inr (.inl t1))), some (.inl v2), some (.inl v3), some (.inl v4), some (.inl v5), none, none, none] [] (SX, rX, h) Q := by
  unfold fX2_listFrom at hf
  refine WP_iload_n (i := 2) rfl rfl rfl ?_
  refine WP_bipush rfl ⟨by decide, by decide⟩ (by decide) ?_
  refine WP_icmp_lt rfl rfl (fun c1 => ?_) (fun c1 => ?_)
  · have hf := (if_pos c1).symm.trans hf
    refine WP_iconst rfl ⟨by decide, by decide⟩ ?_
    refine WP_istore (i := 6) rfl (Nat.le_of_ble_eq_true rfl) rfl ?_
    refine WP_iconst rfl ⟨by decide, by decide⟩ ?_
    refine WP_istore (i := 7) rfl (Nat.le_of_ble_eq_true rfl) rfl ?_
    obtain ⟨q2, hq2, hf⟩ := obind hf
    refine WP_keep [true, true, true, true, true, true, true, true, false] (TX2_listFrom_19L hd hself hs0 hs1 hq2 (fun yq20 yq21 e => ?_))
    subst e
    try dsimp only at hf
    refine WP_iload (i := 6) rfl rfl ?_
    cases hf
    exact WP_iret rfl rfl (hr _ _ rfl)
  · have hf := (if_neg c1).symm.trans hf
    refine WP_aload_n (i := 0) rfl rfl rfl ?_
    refine WP_iload (i := 5) rfl rfl ?_
    obtain ⟨⟨x3, h4⟩, hx3, hf⟩ := obind hf
    try dsimp only at hf
    refine WP_cV (EX2_put (by omega) hs0  hx3) vkX2_put rfl ml2_45 hs0 rfl (by omega) rfl (Nat.le_of_ble_eq_true rfl) ?_
    cases hf
    exact WP_iret rfl rfl (hr _ _ rfl)
def fX2_listFromR : Nat → Nat → Nat → Int → Int → Int → Int → mH → Option (Int × mH)
  | 0 => fun _ _ _ _ _ _ _ => none
  | n + 1 => fX2_listFrom (fX2_listFromR n)
theorem EX2_listFromR {l : Launch} : ∀ (n : Nat) {d : Nat} (hd : 2 + n ≤ d) {t0 : Nat} {t1 : Nat} {v2 : Int} {v3 : Int} {v4 : Int} {v5 : Int} {h : mH} (hs0 : SX[t0]? = some (2, 4)) (hs1 : SX[t1]? = some (7, 11)) {rv : Int} {rh : mH} (hf : fX2_listFromR n t0 t1 v2 v3 v4 v5 h = some (rv, rh)), EvV l mtX2_listFrom d [.inr (.inr (.inl t0)), .inr (.inr (.inl t1)), .inl v2, .inl v3, .inl v4, .inl v5] (SX, rX, h) (some (.inl rv)) (SX, rX, rh)
  | 0, _, _, _, _, _, _, _, _, _, _, _, _, _, hf => by cases hf
  | n + 1, d, hd, _, _, _, _, _, _, _, hs0, hs1, _, _, hf => Ev.of okX2_listFrom (Nat.le_of_ble_eq_true rfl) (TX2_listFrom (by omega) (fun _ _ _ _ _ _ _ _ _ g0 g1 hz => EX2_listFromR n (by omega) g0 g1 hz) hs0 hs1 hf (fun a0 a1 e => by cases e; exact ⟨rfl, rfl⟩))
def FX2_listFrom : Nat → Nat → Int → Int → Int → Int → mH → Option (Int × mH) := fX2_listFromR 8
theorem EX2_listFrom {l : Launch} {d : Nat} (hd : 10 ≤ d) {t0 : Nat} {t1 : Nat} {v2 : Int} {v3 : Int} {v4 : Int} {v5 : Int} {h : mH} (hs0 : SX[t0]? = some (2, 4)) (hs1 : SX[t1]? = some (7, 11)) {rv : Int} {rh : mH} (hf : FX2_listFrom t0 t1 v2 v3 v4 v5 h = some (rv, rh)) : EvV l mtX2_listFrom d [.inr (.inr (.inl t0)), .inr (.inr (.inl t1)), .inl v2, .inl v3, .inl v4, .inl v5] (SX, rX, h) (some (.inl rv)) (SX, rX, rh) := EX2_listFromR 8 (by omega) hs0 hs1 hf
def fX2_listAll_7 (t0 : Nat) (t1 : Nat) (v2 : Int) (h : mH) : Option ((Int × mH) ⊕ (mH)) :=
  if v2 < 7 then (gin 7 v2).bind fun j2 => (gin 7 v2).bind fun j3 => some (.inl ((jadd v2 1), (hfil (hfil h (rfX (rfX t0 2) j2) 7 0) (rfX (rfX t0 3) j3) 7 0))) else some (.inr h)
def fX2_listAll (t0 : Nat) (t1 : Nat) (h : mH) : Option (mH) :=
  (mloop (fun s => fX2_listAll_7 t0 t1 s.1 s.2) mfu (0, (hset h t0 1 0))).bind fun q1 => (FX2_listFrom t0 t1 0 0 (-1) 0 q1).bind fun x2 => some x2.2
theorem TX2_listAll_7 {l : Launch} {d : Nat} (hd : 11 ≤ d) {Q : Option mV → mM → Prop} {t0 : Nat} {t1 : Nat} {v2 : Int} {h : mH} (hs0 : SX[t0]? = some (2, 4)) (hs1 : SX[t1]? = some (7, 11)) {x : (Int × mH) ⊕ (mH)} (hf : fX2_listAll_7 t0 t1 v2 h = some x) (hc : ∀ (v2' : Int) (h' : mH), x = .inl (v2', h') → WP l mtX2_listAll d (0, 0) 7 [some (.inr (.inr (.inl t0))), some (.inr (.inr (.inl t1))), some (.inl v2')] [] (SX, rX, h') Q) (he39 : ∀ (h' : mH), x = .inr h' → WP l mtX2_listAll d (0, 0) 39 [some (.inr (.inr (.inl t0))), some (.inr (.inr (.inl t1))), none] [] (SX, rX, h') Q) : WP l mtX2_listAll d (0, 0) 7 [some (.inr (.inr (.inl t0))), some (.inr (.inr (.inl t1))), some (.inl v2)] [] (SX, rX, h) Q := by
  unfold fX2_listAll_7 at hf
  refine WP_iload_n (i := 2) rfl rfl rfl ?_
  refine WP_bipush rfl ⟨by decide, by decide⟩ (by decide) ?_
  refine WP_icmp_ge rfl rfl (fun c1 => ?_) (fun c1 => ?_)
  · have hf := (if_pos c1).symm.trans hf
    refine WP_aload_n (i := 0) rfl rfl rfl ?_
    refine WP_getR rfl fl2_17 hs0 (by decide) rfl (wfX2_2 hs0).2 ?_
    refine WP_iload_n (i := 2) rfl rfl rfl ?_
    obtain ⟨j2, hj2, hf⟩ := obind hf
    obtain ⟨bj2, cj2, ej2⟩ := gin_some hj2
    subst ej2
    have wj2 := waX14_7 (wfX2_2 hs0).1 (inx bj2 cj2)
    refine WP_aald (ty := .array .int) rfl (wfX2_2 hs0).1 (by decide) (fun _ => rfl) rfl bj2 cj2 wj2.2 ?_
    refine WP_iconst rfl ⟨by decide, by decide⟩ ?_
    refine WP_cSv (EJ7_fill_53178 (by omega) wj2.1 (by decide)) skJ7_fill_53178 rfl ml2_35 rfl (by omega) rfl (Nat.le_of_ble_eq_true rfl) ?_
    refine WP_aload_n (i := 0) rfl rfl rfl ?_
    refine WP_getR rfl fl2_20 hs0 (by decide) rfl (wfX2_3 hs0).2 ?_
    refine WP_iload_n (i := 2) rfl rfl rfl ?_
    obtain ⟨j3, hj3, hf⟩ := obind hf
    obtain ⟨bj3, cj3, ej3⟩ := gin_some hj3
    subst ej3
    have wj3 := waX14_7 (wfX2_3 hs0).1 (inx bj3 cj3)
    refine WP_aald (ty := .array .int) rfl (wfX2_3 hs0).1 (by decide) (fun _ => rfl) rfl bj3 cj3 wj3.2 ?_
    refine WP_iconst rfl ⟨by decide, by decide⟩ ?_
    refine WP_cSv (EJ7_fill_53178 (by omega) wj3.1 (by decide)) skJ7_fill_53178 rfl ml2_35 rfl (by omega) rfl (Nat.le_of_ble_eq_true rfl) ?_
    refine WP_iinc rfl rfl (Nat.le_of_ble_eq_true rfl) rfl ?_
    refine WP_goto rfl rfl ?_
    cases hf
    exact WP_keep [true, true, true] (hc _ _ rfl)
  · have hf := (if_neg c1).symm.trans hf
    cases hf
    exact WP_keep [true, true, false] (he39 _ rfl)
theorem TX2_listAll_7L {l : Launch} {d : Nat} (hd : 11 ≤ d) {Q : Option mV → mM → Prop} {t0 : Nat} {t1 : Nat} {v2 : Int} {h : mH} (hs0 : SX[t0]? = some (2, 4)) (hs1 : SX[t1]? = some (7, 11)) {n : Nat} {x : mH} (hf : mloop (fun s => fX2_listAll_7 t0 t1 s.1 s.2) n (v2, h) = some x) (he39 : ∀ (h' : mH), x = h' → WP l mtX2_listAll d (0, 0) 39 [some (.inr (.inr (.inl t0))), some (.inr (.inr (.inl t1))), none] [] (SX, rX, h') Q) : WP l mtX2_listAll d (0, 0) 7 [some (.inr (.inr (.inl t0))), some (.inr (.inr (.inl t1))), some (.inl v2)] [] (SX, rX, h) Q :=
  mloop_sound (P := fun s => WP l mtX2_listAll d (0, 0) 7 [some (.inr (.inr (.inl t0))), some (.inr (.inr (.inl t1))), some (.inl s.1)] [] (SX, rX, s.2) Q) (K := fun t => t = x) (fun s y hx hc he => TX2_listAll_7 hd hs0 hs1  hx (fun a0 a1 e => hc (a0, a1) e) (fun a0 e => he39 a0 (he _ e).symm)) _ (v2, h) _ hf rfl
theorem TX2_listAll {l : Launch} {d : Nat} (hd : 11 ≤ d) {Q : Option mV → mM → Prop} {t0 : Nat} {t1 : Nat} {h : mH} (hs0 : SX[t0]? = some (2, 4)) (hs1 : SX[t1]? = some (7, 11)) {x : mH} (hf : fX2_listAll t0 t1 h = some x) (hr : ∀ rh, x = rh → Q none (SX, rX, rh)) : WP l mtX2_listAll d (0, 0) 0 [some (.inr (.inr (.inl t0))), some (.inr (.inr (.inl t1))), none] [] (SX, rX, h) Q := by
  unfold fX2_listAll at hf
  refine WP_aload_n (i := 0) rfl rfl rfl ?_
  refine WP_iconst rfl ⟨by decide, by decide⟩ ?_
  refine WP_putI rfl fw2_31 hs0 (by decide) rfl (by decide) ?_
  refine WP_iconst rfl ⟨by decide, by decide⟩ ?_
  refine WP_istore_n (i := 2) rfl rfl (Nat.le_of_ble_eq_true rfl) rfl ?_
  obtain ⟨q1, hq1, hf⟩ := obind hf
  refine WP_keep [true, true, true] (TX2_listAll_7L hd hs0 hs1 hq1 (fun yq10 e => ?_))
  subst e
  refine WP_aload_n (i := 0) rfl rfl rfl ?_
  refine WP_aload_n (i := 1) rfl rfl rfl ?_
  refine WP_iconst rfl ⟨by decide, by decide⟩ ?_
  refine WP_iconst rfl ⟨by decide, by decide⟩ ?_
  refine WP_iconst rfl ⟨by decide, by decide⟩ ?_
  refine WP_iconst rfl ⟨by decide, by decide⟩ ?_
  obtain ⟨⟨x2, h3⟩, hx2, hf⟩ := obind hf
  try dsimp only at hf
  refine WP_cV (EX2_listFrom (by omega) hs0 hs1  hx2) vkX2_listFrom rfl ml2_41 hs0 rfl (by omega) rfl (Nat.le_of_ble_eq_true rfl) ?_
  refine WP_popi rfl ?_
  cases hf
  exact WP_vret rfl rfl (hr _ rfl)
theorem EX2_listAll {l : Launch} {d : Nat} (hd : 11 ≤ d) {t0 : Nat} {t1 : Nat} {h : mH} (hs0 : SX[t0]? = some (2, 4)) (hs1 : SX[t1]? = some (7, 11)) {rh : mH} (hf : fX2_listAll t0 t1 h = some rh) : EvV l mtX2_listAll d [.inr (.inr (.inl t0)), .inr (.inr (.inl t1))] (SX, rX, h) none (SX, rX, rh) :=
  Ev.of okX2_listAll (Nat.le_of_ble_eq_true rfl) (TX2_listAll hd hs0 hs1 hf (fun a0 e => by cases e; exact ⟨rfl, rfl⟩))
def fX2_firstChange_24 (t0 : Nat) (v1 : Int) (v2 : Int) (v3 : Int) (h : mH) : Option ((Int) ⊕ (Int)) :=
  if v3 < 6 then (fX2_dayIn v2 v3 h).bind fun x2 => if x2 = 0 then some (.inl (jadd v3 1)) else some (.inr v3) else some (.inr v3)
def fX2_firstChange (t0 : Nat) (v1 : Int) (h : mH) : Option (Int) :=
  if v1 = 0 then some 0 else (ald h (rfX t0 0) 5040 v1).bind fun x2 => (ald h (rfX t0 0) 5040 (jsub v1 1)).bind fun x3 => (mloop (fun s => fX2_firstChange_24 t0 v1 (jxor x2 x3) s h) mfu 0).bind fun q4 => some q4
theorem TX2_firstChange_24 {l : Launch} {d : Nat} (hd : 1 ≤ d) {Q : Option mV → mM → Prop} {t0 : Nat} {v1 : Int} {v2 : Int} {v3 : Int} {h : mH} (hs0 : SX[t0]? = some (2, 4)) {x : (Int) ⊕ (Int)} (hf : fX2_firstChange_24 t0 v1 v2 v3 h = some x) (hc : ∀ (v3' : Int), x = .inl v3' → WP l mtX2_firstChange d (0, 0) 24 [some (.inr (.inr (.inl t0))), some (.inl v1), some (.inl v2), some (.inl v3')] [] (SX, rX, h) Q) (he44 : ∀ (v3' : Int), x = .inr v3' → WP l mtX2_firstChange d (0, 0) 44 [some (.inr (.inr (.inl t0))), some (.inl v1), none, some (.inl v3')] [] (SX, rX, h) Q) : WP l mtX2_firstChange d (0, 0) 24 [some (.inr (.inr (.inl t0))), some (.inl v1), some (.inl v2), some (.inl v3)] [] (SX, rX, h) Q := by
  unfold fX2_firstChange_24 at hf
  refine WP_iload_n (i := 3) rfl rfl rfl ?_
  refine WP_bipush rfl ⟨by decide, by decide⟩ (by decide) ?_
  refine WP_icmp_ge rfl rfl (fun c1 => ?_) (fun c1 => ?_)
  · have hf := (if_pos c1).symm.trans hf
    refine WP_iload_n (i := 2) rfl rfl rfl ?_
    refine WP_iload_n (i := 3) rfl rfl rfl ?_
    obtain ⟨x2, hx2, hf⟩ := obind hf
    refine WP_cS (EX2_dayIn (by omega)   hx2) skX2_dayIn rfl ml2_23 rfl (by omega) rfl (Nat.le_of_ble_eq_true rfl) ?_
    refine WP_if_ne rfl rfl (fun c4 => ?_) (fun c4 => ?_)
    · have hf := (if_pos c4).symm.trans hf
      refine WP_iinc rfl rfl (Nat.le_of_ble_eq_true rfl) rfl ?_
      refine WP_goto rfl rfl ?_
      cases hf
      exact WP_keep [true, true, true, true] (hc _ rfl)
    · have hf := (if_neg c4).symm.trans hf
      cases hf
      exact WP_keep [true, true, false, true] (he44 _ rfl)
  · have hf := (if_neg c1).symm.trans hf
    cases hf
    exact WP_keep [true, true, false, true] (he44 _ rfl)
theorem TX2_firstChange_24L {l : Launch} {d : Nat} (hd : 1 ≤ d) {Q : Option mV → mM → Prop} {t0 : Nat} {v1 : Int} {v2 : Int} {v3 : Int} {h : mH} (hs0 : SX[t0]? = some (2, 4)) {n : Nat} {x : Int} (hf : mloop (fun s => fX2_firstChange_24 t0 v1 v2 s h) n v3 = some x) (he44 : ∀ (v3' : Int), x = v3' → WP l mtX2_firstChange d (0, 0) 44 [some (.inr (.inr (.inl t0))), some (.inl v1), none, some (.inl v3')] [] (SX, rX, h) Q) : WP l mtX2_firstChange d (0, 0) 24 [some (.inr (.inr (.inl t0))), some (.inl v1), some (.inl v2), some (.inl v3)] [] (SX, rX, h) Q :=
  mloop_sound (P := fun s => WP l mtX2_firstChange d (0, 0) 24 [some (.inr (.inr (.inl t0))), some (.inl v1), some (.inl v2), some (.inl s)] [] (SX, rX, h) Q) (K := fun t => t = x) (fun s y hx hc he => TX2_firstChange_24 hd hs0  hx (fun a0 e => hc a0 e) (fun a0 e => he44 a0 (he _ e).symm)) _ v3 _ hf rfl
theorem TX2_firstChange {l : Launch} {d : Nat} (hd : 1 ≤ d) {Q : Option mV → mM → Prop} {t0 : Nat} {v1 : Int} {h : mH} (hs0 : SX[t0]? = some (2, 4)) {x : Int} (hf : fX2_firstChange t0 v1 h = some x) (hr : ∀ rv, x = rv → Q (some (.inl rv)) (SX, rX, h)) : WP l mtX2_firstChange d (0, 0) 0 [some (.inr (.inr (.inl t0))), some (.inl v1), none, none] [] (SX, rX, h) Q := by
  unfold fX2_firstChange at hf
  refine WP_iload_n (i := 1) rfl rfl rfl ?_
  refine WP_if_ne rfl rfl (fun c1 => ?_) (fun c1 => ?_)
  · have hf := (if_pos c1).symm.trans hf
    refine WP_iconst rfl ⟨by decide, by decide⟩ ?_
    cases hf
    exact WP_iret rfl rfl (hr _ rfl)
  · have hf := (if_neg c1).symm.trans hf
    refine WP_aload_n (i := 0) rfl rfl rfl ?_
    refine WP_getR rfl fl2_9 hs0 (by decide) rfl (wfX2_0 hs0).2 ?_
    refine WP_iload_n (i := 1) rfl rfl rfl ?_
    obtain ⟨x2, hx2, hf⟩ := obind hf
    obtain ⟨bx2, cx2, ex2⟩ := ald_some hx2
    subst ex2
    refine WP_iald rfl (wfX2_0 hs0).1 bx2 cx2 ?_
    refine WP_aload_n (i := 0) rfl rfl rfl ?_
    refine WP_getR rfl fl2_9 hs0 (by decide) rfl (wfX2_0 hs0).2 ?_
    refine WP_iload_n (i := 1) rfl rfl rfl ?_
    refine WP_iconst rfl ⟨by decide, by decide⟩ ?_
    refine WP_isub rfl ?_
    obtain ⟨x3, hx3, hf⟩ := obind hf
    obtain ⟨bx3, cx3, ex3⟩ := ald_some hx3
    subst ex3
    refine WP_iald rfl (wfX2_0 hs0).1 bx3 cx3 ?_
    refine WP_ixor rfl ?_
    refine WP_istore_n (i := 2) rfl rfl (Nat.le_of_ble_eq_true rfl) rfl ?_
    refine WP_iconst rfl ⟨by decide, by decide⟩ ?_
    refine WP_istore_n (i := 3) rfl rfl (Nat.le_of_ble_eq_true rfl) rfl ?_
    obtain ⟨q4, hq4, hf⟩ := obind hf
    refine WP_keep [true, true, true, true] (TX2_firstChange_24L hd hs0 hq4 (fun yq40 e => ?_))
    subst e
    refine WP_iload_n (i := 3) rfl rfl rfl ?_
    cases hf
    exact WP_iret rfl rfl (hr _ rfl)
theorem EX2_firstChange {l : Launch} {d : Nat} (hd : 1 ≤ d) {t0 : Nat} {v1 : Int} {h : mH} (hs0 : SX[t0]? = some (2, 4)) {rv : Int} (hf : fX2_firstChange t0 v1 h = some rv) : EvV l mtX2_firstChange d [.inr (.inr (.inl t0)), .inl v1] (SX, rX, h) (some (.inl rv)) (SX, rX, h) :=
  Ev.of okX2_firstChange (Nat.le_of_ble_eq_true rfl) (TX2_firstChange hd hs0 hf (fun a0 e => by cases e; exact ⟨rfl, rfl⟩))
def fX2_find_59 (t0 : Nat) (v1 : Int) (v2 : Int) (v3 : Int) (h : mH) : Option ((Int × Int) ⊕ (Int ⊕ Unit)) :=
  some (.inl (v2, v3))
def fX2_find_9 (t0 : Nat) (v1 : Int) (v2 : Int) (v3 : Int) (h : mH) : Option ((Int × Int) ⊕ (Int ⊕ Unit)) :=
  if v2 ≤ v3 then (ald h (rfX t0 0) 5040 (jdiv (jadd v2 v3) 2)).bind fun x2 => if x2 = v1 then some (.inr (.inl (jdiv (jadd v2 v3) 2))) else (ald h (rfX t0 0) 5040 (jdiv (jadd v2 v3) 2)).bind fun x4 => if x4 < v1 then fX2_find_59 t0 v1 (jadd (jdiv (jadd v2 v3) 2) 1) v3 h else fX2_find_59 t0 v1 v2 (jsub (jdiv (jadd v2 v3) 2) 1) h else some (.inr (.inr ()))
def fX2_find (t0 : Nat) (v1 : Int) (h : mH) : Option (Int) :=
  (mloop (fun s => fX2_find_9 t0 v1 s.1 s.2 h) mfu (0, (jsub (h t0 1) 1))).bind (Sum.elim (fun r => some r) (fun q1 => some (-1)))
theorem TX2_find_59 {l : Launch} {d : Nat} (hd : 0 ≤ d) {Q : Option mV → mM → Prop} {t0 : Nat} {v1 : Int} {v2 : Int} {v3 : Int} {h : mH} (hs0 : SX[t0]? = some (2, 4)) {x : (Int × Int) ⊕ (Int ⊕ Unit)} (hf : fX2_find_59 t0 v1 v2 v3 h = some x) (hc : ∀ (v2' : Int) (v3' : Int), x = .inl (v2', v3') → WP l mtX2_find d (0, 0) 9 [some (.inr (.inr (.inl t0))), some (.inl v1), some (.inl v2'), some (.inl v3'), none] [] (SX, rX, h) Q) (hr : ∀ rv, x = .inr (.inl rv) → Q (some (.inl rv)) (SX, rX, h)) (he62 : x = .inr (.inr ()) → WP l mtX2_find d (0, 0) 62 [some (.inr (.inr (.inl t0))), some (.inl v1), none, none, none] [] (SX, rX, h) Q) : WP l mtX2_find d (0, 0) 59 [some (.inr (.inr (.inl t0))), some (.inl v1), some (.inl v2), some (.inl v3), none] [] (SX, rX, h) Q := by
  unfold fX2_find_59 at hf
  refine WP_goto rfl rfl ?_
  cases hf
  exact WP_keep [true, true, true, true, false] (hc _ _ rfl)
theorem TX2_find_9 {l : Launch} {d : Nat} (hd : 0 ≤ d) {Q : Option mV → mM → Prop} {t0 : Nat} {v1 : Int} {v2 : Int} {v3 : Int} {h : mH} (hs0 : SX[t0]? = some (2, 4)) {x : (Int × Int) ⊕ (Int ⊕ Unit)} (hf : fX2_find_9 t0 v1 v2 v3 h = some x) (hc : ∀ (v2' : Int) (v3' : Int), x = .inl (v2', v3') → WP l mtX2_find d (0, 0) 9 [some (.inr (.inr (.inl t0))), some (.inl v1), some (.inl v2'), some (.inl v3'), none] [] (SX, rX, h) Q) (hr : ∀ rv, x = .inr (.inl rv) → Q (some (.inl rv)) (SX, rX, h)) (he62 : x = .inr (.inr ()) → WP l mtX2_find d (0, 0) 62 [some (.inr (.inr (.inl t0))), some (.inl v1), none, none, none] [] (SX, rX, h) Q) : WP l mtX2_find d (0, 0) 9 [some (.inr (.inr (.inl t0))), some (.inl v1), some (.inl v2), some (.inl v3), none] [] (SX, rX, h) Q := by
  unfold fX2_find_9 at hf
  refine WP_iload_n (i := 2) rfl rfl rfl ?_
  refine WP_iload_n (i := 3) rfl rfl rfl ?_
  refine WP_icmp_gt rfl rfl (fun c1 => ?_) (fun c1 => ?_)
  · have hf := (if_pos c1).symm.trans hf
    refine WP_iload_n (i := 2) rfl rfl rfl ?_
    refine WP_iload_n (i := 3) rfl rfl rfl ?_
    refine WP_iadd rfl ?_
    refine WP_iconst rfl ⟨by decide, by decide⟩ ?_
    refine WP_idiv rfl (by decide) ?_
    refine WP_istore (i := 4) rfl (Nat.le_of_ble_eq_true rfl) rfl ?_
    refine WP_aload_n (i := 0) rfl rfl rfl ?_
    refine WP_getR rfl fl2_9 hs0 (by decide) rfl (wfX2_0 hs0).2 ?_
    refine WP_iload (i := 4) rfl rfl ?_
    obtain ⟨x2, hx2, hf⟩ := obind hf
    obtain ⟨bx2, cx2, ex2⟩ := ald_some hx2
    subst ex2
    refine WP_iald rfl (wfX2_0 hs0).1 bx2 cx2 ?_
    refine WP_iload_n (i := 1) rfl rfl rfl ?_
    refine WP_icmp_ne rfl rfl (fun c3 => ?_) (fun c3 => ?_)
    · have hf := (if_pos c3).symm.trans hf
      refine WP_iload (i := 4) rfl rfl ?_
      cases hf
      exact WP_iret rfl rfl (hr _ rfl)
    · have hf := (if_neg c3).symm.trans hf
      refine WP_aload_n (i := 0) rfl rfl rfl ?_
      refine WP_getR rfl fl2_9 hs0 (by decide) rfl (wfX2_0 hs0).2 ?_
      refine WP_iload (i := 4) rfl rfl ?_
      obtain ⟨x4, hx4, hf⟩ := obind hf
      obtain ⟨bx4, cx4, ex4⟩ := ald_some hx4
      subst ex4
      refine WP_iald rfl (wfX2_0 hs0).1 bx4 cx4 ?_
      refine WP_iload_n (i := 1) rfl rfl rfl ?_
      refine WP_icmp_ge rfl rfl (fun c5 => ?_) (fun c5 => ?_)
      · have hf := (if_pos c5).symm.trans hf
        refine WP_iload (i := 4) rfl rfl ?_
        refine WP_iconst rfl ⟨by decide, by decide⟩ ?_
        refine WP_iadd rfl ?_
        refine WP_istore_n (i := 2) rfl rfl (Nat.le_of_ble_eq_true rfl) rfl ?_
        refine WP_goto rfl rfl ?_
        exact WP_keep [true, true, true, true, false] (TX2_find_59 hd hs0 hf hc hr he62)
      · have hf := (if_neg c5).symm.trans hf
        refine WP_iload (i := 4) rfl rfl ?_
        refine WP_iconst rfl ⟨by decide, by decide⟩ ?_
        refine WP_isub rfl ?_
        refine WP_istore_n (i := 3) rfl rfl (Nat.le_of_ble_eq_true rfl) rfl ?_
        exact WP_keep [true, true, true, true, false] (TX2_find_59 hd hs0 hf hc hr he62)
  · have hf := (if_neg c1).symm.trans hf
    cases hf
    exact WP_keep [true, true, false, false, false] (he62  rfl)
theorem TX2_find_9L {l : Launch} {d : Nat} (hd : 0 ≤ d) {Q : Option mV → mM → Prop} {t0 : Nat} {v1 : Int} {v2 : Int} {v3 : Int} {h : mH} (hs0 : SX[t0]? = some (2, 4)) {n : Nat} {x : Int ⊕ Unit} (hf : mloop (fun s => fX2_find_9 t0 v1 s.1 s.2 h) n (v2, v3) = some x) (hr : ∀ rv, x = .inl rv → Q (some (.inl rv)) (SX, rX, h)) (he62 : x = .inr () → WP l mtX2_find d (0, 0) 62 [some (.inr (.inr (.inl t0))), some (.inl v1), none, none, none] [] (SX, rX, h) Q) : WP l mtX2_find d (0, 0) 9 [some (.inr (.inr (.inl t0))), some (.inl v1), some (.inl v2), some (.inl v3), none] [] (SX, rX, h) Q :=
  mloop_sound (P := fun s => WP l mtX2_find d (0, 0) 9 [some (.inr (.inr (.inl t0))), some (.inl v1), some (.inl s.1), some (.inl s.2), none] [] (SX, rX, h) Q) (K := fun t => t = x) (fun s y hx hc he => TX2_find_9 hd hs0  hx (fun a0 a1 e => hc (a0, a1) e) (fun a0 e => hr a0 (he _ e).symm) (fun  e => he62  (he _ e).symm)) _ (v2, v3) _ hf rfl
theorem TX2_find {l : Launch} {d : Nat} (hd : 0 ≤ d) {Q : Option mV → mM → Prop} {t0 : Nat} {v1 : Int} {h : mH} (hs0 : SX[t0]? = some (2, 4)) {x : Int} (hf : fX2_find t0 v1 h = some x) (hr : ∀ rv, x = rv → Q (some (.inl rv)) (SX, rX, h)) : WP l mtX2_find d (0, 0) 0 [some (.inr (.inr (.inl t0))), some (.inl v1), none, none, none] [] (SX, rX, h) Q := by
  unfold fX2_find at hf
  refine WP_iconst rfl ⟨by decide, by decide⟩ ?_
  refine WP_istore_n (i := 2) rfl rfl (Nat.le_of_ble_eq_true rfl) rfl ?_
  refine WP_aload_n (i := 0) rfl rfl rfl ?_
  refine WP_getI rfl fl2_31 hs0 (by decide) (by decide) (Or.inl rfl) ?_
  refine WP_iconst rfl ⟨by decide, by decide⟩ ?_
  refine WP_isub rfl ?_
  refine WP_istore_n (i := 3) rfl rfl (Nat.le_of_ble_eq_true rfl) rfl ?_
  obtain ⟨q1, hq1, hf⟩ := obind hf
  refine WP_keep [true, true, true, true, false] (TX2_find_9L hd hs0 hq1 (fun a0 e => ?_) (fun  e => ?_))
  · subst e
    try dsimp only [Sum.elim_inl] at hf
    cases hf
    exact hr _ rfl
  · subst e
    try dsimp only [Sum.elim_inr, Sum.elim_inl] at hf
    refine WP_iconst rfl ⟨by decide, by decide⟩ ?_
    cases hf
    exact WP_iret rfl rfl (hr _ rfl)
theorem EX2_find {l : Launch} {d : Nat} (hd : 0 ≤ d) {t0 : Nat} {v1 : Int} {h : mH} (hs0 : SX[t0]? = some (2, 4)) {rv : Int} (hf : fX2_find t0 v1 h = some rv) : EvV l mtX2_find d [.inr (.inr (.inl t0)), .inl v1] (SX, rX, h) (some (.inl rv)) (SX, rX, h) :=
  Ev.of okX2_find (Nat.le_of_ble_eq_true rfl) (TX2_find hd hs0 hf (fun a0 e => by cases e; exact ⟨rfl, rfl⟩))
def fX2_amongFirst_5 (t0 : Nat) (v1 : Int) (v2 : Int) (v3 : Int) (v4 : Int) (h : mH) : Option ((Int × Int) ⊕ (Int)) :=
  if v4 < v2 then (gin 7 v1).bind fun j2 => (ald h (rfX (rfX t0 2) j2) 7 v4).bind fun x3 => some (.inl ((jadd v3 x3), (jadd v4 1))) else some (.inr v3)
def fX2_amongFirst (t0 : Nat) (v1 : Int) (v2 : Int) (h : mH) : Option (Int) :=
  (mloop (fun s => fX2_amongFirst_5 t0 v1 v2 s.1 s.2 h) mfu (0, 0)).bind fun q1 => some q1
theorem TX2_amongFirst_5 {l : Launch} {d : Nat} (hd : 0 ≤ d) {Q : Option mV → mM → Prop} {t0 : Nat} {v1 : Int} {v2 : Int} {v3 : Int} {v4 : Int} {h : mH} (hs0 : SX[t0]? = some (2, 4)) {x : (Int × Int) ⊕ (Int)} (hf : fX2_amongFirst_5 t0 v1 v2 v3 v4 h = some x) (hc : ∀ (v3' : Int) (v4' : Int), x = .inl (v3', v4') → WP l mtX2_amongFirst d (0, 0) 5 [some (.inr (.inr (.inl t0))), some (.inl v1), some (.inl v2), some (.inl v3'), some (.inl v4')] [] (SX, rX, h) Q) (he29 : ∀ (v3' : Int), x = .inr v3' → WP l mtX2_amongFirst d (0, 0) 29 [some (.inr (.inr (.inl t0))), some (.inl v1), some (.inl v2), some (.inl v3'), none] [] (SX, rX, h) Q) : WP l mtX2_amongFirst d (0, 0) 5 [some (.inr (.inr (.inl t0))), some (.inl v1), some (.inl v2), some (.inl v3), some (.inl v4)] [] (SX, rX, h) Q := by
  unfold fX2_amongFirst_5 at hf
  refine WP_iload (i := 4) rfl rfl ?_
  refine WP_iload_n (i := 2) rfl rfl rfl ?_
  refine WP_icmp_ge rfl rfl (fun c1 => ?_) (fun c1 => ?_)
  · have hf := (if_pos c1).symm.trans hf
    refine WP_iload_n (i := 3) rfl rfl rfl ?_
    refine WP_aload_n (i := 0) rfl rfl rfl ?_
    refine WP_getR rfl fl2_17 hs0 (by decide) rfl (wfX2_2 hs0).2 ?_
    refine WP_iload_n (i := 1) rfl rfl rfl ?_
    obtain ⟨j2, hj2, hf⟩ := obind hf
    obtain ⟨bj2, cj2, ej2⟩ := gin_some hj2
    subst ej2
    have wj2 := waX14_7 (wfX2_2 hs0).1 (inx bj2 cj2)
    refine WP_aald (ty := .array .int) rfl (wfX2_2 hs0).1 (by decide) (fun _ => rfl) rfl bj2 cj2 wj2.2 ?_
    refine WP_iload (i := 4) rfl rfl ?_
    obtain ⟨x3, hx3, hf⟩ := obind hf
    obtain ⟨bx3, cx3, ex3⟩ := ald_some hx3
    subst ex3
    refine WP_iald rfl wj2.1 bx3 cx3 ?_
    refine WP_iadd rfl ?_
    refine WP_istore_n (i := 3) rfl rfl (Nat.le_of_ble_eq_true rfl) rfl ?_
    refine WP_iinc rfl rfl (Nat.le_of_ble_eq_true rfl) rfl ?_
    refine WP_goto rfl rfl ?_
    cases hf
    exact WP_keep [true, true, true, true, true] (hc _ _ rfl)
  · have hf := (if_neg c1).symm.trans hf
    cases hf
    exact WP_keep [true, true, true, true, false] (he29 _ rfl)
theorem TX2_amongFirst_5L {l : Launch} {d : Nat} (hd : 0 ≤ d) {Q : Option mV → mM → Prop} {t0 : Nat} {v1 : Int} {v2 : Int} {v3 : Int} {v4 : Int} {h : mH} (hs0 : SX[t0]? = some (2, 4)) {n : Nat} {x : Int} (hf : mloop (fun s => fX2_amongFirst_5 t0 v1 v2 s.1 s.2 h) n (v3, v4) = some x) (he29 : ∀ (v3' : Int), x = v3' → WP l mtX2_amongFirst d (0, 0) 29 [some (.inr (.inr (.inl t0))), some (.inl v1), some (.inl v2), some (.inl v3'), none] [] (SX, rX, h) Q) : WP l mtX2_amongFirst d (0, 0) 5 [some (.inr (.inr (.inl t0))), some (.inl v1), some (.inl v2), some (.inl v3), some (.inl v4)] [] (SX, rX, h) Q :=
  mloop_sound (P := fun s => WP l mtX2_amongFirst d (0, 0) 5 [some (.inr (.inr (.inl t0))), some (.inl v1), some (.inl v2), some (.inl s.1), some (.inl s.2)] [] (SX, rX, h) Q) (K := fun t => t = x) (fun s y hx hc he => TX2_amongFirst_5 hd hs0  hx (fun a0 a1 e => hc (a0, a1) e) (fun a0 e => he29 a0 (he _ e).symm)) _ (v3, v4) _ hf rfl
theorem TX2_amongFirst {l : Launch} {d : Nat} (hd : 0 ≤ d) {Q : Option mV → mM → Prop} {t0 : Nat} {v1 : Int} {v2 : Int} {h : mH} (hs0 : SX[t0]? = some (2, 4)) {x : Int} (hf : fX2_amongFirst t0 v1 v2 h = some x) (hr : ∀ rv, x = rv → Q (some (.inl rv)) (SX, rX, h)) : WP l mtX2_amongFirst d (0, 0) 0 [some (.inr (.inr (.inl t0))), some (.inl v1), some (.inl v2), none, none] [] (SX, rX, h) Q := by
  unfold fX2_amongFirst at hf
  refine WP_iconst rfl ⟨by decide, by decide⟩ ?_
  refine WP_istore_n (i := 3) rfl rfl (Nat.le_of_ble_eq_true rfl) rfl ?_
  refine WP_iconst rfl ⟨by decide, by decide⟩ ?_
  refine WP_istore (i := 4) rfl (Nat.le_of_ble_eq_true rfl) rfl ?_
  obtain ⟨q1, hq1, hf⟩ := obind hf
  refine WP_keep [true, true, true, true, true] (TX2_amongFirst_5L hd hs0 hq1 (fun yq10 e => ?_))
  subst e
  refine WP_iload_n (i := 3) rfl rfl rfl ?_
  cases hf
  exact WP_iret rfl rfl (hr _ rfl)
theorem EX2_amongFirst {l : Launch} {d : Nat} (hd : 0 ≤ d) {t0 : Nat} {v1 : Int} {v2 : Int} {h : mH} (hs0 : SX[t0]? = some (2, 4)) {rv : Int} (hf : fX2_amongFirst t0 v1 v2 h = some rv) : EvV l mtX2_amongFirst d [.inr (.inr (.inl t0)), .inl v1, .inl v2] (SX, rX, h) (some (.inl rv)) (SX, rX, h) :=
  Ev.of okX2_amongFirst (Nat.le_of_ble_eq_true rfl) (TX2_amongFirst hd hs0 hf (fun a0 e => by cases e; exact ⟨rfl, rfl⟩))
def fX2_longestWait_2 (t0 : Nat) (v1 : Int) (v2 : Int) (h : mH) : Option ((Int) ⊕ (Int)) :=
  if v2 < 6 then (gin 7 v1).bind fun j2 => (ald h (rfX (rfX t0 2) j2) 7 v2).bind fun x3 => if x3 = 0 then some (.inl (jadd v2 1)) else some (.inr v2) else some (.inr v2)
def fX2_longestWait_28 (t0 : Nat) (v1 : Int) (v2 : Int) (v3 : Int) (h : mH) : Option ((Int) ⊕ (Int)) :=
  if v3 ≤ 0 then some (.inr v3) else (gin 7 v1).bind fun j2 => (ald h (rfX (rfX t0 2) j2) 7 v3).bind fun x3 => if x3 = 0 then some (.inl (jadd v3 (-1))) else some (.inr v3)
def fX2_longestWait (t0 : Nat) (v1 : Int) (h : mH) : Option (Int) :=
  (mloop (fun s => fX2_longestWait_2 t0 v1 s h) mfu 0).bind fun q1 => (mloop (fun s => fX2_longestWait_28 t0 v1 q1 s h) mfu 6).bind fun q2 => some (jadd (jsub 7 q1) q2)
theorem TX2_longestWait_2 {l : Launch} {d : Nat} (hd : 0 ≤ d) {Q : Option mV → mM → Prop} {t0 : Nat} {v1 : Int} {v2 : Int} {h : mH} (hs0 : SX[t0]? = some (2, 4)) {x : (Int) ⊕ (Int)} (hf : fX2_longestWait_2 t0 v1 v2 h = some x) (hc : ∀ (v2' : Int), x = .inl v2' → WP l mtX2_longestWait d (0, 0) 2 [some (.inr (.inr (.inl t0))), some (.inl v1), some (.inl v2'), none] [] (SX, rX, h) Q) (he25 : ∀ (v2' : Int), x = .inr v2' → WP l mtX2_longestWait d (0, 0) 25 [some (.inr (.inr (.inl t0))), some (.inl v1), some (.inl v2'), none] [] (SX, rX, h) Q) : WP l mtX2_longestWait d (0, 0) 2 [some (.inr (.inr (.inl t0))), some (.inl v1), some (.inl v2), none] [] (SX, rX, h) Q := by
  unfold fX2_longestWait_2 at hf
  refine WP_iload_n (i := 2) rfl rfl rfl ?_
  refine WP_bipush rfl ⟨by decide, by decide⟩ (by decide) ?_
  refine WP_icmp_ge rfl rfl (fun c1 => ?_) (fun c1 => ?_)
  · have hf := (if_pos c1).symm.trans hf
    refine WP_aload_n (i := 0) rfl rfl rfl ?_
    refine WP_getR rfl fl2_17 hs0 (by decide) rfl (wfX2_2 hs0).2 ?_
    refine WP_iload_n (i := 1) rfl rfl rfl ?_
    obtain ⟨j2, hj2, hf⟩ := obind hf
    obtain ⟨bj2, cj2, ej2⟩ := gin_some hj2
    subst ej2
    have wj2 := waX14_7 (wfX2_2 hs0).1 (inx bj2 cj2)
    refine WP_aald (ty := .array .int) rfl (wfX2_2 hs0).1 (by decide) (fun _ => rfl) rfl bj2 cj2 wj2.2 ?_
    refine WP_iload_n (i := 2) rfl rfl rfl ?_
    obtain ⟨x3, hx3, hf⟩ := obind hf
    obtain ⟨bx3, cx3, ex3⟩ := ald_some hx3
    subst ex3
    refine WP_iald rfl wj2.1 bx3 cx3 ?_
    refine WP_if_ne rfl rfl (fun c4 => ?_) (fun c4 => ?_)
    · have hf := (if_pos c4).symm.trans hf
      refine WP_iinc rfl rfl (Nat.le_of_ble_eq_true rfl) rfl ?_
      refine WP_goto rfl rfl ?_
      cases hf
      exact WP_keep [true, true, true, false] (hc _ rfl)
    · have hf := (if_neg c4).symm.trans hf
      cases hf
      exact WP_keep [true, true, true, false] (he25 _ rfl)
  · have hf := (if_neg c1).symm.trans hf
    cases hf
    exact WP_keep [true, true, true, false] (he25 _ rfl)
theorem TX2_longestWait_2L {l : Launch} {d : Nat} (hd : 0 ≤ d) {Q : Option mV → mM → Prop} {t0 : Nat} {v1 : Int} {v2 : Int} {h : mH} (hs0 : SX[t0]? = some (2, 4)) {n : Nat} {x : Int} (hf : mloop (fun s => fX2_longestWait_2 t0 v1 s h) n v2 = some x) (he25 : ∀ (v2' : Int), x = v2' → WP l mtX2_longestWait d (0, 0) 25 [some (.inr (.inr (.inl t0))), some (.inl v1), some (.inl v2'), none] [] (SX, rX, h) Q) : WP l mtX2_longestWait d (0, 0) 2 [some (.inr (.inr (.inl t0))), some (.inl v1), some (.inl v2), none] [] (SX, rX, h) Q :=
  mloop_sound (P := fun s => WP l mtX2_longestWait d (0, 0) 2 [some (.inr (.inr (.inl t0))), some (.inl v1), some (.inl s), none] [] (SX, rX, h) Q) (K := fun t => t = x) (fun s y hx hc he => TX2_longestWait_2 hd hs0  hx (fun a0 e => hc a0 e) (fun a0 e => he25 a0 (he _ e).symm)) _ v2 _ hf rfl
theorem TX2_longestWait_28 {l : Launch} {d : Nat} (hd : 0 ≤ d) {Q : Option mV → mM → Prop} {t0 : Nat} {v1 : Int} {v2 : Int} {v3 : Int} {h : mH} (hs0 : SX[t0]? = some (2, 4)) {x : (Int) ⊕ (Int)} (hf : fX2_longestWait_28 t0 v1 v2 v3 h = some x) (hc : ∀ (v3' : Int), x = .inl v3' → WP l mtX2_longestWait d (0, 0) 28 [some (.inr (.inr (.inl t0))), some (.inl v1), some (.inl v2), some (.inl v3')] [] (SX, rX, h) Q) (he49 : ∀ (v3' : Int), x = .inr v3' → WP l mtX2_longestWait d (0, 0) 49 [some (.inr (.inr (.inl t0))), some (.inl v1), some (.inl v2), some (.inl v3')] [] (SX, rX, h) Q) : WP l mtX2_longestWait d (0, 0) 28 [some (.inr (.inr (.inl t0))), some (.inl v1), some (.inl v2), some (.inl v3)] [] (SX, rX, h) Q := by
  unfold fX2_longestWait_28 at hf
  refine WP_iload_n (i := 3) rfl rfl rfl ?_
  refine WP_if_le rfl rfl (fun c1 => ?_) (fun c1 => ?_)
  · have hf := (if_pos c1).symm.trans hf
    cases hf
    exact WP_keep [true, true, true, true] (he49 _ rfl)
  · have hf := (if_neg c1).symm.trans hf
    refine WP_aload_n (i := 0) rfl rfl rfl ?_
    refine WP_getR rfl fl2_17 hs0 (by decide) rfl (wfX2_2 hs0).2 ?_
    refine WP_iload_n (i := 1) rfl rfl rfl ?_
    obtain ⟨j2, hj2, hf⟩ := obind hf
    obtain ⟨bj2, cj2, ej2⟩ := gin_some hj2
    subst ej2
    have wj2 := waX14_7 (wfX2_2 hs0).1 (inx bj2 cj2)
    refine WP_aald (ty := .array .int) rfl (wfX2_2 hs0).1 (by decide) (fun _ => rfl) rfl bj2 cj2 wj2.2 ?_
    refine WP_iload_n (i := 3) rfl rfl rfl ?_
    obtain ⟨x3, hx3, hf⟩ := obind hf
    obtain ⟨bx3, cx3, ex3⟩ := ald_some hx3
    subst ex3
    refine WP_iald rfl wj2.1 bx3 cx3 ?_
    refine WP_if_ne rfl rfl (fun c4 => ?_) (fun c4 => ?_)
    · have hf := (if_pos c4).symm.trans hf
      refine WP_iinc rfl rfl (Nat.le_of_ble_eq_true rfl) rfl ?_
      refine WP_goto rfl rfl ?_
      cases hf
      exact WP_keep [true, true, true, true] (hc _ rfl)
    · have hf := (if_neg c4).symm.trans hf
      cases hf
      exact WP_keep [true, true, true, true] (he49 _ rfl)
theorem TX2_longestWait_28L {l : Launch} {d : Nat} (hd : 0 ≤ d) {Q : Option mV → mM → Prop} {t0 : Nat} {v1 : Int} {v2 : Int} {v3 : Int} {h : mH} (hs0 : SX[t0]? = some (2, 4)) {n : Nat} {x : Int} (hf : mloop (fun s => fX2_longestWait_28 t0 v1 v2 s h) n v3 = some x) (he49 : ∀ (v3' : Int), x = v3' → WP l mtX2_longestWait d (0, 0) 49 [some (.inr (.inr (.inl t0))), some (.inl v1), some (.inl v2), some (.inl v3')] [] (SX, rX, h) Q) : WP l mtX2_longestWait d (0, 0) 28 [some (.inr (.inr (.inl t0))), some (.inl v1), some (.inl v2), some (.inl v3)] [] (SX, rX, h) Q :=
  mloop_sound (P := fun s => WP l mtX2_longestWait d (0, 0) 28 [some (.inr (.inr (.inl t0))), some (.inl v1), some (.inl v2), some (.inl s)] [] (SX, rX, h) Q) (K := fun t => t = x) (fun s y hx hc he => TX2_longestWait_28 hd hs0  hx (fun a0 e => hc a0 e) (fun a0 e => he49 a0 (he _ e).symm)) _ v3 _ hf rfl
theorem TX2_longestWait {l : Launch} {d : Nat} (hd : 0 ≤ d) {Q : Option mV → mM → Prop} {t0 : Nat} {v1 : Int} {h : mH} (hs0 : SX[t0]? = some (2, 4)) {x : Int} (hf : fX2_longestWait t0 v1 h = some x) (hr : ∀ rv, x = rv → Q (some (.inl rv)) (SX, rX, h)) : WP l mtX2_longestWait d (0, 0) 0 [some (.inr (.inr (.inl t0))), some (.inl v1), none, none] [] (SX, rX, h) Q := by
  unfold fX2_longestWait at hf
  refine WP_iconst rfl ⟨by decide, by decide⟩ ?_
  refine WP_istore_n (i := 2) rfl rfl (Nat.le_of_ble_eq_true rfl) rfl ?_
  obtain ⟨q1, hq1, hf⟩ := obind hf
  refine WP_keep [true, true, true, false] (TX2_longestWait_2L hd hs0 hq1 (fun yq10 e => ?_))
  subst e
  refine WP_bipush rfl ⟨by decide, by decide⟩ (by decide) ?_
  refine WP_istore_n (i := 3) rfl rfl (Nat.le_of_ble_eq_true rfl) rfl ?_
  obtain ⟨q2, hq2, hf⟩ := obind hf
  refine WP_keep [true, true, true, true] (TX2_longestWait_28L hd hs0 hq2 (fun yq20 e => ?_))
  subst e
  refine WP_bipush rfl ⟨by decide, by decide⟩ (by decide) ?_
  refine WP_iload_n (i := 2) rfl rfl rfl ?_
  refine WP_isub rfl ?_
  refine WP_iload_n (i := 3) rfl rfl rfl ?_
  refine WP_iadd rfl ?_
  cases hf
  exact WP_iret rfl rfl (hr _ rfl)
theorem EX2_longestWait {l : Launch} {d : Nat} (hd : 0 ≤ d) {t0 : Nat} {v1 : Int} {h : mH} (hs0 : SX[t0]? = some (2, 4)) {rv : Int} (hf : fX2_longestWait t0 v1 h = some rv) : EvV l mtX2_longestWait d [.inr (.inr (.inl t0)), .inl v1] (SX, rX, h) (some (.inl rv)) (SX, rX, h) :=
  Ev.of okX2_longestWait (Nat.le_of_ble_eq_true rfl) (TX2_longestWait hd hs0 hf (fun a0 e => by cases e; exact ⟨rfl, rfl⟩))
def fX5_addWeek_2 (t0 : Nat) (v1 : Int) (v2 : Int) (h : mH) : Option ((Int × mH) ⊕ (mH)) :=
  if v2 ≤ 0 then some (.inr h) else (ald h (rfX t0 4) 4 (jsub v2 1)).bind fun x2 => (ast h (rfX t0 4) 4 v2 x2).bind fun h3 => some (.inl ((jadd v2 (-1)), h3))
def fX5_addWeek (t0 : Nat) (v1 : Int) (h : mH) : Option (mH) :=
  (mloop (fun s => fX5_addWeek_2 t0 v1 s.1 s.2) mfu (3, h)).bind fun q1 => (ast q1 (rfX t0 4) 4 0 v1).bind fun h2 => some (hset h2 t0 3 (jadd (h2 t0 3) 1))
theorem TX5_addWeek_2 {l : Launch} {d : Nat} (hd : 0 ≤ d) {Q : Option mV → mM → Prop} {t0 : Nat} {v1 : Int} {v2 : Int} {h : mH} (hs0 : SX[t0]? = some (5, 5)) {x : (Int × mH) ⊕ (mH)} (hf : fX5_addWeek_2 t0 v1 v2 h = some x) (hc : ∀ (v2' : Int) (h' : mH), x = .inl (v2', h') → WP l mtX5_addWeek d (0, 0) 2 [some (.inr (.inr (.inl t0))), some (.inl v1), some (.inl v2')] [] (SX, rX, h') Q) (he26 : ∀ (h' : mH), x = .inr h' → WP l mtX5_addWeek d (0, 0) 26 [some (.inr (.inr (.inl t0))), some (.inl v1), none] [] (SX, rX, h') Q) : WP l mtX5_addWeek d (0, 0) 2 [some (.inr (.inr (.inl t0))), some (.inl v1), some (.inl v2)] [] (SX, rX, h) Q := by
  unfold fX5_addWeek_2 at hf
  refine WP_iload_n (i := 2) rfl rfl rfl ?_
  refine WP_if_le rfl rfl (fun c1 => ?_) (fun c1 => ?_)
  · have hf := (if_pos c1).symm.trans hf
    cases hf
    exact WP_keep [true, true, false] (he26 _ rfl)
  · have hf := (if_neg c1).symm.trans hf
    refine WP_aload_n (i := 0) rfl rfl rfl ?_
    refine WP_getR rfl fl5_18 hs0 (by decide) rfl (wfX5_4 hs0).2 ?_
    refine WP_iload_n (i := 2) rfl rfl rfl ?_
    refine WP_aload_n (i := 0) rfl rfl rfl ?_
    refine WP_getR rfl fl5_18 hs0 (by decide) rfl (wfX5_4 hs0).2 ?_
    refine WP_iload_n (i := 2) rfl rfl rfl ?_
    refine WP_iconst rfl ⟨by decide, by decide⟩ ?_
    refine WP_isub rfl ?_
    obtain ⟨x2, hx2, hf⟩ := obind hf
    obtain ⟨bx2, cx2, ex2⟩ := ald_some hx2
    subst ex2
    refine WP_iald rfl (wfX5_4 hs0).1 bx2 cx2 ?_
    obtain ⟨h3, hh3, hf⟩ := obind hf
    obtain ⟨bh3, ch3, eh3⟩ := ast_some hh3
    subst eh3
    refine WP_iast rfl (wfX5_4 hs0).1 bh3 ch3 ?_
    refine WP_iinc rfl rfl (Nat.le_of_ble_eq_true rfl) rfl ?_
    refine WP_goto rfl rfl ?_
    cases hf
    exact WP_keep [true, true, true] (hc _ _ rfl)
theorem TX5_addWeek_2L {l : Launch} {d : Nat} (hd : 0 ≤ d) {Q : Option mV → mM → Prop} {t0 : Nat} {v1 : Int} {v2 : Int} {h : mH} (hs0 : SX[t0]? = some (5, 5)) {n : Nat} {x : mH} (hf : mloop (fun s => fX5_addWeek_2 t0 v1 s.1 s.2) n (v2, h) = some x) (he26 : ∀ (h' : mH), x = h' → WP l mtX5_addWeek d (0, 0) 26 [some (.inr (.inr (.inl t0))), some (.inl v1), none] [] (SX, rX, h') Q) : WP l mtX5_addWeek d (0, 0) 2 [some (.inr (.inr (.inl t0))), some (.inl v1), some (.inl v2)] [] (SX, rX, h) Q :=
  mloop_sound (P := fun s => WP l mtX5_addWeek d (0, 0) 2 [some (.inr (.inr (.inl t0))), some (.inl v1), some (.inl s.1)] [] (SX, rX, s.2) Q) (K := fun t => t = x) (fun s y hx hc he => TX5_addWeek_2 hd hs0  hx (fun a0 a1 e => hc (a0, a1) e) (fun a0 e => he26 a0 (he _ e).symm)) _ (v2, h) _ hf rfl
theorem TX5_addWeek {l : Launch} {d : Nat} (hd : 0 ≤ d) {Q : Option mV → mM → Prop} {t0 : Nat} {v1 : Int} {h : mH} (hs0 : SX[t0]? = some (5, 5)) {x : mH} (hf : fX5_addWeek t0 v1 h = some x) (hr : ∀ rh, x = rh → Q none (SX, rX, rh)) : WP l mtX5_addWeek d (0, 0) 0 [some (.inr (.inr (.inl t0))), some (.inl v1), none] [] (SX, rX, h) Q := by
  unfold fX5_addWeek at hf
  refine WP_iconst rfl ⟨by decide, by decide⟩ ?_
  refine WP_istore_n (i := 2) rfl rfl (Nat.le_of_ble_eq_true rfl) rfl ?_
  obtain ⟨q1, hq1, hf⟩ := obind hf
  refine WP_keep [true, true, true] (TX5_addWeek_2L hd hs0 hq1 (fun yq10 e => ?_))
  subst e
  refine WP_aload_n (i := 0) rfl rfl rfl ?_
  refine WP_getR rfl fl5_18 hs0 (by decide) rfl (wfX5_4 hs0).2 ?_
  refine WP_iconst rfl ⟨by decide, by decide⟩ ?_
  refine WP_iload_n (i := 1) rfl rfl rfl ?_
  obtain ⟨h2, hh2, hf⟩ := obind hf
  obtain ⟨bh2, ch2, eh2⟩ := ast_some hh2
  subst eh2
  refine WP_iast rfl (wfX5_4 hs0).1 bh2 ch2 ?_
  refine WP_aload_n (i := 0) rfl rfl rfl ?_
  refine WP_dupa rfl ?_
  refine WP_getI rfl fl5_31 hs0 (by decide) (by decide) (Or.inl rfl) ?_
  refine WP_iconst rfl ⟨by decide, by decide⟩ ?_
  refine WP_iadd rfl ?_
  refine WP_putI rfl fw5_31 hs0 (by decide) rfl (by decide) ?_
  cases hf
  exact WP_vret rfl rfl (hr _ rfl)
theorem EX5_addWeek {l : Launch} {d : Nat} (hd : 0 ≤ d) {t0 : Nat} {v1 : Int} {h : mH} (hs0 : SX[t0]? = some (5, 5)) {rh : mH} (hf : fX5_addWeek t0 v1 h = some rh) : EvV l mtX5_addWeek d [.inr (.inr (.inl t0)), .inl v1] (SX, rX, h) none (SX, rX, rh) :=
  Ev.of okX5_addWeek (Nat.le_of_ble_eq_true rfl) (TX5_addWeek hd hs0 hf (fun a0 e => by cases e; exact ⟨rfl, rfl⟩))
def fX5_copy (t0 : Nat) (t1 : Nat) (h : mH) : Option (mH) :=
  (acp h (rfX t1 0) 6 0 (rfX t0 0) 6 0 6).bind fun h1 => (acp h1 (rfX t1 1) 6 0 (rfX t0 1) 6 0 6).bind fun h2 => (acp (hset (hset h2 t0 2 (h2 t1 2)) t0 3 ((hset h2 t0 2 (h2 t1 2)) t1 3)) (rfX t1 4) 4 0 (rfX t0 4) 4 0 4).bind fun h3 => some h3
theorem TX5_copy {l : Launch} {d : Nat} (hd : 1 ≤ d) {Q : Option mV → mM → Prop} {t0 : Nat} {t1 : Nat} {h : mH} (hs0 : SX[t0]? = some (5, 5)) (hs1 : SX[t1]? = some (5, 5)) {x : mH} (hf : fX5_copy t0 t1 h = some x) (hr : ∀ rh, x = rh → Q none (SX, rX, rh)) : WP l mtX5_copy d (0, 0) 0 [some (.inr (.inr (.inl t0))), some (.inr (.inr (.inl t1)))] [] (SX, rX, h) Q := by
  unfold fX5_copy at hf
  refine WP_aload_n (i := 1) rfl rfl rfl ?_
  refine WP_getR rfl fl5_9 hs1 (by decide) rfl (wfX5_0 hs1).2 ?_
  refine WP_iconst rfl ⟨by decide, by decide⟩ ?_
  refine WP_aload_n (i := 0) rfl rfl rfl ?_
  refine WP_getR rfl fl5_9 hs0 (by decide) rfl (wfX5_0 hs0).2 ?_
  refine WP_iconst rfl ⟨by decide, by decide⟩ ?_
  refine WP_bipush rfl ⟨by decide, by decide⟩ (by decide) ?_
  obtain ⟨h1, hh1, hf⟩ := obind hf
  obtain ⟨bh1, eh1⟩ := acp_some hh1
  subst eh1
  refine WP_acpI rfl ml5_34 kacp (wfX5_0 hs1).1 (wfX5_0 hs0).1 bh1 (by omega) (Nat.le_of_ble_eq_true rfl) ?_
  refine WP_aload_n (i := 1) rfl rfl rfl ?_
  refine WP_getR rfl fl5_15 hs1 (by decide) rfl (wfX5_1 hs1).2 ?_
  refine WP_iconst rfl ⟨by decide, by decide⟩ ?_
  refine WP_aload_n (i := 0) rfl rfl rfl ?_
  refine WP_getR rfl fl5_15 hs0 (by decide) rfl (wfX5_1 hs0).2 ?_
  refine WP_iconst rfl ⟨by decide, by decide⟩ ?_
  refine WP_bipush rfl ⟨by decide, by decide⟩ (by decide) ?_
  obtain ⟨h2, hh2, hf⟩ := obind hf
  obtain ⟨bh2, eh2⟩ := acp_some hh2
  subst eh2
  refine WP_acpI rfl ml5_34 kacp (wfX5_1 hs1).1 (wfX5_1 hs0).1 bh2 (by omega) (Nat.le_of_ble_eq_true rfl) ?_
  refine WP_aload_n (i := 0) rfl rfl rfl ?_
  refine WP_aload_n (i := 1) rfl rfl rfl ?_
  refine WP_getI rfl fl5_27 hs1 (by decide) (by decide) (Or.inl rfl) ?_
  refine WP_putI rfl fw5_27 hs0 (by decide) rfl (by decide) ?_
  refine WP_aload_n (i := 0) rfl rfl rfl ?_
  refine WP_aload_n (i := 1) rfl rfl rfl ?_
  refine WP_getI rfl fl5_31 hs1 (by decide) (by decide) (Or.inl rfl) ?_
  refine WP_putI rfl fw5_31 hs0 (by decide) rfl (by decide) ?_
  refine WP_aload_n (i := 1) rfl rfl rfl ?_
  refine WP_getR rfl fl5_18 hs1 (by decide) rfl (wfX5_4 hs1).2 ?_
  refine WP_iconst rfl ⟨by decide, by decide⟩ ?_
  refine WP_aload_n (i := 0) rfl rfl rfl ?_
  refine WP_getR rfl fl5_18 hs0 (by decide) rfl (wfX5_4 hs0).2 ?_
  refine WP_iconst rfl ⟨by decide, by decide⟩ ?_
  refine WP_iconst rfl ⟨by decide, by decide⟩ ?_
  obtain ⟨h3, hh3, hf⟩ := obind hf
  obtain ⟨bh3, eh3⟩ := acp_some hh3
  subst eh3
  refine WP_acpI rfl ml5_34 kacp (wfX5_4 hs1).1 (wfX5_4 hs0).1 bh3 (by omega) (Nat.le_of_ble_eq_true rfl) ?_
  cases hf
  exact WP_vret rfl rfl (hr _ rfl)
theorem EX5_copy {l : Launch} {d : Nat} (hd : 1 ≤ d) {t0 : Nat} {t1 : Nat} {h : mH} (hs0 : SX[t0]? = some (5, 5)) (hs1 : SX[t1]? = some (5, 5)) {rh : mH} (hf : fX5_copy t0 t1 h = some rh) : EvV l mtX5_copy d [.inr (.inr (.inl t0)), .inr (.inr (.inl t1))] (SX, rX, h) none (SX, rX, rh) :=
  Ev.of okX5_copy (Nat.le_of_ble_eq_true rfl) (TX5_copy hd hs0 hs1 hf (fun a0 e => by cases e; exact ⟨rfl, rfl⟩))
def fX4_push (t0 : Nat) (t1 : Nat) (h : mH) : Option (mH) :=
  (gin 8 ((hset h t0 1 (jrem (jadd (h t0 1) 1) 8)) t0 1)).bind fun j1 => (fX5_copy (rfX (rfX t0 0) j1) t1 (hset h t0 1 (jrem (jadd (h t0 1) 1) 8))).bind fun h3 => some (hset h3 t0 2 (jmin (jadd (h3 t0 2) 1) 8))
theorem TX4_push {l : Launch} {d : Nat} (hd : 2 ≤ d) {Q : Option mV → mM → Prop} {t0 : Nat} {t1 : Nat} {h : mH} (hs0 : SX[t0]? = some (4, 3)) (hs1 : SX[t1]? = some (5, 5)) {x : mH} (hf : fX4_push t0 t1 h = some x) (hr : ∀ rh, x = rh → Q none (SX, rX, rh)) : WP l mtX4_push d (0, 0) 0 [some (.inr (.inr (.inl t0))), some (.inr (.inr (.inl t1)))] [] (SX, rX, h) Q := by
  unfold fX4_push at hf
  refine WP_aload_n (i := 0) rfl rfl rfl ?_
  refine WP_aload_n (i := 0) rfl rfl rfl ?_
  refine WP_getI rfl fl4_18 hs0 (by decide) (by decide) (Or.inl rfl) ?_
  refine WP_iconst rfl ⟨by decide, by decide⟩ ?_
  refine WP_iadd rfl ?_
  refine WP_bipush rfl ⟨by decide, by decide⟩ (by decide) ?_
  refine WP_irem rfl (by decide) ?_
  refine WP_putI rfl fw4_18 hs0 (by decide) rfl (by decide) ?_
  refine WP_aload_n (i := 0) rfl rfl rfl ?_
  refine WP_getR rfl fl4_11 hs0 (by decide) rfl (wfX4_0 hs0).2 ?_
  refine WP_aload_n (i := 0) rfl rfl rfl ?_
  refine WP_getI rfl fl4_18 hs0 (by decide) (by decide) (Or.inl rfl) ?_
  obtain ⟨j1, hj1, hf⟩ := obind hf
  obtain ⟨bj1, cj1, ej1⟩ := gin_some hj1
  subst ej1
  have wj1 := waX16_8 (wfX4_0 hs0).1 (inx bj1 cj1)
  refine WP_aald (ty := .object "MondayDeal$State") rfl (wfX4_0 hs0).1 (by decide) (fun _ => rfl) rfl bj1 cj1 wj1.2 ?_
  refine WP_aload_n (i := 1) rfl rfl rfl ?_
  obtain ⟨h3, hx2, hf⟩ := obind hf
  refine WP_cVv (EX5_copy (by omega) wj1.1 hs1  hx2) vkX5_copy rfl ml4_22 wj1.1 rfl (by omega) rfl (Nat.le_of_ble_eq_true rfl) ?_
  refine WP_aload_n (i := 0) rfl rfl rfl ?_
  refine WP_aload_n (i := 0) rfl rfl rfl ?_
  refine WP_getI rfl fl4_26 hs0 (by decide) (by decide) (Or.inl rfl) ?_
  refine WP_iconst rfl ⟨by decide, by decide⟩ ?_
  refine WP_iadd rfl ?_
  refine WP_bipush rfl ⟨by decide, by decide⟩ (by decide) ?_
  refine WP_min rfl ml4_29 kmin (by omega) (Nat.le_of_ble_eq_true rfl) ?_
  refine WP_putI rfl fw4_26 hs0 (by decide) rfl (by decide) ?_
  cases hf
  exact WP_vret rfl rfl (hr _ rfl)
theorem EX4_push {l : Launch} {d : Nat} (hd : 2 ≤ d) {t0 : Nat} {t1 : Nat} {h : mH} (hs0 : SX[t0]? = some (4, 3)) (hs1 : SX[t1]? = some (5, 5)) {rh : mH} (hf : fX4_push t0 t1 h = some rh) : EvV l mtX4_push d [.inr (.inr (.inl t0)), .inr (.inr (.inl t1))] (SX, rX, h) none (SX, rX, rh) :=
  Ev.of okX4_push (Nat.le_of_ble_eq_true rfl) (TX4_push hd hs0 hs1 hf (fun a0 e => by cases e; exact ⟨rfl, rfl⟩))
def fX4_pop (t0 : Nat) (t1 : Nat) (h : mH) : Option (mH) :=
  (gin 8 (h t0 1)).bind fun j1 => (fX5_copy t1 (rfX (rfX t0 0) j1) h).bind fun h3 => some (hset (hset h3 t0 1 (jrem (jsub (jadd (h3 t0 1) 8) 1) 8)) t0 2 (jsub ((hset h3 t0 1 (jrem (jsub (jadd (h3 t0 1) 8) 1) 8)) t0 2) 1))
theorem TX4_pop {l : Launch} {d : Nat} (hd : 2 ≤ d) {Q : Option mV → mM → Prop} {t0 : Nat} {t1 : Nat} {h : mH} (hs0 : SX[t0]? = some (4, 3)) (hs1 : SX[t1]? = some (5, 5)) {x : mH} (hf : fX4_pop t0 t1 h = some x) (hr : ∀ rh, x = rh → Q none (SX, rX, rh)) : WP l mtX4_pop d (0, 0) 0 [some (.inr (.inr (.inl t0))), some (.inr (.inr (.inl t1)))] [] (SX, rX, h) Q := by
  unfold fX4_pop at hf
  refine WP_aload_n (i := 1) rfl rfl rfl ?_
  refine WP_aload_n (i := 0) rfl rfl rfl ?_
  refine WP_getR rfl fl4_11 hs0 (by decide) rfl (wfX4_0 hs0).2 ?_
  refine WP_aload_n (i := 0) rfl rfl rfl ?_
  refine WP_getI rfl fl4_18 hs0 (by decide) (by decide) (Or.inl rfl) ?_
  obtain ⟨j1, hj1, hf⟩ := obind hf
  obtain ⟨bj1, cj1, ej1⟩ := gin_some hj1
  subst ej1
  have wj1 := waX16_8 (wfX4_0 hs0).1 (inx bj1 cj1)
  refine WP_aald (ty := .object "MondayDeal$State") rfl (wfX4_0 hs0).1 (by decide) (fun _ => rfl) rfl bj1 cj1 wj1.2 ?_
  obtain ⟨h3, hx2, hf⟩ := obind hf
  refine WP_cVv (EX5_copy (by omega) hs1 wj1.1  hx2) vkX5_copy rfl ml4_22 hs1 rfl (by omega) rfl (Nat.le_of_ble_eq_true rfl) ?_
  refine WP_aload_n (i := 0) rfl rfl rfl ?_
  refine WP_aload_n (i := 0) rfl rfl rfl ?_
  refine WP_getI rfl fl4_18 hs0 (by decide) (by decide) (Or.inl rfl) ?_
  refine WP_bipush rfl ⟨by decide, by decide⟩ (by decide) ?_
  refine WP_iadd rfl ?_
  refine WP_iconst rfl ⟨by decide, by decide⟩ ?_
  refine WP_isub rfl ?_
  refine WP_bipush rfl ⟨by decide, by decide⟩ (by decide) ?_
  refine WP_irem rfl (by decide) ?_
  refine WP_putI rfl fw4_18 hs0 (by decide) rfl (by decide) ?_
  refine WP_aload_n (i := 0) rfl rfl rfl ?_
  refine WP_dupa rfl ?_
  refine WP_getI rfl fl4_26 hs0 (by decide) (by decide) (Or.inl rfl) ?_
  refine WP_iconst rfl ⟨by decide, by decide⟩ ?_
  refine WP_isub rfl ?_
  refine WP_putI rfl fw4_26 hs0 (by decide) rfl (by decide) ?_
  cases hf
  exact WP_vret rfl rfl (hr _ rfl)
theorem EX4_pop {l : Launch} {d : Nat} (hd : 2 ≤ d) {t0 : Nat} {t1 : Nat} {h : mH} (hs0 : SX[t0]? = some (4, 3)) (hs1 : SX[t1]? = some (5, 5)) {rh : mH} (hf : fX4_pop t0 t1 h = some rh) : EvV l mtX4_pop d [.inr (.inr (.inl t0)), .inr (.inr (.inl t1))] (SX, rX, h) none (SX, rX, rh) :=
  Ev.of okX4_pop (Nat.le_of_ble_eq_true rfl) (TX4_pop hd hs0 hs1 hf (fun a0 e => by cases e; exact ⟨rfl, rfl⟩))
def fX5_clear (t0 : Nat) (h : mH) : Option (mH) :=
  some (hfil (hset (hset (hfil (hfil h (rfX t0 0) 6 (-1)) (rfX t0 1) 6 0) t0 2 0) t0 3 0) (rfX t0 4) 4 0)
theorem TX5_clear {l : Launch} {d : Nat} (hd : 1 ≤ d) {Q : Option mV → mM → Prop} {t0 : Nat} {h : mH} (hs0 : SX[t0]? = some (5, 5)) {x : mH} (hf : fX5_clear t0 h = some x) (hr : ∀ rh, x = rh → Q none (SX, rX, rh)) : WP l mtX5_clear d (0, 0) 0 [some (.inr (.inr (.inl t0)))] [] (SX, rX, h) Q := by
  unfold fX5_clear at hf
  refine WP_aload_n (i := 0) rfl rfl rfl ?_
  refine WP_getR rfl fl5_9 hs0 (by decide) rfl (wfX5_0 hs0).2 ?_
  refine WP_iconst rfl ⟨by decide, by decide⟩ ?_
  refine WP_cSv (EJ7_fill_53178 (by omega) (wfX5_0 hs0).1 (by decide)) skJ7_fill_53178 rfl ml5_21 rfl (by omega) rfl (Nat.le_of_ble_eq_true rfl) ?_
  refine WP_aload_n (i := 0) rfl rfl rfl ?_
  refine WP_getR rfl fl5_15 hs0 (by decide) rfl (wfX5_1 hs0).2 ?_
  refine WP_iconst rfl ⟨by decide, by decide⟩ ?_
  refine WP_cSv (EJ7_fill_53178 (by omega) (wfX5_1 hs0).1 (by decide)) skJ7_fill_53178 rfl ml5_21 rfl (by omega) rfl (Nat.le_of_ble_eq_true rfl) ?_
  refine WP_aload_n (i := 0) rfl rfl rfl ?_
  refine WP_iconst rfl ⟨by decide, by decide⟩ ?_
  refine WP_putI rfl fw5_27 hs0 (by decide) rfl (by decide) ?_
  refine WP_aload_n (i := 0) rfl rfl rfl ?_
  refine WP_iconst rfl ⟨by decide, by decide⟩ ?_
  refine WP_putI rfl fw5_31 hs0 (by decide) rfl (by decide) ?_
  refine WP_aload_n (i := 0) rfl rfl rfl ?_
  refine WP_getR rfl fl5_18 hs0 (by decide) rfl (wfX5_4 hs0).2 ?_
  refine WP_iconst rfl ⟨by decide, by decide⟩ ?_
  refine WP_cSv (EJ7_fill_53178 (by omega) (wfX5_4 hs0).1 (by decide)) skJ7_fill_53178 rfl ml5_21 rfl (by omega) rfl (Nat.le_of_ble_eq_true rfl) ?_
  cases hf
  exact WP_vret rfl rfl (hr _ rfl)
theorem EX5_clear {l : Launch} {d : Nat} (hd : 1 ≤ d) {t0 : Nat} {h : mH} (hs0 : SX[t0]? = some (5, 5)) {rh : mH} (hf : fX5_clear t0 h = some rh) : EvV l mtX5_clear d [.inr (.inr (.inl t0))] (SX, rX, h) none (SX, rX, rh) :=
  Ev.of okX5_clear (Nat.le_of_ble_eq_true rfl) (TX5_clear hd hs0 hf (fun a0 e => by cases e; exact ⟨rfl, rfl⟩))
def fX5_there_26 (t0 : Nat) (v1 : Int) (v2 : Int) (h : mH) : Option ((Int × Int) ⊕ (Int)) :=
  some (.inl (v1, (jadd v2 1)))
def fX5_there_4 (t0 : Nat) (v1 : Int) (v2 : Int) (h : mH) : Option ((Int × Int) ⊕ (Int)) :=
  if v2 < 6 then (ald h (rfX t0 0) 6 v2).bind fun x2 => if x2 = (-1) then fX5_there_26 t0 v1 v2 h else fX5_there_26 t0 (jor v1 (jshl 1 v2)) v2 h else some (.inr v1)
def fX5_there (t0 : Nat) (h : mH) : Option (Int) :=
  (mloop (fun s => fX5_there_4 t0 s.1 s.2 h) mfu (0, 0)).bind fun q1 => some q1
theorem TX5_there_26 {l : Launch} {d : Nat} (hd : 0 ≤ d) {Q : Option mV → mM → Prop} {t0 : Nat} {v1 : Int} {v2 : Int} {h : mH} (hs0 : SX[t0]? = some (5, 5)) {x : (Int × Int) ⊕ (Int)} (hf : fX5_there_26 t0 v1 v2 h = some x) (hc : ∀ (v1' : Int) (v2' : Int), x = .inl (v1', v2') → WP l mtX5_there d (0, 0) 4 [some (.inr (.inr (.inl t0))), some (.inl v1'), some (.inl v2')] [] (SX, rX, h) Q) (he32 : ∀ (v1' : Int), x = .inr v1' → WP l mtX5_there d (0, 0) 32 [some (.inr (.inr (.inl t0))), some (.inl v1'), none] [] (SX, rX, h) Q) : WP l mtX5_there d (0, 0) 26 [some (.inr (.inr (.inl t0))), some (.inl v1), some (.inl v2)] [] (SX, rX, h) Q := by
  unfold fX5_there_26 at hf
  refine WP_iinc rfl rfl (Nat.le_of_ble_eq_true rfl) rfl ?_
  refine WP_goto rfl rfl ?_
  cases hf
  exact WP_keep [true, true, true] (hc _ _ rfl)
theorem TX5_there_4 {l : Launch} {d : Nat} (hd : 0 ≤ d) {Q : Option mV → mM → Prop} {t0 : Nat} {v1 : Int} {v2 : Int} {h : mH} (hs0 : SX[t0]? = some (5, 5)) {x : (Int × Int) ⊕ (Int)} (hf : fX5_there_4 t0 v1 v2 h = some x) (hc : ∀ (v1' : Int) (v2' : Int), x = .inl (v1', v2') → WP l mtX5_there d (0, 0) 4 [some (.inr (.inr (.inl t0))), some (.inl v1'), some (.inl v2')] [] (SX, rX, h) Q) (he32 : ∀ (v1' : Int), x = .inr v1' → WP l mtX5_there d (0, 0) 32 [some (.inr (.inr (.inl t0))), some (.inl v1'), none] [] (SX, rX, h) Q) : WP l mtX5_there d (0, 0) 4 [some (.inr (.inr (.inl t0))), some (.inl v1), some (.inl v2)] [] (SX, rX, h) Q := by
  unfold fX5_there_4 at hf
  refine WP_iload_n (i := 2) rfl rfl rfl ?_
  refine WP_bipush rfl ⟨by decide, by decide⟩ (by decide) ?_
  refine WP_icmp_ge rfl rfl (fun c1 => ?_) (fun c1 => ?_)
  · have hf := (if_pos c1).symm.trans hf
    refine WP_aload_n (i := 0) rfl rfl rfl ?_
    refine WP_getR rfl fl5_9 hs0 (by decide) rfl (wfX5_0 hs0).2 ?_
    refine WP_iload_n (i := 2) rfl rfl rfl ?_
    obtain ⟨x2, hx2, hf⟩ := obind hf
    obtain ⟨bx2, cx2, ex2⟩ := ald_some hx2
    subst ex2
    refine WP_iald rfl (wfX5_0 hs0).1 bx2 cx2 ?_
    refine WP_iconst rfl ⟨by decide, by decide⟩ ?_
    refine WP_icmp_eq rfl rfl (fun c3 => ?_) (fun c3 => ?_)
    · have hf := (if_pos c3).symm.trans hf
      exact WP_keep [true, true, true] (TX5_there_26 hd hs0 hf hc he32)
    · have hf := (if_neg c3).symm.trans hf
      refine WP_iload_n (i := 1) rfl rfl rfl ?_
      refine WP_iconst rfl ⟨by decide, by decide⟩ ?_
      refine WP_iload_n (i := 2) rfl rfl rfl ?_
      refine WP_ishl rfl ?_
      refine WP_ior rfl ?_
      refine WP_istore_n (i := 1) rfl rfl (Nat.le_of_ble_eq_true rfl) rfl ?_
      exact WP_keep [true, true, true] (TX5_there_26 hd hs0 hf hc he32)
  · have hf := (if_neg c1).symm.trans hf
    cases hf
    exact WP_keep [true, true, false] (he32 _ rfl)
theorem TX5_there_4L {l : Launch} {d : Nat} (hd : 0 ≤ d) {Q : Option mV → mM → Prop} {t0 : Nat} {v1 : Int} {v2 : Int} {h : mH} (hs0 : SX[t0]? = some (5, 5)) {n : Nat} {x : Int} (hf : mloop (fun s => fX5_there_4 t0 s.1 s.2 h) n (v1, v2) = some x) (he32 : ∀ (v1' : Int), x = v1' → WP l mtX5_there d (0, 0) 32 [some (.inr (.inr (.inl t0))), some (.inl v1'), none] [] (SX, rX, h) Q) : WP l mtX5_there d (0, 0) 4 [some (.inr (.inr (.inl t0))), some (.inl v1), some (.inl v2)] [] (SX, rX, h) Q :=
  mloop_sound (P := fun s => WP l mtX5_there d (0, 0) 4 [some (.inr (.inr (.inl t0))), some (.inl s.1), some (.inl s.2)] [] (SX, rX, h) Q) (K := fun t => t = x) (fun s y hx hc he => TX5_there_4 hd hs0  hx (fun a0 a1 e => hc (a0, a1) e) (fun a0 e => he32 a0 (he _ e).symm)) _ (v1, v2) _ hf rfl
theorem TX5_there {l : Launch} {d : Nat} (hd : 0 ≤ d) {Q : Option mV → mM → Prop} {t0 : Nat} {h : mH} (hs0 : SX[t0]? = some (5, 5)) {x : Int} (hf : fX5_there t0 h = some x) (hr : ∀ rv, x = rv → Q (some (.inl rv)) (SX, rX, h)) : WP l mtX5_there d (0, 0) 0 [some (.inr (.inr (.inl t0))), none, none] [] (SX, rX, h) Q := by
  unfold fX5_there at hf
  refine WP_iconst rfl ⟨by decide, by decide⟩ ?_
  refine WP_istore_n (i := 1) rfl rfl (Nat.le_of_ble_eq_true rfl) rfl ?_
  refine WP_iconst rfl ⟨by decide, by decide⟩ ?_
  refine WP_istore_n (i := 2) rfl rfl (Nat.le_of_ble_eq_true rfl) rfl ?_
  obtain ⟨q1, hq1, hf⟩ := obind hf
  refine WP_keep [true, true, true] (TX5_there_4L hd hs0 hq1 (fun yq10 e => ?_))
  subst e
  refine WP_iload_n (i := 1) rfl rfl rfl ?_
  cases hf
  exact WP_iret rfl rfl (hr _ rfl)
theorem EX5_there {l : Launch} {d : Nat} (hd : 0 ≤ d) {t0 : Nat} {h : mH} (hs0 : SX[t0]? = some (5, 5)) {rv : Int} (hf : fX5_there t0 h = some rv) : EvV l mtX5_there d [.inr (.inr (.inl t0))] (SX, rX, h) (some (.inl rv)) (SX, rX, h) :=
  Ev.of okX5_there (Nat.le_of_ble_eq_true rfl) (TX5_there hd hs0 hf (fun a0 e => by cases e; exact ⟨rfl, rfl⟩))
def fX5_timesFirst_34 (t0 : Nat) (v1 : Int) (v2 : Int) (v3 : Int) (h : mH) : Option ((Int × Int) ⊕ (Int)) :=
  some (.inl (v2, (jadd v3 1)))
def fX5_timesFirst_4 (t0 : Nat) (v1 : Int) (v2 : Int) (v3 : Int) (h : mH) : Option ((Int × Int) ⊕ (Int)) :=
  if v3 < 4 then if v3 < (h t0 3) then (ald h (rfX t0 4) 4 v3).bind fun x3 => (fX2_dayIn x3 0 h).bind fun x4 => if x4 = v1 then fX5_timesFirst_34 t0 v1 (jadd v2 1) v3 h else fX5_timesFirst_34 t0 v1 v2 v3 h else some (.inr v2) else some (.inr v2)
def fX5_timesFirst (t0 : Nat) (v1 : Int) (h : mH) : Option (Int) :=
  (mloop (fun s => fX5_timesFirst_4 t0 v1 s.1 s.2 h) mfu (0, 0)).bind fun q1 => some q1
theorem TX5_timesFirst_34 {l : Launch} {d : Nat} (hd : 1 ≤ d) {Q : Option mV → mM → Prop} {t0 : Nat} {v1 : Int} {v2 : Int} {v3 : Int} {h : mH} (hs0 : SX[t0]? = some (5, 5)) {x : (Int × Int) ⊕ (Int)} (hf : fX5_timesFirst_34 t0 v1 v2 v3 h = some x) (hc : ∀ (v2' : Int) (v3' : Int), x = .inl (v2', v3') → WP l mtX5_timesFirst d (0, 0) 4 [some (.inr (.inr (.inl t0))), some (.inl v1), some (.inl v2'), some (.inl v3')] [] (SX, rX, h) Q) (he40 : ∀ (v2' : Int), x = .inr v2' → WP l mtX5_timesFirst d (0, 0) 40 [some (.inr (.inr (.inl t0))), some (.inl v1), some (.inl v2'), none] [] (SX, rX, h) Q) : WP l mtX5_timesFirst d (0, 0) 34 [some (.inr (.inr (.inl t0))), some (.inl v1), some (.inl v2), some (.inl v3)] [] (SX, rX, h) Q := by
  unfold fX5_timesFirst_34 at hf
  refine WP_iinc rfl rfl (Nat.le_of_ble_eq_true rfl) rfl ?_
  refine WP_goto rfl rfl ?_
  cases hf
  exact WP_keep [true, true, true, true] (hc _ _ rfl)
theorem TX5_timesFirst_4 {l : Launch} {d : Nat} (hd : 1 ≤ d) {Q : Option mV → mM → Prop} {t0 : Nat} {v1 : Int} {v2 : Int} {v3 : Int} {h : mH} (hs0 : SX[t0]? = some (5, 5)) {x : (Int × Int) ⊕ (Int)} (hf : fX5_timesFirst_4 t0 v1 v2 v3 h = some x) (hc : ∀ (v2' : Int) (v3' : Int), x = .inl (v2', v3') → WP l mtX5_timesFirst d (0, 0) 4 [some (.inr (.inr (.inl t0))), some (.inl v1), some (.inl v2'), some (.inl v3')] [] (SX, rX, h) Q) (he40 : ∀ (v2' : Int), x = .inr v2' → WP l mtX5_timesFirst d (0, 0) 40 [some (.inr (.inr (.inl t0))), some (.inl v1), some (.inl v2'), none] [] (SX, rX, h) Q) : WP l mtX5_timesFirst d (0, 0) 4 [some (.inr (.inr (.inl t0))), some (.inl v1), some (.inl v2), some (.inl v3)] [] (SX, rX, h) Q := by
  unfold fX5_timesFirst_4 at hf
  refine WP_iload_n (i := 3) rfl rfl rfl ?_
  refine WP_iconst rfl ⟨by decide, by decide⟩ ?_
  refine WP_icmp_ge rfl rfl (fun c1 => ?_) (fun c1 => ?_)
  · have hf := (if_pos c1).symm.trans hf
    refine WP_iload_n (i := 3) rfl rfl rfl ?_
    refine WP_aload_n (i := 0) rfl rfl rfl ?_
    refine WP_getI rfl fl5_31 hs0 (by decide) (by decide) (Or.inl rfl) ?_
    refine WP_icmp_ge rfl rfl (fun c2 => ?_) (fun c2 => ?_)
    · have hf := (if_pos c2).symm.trans hf
      refine WP_aload_n (i := 0) rfl rfl rfl ?_
      refine WP_getR rfl fl5_18 hs0 (by decide) rfl (wfX5_4 hs0).2 ?_
      refine WP_iload_n (i := 3) rfl rfl rfl ?_
      obtain ⟨x3, hx3, hf⟩ := obind hf
      obtain ⟨bx3, cx3, ex3⟩ := ald_some hx3
      subst ex3
      refine WP_iald rfl (wfX5_4 hs0).1 bx3 cx3 ?_
      refine WP_iconst rfl ⟨by decide, by decide⟩ ?_
      obtain ⟨x4, hx4, hf⟩ := obind hf
      refine WP_cS (EX2_dayIn (by omega)   hx4) skX2_dayIn rfl ml5_40 rfl (by omega) rfl (Nat.le_of_ble_eq_true rfl) ?_
      refine WP_iload_n (i := 1) rfl rfl rfl ?_
      refine WP_icmp_ne rfl rfl (fun c6 => ?_) (fun c6 => ?_)
      · have hf := (if_pos c6).symm.trans hf
        refine WP_iinc rfl rfl (Nat.le_of_ble_eq_true rfl) rfl ?_
        exact WP_keep [true, true, true, true] (TX5_timesFirst_34 hd hs0 hf hc he40)
      · have hf := (if_neg c6).symm.trans hf
        exact WP_keep [true, true, true, true] (TX5_timesFirst_34 hd hs0 hf hc he40)
    · have hf := (if_neg c2).symm.trans hf
      cases hf
      exact WP_keep [true, true, true, false] (he40 _ rfl)
  · have hf := (if_neg c1).symm.trans hf
    cases hf
    exact WP_keep [true, true, true, false] (he40 _ rfl)
theorem TX5_timesFirst_4L {l : Launch} {d : Nat} (hd : 1 ≤ d) {Q : Option mV → mM → Prop} {t0 : Nat} {v1 : Int} {v2 : Int} {v3 : Int} {h : mH} (hs0 : SX[t0]? = some (5, 5)) {n : Nat} {x : Int} (hf : mloop (fun s => fX5_timesFirst_4 t0 v1 s.1 s.2 h) n (v2, v3) = some x) (he40 : ∀ (v2' : Int), x = v2' → WP l mtX5_timesFirst d (0, 0) 40 [some (.inr (.inr (.inl t0))), some (.inl v1), some (.inl v2'), none] [] (SX, rX, h) Q) : WP l mtX5_timesFirst d (0, 0) 4 [some (.inr (.inr (.inl t0))), some (.inl v1), some (.inl v2), some (.inl v3)] [] (SX, rX, h) Q :=
  mloop_sound (P := fun s => WP l mtX5_timesFirst d (0, 0) 4 [some (.inr (.inr (.inl t0))), some (.inl v1), some (.inl s.1), some (.inl s.2)] [] (SX, rX, h) Q) (K := fun t => t = x) (fun s y hx hc he => TX5_timesFirst_4 hd hs0  hx (fun a0 a1 e => hc (a0, a1) e) (fun a0 e => he40 a0 (he _ e).symm)) _ (v2, v3) _ hf rfl
theorem TX5_timesFirst {l : Launch} {d : Nat} (hd : 1 ≤ d) {Q : Option mV → mM → Prop} {t0 : Nat} {v1 : Int} {h : mH} (hs0 : SX[t0]? = some (5, 5)) {x : Int} (hf : fX5_timesFirst t0 v1 h = some x) (hr : ∀ rv, x = rv → Q (some (.inl rv)) (SX, rX, h)) : WP l mtX5_timesFirst d (0, 0) 0 [some (.inr (.inr (.inl t0))), some (.inl v1), none, none] [] (SX, rX, h) Q := by
  unfold fX5_timesFirst at hf
  refine WP_iconst rfl ⟨by decide, by decide⟩ ?_
  refine WP_istore_n (i := 2) rfl rfl (Nat.le_of_ble_eq_true rfl) rfl ?_
  refine WP_iconst rfl ⟨by decide, by decide⟩ ?_
  refine WP_istore_n (i := 3) rfl rfl (Nat.le_of_ble_eq_true rfl) rfl ?_
  obtain ⟨q1, hq1, hf⟩ := obind hf
  refine WP_keep [true, true, true, true] (TX5_timesFirst_4L hd hs0 hq1 (fun yq10 e => ?_))
  subst e
  refine WP_iload_n (i := 2) rfl rfl rfl ?_
  cases hf
  exact WP_iret rfl rfl (hr _ rfl)
theorem EX5_timesFirst {l : Launch} {d : Nat} (hd : 1 ≤ d) {t0 : Nat} {v1 : Int} {h : mH} (hs0 : SX[t0]? = some (5, 5)) {rv : Int} (hf : fX5_timesFirst t0 v1 h = some rv) : EvV l mtX5_timesFirst d [.inr (.inr (.inl t0)), .inl v1] (SX, rX, h) (some (.inl rv)) (SX, rX, h) :=
  Ev.of okX5_timesFirst (Nat.le_of_ble_eq_true rfl) (TX5_timesFirst hd hs0 hf (fun a0 e => by cases e; exact ⟨rfl, rfl⟩))
end
