section
-- ===== PART A: goes FIRST, ahead of the names: the tables' words, and 'selects' of the private methods out of them =====
/-- a private method of a class that the tables say can be made, by its rows of tables_1 -/
def lw_okq (q : MethodName × Nat) : Prop := (q.1.cls ≠ "java/lang/invoke/MethodHandle" ∧ q.1.cls ≠ "java/lang/invoke/VarHandle") ∧ Cond.instantiable q.1.cls q.2 ∈ tables_1 ∧ Cond.privateMethod q.1 ∈ tables_1 ∧ Cond.instanceMethod q.1 ∈ tables_1
theorem lw_p0 : lw_okq (⟨"ClauseDesk", "startAfresh", "()V"⟩, 12) := ⟨⟨by decide +kernel, by decide +kernel⟩, List.mem_of_getElem? (i := 18) (by decide +kernel), List.mem_of_getElem? (i := 241) (by decide +kernel), List.mem_of_getElem? (i := 242) (by decide +kernel)⟩
theorem lw_p1 : lw_okq (⟨"ClauseDesk", "isObeyed", "(LClauseDesk$Clause;)Z"⟩, 12) := ⟨⟨by decide +kernel, by decide +kernel⟩, List.mem_of_getElem? (i := 18) (by decide +kernel), List.mem_of_getElem? (i := 253) (by decide +kernel), List.mem_of_getElem? (i := 254) (by decide +kernel)⟩
theorem lw_p2 : lw_okq (⟨"ClauseDesk", "nextPremises", "(LClauseDesk$Clause;I)I"⟩, 12) := ⟨⟨by decide +kernel, by decide +kernel⟩, List.mem_of_getElem? (i := 18) (by decide +kernel), List.mem_of_getElem? (i := 257) (by decide +kernel), List.mem_of_getElem? (i := 258) (by decide +kernel)⟩
theorem lw_p3 : lw_okq (⟨"ClauseDesk", "choices", "(LClauseDesk$Clause;I)I"⟩, 12) := ⟨⟨by decide +kernel, by decide +kernel⟩, List.mem_of_getElem? (i := 18) (by decide +kernel), List.mem_of_getElem? (i := 261) (by decide +kernel), List.mem_of_getElem? (i := 262) (by decide +kernel)⟩
theorem lw_p4 : lw_okq (⟨"ClauseDesk", "lay", "(LClauseDesk$BoundSet;LClauseDesk$BoundSet;LClauseDesk$Clause;II)Z"⟩, 12) := ⟨⟨by decide +kernel, by decide +kernel⟩, List.mem_of_getElem? (i := 18) (by decide +kernel), List.mem_of_getElem? (i := 269) (by decide +kernel), List.mem_of_getElem? (i := 270) (by decide +kernel)⟩
theorem lw_p5 : lw_okq (⟨"ClauseDesk", "isAnyMissing", "(LClauseDesk$Literal;)Z"⟩, 12) := ⟨⟨by decide +kernel, by decide +kernel⟩, List.mem_of_getElem? (i := 18) (by decide +kernel), List.mem_of_getElem? (i := 291) (by decide +kernel), List.mem_of_getElem? (i := 292) (by decide +kernel)⟩
theorem lw_p6 : lw_okq (⟨"ClauseDesk", "isMissing", "(LClauseDesk$Literal;I)Z"⟩, 12) := ⟨⟨by decide +kernel, by decide +kernel⟩, List.mem_of_getElem? (i := 18) (by decide +kernel), List.mem_of_getElem? (i := 295) (by decide +kernel), List.mem_of_getElem? (i := 296) (by decide +kernel)⟩
theorem lw_p7 : lw_okq (⟨"java/lang/Throwable", "fillInStackTrace", "(I)Ljava/lang/Throwable;"⟩, 6) := ⟨⟨by decide +kernel, by decide +kernel⟩, List.mem_of_getElem? (i := 351) (by decide +kernel), List.mem_of_getElem? (i := 349) (by decide +kernel), List.mem_of_getElem? (i := 350) (by decide +kernel)⟩
theorem lw_p8 : lw_okq (⟨"ClauseDesk", "isRelation", "(I)Z"⟩, 12) := ⟨⟨by decide +kernel, by decide +kernel⟩, List.mem_of_getElem? (i := 18) (by decide +kernel), List.mem_of_getElem? (i := 404) (by decide +kernel), List.mem_of_getElem? (i := 405) (by decide +kernel)⟩
theorem lw_p9 : lw_okq (⟨"ClauseDesk$Relation", "isCorner", "(I)Z"⟩, 9) := ⟨⟨by decide +kernel, by decide +kernel⟩, List.mem_of_getElem? (i := 110) (by decide +kernel), List.mem_of_getElem? (i := 416) (by decide +kernel), List.mem_of_getElem? (i := 417) (by decide +kernel)⟩
theorem lw_p10 : lw_okq (⟨"ClauseDesk", "isLiteral", "(III)Z"⟩, 12) := ⟨⟨by decide +kernel, by decide +kernel⟩, List.mem_of_getElem? (i := 18) (by decide +kernel), List.mem_of_getElem? (i := 440) (by decide +kernel), List.mem_of_getElem? (i := 441) (by decide +kernel)⟩
theorem lw_p11 : lw_okq (⟨"ClauseDesk", "fill", "(LClauseDesk$Literal;III)V"⟩, 12) := ⟨⟨by decide +kernel, by decide +kernel⟩, List.mem_of_getElem? (i := 18) (by decide +kernel), List.mem_of_getElem? (i := 449) (by decide +kernel), List.mem_of_getElem? (i := 450) (by decide +kernel)⟩
theorem lw_p12 : lw_okq (⟨"ClauseDesk", "makeRound", "()I"⟩, 12) := ⟨⟨by decide +kernel, by decide +kernel⟩, List.mem_of_getElem? (i := 18) (by decide +kernel), List.mem_of_getElem? (i := 483) (by decide +kernel), List.mem_of_getElem? (i := 484) (by decide +kernel)⟩
theorem lw_p13 : lw_okq (⟨"ClauseDesk", "raiseAlarm", "()Z"⟩, 12) := ⟨⟨by decide +kernel, by decide +kernel⟩, List.mem_of_getElem? (i := 18) (by decide +kernel), List.mem_of_getElem? (i := 487) (by decide +kernel), List.mem_of_getElem? (i := 488) (by decide +kernel)⟩
theorem lw_p14 : lw_okq (⟨"ClauseDesk", "growTree", "(I)V"⟩, 12) := ⟨⟨by decide +kernel, by decide +kernel⟩, List.mem_of_getElem? (i := 18) (by decide +kernel), List.mem_of_getElem? (i := 491) (by decide +kernel), List.mem_of_getElem? (i := 492) (by decide +kernel)⟩
theorem lw_p15 : lw_okq (⟨"ClauseDesk$Tree", "postpone", "(III)V"⟩, 6) := ⟨⟨by decide +kernel, by decide +kernel⟩, List.mem_of_getElem? (i := 30) (by decide +kernel), List.mem_of_getElem? (i := 507) (by decide +kernel), List.mem_of_getElem? (i := 508) (by decide +kernel)⟩
def lw_privs_1 : List (MethodName × Nat) := [(⟨"ClauseDesk", "startAfresh", "()V"⟩, 12), (⟨"ClauseDesk", "isObeyed", "(LClauseDesk$Clause;)Z"⟩, 12), (⟨"ClauseDesk", "nextPremises", "(LClauseDesk$Clause;I)I"⟩, 12), (⟨"ClauseDesk", "choices", "(LClauseDesk$Clause;I)I"⟩, 12), (⟨"ClauseDesk", "lay", "(LClauseDesk$BoundSet;LClauseDesk$BoundSet;LClauseDesk$Clause;II)Z"⟩, 12), (⟨"ClauseDesk", "isAnyMissing", "(LClauseDesk$Literal;)Z"⟩, 12), (⟨"ClauseDesk", "isMissing", "(LClauseDesk$Literal;I)Z"⟩, 12), (⟨"java/lang/Throwable", "fillInStackTrace", "(I)Ljava/lang/Throwable;"⟩, 6), (⟨"ClauseDesk", "isRelation", "(I)Z"⟩, 12), (⟨"ClauseDesk$Relation", "isCorner", "(I)Z"⟩, 9), (⟨"ClauseDesk", "isLiteral", "(III)Z"⟩, 12), (⟨"ClauseDesk", "fill", "(LClauseDesk$Literal;III)V"⟩, 12), (⟨"ClauseDesk", "makeRound", "()I"⟩, 12), (⟨"ClauseDesk", "raiseAlarm", "()Z"⟩, 12), (⟨"ClauseDesk", "growTree", "(I)V"⟩, 12), (⟨"ClauseDesk$Tree", "postpone", "(III)V"⟩, 6)]
theorem lw_r1 : ∀ q ∈ lw_privs_1, lw_okq q := List.forall_mem_cons.mpr ⟨lw_p0, List.forall_mem_cons.mpr ⟨lw_p1, List.forall_mem_cons.mpr ⟨lw_p2, List.forall_mem_cons.mpr ⟨lw_p3, List.forall_mem_cons.mpr ⟨lw_p4, List.forall_mem_cons.mpr ⟨lw_p5, List.forall_mem_cons.mpr ⟨lw_p6, List.forall_mem_cons.mpr ⟨lw_p7, List.forall_mem_cons.mpr ⟨lw_p8, List.forall_mem_cons.mpr ⟨lw_p9, List.forall_mem_cons.mpr ⟨lw_p10, List.forall_mem_cons.mpr ⟨lw_p11, List.forall_mem_cons.mpr ⟨lw_p12, List.forall_mem_cons.mpr ⟨lw_p13, List.forall_mem_cons.mpr ⟨lw_p14, List.forall_mem_cons.mpr ⟨lw_p15, fun _ h => absurd h List.not_mem_nil⟩⟩⟩⟩⟩⟩⟩⟩⟩⟩⟩⟩⟩⟩⟩⟩
theorem lw_p16 : lw_okq (⟨"ClauseDesk", "growChild", "(III)V"⟩, 12) := ⟨⟨by decide +kernel, by decide +kernel⟩, List.mem_of_getElem? (i := 18) (by decide +kernel), List.mem_of_getElem? (i := 511) (by decide +kernel), List.mem_of_getElem? (i := 512) (by decide +kernel)⟩
theorem lw_p17 : lw_okq (⟨"ClauseDesk", "reachBy", "(I)I"⟩, 12) := ⟨⟨by decide +kernel, by decide +kernel⟩, List.mem_of_getElem? (i := 18) (by decide +kernel), List.mem_of_getElem? (i := 515) (by decide +kernel), List.mem_of_getElem? (i := 516) (by decide +kernel)⟩
theorem lw_p18 : lw_okq (⟨"ClauseDesk", "reachCubes", "(II)I"⟩, 12) := ⟨⟨by decide +kernel, by decide +kernel⟩, List.mem_of_getElem? (i := 18) (by decide +kernel), List.mem_of_getElem? (i := 519) (by decide +kernel), List.mem_of_getElem? (i := 520) (by decide +kernel)⟩
theorem lw_p19 : lw_okq (⟨"ClauseDesk", "refineAlarm", "()I"⟩, 12) := ⟨⟨by decide +kernel, by decide +kernel⟩, List.mem_of_getElem? (i := 18) (by decide +kernel), List.mem_of_getElem? (i := 531) (by decide +kernel), List.mem_of_getElem? (i := 532) (by decide +kernel)⟩
theorem lw_p20 : lw_okq (⟨"ClauseDesk", "closeTree", "()V"⟩, 12) := ⟨⟨by decide +kernel, by decide +kernel⟩, List.mem_of_getElem? (i := 18) (by decide +kernel), List.mem_of_getElem? (i := 535) (by decide +kernel), List.mem_of_getElem? (i := 536) (by decide +kernel)⟩
theorem lw_p21 : lw_okq (⟨"ClauseDesk", "handUp", "(LClauseDesk$Node;)V"⟩, 12) := ⟨⟨by decide +kernel, by decide +kernel⟩, List.mem_of_getElem? (i := 18) (by decide +kernel), List.mem_of_getElem? (i := 539) (by decide +kernel), List.mem_of_getElem? (i := 540) (by decide +kernel)⟩
theorem lw_p22 : lw_okq (⟨"ClauseDesk", "markBy", "(LClauseDesk$Node;)I"⟩, 12) := ⟨⟨by decide +kernel, by decide +kernel⟩, List.mem_of_getElem? (i := 18) (by decide +kernel), List.mem_of_getElem? (i := 553) (by decide +kernel), List.mem_of_getElem? (i := 554) (by decide +kernel)⟩
theorem lw_p23 : lw_okq (⟨"ClauseDeskModel", "made", "(I)I"⟩, 39) := ⟨⟨by decide +kernel, by decide +kernel⟩, List.mem_of_getElem? (i := 635) (by decide +kernel), List.mem_of_getElem? (i := 770) (by decide +kernel), List.mem_of_getElem? (i := 771) (by decide +kernel)⟩
theorem lw_p24 : lw_okq (⟨"ClauseDeskModel", "freshStart", "()V"⟩, 39) := ⟨⟨by decide +kernel, by decide +kernel⟩, List.mem_of_getElem? (i := 635) (by decide +kernel), List.mem_of_getElem? (i := 774) (by decide +kernel), List.mem_of_getElem? (i := 775) (by decide +kernel)⟩
theorem lw_p25 : lw_okq (⟨"ClauseDeskModel", "isRelation", "(I)Z"⟩, 39) := ⟨⟨by decide +kernel, by decide +kernel⟩, List.mem_of_getElem? (i := 635) (by decide +kernel), List.mem_of_getElem? (i := 782) (by decide +kernel), List.mem_of_getElem? (i := 783) (by decide +kernel)⟩
theorem lw_p26 : lw_okq (⟨"ClauseDeskModel", "isPlace", "(II)Z"⟩, 39) := ⟨⟨by decide +kernel, by decide +kernel⟩, List.mem_of_getElem? (i := 635) (by decide +kernel), List.mem_of_getElem? (i := 786) (by decide +kernel), List.mem_of_getElem? (i := 787) (by decide +kernel)⟩
theorem lw_p27 : lw_okq (⟨"ClauseDeskModel", "isMark", "(IIII)Z"⟩, 39) := ⟨⟨by decide +kernel, by decide +kernel⟩, List.mem_of_getElem? (i := 635) (by decide +kernel), List.mem_of_getElem? (i := 790) (by decide +kernel), List.mem_of_getElem? (i := 791) (by decide +kernel)⟩
theorem lw_p28 : lw_okq (⟨"ClauseDeskModel", "fails", "(I)I"⟩, 39) := ⟨⟨by decide +kernel, by decide +kernel⟩, List.mem_of_getElem? (i := 635) (by decide +kernel), List.mem_of_getElem? (i := 794) (by decide +kernel), List.mem_of_getElem? (i := 795) (by decide +kernel)⟩
theorem lw_p29 : lw_okq (⟨"ClauseDeskModel", "keepMark", "(IIII)V"⟩, 39) := ⟨⟨by decide +kernel, by decide +kernel⟩, List.mem_of_getElem? (i := 635) (by decide +kernel), List.mem_of_getElem? (i := 798) (by decide +kernel), List.mem_of_getElem? (i := 799) (by decide +kernel)⟩
theorem lw_p30 : lw_okq (⟨"ClauseDeskModel", "areVariables", "(III)Z"⟩, 39) := ⟨⟨by decide +kernel, by decide +kernel⟩, List.mem_of_getElem? (i := 635) (by decide +kernel), List.mem_of_getElem? (i := 806) (by decide +kernel), List.mem_of_getElem? (i := 807) (by decide +kernel)⟩
theorem lw_p31 : lw_okq (⟨"ClauseDeskModel", "next", "()I"⟩, 39) := ⟨⟨by decide +kernel, by decide +kernel⟩, List.mem_of_getElem? (i := 635) (by decide +kernel), List.mem_of_getElem? (i := 826) (by decide +kernel), List.mem_of_getElem? (i := 827) (by decide +kernel)⟩
def lw_privs_2 : List (MethodName × Nat) := [(⟨"ClauseDesk", "growChild", "(III)V"⟩, 12), (⟨"ClauseDesk", "reachBy", "(I)I"⟩, 12), (⟨"ClauseDesk", "reachCubes", "(II)I"⟩, 12), (⟨"ClauseDesk", "refineAlarm", "()I"⟩, 12), (⟨"ClauseDesk", "closeTree", "()V"⟩, 12), (⟨"ClauseDesk", "handUp", "(LClauseDesk$Node;)V"⟩, 12), (⟨"ClauseDesk", "markBy", "(LClauseDesk$Node;)I"⟩, 12), (⟨"ClauseDeskModel", "made", "(I)I"⟩, 39), (⟨"ClauseDeskModel", "freshStart", "()V"⟩, 39), (⟨"ClauseDeskModel", "isRelation", "(I)Z"⟩, 39), (⟨"ClauseDeskModel", "isPlace", "(II)Z"⟩, 39), (⟨"ClauseDeskModel", "isMark", "(IIII)Z"⟩, 39), (⟨"ClauseDeskModel", "fails", "(I)I"⟩, 39), (⟨"ClauseDeskModel", "keepMark", "(IIII)V"⟩, 39), (⟨"ClauseDeskModel", "areVariables", "(III)Z"⟩, 39), (⟨"ClauseDeskModel", "next", "()I"⟩, 39)]
theorem lw_r2 : ∀ q ∈ lw_privs_2, lw_okq q := List.forall_mem_cons.mpr ⟨lw_p16, List.forall_mem_cons.mpr ⟨lw_p17, List.forall_mem_cons.mpr ⟨lw_p18, List.forall_mem_cons.mpr ⟨lw_p19, List.forall_mem_cons.mpr ⟨lw_p20, List.forall_mem_cons.mpr ⟨lw_p21, List.forall_mem_cons.mpr ⟨lw_p22, List.forall_mem_cons.mpr ⟨lw_p23, List.forall_mem_cons.mpr ⟨lw_p24, List.forall_mem_cons.mpr ⟨lw_p25, List.forall_mem_cons.mpr ⟨lw_p26, List.forall_mem_cons.mpr ⟨lw_p27, List.forall_mem_cons.mpr ⟨lw_p28, List.forall_mem_cons.mpr ⟨lw_p29, List.forall_mem_cons.mpr ⟨lw_p30, List.forall_mem_cons.mpr ⟨lw_p31, fun _ h => absurd h List.not_mem_nil⟩⟩⟩⟩⟩⟩⟩⟩⟩⟩⟩⟩⟩⟩⟩⟩
theorem lw_p32 : lw_okq (⟨"ClauseDeskModel", "isFound", "(II)Z"⟩, 39) := ⟨⟨by decide +kernel, by decide +kernel⟩, List.mem_of_getElem? (i := 635) (by decide +kernel), List.mem_of_getElem? (i := 830) (by decide +kernel), List.mem_of_getElem? (i := 831) (by decide +kernel)⟩
theorem lw_p33 : lw_okq (⟨"ClauseDeskModel", "cubesOf", "(I)I"⟩, 39) := ⟨⟨by decide +kernel, by decide +kernel⟩, List.mem_of_getElem? (i := 635) (by decide +kernel), List.mem_of_getElem? (i := 834) (by decide +kernel), List.mem_of_getElem? (i := 835) (by decide +kernel)⟩
theorem lw_p34 : lw_okq (⟨"ClauseDeskModel", "isBefore", "(II)Z"⟩, 39) := ⟨⟨by decide +kernel, by decide +kernel⟩, List.mem_of_getElem? (i := 635) (by decide +kernel), List.mem_of_getElem? (i := 838) (by decide +kernel), List.mem_of_getElem? (i := 839) (by decide +kernel)⟩
theorem lw_p35 : lw_okq (⟨"ClauseDeskModel", "fits", "(IIII)Z"⟩, 39) := ⟨⟨by decide +kernel, by decide +kernel⟩, List.mem_of_getElem? (i := 635) (by decide +kernel), List.mem_of_getElem? (i := 842) (by decide +kernel), List.mem_of_getElem? (i := 843) (by decide +kernel)⟩
theorem lw_p36 : lw_okq (⟨"ClauseDeskModel", "addBounds", "(III)V"⟩, 39) := ⟨⟨by decide +kernel, by decide +kernel⟩, List.mem_of_getElem? (i := 635) (by decide +kernel), List.mem_of_getElem? (i := 846) (by decide +kernel), List.mem_of_getElem? (i := 847) (by decide +kernel)⟩
theorem lw_p37 : lw_okq (⟨"ClauseDeskModel", "add", "(III)V"⟩, 39) := ⟨⟨by decide +kernel, by decide +kernel⟩, List.mem_of_getElem? (i := 635) (by decide +kernel), List.mem_of_getElem? (i := 850) (by decide +kernel), List.mem_of_getElem? (i := 851) (by decide +kernel)⟩
theorem lw_p38 : lw_okq (⟨"ClauseDeskModel", "addCube", "(IIIII)V"⟩, 39) := ⟨⟨by decide +kernel, by decide +kernel⟩, List.mem_of_getElem? (i := 635) (by decide +kernel), List.mem_of_getElem? (i := 854) (by decide +kernel), List.mem_of_getElem? (i := 855) (by decide +kernel)⟩
theorem lw_p39 : lw_okq (⟨"ClauseDeskModel", "holdsTogether", "(I)Z"⟩, 39) := ⟨⟨by decide +kernel, by decide +kernel⟩, List.mem_of_getElem? (i := 635) (by decide +kernel), List.mem_of_getElem? (i := 858) (by decide +kernel), List.mem_of_getElem? (i := 859) (by decide +kernel)⟩
theorem lw_p40 : lw_okq (⟨"ClauseDeskModel", "settles", "(I)Z"⟩, 39) := ⟨⟨by decide +kernel, by decide +kernel⟩, List.mem_of_getElem? (i := 635) (by decide +kernel), List.mem_of_getElem? (i := 862) (by decide +kernel), List.mem_of_getElem? (i := 863) (by decide +kernel)⟩
theorem lw_p41 : lw_okq (⟨"ClauseDeskModel", "grow", "()V"⟩, 39) := ⟨⟨by decide +kernel, by decide +kernel⟩, List.mem_of_getElem? (i := 635) (by decide +kernel), List.mem_of_getElem? (i := 867) (by decide +kernel), List.mem_of_getElem? (i := 868) (by decide +kernel)⟩
theorem lw_p42 : lw_okq (⟨"ClauseDeskModel", "place", "(I)V"⟩, 39) := ⟨⟨by decide +kernel, by decide +kernel⟩, List.mem_of_getElem? (i := 635) (by decide +kernel), List.mem_of_getElem? (i := 871) (by decide +kernel), List.mem_of_getElem? (i := 872) (by decide +kernel)⟩
theorem lw_p43 : lw_okq (⟨"ClauseDeskModel", "stateOf", "(I)I"⟩, 39) := ⟨⟨by decide +kernel, by decide +kernel⟩, List.mem_of_getElem? (i := 635) (by decide +kernel), List.mem_of_getElem? (i := 875) (by decide +kernel), List.mem_of_getElem? (i := 876) (by decide +kernel)⟩
theorem lw_p44 : lw_okq (⟨"ClauseDeskModel", "isReached", "(I)Z"⟩, 39) := ⟨⟨by decide +kernel, by decide +kernel⟩, List.mem_of_getElem? (i := 635) (by decide +kernel), List.mem_of_getElem? (i := 879) (by decide +kernel), List.mem_of_getElem? (i := 880) (by decide +kernel)⟩
theorem lw_p45 : lw_okq (⟨"ClauseDeskModel", "improve", "()I"⟩, 39) := ⟨⟨by decide +kernel, by decide +kernel⟩, List.mem_of_getElem? (i := 635) (by decide +kernel), List.mem_of_getElem? (i := 887) (by decide +kernel), List.mem_of_getElem? (i := 888) (by decide +kernel)⟩
theorem lw_p46 : lw_okq (⟨"ClauseDeskModel", "gather", "(I)V"⟩, 39) := ⟨⟨by decide +kernel, by decide +kernel⟩, List.mem_of_getElem? (i := 635) (by decide +kernel), List.mem_of_getElem? (i := 891) (by decide +kernel), List.mem_of_getElem? (i := 892) (by decide +kernel)⟩
theorem lw_p47 : lw_okq (⟨"ClauseDeskModel", "join", "(I)V"⟩, 39) := ⟨⟨by decide +kernel, by decide +kernel⟩, List.mem_of_getElem? (i := 635) (by decide +kernel), List.mem_of_getElem? (i := 895) (by decide +kernel), List.mem_of_getElem? (i := 896) (by decide +kernel)⟩
def lw_privs_3 : List (MethodName × Nat) := [(⟨"ClauseDeskModel", "isFound", "(II)Z"⟩, 39), (⟨"ClauseDeskModel", "cubesOf", "(I)I"⟩, 39), (⟨"ClauseDeskModel", "isBefore", "(II)Z"⟩, 39), (⟨"ClauseDeskModel", "fits", "(IIII)Z"⟩, 39), (⟨"ClauseDeskModel", "addBounds", "(III)V"⟩, 39), (⟨"ClauseDeskModel", "add", "(III)V"⟩, 39), (⟨"ClauseDeskModel", "addCube", "(IIIII)V"⟩, 39), (⟨"ClauseDeskModel", "holdsTogether", "(I)Z"⟩, 39), (⟨"ClauseDeskModel", "settles", "(I)Z"⟩, 39), (⟨"ClauseDeskModel", "grow", "()V"⟩, 39), (⟨"ClauseDeskModel", "place", "(I)V"⟩, 39), (⟨"ClauseDeskModel", "stateOf", "(I)I"⟩, 39), (⟨"ClauseDeskModel", "isReached", "(I)Z"⟩, 39), (⟨"ClauseDeskModel", "improve", "()I"⟩, 39), (⟨"ClauseDeskModel", "gather", "(I)V"⟩, 39), (⟨"ClauseDeskModel", "join", "(I)V"⟩, 39)]
theorem lw_r3 : ∀ q ∈ lw_privs_3, lw_okq q := List.forall_mem_cons.mpr ⟨lw_p32, List.forall_mem_cons.mpr ⟨lw_p33, List.forall_mem_cons.mpr ⟨lw_p34, List.forall_mem_cons.mpr ⟨lw_p35, List.forall_mem_cons.mpr ⟨lw_p36, List.forall_mem_cons.mpr ⟨lw_p37, List.forall_mem_cons.mpr ⟨lw_p38, List.forall_mem_cons.mpr ⟨lw_p39, List.forall_mem_cons.mpr ⟨lw_p40, List.forall_mem_cons.mpr ⟨lw_p41, List.forall_mem_cons.mpr ⟨lw_p42, List.forall_mem_cons.mpr ⟨lw_p43, List.forall_mem_cons.mpr ⟨lw_p44, List.forall_mem_cons.mpr ⟨lw_p45, List.forall_mem_cons.mpr ⟨lw_p46, List.forall_mem_cons.mpr ⟨lw_p47, fun _ h => absurd h List.not_mem_nil⟩⟩⟩⟩⟩⟩⟩⟩⟩⟩⟩⟩⟩⟩⟩⟩
theorem lw_p48 : lw_okq (⟨"ClauseDeskModel", "marksOf", "(I)I"⟩, 39) := ⟨⟨by decide +kernel, by decide +kernel⟩, List.mem_of_getElem? (i := 635) (by decide +kernel), List.mem_of_getElem? (i := 899) (by decide +kernel), List.mem_of_getElem? (i := 900) (by decide +kernel)⟩
theorem lw_p49 : lw_okq (⟨"ClauseDeskModel", "least", "(III)I"⟩, 39) := ⟨⟨by decide +kernel, by decide +kernel⟩, List.mem_of_getElem? (i := 635) (by decide +kernel), List.mem_of_getElem? (i := 903) (by decide +kernel), List.mem_of_getElem? (i := 904) (by decide +kernel)⟩
theorem lw_p50 : lw_okq (⟨"ClauseDeskModel", "isBroken", "(I)Z"⟩, 39) := ⟨⟨by decide +kernel, by decide +kernel⟩, List.mem_of_getElem? (i := 635) (by decide +kernel), List.mem_of_getElem? (i := 915) (by decide +kernel), List.mem_of_getElem? (i := 916) (by decide +kernel)⟩
def lw_privs_4 : List (MethodName × Nat) := [(⟨"ClauseDeskModel", "marksOf", "(I)I"⟩, 39), (⟨"ClauseDeskModel", "least", "(III)I"⟩, 39), (⟨"ClauseDeskModel", "isBroken", "(I)Z"⟩, 39)]
theorem lw_r4 : ∀ q ∈ lw_privs_4, lw_okq q := List.forall_mem_cons.mpr ⟨lw_p48, List.forall_mem_cons.mpr ⟨lw_p49, List.forall_mem_cons.mpr ⟨lw_p50, fun _ h => absurd h List.not_mem_nil⟩⟩⟩
def lw_privs : List (MethodName × Nat) := lw_privs_1 ++ (lw_privs_2 ++ (lw_privs_3 ++ (lw_privs_4)))
def lw_tbl : List Cond := k2_sels lw_privs ++ tables_1
theorem lw_privs_ok : ∀ q ∈ lw_privs, lw_okq q := by
  show ∀ q ∈ lw_privs_1 ++ (lw_privs_2 ++ (lw_privs_3 ++ (lw_privs_4))), lw_okq q
  exact List.forall_mem_append.mpr ⟨lw_r1, List.forall_mem_append.mpr ⟨lw_r2, List.forall_mem_append.mpr ⟨lw_r3, lw_r4⟩⟩⟩
end
section
/-! ===== BEGIN words of one list among another's, by their places ===== -/
theorem goodIn_r {big : List Cond} (ws : List Cond) (ps : List Nat) (hp : ws = ps.filterMap (fun i => big[i]?)) (h : ws.all goodWord = true) : GoodIn big ws := by
  intro w hw
  have h1 := List.all_eq_true.mp h w hw
  rw [hp] at hw
  obtain ⟨i, -, hi⟩ := List.mem_filterMap.mp hw
  have hm : w ∈ big := by first | exact List.mem_of_getElem? hi | exact List.getElem?_mem hi
  exact ⟨hm, good_of_word h1⟩
theorem goodIn_app {big a b : List Cond} (ha : GoodIn big a) (hb : GoodIn big b) : GoodIn big (a ++ b) := fun w h => (List.mem_append.mp h).elim (ha w) (hb w)
theorem goodIn_ca {big a b : List Cond} {c : Cond} (ha : GoodIn big (c :: a)) (hb : GoodIn big b) : GoodIn big (c :: (a ++ b)) := fun w h => (List.mem_cons.mp h).elim (fun e => ha w (List.mem_cons.mpr (Or.inl e))) (fun h => (List.mem_append.mp h).elim (fun h => ha w (List.mem_cons.mpr (Or.inr h))) (hb w))
theorem goodIn_sub {big ws : List Cond} (hm : ∀ w ∈ ws, w ∈ big) (h : ws.all goodWord = true) : GoodIn big ws := fun w hw => ⟨hm w hw, good_of_word (List.all_eq_true.mp h w hw)⟩
/-! ===== END ===== -/

/-! ===== BEGIN exceptions that leave a method, and their catching by the caller (launches without stack traces) ===== -/
section VXA
/-! The laws vx_back, vx_callV, vx_callS, vx_callSW, vx_throw0, vx_throwS follow proofs of the library, with one case more: JvmDerived/Free/Laws.lean (Back.of_free), Shelf42/LK1.lean (callV, callS), Shelf/KitTraced.lean (throwNew0V, throwNewS). -/
/-- where a method has thrown q: the class by its name, the cell, what was written, the world -/
def vx_T (XC : String → State → State → Prop) (st : State) (q : Addr) (t : State) (mc ms : Nat) (free : Addr → Prop) : Prop :=
  ∃ (E : String) (ce : Cell) (L : List Loc), XC E st t ∧ t.heap[q]? = some ce ∧ ce.vm = .none ∧ st.vm.findClass E = some ce.cls ∧ st.WarmedH t.vm ∧ st.sameButNew ({ t with vm := st.vm } : State) L mc ms ∧ ∀ z ∈ L, free z.base
def vx_Q (Qc : Array Value → State → Outcome → State → Prop) (XC : String → State → State → Prop) (mc ms : Nat) (free : Addr → Prop) : Array Value → State → Outcome → State → Prop := fun a st o t =>
  (Qc a st o t ∧ ∃ L, FrameEnd st o t L mc ms ∧ ∀ q ∈ L, free q.base) ∨ ∃ q, o = .threw q ∧ vx_T XC st q t mc ms free
/-- a callee that returns or throws -/
def vx_Met (l : Launch) (y : MethodName) (ws : List Cond) (rm : Room) (Pc : Array Value → State → Prop) (Qc : Array Value → State → Outcome → State → Prop) (XC : String → State → State → Prop) (mc ms : Nat) (free : Addr → Prop) : Prop :=
  MetFree l y (headSpec ws rm) Pc (fun _ _ _ _ _ => True) (vx_Q Qc XC mc ms free)
def vx_Post (XC : String → State → State → Prop) (mc ms : Nat) (free : Addr → Prop) : Pt → Array Value → Addr → Pt → Prop := fun A a q B =>
  ∃ (g : JFrame) (mk : MethodId) (t : State) (L : List Loc) (E : String) (ce : Cell), B.U.heap = t.heap ∧ B.U.vm = t.vm ∧ XC E (A.U.calling g mk a) t ∧ t.heap[q]? = some ce ∧ ce.vm = .none ∧ A.U.vm.findClass E = some ce.cls ∧ B.locs = A.locs ++ L ∧ (∀ z ∈ L, free z.base) ∧ B.cells = A.cells + mc ∧ B.slots = A.slots + ms
def vx_Back (l : Launch) (R : Room) (p : Program) (e : Env) (below : List Frame) (s : State) (sargs : Array Value) (y : MethodName) (len W9 : Nat)
    (Pre : Pt → Array Value → Prop) (Post : Pt → Array Value → Option Value → Pt → Prop) (PostX : Pt → Array Value → Addr → Pt → Prop) : Prop :=
  ∀ (m : MethodId) (meth : Method) (c : Code) (A : Pt) (g : JFrame) (ig : Instr) (mk : MethodId) (a : Array Value),
    Stand p l e R s m sargs below meth c A.U A.locs A.cells A.slots → g.method = m → g.locals.size = c.maxLocals → decode c.code g.pc = .ok (ig, len) →
    2 * g.monitorRoom + (g.stack.map fun v => v.category).sum ≤ W9 → A.U.methodNamed? y = some mk → Pre A a →
    (∃ (v : Option Value) (B : Pt), Stand p l e R s m sargs below meth c B.U B.locs B.cells B.slots ∧ Post A a v B ∧
      Steps p.tables e below (doInvoke e (A.U.setTop g) [] mk a).1 (B.U.setTop { g with pc := g.pc + len, stack := v.toList ++ g.stack })) ∨
    (∃ (q : Addr) (B : Pt), Stand p l e R s m sargs below meth c B.U B.locs B.cells B.slots ∧ PostX A a q B ∧
      Steps p.tables e below (doInvoke e (A.U.setTop g) [] mk a).1 ((B.U.setTop g).pushFrame (.throwing q)))
section Payer
variable {l : Launch} {R : Room} {p : Program} {e : Env} {below : List Frame} {s : State} {sargs : Array Value} {y : MethodName} {len W9 : Nat}
theorem vx_back {ws : List Cond} {rm : Room} {Pc : Array Value → State → Prop} {Qc : Array Value → State → Outcome → State → Prop} {XC : String → State → State → Prop} {mc ms : Nat} {free : Addr → Prop} {bytes : ByteArray} {maxL : Nat} {ret : Option FieldType}
    (hM : vx_Met l y ws rm Pc Qc XC mc ms free) (hblind : FrameBlind Pc) (hrc : rm.cells = mc) (hrs : rm.slots = ms)
    (hframes : rm.frames + 1 ≤ R.frames) (hlocals : W9 + (maxL + 11) + rm.locals ≤ R.locals)
    (hws : ∀ w ∈ ws, ∀ a' U, s.WarmedH U.vm → w.before a' U = true) (hcode : Cond.code y bytes maxL ret ∈ ws) (hinit : ∀ a' U, s.WarmedH U.vm → (Cond.initialized y.cls).before a' U = true) :
    vx_Back l R p e below s sargs y len W9 (PreOf R mc ms Pc) (PostOf Qc mc ms free) (vx_Post XC mc ms free) := by
  intro m meth c A g ig mk a X hg hsize hdg hW hn hp
  have h1 : (headSpec ws rm).pre.before a A.U = true := atoms_intro fun w hw => hws w hw _ _ X.warmed
  have h2 : (Cond.code y bytes maxL ret).before a A.U = true := hws _ hcode _ _ X.warmed
  have h3 : (Cond.initialized y.cls).before a A.U = true := hinit _ _ X.warmed
  have h4 : A.cells + (headSpec ws rm).room.cells ≤ R.cells := by rw [show (headSpec ws rm).room.cells = mc from hrc]; exact hp.1
  have h5 : A.slots + (headSpec ws rm).room.slots ≤ R.slots := by rw [show (headSpec ws rm).room.slots = ms from hrs]; exact hp.2.1
  have hPc : Pc a (A.U.calling g mk a) := hblind _ _ _ _ hp.2.2
  obtain ⟨U, Ls, c0, s0⟩ := A
  dsimp only [Pt.U, Pt.locs, Pt.cells, Pt.slots] at h1 h2 h3 h4 h5 X hn hPc ⊢
  obtain ⟨methY, cY, hmY, hcY, -, hlY, -, -, -, -⟩ := Cond.code_spec hn h2
  obtain ⟨kY, hkY, -⟩ := className_of_methodNamed hn
  have hinitY : kY.init = .initialized := Cond.initialized_spec (findClass_of_methodNamed hn) hkY h3
  have h : At U g.method c below := by rw [hg]; exact X.here
  have hlocals9 : W9 + (maxL + 11) + (headSpec ws rm).room.locals ≤ R.locals := hlocals
  have happ : (headSpec ws rm).appliesLoose y e.platform (U.calling g mk a) = true :=
    Spec.appliesLoose_calling (g := g) h hdg hn hkY hinitY
      (X.room_calling (g := g) (R' := (headSpec ws rm).room) hsize hmY hcY hframes (by rw [hlY]; omega) h4 h5) h1
  obtain ⟨mid, hmid⟩ := h.above
  have hfr : (U.setTop g).frames = (.java g :: mid) ++ below := by rw [State.frames_setTop' g h.top, hmid]; rfl
  obtain ⟨o, s₂, hsteps, -, hend, hq⟩ := Steps.callFree hM p X.admits X.cas X.clock (acts := []) hfr happ hPc trivial
  have hq' : vx_Q Qc XC mc ms free a (U.calling g mk a) o s₂ := hq
  rw [State.frames_setTop' g h.top] at hend
  obtain ⟨g₀, hg0⟩ := Option.isSome_iff_exists.mp h.top
  obtain ⟨r, hr⟩ := State.topJava?_eq_some.mp hg0
  have hr' : (({ U with heap := s₂.heap, slotsUsed := s₂.slotsUsed } : State).setVm s₂.vm).frames = .java g₀ :: r := hr
  rcases hq' with ⟨hqc, L, hfe, hL⟩ | ⟨q, rfl, E, ce, L, hx, hce, hcv, hcl, hW₂, hsm, hL⟩
  · obtain ⟨⟨v, rfl⟩, hW₂, e2, q2, q3, q4, q5, q6⟩ := id hfe
    have e3 : s₂ = ({ (U.calling g mk a).setFrames s₂.frames with heap := s₂.heap, slotsUsed := s₂.slotsUsed } : State).setVm s₂.vm := by
      have : s₂ = ({ s₂ with vm := (U.calling g mk a).vm } : State).setVm s₂.vm := rfl
      rw [e2] at this
      exact this
    obtain ⟨c₂, i₂, len₂, hc₂, hd₂, hf₂⟩ := hend
    have hW' : U.WarmedH s₂.vm := hW₂
    have hcc : c₂ = c := by
      have h1 : s₂.code? g.method = U.code? g.method := by
        rw [State.code?_eq, State.code?_eq, hW'.alike.method?]
      exact Option.some.inj (hc₂.symm.trans (h1.trans h.code))
    subst hcc
    have hlen : len₂ = len := by rw [hdg] at hd₂; cases hd₂; rfl
    subst hlen
    have hs₂ : s₂ = (({ U with heap := s₂.heap, slotsUsed := s₂.slotsUsed } : State).setVm s₂.vm).setTop { g with pc := g.pc + len₂, stack := v.toList ++ g.stack } := by
      refine e3.trans ?_
      rw [hf₂, State.calling_eq h.top, State.setFrames_setFrames, State.setTop_of_frames _ hr', hr]
      rfl
    have hsame : U.sameButNew ({ U with heap := s₂.heap, slotsUsed := s₂.slotsUsed } : State) L mc ms := by
      refine ⟨?_, q2, q3, q4, q5, q6⟩
      obtain ⟨t, ht, -⟩ := State.frames_cons hr
      show ({ U with heap := s₂.heap, slotsUsed := s₂.slotsUsed } : State) = { U.setFrames U.frames with heap := s₂.heap, slotsUsed := s₂.slotsUsed }
      rw [State.setFrames_self ht]
    subst hg
    refine Or.inl ⟨v, ⟨(({ U with heap := s₂.heap, slotsUsed := s₂.slotsUsed } : State).setVm s₂.vm), Ls ++ L, c0 + mc, s0 + ms⟩,
      ⟨X.admits, X.cas, X.clock, X.frames, X.room, X.hears, X.method, X.code, (X.here.setHeapUsed s₂.heap s₂.slotsUsed).setVm hW'.alike, X.tail, State.WarmedH.trans X.warmed hW', X.limits, X.bytes, X.same.trans (hsame.setVm s.vm)⟩,
      ⟨g, mk, s₂, L, rfl, rfl, hqc, rfl, hL, rfl, rfl⟩, ?_⟩
    show Steps p.tables e below _ ((({ U with heap := s₂.heap, slotsUsed := s₂.slotsUsed } : State).setVm s₂.vm).setTop { g with pc := g.pc + len₂, stack := v.toList ++ g.stack })
    rw [← hs₂]
    exact hsteps
  · obtain ⟨e2, q2, q3, q4, q5, q6⟩ := id hsm
    have e3 : s₂ = ({ (U.calling g mk a).setFrames s₂.frames with heap := s₂.heap, slotsUsed := s₂.slotsUsed } : State).setVm s₂.vm := by
      have : s₂ = ({ s₂ with vm := (U.calling g mk a).vm } : State).setVm s₂.vm := rfl
      rw [e2] at this
      exact this
    have hf₂ : s₂.frames = .throwing q :: .java g :: U.frames.tail := hend
    have hW' : U.WarmedH s₂.vm := hW₂
    have hs₂ : s₂ = ((({ U with heap := s₂.heap, slotsUsed := s₂.slotsUsed } : State).setVm s₂.vm).setTop g).pushFrame (.throwing q) := by
      refine e3.trans ?_
      rw [hf₂, State.calling_eq h.top, State.setFrames_setFrames, State.pushFrame, State.frames_setTop _ hr', State.setTop_of_frames _ hr', State.setFrames_setFrames, hr]
      rfl
    have hsame : U.sameButNew ({ U with heap := s₂.heap, slotsUsed := s₂.slotsUsed } : State) L mc ms := by
      refine ⟨?_, q2, q3, q4, q5, q6⟩
      obtain ⟨t, ht, -⟩ := State.frames_cons hr
      show ({ U with heap := s₂.heap, slotsUsed := s₂.slotsUsed } : State) = { U.setFrames U.frames with heap := s₂.heap, slotsUsed := s₂.slotsUsed }
      rw [State.setFrames_self ht]
    subst hg
    refine Or.inr ⟨q, ⟨(({ U with heap := s₂.heap, slotsUsed := s₂.slotsUsed } : State).setVm s₂.vm), Ls ++ L, c0 + mc, s0 + ms⟩,
      ⟨X.admits, X.cas, X.clock, X.frames, X.room, X.hears, X.method, X.code, (X.here.setHeapUsed s₂.heap s₂.slotsUsed).setVm hW'.alike, X.tail, State.WarmedH.trans X.warmed hW', X.limits, X.bytes, X.same.trans (hsame.setVm s.vm)⟩,
      ⟨g, mk, s₂, L, E, ce, rfl, rfl, hx, hce, hcv, hcl, rfl, hL, rfl, rfl⟩, ?_⟩
    show Steps p.tables e below _ (((({ U with heap := s₂.heap, slotsUsed := s₂.slotsUsed } : State).setVm s₂.vm).setTop g).pushFrame (.throwing q))
    rw [← hs₂]
    exact hsteps
end Payer
section Calls
variable {p : Program} {l : Launch} {e : Env} {R : Room} {s : State} {m : MethodId} {args : Array Value} {below : List Frame} {meth : Method} {c : Code} {T : State} {locs : List Loc} {cells slots : Nat}
theorem vx_callV (X : Stand p l e R s m args below meth c T locs cells slots) (hexec : p.tables.exec = Jvm.exec) {own C : String} {index : Nat} {y : MethodName} {bytes : ByteArray} {maxL : Nat} {ret : Option FieldType}
    (hown : s.vm.findClass own = some m.cls) (hlink : (Cond.methodLink own index y).before args s = true) (hinst : (Cond.instanceMethod y).before args s = true) (hsel : (Cond.selects C y y).before args s = true)
    (hcode : (Cond.code y bytes maxL ret).before args s = true) (hy : y.cls ≠ "java/lang/invoke/MethodHandle" ∧ y.cls ≠ "java/lang/invoke/VarHandle")
    {W9 : Nat} {Pre : Pt → Array Value → Prop} {Post : Pt → Array Value → Option Value → Pt → Prop} {PostX : Pt → Array Value → Addr → Pt → Prop} (hK : vx_Back l R p e below s args y 3 W9 Pre Post PostX)
    {b : Addr} {cellB : Cell} (hcell : T.heap[b]? = some cellB) (hobj : cellB.vm.isStatics = false) (hcls : s.vm.findClass C = some cellB.cls)
    {g : JFrame} (hg : g.method = m) (hsize : g.locals.size = c.maxLocals) {argsL rest : List Value} (hlen : ∀ sig, parseMethodDescriptor y.desc = some sig → argsL.length = sig.parameters.length)
    (hstack : g.stack = argsL.reverse ++ .ref b :: rest) (hW : 2 * g.monitorRoom + (rest.map fun v => v.category).sum ≤ W9) (hdg : decode c.code g.pc = .ok (.invokevirtual index, 3))
    (hpre : ∀ vm₁, s.WarmedH vm₁ → Pre ⟨T.setVm vm₁, locs, cells, slots⟩ (Value.ref b :: argsL).toArray) :
    (∃ (v : Option Value) (vm₁ : Vm) (B : Pt), s.WarmedH vm₁ ∧ Stand p l e R s m args below meth c B.U B.locs B.cells B.slots ∧ Post ⟨T.setVm vm₁, locs, cells, slots⟩ (Value.ref b :: argsL).toArray v B ∧
      ∀ target, Steps p.tables e below (B.U.setTop { g with pc := g.pc + 3, stack := v.toList ++ rest }) target → Steps p.tables e below (T.setTop g) target) ∨
    (∃ (q : Addr) (vm₁ : Vm) (B : Pt), s.WarmedH vm₁ ∧ Stand p l e R s m args below meth c B.U B.locs B.cells B.slots ∧ PostX ⟨T.setVm vm₁, locs, cells, slots⟩ (Value.ref b :: argsL).toArray q B ∧
      Steps p.tables e below (T.setTop g) ((B.U.setTop { g with stack := rest }).pushFrame (.throwing q))) := by
  obtain ⟨mk, methM, hnamed, hmethM, hstM, habM⟩ := Cond.instanceMethod_spec hinst
  obtain ⟨methM', cM, hmethM', -, -, -, -, -, -, hsigM⟩ := Cond.code_spec hnamed hcode
  cases hmethM.symm.trans hmethM'
  obtain ⟨c2, r2, m2, q1, q2, q3, q4, kP, hkP, hkPi⟩ := Cond.selects_spec hsel
  cases hcls.symm.trans q1
  cases (State.methodFound?_of_named hnamed hy).symm.trans q2
  cases hnamed.symm.trans q3
  have hselP : selectMethod e.platform s.vm cellB.cls mk = .method mk := by rw [Launch.admits_selectMethod X.admits]; exact q4
  obtain ⟨vm₁, X₁, hstep₁⟩ := X.invokevirtual hexec hown hlink hnamed hmethM hstM hkP hkPi hy (a := b) (cell := cellB) hcell
    (fun z h => by rw [h] at hobj; cases hobj) hselP hmethM habM hkP hkPi (g := g) hg (argsL := argsL) (rest := rest) (hlen _ hsigM) hstack hdg
  rcases hK m meth c ⟨T.setVm vm₁, locs, cells, slots⟩ { g with stack := rest } (.invokevirtual index) mk (Value.ref b :: argsL).toArray X₁ hg hsize hdg hW (X₁.named hnamed) (hpre vm₁ X₁.warmed) with ⟨v, B, X', hpost, hsteps⟩ | ⟨q, B, X', hpost, hsteps⟩
  · exact Or.inl ⟨v, vm₁, B, X₁.warmed, X', hpost, fun target h => hstep₁ _ fun acts => by rw [doInvoke_state]; exact hsteps.trans h⟩
  · exact Or.inr ⟨q, vm₁, B, X₁.warmed, X', hpost, hstep₁ _ fun acts => by rw [doInvoke_state]; exact hsteps⟩
theorem vx_callS (X : Stand p l e R s m args below meth c T locs cells slots) (hexec : p.tables.exec = Jvm.exec) {own : String} {index : Nat} {y : MethodName} {bytes : ByteArray} {maxL : Nat} {ret : Option FieldType}
    (hown : s.vm.findClass own = some m.cls) (hlink : (Cond.methodLink own index y).before args s = true) (hstat : (Cond.static y).before args s = true) (hinit : (Cond.initialized y.cls).before args s = true)
    (hcode : (Cond.code y bytes maxL ret).before args s = true) (hy : y.cls ≠ "java/lang/invoke/MethodHandle" ∧ y.cls ≠ "java/lang/invoke/VarHandle")
    {W9 : Nat} {Pre : Pt → Array Value → Prop} {Post : Pt → Array Value → Option Value → Pt → Prop} {PostX : Pt → Array Value → Addr → Pt → Prop} (hK : vx_Back l R p e below s args y 3 W9 Pre Post PostX)
    {g : JFrame} (hg : g.method = m) (hsize : g.locals.size = c.maxLocals) {argsL rest : List Value} (hlen : ∀ sig, parseMethodDescriptor y.desc = some sig → argsL.length = sig.parameters.length)
    (hstack : g.stack = argsL.reverse ++ rest) (hW : 2 * g.monitorRoom + (rest.map fun v => v.category).sum ≤ W9) (hdg : decode c.code g.pc = .ok (.invokestatic index, 3))
    (hpre : ∀ vm₁, s.WarmedH vm₁ → Pre ⟨T.setVm vm₁, locs, cells, slots⟩ argsL.toArray) :
    (∃ (v : Option Value) (vm₁ : Vm) (B : Pt), s.WarmedH vm₁ ∧ Stand p l e R s m args below meth c B.U B.locs B.cells B.slots ∧ Post ⟨T.setVm vm₁, locs, cells, slots⟩ argsL.toArray v B ∧
      ∀ target, Steps p.tables e below (B.U.setTop { g with pc := g.pc + 3, stack := v.toList ++ rest }) target → Steps p.tables e below (T.setTop g) target) ∨
    (∃ (q : Addr) (vm₁ : Vm) (B : Pt), s.WarmedH vm₁ ∧ Stand p l e R s m args below meth c B.U B.locs B.cells B.slots ∧ PostX ⟨T.setVm vm₁, locs, cells, slots⟩ argsL.toArray q B ∧
      Steps p.tables e below (T.setTop g) ((B.U.setTop { g with stack := rest }).pushFrame (.throwing q))) := by
  obtain ⟨mk, hnamed⟩ := Cond.code_named hcode
  obtain ⟨methM, cM, hmethM, -, -, -, -, -, -, hsigM⟩ := Cond.code_spec hnamed hcode
  have hstatic : methM.isStatic = true := Cond.static_spec hnamed hmethM hstat
  obtain ⟨kP, hkP, -⟩ := className_of_methodNamed hnamed
  have hinitP : kP.init = .initialized := Cond.initialized_spec (findClass_of_methodNamed hnamed) hkP hinit
  obtain ⟨vm₁, X₁, hstep₁⟩ := X.invokestatic hexec hown hlink hnamed hmethM hstatic hkP hinitP hy (g := g) hg (argsL := argsL) (rest := rest) (hlen _ hsigM) hstack hdg
  rcases hK m meth c ⟨T.setVm vm₁, locs, cells, slots⟩ { g with stack := rest } (.invokestatic index) mk argsL.toArray X₁ hg hsize hdg hW (X₁.named hnamed) (hpre vm₁ X₁.warmed) with ⟨v, B, X', hpost, hsteps⟩ | ⟨q, B, X', hpost, hsteps⟩
  · exact Or.inl ⟨v, vm₁, B, X₁.warmed, X', hpost, fun target h => hstep₁ _ fun acts => by rw [doInvoke_state]; exact hsteps.trans h⟩
  · exact Or.inr ⟨q, vm₁, B, X₁.warmed, X', hpost, hstep₁ _ fun acts => by rw [doInvoke_state]; exact hsteps⟩
end Calls
theorem vx_cls {s : State} {T : State} {vm₁ : Vm} {E : String} {k : ClassId} (hW : s.WarmedH vm₁) (h : (T.setVm vm₁).vm.findClass E = some k) : s.vm.findClass E = some k := by
  have h1 : vm₁.findClass E = some k := h
  rw [hW.alike.findClass] at h1
  exact h1
/-- the method's frame g, with q thrown over it -/
def vx_W (p : Program) (l : Launch) (e : Env) (R : Room) (s : State) (m : MethodId) (args : Array Value) (below : List Frame) (meth : Method) (c : Code) (H : Heap) (locs : List Loc) (cells slots : Nat) (Q : State → Prop) (g : JFrame) (q : Addr) : Prop :=
  ∀ T : State, T.heap = H → Stand p l e R s m args below meth c T locs cells slots → ∃ t, Steps p.tables e below ((T.setTop g).pushFrame (.throwing q)) t ∧ Q t
def vx_Run (p : Program) (l : Launch) (e : Env) (R : Room) (s : State) (m : MethodId) (args : Array Value) (below : List Frame) (meth : Method) (c : Code) (H : Heap) (locs : List Loc) (cells slots mc ms : Nat) (g : JFrame) (rest : List Value) (Qa : State → Outcome → State → Prop) (XC : String → State → State → Prop) (free : Addr → Prop) : Prop :=
  ∀ T : State, T.heap = H → Stand p l e R s m args below meth c T locs cells slots →
    (∃ (v : Option Value) (st₀ t T' : State) (L : List Loc), st₀.heap = H ∧ Stand p l e R s m args below meth c T' (locs ++ L) (cells + mc) (slots + ms) ∧ (∀ q ∈ L, free q.base) ∧ T'.heap = t.heap ∧ T'.vm = t.vm ∧ Qa st₀ (.returned v) t ∧
      Goes p e below T g T' { g with pc := g.pc + 3, stack := v.toList ++ rest }) ∨
    (∃ (q : Addr) (st₀ t T' : State) (L : List Loc) (E : String) (ce : Cell), st₀.heap = H ∧ Stand p l e R s m args below meth c T' (locs ++ L) (cells + mc) (slots + ms) ∧ (∀ z ∈ L, free z.base) ∧ T'.heap = t.heap ∧ T'.vm = t.vm ∧ XC E st₀ t ∧ t.heap[q]? = some ce ∧ ce.vm = .none ∧ s.vm.findClass E = some ce.cls ∧
      Steps p.tables e below (T.setTop g) ((T'.setTop { g with stack := rest }).pushFrame (.throwing q)))
def vx_X {S : Type} (px : S → Prop) (B : String → S → State → Prop) (A : Nat → Prop) : String → State → State → Prop := fun E st t => ∃ u : S, px u ∧ B E u t ∧ va_F A st t
section Runs
variable {p : Program} {l : Launch} {e : Env} {R : Room} {s : State} {m : MethodId} {args : Array Value} {below : List Frame} {meth : Method} {c : Code} {H : Heap} {locs : List Loc} {cells slots : Nat}
variable {y : MethodName} {bytes cc : ByteArray} {maxL nL mc ms n index : Nat} {ret : Option FieldType} {ws : List Cond} {rm : Room} {Pc : Array Value → State → Prop} {Qc : Array Value → State → Outcome → State → Prop} {XC : String → State → State → Prop} {free : Addr → Prop} {Ts : List Cond} {own C : String} {b : Addr} {As rest : List Value} {g : JFrame}
theorem vx_callBack (cb : CallB R s args own index y bytes maxL ret ws rm mc ms n) (hM : vx_Met l y ws rm Pc Qc XC mc ms free) (hbl : FrameBlind Pc) : vx_Back l R p e below s args y 3 8 (PreOf R mc ms Pc) (PostOf Qc mc ms free) (vx_Post XC mc ms free) := by
  obtain ⟨hrc, hrs, hfr, hlo, hws, hcw, -, hini, -⟩ := cb
  exact vx_back (bytes := bytes) (maxL := maxL) (ret := ret) hM hbl hrc hrs hfr hlo hws hcw (fun a' U hW => word_at hW (Or.inl (by first | rfl | simp [Cond.onTables, Cond.keeps, Cond.steady])) hini)
theorem vx_runV (S : CallFix p m c cc nL s args Ts own) (hM : vx_Met l y ws rm Pc Qc XC mc ms free) (cw : CallW R s args own C index y bytes maxL ret ws rm mc ms n) (hp : PreV s H C b Pc As)
    (hg : g.method = m) (hn : As.length = n) (hsize : g.locals.size = nL) (hstack : g.stack = As.reverse ++ .ref b :: rest) (hW : 2 * g.monitorRoom + (rest.map fun v => v.category).sum ≤ 8) (hdg : decode cc g.pc = .ok (.invokevirtual index, 3)) (hf : cells + mc ≤ R.cells ∧ slots + ms ≤ R.slots) :
    vx_Run p l e R s m args below meth c H locs cells slots mc ms g rest (Qc (Value.ref b :: As).toArray) XC free := by
  have hK : vx_Back l R p e below s args y 3 8 (PreOf R mc ms Pc) (PostOf Qc mc ms free) (vx_Post XC mc ms free) := vx_callBack cw.1 hM hp.1
  obtain ⟨⟨-, -, -, -, -, -, hcode, -, hy, hlen, hl⟩, hin, hse⟩ := cw
  obtain ⟨hx, hb, hml, ho, -⟩ := S
  obtain ⟨-, ⟨cellB, hcB, hoB, hclB⟩, hPc⟩ := hp
  intro T hT X
  rcases vx_callV X hx (C := C) (bytes := bytes) (maxL := maxL) (ret := ret) ho hl hin hse hcode hy hK (by rw [hT]; exact hcB) hoB hclB hg (hsize.trans hml.symm) (argsL := As) (rest := rest) (fun sig h => hn.trans (hlen sig h)) hstack hW (by rw [hb]; exact hdg)
    (fun vm₁ hW₁ => ⟨hf.1, hf.2, hPc (T.setVm vm₁) hT hW₁⟩) with ⟨v, vm₁, ⟨U', l2, c2, s2⟩, hW₁, X', ⟨g', mk, t, L, e1, e2, hq, h1, hL, h2, h3⟩, st⟩ | ⟨q, vm₁, ⟨U', l2, c2, s2⟩, hW₁, X', ⟨g', mk, t, L, E, ce, e1, e2, hq, hce, hcv, hcl, h1, hL, h2, h3⟩, st⟩
  · dsimp only [Pt.U, Pt.locs, Pt.cells, Pt.slots] at X' e1 e2 h1 h2 h3 st
    subst h1; subst h2; subst h3
    exact Or.inl ⟨v, (T.setVm vm₁).calling g' mk (Value.ref b :: As).toArray, t, U', L, hT, X', hL, e1, e2, hq, st⟩
  · dsimp only [Pt.U, Pt.locs, Pt.cells, Pt.slots] at X' e1 e2 h1 h2 h3 st hcl
    subst h1; subst h2; subst h3
    exact Or.inr ⟨q, (T.setVm vm₁).calling g' mk (Value.ref b :: As).toArray, t, U', L, E, ce, hT, X', hL, e1, e2, hq, hce, hcv, vx_cls hW₁ hcl, st⟩
theorem vx_runS (S : CallFix p m c cc nL s args Ts own) (hM : vx_Met l y ws rm Pc Qc XC mc ms free) (cw : CallB R s args own index y bytes maxL ret ws rm mc ms n ∧ (Cond.static y).before args s = true) (hp : PreS s H Pc As)
    (hg : g.method = m) (hn : As.length = n) (hsize : g.locals.size = nL) (hstack : g.stack = As.reverse ++ rest) (hW : 2 * g.monitorRoom + (rest.map fun v => v.category).sum ≤ 8) (hdg : decode cc g.pc = .ok (.invokestatic index, 3)) (hf : cells + mc ≤ R.cells ∧ slots + ms ≤ R.slots) :
    vx_Run p l e R s m args below meth c H locs cells slots mc ms g rest (Qc As.toArray) XC free := by
  have hK : vx_Back l R p e below s args y 3 8 (PreOf R mc ms Pc) (PostOf Qc mc ms free) (vx_Post XC mc ms free) := vx_callBack cw.1 hM hp.1
  obtain ⟨⟨-, -, -, -, -, -, hcode, hini, hy, hlen, hl⟩, hstt⟩ := cw
  obtain ⟨hx, hb, hml, ho, -⟩ := S
  intro T hT X
  rcases vx_callS X hx (bytes := bytes) (maxL := maxL) (ret := ret) ho hl hstt hini hcode hy hK hg (hsize.trans hml.symm) (argsL := As) (rest := rest) (fun sig h => hn.trans (hlen sig h)) hstack hW (by rw [hb]; exact hdg)
    (fun vm₁ hW₁ => ⟨hf.1, hf.2, hp.2 (T.setVm vm₁) hT hW₁⟩) with ⟨v, vm₁, ⟨U', l2, c2, s2⟩, hW₁, X', ⟨g', mk, t, L, e1, e2, hq, h1, hL, h2, h3⟩, st⟩ | ⟨q, vm₁, ⟨U', l2, c2, s2⟩, hW₁, X', ⟨g', mk, t, L, E, ce, e1, e2, hq, hce, hcv, hcl, h1, hL, h2, h3⟩, st⟩
  · dsimp only [Pt.U, Pt.locs, Pt.cells, Pt.slots] at X' e1 e2 h1 h2 h3 st
    subst h1; subst h2; subst h3
    exact Or.inl ⟨v, (T.setVm vm₁).calling g' mk As.toArray, t, U', L, hT, X', hL, e1, e2, hq, st⟩
  · dsimp only [Pt.U, Pt.locs, Pt.cells, Pt.slots] at X' e1 e2 h1 h2 h3 st hcl
    subst h1; subst h2; subst h3
    exact Or.inr ⟨q, (T.setVm vm₁).calling g' mk As.toArray, t, U', L, E, ce, hT, X', hL, e1, e2, hq, hce, hcv, vx_cls hW₁ hcl, st⟩
end Runs
section Rows
variable {p : Program} {l : Launch} {e : Env} {R : Room} {s : State} {m : MethodId} {args : Array Value} {below : List Frame} {meth : Method} {c : Code} {H : Heap} {locs : List Loc} {cells slots : Nat} {Q : State → Prop}
variable {mc ms : Nat} {free : Addr → Prop} {A0 A1 : Nat → Prop} {H0 : Heap} {a : Array Value} {pc : Nat} {ls : Array Slot} {st0 rest : List Value}
theorem vx_keep {st₀ t T' : State} {L : List Loc} (h0 : st₀.heap = H) (e1 : T'.heap = t.heap) (hS : va_S A0 H0 H locs) (hA : ∀ q, q < H.size → A1 q → A0 q) (hf : ∀ q, free q → A0 q) (hL : ∀ q ∈ L, free q.base) (hF : va_F A1 st₀ t) :
    H.size ≤ T'.heap.size ∧ (∀ q : Nat, q < H.size → ¬ A1 q → T'.heap[q]? = H[q]?) ∧ va_S A0 H0 T'.heap (locs ++ L) := by
  obtain ⟨hz, hk⟩ := hF
  rw [h0] at hz hk
  exact ⟨by rw [e1]; exact hz, fun q h1 h2 => by rw [e1]; exact hk q h1 h2,
    ⟨Nat.le_trans hS.1 (by rw [e1]; exact hz), fun q h1 h2 => by rw [e1, hk q (Nat.lt_of_lt_of_le h1 hS.1) (fun z => h2 (hA q (Nat.lt_of_lt_of_le h1 hS.1) z))]; exact hS.2.1 q h1 h2, fun q hq => by
      rcases List.mem_append.mp hq with h | h
      · exact hS.2.2 q h
      · exact hf _ (hL q h)⟩⟩
theorem vx_calli {S SX : Type} {post : Int32 → S → Prop} {px : SX → Prop} {B : S → State → Prop} {BX : String → SX → State → Prop} {AX : Nat → Prop} (hr : vx_Run p l e R s m args below meth c H locs cells slots mc ms (F0 m pc ls st0) rest (va_Qi post B A1 a) (vx_X px BX AX) free) (hS : va_S A0 H0 H locs) (hA : ∀ q, q < H.size → A1 q → A0 q) (hf : ∀ q, free q → A0 q) (hAX : ∀ q, q < H.size → AX q → A0 q)
    (kx : ∀ (E : String) (ce : Cell) (q9 : Addr) (u : SX) (t : State) (H1 : Heap) (locs1 : List Loc), t.heap = H1 → s.vm.Alike t.vm → px u → BX E u t → H.size ≤ H1.size → (∀ q : Nat, q < H.size → ¬ AX q → H1[q]? = H[q]?) → va_S A0 H0 H1 locs1 → H1[q9]? = some ce → ce.vm = .none → s.vm.findClass E = some ce.cls → vx_W p l e R s m args below meth c H1 locs1 (cells + mc) (slots + ms) Q (F0 m pc ls rest) q9)
    (kk : ∀ (r : Int32) (u : S) (t : State) (H1 : Heap) (locs1 : List Loc), t.heap = H1 → s.vm.Alike t.vm → post r u → B u t → H.size ≤ H1.size → (∀ q : Nat, q < H.size → ¬ A1 q → H1[q]? = H[q]?) → va_S A0 H0 H1 locs1 → W p l e R s m args below meth c H1 locs1 (cells + mc) (slots + ms) Q (F0 m (pc + 3) ls (.int r :: rest))) : W p l e R s m args below meth c H locs cells slots Q (F0 m pc ls st0) := by
  intro T hT X
  rcases hr T hT X with ⟨v, st₀, t, T', L, h0, X', hL, e1, e2, ⟨⟨r, u, hv, hp, hb⟩, hF⟩, st⟩ | ⟨q, st₀, t, T', L, E, ce, h0, X', hL, e1, e2, ⟨u, hp, hb, hF⟩, hce, hcv, hcl, st⟩
  · cases hv
    obtain ⟨k1, k2, k3⟩ := vx_keep h0 e1 hS hA hf hL hF
    obtain ⟨t2, a1, b1⟩ := kk r u t T'.heap (locs ++ L) e1.symm (by rw [← e2]; exact X'.warmed.alike) hp hb k1 k2 k3 T' rfl X'
    exact ⟨t2, st t2 a1, b1⟩
  · obtain ⟨k1, k2, k3⟩ := vx_keep h0 e1 hS hAX hf hL hF
    obtain ⟨t2, a1, b1⟩ := kx E ce q u t T'.heap (locs ++ L) e1.symm (by rw [← e2]; exact X'.warmed.alike) hp hb k1 k2 k3 (by rw [e1]; exact hce) hcv hcl T' rfl X'
    exact ⟨t2, st.trans a1, b1⟩
theorem vx_calll {S SX : Type} {post : Int64 → S → Prop} {px : SX → Prop} {B : S → State → Prop} {BX : String → SX → State → Prop} {AX : Nat → Prop} (hr : vx_Run p l e R s m args below meth c H locs cells slots mc ms (F0 m pc ls st0) rest (va_Ql post B A1 a) (vx_X px BX AX) free) (hS : va_S A0 H0 H locs) (hA : ∀ q, q < H.size → A1 q → A0 q) (hf : ∀ q, free q → A0 q) (hAX : ∀ q, q < H.size → AX q → A0 q)
    (kx : ∀ (E : String) (ce : Cell) (q9 : Addr) (u : SX) (t : State) (H1 : Heap) (locs1 : List Loc), t.heap = H1 → s.vm.Alike t.vm → px u → BX E u t → H.size ≤ H1.size → (∀ q : Nat, q < H.size → ¬ AX q → H1[q]? = H[q]?) → va_S A0 H0 H1 locs1 → H1[q9]? = some ce → ce.vm = .none → s.vm.findClass E = some ce.cls → vx_W p l e R s m args below meth c H1 locs1 (cells + mc) (slots + ms) Q (F0 m pc ls rest) q9)
    (kk : ∀ (r : Int64) (u : S) (t : State) (H1 : Heap) (locs1 : List Loc), t.heap = H1 → s.vm.Alike t.vm → post r u → B u t → H.size ≤ H1.size → (∀ q : Nat, q < H.size → ¬ A1 q → H1[q]? = H[q]?) → va_S A0 H0 H1 locs1 → W p l e R s m args below meth c H1 locs1 (cells + mc) (slots + ms) Q (F0 m (pc + 3) ls (.long r :: rest))) : W p l e R s m args below meth c H locs cells slots Q (F0 m pc ls st0) := by
  intro T hT X
  rcases hr T hT X with ⟨v, st₀, t, T', L, h0, X', hL, e1, e2, ⟨⟨r, u, hv, hp, hb⟩, hF⟩, st⟩ | ⟨q, st₀, t, T', L, E, ce, h0, X', hL, e1, e2, ⟨u, hp, hb, hF⟩, hce, hcv, hcl, st⟩
  · cases hv
    obtain ⟨k1, k2, k3⟩ := vx_keep h0 e1 hS hA hf hL hF
    obtain ⟨t2, a1, b1⟩ := kk r u t T'.heap (locs ++ L) e1.symm (by rw [← e2]; exact X'.warmed.alike) hp hb k1 k2 k3 T' rfl X'
    exact ⟨t2, st t2 a1, b1⟩
  · obtain ⟨k1, k2, k3⟩ := vx_keep h0 e1 hS hAX hf hL hF
    obtain ⟨t2, a1, b1⟩ := kx E ce q u t T'.heap (locs ++ L) e1.symm (by rw [← e2]; exact X'.warmed.alike) hp hb k1 k2 k3 (by rw [e1]; exact hce) hcv hcl T' rfl X'
    exact ⟨t2, st.trans a1, b1⟩
theorem vx_callf {S SX : Type} {post : UInt32 → S → Prop} {px : SX → Prop} {B : S → State → Prop} {BX : String → SX → State → Prop} {AX : Nat → Prop} (hr : vx_Run p l e R s m args below meth c H locs cells slots mc ms (F0 m pc ls st0) rest (va_Qf post B A1 a) (vx_X px BX AX) free) (hS : va_S A0 H0 H locs) (hA : ∀ q, q < H.size → A1 q → A0 q) (hf : ∀ q, free q → A0 q) (hAX : ∀ q, q < H.size → AX q → A0 q)
    (kx : ∀ (E : String) (ce : Cell) (q9 : Addr) (u : SX) (t : State) (H1 : Heap) (locs1 : List Loc), t.heap = H1 → s.vm.Alike t.vm → px u → BX E u t → H.size ≤ H1.size → (∀ q : Nat, q < H.size → ¬ AX q → H1[q]? = H[q]?) → va_S A0 H0 H1 locs1 → H1[q9]? = some ce → ce.vm = .none → s.vm.findClass E = some ce.cls → vx_W p l e R s m args below meth c H1 locs1 (cells + mc) (slots + ms) Q (F0 m pc ls rest) q9)
    (kk : ∀ (r : UInt32) (u : S) (t : State) (H1 : Heap) (locs1 : List Loc), t.heap = H1 → s.vm.Alike t.vm → post r u → B u t → H.size ≤ H1.size → (∀ q : Nat, q < H.size → ¬ A1 q → H1[q]? = H[q]?) → va_S A0 H0 H1 locs1 → W p l e R s m args below meth c H1 locs1 (cells + mc) (slots + ms) Q (F0 m (pc + 3) ls (.float r :: rest))) : W p l e R s m args below meth c H locs cells slots Q (F0 m pc ls st0) := by
  intro T hT X
  rcases hr T hT X with ⟨v, st₀, t, T', L, h0, X', hL, e1, e2, ⟨⟨r, u, hv, hp, hb⟩, hF⟩, st⟩ | ⟨q, st₀, t, T', L, E, ce, h0, X', hL, e1, e2, ⟨u, hp, hb, hF⟩, hce, hcv, hcl, st⟩
  · cases hv
    obtain ⟨k1, k2, k3⟩ := vx_keep h0 e1 hS hA hf hL hF
    obtain ⟨t2, a1, b1⟩ := kk r u t T'.heap (locs ++ L) e1.symm (by rw [← e2]; exact X'.warmed.alike) hp hb k1 k2 k3 T' rfl X'
    exact ⟨t2, st t2 a1, b1⟩
  · obtain ⟨k1, k2, k3⟩ := vx_keep h0 e1 hS hAX hf hL hF
    obtain ⟨t2, a1, b1⟩ := kx E ce q u t T'.heap (locs ++ L) e1.symm (by rw [← e2]; exact X'.warmed.alike) hp hb k1 k2 k3 (by rw [e1]; exact hce) hcv hcl T' rfl X'
    exact ⟨t2, st.trans a1, b1⟩
theorem vx_calld {S SX : Type} {post : UInt64 → S → Prop} {px : SX → Prop} {B : S → State → Prop} {BX : String → SX → State → Prop} {AX : Nat → Prop} (hr : vx_Run p l e R s m args below meth c H locs cells slots mc ms (F0 m pc ls st0) rest (va_Qd post B A1 a) (vx_X px BX AX) free) (hS : va_S A0 H0 H locs) (hA : ∀ q, q < H.size → A1 q → A0 q) (hf : ∀ q, free q → A0 q) (hAX : ∀ q, q < H.size → AX q → A0 q)
    (kx : ∀ (E : String) (ce : Cell) (q9 : Addr) (u : SX) (t : State) (H1 : Heap) (locs1 : List Loc), t.heap = H1 → s.vm.Alike t.vm → px u → BX E u t → H.size ≤ H1.size → (∀ q : Nat, q < H.size → ¬ AX q → H1[q]? = H[q]?) → va_S A0 H0 H1 locs1 → H1[q9]? = some ce → ce.vm = .none → s.vm.findClass E = some ce.cls → vx_W p l e R s m args below meth c H1 locs1 (cells + mc) (slots + ms) Q (F0 m pc ls rest) q9)
    (kk : ∀ (r : UInt64) (u : S) (t : State) (H1 : Heap) (locs1 : List Loc), t.heap = H1 → s.vm.Alike t.vm → post r u → B u t → H.size ≤ H1.size → (∀ q : Nat, q < H.size → ¬ A1 q → H1[q]? = H[q]?) → va_S A0 H0 H1 locs1 → W p l e R s m args below meth c H1 locs1 (cells + mc) (slots + ms) Q (F0 m (pc + 3) ls (.double r :: rest))) : W p l e R s m args below meth c H locs cells slots Q (F0 m pc ls st0) := by
  intro T hT X
  rcases hr T hT X with ⟨v, st₀, t, T', L, h0, X', hL, e1, e2, ⟨⟨r, u, hv, hp, hb⟩, hF⟩, st⟩ | ⟨q, st₀, t, T', L, E, ce, h0, X', hL, e1, e2, ⟨u, hp, hb, hF⟩, hce, hcv, hcl, st⟩
  · cases hv
    obtain ⟨k1, k2, k3⟩ := vx_keep h0 e1 hS hA hf hL hF
    obtain ⟨t2, a1, b1⟩ := kk r u t T'.heap (locs ++ L) e1.symm (by rw [← e2]; exact X'.warmed.alike) hp hb k1 k2 k3 T' rfl X'
    exact ⟨t2, st t2 a1, b1⟩
  · obtain ⟨k1, k2, k3⟩ := vx_keep h0 e1 hS hAX hf hL hF
    obtain ⟨t2, a1, b1⟩ := kx E ce q u t T'.heap (locs ++ L) e1.symm (by rw [← e2]; exact X'.warmed.alike) hp hb k1 k2 k3 (by rw [e1]; exact hce) hcv hcl T' rfl X'
    exact ⟨t2, st.trans a1, b1⟩
theorem vx_callv {S SX : Type} {post : S → Prop} {px : SX → Prop} {B : S → State → Prop} {BX : String → SX → State → Prop} {AX : Nat → Prop} (hr : vx_Run p l e R s m args below meth c H locs cells slots mc ms (F0 m pc ls st0) rest (va_Qv post B A1 a) (vx_X px BX AX) free) (hS : va_S A0 H0 H locs) (hA : ∀ q, q < H.size → A1 q → A0 q) (hf : ∀ q, free q → A0 q) (hAX : ∀ q, q < H.size → AX q → A0 q)
    (kx : ∀ (E : String) (ce : Cell) (q9 : Addr) (u : SX) (t : State) (H1 : Heap) (locs1 : List Loc), t.heap = H1 → s.vm.Alike t.vm → px u → BX E u t → H.size ≤ H1.size → (∀ q : Nat, q < H.size → ¬ AX q → H1[q]? = H[q]?) → va_S A0 H0 H1 locs1 → H1[q9]? = some ce → ce.vm = .none → s.vm.findClass E = some ce.cls → vx_W p l e R s m args below meth c H1 locs1 (cells + mc) (slots + ms) Q (F0 m pc ls rest) q9)
    (kk : ∀ (u : S) (t : State) (H1 : Heap) (locs1 : List Loc), t.heap = H1 → s.vm.Alike t.vm → post u → B u t → H.size ≤ H1.size → (∀ q : Nat, q < H.size → ¬ A1 q → H1[q]? = H[q]?) → va_S A0 H0 H1 locs1 → W p l e R s m args below meth c H1 locs1 (cells + mc) (slots + ms) Q (F0 m (pc + 3) ls (rest))) : W p l e R s m args below meth c H locs cells slots Q (F0 m pc ls st0) := by
  intro T hT X
  rcases hr T hT X with ⟨v, st₀, t, T', L, h0, X', hL, e1, e2, ⟨⟨u, hv, hp, hb⟩, hF⟩, st⟩ | ⟨q, st₀, t, T', L, E, ce, h0, X', hL, e1, e2, ⟨u, hp, hb, hF⟩, hce, hcv, hcl, st⟩
  · cases hv
    obtain ⟨k1, k2, k3⟩ := vx_keep h0 e1 hS hA hf hL hF
    obtain ⟨t2, a1, b1⟩ := kk u t T'.heap (locs ++ L) e1.symm (by rw [← e2]; exact X'.warmed.alike) hp hb k1 k2 k3 T' rfl X'
    exact ⟨t2, st t2 a1, b1⟩
  · obtain ⟨k1, k2, k3⟩ := vx_keep h0 e1 hS hAX hf hL hF
    obtain ⟨t2, a1, b1⟩ := kx E ce q u t T'.heap (locs ++ L) e1.symm (by rw [← e2]; exact X'.warmed.alike) hp hb k1 k2 k3 (by rw [e1]; exact hce) hcv hcl T' rfl X'
    exact ⟨t2, st.trans a1, b1⟩
end Rows
section Ends
variable {p : Program} {l : Launch} {e : Env} {R : Room} {s : State} {m : MethodId} {args : Array Value} {below : List Frame} {meth : Method} {c : Code} {H : Heap} {locs : List Loc} {cells slots : Nat} {Q : State → Prop}
variable {mc ms : Nat} {free : Addr → Prop} {A0 A1 : Nat → Prop} {H0 : Heap} {a : Array Value} {ls : Array Slot} {st0 rest : List Value}
variable {Qc : Array Value → State → Outcome → State → Prop} {XC : String → State → State → Prop}
/-- what a body that may throw owes at its end -/
def vx_MQ (below : List Frame) (Qc : Array Value → State → Outcome → State → Prop) (XC : String → State → State → Prop) (a : Array Value) (s : State) (mc ms : Nat) (free : Addr → Prop) : State → Prop := fun t =>
  ∃ o, t.status = .running ∧ Ended t below o ∧ vx_Q Qc XC mc ms free a s o t
theorem vx_ret {g : JFrame} {mc ms : Nat} (k : W p l e R s m args below meth c H locs cells slots (MQ below Qc args s mc ms free) g) : W p l e R s m args below meth c H locs cells slots (vx_MQ below Qc XC args s mc ms free) g := by
  intro T hT X
  obtain ⟨t, a1, o, b1, b2, b3, b4⟩ := k T hT X
  exact ⟨t, a1, o, b1, b2, Or.inl ⟨b3, b4⟩⟩
/-- not caught here: it goes on to the caller -/
theorem vx_widen {g : JFrame} {q : Addr} {k n : Nat} (h1 : cells ≤ k) (h2 : slots ≤ n) (kk : vx_W p l e R s m args below meth c H locs k n Q g q) : vx_W p l e R s m args below meth c H locs cells slots Q g q := fun T hT X => kk T hT (stand_widen X h1 h2)
theorem vx_out {pc : Nat} {E : String} {ce : Cell} {q : Addr} {mc ms : Nat} (hout : ∀ x ∈ c.exceptionTable.toList, covers x pc = false) (hlocks : meth.locks = false) (hcell : H[q]? = some ce) (hv : ce.vm = .none) (hcl : s.vm.findClass E = some ce.cls)
    (hx : ∀ t : State, t.heap = H → s.vm.Alike t.vm → XC E s t) (hf : ∀ z ∈ locs, free z.base) (hc : cells ≤ mc) (hs : slots ≤ ms) :
    vx_W p l e R s m args below meth c H locs cells slots (vx_MQ below Qc XC args s mc ms free) (F0 m pc ls rest) q := by
  intro T hT X
  obtain ⟨st1, hrun, hend, hW, hsm⟩ := X.leaveThrown q (g := F0 m pc ls rest) rfl rfl rfl hout hlocks
  have hcell9 : (T.setFrames (.throwing q :: below)).heap[q]? = some ce := by
    show T.heap[q]? = some ce
    rw [hT]; exact hcell
  exact ⟨_, st1, .threw q, hrun, hend, Or.inr ⟨q, rfl, E, ce, locs, hx _ hT hW.alike, hcell9, hv, hcl, hW, hsm.mono hc hs, hf⟩⟩
theorem vx_frame {U : State} {k n : Nat} (h : s.sameButNew ({ U with vm := s.vm } : State) locs k n) : s.heap.size ≤ U.heap.size ∧ ∀ q : Nat, q < s.heap.size → (∀ z ∈ locs, z.base ≠ q) → U.heap[q]? = s.heap[q]? := by
  obtain ⟨-, h2, -, -, -, h6⟩ := h
  refine ⟨h2, fun q hq hz => ?_⟩
  obtain ⟨c9, e1, e2, e3, e4⟩ := h6 q _ (Array.getElem?_eq_getElem hq)
  have hs : c9.slots = (s.heap[q]).slots := Array.ext_getElem? fun i => e4 i fun hm => hz _ hm rfl
  have h9 : c9 = s.heap[q] := by
    rw [hs] at e2
    exact e2
  have e5 : U.heap[q]? = some c9 := e1
  rw [e5, h9, Array.getElem?_eq_getElem hq]
/-- the words of a throw but the four that speak of the heap -/
def vx_no (w : Cond) : Bool := decide (w ≠ .isRef (.static Bundle.tN "UNASSIGNED_STACK" Bundle.steD)) && decide (w ≠ .isRef (.static Bundle.tN "SUPPRESSED_SENTINEL" Bundle.listD)) && decide (w ≠ .laysStatic Bundle.tN "UNASSIGNED_STACK" Bundle.steD) && decide (w ≠ .laysStatic Bundle.tN "SUPPRESSED_SENTINEL" Bundle.listD)
def vx_at0 (own : String) (ic : Nat) (X : String) (names : List String) : List Cond := (Bundle.ownAtoms0 own ic X names).filter vx_no
def vx_atS (own : String) (ic : Nat) (X : String) (names : List String) : List Cond := (Bundle.ownAtoms own ic X names).filter vx_no
/-- a word that the tables alone decide, or a good one -/
def vx_ot (w : Cond) : Bool := w.onTables || goodWord w
theorem vx_ot_at {args a' : Array Value} {s U : State} {w : Cond} (hW : s.WarmedH U.vm) (hvm : s.vm = U.vm) (hg : vx_ot w = true) (h : w.before args s = true) : w.before a' U = true := by
  simp only [vx_ot, Bool.or_eq_true] at hg
  rcases hg with hg | hg
  · exact va_tabs hg hvm h
  · exact word_at hW (good_of_word hg) h
/-- a list's words: the good ones out of the method's own list, the others by premises of their own -/
theorem vx_hat {args : Array Value} {s : State} {L B : List Cond} (h1 : ∀ w ∈ L.filter goodWord, w.before args s = true) (h2 : ∀ w ∈ L.filter (fun w => !goodWord w), w ∈ B) (h3 : ∀ w ∈ B, w.before args s = true) : ∀ w ∈ L, w.before args s = true := by
  intro w hw
  by_cases g : goodWord w = true
  · exact h1 w (List.mem_filter.mpr ⟨hw, g⟩)
  · refine h3 w (h2 w (List.mem_filter.mpr ⟨hw, ?_⟩))
    show (!goodWord w) = true
    cases hgw : goodWord w
    · rfl
    · exact absurd hgw g
theorem vx_c {args : Array Value} {s : State} {w : Cond} {B : List Cond} (h : w.before args s = true) (t : ∀ w ∈ B, w.before args s = true) : ∀ w' ∈ w :: B, w'.before args s = true := fun w' h' => (List.mem_cons.mp h').elim (fun e => by rw [e]; exact h) (t w')
theorem vx_n {args : Array Value} {s : State} : ∀ w ∈ ([] : List Cond), w.before args s = true := fun _ h => nomatch h
theorem vx_own {args : Array Value} {s : State} {L : List Cond} (h1 : ∀ w ∈ L.filter vx_no, w.before args s = true)
    (hU : (Cond.isRef (.static Bundle.tN "UNASSIGNED_STACK" Bundle.steD)).before args s = true) (hN : (Cond.isRef (.static Bundle.tN "SUPPRESSED_SENTINEL" Bundle.listD)).before args s = true)
    (lU : (Cond.laysStatic Bundle.tN "UNASSIGNED_STACK" Bundle.steD).before args s = true) (lN : (Cond.laysStatic Bundle.tN "SUPPRESSED_SENTINEL" Bundle.listD).before args s = true) : ∀ w ∈ L, w.before args s = true := by
  intro w hw
  by_cases e1 : w = .isRef (.static Bundle.tN "UNASSIGNED_STACK" Bundle.steD)
  · rw [e1]; exact hU
  · by_cases e2 : w = .isRef (.static Bundle.tN "SUPPRESSED_SENTINEL" Bundle.listD)
    · rw [e2]; exact hN
    · by_cases e3 : w = .laysStatic Bundle.tN "UNASSIGNED_STACK" Bundle.steD
      · rw [e3]; exact lU
      · by_cases e4 : w = .laysStatic Bundle.tN "SUPPRESSED_SENTINEL" Bundle.listD
        · rw [e4]; exact lN
        · exact h1 w (List.mem_filter.mpr ⟨hw, by unfold vx_no; rw [decide_eq_true e1, decide_eq_true e2, decide_eq_true e3, decide_eq_true e4]; rfl⟩)
/-- where a static field lies, its class's statics cell in H -/
def vx_L (C n d : String) (A : Nat → Prop) (U : State) (H : Heap) : Prop := ∃ (c : ClassId) (k : Class) (i : Nat) (f : Field) (a : Nat) (cell : Cell), U.vm.findClass C = some c ∧ U.fieldFound? C n d = some (c, k, i, f) ∧ f.isStatic = true ∧ k.statics = some a ∧ H[a]? = some cell ∧ cell.vm.isStatics = true ∧ cell.cls = c ∧ f.slot < cell.slots.size ∧ k.staticTypes[f.slot]? = some f.type ∧ ¬ A a
theorem vx_L.moved {C n d : String} {A : Nat → Prop} {u U : State} {H : Heap} (hvm : u.vm.Alike U.vm) (h : vx_L C n d A u H) : vx_L C n d A U H := by
  obtain ⟨c, k, i, f, a, cell, h1, h2, h3, h4, h5, h6, h7, h8, h9, h10⟩ := h
  obtain ⟨k', hi', he⟩ := State.fieldFound?_setVm hvm h2
  exact ⟨c, k', i, f, a, cell, by rw [hvm.findClass]; exact h1, hi', h3, by rw [he]; exact h4, h5, h6, h7, h8, by rw [he]; exact h9, h10⟩
theorem vx_L.kept {C n d : String} {A : Nat → Prop} {U : State} {H H1 : Heap} (h : vx_L C n d A U H) (hq : ∀ a : Nat, a < H.size → ¬ A a → H1[a]? = H[a]?) : vx_L C n d A U H1 := by
  obtain ⟨c, k, i, f, a, cell, h1, h2, h3, h4, h5, h6, h7, h8, h9, h10⟩ := h
  exact ⟨c, k, i, f, a, cell, h1, h2, h3, h4, by rw [hq a (Array.getElem?_eq_some_iff.mp h5).1 h10]; exact h5, h6, h7, h8, h9, h10⟩
theorem vx_L.narrow {C n d : String} {A B : Nat → Prop} {U : State} {H : Heap} (h : vx_L C n d A U H) (hAB : ∀ q, B q → A q) : vx_L C n d B U H := by
  obtain ⟨c, k, i, f, a, cell, h1, h2, h3, h4, h5, h6, h7, h8, h9, h10⟩ := h
  exact ⟨c, k, i, f, a, cell, h1, h2, h3, h4, h5, h6, h7, h8, h9, fun z => h10 (hAB _ z)⟩
theorem vx_L.word {C n d : String} {A : Nat → Prop} {s : State} {args : Array Value} (h : vx_L C n d A s s.heap) : (Cond.laysStatic C n d).before args s = true := by
  obtain ⟨c, k, i, f, a, cell, h1, h2, h3, h4, h5, h6, h7, h8, h9, -⟩ := h
  show (Cond.laysStatic C n d).holds args s none s [] = true
  exact Cond.laysStatic_of h1 h2 h3 h4 h5 h6 h7 h8 h9
/-- .. and what it holds: null or some reference -/
def vx_Zq (C n d : String) (A : Nat → Prop) (U : State) (H : Heap) : Prop := va_Zq C n d A U H ∧ vx_L C n d A U H
theorem vx_Zq.moved {C n d : String} {A : Nat → Prop} {u U : State} {H : Heap} (hvm : u.vm.Alike U.vm) (h : vx_Zq C n d A u H) : vx_Zq C n d A U H := ⟨va_Zq.moved hvm h.1, vx_L.moved hvm h.2⟩
theorem vx_Zq.kept {C n d : String} {A : Nat → Prop} {U : State} {H H1 : Heap} (h : vx_Zq C n d A U H) (hq : ∀ a : Nat, a < H.size → ¬ A a → H1[a]? = H[a]?) : vx_Zq C n d A U H1 := ⟨va_Zq.kept h.1 hq, vx_L.kept h.2 hq⟩
theorem vx_Zq.narrow {C n d : String} {A B : Nat → Prop} {U : State} {H : Heap} (h : vx_Zq C n d A U H) (hAB : ∀ q, B q → A q) : vx_Zq C n d B U H := ⟨va_Zq.narrow h.1 hAB, vx_L.narrow h.2 hAB⟩
theorem vx_Zqof {args : Array Value} {s : State} {C n d : String} {A : Nat → Prop} (hl : (Cond.laysStatic C n d).before args s = true) (hini : (Cond.initialized C).before args s = true) (h : (Cond.isRef (.static C n d)).before args s = true) (hA : ∀ a : Nat, a < s.heap.size → ¬ A a) : vx_Zq C n d A s s.heap := by
  refine ⟨va_Zqof hl hini h hA, ?_⟩
  obtain ⟨c, k, i, f, a, cell, h1, h2, h3, h4, h5, h6, h7, h8, h9⟩ := Cond.laysStatic_spec hl
  exact ⟨c, k, i, f, a, cell, h1, h2, h3, h4, h5, h6, h7, h8, h9, hA a (Array.getElem?_eq_some_iff.mp h5).1⟩
theorem vx_isRef {C n d : String} {v : Value} {A : Nat → Prop} {s : State} {args : Array Value} (h : va_Z C n d v A s s.heap) (hv : v.isRef = true) : (Cond.isRef (.static C n d)).before args s = true := by
  obtain ⟨cf, kf, fi, f, a, cell, h1, h2, h3, h4, h5, h6, h7, -⟩ := h
  have he : (Term.static C n d).eval args s none [] s = some v := by
    simp [Term.eval, State.fieldNamed?, h1, h2, h4, h5, h6, h7]
  simp only [Cond.before, Cond.holds, Cond.value, he]
  cases v <;> simp_all [Value.isRef]
theorem vx_isRefq {C n d : String} {A : Nat → Prop} {s : State} {args : Array Value} (h : va_Zq C n d A s s.heap) : (Cond.isRef (.static C n d)).before args s = true := by
  rcases h with h | ⟨t, h⟩
  · exact vx_isRef h rfl
  · exact vx_isRef h rfl
/-- the same frame, seen from here: as if the method were called anew in this heap -/
theorem vx_rebase {T : State} (X : Stand p l e R s m args below meth c T locs cells slots) {R' : Room} (hf : R'.frames ≤ R.frames) (hl : R'.locals ≤ R.locals) (hc : cells + R'.cells ≤ R.cells) (hs : slots + R'.slots ≤ R.slots) :
    Stand p l e R' ((T.setVm s.vm).setFrames (.invoking m args :: below)) m args below meth c T [] 0 0 := by
  have htop : (T.setVm s.vm).topJava?.isSome := X.here.top
  have hF : ((T.setVm s.vm).setFrames (.invoking m args :: below)).frames = .invoking m args :: below := State.frames_setFrames _ (State.cur_lt_of_top htop)
  obtain ⟨g₀, hg0⟩ := Option.isSome_iff_exists.mp htop
  obtain ⟨r, hr⟩ := State.topJava?_eq_some.mp hg0
  have hl9 : e.platform.stackLimits (T.setVm s.vm).me = e.platform.stackLimits s.me := X.limits
  have hb9 : (T.setVm s.vm).me.stackBytes = s.me.stackBytes := X.bytes
  refine ⟨X.admits, X.cas, X.clock, hF, ?_, X.hears, X.method, X.code, X.here, X.tail, X.warmed, ?_, ?_, ?_⟩
  · have h := X.room
    have hU : ((T.setVm s.vm).setFrames (.invoking m args :: below)).localsInUse = s.localsInUse := by
      rw [State.localsInUse_invoking hF (meth := meth) (c := c) X.method X.code, State.localsInUse_invoking X.frames X.method X.code]
    simp only [State.hasRoom, Bool.and_eq_true, decide_eq_true_eq] at h ⊢
    obtain ⟨⟨⟨⟨h1, h2, h3, h4, h5, h6⟩, h7⟩, h8⟩, h9⟩ := h
    rw [X.frames, List.length_cons] at h2 h3
    have q1 := X.heapSize
    have q2 := X.used
    simp only [hF, hU, List.length_cons, State.stackLimits_setFrames, State.stackBytes_setFrames, hl9, hb9]
    refine ⟨⟨⟨⟨by omega, by omega, by omega, by omega, by omega, h6⟩, ?_⟩, ?_⟩, X.book⟩
    · show T.heap.size + R'.cells ≤ e.platform.maxCells
      omega
    · show T.slotsUsed + R'.slots ≤ e.platform.maxSlots
      omega
  · rw [State.stackLimits_setFrames]; rfl
  · rw [State.stackBytes_setFrames]; rfl
  · refine ⟨?_, Nat.le_refl _, Nat.le_refl _, ?_, ?_, fun a c9 h9 => ⟨c9, h9, rfl, rfl, fun _ _ => rfl⟩⟩
    · obtain ⟨t, ht, -⟩ := State.frames_cons hr
      show T.setVm s.vm = { ((T.setVm s.vm).setFrames (.invoking m args :: below)).setFrames (T.setVm s.vm).frames with heap := T.heap, slotsUsed := T.slotsUsed }
      rw [State.setFrames_setFrames, State.setFrames_self ht]
      rfl
    · show T.slotsUsed = T.slotsUsed + ((T.heap.toList.drop T.heap.size).map (·.slots.size)).sum
      rw [List.drop_eq_nil_of_le (Nat.le_of_eq Array.length_toList)]
      rfl
    · show ((T.heap.toList.drop T.heap.size).map (·.slots.size)).sum ≤ 0
      rw [List.drop_eq_nil_of_le (Nat.le_of_eq Array.length_toList)]
      exact Nat.le_refl _
/-- 'throw new E()': new; dup; invokespecial; athrow -/
theorem vx_throw0 {cc : ByteArray} {pc : Nat} (hexec : p.tables.exec = Jvm.exec) (hb : c.code = cc) (hl : l.stackTraces = false) {own cls : String} {names : List String} {ik ic mc ms : Nat} {A : Nat → Prop}
    (hown : s.vm.findClass own = some m.cls) (hcls : Bundle.fit cls = true) (hnames : ∀ n ∈ names, Bundle.fit n = true)
    (hk : (Cond.classLink own ik cls).before args s = true) (hini : (Cond.initialized cls).before args s = true) (hat : ∀ w ∈ vx_at0 own ic cls names, w.before args s = true)
    (hgood : ∀ w ∈ Cond.classLink own ik cls :: Cond.initialized cls :: vx_at0 own ic cls names, vx_ot w = true)
    (hU : vx_Zq Bundle.tN "UNASSIGNED_STACK" Bundle.steD A s s.heap) (hN : vx_Zq Bundle.tN "SUPPRESSED_SENTINEL" Bundle.listD A s s.heap) (hS : va_S A s.heap H locs) (hsize : ls.size = c.maxLocals)
    (d0 : decode cc pc = .ok (.new ik, 3)) (d3 : decode cc (pc + 3) = .ok (.dup, 1)) (d4 : decode cc (pc + 4) = .ok (.invokespecial ic, 3)) (d7 : decode cc (pc + 7) = .ok (.athrow, 1))
    (hout : ∀ x ∈ c.exceptionTable.toList, covers x (pc + 7) = false)
    (hRframes : names.length + 3 < R.frames) (hRlocals : (rest.map fun v => v.category).sum + (13 * (names.length + 1) + 42) ≤ R.locals) (hRcells : cells + 1 ≤ R.cells) (hRslots : slots + 6 ≤ R.slots) (hlocks : meth.locks = false)
    (hx : ∀ t : State, s.vm.Alike t.vm → H.size ≤ t.heap.size → (∀ q : Nat, q < H.size → t.heap[q]? = H[q]?) → XC cls s t)
    (hf : ∀ z ∈ locs, free z.base) (hc : cells + 1 ≤ mc) (hs : slots + 6 ≤ ms) :
    W p l e R s m args below meth c H locs cells slots (vx_MQ below Qc XC args s mc ms free) (F0 m pc ls rest) := by
  intro T hT X
  have htr : e.platform.stackTraces = false := (show e.platform.stackTraces = l.stackTraces by rw [X.admits.platform]).trans hl
  have Y := vx_rebase X (R' := { frames := R.frames, locals := R.locals, cells := 1, slots := 6 }) (Nat.le_refl _) (Nat.le_refl _) hRcells hRslots
  obtain ⟨s', hA⟩ : ∃ z, z = (T.setVm s.vm).setFrames (.invoking m args :: below) := ⟨_, rfl⟩
  rw [← hA] at Y
  have hvm : s'.vm = s.vm := by rw [hA]; rfl
  have hhp : s'.heap = H := by rw [hA]; exact hT
  have hW0 : s.WarmedH s'.vm := by rw [hvm]; exact State.WarmedH.refl s
  have hat' : ∀ w ∈ vx_at0 own ic cls names, w.before args s' = true := fun w hw => vx_ot_at hW0 hvm.symm (hgood w (List.mem_cons_of_mem _ (List.mem_cons_of_mem _ hw))) (hat w hw)
  have hk' : (Cond.classLink own ik cls).before args s' = true := vx_ot_at hW0 hvm.symm (hgood _ List.mem_cons_self) hk
  have hini' : (Cond.initialized cls).before args s' = true := vx_ot_at hW0 hvm.symm (hgood _ (List.mem_cons_of_mem _ List.mem_cons_self)) hini
  have hU' : vx_Zq Bundle.tN "UNASSIGNED_STACK" Bundle.steD A s' s'.heap := by rw [hhp]; exact vx_Zq.moved hW0.alike (hU.kept hS.2.1)
  have hN' : vx_Zq Bundle.tN "SUPPRESSED_SENTINEL" Bundle.listD A s' s'.heap := by rw [hhp]; exact vx_Zq.moved hW0.alike (hN.kept hS.2.1)
  have h : ∀ w ∈ Bundle.ownAtoms0 own ic cls names, w.before args s' = true := vx_own hat' (vx_isRefq hU'.1) (vx_isRefq hN'.1) hU'.2.word hN'.2.word
  have hown' : s'.vm.findClass own = some m.cls := by rw [hvm]; exact hown
  have hins : (Cond.instantiable cls 6).before args s' = true := h _ (by simp [Bundle.ownAtoms0])
  obtain ⟨vm₁, cX, kX, hfX, hkX, -, -, X₁, st1⟩ := Y.newCold hexec (own := own) (C := cls) (index := ik) (n := 6) hown' hk' hins hini'
    (g := F0 m pc ls rest) rfl (by rw [hb]; exact d0) (Nat.le_refl _) (Nat.le_refl _)
  generalize hT1 : (T.setVm vm₁).pushCell { cls := cX, slots := kX.instanceTypes.map defaultValue, vm := .none } = T1 at X₁ st1
  have hcat : (Value.ref T.heap.size).category = 1 := rfl
  have hcellA : T1.heap[T.heap.size]? = some (freshCell cX kX) := by rw [← hT1]; exact State.heap_pushCell_size _ _
  have d3' : decode c.code (pc + 3) = .ok (.dup, 1) := by rw [hb]; exact d3
  obtain ⟨U, hsteps, hrun, hend, hW, hsame, ce, hce, hO⟩ := X₁.ctorThrow0 hexec htr (own := own) (cls := cls) (names := names) (ic := ic) hown' hcls hnames h (fun x hx => nomatch hx) hfX hkX hcellA (by rw [hhp, hT]; exact Nat.le_refl _)
    (g := { method := m, pc := pc + 4, locals := ls, stack := .ref T.heap.size :: .ref T.heap.size :: rest, locked := none }) rfl hsize rfl rfl (rest := rest) rfl
    (by rw [hb]; exact d4) (by rw [hb]; exact d7) hout hRframes (by simp only [List.map_cons, List.sum_cons, hcat]; omega) hlocks
  obtain ⟨f1, f2⟩ := vx_frame hsame
  rw [hhp] at f1 f2
  have hWs : s.WarmedH U.vm := State.WarmedH.trans hW0 hW
  have hcl : s.vm.findClass cls = some ce.cls := by
    have h9 := hO.cls
    rw [hvm] at h9
    exact h9
  have hall : s.sameButNew ({ U with vm := s.vm } : State) locs mc ms := by
    subst hA
    obtain ⟨e1, e2⟩ := hsame
    rw [State.setFrames_setFrames] at e1
    have h2 : (T.setVm s.vm).sameButNew ({ U with vm := s.vm } : State) [] (0 + 1) (0 + 6) := ⟨e1, e2⟩
    have h3 := X.same.trans h2
    rw [List.append_nil] at h3
    exact h3.mono hc hs
  refine ⟨U, ?_, .threw T.heap.size, hrun, hend, Or.inr ⟨T.heap.size, rfl, cls, ce, locs, hx U hWs.alike f1 (fun q hq => f2 q hq (fun z hz => nomatch hz)), hce, hO.vm, hcl, hWs, hall, hf⟩⟩
  refine st1 _ ?_
  show Steps p.tables e below (T1.setTop { method := m, pc := pc + 3, locals := ls, stack := .ref T.heap.size :: rest, locked := none }) _
  jvm_step X₁.here [X₁.here.top, hexec, d3', Value.category]
  exact hsteps
/-- 'throw new E("text")': new; dup; ldc; invokespecial; athrow -/
theorem vx_throwS {cc : ByteArray} {pc : Nat} (hexec : p.tables.exec = Jvm.exec) (hb : c.code = cc) (hl : l.stackTraces = false) {own cls text : String} {names : List String} {ik is ic mc ms sa : Nat} {A : Nat → Prop}
    (hown : s.vm.findClass own = some m.cls) (hcls : Bundle.fit cls = true) (hnames : ∀ n ∈ names, Bundle.fit n = true)
    (hk : (Cond.classLink own ik cls).before args s = true) (hini : (Cond.initialized cls).before args s = true) (hstr : vk_R own is text sa s) (hat : ∀ w ∈ vx_atS own ic cls names, w.before args s = true)
    (hgood : ∀ w ∈ Cond.classLink own ik cls :: Cond.initialized cls :: vx_atS own ic cls names, vx_ot w = true)
    (hU : vx_Zq Bundle.tN "UNASSIGNED_STACK" Bundle.steD A s s.heap) (hN : vx_Zq Bundle.tN "SUPPRESSED_SENTINEL" Bundle.listD A s s.heap) (hS : va_S A s.heap H locs) (hsize : ls.size = c.maxLocals)
    (d0 : decode cc pc = .ok (.new ik, 3)) (d3 : decode cc (pc + 3) = .ok (.dup, 1)) (d4 : decode cc (pc + 4) = .ok (.ldc is, 2)) (d6 : decode cc (pc + 6) = .ok (.invokespecial ic, 3)) (d9 : decode cc (pc + 9) = .ok (.athrow, 1))
    (hout : ∀ x ∈ c.exceptionTable.toList, covers x (pc + 9) = false)
    (hRframes : names.length + 3 < R.frames) (hRlocals : (rest.map fun v => v.category).sum + (13 * (names.length + 1) + 43) ≤ R.locals) (hRcells : cells + 1 ≤ R.cells) (hRslots : slots + 6 ≤ R.slots) (hlocks : meth.locks = false)
    (hx : ∀ t : State, s.vm.Alike t.vm → H.size ≤ t.heap.size → (∀ q : Nat, q < H.size → t.heap[q]? = H[q]?) → XC cls s t)
    (hf : ∀ z ∈ locs, free z.base) (hc : cells + 1 ≤ mc) (hs : slots + 6 ≤ ms) :
    W p l e R s m args below meth c H locs cells slots (vx_MQ below Qc XC args s mc ms free) (F0 m pc ls rest) := by
  intro T hT X
  have htr : e.platform.stackTraces = false := (show e.platform.stackTraces = l.stackTraces by rw [X.admits.platform]).trans hl
  have Y := vx_rebase X (R' := { frames := R.frames, locals := R.locals, cells := 1, slots := 6 }) (Nat.le_refl _) (Nat.le_refl _) hRcells hRslots
  obtain ⟨s', hA⟩ : ∃ z, z = (T.setVm s.vm).setFrames (.invoking m args :: below) := ⟨_, rfl⟩
  rw [← hA] at Y
  have hvm : s'.vm = s.vm := by rw [hA]; rfl
  have hhp : s'.heap = H := by rw [hA]; exact hT
  have hW0 : s.WarmedH s'.vm := by rw [hvm]; exact State.WarmedH.refl s
  have hat' : ∀ w ∈ vx_atS own ic cls names, w.before args s' = true := fun w hw => vx_ot_at hW0 hvm.symm (hgood w (List.mem_cons_of_mem _ (List.mem_cons_of_mem _ hw))) (hat w hw)
  have hk' : (Cond.classLink own ik cls).before args s' = true := vx_ot_at hW0 hvm.symm (hgood _ List.mem_cons_self) hk
  have hini' : (Cond.initialized cls).before args s' = true := vx_ot_at hW0 hvm.symm (hgood _ (List.mem_cons_of_mem _ List.mem_cons_self)) hini
  have hU' : vx_Zq Bundle.tN "UNASSIGNED_STACK" Bundle.steD A s' s'.heap := by rw [hhp]; exact vx_Zq.moved hW0.alike (hU.kept hS.2.1)
  have hN' : vx_Zq Bundle.tN "SUPPRESSED_SENTINEL" Bundle.listD A s' s'.heap := by rw [hhp]; exact vx_Zq.moved hW0.alike (hN.kept hS.2.1)
  have h : ∀ w ∈ Bundle.ownAtoms own ic cls names, w.before args s' = true := vx_own hat' (vx_isRefq hU'.1) (vx_isRefq hN'.1) hU'.2.word hN'.2.word
  have hown' : s'.vm.findClass own = some m.cls := by rw [hvm]; exact hown
  have hins : (Cond.instantiable cls 6).before args s' = true := h _ (by simp [Bundle.ownAtoms])
  obtain ⟨vm₁, cX, kX, hfX, hkX, -, -, X₁, st1⟩ := Y.newCold hexec (own := own) (C := cls) (index := ik) (n := 6) hown' hk' hins hini'
    (g := F0 m pc ls rest) rfl (by rw [hb]; exact d0) (Nat.le_refl _) (Nat.le_refl _)
  generalize hT1 : (T.setVm vm₁).pushCell { cls := cX, slots := kX.instanceTypes.map defaultValue, vm := .none } = T1 at X₁ st1
  have hcat : (Value.ref T.heap.size).category = 1 := rfl
  have hcellA : T1.heap[T.heap.size]? = some (freshCell cX kX) := by rw [← hT1]; exact State.heap_pushCell_size _ _
  have d3' : decode c.code (pc + 3) = .ok (.dup, 1) := by rw [hb]; exact d3
  have d4' : decode c.code (pc + 4) = .ok (.ldc is, 2) := by rw [hb]; exact d4
  have hstr' : vk_R own is text sa s' := vk_R.warm hW0 hstr
  obtain ⟨U, hsteps, hrun, hend, hW, hsame, ce, hce, hO⟩ := X₁.ctorThrowS hexec htr (own := own) (cls := cls) (names := names) (ic := ic) hown' hcls hnames h (fun x hx => nomatch hx) hfX hkX hcellA (by rw [hhp, hT]; exact Nat.le_refl _) (msg := .ref sa) rfl
    (g := { method := m, pc := pc + 6, locals := ls, stack := .ref sa :: .ref T.heap.size :: .ref T.heap.size :: rest, locked := none }) rfl hsize rfl rfl (rest := rest) rfl
    (by rw [hb]; exact d6) (by rw [hb]; exact d9) hout hRframes (by simp only [List.map_cons, List.sum_cons, hcat]; omega) hlocks
  obtain ⟨f1, f2⟩ := vx_frame hsame
  rw [hhp] at f1 f2
  have hWs : s.WarmedH U.vm := State.WarmedH.trans hW0 hW
  have hcl : s.vm.findClass cls = some ce.cls := by
    have h9 := hO.cls
    rw [hvm] at h9
    exact h9
  have hall : s.sameButNew ({ U with vm := s.vm } : State) locs mc ms := by
    subst hA
    obtain ⟨e1, e2⟩ := hsame
    rw [State.setFrames_setFrames] at e1
    have h2 : (T.setVm s.vm).sameButNew ({ U with vm := s.vm } : State) [] (0 + 1) (0 + 6) := ⟨e1, e2⟩
    have h3 := X.same.trans h2
    rw [List.append_nil] at h3
    exact h3.mono hc hs
  refine ⟨U, ?_, .threw T.heap.size, hrun, hend, Or.inr ⟨T.heap.size, rfl, cls, ce, locs, hx U hWs.alike f1 (fun q hq => f2 q hq (fun z hz => nomatch hz)), hce, hO.vm, hcl, hWs, hall, hf⟩⟩
  refine st1 _ ?_
  show Steps p.tables e below (T1.setTop { method := m, pc := pc + 3, locals := ls, stack := .ref T.heap.size :: rest, locked := none }) _
  jvm_step X₁.here [X₁.here.top, hexec, d3', Value.category]
  exact X₁.ldcString hexec (own := own) (text := text) (index := is) (a := sa) hown' hstr'.1 hstr'.2
    (g := { method := m, pc := pc + 4, locals := ls, stack := .ref T.heap.size :: .ref T.heap.size :: rest, locked := none }) rfl d4' _ hsteps
/-- 'throw new E("text")', the text by a wide index -/
theorem vx_throwSW {cc : ByteArray} {pc : Nat} (hexec : p.tables.exec = Jvm.exec) (hb : c.code = cc) (hl : l.stackTraces = false) {own cls text : String} {names : List String} {ik is ic mc ms sa : Nat} {A : Nat → Prop}
    (hown : s.vm.findClass own = some m.cls) (hcls : Bundle.fit cls = true) (hnames : ∀ n ∈ names, Bundle.fit n = true)
    (hk : (Cond.classLink own ik cls).before args s = true) (hini : (Cond.initialized cls).before args s = true) (hstr : vk_R own is text sa s) (hat : ∀ w ∈ vx_atS own ic cls names, w.before args s = true)
    (hgood : ∀ w ∈ Cond.classLink own ik cls :: Cond.initialized cls :: vx_atS own ic cls names, vx_ot w = true)
    (hU : vx_Zq Bundle.tN "UNASSIGNED_STACK" Bundle.steD A s s.heap) (hN : vx_Zq Bundle.tN "SUPPRESSED_SENTINEL" Bundle.listD A s s.heap) (hS : va_S A s.heap H locs) (hsize : ls.size = c.maxLocals)
    (d0 : decode cc pc = .ok (.new ik, 3)) (d3 : decode cc (pc + 3) = .ok (.dup, 1)) (d4 : decode cc (pc + 4) = .ok (.ldc_w is, 3)) (d7 : decode cc (pc + 7) = .ok (.invokespecial ic, 3)) (d10 : decode cc (pc + 10) = .ok (.athrow, 1))
    (hout : ∀ x ∈ c.exceptionTable.toList, covers x (pc + 10) = false)
    (hRframes : names.length + 3 < R.frames) (hRlocals : (rest.map fun v => v.category).sum + (13 * (names.length + 1) + 43) ≤ R.locals) (hRcells : cells + 1 ≤ R.cells) (hRslots : slots + 6 ≤ R.slots) (hlocks : meth.locks = false)
    (hx : ∀ t : State, s.vm.Alike t.vm → H.size ≤ t.heap.size → (∀ q : Nat, q < H.size → t.heap[q]? = H[q]?) → XC cls s t)
    (hf : ∀ z ∈ locs, free z.base) (hc : cells + 1 ≤ mc) (hs : slots + 6 ≤ ms) :
    W p l e R s m args below meth c H locs cells slots (vx_MQ below Qc XC args s mc ms free) (F0 m pc ls rest) := by
  intro T hT X
  have htr : e.platform.stackTraces = false := (show e.platform.stackTraces = l.stackTraces by rw [X.admits.platform]).trans hl
  have Y := vx_rebase X (R' := { frames := R.frames, locals := R.locals, cells := 1, slots := 6 }) (Nat.le_refl _) (Nat.le_refl _) hRcells hRslots
  obtain ⟨s', hA⟩ : ∃ z, z = (T.setVm s.vm).setFrames (.invoking m args :: below) := ⟨_, rfl⟩
  rw [← hA] at Y
  have hvm : s'.vm = s.vm := by rw [hA]; rfl
  have hhp : s'.heap = H := by rw [hA]; exact hT
  have hW0 : s.WarmedH s'.vm := by rw [hvm]; exact State.WarmedH.refl s
  have hat' : ∀ w ∈ vx_atS own ic cls names, w.before args s' = true := fun w hw => vx_ot_at hW0 hvm.symm (hgood w (List.mem_cons_of_mem _ (List.mem_cons_of_mem _ hw))) (hat w hw)
  have hk' : (Cond.classLink own ik cls).before args s' = true := vx_ot_at hW0 hvm.symm (hgood _ List.mem_cons_self) hk
  have hini' : (Cond.initialized cls).before args s' = true := vx_ot_at hW0 hvm.symm (hgood _ (List.mem_cons_of_mem _ List.mem_cons_self)) hini
  have hU' : vx_Zq Bundle.tN "UNASSIGNED_STACK" Bundle.steD A s' s'.heap := by rw [hhp]; exact vx_Zq.moved hW0.alike (hU.kept hS.2.1)
  have hN' : vx_Zq Bundle.tN "SUPPRESSED_SENTINEL" Bundle.listD A s' s'.heap := by rw [hhp]; exact vx_Zq.moved hW0.alike (hN.kept hS.2.1)
  have h : ∀ w ∈ Bundle.ownAtoms own ic cls names, w.before args s' = true := vx_own hat' (vx_isRefq hU'.1) (vx_isRefq hN'.1) hU'.2.word hN'.2.word
  have hown' : s'.vm.findClass own = some m.cls := by rw [hvm]; exact hown
  have hins : (Cond.instantiable cls 6).before args s' = true := h _ (by simp [Bundle.ownAtoms])
  obtain ⟨vm₁, cX, kX, hfX, hkX, -, -, X₁, st1⟩ := Y.newCold hexec (own := own) (C := cls) (index := ik) (n := 6) hown' hk' hins hini'
    (g := F0 m pc ls rest) rfl (by rw [hb]; exact d0) (Nat.le_refl _) (Nat.le_refl _)
  generalize hT1 : (T.setVm vm₁).pushCell { cls := cX, slots := kX.instanceTypes.map defaultValue, vm := .none } = T1 at X₁ st1
  have hcat : (Value.ref T.heap.size).category = 1 := rfl
  have hcellA : T1.heap[T.heap.size]? = some (freshCell cX kX) := by rw [← hT1]; exact State.heap_pushCell_size _ _
  have d3' : decode c.code (pc + 3) = .ok (.dup, 1) := by rw [hb]; exact d3
  have d4' : decode c.code (pc + 4) = .ok (.ldc_w is, 3) := by rw [hb]; exact d4
  have hstr' : vk_R own is text sa s' := vk_R.warm hW0 hstr
  obtain ⟨U, hsteps, hrun, hend, hW, hsame, ce, hce, hO⟩ := X₁.ctorThrowS hexec htr (own := own) (cls := cls) (names := names) (ic := ic) hown' hcls hnames h (fun x hx => nomatch hx) hfX hkX hcellA (by rw [hhp, hT]; exact Nat.le_refl _) (msg := .ref sa) rfl
    (g := { method := m, pc := pc + 7, locals := ls, stack := .ref sa :: .ref T.heap.size :: .ref T.heap.size :: rest, locked := none }) rfl hsize rfl rfl (rest := rest) rfl
    (by rw [hb]; exact d7) (by rw [hb]; exact d10) hout hRframes (by simp only [List.map_cons, List.sum_cons, hcat]; omega) hlocks
  obtain ⟨f1, f2⟩ := vx_frame hsame
  rw [hhp] at f1 f2
  have hWs : s.WarmedH U.vm := State.WarmedH.trans hW0 hW
  have hcl : s.vm.findClass cls = some ce.cls := by
    have h9 := hO.cls
    rw [hvm] at h9
    exact h9
  have hall : s.sameButNew ({ U with vm := s.vm } : State) locs mc ms := by
    subst hA
    obtain ⟨e1, e2⟩ := hsame
    rw [State.setFrames_setFrames] at e1
    have h2 : (T.setVm s.vm).sameButNew ({ U with vm := s.vm } : State) [] (0 + 1) (0 + 6) := ⟨e1, e2⟩
    have h3 := X.same.trans h2
    rw [List.append_nil] at h3
    exact h3.mono hc hs
  refine ⟨U, ?_, .threw T.heap.size, hrun, hend, Or.inr ⟨T.heap.size, rfl, cls, ce, locs, hx U hWs.alike f1 (fun q hq => f2 q hq (fun z hz => nomatch hz)), hce, hO.vm, hcl, hWs, hall, hf⟩⟩
  refine st1 _ ?_
  show Steps p.tables e below (T1.setTop { method := m, pc := pc + 3, locals := ls, stack := .ref T.heap.size :: rest, locked := none }) _
  jvm_step X₁.here [X₁.here.top, hexec, d3', Value.category]
  exact X₁.ldcStringW hexec (own := own) (text := text) (index := is) (a := sa) hown' hstr'.1 hstr'.2
    (g := { method := m, pc := pc + 4, locals := ls, stack := .ref T.heap.size :: .ref T.heap.size :: rest, locked := none }) rfl d4' _ hsteps
end Ends
section Bodies
variable {l : Launch}
theorem vx_ofW {y : MethodName} {ws ws' : List Cond} {rm : Room} {Pc : Array Value → State → Prop} {Qc : Array Value → State → Outcome → State → Prop} {XC : String → State → State → Prop} {mc ms : Nat} {free : Addr → Prop} {cc : ByteArray} {maxL : Nat} {ret : Option FieldType}
    (hy : plainName y.cls = true) (hw : ws = Cond.code y cc maxL ret :: ws')
    (body : ∀ p e s m args below meth c s₁, BodyLoose p l y (headSpec ws rm) cc maxL ret e s m args below meth c s₁ → c.maxLocals = maxL → (∀ x ∈ c.exceptionTable.toList, False) → Pc args s →
      W p l e (headSpec ws rm).room s m args below meth c s.heap [] 0 0 (vx_MQ below Qc XC args s mc ms free) (entryFrame m args maxL)) : vx_Met l y ws rm Pc Qc XC mc ms free := by
  refine MetFree.of_bodyS (code := cc) (maxLocals := maxL) (ret := ret) hy ?_ ?_
  · intro args s m h hn
    obtain ⟨meth, c, h1, h2, h3, h4, h5, h6, -, -⟩ := Cond.code_spec hn (atoms_spec (ws := ws) h _ (by rw [hw]; exact List.mem_cons_self))
    exact ⟨meth, c, h1, h2, h3, h4, h5, h6⟩
  · intro p e s m args below meth c s₁ B hml hP _
    have hh0 : s₁.heap = s.heap := by rw [B.state]; rfl
    have ht : ∀ x ∈ c.exceptionTable.toList, False := by
      obtain ⟨meth9, c9, h1, h2, -, -, -, -, h7, -⟩ := Cond.code_spec B.named (atoms_spec (ws := ws) B.pre _ (by rw [hw]; exact List.mem_cons_self))
      cases Option.some.inj (h1.symm.trans B.method)
      cases Option.some.inj (h2.symm.trans (Stand.of_body B).code)
      intro x hx
      rw [Array.isEmpty_iff.mp h7] at hx
      cases hx
    obtain ⟨t, a1, o, b1, b2, b3⟩ := body p e s m args below meth c s₁ B hml ht hP s₁ hh0 (Stand.of_body B)
    exact ⟨t, o, a1, b1, b2, b3⟩
/-- the table of a body with handlers -/
theorem vx_table {p : Program} {x y : MethodName} {S : Spec} {cc bytes : ByteArray} {maxL maxL' : Nat} {ret ret' : Option FieldType} {e : Env} {s s₁ : State} {m : MethodId} {args : Array Value} {below : List Frame} {meth : Method} {c : Code} {hh : List (Nat × Nat × Nat × Nat)}
    (B : BodyLoose p l y S cc maxL ret e s m args below meth c s₁) (h : (Cond.codeWith y bytes maxL' ret' hh).before args s = true) : c.exceptionTable.toList = tableOf hh := by
  obtain ⟨m9, meth9, c9, hn9, h1, h2, -, -, h6, -⟩ := Cond.codeWith_spec h
  cases Option.some.inj (hn9.symm.trans B.named)
  cases Option.some.inj (h1.symm.trans B.method)
  cases Option.some.inj (h2.symm.trans (Stand.of_body B).code)
  rw [← h6, table_eq]
end Bodies
end VXA
/-! ===== END ===== -/
/-! ===== BEGIN a static call of a method with an exception table ===== -/
section VXS
variable {p : Program} {l : Launch} {e : Env} {R : Room} {s : State} {m : MethodId} {args : Array Value} {below : List Frame} {meth : Method} {c : Code} {T : State} {H : Heap} {locs : List Loc} {cells slots : Nat}
abbrev vx_CSW (R : Room) (s : State) (args : Array Value) (own : String) (index : Nat) (y : MethodName) (bytes : ByteArray) (maxL : Nat) (ret : Option FieldType) (hh : List (Nat × Nat × Nat × Nat)) (ws : List Cond) (rm : Room) (mc ms n : Nat) : Prop :=
  (rm.cells = mc ∧ rm.slots = ms ∧ rm.frames + 1 ≤ R.frames ∧ 8 + (maxL + 11) + rm.locals ≤ R.locals ∧ (∀ w ∈ ws, ∀ (a' : Array Value) (U : State), s.WarmedH U.vm → w.before a' U = true) ∧ Cond.codeWith y bytes maxL ret hh ∈ ws) ∧
  (Cond.codeWith y bytes maxL ret hh).before args s = true ∧ (Cond.initialized y.cls).before args s = true ∧ (y.cls ≠ "java/lang/invoke/MethodHandle" ∧ y.cls ≠ "java/lang/invoke/VarHandle") ∧
  (∀ sig, parseMethodDescriptor y.desc = some sig → n = sig.parameters.length) ∧ (Cond.methodLink own index y).before args s = true ∧ (Cond.static y).before args s = true
theorem vx_cwSW {own : String} {index maxL mc ms : Nat} {y : MethodName} {bytes : ByteArray} {ret : Option FieldType} {hh : List (Nat × Nat × Nat × Nat)} {Ts ws ws' : List Cond} {rm : Room} (n : Nat) (ht : ∀ w ∈ Ts, w.before args s = true) (hT : GoodIn Ts (va_wsS own index y ws)) (hw : ws = Cond.codeWith y bytes maxL ret hh :: ws') (hrc : rm.cells = mc) (hrs : rm.slots = ms)
    (hd : y.cls ≠ "java/lang/invoke/MethodHandle" ∧ y.cls ≠ "java/lang/invoke/VarHandle" ∧ (parseMethodDescriptor y.desc).map (fun d => d.parameters.length) = some n) (hR : rm.frames + 1 ≤ R.frames ∧ 8 + (maxL + 11) + rm.locals ≤ R.locals) :
    vx_CSW R s args own index y bytes maxL ret hh ws rm mc ms n := by
  have ok : ∀ w ∈ va_wsS own index y ws, w.before args s = true := fun w h => ht w (hT w h).1
  have hG : GoodIn Ts ws := fun w h => hT w (by unfold va_wsS; exact List.mem_append_right _ h)
  have hc : Cond.codeWith y bytes maxL ret hh ∈ ws := by rw [hw]; exact List.mem_cons_self
  refine ⟨⟨hrc, hrs, hR.1, hR.2, pay_in ht hG, hc⟩, ht _ (hG _ hc).1, ok _ (by simp [va_wsS]), ⟨hd.1, hd.2.1⟩, fun sig h => ?_, ok _ (by simp [va_wsS]), ok _ (by simp [va_wsS])⟩
  have h2 := hd.2.2
  rw [h] at h2
  exact (Option.some.inj h2).symm
theorem vx_callSW (X : Stand p l e R s m args below meth c T locs cells slots) (hexec : p.tables.exec = Jvm.exec) {own : String} {index : Nat} {y : MethodName} {bytes : ByteArray} {maxL : Nat} {ret : Option FieldType} {hh : List (Nat × Nat × Nat × Nat)}
    (hown : s.vm.findClass own = some m.cls) (hlink : (Cond.methodLink own index y).before args s = true) (hstat : (Cond.static y).before args s = true) (hinit : (Cond.initialized y.cls).before args s = true)
    (hcode : (Cond.codeWith y bytes maxL ret hh).before args s = true) (hy : y.cls ≠ "java/lang/invoke/MethodHandle" ∧ y.cls ≠ "java/lang/invoke/VarHandle")
    {W9 : Nat} {Pre : Pt → Array Value → Prop} {Post : Pt → Array Value → Option Value → Pt → Prop} (hK : Back l R p e below s args y 3 W9 Pre Post)
    {g : JFrame} (hg : g.method = m) (hsize : g.locals.size = c.maxLocals) {argsL rest : List Value} (hlen : ∀ sig, parseMethodDescriptor y.desc = some sig → argsL.length = sig.parameters.length)
    (hstack : g.stack = argsL.reverse ++ rest) (hW : 2 * g.monitorRoom + (rest.map fun v => v.category).sum ≤ W9) (hdg : decode c.code g.pc = .ok (.invokestatic index, 3))
    (hpre : ∀ vm₁, s.WarmedH vm₁ → Pre ⟨T.setVm vm₁, locs, cells, slots⟩ argsL.toArray) :
    ∃ (v : Option Value) (vm₁ : Vm) (B : Pt), s.WarmedH vm₁ ∧ Stand p l e R s m args below meth c B.U B.locs B.cells B.slots ∧ Post ⟨T.setVm vm₁, locs, cells, slots⟩ argsL.toArray v B ∧
      ∀ target, Steps p.tables e below (B.U.setTop { g with pc := g.pc + 3, stack := v.toList ++ rest }) target → Steps p.tables e below (T.setTop g) target := by
  obtain ⟨mk, methM, cM, hnamed, hmethM, -, -, -, -, -, -, hsigM⟩ := Cond.codeWith_spec hcode
  have hstatic : methM.isStatic = true := Cond.static_spec hnamed hmethM hstat
  obtain ⟨kP, hkP, -⟩ := className_of_methodNamed hnamed
  have hinitP : kP.init = .initialized := Cond.initialized_spec (findClass_of_methodNamed hnamed) hkP hinit
  obtain ⟨vm₁, X₁, hstep₁⟩ := X.invokestatic hexec hown hlink hnamed hmethM hstatic hkP hinitP hy (g := g) hg (argsL := argsL) (rest := rest) (hlen _ hsigM) hstack hdg
  obtain ⟨v, B, X', hpost, hsteps⟩ := hK m meth c ⟨T.setVm vm₁, locs, cells, slots⟩ { g with stack := rest } (.invokestatic index) mk argsL.toArray X₁ hg hsize hdg hW (X₁.named hnamed) (hpre vm₁ X₁.warmed)
  exact ⟨v, vm₁, B, X₁.warmed, X', hpost, fun target h => hstep₁ _ fun acts => by rw [doInvoke_state]; exact hsteps.trans h⟩
theorem vx_runSW {y : MethodName} {bytes cc : ByteArray} {maxL nL mc ms n index : Nat} {ret : Option FieldType} {hh : List (Nat × Nat × Nat × Nat)} {ws : List Cond} {rm : Room} {Pc : Array Value → State → Prop} {Qc : Array Value → State → Outcome → State → Prop} {free : Addr → Prop} {Ts : List Cond} {own : String} {As rest : List Value} {g : JFrame}
    (S : CallFix p m c cc nL s args Ts own) (hM : Met l y ws rm Pc Qc mc ms free) (cw : vx_CSW R s args own index y bytes maxL ret hh ws rm mc ms n) (hp : PreS s H Pc As)
    (hg : g.method = m) (hn : As.length = n) (hsize : g.locals.size = nL) (hstack : g.stack = As.reverse ++ rest) (hW : 2 * g.monitorRoom + (rest.map fun v => v.category).sum ≤ 8) (hdg : decode cc g.pc = .ok (.invokestatic index, 3)) (hf : cells + mc ≤ R.cells ∧ slots + ms ≤ R.slots) :
    va_Run p l e R s m args below meth c H locs cells slots mc ms g rest (Qc As.toArray) (free) := by
  obtain ⟨⟨hrc, hrs, hfr, hlo, hws, hcw⟩, hcode, hini, hy, hlen, hl, hstt⟩ := cw
  have hK : Back l R p e below s args y 3 8 (PreOf R mc ms Pc) (PostOf Qc mc ms free) := va_backW (hh := hh) (bytes := bytes) (maxL := maxL) (ret := ret) hM hp.1 hrc hrs hfr hlo hws hcw (fun a' U hW => word_at hW (Or.inl (by first | rfl | simp [Cond.onTables, Cond.keeps, Cond.steady])) hini)
  obtain ⟨hx, hb, hml, ho, -⟩ := S
  intro T hT X
  obtain ⟨v, vm₁, ⟨U', l2, c2, s2⟩, hW₁, X', ⟨g', mk, t, L, e1, e2, hq, h1, hL, h2, h3⟩, st⟩ := vx_callSW X hx (hh := hh) (bytes := bytes) (maxL := maxL) (ret := ret) ho hl hstt hini hcode hy hK hg (hsize.trans hml.symm) (argsL := As) (rest := rest) (fun sig h => hn.trans (hlen sig h)) hstack hW (by rw [hb]; exact hdg)
    (fun vm₁ hW₁ => ⟨hf.1, hf.2, hp.2 (T.setVm vm₁) hT hW₁⟩)
  dsimp only [Pt.U, Pt.locs, Pt.cells, Pt.slots] at X' e1 e2 h1 h2 h3 st
  subst h1; subst h2; subst h3
  exact ⟨v, (T.setVm vm₁).calling g' mk As.toArray, t, U', L, hT, X', hL, e1, e2, hq, st⟩
/-- a thing of a world lies in the heap -/
theorem vx_lt {D : va_G} {cl : List vw_C} {ws : va_W} {H1 : Heap} (h : va_P D cl ws H1) {k : Nat} {q : Nat × va_E} (hk : ws[k]? = some q) : q.1 < H1.size := (h k q hk).lt
end VXS
/-! ===== END ===== -/
/-! ===== BEGIN methods with a table of their own: called by a name, returning or throwing ===== -/
section VXH
/-! vx_backW, vx_callVX, vx_callSX, vx_callVW, vx_runVW, vx_runVX, vx_runSX, vx_ofWH follow the same proofs as their sisters above (Free/Laws.lean, Shelf42/LK1.lean); vx_outP calls Shelf42/NT130.lean (outThrough). -/
section
variable {l : Launch} {R : Room} {p : Program} {e : Env} {below : List Frame} {s : State} {sargs : Array Value} {y : MethodName} {len W9 : Nat}
theorem vx_backW {ws : List Cond} {rm : Room} {Pc : Array Value → State → Prop} {Qc : Array Value → State → Outcome → State → Prop} {XC : String → State → State → Prop} {mc ms : Nat} {free : Addr → Prop} {bytes : ByteArray} {maxL : Nat} {ret : Option FieldType} {hh : List (Nat × Nat × Nat × Nat)}
    (hM : vx_Met l y ws rm Pc Qc XC mc ms free) (hblind : FrameBlind Pc) (hrc : rm.cells = mc) (hrs : rm.slots = ms)
    (hframes : rm.frames + 1 ≤ R.frames) (hlocals : W9 + (maxL + 11) + rm.locals ≤ R.locals)
    (hws : ∀ w ∈ ws, ∀ a' U, s.WarmedH U.vm → w.before a' U = true) (hcode : Cond.codeWith y bytes maxL ret hh ∈ ws) (hinit : ∀ a' U, s.WarmedH U.vm → (Cond.initialized y.cls).before a' U = true) :
    vx_Back l R p e below s sargs y len W9 (PreOf R mc ms Pc) (PostOf Qc mc ms free) (vx_Post XC mc ms free) := by
  intro m meth c A g ig mk a X hg hsize hdg hW hn hp
  have h1 : (headSpec ws rm).pre.before a A.U = true := atoms_intro fun w hw => hws w hw _ _ X.warmed
  have h2 : (Cond.codeWith y bytes maxL ret hh).before a A.U = true := hws _ hcode _ _ X.warmed
  have h3 : (Cond.initialized y.cls).before a A.U = true := hinit _ _ X.warmed
  have h4 : A.cells + (headSpec ws rm).room.cells ≤ R.cells := by rw [show (headSpec ws rm).room.cells = mc from hrc]; exact hp.1
  have h5 : A.slots + (headSpec ws rm).room.slots ≤ R.slots := by rw [show (headSpec ws rm).room.slots = ms from hrs]; exact hp.2.1
  have hPc : Pc a (A.U.calling g mk a) := hblind _ _ _ _ hp.2.2
  obtain ⟨U, Ls, c0, s0⟩ := A
  dsimp only [Pt.U, Pt.locs, Pt.cells, Pt.slots] at h1 h2 h3 h4 h5 X hn hPc ⊢
  obtain ⟨m9, methY, cY, hn9, hmY, hcY, -, hlY, -⟩ := Cond.codeWith_spec h2
  cases Option.some.inj (hn9.symm.trans hn)
  obtain ⟨kY, hkY, -⟩ := className_of_methodNamed hn
  have hinitY : kY.init = .initialized := Cond.initialized_spec (findClass_of_methodNamed hn) hkY h3
  have h : At U g.method c below := by rw [hg]; exact X.here
  have hlocals9 : W9 + (maxL + 11) + (headSpec ws rm).room.locals ≤ R.locals := hlocals
  have happ : (headSpec ws rm).appliesLoose y e.platform (U.calling g mk a) = true :=
    Spec.appliesLoose_calling (g := g) h hdg hn hkY hinitY
      (X.room_calling (g := g) (R' := (headSpec ws rm).room) hsize hmY hcY hframes (by rw [hlY]; omega) h4 h5) h1
  obtain ⟨mid, hmid⟩ := h.above
  have hfr : (U.setTop g).frames = (.java g :: mid) ++ below := by rw [State.frames_setTop' g h.top, hmid]; rfl
  obtain ⟨o, s₂, hsteps, -, hend, hq⟩ := Steps.callFree hM p X.admits X.cas X.clock (acts := []) hfr happ hPc trivial
  have hq' : vx_Q Qc XC mc ms free a (U.calling g mk a) o s₂ := hq
  rw [State.frames_setTop' g h.top] at hend
  obtain ⟨g₀, hg0⟩ := Option.isSome_iff_exists.mp h.top
  obtain ⟨r, hr⟩ := State.topJava?_eq_some.mp hg0
  have hr' : (({ U with heap := s₂.heap, slotsUsed := s₂.slotsUsed } : State).setVm s₂.vm).frames = .java g₀ :: r := hr
  rcases hq' with ⟨hqc, L, hfe, hL⟩ | ⟨q, rfl, E, ce, L, hx, hce, hcv, hcl, hW₂, hsm, hL⟩
  · obtain ⟨⟨v, rfl⟩, hW₂, e2, q2, q3, q4, q5, q6⟩ := id hfe
    have e3 : s₂ = ({ (U.calling g mk a).setFrames s₂.frames with heap := s₂.heap, slotsUsed := s₂.slotsUsed } : State).setVm s₂.vm := by
      have : s₂ = ({ s₂ with vm := (U.calling g mk a).vm } : State).setVm s₂.vm := rfl
      rw [e2] at this
      exact this
    obtain ⟨c₂, i₂, len₂, hc₂, hd₂, hf₂⟩ := hend
    have hW' : U.WarmedH s₂.vm := hW₂
    have hcc : c₂ = c := by
      have h1 : s₂.code? g.method = U.code? g.method := by
        rw [State.code?_eq, State.code?_eq, hW'.alike.method?]
      exact Option.some.inj (hc₂.symm.trans (h1.trans h.code))
    subst hcc
    have hlen : len₂ = len := by rw [hdg] at hd₂; cases hd₂; rfl
    subst hlen
    have hs₂ : s₂ = (({ U with heap := s₂.heap, slotsUsed := s₂.slotsUsed } : State).setVm s₂.vm).setTop { g with pc := g.pc + len₂, stack := v.toList ++ g.stack } := by
      refine e3.trans ?_
      rw [hf₂, State.calling_eq h.top, State.setFrames_setFrames, State.setTop_of_frames _ hr', hr]
      rfl
    have hsame : U.sameButNew ({ U with heap := s₂.heap, slotsUsed := s₂.slotsUsed } : State) L mc ms := by
      refine ⟨?_, q2, q3, q4, q5, q6⟩
      obtain ⟨t, ht, -⟩ := State.frames_cons hr
      show ({ U with heap := s₂.heap, slotsUsed := s₂.slotsUsed } : State) = { U.setFrames U.frames with heap := s₂.heap, slotsUsed := s₂.slotsUsed }
      rw [State.setFrames_self ht]
    subst hg
    refine Or.inl ⟨v, ⟨(({ U with heap := s₂.heap, slotsUsed := s₂.slotsUsed } : State).setVm s₂.vm), Ls ++ L, c0 + mc, s0 + ms⟩,
      ⟨X.admits, X.cas, X.clock, X.frames, X.room, X.hears, X.method, X.code, (X.here.setHeapUsed s₂.heap s₂.slotsUsed).setVm hW'.alike, X.tail, State.WarmedH.trans X.warmed hW', X.limits, X.bytes, X.same.trans (hsame.setVm s.vm)⟩,
      ⟨g, mk, s₂, L, rfl, rfl, hqc, rfl, hL, rfl, rfl⟩, ?_⟩
    show Steps p.tables e below _ ((({ U with heap := s₂.heap, slotsUsed := s₂.slotsUsed } : State).setVm s₂.vm).setTop { g with pc := g.pc + len₂, stack := v.toList ++ g.stack })
    rw [← hs₂]
    exact hsteps
  · obtain ⟨e2, q2, q3, q4, q5, q6⟩ := id hsm
    have e3 : s₂ = ({ (U.calling g mk a).setFrames s₂.frames with heap := s₂.heap, slotsUsed := s₂.slotsUsed } : State).setVm s₂.vm := by
      have : s₂ = ({ s₂ with vm := (U.calling g mk a).vm } : State).setVm s₂.vm := rfl
      rw [e2] at this
      exact this
    have hf₂ : s₂.frames = .throwing q :: .java g :: U.frames.tail := hend
    have hW' : U.WarmedH s₂.vm := hW₂
    have hs₂ : s₂ = ((({ U with heap := s₂.heap, slotsUsed := s₂.slotsUsed } : State).setVm s₂.vm).setTop g).pushFrame (.throwing q) := by
      refine e3.trans ?_
      rw [hf₂, State.calling_eq h.top, State.setFrames_setFrames, State.pushFrame, State.frames_setTop _ hr', State.setTop_of_frames _ hr', State.setFrames_setFrames, hr]
      rfl
    have hsame : U.sameButNew ({ U with heap := s₂.heap, slotsUsed := s₂.slotsUsed } : State) L mc ms := by
      refine ⟨?_, q2, q3, q4, q5, q6⟩
      obtain ⟨t, ht, -⟩ := State.frames_cons hr
      show ({ U with heap := s₂.heap, slotsUsed := s₂.slotsUsed } : State) = { U.setFrames U.frames with heap := s₂.heap, slotsUsed := s₂.slotsUsed }
      rw [State.setFrames_self ht]
    subst hg
    refine Or.inr ⟨q, ⟨(({ U with heap := s₂.heap, slotsUsed := s₂.slotsUsed } : State).setVm s₂.vm), Ls ++ L, c0 + mc, s0 + ms⟩,
      ⟨X.admits, X.cas, X.clock, X.frames, X.room, X.hears, X.method, X.code, (X.here.setHeapUsed s₂.heap s₂.slotsUsed).setVm hW'.alike, X.tail, State.WarmedH.trans X.warmed hW', X.limits, X.bytes, X.same.trans (hsame.setVm s.vm)⟩,
      ⟨g, mk, s₂, L, E, ce, rfl, rfl, hx, hce, hcv, hcl, rfl, hL, rfl, rfl⟩, ?_⟩
    show Steps p.tables e below _ (((({ U with heap := s₂.heap, slotsUsed := s₂.slotsUsed } : State).setVm s₂.vm).setTop g).pushFrame (.throwing q))
    rw [← hs₂]
    exact hsteps
end
variable {p : Program} {l : Launch} {e : Env} {R : Room} {s : State} {m : MethodId} {args : Array Value} {below : List Frame} {meth : Method} {c : Code} {T : State} {H : Heap} {locs : List Loc} {cells slots : Nat}
theorem vx_callVX (X : Stand p l e R s m args below meth c T locs cells slots) (hexec : p.tables.exec = Jvm.exec) {own C : String} {index : Nat} {y : MethodName} {bytes : ByteArray} {maxL : Nat} {ret : Option FieldType} {hh : List (Nat × Nat × Nat × Nat)}
    (hown : s.vm.findClass own = some m.cls) (hlink : (Cond.methodLink own index y).before args s = true) (hinst : (Cond.instanceMethod y).before args s = true) (hsel : (Cond.selects C y y).before args s = true)
    (hcode : (Cond.codeWith y bytes maxL ret hh).before args s = true) (hy : y.cls ≠ "java/lang/invoke/MethodHandle" ∧ y.cls ≠ "java/lang/invoke/VarHandle")
    {W9 : Nat} {Pre : Pt → Array Value → Prop} {Post : Pt → Array Value → Option Value → Pt → Prop} {PostX : Pt → Array Value → Addr → Pt → Prop} (hK : vx_Back l R p e below s args y 3 W9 Pre Post PostX)
    {b : Addr} {cellB : Cell} (hcell : T.heap[b]? = some cellB) (hobj : cellB.vm.isStatics = false) (hcls : s.vm.findClass C = some cellB.cls)
    {g : JFrame} (hg : g.method = m) (hsize : g.locals.size = c.maxLocals) {argsL rest : List Value} (hlen : ∀ sig, parseMethodDescriptor y.desc = some sig → argsL.length = sig.parameters.length)
    (hstack : g.stack = argsL.reverse ++ .ref b :: rest) (hW : 2 * g.monitorRoom + (rest.map fun v => v.category).sum ≤ W9) (hdg : decode c.code g.pc = .ok (.invokevirtual index, 3))
    (hpre : ∀ vm₁, s.WarmedH vm₁ → Pre ⟨T.setVm vm₁, locs, cells, slots⟩ (Value.ref b :: argsL).toArray) :
    (∃ (v : Option Value) (vm₁ : Vm) (B : Pt), s.WarmedH vm₁ ∧ Stand p l e R s m args below meth c B.U B.locs B.cells B.slots ∧ Post ⟨T.setVm vm₁, locs, cells, slots⟩ (Value.ref b :: argsL).toArray v B ∧
      ∀ target, Steps p.tables e below (B.U.setTop { g with pc := g.pc + 3, stack := v.toList ++ rest }) target → Steps p.tables e below (T.setTop g) target) ∨
    (∃ (q : Addr) (vm₁ : Vm) (B : Pt), s.WarmedH vm₁ ∧ Stand p l e R s m args below meth c B.U B.locs B.cells B.slots ∧ PostX ⟨T.setVm vm₁, locs, cells, slots⟩ (Value.ref b :: argsL).toArray q B ∧
      Steps p.tables e below (T.setTop g) ((B.U.setTop { g with stack := rest }).pushFrame (.throwing q))) := by
  obtain ⟨mk, methM, hnamed, hmethM, hstM, habM⟩ := Cond.instanceMethod_spec hinst
  obtain ⟨m8, methM', cM, hn8, hmethM', -, -, -, -, -, -, hsigM⟩ := Cond.codeWith_spec hcode
  cases Option.some.inj (hn8.symm.trans hnamed)
  cases hmethM.symm.trans hmethM'
  obtain ⟨c2, r2, m2, q1, q2, q3, q4, kP, hkP, hkPi⟩ := Cond.selects_spec hsel
  cases hcls.symm.trans q1
  cases (State.methodFound?_of_named hnamed hy).symm.trans q2
  cases hnamed.symm.trans q3
  have hselP : selectMethod e.platform s.vm cellB.cls mk = .method mk := by rw [Launch.admits_selectMethod X.admits]; exact q4
  obtain ⟨vm₁, X₁, hstep₁⟩ := X.invokevirtual hexec hown hlink hnamed hmethM hstM hkP hkPi hy (a := b) (cell := cellB) hcell
    (fun z h => by rw [h] at hobj; cases hobj) hselP hmethM habM hkP hkPi (g := g) hg (argsL := argsL) (rest := rest) (hlen _ hsigM) hstack hdg
  rcases hK m meth c ⟨T.setVm vm₁, locs, cells, slots⟩ { g with stack := rest } (.invokevirtual index) mk (Value.ref b :: argsL).toArray X₁ hg hsize hdg hW (X₁.named hnamed) (hpre vm₁ X₁.warmed) with ⟨v, B, X', hpost, hsteps⟩ | ⟨q, B, X', hpost, hsteps⟩
  · exact Or.inl ⟨v, vm₁, B, X₁.warmed, X', hpost, fun target h => hstep₁ _ fun acts => by rw [doInvoke_state]; exact hsteps.trans h⟩
  · exact Or.inr ⟨q, vm₁, B, X₁.warmed, X', hpost, hstep₁ _ fun acts => by rw [doInvoke_state]; exact hsteps⟩
theorem vx_callSX (X : Stand p l e R s m args below meth c T locs cells slots) (hexec : p.tables.exec = Jvm.exec) {own : String} {index : Nat} {y : MethodName} {bytes : ByteArray} {maxL : Nat} {ret : Option FieldType} {hh : List (Nat × Nat × Nat × Nat)}
    (hown : s.vm.findClass own = some m.cls) (hlink : (Cond.methodLink own index y).before args s = true) (hstat : (Cond.static y).before args s = true) (hinit : (Cond.initialized y.cls).before args s = true)
    (hcode : (Cond.codeWith y bytes maxL ret hh).before args s = true) (hy : y.cls ≠ "java/lang/invoke/MethodHandle" ∧ y.cls ≠ "java/lang/invoke/VarHandle")
    {W9 : Nat} {Pre : Pt → Array Value → Prop} {Post : Pt → Array Value → Option Value → Pt → Prop} {PostX : Pt → Array Value → Addr → Pt → Prop} (hK : vx_Back l R p e below s args y 3 W9 Pre Post PostX)
    {g : JFrame} (hg : g.method = m) (hsize : g.locals.size = c.maxLocals) {argsL rest : List Value} (hlen : ∀ sig, parseMethodDescriptor y.desc = some sig → argsL.length = sig.parameters.length)
    (hstack : g.stack = argsL.reverse ++ rest) (hW : 2 * g.monitorRoom + (rest.map fun v => v.category).sum ≤ W9) (hdg : decode c.code g.pc = .ok (.invokestatic index, 3))
    (hpre : ∀ vm₁, s.WarmedH vm₁ → Pre ⟨T.setVm vm₁, locs, cells, slots⟩ argsL.toArray) :
    (∃ (v : Option Value) (vm₁ : Vm) (B : Pt), s.WarmedH vm₁ ∧ Stand p l e R s m args below meth c B.U B.locs B.cells B.slots ∧ Post ⟨T.setVm vm₁, locs, cells, slots⟩ argsL.toArray v B ∧
      ∀ target, Steps p.tables e below (B.U.setTop { g with pc := g.pc + 3, stack := v.toList ++ rest }) target → Steps p.tables e below (T.setTop g) target) ∨
    (∃ (q : Addr) (vm₁ : Vm) (B : Pt), s.WarmedH vm₁ ∧ Stand p l e R s m args below meth c B.U B.locs B.cells B.slots ∧ PostX ⟨T.setVm vm₁, locs, cells, slots⟩ argsL.toArray q B ∧
      Steps p.tables e below (T.setTop g) ((B.U.setTop { g with stack := rest }).pushFrame (.throwing q))) := by
  obtain ⟨mk, methM, cM, hnamed, hmethM, -, -, -, -, -, -, hsigM⟩ := Cond.codeWith_spec hcode
  have hstatic : methM.isStatic = true := Cond.static_spec hnamed hmethM hstat
  obtain ⟨kP, hkP, -⟩ := className_of_methodNamed hnamed
  have hinitP : kP.init = .initialized := Cond.initialized_spec (findClass_of_methodNamed hnamed) hkP hinit
  obtain ⟨vm₁, X₁, hstep₁⟩ := X.invokestatic hexec hown hlink hnamed hmethM hstatic hkP hinitP hy (g := g) hg (argsL := argsL) (rest := rest) (hlen _ hsigM) hstack hdg
  rcases hK m meth c ⟨T.setVm vm₁, locs, cells, slots⟩ { g with stack := rest } (.invokestatic index) mk argsL.toArray X₁ hg hsize hdg hW (X₁.named hnamed) (hpre vm₁ X₁.warmed) with ⟨v, B, X', hpost, hsteps⟩ | ⟨q, B, X', hpost, hsteps⟩
  · exact Or.inl ⟨v, vm₁, B, X₁.warmed, X', hpost, fun target h => hstep₁ _ fun acts => by rw [doInvoke_state]; exact hsteps.trans h⟩
  · exact Or.inr ⟨q, vm₁, B, X₁.warmed, X', hpost, hstep₁ _ fun acts => by rw [doInvoke_state]; exact hsteps⟩
theorem vx_callVW (X : Stand p l e R s m args below meth c T locs cells slots) (hexec : p.tables.exec = Jvm.exec) {own C : String} {index : Nat} {y : MethodName} {bytes : ByteArray} {maxL : Nat} {ret : Option FieldType} {hh : List (Nat × Nat × Nat × Nat)}
    (hown : s.vm.findClass own = some m.cls) (hlink : (Cond.methodLink own index y).before args s = true) (hinst : (Cond.instanceMethod y).before args s = true) (hsel : (Cond.selects C y y).before args s = true)
    (hcode : (Cond.codeWith y bytes maxL ret hh).before args s = true) (hy : y.cls ≠ "java/lang/invoke/MethodHandle" ∧ y.cls ≠ "java/lang/invoke/VarHandle")
    {W9 : Nat} {Pre : Pt → Array Value → Prop} {Post : Pt → Array Value → Option Value → Pt → Prop} (hK : Back l R p e below s args y 3 W9 Pre Post)
    {b : Addr} {cellB : Cell} (hcell : T.heap[b]? = some cellB) (hobj : cellB.vm.isStatics = false) (hcls : s.vm.findClass C = some cellB.cls)
    {g : JFrame} (hg : g.method = m) (hsize : g.locals.size = c.maxLocals) {argsL rest : List Value} (hlen : ∀ sig, parseMethodDescriptor y.desc = some sig → argsL.length = sig.parameters.length)
    (hstack : g.stack = argsL.reverse ++ .ref b :: rest) (hW : 2 * g.monitorRoom + (rest.map fun v => v.category).sum ≤ W9) (hdg : decode c.code g.pc = .ok (.invokevirtual index, 3))
    (hpre : ∀ vm₁, s.WarmedH vm₁ → Pre ⟨T.setVm vm₁, locs, cells, slots⟩ (Value.ref b :: argsL).toArray) :
    ∃ (v : Option Value) (vm₁ : Vm) (B : Pt), s.WarmedH vm₁ ∧ Stand p l e R s m args below meth c B.U B.locs B.cells B.slots ∧ Post ⟨T.setVm vm₁, locs, cells, slots⟩ (Value.ref b :: argsL).toArray v B ∧
      ∀ target, Steps p.tables e below (B.U.setTop { g with pc := g.pc + 3, stack := v.toList ++ rest }) target → Steps p.tables e below (T.setTop g) target := by
  obtain ⟨mk, methM, hnamed, hmethM, hstM, habM⟩ := Cond.instanceMethod_spec hinst
  obtain ⟨m8, methM', cM, hn8, hmethM', -, -, -, -, -, -, hsigM⟩ := Cond.codeWith_spec hcode
  cases Option.some.inj (hn8.symm.trans hnamed)
  cases hmethM.symm.trans hmethM'
  obtain ⟨c2, r2, m2, q1, q2, q3, q4, kP, hkP, hkPi⟩ := Cond.selects_spec hsel
  cases hcls.symm.trans q1
  cases (State.methodFound?_of_named hnamed hy).symm.trans q2
  cases hnamed.symm.trans q3
  have hselP : selectMethod e.platform s.vm cellB.cls mk = .method mk := by rw [Launch.admits_selectMethod X.admits]; exact q4
  obtain ⟨vm₁, X₁, hstep₁⟩ := X.invokevirtual hexec hown hlink hnamed hmethM hstM hkP hkPi hy (a := b) (cell := cellB) hcell
    (fun z h => by rw [h] at hobj; cases hobj) hselP hmethM habM hkP hkPi (g := g) hg (argsL := argsL) (rest := rest) (hlen _ hsigM) hstack hdg
  obtain ⟨v, B, X', hpost, hsteps⟩ := hK m meth c ⟨T.setVm vm₁, locs, cells, slots⟩ { g with stack := rest } (.invokevirtual index) mk (Value.ref b :: argsL).toArray X₁ hg hsize hdg hW (X₁.named hnamed) (hpre vm₁ X₁.warmed)
  exact ⟨v, vm₁, B, X₁.warmed, X', hpost, fun target h => hstep₁ _ fun acts => by rw [doInvoke_state]; exact hsteps.trans h⟩
abbrev vx_CVW (R : Room) (s : State) (args : Array Value) (own C : String) (index : Nat) (y : MethodName) (bytes : ByteArray) (maxL : Nat) (ret : Option FieldType) (hh : List (Nat × Nat × Nat × Nat)) (ws : List Cond) (rm : Room) (mc ms n : Nat) : Prop :=
  (rm.cells = mc ∧ rm.slots = ms ∧ rm.frames + 1 ≤ R.frames ∧ 8 + (maxL + 11) + rm.locals ≤ R.locals ∧ (∀ w ∈ ws, ∀ (a' : Array Value) (U : State), s.WarmedH U.vm → w.before a' U = true) ∧ Cond.codeWith y bytes maxL ret hh ∈ ws) ∧
  (Cond.codeWith y bytes maxL ret hh).before args s = true ∧ (Cond.initialized y.cls).before args s = true ∧ (y.cls ≠ "java/lang/invoke/MethodHandle" ∧ y.cls ≠ "java/lang/invoke/VarHandle") ∧
  (∀ sig, parseMethodDescriptor y.desc = some sig → n = sig.parameters.length) ∧ (Cond.methodLink own index y).before args s = true ∧ (Cond.instanceMethod y).before args s = true ∧ (Cond.selects C y y).before args s = true
theorem vx_cwVW {own C : String} {index maxL mc ms : Nat} {y : MethodName} {bytes : ByteArray} {ret : Option FieldType} {hh : List (Nat × Nat × Nat × Nat)} {Ts ws ws' : List Cond} {rm : Room} (n : Nat) (ht : ∀ w ∈ Ts, w.before args s = true) (hT : GoodIn Ts (wsV own index C y ws)) (hw : ws = Cond.codeWith y bytes maxL ret hh :: ws') (hrc : rm.cells = mc) (hrs : rm.slots = ms)
    (hd : y.cls = C ∧ y.cls ≠ "java/lang/invoke/MethodHandle" ∧ y.cls ≠ "java/lang/invoke/VarHandle" ∧ (parseMethodDescriptor y.desc).map (fun d => d.parameters.length) = some n) (hR : rm.frames + 1 ≤ R.frames ∧ 8 + (maxL + 11) + rm.locals ≤ R.locals) :
    vx_CVW R s args own C index y bytes maxL ret hh ws rm mc ms n := by
  obtain ⟨hC, hd⟩ := hd
  subst hC
  have ok : ∀ w ∈ wsV own index y.cls y ws, w.before args s = true := fun w h => ht w (hT w h).1
  have hG : GoodIn Ts ws := fun w h => hT w (by unfold wsV; exact List.mem_append_right _ h)
  have hc : Cond.codeWith y bytes maxL ret hh ∈ ws := by rw [hw]; exact List.mem_cons_self
  refine ⟨⟨hrc, hrs, hR.1, hR.2, pay_in ht hG, hc⟩, ht _ (hG _ hc).1, ok _ (by simp [wsV]), ⟨hd.1, hd.2.1⟩, fun sig h => ?_, ok _ (by simp [wsV]), ok _ (by simp [wsV]), ok _ (by simp [wsV])⟩
  have h2 := hd.2.2
  rw [h] at h2
  exact (Option.some.inj h2).symm
theorem vx_runVW {y : MethodName} {bytes cc : ByteArray} {maxL nL mc ms n index : Nat} {ret : Option FieldType} {hh : List (Nat × Nat × Nat × Nat)} {ws : List Cond} {rm : Room} {Pc : Array Value → State → Prop} {Qc : Array Value → State → Outcome → State → Prop} {free : Addr → Prop} {Ts : List Cond} {own C : String} {b : Addr} {As rest : List Value} {g : JFrame}
    (S : CallFix p m c cc nL s args Ts own) (hM : Met l y ws rm Pc Qc mc ms free) (cw : vx_CVW R s args own C index y bytes maxL ret hh ws rm mc ms n) (hp : PreV s H C b Pc As)
    (hg : g.method = m) (hn : As.length = n) (hsize : g.locals.size = nL) (hstack : g.stack = As.reverse ++ .ref b :: rest) (hW : 2 * g.monitorRoom + (rest.map fun v => v.category).sum ≤ 8) (hdg : decode cc g.pc = .ok (.invokevirtual index, 3)) (hf : cells + mc ≤ R.cells ∧ slots + ms ≤ R.slots) :
    va_Run p l e R s m args below meth c H locs cells slots mc ms g rest (Qc (Value.ref b :: As).toArray) free := by
  obtain ⟨⟨hrc, hrs, hfr, hlo, hws, hcw⟩, hcode, hini, hy, hlen, hl, hin, hse⟩ := cw
  have hK : Back l R p e below s args y 3 8 (PreOf R mc ms Pc) (PostOf Qc mc ms free) := va_backW (hh := hh) (bytes := bytes) (maxL := maxL) (ret := ret) hM hp.1 hrc hrs hfr hlo hws hcw (fun a' U hW => word_at hW (Or.inl (by first | rfl | simp [Cond.onTables, Cond.keeps, Cond.steady])) hini)
  obtain ⟨hx, hb, hml, ho, -⟩ := S
  obtain ⟨-, ⟨cellB, hcB, hoB, hclB⟩, hPc⟩ := hp
  intro T hT X
  obtain ⟨v, vm₁, ⟨U', l2, c2, s2⟩, hW₁, X', ⟨g', mk, t, L, e1, e2, hq, h1, hL, h2, h3⟩, st⟩ := vx_callVW X hx (C := C) (hh := hh) (bytes := bytes) (maxL := maxL) (ret := ret) ho hl hin hse hcode hy hK (by rw [hT]; exact hcB) hoB hclB hg (hsize.trans hml.symm) (argsL := As) (rest := rest) (fun sig h => hn.trans (hlen sig h)) hstack hW (by rw [hb]; exact hdg)
    (fun vm₁ hW₁ => ⟨hf.1, hf.2, hPc (T.setVm vm₁) hT hW₁⟩)
  dsimp only [Pt.U, Pt.locs, Pt.cells, Pt.slots] at X' e1 e2 h1 h2 h3 st
  subst h1; subst h2; subst h3
  exact ⟨v, (T.setVm vm₁).calling g' mk (Value.ref b :: As).toArray, t, U', L, hT, X', hL, e1, e2, hq, st⟩
section
variable {y : MethodName} {bytes cc : ByteArray} {maxL nL mc ms n index : Nat} {ret : Option FieldType} {ws : List Cond} {rm : Room} {Pc : Array Value → State → Prop} {Qc : Array Value → State → Outcome → State → Prop} {XC : String → State → State → Prop} {free : Addr → Prop} {Ts : List Cond} {own C : String} {b : Addr} {As rest : List Value} {g : JFrame}
theorem vx_runVX {hh : List (Nat × Nat × Nat × Nat)} (S : CallFix p m c cc nL s args Ts own) (hM : vx_Met l y ws rm Pc Qc XC mc ms free) (cw : vx_CVW R s args own C index y bytes maxL ret hh ws rm mc ms n) (hp : PreV s H C b Pc As)
    (hg : g.method = m) (hn : As.length = n) (hsize : g.locals.size = nL) (hstack : g.stack = As.reverse ++ .ref b :: rest) (hW : 2 * g.monitorRoom + (rest.map fun v => v.category).sum ≤ 8) (hdg : decode cc g.pc = .ok (.invokevirtual index, 3)) (hf : cells + mc ≤ R.cells ∧ slots + ms ≤ R.slots) :
    vx_Run p l e R s m args below meth c H locs cells slots mc ms g rest (Qc (Value.ref b :: As).toArray) XC free := by
  obtain ⟨⟨hrc, hrs, hfr, hlo, hws, hcw⟩, hcode, hini, hy, hlen, hl, hin, hse⟩ := cw
  have hK : vx_Back l R p e below s args y 3 8 (PreOf R mc ms Pc) (PostOf Qc mc ms free) (vx_Post XC mc ms free) := vx_backW (hh := hh) (bytes := bytes) (maxL := maxL) (ret := ret) hM hp.1 hrc hrs hfr hlo hws hcw (fun a' U hW => word_at hW (Or.inl (by first | rfl | simp [Cond.onTables, Cond.keeps, Cond.steady])) hini)
  obtain ⟨hx, hb, hml, ho, -⟩ := S
  obtain ⟨-, ⟨cellB, hcB, hoB, hclB⟩, hPc⟩ := hp
  intro T hT X
  rcases vx_callVX X hx (C := C) (hh := hh) (bytes := bytes) (maxL := maxL) (ret := ret) ho hl hin hse hcode hy hK (by rw [hT]; exact hcB) hoB hclB hg (hsize.trans hml.symm) (argsL := As) (rest := rest) (fun sig h => hn.trans (hlen sig h)) hstack hW (by rw [hb]; exact hdg)
    (fun vm₁ hW₁ => ⟨hf.1, hf.2, hPc (T.setVm vm₁) hT hW₁⟩) with ⟨v, vm₁, ⟨U', l2, c2, s2⟩, hW₁, X', ⟨g', mk, t, L, e1, e2, hq, h1, hL, h2, h3⟩, st⟩ | ⟨q, vm₁, ⟨U', l2, c2, s2⟩, hW₁, X', ⟨g', mk, t, L, E, ce, e1, e2, hq, hce, hcv, hcl, h1, hL, h2, h3⟩, st⟩
  · dsimp only [Pt.U, Pt.locs, Pt.cells, Pt.slots] at X' e1 e2 h1 h2 h3 st
    subst h1; subst h2; subst h3
    exact Or.inl ⟨v, (T.setVm vm₁).calling g' mk (Value.ref b :: As).toArray, t, U', L, hT, X', hL, e1, e2, hq, st⟩
  · dsimp only [Pt.U, Pt.locs, Pt.cells, Pt.slots] at X' e1 e2 h1 h2 h3 st hcl
    subst h1; subst h2; subst h3
    exact Or.inr ⟨q, (T.setVm vm₁).calling g' mk (Value.ref b :: As).toArray, t, U', L, E, ce, hT, X', hL, e1, e2, hq, hce, hcv, vx_cls hW₁ hcl, st⟩
theorem vx_runSX {hh : List (Nat × Nat × Nat × Nat)} (S : CallFix p m c cc nL s args Ts own) (hM : vx_Met l y ws rm Pc Qc XC mc ms free) (cw : vx_CSW R s args own index y bytes maxL ret hh ws rm mc ms n) (hp : PreS s H Pc As)
    (hg : g.method = m) (hn : As.length = n) (hsize : g.locals.size = nL) (hstack : g.stack = As.reverse ++ rest) (hW : 2 * g.monitorRoom + (rest.map fun v => v.category).sum ≤ 8) (hdg : decode cc g.pc = .ok (.invokestatic index, 3)) (hf : cells + mc ≤ R.cells ∧ slots + ms ≤ R.slots) :
    vx_Run p l e R s m args below meth c H locs cells slots mc ms g rest (Qc As.toArray) XC free := by
  obtain ⟨⟨hrc, hrs, hfr, hlo, hws, hcw⟩, hcode, hini, hy, hlen, hl, hstt⟩ := cw
  have hK : vx_Back l R p e below s args y 3 8 (PreOf R mc ms Pc) (PostOf Qc mc ms free) (vx_Post XC mc ms free) := vx_backW (hh := hh) (bytes := bytes) (maxL := maxL) (ret := ret) hM hp.1 hrc hrs hfr hlo hws hcw (fun a' U hW => word_at hW (Or.inl (by first | rfl | simp [Cond.onTables, Cond.keeps, Cond.steady])) hini)
  obtain ⟨hx, hb, hml, ho, -⟩ := S
  intro T hT X
  rcases vx_callSX X hx (hh := hh) (bytes := bytes) (maxL := maxL) (ret := ret) ho hl hstt hini hcode hy hK hg (hsize.trans hml.symm) (argsL := As) (rest := rest) (fun sig h => hn.trans (hlen sig h)) hstack hW (by rw [hb]; exact hdg)
    (fun vm₁ hW₁ => ⟨hf.1, hf.2, hp.2 (T.setVm vm₁) hT hW₁⟩) with ⟨v, vm₁, ⟨U', l2, c2, s2⟩, hW₁, X', ⟨g', mk, t, L, e1, e2, hq, h1, hL, h2, h3⟩, st⟩ | ⟨q, vm₁, ⟨U', l2, c2, s2⟩, hW₁, X', ⟨g', mk, t, L, E, ce, e1, e2, hq, hce, hcv, hcl, h1, hL, h2, h3⟩, st⟩
  · dsimp only [Pt.U, Pt.locs, Pt.cells, Pt.slots] at X' e1 e2 h1 h2 h3 st
    subst h1; subst h2; subst h3
    exact Or.inl ⟨v, (T.setVm vm₁).calling g' mk As.toArray, t, U', L, hT, X', hL, e1, e2, hq, st⟩
  · dsimp only [Pt.U, Pt.locs, Pt.cells, Pt.slots] at X' e1 e2 h1 h2 h3 st hcl
    subst h1; subst h2; subst h3
    exact Or.inr ⟨q, (T.setVm vm₁).calling g' mk As.toArray, t, U', L, E, ce, hT, X', hL, e1, e2, hq, hce, hcv, vx_cls hW₁ hcl, st⟩
end
end VXH
theorem vx_ofWH {l : Launch} {y : MethodName} {ws ws' : List Cond} {rm : Room} {Pc : Array Value → State → Prop} {Qc : Array Value → State → Outcome → State → Prop} {XC : String → State → State → Prop} {mc ms : Nat} {free : Addr → Prop} {cc : ByteArray} {maxL : Nat} {ret : Option FieldType} {hh : List (Nat × Nat × Nat × Nat)}
    (hy : plainName y.cls = true) (hw : ws = Cond.codeWith y cc maxL ret hh :: ws')
    (body : ∀ p e s m args below meth c s₁, BodyLoose p l y (headSpec ws rm) cc maxL ret e s m args below meth c s₁ → c.maxLocals = maxL → Pc args s →
      W p l e (headSpec ws rm).room s m args below meth c s.heap [] 0 0 (vx_MQ below Qc XC args s mc ms free) (entryFrame m args maxL)) : vx_Met l y ws rm Pc Qc XC mc ms free := by
  refine MetFree.of_bodyS (code := cc) (maxLocals := maxL) (ret := ret) hy ?_ ?_
  · intro args s m h hn
    obtain ⟨m9, meth, c, hn9, h1, h2, h3, h4, -, h5, h6, -⟩ := Cond.codeWith_spec (atoms_spec (ws := ws) h _ (by rw [hw]; exact List.mem_cons_self))
    cases hn.symm.trans hn9
    exact ⟨meth, c, h1, h2, h3, h4, h5, h6⟩
  · intro p e s m args below meth c s₁ B hml hP _
    have hh0 : s₁.heap = s.heap := by rw [B.state]; rfl
    obtain ⟨t, a1, o, b1, b2, b3⟩ := body p e s m args below meth c s₁ B hml hP s₁ hh0 (Stand.of_body B)
    exact ⟨t, o, a1, b1, b2, b3⟩
/-! ===== END ===== -/
end
section
def RX0 : String := "ClauseDesk$BoundSet"
def TX0 : u_T := fun k => match k with
  | 0 => ("ClauseDesk$BoundSet", "least", "[I", true)
  | _ => ("ClauseDesk$BoundSet", "together", "Z", false)
def tyX0 : Nat → FieldType := fun k => match k with
  | 0 => .array .int
  | _ => .boolean
theorem nmX0 : ∀ a, a < 2 → ∀ b, b < 2 → a ≠ b → (TX0 a).2.1 ≠ (TX0 b).2.1 := by decide +kernel
theorem tyX0_ok : ∀ k, k < 2 → parseFieldDescriptor (TX0 k).2.2.1 = some (tyX0 k) := by decide +kernel
abbrev cX0_init : ByteArray := prog_2_method_1_code
def yX0_init : MethodName := ⟨RX0, "<init>", "()V"⟩
abbrev cX0_clear : ByteArray := prog_2_method_2_code
def yX0_clear : MethodName := ⟨RX0, "clear", "()V"⟩
abbrev cX0_copyFrom : ByteArray := prog_2_method_3_code
def yX0_copyFrom : MethodName := ⟨RX0, "copyFrom", "(LClauseDesk$BoundSet;)V"⟩
abbrev cX0_leastOf : ByteArray := prog_2_method_4_code
def yX0_leastOf : MethodName := ⟨RX0, "leastOf", "(II)I"⟩
abbrev cX0_add : ByteArray := prog_2_method_5_code
def yX0_add : MethodName := ⟨RX0, "add", "(III)V"⟩
def RX1 : String := "ClauseDesk$Clause"
def TX1 : u_T := fun k => match k with
  | 0 => ("ClauseDesk$Clause", "head", "LClauseDesk$Literal;", true)
  | 1 => ("ClauseDesk$Clause", "body", "[LClauseDesk$Literal;", true)
  | 2 => ("ClauseDesk$Clause", "atoms", "I", false)
  | 3 => ("ClauseDesk$Clause", "own", "LClauseDesk$BoundSet;", true)
  | _ => ("ClauseDesk$Clause", "bounds", "I", false)
def tyX1 : Nat → FieldType := fun k => match k with
  | 0 => .object "ClauseDesk$Literal"
  | 1 => .array (.object "ClauseDesk$Literal")
  | 2 => .int
  | 3 => .object "ClauseDesk$BoundSet"
  | _ => .int
theorem nmX1 : ∀ a, a < 5 → ∀ b, b < 5 → a ≠ b → (TX1 a).2.1 ≠ (TX1 b).2.1 := by decide +kernel
theorem tyX1_ok : ∀ k, k < 5 → parseFieldDescriptor (TX1 k).2.2.1 = some (tyX1 k) := by decide +kernel
abbrev cX1_init : ByteArray := prog_3_method_1_code
def yX1_init : MethodName := ⟨RX1, "<init>", "()V"⟩
abbrev cX1_premise : ByteArray := prog_3_method_2_code
def yX1_premise : MethodName := ⟨RX1, "premise", "(II)I"⟩
def RX2 : String := "ClauseDesk$Literal"
def TX2 : u_T := fun k => match k with
  | 0 => ("ClauseDesk$Literal", "relation", "I", false)
  | 1 => ("ClauseDesk$Literal", "x", "I", false)
  | _ => ("ClauseDesk$Literal", "y", "I", false)
def tyX2 : Nat → FieldType := fun k => match k with
  | 0 => .int
  | 1 => .int
  | _ => .int
theorem nmX2 : ∀ a, a < 3 → ∀ b, b < 3 → a ≠ b → (TX2 a).2.1 ≠ (TX2 b).2.1 := by decide +kernel
theorem tyX2_ok : ∀ k, k < 3 → parseFieldDescriptor (TX2 k).2.2.1 = some (tyX2 k) := by decide +kernel
abbrev cX2_init : ByteArray := prog_4_method_1_code
def yX2_init : MethodName := ⟨RX2, "<init>", "()V"⟩
abbrev cX2_point : ByteArray := prog_4_method_2_code
def yX2_point : MethodName := ⟨RX2, "point", "(I)I"⟩
def RX3 : String := "ClauseDesk$Node"
def TX3 : u_T := fun k => match k with
  | 0 => ("ClauseDesk$Node", "rule", "I", false)
  | 1 => ("ClauseDesk$Node", "parent", "I", false)
  | 2 => ("ClauseDesk$Node", "atom", "I", false)
  | 3 => ("ClauseDesk$Node", "cube", "I", false)
  | _ => ("ClauseDesk$Node", "below", "LClauseDesk$BoundSet;", true)
def tyX3 : Nat → FieldType := fun k => match k with
  | 0 => .int
  | 1 => .int
  | 2 => .int
  | 3 => .int
  | _ => .object "ClauseDesk$BoundSet"
theorem nmX3 : ∀ a, a < 5 → ∀ b, b < 5 → a ≠ b → (TX3 a).2.1 ≠ (TX3 b).2.1 := by decide +kernel
theorem tyX3_ok : ∀ k, k < 5 → parseFieldDescriptor (TX3 k).2.2.1 = some (tyX3 k) := by decide +kernel
abbrev cX3_init : ByteArray := prog_5_method_1_code
def yX3_init : MethodName := ⟨RX3, "<init>", "()V"⟩
abbrev cX3_fill : ByteArray := prog_5_method_2_code
def yX3_fill : MethodName := ⟨RX3, "fill", "(IIII)V"⟩
def RX4 : String := "ClauseDesk$Relation"
def TX4 : u_T := fun k => match k with
  | 0 => ("ClauseDesk$Relation", "places", "I", false)
  | 1 => ("ClauseDesk$Relation", "marks", "I", false)
  | 2 => ("ClauseDesk$Relation", "markFirst", "[I", true)
  | 3 => ("ClauseDesk$Relation", "markSecond", "[I", true)
  | 4 => ("ClauseDesk$Relation", "markLimit", "[I", true)
  | 5 => ("ClauseDesk$Relation", "height", "[I", true)
  | 6 => ("ClauseDesk$Relation", "reason", "[I", true)
  | 7 => ("ClauseDesk$Relation", "firstPremise", "[I", true)
  | _ => ("ClauseDesk$Relation", "secondPremise", "[I", true)
def tyX4 : Nat → FieldType := fun k => match k with
  | 0 => .int
  | 1 => .int
  | 2 => .array .int
  | 3 => .array .int
  | 4 => .array .int
  | 5 => .array .int
  | 6 => .array .int
  | 7 => .array .int
  | _ => .array .int
theorem nmX4 : ∀ a, a < 9 → ∀ b, b < 9 → a ≠ b → (TX4 a).2.1 ≠ (TX4 b).2.1 := by decide +kernel
theorem tyX4_ok : ∀ k, k < 9 → parseFieldDescriptor (TX4 k).2.2.1 = some (tyX4 k) := by decide +kernel
abbrev cX4_init : ByteArray := prog_6_method_1_code
def yX4_init : MethodName := ⟨RX4, "<init>", "()V"⟩
abbrev cX4_cubes : ByteArray := prog_6_method_2_code
def yX4_cubes : MethodName := ⟨RX4, "cubes", "()I"⟩
abbrev cX4_areTwoCorners : ByteArray := prog_6_method_3_code
def yX4_areTwoCorners : MethodName := ⟨RX4, "areTwoCorners", "(II)Z"⟩
abbrev cX4_isCorner : ByteArray := prog_6_method_4_code
def yX4_isCorner : MethodName := ⟨RX4, "isCorner", "(I)Z"⟩
abbrev cX4_canMark : ByteArray := prog_6_method_5_code
def yX4_canMark : MethodName := ⟨RX4, "canMark", "(III)Z"⟩
abbrev cX4_hasMark : ByteArray := prog_6_method_6_code
def yX4_hasMark : MethodName := ⟨RX4, "hasMark", "(III)Z"⟩
abbrev cX4_addMark : ByteArray := prog_6_method_7_code
def yX4_addMark : MethodName := ⟨RX4, "addMark", "(III)V"⟩
abbrev cX4_forgetStates : ByteArray := prog_6_method_8_code
def yX4_forgetStates : MethodName := ⟨RX4, "forgetStates", "()V"⟩
abbrev cX4_restrict : ByteArray := prog_6_method_9_code
def yX4_restrict : MethodName := ⟨RX4, "restrict", "(LClauseDesk$BoundSet;III)V"⟩
def RX5 : String := "ClauseDesk$Tree"
def TX5 : u_T := fun k => match k with
  | 0 => ("ClauseDesk$Tree", "nodes", "[LClauseDesk$Node;", true)
  | 1 => ("ClauseDesk$Tree", "size", "I", false)
  | 2 => ("ClauseDesk$Tree", "waitingParent", "[I", true)
  | 3 => ("ClauseDesk$Tree", "waitingAtom", "[I", true)
  | 4 => ("ClauseDesk$Tree", "waitingCube", "[I", true)
  | _ => ("ClauseDesk$Tree", "waiting", "I", false)
def tyX5 : Nat → FieldType := fun k => match k with
  | 0 => .array (.object "ClauseDesk$Node")
  | 1 => .int
  | 2 => .array .int
  | 3 => .array .int
  | 4 => .array .int
  | _ => .int
theorem nmX5 : ∀ a, a < 6 → ∀ b, b < 6 → a ≠ b → (TX5 a).2.1 ≠ (TX5 b).2.1 := by decide +kernel
theorem tyX5_ok : ∀ k, k < 6 → parseFieldDescriptor (TX5 k).2.2.1 = some (tyX5 k) := by decide +kernel
abbrev cX5_init : ByteArray := prog_7_method_1_code
def yX5_init : MethodName := ⟨RX5, "<init>", "()V"⟩
abbrev cX5_number : ByteArray := prog_7_method_2_code
def yX5_number : MethodName := ⟨RX5, "number", "(LClauseDesk$Clause;II)V"⟩
abbrev cX5_postpone : ByteArray := prog_7_method_3_code
def yX5_postpone : MethodName := ⟨RX5, "postpone", "(III)V"⟩
def RX6 : String := "ClauseDesk"
def TX6 : u_T := fun k => match k with
  | 0 => ("ClauseDesk", "relations", "[LClauseDesk$Relation;", true)
  | 1 => ("ClauseDesk", "relationCount", "I", false)
  | 2 => ("ClauseDesk", "clauses", "[LClauseDesk$Clause;", true)
  | 3 => ("ClauseDesk", "clauseCount", "I", false)
  | 4 => ("ClauseDesk", "rounds", "I", false)
  | 5 => ("ClauseDesk", "verdict", "I", false)
  | 6 => ("ClauseDesk", "alarm", "I", false)
  | 7 => ("ClauseDesk", "tree", "LClauseDesk$Tree;", true)
  | 8 => ("ClauseDesk", "refinings", "I", false)
  | 9 => ("ClauseDesk", "withFirst", "LClauseDesk$BoundSet;", true)
  | 10 => ("ClauseDesk", "withBoth", "LClauseDesk$BoundSet;", true)
  | _ => ("ClauseDesk", "withHead", "LClauseDesk$BoundSet;", true)
def tyX6 : Nat → FieldType := fun k => match k with
  | 0 => .array (.object "ClauseDesk$Relation")
  | 1 => .int
  | 2 => .array (.object "ClauseDesk$Clause")
  | 3 => .int
  | 4 => .int
  | 5 => .int
  | 6 => .int
  | 7 => .object "ClauseDesk$Tree"
  | 8 => .int
  | 9 => .object "ClauseDesk$BoundSet"
  | 10 => .object "ClauseDesk$BoundSet"
  | _ => .object "ClauseDesk$BoundSet"
theorem nmX6 : ∀ a, a < 12 → ∀ b, b < 12 → a ≠ b → (TX6 a).2.1 ≠ (TX6 b).2.1 := by decide +kernel
theorem tyX6_ok : ∀ k, k < 12 → parseFieldDescriptor (TX6 k).2.2.1 = some (tyX6 k) := by decide +kernel
abbrev cX6_init : ByteArray := prog_1_method_1_code
def yX6_init : MethodName := ⟨RX6, "<init>", "()V"⟩
abbrev cX6_relation : ByteArray := prog_1_method_2_code
def yX6_relation : MethodName := ⟨RX6, "relation", "(I)I"⟩
abbrev cX6_mark : ByteArray := prog_1_method_3_code
def yX6_mark : MethodName := ⟨RX6, "mark", "(IIII)I"⟩
abbrev cX6_clause : ByteArray := prog_1_method_4_code
def yX6_clause : MethodName := ⟨RX6, "clause", "(III)I"⟩
abbrev cX6_atom : ByteArray := prog_1_method_5_code
def yX6_atom : MethodName := ⟨RX6, "atom", "(III)I"⟩
abbrev cX6_bound : ByteArray := prog_1_method_6_code
def yX6_bound : MethodName := ⟨RX6, "bound", "(III)I"⟩
abbrev cX6_round : ByteArray := prog_1_method_7_code
def yX6_round : MethodName := ⟨RX6, "round", "()I"⟩
abbrev cX6_refine : ByteArray := prog_1_method_8_code
def yX6_refine : MethodName := ⟨RX6, "refine", "()I"⟩
abbrev cX6_verify : ByteArray := prog_1_method_9_code
def yX6_verify : MethodName := ⟨RX6, "verify", "(I)I"⟩
abbrev cX6_start : ByteArray := prog_1_method_10_code
def yX6_start : MethodName := ⟨RX6, "start", "()V"⟩
abbrev cX6_check : ByteArray := prog_1_method_11_code
def yX6_check : MethodName := ⟨RX6, "check", "()I"⟩
abbrev cX6_follows : ByteArray := prog_1_method_12_code
def yX6_follows : MethodName := ⟨RX6, "follows", "(III)I"⟩
abbrev cX6_state : ByteArray := prog_1_method_13_code
def yX6_state : MethodName := ⟨RX6, "state", "(I)I"⟩
abbrev cX6_shown : ByteArray := prog_1_method_14_code
def yX6_shown : MethodName := ⟨RX6, "shown", "(III)I"⟩
abbrev cX6_cube : ByteArray := prog_1_method_15_code
def yX6_cube : MethodName := ⟨RX6, "cube", "(III)I"⟩
abbrev cX6_node : ByteArray := prog_1_method_16_code
def yX6_node : MethodName := ⟨RX6, "node", "(II)I"⟩
abbrev cX6_isRelation : ByteArray := prog_1_method_17_code
def yX6_isRelation : MethodName := ⟨RX6, "isRelation", "(I)Z"⟩
abbrev cX6_isLiteral : ByteArray := prog_1_method_18_code
def yX6_isLiteral : MethodName := ⟨RX6, "isLiteral", "(III)Z"⟩
abbrev cX6_isVariable : ByteArray := prog_1_method_19_code
def yX6_isVariable : MethodName := ⟨RX6, "isVariable", "(I)Z"⟩
abbrev cX6_areTwoPoints : ByteArray := prog_1_method_20_code
def yX6_areTwoPoints : MethodName := ⟨RX6, "areTwoPoints", "(II)Z"⟩
abbrev cX6_isLimit : ByteArray := prog_1_method_21_code
def yX6_isLimit : MethodName := ⟨RX6, "isLimit", "(I)Z"⟩
abbrev cX6_pointAt : ByteArray := prog_1_method_22_code
def yX6_pointAt : MethodName := ⟨RX6, "pointAt", "(III)I"⟩
abbrev cX6_fill : ByteArray := prog_1_method_23_code
def yX6_fill : MethodName := ⟨RX6, "fill", "(LClauseDesk$Literal;III)V"⟩
abbrev cX6_startAfresh : ByteArray := prog_1_method_24_code
def yX6_startAfresh : MethodName := ⟨RX6, "startAfresh", "()V"⟩
abbrev cX6_makeRound : ByteArray := prog_1_method_25_code
def yX6_makeRound : MethodName := ⟨RX6, "makeRound", "()I"⟩
abbrev cX6_raiseAlarm : ByteArray := prog_1_method_26_code
def yX6_raiseAlarm : MethodName := ⟨RX6, "raiseAlarm", "()Z"⟩
abbrev cX6_reachBy : ByteArray := prog_1_method_27_code
def yX6_reachBy : MethodName := ⟨RX6, "reachBy", "(I)I"⟩
abbrev cX6_reachCubes : ByteArray := prog_1_method_28_code
def yX6_reachCubes : MethodName := ⟨RX6, "reachCubes", "(II)I"⟩
abbrev cX6_isObeyed : ByteArray := prog_1_method_29_code
def yX6_isObeyed : MethodName := ⟨RX6, "isObeyed", "(LClauseDesk$Clause;)Z"⟩
abbrev cX6_isAnyMissing : ByteArray := prog_1_method_30_code
def yX6_isAnyMissing : MethodName := ⟨RX6, "isAnyMissing", "(LClauseDesk$Literal;)Z"⟩
abbrev cX6_isMissing : ByteArray := prog_1_method_31_code
def yX6_isMissing : MethodName := ⟨RX6, "isMissing", "(LClauseDesk$Literal;I)Z"⟩
abbrev cX6_nextPremises : ByteArray := prog_1_method_32_code
def yX6_nextPremises : MethodName := ⟨RX6, "nextPremises", "(LClauseDesk$Clause;I)I"⟩
abbrev cX6_choices : ByteArray := prog_1_method_33_code
def yX6_choices : MethodName := ⟨RX6, "choices", "(LClauseDesk$Clause;I)I"⟩
abbrev cX6_lay : ByteArray := prog_1_method_34_code
def yX6_lay : MethodName := ⟨RX6, "lay", "(LClauseDesk$BoundSet;LClauseDesk$BoundSet;LClauseDesk$Clause;II)Z"⟩
abbrev cX6_growTree : ByteArray := prog_1_method_35_code
def yX6_growTree : MethodName := ⟨RX6, "growTree", "(I)V"⟩
abbrev cX6_growChild : ByteArray := prog_1_method_36_code
def yX6_growChild : MethodName := ⟨RX6, "growChild", "(III)V"⟩
abbrev cX6_refineAlarm : ByteArray := prog_1_method_37_code
def yX6_refineAlarm : MethodName := ⟨RX6, "refineAlarm", "()I"⟩
abbrev cX6_closeTree : ByteArray := prog_1_method_38_code
def yX6_closeTree : MethodName := ⟨RX6, "closeTree", "()V"⟩
abbrev cX6_handUp : ByteArray := prog_1_method_39_code
def yX6_handUp : MethodName := ⟨RX6, "handUp", "(LClauseDesk$Node;)V"⟩
abbrev cX6_markBy : ByteArray := prog_1_method_40_code
def yX6_markBy : MethodName := ⟨RX6, "markBy", "(LClauseDesk$Node;)I"⟩
def RX7 : String := "ClauseDeskModel"
def TX7 : u_T := fun k => match k with
  | 0 => ("ClauseDeskModel", "code", "I", false)
  | 1 => ("ClauseDeskModel", "relations", "I", false)
  | 2 => ("ClauseDeskModel", "places", "[I", true)
  | 3 => ("ClauseDeskModel", "marks", "[I", true)
  | 4 => ("ClauseDeskModel", "markFirst", "[I", true)
  | 5 => ("ClauseDeskModel", "markSecond", "[I", true)
  | 6 => ("ClauseDeskModel", "markCost", "[I", true)
  | 7 => ("ClauseDeskModel", "clauses", "I", false)
  | 8 => ("ClauseDeskModel", "head", "[I", true)
  | 9 => ("ClauseDeskModel", "headVariables", "[I", true)
  | 10 => ("ClauseDeskModel", "atoms", "[I", true)
  | 11 => ("ClauseDeskModel", "atomOf", "[I", true)
  | 12 => ("ClauseDeskModel", "atomVariables", "[I", true)
  | 13 => ("ClauseDeskModel", "bounds", "[I", true)
  | 14 => ("ClauseDeskModel", "boundFirst", "[I", true)
  | 15 => ("ClauseDeskModel", "boundSecond", "[I", true)
  | 16 => ("ClauseDeskModel", "boundCost", "[I", true)
  | 17 => ("ClauseDeskModel", "height", "[I", true)
  | 18 => ("ClauseDeskModel", "reason", "[I", true)
  | 19 => ("ClauseDeskModel", "premises", "[I", true)
  | 20 => ("ClauseDeskModel", "rounds", "I", false)
  | 21 => ("ClauseDeskModel", "alarm", "I", false)
  | 22 => ("ClauseDeskModel", "alarmPremises", "[I", true)
  | 23 => ("ClauseDeskModel", "verdict", "I", false)
  | 24 => ("ClauseDeskModel", "refined", "I", false)
  | 25 => ("ClauseDeskModel", "steps", "I", false)
  | 26 => ("ClauseDeskModel", "from", "[I", true)
  | 27 => ("ClauseDeskModel", "to", "[I", true)
  | 28 => ("ClauseDeskModel", "cost", "[I", true)
  | 29 => ("ClauseDeskModel", "way", "[I", true)
  | 30 => ("ClauseDeskModel", "nodes", "I", false)
  | 31 => ("ClauseDeskModel", "clauseAt", "[I", true)
  | 32 => ("ClauseDeskModel", "parent", "[I", true)
  | 33 => ("ClauseDeskModel", "which", "[I", true)
  | 34 => ("ClauseDeskModel", "cubeAt", "[I", true)
  | 35 => ("ClauseDeskModel", "endAt", "[I", true)
  | 36 => ("ClauseDeskModel", "waiting", "[I", true)
  | 37 => ("ClauseDeskModel", "one", "I", false)
  | _ => ("ClauseDeskModel", "two", "I", false)
def tyX7 : Nat → FieldType := fun k => match k with
  | 0 => .int
  | 1 => .int
  | 2 => .array .int
  | 3 => .array .int
  | 4 => .array .int
  | 5 => .array .int
  | 6 => .array .int
  | 7 => .int
  | 8 => .array .int
  | 9 => .array .int
  | 10 => .array .int
  | 11 => .array .int
  | 12 => .array .int
  | 13 => .array .int
  | 14 => .array .int
  | 15 => .array .int
  | 16 => .array .int
  | 17 => .array .int
  | 18 => .array .int
  | 19 => .array .int
  | 20 => .int
  | 21 => .int
  | 22 => .array .int
  | 23 => .int
  | 24 => .int
  | 25 => .int
  | 26 => .array .int
  | 27 => .array .int
  | 28 => .array .int
  | 29 => .array .int
  | 30 => .int
  | 31 => .array .int
  | 32 => .array .int
  | 33 => .array .int
  | 34 => .array .int
  | 35 => .array .int
  | 36 => .array .int
  | 37 => .int
  | _ => .int
theorem nmX7 : ∀ a, a < 39 → ∀ b, b < 39 → a ≠ b → (TX7 a).2.1 ≠ (TX7 b).2.1 := by decide +kernel
theorem tyX7_ok : ∀ k, k < 39 → parseFieldDescriptor (TX7 k).2.2.1 = some (tyX7 k) := by decide +kernel
abbrev cX7_init : ByteArray := prog_9_method_1_code
def yX7_init : MethodName := ⟨RX7, "<init>", "()V"⟩
abbrev cX7_thrown : ByteArray := prog_9_method_2_code
def yX7_thrown : MethodName := ⟨RX7, "thrown", "()I"⟩
abbrev cX7_fails : ByteArray := prog_9_method_3_code
def yX7_fails : MethodName := ⟨RX7, "fails", "(I)I"⟩
abbrev cX7_in : ByteArray := prog_9_method_4_code
def yX7_in : MethodName := ⟨RX7, "in", "(III)Z"⟩
abbrev cX7_isRelation : ByteArray := prog_9_method_5_code
def yX7_isRelation : MethodName := ⟨RX7, "isRelation", "(I)Z"⟩
abbrev cX7_add : ByteArray := prog_9_method_6_code
def yX7_add : MethodName := ⟨RX7, "add", "(III)V"⟩
abbrev cX7_settles : ByteArray := prog_9_method_7_code
def yX7_settles : MethodName := ⟨RX7, "settles", "(I)Z"⟩
abbrev cX7_holdsTogether : ByteArray := prog_9_method_8_code
def yX7_holdsTogether : MethodName := ⟨RX7, "holdsTogether", "(I)Z"⟩
abbrev cX7_least : ByteArray := prog_9_method_9_code
def yX7_least : MethodName := ⟨RX7, "least", "(III)I"⟩
abbrev cX7_addBounds : ByteArray := prog_9_method_10_code
def yX7_addBounds : MethodName := ⟨RX7, "addBounds", "(III)V"⟩
abbrev cX7_addCube : ByteArray := prog_9_method_11_code
def yX7_addCube : MethodName := ⟨RX7, "addCube", "(IIIII)V"⟩
abbrev cX7_fits : ByteArray := prog_9_method_12_code
def yX7_fits : MethodName := ⟨RX7, "fits", "(IIII)Z"⟩
abbrev cX7_cubesOf : ByteArray := prog_9_method_13_code
def yX7_cubesOf : MethodName := ⟨RX7, "cubesOf", "(I)I"⟩
abbrev cX7_isFound : ByteArray := prog_9_method_14_code
def yX7_isFound : MethodName := ⟨RX7, "isFound", "(II)Z"⟩
abbrev cX7_isBefore : ByteArray := prog_9_method_15_code
def yX7_isBefore : MethodName := ⟨RX7, "isBefore", "(II)Z"⟩
abbrev cX7_freshStart : ByteArray := prog_9_method_16_code
def yX7_freshStart : MethodName := ⟨RX7, "freshStart", "()V"⟩
abbrev cX7_made : ByteArray := prog_9_method_17_code
def yX7_made : MethodName := ⟨RX7, "made", "(I)I"⟩
abbrev cX7_relation : ByteArray := prog_9_method_18_code
def yX7_relation : MethodName := ⟨RX7, "relation", "(I)I"⟩
abbrev cX7_isPlace : ByteArray := prog_9_method_19_code
def yX7_isPlace : MethodName := ⟨RX7, "isPlace", "(II)Z"⟩
abbrev cX7_isMark : ByteArray := prog_9_method_20_code
def yX7_isMark : MethodName := ⟨RX7, "isMark", "(IIII)Z"⟩
abbrev cX7_keepMark : ByteArray := prog_9_method_21_code
def yX7_keepMark : MethodName := ⟨RX7, "keepMark", "(IIII)V"⟩
abbrev cX7_mark : ByteArray := prog_9_method_22_code
def yX7_mark : MethodName := ⟨RX7, "mark", "(IIII)I"⟩
abbrev cX7_areVariables : ByteArray := prog_9_method_23_code
def yX7_areVariables : MethodName := ⟨RX7, "areVariables", "(III)Z"⟩
abbrev cX7_clause : ByteArray := prog_9_method_24_code
def yX7_clause : MethodName := ⟨RX7, "clause", "(III)I"⟩
abbrev cX7_atom : ByteArray := prog_9_method_25_code
def yX7_atom : MethodName := ⟨RX7, "atom", "(III)I"⟩
abbrev cX7_bound : ByteArray := prog_9_method_26_code
def yX7_bound : MethodName := ⟨RX7, "bound", "(III)I"⟩
abbrev cX7_start : ByteArray := prog_9_method_27_code
def yX7_start : MethodName := ⟨RX7, "start", "()V"⟩
abbrev cX7_round : ByteArray := prog_9_method_28_code
def yX7_round : MethodName := ⟨RX7, "round", "()I"⟩
abbrev cX7_next : ByteArray := prog_9_method_29_code
def yX7_next : MethodName := ⟨RX7, "next", "()I"⟩
abbrev cX7_isReached : ByteArray := prog_9_method_30_code
def yX7_isReached : MethodName := ⟨RX7, "isReached", "(I)Z"⟩
abbrev cX7_grow : ByteArray := prog_9_method_31_code
def yX7_grow : MethodName := ⟨RX7, "grow", "()V"⟩
abbrev cX7_place : ByteArray := prog_9_method_32_code
def yX7_place : MethodName := ⟨RX7, "place", "(I)V"⟩
abbrev cX7_stateOf : ByteArray := prog_9_method_33_code
def yX7_stateOf : MethodName := ⟨RX7, "stateOf", "(I)I"⟩
abbrev cX7_gather : ByteArray := prog_9_method_34_code
def yX7_gather : MethodName := ⟨RX7, "gather", "(I)V"⟩
abbrev cX7_join : ByteArray := prog_9_method_35_code
def yX7_join : MethodName := ⟨RX7, "join", "(I)V"⟩
abbrev cX7_refine : ByteArray := prog_9_method_36_code
def yX7_refine : MethodName := ⟨RX7, "refine", "()I"⟩
abbrev cX7_improve : ByteArray := prog_9_method_37_code
def yX7_improve : MethodName := ⟨RX7, "improve", "()I"⟩
abbrev cX7_marksOf : ByteArray := prog_9_method_38_code
def yX7_marksOf : MethodName := ⟨RX7, "marksOf", "(I)I"⟩
abbrev cX7_verify : ByteArray := prog_9_method_39_code
def yX7_verify : MethodName := ⟨RX7, "verify", "(I)I"⟩
abbrev cX7_check : ByteArray := prog_9_method_40_code
def yX7_check : MethodName := ⟨RX7, "check", "()I"⟩
abbrev cX7_isBroken : ByteArray := prog_9_method_41_code
def yX7_isBroken : MethodName := ⟨RX7, "isBroken", "(I)Z"⟩
abbrev cX7_follows : ByteArray := prog_9_method_42_code
def yX7_follows : MethodName := ⟨RX7, "follows", "(III)I"⟩
abbrev cX7_state : ByteArray := prog_9_method_43_code
def yX7_state : MethodName := ⟨RX7, "state", "(I)I"⟩
abbrev cX7_shown : ByteArray := prog_9_method_44_code
def yX7_shown : MethodName := ⟨RX7, "shown", "(III)I"⟩
abbrev cX7_cube : ByteArray := prog_9_method_45_code
def yX7_cube : MethodName := ⟨RX7, "cube", "(III)I"⟩
abbrev cX7_node : ByteArray := prog_9_method_46_code
def yX7_node : MethodName := ⟨RX7, "node", "(II)I"⟩
def RL : String := "ClauseDeskLaw"
abbrev cL_relation : ByteArray := method_3_code
def yL_relation : MethodName := ⟨RL, "relation", "(LClauseDesk;I[J)I"⟩
abbrev cL_mark : ByteArray := method_4_code
def yL_mark : MethodName := ⟨RL, "mark", "(LClauseDesk;IIII[J)I"⟩
abbrev cL_clause : ByteArray := method_5_code
def yL_clause : MethodName := ⟨RL, "clause", "(LClauseDesk;III[J)I"⟩
abbrev cL_atom : ByteArray := method_6_code
def yL_atom : MethodName := ⟨RL, "atom", "(LClauseDesk;III[J)I"⟩
abbrev cL_bound : ByteArray := method_7_code
def yL_bound : MethodName := ⟨RL, "bound", "(LClauseDesk;III[J)I"⟩
abbrev cL_round : ByteArray := method_8_code
def yL_round : MethodName := ⟨RL, "round", "(LClauseDesk;[J)I"⟩
abbrev cL_refine : ByteArray := method_9_code
def yL_refine : MethodName := ⟨RL, "refine", "(LClauseDesk;[J)I"⟩
abbrev cL_verify : ByteArray := method_10_code
def yL_verify : MethodName := ⟨RL, "verify", "(LClauseDesk;I[J)I"⟩
abbrev cL_follows : ByteArray := method_11_code
def yL_follows : MethodName := ⟨RL, "follows", "(LClauseDesk;III[J)I"⟩
abbrev cL_shown : ByteArray := method_12_code
def yL_shown : MethodName := ⟨RL, "shown", "(LClauseDesk;III[J)I"⟩
abbrev cL_cube : ByteArray := method_13_code
def yL_cube : MethodName := ⟨RL, "cube", "(LClauseDesk;III[J)I"⟩
abbrev cL_node : ByteArray := method_14_code
def yL_node : MethodName := ⟨RL, "node", "(LClauseDesk;II[J)I"⟩
abbrev cL_law : ByteArray := code
def yL_law : MethodName := ⟨RL, "law", "([I)Z"⟩
abbrev vwCl : List vw_C := [(RX0, TX0, 2), (RX1, TX1, 5), (RX2, TX2, 3), (RX3, TX3, 5), (RX4, TX4, 9), (RX5, TX5, 6), (RX6, TX6, 12), (RX7, TX7, 39)]
end
section
theorem dX0_init_0 : decode cX0_init 0 = .ok (.aload_n 0, 1) := by decide +kernel
theorem dX0_init_1 : decode cX0_init 1 = .ok (.invokespecial 3, 3) := by decide +kernel
theorem dX0_init_4 : decode cX0_init 4 = .ok (.aload_n 0, 1) := by decide +kernel
theorem dX0_init_5 : decode cX0_init 5 = .ok (.bipush 36, 2) := by decide +kernel
theorem dX0_init_7 : decode cX0_init 7 = .ok (.newarray .int, 2) := by decide +kernel
theorem dX0_init_9 : decode cX0_init 9 = .ok (.putfield 9, 3) := by decide +kernel
theorem dX0_init_12 : decode cX0_init 12 = .ok (.aload_n 0, 1) := by decide +kernel
theorem dX0_init_13 : decode cX0_init 13 = .ok (.invokevirtual 15, 3) := by decide +kernel
theorem dX0_init_16 : decode cX0_init 16 = .ok (.return_, 1) := by decide +kernel
theorem dX0_clear_0 : decode cX0_clear 0 = .ok (.aload_n 0, 1) := by decide +kernel
theorem dX0_clear_1 : decode cX0_clear 1 = .ok (.iconst 1, 1) := by decide +kernel
theorem dX0_clear_2 : decode cX0_clear 2 = .ok (.putfield 18, 3) := by decide +kernel
theorem dX0_clear_5 : decode cX0_clear 5 = .ok (.iconst 0, 1) := by decide +kernel
theorem dX0_clear_6 : decode cX0_clear 6 = .ok (.istore_n 1, 1) := by decide +kernel
theorem dX0_clear_7 : decode cX0_clear 7 = .ok (.iload_n 1, 1) := by decide +kernel
theorem dX0_clear_8 : decode cX0_clear 8 = .ok (.bipush 36, 2) := by decide +kernel
theorem dX0_clear_10 : decode cX0_clear 10 = .ok (.if_icmp .ge 32, 3) := by decide +kernel
theorem dX0_clear_13 : decode cX0_clear 13 = .ok (.aload_n 0, 1) := by decide +kernel
theorem dX0_clear_14 : decode cX0_clear 14 = .ok (.getfield 9, 3) := by decide +kernel
theorem dX0_clear_17 : decode cX0_clear 17 = .ok (.iload_n 1, 1) := by decide +kernel
theorem dX0_clear_18 : decode cX0_clear 18 = .ok (.iload_n 1, 1) := by decide +kernel
theorem dX0_clear_19 : decode cX0_clear 19 = .ok (.bipush 6, 2) := by decide +kernel
theorem dX0_clear_21 : decode cX0_clear 21 = .ok (.idiv, 1) := by decide +kernel
theorem dX0_clear_22 : decode cX0_clear 22 = .ok (.iload_n 1, 1) := by decide +kernel
theorem dX0_clear_23 : decode cX0_clear 23 = .ok (.bipush 6, 2) := by decide +kernel
theorem dX0_clear_25 : decode cX0_clear 25 = .ok (.irem, 1) := by decide +kernel
theorem dX0_clear_26 : decode cX0_clear 26 = .ok (.if_icmp .ne 7, 3) := by decide +kernel
theorem dX0_clear_29 : decode cX0_clear 29 = .ok (.iconst 0, 1) := by decide +kernel
theorem dX0_clear_30 : decode cX0_clear 30 = .ok (.goto 5, 3) := by decide +kernel
theorem dX0_clear_33 : decode cX0_clear 33 = .ok (.ldc 22, 2) := by decide +kernel
theorem dX0_clear_35 : decode cX0_clear 35 = .ok (.iastore, 1) := by decide +kernel
theorem dX0_clear_36 : decode cX0_clear 36 = .ok (.iinc 1 1, 3) := by decide +kernel
theorem dX0_clear_39 : decode cX0_clear 39 = .ok (.goto (-32), 3) := by decide +kernel
theorem dX0_clear_42 : decode cX0_clear 42 = .ok (.return_, 1) := by decide +kernel
theorem dX0_copyFrom_0 : decode cX0_copyFrom 0 = .ok (.aload_n 0, 1) := by decide +kernel
theorem dX0_copyFrom_1 : decode cX0_copyFrom 1 = .ok (.aload_n 1, 1) := by decide +kernel
theorem dX0_copyFrom_2 : decode cX0_copyFrom 2 = .ok (.getfield 18, 3) := by decide +kernel
theorem dX0_copyFrom_5 : decode cX0_copyFrom 5 = .ok (.putfield 18, 3) := by decide +kernel
theorem dX0_copyFrom_8 : decode cX0_copyFrom 8 = .ok (.aload_n 1, 1) := by decide +kernel
theorem dX0_copyFrom_9 : decode cX0_copyFrom 9 = .ok (.getfield 9, 3) := by decide +kernel
theorem dX0_copyFrom_12 : decode cX0_copyFrom 12 = .ok (.iconst 0, 1) := by decide +kernel
theorem dX0_copyFrom_13 : decode cX0_copyFrom 13 = .ok (.aload_n 0, 1) := by decide +kernel
theorem dX0_copyFrom_14 : decode cX0_copyFrom 14 = .ok (.getfield 9, 3) := by decide +kernel
theorem dX0_copyFrom_17 : decode cX0_copyFrom 17 = .ok (.iconst 0, 1) := by decide +kernel
theorem dX0_copyFrom_18 : decode cX0_copyFrom 18 = .ok (.bipush 36, 2) := by decide +kernel
theorem dX0_copyFrom_20 : decode cX0_copyFrom 20 = .ok (.invokestatic 23, 3) := by decide +kernel
theorem dX0_copyFrom_23 : decode cX0_copyFrom 23 = .ok (.return_, 1) := by decide +kernel
theorem dX0_leastOf_0 : decode cX0_leastOf 0 = .ok (.aload_n 0, 1) := by decide +kernel
theorem dX0_leastOf_1 : decode cX0_leastOf 1 = .ok (.getfield 9, 3) := by decide +kernel
theorem dX0_leastOf_4 : decode cX0_leastOf 4 = .ok (.iload_n 1, 1) := by decide +kernel
theorem dX0_leastOf_5 : decode cX0_leastOf 5 = .ok (.bipush 6, 2) := by decide +kernel
theorem dX0_leastOf_7 : decode cX0_leastOf 7 = .ok (.imul, 1) := by decide +kernel
theorem dX0_leastOf_8 : decode cX0_leastOf 8 = .ok (.iload_n 2, 1) := by decide +kernel
theorem dX0_leastOf_9 : decode cX0_leastOf 9 = .ok (.iadd, 1) := by decide +kernel
theorem dX0_leastOf_10 : decode cX0_leastOf 10 = .ok (.iaload, 1) := by decide +kernel
theorem dX0_leastOf_11 : decode cX0_leastOf 11 = .ok (.ireturn, 1) := by decide +kernel
theorem dX0_add_0 : decode cX0_add 0 = .ok (.aload_n 0, 1) := by decide +kernel
theorem dX0_add_1 : decode cX0_add 1 = .ok (.getfield 18, 3) := by decide +kernel
theorem dX0_add_4 : decode cX0_add 4 = .ok (.ifCond .eq 18, 3) := by decide +kernel
theorem dX0_add_7 : decode cX0_add 7 = .ok (.iload_n 3, 1) := by decide +kernel
theorem dX0_add_8 : decode cX0_add 8 = .ok (.aload_n 0, 1) := by decide +kernel
theorem dX0_add_9 : decode cX0_add 9 = .ok (.getfield 9, 3) := by decide +kernel
theorem dX0_add_12 : decode cX0_add 12 = .ok (.iload_n 1, 1) := by decide +kernel
theorem dX0_add_13 : decode cX0_add 13 = .ok (.bipush 6, 2) := by decide +kernel
theorem dX0_add_15 : decode cX0_add 15 = .ok (.imul, 1) := by decide +kernel
theorem dX0_add_16 : decode cX0_add 16 = .ok (.iload_n 2, 1) := by decide +kernel
theorem dX0_add_17 : decode cX0_add 17 = .ok (.iadd, 1) := by decide +kernel
theorem dX0_add_18 : decode cX0_add 18 = .ok (.iaload, 1) := by decide +kernel
theorem dX0_add_19 : decode cX0_add 19 = .ok (.if_icmp .lt 4, 3) := by decide +kernel
theorem dX0_add_22 : decode cX0_add 22 = .ok (.return_, 1) := by decide +kernel
theorem dX0_add_23 : decode cX0_add 23 = .ok (.aload_n 0, 1) := by decide +kernel
theorem dX0_add_24 : decode cX0_add 24 = .ok (.getfield 9, 3) := by decide +kernel
theorem dX0_add_27 : decode cX0_add 27 = .ok (.iload_n 2, 1) := by decide +kernel
theorem dX0_add_28 : decode cX0_add 28 = .ok (.bipush 6, 2) := by decide +kernel
theorem dX0_add_30 : decode cX0_add 30 = .ok (.imul, 1) := by decide +kernel
theorem dX0_add_31 : decode cX0_add 31 = .ok (.iload_n 1, 1) := by decide +kernel
theorem dX0_add_32 : decode cX0_add 32 = .ok (.iadd, 1) := by decide +kernel
theorem dX0_add_33 : decode cX0_add 33 = .ok (.iaload, 1) := by decide +kernel
theorem dX0_add_34 : decode cX0_add 34 = .ok (.istore 4, 2) := by decide +kernel
theorem dX0_add_36 : decode cX0_add 36 = .ok (.iload 4, 2) := by decide +kernel
theorem dX0_add_38 : decode cX0_add 38 = .ok (.ldc 22, 2) := by decide +kernel
theorem dX0_add_40 : decode cX0_add 40 = .ok (.if_icmp .eq 16, 3) := by decide +kernel
theorem dX0_add_43 : decode cX0_add 43 = .ok (.iload 4, 2) := by decide +kernel
theorem dX0_add_45 : decode cX0_add 45 = .ok (.iload_n 3, 1) := by decide +kernel
theorem dX0_add_46 : decode cX0_add 46 = .ok (.iadd, 1) := by decide +kernel
theorem dX0_add_47 : decode cX0_add 47 = .ok (.ifCond .ge 9, 3) := by decide +kernel
theorem dX0_add_50 : decode cX0_add 50 = .ok (.aload_n 0, 1) := by decide +kernel
theorem dX0_add_51 : decode cX0_add 51 = .ok (.iconst 0, 1) := by decide +kernel
theorem dX0_add_52 : decode cX0_add 52 = .ok (.putfield 18, 3) := by decide +kernel
theorem dX0_add_55 : decode cX0_add 55 = .ok (.return_, 1) := by decide +kernel
theorem dX0_add_56 : decode cX0_add 56 = .ok (.iconst 0, 1) := by decide +kernel
theorem dX0_add_57 : decode cX0_add 57 = .ok (.istore 5, 2) := by decide +kernel
theorem dX0_add_59 : decode cX0_add 59 = .ok (.iload 5, 2) := by decide +kernel
theorem dX0_add_61 : decode cX0_add 61 = .ok (.bipush 36, 2) := by decide +kernel
theorem dX0_add_63 : decode cX0_add 63 = .ok (.if_icmp .ge 101, 3) := by decide +kernel
theorem dX0_add_66 : decode cX0_add 66 = .ok (.aload_n 0, 1) := by decide +kernel
theorem dX0_add_67 : decode cX0_add 67 = .ok (.getfield 9, 3) := by decide +kernel
theorem dX0_add_70 : decode cX0_add 70 = .ok (.iload 5, 2) := by decide +kernel
theorem dX0_add_72 : decode cX0_add 72 = .ok (.iload_n 1, 1) := by decide +kernel
theorem dX0_add_73 : decode cX0_add 73 = .ok (.iadd, 1) := by decide +kernel
theorem dX0_add_74 : decode cX0_add 74 = .ok (.iaload, 1) := by decide +kernel
theorem dX0_add_75 : decode cX0_add 75 = .ok (.istore 6, 2) := by decide +kernel
theorem dX0_add_77 : decode cX0_add 77 = .ok (.iconst 0, 1) := by decide +kernel
theorem dX0_add_78 : decode cX0_add 78 = .ok (.istore 7, 2) := by decide +kernel
theorem dX0_add_80 : decode cX0_add 80 = .ok (.iload 7, 2) := by decide +kernel
theorem dX0_add_82 : decode cX0_add 82 = .ok (.bipush 6, 2) := by decide +kernel
theorem dX0_add_84 : decode cX0_add 84 = .ok (.if_icmp .ge 74, 3) := by decide +kernel
theorem dX0_add_87 : decode cX0_add 87 = .ok (.iload 6, 2) := by decide +kernel
theorem dX0_add_89 : decode cX0_add 89 = .ok (.ldc 22, 2) := by decide +kernel
theorem dX0_add_91 : decode cX0_add 91 = .ok (.if_icmp .eq 67, 3) := by decide +kernel
theorem dX0_add_94 : decode cX0_add 94 = .ok (.aload_n 0, 1) := by decide +kernel
theorem dX0_add_95 : decode cX0_add 95 = .ok (.getfield 9, 3) := by decide +kernel
theorem dX0_add_98 : decode cX0_add 98 = .ok (.iload_n 2, 1) := by decide +kernel
theorem dX0_add_99 : decode cX0_add 99 = .ok (.bipush 6, 2) := by decide +kernel
theorem dX0_add_101 : decode cX0_add 101 = .ok (.imul, 1) := by decide +kernel
theorem dX0_add_102 : decode cX0_add 102 = .ok (.iload 7, 2) := by decide +kernel
theorem dX0_add_104 : decode cX0_add 104 = .ok (.iadd, 1) := by decide +kernel
theorem dX0_add_105 : decode cX0_add 105 = .ok (.iaload, 1) := by decide +kernel
theorem dX0_add_106 : decode cX0_add 106 = .ok (.istore 8, 2) := by decide +kernel
theorem dX0_add_108 : decode cX0_add 108 = .ok (.iload 8, 2) := by decide +kernel
theorem dX0_add_110 : decode cX0_add 110 = .ok (.ldc 22, 2) := by decide +kernel
theorem dX0_add_112 : decode cX0_add 112 = .ok (.if_icmp .eq 40, 3) := by decide +kernel
theorem dX0_add_115 : decode cX0_add 115 = .ok (.iload 6, 2) := by decide +kernel
theorem dX0_add_117 : decode cX0_add 117 = .ok (.iload_n 3, 1) := by decide +kernel
theorem dX0_add_118 : decode cX0_add 118 = .ok (.iadd, 1) := by decide +kernel
theorem dX0_add_119 : decode cX0_add 119 = .ok (.iload 8, 2) := by decide +kernel
theorem dX0_add_121 : decode cX0_add 121 = .ok (.iadd, 1) := by decide +kernel
theorem dX0_add_122 : decode cX0_add 122 = .ok (.aload_n 0, 1) := by decide +kernel
theorem dX0_add_123 : decode cX0_add 123 = .ok (.getfield 9, 3) := by decide +kernel
theorem dX0_add_126 : decode cX0_add 126 = .ok (.iload 5, 2) := by decide +kernel
theorem dX0_add_128 : decode cX0_add 128 = .ok (.iload 7, 2) := by decide +kernel
theorem dX0_add_130 : decode cX0_add 130 = .ok (.iadd, 1) := by decide +kernel
theorem dX0_add_131 : decode cX0_add 131 = .ok (.iaload, 1) := by decide +kernel
theorem dX0_add_132 : decode cX0_add 132 = .ok (.if_icmp .ge 20, 3) := by decide +kernel
theorem dX0_add_135 : decode cX0_add 135 = .ok (.aload_n 0, 1) := by decide +kernel
theorem dX0_add_136 : decode cX0_add 136 = .ok (.getfield 9, 3) := by decide +kernel
theorem dX0_add_139 : decode cX0_add 139 = .ok (.iload 5, 2) := by decide +kernel
theorem dX0_add_141 : decode cX0_add 141 = .ok (.iload 7, 2) := by decide +kernel
theorem dX0_add_143 : decode cX0_add 143 = .ok (.iadd, 1) := by decide +kernel
theorem dX0_add_144 : decode cX0_add 144 = .ok (.iload 6, 2) := by decide +kernel
theorem dX0_add_146 : decode cX0_add 146 = .ok (.iload_n 3, 1) := by decide +kernel
theorem dX0_add_147 : decode cX0_add 147 = .ok (.iadd, 1) := by decide +kernel
theorem dX0_add_148 : decode cX0_add 148 = .ok (.iload 8, 2) := by decide +kernel
theorem dX0_add_150 : decode cX0_add 150 = .ok (.iadd, 1) := by decide +kernel
theorem dX0_add_151 : decode cX0_add 151 = .ok (.iastore, 1) := by decide +kernel
theorem dX0_add_152 : decode cX0_add 152 = .ok (.iinc 7 1, 3) := by decide +kernel
theorem dX0_add_155 : decode cX0_add 155 = .ok (.goto (-75), 3) := by decide +kernel
theorem dX0_add_158 : decode cX0_add 158 = .ok (.iinc 5 6, 3) := by decide +kernel
theorem dX0_add_161 : decode cX0_add 161 = .ok (.goto (-102), 3) := by decide +kernel
theorem dX0_add_164 : decode cX0_add 164 = .ok (.return_, 1) := by decide +kernel
theorem dX1_init_0 : decode cX1_init 0 = .ok (.aload_n 0, 1) := by decide +kernel
theorem dX1_init_1 : decode cX1_init 1 = .ok (.invokespecial 3, 3) := by decide +kernel
theorem dX1_init_4 : decode cX1_init 4 = .ok (.aload_n 0, 1) := by decide +kernel
theorem dX1_init_5 : decode cX1_init 5 = .ok (.new 9, 3) := by decide +kernel
theorem dX1_init_8 : decode cX1_init 8 = .ok (.dup, 1) := by decide +kernel
theorem dX1_init_9 : decode cX1_init 9 = .ok (.invokespecial 11, 3) := by decide +kernel
theorem dX1_init_12 : decode cX1_init 12 = .ok (.putfield 12, 3) := by decide +kernel
theorem dX1_init_15 : decode cX1_init 15 = .ok (.aload_n 0, 1) := by decide +kernel
theorem dX1_init_16 : decode cX1_init 16 = .ok (.iconst 2, 1) := by decide +kernel
theorem dX1_init_17 : decode cX1_init 17 = .ok (.anewarray 9, 3) := by decide +kernel
theorem dX1_init_20 : decode cX1_init 20 = .ok (.putfield 18, 3) := by decide +kernel
theorem dX1_init_23 : decode cX1_init 23 = .ok (.aload_n 0, 1) := by decide +kernel
theorem dX1_init_24 : decode cX1_init 24 = .ok (.new 22, 3) := by decide +kernel
theorem dX1_init_27 : decode cX1_init 27 = .ok (.dup, 1) := by decide +kernel
theorem dX1_init_28 : decode cX1_init 28 = .ok (.invokespecial 24, 3) := by decide +kernel
theorem dX1_init_31 : decode cX1_init 31 = .ok (.putfield 25, 3) := by decide +kernel
theorem dX1_init_34 : decode cX1_init 34 = .ok (.iconst 0, 1) := by decide +kernel
theorem dX1_init_35 : decode cX1_init 35 = .ok (.istore_n 1, 1) := by decide +kernel
theorem dX1_init_36 : decode cX1_init 36 = .ok (.iload_n 1, 1) := by decide +kernel
theorem dX1_init_37 : decode cX1_init 37 = .ok (.iconst 2, 1) := by decide +kernel
theorem dX1_init_38 : decode cX1_init 38 = .ok (.if_icmp .ge 22, 3) := by decide +kernel
theorem dX1_init_41 : decode cX1_init 41 = .ok (.aload_n 0, 1) := by decide +kernel
theorem dX1_init_42 : decode cX1_init 42 = .ok (.getfield 18, 3) := by decide +kernel
theorem dX1_init_45 : decode cX1_init 45 = .ok (.iload_n 1, 1) := by decide +kernel
theorem dX1_init_46 : decode cX1_init 46 = .ok (.new 9, 3) := by decide +kernel
theorem dX1_init_49 : decode cX1_init 49 = .ok (.dup, 1) := by decide +kernel
theorem dX1_init_50 : decode cX1_init 50 = .ok (.invokespecial 11, 3) := by decide +kernel
theorem dX1_init_53 : decode cX1_init 53 = .ok (.aastore, 1) := by decide +kernel
theorem dX1_init_54 : decode cX1_init 54 = .ok (.iinc 1 1, 3) := by decide +kernel
theorem dX1_init_57 : decode cX1_init 57 = .ok (.goto (-21), 3) := by decide +kernel
theorem dX1_init_60 : decode cX1_init 60 = .ok (.return_, 1) := by decide +kernel
theorem dX1_premise_0 : decode cX1_premise 0 = .ok (.iload_n 1, 1) := by decide +kernel
theorem dX1_premise_1 : decode cX1_premise 1 = .ok (.aload_n 0, 1) := by decide +kernel
theorem dX1_premise_2 : decode cX1_premise 2 = .ok (.getfield 29, 3) := by decide +kernel
theorem dX1_premise_5 : decode cX1_premise 5 = .ok (.if_icmp .lt 5, 3) := by decide +kernel
theorem dX1_premise_8 : decode cX1_premise 8 = .ok (.iconst (-1), 1) := by decide +kernel
theorem dX1_premise_9 : decode cX1_premise 9 = .ok (.ireturn, 1) := by decide +kernel
theorem dX1_premise_10 : decode cX1_premise 10 = .ok (.iload_n 1, 1) := by decide +kernel
theorem dX1_premise_11 : decode cX1_premise 11 = .ok (.ifCond .ne 10, 3) := by decide +kernel
theorem dX1_premise_14 : decode cX1_premise 14 = .ok (.iload_n 2, 1) := by decide +kernel
theorem dX1_premise_15 : decode cX1_premise 15 = .ok (.bipush 16, 2) := by decide +kernel
theorem dX1_premise_17 : decode cX1_premise 17 = .ok (.idiv, 1) := by decide +kernel
theorem dX1_premise_18 : decode cX1_premise 18 = .ok (.goto 7, 3) := by decide +kernel
theorem dX1_premise_21 : decode cX1_premise 21 = .ok (.iload_n 2, 1) := by decide +kernel
theorem dX1_premise_22 : decode cX1_premise 22 = .ok (.bipush 16, 2) := by decide +kernel
theorem dX1_premise_24 : decode cX1_premise 24 = .ok (.irem, 1) := by decide +kernel
theorem dX1_premise_25 : decode cX1_premise 25 = .ok (.ireturn, 1) := by decide +kernel
theorem dX2_init_0 : decode cX2_init 0 = .ok (.aload_n 0, 1) := by decide +kernel
theorem dX2_init_1 : decode cX2_init 1 = .ok (.invokespecial 1, 3) := by decide +kernel
theorem dX2_init_4 : decode cX2_init 4 = .ok (.return_, 1) := by decide +kernel
theorem dX2_point_0 : decode cX2_point 0 = .ok (.iload_n 1, 1) := by decide +kernel
theorem dX2_point_1 : decode cX2_point 1 = .ok (.aload_n 0, 1) := by decide +kernel
theorem dX2_point_2 : decode cX2_point 2 = .ok (.getfield 7, 3) := by decide +kernel
theorem dX2_point_5 : decode cX2_point 5 = .ok (.aload_n 0, 1) := by decide +kernel
theorem dX2_point_6 : decode cX2_point 6 = .ok (.getfield 13, 3) := by decide +kernel
theorem dX2_point_9 : decode cX2_point 9 = .ok (.invokestatic 16, 3) := by decide +kernel
theorem dX2_point_12 : decode cX2_point 12 = .ok (.ireturn, 1) := by decide +kernel
theorem dX3_init_0 : decode cX3_init 0 = .ok (.aload_n 0, 1) := by decide +kernel
theorem dX3_init_1 : decode cX3_init 1 = .ok (.invokespecial 1, 3) := by decide +kernel
theorem dX3_init_4 : decode cX3_init 4 = .ok (.aload_n 0, 1) := by decide +kernel
theorem dX3_init_5 : decode cX3_init 5 = .ok (.new 7, 3) := by decide +kernel
theorem dX3_init_8 : decode cX3_init 8 = .ok (.dup, 1) := by decide +kernel
theorem dX3_init_9 : decode cX3_init 9 = .ok (.invokespecial 9, 3) := by decide +kernel
theorem dX3_init_12 : decode cX3_init 12 = .ok (.putfield 10, 3) := by decide +kernel
theorem dX3_init_15 : decode cX3_init 15 = .ok (.return_, 1) := by decide +kernel
theorem dX3_fill_0 : decode cX3_fill 0 = .ok (.aload_n 0, 1) := by decide +kernel
theorem dX3_fill_1 : decode cX3_fill 1 = .ok (.iload_n 1, 1) := by decide +kernel
theorem dX3_fill_2 : decode cX3_fill 2 = .ok (.putfield 16, 3) := by decide +kernel
theorem dX3_fill_5 : decode cX3_fill 5 = .ok (.aload_n 0, 1) := by decide +kernel
theorem dX3_fill_6 : decode cX3_fill 6 = .ok (.iload_n 2, 1) := by decide +kernel
theorem dX3_fill_7 : decode cX3_fill 7 = .ok (.putfield 20, 3) := by decide +kernel
theorem dX3_fill_10 : decode cX3_fill 10 = .ok (.aload_n 0, 1) := by decide +kernel
theorem dX3_fill_11 : decode cX3_fill 11 = .ok (.iload_n 3, 1) := by decide +kernel
theorem dX3_fill_12 : decode cX3_fill 12 = .ok (.putfield 23, 3) := by decide +kernel
theorem dX3_fill_15 : decode cX3_fill 15 = .ok (.aload_n 0, 1) := by decide +kernel
theorem dX3_fill_16 : decode cX3_fill 16 = .ok (.iload 4, 2) := by decide +kernel
theorem dX3_fill_18 : decode cX3_fill 18 = .ok (.putfield 26, 3) := by decide +kernel
theorem dX3_fill_21 : decode cX3_fill 21 = .ok (.return_, 1) := by decide +kernel
theorem dX4_init_0 : decode cX4_init 0 = .ok (.aload_n 0, 1) := by decide +kernel
theorem dX4_init_1 : decode cX4_init 1 = .ok (.invokespecial 3, 3) := by decide +kernel
theorem dX4_init_4 : decode cX4_init 4 = .ok (.aload_n 0, 1) := by decide +kernel
theorem dX4_init_5 : decode cX4_init 5 = .ok (.iconst 4, 1) := by decide +kernel
theorem dX4_init_6 : decode cX4_init 6 = .ok (.newarray .int, 2) := by decide +kernel
theorem dX4_init_8 : decode cX4_init 8 = .ok (.putfield 9, 3) := by decide +kernel
theorem dX4_init_11 : decode cX4_init 11 = .ok (.aload_n 0, 1) := by decide +kernel
theorem dX4_init_12 : decode cX4_init 12 = .ok (.iconst 4, 1) := by decide +kernel
theorem dX4_init_13 : decode cX4_init 13 = .ok (.newarray .int, 2) := by decide +kernel
theorem dX4_init_15 : decode cX4_init 15 = .ok (.putfield 15, 3) := by decide +kernel
theorem dX4_init_18 : decode cX4_init 18 = .ok (.aload_n 0, 1) := by decide +kernel
theorem dX4_init_19 : decode cX4_init 19 = .ok (.iconst 4, 1) := by decide +kernel
theorem dX4_init_20 : decode cX4_init 20 = .ok (.newarray .int, 2) := by decide +kernel
theorem dX4_init_22 : decode cX4_init 22 = .ok (.putfield 18, 3) := by decide +kernel
theorem dX4_init_25 : decode cX4_init 25 = .ok (.aload_n 0, 1) := by decide +kernel
theorem dX4_init_26 : decode cX4_init 26 = .ok (.bipush 16, 2) := by decide +kernel
theorem dX4_init_28 : decode cX4_init 28 = .ok (.newarray .int, 2) := by decide +kernel
theorem dX4_init_30 : decode cX4_init 30 = .ok (.putfield 21, 3) := by decide +kernel
theorem dX4_init_33 : decode cX4_init 33 = .ok (.aload_n 0, 1) := by decide +kernel
theorem dX4_init_34 : decode cX4_init 34 = .ok (.bipush 16, 2) := by decide +kernel
theorem dX4_init_36 : decode cX4_init 36 = .ok (.newarray .int, 2) := by decide +kernel
theorem dX4_init_38 : decode cX4_init 38 = .ok (.putfield 24, 3) := by decide +kernel
theorem dX4_init_41 : decode cX4_init 41 = .ok (.aload_n 0, 1) := by decide +kernel
theorem dX4_init_42 : decode cX4_init 42 = .ok (.bipush 16, 2) := by decide +kernel
theorem dX4_init_44 : decode cX4_init 44 = .ok (.newarray .int, 2) := by decide +kernel
theorem dX4_init_46 : decode cX4_init 46 = .ok (.putfield 27, 3) := by decide +kernel
theorem dX4_init_49 : decode cX4_init 49 = .ok (.aload_n 0, 1) := by decide +kernel
theorem dX4_init_50 : decode cX4_init 50 = .ok (.bipush 16, 2) := by decide +kernel
theorem dX4_init_52 : decode cX4_init 52 = .ok (.newarray .int, 2) := by decide +kernel
theorem dX4_init_54 : decode cX4_init 54 = .ok (.putfield 30, 3) := by decide +kernel
theorem dX4_init_57 : decode cX4_init 57 = .ok (.return_, 1) := by decide +kernel
theorem dX4_cubes_0 : decode cX4_cubes 0 = .ok (.iconst 1, 1) := by decide +kernel
theorem dX4_cubes_1 : decode cX4_cubes 1 = .ok (.aload_n 0, 1) := by decide +kernel
theorem dX4_cubes_2 : decode cX4_cubes 2 = .ok (.getfield 33, 3) := by decide +kernel
theorem dX4_cubes_5 : decode cX4_cubes 5 = .ok (.ishl, 1) := by decide +kernel
theorem dX4_cubes_6 : decode cX4_cubes 6 = .ok (.ireturn, 1) := by decide +kernel
theorem dX4_areTwoCorners_0 : decode cX4_areTwoCorners 0 = .ok (.aload_n 0, 1) := by decide +kernel
theorem dX4_areTwoCorners_1 : decode cX4_areTwoCorners 1 = .ok (.iload_n 1, 1) := by decide +kernel
theorem dX4_areTwoCorners_2 : decode cX4_areTwoCorners 2 = .ok (.invokevirtual 37, 3) := by decide +kernel
theorem dX4_areTwoCorners_5 : decode cX4_areTwoCorners 5 = .ok (.ifCond .eq 20, 3) := by decide +kernel
theorem dX4_areTwoCorners_8 : decode cX4_areTwoCorners 8 = .ok (.aload_n 0, 1) := by decide +kernel
theorem dX4_areTwoCorners_9 : decode cX4_areTwoCorners 9 = .ok (.iload_n 2, 1) := by decide +kernel
theorem dX4_areTwoCorners_10 : decode cX4_areTwoCorners 10 = .ok (.invokevirtual 37, 3) := by decide +kernel
theorem dX4_areTwoCorners_13 : decode cX4_areTwoCorners 13 = .ok (.ifCond .eq 12, 3) := by decide +kernel
theorem dX4_areTwoCorners_16 : decode cX4_areTwoCorners 16 = .ok (.iload_n 1, 1) := by decide +kernel
theorem dX4_areTwoCorners_17 : decode cX4_areTwoCorners 17 = .ok (.iload_n 2, 1) := by decide +kernel
theorem dX4_areTwoCorners_18 : decode cX4_areTwoCorners 18 = .ok (.if_icmp .eq 7, 3) := by decide +kernel
theorem dX4_areTwoCorners_21 : decode cX4_areTwoCorners 21 = .ok (.iconst 1, 1) := by decide +kernel
theorem dX4_areTwoCorners_22 : decode cX4_areTwoCorners 22 = .ok (.goto 4, 3) := by decide +kernel
theorem dX4_areTwoCorners_25 : decode cX4_areTwoCorners 25 = .ok (.iconst 0, 1) := by decide +kernel
theorem dX4_areTwoCorners_26 : decode cX4_areTwoCorners 26 = .ok (.ireturn, 1) := by decide +kernel
theorem dX4_isCorner_0 : decode cX4_isCorner 0 = .ok (.iload_n 1, 1) := by decide +kernel
theorem dX4_isCorner_1 : decode cX4_isCorner 1 = .ok (.iconst 2, 1) := by decide +kernel
theorem dX4_isCorner_2 : decode cX4_isCorner 2 = .ok (.if_icmp .eq 15, 3) := by decide +kernel
theorem dX4_isCorner_5 : decode cX4_isCorner 5 = .ok (.iload_n 1, 1) := by decide +kernel
theorem dX4_isCorner_6 : decode cX4_isCorner 6 = .ok (.ifCond .lt 15, 3) := by decide +kernel
theorem dX4_isCorner_9 : decode cX4_isCorner 9 = .ok (.iload_n 1, 1) := by decide +kernel
theorem dX4_isCorner_10 : decode cX4_isCorner 10 = .ok (.aload_n 0, 1) := by decide +kernel
theorem dX4_isCorner_11 : decode cX4_isCorner 11 = .ok (.getfield 41, 3) := by decide +kernel
theorem dX4_isCorner_14 : decode cX4_isCorner 14 = .ok (.if_icmp .ge 7, 3) := by decide +kernel
theorem dX4_isCorner_17 : decode cX4_isCorner 17 = .ok (.iconst 1, 1) := by decide +kernel
theorem dX4_isCorner_18 : decode cX4_isCorner 18 = .ok (.goto 4, 3) := by decide +kernel
theorem dX4_isCorner_21 : decode cX4_isCorner 21 = .ok (.iconst 0, 1) := by decide +kernel
theorem dX4_isCorner_22 : decode cX4_isCorner 22 = .ok (.ireturn, 1) := by decide +kernel
theorem dX4_canMark_0 : decode cX4_canMark 0 = .ok (.aload_n 0, 1) := by decide +kernel
theorem dX4_canMark_1 : decode cX4_canMark 1 = .ok (.iload_n 1, 1) := by decide +kernel
theorem dX4_canMark_2 : decode cX4_canMark 2 = .ok (.iload_n 2, 1) := by decide +kernel
theorem dX4_canMark_3 : decode cX4_canMark 3 = .ok (.invokevirtual 44, 3) := by decide +kernel
theorem dX4_canMark_6 : decode cX4_canMark 6 = .ok (.ifCond .eq 14, 3) := by decide +kernel
theorem dX4_canMark_9 : decode cX4_canMark 9 = .ok (.iload_n 3, 1) := by decide +kernel
theorem dX4_canMark_10 : decode cX4_canMark 10 = .ok (.invokestatic 48, 3) := by decide +kernel
theorem dX4_canMark_13 : decode cX4_canMark 13 = .ok (.ifCond .eq 7, 3) := by decide +kernel
theorem dX4_canMark_16 : decode cX4_canMark 16 = .ok (.iconst 1, 1) := by decide +kernel
theorem dX4_canMark_17 : decode cX4_canMark 17 = .ok (.goto 4, 3) := by decide +kernel
theorem dX4_canMark_20 : decode cX4_canMark 20 = .ok (.iconst 0, 1) := by decide +kernel
theorem dX4_canMark_21 : decode cX4_canMark 21 = .ok (.ireturn, 1) := by decide +kernel
theorem dX4_hasMark_0 : decode cX4_hasMark 0 = .ok (.iconst 0, 1) := by decide +kernel
theorem dX4_hasMark_1 : decode cX4_hasMark 1 = .ok (.istore 4, 2) := by decide +kernel
theorem dX4_hasMark_3 : decode cX4_hasMark 3 = .ok (.iload 4, 2) := by decide +kernel
theorem dX4_hasMark_5 : decode cX4_hasMark 5 = .ok (.aload_n 0, 1) := by decide +kernel
theorem dX4_hasMark_6 : decode cX4_hasMark 6 = .ok (.getfield 33, 3) := by decide +kernel
theorem dX4_hasMark_9 : decode cX4_hasMark 9 = .ok (.if_icmp .ge 44, 3) := by decide +kernel
theorem dX4_hasMark_12 : decode cX4_hasMark 12 = .ok (.aload_n 0, 1) := by decide +kernel
theorem dX4_hasMark_13 : decode cX4_hasMark 13 = .ok (.getfield 9, 3) := by decide +kernel
theorem dX4_hasMark_16 : decode cX4_hasMark 16 = .ok (.iload 4, 2) := by decide +kernel
theorem dX4_hasMark_18 : decode cX4_hasMark 18 = .ok (.iaload, 1) := by decide +kernel
theorem dX4_hasMark_19 : decode cX4_hasMark 19 = .ok (.iload_n 1, 1) := by decide +kernel
theorem dX4_hasMark_20 : decode cX4_hasMark 20 = .ok (.if_icmp .ne 27, 3) := by decide +kernel
theorem dX4_hasMark_23 : decode cX4_hasMark 23 = .ok (.aload_n 0, 1) := by decide +kernel
theorem dX4_hasMark_24 : decode cX4_hasMark 24 = .ok (.getfield 15, 3) := by decide +kernel
theorem dX4_hasMark_27 : decode cX4_hasMark 27 = .ok (.iload 4, 2) := by decide +kernel
theorem dX4_hasMark_29 : decode cX4_hasMark 29 = .ok (.iaload, 1) := by decide +kernel
theorem dX4_hasMark_30 : decode cX4_hasMark 30 = .ok (.iload_n 2, 1) := by decide +kernel
theorem dX4_hasMark_31 : decode cX4_hasMark 31 = .ok (.if_icmp .ne 16, 3) := by decide +kernel
theorem dX4_hasMark_34 : decode cX4_hasMark 34 = .ok (.aload_n 0, 1) := by decide +kernel
theorem dX4_hasMark_35 : decode cX4_hasMark 35 = .ok (.getfield 18, 3) := by decide +kernel
theorem dX4_hasMark_38 : decode cX4_hasMark 38 = .ok (.iload 4, 2) := by decide +kernel
theorem dX4_hasMark_40 : decode cX4_hasMark 40 = .ok (.iaload, 1) := by decide +kernel
theorem dX4_hasMark_41 : decode cX4_hasMark 41 = .ok (.iload_n 3, 1) := by decide +kernel
theorem dX4_hasMark_42 : decode cX4_hasMark 42 = .ok (.if_icmp .ne 5, 3) := by decide +kernel
theorem dX4_hasMark_45 : decode cX4_hasMark 45 = .ok (.iconst 1, 1) := by decide +kernel
theorem dX4_hasMark_46 : decode cX4_hasMark 46 = .ok (.ireturn, 1) := by decide +kernel
theorem dX4_hasMark_47 : decode cX4_hasMark 47 = .ok (.iinc 4 1, 3) := by decide +kernel
theorem dX4_hasMark_50 : decode cX4_hasMark 50 = .ok (.goto (-47), 3) := by decide +kernel
theorem dX4_hasMark_53 : decode cX4_hasMark 53 = .ok (.iconst 0, 1) := by decide +kernel
theorem dX4_hasMark_54 : decode cX4_hasMark 54 = .ok (.ireturn, 1) := by decide +kernel
theorem dX4_addMark_0 : decode cX4_addMark 0 = .ok (.aload_n 0, 1) := by decide +kernel
theorem dX4_addMark_1 : decode cX4_addMark 1 = .ok (.getfield 9, 3) := by decide +kernel
theorem dX4_addMark_4 : decode cX4_addMark 4 = .ok (.aload_n 0, 1) := by decide +kernel
theorem dX4_addMark_5 : decode cX4_addMark 5 = .ok (.getfield 33, 3) := by decide +kernel
theorem dX4_addMark_8 : decode cX4_addMark 8 = .ok (.iload_n 1, 1) := by decide +kernel
theorem dX4_addMark_9 : decode cX4_addMark 9 = .ok (.iastore, 1) := by decide +kernel
theorem dX4_addMark_10 : decode cX4_addMark 10 = .ok (.aload_n 0, 1) := by decide +kernel
theorem dX4_addMark_11 : decode cX4_addMark 11 = .ok (.getfield 15, 3) := by decide +kernel
theorem dX4_addMark_14 : decode cX4_addMark 14 = .ok (.aload_n 0, 1) := by decide +kernel
theorem dX4_addMark_15 : decode cX4_addMark 15 = .ok (.getfield 33, 3) := by decide +kernel
theorem dX4_addMark_18 : decode cX4_addMark 18 = .ok (.iload_n 2, 1) := by decide +kernel
theorem dX4_addMark_19 : decode cX4_addMark 19 = .ok (.iastore, 1) := by decide +kernel
theorem dX4_addMark_20 : decode cX4_addMark 20 = .ok (.aload_n 0, 1) := by decide +kernel
theorem dX4_addMark_21 : decode cX4_addMark 21 = .ok (.getfield 18, 3) := by decide +kernel
theorem dX4_addMark_24 : decode cX4_addMark 24 = .ok (.aload_n 0, 1) := by decide +kernel
theorem dX4_addMark_25 : decode cX4_addMark 25 = .ok (.getfield 33, 3) := by decide +kernel
theorem dX4_addMark_28 : decode cX4_addMark 28 = .ok (.iload_n 3, 1) := by decide +kernel
theorem dX4_addMark_29 : decode cX4_addMark 29 = .ok (.iastore, 1) := by decide +kernel
theorem dX4_addMark_30 : decode cX4_addMark 30 = .ok (.aload_n 0, 1) := by decide +kernel
theorem dX4_addMark_31 : decode cX4_addMark 31 = .ok (.dup, 1) := by decide +kernel
theorem dX4_addMark_32 : decode cX4_addMark 32 = .ok (.getfield 33, 3) := by decide +kernel
theorem dX4_addMark_35 : decode cX4_addMark 35 = .ok (.iconst 1, 1) := by decide +kernel
theorem dX4_addMark_36 : decode cX4_addMark 36 = .ok (.iadd, 1) := by decide +kernel
theorem dX4_addMark_37 : decode cX4_addMark 37 = .ok (.putfield 33, 3) := by decide +kernel
theorem dX4_addMark_40 : decode cX4_addMark 40 = .ok (.return_, 1) := by decide +kernel
theorem dX4_forgetStates_0 : decode cX4_forgetStates 0 = .ok (.iconst 0, 1) := by decide +kernel
theorem dX4_forgetStates_1 : decode cX4_forgetStates 1 = .ok (.istore_n 1, 1) := by decide +kernel
theorem dX4_forgetStates_2 : decode cX4_forgetStates 2 = .ok (.iload_n 1, 1) := by decide +kernel
theorem dX4_forgetStates_3 : decode cX4_forgetStates 3 = .ok (.bipush 16, 2) := by decide +kernel
theorem dX4_forgetStates_5 : decode cX4_forgetStates 5 = .ok (.if_icmp .ge 16, 3) := by decide +kernel
theorem dX4_forgetStates_8 : decode cX4_forgetStates 8 = .ok (.aload_n 0, 1) := by decide +kernel
theorem dX4_forgetStates_9 : decode cX4_forgetStates 9 = .ok (.getfield 21, 3) := by decide +kernel
theorem dX4_forgetStates_12 : decode cX4_forgetStates 12 = .ok (.iload_n 1, 1) := by decide +kernel
theorem dX4_forgetStates_13 : decode cX4_forgetStates 13 = .ok (.iconst 0, 1) := by decide +kernel
theorem dX4_forgetStates_14 : decode cX4_forgetStates 14 = .ok (.iastore, 1) := by decide +kernel
theorem dX4_forgetStates_15 : decode cX4_forgetStates 15 = .ok (.iinc 1 1, 3) := by decide +kernel
theorem dX4_forgetStates_18 : decode cX4_forgetStates 18 = .ok (.goto (-16), 3) := by decide +kernel
theorem dX4_forgetStates_21 : decode cX4_forgetStates 21 = .ok (.return_, 1) := by decide +kernel
theorem dX4_restrict_0 : decode cX4_restrict 0 = .ok (.iconst 0, 1) := by decide +kernel
theorem dX4_restrict_1 : decode cX4_restrict 1 = .ok (.istore 5, 2) := by decide +kernel
theorem dX4_restrict_3 : decode cX4_restrict 3 = .ok (.iload 5, 2) := by decide +kernel
theorem dX4_restrict_5 : decode cX4_restrict 5 = .ok (.aload_n 0, 1) := by decide +kernel
theorem dX4_restrict_6 : decode cX4_restrict 6 = .ok (.getfield 33, 3) := by decide +kernel
theorem dX4_restrict_9 : decode cX4_restrict 9 = .ok (.if_icmp .ge 85, 3) := by decide +kernel
theorem dX4_restrict_12 : decode cX4_restrict 12 = .ok (.aload_n 0, 1) := by decide +kernel
theorem dX4_restrict_13 : decode cX4_restrict 13 = .ok (.getfield 9, 3) := by decide +kernel
theorem dX4_restrict_16 : decode cX4_restrict 16 = .ok (.iload 5, 2) := by decide +kernel
theorem dX4_restrict_18 : decode cX4_restrict 18 = .ok (.iaload, 1) := by decide +kernel
theorem dX4_restrict_19 : decode cX4_restrict 19 = .ok (.iload_n 3, 1) := by decide +kernel
theorem dX4_restrict_20 : decode cX4_restrict 20 = .ok (.iload 4, 2) := by decide +kernel
theorem dX4_restrict_22 : decode cX4_restrict 22 = .ok (.invokestatic 51, 3) := by decide +kernel
theorem dX4_restrict_25 : decode cX4_restrict 25 = .ok (.istore 6, 2) := by decide +kernel
theorem dX4_restrict_27 : decode cX4_restrict 27 = .ok (.aload_n 0, 1) := by decide +kernel
theorem dX4_restrict_28 : decode cX4_restrict 28 = .ok (.getfield 15, 3) := by decide +kernel
theorem dX4_restrict_31 : decode cX4_restrict 31 = .ok (.iload 5, 2) := by decide +kernel
theorem dX4_restrict_33 : decode cX4_restrict 33 = .ok (.iaload, 1) := by decide +kernel
theorem dX4_restrict_34 : decode cX4_restrict 34 = .ok (.iload_n 3, 1) := by decide +kernel
theorem dX4_restrict_35 : decode cX4_restrict 35 = .ok (.iload 4, 2) := by decide +kernel
theorem dX4_restrict_37 : decode cX4_restrict 37 = .ok (.invokestatic 51, 3) := by decide +kernel
theorem dX4_restrict_40 : decode cX4_restrict 40 = .ok (.istore 7, 2) := by decide +kernel
theorem dX4_restrict_42 : decode cX4_restrict 42 = .ok (.iload_n 2, 1) := by decide +kernel
theorem dX4_restrict_43 : decode cX4_restrict 43 = .ok (.iload 5, 2) := by decide +kernel
theorem dX4_restrict_45 : decode cX4_restrict 45 = .ok (.ishr, 1) := by decide +kernel
theorem dX4_restrict_46 : decode cX4_restrict 46 = .ok (.iconst 1, 1) := by decide +kernel
theorem dX4_restrict_47 : decode cX4_restrict 47 = .ok (.iand, 1) := by decide +kernel
theorem dX4_restrict_48 : decode cX4_restrict 48 = .ok (.iconst 1, 1) := by decide +kernel
theorem dX4_restrict_49 : decode cX4_restrict 49 = .ok (.if_icmp .ne 21, 3) := by decide +kernel
theorem dX4_restrict_52 : decode cX4_restrict 52 = .ok (.aload_n 1, 1) := by decide +kernel
theorem dX4_restrict_53 : decode cX4_restrict 53 = .ok (.iload 6, 2) := by decide +kernel
theorem dX4_restrict_55 : decode cX4_restrict 55 = .ok (.iload 7, 2) := by decide +kernel
theorem dX4_restrict_57 : decode cX4_restrict 57 = .ok (.aload_n 0, 1) := by decide +kernel
theorem dX4_restrict_58 : decode cX4_restrict 58 = .ok (.getfield 18, 3) := by decide +kernel
theorem dX4_restrict_61 : decode cX4_restrict 61 = .ok (.iload 5, 2) := by decide +kernel
theorem dX4_restrict_63 : decode cX4_restrict 63 = .ok (.iaload, 1) := by decide +kernel
theorem dX4_restrict_64 : decode cX4_restrict 64 = .ok (.invokevirtual 55, 3) := by decide +kernel
theorem dX4_restrict_67 : decode cX4_restrict 67 = .ok (.goto 21, 3) := by decide +kernel
theorem dX4_restrict_70 : decode cX4_restrict 70 = .ok (.aload_n 1, 1) := by decide +kernel
theorem dX4_restrict_71 : decode cX4_restrict 71 = .ok (.iload 7, 2) := by decide +kernel
theorem dX4_restrict_73 : decode cX4_restrict 73 = .ok (.iload 6, 2) := by decide +kernel
theorem dX4_restrict_75 : decode cX4_restrict 75 = .ok (.aload_n 0, 1) := by decide +kernel
theorem dX4_restrict_76 : decode cX4_restrict 76 = .ok (.getfield 18, 3) := by decide +kernel
theorem dX4_restrict_79 : decode cX4_restrict 79 = .ok (.iload 5, 2) := by decide +kernel
theorem dX4_restrict_81 : decode cX4_restrict 81 = .ok (.iaload, 1) := by decide +kernel
theorem dX4_restrict_82 : decode cX4_restrict 82 = .ok (.ineg, 1) := by decide +kernel
theorem dX4_restrict_83 : decode cX4_restrict 83 = .ok (.iconst 1, 1) := by decide +kernel
theorem dX4_restrict_84 : decode cX4_restrict 84 = .ok (.isub, 1) := by decide +kernel
theorem dX4_restrict_85 : decode cX4_restrict 85 = .ok (.invokevirtual 55, 3) := by decide +kernel
theorem dX4_restrict_88 : decode cX4_restrict 88 = .ok (.iinc 5 1, 3) := by decide +kernel
theorem dX4_restrict_91 : decode cX4_restrict 91 = .ok (.goto (-88), 3) := by decide +kernel
theorem dX4_restrict_94 : decode cX4_restrict 94 = .ok (.return_, 1) := by decide +kernel
theorem dX5_init_0 : decode cX5_init 0 = .ok (.aload_n 0, 1) := by decide +kernel
theorem dX5_init_1 : decode cX5_init 1 = .ok (.invokespecial 3, 3) := by decide +kernel
theorem dX5_init_4 : decode cX5_init 4 = .ok (.aload_n 0, 1) := by decide +kernel
theorem dX5_init_5 : decode cX5_init 5 = .ok (.bipush 41, 2) := by decide +kernel
theorem dX5_init_7 : decode cX5_init 7 = .ok (.anewarray 9, 3) := by decide +kernel
theorem dX5_init_10 : decode cX5_init 10 = .ok (.putfield 11, 3) := by decide +kernel
theorem dX5_init_13 : decode cX5_init 13 = .ok (.aload_n 0, 1) := by decide +kernel
theorem dX5_init_14 : decode cX5_init 14 = .ok (.bipush 82, 2) := by decide +kernel
theorem dX5_init_16 : decode cX5_init 16 = .ok (.newarray .int, 2) := by decide +kernel
theorem dX5_init_18 : decode cX5_init 18 = .ok (.putfield 17, 3) := by decide +kernel
theorem dX5_init_21 : decode cX5_init 21 = .ok (.aload_n 0, 1) := by decide +kernel
theorem dX5_init_22 : decode cX5_init 22 = .ok (.bipush 82, 2) := by decide +kernel
theorem dX5_init_24 : decode cX5_init 24 = .ok (.newarray .int, 2) := by decide +kernel
theorem dX5_init_26 : decode cX5_init 26 = .ok (.putfield 21, 3) := by decide +kernel
theorem dX5_init_29 : decode cX5_init 29 = .ok (.aload_n 0, 1) := by decide +kernel
theorem dX5_init_30 : decode cX5_init 30 = .ok (.bipush 82, 2) := by decide +kernel
theorem dX5_init_32 : decode cX5_init 32 = .ok (.newarray .int, 2) := by decide +kernel
theorem dX5_init_34 : decode cX5_init 34 = .ok (.putfield 24, 3) := by decide +kernel
theorem dX5_init_37 : decode cX5_init 37 = .ok (.iconst 0, 1) := by decide +kernel
theorem dX5_init_38 : decode cX5_init 38 = .ok (.istore_n 1, 1) := by decide +kernel
theorem dX5_init_39 : decode cX5_init 39 = .ok (.iload_n 1, 1) := by decide +kernel
theorem dX5_init_40 : decode cX5_init 40 = .ok (.bipush 40, 2) := by decide +kernel
theorem dX5_init_42 : decode cX5_init 42 = .ok (.if_icmp .gt 22, 3) := by decide +kernel
theorem dX5_init_45 : decode cX5_init 45 = .ok (.aload_n 0, 1) := by decide +kernel
theorem dX5_init_46 : decode cX5_init 46 = .ok (.getfield 11, 3) := by decide +kernel
theorem dX5_init_49 : decode cX5_init 49 = .ok (.iload_n 1, 1) := by decide +kernel
theorem dX5_init_50 : decode cX5_init 50 = .ok (.new 9, 3) := by decide +kernel
theorem dX5_init_53 : decode cX5_init 53 = .ok (.dup, 1) := by decide +kernel
theorem dX5_init_54 : decode cX5_init 54 = .ok (.invokespecial 27, 3) := by decide +kernel
theorem dX5_init_57 : decode cX5_init 57 = .ok (.aastore, 1) := by decide +kernel
theorem dX5_init_58 : decode cX5_init 58 = .ok (.iinc 1 1, 3) := by decide +kernel
theorem dX5_init_61 : decode cX5_init 61 = .ok (.goto (-22), 3) := by decide +kernel
theorem dX5_init_64 : decode cX5_init 64 = .ok (.return_, 1) := by decide +kernel
theorem dX5_number_0 : decode cX5_number 0 = .ok (.aload_n 1, 1) := by decide +kernel
theorem dX5_number_1 : decode cX5_number 1 = .ok (.getfield 28, 3) := by decide +kernel
theorem dX5_number_4 : decode cX5_number 4 = .ok (.iconst 2, 1) := by decide +kernel
theorem dX5_number_5 : decode cX5_number 5 = .ok (.if_icmp .ne 13, 3) := by decide +kernel
theorem dX5_number_8 : decode cX5_number 8 = .ok (.aload_n 0, 1) := by decide +kernel
theorem dX5_number_9 : decode cX5_number 9 = .ok (.aload_n 0, 1) := by decide +kernel
theorem dX5_number_10 : decode cX5_number 10 = .ok (.getfield 34, 3) := by decide +kernel
theorem dX5_number_13 : decode cX5_number 13 = .ok (.iconst 1, 1) := by decide +kernel
theorem dX5_number_14 : decode cX5_number 14 = .ok (.iload_n 3, 1) := by decide +kernel
theorem dX5_number_15 : decode cX5_number 15 = .ok (.invokevirtual 37, 3) := by decide +kernel
theorem dX5_number_18 : decode cX5_number 18 = .ok (.aload_n 1, 1) := by decide +kernel
theorem dX5_number_19 : decode cX5_number 19 = .ok (.getfield 28, 3) := by decide +kernel
theorem dX5_number_22 : decode cX5_number 22 = .ok (.iconst 1, 1) := by decide +kernel
theorem dX5_number_23 : decode cX5_number 23 = .ok (.if_icmp .lt 13, 3) := by decide +kernel
theorem dX5_number_26 : decode cX5_number 26 = .ok (.aload_n 0, 1) := by decide +kernel
theorem dX5_number_27 : decode cX5_number 27 = .ok (.aload_n 0, 1) := by decide +kernel
theorem dX5_number_28 : decode cX5_number 28 = .ok (.getfield 34, 3) := by decide +kernel
theorem dX5_number_31 : decode cX5_number 31 = .ok (.iconst 0, 1) := by decide +kernel
theorem dX5_number_32 : decode cX5_number 32 = .ok (.iload_n 2, 1) := by decide +kernel
theorem dX5_number_33 : decode cX5_number 33 = .ok (.invokevirtual 37, 3) := by decide +kernel
theorem dX5_number_36 : decode cX5_number 36 = .ok (.aload_n 0, 1) := by decide +kernel
theorem dX5_number_37 : decode cX5_number 37 = .ok (.dup, 1) := by decide +kernel
theorem dX5_number_38 : decode cX5_number 38 = .ok (.getfield 34, 3) := by decide +kernel
theorem dX5_number_41 : decode cX5_number 41 = .ok (.iconst 1, 1) := by decide +kernel
theorem dX5_number_42 : decode cX5_number 42 = .ok (.iadd, 1) := by decide +kernel
theorem dX5_number_43 : decode cX5_number 43 = .ok (.putfield 34, 3) := by decide +kernel
theorem dX5_number_46 : decode cX5_number 46 = .ok (.return_, 1) := by decide +kernel
theorem dX5_postpone_0 : decode cX5_postpone 0 = .ok (.aload_n 0, 1) := by decide +kernel
theorem dX5_postpone_1 : decode cX5_postpone 1 = .ok (.getfield 17, 3) := by decide +kernel
theorem dX5_postpone_4 : decode cX5_postpone 4 = .ok (.aload_n 0, 1) := by decide +kernel
theorem dX5_postpone_5 : decode cX5_postpone 5 = .ok (.getfield 41, 3) := by decide +kernel
theorem dX5_postpone_8 : decode cX5_postpone 8 = .ok (.iload_n 1, 1) := by decide +kernel
theorem dX5_postpone_9 : decode cX5_postpone 9 = .ok (.iastore, 1) := by decide +kernel
theorem dX5_postpone_10 : decode cX5_postpone 10 = .ok (.aload_n 0, 1) := by decide +kernel
theorem dX5_postpone_11 : decode cX5_postpone 11 = .ok (.getfield 21, 3) := by decide +kernel
theorem dX5_postpone_14 : decode cX5_postpone 14 = .ok (.aload_n 0, 1) := by decide +kernel
theorem dX5_postpone_15 : decode cX5_postpone 15 = .ok (.getfield 41, 3) := by decide +kernel
theorem dX5_postpone_18 : decode cX5_postpone 18 = .ok (.iload_n 2, 1) := by decide +kernel
theorem dX5_postpone_19 : decode cX5_postpone 19 = .ok (.iastore, 1) := by decide +kernel
theorem dX5_postpone_20 : decode cX5_postpone 20 = .ok (.aload_n 0, 1) := by decide +kernel
theorem dX5_postpone_21 : decode cX5_postpone 21 = .ok (.getfield 24, 3) := by decide +kernel
theorem dX5_postpone_24 : decode cX5_postpone 24 = .ok (.aload_n 0, 1) := by decide +kernel
theorem dX5_postpone_25 : decode cX5_postpone 25 = .ok (.getfield 41, 3) := by decide +kernel
theorem dX5_postpone_28 : decode cX5_postpone 28 = .ok (.iload_n 3, 1) := by decide +kernel
theorem dX5_postpone_29 : decode cX5_postpone 29 = .ok (.iastore, 1) := by decide +kernel
theorem dX5_postpone_30 : decode cX5_postpone 30 = .ok (.aload_n 0, 1) := by decide +kernel
theorem dX5_postpone_31 : decode cX5_postpone 31 = .ok (.dup, 1) := by decide +kernel
theorem dX5_postpone_32 : decode cX5_postpone 32 = .ok (.getfield 41, 3) := by decide +kernel
theorem dX5_postpone_35 : decode cX5_postpone 35 = .ok (.iconst 1, 1) := by decide +kernel
theorem dX5_postpone_36 : decode cX5_postpone 36 = .ok (.iadd, 1) := by decide +kernel
theorem dX5_postpone_37 : decode cX5_postpone 37 = .ok (.putfield 41, 3) := by decide +kernel
theorem dX5_postpone_40 : decode cX5_postpone 40 = .ok (.return_, 1) := by decide +kernel
theorem dX6_init_0 : decode cX6_init 0 = .ok (.aload_n 0, 1) := by decide +kernel
theorem dX6_init_1 : decode cX6_init 1 = .ok (.invokespecial 3, 3) := by decide +kernel
theorem dX6_init_4 : decode cX6_init 4 = .ok (.aload_n 0, 1) := by decide +kernel
theorem dX6_init_5 : decode cX6_init 5 = .ok (.iconst 4, 1) := by decide +kernel
theorem dX6_init_6 : decode cX6_init 6 = .ok (.anewarray 9, 3) := by decide +kernel
theorem dX6_init_9 : decode cX6_init 9 = .ok (.putfield 11, 3) := by decide +kernel
theorem dX6_init_12 : decode cX6_init 12 = .ok (.aload_n 0, 1) := by decide +kernel
theorem dX6_init_13 : decode cX6_init 13 = .ok (.bipush 12, 2) := by decide +kernel
theorem dX6_init_15 : decode cX6_init 15 = .ok (.anewarray 15, 3) := by decide +kernel
theorem dX6_init_18 : decode cX6_init 18 = .ok (.putfield 17, 3) := by decide +kernel
theorem dX6_init_21 : decode cX6_init 21 = .ok (.aload_n 0, 1) := by decide +kernel
theorem dX6_init_22 : decode cX6_init 22 = .ok (.new 21, 3) := by decide +kernel
theorem dX6_init_25 : decode cX6_init 25 = .ok (.dup, 1) := by decide +kernel
theorem dX6_init_26 : decode cX6_init 26 = .ok (.invokespecial 23, 3) := by decide +kernel
theorem dX6_init_29 : decode cX6_init 29 = .ok (.putfield 24, 3) := by decide +kernel
theorem dX6_init_32 : decode cX6_init 32 = .ok (.aload_n 0, 1) := by decide +kernel
theorem dX6_init_33 : decode cX6_init 33 = .ok (.new 28, 3) := by decide +kernel
theorem dX6_init_36 : decode cX6_init 36 = .ok (.dup, 1) := by decide +kernel
theorem dX6_init_37 : decode cX6_init 37 = .ok (.invokespecial 30, 3) := by decide +kernel
theorem dX6_init_40 : decode cX6_init 40 = .ok (.putfield 31, 3) := by decide +kernel
theorem dX6_init_43 : decode cX6_init 43 = .ok (.aload_n 0, 1) := by decide +kernel
theorem dX6_init_44 : decode cX6_init 44 = .ok (.new 28, 3) := by decide +kernel
theorem dX6_init_47 : decode cX6_init 47 = .ok (.dup, 1) := by decide +kernel
theorem dX6_init_48 : decode cX6_init 48 = .ok (.invokespecial 30, 3) := by decide +kernel
theorem dX6_init_51 : decode cX6_init 51 = .ok (.putfield 35, 3) := by decide +kernel
theorem dX6_init_54 : decode cX6_init 54 = .ok (.aload_n 0, 1) := by decide +kernel
theorem dX6_init_55 : decode cX6_init 55 = .ok (.new 28, 3) := by decide +kernel
theorem dX6_init_58 : decode cX6_init 58 = .ok (.dup, 1) := by decide +kernel
theorem dX6_init_59 : decode cX6_init 59 = .ok (.invokespecial 30, 3) := by decide +kernel
theorem dX6_init_62 : decode cX6_init 62 = .ok (.putfield 38, 3) := by decide +kernel
theorem dX6_init_65 : decode cX6_init 65 = .ok (.iconst 0, 1) := by decide +kernel
theorem dX6_init_66 : decode cX6_init 66 = .ok (.istore_n 1, 1) := by decide +kernel
theorem dX6_init_67 : decode cX6_init 67 = .ok (.iload_n 1, 1) := by decide +kernel
theorem dX6_init_68 : decode cX6_init 68 = .ok (.iconst 4, 1) := by decide +kernel
theorem dX6_init_69 : decode cX6_init 69 = .ok (.if_icmp .ge 22, 3) := by decide +kernel
theorem dX6_init_72 : decode cX6_init 72 = .ok (.aload_n 0, 1) := by decide +kernel
theorem dX6_init_73 : decode cX6_init 73 = .ok (.getfield 11, 3) := by decide +kernel
theorem dX6_init_76 : decode cX6_init 76 = .ok (.iload_n 1, 1) := by decide +kernel
theorem dX6_init_77 : decode cX6_init 77 = .ok (.new 9, 3) := by decide +kernel
theorem dX6_init_80 : decode cX6_init 80 = .ok (.dup, 1) := by decide +kernel
theorem dX6_init_81 : decode cX6_init 81 = .ok (.invokespecial 41, 3) := by decide +kernel
theorem dX6_init_84 : decode cX6_init 84 = .ok (.aastore, 1) := by decide +kernel
theorem dX6_init_85 : decode cX6_init 85 = .ok (.iinc 1 1, 3) := by decide +kernel
theorem dX6_init_88 : decode cX6_init 88 = .ok (.goto (-21), 3) := by decide +kernel
theorem dX6_init_91 : decode cX6_init 91 = .ok (.iconst 0, 1) := by decide +kernel
theorem dX6_init_92 : decode cX6_init 92 = .ok (.istore_n 1, 1) := by decide +kernel
theorem dX6_init_93 : decode cX6_init 93 = .ok (.iload_n 1, 1) := by decide +kernel
theorem dX6_init_94 : decode cX6_init 94 = .ok (.bipush 12, 2) := by decide +kernel
theorem dX6_init_96 : decode cX6_init 96 = .ok (.if_icmp .ge 22, 3) := by decide +kernel
theorem dX6_init_99 : decode cX6_init 99 = .ok (.aload_n 0, 1) := by decide +kernel
theorem dX6_init_100 : decode cX6_init 100 = .ok (.getfield 17, 3) := by decide +kernel
theorem dX6_init_103 : decode cX6_init 103 = .ok (.iload_n 1, 1) := by decide +kernel
theorem dX6_init_104 : decode cX6_init 104 = .ok (.new 15, 3) := by decide +kernel
theorem dX6_init_107 : decode cX6_init 107 = .ok (.dup, 1) := by decide +kernel
theorem dX6_init_108 : decode cX6_init 108 = .ok (.invokespecial 42, 3) := by decide +kernel
theorem dX6_init_111 : decode cX6_init 111 = .ok (.aastore, 1) := by decide +kernel
theorem dX6_init_112 : decode cX6_init 112 = .ok (.iinc 1 1, 3) := by decide +kernel
theorem dX6_init_115 : decode cX6_init 115 = .ok (.goto (-22), 3) := by decide +kernel
theorem dX6_init_118 : decode cX6_init 118 = .ok (.aload_n 0, 1) := by decide +kernel
theorem dX6_init_119 : decode cX6_init 119 = .ok (.iconst (-1), 1) := by decide +kernel
theorem dX6_init_120 : decode cX6_init 120 = .ok (.putfield 43, 3) := by decide +kernel
theorem dX6_init_123 : decode cX6_init 123 = .ok (.aload_n 0, 1) := by decide +kernel
theorem dX6_init_124 : decode cX6_init 124 = .ok (.iconst 0, 1) := by decide +kernel
theorem dX6_init_125 : decode cX6_init 125 = .ok (.putfield 47, 3) := by decide +kernel
theorem dX6_init_128 : decode cX6_init 128 = .ok (.return_, 1) := by decide +kernel
theorem dX6_relation_0 : decode cX6_relation 0 = .ok (.iload_n 1, 1) := by decide +kernel
theorem dX6_relation_1 : decode cX6_relation 1 = .ok (.iconst 1, 1) := by decide +kernel
theorem dX6_relation_2 : decode cX6_relation 2 = .ok (.if_icmp .eq 18, 3) := by decide +kernel
theorem dX6_relation_5 : decode cX6_relation 5 = .ok (.iload_n 1, 1) := by decide +kernel
theorem dX6_relation_6 : decode cX6_relation 6 = .ok (.iconst 2, 1) := by decide +kernel
theorem dX6_relation_7 : decode cX6_relation 7 = .ok (.if_icmp .eq 13, 3) := by decide +kernel
theorem dX6_relation_10 : decode cX6_relation 10 = .ok (.new 50, 3) := by decide +kernel
theorem dX6_relation_13 : decode cX6_relation 13 = .ok (.dup, 1) := by decide +kernel
theorem dX6_relation_14 : decode cX6_relation 14 = .ok (.ldc 52, 2) := by decide +kernel
theorem dX6_relation_16 : decode cX6_relation 16 = .ok (.invokespecial 54, 3) := by decide +kernel
theorem dX6_relation_19 : decode cX6_relation 19 = .ok (.athrow, 1) := by decide +kernel
theorem dX6_relation_20 : decode cX6_relation 20 = .ok (.aload_n 0, 1) := by decide +kernel
theorem dX6_relation_21 : decode cX6_relation 21 = .ok (.getfield 57, 3) := by decide +kernel
theorem dX6_relation_24 : decode cX6_relation 24 = .ok (.iconst 4, 1) := by decide +kernel
theorem dX6_relation_25 : decode cX6_relation 25 = .ok (.if_icmp .ne 13, 3) := by decide +kernel
theorem dX6_relation_28 : decode cX6_relation 28 = .ok (.new 60, 3) := by decide +kernel
theorem dX6_relation_31 : decode cX6_relation 31 = .ok (.dup, 1) := by decide +kernel
theorem dX6_relation_32 : decode cX6_relation 32 = .ok (.ldc 62, 2) := by decide +kernel
theorem dX6_relation_34 : decode cX6_relation 34 = .ok (.invokespecial 64, 3) := by decide +kernel
theorem dX6_relation_37 : decode cX6_relation 37 = .ok (.athrow, 1) := by decide +kernel
theorem dX6_relation_38 : decode cX6_relation 38 = .ok (.aload_n 0, 1) := by decide +kernel
theorem dX6_relation_39 : decode cX6_relation 39 = .ok (.getfield 11, 3) := by decide +kernel
theorem dX6_relation_42 : decode cX6_relation 42 = .ok (.aload_n 0, 1) := by decide +kernel
theorem dX6_relation_43 : decode cX6_relation 43 = .ok (.getfield 57, 3) := by decide +kernel
theorem dX6_relation_46 : decode cX6_relation 46 = .ok (.aaload, 1) := by decide +kernel
theorem dX6_relation_47 : decode cX6_relation 47 = .ok (.iload_n 1, 1) := by decide +kernel
theorem dX6_relation_48 : decode cX6_relation 48 = .ok (.putfield 65, 3) := by decide +kernel
theorem dX6_relation_51 : decode cX6_relation 51 = .ok (.aload_n 0, 1) := by decide +kernel
theorem dX6_relation_52 : decode cX6_relation 52 = .ok (.dup, 1) := by decide +kernel
theorem dX6_relation_53 : decode cX6_relation 53 = .ok (.getfield 57, 3) := by decide +kernel
theorem dX6_relation_56 : decode cX6_relation 56 = .ok (.iconst 1, 1) := by decide +kernel
theorem dX6_relation_57 : decode cX6_relation 57 = .ok (.iadd, 1) := by decide +kernel
theorem dX6_relation_58 : decode cX6_relation 58 = .ok (.putfield 57, 3) := by decide +kernel
theorem dX6_relation_61 : decode cX6_relation 61 = .ok (.aload_n 0, 1) := by decide +kernel
theorem dX6_relation_62 : decode cX6_relation 62 = .ok (.invokevirtual 68, 3) := by decide +kernel
theorem dX6_relation_65 : decode cX6_relation 65 = .ok (.aload_n 0, 1) := by decide +kernel
theorem dX6_relation_66 : decode cX6_relation 66 = .ok (.getfield 57, 3) := by decide +kernel
theorem dX6_relation_69 : decode cX6_relation 69 = .ok (.iconst 1, 1) := by decide +kernel
theorem dX6_relation_70 : decode cX6_relation 70 = .ok (.isub, 1) := by decide +kernel
theorem dX6_relation_71 : decode cX6_relation 71 = .ok (.ireturn, 1) := by decide +kernel
theorem dX6_mark_0 : decode cX6_mark 0 = .ok (.aload_n 0, 1) := by decide +kernel
theorem dX6_mark_1 : decode cX6_mark 1 = .ok (.iload_n 1, 1) := by decide +kernel
theorem dX6_mark_2 : decode cX6_mark 2 = .ok (.invokevirtual 71, 3) := by decide +kernel
theorem dX6_mark_5 : decode cX6_mark 5 = .ok (.ifCond .eq 19, 3) := by decide +kernel
theorem dX6_mark_8 : decode cX6_mark 8 = .ok (.aload_n 0, 1) := by decide +kernel
theorem dX6_mark_9 : decode cX6_mark 9 = .ok (.getfield 11, 3) := by decide +kernel
theorem dX6_mark_12 : decode cX6_mark 12 = .ok (.iload_n 1, 1) := by decide +kernel
theorem dX6_mark_13 : decode cX6_mark 13 = .ok (.aaload, 1) := by decide +kernel
theorem dX6_mark_14 : decode cX6_mark 14 = .ok (.iload_n 2, 1) := by decide +kernel
theorem dX6_mark_15 : decode cX6_mark 15 = .ok (.iload_n 3, 1) := by decide +kernel
theorem dX6_mark_16 : decode cX6_mark 16 = .ok (.iload 4, 2) := by decide +kernel
theorem dX6_mark_18 : decode cX6_mark 18 = .ok (.invokevirtual 75, 3) := by decide +kernel
theorem dX6_mark_21 : decode cX6_mark 21 = .ok (.ifCond .ne 13, 3) := by decide +kernel
theorem dX6_mark_24 : decode cX6_mark 24 = .ok (.new 50, 3) := by decide +kernel
theorem dX6_mark_27 : decode cX6_mark 27 = .ok (.dup, 1) := by decide +kernel
theorem dX6_mark_28 : decode cX6_mark 28 = .ok (.ldc 79, 2) := by decide +kernel
theorem dX6_mark_30 : decode cX6_mark 30 = .ok (.invokespecial 54, 3) := by decide +kernel
theorem dX6_mark_33 : decode cX6_mark 33 = .ok (.athrow, 1) := by decide +kernel
theorem dX6_mark_34 : decode cX6_mark 34 = .ok (.aload_n 0, 1) := by decide +kernel
theorem dX6_mark_35 : decode cX6_mark 35 = .ok (.getfield 11, 3) := by decide +kernel
theorem dX6_mark_38 : decode cX6_mark 38 = .ok (.iload_n 1, 1) := by decide +kernel
theorem dX6_mark_39 : decode cX6_mark 39 = .ok (.aaload, 1) := by decide +kernel
theorem dX6_mark_40 : decode cX6_mark 40 = .ok (.astore 5, 2) := by decide +kernel
theorem dX6_mark_42 : decode cX6_mark 42 = .ok (.aload 5, 2) := by decide +kernel
theorem dX6_mark_44 : decode cX6_mark 44 = .ok (.getfield 81, 3) := by decide +kernel
theorem dX6_mark_47 : decode cX6_mark 47 = .ok (.iconst 4, 1) := by decide +kernel
theorem dX6_mark_48 : decode cX6_mark 48 = .ok (.if_icmp .eq 15, 3) := by decide +kernel
theorem dX6_mark_51 : decode cX6_mark 51 = .ok (.aload 5, 2) := by decide +kernel
theorem dX6_mark_53 : decode cX6_mark 53 = .ok (.iload_n 2, 1) := by decide +kernel
theorem dX6_mark_54 : decode cX6_mark 54 = .ok (.iload_n 3, 1) := by decide +kernel
theorem dX6_mark_55 : decode cX6_mark 55 = .ok (.iload 4, 2) := by decide +kernel
theorem dX6_mark_57 : decode cX6_mark 57 = .ok (.invokevirtual 84, 3) := by decide +kernel
theorem dX6_mark_60 : decode cX6_mark 60 = .ok (.ifCond .eq 13, 3) := by decide +kernel
theorem dX6_mark_63 : decode cX6_mark 63 = .ok (.new 60, 3) := by decide +kernel
theorem dX6_mark_66 : decode cX6_mark 66 = .ok (.dup, 1) := by decide +kernel
theorem dX6_mark_67 : decode cX6_mark 67 = .ok (.ldc 87, 2) := by decide +kernel
theorem dX6_mark_69 : decode cX6_mark 69 = .ok (.invokespecial 64, 3) := by decide +kernel
theorem dX6_mark_72 : decode cX6_mark 72 = .ok (.athrow, 1) := by decide +kernel
theorem dX6_mark_73 : decode cX6_mark 73 = .ok (.aload 5, 2) := by decide +kernel
theorem dX6_mark_75 : decode cX6_mark 75 = .ok (.iload_n 2, 1) := by decide +kernel
theorem dX6_mark_76 : decode cX6_mark 76 = .ok (.iload_n 3, 1) := by decide +kernel
theorem dX6_mark_77 : decode cX6_mark 77 = .ok (.iload 4, 2) := by decide +kernel
theorem dX6_mark_79 : decode cX6_mark 79 = .ok (.invokevirtual 89, 3) := by decide +kernel
theorem dX6_mark_82 : decode cX6_mark 82 = .ok (.aload_n 0, 1) := by decide +kernel
theorem dX6_mark_83 : decode cX6_mark 83 = .ok (.invokevirtual 68, 3) := by decide +kernel
theorem dX6_mark_86 : decode cX6_mark 86 = .ok (.aload 5, 2) := by decide +kernel
theorem dX6_mark_88 : decode cX6_mark 88 = .ok (.getfield 81, 3) := by decide +kernel
theorem dX6_mark_91 : decode cX6_mark 91 = .ok (.iconst 1, 1) := by decide +kernel
theorem dX6_mark_92 : decode cX6_mark 92 = .ok (.isub, 1) := by decide +kernel
theorem dX6_mark_93 : decode cX6_mark 93 = .ok (.ireturn, 1) := by decide +kernel
theorem dX6_clause_0 : decode cX6_clause 0 = .ok (.iload_n 1, 1) := by decide +kernel
theorem dX6_clause_1 : decode cX6_clause 1 = .ok (.iconst (-1), 1) := by decide +kernel
theorem dX6_clause_2 : decode cX6_clause 2 = .ok (.if_icmp .eq 23, 3) := by decide +kernel
theorem dX6_clause_5 : decode cX6_clause 5 = .ok (.aload_n 0, 1) := by decide +kernel
theorem dX6_clause_6 : decode cX6_clause 6 = .ok (.iload_n 1, 1) := by decide +kernel
theorem dX6_clause_7 : decode cX6_clause 7 = .ok (.iload_n 2, 1) := by decide +kernel
theorem dX6_clause_8 : decode cX6_clause 8 = .ok (.iload_n 3, 1) := by decide +kernel
theorem dX6_clause_9 : decode cX6_clause 9 = .ok (.invokevirtual 93, 3) := by decide +kernel
theorem dX6_clause_12 : decode cX6_clause 12 = .ok (.ifCond .ne 13, 3) := by decide +kernel
theorem dX6_clause_15 : decode cX6_clause 15 = .ok (.new 50, 3) := by decide +kernel
theorem dX6_clause_18 : decode cX6_clause 18 = .ok (.dup, 1) := by decide +kernel
theorem dX6_clause_19 : decode cX6_clause 19 = .ok (.ldc 96, 2) := by decide +kernel
theorem dX6_clause_21 : decode cX6_clause 21 = .ok (.invokespecial 54, 3) := by decide +kernel
theorem dX6_clause_24 : decode cX6_clause 24 = .ok (.athrow, 1) := by decide +kernel
theorem dX6_clause_25 : decode cX6_clause 25 = .ok (.aload_n 0, 1) := by decide +kernel
theorem dX6_clause_26 : decode cX6_clause 26 = .ok (.getfield 98, 3) := by decide +kernel
theorem dX6_clause_29 : decode cX6_clause 29 = .ok (.bipush 12, 2) := by decide +kernel
theorem dX6_clause_31 : decode cX6_clause 31 = .ok (.if_icmp .ne 13, 3) := by decide +kernel
theorem dX6_clause_34 : decode cX6_clause 34 = .ok (.new 60, 3) := by decide +kernel
theorem dX6_clause_37 : decode cX6_clause 37 = .ok (.dup, 1) := by decide +kernel
theorem dX6_clause_38 : decode cX6_clause 38 = .ok (.ldc 101, 2) := by decide +kernel
theorem dX6_clause_40 : decode cX6_clause 40 = .ok (.invokespecial 64, 3) := by decide +kernel
theorem dX6_clause_43 : decode cX6_clause 43 = .ok (.athrow, 1) := by decide +kernel
theorem dX6_clause_44 : decode cX6_clause 44 = .ok (.aload_n 0, 1) := by decide +kernel
theorem dX6_clause_45 : decode cX6_clause 45 = .ok (.aload_n 0, 1) := by decide +kernel
theorem dX6_clause_46 : decode cX6_clause 46 = .ok (.getfield 17, 3) := by decide +kernel
theorem dX6_clause_49 : decode cX6_clause 49 = .ok (.aload_n 0, 1) := by decide +kernel
theorem dX6_clause_50 : decode cX6_clause 50 = .ok (.getfield 98, 3) := by decide +kernel
theorem dX6_clause_53 : decode cX6_clause 53 = .ok (.aaload, 1) := by decide +kernel
theorem dX6_clause_54 : decode cX6_clause 54 = .ok (.getfield 103, 3) := by decide +kernel
theorem dX6_clause_57 : decode cX6_clause 57 = .ok (.iload_n 1, 1) := by decide +kernel
theorem dX6_clause_58 : decode cX6_clause 58 = .ok (.iload_n 2, 1) := by decide +kernel
theorem dX6_clause_59 : decode cX6_clause 59 = .ok (.iload_n 3, 1) := by decide +kernel
theorem dX6_clause_60 : decode cX6_clause 60 = .ok (.invokevirtual 107, 3) := by decide +kernel
theorem dX6_clause_63 : decode cX6_clause 63 = .ok (.aload_n 0, 1) := by decide +kernel
theorem dX6_clause_64 : decode cX6_clause 64 = .ok (.dup, 1) := by decide +kernel
theorem dX6_clause_65 : decode cX6_clause 65 = .ok (.getfield 98, 3) := by decide +kernel
theorem dX6_clause_68 : decode cX6_clause 68 = .ok (.iconst 1, 1) := by decide +kernel
theorem dX6_clause_69 : decode cX6_clause 69 = .ok (.iadd, 1) := by decide +kernel
theorem dX6_clause_70 : decode cX6_clause 70 = .ok (.putfield 98, 3) := by decide +kernel
theorem dX6_clause_73 : decode cX6_clause 73 = .ok (.aload_n 0, 1) := by decide +kernel
theorem dX6_clause_74 : decode cX6_clause 74 = .ok (.invokevirtual 68, 3) := by decide +kernel
theorem dX6_clause_77 : decode cX6_clause 77 = .ok (.aload_n 0, 1) := by decide +kernel
theorem dX6_clause_78 : decode cX6_clause 78 = .ok (.getfield 98, 3) := by decide +kernel
theorem dX6_clause_81 : decode cX6_clause 81 = .ok (.iconst 1, 1) := by decide +kernel
theorem dX6_clause_82 : decode cX6_clause 82 = .ok (.isub, 1) := by decide +kernel
theorem dX6_clause_83 : decode cX6_clause 83 = .ok (.ireturn, 1) := by decide +kernel
theorem dX6_atom_0 : decode cX6_atom 0 = .ok (.aload_n 0, 1) := by decide +kernel
theorem dX6_atom_1 : decode cX6_atom 1 = .ok (.iload_n 1, 1) := by decide +kernel
theorem dX6_atom_2 : decode cX6_atom 2 = .ok (.iload_n 2, 1) := by decide +kernel
theorem dX6_atom_3 : decode cX6_atom 3 = .ok (.iload_n 3, 1) := by decide +kernel
theorem dX6_atom_4 : decode cX6_atom 4 = .ok (.invokevirtual 93, 3) := by decide +kernel
theorem dX6_atom_7 : decode cX6_atom 7 = .ok (.ifCond .ne 13, 3) := by decide +kernel
theorem dX6_atom_10 : decode cX6_atom 10 = .ok (.new 50, 3) := by decide +kernel
theorem dX6_atom_13 : decode cX6_atom 13 = .ok (.dup, 1) := by decide +kernel
theorem dX6_atom_14 : decode cX6_atom 14 = .ok (.ldc 96, 2) := by decide +kernel
theorem dX6_atom_16 : decode cX6_atom 16 = .ok (.invokespecial 54, 3) := by decide +kernel
theorem dX6_atom_19 : decode cX6_atom 19 = .ok (.athrow, 1) := by decide +kernel
theorem dX6_atom_20 : decode cX6_atom 20 = .ok (.aload_n 0, 1) := by decide +kernel
theorem dX6_atom_21 : decode cX6_atom 21 = .ok (.getfield 98, 3) := by decide +kernel
theorem dX6_atom_24 : decode cX6_atom 24 = .ok (.ifCond .eq 21, 3) := by decide +kernel
theorem dX6_atom_27 : decode cX6_atom 27 = .ok (.aload_n 0, 1) := by decide +kernel
theorem dX6_atom_28 : decode cX6_atom 28 = .ok (.getfield 17, 3) := by decide +kernel
theorem dX6_atom_31 : decode cX6_atom 31 = .ok (.aload_n 0, 1) := by decide +kernel
theorem dX6_atom_32 : decode cX6_atom 32 = .ok (.getfield 98, 3) := by decide +kernel
theorem dX6_atom_35 : decode cX6_atom 35 = .ok (.iconst 1, 1) := by decide +kernel
theorem dX6_atom_36 : decode cX6_atom 36 = .ok (.isub, 1) := by decide +kernel
theorem dX6_atom_37 : decode cX6_atom 37 = .ok (.aaload, 1) := by decide +kernel
theorem dX6_atom_38 : decode cX6_atom 38 = .ok (.getfield 111, 3) := by decide +kernel
theorem dX6_atom_41 : decode cX6_atom 41 = .ok (.iconst 2, 1) := by decide +kernel
theorem dX6_atom_42 : decode cX6_atom 42 = .ok (.if_icmp .ne 13, 3) := by decide +kernel
theorem dX6_atom_45 : decode cX6_atom 45 = .ok (.new 60, 3) := by decide +kernel
theorem dX6_atom_48 : decode cX6_atom 48 = .ok (.dup, 1) := by decide +kernel
theorem dX6_atom_49 : decode cX6_atom 49 = .ok (.ldc 114, 2) := by decide +kernel
theorem dX6_atom_51 : decode cX6_atom 51 = .ok (.invokespecial 64, 3) := by decide +kernel
theorem dX6_atom_54 : decode cX6_atom 54 = .ok (.athrow, 1) := by decide +kernel
theorem dX6_atom_55 : decode cX6_atom 55 = .ok (.aload_n 0, 1) := by decide +kernel
theorem dX6_atom_56 : decode cX6_atom 56 = .ok (.getfield 17, 3) := by decide +kernel
theorem dX6_atom_59 : decode cX6_atom 59 = .ok (.aload_n 0, 1) := by decide +kernel
theorem dX6_atom_60 : decode cX6_atom 60 = .ok (.getfield 98, 3) := by decide +kernel
theorem dX6_atom_63 : decode cX6_atom 63 = .ok (.iconst 1, 1) := by decide +kernel
theorem dX6_atom_64 : decode cX6_atom 64 = .ok (.isub, 1) := by decide +kernel
theorem dX6_atom_65 : decode cX6_atom 65 = .ok (.aaload, 1) := by decide +kernel
theorem dX6_atom_66 : decode cX6_atom 66 = .ok (.astore 4, 2) := by decide +kernel
theorem dX6_atom_68 : decode cX6_atom 68 = .ok (.aload_n 0, 1) := by decide +kernel
theorem dX6_atom_69 : decode cX6_atom 69 = .ok (.aload 4, 2) := by decide +kernel
theorem dX6_atom_71 : decode cX6_atom 71 = .ok (.getfield 116, 3) := by decide +kernel
theorem dX6_atom_74 : decode cX6_atom 74 = .ok (.aload 4, 2) := by decide +kernel
theorem dX6_atom_76 : decode cX6_atom 76 = .ok (.getfield 111, 3) := by decide +kernel
theorem dX6_atom_79 : decode cX6_atom 79 = .ok (.aaload, 1) := by decide +kernel
theorem dX6_atom_80 : decode cX6_atom 80 = .ok (.iload_n 1, 1) := by decide +kernel
theorem dX6_atom_81 : decode cX6_atom 81 = .ok (.iload_n 2, 1) := by decide +kernel
theorem dX6_atom_82 : decode cX6_atom 82 = .ok (.iload_n 3, 1) := by decide +kernel
theorem dX6_atom_83 : decode cX6_atom 83 = .ok (.invokevirtual 107, 3) := by decide +kernel
theorem dX6_atom_86 : decode cX6_atom 86 = .ok (.aload 4, 2) := by decide +kernel
theorem dX6_atom_88 : decode cX6_atom 88 = .ok (.dup, 1) := by decide +kernel
theorem dX6_atom_89 : decode cX6_atom 89 = .ok (.getfield 111, 3) := by decide +kernel
theorem dX6_atom_92 : decode cX6_atom 92 = .ok (.iconst 1, 1) := by decide +kernel
theorem dX6_atom_93 : decode cX6_atom 93 = .ok (.iadd, 1) := by decide +kernel
theorem dX6_atom_94 : decode cX6_atom 94 = .ok (.putfield 111, 3) := by decide +kernel
theorem dX6_atom_97 : decode cX6_atom 97 = .ok (.aload_n 0, 1) := by decide +kernel
theorem dX6_atom_98 : decode cX6_atom 98 = .ok (.invokevirtual 68, 3) := by decide +kernel
theorem dX6_atom_101 : decode cX6_atom 101 = .ok (.aload 4, 2) := by decide +kernel
theorem dX6_atom_103 : decode cX6_atom 103 = .ok (.getfield 111, 3) := by decide +kernel
theorem dX6_atom_106 : decode cX6_atom 106 = .ok (.iconst 1, 1) := by decide +kernel
theorem dX6_atom_107 : decode cX6_atom 107 = .ok (.isub, 1) := by decide +kernel
theorem dX6_atom_108 : decode cX6_atom 108 = .ok (.ireturn, 1) := by decide +kernel
theorem dX6_bound_0 : decode cX6_bound 0 = .ok (.iload_n 1, 1) := by decide +kernel
theorem dX6_bound_1 : decode cX6_bound 1 = .ok (.iload_n 2, 1) := by decide +kernel
theorem dX6_bound_2 : decode cX6_bound 2 = .ok (.invokestatic 120, 3) := by decide +kernel
theorem dX6_bound_5 : decode cX6_bound 5 = .ok (.ifCond .eq 10, 3) := by decide +kernel
theorem dX6_bound_8 : decode cX6_bound 8 = .ok (.iload_n 3, 1) := by decide +kernel
theorem dX6_bound_9 : decode cX6_bound 9 = .ok (.invokestatic 124, 3) := by decide +kernel
theorem dX6_bound_12 : decode cX6_bound 12 = .ok (.ifCond .ne 13, 3) := by decide +kernel
theorem dX6_bound_15 : decode cX6_bound 15 = .ok (.new 50, 3) := by decide +kernel
theorem dX6_bound_18 : decode cX6_bound 18 = .ok (.dup, 1) := by decide +kernel
theorem dX6_bound_19 : decode cX6_bound 19 = .ok (.ldc 127, 2) := by decide +kernel
theorem dX6_bound_21 : decode cX6_bound 21 = .ok (.invokespecial 54, 3) := by decide +kernel
theorem dX6_bound_24 : decode cX6_bound 24 = .ok (.athrow, 1) := by decide +kernel
theorem dX6_bound_25 : decode cX6_bound 25 = .ok (.aload_n 0, 1) := by decide +kernel
theorem dX6_bound_26 : decode cX6_bound 26 = .ok (.getfield 98, 3) := by decide +kernel
theorem dX6_bound_29 : decode cX6_bound 29 = .ok (.ifCond .eq 22, 3) := by decide +kernel
theorem dX6_bound_32 : decode cX6_bound 32 = .ok (.aload_n 0, 1) := by decide +kernel
theorem dX6_bound_33 : decode cX6_bound 33 = .ok (.getfield 17, 3) := by decide +kernel
theorem dX6_bound_36 : decode cX6_bound 36 = .ok (.aload_n 0, 1) := by decide +kernel
theorem dX6_bound_37 : decode cX6_bound 37 = .ok (.getfield 98, 3) := by decide +kernel
theorem dX6_bound_40 : decode cX6_bound 40 = .ok (.iconst 1, 1) := by decide +kernel
theorem dX6_bound_41 : decode cX6_bound 41 = .ok (.isub, 1) := by decide +kernel
theorem dX6_bound_42 : decode cX6_bound 42 = .ok (.aaload, 1) := by decide +kernel
theorem dX6_bound_43 : decode cX6_bound 43 = .ok (.getfield 129, 3) := by decide +kernel
theorem dX6_bound_46 : decode cX6_bound 46 = .ok (.bipush 8, 2) := by decide +kernel
theorem dX6_bound_48 : decode cX6_bound 48 = .ok (.if_icmp .ne 13, 3) := by decide +kernel
theorem dX6_bound_51 : decode cX6_bound 51 = .ok (.new 60, 3) := by decide +kernel
theorem dX6_bound_54 : decode cX6_bound 54 = .ok (.dup, 1) := by decide +kernel
theorem dX6_bound_55 : decode cX6_bound 55 = .ok (.ldc 132, 2) := by decide +kernel
theorem dX6_bound_57 : decode cX6_bound 57 = .ok (.invokespecial 64, 3) := by decide +kernel
theorem dX6_bound_60 : decode cX6_bound 60 = .ok (.athrow, 1) := by decide +kernel
theorem dX6_bound_61 : decode cX6_bound 61 = .ok (.aload_n 0, 1) := by decide +kernel
theorem dX6_bound_62 : decode cX6_bound 62 = .ok (.getfield 17, 3) := by decide +kernel
theorem dX6_bound_65 : decode cX6_bound 65 = .ok (.aload_n 0, 1) := by decide +kernel
theorem dX6_bound_66 : decode cX6_bound 66 = .ok (.getfield 98, 3) := by decide +kernel
theorem dX6_bound_69 : decode cX6_bound 69 = .ok (.iconst 1, 1) := by decide +kernel
theorem dX6_bound_70 : decode cX6_bound 70 = .ok (.isub, 1) := by decide +kernel
theorem dX6_bound_71 : decode cX6_bound 71 = .ok (.aaload, 1) := by decide +kernel
theorem dX6_bound_72 : decode cX6_bound 72 = .ok (.astore 4, 2) := by decide +kernel
theorem dX6_bound_74 : decode cX6_bound 74 = .ok (.aload 4, 2) := by decide +kernel
theorem dX6_bound_76 : decode cX6_bound 76 = .ok (.getfield 134, 3) := by decide +kernel
theorem dX6_bound_79 : decode cX6_bound 79 = .ok (.iload_n 1, 1) := by decide +kernel
theorem dX6_bound_80 : decode cX6_bound 80 = .ok (.iload_n 2, 1) := by decide +kernel
theorem dX6_bound_81 : decode cX6_bound 81 = .ok (.iload_n 3, 1) := by decide +kernel
theorem dX6_bound_82 : decode cX6_bound 82 = .ok (.invokevirtual 137, 3) := by decide +kernel
theorem dX6_bound_85 : decode cX6_bound 85 = .ok (.aload 4, 2) := by decide +kernel
theorem dX6_bound_87 : decode cX6_bound 87 = .ok (.dup, 1) := by decide +kernel
theorem dX6_bound_88 : decode cX6_bound 88 = .ok (.getfield 129, 3) := by decide +kernel
theorem dX6_bound_91 : decode cX6_bound 91 = .ok (.iconst 1, 1) := by decide +kernel
theorem dX6_bound_92 : decode cX6_bound 92 = .ok (.iadd, 1) := by decide +kernel
theorem dX6_bound_93 : decode cX6_bound 93 = .ok (.putfield 129, 3) := by decide +kernel
theorem dX6_bound_96 : decode cX6_bound 96 = .ok (.aload_n 0, 1) := by decide +kernel
theorem dX6_bound_97 : decode cX6_bound 97 = .ok (.invokevirtual 68, 3) := by decide +kernel
theorem dX6_bound_100 : decode cX6_bound 100 = .ok (.aload 4, 2) := by decide +kernel
theorem dX6_bound_102 : decode cX6_bound 102 = .ok (.getfield 129, 3) := by decide +kernel
theorem dX6_bound_105 : decode cX6_bound 105 = .ok (.ireturn, 1) := by decide +kernel
theorem dX6_round_0 : decode cX6_round 0 = .ok (.aload_n 0, 1) := by decide +kernel
theorem dX6_round_1 : decode cX6_round 1 = .ok (.getfield 47, 3) := by decide +kernel
theorem dX6_round_4 : decode cX6_round 4 = .ok (.ifCond .ne 11, 3) := by decide +kernel
theorem dX6_round_7 : decode cX6_round 7 = .ok (.aload_n 0, 1) := by decide +kernel
theorem dX6_round_8 : decode cX6_round 8 = .ok (.getfield 43, 3) := by decide +kernel
theorem dX6_round_11 : decode cX6_round 11 = .ok (.iconst (-1), 1) := by decide +kernel
theorem dX6_round_12 : decode cX6_round 12 = .ok (.if_icmp .eq 13, 3) := by decide +kernel
theorem dX6_round_15 : decode cX6_round 15 = .ok (.new 60, 3) := by decide +kernel
theorem dX6_round_18 : decode cX6_round 18 = .ok (.dup, 1) := by decide +kernel
theorem dX6_round_19 : decode cX6_round 19 = .ok (.ldc 140, 2) := by decide +kernel
theorem dX6_round_21 : decode cX6_round 21 = .ok (.invokespecial 64, 3) := by decide +kernel
theorem dX6_round_24 : decode cX6_round 24 = .ok (.athrow, 1) := by decide +kernel
theorem dX6_round_25 : decode cX6_round 25 = .ok (.aload_n 0, 1) := by decide +kernel
theorem dX6_round_26 : decode cX6_round 26 = .ok (.invokevirtual 142, 3) := by decide +kernel
theorem dX6_round_29 : decode cX6_round 29 = .ok (.ireturn, 1) := by decide +kernel
theorem dX6_refine_0 : decode cX6_refine 0 = .ok (.aload_n 0, 1) := by decide +kernel
theorem dX6_refine_1 : decode cX6_refine 1 = .ok (.getfield 47, 3) := by decide +kernel
theorem dX6_refine_4 : decode cX6_refine 4 = .ok (.ifCond .ne 11, 3) := by decide +kernel
theorem dX6_refine_7 : decode cX6_refine 7 = .ok (.aload_n 0, 1) := by decide +kernel
theorem dX6_refine_8 : decode cX6_refine 8 = .ok (.getfield 43, 3) := by decide +kernel
theorem dX6_refine_11 : decode cX6_refine 11 = .ok (.iconst (-1), 1) := by decide +kernel
theorem dX6_refine_12 : decode cX6_refine 12 = .ok (.if_icmp .ne 13, 3) := by decide +kernel
theorem dX6_refine_15 : decode cX6_refine 15 = .ok (.new 60, 3) := by decide +kernel
theorem dX6_refine_18 : decode cX6_refine 18 = .ok (.dup, 1) := by decide +kernel
theorem dX6_refine_19 : decode cX6_refine 19 = .ok (.ldc 146, 2) := by decide +kernel
theorem dX6_refine_21 : decode cX6_refine 21 = .ok (.invokespecial 64, 3) := by decide +kernel
theorem dX6_refine_24 : decode cX6_refine 24 = .ok (.athrow, 1) := by decide +kernel
theorem dX6_refine_25 : decode cX6_refine 25 = .ok (.aload_n 0, 1) := by decide +kernel
theorem dX6_refine_26 : decode cX6_refine 26 = .ok (.invokevirtual 148, 3) := by decide +kernel
theorem dX6_refine_29 : decode cX6_refine 29 = .ok (.ireturn, 1) := by decide +kernel
theorem dX6_verify_0 : decode cX6_verify 0 = .ok (.iload_n 1, 1) := by decide +kernel
theorem dX6_verify_1 : decode cX6_verify 1 = .ok (.ifCond .lt 9, 3) := by decide +kernel
theorem dX6_verify_4 : decode cX6_verify 4 = .ok (.iload_n 1, 1) := by decide +kernel
theorem dX6_verify_5 : decode cX6_verify 5 = .ok (.bipush 100, 2) := by decide +kernel
theorem dX6_verify_7 : decode cX6_verify 7 = .ok (.if_icmp .le 13, 3) := by decide +kernel
theorem dX6_verify_10 : decode cX6_verify 10 = .ok (.new 50, 3) := by decide +kernel
theorem dX6_verify_13 : decode cX6_verify 13 = .ok (.dup, 1) := by decide +kernel
theorem dX6_verify_14 : decode cX6_verify 14 = .ok (.ldc 151, 2) := by decide +kernel
theorem dX6_verify_16 : decode cX6_verify 16 = .ok (.invokespecial 54, 3) := by decide +kernel
theorem dX6_verify_19 : decode cX6_verify 19 = .ok (.athrow, 1) := by decide +kernel
theorem dX6_verify_20 : decode cX6_verify 20 = .ok (.iconst 0, 1) := by decide +kernel
theorem dX6_verify_21 : decode cX6_verify 21 = .ok (.istore_n 2, 1) := by decide +kernel
theorem dX6_verify_22 : decode cX6_verify 22 = .ok (.iload_n 2, 1) := by decide +kernel
theorem dX6_verify_23 : decode cX6_verify 23 = .ok (.iload_n 1, 1) := by decide +kernel
theorem dX6_verify_24 : decode cX6_verify 24 = .ok (.if_icmp .ge 37, 3) := by decide +kernel
theorem dX6_verify_27 : decode cX6_verify 27 = .ok (.aload_n 0, 1) := by decide +kernel
theorem dX6_verify_28 : decode cX6_verify 28 = .ok (.getfield 47, 3) := by decide +kernel
theorem dX6_verify_31 : decode cX6_verify 31 = .ok (.ifCond .ne 30, 3) := by decide +kernel
theorem dX6_verify_34 : decode cX6_verify 34 = .ok (.aload_n 0, 1) := by decide +kernel
theorem dX6_verify_35 : decode cX6_verify 35 = .ok (.getfield 43, 3) := by decide +kernel
theorem dX6_verify_38 : decode cX6_verify 38 = .ok (.iconst (-1), 1) := by decide +kernel
theorem dX6_verify_39 : decode cX6_verify 39 = .ok (.if_icmp .ne 11, 3) := by decide +kernel
theorem dX6_verify_42 : decode cX6_verify 42 = .ok (.aload_n 0, 1) := by decide +kernel
theorem dX6_verify_43 : decode cX6_verify 43 = .ok (.invokevirtual 142, 3) := by decide +kernel
theorem dX6_verify_46 : decode cX6_verify 46 = .ok (.pop, 1) := by decide +kernel
theorem dX6_verify_47 : decode cX6_verify 47 = .ok (.goto 8, 3) := by decide +kernel
theorem dX6_verify_50 : decode cX6_verify 50 = .ok (.aload_n 0, 1) := by decide +kernel
theorem dX6_verify_51 : decode cX6_verify 51 = .ok (.invokevirtual 148, 3) := by decide +kernel
theorem dX6_verify_54 : decode cX6_verify 54 = .ok (.pop, 1) := by decide +kernel
theorem dX6_verify_55 : decode cX6_verify 55 = .ok (.iinc 2 1, 3) := by decide +kernel
theorem dX6_verify_58 : decode cX6_verify 58 = .ok (.goto (-36), 3) := by decide +kernel
theorem dX6_verify_61 : decode cX6_verify 61 = .ok (.aload_n 0, 1) := by decide +kernel
theorem dX6_verify_62 : decode cX6_verify 62 = .ok (.getfield 47, 3) := by decide +kernel
theorem dX6_verify_65 : decode cX6_verify 65 = .ok (.ireturn, 1) := by decide +kernel
theorem dX6_start_0 : decode cX6_start 0 = .ok (.aload_n 0, 1) := by decide +kernel
theorem dX6_start_1 : decode cX6_start 1 = .ok (.invokevirtual 68, 3) := by decide +kernel
theorem dX6_start_4 : decode cX6_start 4 = .ok (.return_, 1) := by decide +kernel
theorem dX6_check_0 : decode cX6_check 0 = .ok (.iconst 0, 1) := by decide +kernel
theorem dX6_check_1 : decode cX6_check 1 = .ok (.istore_n 1, 1) := by decide +kernel
theorem dX6_check_2 : decode cX6_check 2 = .ok (.iload_n 1, 1) := by decide +kernel
theorem dX6_check_3 : decode cX6_check 3 = .ok (.aload_n 0, 1) := by decide +kernel
theorem dX6_check_4 : decode cX6_check 4 = .ok (.getfield 98, 3) := by decide +kernel
theorem dX6_check_7 : decode cX6_check 7 = .ok (.if_icmp .ge 24, 3) := by decide +kernel
theorem dX6_check_10 : decode cX6_check 10 = .ok (.aload_n 0, 1) := by decide +kernel
theorem dX6_check_11 : decode cX6_check 11 = .ok (.aload_n 0, 1) := by decide +kernel
theorem dX6_check_12 : decode cX6_check 12 = .ok (.getfield 17, 3) := by decide +kernel
theorem dX6_check_15 : decode cX6_check 15 = .ok (.iload_n 1, 1) := by decide +kernel
theorem dX6_check_16 : decode cX6_check 16 = .ok (.aaload, 1) := by decide +kernel
theorem dX6_check_17 : decode cX6_check 17 = .ok (.invokevirtual 153, 3) := by decide +kernel
theorem dX6_check_20 : decode cX6_check 20 = .ok (.ifCond .ne 5, 3) := by decide +kernel
theorem dX6_check_23 : decode cX6_check 23 = .ok (.iload_n 1, 1) := by decide +kernel
theorem dX6_check_24 : decode cX6_check 24 = .ok (.ireturn, 1) := by decide +kernel
theorem dX6_check_25 : decode cX6_check 25 = .ok (.iinc 1 1, 3) := by decide +kernel
theorem dX6_check_28 : decode cX6_check 28 = .ok (.goto (-26), 3) := by decide +kernel
theorem dX6_check_31 : decode cX6_check 31 = .ok (.iconst (-1), 1) := by decide +kernel
theorem dX6_check_32 : decode cX6_check 32 = .ok (.ireturn, 1) := by decide +kernel
theorem dX6_follows_0 : decode cX6_follows 0 = .ok (.iload_n 1, 1) := by decide +kernel
theorem dX6_follows_1 : decode cX6_follows 1 = .ok (.ifCond .lt 19, 3) := by decide +kernel
theorem dX6_follows_4 : decode cX6_follows 4 = .ok (.iload_n 1, 1) := by decide +kernel
theorem dX6_follows_5 : decode cX6_follows 5 = .ok (.aload_n 0, 1) := by decide +kernel
theorem dX6_follows_6 : decode cX6_follows 6 = .ok (.getfield 98, 3) := by decide +kernel
theorem dX6_follows_9 : decode cX6_follows 9 = .ok (.if_icmp .ge 11, 3) := by decide +kernel
theorem dX6_follows_12 : decode cX6_follows 12 = .ok (.iload_n 2, 1) := by decide +kernel
theorem dX6_follows_13 : decode cX6_follows 13 = .ok (.iload_n 3, 1) := by decide +kernel
theorem dX6_follows_14 : decode cX6_follows 14 = .ok (.invokestatic 120, 3) := by decide +kernel
theorem dX6_follows_17 : decode cX6_follows 17 = .ok (.ifCond .ne 13, 3) := by decide +kernel
theorem dX6_follows_20 : decode cX6_follows 20 = .ok (.new 50, 3) := by decide +kernel
theorem dX6_follows_23 : decode cX6_follows 23 = .ok (.dup, 1) := by decide +kernel
theorem dX6_follows_24 : decode cX6_follows 24 = .ok (.ldc 157, 2) := by decide +kernel
theorem dX6_follows_26 : decode cX6_follows 26 = .ok (.invokespecial 54, 3) := by decide +kernel
theorem dX6_follows_29 : decode cX6_follows 29 = .ok (.athrow, 1) := by decide +kernel
theorem dX6_follows_30 : decode cX6_follows 30 = .ok (.aload_n 0, 1) := by decide +kernel
theorem dX6_follows_31 : decode cX6_follows 31 = .ok (.getfield 17, 3) := by decide +kernel
theorem dX6_follows_34 : decode cX6_follows 34 = .ok (.iload_n 1, 1) := by decide +kernel
theorem dX6_follows_35 : decode cX6_follows 35 = .ok (.aaload, 1) := by decide +kernel
theorem dX6_follows_36 : decode cX6_follows 36 = .ok (.getfield 134, 3) := by decide +kernel
theorem dX6_follows_39 : decode cX6_follows 39 = .ok (.astore 4, 2) := by decide +kernel
theorem dX6_follows_41 : decode cX6_follows 41 = .ok (.aload 4, 2) := by decide +kernel
theorem dX6_follows_43 : decode cX6_follows 43 = .ok (.getfield 159, 3) := by decide +kernel
theorem dX6_follows_46 : decode cX6_follows 46 = .ok (.ifCond .ne 13, 3) := by decide +kernel
theorem dX6_follows_49 : decode cX6_follows 49 = .ok (.new 163, 3) := by decide +kernel
theorem dX6_follows_52 : decode cX6_follows 52 = .ok (.dup, 1) := by decide +kernel
theorem dX6_follows_53 : decode cX6_follows 53 = .ok (.ldc 165, 2) := by decide +kernel
theorem dX6_follows_55 : decode cX6_follows 55 = .ok (.invokespecial 167, 3) := by decide +kernel
theorem dX6_follows_58 : decode cX6_follows 58 = .ok (.athrow, 1) := by decide +kernel
theorem dX6_follows_59 : decode cX6_follows 59 = .ok (.aload 4, 2) := by decide +kernel
theorem dX6_follows_61 : decode cX6_follows 61 = .ok (.iload_n 2, 1) := by decide +kernel
theorem dX6_follows_62 : decode cX6_follows 62 = .ok (.iload_n 3, 1) := by decide +kernel
theorem dX6_follows_63 : decode cX6_follows 63 = .ok (.invokevirtual 168, 3) := by decide +kernel
theorem dX6_follows_66 : decode cX6_follows 66 = .ok (.istore 5, 2) := by decide +kernel
theorem dX6_follows_68 : decode cX6_follows 68 = .ok (.iload 5, 2) := by decide +kernel
theorem dX6_follows_70 : decode cX6_follows 70 = .ok (.ldc 172, 2) := by decide +kernel
theorem dX6_follows_72 : decode cX6_follows 72 = .ok (.if_icmp .ne 13, 3) := by decide +kernel
theorem dX6_follows_75 : decode cX6_follows 75 = .ok (.new 173, 3) := by decide +kernel
theorem dX6_follows_78 : decode cX6_follows 78 = .ok (.dup, 1) := by decide +kernel
theorem dX6_follows_79 : decode cX6_follows 79 = .ok (.ldc 175, 2) := by decide +kernel
theorem dX6_follows_81 : decode cX6_follows 81 = .ok (.invokespecial 177, 3) := by decide +kernel
theorem dX6_follows_84 : decode cX6_follows 84 = .ok (.athrow, 1) := by decide +kernel
theorem dX6_follows_85 : decode cX6_follows 85 = .ok (.iload 5, 2) := by decide +kernel
theorem dX6_follows_87 : decode cX6_follows 87 = .ok (.ireturn, 1) := by decide +kernel
theorem dX6_state_0 : decode cX6_state 0 = .ok (.iload_n 1, 1) := by decide +kernel
theorem dX6_state_1 : decode cX6_state 1 = .ok (.tableswitch 81 0 6 #[43, 48, 53, 58, 63, 68, 76], 43) := by decide +kernel
theorem dX6_state_44 : decode cX6_state 44 = .ok (.aload_n 0, 1) := by decide +kernel
theorem dX6_state_45 : decode cX6_state 45 = .ok (.getfield 57, 3) := by decide +kernel
theorem dX6_state_48 : decode cX6_state 48 = .ok (.ireturn, 1) := by decide +kernel
theorem dX6_state_49 : decode cX6_state 49 = .ok (.aload_n 0, 1) := by decide +kernel
theorem dX6_state_50 : decode cX6_state 50 = .ok (.getfield 98, 3) := by decide +kernel
theorem dX6_state_53 : decode cX6_state 53 = .ok (.ireturn, 1) := by decide +kernel
theorem dX6_state_54 : decode cX6_state 54 = .ok (.aload_n 0, 1) := by decide +kernel
theorem dX6_state_55 : decode cX6_state 55 = .ok (.getfield 47, 3) := by decide +kernel
theorem dX6_state_58 : decode cX6_state 58 = .ok (.ireturn, 1) := by decide +kernel
theorem dX6_state_59 : decode cX6_state 59 = .ok (.aload_n 0, 1) := by decide +kernel
theorem dX6_state_60 : decode cX6_state 60 = .ok (.getfield 178, 3) := by decide +kernel
theorem dX6_state_63 : decode cX6_state 63 = .ok (.ireturn, 1) := by decide +kernel
theorem dX6_state_64 : decode cX6_state 64 = .ok (.aload_n 0, 1) := by decide +kernel
theorem dX6_state_65 : decode cX6_state 65 = .ok (.getfield 43, 3) := by decide +kernel
theorem dX6_state_68 : decode cX6_state 68 = .ok (.ireturn, 1) := by decide +kernel
theorem dX6_state_69 : decode cX6_state 69 = .ok (.aload_n 0, 1) := by decide +kernel
theorem dX6_state_70 : decode cX6_state 70 = .ok (.getfield 24, 3) := by decide +kernel
theorem dX6_state_73 : decode cX6_state 73 = .ok (.getfield 181, 3) := by decide +kernel
theorem dX6_state_76 : decode cX6_state 76 = .ok (.ireturn, 1) := by decide +kernel
theorem dX6_state_77 : decode cX6_state 77 = .ok (.aload_n 0, 1) := by decide +kernel
theorem dX6_state_78 : decode cX6_state 78 = .ok (.getfield 184, 3) := by decide +kernel
theorem dX6_state_81 : decode cX6_state 81 = .ok (.ireturn, 1) := by decide +kernel
theorem dX6_state_82 : decode cX6_state 82 = .ok (.iconst (-1), 1) := by decide +kernel
theorem dX6_state_83 : decode cX6_state 83 = .ok (.ireturn, 1) := by decide +kernel
theorem dX6_shown_0 : decode cX6_shown 0 = .ok (.aload_n 0, 1) := by decide +kernel
theorem dX6_shown_1 : decode cX6_shown 1 = .ok (.iload_n 1, 1) := by decide +kernel
theorem dX6_shown_2 : decode cX6_shown 2 = .ok (.invokevirtual 71, 3) := by decide +kernel
theorem dX6_shown_5 : decode cX6_shown 5 = .ok (.ifCond .eq 12, 3) := by decide +kernel
theorem dX6_shown_8 : decode cX6_shown 8 = .ok (.iload_n 3, 1) := by decide +kernel
theorem dX6_shown_9 : decode cX6_shown 9 = .ok (.ifCond .lt 8, 3) := by decide +kernel
theorem dX6_shown_12 : decode cX6_shown 12 = .ok (.iload_n 3, 1) := by decide +kernel
theorem dX6_shown_13 : decode cX6_shown 13 = .ok (.iconst 2, 1) := by decide +kernel
theorem dX6_shown_14 : decode cX6_shown 14 = .ok (.if_icmp .le 13, 3) := by decide +kernel
theorem dX6_shown_17 : decode cX6_shown 17 = .ok (.new 50, 3) := by decide +kernel
theorem dX6_shown_20 : decode cX6_shown 20 = .ok (.dup, 1) := by decide +kernel
theorem dX6_shown_21 : decode cX6_shown 21 = .ok (.ldc 187, 2) := by decide +kernel
theorem dX6_shown_23 : decode cX6_shown 23 = .ok (.invokespecial 54, 3) := by decide +kernel
theorem dX6_shown_26 : decode cX6_shown 26 = .ok (.athrow, 1) := by decide +kernel
theorem dX6_shown_27 : decode cX6_shown 27 = .ok (.aload_n 0, 1) := by decide +kernel
theorem dX6_shown_28 : decode cX6_shown 28 = .ok (.getfield 11, 3) := by decide +kernel
theorem dX6_shown_31 : decode cX6_shown 31 = .ok (.iload_n 1, 1) := by decide +kernel
theorem dX6_shown_32 : decode cX6_shown 32 = .ok (.aaload, 1) := by decide +kernel
theorem dX6_shown_33 : decode cX6_shown 33 = .ok (.astore 4, 2) := by decide +kernel
theorem dX6_shown_35 : decode cX6_shown 35 = .ok (.iload_n 2, 1) := by decide +kernel
theorem dX6_shown_36 : decode cX6_shown 36 = .ok (.ifCond .lt 12, 3) := by decide +kernel
theorem dX6_shown_39 : decode cX6_shown 39 = .ok (.iload_n 2, 1) := by decide +kernel
theorem dX6_shown_40 : decode cX6_shown 40 = .ok (.aload 4, 2) := by decide +kernel
theorem dX6_shown_42 : decode cX6_shown 42 = .ok (.getfield 81, 3) := by decide +kernel
theorem dX6_shown_45 : decode cX6_shown 45 = .ok (.if_icmp .lt 13, 3) := by decide +kernel
theorem dX6_shown_48 : decode cX6_shown 48 = .ok (.new 173, 3) := by decide +kernel
theorem dX6_shown_51 : decode cX6_shown 51 = .ok (.dup, 1) := by decide +kernel
theorem dX6_shown_52 : decode cX6_shown 52 = .ok (.ldc 189, 2) := by decide +kernel
theorem dX6_shown_54 : decode cX6_shown 54 = .ok (.invokespecial 177, 3) := by decide +kernel
theorem dX6_shown_57 : decode cX6_shown 57 = .ok (.athrow, 1) := by decide +kernel
theorem dX6_shown_58 : decode cX6_shown 58 = .ok (.iload_n 3, 1) := by decide +kernel
theorem dX6_shown_59 : decode cX6_shown 59 = .ok (.ifCond .ne 11, 3) := by decide +kernel
theorem dX6_shown_62 : decode cX6_shown 62 = .ok (.aload 4, 2) := by decide +kernel
theorem dX6_shown_64 : decode cX6_shown 64 = .ok (.getfield 191, 3) := by decide +kernel
theorem dX6_shown_67 : decode cX6_shown 67 = .ok (.iload_n 2, 1) := by decide +kernel
theorem dX6_shown_68 : decode cX6_shown 68 = .ok (.iaload, 1) := by decide +kernel
theorem dX6_shown_69 : decode cX6_shown 69 = .ok (.ireturn, 1) := by decide +kernel
theorem dX6_shown_70 : decode cX6_shown 70 = .ok (.iload_n 3, 1) := by decide +kernel
theorem dX6_shown_71 : decode cX6_shown 71 = .ok (.iconst 1, 1) := by decide +kernel
theorem dX6_shown_72 : decode cX6_shown 72 = .ok (.if_icmp .ne 13, 3) := by decide +kernel
theorem dX6_shown_75 : decode cX6_shown 75 = .ok (.aload 4, 2) := by decide +kernel
theorem dX6_shown_77 : decode cX6_shown 77 = .ok (.getfield 195, 3) := by decide +kernel
theorem dX6_shown_80 : decode cX6_shown 80 = .ok (.iload_n 2, 1) := by decide +kernel
theorem dX6_shown_81 : decode cX6_shown 81 = .ok (.iaload, 1) := by decide +kernel
theorem dX6_shown_82 : decode cX6_shown 82 = .ok (.goto 10, 3) := by decide +kernel
theorem dX6_shown_85 : decode cX6_shown 85 = .ok (.aload 4, 2) := by decide +kernel
theorem dX6_shown_87 : decode cX6_shown 87 = .ok (.getfield 198, 3) := by decide +kernel
theorem dX6_shown_90 : decode cX6_shown 90 = .ok (.iload_n 2, 1) := by decide +kernel
theorem dX6_shown_91 : decode cX6_shown 91 = .ok (.iaload, 1) := by decide +kernel
theorem dX6_shown_92 : decode cX6_shown 92 = .ok (.ireturn, 1) := by decide +kernel
theorem dX6_cube_0 : decode cX6_cube 0 = .ok (.aload_n 0, 1) := by decide +kernel
theorem dX6_cube_1 : decode cX6_cube 1 = .ok (.iload_n 1, 1) := by decide +kernel
theorem dX6_cube_2 : decode cX6_cube 2 = .ok (.invokevirtual 71, 3) := by decide +kernel
theorem dX6_cube_5 : decode cX6_cube 5 = .ok (.ifCond .eq 29, 3) := by decide +kernel
theorem dX6_cube_8 : decode cX6_cube 8 = .ok (.iload_n 2, 1) := by decide +kernel
theorem dX6_cube_9 : decode cX6_cube 9 = .ok (.ifCond .lt 25, 3) := by decide +kernel
theorem dX6_cube_12 : decode cX6_cube 12 = .ok (.iload_n 2, 1) := by decide +kernel
theorem dX6_cube_13 : decode cX6_cube 13 = .ok (.aload_n 0, 1) := by decide +kernel
theorem dX6_cube_14 : decode cX6_cube 14 = .ok (.getfield 11, 3) := by decide +kernel
theorem dX6_cube_17 : decode cX6_cube 17 = .ok (.iload_n 1, 1) := by decide +kernel
theorem dX6_cube_18 : decode cX6_cube 18 = .ok (.aaload, 1) := by decide +kernel
theorem dX6_cube_19 : decode cX6_cube 19 = .ok (.invokevirtual 201, 3) := by decide +kernel
theorem dX6_cube_22 : decode cX6_cube 22 = .ok (.if_icmp .ge 12, 3) := by decide +kernel
theorem dX6_cube_25 : decode cX6_cube 25 = .ok (.iload_n 3, 1) := by decide +kernel
theorem dX6_cube_26 : decode cX6_cube 26 = .ok (.ifCond .lt 8, 3) := by decide +kernel
theorem dX6_cube_29 : decode cX6_cube 29 = .ok (.iload_n 3, 1) := by decide +kernel
theorem dX6_cube_30 : decode cX6_cube 30 = .ok (.iconst 4, 1) := by decide +kernel
theorem dX6_cube_31 : decode cX6_cube 31 = .ok (.if_icmp .le 13, 3) := by decide +kernel
theorem dX6_cube_34 : decode cX6_cube 34 = .ok (.new 50, 3) := by decide +kernel
theorem dX6_cube_37 : decode cX6_cube 37 = .ok (.dup, 1) := by decide +kernel
theorem dX6_cube_38 : decode cX6_cube 38 = .ok (.ldc 204, 2) := by decide +kernel
theorem dX6_cube_40 : decode cX6_cube 40 = .ok (.invokespecial 54, 3) := by decide +kernel
theorem dX6_cube_43 : decode cX6_cube 43 = .ok (.athrow, 1) := by decide +kernel
theorem dX6_cube_44 : decode cX6_cube 44 = .ok (.aload_n 0, 1) := by decide +kernel
theorem dX6_cube_45 : decode cX6_cube 45 = .ok (.getfield 11, 3) := by decide +kernel
theorem dX6_cube_48 : decode cX6_cube 48 = .ok (.iload_n 1, 1) := by decide +kernel
theorem dX6_cube_49 : decode cX6_cube 49 = .ok (.aaload, 1) := by decide +kernel
theorem dX6_cube_50 : decode cX6_cube 50 = .ok (.astore 4, 2) := by decide +kernel
theorem dX6_cube_52 : decode cX6_cube 52 = .ok (.iload_n 3, 1) := by decide +kernel
theorem dX6_cube_53 : decode cX6_cube 53 = .ok (.ifCond .ne 11, 3) := by decide +kernel
theorem dX6_cube_56 : decode cX6_cube 56 = .ok (.aload 4, 2) := by decide +kernel
theorem dX6_cube_58 : decode cX6_cube 58 = .ok (.getfield 206, 3) := by decide +kernel
theorem dX6_cube_61 : decode cX6_cube 61 = .ok (.iload_n 2, 1) := by decide +kernel
theorem dX6_cube_62 : decode cX6_cube 62 = .ok (.iaload, 1) := by decide +kernel
theorem dX6_cube_63 : decode cX6_cube 63 = .ok (.ireturn, 1) := by decide +kernel
theorem dX6_cube_64 : decode cX6_cube 64 = .ok (.iload_n 3, 1) := by decide +kernel
theorem dX6_cube_65 : decode cX6_cube 65 = .ok (.iconst 4, 1) := by decide +kernel
theorem dX6_cube_66 : decode cX6_cube 66 = .ok (.if_icmp .ne 38, 3) := by decide +kernel
theorem dX6_cube_69 : decode cX6_cube 69 = .ok (.aload_n 0, 1) := by decide +kernel
theorem dX6_cube_70 : decode cX6_cube 70 = .ok (.getfield 38, 3) := by decide +kernel
theorem dX6_cube_73 : decode cX6_cube 73 = .ok (.invokevirtual 209, 3) := by decide +kernel
theorem dX6_cube_76 : decode cX6_cube 76 = .ok (.aload 4, 2) := by decide +kernel
theorem dX6_cube_78 : decode cX6_cube 78 = .ok (.aload_n 0, 1) := by decide +kernel
theorem dX6_cube_79 : decode cX6_cube 79 = .ok (.getfield 38, 3) := by decide +kernel
theorem dX6_cube_82 : decode cX6_cube 82 = .ok (.iload_n 2, 1) := by decide +kernel
theorem dX6_cube_83 : decode cX6_cube 83 = .ok (.iconst 0, 1) := by decide +kernel
theorem dX6_cube_84 : decode cX6_cube 84 = .ok (.iconst 1, 1) := by decide +kernel
theorem dX6_cube_85 : decode cX6_cube 85 = .ok (.invokevirtual 212, 3) := by decide +kernel
theorem dX6_cube_88 : decode cX6_cube 88 = .ok (.aload_n 0, 1) := by decide +kernel
theorem dX6_cube_89 : decode cX6_cube 89 = .ok (.getfield 38, 3) := by decide +kernel
theorem dX6_cube_92 : decode cX6_cube 92 = .ok (.getfield 159, 3) := by decide +kernel
theorem dX6_cube_95 : decode cX6_cube 95 = .ok (.ifCond .eq 7, 3) := by decide +kernel
theorem dX6_cube_98 : decode cX6_cube 98 = .ok (.iconst 1, 1) := by decide +kernel
theorem dX6_cube_99 : decode cX6_cube 99 = .ok (.goto 4, 3) := by decide +kernel
theorem dX6_cube_102 : decode cX6_cube 102 = .ok (.iconst 0, 1) := by decide +kernel
theorem dX6_cube_103 : decode cX6_cube 103 = .ok (.ireturn, 1) := by decide +kernel
theorem dX6_cube_104 : decode cX6_cube 104 = .ok (.aload 4, 2) := by decide +kernel
theorem dX6_cube_106 : decode cX6_cube 106 = .ok (.getfield 206, 3) := by decide +kernel
theorem dX6_cube_109 : decode cX6_cube 109 = .ok (.iload_n 2, 1) := by decide +kernel
theorem dX6_cube_110 : decode cX6_cube 110 = .ok (.iaload, 1) := by decide +kernel
theorem dX6_cube_111 : decode cX6_cube 111 = .ok (.ifCond .ne 5, 3) := by decide +kernel
theorem dX6_cube_114 : decode cX6_cube 114 = .ok (.iconst (-1), 1) := by decide +kernel
theorem dX6_cube_115 : decode cX6_cube 115 = .ok (.ireturn, 1) := by decide +kernel
theorem dX6_cube_116 : decode cX6_cube 116 = .ok (.iload_n 3, 1) := by decide +kernel
theorem dX6_cube_117 : decode cX6_cube 117 = .ok (.iconst 1, 1) := by decide +kernel
theorem dX6_cube_118 : decode cX6_cube 118 = .ok (.if_icmp .ne 11, 3) := by decide +kernel
theorem dX6_cube_121 : decode cX6_cube 121 = .ok (.aload 4, 2) := by decide +kernel
theorem dX6_cube_123 : decode cX6_cube 123 = .ok (.getfield 216, 3) := by decide +kernel
theorem dX6_cube_126 : decode cX6_cube 126 = .ok (.iload_n 2, 1) := by decide +kernel
theorem dX6_cube_127 : decode cX6_cube 127 = .ok (.iaload, 1) := by decide +kernel
theorem dX6_cube_128 : decode cX6_cube 128 = .ok (.ireturn, 1) := by decide +kernel
theorem dX6_cube_129 : decode cX6_cube 129 = .ok (.iload_n 3, 1) := by decide +kernel
theorem dX6_cube_130 : decode cX6_cube 130 = .ok (.iconst 2, 1) := by decide +kernel
theorem dX6_cube_131 : decode cX6_cube 131 = .ok (.if_icmp .ne 13, 3) := by decide +kernel
theorem dX6_cube_134 : decode cX6_cube 134 = .ok (.aload 4, 2) := by decide +kernel
theorem dX6_cube_136 : decode cX6_cube 136 = .ok (.getfield 219, 3) := by decide +kernel
theorem dX6_cube_139 : decode cX6_cube 139 = .ok (.iload_n 2, 1) := by decide +kernel
theorem dX6_cube_140 : decode cX6_cube 140 = .ok (.iaload, 1) := by decide +kernel
theorem dX6_cube_141 : decode cX6_cube 141 = .ok (.goto 10, 3) := by decide +kernel
theorem dX6_cube_144 : decode cX6_cube 144 = .ok (.aload 4, 2) := by decide +kernel
theorem dX6_cube_146 : decode cX6_cube 146 = .ok (.getfield 222, 3) := by decide +kernel
theorem dX6_cube_149 : decode cX6_cube 149 = .ok (.iload_n 2, 1) := by decide +kernel
theorem dX6_cube_150 : decode cX6_cube 150 = .ok (.iaload, 1) := by decide +kernel
theorem dX6_cube_151 : decode cX6_cube 151 = .ok (.ireturn, 1) := by decide +kernel
theorem dX6_node_0 : decode cX6_node 0 = .ok (.iload_n 2, 1) := by decide +kernel
theorem dX6_node_1 : decode cX6_node 1 = .ok (.ifCond .lt 8, 3) := by decide +kernel
theorem dX6_node_4 : decode cX6_node 4 = .ok (.iload_n 2, 1) := by decide +kernel
theorem dX6_node_5 : decode cX6_node 5 = .ok (.iconst 2, 1) := by decide +kernel
theorem dX6_node_6 : decode cX6_node 6 = .ok (.if_icmp .le 13, 3) := by decide +kernel
theorem dX6_node_9 : decode cX6_node 9 = .ok (.new 50, 3) := by decide +kernel
theorem dX6_node_12 : decode cX6_node 12 = .ok (.dup, 1) := by decide +kernel
theorem dX6_node_13 : decode cX6_node 13 = .ok (.ldc 225, 2) := by decide +kernel
theorem dX6_node_15 : decode cX6_node 15 = .ok (.invokespecial 54, 3) := by decide +kernel
theorem dX6_node_18 : decode cX6_node 18 = .ok (.athrow, 1) := by decide +kernel
theorem dX6_node_19 : decode cX6_node 19 = .ok (.aload_n 0, 1) := by decide +kernel
theorem dX6_node_20 : decode cX6_node 20 = .ok (.getfield 24, 3) := by decide +kernel
theorem dX6_node_23 : decode cX6_node 23 = .ok (.getfield 181, 3) := by decide +kernel
theorem dX6_node_26 : decode cX6_node 26 = .ok (.bipush 40, 2) := by decide +kernel
theorem dX6_node_28 : decode cX6_node 28 = .ok (.if_icmp .gt 18, 3) := by decide +kernel
theorem dX6_node_31 : decode cX6_node 31 = .ok (.iload_n 1, 1) := by decide +kernel
theorem dX6_node_32 : decode cX6_node 32 = .ok (.ifCond .lt 14, 3) := by decide +kernel
theorem dX6_node_35 : decode cX6_node 35 = .ok (.iload_n 1, 1) := by decide +kernel
theorem dX6_node_36 : decode cX6_node 36 = .ok (.aload_n 0, 1) := by decide +kernel
theorem dX6_node_37 : decode cX6_node 37 = .ok (.getfield 24, 3) := by decide +kernel
theorem dX6_node_40 : decode cX6_node 40 = .ok (.getfield 181, 3) := by decide +kernel
theorem dX6_node_43 : decode cX6_node 43 = .ok (.if_icmp .lt 13, 3) := by decide +kernel
theorem dX6_node_46 : decode cX6_node 46 = .ok (.new 173, 3) := by decide +kernel
theorem dX6_node_49 : decode cX6_node 49 = .ok (.dup, 1) := by decide +kernel
theorem dX6_node_50 : decode cX6_node 50 = .ok (.ldc 227, 2) := by decide +kernel
theorem dX6_node_52 : decode cX6_node 52 = .ok (.invokespecial 177, 3) := by decide +kernel
theorem dX6_node_55 : decode cX6_node 55 = .ok (.athrow, 1) := by decide +kernel
theorem dX6_node_56 : decode cX6_node 56 = .ok (.aload_n 0, 1) := by decide +kernel
theorem dX6_node_57 : decode cX6_node 57 = .ok (.getfield 24, 3) := by decide +kernel
theorem dX6_node_60 : decode cX6_node 60 = .ok (.getfield 229, 3) := by decide +kernel
theorem dX6_node_63 : decode cX6_node 63 = .ok (.iload_n 1, 1) := by decide +kernel
theorem dX6_node_64 : decode cX6_node 64 = .ok (.aaload, 1) := by decide +kernel
theorem dX6_node_65 : decode cX6_node 65 = .ok (.astore_n 3, 1) := by decide +kernel
theorem dX6_node_66 : decode cX6_node 66 = .ok (.iload_n 2, 1) := by decide +kernel
theorem dX6_node_67 : decode cX6_node 67 = .ok (.ifCond .ne 8, 3) := by decide +kernel
theorem dX6_node_70 : decode cX6_node 70 = .ok (.aload_n 3, 1) := by decide +kernel
theorem dX6_node_71 : decode cX6_node 71 = .ok (.getfield 233, 3) := by decide +kernel
theorem dX6_node_74 : decode cX6_node 74 = .ok (.ireturn, 1) := by decide +kernel
theorem dX6_node_75 : decode cX6_node 75 = .ok (.iload_n 2, 1) := by decide +kernel
theorem dX6_node_76 : decode cX6_node 76 = .ok (.iconst 1, 1) := by decide +kernel
theorem dX6_node_77 : decode cX6_node 77 = .ok (.if_icmp .ne 10, 3) := by decide +kernel
theorem dX6_node_80 : decode cX6_node 80 = .ok (.aload_n 3, 1) := by decide +kernel
theorem dX6_node_81 : decode cX6_node 81 = .ok (.getfield 238, 3) := by decide +kernel
theorem dX6_node_84 : decode cX6_node 84 = .ok (.goto 7, 3) := by decide +kernel
theorem dX6_node_87 : decode cX6_node 87 = .ok (.aload_n 3, 1) := by decide +kernel
theorem dX6_node_88 : decode cX6_node 88 = .ok (.getfield 241, 3) := by decide +kernel
theorem dX6_node_91 : decode cX6_node 91 = .ok (.ireturn, 1) := by decide +kernel
theorem dX6_isRelation_0 : decode cX6_isRelation 0 = .ok (.iload_n 1, 1) := by decide +kernel
theorem dX6_isRelation_1 : decode cX6_isRelation 1 = .ok (.ifCond .lt 15, 3) := by decide +kernel
theorem dX6_isRelation_4 : decode cX6_isRelation 4 = .ok (.iload_n 1, 1) := by decide +kernel
theorem dX6_isRelation_5 : decode cX6_isRelation 5 = .ok (.aload_n 0, 1) := by decide +kernel
theorem dX6_isRelation_6 : decode cX6_isRelation 6 = .ok (.getfield 57, 3) := by decide +kernel
theorem dX6_isRelation_9 : decode cX6_isRelation 9 = .ok (.if_icmp .ge 7, 3) := by decide +kernel
theorem dX6_isRelation_12 : decode cX6_isRelation 12 = .ok (.iconst 1, 1) := by decide +kernel
theorem dX6_isRelation_13 : decode cX6_isRelation 13 = .ok (.goto 4, 3) := by decide +kernel
theorem dX6_isRelation_16 : decode cX6_isRelation 16 = .ok (.iconst 0, 1) := by decide +kernel
theorem dX6_isRelation_17 : decode cX6_isRelation 17 = .ok (.ireturn, 1) := by decide +kernel
theorem dX6_isLiteral_0 : decode cX6_isLiteral 0 = .ok (.aload_n 0, 1) := by decide +kernel
theorem dX6_isLiteral_1 : decode cX6_isLiteral 1 = .ok (.iload_n 1, 1) := by decide +kernel
theorem dX6_isLiteral_2 : decode cX6_isLiteral 2 = .ok (.invokevirtual 71, 3) := by decide +kernel
theorem dX6_isLiteral_5 : decode cX6_isLiteral 5 = .ok (.ifCond .eq 34, 3) := by decide +kernel
theorem dX6_isLiteral_8 : decode cX6_isLiteral 8 = .ok (.iload_n 2, 1) := by decide +kernel
theorem dX6_isLiteral_9 : decode cX6_isLiteral 9 = .ok (.invokestatic 244, 3) := by decide +kernel
theorem dX6_isLiteral_12 : decode cX6_isLiteral 12 = .ok (.ifCond .eq 27, 3) := by decide +kernel
theorem dX6_isLiteral_15 : decode cX6_isLiteral 15 = .ok (.aload_n 0, 1) := by decide +kernel
theorem dX6_isLiteral_16 : decode cX6_isLiteral 16 = .ok (.getfield 11, 3) := by decide +kernel
theorem dX6_isLiteral_19 : decode cX6_isLiteral 19 = .ok (.iload_n 1, 1) := by decide +kernel
theorem dX6_isLiteral_20 : decode cX6_isLiteral 20 = .ok (.aaload, 1) := by decide +kernel
theorem dX6_isLiteral_21 : decode cX6_isLiteral 21 = .ok (.getfield 65, 3) := by decide +kernel
theorem dX6_isLiteral_24 : decode cX6_isLiteral 24 = .ok (.iconst 1, 1) := by decide +kernel
theorem dX6_isLiteral_25 : decode cX6_isLiteral 25 = .ok (.if_icmp .eq 10, 3) := by decide +kernel
theorem dX6_isLiteral_28 : decode cX6_isLiteral 28 = .ok (.iload_n 3, 1) := by decide +kernel
theorem dX6_isLiteral_29 : decode cX6_isLiteral 29 = .ok (.invokestatic 244, 3) := by decide +kernel
theorem dX6_isLiteral_32 : decode cX6_isLiteral 32 = .ok (.ifCond .eq 7, 3) := by decide +kernel
theorem dX6_isLiteral_35 : decode cX6_isLiteral 35 = .ok (.iconst 1, 1) := by decide +kernel
theorem dX6_isLiteral_36 : decode cX6_isLiteral 36 = .ok (.goto 4, 3) := by decide +kernel
theorem dX6_isLiteral_39 : decode cX6_isLiteral 39 = .ok (.iconst 0, 1) := by decide +kernel
theorem dX6_isLiteral_40 : decode cX6_isLiteral 40 = .ok (.ireturn, 1) := by decide +kernel
theorem dX6_isVariable_0 : decode cX6_isVariable 0 = .ok (.iload_n 0, 1) := by decide +kernel
theorem dX6_isVariable_1 : decode cX6_isVariable 1 = .ok (.ifCond .lt 12, 3) := by decide +kernel
theorem dX6_isVariable_4 : decode cX6_isVariable 4 = .ok (.iload_n 0, 1) := by decide +kernel
theorem dX6_isVariable_5 : decode cX6_isVariable 5 = .ok (.iconst 5, 1) := by decide +kernel
theorem dX6_isVariable_6 : decode cX6_isVariable 6 = .ok (.if_icmp .ge 7, 3) := by decide +kernel
theorem dX6_isVariable_9 : decode cX6_isVariable 9 = .ok (.iconst 1, 1) := by decide +kernel
theorem dX6_isVariable_10 : decode cX6_isVariable 10 = .ok (.goto 4, 3) := by decide +kernel
theorem dX6_isVariable_13 : decode cX6_isVariable 13 = .ok (.iconst 0, 1) := by decide +kernel
theorem dX6_isVariable_14 : decode cX6_isVariable 14 = .ok (.ireturn, 1) := by decide +kernel
theorem dX6_areTwoPoints_0 : decode cX6_areTwoPoints 0 = .ok (.iload_n 0, 1) := by decide +kernel
theorem dX6_areTwoPoints_1 : decode cX6_areTwoPoints 1 = .ok (.ifCond .lt 28, 3) := by decide +kernel
theorem dX6_areTwoPoints_4 : decode cX6_areTwoPoints 4 = .ok (.iload_n 0, 1) := by decide +kernel
theorem dX6_areTwoPoints_5 : decode cX6_areTwoPoints 5 = .ok (.bipush 6, 2) := by decide +kernel
theorem dX6_areTwoPoints_7 : decode cX6_areTwoPoints 7 = .ok (.if_icmp .ge 22, 3) := by decide +kernel
theorem dX6_areTwoPoints_10 : decode cX6_areTwoPoints 10 = .ok (.iload_n 1, 1) := by decide +kernel
theorem dX6_areTwoPoints_11 : decode cX6_areTwoPoints 11 = .ok (.ifCond .lt 18, 3) := by decide +kernel
theorem dX6_areTwoPoints_14 : decode cX6_areTwoPoints 14 = .ok (.iload_n 1, 1) := by decide +kernel
theorem dX6_areTwoPoints_15 : decode cX6_areTwoPoints 15 = .ok (.bipush 6, 2) := by decide +kernel
theorem dX6_areTwoPoints_17 : decode cX6_areTwoPoints 17 = .ok (.if_icmp .ge 12, 3) := by decide +kernel
theorem dX6_areTwoPoints_20 : decode cX6_areTwoPoints 20 = .ok (.iload_n 0, 1) := by decide +kernel
theorem dX6_areTwoPoints_21 : decode cX6_areTwoPoints 21 = .ok (.iload_n 1, 1) := by decide +kernel
theorem dX6_areTwoPoints_22 : decode cX6_areTwoPoints 22 = .ok (.if_icmp .eq 7, 3) := by decide +kernel
theorem dX6_areTwoPoints_25 : decode cX6_areTwoPoints 25 = .ok (.iconst 1, 1) := by decide +kernel
theorem dX6_areTwoPoints_26 : decode cX6_areTwoPoints 26 = .ok (.goto 4, 3) := by decide +kernel
theorem dX6_areTwoPoints_29 : decode cX6_areTwoPoints 29 = .ok (.iconst 0, 1) := by decide +kernel
theorem dX6_areTwoPoints_30 : decode cX6_areTwoPoints 30 = .ok (.ireturn, 1) := by decide +kernel
theorem dX6_isLimit_0 : decode cX6_isLimit 0 = .ok (.iload_n 0, 1) := by decide +kernel
theorem dX6_isLimit_1 : decode cX6_isLimit 1 = .ok (.sipush (-1000), 3) := by decide +kernel
theorem dX6_isLimit_4 : decode cX6_isLimit 4 = .ok (.if_icmp .lt 14, 3) := by decide +kernel
theorem dX6_isLimit_7 : decode cX6_isLimit 7 = .ok (.iload_n 0, 1) := by decide +kernel
theorem dX6_isLimit_8 : decode cX6_isLimit 8 = .ok (.sipush 1000, 3) := by decide +kernel
theorem dX6_isLimit_11 : decode cX6_isLimit 11 = .ok (.if_icmp .gt 7, 3) := by decide +kernel
theorem dX6_isLimit_14 : decode cX6_isLimit 14 = .ok (.iconst 1, 1) := by decide +kernel
theorem dX6_isLimit_15 : decode cX6_isLimit 15 = .ok (.goto 4, 3) := by decide +kernel
theorem dX6_isLimit_18 : decode cX6_isLimit 18 = .ok (.iconst 0, 1) := by decide +kernel
theorem dX6_isLimit_19 : decode cX6_isLimit 19 = .ok (.ireturn, 1) := by decide +kernel
theorem dX6_pointAt_0 : decode cX6_pointAt 0 = .ok (.iload_n 0, 1) := by decide +kernel
theorem dX6_pointAt_1 : decode cX6_pointAt 1 = .ok (.iconst 2, 1) := by decide +kernel
theorem dX6_pointAt_2 : decode cX6_pointAt 2 = .ok (.if_icmp .ne 5, 3) := by decide +kernel
theorem dX6_pointAt_5 : decode cX6_pointAt 5 = .ok (.iconst 5, 1) := by decide +kernel
theorem dX6_pointAt_6 : decode cX6_pointAt 6 = .ok (.ireturn, 1) := by decide +kernel
theorem dX6_pointAt_7 : decode cX6_pointAt 7 = .ok (.iload_n 0, 1) := by decide +kernel
theorem dX6_pointAt_8 : decode cX6_pointAt 8 = .ok (.ifCond .ne 7, 3) := by decide +kernel
theorem dX6_pointAt_11 : decode cX6_pointAt 11 = .ok (.iload_n 1, 1) := by decide +kernel
theorem dX6_pointAt_12 : decode cX6_pointAt 12 = .ok (.goto 4, 3) := by decide +kernel
theorem dX6_pointAt_15 : decode cX6_pointAt 15 = .ok (.iload_n 2, 1) := by decide +kernel
theorem dX6_pointAt_16 : decode cX6_pointAt 16 = .ok (.ireturn, 1) := by decide +kernel
theorem dX6_fill_0 : decode cX6_fill 0 = .ok (.aload_n 1, 1) := by decide +kernel
theorem dX6_fill_1 : decode cX6_fill 1 = .ok (.iload_n 2, 1) := by decide +kernel
theorem dX6_fill_2 : decode cX6_fill 2 = .ok (.putfield 247, 3) := by decide +kernel
theorem dX6_fill_5 : decode cX6_fill 5 = .ok (.aload_n 1, 1) := by decide +kernel
theorem dX6_fill_6 : decode cX6_fill 6 = .ok (.iload_n 2, 1) := by decide +kernel
theorem dX6_fill_7 : decode cX6_fill 7 = .ok (.iconst (-1), 1) := by decide +kernel
theorem dX6_fill_8 : decode cX6_fill 8 = .ok (.if_icmp .ne 7, 3) := by decide +kernel
theorem dX6_fill_11 : decode cX6_fill 11 = .ok (.iconst 0, 1) := by decide +kernel
theorem dX6_fill_12 : decode cX6_fill 12 = .ok (.goto 4, 3) := by decide +kernel
theorem dX6_fill_15 : decode cX6_fill 15 = .ok (.iload_n 3, 1) := by decide +kernel
theorem dX6_fill_16 : decode cX6_fill 16 = .ok (.putfield 252, 3) := by decide +kernel
theorem dX6_fill_19 : decode cX6_fill 19 = .ok (.aload_n 1, 1) := by decide +kernel
theorem dX6_fill_20 : decode cX6_fill 20 = .ok (.iload_n 2, 1) := by decide +kernel
theorem dX6_fill_21 : decode cX6_fill 21 = .ok (.iconst (-1), 1) := by decide +kernel
theorem dX6_fill_22 : decode cX6_fill 22 = .ok (.if_icmp .eq 16, 3) := by decide +kernel
theorem dX6_fill_25 : decode cX6_fill 25 = .ok (.aload_n 0, 1) := by decide +kernel
theorem dX6_fill_26 : decode cX6_fill 26 = .ok (.getfield 11, 3) := by decide +kernel
theorem dX6_fill_29 : decode cX6_fill 29 = .ok (.iload_n 2, 1) := by decide +kernel
theorem dX6_fill_30 : decode cX6_fill 30 = .ok (.aaload, 1) := by decide +kernel
theorem dX6_fill_31 : decode cX6_fill 31 = .ok (.getfield 65, 3) := by decide +kernel
theorem dX6_fill_34 : decode cX6_fill 34 = .ok (.iconst 1, 1) := by decide +kernel
theorem dX6_fill_35 : decode cX6_fill 35 = .ok (.if_icmp .ne 7, 3) := by decide +kernel
theorem dX6_fill_38 : decode cX6_fill 38 = .ok (.iconst 0, 1) := by decide +kernel
theorem dX6_fill_39 : decode cX6_fill 39 = .ok (.goto 5, 3) := by decide +kernel
theorem dX6_fill_42 : decode cX6_fill 42 = .ok (.iload 4, 2) := by decide +kernel
theorem dX6_fill_44 : decode cX6_fill 44 = .ok (.putfield 255, 3) := by decide +kernel
theorem dX6_fill_47 : decode cX6_fill 47 = .ok (.return_, 1) := by decide +kernel
theorem dX6_startAfresh_0 : decode cX6_startAfresh 0 = .ok (.iconst 0, 1) := by decide +kernel
theorem dX6_startAfresh_1 : decode cX6_startAfresh 1 = .ok (.istore_n 1, 1) := by decide +kernel
theorem dX6_startAfresh_2 : decode cX6_startAfresh 2 = .ok (.iload_n 1, 1) := by decide +kernel
theorem dX6_startAfresh_3 : decode cX6_startAfresh 3 = .ok (.aload_n 0, 1) := by decide +kernel
theorem dX6_startAfresh_4 : decode cX6_startAfresh 4 = .ok (.getfield 57, 3) := by decide +kernel
theorem dX6_startAfresh_7 : decode cX6_startAfresh 7 = .ok (.if_icmp .ge 18, 3) := by decide +kernel
theorem dX6_startAfresh_10 : decode cX6_startAfresh 10 = .ok (.aload_n 0, 1) := by decide +kernel
theorem dX6_startAfresh_11 : decode cX6_startAfresh 11 = .ok (.getfield 11, 3) := by decide +kernel
theorem dX6_startAfresh_14 : decode cX6_startAfresh 14 = .ok (.iload_n 1, 1) := by decide +kernel
theorem dX6_startAfresh_15 : decode cX6_startAfresh 15 = .ok (.aaload, 1) := by decide +kernel
theorem dX6_startAfresh_16 : decode cX6_startAfresh 16 = .ok (.invokevirtual 258, 3) := by decide +kernel
theorem dX6_startAfresh_19 : decode cX6_startAfresh 19 = .ok (.iinc 1 1, 3) := by decide +kernel
theorem dX6_startAfresh_22 : decode cX6_startAfresh 22 = .ok (.goto (-20), 3) := by decide +kernel
theorem dX6_startAfresh_25 : decode cX6_startAfresh 25 = .ok (.aload_n 0, 1) := by decide +kernel
theorem dX6_startAfresh_26 : decode cX6_startAfresh 26 = .ok (.iconst 0, 1) := by decide +kernel
theorem dX6_startAfresh_27 : decode cX6_startAfresh 27 = .ok (.putfield 178, 3) := by decide +kernel
theorem dX6_startAfresh_30 : decode cX6_startAfresh 30 = .ok (.aload_n 0, 1) := by decide +kernel
theorem dX6_startAfresh_31 : decode cX6_startAfresh 31 = .ok (.iconst (-1), 1) := by decide +kernel
theorem dX6_startAfresh_32 : decode cX6_startAfresh 32 = .ok (.putfield 43, 3) := by decide +kernel
theorem dX6_startAfresh_35 : decode cX6_startAfresh 35 = .ok (.aload_n 0, 1) := by decide +kernel
theorem dX6_startAfresh_36 : decode cX6_startAfresh 36 = .ok (.getfield 24, 3) := by decide +kernel
theorem dX6_startAfresh_39 : decode cX6_startAfresh 39 = .ok (.iconst 0, 1) := by decide +kernel
theorem dX6_startAfresh_40 : decode cX6_startAfresh 40 = .ok (.putfield 181, 3) := by decide +kernel
theorem dX6_startAfresh_43 : decode cX6_startAfresh 43 = .ok (.aload_n 0, 1) := by decide +kernel
theorem dX6_startAfresh_44 : decode cX6_startAfresh 44 = .ok (.iconst 0, 1) := by decide +kernel
theorem dX6_startAfresh_45 : decode cX6_startAfresh 45 = .ok (.putfield 47, 3) := by decide +kernel
theorem dX6_startAfresh_48 : decode cX6_startAfresh 48 = .ok (.return_, 1) := by decide +kernel
theorem dX6_makeRound_0 : decode cX6_makeRound 0 = .ok (.iconst 0, 1) := by decide +kernel
theorem dX6_makeRound_1 : decode cX6_makeRound 1 = .ok (.istore_n 1, 1) := by decide +kernel
theorem dX6_makeRound_2 : decode cX6_makeRound 2 = .ok (.aload_n 0, 1) := by decide +kernel
theorem dX6_makeRound_3 : decode cX6_makeRound 3 = .ok (.invokevirtual 261, 3) := by decide +kernel
theorem dX6_makeRound_6 : decode cX6_makeRound 6 = .ok (.ifCond .ne 36, 3) := by decide +kernel
theorem dX6_makeRound_9 : decode cX6_makeRound 9 = .ok (.iconst 0, 1) := by decide +kernel
theorem dX6_makeRound_10 : decode cX6_makeRound 10 = .ok (.istore_n 2, 1) := by decide +kernel
theorem dX6_makeRound_11 : decode cX6_makeRound 11 = .ok (.iload_n 2, 1) := by decide +kernel
theorem dX6_makeRound_12 : decode cX6_makeRound 12 = .ok (.aload_n 0, 1) := by decide +kernel
theorem dX6_makeRound_13 : decode cX6_makeRound 13 = .ok (.getfield 98, 3) := by decide +kernel
theorem dX6_makeRound_16 : decode cX6_makeRound 16 = .ok (.if_icmp .ge 17, 3) := by decide +kernel
theorem dX6_makeRound_19 : decode cX6_makeRound 19 = .ok (.iload_n 1, 1) := by decide +kernel
theorem dX6_makeRound_20 : decode cX6_makeRound 20 = .ok (.aload_n 0, 1) := by decide +kernel
theorem dX6_makeRound_21 : decode cX6_makeRound 21 = .ok (.iload_n 2, 1) := by decide +kernel
theorem dX6_makeRound_22 : decode cX6_makeRound 22 = .ok (.invokevirtual 265, 3) := by decide +kernel
theorem dX6_makeRound_25 : decode cX6_makeRound 25 = .ok (.iadd, 1) := by decide +kernel
theorem dX6_makeRound_26 : decode cX6_makeRound 26 = .ok (.istore_n 1, 1) := by decide +kernel
theorem dX6_makeRound_27 : decode cX6_makeRound 27 = .ok (.iinc 2 1, 3) := by decide +kernel
theorem dX6_makeRound_30 : decode cX6_makeRound 30 = .ok (.goto (-19), 3) := by decide +kernel
theorem dX6_makeRound_33 : decode cX6_makeRound 33 = .ok (.iload_n 1, 1) := by decide +kernel
theorem dX6_makeRound_34 : decode cX6_makeRound 34 = .ok (.ifCond .ne 8, 3) := by decide +kernel
theorem dX6_makeRound_37 : decode cX6_makeRound 37 = .ok (.aload_n 0, 1) := by decide +kernel
theorem dX6_makeRound_38 : decode cX6_makeRound 38 = .ok (.iconst 1, 1) := by decide +kernel
theorem dX6_makeRound_39 : decode cX6_makeRound 39 = .ok (.putfield 47, 3) := by decide +kernel
theorem dX6_makeRound_42 : decode cX6_makeRound 42 = .ok (.aload_n 0, 1) := by decide +kernel
theorem dX6_makeRound_43 : decode cX6_makeRound 43 = .ok (.dup, 1) := by decide +kernel
theorem dX6_makeRound_44 : decode cX6_makeRound 44 = .ok (.getfield 178, 3) := by decide +kernel
theorem dX6_makeRound_47 : decode cX6_makeRound 47 = .ok (.iconst 1, 1) := by decide +kernel
theorem dX6_makeRound_48 : decode cX6_makeRound 48 = .ok (.iadd, 1) := by decide +kernel
theorem dX6_makeRound_49 : decode cX6_makeRound 49 = .ok (.putfield 178, 3) := by decide +kernel
theorem dX6_makeRound_52 : decode cX6_makeRound 52 = .ok (.iload_n 1, 1) := by decide +kernel
theorem dX6_makeRound_53 : decode cX6_makeRound 53 = .ok (.ireturn, 1) := by decide +kernel
theorem dX6_raiseAlarm_0 : decode cX6_raiseAlarm 0 = .ok (.iconst 0, 1) := by decide +kernel
theorem dX6_raiseAlarm_1 : decode cX6_raiseAlarm 1 = .ok (.istore_n 1, 1) := by decide +kernel
theorem dX6_raiseAlarm_2 : decode cX6_raiseAlarm 2 = .ok (.iload_n 1, 1) := by decide +kernel
theorem dX6_raiseAlarm_3 : decode cX6_raiseAlarm 3 = .ok (.aload_n 0, 1) := by decide +kernel
theorem dX6_raiseAlarm_4 : decode cX6_raiseAlarm 4 = .ok (.getfield 98, 3) := by decide +kernel
theorem dX6_raiseAlarm_7 : decode cX6_raiseAlarm 7 = .ok (.if_icmp .ge 56, 3) := by decide +kernel
theorem dX6_raiseAlarm_10 : decode cX6_raiseAlarm 10 = .ok (.aload_n 0, 1) := by decide +kernel
theorem dX6_raiseAlarm_11 : decode cX6_raiseAlarm 11 = .ok (.getfield 17, 3) := by decide +kernel
theorem dX6_raiseAlarm_14 : decode cX6_raiseAlarm 14 = .ok (.iload_n 1, 1) := by decide +kernel
theorem dX6_raiseAlarm_15 : decode cX6_raiseAlarm 15 = .ok (.aaload, 1) := by decide +kernel
theorem dX6_raiseAlarm_16 : decode cX6_raiseAlarm 16 = .ok (.getfield 103, 3) := by decide +kernel
theorem dX6_raiseAlarm_19 : decode cX6_raiseAlarm 19 = .ok (.getfield 247, 3) := by decide +kernel
theorem dX6_raiseAlarm_22 : decode cX6_raiseAlarm 22 = .ok (.iconst (-1), 1) := by decide +kernel
theorem dX6_raiseAlarm_23 : decode cX6_raiseAlarm 23 = .ok (.if_icmp .ne 34, 3) := by decide +kernel
theorem dX6_raiseAlarm_26 : decode cX6_raiseAlarm 26 = .ok (.aload_n 0, 1) := by decide +kernel
theorem dX6_raiseAlarm_27 : decode cX6_raiseAlarm 27 = .ok (.aload_n 0, 1) := by decide +kernel
theorem dX6_raiseAlarm_28 : decode cX6_raiseAlarm 28 = .ok (.getfield 17, 3) := by decide +kernel
theorem dX6_raiseAlarm_31 : decode cX6_raiseAlarm 31 = .ok (.iload_n 1, 1) := by decide +kernel
theorem dX6_raiseAlarm_32 : decode cX6_raiseAlarm 32 = .ok (.aaload, 1) := by decide +kernel
theorem dX6_raiseAlarm_33 : decode cX6_raiseAlarm 33 = .ok (.iconst 0, 1) := by decide +kernel
theorem dX6_raiseAlarm_34 : decode cX6_raiseAlarm 34 = .ok (.invokevirtual 269, 3) := by decide +kernel
theorem dX6_raiseAlarm_37 : decode cX6_raiseAlarm 37 = .ok (.istore_n 2, 1) := by decide +kernel
theorem dX6_raiseAlarm_38 : decode cX6_raiseAlarm 38 = .ok (.iload_n 2, 1) := by decide +kernel
theorem dX6_raiseAlarm_39 : decode cX6_raiseAlarm 39 = .ok (.sipush 256, 3) := by decide +kernel
theorem dX6_raiseAlarm_42 : decode cX6_raiseAlarm 42 = .ok (.if_icmp .ge 15, 3) := by decide +kernel
theorem dX6_raiseAlarm_45 : decode cX6_raiseAlarm 45 = .ok (.aload_n 0, 1) := by decide +kernel
theorem dX6_raiseAlarm_46 : decode cX6_raiseAlarm 46 = .ok (.iload_n 1, 1) := by decide +kernel
theorem dX6_raiseAlarm_47 : decode cX6_raiseAlarm 47 = .ok (.putfield 43, 3) := by decide +kernel
theorem dX6_raiseAlarm_50 : decode cX6_raiseAlarm 50 = .ok (.aload_n 0, 1) := by decide +kernel
theorem dX6_raiseAlarm_51 : decode cX6_raiseAlarm 51 = .ok (.iload_n 2, 1) := by decide +kernel
theorem dX6_raiseAlarm_52 : decode cX6_raiseAlarm 52 = .ok (.invokevirtual 273, 3) := by decide +kernel
theorem dX6_raiseAlarm_55 : decode cX6_raiseAlarm 55 = .ok (.iconst 1, 1) := by decide +kernel
theorem dX6_raiseAlarm_56 : decode cX6_raiseAlarm 56 = .ok (.ireturn, 1) := by decide +kernel
theorem dX6_raiseAlarm_57 : decode cX6_raiseAlarm 57 = .ok (.iinc 1 1, 3) := by decide +kernel
theorem dX6_raiseAlarm_60 : decode cX6_raiseAlarm 60 = .ok (.goto (-58), 3) := by decide +kernel
theorem dX6_raiseAlarm_63 : decode cX6_raiseAlarm 63 = .ok (.iconst 0, 1) := by decide +kernel
theorem dX6_raiseAlarm_64 : decode cX6_raiseAlarm 64 = .ok (.ireturn, 1) := by decide +kernel
theorem dX6_reachBy_0 : decode cX6_reachBy 0 = .ok (.aload_n 0, 1) := by decide +kernel
theorem dX6_reachBy_1 : decode cX6_reachBy 1 = .ok (.getfield 17, 3) := by decide +kernel
theorem dX6_reachBy_4 : decode cX6_reachBy 4 = .ok (.iload_n 1, 1) := by decide +kernel
theorem dX6_reachBy_5 : decode cX6_reachBy 5 = .ok (.aaload, 1) := by decide +kernel
theorem dX6_reachBy_6 : decode cX6_reachBy 6 = .ok (.astore_n 2, 1) := by decide +kernel
theorem dX6_reachBy_7 : decode cX6_reachBy 7 = .ok (.iconst 0, 1) := by decide +kernel
theorem dX6_reachBy_8 : decode cX6_reachBy 8 = .ok (.istore_n 3, 1) := by decide +kernel
theorem dX6_reachBy_9 : decode cX6_reachBy 9 = .ok (.aload_n 2, 1) := by decide +kernel
theorem dX6_reachBy_10 : decode cX6_reachBy 10 = .ok (.getfield 103, 3) := by decide +kernel
theorem dX6_reachBy_13 : decode cX6_reachBy 13 = .ok (.getfield 247, 3) := by decide +kernel
theorem dX6_reachBy_16 : decode cX6_reachBy 16 = .ok (.iconst (-1), 1) := by decide +kernel
theorem dX6_reachBy_17 : decode cX6_reachBy 17 = .ok (.if_icmp .eq 43, 3) := by decide +kernel
theorem dX6_reachBy_20 : decode cX6_reachBy 20 = .ok (.aload_n 0, 1) := by decide +kernel
theorem dX6_reachBy_21 : decode cX6_reachBy 21 = .ok (.aload_n 2, 1) := by decide +kernel
theorem dX6_reachBy_22 : decode cX6_reachBy 22 = .ok (.iconst 0, 1) := by decide +kernel
theorem dX6_reachBy_23 : decode cX6_reachBy 23 = .ok (.invokevirtual 269, 3) := by decide +kernel
theorem dX6_reachBy_26 : decode cX6_reachBy 26 = .ok (.istore 4, 2) := by decide +kernel
theorem dX6_reachBy_28 : decode cX6_reachBy 28 = .ok (.iload 4, 2) := by decide +kernel
theorem dX6_reachBy_30 : decode cX6_reachBy 30 = .ok (.sipush 256, 3) := by decide +kernel
theorem dX6_reachBy_33 : decode cX6_reachBy 33 = .ok (.if_icmp .ge 27, 3) := by decide +kernel
theorem dX6_reachBy_36 : decode cX6_reachBy 36 = .ok (.iload_n 3, 1) := by decide +kernel
theorem dX6_reachBy_37 : decode cX6_reachBy 37 = .ok (.aload_n 0, 1) := by decide +kernel
theorem dX6_reachBy_38 : decode cX6_reachBy 38 = .ok (.iload_n 1, 1) := by decide +kernel
theorem dX6_reachBy_39 : decode cX6_reachBy 39 = .ok (.iload 4, 2) := by decide +kernel
theorem dX6_reachBy_41 : decode cX6_reachBy 41 = .ok (.invokevirtual 277, 3) := by decide +kernel
theorem dX6_reachBy_44 : decode cX6_reachBy 44 = .ok (.iadd, 1) := by decide +kernel
theorem dX6_reachBy_45 : decode cX6_reachBy 45 = .ok (.istore_n 3, 1) := by decide +kernel
theorem dX6_reachBy_46 : decode cX6_reachBy 46 = .ok (.aload_n 0, 1) := by decide +kernel
theorem dX6_reachBy_47 : decode cX6_reachBy 47 = .ok (.aload_n 2, 1) := by decide +kernel
theorem dX6_reachBy_48 : decode cX6_reachBy 48 = .ok (.iload 4, 2) := by decide +kernel
theorem dX6_reachBy_50 : decode cX6_reachBy 50 = .ok (.iconst 1, 1) := by decide +kernel
theorem dX6_reachBy_51 : decode cX6_reachBy 51 = .ok (.iadd, 1) := by decide +kernel
theorem dX6_reachBy_52 : decode cX6_reachBy 52 = .ok (.invokevirtual 269, 3) := by decide +kernel
theorem dX6_reachBy_55 : decode cX6_reachBy 55 = .ok (.istore 4, 2) := by decide +kernel
theorem dX6_reachBy_57 : decode cX6_reachBy 57 = .ok (.goto (-29), 3) := by decide +kernel
theorem dX6_reachBy_60 : decode cX6_reachBy 60 = .ok (.iload_n 3, 1) := by decide +kernel
end
section
theorem dX6_reachBy_61 : decode cX6_reachBy 61 = .ok (.ireturn, 1) := by decide +kernel
theorem dX6_reachCubes_0 : decode cX6_reachCubes 0 = .ok (.aload_n 0, 1) := by decide +kernel
theorem dX6_reachCubes_1 : decode cX6_reachCubes 1 = .ok (.getfield 17, 3) := by decide +kernel
theorem dX6_reachCubes_4 : decode cX6_reachCubes 4 = .ok (.iload_n 1, 1) := by decide +kernel
theorem dX6_reachCubes_5 : decode cX6_reachCubes 5 = .ok (.aaload, 1) := by decide +kernel
theorem dX6_reachCubes_6 : decode cX6_reachCubes 6 = .ok (.astore_n 3, 1) := by decide +kernel
theorem dX6_reachCubes_7 : decode cX6_reachCubes 7 = .ok (.aload_n 0, 1) := by decide +kernel
theorem dX6_reachCubes_8 : decode cX6_reachCubes 8 = .ok (.getfield 11, 3) := by decide +kernel
theorem dX6_reachCubes_11 : decode cX6_reachCubes 11 = .ok (.aload_n 3, 1) := by decide +kernel
theorem dX6_reachCubes_12 : decode cX6_reachCubes 12 = .ok (.getfield 103, 3) := by decide +kernel
theorem dX6_reachCubes_15 : decode cX6_reachCubes 15 = .ok (.getfield 247, 3) := by decide +kernel
theorem dX6_reachCubes_18 : decode cX6_reachCubes 18 = .ok (.aaload, 1) := by decide +kernel
theorem dX6_reachCubes_19 : decode cX6_reachCubes 19 = .ok (.astore 4, 2) := by decide +kernel
theorem dX6_reachCubes_21 : decode cX6_reachCubes 21 = .ok (.iconst 0, 1) := by decide +kernel
theorem dX6_reachCubes_22 : decode cX6_reachCubes 22 = .ok (.istore 5, 2) := by decide +kernel
theorem dX6_reachCubes_24 : decode cX6_reachCubes 24 = .ok (.iconst 0, 1) := by decide +kernel
theorem dX6_reachCubes_25 : decode cX6_reachCubes 25 = .ok (.istore 6, 2) := by decide +kernel
theorem dX6_reachCubes_27 : decode cX6_reachCubes 27 = .ok (.iload 6, 2) := by decide +kernel
theorem dX6_reachCubes_29 : decode cX6_reachCubes 29 = .ok (.aload 4, 2) := by decide +kernel
theorem dX6_reachCubes_31 : decode cX6_reachCubes 31 = .ok (.invokevirtual 201, 3) := by decide +kernel
theorem dX6_reachCubes_34 : decode cX6_reachCubes 34 = .ok (.if_icmp .ge 76, 3) := by decide +kernel
theorem dX6_reachCubes_37 : decode cX6_reachCubes 37 = .ok (.aload_n 0, 1) := by decide +kernel
theorem dX6_reachCubes_38 : decode cX6_reachCubes 38 = .ok (.aload_n 3, 1) := by decide +kernel
theorem dX6_reachCubes_39 : decode cX6_reachCubes 39 = .ok (.getfield 103, 3) := by decide +kernel
theorem dX6_reachCubes_42 : decode cX6_reachCubes 42 = .ok (.iload 6, 2) := by decide +kernel
theorem dX6_reachCubes_44 : decode cX6_reachCubes 44 = .ok (.invokevirtual 280, 3) := by decide +kernel
theorem dX6_reachCubes_47 : decode cX6_reachCubes 47 = .ok (.ifCond .eq 57, 3) := by decide +kernel
theorem dX6_reachCubes_50 : decode cX6_reachCubes 50 = .ok (.aload 4, 2) := by decide +kernel
theorem dX6_reachCubes_52 : decode cX6_reachCubes 52 = .ok (.getfield 206, 3) := by decide +kernel
theorem dX6_reachCubes_55 : decode cX6_reachCubes 55 = .ok (.iload 6, 2) := by decide +kernel
theorem dX6_reachCubes_57 : decode cX6_reachCubes 57 = .ok (.aload_n 0, 1) := by decide +kernel
theorem dX6_reachCubes_58 : decode cX6_reachCubes 58 = .ok (.getfield 178, 3) := by decide +kernel
theorem dX6_reachCubes_61 : decode cX6_reachCubes 61 = .ok (.iconst 1, 1) := by decide +kernel
theorem dX6_reachCubes_62 : decode cX6_reachCubes 62 = .ok (.iadd, 1) := by decide +kernel
theorem dX6_reachCubes_63 : decode cX6_reachCubes 63 = .ok (.iastore, 1) := by decide +kernel
theorem dX6_reachCubes_64 : decode cX6_reachCubes 64 = .ok (.aload 4, 2) := by decide +kernel
theorem dX6_reachCubes_66 : decode cX6_reachCubes 66 = .ok (.getfield 216, 3) := by decide +kernel
theorem dX6_reachCubes_69 : decode cX6_reachCubes 69 = .ok (.iload 6, 2) := by decide +kernel
theorem dX6_reachCubes_71 : decode cX6_reachCubes 71 = .ok (.iload_n 1, 1) := by decide +kernel
theorem dX6_reachCubes_72 : decode cX6_reachCubes 72 = .ok (.iastore, 1) := by decide +kernel
theorem dX6_reachCubes_73 : decode cX6_reachCubes 73 = .ok (.aload 4, 2) := by decide +kernel
theorem dX6_reachCubes_75 : decode cX6_reachCubes 75 = .ok (.getfield 219, 3) := by decide +kernel
theorem dX6_reachCubes_78 : decode cX6_reachCubes 78 = .ok (.iload 6, 2) := by decide +kernel
theorem dX6_reachCubes_80 : decode cX6_reachCubes 80 = .ok (.aload_n 3, 1) := by decide +kernel
theorem dX6_reachCubes_81 : decode cX6_reachCubes 81 = .ok (.iconst 0, 1) := by decide +kernel
theorem dX6_reachCubes_82 : decode cX6_reachCubes 82 = .ok (.iload_n 2, 1) := by decide +kernel
theorem dX6_reachCubes_83 : decode cX6_reachCubes 83 = .ok (.invokevirtual 284, 3) := by decide +kernel
theorem dX6_reachCubes_86 : decode cX6_reachCubes 86 = .ok (.iastore, 1) := by decide +kernel
theorem dX6_reachCubes_87 : decode cX6_reachCubes 87 = .ok (.aload 4, 2) := by decide +kernel
theorem dX6_reachCubes_89 : decode cX6_reachCubes 89 = .ok (.getfield 222, 3) := by decide +kernel
theorem dX6_reachCubes_92 : decode cX6_reachCubes 92 = .ok (.iload 6, 2) := by decide +kernel
theorem dX6_reachCubes_94 : decode cX6_reachCubes 94 = .ok (.aload_n 3, 1) := by decide +kernel
theorem dX6_reachCubes_95 : decode cX6_reachCubes 95 = .ok (.iconst 1, 1) := by decide +kernel
theorem dX6_reachCubes_96 : decode cX6_reachCubes 96 = .ok (.iload_n 2, 1) := by decide +kernel
theorem dX6_reachCubes_97 : decode cX6_reachCubes 97 = .ok (.invokevirtual 284, 3) := by decide +kernel
theorem dX6_reachCubes_100 : decode cX6_reachCubes 100 = .ok (.iastore, 1) := by decide +kernel
theorem dX6_reachCubes_101 : decode cX6_reachCubes 101 = .ok (.iinc 5 1, 3) := by decide +kernel
theorem dX6_reachCubes_104 : decode cX6_reachCubes 104 = .ok (.iinc 6 1, 3) := by decide +kernel
theorem dX6_reachCubes_107 : decode cX6_reachCubes 107 = .ok (.goto (-80), 3) := by decide +kernel
theorem dX6_reachCubes_110 : decode cX6_reachCubes 110 = .ok (.iload 5, 2) := by decide +kernel
theorem dX6_reachCubes_112 : decode cX6_reachCubes 112 = .ok (.ireturn, 1) := by decide +kernel
theorem dX6_isObeyed_0 : decode cX6_isObeyed 0 = .ok (.aload_n 0, 1) := by decide +kernel
theorem dX6_isObeyed_1 : decode cX6_isObeyed 1 = .ok (.aload_n 1, 1) := by decide +kernel
theorem dX6_isObeyed_2 : decode cX6_isObeyed 2 = .ok (.iconst 0, 1) := by decide +kernel
theorem dX6_isObeyed_3 : decode cX6_isObeyed 3 = .ok (.invokevirtual 269, 3) := by decide +kernel
theorem dX6_isObeyed_6 : decode cX6_isObeyed 6 = .ok (.istore_n 2, 1) := by decide +kernel
theorem dX6_isObeyed_7 : decode cX6_isObeyed 7 = .ok (.iload_n 2, 1) := by decide +kernel
theorem dX6_isObeyed_8 : decode cX6_isObeyed 8 = .ok (.sipush 256, 3) := by decide +kernel
theorem dX6_isObeyed_11 : decode cX6_isObeyed 11 = .ok (.if_icmp .ge 39, 3) := by decide +kernel
theorem dX6_isObeyed_14 : decode cX6_isObeyed 14 = .ok (.aload_n 1, 1) := by decide +kernel
theorem dX6_isObeyed_15 : decode cX6_isObeyed 15 = .ok (.getfield 103, 3) := by decide +kernel
theorem dX6_isObeyed_18 : decode cX6_isObeyed 18 = .ok (.getfield 247, 3) := by decide +kernel
theorem dX6_isObeyed_21 : decode cX6_isObeyed 21 = .ok (.iconst (-1), 1) := by decide +kernel
theorem dX6_isObeyed_22 : decode cX6_isObeyed 22 = .ok (.if_icmp .eq 14, 3) := by decide +kernel
theorem dX6_isObeyed_25 : decode cX6_isObeyed 25 = .ok (.aload_n 0, 1) := by decide +kernel
theorem dX6_isObeyed_26 : decode cX6_isObeyed 26 = .ok (.aload_n 1, 1) := by decide +kernel
theorem dX6_isObeyed_27 : decode cX6_isObeyed 27 = .ok (.getfield 103, 3) := by decide +kernel
theorem dX6_isObeyed_30 : decode cX6_isObeyed 30 = .ok (.invokevirtual 287, 3) := by decide +kernel
theorem dX6_isObeyed_33 : decode cX6_isObeyed 33 = .ok (.ifCond .eq 5, 3) := by decide +kernel
theorem dX6_isObeyed_36 : decode cX6_isObeyed 36 = .ok (.iconst 0, 1) := by decide +kernel
theorem dX6_isObeyed_37 : decode cX6_isObeyed 37 = .ok (.ireturn, 1) := by decide +kernel
theorem dX6_isObeyed_38 : decode cX6_isObeyed 38 = .ok (.aload_n 0, 1) := by decide +kernel
theorem dX6_isObeyed_39 : decode cX6_isObeyed 39 = .ok (.aload_n 1, 1) := by decide +kernel
theorem dX6_isObeyed_40 : decode cX6_isObeyed 40 = .ok (.iload_n 2, 1) := by decide +kernel
theorem dX6_isObeyed_41 : decode cX6_isObeyed 41 = .ok (.iconst 1, 1) := by decide +kernel
theorem dX6_isObeyed_42 : decode cX6_isObeyed 42 = .ok (.iadd, 1) := by decide +kernel
theorem dX6_isObeyed_43 : decode cX6_isObeyed 43 = .ok (.invokevirtual 269, 3) := by decide +kernel
theorem dX6_isObeyed_46 : decode cX6_isObeyed 46 = .ok (.istore_n 2, 1) := by decide +kernel
theorem dX6_isObeyed_47 : decode cX6_isObeyed 47 = .ok (.goto (-40), 3) := by decide +kernel
theorem dX6_isObeyed_50 : decode cX6_isObeyed 50 = .ok (.iconst 1, 1) := by decide +kernel
theorem dX6_isObeyed_51 : decode cX6_isObeyed 51 = .ok (.ireturn, 1) := by decide +kernel
theorem dX6_isAnyMissing_0 : decode cX6_isAnyMissing 0 = .ok (.aload_n 0, 1) := by decide +kernel
theorem dX6_isAnyMissing_1 : decode cX6_isAnyMissing 1 = .ok (.getfield 11, 3) := by decide +kernel
theorem dX6_isAnyMissing_4 : decode cX6_isAnyMissing 4 = .ok (.aload_n 1, 1) := by decide +kernel
theorem dX6_isAnyMissing_5 : decode cX6_isAnyMissing 5 = .ok (.getfield 247, 3) := by decide +kernel
theorem dX6_isAnyMissing_8 : decode cX6_isAnyMissing 8 = .ok (.aaload, 1) := by decide +kernel
theorem dX6_isAnyMissing_9 : decode cX6_isAnyMissing 9 = .ok (.invokevirtual 201, 3) := by decide +kernel
theorem dX6_isAnyMissing_12 : decode cX6_isAnyMissing 12 = .ok (.istore_n 2, 1) := by decide +kernel
theorem dX6_isAnyMissing_13 : decode cX6_isAnyMissing 13 = .ok (.iconst 0, 1) := by decide +kernel
theorem dX6_isAnyMissing_14 : decode cX6_isAnyMissing 14 = .ok (.istore_n 3, 1) := by decide +kernel
theorem dX6_isAnyMissing_15 : decode cX6_isAnyMissing 15 = .ok (.iload_n 3, 1) := by decide +kernel
theorem dX6_isAnyMissing_16 : decode cX6_isAnyMissing 16 = .ok (.iload_n 2, 1) := by decide +kernel
theorem dX6_isAnyMissing_17 : decode cX6_isAnyMissing 17 = .ok (.if_icmp .ge 20, 3) := by decide +kernel
theorem dX6_isAnyMissing_20 : decode cX6_isAnyMissing 20 = .ok (.aload_n 0, 1) := by decide +kernel
theorem dX6_isAnyMissing_21 : decode cX6_isAnyMissing 21 = .ok (.aload_n 1, 1) := by decide +kernel
theorem dX6_isAnyMissing_22 : decode cX6_isAnyMissing 22 = .ok (.iload_n 3, 1) := by decide +kernel
theorem dX6_isAnyMissing_23 : decode cX6_isAnyMissing 23 = .ok (.invokevirtual 280, 3) := by decide +kernel
theorem dX6_isAnyMissing_26 : decode cX6_isAnyMissing 26 = .ok (.ifCond .eq 5, 3) := by decide +kernel
theorem dX6_isAnyMissing_29 : decode cX6_isAnyMissing 29 = .ok (.iconst 1, 1) := by decide +kernel
theorem dX6_isAnyMissing_30 : decode cX6_isAnyMissing 30 = .ok (.ireturn, 1) := by decide +kernel
theorem dX6_isAnyMissing_31 : decode cX6_isAnyMissing 31 = .ok (.iinc 3 1, 3) := by decide +kernel
theorem dX6_isAnyMissing_34 : decode cX6_isAnyMissing 34 = .ok (.goto (-19), 3) := by decide +kernel
theorem dX6_isAnyMissing_37 : decode cX6_isAnyMissing 37 = .ok (.iconst 0, 1) := by decide +kernel
theorem dX6_isAnyMissing_38 : decode cX6_isAnyMissing 38 = .ok (.ireturn, 1) := by decide +kernel
theorem dX6_isMissing_0 : decode cX6_isMissing 0 = .ok (.aload_n 0, 1) := by decide +kernel
theorem dX6_isMissing_1 : decode cX6_isMissing 1 = .ok (.getfield 11, 3) := by decide +kernel
theorem dX6_isMissing_4 : decode cX6_isMissing 4 = .ok (.aload_n 1, 1) := by decide +kernel
theorem dX6_isMissing_5 : decode cX6_isMissing 5 = .ok (.getfield 247, 3) := by decide +kernel
theorem dX6_isMissing_8 : decode cX6_isMissing 8 = .ok (.aaload, 1) := by decide +kernel
theorem dX6_isMissing_9 : decode cX6_isMissing 9 = .ok (.astore_n 3, 1) := by decide +kernel
theorem dX6_isMissing_10 : decode cX6_isMissing 10 = .ok (.aload_n 3, 1) := by decide +kernel
theorem dX6_isMissing_11 : decode cX6_isMissing 11 = .ok (.getfield 206, 3) := by decide +kernel
theorem dX6_isMissing_14 : decode cX6_isMissing 14 = .ok (.iload_n 2, 1) := by decide +kernel
theorem dX6_isMissing_15 : decode cX6_isMissing 15 = .ok (.iaload, 1) := by decide +kernel
theorem dX6_isMissing_16 : decode cX6_isMissing 16 = .ok (.ifCond .eq 5, 3) := by decide +kernel
theorem dX6_isMissing_19 : decode cX6_isMissing 19 = .ok (.iconst 0, 1) := by decide +kernel
theorem dX6_isMissing_20 : decode cX6_isMissing 20 = .ok (.ireturn, 1) := by decide +kernel
theorem dX6_isMissing_21 : decode cX6_isMissing 21 = .ok (.aload_n 0, 1) := by decide +kernel
theorem dX6_isMissing_22 : decode cX6_isMissing 22 = .ok (.getfield 38, 3) := by decide +kernel
theorem dX6_isMissing_25 : decode cX6_isMissing 25 = .ok (.aload_n 0, 1) := by decide +kernel
theorem dX6_isMissing_26 : decode cX6_isMissing 26 = .ok (.getfield 35, 3) := by decide +kernel
theorem dX6_isMissing_29 : decode cX6_isMissing 29 = .ok (.invokevirtual 291, 3) := by decide +kernel
theorem dX6_isMissing_32 : decode cX6_isMissing 32 = .ok (.aload_n 3, 1) := by decide +kernel
theorem dX6_isMissing_33 : decode cX6_isMissing 33 = .ok (.aload_n 0, 1) := by decide +kernel
theorem dX6_isMissing_34 : decode cX6_isMissing 34 = .ok (.getfield 38, 3) := by decide +kernel
theorem dX6_isMissing_37 : decode cX6_isMissing 37 = .ok (.iload_n 2, 1) := by decide +kernel
theorem dX6_isMissing_38 : decode cX6_isMissing 38 = .ok (.aload_n 1, 1) := by decide +kernel
theorem dX6_isMissing_39 : decode cX6_isMissing 39 = .ok (.getfield 252, 3) := by decide +kernel
theorem dX6_isMissing_42 : decode cX6_isMissing 42 = .ok (.aload_n 1, 1) := by decide +kernel
theorem dX6_isMissing_43 : decode cX6_isMissing 43 = .ok (.getfield 255, 3) := by decide +kernel
theorem dX6_isMissing_46 : decode cX6_isMissing 46 = .ok (.invokevirtual 212, 3) := by decide +kernel
theorem dX6_isMissing_49 : decode cX6_isMissing 49 = .ok (.aload_n 0, 1) := by decide +kernel
theorem dX6_isMissing_50 : decode cX6_isMissing 50 = .ok (.getfield 38, 3) := by decide +kernel
theorem dX6_isMissing_53 : decode cX6_isMissing 53 = .ok (.getfield 159, 3) := by decide +kernel
theorem dX6_isMissing_56 : decode cX6_isMissing 56 = .ok (.ireturn, 1) := by decide +kernel
theorem dX6_nextPremises_0 : decode cX6_nextPremises 0 = .ok (.aload_n 0, 1) := by decide +kernel
theorem dX6_nextPremises_1 : decode cX6_nextPremises 1 = .ok (.aload_n 1, 1) := by decide +kernel
theorem dX6_nextPremises_2 : decode cX6_nextPremises 2 = .ok (.iconst 0, 1) := by decide +kernel
theorem dX6_nextPremises_3 : decode cX6_nextPremises 3 = .ok (.invokevirtual 295, 3) := by decide +kernel
theorem dX6_nextPremises_6 : decode cX6_nextPremises 6 = .ok (.istore_n 3, 1) := by decide +kernel
theorem dX6_nextPremises_7 : decode cX6_nextPremises 7 = .ok (.aload_n 0, 1) := by decide +kernel
theorem dX6_nextPremises_8 : decode cX6_nextPremises 8 = .ok (.aload_n 1, 1) := by decide +kernel
theorem dX6_nextPremises_9 : decode cX6_nextPremises 9 = .ok (.iconst 1, 1) := by decide +kernel
theorem dX6_nextPremises_10 : decode cX6_nextPremises 10 = .ok (.invokevirtual 295, 3) := by decide +kernel
theorem dX6_nextPremises_13 : decode cX6_nextPremises 13 = .ok (.istore 4, 2) := by decide +kernel
theorem dX6_nextPremises_15 : decode cX6_nextPremises 15 = .ok (.iload_n 2, 1) := by decide +kernel
theorem dX6_nextPremises_16 : decode cX6_nextPremises 16 = .ok (.bipush 16, 2) := by decide +kernel
theorem dX6_nextPremises_18 : decode cX6_nextPremises 18 = .ok (.irem, 1) := by decide +kernel
theorem dX6_nextPremises_19 : decode cX6_nextPremises 19 = .ok (.istore 5, 2) := by decide +kernel
theorem dX6_nextPremises_21 : decode cX6_nextPremises 21 = .ok (.iload_n 2, 1) := by decide +kernel
theorem dX6_nextPremises_22 : decode cX6_nextPremises 22 = .ok (.bipush 16, 2) := by decide +kernel
theorem dX6_nextPremises_24 : decode cX6_nextPremises 24 = .ok (.idiv, 1) := by decide +kernel
theorem dX6_nextPremises_25 : decode cX6_nextPremises 25 = .ok (.istore 6, 2) := by decide +kernel
theorem dX6_nextPremises_27 : decode cX6_nextPremises 27 = .ok (.iload 6, 2) := by decide +kernel
theorem dX6_nextPremises_29 : decode cX6_nextPremises 29 = .ok (.iload_n 3, 1) := by decide +kernel
theorem dX6_nextPremises_30 : decode cX6_nextPremises 30 = .ok (.if_icmp .ge 72, 3) := by decide +kernel
theorem dX6_nextPremises_33 : decode cX6_nextPremises 33 = .ok (.aload_n 0, 1) := by decide +kernel
theorem dX6_nextPremises_34 : decode cX6_nextPremises 34 = .ok (.aload_n 0, 1) := by decide +kernel
theorem dX6_nextPremises_35 : decode cX6_nextPremises 35 = .ok (.getfield 31, 3) := by decide +kernel
theorem dX6_nextPremises_38 : decode cX6_nextPremises 38 = .ok (.aload_n 1, 1) := by decide +kernel
theorem dX6_nextPremises_39 : decode cX6_nextPremises 39 = .ok (.getfield 134, 3) := by decide +kernel
theorem dX6_nextPremises_42 : decode cX6_nextPremises 42 = .ok (.aload_n 1, 1) := by decide +kernel
theorem dX6_nextPremises_43 : decode cX6_nextPremises 43 = .ok (.iconst 0, 1) := by decide +kernel
theorem dX6_nextPremises_44 : decode cX6_nextPremises 44 = .ok (.iload 6, 2) := by decide +kernel
theorem dX6_nextPremises_46 : decode cX6_nextPremises 46 = .ok (.invokevirtual 298, 3) := by decide +kernel
theorem dX6_nextPremises_49 : decode cX6_nextPremises 49 = .ok (.ifCond .eq 44, 3) := by decide +kernel
theorem dX6_nextPremises_52 : decode cX6_nextPremises 52 = .ok (.iload 5, 2) := by decide +kernel
theorem dX6_nextPremises_54 : decode cX6_nextPremises 54 = .ok (.iload 4, 2) := by decide +kernel
theorem dX6_nextPremises_56 : decode cX6_nextPremises 56 = .ok (.if_icmp .ge 37, 3) := by decide +kernel
theorem dX6_nextPremises_59 : decode cX6_nextPremises 59 = .ok (.aload_n 0, 1) := by decide +kernel
theorem dX6_nextPremises_60 : decode cX6_nextPremises 60 = .ok (.aload_n 0, 1) := by decide +kernel
theorem dX6_nextPremises_61 : decode cX6_nextPremises 61 = .ok (.getfield 35, 3) := by decide +kernel
theorem dX6_nextPremises_64 : decode cX6_nextPremises 64 = .ok (.aload_n 0, 1) := by decide +kernel
theorem dX6_nextPremises_65 : decode cX6_nextPremises 65 = .ok (.getfield 31, 3) := by decide +kernel
theorem dX6_nextPremises_68 : decode cX6_nextPremises 68 = .ok (.aload_n 1, 1) := by decide +kernel
theorem dX6_nextPremises_69 : decode cX6_nextPremises 69 = .ok (.iconst 1, 1) := by decide +kernel
theorem dX6_nextPremises_70 : decode cX6_nextPremises 70 = .ok (.iload 5, 2) := by decide +kernel
theorem dX6_nextPremises_72 : decode cX6_nextPremises 72 = .ok (.invokevirtual 298, 3) := by decide +kernel
theorem dX6_nextPremises_75 : decode cX6_nextPremises 75 = .ok (.ifCond .eq 12, 3) := by decide +kernel
theorem dX6_nextPremises_78 : decode cX6_nextPremises 78 = .ok (.iload 6, 2) := by decide +kernel
theorem dX6_nextPremises_80 : decode cX6_nextPremises 80 = .ok (.bipush 16, 2) := by decide +kernel
theorem dX6_nextPremises_82 : decode cX6_nextPremises 82 = .ok (.imul, 1) := by decide +kernel
theorem dX6_nextPremises_83 : decode cX6_nextPremises 83 = .ok (.iload 5, 2) := by decide +kernel
theorem dX6_nextPremises_85 : decode cX6_nextPremises 85 = .ok (.iadd, 1) := by decide +kernel
theorem dX6_nextPremises_86 : decode cX6_nextPremises 86 = .ok (.ireturn, 1) := by decide +kernel
theorem dX6_nextPremises_87 : decode cX6_nextPremises 87 = .ok (.iinc 5 1, 3) := by decide +kernel
theorem dX6_nextPremises_90 : decode cX6_nextPremises 90 = .ok (.goto (-38), 3) := by decide +kernel
theorem dX6_nextPremises_93 : decode cX6_nextPremises 93 = .ok (.iconst 0, 1) := by decide +kernel
theorem dX6_nextPremises_94 : decode cX6_nextPremises 94 = .ok (.istore 5, 2) := by decide +kernel
theorem dX6_nextPremises_96 : decode cX6_nextPremises 96 = .ok (.iinc 6 1, 3) := by decide +kernel
theorem dX6_nextPremises_99 : decode cX6_nextPremises 99 = .ok (.goto (-72), 3) := by decide +kernel
theorem dX6_nextPremises_102 : decode cX6_nextPremises 102 = .ok (.sipush 256, 3) := by decide +kernel
theorem dX6_nextPremises_105 : decode cX6_nextPremises 105 = .ok (.ireturn, 1) := by decide +kernel
theorem dX6_choices_0 : decode cX6_choices 0 = .ok (.iload_n 2, 1) := by decide +kernel
theorem dX6_choices_1 : decode cX6_choices 1 = .ok (.aload_n 1, 1) := by decide +kernel
theorem dX6_choices_2 : decode cX6_choices 2 = .ok (.getfield 111, 3) := by decide +kernel
theorem dX6_choices_5 : decode cX6_choices 5 = .ok (.if_icmp .ge 23, 3) := by decide +kernel
theorem dX6_choices_8 : decode cX6_choices 8 = .ok (.aload_n 0, 1) := by decide +kernel
theorem dX6_choices_9 : decode cX6_choices 9 = .ok (.getfield 11, 3) := by decide +kernel
theorem dX6_choices_12 : decode cX6_choices 12 = .ok (.aload_n 1, 1) := by decide +kernel
theorem dX6_choices_13 : decode cX6_choices 13 = .ok (.getfield 116, 3) := by decide +kernel
theorem dX6_choices_16 : decode cX6_choices 16 = .ok (.iload_n 2, 1) := by decide +kernel
theorem dX6_choices_17 : decode cX6_choices 17 = .ok (.aaload, 1) := by decide +kernel
theorem dX6_choices_18 : decode cX6_choices 18 = .ok (.getfield 247, 3) := by decide +kernel
theorem dX6_choices_21 : decode cX6_choices 21 = .ok (.aaload, 1) := by decide +kernel
theorem dX6_choices_22 : decode cX6_choices 22 = .ok (.invokevirtual 201, 3) := by decide +kernel
theorem dX6_choices_25 : decode cX6_choices 25 = .ok (.goto 4, 3) := by decide +kernel
theorem dX6_choices_28 : decode cX6_choices 28 = .ok (.iconst 1, 1) := by decide +kernel
theorem dX6_choices_29 : decode cX6_choices 29 = .ok (.ireturn, 1) := by decide +kernel
theorem dX6_lay_0 : decode cX6_lay 0 = .ok (.iload 4, 2) := by decide +kernel
theorem dX6_lay_2 : decode cX6_lay 2 = .ok (.aload_n 3, 1) := by decide +kernel
theorem dX6_lay_3 : decode cX6_lay 3 = .ok (.getfield 111, 3) := by decide +kernel
theorem dX6_lay_6 : decode cX6_lay 6 = .ok (.if_icmp .lt 13, 3) := by decide +kernel
theorem dX6_lay_9 : decode cX6_lay 9 = .ok (.aload_n 1, 1) := by decide +kernel
theorem dX6_lay_10 : decode cX6_lay 10 = .ok (.aload_n 2, 1) := by decide +kernel
theorem dX6_lay_11 : decode cX6_lay 11 = .ok (.invokevirtual 291, 3) := by decide +kernel
theorem dX6_lay_14 : decode cX6_lay 14 = .ok (.aload_n 1, 1) := by decide +kernel
theorem dX6_lay_15 : decode cX6_lay 15 = .ok (.getfield 159, 3) := by decide +kernel
theorem dX6_lay_18 : decode cX6_lay 18 = .ok (.ireturn, 1) := by decide +kernel
theorem dX6_lay_19 : decode cX6_lay 19 = .ok (.aload_n 3, 1) := by decide +kernel
theorem dX6_lay_20 : decode cX6_lay 20 = .ok (.getfield 116, 3) := by decide +kernel
theorem dX6_lay_23 : decode cX6_lay 23 = .ok (.iload 4, 2) := by decide +kernel
theorem dX6_lay_25 : decode cX6_lay 25 = .ok (.aaload, 1) := by decide +kernel
theorem dX6_lay_26 : decode cX6_lay 26 = .ok (.astore 6, 2) := by decide +kernel
theorem dX6_lay_28 : decode cX6_lay 28 = .ok (.aload_n 0, 1) := by decide +kernel
theorem dX6_lay_29 : decode cX6_lay 29 = .ok (.getfield 11, 3) := by decide +kernel
theorem dX6_lay_32 : decode cX6_lay 32 = .ok (.aload 6, 2) := by decide +kernel
theorem dX6_lay_34 : decode cX6_lay 34 = .ok (.getfield 247, 3) := by decide +kernel
theorem dX6_lay_37 : decode cX6_lay 37 = .ok (.aaload, 1) := by decide +kernel
theorem dX6_lay_38 : decode cX6_lay 38 = .ok (.astore 7, 2) := by decide +kernel
theorem dX6_lay_40 : decode cX6_lay 40 = .ok (.aload 7, 2) := by decide +kernel
theorem dX6_lay_42 : decode cX6_lay 42 = .ok (.getfield 206, 3) := by decide +kernel
theorem dX6_lay_45 : decode cX6_lay 45 = .ok (.iload 5, 2) := by decide +kernel
theorem dX6_lay_47 : decode cX6_lay 47 = .ok (.iaload, 1) := by decide +kernel
theorem dX6_lay_48 : decode cX6_lay 48 = .ok (.istore 8, 2) := by decide +kernel
theorem dX6_lay_50 : decode cX6_lay 50 = .ok (.iload 8, 2) := by decide +kernel
theorem dX6_lay_52 : decode cX6_lay 52 = .ok (.ifCond .eq 12, 3) := by decide +kernel
theorem dX6_lay_55 : decode cX6_lay 55 = .ok (.iload 8, 2) := by decide +kernel
theorem dX6_lay_57 : decode cX6_lay 57 = .ok (.aload_n 0, 1) := by decide +kernel
theorem dX6_lay_58 : decode cX6_lay 58 = .ok (.getfield 178, 3) := by decide +kernel
theorem dX6_lay_61 : decode cX6_lay 61 = .ok (.if_icmp .le 5, 3) := by decide +kernel
theorem dX6_lay_64 : decode cX6_lay 64 = .ok (.iconst 0, 1) := by decide +kernel
theorem dX6_lay_65 : decode cX6_lay 65 = .ok (.ireturn, 1) := by decide +kernel
theorem dX6_lay_66 : decode cX6_lay 66 = .ok (.aload_n 1, 1) := by decide +kernel
theorem dX6_lay_67 : decode cX6_lay 67 = .ok (.aload_n 2, 1) := by decide +kernel
theorem dX6_lay_68 : decode cX6_lay 68 = .ok (.invokevirtual 291, 3) := by decide +kernel
theorem dX6_lay_71 : decode cX6_lay 71 = .ok (.aload 7, 2) := by decide +kernel
theorem dX6_lay_73 : decode cX6_lay 73 = .ok (.aload_n 1, 1) := by decide +kernel
theorem dX6_lay_74 : decode cX6_lay 74 = .ok (.iload 5, 2) := by decide +kernel
theorem dX6_lay_76 : decode cX6_lay 76 = .ok (.aload 6, 2) := by decide +kernel
theorem dX6_lay_78 : decode cX6_lay 78 = .ok (.getfield 252, 3) := by decide +kernel
theorem dX6_lay_81 : decode cX6_lay 81 = .ok (.aload 6, 2) := by decide +kernel
theorem dX6_lay_83 : decode cX6_lay 83 = .ok (.getfield 255, 3) := by decide +kernel
theorem dX6_lay_86 : decode cX6_lay 86 = .ok (.invokevirtual 212, 3) := by decide +kernel
theorem dX6_lay_89 : decode cX6_lay 89 = .ok (.aload_n 1, 1) := by decide +kernel
theorem dX6_lay_90 : decode cX6_lay 90 = .ok (.getfield 159, 3) := by decide +kernel
theorem dX6_lay_93 : decode cX6_lay 93 = .ok (.ireturn, 1) := by decide +kernel
theorem dX6_growTree_0 : decode cX6_growTree 0 = .ok (.aload_n 0, 1) := by decide +kernel
theorem dX6_growTree_1 : decode cX6_growTree 1 = .ok (.getfield 24, 3) := by decide +kernel
theorem dX6_growTree_4 : decode cX6_growTree 4 = .ok (.iconst 0, 1) := by decide +kernel
theorem dX6_growTree_5 : decode cX6_growTree 5 = .ok (.putfield 181, 3) := by decide +kernel
theorem dX6_growTree_8 : decode cX6_growTree 8 = .ok (.aload_n 0, 1) := by decide +kernel
theorem dX6_growTree_9 : decode cX6_growTree 9 = .ok (.getfield 24, 3) := by decide +kernel
theorem dX6_growTree_12 : decode cX6_growTree 12 = .ok (.iconst 0, 1) := by decide +kernel
theorem dX6_growTree_13 : decode cX6_growTree 13 = .ok (.putfield 302, 3) := by decide +kernel
theorem dX6_growTree_16 : decode cX6_growTree 16 = .ok (.aload_n 0, 1) := by decide +kernel
theorem dX6_growTree_17 : decode cX6_growTree 17 = .ok (.getfield 17, 3) := by decide +kernel
theorem dX6_growTree_20 : decode cX6_growTree 20 = .ok (.aload_n 0, 1) := by decide +kernel
theorem dX6_growTree_21 : decode cX6_growTree 21 = .ok (.getfield 43, 3) := by decide +kernel
theorem dX6_growTree_24 : decode cX6_growTree 24 = .ok (.aaload, 1) := by decide +kernel
theorem dX6_growTree_25 : decode cX6_growTree 25 = .ok (.astore_n 2, 1) := by decide +kernel
theorem dX6_growTree_26 : decode cX6_growTree 26 = .ok (.aload_n 0, 1) := by decide +kernel
theorem dX6_growTree_27 : decode cX6_growTree 27 = .ok (.getfield 24, 3) := by decide +kernel
theorem dX6_growTree_30 : decode cX6_growTree 30 = .ok (.getfield 229, 3) := by decide +kernel
theorem dX6_growTree_33 : decode cX6_growTree 33 = .ok (.iconst 0, 1) := by decide +kernel
theorem dX6_growTree_34 : decode cX6_growTree 34 = .ok (.aaload, 1) := by decide +kernel
theorem dX6_growTree_35 : decode cX6_growTree 35 = .ok (.aload_n 0, 1) := by decide +kernel
theorem dX6_growTree_36 : decode cX6_growTree 36 = .ok (.getfield 43, 3) := by decide +kernel
theorem dX6_growTree_39 : decode cX6_growTree 39 = .ok (.iconst (-1), 1) := by decide +kernel
theorem dX6_growTree_40 : decode cX6_growTree 40 = .ok (.iconst 0, 1) := by decide +kernel
theorem dX6_growTree_41 : decode cX6_growTree 41 = .ok (.iconst (-1), 1) := by decide +kernel
theorem dX6_growTree_42 : decode cX6_growTree 42 = .ok (.invokevirtual 305, 3) := by decide +kernel
theorem dX6_growTree_45 : decode cX6_growTree 45 = .ok (.aload_n 0, 1) := by decide +kernel
theorem dX6_growTree_46 : decode cX6_growTree 46 = .ok (.getfield 24, 3) := by decide +kernel
theorem dX6_growTree_49 : decode cX6_growTree 49 = .ok (.aload_n 2, 1) := by decide +kernel
theorem dX6_growTree_50 : decode cX6_growTree 50 = .ok (.aload_n 2, 1) := by decide +kernel
theorem dX6_growTree_51 : decode cX6_growTree 51 = .ok (.iconst 0, 1) := by decide +kernel
theorem dX6_growTree_52 : decode cX6_growTree 52 = .ok (.iload_n 1, 1) := by decide +kernel
theorem dX6_growTree_53 : decode cX6_growTree 53 = .ok (.invokevirtual 284, 3) := by decide +kernel
theorem dX6_growTree_56 : decode cX6_growTree 56 = .ok (.aload_n 2, 1) := by decide +kernel
theorem dX6_growTree_57 : decode cX6_growTree 57 = .ok (.iconst 1, 1) := by decide +kernel
theorem dX6_growTree_58 : decode cX6_growTree 58 = .ok (.iload_n 1, 1) := by decide +kernel
theorem dX6_growTree_59 : decode cX6_growTree 59 = .ok (.invokevirtual 284, 3) := by decide +kernel
theorem dX6_growTree_62 : decode cX6_growTree 62 = .ok (.invokevirtual 308, 3) := by decide +kernel
theorem dX6_growTree_65 : decode cX6_growTree 65 = .ok (.iconst 0, 1) := by decide +kernel
theorem dX6_growTree_66 : decode cX6_growTree 66 = .ok (.istore_n 3, 1) := by decide +kernel
theorem dX6_growTree_67 : decode cX6_growTree 67 = .ok (.iload_n 3, 1) := by decide +kernel
theorem dX6_growTree_68 : decode cX6_growTree 68 = .ok (.bipush 40, 2) := by decide +kernel
theorem dX6_growTree_70 : decode cX6_growTree 70 = .ok (.if_icmp .ge 81, 3) := by decide +kernel
theorem dX6_growTree_73 : decode cX6_growTree 73 = .ok (.aload_n 0, 1) := by decide +kernel
theorem dX6_growTree_74 : decode cX6_growTree 74 = .ok (.getfield 24, 3) := by decide +kernel
theorem dX6_growTree_77 : decode cX6_growTree 77 = .ok (.getfield 302, 3) := by decide +kernel
theorem dX6_growTree_80 : decode cX6_growTree 80 = .ok (.ifCond .le 71, 3) := by decide +kernel
theorem dX6_growTree_83 : decode cX6_growTree 83 = .ok (.aload_n 0, 1) := by decide +kernel
theorem dX6_growTree_84 : decode cX6_growTree 84 = .ok (.getfield 24, 3) := by decide +kernel
theorem dX6_growTree_87 : decode cX6_growTree 87 = .ok (.dup, 1) := by decide +kernel
theorem dX6_growTree_88 : decode cX6_growTree 88 = .ok (.getfield 302, 3) := by decide +kernel
theorem dX6_growTree_91 : decode cX6_growTree 91 = .ok (.iconst 1, 1) := by decide +kernel
theorem dX6_growTree_92 : decode cX6_growTree 92 = .ok (.isub, 1) := by decide +kernel
theorem dX6_growTree_93 : decode cX6_growTree 93 = .ok (.putfield 302, 3) := by decide +kernel
theorem dX6_growTree_96 : decode cX6_growTree 96 = .ok (.aload_n 0, 1) := by decide +kernel
theorem dX6_growTree_97 : decode cX6_growTree 97 = .ok (.aload_n 0, 1) := by decide +kernel
theorem dX6_growTree_98 : decode cX6_growTree 98 = .ok (.getfield 24, 3) := by decide +kernel
theorem dX6_growTree_101 : decode cX6_growTree 101 = .ok (.getfield 312, 3) := by decide +kernel
theorem dX6_growTree_104 : decode cX6_growTree 104 = .ok (.aload_n 0, 1) := by decide +kernel
theorem dX6_growTree_105 : decode cX6_growTree 105 = .ok (.getfield 24, 3) := by decide +kernel
theorem dX6_growTree_108 : decode cX6_growTree 108 = .ok (.getfield 302, 3) := by decide +kernel
theorem dX6_growTree_111 : decode cX6_growTree 111 = .ok (.iaload, 1) := by decide +kernel
theorem dX6_growTree_112 : decode cX6_growTree 112 = .ok (.aload_n 0, 1) := by decide +kernel
theorem dX6_growTree_113 : decode cX6_growTree 113 = .ok (.getfield 24, 3) := by decide +kernel
theorem dX6_growTree_116 : decode cX6_growTree 116 = .ok (.getfield 315, 3) := by decide +kernel
theorem dX6_growTree_119 : decode cX6_growTree 119 = .ok (.aload_n 0, 1) := by decide +kernel
theorem dX6_growTree_120 : decode cX6_growTree 120 = .ok (.getfield 24, 3) := by decide +kernel
theorem dX6_growTree_123 : decode cX6_growTree 123 = .ok (.getfield 302, 3) := by decide +kernel
theorem dX6_growTree_126 : decode cX6_growTree 126 = .ok (.iaload, 1) := by decide +kernel
theorem dX6_growTree_127 : decode cX6_growTree 127 = .ok (.aload_n 0, 1) := by decide +kernel
theorem dX6_growTree_128 : decode cX6_growTree 128 = .ok (.getfield 24, 3) := by decide +kernel
theorem dX6_growTree_131 : decode cX6_growTree 131 = .ok (.getfield 318, 3) := by decide +kernel
theorem dX6_growTree_134 : decode cX6_growTree 134 = .ok (.aload_n 0, 1) := by decide +kernel
theorem dX6_growTree_135 : decode cX6_growTree 135 = .ok (.getfield 24, 3) := by decide +kernel
theorem dX6_growTree_138 : decode cX6_growTree 138 = .ok (.getfield 302, 3) := by decide +kernel
theorem dX6_growTree_141 : decode cX6_growTree 141 = .ok (.iaload, 1) := by decide +kernel
theorem dX6_growTree_142 : decode cX6_growTree 142 = .ok (.invokevirtual 321, 3) := by decide +kernel
theorem dX6_growTree_145 : decode cX6_growTree 145 = .ok (.iinc 3 1, 3) := by decide +kernel
theorem dX6_growTree_148 : decode cX6_growTree 148 = .ok (.goto (-81), 3) := by decide +kernel
theorem dX6_growTree_151 : decode cX6_growTree 151 = .ok (.return_, 1) := by decide +kernel
theorem dX6_growChild_0 : decode cX6_growChild 0 = .ok (.aload_n 0, 1) := by decide +kernel
theorem dX6_growChild_1 : decode cX6_growChild 1 = .ok (.getfield 17, 3) := by decide +kernel
theorem dX6_growChild_4 : decode cX6_growChild 4 = .ok (.aload_n 0, 1) := by decide +kernel
theorem dX6_growChild_5 : decode cX6_growChild 5 = .ok (.getfield 24, 3) := by decide +kernel
theorem dX6_growChild_8 : decode cX6_growChild 8 = .ok (.getfield 229, 3) := by decide +kernel
theorem dX6_growChild_11 : decode cX6_growChild 11 = .ok (.iload_n 1, 1) := by decide +kernel
theorem dX6_growChild_12 : decode cX6_growChild 12 = .ok (.aaload, 1) := by decide +kernel
theorem dX6_growChild_13 : decode cX6_growChild 13 = .ok (.getfield 233, 3) := by decide +kernel
theorem dX6_growChild_16 : decode cX6_growChild 16 = .ok (.aaload, 1) := by decide +kernel
theorem dX6_growChild_17 : decode cX6_growChild 17 = .ok (.getfield 116, 3) := by decide +kernel
theorem dX6_growChild_20 : decode cX6_growChild 20 = .ok (.iload_n 2, 1) := by decide +kernel
theorem dX6_growChild_21 : decode cX6_growChild 21 = .ok (.aaload, 1) := by decide +kernel
theorem dX6_growChild_22 : decode cX6_growChild 22 = .ok (.astore 4, 2) := by decide +kernel
theorem dX6_growChild_24 : decode cX6_growChild 24 = .ok (.aload_n 0, 1) := by decide +kernel
theorem dX6_growChild_25 : decode cX6_growChild 25 = .ok (.getfield 11, 3) := by decide +kernel
theorem dX6_growChild_28 : decode cX6_growChild 28 = .ok (.aload 4, 2) := by decide +kernel
theorem dX6_growChild_30 : decode cX6_growChild 30 = .ok (.getfield 247, 3) := by decide +kernel
theorem dX6_growChild_33 : decode cX6_growChild 33 = .ok (.aaload, 1) := by decide +kernel
theorem dX6_growChild_34 : decode cX6_growChild 34 = .ok (.astore 5, 2) := by decide +kernel
theorem dX6_growChild_36 : decode cX6_growChild 36 = .ok (.aload 5, 2) := by decide +kernel
theorem dX6_growChild_38 : decode cX6_growChild 38 = .ok (.getfield 216, 3) := by decide +kernel
theorem dX6_growChild_41 : decode cX6_growChild 41 = .ok (.iload_n 3, 1) := by decide +kernel
theorem dX6_growChild_42 : decode cX6_growChild 42 = .ok (.iaload, 1) := by decide +kernel
theorem dX6_growChild_43 : decode cX6_growChild 43 = .ok (.istore 6, 2) := by decide +kernel
theorem dX6_growChild_45 : decode cX6_growChild 45 = .ok (.aload_n 0, 1) := by decide +kernel
theorem dX6_growChild_46 : decode cX6_growChild 46 = .ok (.getfield 24, 3) := by decide +kernel
theorem dX6_growChild_49 : decode cX6_growChild 49 = .ok (.getfield 229, 3) := by decide +kernel
theorem dX6_growChild_52 : decode cX6_growChild 52 = .ok (.aload_n 0, 1) := by decide +kernel
theorem dX6_growChild_53 : decode cX6_growChild 53 = .ok (.getfield 24, 3) := by decide +kernel
theorem dX6_growChild_56 : decode cX6_growChild 56 = .ok (.getfield 181, 3) := by decide +kernel
theorem dX6_growChild_59 : decode cX6_growChild 59 = .ok (.aaload, 1) := by decide +kernel
theorem dX6_growChild_60 : decode cX6_growChild 60 = .ok (.iload 6, 2) := by decide +kernel
theorem dX6_growChild_62 : decode cX6_growChild 62 = .ok (.iload_n 1, 1) := by decide +kernel
theorem dX6_growChild_63 : decode cX6_growChild 63 = .ok (.iload_n 2, 1) := by decide +kernel
theorem dX6_growChild_64 : decode cX6_growChild 64 = .ok (.iload_n 3, 1) := by decide +kernel
theorem dX6_growChild_65 : decode cX6_growChild 65 = .ok (.invokevirtual 305, 3) := by decide +kernel
theorem dX6_growChild_68 : decode cX6_growChild 68 = .ok (.aload_n 0, 1) := by decide +kernel
theorem dX6_growChild_69 : decode cX6_growChild 69 = .ok (.getfield 24, 3) := by decide +kernel
theorem dX6_growChild_72 : decode cX6_growChild 72 = .ok (.aload_n 0, 1) := by decide +kernel
theorem dX6_growChild_73 : decode cX6_growChild 73 = .ok (.getfield 17, 3) := by decide +kernel
theorem dX6_growChild_76 : decode cX6_growChild 76 = .ok (.iload 6, 2) := by decide +kernel
theorem dX6_growChild_78 : decode cX6_growChild 78 = .ok (.aaload, 1) := by decide +kernel
theorem dX6_growChild_79 : decode cX6_growChild 79 = .ok (.aload 5, 2) := by decide +kernel
theorem dX6_growChild_81 : decode cX6_growChild 81 = .ok (.getfield 219, 3) := by decide +kernel
theorem dX6_growChild_84 : decode cX6_growChild 84 = .ok (.iload_n 3, 1) := by decide +kernel
theorem dX6_growChild_85 : decode cX6_growChild 85 = .ok (.iaload, 1) := by decide +kernel
theorem dX6_growChild_86 : decode cX6_growChild 86 = .ok (.aload 5, 2) := by decide +kernel
theorem dX6_growChild_88 : decode cX6_growChild 88 = .ok (.getfield 222, 3) := by decide +kernel
theorem dX6_growChild_91 : decode cX6_growChild 91 = .ok (.iload_n 3, 1) := by decide +kernel
theorem dX6_growChild_92 : decode cX6_growChild 92 = .ok (.iaload, 1) := by decide +kernel
theorem dX6_growChild_93 : decode cX6_growChild 93 = .ok (.invokevirtual 308, 3) := by decide +kernel
theorem dX6_growChild_96 : decode cX6_growChild 96 = .ok (.return_, 1) := by decide +kernel
theorem dX6_refineAlarm_0 : decode cX6_refineAlarm 0 = .ok (.aload_n 0, 1) := by decide +kernel
theorem dX6_refineAlarm_1 : decode cX6_refineAlarm 1 = .ok (.getfield 24, 3) := by decide +kernel
theorem dX6_refineAlarm_4 : decode cX6_refineAlarm 4 = .ok (.getfield 181, 3) := by decide +kernel
theorem dX6_refineAlarm_7 : decode cX6_refineAlarm 7 = .ok (.bipush 40, 2) := by decide +kernel
theorem dX6_refineAlarm_9 : decode cX6_refineAlarm 9 = .ok (.if_icmp .le 10, 3) := by decide +kernel
theorem dX6_refineAlarm_12 : decode cX6_refineAlarm 12 = .ok (.aload_n 0, 1) := by decide +kernel
theorem dX6_refineAlarm_13 : decode cX6_refineAlarm 13 = .ok (.iconst 3, 1) := by decide +kernel
theorem dX6_refineAlarm_14 : decode cX6_refineAlarm 14 = .ok (.putfield 47, 3) := by decide +kernel
theorem dX6_refineAlarm_17 : decode cX6_refineAlarm 17 = .ok (.iconst 0, 1) := by decide +kernel
theorem dX6_refineAlarm_18 : decode cX6_refineAlarm 18 = .ok (.ireturn, 1) := by decide +kernel
theorem dX6_refineAlarm_19 : decode cX6_refineAlarm 19 = .ok (.aload_n 0, 1) := by decide +kernel
theorem dX6_refineAlarm_20 : decode cX6_refineAlarm 20 = .ok (.invokevirtual 324, 3) := by decide +kernel
theorem dX6_refineAlarm_23 : decode cX6_refineAlarm 23 = .ok (.aload_n 0, 1) := by decide +kernel
theorem dX6_refineAlarm_24 : decode cX6_refineAlarm 24 = .ok (.getfield 24, 3) := by decide +kernel
theorem dX6_refineAlarm_27 : decode cX6_refineAlarm 27 = .ok (.getfield 229, 3) := by decide +kernel
theorem dX6_refineAlarm_30 : decode cX6_refineAlarm 30 = .ok (.iconst 0, 1) := by decide +kernel
theorem dX6_refineAlarm_31 : decode cX6_refineAlarm 31 = .ok (.aaload, 1) := by decide +kernel
theorem dX6_refineAlarm_32 : decode cX6_refineAlarm 32 = .ok (.getfield 327, 3) := by decide +kernel
theorem dX6_refineAlarm_35 : decode cX6_refineAlarm 35 = .ok (.getfield 159, 3) := by decide +kernel
theorem dX6_refineAlarm_38 : decode cX6_refineAlarm 38 = .ok (.ifCond .eq 10, 3) := by decide +kernel
theorem dX6_refineAlarm_41 : decode cX6_refineAlarm 41 = .ok (.aload_n 0, 1) := by decide +kernel
theorem dX6_refineAlarm_42 : decode cX6_refineAlarm 42 = .ok (.iconst 2, 1) := by decide +kernel
theorem dX6_refineAlarm_43 : decode cX6_refineAlarm 43 = .ok (.putfield 47, 3) := by decide +kernel
theorem dX6_refineAlarm_46 : decode cX6_refineAlarm 46 = .ok (.iconst 0, 1) := by decide +kernel
theorem dX6_refineAlarm_47 : decode cX6_refineAlarm 47 = .ok (.ireturn, 1) := by decide +kernel
theorem dX6_refineAlarm_48 : decode cX6_refineAlarm 48 = .ok (.iconst 0, 1) := by decide +kernel
theorem dX6_refineAlarm_49 : decode cX6_refineAlarm 49 = .ok (.istore_n 1, 1) := by decide +kernel
theorem dX6_refineAlarm_50 : decode cX6_refineAlarm 50 = .ok (.iconst 1, 1) := by decide +kernel
theorem dX6_refineAlarm_51 : decode cX6_refineAlarm 51 = .ok (.istore_n 2, 1) := by decide +kernel
theorem dX6_refineAlarm_52 : decode cX6_refineAlarm 52 = .ok (.iload_n 2, 1) := by decide +kernel
theorem dX6_refineAlarm_53 : decode cX6_refineAlarm 53 = .ok (.aload_n 0, 1) := by decide +kernel
theorem dX6_refineAlarm_54 : decode cX6_refineAlarm 54 = .ok (.getfield 24, 3) := by decide +kernel
theorem dX6_refineAlarm_57 : decode cX6_refineAlarm 57 = .ok (.getfield 181, 3) := by decide +kernel
theorem dX6_refineAlarm_60 : decode cX6_refineAlarm 60 = .ok (.if_icmp .ge 25, 3) := by decide +kernel
theorem dX6_refineAlarm_63 : decode cX6_refineAlarm 63 = .ok (.iload_n 1, 1) := by decide +kernel
theorem dX6_refineAlarm_64 : decode cX6_refineAlarm 64 = .ok (.aload_n 0, 1) := by decide +kernel
theorem dX6_refineAlarm_65 : decode cX6_refineAlarm 65 = .ok (.aload_n 0, 1) := by decide +kernel
theorem dX6_refineAlarm_66 : decode cX6_refineAlarm 66 = .ok (.getfield 24, 3) := by decide +kernel
theorem dX6_refineAlarm_69 : decode cX6_refineAlarm 69 = .ok (.getfield 229, 3) := by decide +kernel
theorem dX6_refineAlarm_72 : decode cX6_refineAlarm 72 = .ok (.iload_n 2, 1) := by decide +kernel
theorem dX6_refineAlarm_73 : decode cX6_refineAlarm 73 = .ok (.aaload, 1) := by decide +kernel
theorem dX6_refineAlarm_74 : decode cX6_refineAlarm 74 = .ok (.invokevirtual 330, 3) := by decide +kernel
theorem dX6_refineAlarm_77 : decode cX6_refineAlarm 77 = .ok (.iadd, 1) := by decide +kernel
theorem dX6_refineAlarm_78 : decode cX6_refineAlarm 78 = .ok (.istore_n 1, 1) := by decide +kernel
theorem dX6_refineAlarm_79 : decode cX6_refineAlarm 79 = .ok (.iinc 2 1, 3) := by decide +kernel
theorem dX6_refineAlarm_82 : decode cX6_refineAlarm 82 = .ok (.goto (-30), 3) := by decide +kernel
theorem dX6_refineAlarm_85 : decode cX6_refineAlarm 85 = .ok (.iload_n 1, 1) := by decide +kernel
theorem dX6_refineAlarm_86 : decode cX6_refineAlarm 86 = .ok (.ifCond .ne 11, 3) := by decide +kernel
theorem dX6_refineAlarm_89 : decode cX6_refineAlarm 89 = .ok (.aload_n 0, 1) := by decide +kernel
theorem dX6_refineAlarm_90 : decode cX6_refineAlarm 90 = .ok (.iconst 3, 1) := by decide +kernel
theorem dX6_refineAlarm_91 : decode cX6_refineAlarm 91 = .ok (.putfield 47, 3) := by decide +kernel
theorem dX6_refineAlarm_94 : decode cX6_refineAlarm 94 = .ok (.goto 17, 3) := by decide +kernel
theorem dX6_refineAlarm_97 : decode cX6_refineAlarm 97 = .ok (.aload_n 0, 1) := by decide +kernel
theorem dX6_refineAlarm_98 : decode cX6_refineAlarm 98 = .ok (.dup, 1) := by decide +kernel
theorem dX6_refineAlarm_99 : decode cX6_refineAlarm 99 = .ok (.getfield 184, 3) := by decide +kernel
theorem dX6_refineAlarm_102 : decode cX6_refineAlarm 102 = .ok (.iconst 1, 1) := by decide +kernel
theorem dX6_refineAlarm_103 : decode cX6_refineAlarm 103 = .ok (.iadd, 1) := by decide +kernel
theorem dX6_refineAlarm_104 : decode cX6_refineAlarm 104 = .ok (.putfield 184, 3) := by decide +kernel
theorem dX6_refineAlarm_107 : decode cX6_refineAlarm 107 = .ok (.aload_n 0, 1) := by decide +kernel
theorem dX6_refineAlarm_108 : decode cX6_refineAlarm 108 = .ok (.invokevirtual 68, 3) := by decide +kernel
theorem dX6_refineAlarm_111 : decode cX6_refineAlarm 111 = .ok (.iload_n 1, 1) := by decide +kernel
theorem dX6_refineAlarm_112 : decode cX6_refineAlarm 112 = .ok (.ireturn, 1) := by decide +kernel
theorem dX6_closeTree_0 : decode cX6_closeTree 0 = .ok (.iconst 0, 1) := by decide +kernel
theorem dX6_closeTree_1 : decode cX6_closeTree 1 = .ok (.istore_n 1, 1) := by decide +kernel
theorem dX6_closeTree_2 : decode cX6_closeTree 2 = .ok (.iload_n 1, 1) := by decide +kernel
theorem dX6_closeTree_3 : decode cX6_closeTree 3 = .ok (.aload_n 0, 1) := by decide +kernel
theorem dX6_closeTree_4 : decode cX6_closeTree 4 = .ok (.getfield 24, 3) := by decide +kernel
theorem dX6_closeTree_7 : decode cX6_closeTree 7 = .ok (.getfield 181, 3) := by decide +kernel
theorem dX6_closeTree_10 : decode cX6_closeTree 10 = .ok (.if_icmp .ge 38, 3) := by decide +kernel
theorem dX6_closeTree_13 : decode cX6_closeTree 13 = .ok (.aload_n 0, 1) := by decide +kernel
theorem dX6_closeTree_14 : decode cX6_closeTree 14 = .ok (.getfield 24, 3) := by decide +kernel
theorem dX6_closeTree_17 : decode cX6_closeTree 17 = .ok (.getfield 229, 3) := by decide +kernel
theorem dX6_closeTree_20 : decode cX6_closeTree 20 = .ok (.iload_n 1, 1) := by decide +kernel
theorem dX6_closeTree_21 : decode cX6_closeTree 21 = .ok (.aaload, 1) := by decide +kernel
theorem dX6_closeTree_22 : decode cX6_closeTree 22 = .ok (.astore_n 2, 1) := by decide +kernel
theorem dX6_closeTree_23 : decode cX6_closeTree 23 = .ok (.aload_n 2, 1) := by decide +kernel
theorem dX6_closeTree_24 : decode cX6_closeTree 24 = .ok (.getfield 327, 3) := by decide +kernel
theorem dX6_closeTree_27 : decode cX6_closeTree 27 = .ok (.aload_n 0, 1) := by decide +kernel
theorem dX6_closeTree_28 : decode cX6_closeTree 28 = .ok (.getfield 17, 3) := by decide +kernel
theorem dX6_closeTree_31 : decode cX6_closeTree 31 = .ok (.aload_n 2, 1) := by decide +kernel
theorem dX6_closeTree_32 : decode cX6_closeTree 32 = .ok (.getfield 233, 3) := by decide +kernel
theorem dX6_closeTree_35 : decode cX6_closeTree 35 = .ok (.aaload, 1) := by decide +kernel
theorem dX6_closeTree_36 : decode cX6_closeTree 36 = .ok (.getfield 134, 3) := by decide +kernel
theorem dX6_closeTree_39 : decode cX6_closeTree 39 = .ok (.invokevirtual 291, 3) := by decide +kernel
theorem dX6_closeTree_42 : decode cX6_closeTree 42 = .ok (.iinc 1 1, 3) := by decide +kernel
theorem dX6_closeTree_45 : decode cX6_closeTree 45 = .ok (.goto (-43), 3) := by decide +kernel
theorem dX6_closeTree_48 : decode cX6_closeTree 48 = .ok (.aload_n 0, 1) := by decide +kernel
theorem dX6_closeTree_49 : decode cX6_closeTree 49 = .ok (.getfield 24, 3) := by decide +kernel
theorem dX6_closeTree_52 : decode cX6_closeTree 52 = .ok (.getfield 181, 3) := by decide +kernel
theorem dX6_closeTree_55 : decode cX6_closeTree 55 = .ok (.iconst 1, 1) := by decide +kernel
theorem dX6_closeTree_56 : decode cX6_closeTree 56 = .ok (.isub, 1) := by decide +kernel
theorem dX6_closeTree_57 : decode cX6_closeTree 57 = .ok (.istore_n 1, 1) := by decide +kernel
theorem dX6_closeTree_58 : decode cX6_closeTree 58 = .ok (.iload_n 1, 1) := by decide +kernel
theorem dX6_closeTree_59 : decode cX6_closeTree 59 = .ok (.ifCond .le 22, 3) := by decide +kernel
theorem dX6_closeTree_62 : decode cX6_closeTree 62 = .ok (.aload_n 0, 1) := by decide +kernel
theorem dX6_closeTree_63 : decode cX6_closeTree 63 = .ok (.aload_n 0, 1) := by decide +kernel
theorem dX6_closeTree_64 : decode cX6_closeTree 64 = .ok (.getfield 24, 3) := by decide +kernel
theorem dX6_closeTree_67 : decode cX6_closeTree 67 = .ok (.getfield 229, 3) := by decide +kernel
theorem dX6_closeTree_70 : decode cX6_closeTree 70 = .ok (.iload_n 1, 1) := by decide +kernel
theorem dX6_closeTree_71 : decode cX6_closeTree 71 = .ok (.aaload, 1) := by decide +kernel
theorem dX6_closeTree_72 : decode cX6_closeTree 72 = .ok (.invokevirtual 334, 3) := by decide +kernel
theorem dX6_closeTree_75 : decode cX6_closeTree 75 = .ok (.iinc 1 (-1), 3) := by decide +kernel
theorem dX6_closeTree_78 : decode cX6_closeTree 78 = .ok (.goto (-20), 3) := by decide +kernel
theorem dX6_closeTree_81 : decode cX6_closeTree 81 = .ok (.return_, 1) := by decide +kernel
theorem dX6_handUp_0 : decode cX6_handUp 0 = .ok (.aload_n 0, 1) := by decide +kernel
theorem dX6_handUp_1 : decode cX6_handUp 1 = .ok (.getfield 24, 3) := by decide +kernel
theorem dX6_handUp_4 : decode cX6_handUp 4 = .ok (.getfield 229, 3) := by decide +kernel
theorem dX6_handUp_7 : decode cX6_handUp 7 = .ok (.aload_n 1, 1) := by decide +kernel
theorem dX6_handUp_8 : decode cX6_handUp 8 = .ok (.getfield 238, 3) := by decide +kernel
theorem dX6_handUp_11 : decode cX6_handUp 11 = .ok (.aaload, 1) := by decide +kernel
theorem dX6_handUp_12 : decode cX6_handUp 12 = .ok (.astore_n 2, 1) := by decide +kernel
theorem dX6_handUp_13 : decode cX6_handUp 13 = .ok (.aload_n 1, 1) := by decide +kernel
theorem dX6_handUp_14 : decode cX6_handUp 14 = .ok (.getfield 327, 3) := by decide +kernel
theorem dX6_handUp_17 : decode cX6_handUp 17 = .ok (.getfield 159, 3) := by decide +kernel
theorem dX6_handUp_20 : decode cX6_handUp 20 = .ok (.ifCond .ne 12, 3) := by decide +kernel
theorem dX6_handUp_23 : decode cX6_handUp 23 = .ok (.aload_n 2, 1) := by decide +kernel
theorem dX6_handUp_24 : decode cX6_handUp 24 = .ok (.getfield 327, 3) := by decide +kernel
theorem dX6_handUp_27 : decode cX6_handUp 27 = .ok (.iconst 0, 1) := by decide +kernel
theorem dX6_handUp_28 : decode cX6_handUp 28 = .ok (.putfield 159, 3) := by decide +kernel
theorem dX6_handUp_31 : decode cX6_handUp 31 = .ok (.return_, 1) := by decide +kernel
theorem dX6_handUp_32 : decode cX6_handUp 32 = .ok (.aload_n 0, 1) := by decide +kernel
theorem dX6_handUp_33 : decode cX6_handUp 33 = .ok (.getfield 17, 3) := by decide +kernel
theorem dX6_handUp_36 : decode cX6_handUp 36 = .ok (.aload_n 1, 1) := by decide +kernel
theorem dX6_handUp_37 : decode cX6_handUp 37 = .ok (.getfield 233, 3) := by decide +kernel
theorem dX6_handUp_40 : decode cX6_handUp 40 = .ok (.aaload, 1) := by decide +kernel
theorem dX6_handUp_41 : decode cX6_handUp 41 = .ok (.getfield 103, 3) := by decide +kernel
theorem dX6_handUp_44 : decode cX6_handUp 44 = .ok (.astore_n 3, 1) := by decide +kernel
theorem dX6_handUp_45 : decode cX6_handUp 45 = .ok (.aload_n 0, 1) := by decide +kernel
theorem dX6_handUp_46 : decode cX6_handUp 46 = .ok (.getfield 17, 3) := by decide +kernel
theorem dX6_handUp_49 : decode cX6_handUp 49 = .ok (.aload_n 2, 1) := by decide +kernel
theorem dX6_handUp_50 : decode cX6_handUp 50 = .ok (.getfield 233, 3) := by decide +kernel
theorem dX6_handUp_53 : decode cX6_handUp 53 = .ok (.aaload, 1) := by decide +kernel
theorem dX6_handUp_54 : decode cX6_handUp 54 = .ok (.getfield 116, 3) := by decide +kernel
theorem dX6_handUp_57 : decode cX6_handUp 57 = .ok (.aload_n 1, 1) := by decide +kernel
theorem dX6_handUp_58 : decode cX6_handUp 58 = .ok (.getfield 338, 3) := by decide +kernel
theorem dX6_handUp_61 : decode cX6_handUp 61 = .ok (.aaload, 1) := by decide +kernel
theorem dX6_handUp_62 : decode cX6_handUp 62 = .ok (.astore 4, 2) := by decide +kernel
theorem dX6_handUp_64 : decode cX6_handUp 64 = .ok (.aload_n 0, 1) := by decide +kernel
theorem dX6_handUp_65 : decode cX6_handUp 65 = .ok (.getfield 11, 3) := by decide +kernel
theorem dX6_handUp_68 : decode cX6_handUp 68 = .ok (.aload_n 3, 1) := by decide +kernel
theorem dX6_handUp_69 : decode cX6_handUp 69 = .ok (.getfield 247, 3) := by decide +kernel
theorem dX6_handUp_72 : decode cX6_handUp 72 = .ok (.aaload, 1) := by decide +kernel
theorem dX6_handUp_73 : decode cX6_handUp 73 = .ok (.astore 5, 2) := by decide +kernel
theorem dX6_handUp_75 : decode cX6_handUp 75 = .ok (.iconst 0, 1) := by decide +kernel
theorem dX6_handUp_76 : decode cX6_handUp 76 = .ok (.istore 6, 2) := by decide +kernel
theorem dX6_handUp_78 : decode cX6_handUp 78 = .ok (.iload 6, 2) := by decide +kernel
theorem dX6_handUp_80 : decode cX6_handUp 80 = .ok (.iconst 3, 1) := by decide +kernel
theorem dX6_handUp_81 : decode cX6_handUp 81 = .ok (.if_icmp .ge 80, 3) := by decide +kernel
theorem dX6_handUp_84 : decode cX6_handUp 84 = .ok (.iconst 0, 1) := by decide +kernel
theorem dX6_handUp_85 : decode cX6_handUp 85 = .ok (.istore 7, 2) := by decide +kernel
theorem dX6_handUp_87 : decode cX6_handUp 87 = .ok (.iload 7, 2) := by decide +kernel
theorem dX6_handUp_89 : decode cX6_handUp 89 = .ok (.iconst 3, 1) := by decide +kernel
theorem dX6_handUp_90 : decode cX6_handUp 90 = .ok (.if_icmp .ge 65, 3) := by decide +kernel
theorem dX6_handUp_93 : decode cX6_handUp 93 = .ok (.aload 5, 2) := by decide +kernel
theorem dX6_handUp_95 : decode cX6_handUp 95 = .ok (.iload 6, 2) := by decide +kernel
theorem dX6_handUp_97 : decode cX6_handUp 97 = .ok (.iload 7, 2) := by decide +kernel
theorem dX6_handUp_99 : decode cX6_handUp 99 = .ok (.invokevirtual 341, 3) := by decide +kernel
theorem dX6_handUp_102 : decode cX6_handUp 102 = .ok (.ifCond .eq 47, 3) := by decide +kernel
theorem dX6_handUp_105 : decode cX6_handUp 105 = .ok (.aload_n 1, 1) := by decide +kernel
theorem dX6_handUp_106 : decode cX6_handUp 106 = .ok (.getfield 327, 3) := by decide +kernel
theorem dX6_handUp_109 : decode cX6_handUp 109 = .ok (.aload_n 3, 1) := by decide +kernel
theorem dX6_handUp_110 : decode cX6_handUp 110 = .ok (.iload 6, 2) := by decide +kernel
theorem dX6_handUp_112 : decode cX6_handUp 112 = .ok (.invokevirtual 344, 3) := by decide +kernel
theorem dX6_handUp_115 : decode cX6_handUp 115 = .ok (.aload_n 3, 1) := by decide +kernel
theorem dX6_handUp_116 : decode cX6_handUp 116 = .ok (.iload 7, 2) := by decide +kernel
theorem dX6_handUp_118 : decode cX6_handUp 118 = .ok (.invokevirtual 344, 3) := by decide +kernel
theorem dX6_handUp_121 : decode cX6_handUp 121 = .ok (.invokevirtual 168, 3) := by decide +kernel
theorem dX6_handUp_124 : decode cX6_handUp 124 = .ok (.istore 8, 2) := by decide +kernel
theorem dX6_handUp_126 : decode cX6_handUp 126 = .ok (.aload_n 2, 1) := by decide +kernel
theorem dX6_handUp_127 : decode cX6_handUp 127 = .ok (.getfield 327, 3) := by decide +kernel
theorem dX6_handUp_130 : decode cX6_handUp 130 = .ok (.aload 4, 2) := by decide +kernel
theorem dX6_handUp_132 : decode cX6_handUp 132 = .ok (.iload 6, 2) := by decide +kernel
theorem dX6_handUp_134 : decode cX6_handUp 134 = .ok (.invokevirtual 344, 3) := by decide +kernel
theorem dX6_handUp_137 : decode cX6_handUp 137 = .ok (.aload 4, 2) := by decide +kernel
theorem dX6_handUp_139 : decode cX6_handUp 139 = .ok (.iload 7, 2) := by decide +kernel
theorem dX6_handUp_141 : decode cX6_handUp 141 = .ok (.invokevirtual 344, 3) := by decide +kernel
theorem dX6_handUp_144 : decode cX6_handUp 144 = .ok (.iload 8, 2) := by decide +kernel
theorem dX6_handUp_146 : decode cX6_handUp 146 = .ok (.invokevirtual 137, 3) := by decide +kernel
theorem dX6_handUp_149 : decode cX6_handUp 149 = .ok (.iinc 7 1, 3) := by decide +kernel
theorem dX6_handUp_152 : decode cX6_handUp 152 = .ok (.goto (-65), 3) := by decide +kernel
theorem dX6_handUp_155 : decode cX6_handUp 155 = .ok (.iinc 6 1, 3) := by decide +kernel
theorem dX6_handUp_158 : decode cX6_handUp 158 = .ok (.goto (-80), 3) := by decide +kernel
theorem dX6_handUp_161 : decode cX6_handUp 161 = .ok (.return_, 1) := by decide +kernel
theorem dX6_markBy_0 : decode cX6_markBy 0 = .ok (.aload_n 1, 1) := by decide +kernel
theorem dX6_markBy_1 : decode cX6_markBy 1 = .ok (.getfield 327, 3) := by decide +kernel
theorem dX6_markBy_4 : decode cX6_markBy 4 = .ok (.getfield 159, 3) := by decide +kernel
theorem dX6_markBy_7 : decode cX6_markBy 7 = .ok (.ifCond .ne 5, 3) := by decide +kernel
theorem dX6_markBy_10 : decode cX6_markBy 10 = .ok (.iconst 0, 1) := by decide +kernel
theorem dX6_markBy_11 : decode cX6_markBy 11 = .ok (.ireturn, 1) := by decide +kernel
theorem dX6_markBy_12 : decode cX6_markBy 12 = .ok (.aload_n 0, 1) := by decide +kernel
theorem dX6_markBy_13 : decode cX6_markBy 13 = .ok (.getfield 17, 3) := by decide +kernel
theorem dX6_markBy_16 : decode cX6_markBy 16 = .ok (.aload_n 1, 1) := by decide +kernel
theorem dX6_markBy_17 : decode cX6_markBy 17 = .ok (.getfield 233, 3) := by decide +kernel
theorem dX6_markBy_20 : decode cX6_markBy 20 = .ok (.aaload, 1) := by decide +kernel
theorem dX6_markBy_21 : decode cX6_markBy 21 = .ok (.getfield 103, 3) := by decide +kernel
theorem dX6_markBy_24 : decode cX6_markBy 24 = .ok (.astore_n 2, 1) := by decide +kernel
theorem dX6_markBy_25 : decode cX6_markBy 25 = .ok (.aload_n 0, 1) := by decide +kernel
theorem dX6_markBy_26 : decode cX6_markBy 26 = .ok (.getfield 11, 3) := by decide +kernel
theorem dX6_markBy_29 : decode cX6_markBy 29 = .ok (.aload_n 2, 1) := by decide +kernel
theorem dX6_markBy_30 : decode cX6_markBy 30 = .ok (.getfield 247, 3) := by decide +kernel
theorem dX6_markBy_33 : decode cX6_markBy 33 = .ok (.aaload, 1) := by decide +kernel
theorem dX6_markBy_34 : decode cX6_markBy 34 = .ok (.astore_n 3, 1) := by decide +kernel
theorem dX6_markBy_35 : decode cX6_markBy 35 = .ok (.iconst 0, 1) := by decide +kernel
theorem dX6_markBy_36 : decode cX6_markBy 36 = .ok (.istore 4, 2) := by decide +kernel
theorem dX6_markBy_38 : decode cX6_markBy 38 = .ok (.iconst 0, 1) := by decide +kernel
theorem dX6_markBy_39 : decode cX6_markBy 39 = .ok (.istore 5, 2) := by decide +kernel
theorem dX6_markBy_41 : decode cX6_markBy 41 = .ok (.iload 5, 2) := by decide +kernel
theorem dX6_markBy_43 : decode cX6_markBy 43 = .ok (.iconst 3, 1) := by decide +kernel
theorem dX6_markBy_44 : decode cX6_markBy 44 = .ok (.if_icmp .ge 92, 3) := by decide +kernel
theorem dX6_markBy_47 : decode cX6_markBy 47 = .ok (.iconst 0, 1) := by decide +kernel
theorem dX6_markBy_48 : decode cX6_markBy 48 = .ok (.istore 6, 2) := by decide +kernel
theorem dX6_markBy_50 : decode cX6_markBy 50 = .ok (.iload 6, 2) := by decide +kernel
theorem dX6_markBy_52 : decode cX6_markBy 52 = .ok (.iconst 3, 1) := by decide +kernel
theorem dX6_markBy_53 : decode cX6_markBy 53 = .ok (.if_icmp .ge 77, 3) := by decide +kernel
theorem dX6_markBy_56 : decode cX6_markBy 56 = .ok (.aload_n 1, 1) := by decide +kernel
theorem dX6_markBy_57 : decode cX6_markBy 57 = .ok (.getfield 327, 3) := by decide +kernel
theorem dX6_markBy_60 : decode cX6_markBy 60 = .ok (.aload_n 2, 1) := by decide +kernel
theorem dX6_markBy_61 : decode cX6_markBy 61 = .ok (.iload 5, 2) := by decide +kernel
theorem dX6_markBy_63 : decode cX6_markBy 63 = .ok (.invokevirtual 344, 3) := by decide +kernel
theorem dX6_markBy_66 : decode cX6_markBy 66 = .ok (.aload_n 2, 1) := by decide +kernel
theorem dX6_markBy_67 : decode cX6_markBy 67 = .ok (.iload 6, 2) := by decide +kernel
theorem dX6_markBy_69 : decode cX6_markBy 69 = .ok (.invokevirtual 344, 3) := by decide +kernel
theorem dX6_markBy_72 : decode cX6_markBy 72 = .ok (.invokevirtual 168, 3) := by decide +kernel
theorem dX6_markBy_75 : decode cX6_markBy 75 = .ok (.istore 7, 2) := by decide +kernel
theorem dX6_markBy_77 : decode cX6_markBy 77 = .ok (.aload_n 3, 1) := by decide +kernel
theorem dX6_markBy_78 : decode cX6_markBy 78 = .ok (.getfield 81, 3) := by decide +kernel
theorem dX6_markBy_81 : decode cX6_markBy 81 = .ok (.iconst 4, 1) := by decide +kernel
theorem dX6_markBy_82 : decode cX6_markBy 82 = .ok (.if_icmp .ge 42, 3) := by decide +kernel
theorem dX6_markBy_85 : decode cX6_markBy 85 = .ok (.aload_n 3, 1) := by decide +kernel
theorem dX6_markBy_86 : decode cX6_markBy 86 = .ok (.iload 5, 2) := by decide +kernel
theorem dX6_markBy_88 : decode cX6_markBy 88 = .ok (.iload 6, 2) := by decide +kernel
theorem dX6_markBy_90 : decode cX6_markBy 90 = .ok (.iload 7, 2) := by decide +kernel
theorem dX6_markBy_92 : decode cX6_markBy 92 = .ok (.invokevirtual 75, 3) := by decide +kernel
theorem dX6_markBy_95 : decode cX6_markBy 95 = .ok (.ifCond .eq 29, 3) := by decide +kernel
theorem dX6_markBy_98 : decode cX6_markBy 98 = .ok (.aload_n 3, 1) := by decide +kernel
theorem dX6_markBy_99 : decode cX6_markBy 99 = .ok (.iload 5, 2) := by decide +kernel
theorem dX6_markBy_101 : decode cX6_markBy 101 = .ok (.iload 6, 2) := by decide +kernel
theorem dX6_markBy_103 : decode cX6_markBy 103 = .ok (.iload 7, 2) := by decide +kernel
theorem dX6_markBy_105 : decode cX6_markBy 105 = .ok (.invokevirtual 84, 3) := by decide +kernel
theorem dX6_markBy_108 : decode cX6_markBy 108 = .ok (.ifCond .ne 16, 3) := by decide +kernel
theorem dX6_markBy_111 : decode cX6_markBy 111 = .ok (.aload_n 3, 1) := by decide +kernel
theorem dX6_markBy_112 : decode cX6_markBy 112 = .ok (.iload 5, 2) := by decide +kernel
theorem dX6_markBy_114 : decode cX6_markBy 114 = .ok (.iload 6, 2) := by decide +kernel
theorem dX6_markBy_116 : decode cX6_markBy 116 = .ok (.iload 7, 2) := by decide +kernel
theorem dX6_markBy_118 : decode cX6_markBy 118 = .ok (.invokevirtual 89, 3) := by decide +kernel
theorem dX6_markBy_121 : decode cX6_markBy 121 = .ok (.iinc 4 1, 3) := by decide +kernel
theorem dX6_markBy_124 : decode cX6_markBy 124 = .ok (.iinc 6 1, 3) := by decide +kernel
theorem dX6_markBy_127 : decode cX6_markBy 127 = .ok (.goto (-77), 3) := by decide +kernel
theorem dX6_markBy_130 : decode cX6_markBy 130 = .ok (.iinc 5 1, 3) := by decide +kernel
theorem dX6_markBy_133 : decode cX6_markBy 133 = .ok (.goto (-92), 3) := by decide +kernel
theorem dX6_markBy_136 : decode cX6_markBy 136 = .ok (.iload 4, 2) := by decide +kernel
theorem dX6_markBy_138 : decode cX6_markBy 138 = .ok (.ireturn, 1) := by decide +kernel
theorem dX7_init_0 : decode cX7_init 0 = .ok (.aload_n 0, 1) := by decide +kernel
theorem dX7_init_1 : decode cX7_init 1 = .ok (.invokespecial 1, 3) := by decide +kernel
theorem dX7_init_4 : decode cX7_init 4 = .ok (.aload_n 0, 1) := by decide +kernel
theorem dX7_init_5 : decode cX7_init 5 = .ok (.iconst 4, 1) := by decide +kernel
theorem dX7_init_6 : decode cX7_init 6 = .ok (.newarray .int, 2) := by decide +kernel
theorem dX7_init_8 : decode cX7_init 8 = .ok (.putfield 7, 3) := by decide +kernel
theorem dX7_init_11 : decode cX7_init 11 = .ok (.aload_n 0, 1) := by decide +kernel
theorem dX7_init_12 : decode cX7_init 12 = .ok (.iconst 4, 1) := by decide +kernel
theorem dX7_init_13 : decode cX7_init 13 = .ok (.newarray .int, 2) := by decide +kernel
theorem dX7_init_15 : decode cX7_init 15 = .ok (.putfield 13, 3) := by decide +kernel
theorem dX7_init_18 : decode cX7_init 18 = .ok (.aload_n 0, 1) := by decide +kernel
theorem dX7_init_19 : decode cX7_init 19 = .ok (.bipush 16, 2) := by decide +kernel
theorem dX7_init_21 : decode cX7_init 21 = .ok (.newarray .int, 2) := by decide +kernel
theorem dX7_init_23 : decode cX7_init 23 = .ok (.putfield 16, 3) := by decide +kernel
theorem dX7_init_26 : decode cX7_init 26 = .ok (.aload_n 0, 1) := by decide +kernel
theorem dX7_init_27 : decode cX7_init 27 = .ok (.bipush 16, 2) := by decide +kernel
theorem dX7_init_29 : decode cX7_init 29 = .ok (.newarray .int, 2) := by decide +kernel
theorem dX7_init_31 : decode cX7_init 31 = .ok (.putfield 19, 3) := by decide +kernel
theorem dX7_init_34 : decode cX7_init 34 = .ok (.aload_n 0, 1) := by decide +kernel
theorem dX7_init_35 : decode cX7_init 35 = .ok (.bipush 16, 2) := by decide +kernel
theorem dX7_init_37 : decode cX7_init 37 = .ok (.newarray .int, 2) := by decide +kernel
theorem dX7_init_39 : decode cX7_init 39 = .ok (.putfield 22, 3) := by decide +kernel
theorem dX7_init_42 : decode cX7_init 42 = .ok (.aload_n 0, 1) := by decide +kernel
theorem dX7_init_43 : decode cX7_init 43 = .ok (.bipush 12, 2) := by decide +kernel
theorem dX7_init_45 : decode cX7_init 45 = .ok (.newarray .int, 2) := by decide +kernel
theorem dX7_init_47 : decode cX7_init 47 = .ok (.putfield 25, 3) := by decide +kernel
theorem dX7_init_50 : decode cX7_init 50 = .ok (.aload_n 0, 1) := by decide +kernel
theorem dX7_init_51 : decode cX7_init 51 = .ok (.bipush 24, 2) := by decide +kernel
theorem dX7_init_53 : decode cX7_init 53 = .ok (.newarray .int, 2) := by decide +kernel
theorem dX7_init_55 : decode cX7_init 55 = .ok (.putfield 28, 3) := by decide +kernel
theorem dX7_init_58 : decode cX7_init 58 = .ok (.aload_n 0, 1) := by decide +kernel
theorem dX7_init_59 : decode cX7_init 59 = .ok (.bipush 12, 2) := by decide +kernel
theorem dX7_init_61 : decode cX7_init 61 = .ok (.newarray .int, 2) := by decide +kernel
theorem dX7_init_63 : decode cX7_init 63 = .ok (.putfield 31, 3) := by decide +kernel
theorem dX7_init_66 : decode cX7_init 66 = .ok (.aload_n 0, 1) := by decide +kernel
theorem dX7_init_67 : decode cX7_init 67 = .ok (.bipush 24, 2) := by decide +kernel
theorem dX7_init_69 : decode cX7_init 69 = .ok (.newarray .int, 2) := by decide +kernel
theorem dX7_init_71 : decode cX7_init 71 = .ok (.putfield 34, 3) := by decide +kernel
theorem dX7_init_74 : decode cX7_init 74 = .ok (.aload_n 0, 1) := by decide +kernel
theorem dX7_init_75 : decode cX7_init 75 = .ok (.bipush 48, 2) := by decide +kernel
theorem dX7_init_77 : decode cX7_init 77 = .ok (.newarray .int, 2) := by decide +kernel
theorem dX7_init_79 : decode cX7_init 79 = .ok (.putfield 37, 3) := by decide +kernel
theorem dX7_init_82 : decode cX7_init 82 = .ok (.aload_n 0, 1) := by decide +kernel
theorem dX7_init_83 : decode cX7_init 83 = .ok (.bipush 12, 2) := by decide +kernel
theorem dX7_init_85 : decode cX7_init 85 = .ok (.newarray .int, 2) := by decide +kernel
theorem dX7_init_87 : decode cX7_init 87 = .ok (.putfield 40, 3) := by decide +kernel
theorem dX7_init_90 : decode cX7_init 90 = .ok (.aload_n 0, 1) := by decide +kernel
theorem dX7_init_91 : decode cX7_init 91 = .ok (.bipush 96, 2) := by decide +kernel
theorem dX7_init_93 : decode cX7_init 93 = .ok (.newarray .int, 2) := by decide +kernel
theorem dX7_init_95 : decode cX7_init 95 = .ok (.putfield 43, 3) := by decide +kernel
theorem dX7_init_98 : decode cX7_init 98 = .ok (.aload_n 0, 1) := by decide +kernel
theorem dX7_init_99 : decode cX7_init 99 = .ok (.bipush 96, 2) := by decide +kernel
theorem dX7_init_101 : decode cX7_init 101 = .ok (.newarray .int, 2) := by decide +kernel
theorem dX7_init_103 : decode cX7_init 103 = .ok (.putfield 46, 3) := by decide +kernel
theorem dX7_init_106 : decode cX7_init 106 = .ok (.aload_n 0, 1) := by decide +kernel
theorem dX7_init_107 : decode cX7_init 107 = .ok (.bipush 96, 2) := by decide +kernel
theorem dX7_init_109 : decode cX7_init 109 = .ok (.newarray .int, 2) := by decide +kernel
theorem dX7_init_111 : decode cX7_init 111 = .ok (.putfield 49, 3) := by decide +kernel
theorem dX7_init_114 : decode cX7_init 114 = .ok (.aload_n 0, 1) := by decide +kernel
theorem dX7_init_115 : decode cX7_init 115 = .ok (.bipush 64, 2) := by decide +kernel
theorem dX7_init_117 : decode cX7_init 117 = .ok (.newarray .int, 2) := by decide +kernel
theorem dX7_init_119 : decode cX7_init 119 = .ok (.putfield 52, 3) := by decide +kernel
theorem dX7_init_122 : decode cX7_init 122 = .ok (.aload_n 0, 1) := by decide +kernel
theorem dX7_init_123 : decode cX7_init 123 = .ok (.bipush 64, 2) := by decide +kernel
theorem dX7_init_125 : decode cX7_init 125 = .ok (.newarray .int, 2) := by decide +kernel
theorem dX7_init_127 : decode cX7_init 127 = .ok (.putfield 55, 3) := by decide +kernel
theorem dX7_init_130 : decode cX7_init 130 = .ok (.aload_n 0, 1) := by decide +kernel
theorem dX7_init_131 : decode cX7_init 131 = .ok (.sipush 128, 3) := by decide +kernel
theorem dX7_init_134 : decode cX7_init 134 = .ok (.newarray .int, 2) := by decide +kernel
theorem dX7_init_136 : decode cX7_init 136 = .ok (.putfield 58, 3) := by decide +kernel
theorem dX7_init_139 : decode cX7_init 139 = .ok (.aload_n 0, 1) := by decide +kernel
theorem dX7_init_140 : decode cX7_init 140 = .ok (.iconst (-1), 1) := by decide +kernel
theorem dX7_init_141 : decode cX7_init 141 = .ok (.putfield 61, 3) := by decide +kernel
theorem dX7_init_144 : decode cX7_init 144 = .ok (.aload_n 0, 1) := by decide +kernel
theorem dX7_init_145 : decode cX7_init 145 = .ok (.iconst 2, 1) := by decide +kernel
theorem dX7_init_146 : decode cX7_init 146 = .ok (.newarray .int, 2) := by decide +kernel
theorem dX7_init_148 : decode cX7_init 148 = .ok (.putfield 65, 3) := by decide +kernel
theorem dX7_init_151 : decode cX7_init 151 = .ok (.aload_n 0, 1) := by decide +kernel
theorem dX7_init_152 : decode cX7_init 152 = .ok (.sipush 800, 3) := by decide +kernel
theorem dX7_init_155 : decode cX7_init 155 = .ok (.newarray .int, 2) := by decide +kernel
theorem dX7_init_157 : decode cX7_init 157 = .ok (.putfield 68, 3) := by decide +kernel
theorem dX7_init_160 : decode cX7_init 160 = .ok (.aload_n 0, 1) := by decide +kernel
theorem dX7_init_161 : decode cX7_init 161 = .ok (.sipush 800, 3) := by decide +kernel
theorem dX7_init_164 : decode cX7_init 164 = .ok (.newarray .int, 2) := by decide +kernel
theorem dX7_init_166 : decode cX7_init 166 = .ok (.putfield 71, 3) := by decide +kernel
theorem dX7_init_169 : decode cX7_init 169 = .ok (.aload_n 0, 1) := by decide +kernel
theorem dX7_init_170 : decode cX7_init 170 = .ok (.sipush 800, 3) := by decide +kernel
theorem dX7_init_173 : decode cX7_init 173 = .ok (.newarray .int, 2) := by decide +kernel
theorem dX7_init_175 : decode cX7_init 175 = .ok (.putfield 74, 3) := by decide +kernel
theorem dX7_init_178 : decode cX7_init 178 = .ok (.aload_n 0, 1) := by decide +kernel
theorem dX7_init_179 : decode cX7_init 179 = .ok (.sipush 201, 3) := by decide +kernel
theorem dX7_init_182 : decode cX7_init 182 = .ok (.newarray .int, 2) := by decide +kernel
theorem dX7_init_184 : decode cX7_init 184 = .ok (.putfield 77, 3) := by decide +kernel
theorem dX7_init_187 : decode cX7_init 187 = .ok (.aload_n 0, 1) := by decide +kernel
theorem dX7_init_188 : decode cX7_init 188 = .ok (.bipush 41, 2) := by decide +kernel
theorem dX7_init_190 : decode cX7_init 190 = .ok (.newarray .int, 2) := by decide +kernel
theorem dX7_init_192 : decode cX7_init 192 = .ok (.putfield 80, 3) := by decide +kernel
theorem dX7_init_195 : decode cX7_init 195 = .ok (.aload_n 0, 1) := by decide +kernel
theorem dX7_init_196 : decode cX7_init 196 = .ok (.bipush 41, 2) := by decide +kernel
theorem dX7_init_198 : decode cX7_init 198 = .ok (.newarray .int, 2) := by decide +kernel
theorem dX7_init_200 : decode cX7_init 200 = .ok (.putfield 83, 3) := by decide +kernel
theorem dX7_init_203 : decode cX7_init 203 = .ok (.aload_n 0, 1) := by decide +kernel
theorem dX7_init_204 : decode cX7_init 204 = .ok (.bipush 41, 2) := by decide +kernel
theorem dX7_init_206 : decode cX7_init 206 = .ok (.newarray .int, 2) := by decide +kernel
theorem dX7_init_208 : decode cX7_init 208 = .ok (.putfield 86, 3) := by decide +kernel
theorem dX7_init_211 : decode cX7_init 211 = .ok (.aload_n 0, 1) := by decide +kernel
theorem dX7_init_212 : decode cX7_init 212 = .ok (.bipush 41, 2) := by decide +kernel
theorem dX7_init_214 : decode cX7_init 214 = .ok (.newarray .int, 2) := by decide +kernel
theorem dX7_init_216 : decode cX7_init 216 = .ok (.putfield 89, 3) := by decide +kernel
theorem dX7_init_219 : decode cX7_init 219 = .ok (.aload_n 0, 1) := by decide +kernel
theorem dX7_init_220 : decode cX7_init 220 = .ok (.bipush 41, 2) := by decide +kernel
theorem dX7_init_222 : decode cX7_init 222 = .ok (.newarray .int, 2) := by decide +kernel
theorem dX7_init_224 : decode cX7_init 224 = .ok (.putfield 92, 3) := by decide +kernel
theorem dX7_init_227 : decode cX7_init 227 = .ok (.aload_n 0, 1) := by decide +kernel
theorem dX7_init_228 : decode cX7_init 228 = .ok (.bipush 90, 2) := by decide +kernel
theorem dX7_init_230 : decode cX7_init 230 = .ok (.newarray .int, 2) := by decide +kernel
theorem dX7_init_232 : decode cX7_init 232 = .ok (.putfield 95, 3) := by decide +kernel
theorem dX7_init_235 : decode cX7_init 235 = .ok (.return_, 1) := by decide +kernel
theorem dX7_thrown_0 : decode cX7_thrown 0 = .ok (.aload_n 0, 1) := by decide +kernel
theorem dX7_thrown_1 : decode cX7_thrown 1 = .ok (.getfield 98, 3) := by decide +kernel
theorem dX7_thrown_4 : decode cX7_thrown 4 = .ok (.ireturn, 1) := by decide +kernel
theorem dX7_fails_0 : decode cX7_fails 0 = .ok (.aload_n 0, 1) := by decide +kernel
theorem dX7_fails_1 : decode cX7_fails 1 = .ok (.iload_n 1, 1) := by decide +kernel
theorem dX7_fails_2 : decode cX7_fails 2 = .ok (.putfield 98, 3) := by decide +kernel
theorem dX7_fails_5 : decode cX7_fails 5 = .ok (.iconst 0, 1) := by decide +kernel
theorem dX7_fails_6 : decode cX7_fails 6 = .ok (.ireturn, 1) := by decide +kernel
theorem dX7_in_0 : decode cX7_in 0 = .ok (.iload_n 0, 1) := by decide +kernel
theorem dX7_in_1 : decode cX7_in 1 = .ok (.iload_n 1, 1) := by decide +kernel
theorem dX7_in_2 : decode cX7_in 2 = .ok (.if_icmp .lt 12, 3) := by decide +kernel
theorem dX7_in_5 : decode cX7_in 5 = .ok (.iload_n 0, 1) := by decide +kernel
theorem dX7_in_6 : decode cX7_in 6 = .ok (.iload_n 2, 1) := by decide +kernel
theorem dX7_in_7 : decode cX7_in 7 = .ok (.if_icmp .gt 7, 3) := by decide +kernel
theorem dX7_in_10 : decode cX7_in 10 = .ok (.iconst 1, 1) := by decide +kernel
theorem dX7_in_11 : decode cX7_in 11 = .ok (.goto 4, 3) := by decide +kernel
theorem dX7_in_14 : decode cX7_in 14 = .ok (.iconst 0, 1) := by decide +kernel
theorem dX7_in_15 : decode cX7_in 15 = .ok (.ireturn, 1) := by decide +kernel
theorem dX7_isRelation_0 : decode cX7_isRelation 0 = .ok (.iload_n 1, 1) := by decide +kernel
theorem dX7_isRelation_1 : decode cX7_isRelation 1 = .ok (.iconst 0, 1) := by decide +kernel
theorem dX7_isRelation_2 : decode cX7_isRelation 2 = .ok (.aload_n 0, 1) := by decide +kernel
theorem dX7_isRelation_3 : decode cX7_isRelation 3 = .ok (.getfield 101, 3) := by decide +kernel
theorem dX7_isRelation_6 : decode cX7_isRelation 6 = .ok (.iconst 1, 1) := by decide +kernel
theorem dX7_isRelation_7 : decode cX7_isRelation 7 = .ok (.isub, 1) := by decide +kernel
theorem dX7_isRelation_8 : decode cX7_isRelation 8 = .ok (.invokestatic 104, 3) := by decide +kernel
theorem dX7_isRelation_11 : decode cX7_isRelation 11 = .ok (.ireturn, 1) := by decide +kernel
theorem dX7_add_0 : decode cX7_add 0 = .ok (.aload_n 0, 1) := by decide +kernel
theorem dX7_add_1 : decode cX7_add 1 = .ok (.getfield 68, 3) := by decide +kernel
theorem dX7_add_4 : decode cX7_add 4 = .ok (.aload_n 0, 1) := by decide +kernel
theorem dX7_add_5 : decode cX7_add 5 = .ok (.getfield 108, 3) := by decide +kernel
theorem dX7_add_8 : decode cX7_add 8 = .ok (.iload_n 2, 1) := by decide +kernel
theorem dX7_add_9 : decode cX7_add 9 = .ok (.iastore, 1) := by decide +kernel
theorem dX7_add_10 : decode cX7_add 10 = .ok (.aload_n 0, 1) := by decide +kernel
theorem dX7_add_11 : decode cX7_add 11 = .ok (.getfield 71, 3) := by decide +kernel
theorem dX7_add_14 : decode cX7_add 14 = .ok (.aload_n 0, 1) := by decide +kernel
theorem dX7_add_15 : decode cX7_add 15 = .ok (.getfield 108, 3) := by decide +kernel
theorem dX7_add_18 : decode cX7_add 18 = .ok (.iload_n 1, 1) := by decide +kernel
theorem dX7_add_19 : decode cX7_add 19 = .ok (.iastore, 1) := by decide +kernel
theorem dX7_add_20 : decode cX7_add 20 = .ok (.aload_n 0, 1) := by decide +kernel
theorem dX7_add_21 : decode cX7_add 21 = .ok (.getfield 74, 3) := by decide +kernel
theorem dX7_add_24 : decode cX7_add 24 = .ok (.aload_n 0, 1) := by decide +kernel
theorem dX7_add_25 : decode cX7_add 25 = .ok (.getfield 108, 3) := by decide +kernel
theorem dX7_add_28 : decode cX7_add 28 = .ok (.iload_n 3, 1) := by decide +kernel
theorem dX7_add_29 : decode cX7_add 29 = .ok (.iastore, 1) := by decide +kernel
theorem dX7_add_30 : decode cX7_add 30 = .ok (.aload_n 0, 1) := by decide +kernel
theorem dX7_add_31 : decode cX7_add 31 = .ok (.dup, 1) := by decide +kernel
theorem dX7_add_32 : decode cX7_add 32 = .ok (.getfield 108, 3) := by decide +kernel
theorem dX7_add_35 : decode cX7_add 35 = .ok (.iconst 1, 1) := by decide +kernel
theorem dX7_add_36 : decode cX7_add 36 = .ok (.iadd, 1) := by decide +kernel
theorem dX7_add_37 : decode cX7_add 37 = .ok (.putfield 108, 3) := by decide +kernel
theorem dX7_add_40 : decode cX7_add 40 = .ok (.return_, 1) := by decide +kernel
theorem dX7_settles_0 : decode cX7_settles 0 = .ok (.iconst 1, 1) := by decide +kernel
theorem dX7_settles_1 : decode cX7_settles 1 = .ok (.istore_n 2, 1) := by decide +kernel
theorem dX7_settles_2 : decode cX7_settles 2 = .ok (.iconst 0, 1) := by decide +kernel
theorem dX7_settles_3 : decode cX7_settles 3 = .ok (.istore_n 3, 1) := by decide +kernel
theorem dX7_settles_4 : decode cX7_settles 4 = .ok (.iload_n 3, 1) := by decide +kernel
theorem dX7_settles_5 : decode cX7_settles 5 = .ok (.iload_n 1, 1) := by decide +kernel
theorem dX7_settles_6 : decode cX7_settles 6 = .ok (.if_icmp .gt 119, 3) := by decide +kernel
theorem dX7_settles_9 : decode cX7_settles 9 = .ok (.iload_n 2, 1) := by decide +kernel
theorem dX7_settles_10 : decode cX7_settles 10 = .ok (.ifCond .eq 115, 3) := by decide +kernel
theorem dX7_settles_13 : decode cX7_settles 13 = .ok (.iconst 0, 1) := by decide +kernel
theorem dX7_settles_14 : decode cX7_settles 14 = .ok (.istore_n 2, 1) := by decide +kernel
theorem dX7_settles_15 : decode cX7_settles 15 = .ok (.iconst 0, 1) := by decide +kernel
theorem dX7_settles_16 : decode cX7_settles 16 = .ok (.istore 4, 2) := by decide +kernel
theorem dX7_settles_18 : decode cX7_settles 18 = .ok (.iload 4, 2) := by decide +kernel
theorem dX7_settles_20 : decode cX7_settles 20 = .ok (.aload_n 0, 1) := by decide +kernel
theorem dX7_settles_21 : decode cX7_settles 21 = .ok (.getfield 108, 3) := by decide +kernel
theorem dX7_settles_24 : decode cX7_settles 24 = .ok (.if_icmp .ge 95, 3) := by decide +kernel
theorem dX7_settles_27 : decode cX7_settles 27 = .ok (.aload_n 0, 1) := by decide +kernel
theorem dX7_settles_28 : decode cX7_settles 28 = .ok (.getfield 77, 3) := by decide +kernel
theorem dX7_settles_31 : decode cX7_settles 31 = .ok (.aload_n 0, 1) := by decide +kernel
theorem dX7_settles_32 : decode cX7_settles 32 = .ok (.getfield 68, 3) := by decide +kernel
theorem dX7_settles_35 : decode cX7_settles 35 = .ok (.iload 4, 2) := by decide +kernel
theorem dX7_settles_37 : decode cX7_settles 37 = .ok (.iaload, 1) := by decide +kernel
theorem dX7_settles_38 : decode cX7_settles 38 = .ok (.iaload, 1) := by decide +kernel
theorem dX7_settles_39 : decode cX7_settles 39 = .ok (.ldc 111, 2) := by decide +kernel
theorem dX7_settles_41 : decode cX7_settles 41 = .ok (.if_icmp .ge 72, 3) := by decide +kernel
theorem dX7_settles_44 : decode cX7_settles 44 = .ok (.aload_n 0, 1) := by decide +kernel
theorem dX7_settles_45 : decode cX7_settles 45 = .ok (.getfield 77, 3) := by decide +kernel
theorem dX7_settles_48 : decode cX7_settles 48 = .ok (.aload_n 0, 1) := by decide +kernel
theorem dX7_settles_49 : decode cX7_settles 49 = .ok (.getfield 68, 3) := by decide +kernel
theorem dX7_settles_52 : decode cX7_settles 52 = .ok (.iload 4, 2) := by decide +kernel
theorem dX7_settles_54 : decode cX7_settles 54 = .ok (.iaload, 1) := by decide +kernel
theorem dX7_settles_55 : decode cX7_settles 55 = .ok (.iaload, 1) := by decide +kernel
theorem dX7_settles_56 : decode cX7_settles 56 = .ok (.aload_n 0, 1) := by decide +kernel
theorem dX7_settles_57 : decode cX7_settles 57 = .ok (.getfield 74, 3) := by decide +kernel
theorem dX7_settles_60 : decode cX7_settles 60 = .ok (.iload 4, 2) := by decide +kernel
theorem dX7_settles_62 : decode cX7_settles 62 = .ok (.iaload, 1) := by decide +kernel
theorem dX7_settles_63 : decode cX7_settles 63 = .ok (.iadd, 1) := by decide +kernel
theorem dX7_settles_64 : decode cX7_settles 64 = .ok (.aload_n 0, 1) := by decide +kernel
theorem dX7_settles_65 : decode cX7_settles 65 = .ok (.getfield 77, 3) := by decide +kernel
theorem dX7_settles_68 : decode cX7_settles 68 = .ok (.aload_n 0, 1) := by decide +kernel
theorem dX7_settles_69 : decode cX7_settles 69 = .ok (.getfield 71, 3) := by decide +kernel
theorem dX7_settles_72 : decode cX7_settles 72 = .ok (.iload 4, 2) := by decide +kernel
theorem dX7_settles_74 : decode cX7_settles 74 = .ok (.iaload, 1) := by decide +kernel
theorem dX7_settles_75 : decode cX7_settles 75 = .ok (.iaload, 1) := by decide +kernel
theorem dX7_settles_76 : decode cX7_settles 76 = .ok (.if_icmp .ge 37, 3) := by decide +kernel
theorem dX7_settles_79 : decode cX7_settles 79 = .ok (.aload_n 0, 1) := by decide +kernel
theorem dX7_settles_80 : decode cX7_settles 80 = .ok (.getfield 77, 3) := by decide +kernel
theorem dX7_settles_83 : decode cX7_settles 83 = .ok (.aload_n 0, 1) := by decide +kernel
theorem dX7_settles_84 : decode cX7_settles 84 = .ok (.getfield 71, 3) := by decide +kernel
theorem dX7_settles_87 : decode cX7_settles 87 = .ok (.iload 4, 2) := by decide +kernel
theorem dX7_settles_89 : decode cX7_settles 89 = .ok (.iaload, 1) := by decide +kernel
theorem dX7_settles_90 : decode cX7_settles 90 = .ok (.aload_n 0, 1) := by decide +kernel
theorem dX7_settles_91 : decode cX7_settles 91 = .ok (.getfield 77, 3) := by decide +kernel
theorem dX7_settles_94 : decode cX7_settles 94 = .ok (.aload_n 0, 1) := by decide +kernel
theorem dX7_settles_95 : decode cX7_settles 95 = .ok (.getfield 68, 3) := by decide +kernel
theorem dX7_settles_98 : decode cX7_settles 98 = .ok (.iload 4, 2) := by decide +kernel
theorem dX7_settles_100 : decode cX7_settles 100 = .ok (.iaload, 1) := by decide +kernel
theorem dX7_settles_101 : decode cX7_settles 101 = .ok (.iaload, 1) := by decide +kernel
theorem dX7_settles_102 : decode cX7_settles 102 = .ok (.aload_n 0, 1) := by decide +kernel
theorem dX7_settles_103 : decode cX7_settles 103 = .ok (.getfield 74, 3) := by decide +kernel
theorem dX7_settles_106 : decode cX7_settles 106 = .ok (.iload 4, 2) := by decide +kernel
theorem dX7_settles_108 : decode cX7_settles 108 = .ok (.iaload, 1) := by decide +kernel
theorem dX7_settles_109 : decode cX7_settles 109 = .ok (.iadd, 1) := by decide +kernel
theorem dX7_settles_110 : decode cX7_settles 110 = .ok (.iastore, 1) := by decide +kernel
theorem dX7_settles_111 : decode cX7_settles 111 = .ok (.iconst 1, 1) := by decide +kernel
theorem dX7_settles_112 : decode cX7_settles 112 = .ok (.istore_n 2, 1) := by decide +kernel
theorem dX7_settles_113 : decode cX7_settles 113 = .ok (.iinc 4 1, 3) := by decide +kernel
theorem dX7_settles_116 : decode cX7_settles 116 = .ok (.goto (-98), 3) := by decide +kernel
theorem dX7_settles_119 : decode cX7_settles 119 = .ok (.iinc 3 1, 3) := by decide +kernel
theorem dX7_settles_122 : decode cX7_settles 122 = .ok (.goto (-118), 3) := by decide +kernel
theorem dX7_settles_125 : decode cX7_settles 125 = .ok (.iload_n 2, 1) := by decide +kernel
theorem dX7_settles_126 : decode cX7_settles 126 = .ok (.ifCond .ne 7, 3) := by decide +kernel
theorem dX7_settles_129 : decode cX7_settles 129 = .ok (.iconst 1, 1) := by decide +kernel
theorem dX7_settles_130 : decode cX7_settles 130 = .ok (.goto 4, 3) := by decide +kernel
theorem dX7_settles_133 : decode cX7_settles 133 = .ok (.iconst 0, 1) := by decide +kernel
theorem dX7_settles_134 : decode cX7_settles 134 = .ok (.ireturn, 1) := by decide +kernel
theorem dX7_holdsTogether_0 : decode cX7_holdsTogether 0 = .ok (.iconst 0, 1) := by decide +kernel
theorem dX7_holdsTogether_1 : decode cX7_holdsTogether 1 = .ok (.istore_n 2, 1) := by decide +kernel
theorem dX7_holdsTogether_2 : decode cX7_holdsTogether 2 = .ok (.iload_n 2, 1) := by decide +kernel
theorem dX7_holdsTogether_3 : decode cX7_holdsTogether 3 = .ok (.iload_n 1, 1) := by decide +kernel
theorem dX7_holdsTogether_4 : decode cX7_holdsTogether 4 = .ok (.if_icmp .ge 16, 3) := by decide +kernel
theorem dX7_holdsTogether_7 : decode cX7_holdsTogether 7 = .ok (.aload_n 0, 1) := by decide +kernel
theorem dX7_holdsTogether_8 : decode cX7_holdsTogether 8 = .ok (.getfield 77, 3) := by decide +kernel
theorem dX7_holdsTogether_11 : decode cX7_holdsTogether 11 = .ok (.iload_n 2, 1) := by decide +kernel
theorem dX7_holdsTogether_12 : decode cX7_holdsTogether 12 = .ok (.iconst 0, 1) := by decide +kernel
theorem dX7_holdsTogether_13 : decode cX7_holdsTogether 13 = .ok (.iastore, 1) := by decide +kernel
theorem dX7_holdsTogether_14 : decode cX7_holdsTogether 14 = .ok (.iinc 2 1, 3) := by decide +kernel
theorem dX7_holdsTogether_17 : decode cX7_holdsTogether 17 = .ok (.goto (-15), 3) := by decide +kernel
theorem dX7_holdsTogether_20 : decode cX7_holdsTogether 20 = .ok (.aload_n 0, 1) := by decide +kernel
theorem dX7_holdsTogether_21 : decode cX7_holdsTogether 21 = .ok (.iload_n 1, 1) := by decide +kernel
theorem dX7_holdsTogether_22 : decode cX7_holdsTogether 22 = .ok (.invokevirtual 112, 3) := by decide +kernel
theorem dX7_holdsTogether_25 : decode cX7_holdsTogether 25 = .ok (.ireturn, 1) := by decide +kernel
theorem dX7_least_0 : decode cX7_least 0 = .ok (.iconst 0, 1) := by decide +kernel
theorem dX7_least_1 : decode cX7_least 1 = .ok (.istore 4, 2) := by decide +kernel
theorem dX7_least_3 : decode cX7_least 3 = .ok (.iload 4, 2) := by decide +kernel
theorem dX7_least_5 : decode cX7_least 5 = .ok (.iload_n 1, 1) := by decide +kernel
theorem dX7_least_6 : decode cX7_least 6 = .ok (.if_icmp .ge 18, 3) := by decide +kernel
theorem dX7_least_9 : decode cX7_least 9 = .ok (.aload_n 0, 1) := by decide +kernel
theorem dX7_least_10 : decode cX7_least 10 = .ok (.getfield 77, 3) := by decide +kernel
theorem dX7_least_13 : decode cX7_least 13 = .ok (.iload 4, 2) := by decide +kernel
theorem dX7_least_15 : decode cX7_least 15 = .ok (.ldc 111, 2) := by decide +kernel
theorem dX7_least_17 : decode cX7_least 17 = .ok (.iastore, 1) := by decide +kernel
theorem dX7_least_18 : decode cX7_least 18 = .ok (.iinc 4 1, 3) := by decide +kernel
theorem dX7_least_21 : decode cX7_least 21 = .ok (.goto (-18), 3) := by decide +kernel
theorem dX7_least_24 : decode cX7_least 24 = .ok (.aload_n 0, 1) := by decide +kernel
theorem dX7_least_25 : decode cX7_least 25 = .ok (.getfield 77, 3) := by decide +kernel
theorem dX7_least_28 : decode cX7_least 28 = .ok (.iload_n 3, 1) := by decide +kernel
theorem dX7_least_29 : decode cX7_least 29 = .ok (.iconst 0, 1) := by decide +kernel
theorem dX7_least_30 : decode cX7_least 30 = .ok (.iastore, 1) := by decide +kernel
theorem dX7_least_31 : decode cX7_least 31 = .ok (.aload_n 0, 1) := by decide +kernel
theorem dX7_least_32 : decode cX7_least 32 = .ok (.iload_n 1, 1) := by decide +kernel
theorem dX7_least_33 : decode cX7_least 33 = .ok (.invokevirtual 112, 3) := by decide +kernel
theorem dX7_least_36 : decode cX7_least 36 = .ok (.pop, 1) := by decide +kernel
theorem dX7_least_37 : decode cX7_least 37 = .ok (.aload_n 0, 1) := by decide +kernel
theorem dX7_least_38 : decode cX7_least 38 = .ok (.getfield 77, 3) := by decide +kernel
theorem dX7_least_41 : decode cX7_least 41 = .ok (.iload_n 2, 1) := by decide +kernel
theorem dX7_least_42 : decode cX7_least 42 = .ok (.iaload, 1) := by decide +kernel
theorem dX7_least_43 : decode cX7_least 43 = .ok (.ireturn, 1) := by decide +kernel
theorem dX7_addBounds_0 : decode cX7_addBounds 0 = .ok (.bipush 8, 2) := by decide +kernel
theorem dX7_addBounds_2 : decode cX7_addBounds 2 = .ok (.iload_n 1, 1) := by decide +kernel
theorem dX7_addBounds_3 : decode cX7_addBounds 3 = .ok (.imul, 1) := by decide +kernel
theorem dX7_addBounds_4 : decode cX7_addBounds 4 = .ok (.istore 4, 2) := by decide +kernel
theorem dX7_addBounds_6 : decode cX7_addBounds 6 = .ok (.iload 4, 2) := by decide +kernel
theorem dX7_addBounds_8 : decode cX7_addBounds 8 = .ok (.bipush 8, 2) := by decide +kernel
theorem dX7_addBounds_10 : decode cX7_addBounds 10 = .ok (.iload_n 1, 1) := by decide +kernel
theorem dX7_addBounds_11 : decode cX7_addBounds 11 = .ok (.imul, 1) := by decide +kernel
theorem dX7_addBounds_12 : decode cX7_addBounds 12 = .ok (.aload_n 0, 1) := by decide +kernel
theorem dX7_addBounds_13 : decode cX7_addBounds 13 = .ok (.getfield 40, 3) := by decide +kernel
theorem dX7_addBounds_16 : decode cX7_addBounds 16 = .ok (.iload_n 1, 1) := by decide +kernel
theorem dX7_addBounds_17 : decode cX7_addBounds 17 = .ok (.iaload, 1) := by decide +kernel
theorem dX7_addBounds_18 : decode cX7_addBounds 18 = .ok (.iadd, 1) := by decide +kernel
theorem dX7_addBounds_19 : decode cX7_addBounds 19 = .ok (.if_icmp .ge 76, 3) := by decide +kernel
theorem dX7_addBounds_22 : decode cX7_addBounds 22 = .ok (.aload_n 0, 1) := by decide +kernel
theorem dX7_addBounds_23 : decode cX7_addBounds 23 = .ok (.getfield 43, 3) := by decide +kernel
theorem dX7_addBounds_26 : decode cX7_addBounds 26 = .ok (.iload 4, 2) := by decide +kernel
theorem dX7_addBounds_28 : decode cX7_addBounds 28 = .ok (.iaload, 1) := by decide +kernel
theorem dX7_addBounds_29 : decode cX7_addBounds 29 = .ok (.iconst 5, 1) := by decide +kernel
theorem dX7_addBounds_30 : decode cX7_addBounds 30 = .ok (.if_icmp .ne 7, 3) := by decide +kernel
theorem dX7_addBounds_33 : decode cX7_addBounds 33 = .ok (.iload_n 3, 1) := by decide +kernel
theorem dX7_addBounds_34 : decode cX7_addBounds 34 = .ok (.goto 12, 3) := by decide +kernel
theorem dX7_addBounds_37 : decode cX7_addBounds 37 = .ok (.iload_n 2, 1) := by decide +kernel
theorem dX7_addBounds_38 : decode cX7_addBounds 38 = .ok (.aload_n 0, 1) := by decide +kernel
theorem dX7_addBounds_39 : decode cX7_addBounds 39 = .ok (.getfield 43, 3) := by decide +kernel
theorem dX7_addBounds_42 : decode cX7_addBounds 42 = .ok (.iload 4, 2) := by decide +kernel
theorem dX7_addBounds_44 : decode cX7_addBounds 44 = .ok (.iaload, 1) := by decide +kernel
theorem dX7_addBounds_45 : decode cX7_addBounds 45 = .ok (.iadd, 1) := by decide +kernel
theorem dX7_addBounds_46 : decode cX7_addBounds 46 = .ok (.istore 5, 2) := by decide +kernel
theorem dX7_addBounds_48 : decode cX7_addBounds 48 = .ok (.aload_n 0, 1) := by decide +kernel
theorem dX7_addBounds_49 : decode cX7_addBounds 49 = .ok (.getfield 46, 3) := by decide +kernel
theorem dX7_addBounds_52 : decode cX7_addBounds 52 = .ok (.iload 4, 2) := by decide +kernel
theorem dX7_addBounds_54 : decode cX7_addBounds 54 = .ok (.iaload, 1) := by decide +kernel
theorem dX7_addBounds_55 : decode cX7_addBounds 55 = .ok (.iconst 5, 1) := by decide +kernel
theorem dX7_addBounds_56 : decode cX7_addBounds 56 = .ok (.if_icmp .ne 7, 3) := by decide +kernel
theorem dX7_addBounds_59 : decode cX7_addBounds 59 = .ok (.iload_n 3, 1) := by decide +kernel
theorem dX7_addBounds_60 : decode cX7_addBounds 60 = .ok (.goto 12, 3) := by decide +kernel
theorem dX7_addBounds_63 : decode cX7_addBounds 63 = .ok (.iload_n 2, 1) := by decide +kernel
theorem dX7_addBounds_64 : decode cX7_addBounds 64 = .ok (.aload_n 0, 1) := by decide +kernel
theorem dX7_addBounds_65 : decode cX7_addBounds 65 = .ok (.getfield 46, 3) := by decide +kernel
theorem dX7_addBounds_68 : decode cX7_addBounds 68 = .ok (.iload 4, 2) := by decide +kernel
theorem dX7_addBounds_70 : decode cX7_addBounds 70 = .ok (.iaload, 1) := by decide +kernel
theorem dX7_addBounds_71 : decode cX7_addBounds 71 = .ok (.iadd, 1) := by decide +kernel
theorem dX7_addBounds_72 : decode cX7_addBounds 72 = .ok (.istore 6, 2) := by decide +kernel
theorem dX7_addBounds_74 : decode cX7_addBounds 74 = .ok (.aload_n 0, 1) := by decide +kernel
theorem dX7_addBounds_75 : decode cX7_addBounds 75 = .ok (.iload 5, 2) := by decide +kernel
theorem dX7_addBounds_77 : decode cX7_addBounds 77 = .ok (.iload 6, 2) := by decide +kernel
theorem dX7_addBounds_79 : decode cX7_addBounds 79 = .ok (.aload_n 0, 1) := by decide +kernel
theorem dX7_addBounds_80 : decode cX7_addBounds 80 = .ok (.getfield 49, 3) := by decide +kernel
theorem dX7_addBounds_83 : decode cX7_addBounds 83 = .ok (.iload 4, 2) := by decide +kernel
theorem dX7_addBounds_85 : decode cX7_addBounds 85 = .ok (.iaload, 1) := by decide +kernel
theorem dX7_addBounds_86 : decode cX7_addBounds 86 = .ok (.invokevirtual 116, 3) := by decide +kernel
theorem dX7_addBounds_89 : decode cX7_addBounds 89 = .ok (.iinc 4 1, 3) := by decide +kernel
theorem dX7_addBounds_92 : decode cX7_addBounds 92 = .ok (.goto (-86), 3) := by decide +kernel
theorem dX7_addBounds_95 : decode cX7_addBounds 95 = .ok (.return_, 1) := by decide +kernel
theorem dX7_addCube_0 : decode cX7_addCube 0 = .ok (.iconst 0, 1) := by decide +kernel
theorem dX7_addCube_1 : decode cX7_addCube 1 = .ok (.istore 6, 2) := by decide +kernel
theorem dX7_addCube_3 : decode cX7_addCube 3 = .ok (.iload 6, 2) := by decide +kernel
theorem dX7_addCube_5 : decode cX7_addCube 5 = .ok (.aload_n 0, 1) := by decide +kernel
theorem dX7_addCube_6 : decode cX7_addCube 6 = .ok (.getfield 13, 3) := by decide +kernel
theorem dX7_addCube_9 : decode cX7_addCube 9 = .ok (.iload_n 1, 1) := by decide +kernel
theorem dX7_addCube_10 : decode cX7_addCube 10 = .ok (.iaload, 1) := by decide +kernel
theorem dX7_addCube_11 : decode cX7_addCube 11 = .ok (.if_icmp .ge 131, 3) := by decide +kernel
theorem dX7_addCube_14 : decode cX7_addCube 14 = .ok (.iconst 4, 1) := by decide +kernel
theorem dX7_addCube_15 : decode cX7_addCube 15 = .ok (.iload_n 1, 1) := by decide +kernel
theorem dX7_addCube_16 : decode cX7_addCube 16 = .ok (.imul, 1) := by decide +kernel
theorem dX7_addCube_17 : decode cX7_addCube 17 = .ok (.iload 6, 2) := by decide +kernel
theorem dX7_addCube_19 : decode cX7_addCube 19 = .ok (.iadd, 1) := by decide +kernel
theorem dX7_addCube_20 : decode cX7_addCube 20 = .ok (.istore 7, 2) := by decide +kernel
theorem dX7_addCube_22 : decode cX7_addCube 22 = .ok (.aload_n 0, 1) := by decide +kernel
theorem dX7_addCube_23 : decode cX7_addCube 23 = .ok (.getfield 16, 3) := by decide +kernel
theorem dX7_addCube_26 : decode cX7_addCube 26 = .ok (.iload 7, 2) := by decide +kernel
theorem dX7_addCube_28 : decode cX7_addCube 28 = .ok (.iaload, 1) := by decide +kernel
theorem dX7_addCube_29 : decode cX7_addCube 29 = .ok (.ifCond .ne 7, 3) := by decide +kernel
theorem dX7_addCube_32 : decode cX7_addCube 32 = .ok (.iload_n 3, 1) := by decide +kernel
theorem dX7_addCube_33 : decode cX7_addCube 33 = .ok (.goto 21, 3) := by decide +kernel
theorem dX7_addCube_36 : decode cX7_addCube 36 = .ok (.aload_n 0, 1) := by decide +kernel
theorem dX7_addCube_37 : decode cX7_addCube 37 = .ok (.getfield 16, 3) := by decide +kernel
theorem dX7_addCube_40 : decode cX7_addCube 40 = .ok (.iload 7, 2) := by decide +kernel
theorem dX7_addCube_42 : decode cX7_addCube 42 = .ok (.iaload, 1) := by decide +kernel
theorem dX7_addCube_43 : decode cX7_addCube 43 = .ok (.iconst 1, 1) := by decide +kernel
theorem dX7_addCube_44 : decode cX7_addCube 44 = .ok (.if_icmp .ne 8, 3) := by decide +kernel
theorem dX7_addCube_47 : decode cX7_addCube 47 = .ok (.iload 4, 2) := by decide +kernel
theorem dX7_addCube_49 : decode cX7_addCube 49 = .ok (.goto 5, 3) := by decide +kernel
theorem dX7_addCube_52 : decode cX7_addCube 52 = .ok (.iload 5, 2) := by decide +kernel
theorem dX7_addCube_54 : decode cX7_addCube 54 = .ok (.istore 8, 2) := by decide +kernel
theorem dX7_addCube_56 : decode cX7_addCube 56 = .ok (.aload_n 0, 1) := by decide +kernel
theorem dX7_addCube_57 : decode cX7_addCube 57 = .ok (.getfield 19, 3) := by decide +kernel
theorem dX7_addCube_60 : decode cX7_addCube 60 = .ok (.iload 7, 2) := by decide +kernel
theorem dX7_addCube_62 : decode cX7_addCube 62 = .ok (.iaload, 1) := by decide +kernel
theorem dX7_addCube_63 : decode cX7_addCube 63 = .ok (.ifCond .ne 7, 3) := by decide +kernel
theorem dX7_addCube_66 : decode cX7_addCube 66 = .ok (.iload_n 3, 1) := by decide +kernel
theorem dX7_addCube_67 : decode cX7_addCube 67 = .ok (.goto 21, 3) := by decide +kernel
theorem dX7_addCube_70 : decode cX7_addCube 70 = .ok (.aload_n 0, 1) := by decide +kernel
theorem dX7_addCube_71 : decode cX7_addCube 71 = .ok (.getfield 19, 3) := by decide +kernel
theorem dX7_addCube_74 : decode cX7_addCube 74 = .ok (.iload 7, 2) := by decide +kernel
theorem dX7_addCube_76 : decode cX7_addCube 76 = .ok (.iaload, 1) := by decide +kernel
theorem dX7_addCube_77 : decode cX7_addCube 77 = .ok (.iconst 1, 1) := by decide +kernel
theorem dX7_addCube_78 : decode cX7_addCube 78 = .ok (.if_icmp .ne 8, 3) := by decide +kernel
theorem dX7_addCube_81 : decode cX7_addCube 81 = .ok (.iload 4, 2) := by decide +kernel
theorem dX7_addCube_83 : decode cX7_addCube 83 = .ok (.goto 5, 3) := by decide +kernel
theorem dX7_addCube_86 : decode cX7_addCube 86 = .ok (.iload 5, 2) := by decide +kernel
theorem dX7_addCube_88 : decode cX7_addCube 88 = .ok (.istore 9, 2) := by decide +kernel
theorem dX7_addCube_90 : decode cX7_addCube 90 = .ok (.iload_n 2, 1) := by decide +kernel
theorem dX7_addCube_91 : decode cX7_addCube 91 = .ok (.iload 6, 2) := by decide +kernel
theorem dX7_addCube_93 : decode cX7_addCube 93 = .ok (.ishr, 1) := by decide +kernel
theorem dX7_addCube_94 : decode cX7_addCube 94 = .ok (.iconst 1, 1) := by decide +kernel
theorem dX7_addCube_95 : decode cX7_addCube 95 = .ok (.iand, 1) := by decide +kernel
theorem dX7_addCube_96 : decode cX7_addCube 96 = .ok (.iconst 1, 1) := by decide +kernel
theorem dX7_addCube_97 : decode cX7_addCube 97 = .ok (.if_icmp .ne 21, 3) := by decide +kernel
theorem dX7_addCube_100 : decode cX7_addCube 100 = .ok (.aload_n 0, 1) := by decide +kernel
theorem dX7_addCube_101 : decode cX7_addCube 101 = .ok (.iload 8, 2) := by decide +kernel
theorem dX7_addCube_103 : decode cX7_addCube 103 = .ok (.iload 9, 2) := by decide +kernel
theorem dX7_addCube_105 : decode cX7_addCube 105 = .ok (.aload_n 0, 1) := by decide +kernel
theorem dX7_addCube_106 : decode cX7_addCube 106 = .ok (.getfield 22, 3) := by decide +kernel
theorem dX7_addCube_109 : decode cX7_addCube 109 = .ok (.iload 7, 2) := by decide +kernel
theorem dX7_addCube_111 : decode cX7_addCube 111 = .ok (.iaload, 1) := by decide +kernel
theorem dX7_addCube_112 : decode cX7_addCube 112 = .ok (.invokevirtual 116, 3) := by decide +kernel
theorem dX7_addCube_115 : decode cX7_addCube 115 = .ok (.goto 21, 3) := by decide +kernel
theorem dX7_addCube_118 : decode cX7_addCube 118 = .ok (.aload_n 0, 1) := by decide +kernel
theorem dX7_addCube_119 : decode cX7_addCube 119 = .ok (.iload 9, 2) := by decide +kernel
theorem dX7_addCube_121 : decode cX7_addCube 121 = .ok (.iload 8, 2) := by decide +kernel
theorem dX7_addCube_123 : decode cX7_addCube 123 = .ok (.aload_n 0, 1) := by decide +kernel
theorem dX7_addCube_124 : decode cX7_addCube 124 = .ok (.getfield 22, 3) := by decide +kernel
theorem dX7_addCube_127 : decode cX7_addCube 127 = .ok (.iload 7, 2) := by decide +kernel
theorem dX7_addCube_129 : decode cX7_addCube 129 = .ok (.iaload, 1) := by decide +kernel
theorem dX7_addCube_130 : decode cX7_addCube 130 = .ok (.ineg, 1) := by decide +kernel
theorem dX7_addCube_131 : decode cX7_addCube 131 = .ok (.iconst 1, 1) := by decide +kernel
theorem dX7_addCube_132 : decode cX7_addCube 132 = .ok (.isub, 1) := by decide +kernel
theorem dX7_addCube_133 : decode cX7_addCube 133 = .ok (.invokevirtual 116, 3) := by decide +kernel
theorem dX7_addCube_136 : decode cX7_addCube 136 = .ok (.iinc 6 1, 3) := by decide +kernel
theorem dX7_addCube_139 : decode cX7_addCube 139 = .ok (.goto (-136), 3) := by decide +kernel
theorem dX7_addCube_142 : decode cX7_addCube 142 = .ok (.return_, 1) := by decide +kernel
theorem dX7_fits_0 : decode cX7_fits 0 = .ok (.aload_n 0, 1) := by decide +kernel
theorem dX7_fits_1 : decode cX7_fits 1 = .ok (.iconst 0, 1) := by decide +kernel
theorem dX7_fits_2 : decode cX7_fits 2 = .ok (.putfield 108, 3) := by decide +kernel
theorem dX7_fits_5 : decode cX7_fits 5 = .ok (.aload_n 0, 1) := by decide +kernel
theorem dX7_fits_6 : decode cX7_fits 6 = .ok (.iload_n 1, 1) := by decide +kernel
theorem dX7_fits_7 : decode cX7_fits 7 = .ok (.iconst 0, 1) := by decide +kernel
theorem dX7_fits_8 : decode cX7_fits 8 = .ok (.iconst 5, 1) := by decide +kernel
theorem dX7_fits_9 : decode cX7_fits 9 = .ok (.invokevirtual 120, 3) := by decide +kernel
theorem dX7_fits_12 : decode cX7_fits 12 = .ok (.iconst 0, 1) := by decide +kernel
theorem dX7_fits_13 : decode cX7_fits 13 = .ok (.istore 5, 2) := by decide +kernel
theorem dX7_fits_15 : decode cX7_fits 15 = .ok (.iload 5, 2) := by decide +kernel
theorem dX7_fits_17 : decode cX7_fits 17 = .ok (.aload_n 0, 1) := by decide +kernel
theorem dX7_fits_18 : decode cX7_fits 18 = .ok (.getfield 31, 3) := by decide +kernel
theorem dX7_fits_21 : decode cX7_fits 21 = .ok (.iload_n 1, 1) := by decide +kernel
theorem dX7_fits_22 : decode cX7_fits 22 = .ok (.iaload, 1) := by decide +kernel
theorem dX7_fits_23 : decode cX7_fits 23 = .ok (.if_icmp .ge 59, 3) := by decide +kernel
theorem dX7_fits_26 : decode cX7_fits 26 = .ok (.iconst 2, 1) := by decide +kernel
theorem dX7_fits_27 : decode cX7_fits 27 = .ok (.iload_n 1, 1) := by decide +kernel
theorem dX7_fits_28 : decode cX7_fits 28 = .ok (.imul, 1) := by decide +kernel
theorem dX7_fits_29 : decode cX7_fits 29 = .ok (.iload 5, 2) := by decide +kernel
theorem dX7_fits_31 : decode cX7_fits 31 = .ok (.iadd, 1) := by decide +kernel
theorem dX7_fits_32 : decode cX7_fits 32 = .ok (.istore 6, 2) := by decide +kernel
theorem dX7_fits_34 : decode cX7_fits 34 = .ok (.aload_n 0, 1) := by decide +kernel
theorem dX7_fits_35 : decode cX7_fits 35 = .ok (.aload_n 0, 1) := by decide +kernel
theorem dX7_fits_36 : decode cX7_fits 36 = .ok (.getfield 34, 3) := by decide +kernel
theorem dX7_fits_39 : decode cX7_fits 39 = .ok (.iload 6, 2) := by decide +kernel
theorem dX7_fits_41 : decode cX7_fits 41 = .ok (.iaload, 1) := by decide +kernel
theorem dX7_fits_42 : decode cX7_fits 42 = .ok (.iload 5, 2) := by decide +kernel
theorem dX7_fits_44 : decode cX7_fits 44 = .ok (.ifCond .ne 7, 3) := by decide +kernel
theorem dX7_fits_47 : decode cX7_fits 47 = .ok (.iload_n 2, 1) := by decide +kernel
theorem dX7_fits_48 : decode cX7_fits 48 = .ok (.goto 4, 3) := by decide +kernel
theorem dX7_fits_51 : decode cX7_fits 51 = .ok (.iload_n 3, 1) := by decide +kernel
theorem dX7_fits_52 : decode cX7_fits 52 = .ok (.aload_n 0, 1) := by decide +kernel
theorem dX7_fits_53 : decode cX7_fits 53 = .ok (.getfield 37, 3) := by decide +kernel
theorem dX7_fits_56 : decode cX7_fits 56 = .ok (.iconst 2, 1) := by decide +kernel
theorem dX7_fits_57 : decode cX7_fits 57 = .ok (.iload 6, 2) := by decide +kernel
theorem dX7_fits_59 : decode cX7_fits 59 = .ok (.imul, 1) := by decide +kernel
theorem dX7_fits_60 : decode cX7_fits 60 = .ok (.iaload, 1) := by decide +kernel
theorem dX7_fits_61 : decode cX7_fits 61 = .ok (.aload_n 0, 1) := by decide +kernel
theorem dX7_fits_62 : decode cX7_fits 62 = .ok (.getfield 37, 3) := by decide +kernel
theorem dX7_fits_65 : decode cX7_fits 65 = .ok (.iconst 2, 1) := by decide +kernel
theorem dX7_fits_66 : decode cX7_fits 66 = .ok (.iload 6, 2) := by decide +kernel
theorem dX7_fits_68 : decode cX7_fits 68 = .ok (.imul, 1) := by decide +kernel
theorem dX7_fits_69 : decode cX7_fits 69 = .ok (.iconst 1, 1) := by decide +kernel
theorem dX7_fits_70 : decode cX7_fits 70 = .ok (.iadd, 1) := by decide +kernel
theorem dX7_fits_71 : decode cX7_fits 71 = .ok (.iaload, 1) := by decide +kernel
theorem dX7_fits_72 : decode cX7_fits 72 = .ok (.iconst 5, 1) := by decide +kernel
theorem dX7_fits_73 : decode cX7_fits 73 = .ok (.invokevirtual 123, 3) := by decide +kernel
theorem dX7_fits_76 : decode cX7_fits 76 = .ok (.iinc 5 1, 3) := by decide +kernel
theorem dX7_fits_79 : decode cX7_fits 79 = .ok (.goto (-64), 3) := by decide +kernel
theorem dX7_fits_82 : decode cX7_fits 82 = .ok (.iload 4, 2) := by decide +kernel
theorem dX7_fits_84 : decode cX7_fits 84 = .ok (.ifCond .lt 34, 3) := by decide +kernel
theorem dX7_fits_87 : decode cX7_fits 87 = .ok (.aload_n 0, 1) := by decide +kernel
theorem dX7_fits_88 : decode cX7_fits 88 = .ok (.aload_n 0, 1) := by decide +kernel
theorem dX7_fits_89 : decode cX7_fits 89 = .ok (.getfield 25, 3) := by decide +kernel
theorem dX7_fits_92 : decode cX7_fits 92 = .ok (.iload_n 1, 1) := by decide +kernel
theorem dX7_fits_93 : decode cX7_fits 93 = .ok (.iaload, 1) := by decide +kernel
theorem dX7_fits_94 : decode cX7_fits 94 = .ok (.iload 4, 2) := by decide +kernel
theorem dX7_fits_96 : decode cX7_fits 96 = .ok (.aload_n 0, 1) := by decide +kernel
theorem dX7_fits_97 : decode cX7_fits 97 = .ok (.getfield 28, 3) := by decide +kernel
theorem dX7_fits_100 : decode cX7_fits 100 = .ok (.iconst 2, 1) := by decide +kernel
theorem dX7_fits_101 : decode cX7_fits 101 = .ok (.iload_n 1, 1) := by decide +kernel
theorem dX7_fits_102 : decode cX7_fits 102 = .ok (.imul, 1) := by decide +kernel
theorem dX7_fits_103 : decode cX7_fits 103 = .ok (.iaload, 1) := by decide +kernel
theorem dX7_fits_104 : decode cX7_fits 104 = .ok (.aload_n 0, 1) := by decide +kernel
theorem dX7_fits_105 : decode cX7_fits 105 = .ok (.getfield 28, 3) := by decide +kernel
theorem dX7_fits_108 : decode cX7_fits 108 = .ok (.iconst 2, 1) := by decide +kernel
theorem dX7_fits_109 : decode cX7_fits 109 = .ok (.iload_n 1, 1) := by decide +kernel
theorem dX7_fits_110 : decode cX7_fits 110 = .ok (.imul, 1) := by decide +kernel
theorem dX7_fits_111 : decode cX7_fits 111 = .ok (.iconst 1, 1) := by decide +kernel
theorem dX7_fits_112 : decode cX7_fits 112 = .ok (.iadd, 1) := by decide +kernel
theorem dX7_fits_113 : decode cX7_fits 113 = .ok (.iaload, 1) := by decide +kernel
theorem dX7_fits_114 : decode cX7_fits 114 = .ok (.iconst 5, 1) := by decide +kernel
theorem dX7_fits_115 : decode cX7_fits 115 = .ok (.invokevirtual 123, 3) := by decide +kernel
theorem dX7_fits_118 : decode cX7_fits 118 = .ok (.aload_n 0, 1) := by decide +kernel
theorem dX7_fits_119 : decode cX7_fits 119 = .ok (.bipush 6, 2) := by decide +kernel
theorem dX7_fits_121 : decode cX7_fits 121 = .ok (.invokevirtual 127, 3) := by decide +kernel
theorem dX7_fits_124 : decode cX7_fits 124 = .ok (.ireturn, 1) := by decide +kernel
theorem dX7_cubesOf_0 : decode cX7_cubesOf 0 = .ok (.iconst 1, 1) := by decide +kernel
theorem dX7_cubesOf_1 : decode cX7_cubesOf 1 = .ok (.aload_n 0, 1) := by decide +kernel
theorem dX7_cubesOf_2 : decode cX7_cubesOf 2 = .ok (.getfield 13, 3) := by decide +kernel
theorem dX7_cubesOf_5 : decode cX7_cubesOf 5 = .ok (.iload_n 1, 1) := by decide +kernel
theorem dX7_cubesOf_6 : decode cX7_cubesOf 6 = .ok (.iaload, 1) := by decide +kernel
theorem dX7_cubesOf_7 : decode cX7_cubesOf 7 = .ok (.ishl, 1) := by decide +kernel
theorem dX7_cubesOf_8 : decode cX7_cubesOf 8 = .ok (.ireturn, 1) := by decide +kernel
theorem dX7_isFound_0 : decode cX7_isFound 0 = .ok (.aload_n 0, 1) := by decide +kernel
theorem dX7_isFound_1 : decode cX7_isFound 1 = .ok (.getfield 31, 3) := by decide +kernel
theorem dX7_isFound_4 : decode cX7_isFound 4 = .ok (.iload_n 1, 1) := by decide +kernel
theorem dX7_isFound_5 : decode cX7_isFound 5 = .ok (.iaload, 1) := by decide +kernel
theorem dX7_isFound_6 : decode cX7_isFound 6 = .ok (.ifCond .le 18, 3) := by decide +kernel
theorem dX7_isFound_9 : decode cX7_isFound 9 = .ok (.aload_n 0, 1) := by decide +kernel
theorem dX7_isFound_10 : decode cX7_isFound 10 = .ok (.aload_n 0, 1) := by decide +kernel
theorem dX7_isFound_11 : decode cX7_isFound 11 = .ok (.getfield 34, 3) := by decide +kernel
theorem dX7_isFound_14 : decode cX7_isFound 14 = .ok (.iconst 2, 1) := by decide +kernel
theorem dX7_isFound_15 : decode cX7_isFound 15 = .ok (.iload_n 1, 1) := by decide +kernel
theorem dX7_isFound_16 : decode cX7_isFound 16 = .ok (.imul, 1) := by decide +kernel
theorem dX7_isFound_17 : decode cX7_isFound 17 = .ok (.iaload, 1) := by decide +kernel
theorem dX7_isFound_18 : decode cX7_isFound 18 = .ok (.invokevirtual 130, 3) := by decide +kernel
theorem dX7_isFound_21 : decode cX7_isFound 21 = .ok (.goto 4, 3) := by decide +kernel
theorem dX7_isFound_24 : decode cX7_isFound 24 = .ok (.iconst 1, 1) := by decide +kernel
theorem dX7_isFound_25 : decode cX7_isFound 25 = .ok (.istore_n 3, 1) := by decide +kernel
theorem dX7_isFound_26 : decode cX7_isFound 26 = .ok (.aload_n 0, 1) := by decide +kernel
theorem dX7_isFound_27 : decode cX7_isFound 27 = .ok (.getfield 31, 3) := by decide +kernel
theorem dX7_isFound_30 : decode cX7_isFound 30 = .ok (.iload_n 1, 1) := by decide +kernel
theorem dX7_isFound_31 : decode cX7_isFound 31 = .ok (.iaload, 1) := by decide +kernel
theorem dX7_isFound_32 : decode cX7_isFound 32 = .ok (.iconst 1, 1) := by decide +kernel
theorem dX7_isFound_33 : decode cX7_isFound 33 = .ok (.if_icmp .le 20, 3) := by decide +kernel
theorem dX7_isFound_36 : decode cX7_isFound 36 = .ok (.aload_n 0, 1) := by decide +kernel
theorem dX7_isFound_37 : decode cX7_isFound 37 = .ok (.aload_n 0, 1) := by decide +kernel
theorem dX7_isFound_38 : decode cX7_isFound 38 = .ok (.getfield 34, 3) := by decide +kernel
theorem dX7_isFound_41 : decode cX7_isFound 41 = .ok (.iconst 2, 1) := by decide +kernel
theorem dX7_isFound_42 : decode cX7_isFound 42 = .ok (.iload_n 1, 1) := by decide +kernel
theorem dX7_isFound_43 : decode cX7_isFound 43 = .ok (.imul, 1) := by decide +kernel
theorem dX7_isFound_44 : decode cX7_isFound 44 = .ok (.iconst 1, 1) := by decide +kernel
theorem dX7_isFound_45 : decode cX7_isFound 45 = .ok (.iadd, 1) := by decide +kernel
theorem dX7_isFound_46 : decode cX7_isFound 46 = .ok (.iaload, 1) := by decide +kernel
theorem dX7_isFound_47 : decode cX7_isFound 47 = .ok (.invokevirtual 130, 3) := by decide +kernel
theorem dX7_isFound_50 : decode cX7_isFound 50 = .ok (.goto 4, 3) := by decide +kernel
theorem dX7_isFound_53 : decode cX7_isFound 53 = .ok (.iconst 1, 1) := by decide +kernel
theorem dX7_isFound_54 : decode cX7_isFound 54 = .ok (.istore 4, 2) := by decide +kernel
theorem dX7_isFound_56 : decode cX7_isFound 56 = .ok (.iconst 0, 1) := by decide +kernel
theorem dX7_isFound_57 : decode cX7_isFound 57 = .ok (.istore 5, 2) := by decide +kernel
theorem dX7_isFound_59 : decode cX7_isFound 59 = .ok (.iload 5, 2) := by decide +kernel
theorem dX7_isFound_61 : decode cX7_isFound 61 = .ok (.iload_n 3, 1) := by decide +kernel
theorem dX7_isFound_62 : decode cX7_isFound 62 = .ok (.iload 4, 2) := by decide +kernel
theorem dX7_isFound_64 : decode cX7_isFound 64 = .ok (.imul, 1) := by decide +kernel
theorem dX7_isFound_65 : decode cX7_isFound 65 = .ok (.if_icmp .ge 157, 3) := by decide +kernel
theorem dX7_isFound_68 : decode cX7_isFound 68 = .ok (.iload 5, 2) := by decide +kernel
theorem dX7_isFound_70 : decode cX7_isFound 70 = .ok (.iload 4, 2) := by decide +kernel
theorem dX7_isFound_72 : decode cX7_isFound 72 = .ok (.idiv, 1) := by decide +kernel
theorem dX7_isFound_73 : decode cX7_isFound 73 = .ok (.istore 6, 2) := by decide +kernel
theorem dX7_isFound_75 : decode cX7_isFound 75 = .ok (.iload 5, 2) := by decide +kernel
theorem dX7_isFound_77 : decode cX7_isFound 77 = .ok (.iload 4, 2) := by decide +kernel
theorem dX7_isFound_79 : decode cX7_isFound 79 = .ok (.irem, 1) := by decide +kernel
theorem dX7_isFound_80 : decode cX7_isFound 80 = .ok (.istore 7, 2) := by decide +kernel
theorem dX7_isFound_82 : decode cX7_isFound 82 = .ok (.aload_n 0, 1) := by decide +kernel
theorem dX7_isFound_83 : decode cX7_isFound 83 = .ok (.getfield 31, 3) := by decide +kernel
theorem dX7_isFound_86 : decode cX7_isFound 86 = .ok (.iload_n 1, 1) := by decide +kernel
theorem dX7_isFound_87 : decode cX7_isFound 87 = .ok (.iaload, 1) := by decide +kernel
theorem dX7_isFound_88 : decode cX7_isFound 88 = .ok (.iconst 1, 1) := by decide +kernel
theorem dX7_isFound_89 : decode cX7_isFound 89 = .ok (.if_icmp .lt 20, 3) := by decide +kernel
theorem dX7_isFound_92 : decode cX7_isFound 92 = .ok (.aload_n 0, 1) := by decide +kernel
theorem dX7_isFound_93 : decode cX7_isFound 93 = .ok (.aload_n 0, 1) := by decide +kernel
theorem dX7_isFound_94 : decode cX7_isFound 94 = .ok (.getfield 34, 3) := by decide +kernel
theorem dX7_isFound_97 : decode cX7_isFound 97 = .ok (.iconst 2, 1) := by decide +kernel
theorem dX7_isFound_98 : decode cX7_isFound 98 = .ok (.iload_n 1, 1) := by decide +kernel
theorem dX7_isFound_99 : decode cX7_isFound 99 = .ok (.imul, 1) := by decide +kernel
theorem dX7_isFound_100 : decode cX7_isFound 100 = .ok (.iaload, 1) := by decide +kernel
theorem dX7_isFound_101 : decode cX7_isFound 101 = .ok (.iload 6, 2) := by decide +kernel
theorem dX7_isFound_103 : decode cX7_isFound 103 = .ok (.invokevirtual 134, 3) := by decide +kernel
theorem dX7_isFound_106 : decode cX7_isFound 106 = .ok (.ifCond .eq 7, 3) := by decide +kernel
theorem dX7_isFound_109 : decode cX7_isFound 109 = .ok (.iconst 1, 1) := by decide +kernel
theorem dX7_isFound_110 : decode cX7_isFound 110 = .ok (.goto 4, 3) := by decide +kernel
theorem dX7_isFound_113 : decode cX7_isFound 113 = .ok (.iconst 0, 1) := by decide +kernel
theorem dX7_isFound_114 : decode cX7_isFound 114 = .ok (.istore 8, 2) := by decide +kernel
theorem dX7_isFound_116 : decode cX7_isFound 116 = .ok (.iload 8, 2) := by decide +kernel
theorem dX7_isFound_118 : decode cX7_isFound 118 = .ok (.ifCond .eq 36, 3) := by decide +kernel
theorem dX7_isFound_121 : decode cX7_isFound 121 = .ok (.aload_n 0, 1) := by decide +kernel
theorem dX7_isFound_122 : decode cX7_isFound 122 = .ok (.getfield 31, 3) := by decide +kernel
theorem dX7_isFound_125 : decode cX7_isFound 125 = .ok (.iload_n 1, 1) := by decide +kernel
theorem dX7_isFound_126 : decode cX7_isFound 126 = .ok (.iaload, 1) := by decide +kernel
theorem dX7_isFound_127 : decode cX7_isFound 127 = .ok (.iconst 2, 1) := by decide +kernel
theorem dX7_isFound_128 : decode cX7_isFound 128 = .ok (.if_icmp .lt 22, 3) := by decide +kernel
theorem dX7_isFound_131 : decode cX7_isFound 131 = .ok (.aload_n 0, 1) := by decide +kernel
theorem dX7_isFound_132 : decode cX7_isFound 132 = .ok (.aload_n 0, 1) := by decide +kernel
theorem dX7_isFound_133 : decode cX7_isFound 133 = .ok (.getfield 34, 3) := by decide +kernel
theorem dX7_isFound_136 : decode cX7_isFound 136 = .ok (.iconst 2, 1) := by decide +kernel
theorem dX7_isFound_137 : decode cX7_isFound 137 = .ok (.iload_n 1, 1) := by decide +kernel
theorem dX7_isFound_138 : decode cX7_isFound 138 = .ok (.imul, 1) := by decide +kernel
theorem dX7_isFound_139 : decode cX7_isFound 139 = .ok (.iconst 1, 1) := by decide +kernel
theorem dX7_isFound_140 : decode cX7_isFound 140 = .ok (.iadd, 1) := by decide +kernel
theorem dX7_isFound_141 : decode cX7_isFound 141 = .ok (.iaload, 1) := by decide +kernel
theorem dX7_isFound_142 : decode cX7_isFound 142 = .ok (.iload 7, 2) := by decide +kernel
theorem dX7_isFound_144 : decode cX7_isFound 144 = .ok (.invokevirtual 134, 3) := by decide +kernel
theorem dX7_isFound_147 : decode cX7_isFound 147 = .ok (.ifCond .eq 7, 3) := by decide +kernel
theorem dX7_isFound_150 : decode cX7_isFound 150 = .ok (.iconst 1, 1) := by decide +kernel
theorem dX7_isFound_151 : decode cX7_isFound 151 = .ok (.goto 4, 3) := by decide +kernel
theorem dX7_isFound_154 : decode cX7_isFound 154 = .ok (.iconst 0, 1) := by decide +kernel
theorem dX7_isFound_155 : decode cX7_isFound 155 = .ok (.istore 8, 2) := by decide +kernel
theorem dX7_isFound_157 : decode cX7_isFound 157 = .ok (.iload 8, 2) := by decide +kernel
theorem dX7_isFound_159 : decode cX7_isFound 159 = .ok (.ifCond .eq 57, 3) := by decide +kernel
theorem dX7_isFound_162 : decode cX7_isFound 162 = .ok (.aload_n 0, 1) := by decide +kernel
theorem dX7_isFound_163 : decode cX7_isFound 163 = .ok (.iload_n 1, 1) := by decide +kernel
theorem dX7_isFound_164 : decode cX7_isFound 164 = .ok (.iload 6, 2) := by decide +kernel
theorem dX7_isFound_166 : decode cX7_isFound 166 = .ok (.iload 7, 2) := by decide +kernel
theorem dX7_isFound_168 : decode cX7_isFound 168 = .ok (.iload_n 2, 1) := by decide +kernel
theorem dX7_isFound_169 : decode cX7_isFound 169 = .ok (.invokevirtual 138, 3) := by decide +kernel
theorem dX7_isFound_172 : decode cX7_isFound 172 = .ok (.ifCond .eq 44, 3) := by decide +kernel
theorem dX7_isFound_175 : decode cX7_isFound 175 = .ok (.aload_n 0, 1) := by decide +kernel
theorem dX7_isFound_176 : decode cX7_isFound 176 = .ok (.aload_n 0, 1) := by decide +kernel
theorem dX7_isFound_177 : decode cX7_isFound 177 = .ok (.getfield 31, 3) := by decide +kernel
theorem dX7_isFound_180 : decode cX7_isFound 180 = .ok (.iload_n 1, 1) := by decide +kernel
theorem dX7_isFound_181 : decode cX7_isFound 181 = .ok (.iaload, 1) := by decide +kernel
theorem dX7_isFound_182 : decode cX7_isFound 182 = .ok (.ifCond .le 8, 3) := by decide +kernel
theorem dX7_isFound_185 : decode cX7_isFound 185 = .ok (.iload 6, 2) := by decide +kernel
theorem dX7_isFound_187 : decode cX7_isFound 187 = .ok (.goto 4, 3) := by decide +kernel
theorem dX7_isFound_190 : decode cX7_isFound 190 = .ok (.iconst (-1), 1) := by decide +kernel
theorem dX7_isFound_191 : decode cX7_isFound 191 = .ok (.putfield 142, 3) := by decide +kernel
theorem dX7_isFound_194 : decode cX7_isFound 194 = .ok (.aload_n 0, 1) := by decide +kernel
theorem dX7_isFound_195 : decode cX7_isFound 195 = .ok (.aload_n 0, 1) := by decide +kernel
theorem dX7_isFound_196 : decode cX7_isFound 196 = .ok (.getfield 31, 3) := by decide +kernel
theorem dX7_isFound_199 : decode cX7_isFound 199 = .ok (.iload_n 1, 1) := by decide +kernel
theorem dX7_isFound_200 : decode cX7_isFound 200 = .ok (.iaload, 1) := by decide +kernel
theorem dX7_isFound_201 : decode cX7_isFound 201 = .ok (.iconst 1, 1) := by decide +kernel
theorem dX7_isFound_202 : decode cX7_isFound 202 = .ok (.if_icmp .le 8, 3) := by decide +kernel
theorem dX7_isFound_205 : decode cX7_isFound 205 = .ok (.iload 7, 2) := by decide +kernel
theorem dX7_isFound_207 : decode cX7_isFound 207 = .ok (.goto 4, 3) := by decide +kernel
theorem dX7_isFound_210 : decode cX7_isFound 210 = .ok (.iconst (-1), 1) := by decide +kernel
theorem dX7_isFound_211 : decode cX7_isFound 211 = .ok (.putfield 145, 3) := by decide +kernel
theorem dX7_isFound_214 : decode cX7_isFound 214 = .ok (.iconst 1, 1) := by decide +kernel
theorem dX7_isFound_215 : decode cX7_isFound 215 = .ok (.ireturn, 1) := by decide +kernel
theorem dX7_isFound_216 : decode cX7_isFound 216 = .ok (.iinc 5 1, 3) := by decide +kernel
theorem dX7_isFound_219 : decode cX7_isFound 219 = .ok (.goto (-160), 3) := by decide +kernel
theorem dX7_isFound_222 : decode cX7_isFound 222 = .ok (.iconst 0, 1) := by decide +kernel
theorem dX7_isFound_223 : decode cX7_isFound 223 = .ok (.ireturn, 1) := by decide +kernel
theorem dX7_isBefore_0 : decode cX7_isBefore 0 = .ok (.aload_n 0, 1) := by decide +kernel
theorem dX7_isBefore_1 : decode cX7_isBefore 1 = .ok (.getfield 52, 3) := by decide +kernel
theorem dX7_isBefore_4 : decode cX7_isBefore 4 = .ok (.bipush 16, 2) := by decide +kernel
theorem dX7_isBefore_6 : decode cX7_isBefore 6 = .ok (.iload_n 1, 1) := by decide +kernel
theorem dX7_isBefore_7 : decode cX7_isBefore 7 = .ok (.imul, 1) := by decide +kernel
theorem dX7_isBefore_8 : decode cX7_isBefore 8 = .ok (.iload_n 2, 1) := by decide +kernel
theorem dX7_isBefore_9 : decode cX7_isBefore 9 = .ok (.iadd, 1) := by decide +kernel
theorem dX7_isBefore_10 : decode cX7_isBefore 10 = .ok (.iaload, 1) := by decide +kernel
theorem dX7_isBefore_11 : decode cX7_isBefore 11 = .ok (.istore_n 3, 1) := by decide +kernel
theorem dX7_isBefore_12 : decode cX7_isBefore 12 = .ok (.iload_n 3, 1) := by decide +kernel
theorem dX7_isBefore_13 : decode cX7_isBefore 13 = .ok (.ifCond .le 15, 3) := by decide +kernel
theorem dX7_isBefore_16 : decode cX7_isBefore 16 = .ok (.iload_n 3, 1) := by decide +kernel
theorem dX7_isBefore_17 : decode cX7_isBefore 17 = .ok (.aload_n 0, 1) := by decide +kernel
theorem dX7_isBefore_18 : decode cX7_isBefore 18 = .ok (.getfield 148, 3) := by decide +kernel
theorem dX7_isBefore_21 : decode cX7_isBefore 21 = .ok (.if_icmp .ge 7, 3) := by decide +kernel
theorem dX7_isBefore_24 : decode cX7_isBefore 24 = .ok (.iconst 1, 1) := by decide +kernel
theorem dX7_isBefore_25 : decode cX7_isBefore 25 = .ok (.goto 4, 3) := by decide +kernel
theorem dX7_isBefore_28 : decode cX7_isBefore 28 = .ok (.iconst 0, 1) := by decide +kernel
theorem dX7_isBefore_29 : decode cX7_isBefore 29 = .ok (.ireturn, 1) := by decide +kernel
theorem dX7_freshStart_0 : decode cX7_freshStart 0 = .ok (.iconst 0, 1) := by decide +kernel
theorem dX7_freshStart_1 : decode cX7_freshStart 1 = .ok (.istore_n 1, 1) := by decide +kernel
theorem dX7_freshStart_2 : decode cX7_freshStart 2 = .ok (.iload_n 1, 1) := by decide +kernel
theorem dX7_freshStart_3 : decode cX7_freshStart 3 = .ok (.bipush 64, 2) := by decide +kernel
theorem dX7_freshStart_5 : decode cX7_freshStart 5 = .ok (.if_icmp .ge 43, 3) := by decide +kernel
theorem dX7_freshStart_8 : decode cX7_freshStart 8 = .ok (.aload_n 0, 1) := by decide +kernel
theorem dX7_freshStart_9 : decode cX7_freshStart 9 = .ok (.getfield 52, 3) := by decide +kernel
theorem dX7_freshStart_12 : decode cX7_freshStart 12 = .ok (.iload_n 1, 1) := by decide +kernel
theorem dX7_freshStart_13 : decode cX7_freshStart 13 = .ok (.iconst 0, 1) := by decide +kernel
theorem dX7_freshStart_14 : decode cX7_freshStart 14 = .ok (.iastore, 1) := by decide +kernel
theorem dX7_freshStart_15 : decode cX7_freshStart 15 = .ok (.aload_n 0, 1) := by decide +kernel
theorem dX7_freshStart_16 : decode cX7_freshStart 16 = .ok (.getfield 55, 3) := by decide +kernel
theorem dX7_freshStart_19 : decode cX7_freshStart 19 = .ok (.iload_n 1, 1) := by decide +kernel
theorem dX7_freshStart_20 : decode cX7_freshStart 20 = .ok (.iconst (-1), 1) := by decide +kernel
theorem dX7_freshStart_21 : decode cX7_freshStart 21 = .ok (.iastore, 1) := by decide +kernel
theorem dX7_freshStart_22 : decode cX7_freshStart 22 = .ok (.aload_n 0, 1) := by decide +kernel
theorem dX7_freshStart_23 : decode cX7_freshStart 23 = .ok (.getfield 58, 3) := by decide +kernel
theorem dX7_freshStart_26 : decode cX7_freshStart 26 = .ok (.iconst 2, 1) := by decide +kernel
theorem dX7_freshStart_27 : decode cX7_freshStart 27 = .ok (.iload_n 1, 1) := by decide +kernel
theorem dX7_freshStart_28 : decode cX7_freshStart 28 = .ok (.imul, 1) := by decide +kernel
theorem dX7_freshStart_29 : decode cX7_freshStart 29 = .ok (.iconst (-1), 1) := by decide +kernel
theorem dX7_freshStart_30 : decode cX7_freshStart 30 = .ok (.iastore, 1) := by decide +kernel
theorem dX7_freshStart_31 : decode cX7_freshStart 31 = .ok (.aload_n 0, 1) := by decide +kernel
theorem dX7_freshStart_32 : decode cX7_freshStart 32 = .ok (.getfield 58, 3) := by decide +kernel
theorem dX7_freshStart_35 : decode cX7_freshStart 35 = .ok (.iconst 2, 1) := by decide +kernel
theorem dX7_freshStart_36 : decode cX7_freshStart 36 = .ok (.iload_n 1, 1) := by decide +kernel
theorem dX7_freshStart_37 : decode cX7_freshStart 37 = .ok (.imul, 1) := by decide +kernel
theorem dX7_freshStart_38 : decode cX7_freshStart 38 = .ok (.iconst 1, 1) := by decide +kernel
theorem dX7_freshStart_39 : decode cX7_freshStart 39 = .ok (.iadd, 1) := by decide +kernel
theorem dX7_freshStart_40 : decode cX7_freshStart 40 = .ok (.iconst (-1), 1) := by decide +kernel
theorem dX7_freshStart_41 : decode cX7_freshStart 41 = .ok (.iastore, 1) := by decide +kernel
theorem dX7_freshStart_42 : decode cX7_freshStart 42 = .ok (.iinc 1 1, 3) := by decide +kernel
theorem dX7_freshStart_45 : decode cX7_freshStart 45 = .ok (.goto (-43), 3) := by decide +kernel
theorem dX7_freshStart_48 : decode cX7_freshStart 48 = .ok (.aload_n 0, 1) := by decide +kernel
theorem dX7_freshStart_49 : decode cX7_freshStart 49 = .ok (.iconst 0, 1) := by decide +kernel
theorem dX7_freshStart_50 : decode cX7_freshStart 50 = .ok (.putfield 148, 3) := by decide +kernel
theorem dX7_freshStart_53 : decode cX7_freshStart 53 = .ok (.aload_n 0, 1) := by decide +kernel
theorem dX7_freshStart_54 : decode cX7_freshStart 54 = .ok (.iconst (-1), 1) := by decide +kernel
theorem dX7_freshStart_55 : decode cX7_freshStart 55 = .ok (.putfield 61, 3) := by decide +kernel
theorem dX7_freshStart_58 : decode cX7_freshStart 58 = .ok (.aload_n 0, 1) := by decide +kernel
theorem dX7_freshStart_59 : decode cX7_freshStart 59 = .ok (.iconst 0, 1) := by decide +kernel
theorem dX7_freshStart_60 : decode cX7_freshStart 60 = .ok (.putfield 151, 3) := by decide +kernel
theorem dX7_freshStart_63 : decode cX7_freshStart 63 = .ok (.return_, 1) := by decide +kernel
theorem dX7_made_0 : decode cX7_made 0 = .ok (.aload_n 0, 1) := by decide +kernel
theorem dX7_made_1 : decode cX7_made 1 = .ok (.invokevirtual 154, 3) := by decide +kernel
theorem dX7_made_4 : decode cX7_made 4 = .ok (.aload_n 0, 1) := by decide +kernel
theorem dX7_made_5 : decode cX7_made 5 = .ok (.iconst 0, 1) := by decide +kernel
theorem dX7_made_6 : decode cX7_made 6 = .ok (.putfield 157, 3) := by decide +kernel
theorem dX7_made_9 : decode cX7_made 9 = .ok (.iload_n 1, 1) := by decide +kernel
theorem dX7_made_10 : decode cX7_made 10 = .ok (.ireturn, 1) := by decide +kernel
theorem dX7_relation_0 : decode cX7_relation 0 = .ok (.aload_n 0, 1) := by decide +kernel
theorem dX7_relation_1 : decode cX7_relation 1 = .ok (.iload_n 1, 1) := by decide +kernel
theorem dX7_relation_2 : decode cX7_relation 2 = .ok (.iconst 1, 1) := by decide +kernel
theorem dX7_relation_3 : decode cX7_relation 3 = .ok (.iconst 2, 1) := by decide +kernel
theorem dX7_relation_4 : decode cX7_relation 4 = .ok (.invokestatic 104, 3) := by decide +kernel
theorem dX7_relation_7 : decode cX7_relation 7 = .ok (.ifCond .ne 7, 3) := by decide +kernel
theorem dX7_relation_10 : decode cX7_relation 10 = .ok (.iconst 1, 1) := by decide +kernel
theorem dX7_relation_11 : decode cX7_relation 11 = .ok (.goto 16, 3) := by decide +kernel
theorem dX7_relation_14 : decode cX7_relation 14 = .ok (.aload_n 0, 1) := by decide +kernel
theorem dX7_relation_15 : decode cX7_relation 15 = .ok (.getfield 101, 3) := by decide +kernel
theorem dX7_relation_18 : decode cX7_relation 18 = .ok (.iconst 4, 1) := by decide +kernel
theorem dX7_relation_19 : decode cX7_relation 19 = .ok (.if_icmp .ne 7, 3) := by decide +kernel
theorem dX7_relation_22 : decode cX7_relation 22 = .ok (.iconst 2, 1) := by decide +kernel
theorem dX7_relation_23 : decode cX7_relation 23 = .ok (.goto 4, 3) := by decide +kernel
theorem dX7_relation_26 : decode cX7_relation 26 = .ok (.iconst 0, 1) := by decide +kernel
theorem dX7_relation_27 : decode cX7_relation 27 = .ok (.putfield 98, 3) := by decide +kernel
theorem dX7_relation_30 : decode cX7_relation 30 = .ok (.aload_n 0, 1) := by decide +kernel
theorem dX7_relation_31 : decode cX7_relation 31 = .ok (.getfield 98, 3) := by decide +kernel
theorem dX7_relation_34 : decode cX7_relation 34 = .ok (.ifCond .le 5, 3) := by decide +kernel
theorem dX7_relation_37 : decode cX7_relation 37 = .ok (.iconst 0, 1) := by decide +kernel
theorem dX7_relation_38 : decode cX7_relation 38 = .ok (.ireturn, 1) := by decide +kernel
theorem dX7_relation_39 : decode cX7_relation 39 = .ok (.aload_n 0, 1) := by decide +kernel
theorem dX7_relation_40 : decode cX7_relation 40 = .ok (.getfield 7, 3) := by decide +kernel
theorem dX7_relation_43 : decode cX7_relation 43 = .ok (.aload_n 0, 1) := by decide +kernel
theorem dX7_relation_44 : decode cX7_relation 44 = .ok (.getfield 101, 3) := by decide +kernel
theorem dX7_relation_47 : decode cX7_relation 47 = .ok (.iload_n 1, 1) := by decide +kernel
theorem dX7_relation_48 : decode cX7_relation 48 = .ok (.iastore, 1) := by decide +kernel
theorem dX7_relation_49 : decode cX7_relation 49 = .ok (.aload_n 0, 1) := by decide +kernel
theorem dX7_relation_50 : decode cX7_relation 50 = .ok (.dup, 1) := by decide +kernel
theorem dX7_relation_51 : decode cX7_relation 51 = .ok (.getfield 101, 3) := by decide +kernel
theorem dX7_relation_54 : decode cX7_relation 54 = .ok (.iconst 1, 1) := by decide +kernel
theorem dX7_relation_55 : decode cX7_relation 55 = .ok (.iadd, 1) := by decide +kernel
theorem dX7_relation_56 : decode cX7_relation 56 = .ok (.putfield 101, 3) := by decide +kernel
theorem dX7_relation_59 : decode cX7_relation 59 = .ok (.aload_n 0, 1) := by decide +kernel
theorem dX7_relation_60 : decode cX7_relation 60 = .ok (.aload_n 0, 1) := by decide +kernel
theorem dX7_relation_61 : decode cX7_relation 61 = .ok (.getfield 101, 3) := by decide +kernel
theorem dX7_relation_64 : decode cX7_relation 64 = .ok (.iconst 1, 1) := by decide +kernel
theorem dX7_relation_65 : decode cX7_relation 65 = .ok (.isub, 1) := by decide +kernel
theorem dX7_relation_66 : decode cX7_relation 66 = .ok (.invokevirtual 160, 3) := by decide +kernel
theorem dX7_relation_69 : decode cX7_relation 69 = .ok (.ireturn, 1) := by decide +kernel
theorem dX7_isPlace_0 : decode cX7_isPlace 0 = .ok (.iload_n 2, 1) := by decide +kernel
theorem dX7_isPlace_1 : decode cX7_isPlace 1 = .ok (.iconst 2, 1) := by decide +kernel
theorem dX7_isPlace_2 : decode cX7_isPlace 2 = .ok (.if_icmp .eq 19, 3) := by decide +kernel
theorem dX7_isPlace_5 : decode cX7_isPlace 5 = .ok (.iload_n 2, 1) := by decide +kernel
theorem dX7_isPlace_6 : decode cX7_isPlace 6 = .ok (.iconst 0, 1) := by decide +kernel
end
section
theorem dX7_isPlace_7 : decode cX7_isPlace 7 = .ok (.aload_n 0, 1) := by decide +kernel
theorem dX7_isPlace_8 : decode cX7_isPlace 8 = .ok (.getfield 7, 3) := by decide +kernel
theorem dX7_isPlace_11 : decode cX7_isPlace 11 = .ok (.iload_n 1, 1) := by decide +kernel
theorem dX7_isPlace_12 : decode cX7_isPlace 12 = .ok (.iaload, 1) := by decide +kernel
theorem dX7_isPlace_13 : decode cX7_isPlace 13 = .ok (.iconst 1, 1) := by decide +kernel
theorem dX7_isPlace_14 : decode cX7_isPlace 14 = .ok (.isub, 1) := by decide +kernel
theorem dX7_isPlace_15 : decode cX7_isPlace 15 = .ok (.invokestatic 104, 3) := by decide +kernel
theorem dX7_isPlace_18 : decode cX7_isPlace 18 = .ok (.ifCond .eq 7, 3) := by decide +kernel
theorem dX7_isPlace_21 : decode cX7_isPlace 21 = .ok (.iconst 1, 1) := by decide +kernel
theorem dX7_isPlace_22 : decode cX7_isPlace 22 = .ok (.goto 4, 3) := by decide +kernel
theorem dX7_isPlace_25 : decode cX7_isPlace 25 = .ok (.iconst 0, 1) := by decide +kernel
theorem dX7_isPlace_26 : decode cX7_isPlace 26 = .ok (.ireturn, 1) := by decide +kernel
theorem dX7_isMark_0 : decode cX7_isMark 0 = .ok (.iconst 4, 1) := by decide +kernel
theorem dX7_isMark_1 : decode cX7_isMark 1 = .ok (.iload_n 1, 1) := by decide +kernel
theorem dX7_isMark_2 : decode cX7_isMark 2 = .ok (.imul, 1) := by decide +kernel
theorem dX7_isMark_3 : decode cX7_isMark 3 = .ok (.istore 5, 2) := by decide +kernel
theorem dX7_isMark_5 : decode cX7_isMark 5 = .ok (.iload 5, 2) := by decide +kernel
theorem dX7_isMark_7 : decode cX7_isMark 7 = .ok (.iconst 4, 1) := by decide +kernel
theorem dX7_isMark_8 : decode cX7_isMark 8 = .ok (.iload_n 1, 1) := by decide +kernel
theorem dX7_isMark_9 : decode cX7_isMark 9 = .ok (.imul, 1) := by decide +kernel
theorem dX7_isMark_10 : decode cX7_isMark 10 = .ok (.aload_n 0, 1) := by decide +kernel
theorem dX7_isMark_11 : decode cX7_isMark 11 = .ok (.getfield 13, 3) := by decide +kernel
theorem dX7_isMark_14 : decode cX7_isMark 14 = .ok (.iload_n 1, 1) := by decide +kernel
theorem dX7_isMark_15 : decode cX7_isMark 15 = .ok (.iaload, 1) := by decide +kernel
theorem dX7_isMark_16 : decode cX7_isMark 16 = .ok (.iadd, 1) := by decide +kernel
theorem dX7_isMark_17 : decode cX7_isMark 17 = .ok (.if_icmp .ge 45, 3) := by decide +kernel
theorem dX7_isMark_20 : decode cX7_isMark 20 = .ok (.aload_n 0, 1) := by decide +kernel
theorem dX7_isMark_21 : decode cX7_isMark 21 = .ok (.getfield 16, 3) := by decide +kernel
theorem dX7_isMark_24 : decode cX7_isMark 24 = .ok (.iload 5, 2) := by decide +kernel
theorem dX7_isMark_26 : decode cX7_isMark 26 = .ok (.iaload, 1) := by decide +kernel
theorem dX7_isMark_27 : decode cX7_isMark 27 = .ok (.iload_n 2, 1) := by decide +kernel
theorem dX7_isMark_28 : decode cX7_isMark 28 = .ok (.if_icmp .ne 28, 3) := by decide +kernel
theorem dX7_isMark_31 : decode cX7_isMark 31 = .ok (.aload_n 0, 1) := by decide +kernel
theorem dX7_isMark_32 : decode cX7_isMark 32 = .ok (.getfield 19, 3) := by decide +kernel
theorem dX7_isMark_35 : decode cX7_isMark 35 = .ok (.iload 5, 2) := by decide +kernel
theorem dX7_isMark_37 : decode cX7_isMark 37 = .ok (.iaload, 1) := by decide +kernel
theorem dX7_isMark_38 : decode cX7_isMark 38 = .ok (.iload_n 3, 1) := by decide +kernel
theorem dX7_isMark_39 : decode cX7_isMark 39 = .ok (.if_icmp .ne 17, 3) := by decide +kernel
theorem dX7_isMark_42 : decode cX7_isMark 42 = .ok (.aload_n 0, 1) := by decide +kernel
theorem dX7_isMark_43 : decode cX7_isMark 43 = .ok (.getfield 22, 3) := by decide +kernel
theorem dX7_isMark_46 : decode cX7_isMark 46 = .ok (.iload 5, 2) := by decide +kernel
theorem dX7_isMark_48 : decode cX7_isMark 48 = .ok (.iaload, 1) := by decide +kernel
theorem dX7_isMark_49 : decode cX7_isMark 49 = .ok (.iload 4, 2) := by decide +kernel
theorem dX7_isMark_51 : decode cX7_isMark 51 = .ok (.if_icmp .ne 5, 3) := by decide +kernel
theorem dX7_isMark_54 : decode cX7_isMark 54 = .ok (.iconst 1, 1) := by decide +kernel
theorem dX7_isMark_55 : decode cX7_isMark 55 = .ok (.ireturn, 1) := by decide +kernel
theorem dX7_isMark_56 : decode cX7_isMark 56 = .ok (.iinc 5 1, 3) := by decide +kernel
theorem dX7_isMark_59 : decode cX7_isMark 59 = .ok (.goto (-54), 3) := by decide +kernel
theorem dX7_isMark_62 : decode cX7_isMark 62 = .ok (.iconst 0, 1) := by decide +kernel
theorem dX7_isMark_63 : decode cX7_isMark 63 = .ok (.ireturn, 1) := by decide +kernel
theorem dX7_keepMark_0 : decode cX7_keepMark 0 = .ok (.iconst 4, 1) := by decide +kernel
theorem dX7_keepMark_1 : decode cX7_keepMark 1 = .ok (.iload_n 1, 1) := by decide +kernel
theorem dX7_keepMark_2 : decode cX7_keepMark 2 = .ok (.imul, 1) := by decide +kernel
theorem dX7_keepMark_3 : decode cX7_keepMark 3 = .ok (.aload_n 0, 1) := by decide +kernel
theorem dX7_keepMark_4 : decode cX7_keepMark 4 = .ok (.getfield 13, 3) := by decide +kernel
theorem dX7_keepMark_7 : decode cX7_keepMark 7 = .ok (.iload_n 1, 1) := by decide +kernel
theorem dX7_keepMark_8 : decode cX7_keepMark 8 = .ok (.iaload, 1) := by decide +kernel
theorem dX7_keepMark_9 : decode cX7_keepMark 9 = .ok (.iadd, 1) := by decide +kernel
theorem dX7_keepMark_10 : decode cX7_keepMark 10 = .ok (.istore 5, 2) := by decide +kernel
theorem dX7_keepMark_12 : decode cX7_keepMark 12 = .ok (.aload_n 0, 1) := by decide +kernel
theorem dX7_keepMark_13 : decode cX7_keepMark 13 = .ok (.getfield 16, 3) := by decide +kernel
theorem dX7_keepMark_16 : decode cX7_keepMark 16 = .ok (.iload 5, 2) := by decide +kernel
theorem dX7_keepMark_18 : decode cX7_keepMark 18 = .ok (.iload_n 2, 1) := by decide +kernel
theorem dX7_keepMark_19 : decode cX7_keepMark 19 = .ok (.iastore, 1) := by decide +kernel
theorem dX7_keepMark_20 : decode cX7_keepMark 20 = .ok (.aload_n 0, 1) := by decide +kernel
theorem dX7_keepMark_21 : decode cX7_keepMark 21 = .ok (.getfield 19, 3) := by decide +kernel
theorem dX7_keepMark_24 : decode cX7_keepMark 24 = .ok (.iload 5, 2) := by decide +kernel
theorem dX7_keepMark_26 : decode cX7_keepMark 26 = .ok (.iload_n 3, 1) := by decide +kernel
theorem dX7_keepMark_27 : decode cX7_keepMark 27 = .ok (.iastore, 1) := by decide +kernel
theorem dX7_keepMark_28 : decode cX7_keepMark 28 = .ok (.aload_n 0, 1) := by decide +kernel
theorem dX7_keepMark_29 : decode cX7_keepMark 29 = .ok (.getfield 22, 3) := by decide +kernel
theorem dX7_keepMark_32 : decode cX7_keepMark 32 = .ok (.iload 5, 2) := by decide +kernel
theorem dX7_keepMark_34 : decode cX7_keepMark 34 = .ok (.iload 4, 2) := by decide +kernel
theorem dX7_keepMark_36 : decode cX7_keepMark 36 = .ok (.iastore, 1) := by decide +kernel
theorem dX7_keepMark_37 : decode cX7_keepMark 37 = .ok (.aload_n 0, 1) := by decide +kernel
theorem dX7_keepMark_38 : decode cX7_keepMark 38 = .ok (.getfield 13, 3) := by decide +kernel
theorem dX7_keepMark_41 : decode cX7_keepMark 41 = .ok (.iload_n 1, 1) := by decide +kernel
theorem dX7_keepMark_42 : decode cX7_keepMark 42 = .ok (.dup2, 1) := by decide +kernel
theorem dX7_keepMark_43 : decode cX7_keepMark 43 = .ok (.iaload, 1) := by decide +kernel
theorem dX7_keepMark_44 : decode cX7_keepMark 44 = .ok (.iconst 1, 1) := by decide +kernel
theorem dX7_keepMark_45 : decode cX7_keepMark 45 = .ok (.iadd, 1) := by decide +kernel
theorem dX7_keepMark_46 : decode cX7_keepMark 46 = .ok (.iastore, 1) := by decide +kernel
theorem dX7_keepMark_47 : decode cX7_keepMark 47 = .ok (.return_, 1) := by decide +kernel
theorem dX7_mark_0 : decode cX7_mark 0 = .ok (.aload_n 0, 1) := by decide +kernel
theorem dX7_mark_1 : decode cX7_mark 1 = .ok (.iload_n 1, 1) := by decide +kernel
theorem dX7_mark_2 : decode cX7_mark 2 = .ok (.invokevirtual 163, 3) := by decide +kernel
theorem dX7_mark_5 : decode cX7_mark 5 = .ok (.ifCond .eq 26, 3) := by decide +kernel
theorem dX7_mark_8 : decode cX7_mark 8 = .ok (.iload 4, 2) := by decide +kernel
theorem dX7_mark_10 : decode cX7_mark 10 = .ok (.sipush (-1000), 3) := by decide +kernel
theorem dX7_mark_13 : decode cX7_mark 13 = .ok (.sipush 1000, 3) := by decide +kernel
theorem dX7_mark_16 : decode cX7_mark 16 = .ok (.invokestatic 104, 3) := by decide +kernel
theorem dX7_mark_19 : decode cX7_mark 19 = .ok (.ifCond .eq 12, 3) := by decide +kernel
theorem dX7_mark_22 : decode cX7_mark 22 = .ok (.iload_n 2, 1) := by decide +kernel
theorem dX7_mark_23 : decode cX7_mark 23 = .ok (.iload_n 3, 1) := by decide +kernel
theorem dX7_mark_24 : decode cX7_mark 24 = .ok (.if_icmp .eq 7, 3) := by decide +kernel
theorem dX7_mark_27 : decode cX7_mark 27 = .ok (.iconst 1, 1) := by decide +kernel
theorem dX7_mark_28 : decode cX7_mark 28 = .ok (.goto 4, 3) := by decide +kernel
theorem dX7_mark_31 : decode cX7_mark 31 = .ok (.iconst 0, 1) := by decide +kernel
theorem dX7_mark_32 : decode cX7_mark 32 = .ok (.istore 5, 2) := by decide +kernel
theorem dX7_mark_34 : decode cX7_mark 34 = .ok (.aload_n 0, 1) := by decide +kernel
theorem dX7_mark_35 : decode cX7_mark 35 = .ok (.iload 5, 2) := by decide +kernel
theorem dX7_mark_37 : decode cX7_mark 37 = .ok (.ifCond .eq 21, 3) := by decide +kernel
theorem dX7_mark_40 : decode cX7_mark 40 = .ok (.aload_n 0, 1) := by decide +kernel
theorem dX7_mark_41 : decode cX7_mark 41 = .ok (.iload_n 1, 1) := by decide +kernel
theorem dX7_mark_42 : decode cX7_mark 42 = .ok (.iload_n 2, 1) := by decide +kernel
theorem dX7_mark_43 : decode cX7_mark 43 = .ok (.invokevirtual 166, 3) := by decide +kernel
theorem dX7_mark_46 : decode cX7_mark 46 = .ok (.ifCond .eq 12, 3) := by decide +kernel
theorem dX7_mark_49 : decode cX7_mark 49 = .ok (.aload_n 0, 1) := by decide +kernel
theorem dX7_mark_50 : decode cX7_mark 50 = .ok (.iload_n 1, 1) := by decide +kernel
theorem dX7_mark_51 : decode cX7_mark 51 = .ok (.iload_n 3, 1) := by decide +kernel
theorem dX7_mark_52 : decode cX7_mark 52 = .ok (.invokevirtual 166, 3) := by decide +kernel
theorem dX7_mark_55 : decode cX7_mark 55 = .ok (.ifCond .ne 7, 3) := by decide +kernel
theorem dX7_mark_58 : decode cX7_mark 58 = .ok (.iconst 1, 1) := by decide +kernel
theorem dX7_mark_59 : decode cX7_mark 59 = .ok (.goto 4, 3) := by decide +kernel
theorem dX7_mark_62 : decode cX7_mark 62 = .ok (.iconst 0, 1) := by decide +kernel
theorem dX7_mark_63 : decode cX7_mark 63 = .ok (.putfield 98, 3) := by decide +kernel
theorem dX7_mark_66 : decode cX7_mark 66 = .ok (.aload_n 0, 1) := by decide +kernel
theorem dX7_mark_67 : decode cX7_mark 67 = .ok (.getfield 98, 3) := by decide +kernel
theorem dX7_mark_70 : decode cX7_mark 70 = .ok (.ifCond .le 5, 3) := by decide +kernel
theorem dX7_mark_73 : decode cX7_mark 73 = .ok (.iconst 0, 1) := by decide +kernel
theorem dX7_mark_74 : decode cX7_mark 74 = .ok (.ireturn, 1) := by decide +kernel
theorem dX7_mark_75 : decode cX7_mark 75 = .ok (.aload_n 0, 1) := by decide +kernel
theorem dX7_mark_76 : decode cX7_mark 76 = .ok (.getfield 13, 3) := by decide +kernel
theorem dX7_mark_79 : decode cX7_mark 79 = .ok (.iload_n 1, 1) := by decide +kernel
theorem dX7_mark_80 : decode cX7_mark 80 = .ok (.iaload, 1) := by decide +kernel
theorem dX7_mark_81 : decode cX7_mark 81 = .ok (.iconst 4, 1) := by decide +kernel
theorem dX7_mark_82 : decode cX7_mark 82 = .ok (.if_icmp .eq 15, 3) := by decide +kernel
theorem dX7_mark_85 : decode cX7_mark 85 = .ok (.aload_n 0, 1) := by decide +kernel
theorem dX7_mark_86 : decode cX7_mark 86 = .ok (.iload_n 1, 1) := by decide +kernel
theorem dX7_mark_87 : decode cX7_mark 87 = .ok (.iload_n 2, 1) := by decide +kernel
theorem dX7_mark_88 : decode cX7_mark 88 = .ok (.iload_n 3, 1) := by decide +kernel
theorem dX7_mark_89 : decode cX7_mark 89 = .ok (.iload 4, 2) := by decide +kernel
theorem dX7_mark_91 : decode cX7_mark 91 = .ok (.invokevirtual 169, 3) := by decide +kernel
theorem dX7_mark_94 : decode cX7_mark 94 = .ok (.ifCond .eq 9, 3) := by decide +kernel
theorem dX7_mark_97 : decode cX7_mark 97 = .ok (.aload_n 0, 1) := by decide +kernel
theorem dX7_mark_98 : decode cX7_mark 98 = .ok (.iconst 2, 1) := by decide +kernel
theorem dX7_mark_99 : decode cX7_mark 99 = .ok (.invokevirtual 172, 3) := by decide +kernel
theorem dX7_mark_102 : decode cX7_mark 102 = .ok (.ireturn, 1) := by decide +kernel
theorem dX7_mark_103 : decode cX7_mark 103 = .ok (.aload_n 0, 1) := by decide +kernel
theorem dX7_mark_104 : decode cX7_mark 104 = .ok (.iload_n 1, 1) := by decide +kernel
theorem dX7_mark_105 : decode cX7_mark 105 = .ok (.iload_n 2, 1) := by decide +kernel
theorem dX7_mark_106 : decode cX7_mark 106 = .ok (.iload_n 3, 1) := by decide +kernel
theorem dX7_mark_107 : decode cX7_mark 107 = .ok (.iload 4, 2) := by decide +kernel
theorem dX7_mark_109 : decode cX7_mark 109 = .ok (.invokevirtual 175, 3) := by decide +kernel
theorem dX7_mark_112 : decode cX7_mark 112 = .ok (.aload_n 0, 1) := by decide +kernel
theorem dX7_mark_113 : decode cX7_mark 113 = .ok (.aload_n 0, 1) := by decide +kernel
theorem dX7_mark_114 : decode cX7_mark 114 = .ok (.getfield 13, 3) := by decide +kernel
theorem dX7_mark_117 : decode cX7_mark 117 = .ok (.iload_n 1, 1) := by decide +kernel
theorem dX7_mark_118 : decode cX7_mark 118 = .ok (.iaload, 1) := by decide +kernel
theorem dX7_mark_119 : decode cX7_mark 119 = .ok (.iconst 1, 1) := by decide +kernel
theorem dX7_mark_120 : decode cX7_mark 120 = .ok (.isub, 1) := by decide +kernel
theorem dX7_mark_121 : decode cX7_mark 121 = .ok (.invokevirtual 160, 3) := by decide +kernel
theorem dX7_mark_124 : decode cX7_mark 124 = .ok (.ireturn, 1) := by decide +kernel
theorem dX7_areVariables_0 : decode cX7_areVariables 0 = .ok (.iload_n 2, 1) := by decide +kernel
theorem dX7_areVariables_1 : decode cX7_areVariables 1 = .ok (.iconst 0, 1) := by decide +kernel
theorem dX7_areVariables_2 : decode cX7_areVariables 2 = .ok (.iconst 4, 1) := by decide +kernel
theorem dX7_areVariables_3 : decode cX7_areVariables 3 = .ok (.invokestatic 104, 3) := by decide +kernel
theorem dX7_areVariables_6 : decode cX7_areVariables 6 = .ok (.ifCond .eq 26, 3) := by decide +kernel
theorem dX7_areVariables_9 : decode cX7_areVariables 9 = .ok (.aload_n 0, 1) := by decide +kernel
theorem dX7_areVariables_10 : decode cX7_areVariables 10 = .ok (.getfield 7, 3) := by decide +kernel
theorem dX7_areVariables_13 : decode cX7_areVariables 13 = .ok (.iload_n 1, 1) := by decide +kernel
theorem dX7_areVariables_14 : decode cX7_areVariables 14 = .ok (.iaload, 1) := by decide +kernel
theorem dX7_areVariables_15 : decode cX7_areVariables 15 = .ok (.iconst 1, 1) := by decide +kernel
theorem dX7_areVariables_16 : decode cX7_areVariables 16 = .ok (.if_icmp .eq 12, 3) := by decide +kernel
theorem dX7_areVariables_19 : decode cX7_areVariables 19 = .ok (.iload_n 3, 1) := by decide +kernel
theorem dX7_areVariables_20 : decode cX7_areVariables 20 = .ok (.iconst 0, 1) := by decide +kernel
theorem dX7_areVariables_21 : decode cX7_areVariables 21 = .ok (.iconst 4, 1) := by decide +kernel
theorem dX7_areVariables_22 : decode cX7_areVariables 22 = .ok (.invokestatic 104, 3) := by decide +kernel
theorem dX7_areVariables_25 : decode cX7_areVariables 25 = .ok (.ifCond .eq 7, 3) := by decide +kernel
theorem dX7_areVariables_28 : decode cX7_areVariables 28 = .ok (.iconst 1, 1) := by decide +kernel
theorem dX7_areVariables_29 : decode cX7_areVariables 29 = .ok (.goto 4, 3) := by decide +kernel
theorem dX7_areVariables_32 : decode cX7_areVariables 32 = .ok (.iconst 0, 1) := by decide +kernel
theorem dX7_areVariables_33 : decode cX7_areVariables 33 = .ok (.ireturn, 1) := by decide +kernel
theorem dX7_clause_0 : decode cX7_clause 0 = .ok (.aload_n 0, 1) := by decide +kernel
theorem dX7_clause_1 : decode cX7_clause 1 = .ok (.iload_n 1, 1) := by decide +kernel
theorem dX7_clause_2 : decode cX7_clause 2 = .ok (.iconst (-1), 1) := by decide +kernel
theorem dX7_clause_3 : decode cX7_clause 3 = .ok (.if_icmp .eq 21, 3) := by decide +kernel
theorem dX7_clause_6 : decode cX7_clause 6 = .ok (.aload_n 0, 1) := by decide +kernel
theorem dX7_clause_7 : decode cX7_clause 7 = .ok (.iload_n 1, 1) := by decide +kernel
theorem dX7_clause_8 : decode cX7_clause 8 = .ok (.invokevirtual 163, 3) := by decide +kernel
theorem dX7_clause_11 : decode cX7_clause 11 = .ok (.ifCond .eq 17, 3) := by decide +kernel
theorem dX7_clause_14 : decode cX7_clause 14 = .ok (.aload_n 0, 1) := by decide +kernel
theorem dX7_clause_15 : decode cX7_clause 15 = .ok (.iload_n 1, 1) := by decide +kernel
theorem dX7_clause_16 : decode cX7_clause 16 = .ok (.iload_n 2, 1) := by decide +kernel
theorem dX7_clause_17 : decode cX7_clause 17 = .ok (.iload_n 3, 1) := by decide +kernel
theorem dX7_clause_18 : decode cX7_clause 18 = .ok (.invokevirtual 179, 3) := by decide +kernel
theorem dX7_clause_21 : decode cX7_clause 21 = .ok (.ifCond .eq 7, 3) := by decide +kernel
theorem dX7_clause_24 : decode cX7_clause 24 = .ok (.iconst 0, 1) := by decide +kernel
theorem dX7_clause_25 : decode cX7_clause 25 = .ok (.goto 4, 3) := by decide +kernel
theorem dX7_clause_28 : decode cX7_clause 28 = .ok (.iconst 1, 1) := by decide +kernel
theorem dX7_clause_29 : decode cX7_clause 29 = .ok (.putfield 98, 3) := by decide +kernel
theorem dX7_clause_32 : decode cX7_clause 32 = .ok (.aload_n 0, 1) := by decide +kernel
theorem dX7_clause_33 : decode cX7_clause 33 = .ok (.getfield 98, 3) := by decide +kernel
theorem dX7_clause_36 : decode cX7_clause 36 = .ok (.ifCond .le 5, 3) := by decide +kernel
theorem dX7_clause_39 : decode cX7_clause 39 = .ok (.iconst 0, 1) := by decide +kernel
theorem dX7_clause_40 : decode cX7_clause 40 = .ok (.ireturn, 1) := by decide +kernel
theorem dX7_clause_41 : decode cX7_clause 41 = .ok (.aload_n 0, 1) := by decide +kernel
theorem dX7_clause_42 : decode cX7_clause 42 = .ok (.getfield 182, 3) := by decide +kernel
theorem dX7_clause_45 : decode cX7_clause 45 = .ok (.bipush 12, 2) := by decide +kernel
theorem dX7_clause_47 : decode cX7_clause 47 = .ok (.if_icmp .ne 9, 3) := by decide +kernel
theorem dX7_clause_50 : decode cX7_clause 50 = .ok (.aload_n 0, 1) := by decide +kernel
theorem dX7_clause_51 : decode cX7_clause 51 = .ok (.iconst 2, 1) := by decide +kernel
theorem dX7_clause_52 : decode cX7_clause 52 = .ok (.invokevirtual 172, 3) := by decide +kernel
theorem dX7_clause_55 : decode cX7_clause 55 = .ok (.ireturn, 1) := by decide +kernel
theorem dX7_clause_56 : decode cX7_clause 56 = .ok (.aload_n 0, 1) := by decide +kernel
theorem dX7_clause_57 : decode cX7_clause 57 = .ok (.getfield 25, 3) := by decide +kernel
theorem dX7_clause_60 : decode cX7_clause 60 = .ok (.aload_n 0, 1) := by decide +kernel
theorem dX7_clause_61 : decode cX7_clause 61 = .ok (.getfield 182, 3) := by decide +kernel
theorem dX7_clause_64 : decode cX7_clause 64 = .ok (.iload_n 1, 1) := by decide +kernel
theorem dX7_clause_65 : decode cX7_clause 65 = .ok (.iastore, 1) := by decide +kernel
theorem dX7_clause_66 : decode cX7_clause 66 = .ok (.aload_n 0, 1) := by decide +kernel
theorem dX7_clause_67 : decode cX7_clause 67 = .ok (.getfield 28, 3) := by decide +kernel
theorem dX7_clause_70 : decode cX7_clause 70 = .ok (.iconst 2, 1) := by decide +kernel
theorem dX7_clause_71 : decode cX7_clause 71 = .ok (.aload_n 0, 1) := by decide +kernel
theorem dX7_clause_72 : decode cX7_clause 72 = .ok (.getfield 182, 3) := by decide +kernel
theorem dX7_clause_75 : decode cX7_clause 75 = .ok (.imul, 1) := by decide +kernel
theorem dX7_clause_76 : decode cX7_clause 76 = .ok (.iload_n 1, 1) := by decide +kernel
theorem dX7_clause_77 : decode cX7_clause 77 = .ok (.ifCond .ge 7, 3) := by decide +kernel
theorem dX7_clause_80 : decode cX7_clause 80 = .ok (.iconst 0, 1) := by decide +kernel
theorem dX7_clause_81 : decode cX7_clause 81 = .ok (.goto 4, 3) := by decide +kernel
theorem dX7_clause_84 : decode cX7_clause 84 = .ok (.iload_n 2, 1) := by decide +kernel
theorem dX7_clause_85 : decode cX7_clause 85 = .ok (.iastore, 1) := by decide +kernel
theorem dX7_clause_86 : decode cX7_clause 86 = .ok (.aload_n 0, 1) := by decide +kernel
theorem dX7_clause_87 : decode cX7_clause 87 = .ok (.getfield 28, 3) := by decide +kernel
theorem dX7_clause_90 : decode cX7_clause 90 = .ok (.iconst 2, 1) := by decide +kernel
theorem dX7_clause_91 : decode cX7_clause 91 = .ok (.aload_n 0, 1) := by decide +kernel
theorem dX7_clause_92 : decode cX7_clause 92 = .ok (.getfield 182, 3) := by decide +kernel
theorem dX7_clause_95 : decode cX7_clause 95 = .ok (.imul, 1) := by decide +kernel
theorem dX7_clause_96 : decode cX7_clause 96 = .ok (.iconst 1, 1) := by decide +kernel
theorem dX7_clause_97 : decode cX7_clause 97 = .ok (.iadd, 1) := by decide +kernel
theorem dX7_clause_98 : decode cX7_clause 98 = .ok (.iload_n 1, 1) := by decide +kernel
theorem dX7_clause_99 : decode cX7_clause 99 = .ok (.ifCond .lt 13, 3) := by decide +kernel
theorem dX7_clause_102 : decode cX7_clause 102 = .ok (.aload_n 0, 1) := by decide +kernel
theorem dX7_clause_103 : decode cX7_clause 103 = .ok (.getfield 7, 3) := by decide +kernel
theorem dX7_clause_106 : decode cX7_clause 106 = .ok (.iload_n 1, 1) := by decide +kernel
theorem dX7_clause_107 : decode cX7_clause 107 = .ok (.iaload, 1) := by decide +kernel
theorem dX7_clause_108 : decode cX7_clause 108 = .ok (.iconst 1, 1) := by decide +kernel
theorem dX7_clause_109 : decode cX7_clause 109 = .ok (.if_icmp .ne 7, 3) := by decide +kernel
theorem dX7_clause_112 : decode cX7_clause 112 = .ok (.iconst 0, 1) := by decide +kernel
theorem dX7_clause_113 : decode cX7_clause 113 = .ok (.goto 4, 3) := by decide +kernel
theorem dX7_clause_116 : decode cX7_clause 116 = .ok (.iload_n 3, 1) := by decide +kernel
theorem dX7_clause_117 : decode cX7_clause 117 = .ok (.iastore, 1) := by decide +kernel
theorem dX7_clause_118 : decode cX7_clause 118 = .ok (.aload_n 0, 1) := by decide +kernel
theorem dX7_clause_119 : decode cX7_clause 119 = .ok (.getfield 31, 3) := by decide +kernel
theorem dX7_clause_122 : decode cX7_clause 122 = .ok (.aload_n 0, 1) := by decide +kernel
theorem dX7_clause_123 : decode cX7_clause 123 = .ok (.getfield 182, 3) := by decide +kernel
theorem dX7_clause_126 : decode cX7_clause 126 = .ok (.iconst 0, 1) := by decide +kernel
theorem dX7_clause_127 : decode cX7_clause 127 = .ok (.iastore, 1) := by decide +kernel
theorem dX7_clause_128 : decode cX7_clause 128 = .ok (.aload_n 0, 1) := by decide +kernel
theorem dX7_clause_129 : decode cX7_clause 129 = .ok (.getfield 40, 3) := by decide +kernel
theorem dX7_clause_132 : decode cX7_clause 132 = .ok (.aload_n 0, 1) := by decide +kernel
theorem dX7_clause_133 : decode cX7_clause 133 = .ok (.getfield 182, 3) := by decide +kernel
theorem dX7_clause_136 : decode cX7_clause 136 = .ok (.iconst 0, 1) := by decide +kernel
theorem dX7_clause_137 : decode cX7_clause 137 = .ok (.iastore, 1) := by decide +kernel
theorem dX7_clause_138 : decode cX7_clause 138 = .ok (.aload_n 0, 1) := by decide +kernel
theorem dX7_clause_139 : decode cX7_clause 139 = .ok (.dup, 1) := by decide +kernel
theorem dX7_clause_140 : decode cX7_clause 140 = .ok (.getfield 182, 3) := by decide +kernel
theorem dX7_clause_143 : decode cX7_clause 143 = .ok (.iconst 1, 1) := by decide +kernel
theorem dX7_clause_144 : decode cX7_clause 144 = .ok (.iadd, 1) := by decide +kernel
theorem dX7_clause_145 : decode cX7_clause 145 = .ok (.putfield 182, 3) := by decide +kernel
theorem dX7_clause_148 : decode cX7_clause 148 = .ok (.aload_n 0, 1) := by decide +kernel
theorem dX7_clause_149 : decode cX7_clause 149 = .ok (.aload_n 0, 1) := by decide +kernel
theorem dX7_clause_150 : decode cX7_clause 150 = .ok (.getfield 182, 3) := by decide +kernel
theorem dX7_clause_153 : decode cX7_clause 153 = .ok (.iconst 1, 1) := by decide +kernel
theorem dX7_clause_154 : decode cX7_clause 154 = .ok (.isub, 1) := by decide +kernel
theorem dX7_clause_155 : decode cX7_clause 155 = .ok (.invokevirtual 160, 3) := by decide +kernel
theorem dX7_clause_158 : decode cX7_clause 158 = .ok (.ireturn, 1) := by decide +kernel
theorem dX7_atom_0 : decode cX7_atom 0 = .ok (.aload_n 0, 1) := by decide +kernel
theorem dX7_atom_1 : decode cX7_atom 1 = .ok (.aload_n 0, 1) := by decide +kernel
theorem dX7_atom_2 : decode cX7_atom 2 = .ok (.iload_n 1, 1) := by decide +kernel
theorem dX7_atom_3 : decode cX7_atom 3 = .ok (.invokevirtual 163, 3) := by decide +kernel
theorem dX7_atom_6 : decode cX7_atom 6 = .ok (.ifCond .eq 17, 3) := by decide +kernel
theorem dX7_atom_9 : decode cX7_atom 9 = .ok (.aload_n 0, 1) := by decide +kernel
theorem dX7_atom_10 : decode cX7_atom 10 = .ok (.iload_n 1, 1) := by decide +kernel
theorem dX7_atom_11 : decode cX7_atom 11 = .ok (.iload_n 2, 1) := by decide +kernel
theorem dX7_atom_12 : decode cX7_atom 12 = .ok (.iload_n 3, 1) := by decide +kernel
theorem dX7_atom_13 : decode cX7_atom 13 = .ok (.invokevirtual 179, 3) := by decide +kernel
theorem dX7_atom_16 : decode cX7_atom 16 = .ok (.ifCond .eq 7, 3) := by decide +kernel
theorem dX7_atom_19 : decode cX7_atom 19 = .ok (.iconst 0, 1) := by decide +kernel
theorem dX7_atom_20 : decode cX7_atom 20 = .ok (.goto 4, 3) := by decide +kernel
theorem dX7_atom_23 : decode cX7_atom 23 = .ok (.iconst 1, 1) := by decide +kernel
theorem dX7_atom_24 : decode cX7_atom 24 = .ok (.putfield 98, 3) := by decide +kernel
theorem dX7_atom_27 : decode cX7_atom 27 = .ok (.aload_n 0, 1) := by decide +kernel
theorem dX7_atom_28 : decode cX7_atom 28 = .ok (.getfield 98, 3) := by decide +kernel
theorem dX7_atom_31 : decode cX7_atom 31 = .ok (.ifCond .le 5, 3) := by decide +kernel
theorem dX7_atom_34 : decode cX7_atom 34 = .ok (.iconst 0, 1) := by decide +kernel
theorem dX7_atom_35 : decode cX7_atom 35 = .ok (.ireturn, 1) := by decide +kernel
theorem dX7_atom_36 : decode cX7_atom 36 = .ok (.aload_n 0, 1) := by decide +kernel
theorem dX7_atom_37 : decode cX7_atom 37 = .ok (.getfield 182, 3) := by decide +kernel
theorem dX7_atom_40 : decode cX7_atom 40 = .ok (.ifCond .eq 18, 3) := by decide +kernel
theorem dX7_atom_43 : decode cX7_atom 43 = .ok (.aload_n 0, 1) := by decide +kernel
theorem dX7_atom_44 : decode cX7_atom 44 = .ok (.getfield 31, 3) := by decide +kernel
theorem dX7_atom_47 : decode cX7_atom 47 = .ok (.aload_n 0, 1) := by decide +kernel
theorem dX7_atom_48 : decode cX7_atom 48 = .ok (.getfield 182, 3) := by decide +kernel
theorem dX7_atom_51 : decode cX7_atom 51 = .ok (.iconst 1, 1) := by decide +kernel
theorem dX7_atom_52 : decode cX7_atom 52 = .ok (.isub, 1) := by decide +kernel
theorem dX7_atom_53 : decode cX7_atom 53 = .ok (.iaload, 1) := by decide +kernel
theorem dX7_atom_54 : decode cX7_atom 54 = .ok (.iconst 2, 1) := by decide +kernel
theorem dX7_atom_55 : decode cX7_atom 55 = .ok (.if_icmp .ne 9, 3) := by decide +kernel
theorem dX7_atom_58 : decode cX7_atom 58 = .ok (.aload_n 0, 1) := by decide +kernel
theorem dX7_atom_59 : decode cX7_atom 59 = .ok (.iconst 2, 1) := by decide +kernel
theorem dX7_atom_60 : decode cX7_atom 60 = .ok (.invokevirtual 172, 3) := by decide +kernel
theorem dX7_atom_63 : decode cX7_atom 63 = .ok (.ireturn, 1) := by decide +kernel
theorem dX7_atom_64 : decode cX7_atom 64 = .ok (.aload_n 0, 1) := by decide +kernel
theorem dX7_atom_65 : decode cX7_atom 65 = .ok (.getfield 182, 3) := by decide +kernel
theorem dX7_atom_68 : decode cX7_atom 68 = .ok (.iconst 1, 1) := by decide +kernel
theorem dX7_atom_69 : decode cX7_atom 69 = .ok (.isub, 1) := by decide +kernel
theorem dX7_atom_70 : decode cX7_atom 70 = .ok (.istore 4, 2) := by decide +kernel
theorem dX7_atom_72 : decode cX7_atom 72 = .ok (.iconst 2, 1) := by decide +kernel
theorem dX7_atom_73 : decode cX7_atom 73 = .ok (.iload 4, 2) := by decide +kernel
theorem dX7_atom_75 : decode cX7_atom 75 = .ok (.imul, 1) := by decide +kernel
theorem dX7_atom_76 : decode cX7_atom 76 = .ok (.aload_n 0, 1) := by decide +kernel
theorem dX7_atom_77 : decode cX7_atom 77 = .ok (.getfield 31, 3) := by decide +kernel
theorem dX7_atom_80 : decode cX7_atom 80 = .ok (.iload 4, 2) := by decide +kernel
theorem dX7_atom_82 : decode cX7_atom 82 = .ok (.iaload, 1) := by decide +kernel
theorem dX7_atom_83 : decode cX7_atom 83 = .ok (.iadd, 1) := by decide +kernel
theorem dX7_atom_84 : decode cX7_atom 84 = .ok (.istore 5, 2) := by decide +kernel
theorem dX7_atom_86 : decode cX7_atom 86 = .ok (.aload_n 0, 1) := by decide +kernel
theorem dX7_atom_87 : decode cX7_atom 87 = .ok (.getfield 34, 3) := by decide +kernel
theorem dX7_atom_90 : decode cX7_atom 90 = .ok (.iload 5, 2) := by decide +kernel
theorem dX7_atom_92 : decode cX7_atom 92 = .ok (.iload_n 1, 1) := by decide +kernel
theorem dX7_atom_93 : decode cX7_atom 93 = .ok (.iastore, 1) := by decide +kernel
theorem dX7_atom_94 : decode cX7_atom 94 = .ok (.aload_n 0, 1) := by decide +kernel
theorem dX7_atom_95 : decode cX7_atom 95 = .ok (.getfield 37, 3) := by decide +kernel
theorem dX7_atom_98 : decode cX7_atom 98 = .ok (.iconst 2, 1) := by decide +kernel
theorem dX7_atom_99 : decode cX7_atom 99 = .ok (.iload 5, 2) := by decide +kernel
theorem dX7_atom_101 : decode cX7_atom 101 = .ok (.imul, 1) := by decide +kernel
theorem dX7_atom_102 : decode cX7_atom 102 = .ok (.iload_n 2, 1) := by decide +kernel
theorem dX7_atom_103 : decode cX7_atom 103 = .ok (.iastore, 1) := by decide +kernel
theorem dX7_atom_104 : decode cX7_atom 104 = .ok (.aload_n 0, 1) := by decide +kernel
theorem dX7_atom_105 : decode cX7_atom 105 = .ok (.getfield 37, 3) := by decide +kernel
theorem dX7_atom_108 : decode cX7_atom 108 = .ok (.iconst 2, 1) := by decide +kernel
theorem dX7_atom_109 : decode cX7_atom 109 = .ok (.iload 5, 2) := by decide +kernel
theorem dX7_atom_111 : decode cX7_atom 111 = .ok (.imul, 1) := by decide +kernel
theorem dX7_atom_112 : decode cX7_atom 112 = .ok (.iconst 1, 1) := by decide +kernel
theorem dX7_atom_113 : decode cX7_atom 113 = .ok (.iadd, 1) := by decide +kernel
theorem dX7_atom_114 : decode cX7_atom 114 = .ok (.aload_n 0, 1) := by decide +kernel
theorem dX7_atom_115 : decode cX7_atom 115 = .ok (.getfield 7, 3) := by decide +kernel
theorem dX7_atom_118 : decode cX7_atom 118 = .ok (.iload_n 1, 1) := by decide +kernel
theorem dX7_atom_119 : decode cX7_atom 119 = .ok (.iaload, 1) := by decide +kernel
theorem dX7_atom_120 : decode cX7_atom 120 = .ok (.iconst 1, 1) := by decide +kernel
theorem dX7_atom_121 : decode cX7_atom 121 = .ok (.if_icmp .ne 7, 3) := by decide +kernel
theorem dX7_atom_124 : decode cX7_atom 124 = .ok (.iconst 0, 1) := by decide +kernel
theorem dX7_atom_125 : decode cX7_atom 125 = .ok (.goto 4, 3) := by decide +kernel
theorem dX7_atom_128 : decode cX7_atom 128 = .ok (.iload_n 3, 1) := by decide +kernel
theorem dX7_atom_129 : decode cX7_atom 129 = .ok (.iastore, 1) := by decide +kernel
theorem dX7_atom_130 : decode cX7_atom 130 = .ok (.aload_n 0, 1) := by decide +kernel
theorem dX7_atom_131 : decode cX7_atom 131 = .ok (.getfield 31, 3) := by decide +kernel
theorem dX7_atom_134 : decode cX7_atom 134 = .ok (.iload 4, 2) := by decide +kernel
theorem dX7_atom_136 : decode cX7_atom 136 = .ok (.dup2, 1) := by decide +kernel
theorem dX7_atom_137 : decode cX7_atom 137 = .ok (.iaload, 1) := by decide +kernel
theorem dX7_atom_138 : decode cX7_atom 138 = .ok (.iconst 1, 1) := by decide +kernel
theorem dX7_atom_139 : decode cX7_atom 139 = .ok (.iadd, 1) := by decide +kernel
theorem dX7_atom_140 : decode cX7_atom 140 = .ok (.iastore, 1) := by decide +kernel
theorem dX7_atom_141 : decode cX7_atom 141 = .ok (.aload_n 0, 1) := by decide +kernel
theorem dX7_atom_142 : decode cX7_atom 142 = .ok (.aload_n 0, 1) := by decide +kernel
theorem dX7_atom_143 : decode cX7_atom 143 = .ok (.getfield 31, 3) := by decide +kernel
theorem dX7_atom_146 : decode cX7_atom 146 = .ok (.iload 4, 2) := by decide +kernel
theorem dX7_atom_148 : decode cX7_atom 148 = .ok (.iaload, 1) := by decide +kernel
theorem dX7_atom_149 : decode cX7_atom 149 = .ok (.iconst 1, 1) := by decide +kernel
theorem dX7_atom_150 : decode cX7_atom 150 = .ok (.isub, 1) := by decide +kernel
theorem dX7_atom_151 : decode cX7_atom 151 = .ok (.invokevirtual 160, 3) := by decide +kernel
theorem dX7_atom_154 : decode cX7_atom 154 = .ok (.ireturn, 1) := by decide +kernel
theorem dX7_bound_0 : decode cX7_bound 0 = .ok (.aload_n 0, 1) := by decide +kernel
theorem dX7_bound_1 : decode cX7_bound 1 = .ok (.iload_n 1, 1) := by decide +kernel
theorem dX7_bound_2 : decode cX7_bound 2 = .ok (.iconst 0, 1) := by decide +kernel
theorem dX7_bound_3 : decode cX7_bound 3 = .ok (.iconst 5, 1) := by decide +kernel
theorem dX7_bound_4 : decode cX7_bound 4 = .ok (.invokestatic 104, 3) := by decide +kernel
theorem dX7_bound_7 : decode cX7_bound 7 = .ok (.ifCond .eq 34, 3) := by decide +kernel
theorem dX7_bound_10 : decode cX7_bound 10 = .ok (.iload_n 2, 1) := by decide +kernel
theorem dX7_bound_11 : decode cX7_bound 11 = .ok (.iconst 0, 1) := by decide +kernel
theorem dX7_bound_12 : decode cX7_bound 12 = .ok (.iconst 5, 1) := by decide +kernel
theorem dX7_bound_13 : decode cX7_bound 13 = .ok (.invokestatic 104, 3) := by decide +kernel
theorem dX7_bound_16 : decode cX7_bound 16 = .ok (.ifCond .eq 25, 3) := by decide +kernel
theorem dX7_bound_19 : decode cX7_bound 19 = .ok (.iload_n 1, 1) := by decide +kernel
theorem dX7_bound_20 : decode cX7_bound 20 = .ok (.iload_n 2, 1) := by decide +kernel
theorem dX7_bound_21 : decode cX7_bound 21 = .ok (.if_icmp .eq 20, 3) := by decide +kernel
theorem dX7_bound_24 : decode cX7_bound 24 = .ok (.iload_n 3, 1) := by decide +kernel
theorem dX7_bound_25 : decode cX7_bound 25 = .ok (.sipush (-1000), 3) := by decide +kernel
theorem dX7_bound_28 : decode cX7_bound 28 = .ok (.sipush 1000, 3) := by decide +kernel
theorem dX7_bound_31 : decode cX7_bound 31 = .ok (.invokestatic 104, 3) := by decide +kernel
theorem dX7_bound_34 : decode cX7_bound 34 = .ok (.ifCond .eq 7, 3) := by decide +kernel
theorem dX7_bound_37 : decode cX7_bound 37 = .ok (.iconst 0, 1) := by decide +kernel
theorem dX7_bound_38 : decode cX7_bound 38 = .ok (.goto 4, 3) := by decide +kernel
theorem dX7_bound_41 : decode cX7_bound 41 = .ok (.iconst 1, 1) := by decide +kernel
theorem dX7_bound_42 : decode cX7_bound 42 = .ok (.putfield 98, 3) := by decide +kernel
theorem dX7_bound_45 : decode cX7_bound 45 = .ok (.aload_n 0, 1) := by decide +kernel
theorem dX7_bound_46 : decode cX7_bound 46 = .ok (.getfield 98, 3) := by decide +kernel
theorem dX7_bound_49 : decode cX7_bound 49 = .ok (.ifCond .le 5, 3) := by decide +kernel
theorem dX7_bound_52 : decode cX7_bound 52 = .ok (.iconst 0, 1) := by decide +kernel
theorem dX7_bound_53 : decode cX7_bound 53 = .ok (.ireturn, 1) := by decide +kernel
theorem dX7_bound_54 : decode cX7_bound 54 = .ok (.aload_n 0, 1) := by decide +kernel
theorem dX7_bound_55 : decode cX7_bound 55 = .ok (.getfield 182, 3) := by decide +kernel
theorem dX7_bound_58 : decode cX7_bound 58 = .ok (.ifCond .eq 19, 3) := by decide +kernel
theorem dX7_bound_61 : decode cX7_bound 61 = .ok (.aload_n 0, 1) := by decide +kernel
theorem dX7_bound_62 : decode cX7_bound 62 = .ok (.getfield 40, 3) := by decide +kernel
theorem dX7_bound_65 : decode cX7_bound 65 = .ok (.aload_n 0, 1) := by decide +kernel
theorem dX7_bound_66 : decode cX7_bound 66 = .ok (.getfield 182, 3) := by decide +kernel
theorem dX7_bound_69 : decode cX7_bound 69 = .ok (.iconst 1, 1) := by decide +kernel
theorem dX7_bound_70 : decode cX7_bound 70 = .ok (.isub, 1) := by decide +kernel
theorem dX7_bound_71 : decode cX7_bound 71 = .ok (.iaload, 1) := by decide +kernel
theorem dX7_bound_72 : decode cX7_bound 72 = .ok (.bipush 8, 2) := by decide +kernel
theorem dX7_bound_74 : decode cX7_bound 74 = .ok (.if_icmp .ne 9, 3) := by decide +kernel
theorem dX7_bound_77 : decode cX7_bound 77 = .ok (.aload_n 0, 1) := by decide +kernel
theorem dX7_bound_78 : decode cX7_bound 78 = .ok (.iconst 2, 1) := by decide +kernel
theorem dX7_bound_79 : decode cX7_bound 79 = .ok (.invokevirtual 172, 3) := by decide +kernel
theorem dX7_bound_82 : decode cX7_bound 82 = .ok (.ireturn, 1) := by decide +kernel
theorem dX7_bound_83 : decode cX7_bound 83 = .ok (.bipush 8, 2) := by decide +kernel
theorem dX7_bound_85 : decode cX7_bound 85 = .ok (.aload_n 0, 1) := by decide +kernel
theorem dX7_bound_86 : decode cX7_bound 86 = .ok (.getfield 182, 3) := by decide +kernel
theorem dX7_bound_89 : decode cX7_bound 89 = .ok (.iconst 1, 1) := by decide +kernel
theorem dX7_bound_90 : decode cX7_bound 90 = .ok (.isub, 1) := by decide +kernel
theorem dX7_bound_91 : decode cX7_bound 91 = .ok (.imul, 1) := by decide +kernel
theorem dX7_bound_92 : decode cX7_bound 92 = .ok (.aload_n 0, 1) := by decide +kernel
theorem dX7_bound_93 : decode cX7_bound 93 = .ok (.getfield 40, 3) := by decide +kernel
theorem dX7_bound_96 : decode cX7_bound 96 = .ok (.aload_n 0, 1) := by decide +kernel
theorem dX7_bound_97 : decode cX7_bound 97 = .ok (.getfield 182, 3) := by decide +kernel
theorem dX7_bound_100 : decode cX7_bound 100 = .ok (.iconst 1, 1) := by decide +kernel
theorem dX7_bound_101 : decode cX7_bound 101 = .ok (.isub, 1) := by decide +kernel
theorem dX7_bound_102 : decode cX7_bound 102 = .ok (.iaload, 1) := by decide +kernel
theorem dX7_bound_103 : decode cX7_bound 103 = .ok (.iadd, 1) := by decide +kernel
theorem dX7_bound_104 : decode cX7_bound 104 = .ok (.istore 4, 2) := by decide +kernel
theorem dX7_bound_106 : decode cX7_bound 106 = .ok (.aload_n 0, 1) := by decide +kernel
theorem dX7_bound_107 : decode cX7_bound 107 = .ok (.getfield 43, 3) := by decide +kernel
theorem dX7_bound_110 : decode cX7_bound 110 = .ok (.iload 4, 2) := by decide +kernel
theorem dX7_bound_112 : decode cX7_bound 112 = .ok (.iload_n 1, 1) := by decide +kernel
theorem dX7_bound_113 : decode cX7_bound 113 = .ok (.iastore, 1) := by decide +kernel
theorem dX7_bound_114 : decode cX7_bound 114 = .ok (.aload_n 0, 1) := by decide +kernel
theorem dX7_bound_115 : decode cX7_bound 115 = .ok (.getfield 46, 3) := by decide +kernel
theorem dX7_bound_118 : decode cX7_bound 118 = .ok (.iload 4, 2) := by decide +kernel
theorem dX7_bound_120 : decode cX7_bound 120 = .ok (.iload_n 2, 1) := by decide +kernel
theorem dX7_bound_121 : decode cX7_bound 121 = .ok (.iastore, 1) := by decide +kernel
theorem dX7_bound_122 : decode cX7_bound 122 = .ok (.aload_n 0, 1) := by decide +kernel
theorem dX7_bound_123 : decode cX7_bound 123 = .ok (.getfield 49, 3) := by decide +kernel
theorem dX7_bound_126 : decode cX7_bound 126 = .ok (.iload 4, 2) := by decide +kernel
theorem dX7_bound_128 : decode cX7_bound 128 = .ok (.iload_n 3, 1) := by decide +kernel
theorem dX7_bound_129 : decode cX7_bound 129 = .ok (.iastore, 1) := by decide +kernel
theorem dX7_bound_130 : decode cX7_bound 130 = .ok (.aload_n 0, 1) := by decide +kernel
theorem dX7_bound_131 : decode cX7_bound 131 = .ok (.getfield 40, 3) := by decide +kernel
theorem dX7_bound_134 : decode cX7_bound 134 = .ok (.aload_n 0, 1) := by decide +kernel
theorem dX7_bound_135 : decode cX7_bound 135 = .ok (.getfield 182, 3) := by decide +kernel
theorem dX7_bound_138 : decode cX7_bound 138 = .ok (.iconst 1, 1) := by decide +kernel
theorem dX7_bound_139 : decode cX7_bound 139 = .ok (.isub, 1) := by decide +kernel
theorem dX7_bound_140 : decode cX7_bound 140 = .ok (.dup2, 1) := by decide +kernel
theorem dX7_bound_141 : decode cX7_bound 141 = .ok (.iaload, 1) := by decide +kernel
theorem dX7_bound_142 : decode cX7_bound 142 = .ok (.iconst 1, 1) := by decide +kernel
theorem dX7_bound_143 : decode cX7_bound 143 = .ok (.iadd, 1) := by decide +kernel
theorem dX7_bound_144 : decode cX7_bound 144 = .ok (.iastore, 1) := by decide +kernel
theorem dX7_bound_145 : decode cX7_bound 145 = .ok (.aload_n 0, 1) := by decide +kernel
theorem dX7_bound_146 : decode cX7_bound 146 = .ok (.aload_n 0, 1) := by decide +kernel
theorem dX7_bound_147 : decode cX7_bound 147 = .ok (.getfield 40, 3) := by decide +kernel
theorem dX7_bound_150 : decode cX7_bound 150 = .ok (.aload_n 0, 1) := by decide +kernel
theorem dX7_bound_151 : decode cX7_bound 151 = .ok (.getfield 182, 3) := by decide +kernel
theorem dX7_bound_154 : decode cX7_bound 154 = .ok (.iconst 1, 1) := by decide +kernel
theorem dX7_bound_155 : decode cX7_bound 155 = .ok (.isub, 1) := by decide +kernel
theorem dX7_bound_156 : decode cX7_bound 156 = .ok (.iaload, 1) := by decide +kernel
theorem dX7_bound_157 : decode cX7_bound 157 = .ok (.invokevirtual 160, 3) := by decide +kernel
theorem dX7_bound_160 : decode cX7_bound 160 = .ok (.ireturn, 1) := by decide +kernel
theorem dX7_start_0 : decode cX7_start 0 = .ok (.aload_n 0, 1) := by decide +kernel
theorem dX7_start_1 : decode cX7_start 1 = .ok (.iconst 0, 1) := by decide +kernel
theorem dX7_start_2 : decode cX7_start 2 = .ok (.putfield 98, 3) := by decide +kernel
theorem dX7_start_5 : decode cX7_start 5 = .ok (.aload_n 0, 1) := by decide +kernel
theorem dX7_start_6 : decode cX7_start 6 = .ok (.iconst 0, 1) := by decide +kernel
theorem dX7_start_7 : decode cX7_start 7 = .ok (.invokevirtual 160, 3) := by decide +kernel
theorem dX7_start_10 : decode cX7_start 10 = .ok (.pop, 1) := by decide +kernel
theorem dX7_start_11 : decode cX7_start 11 = .ok (.return_, 1) := by decide +kernel
theorem dX7_round_0 : decode cX7_round 0 = .ok (.aload_n 0, 1) := by decide +kernel
theorem dX7_round_1 : decode cX7_round 1 = .ok (.aload_n 0, 1) := by decide +kernel
theorem dX7_round_2 : decode cX7_round 2 = .ok (.getfield 157, 3) := by decide +kernel
theorem dX7_round_5 : decode cX7_round 5 = .ok (.ifCond .gt 10, 3) := by decide +kernel
theorem dX7_round_8 : decode cX7_round 8 = .ok (.aload_n 0, 1) := by decide +kernel
theorem dX7_round_9 : decode cX7_round 9 = .ok (.getfield 61, 3) := by decide +kernel
theorem dX7_round_12 : decode cX7_round 12 = .ok (.ifCond .lt 7, 3) := by decide +kernel
theorem dX7_round_15 : decode cX7_round 15 = .ok (.iconst 1, 1) := by decide +kernel
theorem dX7_round_16 : decode cX7_round 16 = .ok (.goto 4, 3) := by decide +kernel
theorem dX7_round_19 : decode cX7_round 19 = .ok (.iconst 0, 1) := by decide +kernel
theorem dX7_round_20 : decode cX7_round 20 = .ok (.putfield 98, 3) := by decide +kernel
theorem dX7_round_23 : decode cX7_round 23 = .ok (.aload_n 0, 1) := by decide +kernel
theorem dX7_round_24 : decode cX7_round 24 = .ok (.getfield 98, 3) := by decide +kernel
theorem dX7_round_27 : decode cX7_round 27 = .ok (.ifCond .le 5, 3) := by decide +kernel
theorem dX7_round_30 : decode cX7_round 30 = .ok (.iconst 0, 1) := by decide +kernel
theorem dX7_round_31 : decode cX7_round 31 = .ok (.ireturn, 1) := by decide +kernel
theorem dX7_round_32 : decode cX7_round 32 = .ok (.aload_n 0, 1) := by decide +kernel
theorem dX7_round_33 : decode cX7_round 33 = .ok (.invokevirtual 185, 3) := by decide +kernel
theorem dX7_round_36 : decode cX7_round 36 = .ok (.ireturn, 1) := by decide +kernel
theorem dX7_next_0 : decode cX7_next 0 = .ok (.aload_n 0, 1) := by decide +kernel
theorem dX7_next_1 : decode cX7_next 1 = .ok (.dup, 1) := by decide +kernel
theorem dX7_next_2 : decode cX7_next 2 = .ok (.getfield 148, 3) := by decide +kernel
theorem dX7_next_5 : decode cX7_next 5 = .ok (.iconst 1, 1) := by decide +kernel
theorem dX7_next_6 : decode cX7_next 6 = .ok (.iadd, 1) := by decide +kernel
theorem dX7_next_7 : decode cX7_next 7 = .ok (.putfield 148, 3) := by decide +kernel
theorem dX7_next_10 : decode cX7_next 10 = .ok (.iconst 0, 1) := by decide +kernel
theorem dX7_next_11 : decode cX7_next 11 = .ok (.istore_n 1, 1) := by decide +kernel
theorem dX7_next_12 : decode cX7_next 12 = .ok (.iload_n 1, 1) := by decide +kernel
theorem dX7_next_13 : decode cX7_next 13 = .ok (.aload_n 0, 1) := by decide +kernel
theorem dX7_next_14 : decode cX7_next 14 = .ok (.getfield 182, 3) := by decide +kernel
theorem dX7_next_17 : decode cX7_next 17 = .ok (.if_icmp .ge 58, 3) := by decide +kernel
theorem dX7_next_20 : decode cX7_next 20 = .ok (.aload_n 0, 1) := by decide +kernel
theorem dX7_next_21 : decode cX7_next 21 = .ok (.getfield 25, 3) := by decide +kernel
theorem dX7_next_24 : decode cX7_next 24 = .ok (.iload_n 1, 1) := by decide +kernel
theorem dX7_next_25 : decode cX7_next 25 = .ok (.iaload, 1) := by decide +kernel
theorem dX7_next_26 : decode cX7_next 26 = .ok (.ifCond .ge 43, 3) := by decide +kernel
theorem dX7_next_29 : decode cX7_next 29 = .ok (.aload_n 0, 1) := by decide +kernel
theorem dX7_next_30 : decode cX7_next 30 = .ok (.iload_n 1, 1) := by decide +kernel
theorem dX7_next_31 : decode cX7_next 31 = .ok (.iconst (-1), 1) := by decide +kernel
theorem dX7_next_32 : decode cX7_next 32 = .ok (.invokevirtual 189, 3) := by decide +kernel
theorem dX7_next_35 : decode cX7_next 35 = .ok (.ifCond .eq 34, 3) := by decide +kernel
theorem dX7_next_38 : decode cX7_next 38 = .ok (.aload_n 0, 1) := by decide +kernel
theorem dX7_next_39 : decode cX7_next 39 = .ok (.iload_n 1, 1) := by decide +kernel
theorem dX7_next_40 : decode cX7_next 40 = .ok (.putfield 61, 3) := by decide +kernel
theorem dX7_next_43 : decode cX7_next 43 = .ok (.aload_n 0, 1) := by decide +kernel
theorem dX7_next_44 : decode cX7_next 44 = .ok (.getfield 65, 3) := by decide +kernel
theorem dX7_next_47 : decode cX7_next 47 = .ok (.iconst 0, 1) := by decide +kernel
theorem dX7_next_48 : decode cX7_next 48 = .ok (.aload_n 0, 1) := by decide +kernel
theorem dX7_next_49 : decode cX7_next 49 = .ok (.getfield 142, 3) := by decide +kernel
theorem dX7_next_52 : decode cX7_next 52 = .ok (.iastore, 1) := by decide +kernel
theorem dX7_next_53 : decode cX7_next 53 = .ok (.aload_n 0, 1) := by decide +kernel
theorem dX7_next_54 : decode cX7_next 54 = .ok (.getfield 65, 3) := by decide +kernel
theorem dX7_next_57 : decode cX7_next 57 = .ok (.iconst 1, 1) := by decide +kernel
theorem dX7_next_58 : decode cX7_next 58 = .ok (.aload_n 0, 1) := by decide +kernel
theorem dX7_next_59 : decode cX7_next 59 = .ok (.getfield 145, 3) := by decide +kernel
theorem dX7_next_62 : decode cX7_next 62 = .ok (.iastore, 1) := by decide +kernel
theorem dX7_next_63 : decode cX7_next 63 = .ok (.aload_n 0, 1) := by decide +kernel
theorem dX7_next_64 : decode cX7_next 64 = .ok (.invokevirtual 192, 3) := by decide +kernel
theorem dX7_next_67 : decode cX7_next 67 = .ok (.iconst 0, 1) := by decide +kernel
theorem dX7_next_68 : decode cX7_next 68 = .ok (.ireturn, 1) := by decide +kernel
theorem dX7_next_69 : decode cX7_next 69 = .ok (.iinc 1 1, 3) := by decide +kernel
theorem dX7_next_72 : decode cX7_next 72 = .ok (.goto (-60), 3) := by decide +kernel
theorem dX7_next_75 : decode cX7_next 75 = .ok (.iconst 0, 1) := by decide +kernel
theorem dX7_next_76 : decode cX7_next 76 = .ok (.istore_n 1, 1) := by decide +kernel
theorem dX7_next_77 : decode cX7_next 77 = .ok (.iconst 0, 1) := by decide +kernel
theorem dX7_next_78 : decode cX7_next 78 = .ok (.istore_n 2, 1) := by decide +kernel
theorem dX7_next_79 : decode cX7_next 79 = .ok (.iload_n 2, 1) := by decide +kernel
theorem dX7_next_80 : decode cX7_next 80 = .ok (.bipush 16, 2) := by decide +kernel
theorem dX7_next_82 : decode cX7_next 82 = .ok (.aload_n 0, 1) := by decide +kernel
theorem dX7_next_83 : decode cX7_next 83 = .ok (.getfield 101, 3) := by decide +kernel
theorem dX7_next_86 : decode cX7_next 86 = .ok (.imul, 1) := by decide +kernel
theorem dX7_next_87 : decode cX7_next 87 = .ok (.if_icmp .ge 44, 3) := by decide +kernel
theorem dX7_next_90 : decode cX7_next 90 = .ok (.iload_n 2, 1) := by decide +kernel
theorem dX7_next_91 : decode cX7_next 91 = .ok (.bipush 16, 2) := by decide +kernel
theorem dX7_next_93 : decode cX7_next 93 = .ok (.irem, 1) := by decide +kernel
theorem dX7_next_94 : decode cX7_next 94 = .ok (.aload_n 0, 1) := by decide +kernel
theorem dX7_next_95 : decode cX7_next 95 = .ok (.iload_n 2, 1) := by decide +kernel
theorem dX7_next_96 : decode cX7_next 96 = .ok (.bipush 16, 2) := by decide +kernel
theorem dX7_next_98 : decode cX7_next 98 = .ok (.idiv, 1) := by decide +kernel
theorem dX7_next_99 : decode cX7_next 99 = .ok (.invokevirtual 130, 3) := by decide +kernel
theorem dX7_next_102 : decode cX7_next 102 = .ok (.if_icmp .ge 23, 3) := by decide +kernel
theorem dX7_next_105 : decode cX7_next 105 = .ok (.aload_n 0, 1) := by decide +kernel
theorem dX7_next_106 : decode cX7_next 106 = .ok (.getfield 52, 3) := by decide +kernel
theorem dX7_next_109 : decode cX7_next 109 = .ok (.iload_n 2, 1) := by decide +kernel
theorem dX7_next_110 : decode cX7_next 110 = .ok (.iaload, 1) := by decide +kernel
theorem dX7_next_111 : decode cX7_next 111 = .ok (.ifCond .ne 14, 3) := by decide +kernel
theorem dX7_next_114 : decode cX7_next 114 = .ok (.aload_n 0, 1) := by decide +kernel
theorem dX7_next_115 : decode cX7_next 115 = .ok (.iload_n 2, 1) := by decide +kernel
theorem dX7_next_116 : decode cX7_next 116 = .ok (.invokevirtual 195, 3) := by decide +kernel
theorem dX7_next_119 : decode cX7_next 119 = .ok (.ifCond .eq 6, 3) := by decide +kernel
theorem dX7_next_122 : decode cX7_next 122 = .ok (.iinc 1 1, 3) := by decide +kernel
theorem dX7_next_125 : decode cX7_next 125 = .ok (.iinc 2 1, 3) := by decide +kernel
theorem dX7_next_128 : decode cX7_next 128 = .ok (.goto (-49), 3) := by decide +kernel
theorem dX7_next_131 : decode cX7_next 131 = .ok (.aload_n 0, 1) := by decide +kernel
theorem dX7_next_132 : decode cX7_next 132 = .ok (.iload_n 1, 1) := by decide +kernel
theorem dX7_next_133 : decode cX7_next 133 = .ok (.ifCond .ne 7, 3) := by decide +kernel
theorem dX7_next_136 : decode cX7_next 136 = .ok (.iconst 1, 1) := by decide +kernel
theorem dX7_next_137 : decode cX7_next 137 = .ok (.goto 4, 3) := by decide +kernel
theorem dX7_next_140 : decode cX7_next 140 = .ok (.iconst 0, 1) := by decide +kernel
theorem dX7_next_141 : decode cX7_next 141 = .ok (.putfield 157, 3) := by decide +kernel
theorem dX7_next_144 : decode cX7_next 144 = .ok (.iload_n 1, 1) := by decide +kernel
theorem dX7_next_145 : decode cX7_next 145 = .ok (.ireturn, 1) := by decide +kernel
theorem dX7_isReached_0 : decode cX7_isReached 0 = .ok (.iconst 0, 1) := by decide +kernel
theorem dX7_isReached_1 : decode cX7_isReached 1 = .ok (.istore_n 2, 1) := by decide +kernel
theorem dX7_isReached_2 : decode cX7_isReached 2 = .ok (.iload_n 2, 1) := by decide +kernel
theorem dX7_isReached_3 : decode cX7_isReached 3 = .ok (.aload_n 0, 1) := by decide +kernel
theorem dX7_isReached_4 : decode cX7_isReached 4 = .ok (.getfield 182, 3) := by decide +kernel
theorem dX7_isReached_7 : decode cX7_isReached 7 = .ok (.if_icmp .ge 79, 3) := by decide +kernel
theorem dX7_isReached_10 : decode cX7_isReached 10 = .ok (.aload_n 0, 1) := by decide +kernel
theorem dX7_isReached_11 : decode cX7_isReached 11 = .ok (.getfield 25, 3) := by decide +kernel
theorem dX7_isReached_14 : decode cX7_isReached 14 = .ok (.iload_n 2, 1) := by decide +kernel
theorem dX7_isReached_15 : decode cX7_isReached 15 = .ok (.iaload, 1) := by decide +kernel
theorem dX7_isReached_16 : decode cX7_isReached 16 = .ok (.iload_n 1, 1) := by decide +kernel
theorem dX7_isReached_17 : decode cX7_isReached 17 = .ok (.bipush 16, 2) := by decide +kernel
theorem dX7_isReached_19 : decode cX7_isReached 19 = .ok (.idiv, 1) := by decide +kernel
theorem dX7_isReached_20 : decode cX7_isReached 20 = .ok (.if_icmp .ne 60, 3) := by decide +kernel
theorem dX7_isReached_23 : decode cX7_isReached 23 = .ok (.aload_n 0, 1) := by decide +kernel
theorem dX7_isReached_24 : decode cX7_isReached 24 = .ok (.iload_n 2, 1) := by decide +kernel
theorem dX7_isReached_25 : decode cX7_isReached 25 = .ok (.iload_n 1, 1) := by decide +kernel
theorem dX7_isReached_26 : decode cX7_isReached 26 = .ok (.bipush 16, 2) := by decide +kernel
theorem dX7_isReached_28 : decode cX7_isReached 28 = .ok (.irem, 1) := by decide +kernel
theorem dX7_isReached_29 : decode cX7_isReached 29 = .ok (.invokevirtual 189, 3) := by decide +kernel
theorem dX7_isReached_32 : decode cX7_isReached 32 = .ok (.ifCond .eq 48, 3) := by decide +kernel
theorem dX7_isReached_35 : decode cX7_isReached 35 = .ok (.aload_n 0, 1) := by decide +kernel
theorem dX7_isReached_36 : decode cX7_isReached 36 = .ok (.getfield 52, 3) := by decide +kernel
theorem dX7_isReached_39 : decode cX7_isReached 39 = .ok (.iload_n 1, 1) := by decide +kernel
theorem dX7_isReached_40 : decode cX7_isReached 40 = .ok (.aload_n 0, 1) := by decide +kernel
theorem dX7_isReached_41 : decode cX7_isReached 41 = .ok (.getfield 148, 3) := by decide +kernel
theorem dX7_isReached_44 : decode cX7_isReached 44 = .ok (.iastore, 1) := by decide +kernel
theorem dX7_isReached_45 : decode cX7_isReached 45 = .ok (.aload_n 0, 1) := by decide +kernel
theorem dX7_isReached_46 : decode cX7_isReached 46 = .ok (.getfield 55, 3) := by decide +kernel
theorem dX7_isReached_49 : decode cX7_isReached 49 = .ok (.iload_n 1, 1) := by decide +kernel
theorem dX7_isReached_50 : decode cX7_isReached 50 = .ok (.iload_n 2, 1) := by decide +kernel
theorem dX7_isReached_51 : decode cX7_isReached 51 = .ok (.iastore, 1) := by decide +kernel
theorem dX7_isReached_52 : decode cX7_isReached 52 = .ok (.aload_n 0, 1) := by decide +kernel
theorem dX7_isReached_53 : decode cX7_isReached 53 = .ok (.getfield 58, 3) := by decide +kernel
theorem dX7_isReached_56 : decode cX7_isReached 56 = .ok (.iconst 2, 1) := by decide +kernel
theorem dX7_isReached_57 : decode cX7_isReached 57 = .ok (.iload_n 1, 1) := by decide +kernel
theorem dX7_isReached_58 : decode cX7_isReached 58 = .ok (.imul, 1) := by decide +kernel
theorem dX7_isReached_59 : decode cX7_isReached 59 = .ok (.aload_n 0, 1) := by decide +kernel
theorem dX7_isReached_60 : decode cX7_isReached 60 = .ok (.getfield 142, 3) := by decide +kernel
theorem dX7_isReached_63 : decode cX7_isReached 63 = .ok (.iastore, 1) := by decide +kernel
theorem dX7_isReached_64 : decode cX7_isReached 64 = .ok (.aload_n 0, 1) := by decide +kernel
theorem dX7_isReached_65 : decode cX7_isReached 65 = .ok (.getfield 58, 3) := by decide +kernel
theorem dX7_isReached_68 : decode cX7_isReached 68 = .ok (.iconst 2, 1) := by decide +kernel
theorem dX7_isReached_69 : decode cX7_isReached 69 = .ok (.iload_n 1, 1) := by decide +kernel
theorem dX7_isReached_70 : decode cX7_isReached 70 = .ok (.imul, 1) := by decide +kernel
theorem dX7_isReached_71 : decode cX7_isReached 71 = .ok (.iconst 1, 1) := by decide +kernel
theorem dX7_isReached_72 : decode cX7_isReached 72 = .ok (.iadd, 1) := by decide +kernel
theorem dX7_isReached_73 : decode cX7_isReached 73 = .ok (.aload_n 0, 1) := by decide +kernel
theorem dX7_isReached_74 : decode cX7_isReached 74 = .ok (.getfield 145, 3) := by decide +kernel
theorem dX7_isReached_77 : decode cX7_isReached 77 = .ok (.iastore, 1) := by decide +kernel
theorem dX7_isReached_78 : decode cX7_isReached 78 = .ok (.iconst 1, 1) := by decide +kernel
theorem dX7_isReached_79 : decode cX7_isReached 79 = .ok (.ireturn, 1) := by decide +kernel
theorem dX7_isReached_80 : decode cX7_isReached 80 = .ok (.iinc 2 1, 3) := by decide +kernel
theorem dX7_isReached_83 : decode cX7_isReached 83 = .ok (.goto (-81), 3) := by decide +kernel
theorem dX7_isReached_86 : decode cX7_isReached 86 = .ok (.iconst 0, 1) := by decide +kernel
theorem dX7_isReached_87 : decode cX7_isReached 87 = .ok (.ireturn, 1) := by decide +kernel
theorem dX7_grow_0 : decode cX7_grow 0 = .ok (.aload_n 0, 1) := by decide +kernel
theorem dX7_grow_1 : decode cX7_grow 1 = .ok (.iconst 0, 1) := by decide +kernel
theorem dX7_grow_2 : decode cX7_grow 2 = .ok (.putfield 151, 3) := by decide +kernel
theorem dX7_grow_5 : decode cX7_grow 5 = .ok (.iconst 1, 1) := by decide +kernel
theorem dX7_grow_6 : decode cX7_grow 6 = .ok (.istore_n 1, 1) := by decide +kernel
theorem dX7_grow_7 : decode cX7_grow 7 = .ok (.aload_n 0, 1) := by decide +kernel
theorem dX7_grow_8 : decode cX7_grow 8 = .ok (.getfield 95, 3) := by decide +kernel
theorem dX7_grow_11 : decode cX7_grow 11 = .ok (.iconst 0, 1) := by decide +kernel
theorem dX7_grow_12 : decode cX7_grow 12 = .ok (.iconst 0, 1) := by decide +kernel
theorem dX7_grow_13 : decode cX7_grow 13 = .ok (.iastore, 1) := by decide +kernel
theorem dX7_grow_14 : decode cX7_grow 14 = .ok (.iload_n 1, 1) := by decide +kernel
theorem dX7_grow_15 : decode cX7_grow 15 = .ok (.ifCond .le 108, 3) := by decide +kernel
theorem dX7_grow_18 : decode cX7_grow 18 = .ok (.aload_n 0, 1) := by decide +kernel
theorem dX7_grow_19 : decode cX7_grow 19 = .ok (.getfield 151, 3) := by decide +kernel
theorem dX7_grow_22 : decode cX7_grow 22 = .ok (.bipush 41, 2) := by decide +kernel
theorem dX7_grow_24 : decode cX7_grow 24 = .ok (.if_icmp .ge 99, 3) := by decide +kernel
theorem dX7_grow_27 : decode cX7_grow 27 = .ok (.iinc 1 (-1), 3) := by decide +kernel
theorem dX7_grow_30 : decode cX7_grow 30 = .ok (.aload_n 0, 1) := by decide +kernel
theorem dX7_grow_31 : decode cX7_grow 31 = .ok (.getfield 151, 3) := by decide +kernel
theorem dX7_grow_34 : decode cX7_grow 34 = .ok (.istore_n 2, 1) := by decide +kernel
theorem dX7_grow_35 : decode cX7_grow 35 = .ok (.aload_n 0, 1) := by decide +kernel
theorem dX7_grow_36 : decode cX7_grow 36 = .ok (.getfield 83, 3) := by decide +kernel
theorem dX7_grow_39 : decode cX7_grow 39 = .ok (.iload_n 2, 1) := by decide +kernel
theorem dX7_grow_40 : decode cX7_grow 40 = .ok (.aload_n 0, 1) := by decide +kernel
theorem dX7_grow_41 : decode cX7_grow 41 = .ok (.getfield 95, 3) := by decide +kernel
theorem dX7_grow_44 : decode cX7_grow 44 = .ok (.iload_n 1, 1) := by decide +kernel
theorem dX7_grow_45 : decode cX7_grow 45 = .ok (.iaload, 1) := by decide +kernel
theorem dX7_grow_46 : decode cX7_grow 46 = .ok (.iconst 2, 1) := by decide +kernel
theorem dX7_grow_47 : decode cX7_grow 47 = .ok (.idiv, 1) := by decide +kernel
theorem dX7_grow_48 : decode cX7_grow 48 = .ok (.iconst 1, 1) := by decide +kernel
theorem dX7_grow_49 : decode cX7_grow 49 = .ok (.isub, 1) := by decide +kernel
theorem dX7_grow_50 : decode cX7_grow 50 = .ok (.iastore, 1) := by decide +kernel
theorem dX7_grow_51 : decode cX7_grow 51 = .ok (.aload_n 0, 1) := by decide +kernel
theorem dX7_grow_52 : decode cX7_grow 52 = .ok (.getfield 86, 3) := by decide +kernel
theorem dX7_grow_55 : decode cX7_grow 55 = .ok (.iload_n 2, 1) := by decide +kernel
theorem dX7_grow_56 : decode cX7_grow 56 = .ok (.aload_n 0, 1) := by decide +kernel
theorem dX7_grow_57 : decode cX7_grow 57 = .ok (.getfield 95, 3) := by decide +kernel
theorem dX7_grow_60 : decode cX7_grow 60 = .ok (.iload_n 1, 1) := by decide +kernel
theorem dX7_grow_61 : decode cX7_grow 61 = .ok (.iaload, 1) := by decide +kernel
theorem dX7_grow_62 : decode cX7_grow 62 = .ok (.iconst 2, 1) := by decide +kernel
theorem dX7_grow_63 : decode cX7_grow 63 = .ok (.irem, 1) := by decide +kernel
theorem dX7_grow_64 : decode cX7_grow 64 = .ok (.iastore, 1) := by decide +kernel
theorem dX7_grow_65 : decode cX7_grow 65 = .ok (.aload_n 0, 1) := by decide +kernel
theorem dX7_grow_66 : decode cX7_grow 66 = .ok (.iload_n 2, 1) := by decide +kernel
theorem dX7_grow_67 : decode cX7_grow 67 = .ok (.invokevirtual 198, 3) := by decide +kernel
theorem dX7_grow_70 : decode cX7_grow 70 = .ok (.aload_n 0, 1) := by decide +kernel
theorem dX7_grow_71 : decode cX7_grow 71 = .ok (.dup, 1) := by decide +kernel
theorem dX7_grow_72 : decode cX7_grow 72 = .ok (.getfield 151, 3) := by decide +kernel
theorem dX7_grow_75 : decode cX7_grow 75 = .ok (.iconst 1, 1) := by decide +kernel
theorem dX7_grow_76 : decode cX7_grow 76 = .ok (.iadd, 1) := by decide +kernel
theorem dX7_grow_77 : decode cX7_grow 77 = .ok (.putfield 151, 3) := by decide +kernel
theorem dX7_grow_80 : decode cX7_grow 80 = .ok (.aload_n 0, 1) := by decide +kernel
theorem dX7_grow_81 : decode cX7_grow 81 = .ok (.getfield 31, 3) := by decide +kernel
theorem dX7_grow_84 : decode cX7_grow 84 = .ok (.aload_n 0, 1) := by decide +kernel
theorem dX7_grow_85 : decode cX7_grow 85 = .ok (.getfield 80, 3) := by decide +kernel
theorem dX7_grow_88 : decode cX7_grow 88 = .ok (.iload_n 2, 1) := by decide +kernel
theorem dX7_grow_89 : decode cX7_grow 89 = .ok (.iaload, 1) := by decide +kernel
theorem dX7_grow_90 : decode cX7_grow 90 = .ok (.iaload, 1) := by decide +kernel
theorem dX7_grow_91 : decode cX7_grow 91 = .ok (.iconst 1, 1) := by decide +kernel
theorem dX7_grow_92 : decode cX7_grow 92 = .ok (.isub, 1) := by decide +kernel
theorem dX7_grow_93 : decode cX7_grow 93 = .ok (.istore_n 3, 1) := by decide +kernel
theorem dX7_grow_94 : decode cX7_grow 94 = .ok (.iload_n 3, 1) := by decide +kernel
theorem dX7_grow_95 : decode cX7_grow 95 = .ok (.ifCond .lt 25, 3) := by decide +kernel
theorem dX7_grow_98 : decode cX7_grow 98 = .ok (.aload_n 0, 1) := by decide +kernel
theorem dX7_grow_99 : decode cX7_grow 99 = .ok (.getfield 95, 3) := by decide +kernel
theorem dX7_grow_102 : decode cX7_grow 102 = .ok (.iload_n 1, 1) := by decide +kernel
theorem dX7_grow_103 : decode cX7_grow 103 = .ok (.iconst 2, 1) := by decide +kernel
theorem dX7_grow_104 : decode cX7_grow 104 = .ok (.iload_n 2, 1) := by decide +kernel
theorem dX7_grow_105 : decode cX7_grow 105 = .ok (.iconst 1, 1) := by decide +kernel
theorem dX7_grow_106 : decode cX7_grow 106 = .ok (.iadd, 1) := by decide +kernel
theorem dX7_grow_107 : decode cX7_grow 107 = .ok (.imul, 1) := by decide +kernel
theorem dX7_grow_108 : decode cX7_grow 108 = .ok (.iload_n 3, 1) := by decide +kernel
theorem dX7_grow_109 : decode cX7_grow 109 = .ok (.iadd, 1) := by decide +kernel
theorem dX7_grow_110 : decode cX7_grow 110 = .ok (.iastore, 1) := by decide +kernel
theorem dX7_grow_111 : decode cX7_grow 111 = .ok (.iinc 1 1, 3) := by decide +kernel
theorem dX7_grow_114 : decode cX7_grow 114 = .ok (.iinc 3 (-1), 3) := by decide +kernel
theorem dX7_grow_117 : decode cX7_grow 117 = .ok (.goto (-23), 3) := by decide +kernel
theorem dX7_grow_120 : decode cX7_grow 120 = .ok (.goto (-106), 3) := by decide +kernel
theorem dX7_grow_123 : decode cX7_grow 123 = .ok (.iconst 0, 1) := by decide +kernel
theorem dX7_grow_124 : decode cX7_grow 124 = .ok (.istore_n 2, 1) := by decide +kernel
theorem dX7_grow_125 : decode cX7_grow 125 = .ok (.iload_n 2, 1) := by decide +kernel
theorem dX7_grow_126 : decode cX7_grow 126 = .ok (.aload_n 0, 1) := by decide +kernel
theorem dX7_grow_127 : decode cX7_grow 127 = .ok (.getfield 151, 3) := by decide +kernel
theorem dX7_grow_130 : decode cX7_grow 130 = .ok (.if_icmp .ge 18, 3) := by decide +kernel
theorem dX7_grow_133 : decode cX7_grow 133 = .ok (.aload_n 0, 1) := by decide +kernel
theorem dX7_grow_134 : decode cX7_grow 134 = .ok (.getfield 92, 3) := by decide +kernel
theorem dX7_grow_137 : decode cX7_grow 137 = .ok (.iload_n 2, 1) := by decide +kernel
theorem dX7_grow_138 : decode cX7_grow 138 = .ok (.iload_n 2, 1) := by decide +kernel
theorem dX7_grow_139 : decode cX7_grow 139 = .ok (.iconst 1, 1) := by decide +kernel
theorem dX7_grow_140 : decode cX7_grow 140 = .ok (.iadd, 1) := by decide +kernel
theorem dX7_grow_141 : decode cX7_grow 141 = .ok (.iastore, 1) := by decide +kernel
theorem dX7_grow_142 : decode cX7_grow 142 = .ok (.iinc 2 1, 3) := by decide +kernel
theorem dX7_grow_145 : decode cX7_grow 145 = .ok (.goto (-20), 3) := by decide +kernel
theorem dX7_grow_148 : decode cX7_grow 148 = .ok (.aload_n 0, 1) := by decide +kernel
theorem dX7_grow_149 : decode cX7_grow 149 = .ok (.getfield 151, 3) := by decide +kernel
theorem dX7_grow_152 : decode cX7_grow 152 = .ok (.iconst 1, 1) := by decide +kernel
theorem dX7_grow_153 : decode cX7_grow 153 = .ok (.isub, 1) := by decide +kernel
theorem dX7_grow_154 : decode cX7_grow 154 = .ok (.istore_n 2, 1) := by decide +kernel
theorem dX7_grow_155 : decode cX7_grow 155 = .ok (.iload_n 2, 1) := by decide +kernel
theorem dX7_grow_156 : decode cX7_grow 156 = .ok (.ifCond .le 60, 3) := by decide +kernel
theorem dX7_grow_159 : decode cX7_grow 159 = .ok (.aload_n 0, 1) := by decide +kernel
theorem dX7_grow_160 : decode cX7_grow 160 = .ok (.getfield 92, 3) := by decide +kernel
theorem dX7_grow_163 : decode cX7_grow 163 = .ok (.aload_n 0, 1) := by decide +kernel
theorem dX7_grow_164 : decode cX7_grow 164 = .ok (.getfield 83, 3) := by decide +kernel
theorem dX7_grow_167 : decode cX7_grow 167 = .ok (.iload_n 2, 1) := by decide +kernel
theorem dX7_grow_168 : decode cX7_grow 168 = .ok (.iaload, 1) := by decide +kernel
theorem dX7_grow_169 : decode cX7_grow 169 = .ok (.aload_n 0, 1) := by decide +kernel
theorem dX7_grow_170 : decode cX7_grow 170 = .ok (.getfield 92, 3) := by decide +kernel
theorem dX7_grow_173 : decode cX7_grow 173 = .ok (.iload_n 2, 1) := by decide +kernel
theorem dX7_grow_174 : decode cX7_grow 174 = .ok (.iaload, 1) := by decide +kernel
theorem dX7_grow_175 : decode cX7_grow 175 = .ok (.aload_n 0, 1) := by decide +kernel
theorem dX7_grow_176 : decode cX7_grow 176 = .ok (.getfield 92, 3) := by decide +kernel
theorem dX7_grow_179 : decode cX7_grow 179 = .ok (.aload_n 0, 1) := by decide +kernel
theorem dX7_grow_180 : decode cX7_grow 180 = .ok (.getfield 83, 3) := by decide +kernel
theorem dX7_grow_183 : decode cX7_grow 183 = .ok (.iload_n 2, 1) := by decide +kernel
theorem dX7_grow_184 : decode cX7_grow 184 = .ok (.iaload, 1) := by decide +kernel
theorem dX7_grow_185 : decode cX7_grow 185 = .ok (.iaload, 1) := by decide +kernel
theorem dX7_grow_186 : decode cX7_grow 186 = .ok (.if_icmp .le 12, 3) := by decide +kernel
theorem dX7_grow_189 : decode cX7_grow 189 = .ok (.aload_n 0, 1) := by decide +kernel
theorem dX7_grow_190 : decode cX7_grow 190 = .ok (.getfield 92, 3) := by decide +kernel
theorem dX7_grow_193 : decode cX7_grow 193 = .ok (.iload_n 2, 1) := by decide +kernel
theorem dX7_grow_194 : decode cX7_grow 194 = .ok (.iaload, 1) := by decide +kernel
theorem dX7_grow_195 : decode cX7_grow 195 = .ok (.goto 14, 3) := by decide +kernel
theorem dX7_grow_198 : decode cX7_grow 198 = .ok (.aload_n 0, 1) := by decide +kernel
theorem dX7_grow_199 : decode cX7_grow 199 = .ok (.getfield 92, 3) := by decide +kernel
theorem dX7_grow_202 : decode cX7_grow 202 = .ok (.aload_n 0, 1) := by decide +kernel
theorem dX7_grow_203 : decode cX7_grow 203 = .ok (.getfield 83, 3) := by decide +kernel
theorem dX7_grow_206 : decode cX7_grow 206 = .ok (.iload_n 2, 1) := by decide +kernel
theorem dX7_grow_207 : decode cX7_grow 207 = .ok (.iaload, 1) := by decide +kernel
theorem dX7_grow_208 : decode cX7_grow 208 = .ok (.iaload, 1) := by decide +kernel
theorem dX7_grow_209 : decode cX7_grow 209 = .ok (.iastore, 1) := by decide +kernel
theorem dX7_grow_210 : decode cX7_grow 210 = .ok (.iinc 2 (-1), 3) := by decide +kernel
theorem dX7_grow_213 : decode cX7_grow 213 = .ok (.goto (-58), 3) := by decide +kernel
theorem dX7_grow_216 : decode cX7_grow 216 = .ok (.return_, 1) := by decide +kernel
theorem dX7_place_0 : decode cX7_place 0 = .ok (.aload_n 0, 1) := by decide +kernel
theorem dX7_place_1 : decode cX7_place 1 = .ok (.getfield 83, 3) := by decide +kernel
theorem dX7_place_4 : decode cX7_place 4 = .ok (.iload_n 1, 1) := by decide +kernel
theorem dX7_place_5 : decode cX7_place 5 = .ok (.iaload, 1) := by decide +kernel
theorem dX7_place_6 : decode cX7_place 6 = .ok (.ifCond .ge 21, 3) := by decide +kernel
theorem dX7_place_9 : decode cX7_place 9 = .ok (.aload_n 0, 1) := by decide +kernel
theorem dX7_place_10 : decode cX7_place 10 = .ok (.getfield 80, 3) := by decide +kernel
theorem dX7_place_13 : decode cX7_place 13 = .ok (.iload_n 1, 1) := by decide +kernel
theorem dX7_place_14 : decode cX7_place 14 = .ok (.aload_n 0, 1) := by decide +kernel
theorem dX7_place_15 : decode cX7_place 15 = .ok (.getfield 61, 3) := by decide +kernel
theorem dX7_place_18 : decode cX7_place 18 = .ok (.iastore, 1) := by decide +kernel
theorem dX7_place_19 : decode cX7_place 19 = .ok (.aload_n 0, 1) := by decide +kernel
theorem dX7_place_20 : decode cX7_place 20 = .ok (.getfield 89, 3) := by decide +kernel
theorem dX7_place_23 : decode cX7_place 23 = .ok (.iload_n 1, 1) := by decide +kernel
theorem dX7_place_24 : decode cX7_place 24 = .ok (.iconst (-1), 1) := by decide +kernel
theorem dX7_place_25 : decode cX7_place 25 = .ok (.iastore, 1) := by decide +kernel
theorem dX7_place_26 : decode cX7_place 26 = .ok (.return_, 1) := by decide +kernel
theorem dX7_place_27 : decode cX7_place 27 = .ok (.aload_n 0, 1) := by decide +kernel
theorem dX7_place_28 : decode cX7_place 28 = .ok (.getfield 80, 3) := by decide +kernel
theorem dX7_place_31 : decode cX7_place 31 = .ok (.aload_n 0, 1) := by decide +kernel
theorem dX7_place_32 : decode cX7_place 32 = .ok (.getfield 83, 3) := by decide +kernel
theorem dX7_place_35 : decode cX7_place 35 = .ok (.iload_n 1, 1) := by decide +kernel
theorem dX7_place_36 : decode cX7_place 36 = .ok (.iaload, 1) := by decide +kernel
theorem dX7_place_37 : decode cX7_place 37 = .ok (.iaload, 1) := by decide +kernel
theorem dX7_place_38 : decode cX7_place 38 = .ok (.istore_n 2, 1) := by decide +kernel
theorem dX7_place_39 : decode cX7_place 39 = .ok (.aload_n 0, 1) := by decide +kernel
theorem dX7_place_40 : decode cX7_place 40 = .ok (.getfield 34, 3) := by decide +kernel
theorem dX7_place_43 : decode cX7_place 43 = .ok (.iconst 2, 1) := by decide +kernel
theorem dX7_place_44 : decode cX7_place 44 = .ok (.iload_n 2, 1) := by decide +kernel
theorem dX7_place_45 : decode cX7_place 45 = .ok (.imul, 1) := by decide +kernel
theorem dX7_place_46 : decode cX7_place 46 = .ok (.aload_n 0, 1) := by decide +kernel
theorem dX7_place_47 : decode cX7_place 47 = .ok (.getfield 86, 3) := by decide +kernel
theorem dX7_place_50 : decode cX7_place 50 = .ok (.iload_n 1, 1) := by decide +kernel
theorem dX7_place_51 : decode cX7_place 51 = .ok (.iaload, 1) := by decide +kernel
theorem dX7_place_52 : decode cX7_place 52 = .ok (.iadd, 1) := by decide +kernel
theorem dX7_place_53 : decode cX7_place 53 = .ok (.iaload, 1) := by decide +kernel
theorem dX7_place_54 : decode cX7_place 54 = .ok (.istore_n 3, 1) := by decide +kernel
theorem dX7_place_55 : decode cX7_place 55 = .ok (.aload_n 0, 1) := by decide +kernel
theorem dX7_place_56 : decode cX7_place 56 = .ok (.getfield 89, 3) := by decide +kernel
theorem dX7_place_59 : decode cX7_place 59 = .ok (.iload_n 1, 1) := by decide +kernel
theorem dX7_place_60 : decode cX7_place 60 = .ok (.aload_n 0, 1) := by decide +kernel
theorem dX7_place_61 : decode cX7_place 61 = .ok (.getfield 83, 3) := by decide +kernel
theorem dX7_place_64 : decode cX7_place 64 = .ok (.iload_n 1, 1) := by decide +kernel
theorem dX7_place_65 : decode cX7_place 65 = .ok (.iaload, 1) := by decide +kernel
theorem dX7_place_66 : decode cX7_place 66 = .ok (.ifCond .ne 17, 3) := by decide +kernel
theorem dX7_place_69 : decode cX7_place 69 = .ok (.aload_n 0, 1) := by decide +kernel
theorem dX7_place_70 : decode cX7_place 70 = .ok (.getfield 65, 3) := by decide +kernel
theorem dX7_place_73 : decode cX7_place 73 = .ok (.aload_n 0, 1) := by decide +kernel
theorem dX7_place_74 : decode cX7_place 74 = .ok (.getfield 86, 3) := by decide +kernel
theorem dX7_place_77 : decode cX7_place 77 = .ok (.iload_n 1, 1) := by decide +kernel
theorem dX7_place_78 : decode cX7_place 78 = .ok (.iaload, 1) := by decide +kernel
theorem dX7_place_79 : decode cX7_place 79 = .ok (.iaload, 1) := by decide +kernel
theorem dX7_place_80 : decode cX7_place 80 = .ok (.goto 27, 3) := by decide +kernel
theorem dX7_place_83 : decode cX7_place 83 = .ok (.aload_n 0, 1) := by decide +kernel
theorem dX7_place_84 : decode cX7_place 84 = .ok (.getfield 58, 3) := by decide +kernel
theorem dX7_place_87 : decode cX7_place 87 = .ok (.iconst 2, 1) := by decide +kernel
theorem dX7_place_88 : decode cX7_place 88 = .ok (.aload_n 0, 1) := by decide +kernel
theorem dX7_place_89 : decode cX7_place 89 = .ok (.aload_n 0, 1) := by decide +kernel
theorem dX7_place_90 : decode cX7_place 90 = .ok (.getfield 83, 3) := by decide +kernel
theorem dX7_place_93 : decode cX7_place 93 = .ok (.iload_n 1, 1) := by decide +kernel
theorem dX7_place_94 : decode cX7_place 94 = .ok (.iaload, 1) := by decide +kernel
theorem dX7_place_95 : decode cX7_place 95 = .ok (.invokevirtual 202, 3) := by decide +kernel
theorem dX7_place_98 : decode cX7_place 98 = .ok (.imul, 1) := by decide +kernel
theorem dX7_place_99 : decode cX7_place 99 = .ok (.aload_n 0, 1) := by decide +kernel
theorem dX7_place_100 : decode cX7_place 100 = .ok (.getfield 86, 3) := by decide +kernel
theorem dX7_place_103 : decode cX7_place 103 = .ok (.iload_n 1, 1) := by decide +kernel
theorem dX7_place_104 : decode cX7_place 104 = .ok (.iaload, 1) := by decide +kernel
theorem dX7_place_105 : decode cX7_place 105 = .ok (.iadd, 1) := by decide +kernel
theorem dX7_place_106 : decode cX7_place 106 = .ok (.iaload, 1) := by decide +kernel
theorem dX7_place_107 : decode cX7_place 107 = .ok (.iastore, 1) := by decide +kernel
theorem dX7_place_108 : decode cX7_place 108 = .ok (.aload_n 0, 1) := by decide +kernel
theorem dX7_place_109 : decode cX7_place 109 = .ok (.getfield 80, 3) := by decide +kernel
theorem dX7_place_112 : decode cX7_place 112 = .ok (.iload_n 1, 1) := by decide +kernel
theorem dX7_place_113 : decode cX7_place 113 = .ok (.aload_n 0, 1) := by decide +kernel
theorem dX7_place_114 : decode cX7_place 114 = .ok (.getfield 55, 3) := by decide +kernel
theorem dX7_place_117 : decode cX7_place 117 = .ok (.bipush 16, 2) := by decide +kernel
theorem dX7_place_119 : decode cX7_place 119 = .ok (.iload_n 3, 1) := by decide +kernel
theorem dX7_place_120 : decode cX7_place 120 = .ok (.imul, 1) := by decide +kernel
theorem dX7_place_121 : decode cX7_place 121 = .ok (.aload_n 0, 1) := by decide +kernel
theorem dX7_place_122 : decode cX7_place 122 = .ok (.getfield 89, 3) := by decide +kernel
theorem dX7_place_125 : decode cX7_place 125 = .ok (.iload_n 1, 1) := by decide +kernel
theorem dX7_place_126 : decode cX7_place 126 = .ok (.iaload, 1) := by decide +kernel
theorem dX7_place_127 : decode cX7_place 127 = .ok (.iadd, 1) := by decide +kernel
theorem dX7_place_128 : decode cX7_place 128 = .ok (.iaload, 1) := by decide +kernel
theorem dX7_place_129 : decode cX7_place 129 = .ok (.iastore, 1) := by decide +kernel
theorem dX7_place_130 : decode cX7_place 130 = .ok (.return_, 1) := by decide +kernel
theorem dX7_stateOf_0 : decode cX7_stateOf 0 = .ok (.bipush 16, 2) := by decide +kernel
theorem dX7_stateOf_2 : decode cX7_stateOf 2 = .ok (.aload_n 0, 1) := by decide +kernel
theorem dX7_stateOf_3 : decode cX7_stateOf 3 = .ok (.getfield 25, 3) := by decide +kernel
theorem dX7_stateOf_6 : decode cX7_stateOf 6 = .ok (.aload_n 0, 1) := by decide +kernel
theorem dX7_stateOf_7 : decode cX7_stateOf 7 = .ok (.getfield 80, 3) := by decide +kernel
theorem dX7_stateOf_10 : decode cX7_stateOf 10 = .ok (.iload_n 1, 1) := by decide +kernel
theorem dX7_stateOf_11 : decode cX7_stateOf 11 = .ok (.iaload, 1) := by decide +kernel
theorem dX7_stateOf_12 : decode cX7_stateOf 12 = .ok (.iaload, 1) := by decide +kernel
theorem dX7_stateOf_13 : decode cX7_stateOf 13 = .ok (.imul, 1) := by decide +kernel
theorem dX7_stateOf_14 : decode cX7_stateOf 14 = .ok (.aload_n 0, 1) := by decide +kernel
theorem dX7_stateOf_15 : decode cX7_stateOf 15 = .ok (.getfield 89, 3) := by decide +kernel
theorem dX7_stateOf_18 : decode cX7_stateOf 18 = .ok (.iload_n 1, 1) := by decide +kernel
theorem dX7_stateOf_19 : decode cX7_stateOf 19 = .ok (.iaload, 1) := by decide +kernel
theorem dX7_stateOf_20 : decode cX7_stateOf 20 = .ok (.iadd, 1) := by decide +kernel
theorem dX7_stateOf_21 : decode cX7_stateOf 21 = .ok (.ireturn, 1) := by decide +kernel
theorem dX7_gather_0 : decode cX7_gather 0 = .ok (.aload_n 0, 1) := by decide +kernel
theorem dX7_gather_1 : decode cX7_gather 1 = .ok (.iconst 0, 1) := by decide +kernel
theorem dX7_gather_2 : decode cX7_gather 2 = .ok (.putfield 108, 3) := by decide +kernel
theorem dX7_gather_5 : decode cX7_gather 5 = .ok (.iload_n 1, 1) := by decide +kernel
theorem dX7_gather_6 : decode cX7_gather 6 = .ok (.istore_n 2, 1) := by decide +kernel
theorem dX7_gather_7 : decode cX7_gather 7 = .ok (.iload_n 2, 1) := by decide +kernel
theorem dX7_gather_8 : decode cX7_gather 8 = .ok (.aload_n 0, 1) := by decide +kernel
theorem dX7_gather_9 : decode cX7_gather 9 = .ok (.getfield 92, 3) := by decide +kernel
theorem dX7_gather_12 : decode cX7_gather 12 = .ok (.iload_n 1, 1) := by decide +kernel
theorem dX7_gather_13 : decode cX7_gather 13 = .ok (.iaload, 1) := by decide +kernel
theorem dX7_gather_14 : decode cX7_gather 14 = .ok (.if_icmp .ge 35, 3) := by decide +kernel
theorem dX7_gather_17 : decode cX7_gather 17 = .ok (.aload_n 0, 1) := by decide +kernel
theorem dX7_gather_18 : decode cX7_gather 18 = .ok (.aload_n 0, 1) := by decide +kernel
theorem dX7_gather_19 : decode cX7_gather 19 = .ok (.getfield 80, 3) := by decide +kernel
theorem dX7_gather_22 : decode cX7_gather 22 = .ok (.iload_n 2, 1) := by decide +kernel
theorem dX7_gather_23 : decode cX7_gather 23 = .ok (.iaload, 1) := by decide +kernel
theorem dX7_gather_24 : decode cX7_gather 24 = .ok (.iconst 5, 1) := by decide +kernel
theorem dX7_gather_25 : decode cX7_gather 25 = .ok (.iload_n 2, 1) := by decide +kernel
theorem dX7_gather_26 : decode cX7_gather 26 = .ok (.imul, 1) := by decide +kernel
theorem dX7_gather_27 : decode cX7_gather 27 = .ok (.sipush 200, 3) := by decide +kernel
theorem dX7_gather_30 : decode cX7_gather 30 = .ok (.invokevirtual 120, 3) := by decide +kernel
theorem dX7_gather_33 : decode cX7_gather 33 = .ok (.iload_n 2, 1) := by decide +kernel
theorem dX7_gather_34 : decode cX7_gather 34 = .ok (.iload_n 1, 1) := by decide +kernel
theorem dX7_gather_35 : decode cX7_gather 35 = .ok (.if_icmp .le 8, 3) := by decide +kernel
theorem dX7_gather_38 : decode cX7_gather 38 = .ok (.aload_n 0, 1) := by decide +kernel
theorem dX7_gather_39 : decode cX7_gather 39 = .ok (.iload_n 2, 1) := by decide +kernel
theorem dX7_gather_40 : decode cX7_gather 40 = .ok (.invokevirtual 205, 3) := by decide +kernel
theorem dX7_gather_43 : decode cX7_gather 43 = .ok (.iinc 2 1, 3) := by decide +kernel
theorem dX7_gather_46 : decode cX7_gather 46 = .ok (.goto (-39), 3) := by decide +kernel
theorem dX7_gather_49 : decode cX7_gather 49 = .ok (.return_, 1) := by decide +kernel
theorem dX7_join_0 : decode cX7_join 0 = .ok (.aload_n 0, 1) := by decide +kernel
theorem dX7_join_1 : decode cX7_join 1 = .ok (.getfield 80, 3) := by decide +kernel
theorem dX7_join_4 : decode cX7_join 4 = .ok (.aload_n 0, 1) := by decide +kernel
theorem dX7_join_5 : decode cX7_join 5 = .ok (.getfield 83, 3) := by decide +kernel
theorem dX7_join_8 : decode cX7_join 8 = .ok (.iload_n 1, 1) := by decide +kernel
theorem dX7_join_9 : decode cX7_join 9 = .ok (.iaload, 1) := by decide +kernel
theorem dX7_join_10 : decode cX7_join 10 = .ok (.iaload, 1) := by decide +kernel
theorem dX7_join_11 : decode cX7_join 11 = .ok (.istore_n 2, 1) := by decide +kernel
theorem dX7_join_12 : decode cX7_join 12 = .ok (.iconst 2, 1) := by decide +kernel
theorem dX7_join_13 : decode cX7_join 13 = .ok (.iload_n 2, 1) := by decide +kernel
theorem dX7_join_14 : decode cX7_join 14 = .ok (.imul, 1) := by decide +kernel
theorem dX7_join_15 : decode cX7_join 15 = .ok (.aload_n 0, 1) := by decide +kernel
theorem dX7_join_16 : decode cX7_join 16 = .ok (.getfield 86, 3) := by decide +kernel
theorem dX7_join_19 : decode cX7_join 19 = .ok (.iload_n 1, 1) := by decide +kernel
theorem dX7_join_20 : decode cX7_join 20 = .ok (.iaload, 1) := by decide +kernel
theorem dX7_join_21 : decode cX7_join 21 = .ok (.iadd, 1) := by decide +kernel
theorem dX7_join_22 : decode cX7_join 22 = .ok (.istore_n 3, 1) := by decide +kernel
theorem dX7_join_23 : decode cX7_join 23 = .ok (.iconst 0, 1) := by decide +kernel
theorem dX7_join_24 : decode cX7_join 24 = .ok (.istore 4, 2) := by decide +kernel
theorem dX7_join_26 : decode cX7_join 26 = .ok (.iload 4, 2) := by decide +kernel
theorem dX7_join_28 : decode cX7_join 28 = .ok (.aload_n 0, 1) := by decide +kernel
theorem dX7_join_29 : decode cX7_join 29 = .ok (.getfield 7, 3) := by decide +kernel
theorem dX7_join_32 : decode cX7_join 32 = .ok (.aload_n 0, 1) := by decide +kernel
theorem dX7_join_33 : decode cX7_join 33 = .ok (.getfield 34, 3) := by decide +kernel
theorem dX7_join_36 : decode cX7_join 36 = .ok (.iload_n 3, 1) := by decide +kernel
theorem dX7_join_37 : decode cX7_join 37 = .ok (.iaload, 1) := by decide +kernel
theorem dX7_join_38 : decode cX7_join 38 = .ok (.iaload, 1) := by decide +kernel
theorem dX7_join_39 : decode cX7_join 39 = .ok (.if_icmp .ge 71, 3) := by decide +kernel
theorem dX7_join_42 : decode cX7_join 42 = .ok (.iconst 5, 1) := by decide +kernel
theorem dX7_join_43 : decode cX7_join 43 = .ok (.aload_n 0, 1) := by decide +kernel
theorem dX7_join_44 : decode cX7_join 44 = .ok (.getfield 83, 3) := by decide +kernel
theorem dX7_join_47 : decode cX7_join 47 = .ok (.iload_n 1, 1) := by decide +kernel
theorem dX7_join_48 : decode cX7_join 48 = .ok (.iaload, 1) := by decide +kernel
theorem dX7_join_49 : decode cX7_join 49 = .ok (.imul, 1) := by decide +kernel
theorem dX7_join_50 : decode cX7_join 50 = .ok (.aload_n 0, 1) := by decide +kernel
theorem dX7_join_51 : decode cX7_join 51 = .ok (.getfield 37, 3) := by decide +kernel
theorem dX7_join_54 : decode cX7_join 54 = .ok (.iconst 2, 1) := by decide +kernel
theorem dX7_join_55 : decode cX7_join 55 = .ok (.iload_n 3, 1) := by decide +kernel
theorem dX7_join_56 : decode cX7_join 56 = .ok (.imul, 1) := by decide +kernel
theorem dX7_join_57 : decode cX7_join 57 = .ok (.iload 4, 2) := by decide +kernel
theorem dX7_join_59 : decode cX7_join 59 = .ok (.iadd, 1) := by decide +kernel
theorem dX7_join_60 : decode cX7_join 60 = .ok (.iaload, 1) := by decide +kernel
theorem dX7_join_61 : decode cX7_join 61 = .ok (.iadd, 1) := by decide +kernel
theorem dX7_join_62 : decode cX7_join 62 = .ok (.istore 5, 2) := by decide +kernel
theorem dX7_join_64 : decode cX7_join 64 = .ok (.iconst 5, 1) := by decide +kernel
theorem dX7_join_65 : decode cX7_join 65 = .ok (.iload_n 1, 1) := by decide +kernel
theorem dX7_join_66 : decode cX7_join 66 = .ok (.imul, 1) := by decide +kernel
theorem dX7_join_67 : decode cX7_join 67 = .ok (.aload_n 0, 1) := by decide +kernel
theorem dX7_join_68 : decode cX7_join 68 = .ok (.getfield 28, 3) := by decide +kernel
theorem dX7_join_71 : decode cX7_join 71 = .ok (.iconst 2, 1) := by decide +kernel
theorem dX7_join_72 : decode cX7_join 72 = .ok (.aload_n 0, 1) := by decide +kernel
theorem dX7_join_73 : decode cX7_join 73 = .ok (.getfield 80, 3) := by decide +kernel
theorem dX7_join_76 : decode cX7_join 76 = .ok (.iload_n 1, 1) := by decide +kernel
theorem dX7_join_77 : decode cX7_join 77 = .ok (.iaload, 1) := by decide +kernel
theorem dX7_join_78 : decode cX7_join 78 = .ok (.imul, 1) := by decide +kernel
theorem dX7_join_79 : decode cX7_join 79 = .ok (.iload 4, 2) := by decide +kernel
theorem dX7_join_81 : decode cX7_join 81 = .ok (.iadd, 1) := by decide +kernel
theorem dX7_join_82 : decode cX7_join 82 = .ok (.iaload, 1) := by decide +kernel
theorem dX7_join_83 : decode cX7_join 83 = .ok (.iadd, 1) := by decide +kernel
theorem dX7_join_84 : decode cX7_join 84 = .ok (.istore 6, 2) := by decide +kernel
theorem dX7_join_86 : decode cX7_join 86 = .ok (.aload_n 0, 1) := by decide +kernel
theorem dX7_join_87 : decode cX7_join 87 = .ok (.iload 5, 2) := by decide +kernel
theorem dX7_join_89 : decode cX7_join 89 = .ok (.iload 6, 2) := by decide +kernel
theorem dX7_join_91 : decode cX7_join 91 = .ok (.iconst 0, 1) := by decide +kernel
theorem dX7_join_92 : decode cX7_join 92 = .ok (.invokevirtual 116, 3) := by decide +kernel
theorem dX7_join_95 : decode cX7_join 95 = .ok (.aload_n 0, 1) := by decide +kernel
theorem dX7_join_96 : decode cX7_join 96 = .ok (.iload 6, 2) := by decide +kernel
theorem dX7_join_98 : decode cX7_join 98 = .ok (.iload 5, 2) := by decide +kernel
theorem dX7_join_100 : decode cX7_join 100 = .ok (.iconst 0, 1) := by decide +kernel
theorem dX7_join_101 : decode cX7_join 101 = .ok (.invokevirtual 116, 3) := by decide +kernel
theorem dX7_join_104 : decode cX7_join 104 = .ok (.iinc 4 1, 3) := by decide +kernel
theorem dX7_join_107 : decode cX7_join 107 = .ok (.goto (-81), 3) := by decide +kernel
theorem dX7_join_110 : decode cX7_join 110 = .ok (.return_, 1) := by decide +kernel
theorem dX7_refine_0 : decode cX7_refine 0 = .ok (.aload_n 0, 1) := by decide +kernel
theorem dX7_refine_1 : decode cX7_refine 1 = .ok (.aload_n 0, 1) := by decide +kernel
theorem dX7_refine_2 : decode cX7_refine 2 = .ok (.getfield 61, 3) := by decide +kernel
theorem dX7_refine_5 : decode cX7_refine 5 = .ok (.ifCond .lt 10, 3) := by decide +kernel
theorem dX7_refine_8 : decode cX7_refine 8 = .ok (.aload_n 0, 1) := by decide +kernel
theorem dX7_refine_9 : decode cX7_refine 9 = .ok (.getfield 157, 3) := by decide +kernel
theorem dX7_refine_12 : decode cX7_refine 12 = .ok (.ifCond .le 7, 3) := by decide +kernel
theorem dX7_refine_15 : decode cX7_refine 15 = .ok (.iconst 1, 1) := by decide +kernel
theorem dX7_refine_16 : decode cX7_refine 16 = .ok (.goto 4, 3) := by decide +kernel
theorem dX7_refine_19 : decode cX7_refine 19 = .ok (.iconst 0, 1) := by decide +kernel
theorem dX7_refine_20 : decode cX7_refine 20 = .ok (.putfield 98, 3) := by decide +kernel
theorem dX7_refine_23 : decode cX7_refine 23 = .ok (.aload_n 0, 1) := by decide +kernel
theorem dX7_refine_24 : decode cX7_refine 24 = .ok (.getfield 98, 3) := by decide +kernel
theorem dX7_refine_27 : decode cX7_refine 27 = .ok (.ifCond .le 7, 3) := by decide +kernel
theorem dX7_refine_30 : decode cX7_refine 30 = .ok (.iconst 0, 1) := by decide +kernel
theorem dX7_refine_31 : decode cX7_refine 31 = .ok (.goto 7, 3) := by decide +kernel
theorem dX7_refine_34 : decode cX7_refine 34 = .ok (.aload_n 0, 1) := by decide +kernel
theorem dX7_refine_35 : decode cX7_refine 35 = .ok (.invokevirtual 208, 3) := by decide +kernel
theorem dX7_refine_38 : decode cX7_refine 38 = .ok (.ireturn, 1) := by decide +kernel
theorem dX7_improve_0 : decode cX7_improve 0 = .ok (.aload_n 0, 1) := by decide +kernel
theorem dX7_improve_1 : decode cX7_improve 1 = .ok (.getfield 151, 3) := by decide +kernel
theorem dX7_improve_4 : decode cX7_improve 4 = .ok (.bipush 40, 2) := by decide +kernel
theorem dX7_improve_6 : decode cX7_improve 6 = .ok (.if_icmp .le 10, 3) := by decide +kernel
theorem dX7_improve_9 : decode cX7_improve 9 = .ok (.aload_n 0, 1) := by decide +kernel
theorem dX7_improve_10 : decode cX7_improve 10 = .ok (.iconst 3, 1) := by decide +kernel
theorem dX7_improve_11 : decode cX7_improve 11 = .ok (.putfield 157, 3) := by decide +kernel
theorem dX7_improve_14 : decode cX7_improve 14 = .ok (.iconst 0, 1) := by decide +kernel
theorem dX7_improve_15 : decode cX7_improve 15 = .ok (.ireturn, 1) := by decide +kernel
theorem dX7_improve_16 : decode cX7_improve 16 = .ok (.aload_n 0, 1) := by decide +kernel
theorem dX7_improve_17 : decode cX7_improve 17 = .ok (.iconst 0, 1) := by decide +kernel
theorem dX7_improve_18 : decode cX7_improve 18 = .ok (.invokevirtual 211, 3) := by decide +kernel
theorem dX7_improve_21 : decode cX7_improve 21 = .ok (.aload_n 0, 1) := by decide +kernel
theorem dX7_improve_22 : decode cX7_improve 22 = .ok (.sipush 201, 3) := by decide +kernel
theorem dX7_improve_25 : decode cX7_improve 25 = .ok (.invokevirtual 127, 3) := by decide +kernel
theorem dX7_improve_28 : decode cX7_improve 28 = .ok (.ifCond .eq 10, 3) := by decide +kernel
theorem dX7_improve_31 : decode cX7_improve 31 = .ok (.aload_n 0, 1) := by decide +kernel
theorem dX7_improve_32 : decode cX7_improve 32 = .ok (.iconst 2, 1) := by decide +kernel
theorem dX7_improve_33 : decode cX7_improve 33 = .ok (.putfield 157, 3) := by decide +kernel
theorem dX7_improve_36 : decode cX7_improve 36 = .ok (.iconst 0, 1) := by decide +kernel
theorem dX7_improve_37 : decode cX7_improve 37 = .ok (.ireturn, 1) := by decide +kernel
theorem dX7_improve_38 : decode cX7_improve 38 = .ok (.iconst 0, 1) := by decide +kernel
theorem dX7_improve_39 : decode cX7_improve 39 = .ok (.istore_n 1, 1) := by decide +kernel
theorem dX7_improve_40 : decode cX7_improve 40 = .ok (.iconst 1, 1) := by decide +kernel
theorem dX7_improve_41 : decode cX7_improve 41 = .ok (.istore_n 2, 1) := by decide +kernel
theorem dX7_improve_42 : decode cX7_improve 42 = .ok (.iload_n 2, 1) := by decide +kernel
theorem dX7_improve_43 : decode cX7_improve 43 = .ok (.aload_n 0, 1) := by decide +kernel
theorem dX7_improve_44 : decode cX7_improve 44 = .ok (.getfield 151, 3) := by decide +kernel
theorem dX7_improve_47 : decode cX7_improve 47 = .ok (.if_icmp .ge 32, 3) := by decide +kernel
theorem dX7_improve_50 : decode cX7_improve 50 = .ok (.aload_n 0, 1) := by decide +kernel
theorem dX7_improve_51 : decode cX7_improve 51 = .ok (.iload_n 2, 1) := by decide +kernel
theorem dX7_improve_52 : decode cX7_improve 52 = .ok (.invokevirtual 211, 3) := by decide +kernel
theorem dX7_improve_55 : decode cX7_improve 55 = .ok (.aload_n 0, 1) := by decide +kernel
theorem dX7_improve_56 : decode cX7_improve 56 = .ok (.sipush 201, 3) := by decide +kernel
theorem dX7_improve_59 : decode cX7_improve 59 = .ok (.invokevirtual 127, 3) := by decide +kernel
theorem dX7_improve_62 : decode cX7_improve 62 = .ok (.ifCond .eq 11, 3) := by decide +kernel
theorem dX7_improve_65 : decode cX7_improve 65 = .ok (.iload_n 1, 1) := by decide +kernel
theorem dX7_improve_66 : decode cX7_improve 66 = .ok (.aload_n 0, 1) := by decide +kernel
theorem dX7_improve_67 : decode cX7_improve 67 = .ok (.iload_n 2, 1) := by decide +kernel
theorem dX7_improve_68 : decode cX7_improve 68 = .ok (.invokevirtual 214, 3) := by decide +kernel
theorem dX7_improve_71 : decode cX7_improve 71 = .ok (.iadd, 1) := by decide +kernel
theorem dX7_improve_72 : decode cX7_improve 72 = .ok (.istore_n 1, 1) := by decide +kernel
theorem dX7_improve_73 : decode cX7_improve 73 = .ok (.iinc 2 1, 3) := by decide +kernel
theorem dX7_improve_76 : decode cX7_improve 76 = .ok (.goto (-34), 3) := by decide +kernel
theorem dX7_improve_79 : decode cX7_improve 79 = .ok (.iload_n 1, 1) := by decide +kernel
theorem dX7_improve_80 : decode cX7_improve 80 = .ok (.ifCond .ne 10, 3) := by decide +kernel
theorem dX7_improve_83 : decode cX7_improve 83 = .ok (.aload_n 0, 1) := by decide +kernel
theorem dX7_improve_84 : decode cX7_improve 84 = .ok (.iconst 3, 1) := by decide +kernel
theorem dX7_improve_85 : decode cX7_improve 85 = .ok (.putfield 157, 3) := by decide +kernel
theorem dX7_improve_88 : decode cX7_improve 88 = .ok (.iconst 0, 1) := by decide +kernel
theorem dX7_improve_89 : decode cX7_improve 89 = .ok (.ireturn, 1) := by decide +kernel
theorem dX7_improve_90 : decode cX7_improve 90 = .ok (.aload_n 0, 1) := by decide +kernel
theorem dX7_improve_91 : decode cX7_improve 91 = .ok (.dup, 1) := by decide +kernel
theorem dX7_improve_92 : decode cX7_improve 92 = .ok (.getfield 217, 3) := by decide +kernel
theorem dX7_improve_95 : decode cX7_improve 95 = .ok (.iconst 1, 1) := by decide +kernel
theorem dX7_improve_96 : decode cX7_improve 96 = .ok (.iadd, 1) := by decide +kernel
theorem dX7_improve_97 : decode cX7_improve 97 = .ok (.putfield 217, 3) := by decide +kernel
theorem dX7_improve_100 : decode cX7_improve 100 = .ok (.aload_n 0, 1) := by decide +kernel
theorem dX7_improve_101 : decode cX7_improve 101 = .ok (.invokevirtual 154, 3) := by decide +kernel
theorem dX7_improve_104 : decode cX7_improve 104 = .ok (.iload_n 1, 1) := by decide +kernel
theorem dX7_improve_105 : decode cX7_improve 105 = .ok (.ireturn, 1) := by decide +kernel
theorem dX7_marksOf_0 : decode cX7_marksOf 0 = .ok (.aload_n 0, 1) := by decide +kernel
theorem dX7_marksOf_1 : decode cX7_marksOf 1 = .ok (.getfield 80, 3) := by decide +kernel
theorem dX7_marksOf_4 : decode cX7_marksOf 4 = .ok (.iload_n 1, 1) := by decide +kernel
theorem dX7_marksOf_5 : decode cX7_marksOf 5 = .ok (.iaload, 1) := by decide +kernel
theorem dX7_marksOf_6 : decode cX7_marksOf 6 = .ok (.istore_n 2, 1) := by decide +kernel
theorem dX7_marksOf_7 : decode cX7_marksOf 7 = .ok (.aload_n 0, 1) := by decide +kernel
theorem dX7_marksOf_8 : decode cX7_marksOf 8 = .ok (.getfield 25, 3) := by decide +kernel
theorem dX7_marksOf_11 : decode cX7_marksOf 11 = .ok (.iload_n 2, 1) := by decide +kernel
theorem dX7_marksOf_12 : decode cX7_marksOf 12 = .ok (.iaload, 1) := by decide +kernel
theorem dX7_marksOf_13 : decode cX7_marksOf 13 = .ok (.istore_n 3, 1) := by decide +kernel
theorem dX7_marksOf_14 : decode cX7_marksOf 14 = .ok (.aload_n 0, 1) := by decide +kernel
theorem dX7_marksOf_15 : decode cX7_marksOf 15 = .ok (.getfield 7, 3) := by decide +kernel
theorem dX7_marksOf_18 : decode cX7_marksOf 18 = .ok (.iload_n 3, 1) := by decide +kernel
theorem dX7_marksOf_19 : decode cX7_marksOf 19 = .ok (.iaload, 1) := by decide +kernel
theorem dX7_marksOf_20 : decode cX7_marksOf 20 = .ok (.iconst 1, 1) := by decide +kernel
theorem dX7_marksOf_21 : decode cX7_marksOf 21 = .ok (.iadd, 1) := by decide +kernel
theorem dX7_marksOf_22 : decode cX7_marksOf 22 = .ok (.istore 4, 2) := by decide +kernel
theorem dX7_marksOf_24 : decode cX7_marksOf 24 = .ok (.iconst 0, 1) := by decide +kernel
theorem dX7_marksOf_25 : decode cX7_marksOf 25 = .ok (.istore 5, 2) := by decide +kernel
theorem dX7_marksOf_27 : decode cX7_marksOf 27 = .ok (.iconst 0, 1) := by decide +kernel
theorem dX7_marksOf_28 : decode cX7_marksOf 28 = .ok (.istore 6, 2) := by decide +kernel
theorem dX7_marksOf_30 : decode cX7_marksOf 30 = .ok (.iload 6, 2) := by decide +kernel
theorem dX7_marksOf_32 : decode cX7_marksOf 32 = .ok (.iload 4, 2) := by decide +kernel
theorem dX7_marksOf_34 : decode cX7_marksOf 34 = .ok (.iload 4, 2) := by decide +kernel
theorem dX7_marksOf_36 : decode cX7_marksOf 36 = .ok (.imul, 1) := by decide +kernel
theorem dX7_marksOf_37 : decode cX7_marksOf 37 = .ok (.if_icmp .ge 198, 3) := by decide +kernel
theorem dX7_marksOf_40 : decode cX7_marksOf 40 = .ok (.iload 6, 2) := by decide +kernel
theorem dX7_marksOf_42 : decode cX7_marksOf 42 = .ok (.iload 4, 2) := by decide +kernel
theorem dX7_marksOf_44 : decode cX7_marksOf 44 = .ok (.idiv, 1) := by decide +kernel
theorem dX7_marksOf_45 : decode cX7_marksOf 45 = .ok (.istore 7, 2) := by decide +kernel
theorem dX7_marksOf_47 : decode cX7_marksOf 47 = .ok (.iload 6, 2) := by decide +kernel
theorem dX7_marksOf_49 : decode cX7_marksOf 49 = .ok (.iload 4, 2) := by decide +kernel
theorem dX7_marksOf_51 : decode cX7_marksOf 51 = .ok (.irem, 1) := by decide +kernel
theorem dX7_marksOf_52 : decode cX7_marksOf 52 = .ok (.istore 8, 2) := by decide +kernel
theorem dX7_marksOf_54 : decode cX7_marksOf 54 = .ok (.iload 7, 2) := by decide +kernel
theorem dX7_marksOf_56 : decode cX7_marksOf 56 = .ok (.iload 4, 2) := by decide +kernel
theorem dX7_marksOf_58 : decode cX7_marksOf 58 = .ok (.iconst 1, 1) := by decide +kernel
theorem dX7_marksOf_59 : decode cX7_marksOf 59 = .ok (.isub, 1) := by decide +kernel
theorem dX7_marksOf_60 : decode cX7_marksOf 60 = .ok (.if_icmp .ne 7, 3) := by decide +kernel
theorem dX7_marksOf_63 : decode cX7_marksOf 63 = .ok (.iconst 2, 1) := by decide +kernel
theorem dX7_marksOf_64 : decode cX7_marksOf 64 = .ok (.goto 5, 3) := by decide +kernel
theorem dX7_marksOf_67 : decode cX7_marksOf 67 = .ok (.iload 7, 2) := by decide +kernel
theorem dX7_marksOf_69 : decode cX7_marksOf 69 = .ok (.istore 9, 2) := by decide +kernel
theorem dX7_marksOf_71 : decode cX7_marksOf 71 = .ok (.iload 8, 2) := by decide +kernel
theorem dX7_marksOf_73 : decode cX7_marksOf 73 = .ok (.iload 4, 2) := by decide +kernel
theorem dX7_marksOf_75 : decode cX7_marksOf 75 = .ok (.iconst 1, 1) := by decide +kernel
theorem dX7_marksOf_76 : decode cX7_marksOf 76 = .ok (.isub, 1) := by decide +kernel
theorem dX7_marksOf_77 : decode cX7_marksOf 77 = .ok (.if_icmp .ne 7, 3) := by decide +kernel
theorem dX7_marksOf_80 : decode cX7_marksOf 80 = .ok (.iconst 2, 1) := by decide +kernel
theorem dX7_marksOf_81 : decode cX7_marksOf 81 = .ok (.goto 5, 3) := by decide +kernel
theorem dX7_marksOf_84 : decode cX7_marksOf 84 = .ok (.iload 8, 2) := by decide +kernel
theorem dX7_marksOf_86 : decode cX7_marksOf 86 = .ok (.istore 10, 2) := by decide +kernel
theorem dX7_marksOf_88 : decode cX7_marksOf 88 = .ok (.iload 9, 2) := by decide +kernel
theorem dX7_marksOf_90 : decode cX7_marksOf 90 = .ok (.iload 10, 2) := by decide +kernel
theorem dX7_marksOf_92 : decode cX7_marksOf 92 = .ok (.if_icmp .eq 137, 3) := by decide +kernel
theorem dX7_marksOf_95 : decode cX7_marksOf 95 = .ok (.aload_n 0, 1) := by decide +kernel
theorem dX7_marksOf_96 : decode cX7_marksOf 96 = .ok (.getfield 13, 3) := by decide +kernel
theorem dX7_marksOf_99 : decode cX7_marksOf 99 = .ok (.iload_n 3, 1) := by decide +kernel
theorem dX7_marksOf_100 : decode cX7_marksOf 100 = .ok (.iaload, 1) := by decide +kernel
theorem dX7_marksOf_101 : decode cX7_marksOf 101 = .ok (.iconst 4, 1) := by decide +kernel
theorem dX7_marksOf_102 : decode cX7_marksOf 102 = .ok (.if_icmp .ge 127, 3) := by decide +kernel
theorem dX7_marksOf_105 : decode cX7_marksOf 105 = .ok (.iload 9, 2) := by decide +kernel
theorem dX7_marksOf_107 : decode cX7_marksOf 107 = .ok (.iconst 2, 1) := by decide +kernel
theorem dX7_marksOf_108 : decode cX7_marksOf 108 = .ok (.if_icmp .ne 9, 3) := by decide +kernel
theorem dX7_marksOf_111 : decode cX7_marksOf 111 = .ok (.sipush 200, 3) := by decide +kernel
theorem dX7_marksOf_114 : decode cX7_marksOf 114 = .ok (.goto 18, 3) := by decide +kernel
theorem dX7_marksOf_117 : decode cX7_marksOf 117 = .ok (.iconst 5, 1) := by decide +kernel
theorem dX7_marksOf_118 : decode cX7_marksOf 118 = .ok (.iload_n 1, 1) := by decide +kernel
theorem dX7_marksOf_119 : decode cX7_marksOf 119 = .ok (.imul, 1) := by decide +kernel
theorem dX7_marksOf_120 : decode cX7_marksOf 120 = .ok (.aload_n 0, 1) := by decide +kernel
theorem dX7_marksOf_121 : decode cX7_marksOf 121 = .ok (.getfield 28, 3) := by decide +kernel
theorem dX7_marksOf_124 : decode cX7_marksOf 124 = .ok (.iconst 2, 1) := by decide +kernel
theorem dX7_marksOf_125 : decode cX7_marksOf 125 = .ok (.iload_n 2, 1) := by decide +kernel
theorem dX7_marksOf_126 : decode cX7_marksOf 126 = .ok (.imul, 1) := by decide +kernel
theorem dX7_marksOf_127 : decode cX7_marksOf 127 = .ok (.iload 9, 2) := by decide +kernel
theorem dX7_marksOf_129 : decode cX7_marksOf 129 = .ok (.iadd, 1) := by decide +kernel
theorem dX7_marksOf_130 : decode cX7_marksOf 130 = .ok (.iaload, 1) := by decide +kernel
theorem dX7_marksOf_131 : decode cX7_marksOf 131 = .ok (.iadd, 1) := by decide +kernel
theorem dX7_marksOf_132 : decode cX7_marksOf 132 = .ok (.istore 11, 2) := by decide +kernel
theorem dX7_marksOf_134 : decode cX7_marksOf 134 = .ok (.iload 10, 2) := by decide +kernel
theorem dX7_marksOf_136 : decode cX7_marksOf 136 = .ok (.iconst 2, 1) := by decide +kernel
theorem dX7_marksOf_137 : decode cX7_marksOf 137 = .ok (.if_icmp .ne 9, 3) := by decide +kernel
theorem dX7_marksOf_140 : decode cX7_marksOf 140 = .ok (.sipush 200, 3) := by decide +kernel
theorem dX7_marksOf_143 : decode cX7_marksOf 143 = .ok (.goto 18, 3) := by decide +kernel
theorem dX7_marksOf_146 : decode cX7_marksOf 146 = .ok (.iconst 5, 1) := by decide +kernel
theorem dX7_marksOf_147 : decode cX7_marksOf 147 = .ok (.iload_n 1, 1) := by decide +kernel
theorem dX7_marksOf_148 : decode cX7_marksOf 148 = .ok (.imul, 1) := by decide +kernel
theorem dX7_marksOf_149 : decode cX7_marksOf 149 = .ok (.aload_n 0, 1) := by decide +kernel
theorem dX7_marksOf_150 : decode cX7_marksOf 150 = .ok (.getfield 28, 3) := by decide +kernel
theorem dX7_marksOf_153 : decode cX7_marksOf 153 = .ok (.iconst 2, 1) := by decide +kernel
theorem dX7_marksOf_154 : decode cX7_marksOf 154 = .ok (.iload_n 2, 1) := by decide +kernel
theorem dX7_marksOf_155 : decode cX7_marksOf 155 = .ok (.imul, 1) := by decide +kernel
theorem dX7_marksOf_156 : decode cX7_marksOf 156 = .ok (.iload 10, 2) := by decide +kernel
theorem dX7_marksOf_158 : decode cX7_marksOf 158 = .ok (.iadd, 1) := by decide +kernel
theorem dX7_marksOf_159 : decode cX7_marksOf 159 = .ok (.iaload, 1) := by decide +kernel
theorem dX7_marksOf_160 : decode cX7_marksOf 160 = .ok (.iadd, 1) := by decide +kernel
theorem dX7_marksOf_161 : decode cX7_marksOf 161 = .ok (.istore 12, 2) := by decide +kernel
theorem dX7_marksOf_163 : decode cX7_marksOf 163 = .ok (.iload 11, 2) := by decide +kernel
theorem dX7_marksOf_165 : decode cX7_marksOf 165 = .ok (.iload 12, 2) := by decide +kernel
theorem dX7_marksOf_167 : decode cX7_marksOf 167 = .ok (.if_icmp .ne 7, 3) := by decide +kernel
theorem dX7_marksOf_170 : decode cX7_marksOf 170 = .ok (.iconst 0, 1) := by decide +kernel
theorem dX7_marksOf_171 : decode cX7_marksOf 171 = .ok (.goto 14, 3) := by decide +kernel
theorem dX7_marksOf_174 : decode cX7_marksOf 174 = .ok (.aload_n 0, 1) := by decide +kernel
theorem dX7_marksOf_175 : decode cX7_marksOf 175 = .ok (.sipush 201, 3) := by decide +kernel
theorem dX7_marksOf_178 : decode cX7_marksOf 178 = .ok (.iload 11, 2) := by decide +kernel
theorem dX7_marksOf_180 : decode cX7_marksOf 180 = .ok (.iload 12, 2) := by decide +kernel
theorem dX7_marksOf_182 : decode cX7_marksOf 182 = .ok (.invokevirtual 220, 3) := by decide +kernel
theorem dX7_marksOf_185 : decode cX7_marksOf 185 = .ok (.istore 13, 2) := by decide +kernel
theorem dX7_marksOf_187 : decode cX7_marksOf 187 = .ok (.iload 13, 2) := by decide +kernel
theorem dX7_marksOf_189 : decode cX7_marksOf 189 = .ok (.sipush (-1000), 3) := by decide +kernel
theorem dX7_marksOf_192 : decode cX7_marksOf 192 = .ok (.sipush 1000, 3) := by decide +kernel
theorem dX7_marksOf_195 : decode cX7_marksOf 195 = .ok (.invokestatic 104, 3) := by decide +kernel
theorem dX7_marksOf_198 : decode cX7_marksOf 198 = .ok (.ifCond .eq 31, 3) := by decide +kernel
theorem dX7_marksOf_201 : decode cX7_marksOf 201 = .ok (.aload_n 0, 1) := by decide +kernel
theorem dX7_marksOf_202 : decode cX7_marksOf 202 = .ok (.iload_n 3, 1) := by decide +kernel
theorem dX7_marksOf_203 : decode cX7_marksOf 203 = .ok (.iload 9, 2) := by decide +kernel
theorem dX7_marksOf_205 : decode cX7_marksOf 205 = .ok (.iload 10, 2) := by decide +kernel
theorem dX7_marksOf_207 : decode cX7_marksOf 207 = .ok (.iload 13, 2) := by decide +kernel
theorem dX7_marksOf_209 : decode cX7_marksOf 209 = .ok (.invokevirtual 169, 3) := by decide +kernel
theorem dX7_marksOf_212 : decode cX7_marksOf 212 = .ok (.ifCond .ne 17, 3) := by decide +kernel
theorem dX7_marksOf_215 : decode cX7_marksOf 215 = .ok (.aload_n 0, 1) := by decide +kernel
theorem dX7_marksOf_216 : decode cX7_marksOf 216 = .ok (.iload_n 3, 1) := by decide +kernel
theorem dX7_marksOf_217 : decode cX7_marksOf 217 = .ok (.iload 9, 2) := by decide +kernel
theorem dX7_marksOf_219 : decode cX7_marksOf 219 = .ok (.iload 10, 2) := by decide +kernel
theorem dX7_marksOf_221 : decode cX7_marksOf 221 = .ok (.iload 13, 2) := by decide +kernel
theorem dX7_marksOf_223 : decode cX7_marksOf 223 = .ok (.invokevirtual 175, 3) := by decide +kernel
theorem dX7_marksOf_226 : decode cX7_marksOf 226 = .ok (.iinc 5 1, 3) := by decide +kernel
theorem dX7_marksOf_229 : decode cX7_marksOf 229 = .ok (.iinc 6 1, 3) := by decide +kernel
theorem dX7_marksOf_232 : decode cX7_marksOf 232 = .ok (.goto (-202), 3) := by decide +kernel
theorem dX7_marksOf_235 : decode cX7_marksOf 235 = .ok (.iload 5, 2) := by decide +kernel
theorem dX7_marksOf_237 : decode cX7_marksOf 237 = .ok (.ireturn, 1) := by decide +kernel
theorem dX7_verify_0 : decode cX7_verify 0 = .ok (.aload_n 0, 1) := by decide +kernel
theorem dX7_verify_1 : decode cX7_verify 1 = .ok (.iload_n 1, 1) := by decide +kernel
theorem dX7_verify_2 : decode cX7_verify 2 = .ok (.iconst 0, 1) := by decide +kernel
theorem dX7_verify_3 : decode cX7_verify 3 = .ok (.bipush 100, 2) := by decide +kernel
theorem dX7_verify_5 : decode cX7_verify 5 = .ok (.invokestatic 104, 3) := by decide +kernel
theorem dX7_verify_8 : decode cX7_verify 8 = .ok (.ifCond .eq 7, 3) := by decide +kernel
theorem dX7_verify_11 : decode cX7_verify 11 = .ok (.iconst 0, 1) := by decide +kernel
theorem dX7_verify_12 : decode cX7_verify 12 = .ok (.goto 4, 3) := by decide +kernel
theorem dX7_verify_15 : decode cX7_verify 15 = .ok (.iconst 1, 1) := by decide +kernel
theorem dX7_verify_16 : decode cX7_verify 16 = .ok (.putfield 98, 3) := by decide +kernel
theorem dX7_verify_19 : decode cX7_verify 19 = .ok (.aload_n 0, 1) := by decide +kernel
theorem dX7_verify_20 : decode cX7_verify 20 = .ok (.getfield 98, 3) := by decide +kernel
theorem dX7_verify_23 : decode cX7_verify 23 = .ok (.ifCond .le 5, 3) := by decide +kernel
theorem dX7_verify_26 : decode cX7_verify 26 = .ok (.iconst 0, 1) := by decide +kernel
theorem dX7_verify_27 : decode cX7_verify 27 = .ok (.ireturn, 1) := by decide +kernel
theorem dX7_verify_28 : decode cX7_verify 28 = .ok (.iconst 0, 1) := by decide +kernel
theorem dX7_verify_29 : decode cX7_verify 29 = .ok (.istore_n 2, 1) := by decide +kernel
theorem dX7_verify_30 : decode cX7_verify 30 = .ok (.iload_n 2, 1) := by decide +kernel
theorem dX7_verify_31 : decode cX7_verify 31 = .ok (.iload_n 1, 1) := by decide +kernel
theorem dX7_verify_32 : decode cX7_verify 32 = .ok (.if_icmp .ge 36, 3) := by decide +kernel
theorem dX7_verify_35 : decode cX7_verify 35 = .ok (.aload_n 0, 1) := by decide +kernel
theorem dX7_verify_36 : decode cX7_verify 36 = .ok (.getfield 157, 3) := by decide +kernel
theorem dX7_verify_39 : decode cX7_verify 39 = .ok (.ifCond .ne 29, 3) := by decide +kernel
theorem dX7_verify_42 : decode cX7_verify 42 = .ok (.aload_n 0, 1) := by decide +kernel
theorem dX7_verify_43 : decode cX7_verify 43 = .ok (.getfield 61, 3) := by decide +kernel
theorem dX7_verify_46 : decode cX7_verify 46 = .ok (.ifCond .lt 11, 3) := by decide +kernel
theorem dX7_verify_49 : decode cX7_verify 49 = .ok (.aload_n 0, 1) := by decide +kernel
theorem dX7_verify_50 : decode cX7_verify 50 = .ok (.invokevirtual 208, 3) := by decide +kernel
theorem dX7_verify_53 : decode cX7_verify 53 = .ok (.pop, 1) := by decide +kernel
theorem dX7_verify_54 : decode cX7_verify 54 = .ok (.goto 8, 3) := by decide +kernel
theorem dX7_verify_57 : decode cX7_verify 57 = .ok (.aload_n 0, 1) := by decide +kernel
theorem dX7_verify_58 : decode cX7_verify 58 = .ok (.invokevirtual 185, 3) := by decide +kernel
theorem dX7_verify_61 : decode cX7_verify 61 = .ok (.pop, 1) := by decide +kernel
theorem dX7_verify_62 : decode cX7_verify 62 = .ok (.iinc 2 1, 3) := by decide +kernel
theorem dX7_verify_65 : decode cX7_verify 65 = .ok (.goto (-35), 3) := by decide +kernel
theorem dX7_verify_68 : decode cX7_verify 68 = .ok (.aload_n 0, 1) := by decide +kernel
theorem dX7_verify_69 : decode cX7_verify 69 = .ok (.getfield 157, 3) := by decide +kernel
theorem dX7_verify_72 : decode cX7_verify 72 = .ok (.ireturn, 1) := by decide +kernel
theorem dX7_check_0 : decode cX7_check 0 = .ok (.aload_n 0, 1) := by decide +kernel
theorem dX7_check_1 : decode cX7_check 1 = .ok (.iconst 0, 1) := by decide +kernel
theorem dX7_check_2 : decode cX7_check 2 = .ok (.putfield 98, 3) := by decide +kernel
theorem dX7_check_5 : decode cX7_check 5 = .ok (.aload_n 0, 1) := by decide +kernel
theorem dX7_check_6 : decode cX7_check 6 = .ok (.getfield 148, 3) := by decide +kernel
theorem dX7_check_9 : decode cX7_check 9 = .ok (.istore_n 1, 1) := by decide +kernel
theorem dX7_check_10 : decode cX7_check 10 = .ok (.aload_n 0, 1) := by decide +kernel
theorem dX7_check_11 : decode cX7_check 11 = .ok (.iload_n 1, 1) := by decide +kernel
theorem dX7_check_12 : decode cX7_check 12 = .ok (.iconst 1, 1) := by decide +kernel
theorem dX7_check_13 : decode cX7_check 13 = .ok (.iadd, 1) := by decide +kernel
theorem dX7_check_14 : decode cX7_check 14 = .ok (.putfield 148, 3) := by decide +kernel
theorem dX7_check_17 : decode cX7_check 17 = .ok (.iconst (-1), 1) := by decide +kernel
theorem dX7_check_18 : decode cX7_check 18 = .ok (.istore_n 2, 1) := by decide +kernel
theorem dX7_check_19 : decode cX7_check 19 = .ok (.aload_n 0, 1) := by decide +kernel
theorem dX7_check_20 : decode cX7_check 20 = .ok (.getfield 182, 3) := by decide +kernel
theorem dX7_check_23 : decode cX7_check 23 = .ok (.iconst 1, 1) := by decide +kernel
theorem dX7_check_24 : decode cX7_check 24 = .ok (.isub, 1) := by decide +kernel
theorem dX7_check_25 : decode cX7_check 25 = .ok (.istore_n 3, 1) := by decide +kernel
theorem dX7_check_26 : decode cX7_check 26 = .ok (.iload_n 3, 1) := by decide +kernel
theorem dX7_check_27 : decode cX7_check 27 = .ok (.ifCond .lt 23, 3) := by decide +kernel
theorem dX7_check_30 : decode cX7_check 30 = .ok (.aload_n 0, 1) := by decide +kernel
theorem dX7_check_31 : decode cX7_check 31 = .ok (.iload_n 3, 1) := by decide +kernel
theorem dX7_check_32 : decode cX7_check 32 = .ok (.invokevirtual 224, 3) := by decide +kernel
theorem dX7_check_35 : decode cX7_check 35 = .ok (.ifCond .eq 7, 3) := by decide +kernel
theorem dX7_check_38 : decode cX7_check 38 = .ok (.iload_n 3, 1) := by decide +kernel
theorem dX7_check_39 : decode cX7_check 39 = .ok (.goto 4, 3) := by decide +kernel
theorem dX7_check_42 : decode cX7_check 42 = .ok (.iload_n 2, 1) := by decide +kernel
theorem dX7_check_43 : decode cX7_check 43 = .ok (.istore_n 2, 1) := by decide +kernel
theorem dX7_check_44 : decode cX7_check 44 = .ok (.iinc 3 (-1), 3) := by decide +kernel
theorem dX7_check_47 : decode cX7_check 47 = .ok (.goto (-21), 3) := by decide +kernel
theorem dX7_check_50 : decode cX7_check 50 = .ok (.aload_n 0, 1) := by decide +kernel
theorem dX7_check_51 : decode cX7_check 51 = .ok (.iload_n 1, 1) := by decide +kernel
theorem dX7_check_52 : decode cX7_check 52 = .ok (.putfield 148, 3) := by decide +kernel
theorem dX7_check_55 : decode cX7_check 55 = .ok (.iload_n 2, 1) := by decide +kernel
theorem dX7_check_56 : decode cX7_check 56 = .ok (.ireturn, 1) := by decide +kernel
theorem dX7_isBroken_0 : decode cX7_isBroken 0 = .ok (.aload_n 0, 1) := by decide +kernel
theorem dX7_isBroken_1 : decode cX7_isBroken 1 = .ok (.getfield 25, 3) := by decide +kernel
theorem dX7_isBroken_4 : decode cX7_isBroken 4 = .ok (.iload_n 1, 1) := by decide +kernel
theorem dX7_isBroken_5 : decode cX7_isBroken 5 = .ok (.iaload, 1) := by decide +kernel
theorem dX7_isBroken_6 : decode cX7_isBroken 6 = .ok (.ifCond .ge 10, 3) := by decide +kernel
theorem dX7_isBroken_9 : decode cX7_isBroken 9 = .ok (.aload_n 0, 1) := by decide +kernel
theorem dX7_isBroken_10 : decode cX7_isBroken 10 = .ok (.iload_n 1, 1) := by decide +kernel
theorem dX7_isBroken_11 : decode cX7_isBroken 11 = .ok (.iconst (-1), 1) := by decide +kernel
theorem dX7_isBroken_12 : decode cX7_isBroken 12 = .ok (.invokevirtual 189, 3) := by decide +kernel
theorem dX7_isBroken_15 : decode cX7_isBroken 15 = .ok (.ireturn, 1) := by decide +kernel
theorem dX7_isBroken_16 : decode cX7_isBroken 16 = .ok (.iconst 0, 1) := by decide +kernel
theorem dX7_isBroken_17 : decode cX7_isBroken 17 = .ok (.istore_n 2, 1) := by decide +kernel
theorem dX7_isBroken_18 : decode cX7_isBroken 18 = .ok (.iload_n 2, 1) := by decide +kernel
theorem dX7_isBroken_19 : decode cX7_isBroken 19 = .ok (.aload_n 0, 1) := by decide +kernel
theorem dX7_isBroken_20 : decode cX7_isBroken 20 = .ok (.aload_n 0, 1) := by decide +kernel
theorem dX7_isBroken_21 : decode cX7_isBroken 21 = .ok (.getfield 25, 3) := by decide +kernel
theorem dX7_isBroken_24 : decode cX7_isBroken 24 = .ok (.iload_n 1, 1) := by decide +kernel
theorem dX7_isBroken_25 : decode cX7_isBroken 25 = .ok (.iaload, 1) := by decide +kernel
theorem dX7_isBroken_26 : decode cX7_isBroken 26 = .ok (.invokevirtual 130, 3) := by decide +kernel
theorem dX7_isBroken_29 : decode cX7_isBroken 29 = .ok (.if_icmp .ge 39, 3) := by decide +kernel
theorem dX7_isBroken_32 : decode cX7_isBroken 32 = .ok (.aload_n 0, 1) := by decide +kernel
theorem dX7_isBroken_33 : decode cX7_isBroken 33 = .ok (.getfield 52, 3) := by decide +kernel
theorem dX7_isBroken_36 : decode cX7_isBroken 36 = .ok (.bipush 16, 2) := by decide +kernel
theorem dX7_isBroken_38 : decode cX7_isBroken 38 = .ok (.aload_n 0, 1) := by decide +kernel
theorem dX7_isBroken_39 : decode cX7_isBroken 39 = .ok (.getfield 25, 3) := by decide +kernel
theorem dX7_isBroken_42 : decode cX7_isBroken 42 = .ok (.iload_n 1, 1) := by decide +kernel
theorem dX7_isBroken_43 : decode cX7_isBroken 43 = .ok (.iaload, 1) := by decide +kernel
theorem dX7_isBroken_44 : decode cX7_isBroken 44 = .ok (.imul, 1) := by decide +kernel
theorem dX7_isBroken_45 : decode cX7_isBroken 45 = .ok (.iload_n 2, 1) := by decide +kernel
theorem dX7_isBroken_46 : decode cX7_isBroken 46 = .ok (.iadd, 1) := by decide +kernel
theorem dX7_isBroken_47 : decode cX7_isBroken 47 = .ok (.iaload, 1) := by decide +kernel
theorem dX7_isBroken_48 : decode cX7_isBroken 48 = .ok (.ifCond .ne 14, 3) := by decide +kernel
theorem dX7_isBroken_51 : decode cX7_isBroken 51 = .ok (.aload_n 0, 1) := by decide +kernel
theorem dX7_isBroken_52 : decode cX7_isBroken 52 = .ok (.iload_n 1, 1) := by decide +kernel
theorem dX7_isBroken_53 : decode cX7_isBroken 53 = .ok (.iload_n 2, 1) := by decide +kernel
theorem dX7_isBroken_54 : decode cX7_isBroken 54 = .ok (.invokevirtual 189, 3) := by decide +kernel
theorem dX7_isBroken_57 : decode cX7_isBroken 57 = .ok (.ifCond .eq 5, 3) := by decide +kernel
theorem dX7_isBroken_60 : decode cX7_isBroken 60 = .ok (.iconst 1, 1) := by decide +kernel
theorem dX7_isBroken_61 : decode cX7_isBroken 61 = .ok (.ireturn, 1) := by decide +kernel
theorem dX7_isBroken_62 : decode cX7_isBroken 62 = .ok (.iinc 2 1, 3) := by decide +kernel
theorem dX7_isBroken_65 : decode cX7_isBroken 65 = .ok (.goto (-47), 3) := by decide +kernel
theorem dX7_isBroken_68 : decode cX7_isBroken 68 = .ok (.iconst 0, 1) := by decide +kernel
theorem dX7_isBroken_69 : decode cX7_isBroken 69 = .ok (.ireturn, 1) := by decide +kernel
theorem dX7_follows_0 : decode cX7_follows 0 = .ok (.aload_n 0, 1) := by decide +kernel
theorem dX7_follows_1 : decode cX7_follows 1 = .ok (.iload_n 1, 1) := by decide +kernel
theorem dX7_follows_2 : decode cX7_follows 2 = .ok (.iconst 0, 1) := by decide +kernel
theorem dX7_follows_3 : decode cX7_follows 3 = .ok (.aload_n 0, 1) := by decide +kernel
theorem dX7_follows_4 : decode cX7_follows 4 = .ok (.getfield 182, 3) := by decide +kernel
theorem dX7_follows_7 : decode cX7_follows 7 = .ok (.iconst 1, 1) := by decide +kernel
theorem dX7_follows_8 : decode cX7_follows 8 = .ok (.isub, 1) := by decide +kernel
theorem dX7_follows_9 : decode cX7_follows 9 = .ok (.invokestatic 104, 3) := by decide +kernel
theorem dX7_follows_12 : decode cX7_follows 12 = .ok (.ifCond .eq 30, 3) := by decide +kernel
theorem dX7_follows_15 : decode cX7_follows 15 = .ok (.iload_n 2, 1) := by decide +kernel
theorem dX7_follows_16 : decode cX7_follows 16 = .ok (.iconst 0, 1) := by decide +kernel
theorem dX7_follows_17 : decode cX7_follows 17 = .ok (.iconst 5, 1) := by decide +kernel
theorem dX7_follows_18 : decode cX7_follows 18 = .ok (.invokestatic 104, 3) := by decide +kernel
theorem dX7_follows_21 : decode cX7_follows 21 = .ok (.ifCond .eq 21, 3) := by decide +kernel
theorem dX7_follows_24 : decode cX7_follows 24 = .ok (.iload_n 3, 1) := by decide +kernel
theorem dX7_follows_25 : decode cX7_follows 25 = .ok (.iconst 0, 1) := by decide +kernel
theorem dX7_follows_26 : decode cX7_follows 26 = .ok (.iconst 5, 1) := by decide +kernel
theorem dX7_follows_27 : decode cX7_follows 27 = .ok (.invokestatic 104, 3) := by decide +kernel
theorem dX7_follows_30 : decode cX7_follows 30 = .ok (.ifCond .eq 12, 3) := by decide +kernel
theorem dX7_follows_33 : decode cX7_follows 33 = .ok (.iload_n 2, 1) := by decide +kernel
theorem dX7_follows_34 : decode cX7_follows 34 = .ok (.iload_n 3, 1) := by decide +kernel
theorem dX7_follows_35 : decode cX7_follows 35 = .ok (.if_icmp .eq 7, 3) := by decide +kernel
theorem dX7_follows_38 : decode cX7_follows 38 = .ok (.iconst 0, 1) := by decide +kernel
theorem dX7_follows_39 : decode cX7_follows 39 = .ok (.goto 4, 3) := by decide +kernel
theorem dX7_follows_42 : decode cX7_follows 42 = .ok (.iconst 1, 1) := by decide +kernel
theorem dX7_follows_43 : decode cX7_follows 43 = .ok (.putfield 98, 3) := by decide +kernel
theorem dX7_follows_46 : decode cX7_follows 46 = .ok (.aload_n 0, 1) := by decide +kernel
theorem dX7_follows_47 : decode cX7_follows 47 = .ok (.getfield 98, 3) := by decide +kernel
theorem dX7_follows_50 : decode cX7_follows 50 = .ok (.ifCond .le 5, 3) := by decide +kernel
theorem dX7_follows_53 : decode cX7_follows 53 = .ok (.iconst 0, 1) := by decide +kernel
theorem dX7_follows_54 : decode cX7_follows 54 = .ok (.ireturn, 1) := by decide +kernel
theorem dX7_follows_55 : decode cX7_follows 55 = .ok (.aload_n 0, 1) := by decide +kernel
theorem dX7_follows_56 : decode cX7_follows 56 = .ok (.iconst 0, 1) := by decide +kernel
theorem dX7_follows_57 : decode cX7_follows 57 = .ok (.putfield 108, 3) := by decide +kernel
theorem dX7_follows_60 : decode cX7_follows 60 = .ok (.aload_n 0, 1) := by decide +kernel
theorem dX7_follows_61 : decode cX7_follows 61 = .ok (.iload_n 1, 1) := by decide +kernel
theorem dX7_follows_62 : decode cX7_follows 62 = .ok (.iconst 0, 1) := by decide +kernel
theorem dX7_follows_63 : decode cX7_follows 63 = .ok (.iconst 5, 1) := by decide +kernel
theorem dX7_follows_64 : decode cX7_follows 64 = .ok (.invokevirtual 120, 3) := by decide +kernel
theorem dX7_follows_67 : decode cX7_follows 67 = .ok (.aload_n 0, 1) := by decide +kernel
theorem dX7_follows_68 : decode cX7_follows 68 = .ok (.bipush 6, 2) := by decide +kernel
theorem dX7_follows_70 : decode cX7_follows 70 = .ok (.invokevirtual 127, 3) := by decide +kernel
theorem dX7_follows_73 : decode cX7_follows 73 = .ok (.ifCond .ne 9, 3) := by decide +kernel
theorem dX7_follows_76 : decode cX7_follows 76 = .ok (.aload_n 0, 1) := by decide +kernel
theorem dX7_follows_77 : decode cX7_follows 77 = .ok (.iconst 2, 1) := by decide +kernel
theorem dX7_follows_78 : decode cX7_follows 78 = .ok (.invokevirtual 172, 3) := by decide +kernel
theorem dX7_follows_81 : decode cX7_follows 81 = .ok (.ireturn, 1) := by decide +kernel
theorem dX7_follows_82 : decode cX7_follows 82 = .ok (.aload_n 0, 1) := by decide +kernel
theorem dX7_follows_83 : decode cX7_follows 83 = .ok (.bipush 6, 2) := by decide +kernel
theorem dX7_follows_85 : decode cX7_follows 85 = .ok (.iload_n 2, 1) := by decide +kernel
theorem dX7_follows_86 : decode cX7_follows 86 = .ok (.iload_n 3, 1) := by decide +kernel
theorem dX7_follows_87 : decode cX7_follows 87 = .ok (.invokevirtual 220, 3) := by decide +kernel
theorem dX7_follows_90 : decode cX7_follows 90 = .ok (.istore 4, 2) := by decide +kernel
theorem dX7_follows_92 : decode cX7_follows 92 = .ok (.iload 4, 2) := by decide +kernel
theorem dX7_follows_94 : decode cX7_follows 94 = .ok (.ldc 111, 2) := by decide +kernel
theorem dX7_follows_96 : decode cX7_follows 96 = .ok (.if_icmp .ne 11, 3) := by decide +kernel
theorem dX7_follows_99 : decode cX7_follows 99 = .ok (.aload_n 0, 1) := by decide +kernel
theorem dX7_follows_100 : decode cX7_follows 100 = .ok (.iconst 3, 1) := by decide +kernel
theorem dX7_follows_101 : decode cX7_follows 101 = .ok (.invokevirtual 172, 3) := by decide +kernel
theorem dX7_follows_104 : decode cX7_follows 104 = .ok (.goto 5, 3) := by decide +kernel
theorem dX7_follows_107 : decode cX7_follows 107 = .ok (.iload 4, 2) := by decide +kernel
theorem dX7_follows_109 : decode cX7_follows 109 = .ok (.ireturn, 1) := by decide +kernel
theorem dX7_state_0 : decode cX7_state 0 = .ok (.aload_n 0, 1) := by decide +kernel
theorem dX7_state_1 : decode cX7_state 1 = .ok (.iconst 0, 1) := by decide +kernel
theorem dX7_state_2 : decode cX7_state 2 = .ok (.putfield 98, 3) := by decide +kernel
theorem dX7_state_5 : decode cX7_state 5 = .ok (.iload_n 1, 1) := by decide +kernel
theorem dX7_state_6 : decode cX7_state 6 = .ok (.tableswitch 77 0 6 #[42, 47, 52, 57, 62, 67, 72], 42) := by decide +kernel
theorem dX7_state_48 : decode cX7_state 48 = .ok (.aload_n 0, 1) := by decide +kernel
theorem dX7_state_49 : decode cX7_state 49 = .ok (.getfield 101, 3) := by decide +kernel
theorem dX7_state_52 : decode cX7_state 52 = .ok (.ireturn, 1) := by decide +kernel
theorem dX7_state_53 : decode cX7_state 53 = .ok (.aload_n 0, 1) := by decide +kernel
theorem dX7_state_54 : decode cX7_state 54 = .ok (.getfield 182, 3) := by decide +kernel
theorem dX7_state_57 : decode cX7_state 57 = .ok (.ireturn, 1) := by decide +kernel
theorem dX7_state_58 : decode cX7_state 58 = .ok (.aload_n 0, 1) := by decide +kernel
theorem dX7_state_59 : decode cX7_state 59 = .ok (.getfield 157, 3) := by decide +kernel
theorem dX7_state_62 : decode cX7_state 62 = .ok (.ireturn, 1) := by decide +kernel
theorem dX7_state_63 : decode cX7_state 63 = .ok (.aload_n 0, 1) := by decide +kernel
theorem dX7_state_64 : decode cX7_state 64 = .ok (.getfield 148, 3) := by decide +kernel
theorem dX7_state_67 : decode cX7_state 67 = .ok (.ireturn, 1) := by decide +kernel
theorem dX7_state_68 : decode cX7_state 68 = .ok (.aload_n 0, 1) := by decide +kernel
theorem dX7_state_69 : decode cX7_state 69 = .ok (.getfield 61, 3) := by decide +kernel
theorem dX7_state_72 : decode cX7_state 72 = .ok (.ireturn, 1) := by decide +kernel
theorem dX7_state_73 : decode cX7_state 73 = .ok (.aload_n 0, 1) := by decide +kernel
theorem dX7_state_74 : decode cX7_state 74 = .ok (.getfield 151, 3) := by decide +kernel
theorem dX7_state_77 : decode cX7_state 77 = .ok (.ireturn, 1) := by decide +kernel
theorem dX7_state_78 : decode cX7_state 78 = .ok (.aload_n 0, 1) := by decide +kernel
theorem dX7_state_79 : decode cX7_state 79 = .ok (.getfield 217, 3) := by decide +kernel
theorem dX7_state_82 : decode cX7_state 82 = .ok (.ireturn, 1) := by decide +kernel
theorem dX7_state_83 : decode cX7_state 83 = .ok (.iconst (-1), 1) := by decide +kernel
theorem dX7_state_84 : decode cX7_state 84 = .ok (.ireturn, 1) := by decide +kernel
theorem dX7_shown_0 : decode cX7_shown 0 = .ok (.aload_n 0, 1) := by decide +kernel
theorem dX7_shown_1 : decode cX7_shown 1 = .ok (.aload_n 0, 1) := by decide +kernel
theorem dX7_shown_2 : decode cX7_shown 2 = .ok (.iload_n 1, 1) := by decide +kernel
theorem dX7_shown_3 : decode cX7_shown 3 = .ok (.invokevirtual 163, 3) := by decide +kernel
theorem dX7_shown_6 : decode cX7_shown 6 = .ok (.ifCond .eq 12, 3) := by decide +kernel
theorem dX7_shown_9 : decode cX7_shown 9 = .ok (.iload_n 3, 1) := by decide +kernel
theorem dX7_shown_10 : decode cX7_shown 10 = .ok (.iconst 0, 1) := by decide +kernel
theorem dX7_shown_11 : decode cX7_shown 11 = .ok (.iconst 2, 1) := by decide +kernel
theorem dX7_shown_12 : decode cX7_shown 12 = .ok (.invokestatic 104, 3) := by decide +kernel
theorem dX7_shown_15 : decode cX7_shown 15 = .ok (.ifCond .ne 7, 3) := by decide +kernel
theorem dX7_shown_18 : decode cX7_shown 18 = .ok (.iconst 1, 1) := by decide +kernel
theorem dX7_shown_19 : decode cX7_shown 19 = .ok (.goto 24, 3) := by decide +kernel
theorem dX7_shown_22 : decode cX7_shown 22 = .ok (.iload_n 2, 1) := by decide +kernel
theorem dX7_shown_23 : decode cX7_shown 23 = .ok (.iconst 0, 1) := by decide +kernel
theorem dX7_shown_24 : decode cX7_shown 24 = .ok (.aload_n 0, 1) := by decide +kernel
theorem dX7_shown_25 : decode cX7_shown 25 = .ok (.getfield 13, 3) := by decide +kernel
theorem dX7_shown_28 : decode cX7_shown 28 = .ok (.iload_n 1, 1) := by decide +kernel
theorem dX7_shown_29 : decode cX7_shown 29 = .ok (.iaload, 1) := by decide +kernel
theorem dX7_shown_30 : decode cX7_shown 30 = .ok (.iconst 1, 1) := by decide +kernel
theorem dX7_shown_31 : decode cX7_shown 31 = .ok (.isub, 1) := by decide +kernel
theorem dX7_shown_32 : decode cX7_shown 32 = .ok (.invokestatic 104, 3) := by decide +kernel
end
section
theorem dX7_shown_35 : decode cX7_shown 35 = .ok (.ifCond .ne 7, 3) := by decide +kernel
theorem dX7_shown_38 : decode cX7_shown 38 = .ok (.iconst 2, 1) := by decide +kernel
theorem dX7_shown_39 : decode cX7_shown 39 = .ok (.goto 4, 3) := by decide +kernel
theorem dX7_shown_42 : decode cX7_shown 42 = .ok (.iconst 0, 1) := by decide +kernel
theorem dX7_shown_43 : decode cX7_shown 43 = .ok (.putfield 98, 3) := by decide +kernel
theorem dX7_shown_46 : decode cX7_shown 46 = .ok (.aload_n 0, 1) := by decide +kernel
theorem dX7_shown_47 : decode cX7_shown 47 = .ok (.getfield 98, 3) := by decide +kernel
theorem dX7_shown_50 : decode cX7_shown 50 = .ok (.ifCond .le 5, 3) := by decide +kernel
theorem dX7_shown_53 : decode cX7_shown 53 = .ok (.iconst 0, 1) := by decide +kernel
theorem dX7_shown_54 : decode cX7_shown 54 = .ok (.ireturn, 1) := by decide +kernel
theorem dX7_shown_55 : decode cX7_shown 55 = .ok (.iload_n 3, 1) := by decide +kernel
theorem dX7_shown_56 : decode cX7_shown 56 = .ok (.ifCond .ne 16, 3) := by decide +kernel
theorem dX7_shown_59 : decode cX7_shown 59 = .ok (.aload_n 0, 1) := by decide +kernel
theorem dX7_shown_60 : decode cX7_shown 60 = .ok (.getfield 16, 3) := by decide +kernel
theorem dX7_shown_63 : decode cX7_shown 63 = .ok (.iconst 4, 1) := by decide +kernel
theorem dX7_shown_64 : decode cX7_shown 64 = .ok (.iload_n 1, 1) := by decide +kernel
theorem dX7_shown_65 : decode cX7_shown 65 = .ok (.imul, 1) := by decide +kernel
theorem dX7_shown_66 : decode cX7_shown 66 = .ok (.iload_n 2, 1) := by decide +kernel
theorem dX7_shown_67 : decode cX7_shown 67 = .ok (.iadd, 1) := by decide +kernel
theorem dX7_shown_68 : decode cX7_shown 68 = .ok (.iaload, 1) := by decide +kernel
theorem dX7_shown_69 : decode cX7_shown 69 = .ok (.goto 31, 3) := by decide +kernel
theorem dX7_shown_72 : decode cX7_shown 72 = .ok (.iload_n 3, 1) := by decide +kernel
theorem dX7_shown_73 : decode cX7_shown 73 = .ok (.iconst 1, 1) := by decide +kernel
theorem dX7_shown_74 : decode cX7_shown 74 = .ok (.if_icmp .ne 16, 3) := by decide +kernel
theorem dX7_shown_77 : decode cX7_shown 77 = .ok (.aload_n 0, 1) := by decide +kernel
theorem dX7_shown_78 : decode cX7_shown 78 = .ok (.getfield 19, 3) := by decide +kernel
theorem dX7_shown_81 : decode cX7_shown 81 = .ok (.iconst 4, 1) := by decide +kernel
theorem dX7_shown_82 : decode cX7_shown 82 = .ok (.iload_n 1, 1) := by decide +kernel
theorem dX7_shown_83 : decode cX7_shown 83 = .ok (.imul, 1) := by decide +kernel
theorem dX7_shown_84 : decode cX7_shown 84 = .ok (.iload_n 2, 1) := by decide +kernel
theorem dX7_shown_85 : decode cX7_shown 85 = .ok (.iadd, 1) := by decide +kernel
theorem dX7_shown_86 : decode cX7_shown 86 = .ok (.iaload, 1) := by decide +kernel
theorem dX7_shown_87 : decode cX7_shown 87 = .ok (.goto 13, 3) := by decide +kernel
theorem dX7_shown_90 : decode cX7_shown 90 = .ok (.aload_n 0, 1) := by decide +kernel
theorem dX7_shown_91 : decode cX7_shown 91 = .ok (.getfield 22, 3) := by decide +kernel
theorem dX7_shown_94 : decode cX7_shown 94 = .ok (.iconst 4, 1) := by decide +kernel
theorem dX7_shown_95 : decode cX7_shown 95 = .ok (.iload_n 1, 1) := by decide +kernel
theorem dX7_shown_96 : decode cX7_shown 96 = .ok (.imul, 1) := by decide +kernel
theorem dX7_shown_97 : decode cX7_shown 97 = .ok (.iload_n 2, 1) := by decide +kernel
theorem dX7_shown_98 : decode cX7_shown 98 = .ok (.iadd, 1) := by decide +kernel
theorem dX7_shown_99 : decode cX7_shown 99 = .ok (.iaload, 1) := by decide +kernel
theorem dX7_shown_100 : decode cX7_shown 100 = .ok (.ireturn, 1) := by decide +kernel
theorem dX7_cube_0 : decode cX7_cube 0 = .ok (.aload_n 0, 1) := by decide +kernel
theorem dX7_cube_1 : decode cX7_cube 1 = .ok (.aload_n 0, 1) := by decide +kernel
theorem dX7_cube_2 : decode cX7_cube 2 = .ok (.iload_n 1, 1) := by decide +kernel
theorem dX7_cube_3 : decode cX7_cube 3 = .ok (.invokevirtual 163, 3) := by decide +kernel
theorem dX7_cube_6 : decode cX7_cube 6 = .ok (.ifCond .eq 16, 3) := by decide +kernel
theorem dX7_cube_9 : decode cX7_cube 9 = .ok (.iload_n 3, 1) := by decide +kernel
theorem dX7_cube_10 : decode cX7_cube 10 = .ok (.iconst 0, 1) := by decide +kernel
theorem dX7_cube_11 : decode cX7_cube 11 = .ok (.iconst 4, 1) := by decide +kernel
theorem dX7_cube_12 : decode cX7_cube 12 = .ok (.invokestatic 104, 3) := by decide +kernel
theorem dX7_cube_15 : decode cX7_cube 15 = .ok (.ifCond .eq 7, 3) := by decide +kernel
theorem dX7_cube_18 : decode cX7_cube 18 = .ok (.iconst 0, 1) := by decide +kernel
theorem dX7_cube_19 : decode cX7_cube 19 = .ok (.goto 4, 3) := by decide +kernel
theorem dX7_cube_22 : decode cX7_cube 22 = .ok (.iconst 1, 1) := by decide +kernel
theorem dX7_cube_23 : decode cX7_cube 23 = .ok (.putfield 98, 3) := by decide +kernel
theorem dX7_cube_26 : decode cX7_cube 26 = .ok (.aload_n 0, 1) := by decide +kernel
theorem dX7_cube_27 : decode cX7_cube 27 = .ok (.getfield 98, 3) := by decide +kernel
theorem dX7_cube_30 : decode cX7_cube 30 = .ok (.ifCond .gt 18, 3) := by decide +kernel
theorem dX7_cube_33 : decode cX7_cube 33 = .ok (.iload_n 2, 1) := by decide +kernel
theorem dX7_cube_34 : decode cX7_cube 34 = .ok (.iconst 0, 1) := by decide +kernel
theorem dX7_cube_35 : decode cX7_cube 35 = .ok (.aload_n 0, 1) := by decide +kernel
theorem dX7_cube_36 : decode cX7_cube 36 = .ok (.iload_n 1, 1) := by decide +kernel
theorem dX7_cube_37 : decode cX7_cube 37 = .ok (.invokevirtual 130, 3) := by decide +kernel
theorem dX7_cube_40 : decode cX7_cube 40 = .ok (.iconst 1, 1) := by decide +kernel
theorem dX7_cube_41 : decode cX7_cube 41 = .ok (.isub, 1) := by decide +kernel
theorem dX7_cube_42 : decode cX7_cube 42 = .ok (.invokestatic 104, 3) := by decide +kernel
theorem dX7_cube_45 : decode cX7_cube 45 = .ok (.ifCond .ne 9, 3) := by decide +kernel
theorem dX7_cube_48 : decode cX7_cube 48 = .ok (.aload_n 0, 1) := by decide +kernel
theorem dX7_cube_49 : decode cX7_cube 49 = .ok (.iconst 1, 1) := by decide +kernel
theorem dX7_cube_50 : decode cX7_cube 50 = .ok (.invokevirtual 172, 3) := by decide +kernel
theorem dX7_cube_53 : decode cX7_cube 53 = .ok (.ireturn, 1) := by decide +kernel
theorem dX7_cube_54 : decode cX7_cube 54 = .ok (.bipush 16, 2) := by decide +kernel
theorem dX7_cube_56 : decode cX7_cube 56 = .ok (.iload_n 1, 1) := by decide +kernel
theorem dX7_cube_57 : decode cX7_cube 57 = .ok (.imul, 1) := by decide +kernel
theorem dX7_cube_58 : decode cX7_cube 58 = .ok (.iload_n 2, 1) := by decide +kernel
theorem dX7_cube_59 : decode cX7_cube 59 = .ok (.iadd, 1) := by decide +kernel
theorem dX7_cube_60 : decode cX7_cube 60 = .ok (.istore 4, 2) := by decide +kernel
theorem dX7_cube_62 : decode cX7_cube 62 = .ok (.iload_n 3, 1) := by decide +kernel
theorem dX7_cube_63 : decode cX7_cube 63 = .ok (.iconst 4, 1) := by decide +kernel
theorem dX7_cube_64 : decode cX7_cube 64 = .ok (.if_icmp .ne 32, 3) := by decide +kernel
theorem dX7_cube_67 : decode cX7_cube 67 = .ok (.aload_n 0, 1) := by decide +kernel
theorem dX7_cube_68 : decode cX7_cube 68 = .ok (.iconst 0, 1) := by decide +kernel
theorem dX7_cube_69 : decode cX7_cube 69 = .ok (.putfield 108, 3) := by decide +kernel
theorem dX7_cube_72 : decode cX7_cube 72 = .ok (.aload_n 0, 1) := by decide +kernel
theorem dX7_cube_73 : decode cX7_cube 73 = .ok (.iload_n 1, 1) := by decide +kernel
theorem dX7_cube_74 : decode cX7_cube 74 = .ok (.iload_n 2, 1) := by decide +kernel
theorem dX7_cube_75 : decode cX7_cube 75 = .ok (.iconst 0, 1) := by decide +kernel
theorem dX7_cube_76 : decode cX7_cube 76 = .ok (.iconst 1, 1) := by decide +kernel
theorem dX7_cube_77 : decode cX7_cube 77 = .ok (.iconst 5, 1) := by decide +kernel
theorem dX7_cube_78 : decode cX7_cube 78 = .ok (.invokevirtual 123, 3) := by decide +kernel
theorem dX7_cube_81 : decode cX7_cube 81 = .ok (.aload_n 0, 1) := by decide +kernel
theorem dX7_cube_82 : decode cX7_cube 82 = .ok (.bipush 6, 2) := by decide +kernel
theorem dX7_cube_84 : decode cX7_cube 84 = .ok (.invokevirtual 127, 3) := by decide +kernel
theorem dX7_cube_87 : decode cX7_cube 87 = .ok (.ifCond .eq 7, 3) := by decide +kernel
theorem dX7_cube_90 : decode cX7_cube 90 = .ok (.iconst 1, 1) := by decide +kernel
theorem dX7_cube_91 : decode cX7_cube 91 = .ok (.goto 4, 3) := by decide +kernel
theorem dX7_cube_94 : decode cX7_cube 94 = .ok (.iconst 0, 1) := by decide +kernel
theorem dX7_cube_95 : decode cX7_cube 95 = .ok (.ireturn, 1) := by decide +kernel
theorem dX7_cube_96 : decode cX7_cube 96 = .ok (.iload_n 3, 1) := by decide +kernel
theorem dX7_cube_97 : decode cX7_cube 97 = .ok (.ifCond .ne 13, 3) := by decide +kernel
theorem dX7_cube_100 : decode cX7_cube 100 = .ok (.aload_n 0, 1) := by decide +kernel
theorem dX7_cube_101 : decode cX7_cube 101 = .ok (.getfield 52, 3) := by decide +kernel
theorem dX7_cube_104 : decode cX7_cube 104 = .ok (.iload 4, 2) := by decide +kernel
theorem dX7_cube_106 : decode cX7_cube 106 = .ok (.iaload, 1) := by decide +kernel
theorem dX7_cube_107 : decode cX7_cube 107 = .ok (.goto 45, 3) := by decide +kernel
theorem dX7_cube_110 : decode cX7_cube 110 = .ok (.aload_n 0, 1) := by decide +kernel
theorem dX7_cube_111 : decode cX7_cube 111 = .ok (.getfield 52, 3) := by decide +kernel
theorem dX7_cube_114 : decode cX7_cube 114 = .ok (.iload 4, 2) := by decide +kernel
theorem dX7_cube_116 : decode cX7_cube 116 = .ok (.iaload, 1) := by decide +kernel
theorem dX7_cube_117 : decode cX7_cube 117 = .ok (.ifCond .ne 7, 3) := by decide +kernel
theorem dX7_cube_120 : decode cX7_cube 120 = .ok (.iconst (-1), 1) := by decide +kernel
theorem dX7_cube_121 : decode cX7_cube 121 = .ok (.goto 31, 3) := by decide +kernel
theorem dX7_cube_124 : decode cX7_cube 124 = .ok (.iload_n 3, 1) := by decide +kernel
theorem dX7_cube_125 : decode cX7_cube 125 = .ok (.iconst 1, 1) := by decide +kernel
theorem dX7_cube_126 : decode cX7_cube 126 = .ok (.if_icmp .ne 13, 3) := by decide +kernel
theorem dX7_cube_129 : decode cX7_cube 129 = .ok (.aload_n 0, 1) := by decide +kernel
theorem dX7_cube_130 : decode cX7_cube 130 = .ok (.getfield 55, 3) := by decide +kernel
theorem dX7_cube_133 : decode cX7_cube 133 = .ok (.iload 4, 2) := by decide +kernel
theorem dX7_cube_135 : decode cX7_cube 135 = .ok (.iaload, 1) := by decide +kernel
theorem dX7_cube_136 : decode cX7_cube 136 = .ok (.goto 16, 3) := by decide +kernel
theorem dX7_cube_139 : decode cX7_cube 139 = .ok (.aload_n 0, 1) := by decide +kernel
theorem dX7_cube_140 : decode cX7_cube 140 = .ok (.getfield 58, 3) := by decide +kernel
theorem dX7_cube_143 : decode cX7_cube 143 = .ok (.iconst 2, 1) := by decide +kernel
theorem dX7_cube_144 : decode cX7_cube 144 = .ok (.iload 4, 2) := by decide +kernel
theorem dX7_cube_146 : decode cX7_cube 146 = .ok (.imul, 1) := by decide +kernel
theorem dX7_cube_147 : decode cX7_cube 147 = .ok (.iload_n 3, 1) := by decide +kernel
theorem dX7_cube_148 : decode cX7_cube 148 = .ok (.iadd, 1) := by decide +kernel
theorem dX7_cube_149 : decode cX7_cube 149 = .ok (.iconst 2, 1) := by decide +kernel
theorem dX7_cube_150 : decode cX7_cube 150 = .ok (.isub, 1) := by decide +kernel
theorem dX7_cube_151 : decode cX7_cube 151 = .ok (.iaload, 1) := by decide +kernel
theorem dX7_cube_152 : decode cX7_cube 152 = .ok (.ireturn, 1) := by decide +kernel
theorem dX7_node_0 : decode cX7_node 0 = .ok (.aload_n 0, 1) := by decide +kernel
theorem dX7_node_1 : decode cX7_node 1 = .ok (.iload_n 2, 1) := by decide +kernel
theorem dX7_node_2 : decode cX7_node 2 = .ok (.iconst 0, 1) := by decide +kernel
theorem dX7_node_3 : decode cX7_node 3 = .ok (.iconst 2, 1) := by decide +kernel
theorem dX7_node_4 : decode cX7_node 4 = .ok (.invokestatic 104, 3) := by decide +kernel
theorem dX7_node_7 : decode cX7_node 7 = .ok (.ifCond .ne 7, 3) := by decide +kernel
theorem dX7_node_10 : decode cX7_node 10 = .ok (.iconst 1, 1) := by decide +kernel
theorem dX7_node_11 : decode cX7_node 11 = .ok (.goto 38, 3) := by decide +kernel
theorem dX7_node_14 : decode cX7_node 14 = .ok (.aload_n 0, 1) := by decide +kernel
theorem dX7_node_15 : decode cX7_node 15 = .ok (.getfield 61, 3) := by decide +kernel
theorem dX7_node_18 : decode cX7_node 18 = .ok (.ifCond .lt 26, 3) := by decide +kernel
theorem dX7_node_21 : decode cX7_node 21 = .ok (.aload_n 0, 1) := by decide +kernel
theorem dX7_node_22 : decode cX7_node 22 = .ok (.getfield 151, 3) := by decide +kernel
theorem dX7_node_25 : decode cX7_node 25 = .ok (.bipush 40, 2) := by decide +kernel
theorem dX7_node_27 : decode cX7_node 27 = .ok (.if_icmp .gt 17, 3) := by decide +kernel
theorem dX7_node_30 : decode cX7_node 30 = .ok (.iload_n 1, 1) := by decide +kernel
theorem dX7_node_31 : decode cX7_node 31 = .ok (.iconst 0, 1) := by decide +kernel
theorem dX7_node_32 : decode cX7_node 32 = .ok (.aload_n 0, 1) := by decide +kernel
theorem dX7_node_33 : decode cX7_node 33 = .ok (.getfield 151, 3) := by decide +kernel
theorem dX7_node_36 : decode cX7_node 36 = .ok (.iconst 1, 1) := by decide +kernel
theorem dX7_node_37 : decode cX7_node 37 = .ok (.isub, 1) := by decide +kernel
theorem dX7_node_38 : decode cX7_node 38 = .ok (.invokestatic 104, 3) := by decide +kernel
theorem dX7_node_41 : decode cX7_node 41 = .ok (.ifCond .ne 7, 3) := by decide +kernel
theorem dX7_node_44 : decode cX7_node 44 = .ok (.iconst 2, 1) := by decide +kernel
theorem dX7_node_45 : decode cX7_node 45 = .ok (.goto 4, 3) := by decide +kernel
theorem dX7_node_48 : decode cX7_node 48 = .ok (.iconst 0, 1) := by decide +kernel
theorem dX7_node_49 : decode cX7_node 49 = .ok (.putfield 98, 3) := by decide +kernel
theorem dX7_node_52 : decode cX7_node 52 = .ok (.aload_n 0, 1) := by decide +kernel
theorem dX7_node_53 : decode cX7_node 53 = .ok (.getfield 98, 3) := by decide +kernel
theorem dX7_node_56 : decode cX7_node 56 = .ok (.ifCond .le 5, 3) := by decide +kernel
theorem dX7_node_59 : decode cX7_node 59 = .ok (.iconst 0, 1) := by decide +kernel
theorem dX7_node_60 : decode cX7_node 60 = .ok (.ireturn, 1) := by decide +kernel
theorem dX7_node_61 : decode cX7_node 61 = .ok (.iload_n 2, 1) := by decide +kernel
theorem dX7_node_62 : decode cX7_node 62 = .ok (.ifCond .ne 12, 3) := by decide +kernel
theorem dX7_node_65 : decode cX7_node 65 = .ok (.aload_n 0, 1) := by decide +kernel
theorem dX7_node_66 : decode cX7_node 66 = .ok (.getfield 80, 3) := by decide +kernel
theorem dX7_node_69 : decode cX7_node 69 = .ok (.iload_n 1, 1) := by decide +kernel
theorem dX7_node_70 : decode cX7_node 70 = .ok (.iaload, 1) := by decide +kernel
theorem dX7_node_71 : decode cX7_node 71 = .ok (.goto 23, 3) := by decide +kernel
theorem dX7_node_74 : decode cX7_node 74 = .ok (.iload_n 2, 1) := by decide +kernel
theorem dX7_node_75 : decode cX7_node 75 = .ok (.iconst 1, 1) := by decide +kernel
theorem dX7_node_76 : decode cX7_node 76 = .ok (.if_icmp .ne 12, 3) := by decide +kernel
theorem dX7_node_79 : decode cX7_node 79 = .ok (.aload_n 0, 1) := by decide +kernel
theorem dX7_node_80 : decode cX7_node 80 = .ok (.getfield 83, 3) := by decide +kernel
theorem dX7_node_83 : decode cX7_node 83 = .ok (.iload_n 1, 1) := by decide +kernel
theorem dX7_node_84 : decode cX7_node 84 = .ok (.iaload, 1) := by decide +kernel
theorem dX7_node_85 : decode cX7_node 85 = .ok (.goto 9, 3) := by decide +kernel
theorem dX7_node_88 : decode cX7_node 88 = .ok (.aload_n 0, 1) := by decide +kernel
theorem dX7_node_89 : decode cX7_node 89 = .ok (.getfield 89, 3) := by decide +kernel
theorem dX7_node_92 : decode cX7_node 92 = .ok (.iload_n 1, 1) := by decide +kernel
theorem dX7_node_93 : decode cX7_node 93 = .ok (.iaload, 1) := by decide +kernel
theorem dX7_node_94 : decode cX7_node 94 = .ok (.ireturn, 1) := by decide +kernel
theorem dL_relation_0 : decode cL_relation 0 = .ok (.aload_n 2, 1) := by decide +kernel
theorem dL_relation_1 : decode cL_relation 1 = .ok (.iconst 0, 1) := by decide +kernel
theorem dL_relation_2 : decode cL_relation 2 = .ok (.aload_n 0, 1) := by decide +kernel
theorem dL_relation_3 : decode cL_relation 3 = .ok (.iload_n 1, 1) := by decide +kernel
theorem dL_relation_4 : decode cL_relation 4 = .ok (.invokevirtual 7, 3) := by decide +kernel
theorem dL_relation_7 : decode cL_relation 7 = .ok (.i2l, 1) := by decide +kernel
theorem dL_relation_8 : decode cL_relation 8 = .ok (.lastore, 1) := by decide +kernel
theorem dL_relation_9 : decode cL_relation 9 = .ok (.goto 9, 3) := by decide +kernel
theorem dL_relation_12 : decode cL_relation 12 = .ok (.astore_n 3, 1) := by decide +kernel
theorem dL_relation_13 : decode cL_relation 13 = .ok (.iconst 1, 1) := by decide +kernel
theorem dL_relation_14 : decode cL_relation 14 = .ok (.ireturn, 1) := by decide +kernel
theorem dL_relation_15 : decode cL_relation 15 = .ok (.astore_n 3, 1) := by decide +kernel
theorem dL_relation_16 : decode cL_relation 16 = .ok (.iconst 2, 1) := by decide +kernel
theorem dL_relation_17 : decode cL_relation 17 = .ok (.ireturn, 1) := by decide +kernel
theorem dL_relation_18 : decode cL_relation 18 = .ok (.iconst 0, 1) := by decide +kernel
theorem dL_relation_19 : decode cL_relation 19 = .ok (.ireturn, 1) := by decide +kernel
theorem dL_mark_0 : decode cL_mark 0 = .ok (.aload 5, 2) := by decide +kernel
theorem dL_mark_2 : decode cL_mark 2 = .ok (.iconst 0, 1) := by decide +kernel
theorem dL_mark_3 : decode cL_mark 3 = .ok (.aload_n 0, 1) := by decide +kernel
theorem dL_mark_4 : decode cL_mark 4 = .ok (.iload_n 1, 1) := by decide +kernel
theorem dL_mark_5 : decode cL_mark 5 = .ok (.iload_n 2, 1) := by decide +kernel
theorem dL_mark_6 : decode cL_mark 6 = .ok (.iload_n 3, 1) := by decide +kernel
theorem dL_mark_7 : decode cL_mark 7 = .ok (.iload 4, 2) := by decide +kernel
theorem dL_mark_9 : decode cL_mark 9 = .ok (.invokevirtual 17, 3) := by decide +kernel
theorem dL_mark_12 : decode cL_mark 12 = .ok (.i2l, 1) := by decide +kernel
theorem dL_mark_13 : decode cL_mark 13 = .ok (.lastore, 1) := by decide +kernel
theorem dL_mark_14 : decode cL_mark 14 = .ok (.goto 11, 3) := by decide +kernel
theorem dL_mark_17 : decode cL_mark 17 = .ok (.astore 6, 2) := by decide +kernel
theorem dL_mark_19 : decode cL_mark 19 = .ok (.iconst 1, 1) := by decide +kernel
theorem dL_mark_20 : decode cL_mark 20 = .ok (.ireturn, 1) := by decide +kernel
theorem dL_mark_21 : decode cL_mark 21 = .ok (.astore 6, 2) := by decide +kernel
theorem dL_mark_23 : decode cL_mark 23 = .ok (.iconst 2, 1) := by decide +kernel
theorem dL_mark_24 : decode cL_mark 24 = .ok (.ireturn, 1) := by decide +kernel
theorem dL_mark_25 : decode cL_mark 25 = .ok (.iconst 0, 1) := by decide +kernel
theorem dL_mark_26 : decode cL_mark 26 = .ok (.ireturn, 1) := by decide +kernel
theorem dL_clause_0 : decode cL_clause 0 = .ok (.aload 4, 2) := by decide +kernel
theorem dL_clause_2 : decode cL_clause 2 = .ok (.iconst 0, 1) := by decide +kernel
theorem dL_clause_3 : decode cL_clause 3 = .ok (.aload_n 0, 1) := by decide +kernel
theorem dL_clause_4 : decode cL_clause 4 = .ok (.iload_n 1, 1) := by decide +kernel
theorem dL_clause_5 : decode cL_clause 5 = .ok (.iload_n 2, 1) := by decide +kernel
theorem dL_clause_6 : decode cL_clause 6 = .ok (.iload_n 3, 1) := by decide +kernel
theorem dL_clause_7 : decode cL_clause 7 = .ok (.invokevirtual 21, 3) := by decide +kernel
theorem dL_clause_10 : decode cL_clause 10 = .ok (.i2l, 1) := by decide +kernel
theorem dL_clause_11 : decode cL_clause 11 = .ok (.lastore, 1) := by decide +kernel
theorem dL_clause_12 : decode cL_clause 12 = .ok (.goto 11, 3) := by decide +kernel
theorem dL_clause_15 : decode cL_clause 15 = .ok (.astore 5, 2) := by decide +kernel
theorem dL_clause_17 : decode cL_clause 17 = .ok (.iconst 1, 1) := by decide +kernel
theorem dL_clause_18 : decode cL_clause 18 = .ok (.ireturn, 1) := by decide +kernel
theorem dL_clause_19 : decode cL_clause 19 = .ok (.astore 5, 2) := by decide +kernel
theorem dL_clause_21 : decode cL_clause 21 = .ok (.iconst 2, 1) := by decide +kernel
theorem dL_clause_22 : decode cL_clause 22 = .ok (.ireturn, 1) := by decide +kernel
theorem dL_clause_23 : decode cL_clause 23 = .ok (.iconst 0, 1) := by decide +kernel
theorem dL_clause_24 : decode cL_clause 24 = .ok (.ireturn, 1) := by decide +kernel
theorem dL_atom_0 : decode cL_atom 0 = .ok (.aload 4, 2) := by decide +kernel
theorem dL_atom_2 : decode cL_atom 2 = .ok (.iconst 0, 1) := by decide +kernel
theorem dL_atom_3 : decode cL_atom 3 = .ok (.aload_n 0, 1) := by decide +kernel
theorem dL_atom_4 : decode cL_atom 4 = .ok (.iload_n 1, 1) := by decide +kernel
theorem dL_atom_5 : decode cL_atom 5 = .ok (.iload_n 2, 1) := by decide +kernel
theorem dL_atom_6 : decode cL_atom 6 = .ok (.iload_n 3, 1) := by decide +kernel
theorem dL_atom_7 : decode cL_atom 7 = .ok (.invokevirtual 25, 3) := by decide +kernel
theorem dL_atom_10 : decode cL_atom 10 = .ok (.i2l, 1) := by decide +kernel
theorem dL_atom_11 : decode cL_atom 11 = .ok (.lastore, 1) := by decide +kernel
theorem dL_atom_12 : decode cL_atom 12 = .ok (.goto 11, 3) := by decide +kernel
theorem dL_atom_15 : decode cL_atom 15 = .ok (.astore 5, 2) := by decide +kernel
theorem dL_atom_17 : decode cL_atom 17 = .ok (.iconst 1, 1) := by decide +kernel
theorem dL_atom_18 : decode cL_atom 18 = .ok (.ireturn, 1) := by decide +kernel
theorem dL_atom_19 : decode cL_atom 19 = .ok (.astore 5, 2) := by decide +kernel
theorem dL_atom_21 : decode cL_atom 21 = .ok (.iconst 2, 1) := by decide +kernel
theorem dL_atom_22 : decode cL_atom 22 = .ok (.ireturn, 1) := by decide +kernel
theorem dL_atom_23 : decode cL_atom 23 = .ok (.iconst 0, 1) := by decide +kernel
theorem dL_atom_24 : decode cL_atom 24 = .ok (.ireturn, 1) := by decide +kernel
theorem dL_bound_0 : decode cL_bound 0 = .ok (.aload 4, 2) := by decide +kernel
theorem dL_bound_2 : decode cL_bound 2 = .ok (.iconst 0, 1) := by decide +kernel
theorem dL_bound_3 : decode cL_bound 3 = .ok (.aload_n 0, 1) := by decide +kernel
theorem dL_bound_4 : decode cL_bound 4 = .ok (.iload_n 1, 1) := by decide +kernel
theorem dL_bound_5 : decode cL_bound 5 = .ok (.iload_n 2, 1) := by decide +kernel
theorem dL_bound_6 : decode cL_bound 6 = .ok (.iload_n 3, 1) := by decide +kernel
theorem dL_bound_7 : decode cL_bound 7 = .ok (.invokevirtual 28, 3) := by decide +kernel
theorem dL_bound_10 : decode cL_bound 10 = .ok (.i2l, 1) := by decide +kernel
theorem dL_bound_11 : decode cL_bound 11 = .ok (.lastore, 1) := by decide +kernel
theorem dL_bound_12 : decode cL_bound 12 = .ok (.goto 11, 3) := by decide +kernel
theorem dL_bound_15 : decode cL_bound 15 = .ok (.astore 5, 2) := by decide +kernel
theorem dL_bound_17 : decode cL_bound 17 = .ok (.iconst 1, 1) := by decide +kernel
theorem dL_bound_18 : decode cL_bound 18 = .ok (.ireturn, 1) := by decide +kernel
theorem dL_bound_19 : decode cL_bound 19 = .ok (.astore 5, 2) := by decide +kernel
theorem dL_bound_21 : decode cL_bound 21 = .ok (.iconst 2, 1) := by decide +kernel
theorem dL_bound_22 : decode cL_bound 22 = .ok (.ireturn, 1) := by decide +kernel
theorem dL_bound_23 : decode cL_bound 23 = .ok (.iconst 0, 1) := by decide +kernel
theorem dL_bound_24 : decode cL_bound 24 = .ok (.ireturn, 1) := by decide +kernel
theorem dL_round_0 : decode cL_round 0 = .ok (.aload_n 1, 1) := by decide +kernel
theorem dL_round_1 : decode cL_round 1 = .ok (.iconst 0, 1) := by decide +kernel
theorem dL_round_2 : decode cL_round 2 = .ok (.aload_n 0, 1) := by decide +kernel
theorem dL_round_3 : decode cL_round 3 = .ok (.invokevirtual 31, 3) := by decide +kernel
theorem dL_round_6 : decode cL_round 6 = .ok (.i2l, 1) := by decide +kernel
theorem dL_round_7 : decode cL_round 7 = .ok (.lastore, 1) := by decide +kernel
theorem dL_round_8 : decode cL_round 8 = .ok (.goto 6, 3) := by decide +kernel
theorem dL_round_11 : decode cL_round 11 = .ok (.astore_n 2, 1) := by decide +kernel
theorem dL_round_12 : decode cL_round 12 = .ok (.iconst 1, 1) := by decide +kernel
theorem dL_round_13 : decode cL_round 13 = .ok (.ireturn, 1) := by decide +kernel
theorem dL_round_14 : decode cL_round 14 = .ok (.iconst 0, 1) := by decide +kernel
theorem dL_round_15 : decode cL_round 15 = .ok (.ireturn, 1) := by decide +kernel
theorem dL_refine_0 : decode cL_refine 0 = .ok (.aload_n 1, 1) := by decide +kernel
theorem dL_refine_1 : decode cL_refine 1 = .ok (.iconst 0, 1) := by decide +kernel
theorem dL_refine_2 : decode cL_refine 2 = .ok (.aload_n 0, 1) := by decide +kernel
theorem dL_refine_3 : decode cL_refine 3 = .ok (.invokevirtual 35, 3) := by decide +kernel
theorem dL_refine_6 : decode cL_refine 6 = .ok (.i2l, 1) := by decide +kernel
theorem dL_refine_7 : decode cL_refine 7 = .ok (.lastore, 1) := by decide +kernel
theorem dL_refine_8 : decode cL_refine 8 = .ok (.goto 6, 3) := by decide +kernel
theorem dL_refine_11 : decode cL_refine 11 = .ok (.astore_n 2, 1) := by decide +kernel
theorem dL_refine_12 : decode cL_refine 12 = .ok (.iconst 1, 1) := by decide +kernel
theorem dL_refine_13 : decode cL_refine 13 = .ok (.ireturn, 1) := by decide +kernel
theorem dL_refine_14 : decode cL_refine 14 = .ok (.iconst 0, 1) := by decide +kernel
theorem dL_refine_15 : decode cL_refine 15 = .ok (.ireturn, 1) := by decide +kernel
theorem dL_verify_0 : decode cL_verify 0 = .ok (.aload_n 2, 1) := by decide +kernel
theorem dL_verify_1 : decode cL_verify 1 = .ok (.iconst 0, 1) := by decide +kernel
theorem dL_verify_2 : decode cL_verify 2 = .ok (.aload_n 0, 1) := by decide +kernel
theorem dL_verify_3 : decode cL_verify 3 = .ok (.iload_n 1, 1) := by decide +kernel
theorem dL_verify_4 : decode cL_verify 4 = .ok (.invokevirtual 38, 3) := by decide +kernel
theorem dL_verify_7 : decode cL_verify 7 = .ok (.i2l, 1) := by decide +kernel
theorem dL_verify_8 : decode cL_verify 8 = .ok (.lastore, 1) := by decide +kernel
theorem dL_verify_9 : decode cL_verify 9 = .ok (.goto 6, 3) := by decide +kernel
theorem dL_verify_12 : decode cL_verify 12 = .ok (.astore_n 3, 1) := by decide +kernel
theorem dL_verify_13 : decode cL_verify 13 = .ok (.iconst 1, 1) := by decide +kernel
theorem dL_verify_14 : decode cL_verify 14 = .ok (.ireturn, 1) := by decide +kernel
theorem dL_verify_15 : decode cL_verify 15 = .ok (.iconst 0, 1) := by decide +kernel
theorem dL_verify_16 : decode cL_verify 16 = .ok (.ireturn, 1) := by decide +kernel
theorem dL_follows_0 : decode cL_follows 0 = .ok (.aload 4, 2) := by decide +kernel
theorem dL_follows_2 : decode cL_follows 2 = .ok (.iconst 0, 1) := by decide +kernel
theorem dL_follows_3 : decode cL_follows 3 = .ok (.aload_n 0, 1) := by decide +kernel
theorem dL_follows_4 : decode cL_follows 4 = .ok (.iload_n 1, 1) := by decide +kernel
theorem dL_follows_5 : decode cL_follows 5 = .ok (.iload_n 2, 1) := by decide +kernel
theorem dL_follows_6 : decode cL_follows 6 = .ok (.iload_n 3, 1) := by decide +kernel
theorem dL_follows_7 : decode cL_follows 7 = .ok (.invokevirtual 41, 3) := by decide +kernel
theorem dL_follows_10 : decode cL_follows 10 = .ok (.i2l, 1) := by decide +kernel
theorem dL_follows_11 : decode cL_follows 11 = .ok (.lastore, 1) := by decide +kernel
theorem dL_follows_12 : decode cL_follows 12 = .ok (.goto 15, 3) := by decide +kernel
theorem dL_follows_15 : decode cL_follows 15 = .ok (.astore 5, 2) := by decide +kernel
theorem dL_follows_17 : decode cL_follows 17 = .ok (.iconst 1, 1) := by decide +kernel
theorem dL_follows_18 : decode cL_follows 18 = .ok (.ireturn, 1) := by decide +kernel
theorem dL_follows_19 : decode cL_follows 19 = .ok (.astore 5, 2) := by decide +kernel
theorem dL_follows_21 : decode cL_follows 21 = .ok (.iconst 2, 1) := by decide +kernel
theorem dL_follows_22 : decode cL_follows 22 = .ok (.ireturn, 1) := by decide +kernel
theorem dL_follows_23 : decode cL_follows 23 = .ok (.astore 5, 2) := by decide +kernel
theorem dL_follows_25 : decode cL_follows 25 = .ok (.iconst 3, 1) := by decide +kernel
theorem dL_follows_26 : decode cL_follows 26 = .ok (.ireturn, 1) := by decide +kernel
theorem dL_follows_27 : decode cL_follows 27 = .ok (.iconst 0, 1) := by decide +kernel
theorem dL_follows_28 : decode cL_follows 28 = .ok (.ireturn, 1) := by decide +kernel
theorem dL_shown_0 : decode cL_shown 0 = .ok (.aload 4, 2) := by decide +kernel
theorem dL_shown_2 : decode cL_shown 2 = .ok (.iconst 0, 1) := by decide +kernel
theorem dL_shown_3 : decode cL_shown 3 = .ok (.aload_n 0, 1) := by decide +kernel
theorem dL_shown_4 : decode cL_shown 4 = .ok (.iload_n 1, 1) := by decide +kernel
theorem dL_shown_5 : decode cL_shown 5 = .ok (.iload_n 2, 1) := by decide +kernel
theorem dL_shown_6 : decode cL_shown 6 = .ok (.iload_n 3, 1) := by decide +kernel
theorem dL_shown_7 : decode cL_shown 7 = .ok (.invokevirtual 48, 3) := by decide +kernel
theorem dL_shown_10 : decode cL_shown 10 = .ok (.i2l, 1) := by decide +kernel
theorem dL_shown_11 : decode cL_shown 11 = .ok (.lastore, 1) := by decide +kernel
theorem dL_shown_12 : decode cL_shown 12 = .ok (.goto 11, 3) := by decide +kernel
theorem dL_shown_15 : decode cL_shown 15 = .ok (.astore 5, 2) := by decide +kernel
theorem dL_shown_17 : decode cL_shown 17 = .ok (.iconst 1, 1) := by decide +kernel
theorem dL_shown_18 : decode cL_shown 18 = .ok (.ireturn, 1) := by decide +kernel
theorem dL_shown_19 : decode cL_shown 19 = .ok (.astore 5, 2) := by decide +kernel
theorem dL_shown_21 : decode cL_shown 21 = .ok (.iconst 2, 1) := by decide +kernel
theorem dL_shown_22 : decode cL_shown 22 = .ok (.ireturn, 1) := by decide +kernel
theorem dL_shown_23 : decode cL_shown 23 = .ok (.iconst 0, 1) := by decide +kernel
theorem dL_shown_24 : decode cL_shown 24 = .ok (.ireturn, 1) := by decide +kernel
theorem dL_cube_0 : decode cL_cube 0 = .ok (.aload 4, 2) := by decide +kernel
theorem dL_cube_2 : decode cL_cube 2 = .ok (.iconst 0, 1) := by decide +kernel
theorem dL_cube_3 : decode cL_cube 3 = .ok (.aload_n 0, 1) := by decide +kernel
theorem dL_cube_4 : decode cL_cube 4 = .ok (.iload_n 1, 1) := by decide +kernel
theorem dL_cube_5 : decode cL_cube 5 = .ok (.iload_n 2, 1) := by decide +kernel
theorem dL_cube_6 : decode cL_cube 6 = .ok (.iload_n 3, 1) := by decide +kernel
theorem dL_cube_7 : decode cL_cube 7 = .ok (.invokevirtual 51, 3) := by decide +kernel
theorem dL_cube_10 : decode cL_cube 10 = .ok (.i2l, 1) := by decide +kernel
theorem dL_cube_11 : decode cL_cube 11 = .ok (.lastore, 1) := by decide +kernel
theorem dL_cube_12 : decode cL_cube 12 = .ok (.goto 7, 3) := by decide +kernel
theorem dL_cube_15 : decode cL_cube 15 = .ok (.astore 5, 2) := by decide +kernel
theorem dL_cube_17 : decode cL_cube 17 = .ok (.iconst 1, 1) := by decide +kernel
theorem dL_cube_18 : decode cL_cube 18 = .ok (.ireturn, 1) := by decide +kernel
theorem dL_cube_19 : decode cL_cube 19 = .ok (.iconst 0, 1) := by decide +kernel
theorem dL_cube_20 : decode cL_cube 20 = .ok (.ireturn, 1) := by decide +kernel
theorem dL_node_0 : decode cL_node 0 = .ok (.aload_n 3, 1) := by decide +kernel
theorem dL_node_1 : decode cL_node 1 = .ok (.iconst 0, 1) := by decide +kernel
theorem dL_node_2 : decode cL_node 2 = .ok (.aload_n 0, 1) := by decide +kernel
theorem dL_node_3 : decode cL_node 3 = .ok (.iload_n 1, 1) := by decide +kernel
theorem dL_node_4 : decode cL_node 4 = .ok (.iload_n 2, 1) := by decide +kernel
theorem dL_node_5 : decode cL_node 5 = .ok (.invokevirtual 54, 3) := by decide +kernel
theorem dL_node_8 : decode cL_node 8 = .ok (.i2l, 1) := by decide +kernel
theorem dL_node_9 : decode cL_node 9 = .ok (.lastore, 1) := by decide +kernel
theorem dL_node_10 : decode cL_node 10 = .ok (.goto 11, 3) := by decide +kernel
theorem dL_node_13 : decode cL_node 13 = .ok (.astore 4, 2) := by decide +kernel
theorem dL_node_15 : decode cL_node 15 = .ok (.iconst 1, 1) := by decide +kernel
theorem dL_node_16 : decode cL_node 16 = .ok (.ireturn, 1) := by decide +kernel
theorem dL_node_17 : decode cL_node 17 = .ok (.astore 4, 2) := by decide +kernel
theorem dL_node_19 : decode cL_node 19 = .ok (.iconst 2, 1) := by decide +kernel
theorem dL_node_20 : decode cL_node 20 = .ok (.ireturn, 1) := by decide +kernel
theorem dL_node_21 : decode cL_node 21 = .ok (.iconst 0, 1) := by decide +kernel
theorem dL_node_22 : decode cL_node 22 = .ok (.ireturn, 1) := by decide +kernel
theorem dL_law_0 : decode cL_law 0 = .ok (.new 8, 3) := by decide +kernel
theorem dL_law_3 : decode cL_law 3 = .ok (.dup, 1) := by decide +kernel
theorem dL_law_4 : decode cL_law 4 = .ok (.invokespecial 58, 3) := by decide +kernel
theorem dL_law_7 : decode cL_law 7 = .ok (.astore_n 1, 1) := by decide +kernel
theorem dL_law_8 : decode cL_law 8 = .ok (.new 59, 3) := by decide +kernel
theorem dL_law_11 : decode cL_law 11 = .ok (.dup, 1) := by decide +kernel
theorem dL_law_12 : decode cL_law 12 = .ok (.invokespecial 61, 3) := by decide +kernel
theorem dL_law_15 : decode cL_law 15 = .ok (.astore_n 2, 1) := by decide +kernel
theorem dL_law_16 : decode cL_law 16 = .ok (.iconst 1, 1) := by decide +kernel
theorem dL_law_17 : decode cL_law 17 = .ok (.newarray .long, 2) := by decide +kernel
theorem dL_law_19 : decode cL_law 19 = .ok (.astore_n 3, 1) := by decide +kernel
theorem dL_law_20 : decode cL_law 20 = .ok (.iconst 0, 1) := by decide +kernel
theorem dL_law_21 : decode cL_law 21 = .ok (.istore 4, 2) := by decide +kernel
theorem dL_law_23 : decode cL_law 23 = .ok (.iload 4, 2) := by decide +kernel
theorem dL_law_25 : decode cL_law 25 = .ok (.aload_n 0, 1) := by decide +kernel
theorem dL_law_26 : decode cL_law 26 = .ok (.arraylength, 1) := by decide +kernel
theorem dL_law_27 : decode cL_law 27 = .ok (.iconst 5, 1) := by decide +kernel
theorem dL_law_28 : decode cL_law 28 = .ok (.isub, 1) := by decide +kernel
theorem dL_law_29 : decode cL_law 29 = .ok (.if_icmp .gt 978, 3) := by decide +kernel
theorem dL_law_32 : decode cL_law 32 = .ok (.aload_n 0, 1) := by decide +kernel
theorem dL_law_33 : decode cL_law 33 = .ok (.iload 4, 2) := by decide +kernel
theorem dL_law_35 : decode cL_law 35 = .ok (.iaload, 1) := by decide +kernel
theorem dL_law_36 : decode cL_law 36 = .ok (.bipush 15, 2) := by decide +kernel
theorem dL_law_38 : decode cL_law 38 = .ok (.iand, 1) := by decide +kernel
theorem dL_law_39 : decode cL_law 39 = .ok (.tableswitch 962 0 14 #[73, 129, 221, 301, 381, 461, 505, 549, 605, 616, 629, 709, 734, 814, 894], 73) := by decide +kernel
theorem dL_law_112 : decode cL_law 112 = .ok (.aload_n 1, 1) := by decide +kernel
theorem dL_law_113 : decode cL_law 113 = .ok (.aload_n 0, 1) := by decide +kernel
theorem dL_law_114 : decode cL_law 114 = .ok (.iload 4, 2) := by decide +kernel
theorem dL_law_116 : decode cL_law 116 = .ok (.iconst 1, 1) := by decide +kernel
theorem dL_law_117 : decode cL_law 117 = .ok (.iadd, 1) := by decide +kernel
theorem dL_law_118 : decode cL_law 118 = .ok (.iaload, 1) := by decide +kernel
theorem dL_law_119 : decode cL_law 119 = .ok (.aload_n 3, 1) := by decide +kernel
theorem dL_law_120 : decode cL_law 120 = .ok (.invokestatic 62, 3) := by decide +kernel
theorem dL_law_123 : decode cL_law 123 = .ok (.istore 5, 2) := by decide +kernel
theorem dL_law_125 : decode cL_law 125 = .ok (.aload_n 2, 1) := by decide +kernel
theorem dL_law_126 : decode cL_law 126 = .ok (.aload_n 0, 1) := by decide +kernel
theorem dL_law_127 : decode cL_law 127 = .ok (.iload 4, 2) := by decide +kernel
theorem dL_law_129 : decode cL_law 129 = .ok (.iconst 1, 1) := by decide +kernel
theorem dL_law_130 : decode cL_law 130 = .ok (.iadd, 1) := by decide +kernel
theorem dL_law_131 : decode cL_law 131 = .ok (.iaload, 1) := by decide +kernel
theorem dL_law_132 : decode cL_law 132 = .ok (.invokevirtual 67, 3) := by decide +kernel
theorem dL_law_135 : decode cL_law 135 = .ok (.istore 6, 2) := by decide +kernel
theorem dL_law_137 : decode cL_law 137 = .ok (.aload_n 2, 1) := by decide +kernel
theorem dL_law_138 : decode cL_law 138 = .ok (.invokevirtual 68, 3) := by decide +kernel
theorem dL_law_141 : decode cL_law 141 = .ok (.iload 5, 2) := by decide +kernel
theorem dL_law_143 : decode cL_law 143 = .ok (.if_icmp .eq 5, 3) := by decide +kernel
theorem dL_law_146 : decode cL_law 146 = .ok (.iconst 0, 1) := by decide +kernel
theorem dL_law_147 : decode cL_law 147 = .ok (.ireturn, 1) := by decide +kernel
theorem dL_law_148 : decode cL_law 148 = .ok (.iload 5, 2) := by decide +kernel
theorem dL_law_150 : decode cL_law 150 = .ok (.ifCond .ne 15, 3) := by decide +kernel
theorem dL_law_153 : decode cL_law 153 = .ok (.aload_n 3, 1) := by decide +kernel
theorem dL_law_154 : decode cL_law 154 = .ok (.iconst 0, 1) := by decide +kernel
theorem dL_law_155 : decode cL_law 155 = .ok (.laload, 1) := by decide +kernel
theorem dL_law_156 : decode cL_law 156 = .ok (.iload 6, 2) := by decide +kernel
theorem dL_law_158 : decode cL_law 158 = .ok (.i2l, 1) := by decide +kernel
theorem dL_law_159 : decode cL_law 159 = .ok (.lcmp, 1) := by decide +kernel
theorem dL_law_160 : decode cL_law 160 = .ok (.ifCond .eq 5, 3) := by decide +kernel
theorem dL_law_163 : decode cL_law 163 = .ok (.iconst 0, 1) := by decide +kernel
theorem dL_law_164 : decode cL_law 164 = .ok (.ireturn, 1) := by decide +kernel
theorem dL_law_165 : decode cL_law 165 = .ok (.goto 836, 3) := by decide +kernel
theorem dL_law_168 : decode cL_law 168 = .ok (.aload_n 1, 1) := by decide +kernel
theorem dL_law_169 : decode cL_law 169 = .ok (.aload_n 0, 1) := by decide +kernel
theorem dL_law_170 : decode cL_law 170 = .ok (.iload 4, 2) := by decide +kernel
theorem dL_law_172 : decode cL_law 172 = .ok (.iconst 1, 1) := by decide +kernel
theorem dL_law_173 : decode cL_law 173 = .ok (.iadd, 1) := by decide +kernel
theorem dL_law_174 : decode cL_law 174 = .ok (.iaload, 1) := by decide +kernel
theorem dL_law_175 : decode cL_law 175 = .ok (.aload_n 0, 1) := by decide +kernel
theorem dL_law_176 : decode cL_law 176 = .ok (.iload 4, 2) := by decide +kernel
theorem dL_law_178 : decode cL_law 178 = .ok (.iconst 2, 1) := by decide +kernel
theorem dL_law_179 : decode cL_law 179 = .ok (.iadd, 1) := by decide +kernel
theorem dL_law_180 : decode cL_law 180 = .ok (.iaload, 1) := by decide +kernel
theorem dL_law_181 : decode cL_law 181 = .ok (.aload_n 0, 1) := by decide +kernel
theorem dL_law_182 : decode cL_law 182 = .ok (.iload 4, 2) := by decide +kernel
theorem dL_law_184 : decode cL_law 184 = .ok (.iconst 3, 1) := by decide +kernel
theorem dL_law_185 : decode cL_law 185 = .ok (.iadd, 1) := by decide +kernel
theorem dL_law_186 : decode cL_law 186 = .ok (.iaload, 1) := by decide +kernel
theorem dL_law_187 : decode cL_law 187 = .ok (.aload_n 0, 1) := by decide +kernel
theorem dL_law_188 : decode cL_law 188 = .ok (.iload 4, 2) := by decide +kernel
theorem dL_law_190 : decode cL_law 190 = .ok (.iconst 4, 1) := by decide +kernel
theorem dL_law_191 : decode cL_law 191 = .ok (.iadd, 1) := by decide +kernel
theorem dL_law_192 : decode cL_law 192 = .ok (.iaload, 1) := by decide +kernel
theorem dL_law_193 : decode cL_law 193 = .ok (.aload_n 3, 1) := by decide +kernel
theorem dL_law_194 : decode cL_law 194 = .ok (.invokestatic 71, 3) := by decide +kernel
theorem dL_law_197 : decode cL_law 197 = .ok (.istore 5, 2) := by decide +kernel
theorem dL_law_199 : decode cL_law 199 = .ok (.aload_n 2, 1) := by decide +kernel
theorem dL_law_200 : decode cL_law 200 = .ok (.aload_n 0, 1) := by decide +kernel
theorem dL_law_201 : decode cL_law 201 = .ok (.iload 4, 2) := by decide +kernel
theorem dL_law_203 : decode cL_law 203 = .ok (.iconst 1, 1) := by decide +kernel
theorem dL_law_204 : decode cL_law 204 = .ok (.iadd, 1) := by decide +kernel
theorem dL_law_205 : decode cL_law 205 = .ok (.iaload, 1) := by decide +kernel
theorem dL_law_206 : decode cL_law 206 = .ok (.aload_n 0, 1) := by decide +kernel
theorem dL_law_207 : decode cL_law 207 = .ok (.iload 4, 2) := by decide +kernel
theorem dL_law_209 : decode cL_law 209 = .ok (.iconst 2, 1) := by decide +kernel
theorem dL_law_210 : decode cL_law 210 = .ok (.iadd, 1) := by decide +kernel
theorem dL_law_211 : decode cL_law 211 = .ok (.iaload, 1) := by decide +kernel
theorem dL_law_212 : decode cL_law 212 = .ok (.aload_n 0, 1) := by decide +kernel
theorem dL_law_213 : decode cL_law 213 = .ok (.iload 4, 2) := by decide +kernel
theorem dL_law_215 : decode cL_law 215 = .ok (.iconst 3, 1) := by decide +kernel
theorem dL_law_216 : decode cL_law 216 = .ok (.iadd, 1) := by decide +kernel
theorem dL_law_217 : decode cL_law 217 = .ok (.iaload, 1) := by decide +kernel
theorem dL_law_218 : decode cL_law 218 = .ok (.aload_n 0, 1) := by decide +kernel
theorem dL_law_219 : decode cL_law 219 = .ok (.iload 4, 2) := by decide +kernel
theorem dL_law_221 : decode cL_law 221 = .ok (.iconst 4, 1) := by decide +kernel
theorem dL_law_222 : decode cL_law 222 = .ok (.iadd, 1) := by decide +kernel
theorem dL_law_223 : decode cL_law 223 = .ok (.iaload, 1) := by decide +kernel
theorem dL_law_224 : decode cL_law 224 = .ok (.invokevirtual 74, 3) := by decide +kernel
theorem dL_law_227 : decode cL_law 227 = .ok (.istore 6, 2) := by decide +kernel
theorem dL_law_229 : decode cL_law 229 = .ok (.aload_n 2, 1) := by decide +kernel
theorem dL_law_230 : decode cL_law 230 = .ok (.invokevirtual 68, 3) := by decide +kernel
theorem dL_law_233 : decode cL_law 233 = .ok (.iload 5, 2) := by decide +kernel
theorem dL_law_235 : decode cL_law 235 = .ok (.if_icmp .eq 5, 3) := by decide +kernel
theorem dL_law_238 : decode cL_law 238 = .ok (.iconst 0, 1) := by decide +kernel
theorem dL_law_239 : decode cL_law 239 = .ok (.ireturn, 1) := by decide +kernel
theorem dL_law_240 : decode cL_law 240 = .ok (.iload 5, 2) := by decide +kernel
theorem dL_law_242 : decode cL_law 242 = .ok (.ifCond .ne 15, 3) := by decide +kernel
theorem dL_law_245 : decode cL_law 245 = .ok (.aload_n 3, 1) := by decide +kernel
theorem dL_law_246 : decode cL_law 246 = .ok (.iconst 0, 1) := by decide +kernel
theorem dL_law_247 : decode cL_law 247 = .ok (.laload, 1) := by decide +kernel
theorem dL_law_248 : decode cL_law 248 = .ok (.iload 6, 2) := by decide +kernel
theorem dL_law_250 : decode cL_law 250 = .ok (.i2l, 1) := by decide +kernel
theorem dL_law_251 : decode cL_law 251 = .ok (.lcmp, 1) := by decide +kernel
theorem dL_law_252 : decode cL_law 252 = .ok (.ifCond .eq 5, 3) := by decide +kernel
theorem dL_law_255 : decode cL_law 255 = .ok (.iconst 0, 1) := by decide +kernel
theorem dL_law_256 : decode cL_law 256 = .ok (.ireturn, 1) := by decide +kernel
theorem dL_law_257 : decode cL_law 257 = .ok (.goto 744, 3) := by decide +kernel
theorem dL_law_260 : decode cL_law 260 = .ok (.aload_n 1, 1) := by decide +kernel
theorem dL_law_261 : decode cL_law 261 = .ok (.aload_n 0, 1) := by decide +kernel
theorem dL_law_262 : decode cL_law 262 = .ok (.iload 4, 2) := by decide +kernel
theorem dL_law_264 : decode cL_law 264 = .ok (.iconst 1, 1) := by decide +kernel
theorem dL_law_265 : decode cL_law 265 = .ok (.iadd, 1) := by decide +kernel
theorem dL_law_266 : decode cL_law 266 = .ok (.iaload, 1) := by decide +kernel
theorem dL_law_267 : decode cL_law 267 = .ok (.aload_n 0, 1) := by decide +kernel
theorem dL_law_268 : decode cL_law 268 = .ok (.iload 4, 2) := by decide +kernel
theorem dL_law_270 : decode cL_law 270 = .ok (.iconst 2, 1) := by decide +kernel
theorem dL_law_271 : decode cL_law 271 = .ok (.iadd, 1) := by decide +kernel
theorem dL_law_272 : decode cL_law 272 = .ok (.iaload, 1) := by decide +kernel
theorem dL_law_273 : decode cL_law 273 = .ok (.aload_n 0, 1) := by decide +kernel
theorem dL_law_274 : decode cL_law 274 = .ok (.iload 4, 2) := by decide +kernel
theorem dL_law_276 : decode cL_law 276 = .ok (.iconst 3, 1) := by decide +kernel
theorem dL_law_277 : decode cL_law 277 = .ok (.iadd, 1) := by decide +kernel
theorem dL_law_278 : decode cL_law 278 = .ok (.iaload, 1) := by decide +kernel
theorem dL_law_279 : decode cL_law 279 = .ok (.aload_n 3, 1) := by decide +kernel
theorem dL_law_280 : decode cL_law 280 = .ok (.invokestatic 75, 3) := by decide +kernel
theorem dL_law_283 : decode cL_law 283 = .ok (.istore 5, 2) := by decide +kernel
theorem dL_law_285 : decode cL_law 285 = .ok (.aload_n 2, 1) := by decide +kernel
theorem dL_law_286 : decode cL_law 286 = .ok (.aload_n 0, 1) := by decide +kernel
theorem dL_law_287 : decode cL_law 287 = .ok (.iload 4, 2) := by decide +kernel
theorem dL_law_289 : decode cL_law 289 = .ok (.iconst 1, 1) := by decide +kernel
theorem dL_law_290 : decode cL_law 290 = .ok (.iadd, 1) := by decide +kernel
theorem dL_law_291 : decode cL_law 291 = .ok (.iaload, 1) := by decide +kernel
theorem dL_law_292 : decode cL_law 292 = .ok (.aload_n 0, 1) := by decide +kernel
theorem dL_law_293 : decode cL_law 293 = .ok (.iload 4, 2) := by decide +kernel
theorem dL_law_295 : decode cL_law 295 = .ok (.iconst 2, 1) := by decide +kernel
theorem dL_law_296 : decode cL_law 296 = .ok (.iadd, 1) := by decide +kernel
theorem dL_law_297 : decode cL_law 297 = .ok (.iaload, 1) := by decide +kernel
theorem dL_law_298 : decode cL_law 298 = .ok (.aload_n 0, 1) := by decide +kernel
theorem dL_law_299 : decode cL_law 299 = .ok (.iload 4, 2) := by decide +kernel
theorem dL_law_301 : decode cL_law 301 = .ok (.iconst 3, 1) := by decide +kernel
theorem dL_law_302 : decode cL_law 302 = .ok (.iadd, 1) := by decide +kernel
theorem dL_law_303 : decode cL_law 303 = .ok (.iaload, 1) := by decide +kernel
theorem dL_law_304 : decode cL_law 304 = .ok (.invokevirtual 78, 3) := by decide +kernel
theorem dL_law_307 : decode cL_law 307 = .ok (.istore 6, 2) := by decide +kernel
theorem dL_law_309 : decode cL_law 309 = .ok (.aload_n 2, 1) := by decide +kernel
theorem dL_law_310 : decode cL_law 310 = .ok (.invokevirtual 68, 3) := by decide +kernel
theorem dL_law_313 : decode cL_law 313 = .ok (.iload 5, 2) := by decide +kernel
theorem dL_law_315 : decode cL_law 315 = .ok (.if_icmp .eq 5, 3) := by decide +kernel
theorem dL_law_318 : decode cL_law 318 = .ok (.iconst 0, 1) := by decide +kernel
theorem dL_law_319 : decode cL_law 319 = .ok (.ireturn, 1) := by decide +kernel
theorem dL_law_320 : decode cL_law 320 = .ok (.iload 5, 2) := by decide +kernel
theorem dL_law_322 : decode cL_law 322 = .ok (.ifCond .ne 15, 3) := by decide +kernel
theorem dL_law_325 : decode cL_law 325 = .ok (.aload_n 3, 1) := by decide +kernel
theorem dL_law_326 : decode cL_law 326 = .ok (.iconst 0, 1) := by decide +kernel
theorem dL_law_327 : decode cL_law 327 = .ok (.laload, 1) := by decide +kernel
theorem dL_law_328 : decode cL_law 328 = .ok (.iload 6, 2) := by decide +kernel
theorem dL_law_330 : decode cL_law 330 = .ok (.i2l, 1) := by decide +kernel
theorem dL_law_331 : decode cL_law 331 = .ok (.lcmp, 1) := by decide +kernel
theorem dL_law_332 : decode cL_law 332 = .ok (.ifCond .eq 5, 3) := by decide +kernel
theorem dL_law_335 : decode cL_law 335 = .ok (.iconst 0, 1) := by decide +kernel
theorem dL_law_336 : decode cL_law 336 = .ok (.ireturn, 1) := by decide +kernel
theorem dL_law_337 : decode cL_law 337 = .ok (.goto 664, 3) := by decide +kernel
theorem dL_law_340 : decode cL_law 340 = .ok (.aload_n 1, 1) := by decide +kernel
theorem dL_law_341 : decode cL_law 341 = .ok (.aload_n 0, 1) := by decide +kernel
theorem dL_law_342 : decode cL_law 342 = .ok (.iload 4, 2) := by decide +kernel
theorem dL_law_344 : decode cL_law 344 = .ok (.iconst 1, 1) := by decide +kernel
theorem dL_law_345 : decode cL_law 345 = .ok (.iadd, 1) := by decide +kernel
theorem dL_law_346 : decode cL_law 346 = .ok (.iaload, 1) := by decide +kernel
theorem dL_law_347 : decode cL_law 347 = .ok (.aload_n 0, 1) := by decide +kernel
theorem dL_law_348 : decode cL_law 348 = .ok (.iload 4, 2) := by decide +kernel
theorem dL_law_350 : decode cL_law 350 = .ok (.iconst 2, 1) := by decide +kernel
theorem dL_law_351 : decode cL_law 351 = .ok (.iadd, 1) := by decide +kernel
theorem dL_law_352 : decode cL_law 352 = .ok (.iaload, 1) := by decide +kernel
theorem dL_law_353 : decode cL_law 353 = .ok (.aload_n 0, 1) := by decide +kernel
theorem dL_law_354 : decode cL_law 354 = .ok (.iload 4, 2) := by decide +kernel
theorem dL_law_356 : decode cL_law 356 = .ok (.iconst 3, 1) := by decide +kernel
theorem dL_law_357 : decode cL_law 357 = .ok (.iadd, 1) := by decide +kernel
theorem dL_law_358 : decode cL_law 358 = .ok (.iaload, 1) := by decide +kernel
theorem dL_law_359 : decode cL_law 359 = .ok (.aload_n 3, 1) := by decide +kernel
theorem dL_law_360 : decode cL_law 360 = .ok (.invokestatic 79, 3) := by decide +kernel
theorem dL_law_363 : decode cL_law 363 = .ok (.istore 5, 2) := by decide +kernel
theorem dL_law_365 : decode cL_law 365 = .ok (.aload_n 2, 1) := by decide +kernel
theorem dL_law_366 : decode cL_law 366 = .ok (.aload_n 0, 1) := by decide +kernel
theorem dL_law_367 : decode cL_law 367 = .ok (.iload 4, 2) := by decide +kernel
theorem dL_law_369 : decode cL_law 369 = .ok (.iconst 1, 1) := by decide +kernel
theorem dL_law_370 : decode cL_law 370 = .ok (.iadd, 1) := by decide +kernel
theorem dL_law_371 : decode cL_law 371 = .ok (.iaload, 1) := by decide +kernel
theorem dL_law_372 : decode cL_law 372 = .ok (.aload_n 0, 1) := by decide +kernel
theorem dL_law_373 : decode cL_law 373 = .ok (.iload 4, 2) := by decide +kernel
theorem dL_law_375 : decode cL_law 375 = .ok (.iconst 2, 1) := by decide +kernel
theorem dL_law_376 : decode cL_law 376 = .ok (.iadd, 1) := by decide +kernel
theorem dL_law_377 : decode cL_law 377 = .ok (.iaload, 1) := by decide +kernel
theorem dL_law_378 : decode cL_law 378 = .ok (.aload_n 0, 1) := by decide +kernel
theorem dL_law_379 : decode cL_law 379 = .ok (.iload 4, 2) := by decide +kernel
theorem dL_law_381 : decode cL_law 381 = .ok (.iconst 3, 1) := by decide +kernel
theorem dL_law_382 : decode cL_law 382 = .ok (.iadd, 1) := by decide +kernel
theorem dL_law_383 : decode cL_law 383 = .ok (.iaload, 1) := by decide +kernel
theorem dL_law_384 : decode cL_law 384 = .ok (.invokevirtual 81, 3) := by decide +kernel
theorem dL_law_387 : decode cL_law 387 = .ok (.istore 6, 2) := by decide +kernel
theorem dL_law_389 : decode cL_law 389 = .ok (.aload_n 2, 1) := by decide +kernel
theorem dL_law_390 : decode cL_law 390 = .ok (.invokevirtual 68, 3) := by decide +kernel
theorem dL_law_393 : decode cL_law 393 = .ok (.iload 5, 2) := by decide +kernel
theorem dL_law_395 : decode cL_law 395 = .ok (.if_icmp .eq 5, 3) := by decide +kernel
theorem dL_law_398 : decode cL_law 398 = .ok (.iconst 0, 1) := by decide +kernel
theorem dL_law_399 : decode cL_law 399 = .ok (.ireturn, 1) := by decide +kernel
theorem dL_law_400 : decode cL_law 400 = .ok (.iload 5, 2) := by decide +kernel
theorem dL_law_402 : decode cL_law 402 = .ok (.ifCond .ne 15, 3) := by decide +kernel
theorem dL_law_405 : decode cL_law 405 = .ok (.aload_n 3, 1) := by decide +kernel
theorem dL_law_406 : decode cL_law 406 = .ok (.iconst 0, 1) := by decide +kernel
theorem dL_law_407 : decode cL_law 407 = .ok (.laload, 1) := by decide +kernel
theorem dL_law_408 : decode cL_law 408 = .ok (.iload 6, 2) := by decide +kernel
theorem dL_law_410 : decode cL_law 410 = .ok (.i2l, 1) := by decide +kernel
theorem dL_law_411 : decode cL_law 411 = .ok (.lcmp, 1) := by decide +kernel
theorem dL_law_412 : decode cL_law 412 = .ok (.ifCond .eq 5, 3) := by decide +kernel
theorem dL_law_415 : decode cL_law 415 = .ok (.iconst 0, 1) := by decide +kernel
theorem dL_law_416 : decode cL_law 416 = .ok (.ireturn, 1) := by decide +kernel
theorem dL_law_417 : decode cL_law 417 = .ok (.goto 584, 3) := by decide +kernel
theorem dL_law_420 : decode cL_law 420 = .ok (.aload_n 1, 1) := by decide +kernel
theorem dL_law_421 : decode cL_law 421 = .ok (.aload_n 0, 1) := by decide +kernel
theorem dL_law_422 : decode cL_law 422 = .ok (.iload 4, 2) := by decide +kernel
theorem dL_law_424 : decode cL_law 424 = .ok (.iconst 1, 1) := by decide +kernel
theorem dL_law_425 : decode cL_law 425 = .ok (.iadd, 1) := by decide +kernel
theorem dL_law_426 : decode cL_law 426 = .ok (.iaload, 1) := by decide +kernel
theorem dL_law_427 : decode cL_law 427 = .ok (.aload_n 0, 1) := by decide +kernel
theorem dL_law_428 : decode cL_law 428 = .ok (.iload 4, 2) := by decide +kernel
theorem dL_law_430 : decode cL_law 430 = .ok (.iconst 2, 1) := by decide +kernel
theorem dL_law_431 : decode cL_law 431 = .ok (.iadd, 1) := by decide +kernel
theorem dL_law_432 : decode cL_law 432 = .ok (.iaload, 1) := by decide +kernel
theorem dL_law_433 : decode cL_law 433 = .ok (.aload_n 0, 1) := by decide +kernel
theorem dL_law_434 : decode cL_law 434 = .ok (.iload 4, 2) := by decide +kernel
theorem dL_law_436 : decode cL_law 436 = .ok (.iconst 3, 1) := by decide +kernel
theorem dL_law_437 : decode cL_law 437 = .ok (.iadd, 1) := by decide +kernel
theorem dL_law_438 : decode cL_law 438 = .ok (.iaload, 1) := by decide +kernel
theorem dL_law_439 : decode cL_law 439 = .ok (.aload_n 3, 1) := by decide +kernel
theorem dL_law_440 : decode cL_law 440 = .ok (.invokestatic 82, 3) := by decide +kernel
theorem dL_law_443 : decode cL_law 443 = .ok (.istore 5, 2) := by decide +kernel
theorem dL_law_445 : decode cL_law 445 = .ok (.aload_n 2, 1) := by decide +kernel
theorem dL_law_446 : decode cL_law 446 = .ok (.aload_n 0, 1) := by decide +kernel
theorem dL_law_447 : decode cL_law 447 = .ok (.iload 4, 2) := by decide +kernel
theorem dL_law_449 : decode cL_law 449 = .ok (.iconst 1, 1) := by decide +kernel
theorem dL_law_450 : decode cL_law 450 = .ok (.iadd, 1) := by decide +kernel
theorem dL_law_451 : decode cL_law 451 = .ok (.iaload, 1) := by decide +kernel
theorem dL_law_452 : decode cL_law 452 = .ok (.aload_n 0, 1) := by decide +kernel
theorem dL_law_453 : decode cL_law 453 = .ok (.iload 4, 2) := by decide +kernel
theorem dL_law_455 : decode cL_law 455 = .ok (.iconst 2, 1) := by decide +kernel
theorem dL_law_456 : decode cL_law 456 = .ok (.iadd, 1) := by decide +kernel
theorem dL_law_457 : decode cL_law 457 = .ok (.iaload, 1) := by decide +kernel
theorem dL_law_458 : decode cL_law 458 = .ok (.aload_n 0, 1) := by decide +kernel
theorem dL_law_459 : decode cL_law 459 = .ok (.iload 4, 2) := by decide +kernel
theorem dL_law_461 : decode cL_law 461 = .ok (.iconst 3, 1) := by decide +kernel
theorem dL_law_462 : decode cL_law 462 = .ok (.iadd, 1) := by decide +kernel
theorem dL_law_463 : decode cL_law 463 = .ok (.iaload, 1) := by decide +kernel
theorem dL_law_464 : decode cL_law 464 = .ok (.invokevirtual 84, 3) := by decide +kernel
theorem dL_law_467 : decode cL_law 467 = .ok (.istore 6, 2) := by decide +kernel
theorem dL_law_469 : decode cL_law 469 = .ok (.aload_n 2, 1) := by decide +kernel
theorem dL_law_470 : decode cL_law 470 = .ok (.invokevirtual 68, 3) := by decide +kernel
theorem dL_law_473 : decode cL_law 473 = .ok (.iload 5, 2) := by decide +kernel
theorem dL_law_475 : decode cL_law 475 = .ok (.if_icmp .eq 5, 3) := by decide +kernel
theorem dL_law_478 : decode cL_law 478 = .ok (.iconst 0, 1) := by decide +kernel
theorem dL_law_479 : decode cL_law 479 = .ok (.ireturn, 1) := by decide +kernel
theorem dL_law_480 : decode cL_law 480 = .ok (.iload 5, 2) := by decide +kernel
theorem dL_law_482 : decode cL_law 482 = .ok (.ifCond .ne 15, 3) := by decide +kernel
theorem dL_law_485 : decode cL_law 485 = .ok (.aload_n 3, 1) := by decide +kernel
theorem dL_law_486 : decode cL_law 486 = .ok (.iconst 0, 1) := by decide +kernel
theorem dL_law_487 : decode cL_law 487 = .ok (.laload, 1) := by decide +kernel
theorem dL_law_488 : decode cL_law 488 = .ok (.iload 6, 2) := by decide +kernel
theorem dL_law_490 : decode cL_law 490 = .ok (.i2l, 1) := by decide +kernel
theorem dL_law_491 : decode cL_law 491 = .ok (.lcmp, 1) := by decide +kernel
theorem dL_law_492 : decode cL_law 492 = .ok (.ifCond .eq 5, 3) := by decide +kernel
theorem dL_law_495 : decode cL_law 495 = .ok (.iconst 0, 1) := by decide +kernel
theorem dL_law_496 : decode cL_law 496 = .ok (.ireturn, 1) := by decide +kernel
theorem dL_law_497 : decode cL_law 497 = .ok (.goto 504, 3) := by decide +kernel
theorem dL_law_500 : decode cL_law 500 = .ok (.aload_n 1, 1) := by decide +kernel
theorem dL_law_501 : decode cL_law 501 = .ok (.aload_n 3, 1) := by decide +kernel
theorem dL_law_502 : decode cL_law 502 = .ok (.invokestatic 85, 3) := by decide +kernel
theorem dL_law_505 : decode cL_law 505 = .ok (.istore 5, 2) := by decide +kernel
theorem dL_law_507 : decode cL_law 507 = .ok (.aload_n 2, 1) := by decide +kernel
theorem dL_law_508 : decode cL_law 508 = .ok (.invokevirtual 88, 3) := by decide +kernel
theorem dL_law_511 : decode cL_law 511 = .ok (.istore 6, 2) := by decide +kernel
theorem dL_law_513 : decode cL_law 513 = .ok (.aload_n 2, 1) := by decide +kernel
theorem dL_law_514 : decode cL_law 514 = .ok (.invokevirtual 68, 3) := by decide +kernel
theorem dL_law_517 : decode cL_law 517 = .ok (.iload 5, 2) := by decide +kernel
theorem dL_law_519 : decode cL_law 519 = .ok (.if_icmp .eq 5, 3) := by decide +kernel
theorem dL_law_522 : decode cL_law 522 = .ok (.iconst 0, 1) := by decide +kernel
theorem dL_law_523 : decode cL_law 523 = .ok (.ireturn, 1) := by decide +kernel
theorem dL_law_524 : decode cL_law 524 = .ok (.iload 5, 2) := by decide +kernel
theorem dL_law_526 : decode cL_law 526 = .ok (.ifCond .ne 15, 3) := by decide +kernel
theorem dL_law_529 : decode cL_law 529 = .ok (.aload_n 3, 1) := by decide +kernel
theorem dL_law_530 : decode cL_law 530 = .ok (.iconst 0, 1) := by decide +kernel
theorem dL_law_531 : decode cL_law 531 = .ok (.laload, 1) := by decide +kernel
theorem dL_law_532 : decode cL_law 532 = .ok (.iload 6, 2) := by decide +kernel
theorem dL_law_534 : decode cL_law 534 = .ok (.i2l, 1) := by decide +kernel
theorem dL_law_535 : decode cL_law 535 = .ok (.lcmp, 1) := by decide +kernel
theorem dL_law_536 : decode cL_law 536 = .ok (.ifCond .eq 5, 3) := by decide +kernel
theorem dL_law_539 : decode cL_law 539 = .ok (.iconst 0, 1) := by decide +kernel
theorem dL_law_540 : decode cL_law 540 = .ok (.ireturn, 1) := by decide +kernel
theorem dL_law_541 : decode cL_law 541 = .ok (.goto 460, 3) := by decide +kernel
theorem dL_law_544 : decode cL_law 544 = .ok (.aload_n 1, 1) := by decide +kernel
theorem dL_law_545 : decode cL_law 545 = .ok (.aload_n 3, 1) := by decide +kernel
theorem dL_law_546 : decode cL_law 546 = .ok (.invokestatic 89, 3) := by decide +kernel
theorem dL_law_549 : decode cL_law 549 = .ok (.istore 5, 2) := by decide +kernel
theorem dL_law_551 : decode cL_law 551 = .ok (.aload_n 2, 1) := by decide +kernel
theorem dL_law_552 : decode cL_law 552 = .ok (.invokevirtual 91, 3) := by decide +kernel
theorem dL_law_555 : decode cL_law 555 = .ok (.istore 6, 2) := by decide +kernel
theorem dL_law_557 : decode cL_law 557 = .ok (.aload_n 2, 1) := by decide +kernel
theorem dL_law_558 : decode cL_law 558 = .ok (.invokevirtual 68, 3) := by decide +kernel
theorem dL_law_561 : decode cL_law 561 = .ok (.iload 5, 2) := by decide +kernel
theorem dL_law_563 : decode cL_law 563 = .ok (.if_icmp .eq 5, 3) := by decide +kernel
theorem dL_law_566 : decode cL_law 566 = .ok (.iconst 0, 1) := by decide +kernel
theorem dL_law_567 : decode cL_law 567 = .ok (.ireturn, 1) := by decide +kernel
theorem dL_law_568 : decode cL_law 568 = .ok (.iload 5, 2) := by decide +kernel
theorem dL_law_570 : decode cL_law 570 = .ok (.ifCond .ne 15, 3) := by decide +kernel
theorem dL_law_573 : decode cL_law 573 = .ok (.aload_n 3, 1) := by decide +kernel
theorem dL_law_574 : decode cL_law 574 = .ok (.iconst 0, 1) := by decide +kernel
theorem dL_law_575 : decode cL_law 575 = .ok (.laload, 1) := by decide +kernel
theorem dL_law_576 : decode cL_law 576 = .ok (.iload 6, 2) := by decide +kernel
theorem dL_law_578 : decode cL_law 578 = .ok (.i2l, 1) := by decide +kernel
theorem dL_law_579 : decode cL_law 579 = .ok (.lcmp, 1) := by decide +kernel
theorem dL_law_580 : decode cL_law 580 = .ok (.ifCond .eq 5, 3) := by decide +kernel
theorem dL_law_583 : decode cL_law 583 = .ok (.iconst 0, 1) := by decide +kernel
theorem dL_law_584 : decode cL_law 584 = .ok (.ireturn, 1) := by decide +kernel
theorem dL_law_585 : decode cL_law 585 = .ok (.goto 416, 3) := by decide +kernel
theorem dL_law_588 : decode cL_law 588 = .ok (.aload_n 1, 1) := by decide +kernel
theorem dL_law_589 : decode cL_law 589 = .ok (.aload_n 0, 1) := by decide +kernel
theorem dL_law_590 : decode cL_law 590 = .ok (.iload 4, 2) := by decide +kernel
theorem dL_law_592 : decode cL_law 592 = .ok (.iconst 1, 1) := by decide +kernel
theorem dL_law_593 : decode cL_law 593 = .ok (.iadd, 1) := by decide +kernel
theorem dL_law_594 : decode cL_law 594 = .ok (.iaload, 1) := by decide +kernel
theorem dL_law_595 : decode cL_law 595 = .ok (.aload_n 3, 1) := by decide +kernel
theorem dL_law_596 : decode cL_law 596 = .ok (.invokestatic 92, 3) := by decide +kernel
theorem dL_law_599 : decode cL_law 599 = .ok (.istore 5, 2) := by decide +kernel
theorem dL_law_601 : decode cL_law 601 = .ok (.aload_n 2, 1) := by decide +kernel
theorem dL_law_602 : decode cL_law 602 = .ok (.aload_n 0, 1) := by decide +kernel
theorem dL_law_603 : decode cL_law 603 = .ok (.iload 4, 2) := by decide +kernel
theorem dL_law_605 : decode cL_law 605 = .ok (.iconst 1, 1) := by decide +kernel
theorem dL_law_606 : decode cL_law 606 = .ok (.iadd, 1) := by decide +kernel
theorem dL_law_607 : decode cL_law 607 = .ok (.iaload, 1) := by decide +kernel
theorem dL_law_608 : decode cL_law 608 = .ok (.invokevirtual 94, 3) := by decide +kernel
theorem dL_law_611 : decode cL_law 611 = .ok (.istore 6, 2) := by decide +kernel
theorem dL_law_613 : decode cL_law 613 = .ok (.aload_n 2, 1) := by decide +kernel
theorem dL_law_614 : decode cL_law 614 = .ok (.invokevirtual 68, 3) := by decide +kernel
theorem dL_law_617 : decode cL_law 617 = .ok (.iload 5, 2) := by decide +kernel
theorem dL_law_619 : decode cL_law 619 = .ok (.if_icmp .eq 5, 3) := by decide +kernel
theorem dL_law_622 : decode cL_law 622 = .ok (.iconst 0, 1) := by decide +kernel
theorem dL_law_623 : decode cL_law 623 = .ok (.ireturn, 1) := by decide +kernel
theorem dL_law_624 : decode cL_law 624 = .ok (.iload 5, 2) := by decide +kernel
theorem dL_law_626 : decode cL_law 626 = .ok (.ifCond .ne 15, 3) := by decide +kernel
theorem dL_law_629 : decode cL_law 629 = .ok (.aload_n 3, 1) := by decide +kernel
theorem dL_law_630 : decode cL_law 630 = .ok (.iconst 0, 1) := by decide +kernel
theorem dL_law_631 : decode cL_law 631 = .ok (.laload, 1) := by decide +kernel
theorem dL_law_632 : decode cL_law 632 = .ok (.iload 6, 2) := by decide +kernel
theorem dL_law_634 : decode cL_law 634 = .ok (.i2l, 1) := by decide +kernel
theorem dL_law_635 : decode cL_law 635 = .ok (.lcmp, 1) := by decide +kernel
theorem dL_law_636 : decode cL_law 636 = .ok (.ifCond .eq 5, 3) := by decide +kernel
theorem dL_law_639 : decode cL_law 639 = .ok (.iconst 0, 1) := by decide +kernel
theorem dL_law_640 : decode cL_law 640 = .ok (.ireturn, 1) := by decide +kernel
theorem dL_law_641 : decode cL_law 641 = .ok (.goto 360, 3) := by decide +kernel
theorem dL_law_644 : decode cL_law 644 = .ok (.aload_n 1, 1) := by decide +kernel
theorem dL_law_645 : decode cL_law 645 = .ok (.invokevirtual 95, 3) := by decide +kernel
theorem dL_law_648 : decode cL_law 648 = .ok (.aload_n 2, 1) := by decide +kernel
theorem dL_law_649 : decode cL_law 649 = .ok (.invokevirtual 98, 3) := by decide +kernel
theorem dL_law_652 : decode cL_law 652 = .ok (.goto 349, 3) := by decide +kernel
theorem dL_law_655 : decode cL_law 655 = .ok (.aload_n 1, 1) := by decide +kernel
theorem dL_law_656 : decode cL_law 656 = .ok (.invokevirtual 99, 3) := by decide +kernel
theorem dL_law_659 : decode cL_law 659 = .ok (.aload_n 2, 1) := by decide +kernel
theorem dL_law_660 : decode cL_law 660 = .ok (.invokevirtual 102, 3) := by decide +kernel
theorem dL_law_663 : decode cL_law 663 = .ok (.if_icmp .eq 338, 3) := by decide +kernel
theorem dL_law_666 : decode cL_law 666 = .ok (.iconst 0, 1) := by decide +kernel
theorem dL_law_667 : decode cL_law 667 = .ok (.ireturn, 1) := by decide +kernel
theorem dL_law_668 : decode cL_law 668 = .ok (.aload_n 1, 1) := by decide +kernel
theorem dL_law_669 : decode cL_law 669 = .ok (.aload_n 0, 1) := by decide +kernel
theorem dL_law_670 : decode cL_law 670 = .ok (.iload 4, 2) := by decide +kernel
theorem dL_law_672 : decode cL_law 672 = .ok (.iconst 1, 1) := by decide +kernel
theorem dL_law_673 : decode cL_law 673 = .ok (.iadd, 1) := by decide +kernel
theorem dL_law_674 : decode cL_law 674 = .ok (.iaload, 1) := by decide +kernel
theorem dL_law_675 : decode cL_law 675 = .ok (.aload_n 0, 1) := by decide +kernel
theorem dL_law_676 : decode cL_law 676 = .ok (.iload 4, 2) := by decide +kernel
theorem dL_law_678 : decode cL_law 678 = .ok (.iconst 2, 1) := by decide +kernel
theorem dL_law_679 : decode cL_law 679 = .ok (.iadd, 1) := by decide +kernel
theorem dL_law_680 : decode cL_law 680 = .ok (.iaload, 1) := by decide +kernel
theorem dL_law_681 : decode cL_law 681 = .ok (.aload_n 0, 1) := by decide +kernel
theorem dL_law_682 : decode cL_law 682 = .ok (.iload 4, 2) := by decide +kernel
theorem dL_law_684 : decode cL_law 684 = .ok (.iconst 3, 1) := by decide +kernel
theorem dL_law_685 : decode cL_law 685 = .ok (.iadd, 1) := by decide +kernel
theorem dL_law_686 : decode cL_law 686 = .ok (.iaload, 1) := by decide +kernel
theorem dL_law_687 : decode cL_law 687 = .ok (.aload_n 3, 1) := by decide +kernel
theorem dL_law_688 : decode cL_law 688 = .ok (.invokestatic 103, 3) := by decide +kernel
theorem dL_law_691 : decode cL_law 691 = .ok (.istore 5, 2) := by decide +kernel
theorem dL_law_693 : decode cL_law 693 = .ok (.aload_n 2, 1) := by decide +kernel
theorem dL_law_694 : decode cL_law 694 = .ok (.aload_n 0, 1) := by decide +kernel
theorem dL_law_695 : decode cL_law 695 = .ok (.iload 4, 2) := by decide +kernel
theorem dL_law_697 : decode cL_law 697 = .ok (.iconst 1, 1) := by decide +kernel
theorem dL_law_698 : decode cL_law 698 = .ok (.iadd, 1) := by decide +kernel
theorem dL_law_699 : decode cL_law 699 = .ok (.iaload, 1) := by decide +kernel
theorem dL_law_700 : decode cL_law 700 = .ok (.aload_n 0, 1) := by decide +kernel
theorem dL_law_701 : decode cL_law 701 = .ok (.iload 4, 2) := by decide +kernel
theorem dL_law_703 : decode cL_law 703 = .ok (.iconst 2, 1) := by decide +kernel
theorem dL_law_704 : decode cL_law 704 = .ok (.iadd, 1) := by decide +kernel
theorem dL_law_705 : decode cL_law 705 = .ok (.iaload, 1) := by decide +kernel
theorem dL_law_706 : decode cL_law 706 = .ok (.aload_n 0, 1) := by decide +kernel
theorem dL_law_707 : decode cL_law 707 = .ok (.iload 4, 2) := by decide +kernel
theorem dL_law_709 : decode cL_law 709 = .ok (.iconst 3, 1) := by decide +kernel
theorem dL_law_710 : decode cL_law 710 = .ok (.iadd, 1) := by decide +kernel
theorem dL_law_711 : decode cL_law 711 = .ok (.iaload, 1) := by decide +kernel
theorem dL_law_712 : decode cL_law 712 = .ok (.invokevirtual 105, 3) := by decide +kernel
theorem dL_law_715 : decode cL_law 715 = .ok (.istore 6, 2) := by decide +kernel
theorem dL_law_717 : decode cL_law 717 = .ok (.aload_n 2, 1) := by decide +kernel
theorem dL_law_718 : decode cL_law 718 = .ok (.invokevirtual 68, 3) := by decide +kernel
theorem dL_law_721 : decode cL_law 721 = .ok (.iload 5, 2) := by decide +kernel
theorem dL_law_723 : decode cL_law 723 = .ok (.if_icmp .eq 5, 3) := by decide +kernel
theorem dL_law_726 : decode cL_law 726 = .ok (.iconst 0, 1) := by decide +kernel
theorem dL_law_727 : decode cL_law 727 = .ok (.ireturn, 1) := by decide +kernel
theorem dL_law_728 : decode cL_law 728 = .ok (.iload 5, 2) := by decide +kernel
theorem dL_law_730 : decode cL_law 730 = .ok (.ifCond .ne 15, 3) := by decide +kernel
theorem dL_law_733 : decode cL_law 733 = .ok (.aload_n 3, 1) := by decide +kernel
theorem dL_law_734 : decode cL_law 734 = .ok (.iconst 0, 1) := by decide +kernel
theorem dL_law_735 : decode cL_law 735 = .ok (.laload, 1) := by decide +kernel
theorem dL_law_736 : decode cL_law 736 = .ok (.iload 6, 2) := by decide +kernel
theorem dL_law_738 : decode cL_law 738 = .ok (.i2l, 1) := by decide +kernel
theorem dL_law_739 : decode cL_law 739 = .ok (.lcmp, 1) := by decide +kernel
theorem dL_law_740 : decode cL_law 740 = .ok (.ifCond .eq 5, 3) := by decide +kernel
theorem dL_law_743 : decode cL_law 743 = .ok (.iconst 0, 1) := by decide +kernel
theorem dL_law_744 : decode cL_law 744 = .ok (.ireturn, 1) := by decide +kernel
theorem dL_law_745 : decode cL_law 745 = .ok (.goto 256, 3) := by decide +kernel
theorem dL_law_748 : decode cL_law 748 = .ok (.aload_n 1, 1) := by decide +kernel
theorem dL_law_749 : decode cL_law 749 = .ok (.aload_n 0, 1) := by decide +kernel
theorem dL_law_750 : decode cL_law 750 = .ok (.iload 4, 2) := by decide +kernel
theorem dL_law_752 : decode cL_law 752 = .ok (.iconst 1, 1) := by decide +kernel
theorem dL_law_753 : decode cL_law 753 = .ok (.iadd, 1) := by decide +kernel
theorem dL_law_754 : decode cL_law 754 = .ok (.iaload, 1) := by decide +kernel
theorem dL_law_755 : decode cL_law 755 = .ok (.invokevirtual 106, 3) := by decide +kernel
theorem dL_law_758 : decode cL_law 758 = .ok (.aload_n 2, 1) := by decide +kernel
theorem dL_law_759 : decode cL_law 759 = .ok (.aload_n 0, 1) := by decide +kernel
theorem dL_law_760 : decode cL_law 760 = .ok (.iload 4, 2) := by decide +kernel
theorem dL_law_762 : decode cL_law 762 = .ok (.iconst 1, 1) := by decide +kernel
theorem dL_law_763 : decode cL_law 763 = .ok (.iadd, 1) := by decide +kernel
theorem dL_law_764 : decode cL_law 764 = .ok (.iaload, 1) := by decide +kernel
theorem dL_law_765 : decode cL_law 765 = .ok (.invokevirtual 109, 3) := by decide +kernel
theorem dL_law_768 : decode cL_law 768 = .ok (.if_icmp .eq 233, 3) := by decide +kernel
theorem dL_law_771 : decode cL_law 771 = .ok (.iconst 0, 1) := by decide +kernel
theorem dL_law_772 : decode cL_law 772 = .ok (.ireturn, 1) := by decide +kernel
theorem dL_law_773 : decode cL_law 773 = .ok (.aload_n 1, 1) := by decide +kernel
theorem dL_law_774 : decode cL_law 774 = .ok (.aload_n 0, 1) := by decide +kernel
theorem dL_law_775 : decode cL_law 775 = .ok (.iload 4, 2) := by decide +kernel
theorem dL_law_777 : decode cL_law 777 = .ok (.iconst 1, 1) := by decide +kernel
theorem dL_law_778 : decode cL_law 778 = .ok (.iadd, 1) := by decide +kernel
theorem dL_law_779 : decode cL_law 779 = .ok (.iaload, 1) := by decide +kernel
theorem dL_law_780 : decode cL_law 780 = .ok (.aload_n 0, 1) := by decide +kernel
theorem dL_law_781 : decode cL_law 781 = .ok (.iload 4, 2) := by decide +kernel
theorem dL_law_783 : decode cL_law 783 = .ok (.iconst 2, 1) := by decide +kernel
theorem dL_law_784 : decode cL_law 784 = .ok (.iadd, 1) := by decide +kernel
theorem dL_law_785 : decode cL_law 785 = .ok (.iaload, 1) := by decide +kernel
theorem dL_law_786 : decode cL_law 786 = .ok (.aload_n 0, 1) := by decide +kernel
theorem dL_law_787 : decode cL_law 787 = .ok (.iload 4, 2) := by decide +kernel
theorem dL_law_789 : decode cL_law 789 = .ok (.iconst 3, 1) := by decide +kernel
theorem dL_law_790 : decode cL_law 790 = .ok (.iadd, 1) := by decide +kernel
theorem dL_law_791 : decode cL_law 791 = .ok (.iaload, 1) := by decide +kernel
theorem dL_law_792 : decode cL_law 792 = .ok (.aload_n 3, 1) := by decide +kernel
theorem dL_law_793 : decode cL_law 793 = .ok (.invokestatic 110, 3) := by decide +kernel
theorem dL_law_796 : decode cL_law 796 = .ok (.istore 5, 2) := by decide +kernel
theorem dL_law_798 : decode cL_law 798 = .ok (.aload_n 2, 1) := by decide +kernel
theorem dL_law_799 : decode cL_law 799 = .ok (.aload_n 0, 1) := by decide +kernel
theorem dL_law_800 : decode cL_law 800 = .ok (.iload 4, 2) := by decide +kernel
theorem dL_law_802 : decode cL_law 802 = .ok (.iconst 1, 1) := by decide +kernel
theorem dL_law_803 : decode cL_law 803 = .ok (.iadd, 1) := by decide +kernel
theorem dL_law_804 : decode cL_law 804 = .ok (.iaload, 1) := by decide +kernel
theorem dL_law_805 : decode cL_law 805 = .ok (.aload_n 0, 1) := by decide +kernel
theorem dL_law_806 : decode cL_law 806 = .ok (.iload 4, 2) := by decide +kernel
theorem dL_law_808 : decode cL_law 808 = .ok (.iconst 2, 1) := by decide +kernel
theorem dL_law_809 : decode cL_law 809 = .ok (.iadd, 1) := by decide +kernel
theorem dL_law_810 : decode cL_law 810 = .ok (.iaload, 1) := by decide +kernel
theorem dL_law_811 : decode cL_law 811 = .ok (.aload_n 0, 1) := by decide +kernel
theorem dL_law_812 : decode cL_law 812 = .ok (.iload 4, 2) := by decide +kernel
theorem dL_law_814 : decode cL_law 814 = .ok (.iconst 3, 1) := by decide +kernel
theorem dL_law_815 : decode cL_law 815 = .ok (.iadd, 1) := by decide +kernel
theorem dL_law_816 : decode cL_law 816 = .ok (.iaload, 1) := by decide +kernel
theorem dL_law_817 : decode cL_law 817 = .ok (.invokevirtual 112, 3) := by decide +kernel
theorem dL_law_820 : decode cL_law 820 = .ok (.istore 6, 2) := by decide +kernel
theorem dL_law_822 : decode cL_law 822 = .ok (.aload_n 2, 1) := by decide +kernel
theorem dL_law_823 : decode cL_law 823 = .ok (.invokevirtual 68, 3) := by decide +kernel
theorem dL_law_826 : decode cL_law 826 = .ok (.iload 5, 2) := by decide +kernel
theorem dL_law_828 : decode cL_law 828 = .ok (.if_icmp .eq 5, 3) := by decide +kernel
theorem dL_law_831 : decode cL_law 831 = .ok (.iconst 0, 1) := by decide +kernel
theorem dL_law_832 : decode cL_law 832 = .ok (.ireturn, 1) := by decide +kernel
theorem dL_law_833 : decode cL_law 833 = .ok (.iload 5, 2) := by decide +kernel
theorem dL_law_835 : decode cL_law 835 = .ok (.ifCond .ne 15, 3) := by decide +kernel
theorem dL_law_838 : decode cL_law 838 = .ok (.aload_n 3, 1) := by decide +kernel
theorem dL_law_839 : decode cL_law 839 = .ok (.iconst 0, 1) := by decide +kernel
theorem dL_law_840 : decode cL_law 840 = .ok (.laload, 1) := by decide +kernel
theorem dL_law_841 : decode cL_law 841 = .ok (.iload 6, 2) := by decide +kernel
theorem dL_law_843 : decode cL_law 843 = .ok (.i2l, 1) := by decide +kernel
theorem dL_law_844 : decode cL_law 844 = .ok (.lcmp, 1) := by decide +kernel
theorem dL_law_845 : decode cL_law 845 = .ok (.ifCond .eq 5, 3) := by decide +kernel
theorem dL_law_848 : decode cL_law 848 = .ok (.iconst 0, 1) := by decide +kernel
theorem dL_law_849 : decode cL_law 849 = .ok (.ireturn, 1) := by decide +kernel
theorem dL_law_850 : decode cL_law 850 = .ok (.goto 151, 3) := by decide +kernel
theorem dL_law_853 : decode cL_law 853 = .ok (.aload_n 1, 1) := by decide +kernel
theorem dL_law_854 : decode cL_law 854 = .ok (.aload_n 0, 1) := by decide +kernel
theorem dL_law_855 : decode cL_law 855 = .ok (.iload 4, 2) := by decide +kernel
theorem dL_law_857 : decode cL_law 857 = .ok (.iconst 1, 1) := by decide +kernel
theorem dL_law_858 : decode cL_law 858 = .ok (.iadd, 1) := by decide +kernel
theorem dL_law_859 : decode cL_law 859 = .ok (.iaload, 1) := by decide +kernel
theorem dL_law_860 : decode cL_law 860 = .ok (.aload_n 0, 1) := by decide +kernel
theorem dL_law_861 : decode cL_law 861 = .ok (.iload 4, 2) := by decide +kernel
theorem dL_law_863 : decode cL_law 863 = .ok (.iconst 2, 1) := by decide +kernel
theorem dL_law_864 : decode cL_law 864 = .ok (.iadd, 1) := by decide +kernel
theorem dL_law_865 : decode cL_law 865 = .ok (.iaload, 1) := by decide +kernel
theorem dL_law_866 : decode cL_law 866 = .ok (.aload_n 0, 1) := by decide +kernel
theorem dL_law_867 : decode cL_law 867 = .ok (.iload 4, 2) := by decide +kernel
theorem dL_law_869 : decode cL_law 869 = .ok (.iconst 3, 1) := by decide +kernel
theorem dL_law_870 : decode cL_law 870 = .ok (.iadd, 1) := by decide +kernel
theorem dL_law_871 : decode cL_law 871 = .ok (.iaload, 1) := by decide +kernel
theorem dL_law_872 : decode cL_law 872 = .ok (.aload_n 3, 1) := by decide +kernel
theorem dL_law_873 : decode cL_law 873 = .ok (.invokestatic 113, 3) := by decide +kernel
theorem dL_law_876 : decode cL_law 876 = .ok (.istore 5, 2) := by decide +kernel
theorem dL_law_878 : decode cL_law 878 = .ok (.aload_n 2, 1) := by decide +kernel
theorem dL_law_879 : decode cL_law 879 = .ok (.aload_n 0, 1) := by decide +kernel
theorem dL_law_880 : decode cL_law 880 = .ok (.iload 4, 2) := by decide +kernel
theorem dL_law_882 : decode cL_law 882 = .ok (.iconst 1, 1) := by decide +kernel
theorem dL_law_883 : decode cL_law 883 = .ok (.iadd, 1) := by decide +kernel
theorem dL_law_884 : decode cL_law 884 = .ok (.iaload, 1) := by decide +kernel
theorem dL_law_885 : decode cL_law 885 = .ok (.aload_n 0, 1) := by decide +kernel
theorem dL_law_886 : decode cL_law 886 = .ok (.iload 4, 2) := by decide +kernel
theorem dL_law_888 : decode cL_law 888 = .ok (.iconst 2, 1) := by decide +kernel
theorem dL_law_889 : decode cL_law 889 = .ok (.iadd, 1) := by decide +kernel
theorem dL_law_890 : decode cL_law 890 = .ok (.iaload, 1) := by decide +kernel
theorem dL_law_891 : decode cL_law 891 = .ok (.aload_n 0, 1) := by decide +kernel
theorem dL_law_892 : decode cL_law 892 = .ok (.iload 4, 2) := by decide +kernel
theorem dL_law_894 : decode cL_law 894 = .ok (.iconst 3, 1) := by decide +kernel
theorem dL_law_895 : decode cL_law 895 = .ok (.iadd, 1) := by decide +kernel
theorem dL_law_896 : decode cL_law 896 = .ok (.iaload, 1) := by decide +kernel
theorem dL_law_897 : decode cL_law 897 = .ok (.invokevirtual 115, 3) := by decide +kernel
theorem dL_law_900 : decode cL_law 900 = .ok (.istore 6, 2) := by decide +kernel
theorem dL_law_902 : decode cL_law 902 = .ok (.aload_n 2, 1) := by decide +kernel
theorem dL_law_903 : decode cL_law 903 = .ok (.invokevirtual 68, 3) := by decide +kernel
theorem dL_law_906 : decode cL_law 906 = .ok (.iload 5, 2) := by decide +kernel
theorem dL_law_908 : decode cL_law 908 = .ok (.if_icmp .eq 5, 3) := by decide +kernel
theorem dL_law_911 : decode cL_law 911 = .ok (.iconst 0, 1) := by decide +kernel
theorem dL_law_912 : decode cL_law 912 = .ok (.ireturn, 1) := by decide +kernel
theorem dL_law_913 : decode cL_law 913 = .ok (.iload 5, 2) := by decide +kernel
theorem dL_law_915 : decode cL_law 915 = .ok (.ifCond .ne 15, 3) := by decide +kernel
theorem dL_law_918 : decode cL_law 918 = .ok (.aload_n 3, 1) := by decide +kernel
theorem dL_law_919 : decode cL_law 919 = .ok (.iconst 0, 1) := by decide +kernel
theorem dL_law_920 : decode cL_law 920 = .ok (.laload, 1) := by decide +kernel
theorem dL_law_921 : decode cL_law 921 = .ok (.iload 6, 2) := by decide +kernel
theorem dL_law_923 : decode cL_law 923 = .ok (.i2l, 1) := by decide +kernel
theorem dL_law_924 : decode cL_law 924 = .ok (.lcmp, 1) := by decide +kernel
theorem dL_law_925 : decode cL_law 925 = .ok (.ifCond .eq 5, 3) := by decide +kernel
theorem dL_law_928 : decode cL_law 928 = .ok (.iconst 0, 1) := by decide +kernel
theorem dL_law_929 : decode cL_law 929 = .ok (.ireturn, 1) := by decide +kernel
theorem dL_law_930 : decode cL_law 930 = .ok (.goto 71, 3) := by decide +kernel
theorem dL_law_933 : decode cL_law 933 = .ok (.aload_n 1, 1) := by decide +kernel
theorem dL_law_934 : decode cL_law 934 = .ok (.aload_n 0, 1) := by decide +kernel
theorem dL_law_935 : decode cL_law 935 = .ok (.iload 4, 2) := by decide +kernel
theorem dL_law_937 : decode cL_law 937 = .ok (.iconst 1, 1) := by decide +kernel
theorem dL_law_938 : decode cL_law 938 = .ok (.iadd, 1) := by decide +kernel
theorem dL_law_939 : decode cL_law 939 = .ok (.iaload, 1) := by decide +kernel
theorem dL_law_940 : decode cL_law 940 = .ok (.aload_n 0, 1) := by decide +kernel
theorem dL_law_941 : decode cL_law 941 = .ok (.iload 4, 2) := by decide +kernel
theorem dL_law_943 : decode cL_law 943 = .ok (.iconst 2, 1) := by decide +kernel
theorem dL_law_944 : decode cL_law 944 = .ok (.iadd, 1) := by decide +kernel
theorem dL_law_945 : decode cL_law 945 = .ok (.iaload, 1) := by decide +kernel
theorem dL_law_946 : decode cL_law 946 = .ok (.aload_n 3, 1) := by decide +kernel
theorem dL_law_947 : decode cL_law 947 = .ok (.invokestatic 116, 3) := by decide +kernel
theorem dL_law_950 : decode cL_law 950 = .ok (.istore 5, 2) := by decide +kernel
theorem dL_law_952 : decode cL_law 952 = .ok (.aload_n 2, 1) := by decide +kernel
theorem dL_law_953 : decode cL_law 953 = .ok (.aload_n 0, 1) := by decide +kernel
theorem dL_law_954 : decode cL_law 954 = .ok (.iload 4, 2) := by decide +kernel
theorem dL_law_956 : decode cL_law 956 = .ok (.iconst 1, 1) := by decide +kernel
theorem dL_law_957 : decode cL_law 957 = .ok (.iadd, 1) := by decide +kernel
theorem dL_law_958 : decode cL_law 958 = .ok (.iaload, 1) := by decide +kernel
theorem dL_law_959 : decode cL_law 959 = .ok (.aload_n 0, 1) := by decide +kernel
theorem dL_law_960 : decode cL_law 960 = .ok (.iload 4, 2) := by decide +kernel
theorem dL_law_962 : decode cL_law 962 = .ok (.iconst 2, 1) := by decide +kernel
theorem dL_law_963 : decode cL_law 963 = .ok (.iadd, 1) := by decide +kernel
theorem dL_law_964 : decode cL_law 964 = .ok (.iaload, 1) := by decide +kernel
theorem dL_law_965 : decode cL_law 965 = .ok (.invokevirtual 119, 3) := by decide +kernel
theorem dL_law_968 : decode cL_law 968 = .ok (.istore 6, 2) := by decide +kernel
theorem dL_law_970 : decode cL_law 970 = .ok (.aload_n 2, 1) := by decide +kernel
theorem dL_law_971 : decode cL_law 971 = .ok (.invokevirtual 68, 3) := by decide +kernel
theorem dL_law_974 : decode cL_law 974 = .ok (.iload 5, 2) := by decide +kernel
theorem dL_law_976 : decode cL_law 976 = .ok (.if_icmp .eq 5, 3) := by decide +kernel
theorem dL_law_979 : decode cL_law 979 = .ok (.iconst 0, 1) := by decide +kernel
theorem dL_law_980 : decode cL_law 980 = .ok (.ireturn, 1) := by decide +kernel
theorem dL_law_981 : decode cL_law 981 = .ok (.iload 5, 2) := by decide +kernel
theorem dL_law_983 : decode cL_law 983 = .ok (.ifCond .ne 15, 3) := by decide +kernel
theorem dL_law_986 : decode cL_law 986 = .ok (.aload_n 3, 1) := by decide +kernel
theorem dL_law_987 : decode cL_law 987 = .ok (.iconst 0, 1) := by decide +kernel
theorem dL_law_988 : decode cL_law 988 = .ok (.laload, 1) := by decide +kernel
theorem dL_law_989 : decode cL_law 989 = .ok (.iload 6, 2) := by decide +kernel
theorem dL_law_991 : decode cL_law 991 = .ok (.i2l, 1) := by decide +kernel
theorem dL_law_992 : decode cL_law 992 = .ok (.lcmp, 1) := by decide +kernel
theorem dL_law_993 : decode cL_law 993 = .ok (.ifCond .eq 5, 3) := by decide +kernel
theorem dL_law_996 : decode cL_law 996 = .ok (.iconst 0, 1) := by decide +kernel
theorem dL_law_997 : decode cL_law 997 = .ok (.ireturn, 1) := by decide +kernel
theorem dL_law_998 : decode cL_law 998 = .ok (.goto 3, 3) := by decide +kernel
theorem dL_law_1001 : decode cL_law 1001 = .ok (.iinc 4 5, 3) := by decide +kernel
theorem dL_law_1004 : decode cL_law 1004 = .ok (.goto (-981), 3) := by decide +kernel
theorem dL_law_1007 : decode cL_law 1007 = .ok (.iconst 1, 1) := by decide +kernel
theorem dL_law_1008 : decode cL_law 1008 = .ok (.ireturn, 1) := by decide +kernel
end
section
/-! A system's memory: cells by their numbers. Y: how many cells, the address of each, its kind and length, the cell that a reference slot holds. I: what the int slots hold. -/
abbrev Ly : Type := Nat × (Nat → Nat) × (Nat → Nat × Nat) × (Nat → Nat → Nat)
abbrev Mm : Type := Nat → Nat → Int32
/-- the classes' numbers and slots, the class of int rows, the classes of rows of references by their kinds -/
abbrev Cc : Type := va_G × ClassId × (Nat → ClassId)
def ky_nf (c : Nat) : Nat := [2, 5, 3, 5, 9, 6, 12, 39].getD c 0
def ky_rf (c j : Nat) : Bool := ([[0], [0, 1, 3], [], [4], [2, 3, 4, 5, 6, 7, 8], [0, 2, 3, 4], [0, 2, 7, 9, 10, 11], [2, 3, 4, 5, 6, 8, 9, 10, 11, 12, 13, 14, 15, 16, 17, 18, 19, 22, 26, 27, 28, 29, 31, 32, 33, 34, 35, 36]].getD c []).contains j
def ky_fl (Y : Ly) (I : Mm) (k c : Nat) : List Value := (List.range (ky_nf c)).map (fun j => if ky_rf c j = true then Value.ref (Y.2.1 (Y.2.2.2 k j)) else Value.int (I k j))
def ky_ce (C : Cc) (Y : Ly) (I : Mm) (k : Nat) : va_E :=
  if (Y.2.2.1 k).1 = 8 then .inl (C.2.1, (Y.2.2.1 k).2, .inl (I k))
  else if (Y.2.2.1 k).1 < 8 then .inr ((Y.2.2.1 k).1, ky_fl Y I k (Y.2.2.1 k).1)
  else .inl (C.2.2 (Y.2.2.1 k).1, (Y.2.2.1 k).2, .inr (.inr (.inr (.inr (fun j => some (Y.2.1 (Y.2.2.2 k j)))))))
def ky_wl (C : Cc) (Y : Ly) (I : Mm) : va_W := (List.range Y.1).map (fun k => (Y.2.1 k, ky_ce C Y I k))
/-- cell k is there, and of kind c -/
def ky_is (Y : Ly) (k c : Nat) : Prop := k < Y.1 ∧ (Y.2.2.1 k).1 = c
abbrev ky_ln (Y : Ly) (k : Nat) : Nat := (Y.2.2.1 k).2
abbrev ky_rp (Y : Ly) (k j : Nat) : Nat := Y.2.2.2 k j
def ky_up (I : Mm) (k j : Nat) (v : Int32) : Mm := fun a => if a = k then upd (I k) j v else I a
/-- n ints of row b from its place sp on, laid into row a from its place dp on -/
def ky_cp (I : Mm) (b a sp dp n : Nat) : Mm := fun x => if x = a then va_cpy (I b) (I a) sp dp n else I x
theorem ky_up_ne {I : Mm} {k j a : Nat} {v : Int32} (h : a ≠ k) : ky_up I k j v a = I a := by simp [ky_up, h]
theorem ky_up_eq {I : Mm} {k j : Nat} {v : Int32} : ky_up I k j v k = upd (I k) j v := by simp [ky_up]
theorem ky_fl_get {Y : Ly} {I : Mm} {k c j : Nat} (h : j < ky_nf c) : (ky_fl Y I k c)[j]? = some (if ky_rf c j = true then Value.ref (Y.2.1 (Y.2.2.2 k j)) else Value.int (I k j)) := by
  simp [ky_fl, List.getElem?_map, List.getElem?_range h]
theorem ky_fl_len {Y : Ly} {I : Mm} {k c : Nat} : (ky_fl Y I k c).length = ky_nf c := by simp [ky_fl]
theorem ky_fl_set {Y : Ly} {I : Mm} {k c j : Nat} {v : Int32} (hr : ky_rf c j = false) : (ky_fl Y I k c).set j (.int v) = ky_fl Y (ky_up I k j v) k c := by
  apply List.ext_getElem?
  intro i
  by_cases hi : i < ky_nf c
  · rw [ky_fl_get hi]
    by_cases hij : j = i
    · subst hij
      rw [List.getElem?_set_self (by rw [ky_fl_len]; exact hi), ky_up_eq]
      simp [hr, upd]
    · rw [List.getElem?_set_ne hij, ky_fl_get hi, ky_up_eq]
      have h2 : ¬ i = j := fun h => hij h.symm
      simp [upd, h2]
  · have h1 : (ky_fl Y (ky_up I k j v) k c)[i]? = none := List.getElem?_eq_none (by rw [ky_fl_len]; omega)
    rw [h1]
    exact List.getElem?_eq_none (by rw [List.length_set, ky_fl_len]; omega)
theorem ky_wl_get {C : Cc} {Y : Ly} {I : Mm} {k : Nat} (hk : k < Y.1) : (ky_wl C Y I)[k]? = some (Y.2.1 k, ky_ce C Y I k) := by
  simp [ky_wl, List.getElem?_map, List.getElem?_range hk]
theorem ky_wl_len {C : Cc} {Y : Ly} {I : Mm} : (ky_wl C Y I).length = Y.1 := by simp [ky_wl]
theorem ky_wl_set {C : Cc} {Y : Ly} {I J : Mm} {k : Nat} {e : va_E} (he : e = ky_ce C Y J k) (ho : ∀ a, a ≠ k → J a = I a) : (ky_wl C Y I).set k (Y.2.1 k, e) = ky_wl C Y J := by
  apply List.ext_getElem?
  intro i
  by_cases hi : i < Y.1
  · rw [ky_wl_get hi]
    by_cases hik : k = i
    · subst hik
      rw [List.getElem?_set_self (by rw [ky_wl_len]; exact hi), he]
    · rw [List.getElem?_set_ne hik, ky_wl_get hi]
      have h2 : J i = I i := ho i (fun h => hik h.symm)
      simp [ky_ce, ky_fl, h2]
  · have h1 : (ky_wl C Y J)[i]? = none := List.getElem?_eq_none (by rw [ky_wl_len]; omega)
    rw [h1]
    exact List.getElem?_eq_none (by rw [List.length_set, ky_wl_len]; omega)
theorem ky_ce_o {C : Cc} {Y : Ly} {I : Mm} {k c : Nat} (h : ky_is Y k c) (hc : c < 8) : ky_ce C Y I k = .inr (c, ky_fl Y I k c) := by
  obtain ⟨_, h2⟩ := h
  have h3 : ¬ c = 8 := by omega
  simp [ky_ce, h2, h3, hc]
theorem ky_ce_i {C : Cc} {Y : Ly} {I : Mm} {k : Nat} (h : ky_is Y k 8) : ky_ce C Y I k = .inl (C.2.1, ky_ln Y k, .inl (I k)) := by
  obtain ⟨_, h2⟩ := h
  simp [ky_ce, h2]
theorem ky_ce_r {C : Cc} {Y : Ly} {I : Mm} {k c : Nat} (h : ky_is Y k c) (hc : 8 < c) : ky_ce C Y I k = .inl (C.2.2 c, ky_ln Y k, .inr (.inr (.inr (.inr (fun j => some (Y.2.1 (Y.2.2.2 k j))))))) := by
  obtain ⟨_, h2⟩ := h
  have h3 : ¬ c = 8 := by omega
  have h4 : ¬ c < 8 := by omega
  simp [ky_ce, h2, h3, h4]
/-- the words of the tables that stay -/
def ky_WS : List Cond := lw_tbl.filter goodWord
theorem ky_in {w : Cond} (i : Nat) (h : tables_1[i]? = some w) (hg : goodWord w = true) : w ∈ ky_WS := List.mem_filter.mpr ⟨List.mem_append_right _ (List.mem_of_getElem? h), hg⟩
theorem ky_inS {w : Cond} (i : Nat) (h : (k2_sels lw_privs)[i]? = some w) (hg : goodWord w = true) : w ∈ ky_WS := List.mem_filter.mpr ⟨List.mem_append_left _ (List.mem_of_getElem? h), hg⟩
theorem ky_good {w0 : Cond} {ws : List Cond} (h : ∀ w ∈ ws, w ∈ ky_WS) : GoodIn (w0 :: ky_WS) ws := fun w hw => ⟨List.mem_cons_of_mem _ (h w hw), good_of_word (List.mem_filter.mp (h w hw)).2⟩
/-- rows of references: their kinds -/
abbrev ky_ty (C : Cc) : List (ClassId × FieldType) := [(C.2.1, .int), (C.2.2 9, .object RX1), (C.2.2 10, .object RX2), (C.2.2 11, .object RX3), (C.2.2 12, .object RX4)]
/-- private members of nest mates that are called behind the constructor -/
def ky_nest (U : State) : Prop := va_Nw (.methodLinkNest RX2 16 yX6_pointAt RX6) U ∧ va_Nw (.methodLinkNest RX4 48 yX6_isLimit RX6) U ∧ va_Nw (.methodLinkNest RX4 51 yX6_pointAt RX6) U
theorem ky_nest.warm {s U : State} (hW : s.WarmedH U.vm) (h : ky_nest s) : ky_nest U := ⟨h.1.warmM hW, h.2.1.warmM hW, h.2.2.warmM hW⟩
def ky_K (C : Cc) (U : State) : Prop := va_K C.1 vwCl (ky_ty C) U ∧ ky_nest U
theorem ky_K.warm {C : Cc} {s U : State} (hW : s.WarmedH U.vm) (h : ky_K C s) : ky_K C U := ⟨va_K.moved hW.alike h.1, h.2.warm hW⟩
/-- what holds in a method of ours all along -/
def ky_X (p : Program) (s : State) (m : MethodId) (args : Array Value) (meth : Method) (c : Code) (C : Cc) (cc : ByteArray) (nL : Nat) (own : String) : Prop :=
  p.tables.exec = Jvm.exec ∧ c.code = cc ∧ c.maxLocals = nL ∧ meth.locks = false ∧ s.vm.findClass own = some m.cls ∧ (∀ w ∈ ky_WS, w.before args s = true) ∧ ky_K C s
/-- the machine at pc, with these locals, this stack, this memory, comes to Q -/
def ky_G (p : Program) (l : Launch) (e : Env) (R : Room) (s : State) (m : MethodId) (args : Array Value) (below : List Frame) (meth : Method) (c : Code) (C : Cc) (Y : Ly) (A : Nat → Prop) (nL : Nat) (Q : State → Prop) (pc : Nat) (lv : List (Nat × Value)) (st : List Value) (I : Mm) : Prop :=
  ∀ (H : Heap) (locs : List Loc) (ls : Array Slot), va_P C.1 vwCl (ky_wl C Y I) H → va_D A (ky_wl C Y I) → va_S A s.heap H locs → lv_has ls nL lv → W p l e R s m args below meth c H locs 0 0 Q (F0 m pc ls st)
section KYR
variable {p : Program} {l : Launch} {e : Env} {R : Room} {s : State} {m : MethodId} {args : Array Value} {below : List Frame} {meth : Method} {c : Code} {C : Cc} {Y : Ly} {A : Nat → Prop} {Q : State → Prop} {cc : ByteArray} {nL pc : Nat} {own : String} {lv lv' : List (Nat × Value)} {st : List Value} {I : Mm}
theorem kg_sub (ks : List Nat) (hl : lv_pick lv ks = lv') (h : ky_G p l e R s m args below meth c C Y A nL Q pc lv' st I) : ky_G p l e R s m args below meth c C Y A nL Q pc lv st I := fun H locs ls hP hD hS hl0 => h H locs ls hP hD hS (lv_sub hl0 ks hl)
theorem kg_iconst (X : ky_X p s m args meth c C cc nL own) {n : Int} {v : Int32} (hdg : decode cc pc = .ok (.iconst n, 1)) (hv : Int32.ofInt n = v) (h : ky_G p l e R s m args below meth c C Y A nL Q (pc + 1) lv (.int v :: st) I) : ky_G p l e R s m args below meth c C Y A nL Q pc lv st I := fun H locs ls hP hD hS hl => lv_iconst X.1 X.2.1 hdg hv (h H locs ls hP hD hS hl)
theorem kg_bipush (X : ky_X p s m args meth c C cc nL own) {n : Int} {v : Int32} (hdg : decode cc pc = .ok (.bipush n, 2)) (hv : (Int8.ofInt n).toInt32 = v) (h : ky_G p l e R s m args below meth c C Y A nL Q (pc + 2) lv (.int v :: st) I) : ky_G p l e R s m args below meth c C Y A nL Q pc lv st I := fun H locs ls hP hD hS hl => lv_bipush X.1 X.2.1 hdg hv (h H locs ls hP hD hS hl)
theorem kg_sipush (X : ky_X p s m args meth c C cc nL own) {n : Int} {v : Int32} (hdg : decode cc pc = .ok (.sipush n, 3)) (hv : (Int16.ofInt n).toInt32 = v) (h : ky_G p l e R s m args below meth c C Y A nL Q (pc + 3) lv (.int v :: st) I) : ky_G p l e R s m args below meth c C Y A nL Q pc lv st I := fun H locs ls hP hD hS hl => lv_sipush X.1 X.2.1 hdg hv (h H locs ls hP hD hS hl)
theorem kg_ldc (X : ky_X p s m args meth c C cc nL own) {index : Nat} {v : Int32} (hw : Cond.constant own index v ∈ ky_WS) (hdg : decode cc pc = .ok (.ldc index, 2)) (h : ky_G p l e R s m args below meth c C Y A nL Q (pc + 2) lv (.int v :: st) I) : ky_G p l e R s m args below meth c C Y A nL Q pc lv st I := fun H locs ls hP hD hS hl => lv_ldc X.1 X.2.1 X.2.2.2.2.1 (X.2.2.2.2.2.1 _ hw) hdg (h H locs ls hP hD hS hl)
theorem kg_iload_n (X : ky_X p s m args meth c C cc nL own) {k9 : Fin 4} {i : Nat} {x : Int32} (k : Nat) (hdg : decode cc pc = .ok (.iload_n k9, 1)) (hi : (k9 : Nat) = i) (hk : lv[k]? = some (i, .int x)) (h : ky_G p l e R s m args below meth c C Y A nL Q (pc + 1) lv (.int x :: st) I) : ky_G p l e R s m args below meth c C Y A nL Q pc lv st I := fun H locs ls hP hD hS hl => lv_iload_n X.1 X.2.1 hdg hi (lv_at hl k hk) (h H locs ls hP hD hS hl)
theorem kg_iload (X : ky_X p s m args meth c C cc nL own) {i : Nat} {x : Int32} (k : Nat) (hdg : decode cc pc = .ok (.iload i, 2)) (hk : lv[k]? = some (i, .int x)) (h : ky_G p l e R s m args below meth c C Y A nL Q (pc + 2) lv (.int x :: st) I) : ky_G p l e R s m args below meth c C Y A nL Q pc lv st I := fun H locs ls hP hD hS hl => lv_iload X.1 X.2.1 hdg (lv_at hl k hk) (h H locs ls hP hD hS hl)
theorem kg_aload_n (X : ky_X p s m args meth c C cc nL own) {k9 : Fin 4} {i x : Nat} (k : Nat) (hdg : decode cc pc = .ok (.aload_n k9, 1)) (hi : (k9 : Nat) = i) (hk : lv[k]? = some (i, .ref x)) (h : ky_G p l e R s m args below meth c C Y A nL Q (pc + 1) lv (.ref x :: st) I) : ky_G p l e R s m args below meth c C Y A nL Q pc lv st I := fun H locs ls hP hD hS hl => lv_aload_n X.1 X.2.1 hdg hi (lv_at hl k hk) (h H locs ls hP hD hS hl)
theorem kg_aload (X : ky_X p s m args meth c C cc nL own) {i x : Nat} (k : Nat) (hdg : decode cc pc = .ok (.aload i, 2)) (hk : lv[k]? = some (i, .ref x)) (h : ky_G p l e R s m args below meth c C Y A nL Q (pc + 2) lv (.ref x :: st) I) : ky_G p l e R s m args below meth c C Y A nL Q pc lv st I := fun H locs ls hP hD hS hl => lv_aload X.1 X.2.1 hdg (lv_at hl k hk) (h H locs ls hP hD hS hl)
theorem kg_istore_n (X : ky_X p s m args meth c C cc nL own) {k9 : Fin 4} {i : Nat} {x : Int32} (hdg : decode cc pc = .ok (.istore_n k9, 1)) (hi : (k9 : Nat) = i) (hn : i < nL) (hl9 : (i, Value.int x) :: lv.filter (fun q => !(q.1 == i) && !(q.1 + 1 == i && q.2.category == 2)) = lv') (h : ky_G p l e R s m args below meth c C Y A nL Q (pc + 1) lv' st I) : ky_G p l e R s m args below meth c C Y A nL Q pc lv (.int x :: st) I := fun H locs ls hP hD hS hl => lv_istore_n X.1 X.2.1 hdg hi hl hn hl9 (fun ls2 hl2 => h H locs ls2 hP hD hS hl2)
theorem kg_istore (X : ky_X p s m args meth c C cc nL own) {i : Nat} {x : Int32} (hdg : decode cc pc = .ok (.istore i, 2)) (hn : i < nL) (hl9 : (i, Value.int x) :: lv.filter (fun q => !(q.1 == i) && !(q.1 + 1 == i && q.2.category == 2)) = lv') (h : ky_G p l e R s m args below meth c C Y A nL Q (pc + 2) lv' st I) : ky_G p l e R s m args below meth c C Y A nL Q pc lv (.int x :: st) I := fun H locs ls hP hD hS hl => lv_istore X.1 X.2.1 hdg hl hn hl9 (fun ls2 hl2 => h H locs ls2 hP hD hS hl2)
theorem kg_astore_n (X : ky_X p s m args meth c C cc nL own) {k9 : Fin 4} {i : Nat} {x : Nat} (hdg : decode cc pc = .ok (.astore_n k9, 1)) (hi : (k9 : Nat) = i) (hn : i < nL) (hl9 : (i, Value.ref x) :: lv.filter (fun q => !(q.1 == i) && !(q.1 + 1 == i && q.2.category == 2)) = lv') (h : ky_G p l e R s m args below meth c C Y A nL Q (pc + 1) lv' st I) : ky_G p l e R s m args below meth c C Y A nL Q pc lv (.ref x :: st) I := fun H locs ls hP hD hS hl => lv_astore_n X.1 X.2.1 hdg hi hl hn hl9 (fun ls2 hl2 => h H locs ls2 hP hD hS hl2)
theorem kg_astore (X : ky_X p s m args meth c C cc nL own) {i : Nat} {x : Nat} (hdg : decode cc pc = .ok (.astore i, 2)) (hn : i < nL) (hl9 : (i, Value.ref x) :: lv.filter (fun q => !(q.1 == i) && !(q.1 + 1 == i && q.2.category == 2)) = lv') (h : ky_G p l e R s m args below meth c C Y A nL Q (pc + 2) lv' st I) : ky_G p l e R s m args below meth c C Y A nL Q pc lv (.ref x :: st) I := fun H locs ls hP hD hS hl => lv_astore X.1 X.2.1 hdg hl hn hl9 (fun ls2 hl2 => h H locs ls2 hP hD hS hl2)
theorem kg_iinc0 (X : ky_X p s m args meth c C cc nL own) {i : Nat} {n : Int} {x v : Int32} (k : Nat) (hdg : decode cc pc = .ok (.iinc i n, 3)) (hk : lv[k]? = some (i, .int x)) (hv : x + Int32.ofInt n = v) (hn : i < nL) (hl9 : (i, Value.int v) :: lv.filter (fun q => !(q.1 == i) && !(q.1 + 1 == i && q.2.category == 2)) = lv') (h : ky_G p l e R s m args below meth c C Y A nL Q (pc + 3) lv' st I) : ky_G p l e R s m args below meth c C Y A nL Q pc lv st I := fun H locs ls hP hD hS hl => lv_iinc X.1 X.2.1 hdg hl hk hv hn hl9 (fun ls2 hl2 => h H locs ls2 hP hD hS hl2)
theorem kg_iadd (X : ky_X p s m args meth c C cc nL own) {x y : Int32} (hdg : decode cc pc = .ok (.iadd, 1)) (h : ky_G p l e R s m args below meth c C Y A nL Q (pc + 1) lv (.int (x + y) :: st) I) : ky_G p l e R s m args below meth c C Y A nL Q pc lv (.int y :: .int x :: st) I := fun H locs ls hP hD hS hl => lv_iadd X.1 X.2.1 hdg (h H locs ls hP hD hS hl)
theorem kg_isub (X : ky_X p s m args meth c C cc nL own) {x y : Int32} (hdg : decode cc pc = .ok (.isub, 1)) (h : ky_G p l e R s m args below meth c C Y A nL Q (pc + 1) lv (.int (x - y) :: st) I) : ky_G p l e R s m args below meth c C Y A nL Q pc lv (.int y :: .int x :: st) I := fun H locs ls hP hD hS hl => lv_isub X.1 X.2.1 hdg (h H locs ls hP hD hS hl)
theorem kg_imul (X : ky_X p s m args meth c C cc nL own) {x y : Int32} (hdg : decode cc pc = .ok (.imul, 1)) (h : ky_G p l e R s m args below meth c C Y A nL Q (pc + 1) lv (.int (x * y) :: st) I) : ky_G p l e R s m args below meth c C Y A nL Q pc lv (.int y :: .int x :: st) I := fun H locs ls hP hD hS hl => lv_imul X.1 X.2.1 hdg (h H locs ls hP hD hS hl)
theorem kg_iand (X : ky_X p s m args meth c C cc nL own) {x y : Int32} (hdg : decode cc pc = .ok (.iand, 1)) (h : ky_G p l e R s m args below meth c C Y A nL Q (pc + 1) lv (.int (x &&& y) :: st) I) : ky_G p l e R s m args below meth c C Y A nL Q pc lv (.int y :: .int x :: st) I := fun H locs ls hP hD hS hl => lv_iand X.1 X.2.1 hdg (h H locs ls hP hD hS hl)
theorem kg_ishl (X : ky_X p s m args meth c C cc nL own) {x y : Int32} (hdg : decode cc pc = .ok (.ishl, 1)) (h : ky_G p l e R s m args below meth c C Y A nL Q (pc + 1) lv (.int (x <<< (y &&& 31)) :: st) I) : ky_G p l e R s m args below meth c C Y A nL Q pc lv (.int y :: .int x :: st) I := fun H locs ls hP hD hS hl => lv_ishl X.1 X.2.1 hdg (h H locs ls hP hD hS hl)
theorem kg_ishr (X : ky_X p s m args meth c C cc nL own) {x y : Int32} (hdg : decode cc pc = .ok (.ishr, 1)) (h : ky_G p l e R s m args below meth c C Y A nL Q (pc + 1) lv (.int (x >>> (y &&& 31)) :: st) I) : ky_G p l e R s m args below meth c C Y A nL Q pc lv (.int y :: .int x :: st) I := fun H locs ls hP hD hS hl => lv_ishr X.1 X.2.1 hdg (h H locs ls hP hD hS hl)
theorem kg_idiv (X : ky_X p s m args meth c C cc nL own) {x y : Int32} (hdg : decode cc pc = .ok (.idiv, 1)) (hne : ¬ y = 0) (h : ky_G p l e R s m args below meth c C Y A nL Q (pc + 1) lv (.int (x / y) :: st) I) : ky_G p l e R s m args below meth c C Y A nL Q pc lv (.int y :: .int x :: st) I := fun H locs ls hP hD hS hl => lv_idiv X.1 X.2.1 hdg hne (h H locs ls hP hD hS hl)
theorem kg_irem (X : ky_X p s m args meth c C cc nL own) {x y : Int32} (hdg : decode cc pc = .ok (.irem, 1)) (hne : ¬ y = 0) (h : ky_G p l e R s m args below meth c C Y A nL Q (pc + 1) lv (.int (x - x / y * y) :: st) I) : ky_G p l e R s m args below meth c C Y A nL Q pc lv (.int y :: .int x :: st) I := fun H locs ls hP hD hS hl => lv_irem X.1 X.2.1 hdg hne (h H locs ls hP hD hS hl)
theorem kg_ineg (X : ky_X p s m args meth c C cc nL own) {x : Int32} (hdg : decode cc pc = .ok (.ineg, 1)) (h : ky_G p l e R s m args below meth c C Y A nL Q (pc + 1) lv (.int (-x) :: st) I) : ky_G p l e R s m args below meth c C Y A nL Q pc lv (.int x :: st) I := fun H locs ls hP hD hS hl => lv_ineg X.1 X.2.1 hdg (h H locs ls hP hD hS hl)
theorem kg_dup (X : ky_X p s m args meth c C cc nL own) {va : Value} (hdg : decode cc pc = .ok (.dup, 1)) (hva : va.category = 1) (h : ky_G p l e R s m args below meth c C Y A nL Q (pc + 1) lv (va :: va :: st) I) : ky_G p l e R s m args below meth c C Y A nL Q pc lv (va :: st) I := fun H locs ls hP hD hS hl => lv_dup X.1 X.2.1 hdg hva (h H locs ls hP hD hS hl)
theorem kg_pop (X : ky_X p s m args meth c C cc nL own) {va : Value} (hdg : decode cc pc = .ok (.pop, 1)) (hva : va.category = 1) (h : ky_G p l e R s m args below meth c C Y A nL Q (pc + 1) lv st I) : ky_G p l e R s m args below meth c C Y A nL Q pc lv (va :: st) I := fun H locs ls hP hD hS hl => lv_pop X.1 X.2.1 hdg hva (h H locs ls hP hD hS hl)
theorem kg_dup2 (X : ky_X p s m args meth c C cc nL own) {va vb : Value} (hdg : decode cc pc = .ok (.dup2, 1)) (hva : va.category = 1) (hvb : vb.category = 1) (h : ky_G p l e R s m args below meth c C Y A nL Q (pc + 1) lv (va :: vb :: va :: vb :: st) I) : ky_G p l e R s m args below meth c C Y A nL Q pc lv (va :: vb :: st) I := fun H locs ls hP hD hS hl => lv_dup2_11 X.1 X.2.1 hdg hva hvb (h H locs ls hP hD hS hl)
theorem kg_if_eq (X : ky_X p s m args meth c C cc nL own) {x : Int32} {off : Int} {tgt : Nat} (hdg : decode cc pc = .ok (.ifCond .eq off, 3)) (ht : (pc : Int) + off = (tgt : Int)) (kt : x = 0 → ky_G p l e R s m args below meth c C Y A nL Q tgt lv st I) (kf : ¬ x = 0 → ky_G p l e R s m args below meth c C Y A nL Q (pc + 3) lv st I) : ky_G p l e R s m args below meth c C Y A nL Q pc lv (.int x :: st) I := fun H locs ls hP hD hS hl => lv_if_eq X.1 X.2.1 hdg ht (fun h => kt h H locs ls hP hD hS hl) (fun h => kf h H locs ls hP hD hS hl)
theorem kg_if_ne (X : ky_X p s m args meth c C cc nL own) {x : Int32} {off : Int} {tgt : Nat} (hdg : decode cc pc = .ok (.ifCond .ne off, 3)) (ht : (pc : Int) + off = (tgt : Int)) (kt : ¬ x = 0 → ky_G p l e R s m args below meth c C Y A nL Q tgt lv st I) (kf : x = 0 → ky_G p l e R s m args below meth c C Y A nL Q (pc + 3) lv st I) : ky_G p l e R s m args below meth c C Y A nL Q pc lv (.int x :: st) I := fun H locs ls hP hD hS hl => lv_if_ne X.1 X.2.1 hdg ht (fun h => kt h H locs ls hP hD hS hl) (fun h => kf h H locs ls hP hD hS hl)
theorem kg_if_lt (X : ky_X p s m args meth c C cc nL own) {x : Int32} {off : Int} {tgt : Nat} (hdg : decode cc pc = .ok (.ifCond .lt off, 3)) (ht : (pc : Int) + off = (tgt : Int)) (kt : x < 0 → ky_G p l e R s m args below meth c C Y A nL Q tgt lv st I) (kf : ¬ x < 0 → ky_G p l e R s m args below meth c C Y A nL Q (pc + 3) lv st I) : ky_G p l e R s m args below meth c C Y A nL Q pc lv (.int x :: st) I := fun H locs ls hP hD hS hl => lv_if_lt X.1 X.2.1 hdg ht (fun h => kt h H locs ls hP hD hS hl) (fun h => kf h H locs ls hP hD hS hl)
theorem kg_if_ge (X : ky_X p s m args meth c C cc nL own) {x : Int32} {off : Int} {tgt : Nat} (hdg : decode cc pc = .ok (.ifCond .ge off, 3)) (ht : (pc : Int) + off = (tgt : Int)) (kt : 0 ≤ x → ky_G p l e R s m args below meth c C Y A nL Q tgt lv st I) (kf : ¬ 0 ≤ x → ky_G p l e R s m args below meth c C Y A nL Q (pc + 3) lv st I) : ky_G p l e R s m args below meth c C Y A nL Q pc lv (.int x :: st) I := fun H locs ls hP hD hS hl => lv_if_ge X.1 X.2.1 hdg ht (fun h => kt h H locs ls hP hD hS hl) (fun h => kf h H locs ls hP hD hS hl)
theorem kg_if_gt (X : ky_X p s m args meth c C cc nL own) {x : Int32} {off : Int} {tgt : Nat} (hdg : decode cc pc = .ok (.ifCond .gt off, 3)) (ht : (pc : Int) + off = (tgt : Int)) (kt : 0 < x → ky_G p l e R s m args below meth c C Y A nL Q tgt lv st I) (kf : ¬ 0 < x → ky_G p l e R s m args below meth c C Y A nL Q (pc + 3) lv st I) : ky_G p l e R s m args below meth c C Y A nL Q pc lv (.int x :: st) I := fun H locs ls hP hD hS hl => lv_if_gt X.1 X.2.1 hdg ht (fun h => kt h H locs ls hP hD hS hl) (fun h => kf h H locs ls hP hD hS hl)
theorem kg_if_le (X : ky_X p s m args meth c C cc nL own) {x : Int32} {off : Int} {tgt : Nat} (hdg : decode cc pc = .ok (.ifCond .le off, 3)) (ht : (pc : Int) + off = (tgt : Int)) (kt : x ≤ 0 → ky_G p l e R s m args below meth c C Y A nL Q tgt lv st I) (kf : ¬ x ≤ 0 → ky_G p l e R s m args below meth c C Y A nL Q (pc + 3) lv st I) : ky_G p l e R s m args below meth c C Y A nL Q pc lv (.int x :: st) I := fun H locs ls hP hD hS hl => lv_if_le X.1 X.2.1 hdg ht (fun h => kt h H locs ls hP hD hS hl) (fun h => kf h H locs ls hP hD hS hl)
theorem kg_icmp_eq (X : ky_X p s m args meth c C cc nL own) {x y : Int32} {off : Int} {tgt : Nat} (hdg : decode cc pc = .ok (.if_icmp .eq off, 3)) (ht : (pc : Int) + off = (tgt : Int)) (kt : x = y → ky_G p l e R s m args below meth c C Y A nL Q tgt lv st I) (kf : ¬ x = y → ky_G p l e R s m args below meth c C Y A nL Q (pc + 3) lv st I) : ky_G p l e R s m args below meth c C Y A nL Q pc lv (.int y :: .int x :: st) I := fun H locs ls hP hD hS hl => lv_icmp_eq X.1 X.2.1 hdg ht (fun h => kt h H locs ls hP hD hS hl) (fun h => kf h H locs ls hP hD hS hl)
theorem kg_icmp_ne (X : ky_X p s m args meth c C cc nL own) {x y : Int32} {off : Int} {tgt : Nat} (hdg : decode cc pc = .ok (.if_icmp .ne off, 3)) (ht : (pc : Int) + off = (tgt : Int)) (kt : ¬ x = y → ky_G p l e R s m args below meth c C Y A nL Q tgt lv st I) (kf : x = y → ky_G p l e R s m args below meth c C Y A nL Q (pc + 3) lv st I) : ky_G p l e R s m args below meth c C Y A nL Q pc lv (.int y :: .int x :: st) I := fun H locs ls hP hD hS hl => lv_icmp_ne X.1 X.2.1 hdg ht (fun h => kt h H locs ls hP hD hS hl) (fun h => kf h H locs ls hP hD hS hl)
theorem kg_icmp_lt (X : ky_X p s m args meth c C cc nL own) {x y : Int32} {off : Int} {tgt : Nat} (hdg : decode cc pc = .ok (.if_icmp .lt off, 3)) (ht : (pc : Int) + off = (tgt : Int)) (kt : x < y → ky_G p l e R s m args below meth c C Y A nL Q tgt lv st I) (kf : ¬ x < y → ky_G p l e R s m args below meth c C Y A nL Q (pc + 3) lv st I) : ky_G p l e R s m args below meth c C Y A nL Q pc lv (.int y :: .int x :: st) I := fun H locs ls hP hD hS hl => lv_icmp_lt X.1 X.2.1 hdg ht (fun h => kt h H locs ls hP hD hS hl) (fun h => kf h H locs ls hP hD hS hl)
theorem kg_icmp_ge (X : ky_X p s m args meth c C cc nL own) {x y : Int32} {off : Int} {tgt : Nat} (hdg : decode cc pc = .ok (.if_icmp .ge off, 3)) (ht : (pc : Int) + off = (tgt : Int)) (kt : y ≤ x → ky_G p l e R s m args below meth c C Y A nL Q tgt lv st I) (kf : ¬ y ≤ x → ky_G p l e R s m args below meth c C Y A nL Q (pc + 3) lv st I) : ky_G p l e R s m args below meth c C Y A nL Q pc lv (.int y :: .int x :: st) I := fun H locs ls hP hD hS hl => lv_icmp_ge X.1 X.2.1 hdg ht (fun h => kt h H locs ls hP hD hS hl) (fun h => kf h H locs ls hP hD hS hl)
theorem kg_icmp_gt (X : ky_X p s m args meth c C cc nL own) {x y : Int32} {off : Int} {tgt : Nat} (hdg : decode cc pc = .ok (.if_icmp .gt off, 3)) (ht : (pc : Int) + off = (tgt : Int)) (kt : y < x → ky_G p l e R s m args below meth c C Y A nL Q tgt lv st I) (kf : ¬ y < x → ky_G p l e R s m args below meth c C Y A nL Q (pc + 3) lv st I) : ky_G p l e R s m args below meth c C Y A nL Q pc lv (.int y :: .int x :: st) I := fun H locs ls hP hD hS hl => lv_icmp_gt X.1 X.2.1 hdg ht (fun h => kt h H locs ls hP hD hS hl) (fun h => kf h H locs ls hP hD hS hl)
theorem kg_icmp_le (X : ky_X p s m args meth c C cc nL own) {x y : Int32} {off : Int} {tgt : Nat} (hdg : decode cc pc = .ok (.if_icmp .le off, 3)) (ht : (pc : Int) + off = (tgt : Int)) (kt : x ≤ y → ky_G p l e R s m args below meth c C Y A nL Q tgt lv st I) (kf : ¬ x ≤ y → ky_G p l e R s m args below meth c C Y A nL Q (pc + 3) lv st I) : ky_G p l e R s m args below meth c C Y A nL Q pc lv (.int y :: .int x :: st) I := fun H locs ls hP hD hS hl => lv_icmp_le X.1 X.2.1 hdg ht (fun h => kt h H locs ls hP hD hS hl) (fun h => kf h H locs ls hP hD hS hl)
theorem kg_goto (X : ky_X p s m args meth c C cc nL own) {off : Int} {tgt : Nat} (hdg : decode cc pc = .ok (.goto off, 3)) (ht : (pc : Int) + off = (tgt : Int)) (h : ky_G p l e R s m args below meth c C Y A nL Q tgt lv st I) : ky_G p l e R s m args below meth c C Y A nL Q pc lv st I := fun H locs ls hP hD hS hl => lv_goto X.1 X.2.1 hdg ht (h H locs ls hP hD hS hl)
/-- what the tables say of a class of ours, as the rows ask it -/
def ky_C (ci : Nat) (Cn : String) (Tn : u_T) : Prop := ci < 8 ∧ vwCl[ci]? = some (Cn, Tn, ky_nf ci) ∧ ∀ w ∈ u_ws Cn Tn (ky_nf ci), w ∈ ky_WS
theorem kg_getI (X : ky_X p s m args meth c C cc nL own) {ci k j index : Nat} {Cn ref nm ds : String} {Tn : u_T} (hC : ky_C ci Cn Tn) (hk : ky_is Y k ci) (hj : j < ky_nf ci) (hr : ky_rf ci j = false) (hT : Tn j = (ref, nm, ds, false)) (hw : Cond.fieldLink own index ref nm ds ∈ ky_WS) (hdg : decode cc pc = .ok (.getfield index, 3)) (h : ky_G p l e R s m args below meth c C Y A nL Q (pc + 3) lv (.int (I k j) :: st) I) : ky_G p l e R s m args below meth c C Y A nL Q pc lv (.ref (Y.2.1 k) :: st) I := fun H locs ls hP hD hS hl => va_get (D := C.1) (ci := ci) (v := .int (I k j)) (C := Cn) (T := Tn) (N := ky_nf ci) (ref := ref) X.1 X.2.1 X.2.2.2.2.2.1 hC.2.2 X.2.2.2.2.1 X.2.2.2.2.2.2.1 hP k (by rw [ky_wl_get hk.1, ky_ce_o hk hC.1]) hC.2.1 j hj (by rw [hT]; exact X.2.2.2.2.2.1 _ hw) (by rw [hT]; exact fun _ h9 => h9) (by rw [ky_fl_get hj]; simp [hr]) hdg (h H locs ls hP hD hS hl)
theorem kg_getR (X : ky_X p s m args meth c C cc nL own) {ci k j index : Nat} {Cn ref nm ds : String} {Tn : u_T} {fin : Bool} (hC : ky_C ci Cn Tn) (hk : ky_is Y k ci) (hj : j < ky_nf ci) (hr : ky_rf ci j = true) (hT : Tn j = (ref, nm, ds, fin)) (hw : Cond.fieldLink own index ref nm ds ∈ ky_WS) (hdg : decode cc pc = .ok (.getfield index, 3)) (h : ky_G p l e R s m args below meth c C Y A nL Q (pc + 3) lv (.ref (Y.2.1 (ky_rp Y k j)) :: st) I) : ky_G p l e R s m args below meth c C Y A nL Q pc lv (.ref (Y.2.1 k) :: st) I := fun H locs ls hP hD hS hl => va_get (D := C.1) (ci := ci) (v := .ref (Y.2.1 (ky_rp Y k j))) (C := Cn) (T := Tn) (N := ky_nf ci) (ref := ref) X.1 X.2.1 X.2.2.2.2.2.1 hC.2.2 X.2.2.2.2.1 X.2.2.2.2.2.2.1 hP k (by rw [ky_wl_get hk.1, ky_ce_o hk hC.1]) hC.2.1 j hj (by rw [hT]; exact X.2.2.2.2.2.1 _ hw) (by rw [hT]; exact fun _ h9 => h9) (by rw [ky_fl_get hj]; simp [hr]) hdg (h H locs ls hP hD hS hl)
theorem kg_putI (X : ky_X p s m args meth c C cc nL own) {ci k j index : Nat} {Cn ref nm ds : String} {Tn : u_T} {v : Int32} {ty : FieldType} (tyf : Nat → FieldType) (hty : ∀ k, k < ky_nf ci → parseFieldDescriptor (Tn k).2.2.1 = some (tyf k)) (hnm : ∀ a, a < ky_nf ci → ∀ b, b < ky_nf ci → a ≠ b → (Tn a).2.1 ≠ (Tn b).2.1) (hC : ky_C ci Cn Tn) (hk : ky_is Y k ci) (hj : j < ky_nf ci) (hr : ky_rf ci j = false) (hT : Tn j = (ref, nm, ds, false)) (hw : Cond.fieldLink own index ref nm ds ∈ ky_WS) (hd : parseFieldDescriptor ds = some ty) (hn : narrow ty (.int v) = .int v) (hfit : fits ty (.int v) = true) (hdg : decode cc pc = .ok (.putfield index, 3)) (h : ky_G p l e R s m args below meth c C Y A nL Q (pc + 3) lv st (ky_up I k j v)) : ky_G p l e R s m args below meth c C Y A nL Q pc lv (.int v :: .ref (Y.2.1 k) :: st) I := fun H locs ls hP hD hS hl => by
  have he : (ky_wl C Y I)[k]? = some (Y.2.1 k, .inr (ci, ky_fl Y I k ci)) := by rw [ky_wl_get hk.1, ky_ce_o hk hC.1]
  have hset : (ky_wl C Y I).set k (Y.2.1 k, .inr (ci, (ky_fl Y I k ci).set j (.int v))) = ky_wl C Y (ky_up I k j v) := ky_wl_set (by rw [ky_ce_o hk hC.1, ky_fl_set hr]) (fun a ha => ky_up_ne ha)
  exact va_put (D := C.1) (ci := ci) (v := .int v) (ty := ty) (C := Cn) (T := Tn) (N := ky_nf ci) (ref := ref) X.1 X.2.1 X.2.2.2.2.2.1 hC.2.2 tyf hty hnm X.2.2.2.2.1 X.2.2.2.2.2.2.1 hP hD hS k he hC.2.1 j hj (by rw [hT]; exact X.2.2.2.2.2.1 _ hw) (by rw [hT]; exact fun _ h9 => h9) (by rw [hT]) (by rw [hT]; exact hd) hn hfit (by rw [ky_fl_len]; exact hj) hdg (fun H1 locs1 hP1 hD1 hS1 => h H1 locs1 ls (by rw [← hset]; exact hP1) (by rw [← hset]; exact hD1) hS1 hl)
theorem kg_iald (X : ky_X p s m args meth c C cc nL own) {k : Nat} {i : Int32} (hk : ky_is Y k 8) (hin : vp_in i (ky_ln Y k)) (hdg : decode cc pc = .ok (.iaload, 1)) (h : ky_G p l e R s m args below meth c C Y A nL Q (pc + 1) lv (.int (I k i.toNatClampNeg) :: st) I) : ky_G p l e R s m args below meth c C Y A nL Q pc lv (.int i :: .ref (Y.2.1 k) :: st) I := fun H locs ls hP hD hS hl => va_iald (D := C.1) (cl := vwCl) (tys := ky_ty C) X.1 X.2.1 X.2.2.2.2.2.2.1 hP k 0 (by rw [ky_wl_get hk.1, ky_ce_i hk]) rfl hin hdg (h H locs ls hP hD hS hl)
theorem kg_iast (X : ky_X p s m args meth c C cc nL own) {k : Nat} {i x : Int32} (hk : ky_is Y k 8) (hin : vp_in i (ky_ln Y k)) (hdg : decode cc pc = .ok (.iastore, 1)) (h : ky_G p l e R s m args below meth c C Y A nL Q (pc + 1) lv st (ky_up I k i.toNatClampNeg x)) : ky_G p l e R s m args below meth c C Y A nL Q pc lv (.int x :: .int i :: .ref (Y.2.1 k) :: st) I := fun H locs ls hP hD hS hl => by
  have he : (ky_wl C Y I)[k]? = some (Y.2.1 k, .inl (C.2.1, ky_ln Y k, .inl (I k))) := by rw [ky_wl_get hk.1, ky_ce_i hk]
  have hset : (ky_wl C Y I).set k (Y.2.1 k, .inl (C.2.1, ky_ln Y k, .inl (upd (I k) i.toNatClampNeg x))) = ky_wl C Y (ky_up I k i.toNatClampNeg x) := ky_wl_set (by rw [ky_ce_i hk, ky_up_eq]) (fun a ha => ky_up_ne ha)
  exact va_iast (D := C.1) (cl := vwCl) (tys := ky_ty C) X.1 X.2.1 X.2.2.2.2.2.2.1 hP hD hS k 0 he rfl hin hdg (fun H1 locs1 hP1 hD1 hS1 => h H1 locs1 ls (by rw [← hset]; exact hP1) (by rw [← hset]; exact hD1) hS1 hl)
theorem kg_aald (X : ky_X p s m args meth c C cc nL own) {k kc : Nat} {i : Int32} {Cn : String} (t0 : Nat) (ht : (ky_ty C)[t0]? = some (C.2.2 kc, .object Cn)) (hc : 8 < kc) (hk : ky_is Y k kc) (hin : vp_in i (ky_ln Y k)) (hdg : decode cc pc = .ok (.aaload, 1)) (h : ky_G p l e R s m args below meth c C Y A nL Q (pc + 1) lv (.ref (Y.2.1 (ky_rp Y k i.toNatClampNeg)) :: st) I) : ky_G p l e R s m args below meth c C Y A nL Q pc lv (.int i :: .ref (Y.2.1 k) :: st) I := fun H locs ls hP hD hS hl => va_aldq (D := C.1) (cl := vwCl) (tys := ky_ty C) (f := fun j => some (Y.2.1 (Y.2.2.2 k j))) X.1 X.2.1 X.2.2.2.2.2.2.1 hP k t0 (by rw [ky_wl_get hk.1, ky_ce_r hk hc]) ht hin hdg (h H locs ls hP hD hS hl)
end KYR
end
section
/-- a method's start and end, in memories -/
def ky_Pre (C : Cc) (Y : Ly) (A : Nat → Prop) (I : Mm) (av : List Value) : Array Value → State → Prop := va_Pc av (fun U => va_P C.1 vwCl (ky_wl C Y I) U.heap ∧ ky_K C U ∧ va_D A (ky_wl C Y I))
def ky_B (C : Cc) (Y : Ly) (A : Nat → Prop) (J : Mm) (t : State) : Prop := va_P C.1 vwCl (ky_wl C Y J) t.heap ∧ va_D A (ky_wl C Y J)
theorem ky_blind {C : Cc} {Y : Ly} {A : Nat → Prop} {I : Mm} {av : List Value} : FrameBlind (ky_Pre C Y A I av) := fun a U g mk q => by
  obtain ⟨q0, q1, ⟨q2, q4, q5, q6⟩, q3⟩ := q
  exact ⟨q0, q1, ⟨va_K.moved (u := U) (U := U.calling g mk a) (Vm.Alike.refl U.vm) q2, va_Nw.same rfl rfl q4, va_Nw.same rfl rfl q5, va_Nw.same rfl rfl q6⟩, q3⟩
abbrev ky_MI (l : Launch) (y : MethodName) (cc : ByteArray) (nL : Nat) (ret : Option FieldType) (rm : Room) (C : Cc) (Y : Ly) (A : Nat → Prop) (I : Mm) (av : List Value) (post : Int32 → Mm → Prop) : Prop :=
  Met l y (.code y cc nL ret :: ky_WS) rm (ky_Pre C Y A I av) (va_Qi post (ky_B C Y A) A) 0 0 A
abbrev ky_MV (l : Launch) (y : MethodName) (cc : ByteArray) (nL : Nat) (rm : Room) (C : Cc) (Y : Ly) (A : Nat → Prop) (I : Mm) (av : List Value) (post : Mm → Prop) : Prop :=
  Met l y (.code y cc nL none :: ky_WS) rm (ky_Pre C Y A I av) (va_Qv post (ky_B C Y A) A) 0 0 A
theorem ky_met {l : Launch} {y : MethodName} {cc : ByteArray} {nL : Nat} {ret : Option FieldType} {rm : Room} {C : Cc} {Y : Ly} {A : Nat → Prop} {I : Mm} {av : List Value} {Qc : Array Value → State → Outcome → State → Prop} (hy : plainName y.cls = true) (hlen : (lg_sl av).length ≤ nL)
    (body : ∀ (p : Program) (e : Env) (s : State) (m : MethodId) (args : Array Value) (below : List Frame) (meth : Method) (c : Code), ky_X p s m args meth c C cc nL y.cls → meth.sig.returnType = ret → ky_G p l e rm s m args below meth c C Y A nL (MQ below Qc args s 0 0 A) 0 (lv_args 0 av) [] I) : Met l y (.code y cc nL ret :: ky_WS) rm (ky_Pre C Y A I av) Qc 0 0 A := by
  refine Met.ofW (cc := cc) (maxL := nL) (ret := ret) hy rfl ?_
  intro p e s m args below meth c s₁ B hml hv
  obtain ⟨rfl, hP, hK, hD⟩ := hv
  have hts := atoms_spec (ws := .code y cc nL ret :: ky_WS) B.pre
  have hown : s.vm.findClass y.cls = some m.cls := findClass_of_methodNamed B.named
  rw [lg_entry_eq]
  exact body p e s m _ below meth c ⟨B.exec, B.bytes, hml, B.notSynchronized, hown, fun w hw => hts w (List.mem_cons_of_mem _ hw), hK⟩ B.returns s.heap [] _ hP hD va_S.rf (lv_entry av hlen)
section KYC
variable {p : Program} {l : Launch} {e : Env} {R : Room} {s : State} {m : MethodId} {args : Array Value} {below : List Frame} {meth : Method} {c : Code} {C : Cc} {Y : Ly} {A : Nat → Prop} {Q : State → Prop} {cc : ByteArray} {nL pc : Nat} {own : String} {lv lv' : List (Nat × Value)} {st : List Value} {I : Mm}
theorem kg_iret (X : ky_X p s m args meth c C cc nL own) {post : Int32 → Mm → Prop} {v : Int32} (hr : meth.sig.returnType = some .int) (hp : post v I) (hdg : decode cc pc = .ok (.ireturn, 1)) : ky_G p l e R s m args below meth c C Y A nL (MQ below (va_Qi post (ky_B C Y A) A) args s 0 0 A) pc lv [.int v] I := fun H locs ls hP hD hS _ =>
  W.iret (v := v) X.1 X.2.1 hr (fun t ht _ => ⟨⟨v, I, rfl, hp, by rw [ht]; exact hP, hD⟩, hS.F ht⟩) hS.2.2 hdg X.2.2.2.1
theorem ky_nb {v : Int32} (h : v = 0 ∨ v = 1) : narrow .boolean (.int v) = .int v ∧ fits .boolean (.int v) = true := by rcases h with rfl | rfl <;> exact ⟨by decide, by decide⟩
theorem kg_zret (X : ky_X p s m args meth c C cc nL own) {post : Int32 → Mm → Prop} {v : Int32} (hr : meth.sig.returnType = some .boolean) (hv : v = 0 ∨ v = 1) (hp : post v I) (hdg : decode cc pc = .ok (.ireturn, 1)) : ky_G p l e R s m args below meth c C Y A nL (MQ below (va_Qi post (ky_B C Y A) A) args s 0 0 A) pc lv [.int v] I := fun H locs ls hP hD hS _ =>
  W.zret (v := v) X.1 X.2.1 hr (ky_nb hv).1 (fun t ht _ => ⟨⟨v, I, rfl, hp, by rw [ht]; exact hP, hD⟩, hS.F ht⟩) hS.2.2 hdg X.2.2.2.1
theorem kg_vret (X : ky_X p s m args meth c C cc nL own) {post : Mm → Prop} (hr : meth.sig.returnType = none) (hp : post I) (hdg : decode cc pc = .ok (.return_, 1)) : ky_G p l e R s m args below meth c C Y A nL (MQ below (va_Qv post (ky_B C Y A) A) args s 0 0 A) pc lv [] I := fun H locs ls hP hD hS _ =>
  W.vret X.1 X.2.1 hr (fun t ht _ => ⟨⟨I, rfl, hp, by rw [ht]; exact hP, hD⟩, hS.F ht⟩) hS.2.2 hdg X.2.2.2.1
theorem ky_g0 {ws : List Cond} (h : ∀ w ∈ ws, w ∈ ky_WS) : GoodIn ky_WS ws := fun w hw => ⟨h w hw, good_of_word (List.mem_filter.mp (h w hw)).2⟩
/-- a method's words: it is an instance method that its class selects -/
def ky_iv (y : MethodName) (Cn : String) (w : Cond) : Prop := Cond.instanceMethod y ∈ ky_WS ∧ Cond.selects Cn y y ∈ ky_WS ∧ Cond.initialized Cn ∈ ky_WS ∧ w ∈ ky_WS
def ky_is9 (y : MethodName) (w : Cond) : Prop := Cond.static y ∈ ky_WS ∧ Cond.initialized y.cls ∈ ky_WS ∧ w ∈ ky_WS
theorem ky_gV {idx : Nat} {y : MethodName} {Cn : String} {w : Cond} (h : ky_iv y Cn w) (hl : Cond.methodLink own idx y ∈ ky_WS) : GoodIn ky_WS (wsV own idx Cn y (w :: ky_WS)) := ky_g0 fun w9 hw => by
  simp only [wsV, List.cons_append, List.nil_append, List.mem_cons] at hw
  rcases hw with rfl | rfl | rfl | rfl | rfl | h9
  · exact hl
  · exact h.1
  · exact h.2.1
  · exact h.2.2.1
  · exact h.2.2.2
  · exact h9
theorem ky_gS {idx : Nat} {y : MethodName} {w : Cond} (hy : y.cls = own) (h : ky_is9 y w) (hl : Cond.methodLink own idx y ∈ ky_WS) : GoodIn ky_WS (wsS own idx y (w :: ky_WS)) := ky_g0 fun w9 hw => by
  simp only [wsS, List.cons_append, List.nil_append, List.mem_cons] at hw
  rcases hw with rfl | rfl | rfl | rfl | h9
  · exact hl
  · exact h.1
  · rw [← hy]; exact h.2.1
  · exact h.2.2
  · exact h9
abbrev ky_dy (y : MethodName) (n : Nat) : Prop := y.cls ≠ "java/lang/invoke/MethodHandle" ∧ y.cls ≠ "java/lang/invoke/VarHandle" ∧ (parseMethodDescriptor y.desc).map (fun d => d.parameters.length) = some n
abbrev ky_rr (R rm : Room) (maxL : Nat) : Prop := rm.cells = 0 ∧ rm.slots = 0 ∧ rm.frames + 1 ≤ R.frames ∧ 8 + (maxL + 11) + rm.locals ≤ R.locals
set_option maxHeartbeats 2000000 in
theorem kg_callVi (X : ky_X p s m args meth c C cc nL own) {k ci idx n maxL : Nat} {y : MethodName} {bytes : ByteArray} {ret : Option FieldType} {As stk : List Value} {rm : Room} {Cn : String} {Tn : u_T} {post : Int32 → Mm → Prop} (hM : ky_MI l y bytes maxL ret rm C Y A I (.ref (Y.2.1 k) :: As) post) (hC : ky_C ci Cn Tn) (hk : ky_is Y k ci) (hyc : y.cls = Cn) (hw : ky_iv y Cn (.code y bytes maxL ret)) (hl9 : Cond.methodLink own idx y ∈ ky_WS) (hd : ky_dy y n) (hR : ky_rr R rm maxL) (hn : As.length = n) (hstk : stk = As.reverse ++ .ref (Y.2.1 k) :: st) (hst : (st.map fun v => v.category).sum ≤ 8) (hdg : decode cc pc = .ok (.invokevirtual idx, 3)) (h : ∀ (r : Int32) (J : Mm), post r J → ky_G p l e R s m args below meth c C Y A nL Q (pc + 3) lv (.int r :: st) J) : ky_G p l e R s m args below meth c C Y A nL Q pc lv stk I := fun H locs ls hP hD hS hl => by
  exact va_calli (va_runV (As := As) (rest := st) ⟨X.1, X.2.1, X.2.2.1, X.2.2.2.2.1, X.2.2.2.2.2.1⟩ hM (cwV n X.2.2.2.2.2.1 (ky_gV hw hl9) rfl hR.1 hR.2.1 ⟨hyc, hd⟩ hR.2.2) ⟨ky_blind, va_recv (q := (Cn, Tn, ky_nf ci)) X.2.2.2.2.2.2.1 hP hC.2.1 (q0 := k) (by rw [ky_wl_get hk.1, ky_ce_o hk hC.1]), fun U hU hW => ⟨rfl, by rw [hU]; exact hP, X.2.2.2.2.2.2.warm hW, hD⟩⟩ rfl hn hl.1 hstk (lv_room hst) hdg ⟨Nat.zero_le _, Nat.zero_le _⟩) hS (fun q _ h9 => h9) (fun q h9 => h9) (fun r J t H1 locs1 ht _ hp hB _ _ hS1 => h r J hp H1 locs1 ls (by rw [← ht]; exact hB.1) hB.2 hS1 hl)
set_option maxHeartbeats 2000000 in
theorem kg_callVv (X : ky_X p s m args meth c C cc nL own) {k ci idx n maxL : Nat} {y : MethodName} {bytes : ByteArray} {As stk : List Value} {rm : Room} {Cn : String} {Tn : u_T} {post : Mm → Prop} (hM : ky_MV l y bytes maxL rm C Y A I (.ref (Y.2.1 k) :: As) post) (hC : ky_C ci Cn Tn) (hk : ky_is Y k ci) (hyc : y.cls = Cn) (hw : ky_iv y Cn (.code y bytes maxL none)) (hl9 : Cond.methodLink own idx y ∈ ky_WS) (hd : ky_dy y n) (hR : ky_rr R rm maxL) (hn : As.length = n) (hstk : stk = As.reverse ++ .ref (Y.2.1 k) :: st) (hst : (st.map fun v => v.category).sum ≤ 8) (hdg : decode cc pc = .ok (.invokevirtual idx, 3)) (h : ∀ J : Mm, post J → ky_G p l e R s m args below meth c C Y A nL Q (pc + 3) lv st J) : ky_G p l e R s m args below meth c C Y A nL Q pc lv stk I := fun H locs ls hP hD hS hl => by
  exact va_callv (va_runV (As := As) (rest := st) ⟨X.1, X.2.1, X.2.2.1, X.2.2.2.2.1, X.2.2.2.2.2.1⟩ hM (cwV n X.2.2.2.2.2.1 (ky_gV hw hl9) rfl hR.1 hR.2.1 ⟨hyc, hd⟩ hR.2.2) ⟨ky_blind, va_recv (q := (Cn, Tn, ky_nf ci)) X.2.2.2.2.2.2.1 hP hC.2.1 (q0 := k) (by rw [ky_wl_get hk.1, ky_ce_o hk hC.1]), fun U hU hW => ⟨rfl, by rw [hU]; exact hP, X.2.2.2.2.2.2.warm hW, hD⟩⟩ rfl hn hl.1 hstk (lv_room hst) hdg ⟨Nat.zero_le _, Nat.zero_le _⟩) hS (fun q _ h9 => h9) (fun q h9 => h9) (fun J t H1 locs1 ht _ hp hB _ _ hS1 => h J hp H1 locs1 ls (by rw [← ht]; exact hB.1) hB.2 hS1 hl)
set_option maxHeartbeats 2000000 in
theorem kg_callSi (X : ky_X p s m args meth c C cc nL own) {idx n maxL : Nat} {y : MethodName} {bytes : ByteArray} {ret : Option FieldType} {As stk : List Value} {rm : Room} {post : Int32 → Mm → Prop} (hM : ky_MI l y bytes maxL ret rm C Y A I As post) (hyc : y.cls = own) (hw : ky_is9 y (.code y bytes maxL ret)) (hl9 : Cond.methodLink own idx y ∈ ky_WS) (hd : ky_dy y n) (hR : ky_rr R rm maxL) (hn : As.length = n) (hstk : stk = As.reverse ++ st) (hst : (st.map fun v => v.category).sum ≤ 8) (hdg : decode cc pc = .ok (.invokestatic idx, 3)) (h : ∀ (r : Int32) (J : Mm), post r J → ky_G p l e R s m args below meth c C Y A nL Q (pc + 3) lv (.int r :: st) J) : ky_G p l e R s m args below meth c C Y A nL Q pc lv stk I := fun H locs ls hP hD hS hl => by
  exact va_calli (va_runS (As := As) (rest := st) ⟨X.1, X.2.1, X.2.2.1, X.2.2.2.2.1, X.2.2.2.2.2.1⟩ hM (cwS n X.2.2.2.2.2.1 (ky_gS hyc hw hl9) rfl hR.1 hR.2.1 ⟨hyc, hd⟩ hR.2.2) ⟨ky_blind, fun U hU hW => ⟨rfl, by rw [hU]; exact hP, X.2.2.2.2.2.2.warm hW, hD⟩⟩ rfl hn hl.1 hstk (lv_room hst) hdg ⟨Nat.zero_le _, Nat.zero_le _⟩) hS (fun q _ h9 => h9) (fun q h9 => h9) (fun r J t H1 locs1 ht _ hp hB _ _ hS1 => h r J hp H1 locs1 ls (by rw [← ht]; exact hB.1) hB.2 hS1 hl)
set_option maxHeartbeats 2000000 in
theorem kg_callSv (X : ky_X p s m args meth c C cc nL own) {idx n maxL : Nat} {y : MethodName} {bytes : ByteArray} {As stk : List Value} {rm : Room} {post : Mm → Prop} (hM : ky_MV l y bytes maxL rm C Y A I As post) (hyc : y.cls = own) (hw : ky_is9 y (.code y bytes maxL none)) (hl9 : Cond.methodLink own idx y ∈ ky_WS) (hd : ky_dy y n) (hR : ky_rr R rm maxL) (hn : As.length = n) (hstk : stk = As.reverse ++ st) (hst : (st.map fun v => v.category).sum ≤ 8) (hdg : decode cc pc = .ok (.invokestatic idx, 3)) (h : ∀ J : Mm, post J → ky_G p l e R s m args below meth c C Y A nL Q (pc + 3) lv st J) : ky_G p l e R s m args below meth c C Y A nL Q pc lv stk I := fun H locs ls hP hD hS hl => by
  exact va_callv (va_runS (As := As) (rest := st) ⟨X.1, X.2.1, X.2.2.1, X.2.2.2.2.1, X.2.2.2.2.2.1⟩ hM (cwS n X.2.2.2.2.2.1 (ky_gS hyc hw hl9) rfl hR.1 hR.2.1 ⟨hyc, hd⟩ hR.2.2) ⟨ky_blind, fun U hU hW => ⟨rfl, by rw [hU]; exact hP, X.2.2.2.2.2.2.warm hW, hD⟩⟩ rfl hn hl.1 hstk (lv_room hst) hdg ⟨Nat.zero_le _, Nat.zero_le _⟩) hS (fun q _ h9 => h9) (fun q h9 => h9) (fun J t H1 locs1 ht _ hp hB _ _ hS1 => h J hp H1 locs1 ls (by rw [← ht]; exact hB.1) hB.2 hS1 hl)
set_option maxHeartbeats 2000000 in
theorem kg_callNi (X : ky_X p s m args meth c C cc nL own) {idx n maxL : Nat} {y : MethodName} {bytes : ByteArray} {ret : Option FieldType} {As stk : List Value} {rm : Room} {post : Int32 → Mm → Prop} (hM : ky_MI l y bytes maxL ret rm C Y A I As post) {host : String} (hw : ky_is9 y (.code y bytes maxL ret)) (hl9 : ky_nest s → va_Nw (.methodLinkNest own idx y host) s) (hd : ky_dy y n) (hR : ky_rr R rm maxL) (hn : As.length = n) (hstk : stk = As.reverse ++ st) (hst : (st.map fun v => v.category).sum ≤ 8) (hdg : decode cc pc = .ok (.invokestatic idx, 3)) (h : ∀ (r : Int32) (J : Mm), post r J → ky_G p l e R s m args below meth c C Y A nL Q (pc + 3) lv (.int r :: st) J) : ky_G p l e R s m args below meth c C Y A nL Q pc lv stk I := fun H locs ls hP hD hS hl => by
  exact va_calli (va_runSN (As := As) (rest := st) ⟨X.1, X.2.1, X.2.2.1, X.2.2.2.2.1, X.2.2.2.2.2.1⟩ hM ⟨va_cnB n X.2.2.2.2.2.1 (ky_g0 fun w9 h9 => (List.mem_cons.mp h9).elim (fun e9 => e9 ▸ hw.2.2) id) rfl hR.1 hR.2.1 (hl9 X.2.2.2.2.2.2.2) (X.2.2.2.2.2.1 _ hw.2.1) hd hR.2.2, X.2.2.2.2.2.1 _ hw.1, trivial⟩ ⟨ky_blind, fun U hU hW => ⟨rfl, by rw [hU]; exact hP, X.2.2.2.2.2.2.warm hW, hD⟩⟩ rfl hn hl.1 hstk (lv_room hst) hdg ⟨Nat.zero_le _, Nat.zero_le _⟩) hS (fun q _ h9 => h9) (fun q h9 => h9) (fun r J t H1 locs1 ht _ hp hB _ _ hS1 => h r J hp H1 locs1 ls (by rw [← ht]; exact hB.1) hB.2 hS1 hl)
set_option maxHeartbeats 2000000 in
theorem kg_callNv (X : ky_X p s m args meth c C cc nL own) {idx n maxL : Nat} {y : MethodName} {bytes : ByteArray} {As stk : List Value} {rm : Room} {post : Mm → Prop} (hM : ky_MV l y bytes maxL rm C Y A I As post) {host : String} (hw : ky_is9 y (.code y bytes maxL none)) (hl9 : ky_nest s → va_Nw (.methodLinkNest own idx y host) s) (hd : ky_dy y n) (hR : ky_rr R rm maxL) (hn : As.length = n) (hstk : stk = As.reverse ++ st) (hst : (st.map fun v => v.category).sum ≤ 8) (hdg : decode cc pc = .ok (.invokestatic idx, 3)) (h : ∀ J : Mm, post J → ky_G p l e R s m args below meth c C Y A nL Q (pc + 3) lv st J) : ky_G p l e R s m args below meth c C Y A nL Q pc lv stk I := fun H locs ls hP hD hS hl => by
  exact va_callv (va_runSN (As := As) (rest := st) ⟨X.1, X.2.1, X.2.2.1, X.2.2.2.2.1, X.2.2.2.2.2.1⟩ hM ⟨va_cnB n X.2.2.2.2.2.1 (ky_g0 fun w9 h9 => (List.mem_cons.mp h9).elim (fun e9 => e9 ▸ hw.2.2) id) rfl hR.1 hR.2.1 (hl9 X.2.2.2.2.2.2.2) (X.2.2.2.2.2.1 _ hw.2.1) hd hR.2.2, X.2.2.2.2.2.1 _ hw.1, trivial⟩ ⟨ky_blind, fun U hU hW => ⟨rfl, by rw [hU]; exact hP, X.2.2.2.2.2.2.warm hW, hD⟩⟩ rfl hn hl.1 hstk (lv_room hst) hdg ⟨Nat.zero_le _, Nat.zero_le _⟩) hS (fun q _ h9 => h9) (fun q h9 => h9) (fun J t H1 locs1 ht _ hp hB _ _ hS1 => h J hp H1 locs1 ls (by rw [← ht]; exact hB.1) hB.2 hS1 hl)
theorem kg_topi {x : Int32} (h : ∀ y : Int32, y = x → ky_G p l e R s m args below meth c C Y A nL Q pc lv (.int y :: st) I) : ky_G p l e R s m args below meth c C Y A nL Q pc lv (.int x :: st) I := h x rfl
theorem kg_topr {x : Nat} (h : ∀ y : Nat, y = x → ky_G p l e R s m args below meth c C Y A nL Q pc lv (.ref (Y.2.1 y) :: st) I) : ky_G p l e R s m args below meth c C Y A nL Q pc lv (.ref (Y.2.1 x) :: st) I := h x rfl
theorem kg_topm (h : ∀ J : Mm, J = I → ky_G p l e R s m args below meth c C Y A nL Q pc lv st J) : ky_G p l e R s m args below meth c C Y A nL Q pc lv st I := h I rfl
theorem kg_iinc (X : ky_X p s m args meth c C cc nL own) {i : Nat} {n : Int} {x dd : Int32} {lvf : Int32 → List (Nat × Value)} (k : Nat) (hdg : decode cc pc = .ok (.iinc i n, 3)) (hk : lv[k]? = some (i, .int x)) (hv : Int32.ofInt n = dd) (hn : i < nL) (hl9 : ∀ y : Int32, (i, Value.int y) :: lv.filter (fun q => !(q.1 == i) && !(q.1 + 1 == i && q.2.category == 2)) = lvf y) (h : ∀ y : Int32, y = x + dd → ky_G p l e R s m args below meth c C Y A nL Q (pc + 3) (lvf y) st I) : ky_G p l e R s m args below meth c C Y A nL Q pc lv st I := kg_iinc0 X k hdg hk (v := x + dd) (by rw [hv]) hn (hl9 _) (h _ rfl)
theorem kg_copy (X : ky_X p s m args meth c C cc nL own) {a b idx : Nat} {sp dp n : Int32} (hw : Cond.methodLink own idx arraycopyName ∈ ky_WS) (hw2 : Cond.native arraycopyName ∈ ky_WS ∧ Cond.static arraycopyName ∈ ky_WS ∧ Cond.initialized "java/lang/System" ∈ ky_WS) (ha : ky_is Y a 8) (hb : ky_is Y b 8) (h1 : ¬ sp < 0) (h2 : ¬ dp < 0) (h3 : ¬ n < 0) (h4 : sp.toNatClampNeg + n.toNatClampNeg ≤ ky_ln Y b) (h5 : dp.toNatClampNeg + n.toNatClampNeg ≤ ky_ln Y a)
    (hf : 1 ≤ R.frames) (hlo : (st.map fun v => v.category).sum + (nativeFrameWords "java/lang/System" "arraycopy" 5 + 11) ≤ R.locals) (hdg : decode cc pc = .ok (.invokestatic idx, 3)) (h : ky_G p l e R s m args below meth c C Y A nL Q (pc + 3) lv st (ky_cp I b a sp.toNatClampNeg dp.toNatClampNeg n.toNatClampNeg)) : ky_G p l e R s m args below meth c C Y A nL Q pc lv (.int n :: .int dp :: .ref (Y.2.1 a) :: .int sp :: .ref (Y.2.1 b) :: st) I := fun H locs ls hP hD hS hl => by
  have he : (ky_wl C Y I)[a]? = some (Y.2.1 a, .inl (C.2.1, ky_ln Y a, .inl (I a))) := by rw [ky_wl_get ha.1, ky_ce_i ha]
  have he2 : (ky_wl C Y I)[b]? = some (Y.2.1 b, .inl (C.2.1, ky_ln Y b, .inl (I b))) := by rw [ky_wl_get hb.1, ky_ce_i hb]
  have hset : (ky_wl C Y I).set a (Y.2.1 a, .inl (C.2.1, ky_ln Y a, .inl (va_cpy (I b) (I a) sp.toNatClampNeg dp.toNatClampNeg n.toNatClampNeg))) = ky_wl C Y (ky_cp I b a sp.toNatClampNeg dp.toNatClampNeg n.toNatClampNeg) := ky_wl_set (by rw [ky_ce_i ha]; simp [ky_cp]) (fun x hx => by simp [ky_cp, hx])
  exact va_copyi (D := C.1) (cl := vwCl) (tys := ky_ty C) X.1 X.2.1 (X.2.2.1.trans hl.1.symm) X.2.2.2.2.1 (X.2.2.2.2.2.1 _ hw) (X.2.2.2.2.2.1 _ hw2.1) (X.2.2.2.2.2.1 _ hw2.2.1) (X.2.2.2.2.2.1 _ hw2.2.2) X.2.2.2.2.2.2.1 hP hD hS b a 0 0 he2 he rfl rfl rfl h1 h2 h3 h4 h5 (fun _ _ => rfl) hf hlo hdg (fun H1 locs1 hP1 hD1 hS1 => h H1 locs1 ls (by rw [← hset]; exact hP1) (by rw [← hset]; exact hD1) hS1 hl)
theorem kg_tabOut (X : ky_X p s m args meth c C cc nL own) {dflt lo hi : Int} {offs : Array Int} {len : Nat} {x : Int32} {tgt : Nat} (hdg : decode cc pc = .ok (.tableswitch dflt lo hi offs, len)) (h : x.toInt < lo ∨ hi < x.toInt) (ht : (pc : Int) + dflt = (tgt : Int)) (k : ky_G p l e R s m args below meth c C Y A nL Q tgt lv st I) : ky_G p l e R s m args below meth c C Y A nL Q pc lv (.int x :: st) I := fun H locs ls hP hD hS hl => lv_tableOut X.1 X.2.1 hdg h ht (k H locs ls hP hD hS hl)
theorem kg_tabIn (X : ky_X p s m args meth c C cc nL own) {dflt lo hi : Int} {offs : Array Int} {len : Nat} {x : Int32} {off : Int} {tgt : Nat} (hdg : decode cc pc = .ok (.tableswitch dflt lo hi offs, len)) (h1 : ¬ x.toInt < lo) (h2 : ¬ hi < x.toInt) (ho : offs[(x.toInt - lo).toNat]? = some off) (ht : (pc : Int) + off = (tgt : Int)) (k : ky_G p l e R s m args below meth c C Y A nL Q tgt lv st I) : ky_G p l e R s m args below meth c C Y A nL Q pc lv (.int x :: st) I := fun H locs ls hP hD hS hl => lv_tableIn X.1 X.2.1 hdg h1 h2 ho ht (k H locs ls hP hD hS hl)
end KYC
end
section
theorem kc_0 : ky_C 0 RX0 TX0 := ⟨by decide, rfl, fun w hw => List.mem_filter.mpr ⟨(by decide +kernel : ∀ w ∈ u_ws RX0 TX0 (ky_nf 0), w ∈ lw_tbl) w hw, List.all_eq_true.mp (by decide +kernel : (u_ws RX0 TX0 (ky_nf 0)).all goodWord = true) w hw⟩⟩
theorem kc_1 : ky_C 1 RX1 TX1 := ⟨by decide, rfl, fun w hw => List.mem_filter.mpr ⟨(by decide +kernel : ∀ w ∈ u_ws RX1 TX1 (ky_nf 1), w ∈ lw_tbl) w hw, List.all_eq_true.mp (by decide +kernel : (u_ws RX1 TX1 (ky_nf 1)).all goodWord = true) w hw⟩⟩
theorem kc_2 : ky_C 2 RX2 TX2 := ⟨by decide, rfl, fun w hw => List.mem_filter.mpr ⟨(by decide +kernel : ∀ w ∈ u_ws RX2 TX2 (ky_nf 2), w ∈ lw_tbl) w hw, List.all_eq_true.mp (by decide +kernel : (u_ws RX2 TX2 (ky_nf 2)).all goodWord = true) w hw⟩⟩
theorem kc_3 : ky_C 3 RX3 TX3 := ⟨by decide, rfl, fun w hw => List.mem_filter.mpr ⟨(by decide +kernel : ∀ w ∈ u_ws RX3 TX3 (ky_nf 3), w ∈ lw_tbl) w hw, List.all_eq_true.mp (by decide +kernel : (u_ws RX3 TX3 (ky_nf 3)).all goodWord = true) w hw⟩⟩
theorem kc_4 : ky_C 4 RX4 TX4 := ⟨by decide, rfl, fun w hw => List.mem_filter.mpr ⟨(by decide +kernel : ∀ w ∈ u_ws RX4 TX4 (ky_nf 4), w ∈ lw_tbl) w hw, List.all_eq_true.mp (by decide +kernel : (u_ws RX4 TX4 (ky_nf 4)).all goodWord = true) w hw⟩⟩
theorem kc_5 : ky_C 5 RX5 TX5 := ⟨by decide, rfl, fun w hw => List.mem_filter.mpr ⟨(by decide +kernel : ∀ w ∈ u_ws RX5 TX5 (ky_nf 5), w ∈ lw_tbl) w hw, List.all_eq_true.mp (by decide +kernel : (u_ws RX5 TX5 (ky_nf 5)).all goodWord = true) w hw⟩⟩
theorem kc_6 : ky_C 6 RX6 TX6 := ⟨by decide, rfl, fun w hw => List.mem_filter.mpr ⟨(by decide +kernel : ∀ w ∈ u_ws RX6 TX6 (ky_nf 6), w ∈ lw_tbl) w hw, List.all_eq_true.mp (by decide +kernel : (u_ws RX6 TX6 (ky_nf 6)).all goodWord = true) w hw⟩⟩
theorem kc_7 : ky_C 7 RX7 TX7 := ⟨by decide, rfl, fun w hw => List.mem_filter.mpr ⟨(by decide +kernel : ∀ w ∈ u_ws RX7 TX7 (ky_nf 7), w ∈ lw_tbl) w hw, List.all_eq_true.mp (by decide +kernel : (u_ws RX7 TX7 (ky_nf 7)).all goodWord = true) w hw⟩⟩
theorem kw_53 : Cond.fieldLink RX0 9 "ClauseDesk$BoundSet" "least" "[I" ∈ ky_WS := ky_in 53 (by decide +kernel) (by decide +kernel)
theorem kw_54 : Cond.fieldLink RX0 18 "ClauseDesk$BoundSet" "together" "Z" ∈ ky_WS := ky_in 54 (by decide +kernel) (by decide +kernel)
theorem kw_55 : Cond.fieldLink RX6 159 "ClauseDesk$BoundSet" "together" "Z" ∈ ky_WS := ky_in 55 (by decide +kernel) (by decide +kernel)
theorem kw_62 : Cond.fieldLink RX3 16 "ClauseDesk$Node" "rule" "I" ∈ ky_WS := ky_in 62 (by decide +kernel) (by decide +kernel)
theorem kw_63 : Cond.fieldLink RX6 233 "ClauseDesk$Node" "rule" "I" ∈ ky_WS := ky_in 63 (by decide +kernel) (by decide +kernel)
theorem kw_64 : Cond.fieldLink RX3 20 "ClauseDesk$Node" "parent" "I" ∈ ky_WS := ky_in 64 (by decide +kernel) (by decide +kernel)
theorem kw_65 : Cond.fieldLink RX6 238 "ClauseDesk$Node" "parent" "I" ∈ ky_WS := ky_in 65 (by decide +kernel) (by decide +kernel)
theorem kw_66 : Cond.fieldLink RX3 23 "ClauseDesk$Node" "atom" "I" ∈ ky_WS := ky_in 66 (by decide +kernel) (by decide +kernel)
theorem kw_67 : Cond.fieldLink RX6 338 "ClauseDesk$Node" "atom" "I" ∈ ky_WS := ky_in 67 (by decide +kernel) (by decide +kernel)
theorem kw_68 : Cond.fieldLink RX3 26 "ClauseDesk$Node" "cube" "I" ∈ ky_WS := ky_in 68 (by decide +kernel) (by decide +kernel)
theorem kw_69 : Cond.fieldLink RX6 241 "ClauseDesk$Node" "cube" "I" ∈ ky_WS := ky_in 69 (by decide +kernel) (by decide +kernel)
theorem kw_70 : Cond.fieldLink RX3 10 "ClauseDesk$Node" "below" "LClauseDesk$BoundSet;" ∈ ky_WS := ky_in 70 (by decide +kernel) (by decide +kernel)
theorem kw_71 : Cond.fieldLink RX6 327 "ClauseDesk$Node" "below" "LClauseDesk$BoundSet;" ∈ ky_WS := ky_in 71 (by decide +kernel) (by decide +kernel)
theorem kw_83 : Cond.fieldLink RX5 11 "ClauseDesk$Tree" "nodes" "[LClauseDesk$Node;" ∈ ky_WS := ky_in 83 (by decide +kernel) (by decide +kernel)
theorem kw_84 : Cond.fieldLink RX6 229 "ClauseDesk$Tree" "nodes" "[LClauseDesk$Node;" ∈ ky_WS := ky_in 84 (by decide +kernel) (by decide +kernel)
theorem kw_85 : Cond.fieldLink RX5 34 "ClauseDesk$Tree" "size" "I" ∈ ky_WS := ky_in 85 (by decide +kernel) (by decide +kernel)
theorem kw_86 : Cond.fieldLink RX6 181 "ClauseDesk$Tree" "size" "I" ∈ ky_WS := ky_in 86 (by decide +kernel) (by decide +kernel)
theorem kw_87 : Cond.fieldLink RX5 17 "ClauseDesk$Tree" "waitingParent" "[I" ∈ ky_WS := ky_in 87 (by decide +kernel) (by decide +kernel)
theorem kw_88 : Cond.fieldLink RX6 312 "ClauseDesk$Tree" "waitingParent" "[I" ∈ ky_WS := ky_in 88 (by decide +kernel) (by decide +kernel)
theorem kw_89 : Cond.fieldLink RX5 21 "ClauseDesk$Tree" "waitingAtom" "[I" ∈ ky_WS := ky_in 89 (by decide +kernel) (by decide +kernel)
theorem kw_90 : Cond.fieldLink RX6 315 "ClauseDesk$Tree" "waitingAtom" "[I" ∈ ky_WS := ky_in 90 (by decide +kernel) (by decide +kernel)
theorem kw_91 : Cond.fieldLink RX5 24 "ClauseDesk$Tree" "waitingCube" "[I" ∈ ky_WS := ky_in 91 (by decide +kernel) (by decide +kernel)
theorem kw_92 : Cond.fieldLink RX6 318 "ClauseDesk$Tree" "waitingCube" "[I" ∈ ky_WS := ky_in 92 (by decide +kernel) (by decide +kernel)
theorem kw_93 : Cond.fieldLink RX5 41 "ClauseDesk$Tree" "waiting" "I" ∈ ky_WS := ky_in 93 (by decide +kernel) (by decide +kernel)
theorem kw_94 : Cond.fieldLink RX6 302 "ClauseDesk$Tree" "waiting" "I" ∈ ky_WS := ky_in 94 (by decide +kernel) (by decide +kernel)
theorem kw_115 : Cond.fieldLink RX6 65 "ClauseDesk$Relation" "places" "I" ∈ ky_WS := ky_in 115 (by decide +kernel) (by decide +kernel)
theorem kw_116 : Cond.fieldLink RX4 41 "ClauseDesk$Relation" "places" "I" ∈ ky_WS := ky_in 116 (by decide +kernel) (by decide +kernel)
theorem kw_117 : Cond.fieldLink RX4 33 "ClauseDesk$Relation" "marks" "I" ∈ ky_WS := ky_in 117 (by decide +kernel) (by decide +kernel)
theorem kw_118 : Cond.fieldLink RX6 81 "ClauseDesk$Relation" "marks" "I" ∈ ky_WS := ky_in 118 (by decide +kernel) (by decide +kernel)
theorem kw_119 : Cond.fieldLink RX4 9 "ClauseDesk$Relation" "markFirst" "[I" ∈ ky_WS := ky_in 119 (by decide +kernel) (by decide +kernel)
theorem kw_120 : Cond.fieldLink RX6 191 "ClauseDesk$Relation" "markFirst" "[I" ∈ ky_WS := ky_in 120 (by decide +kernel) (by decide +kernel)
theorem kw_121 : Cond.fieldLink RX4 15 "ClauseDesk$Relation" "markSecond" "[I" ∈ ky_WS := ky_in 121 (by decide +kernel) (by decide +kernel)
theorem kw_122 : Cond.fieldLink RX6 195 "ClauseDesk$Relation" "markSecond" "[I" ∈ ky_WS := ky_in 122 (by decide +kernel) (by decide +kernel)
theorem kw_123 : Cond.fieldLink RX4 18 "ClauseDesk$Relation" "markLimit" "[I" ∈ ky_WS := ky_in 123 (by decide +kernel) (by decide +kernel)
theorem kw_124 : Cond.fieldLink RX6 198 "ClauseDesk$Relation" "markLimit" "[I" ∈ ky_WS := ky_in 124 (by decide +kernel) (by decide +kernel)
theorem kw_125 : Cond.fieldLink RX4 21 "ClauseDesk$Relation" "height" "[I" ∈ ky_WS := ky_in 125 (by decide +kernel) (by decide +kernel)
theorem kw_126 : Cond.fieldLink RX6 206 "ClauseDesk$Relation" "height" "[I" ∈ ky_WS := ky_in 126 (by decide +kernel) (by decide +kernel)
theorem kw_127 : Cond.fieldLink RX4 24 "ClauseDesk$Relation" "reason" "[I" ∈ ky_WS := ky_in 127 (by decide +kernel) (by decide +kernel)
theorem kw_128 : Cond.fieldLink RX6 216 "ClauseDesk$Relation" "reason" "[I" ∈ ky_WS := ky_in 128 (by decide +kernel) (by decide +kernel)
theorem kw_129 : Cond.fieldLink RX4 27 "ClauseDesk$Relation" "firstPremise" "[I" ∈ ky_WS := ky_in 129 (by decide +kernel) (by decide +kernel)
theorem kw_130 : Cond.fieldLink RX6 219 "ClauseDesk$Relation" "firstPremise" "[I" ∈ ky_WS := ky_in 130 (by decide +kernel) (by decide +kernel)
theorem kw_131 : Cond.fieldLink RX4 30 "ClauseDesk$Relation" "secondPremise" "[I" ∈ ky_WS := ky_in 131 (by decide +kernel) (by decide +kernel)
theorem kw_132 : Cond.fieldLink RX6 222 "ClauseDesk$Relation" "secondPremise" "[I" ∈ ky_WS := ky_in 132 (by decide +kernel) (by decide +kernel)
theorem kw_163 : Cond.fieldLink RX6 247 "ClauseDesk$Literal" "relation" "I" ∈ ky_WS := ky_in 163 (by decide +kernel) (by decide +kernel)
theorem kw_164 : Cond.fieldLink RX2 7 "ClauseDesk$Literal" "x" "I" ∈ ky_WS := ky_in 164 (by decide +kernel) (by decide +kernel)
theorem kw_165 : Cond.fieldLink RX6 252 "ClauseDesk$Literal" "x" "I" ∈ ky_WS := ky_in 165 (by decide +kernel) (by decide +kernel)
theorem kw_166 : Cond.fieldLink RX2 13 "ClauseDesk$Literal" "y" "I" ∈ ky_WS := ky_in 166 (by decide +kernel) (by decide +kernel)
theorem kw_167 : Cond.fieldLink RX6 255 "ClauseDesk$Literal" "y" "I" ∈ ky_WS := ky_in 167 (by decide +kernel) (by decide +kernel)
theorem kw_178 : Cond.fieldLink RX1 12 "ClauseDesk$Clause" "head" "LClauseDesk$Literal;" ∈ ky_WS := ky_in 178 (by decide +kernel) (by decide +kernel)
theorem kw_179 : Cond.fieldLink RX6 103 "ClauseDesk$Clause" "head" "LClauseDesk$Literal;" ∈ ky_WS := ky_in 179 (by decide +kernel) (by decide +kernel)
theorem kw_180 : Cond.fieldLink RX1 18 "ClauseDesk$Clause" "body" "[LClauseDesk$Literal;" ∈ ky_WS := ky_in 180 (by decide +kernel) (by decide +kernel)
theorem kw_181 : Cond.fieldLink RX6 116 "ClauseDesk$Clause" "body" "[LClauseDesk$Literal;" ∈ ky_WS := ky_in 181 (by decide +kernel) (by decide +kernel)
theorem kw_182 : Cond.fieldLink RX5 28 "ClauseDesk$Clause" "atoms" "I" ∈ ky_WS := ky_in 182 (by decide +kernel) (by decide +kernel)
theorem kw_183 : Cond.fieldLink RX1 29 "ClauseDesk$Clause" "atoms" "I" ∈ ky_WS := ky_in 183 (by decide +kernel) (by decide +kernel)
theorem kw_184 : Cond.fieldLink RX6 111 "ClauseDesk$Clause" "atoms" "I" ∈ ky_WS := ky_in 184 (by decide +kernel) (by decide +kernel)
theorem kw_185 : Cond.fieldLink RX1 25 "ClauseDesk$Clause" "own" "LClauseDesk$BoundSet;" ∈ ky_WS := ky_in 185 (by decide +kernel) (by decide +kernel)
theorem kw_186 : Cond.fieldLink RX6 134 "ClauseDesk$Clause" "own" "LClauseDesk$BoundSet;" ∈ ky_WS := ky_in 186 (by decide +kernel) (by decide +kernel)
theorem kw_187 : Cond.fieldLink RX6 129 "ClauseDesk$Clause" "bounds" "I" ∈ ky_WS := ky_in 187 (by decide +kernel) (by decide +kernel)
theorem kw_199 : Cond.fieldLink RX6 11 "ClauseDesk" "relations" "[LClauseDesk$Relation;" ∈ ky_WS := ky_in 199 (by decide +kernel) (by decide +kernel)
theorem kw_200 : Cond.fieldLink RX6 57 "ClauseDesk" "relationCount" "I" ∈ ky_WS := ky_in 200 (by decide +kernel) (by decide +kernel)
theorem kw_201 : Cond.fieldLink RX6 17 "ClauseDesk" "clauses" "[LClauseDesk$Clause;" ∈ ky_WS := ky_in 201 (by decide +kernel) (by decide +kernel)
theorem kw_202 : Cond.fieldLink RX6 98 "ClauseDesk" "clauseCount" "I" ∈ ky_WS := ky_in 202 (by decide +kernel) (by decide +kernel)
theorem kw_203 : Cond.fieldLink RX6 178 "ClauseDesk" "rounds" "I" ∈ ky_WS := ky_in 203 (by decide +kernel) (by decide +kernel)
theorem kw_204 : Cond.fieldLink RX6 47 "ClauseDesk" "verdict" "I" ∈ ky_WS := ky_in 204 (by decide +kernel) (by decide +kernel)
theorem kw_205 : Cond.fieldLink RX6 43 "ClauseDesk" "alarm" "I" ∈ ky_WS := ky_in 205 (by decide +kernel) (by decide +kernel)
theorem kw_206 : Cond.fieldLink RX6 24 "ClauseDesk" "tree" "LClauseDesk$Tree;" ∈ ky_WS := ky_in 206 (by decide +kernel) (by decide +kernel)
theorem kw_207 : Cond.fieldLink RX6 184 "ClauseDesk" "refinings" "I" ∈ ky_WS := ky_in 207 (by decide +kernel) (by decide +kernel)
theorem kw_208 : Cond.fieldLink RX6 31 "ClauseDesk" "withFirst" "LClauseDesk$BoundSet;" ∈ ky_WS := ky_in 208 (by decide +kernel) (by decide +kernel)
theorem kw_209 : Cond.fieldLink RX6 35 "ClauseDesk" "withBoth" "LClauseDesk$BoundSet;" ∈ ky_WS := ky_in 209 (by decide +kernel) (by decide +kernel)
theorem kw_210 : Cond.fieldLink RX6 38 "ClauseDesk" "withHead" "LClauseDesk$BoundSet;" ∈ ky_WS := ky_in 210 (by decide +kernel) (by decide +kernel)
theorem kw_640 : Cond.fieldLink RX7 98 "ClauseDeskModel" "code" "I" ∈ ky_WS := ky_in 640 (by decide +kernel) (by decide +kernel)
theorem kw_641 : Cond.fieldLink RX7 101 "ClauseDeskModel" "relations" "I" ∈ ky_WS := ky_in 641 (by decide +kernel) (by decide +kernel)
theorem kw_642 : Cond.fieldLink RX7 7 "ClauseDeskModel" "places" "[I" ∈ ky_WS := ky_in 642 (by decide +kernel) (by decide +kernel)
theorem kw_643 : Cond.fieldLink RX7 13 "ClauseDeskModel" "marks" "[I" ∈ ky_WS := ky_in 643 (by decide +kernel) (by decide +kernel)
theorem kw_644 : Cond.fieldLink RX7 16 "ClauseDeskModel" "markFirst" "[I" ∈ ky_WS := ky_in 644 (by decide +kernel) (by decide +kernel)
theorem kw_645 : Cond.fieldLink RX7 19 "ClauseDeskModel" "markSecond" "[I" ∈ ky_WS := ky_in 645 (by decide +kernel) (by decide +kernel)
theorem kw_646 : Cond.fieldLink RX7 22 "ClauseDeskModel" "markCost" "[I" ∈ ky_WS := ky_in 646 (by decide +kernel) (by decide +kernel)
theorem kw_647 : Cond.fieldLink RX7 182 "ClauseDeskModel" "clauses" "I" ∈ ky_WS := ky_in 647 (by decide +kernel) (by decide +kernel)
theorem kw_648 : Cond.fieldLink RX7 25 "ClauseDeskModel" "head" "[I" ∈ ky_WS := ky_in 648 (by decide +kernel) (by decide +kernel)
theorem kw_649 : Cond.fieldLink RX7 28 "ClauseDeskModel" "headVariables" "[I" ∈ ky_WS := ky_in 649 (by decide +kernel) (by decide +kernel)
theorem kw_650 : Cond.fieldLink RX7 31 "ClauseDeskModel" "atoms" "[I" ∈ ky_WS := ky_in 650 (by decide +kernel) (by decide +kernel)
theorem kw_651 : Cond.fieldLink RX7 34 "ClauseDeskModel" "atomOf" "[I" ∈ ky_WS := ky_in 651 (by decide +kernel) (by decide +kernel)
theorem kw_652 : Cond.fieldLink RX7 37 "ClauseDeskModel" "atomVariables" "[I" ∈ ky_WS := ky_in 652 (by decide +kernel) (by decide +kernel)
theorem kw_653 : Cond.fieldLink RX7 40 "ClauseDeskModel" "bounds" "[I" ∈ ky_WS := ky_in 653 (by decide +kernel) (by decide +kernel)
theorem kw_654 : Cond.fieldLink RX7 43 "ClauseDeskModel" "boundFirst" "[I" ∈ ky_WS := ky_in 654 (by decide +kernel) (by decide +kernel)
theorem kw_655 : Cond.fieldLink RX7 46 "ClauseDeskModel" "boundSecond" "[I" ∈ ky_WS := ky_in 655 (by decide +kernel) (by decide +kernel)
theorem kw_656 : Cond.fieldLink RX7 49 "ClauseDeskModel" "boundCost" "[I" ∈ ky_WS := ky_in 656 (by decide +kernel) (by decide +kernel)
theorem kw_657 : Cond.fieldLink RX7 52 "ClauseDeskModel" "height" "[I" ∈ ky_WS := ky_in 657 (by decide +kernel) (by decide +kernel)
theorem kw_658 : Cond.fieldLink RX7 55 "ClauseDeskModel" "reason" "[I" ∈ ky_WS := ky_in 658 (by decide +kernel) (by decide +kernel)
theorem kw_659 : Cond.fieldLink RX7 58 "ClauseDeskModel" "premises" "[I" ∈ ky_WS := ky_in 659 (by decide +kernel) (by decide +kernel)
theorem kw_660 : Cond.fieldLink RX7 148 "ClauseDeskModel" "rounds" "I" ∈ ky_WS := ky_in 660 (by decide +kernel) (by decide +kernel)
theorem kw_661 : Cond.fieldLink RX7 61 "ClauseDeskModel" "alarm" "I" ∈ ky_WS := ky_in 661 (by decide +kernel) (by decide +kernel)
theorem kw_662 : Cond.fieldLink RX7 65 "ClauseDeskModel" "alarmPremises" "[I" ∈ ky_WS := ky_in 662 (by decide +kernel) (by decide +kernel)
theorem kw_663 : Cond.fieldLink RX7 157 "ClauseDeskModel" "verdict" "I" ∈ ky_WS := ky_in 663 (by decide +kernel) (by decide +kernel)
theorem kw_664 : Cond.fieldLink RX7 217 "ClauseDeskModel" "refined" "I" ∈ ky_WS := ky_in 664 (by decide +kernel) (by decide +kernel)
theorem kw_665 : Cond.fieldLink RX7 108 "ClauseDeskModel" "steps" "I" ∈ ky_WS := ky_in 665 (by decide +kernel) (by decide +kernel)
theorem kw_666 : Cond.fieldLink RX7 68 "ClauseDeskModel" "from" "[I" ∈ ky_WS := ky_in 666 (by decide +kernel) (by decide +kernel)
theorem kw_667 : Cond.fieldLink RX7 71 "ClauseDeskModel" "to" "[I" ∈ ky_WS := ky_in 667 (by decide +kernel) (by decide +kernel)
theorem kw_668 : Cond.fieldLink RX7 74 "ClauseDeskModel" "cost" "[I" ∈ ky_WS := ky_in 668 (by decide +kernel) (by decide +kernel)
theorem kw_669 : Cond.fieldLink RX7 77 "ClauseDeskModel" "way" "[I" ∈ ky_WS := ky_in 669 (by decide +kernel) (by decide +kernel)
theorem kw_670 : Cond.fieldLink RX7 151 "ClauseDeskModel" "nodes" "I" ∈ ky_WS := ky_in 670 (by decide +kernel) (by decide +kernel)
theorem kw_671 : Cond.fieldLink RX7 80 "ClauseDeskModel" "clauseAt" "[I" ∈ ky_WS := ky_in 671 (by decide +kernel) (by decide +kernel)
theorem kw_672 : Cond.fieldLink RX7 83 "ClauseDeskModel" "parent" "[I" ∈ ky_WS := ky_in 672 (by decide +kernel) (by decide +kernel)
theorem kw_673 : Cond.fieldLink RX7 86 "ClauseDeskModel" "which" "[I" ∈ ky_WS := ky_in 673 (by decide +kernel) (by decide +kernel)
theorem kw_674 : Cond.fieldLink RX7 89 "ClauseDeskModel" "cubeAt" "[I" ∈ ky_WS := ky_in 674 (by decide +kernel) (by decide +kernel)
theorem kw_675 : Cond.fieldLink RX7 92 "ClauseDeskModel" "endAt" "[I" ∈ ky_WS := ky_in 675 (by decide +kernel) (by decide +kernel)
theorem kw_676 : Cond.fieldLink RX7 95 "ClauseDeskModel" "waiting" "[I" ∈ ky_WS := ky_in 676 (by decide +kernel) (by decide +kernel)
theorem kw_677 : Cond.fieldLink RX7 142 "ClauseDeskModel" "one" "I" ∈ ky_WS := ky_in 677 (by decide +kernel) (by decide +kernel)
theorem kw_678 : Cond.fieldLink RX7 145 "ClauseDeskModel" "two" "I" ∈ ky_WS := ky_in 678 (by decide +kernel) (by decide +kernel)
theorem kw_19 : Cond.methodLink RL 58 yX6_init ∈ ky_WS := ky_in 19 (by decide +kernel) (by decide +kernel)
theorem kw_31 : Cond.methodLink RX6 23 yX5_init ∈ ky_WS := ky_in 31 (by decide +kernel) (by decide +kernel)
theorem kw_44 : Cond.methodLink RX3 9 yX0_init ∈ ky_WS := ky_in 44 (by decide +kernel) (by decide +kernel)
theorem kw_48 : Cond.methodLink RX0 15 yX0_clear ∈ ky_WS := ky_in 48 (by decide +kernel) (by decide +kernel)
theorem kw_109 : Cond.methodLink RX6 30 yX0_init ∈ ky_WS := ky_in 109 (by decide +kernel) (by decide +kernel)
theorem kw_153 : Cond.methodLink RX6 42 yX1_init ∈ ky_WS := ky_in 153 (by decide +kernel) (by decide +kernel)
theorem kw_177 : Cond.methodLink RX1 24 yX0_init ∈ ky_WS := ky_in 177 (by decide +kernel) (by decide +kernel)
theorem kw_236 : Cond.methodLink RL 95 yX6_start ∈ ky_WS := ky_in 236 (by decide +kernel) (by decide +kernel)
theorem kw_240 : Cond.methodLink RX6 68 yX6_startAfresh ∈ ky_WS := ky_in 240 (by decide +kernel) (by decide +kernel)
theorem kw_244 : Cond.methodLink RX6 258 yX4_forgetStates ∈ ky_WS := ky_in 244 (by decide +kernel) (by decide +kernel)
theorem kw_248 : Cond.methodLink RL 99 yX6_check ∈ ky_WS := ky_in 248 (by decide +kernel) (by decide +kernel)
theorem kw_252 : Cond.methodLink RX6 153 yX6_isObeyed ∈ ky_WS := ky_in 252 (by decide +kernel) (by decide +kernel)
theorem kw_256 : Cond.methodLink RX6 269 yX6_nextPremises ∈ ky_WS := ky_in 256 (by decide +kernel) (by decide +kernel)
theorem kw_260 : Cond.methodLink RX6 295 yX6_choices ∈ ky_WS := ky_in 260 (by decide +kernel) (by decide +kernel)
theorem kw_264 : Cond.methodLink RX6 201 yX4_cubes ∈ ky_WS := ky_in 264 (by decide +kernel) (by decide +kernel)
theorem kw_268 : Cond.methodLink RX6 298 yX6_lay ∈ ky_WS := ky_in 268 (by decide +kernel) (by decide +kernel)
theorem kw_272 : Cond.methodLink RX6 291 yX0_copyFrom ∈ ky_WS := ky_in 272 (by decide +kernel) (by decide +kernel)
theorem kw_276 : Cond.methodLink RX0 23 arraycopyName ∈ ky_WS := ky_in 276 (by decide +kernel) (by decide +kernel)
theorem kw_279 : Cond.methodLink RX6 212 yX4_restrict ∈ ky_WS := ky_in 279 (by decide +kernel) (by decide +kernel)
theorem kw_286 : Cond.methodLink RX4 55 yX0_add ∈ ky_WS := ky_in 286 (by decide +kernel) (by decide +kernel)
theorem kw_290 : Cond.methodLink RX6 287 yX6_isAnyMissing ∈ ky_WS := ky_in 290 (by decide +kernel) (by decide +kernel)
theorem kw_294 : Cond.methodLink RX6 280 yX6_isMissing ∈ ky_WS := ky_in 294 (by decide +kernel) (by decide +kernel)
theorem kw_298 : Cond.methodLink RL 106 yX6_state ∈ ky_WS := ky_in 298 (by decide +kernel) (by decide +kernel)
theorem kw_302 : Cond.methodLink RL 62 yL_relation ∈ ky_WS := ky_in 302 (by decide +kernel) (by decide +kernel)
theorem kw_307 : Cond.methodLink RL 7 yX6_relation ∈ ky_WS := ky_in 307 (by decide +kernel) (by decide +kernel)
theorem kw_396 : Cond.methodLink RL 71 yL_mark ∈ ky_WS := ky_in 396 (by decide +kernel) (by decide +kernel)
theorem kw_399 : Cond.methodLink RL 17 yX6_mark ∈ ky_WS := ky_in 399 (by decide +kernel) (by decide +kernel)
theorem kw_403 : Cond.methodLink RX6 71 yX6_isRelation ∈ ky_WS := ky_in 403 (by decide +kernel) (by decide +kernel)
theorem kw_407 : Cond.methodLink RX6 75 yX4_canMark ∈ ky_WS := ky_in 407 (by decide +kernel) (by decide +kernel)
theorem kw_411 : Cond.methodLink RX4 44 yX4_areTwoCorners ∈ ky_WS := ky_in 411 (by decide +kernel) (by decide +kernel)
theorem kw_415 : Cond.methodLink RX4 37 yX4_isCorner ∈ ky_WS := ky_in 415 (by decide +kernel) (by decide +kernel)
theorem kw_423 : Cond.methodLink RX6 84 yX4_hasMark ∈ ky_WS := ky_in 423 (by decide +kernel) (by decide +kernel)
theorem kw_428 : Cond.methodLink RX6 89 yX4_addMark ∈ ky_WS := ky_in 428 (by decide +kernel) (by decide +kernel)
theorem kw_432 : Cond.methodLink RL 75 yL_clause ∈ ky_WS := ky_in 432 (by decide +kernel) (by decide +kernel)
theorem kw_435 : Cond.methodLink RL 21 yX6_clause ∈ ky_WS := ky_in 435 (by decide +kernel) (by decide +kernel)
theorem kw_439 : Cond.methodLink RX6 93 yX6_isLiteral ∈ ky_WS := ky_in 439 (by decide +kernel) (by decide +kernel)
theorem kw_443 : Cond.methodLink RX6 244 yX6_isVariable ∈ ky_WS := ky_in 443 (by decide +kernel) (by decide +kernel)
theorem kw_448 : Cond.methodLink RX6 107 yX6_fill ∈ ky_WS := ky_in 448 (by decide +kernel) (by decide +kernel)
theorem kw_452 : Cond.methodLink RL 79 yL_atom ∈ ky_WS := ky_in 452 (by decide +kernel) (by decide +kernel)
theorem kw_455 : Cond.methodLink RL 25 yX6_atom ∈ ky_WS := ky_in 455 (by decide +kernel) (by decide +kernel)
theorem kw_460 : Cond.methodLink RL 82 yL_bound ∈ ky_WS := ky_in 460 (by decide +kernel) (by decide +kernel)
theorem kw_463 : Cond.methodLink RL 28 yX6_bound ∈ ky_WS := ky_in 463 (by decide +kernel) (by decide +kernel)
theorem kw_467 : Cond.methodLink RX6 120 yX6_areTwoPoints ∈ ky_WS := ky_in 467 (by decide +kernel) (by decide +kernel)
theorem kw_470 : Cond.methodLink RX6 124 yX6_isLimit ∈ ky_WS := ky_in 470 (by decide +kernel) (by decide +kernel)
theorem kw_473 : Cond.methodLink RX6 137 yX0_add ∈ ky_WS := ky_in 473 (by decide +kernel) (by decide +kernel)
theorem kw_474 : Cond.methodLink RL 85 yL_round ∈ ky_WS := ky_in 474 (by decide +kernel) (by decide +kernel)
theorem kw_477 : Cond.methodLink RL 31 yX6_round ∈ ky_WS := ky_in 477 (by decide +kernel) (by decide +kernel)
theorem kw_482 : Cond.methodLink RX6 142 yX6_makeRound ∈ ky_WS := ky_in 482 (by decide +kernel) (by decide +kernel)
theorem kw_486 : Cond.methodLink RX6 261 yX6_raiseAlarm ∈ ky_WS := ky_in 486 (by decide +kernel) (by decide +kernel)
theorem kw_490 : Cond.methodLink RX6 273 yX6_growTree ∈ ky_WS := ky_in 490 (by decide +kernel) (by decide +kernel)
theorem kw_494 : Cond.methodLink RX6 305 yX3_fill ∈ ky_WS := ky_in 494 (by decide +kernel) (by decide +kernel)
theorem kw_498 : Cond.methodLink RX6 284 yX1_premise ∈ ky_WS := ky_in 498 (by decide +kernel) (by decide +kernel)
theorem kw_502 : Cond.methodLink RX6 308 yX5_number ∈ ky_WS := ky_in 502 (by decide +kernel) (by decide +kernel)
theorem kw_506 : Cond.methodLink RX5 37 yX5_postpone ∈ ky_WS := ky_in 506 (by decide +kernel) (by decide +kernel)
theorem kw_510 : Cond.methodLink RX6 321 yX6_growChild ∈ ky_WS := ky_in 510 (by decide +kernel) (by decide +kernel)
theorem kw_514 : Cond.methodLink RX6 265 yX6_reachBy ∈ ky_WS := ky_in 514 (by decide +kernel) (by decide +kernel)
theorem kw_518 : Cond.methodLink RX6 277 yX6_reachCubes ∈ ky_WS := ky_in 518 (by decide +kernel) (by decide +kernel)
theorem kw_522 : Cond.methodLink RL 89 yL_refine ∈ ky_WS := ky_in 522 (by decide +kernel) (by decide +kernel)
theorem kw_525 : Cond.methodLink RL 35 yX6_refine ∈ ky_WS := ky_in 525 (by decide +kernel) (by decide +kernel)
theorem kw_530 : Cond.methodLink RX6 148 yX6_refineAlarm ∈ ky_WS := ky_in 530 (by decide +kernel) (by decide +kernel)
theorem kw_534 : Cond.methodLink RX6 324 yX6_closeTree ∈ ky_WS := ky_in 534 (by decide +kernel) (by decide +kernel)
theorem kw_538 : Cond.methodLink RX6 334 yX6_handUp ∈ ky_WS := ky_in 538 (by decide +kernel) (by decide +kernel)
theorem kw_542 : Cond.methodLink RX6 341 yX4_areTwoCorners ∈ ky_WS := ky_in 542 (by decide +kernel) (by decide +kernel)
theorem kw_543 : Cond.methodLink RX6 344 yX2_point ∈ ky_WS := ky_in 543 (by decide +kernel) (by decide +kernel)
theorem kw_548 : Cond.methodLink RX6 168 yX0_leastOf ∈ ky_WS := ky_in 548 (by decide +kernel) (by decide +kernel)
theorem kw_552 : Cond.methodLink RX6 330 yX6_markBy ∈ ky_WS := ky_in 552 (by decide +kernel) (by decide +kernel)
theorem kw_556 : Cond.methodLink RL 92 yL_verify ∈ ky_WS := ky_in 556 (by decide +kernel) (by decide +kernel)
theorem kw_559 : Cond.methodLink RL 38 yX6_verify ∈ ky_WS := ky_in 559 (by decide +kernel) (by decide +kernel)
theorem kw_564 : Cond.methodLink RL 103 yL_follows ∈ ky_WS := ky_in 564 (by decide +kernel) (by decide +kernel)
theorem kw_569 : Cond.methodLink RL 41 yX6_follows ∈ ky_WS := ky_in 569 (by decide +kernel) (by decide +kernel)
theorem kw_607 : Cond.methodLink RL 110 yL_shown ∈ ky_WS := ky_in 607 (by decide +kernel) (by decide +kernel)
theorem kw_610 : Cond.methodLink RL 48 yX6_shown ∈ ky_WS := ky_in 610 (by decide +kernel) (by decide +kernel)
theorem kw_616 : Cond.methodLink RL 113 yL_cube ∈ ky_WS := ky_in 616 (by decide +kernel) (by decide +kernel)
theorem kw_619 : Cond.methodLink RL 51 yX6_cube ∈ ky_WS := ky_in 619 (by decide +kernel) (by decide +kernel)
theorem kw_624 : Cond.methodLink RX6 209 yX0_clear ∈ ky_WS := ky_in 624 (by decide +kernel) (by decide +kernel)
theorem kw_625 : Cond.methodLink RL 116 yL_node ∈ ky_WS := ky_in 625 (by decide +kernel) (by decide +kernel)
theorem kw_628 : Cond.methodLink RL 54 yX6_node ∈ ky_WS := ky_in 628 (by decide +kernel) (by decide +kernel)
theorem kw_636 : Cond.methodLink RL 61 yX7_init ∈ ky_WS := ky_in 636 (by decide +kernel) (by decide +kernel)
theorem kw_758 : Cond.methodLink RL 68 yX7_thrown ∈ ky_WS := ky_in 758 (by decide +kernel) (by decide +kernel)
theorem kw_762 : Cond.methodLink RL 67 yX7_relation ∈ ky_WS := ky_in 762 (by decide +kernel) (by decide +kernel)
theorem kw_766 : Cond.methodLink RX7 104 yX7_in ∈ ky_WS := ky_in 766 (by decide +kernel) (by decide +kernel)
theorem kw_769 : Cond.methodLink RX7 160 yX7_made ∈ ky_WS := ky_in 769 (by decide +kernel) (by decide +kernel)
theorem kw_773 : Cond.methodLink RX7 154 yX7_freshStart ∈ ky_WS := ky_in 773 (by decide +kernel) (by decide +kernel)
theorem kw_777 : Cond.methodLink RL 74 yX7_mark ∈ ky_WS := ky_in 777 (by decide +kernel) (by decide +kernel)
theorem kw_781 : Cond.methodLink RX7 163 yX7_isRelation ∈ ky_WS := ky_in 781 (by decide +kernel) (by decide +kernel)
theorem kw_785 : Cond.methodLink RX7 166 yX7_isPlace ∈ ky_WS := ky_in 785 (by decide +kernel) (by decide +kernel)
theorem kw_789 : Cond.methodLink RX7 169 yX7_isMark ∈ ky_WS := ky_in 789 (by decide +kernel) (by decide +kernel)
theorem kw_793 : Cond.methodLink RX7 172 yX7_fails ∈ ky_WS := ky_in 793 (by decide +kernel) (by decide +kernel)
theorem kw_797 : Cond.methodLink RX7 175 yX7_keepMark ∈ ky_WS := ky_in 797 (by decide +kernel) (by decide +kernel)
theorem kw_801 : Cond.methodLink RL 78 yX7_clause ∈ ky_WS := ky_in 801 (by decide +kernel) (by decide +kernel)
theorem kw_805 : Cond.methodLink RX7 179 yX7_areVariables ∈ ky_WS := ky_in 805 (by decide +kernel) (by decide +kernel)
theorem kw_809 : Cond.methodLink RL 81 yX7_atom ∈ ky_WS := ky_in 809 (by decide +kernel) (by decide +kernel)
theorem kw_813 : Cond.methodLink RL 84 yX7_bound ∈ ky_WS := ky_in 813 (by decide +kernel) (by decide +kernel)
theorem kw_817 : Cond.methodLink RL 98 yX7_start ∈ ky_WS := ky_in 817 (by decide +kernel) (by decide +kernel)
theorem kw_821 : Cond.methodLink RL 88 yX7_round ∈ ky_WS := ky_in 821 (by decide +kernel) (by decide +kernel)
theorem kw_825 : Cond.methodLink RX7 185 yX7_next ∈ ky_WS := ky_in 825 (by decide +kernel) (by decide +kernel)
theorem kw_829 : Cond.methodLink RX7 189 yX7_isFound ∈ ky_WS := ky_in 829 (by decide +kernel) (by decide +kernel)
theorem kw_833 : Cond.methodLink RX7 130 yX7_cubesOf ∈ ky_WS := ky_in 833 (by decide +kernel) (by decide +kernel)
theorem kw_837 : Cond.methodLink RX7 134 yX7_isBefore ∈ ky_WS := ky_in 837 (by decide +kernel) (by decide +kernel)
theorem kw_841 : Cond.methodLink RX7 138 yX7_fits ∈ ky_WS := ky_in 841 (by decide +kernel) (by decide +kernel)
theorem kw_845 : Cond.methodLink RX7 120 yX7_addBounds ∈ ky_WS := ky_in 845 (by decide +kernel) (by decide +kernel)
theorem kw_849 : Cond.methodLink RX7 116 yX7_add ∈ ky_WS := ky_in 849 (by decide +kernel) (by decide +kernel)
theorem kw_853 : Cond.methodLink RX7 123 yX7_addCube ∈ ky_WS := ky_in 853 (by decide +kernel) (by decide +kernel)
theorem kw_857 : Cond.methodLink RX7 127 yX7_holdsTogether ∈ ky_WS := ky_in 857 (by decide +kernel) (by decide +kernel)
theorem kw_861 : Cond.methodLink RX7 112 yX7_settles ∈ ky_WS := ky_in 861 (by decide +kernel) (by decide +kernel)
theorem kw_866 : Cond.methodLink RX7 192 yX7_grow ∈ ky_WS := ky_in 866 (by decide +kernel) (by decide +kernel)
theorem kw_870 : Cond.methodLink RX7 198 yX7_place ∈ ky_WS := ky_in 870 (by decide +kernel) (by decide +kernel)
theorem kw_874 : Cond.methodLink RX7 202 yX7_stateOf ∈ ky_WS := ky_in 874 (by decide +kernel) (by decide +kernel)
theorem kw_878 : Cond.methodLink RX7 195 yX7_isReached ∈ ky_WS := ky_in 878 (by decide +kernel) (by decide +kernel)
theorem kw_882 : Cond.methodLink RL 91 yX7_refine ∈ ky_WS := ky_in 882 (by decide +kernel) (by decide +kernel)
theorem kw_886 : Cond.methodLink RX7 208 yX7_improve ∈ ky_WS := ky_in 886 (by decide +kernel) (by decide +kernel)
theorem kw_890 : Cond.methodLink RX7 211 yX7_gather ∈ ky_WS := ky_in 890 (by decide +kernel) (by decide +kernel)
theorem kw_894 : Cond.methodLink RX7 205 yX7_join ∈ ky_WS := ky_in 894 (by decide +kernel) (by decide +kernel)
theorem kw_898 : Cond.methodLink RX7 214 yX7_marksOf ∈ ky_WS := ky_in 898 (by decide +kernel) (by decide +kernel)
theorem kw_902 : Cond.methodLink RX7 220 yX7_least ∈ ky_WS := ky_in 902 (by decide +kernel) (by decide +kernel)
theorem kw_906 : Cond.methodLink RL 94 yX7_verify ∈ ky_WS := ky_in 906 (by decide +kernel) (by decide +kernel)
theorem kw_910 : Cond.methodLink RL 102 yX7_check ∈ ky_WS := ky_in 910 (by decide +kernel) (by decide +kernel)
theorem kw_914 : Cond.methodLink RX7 224 yX7_isBroken ∈ ky_WS := ky_in 914 (by decide +kernel) (by decide +kernel)
theorem kw_918 : Cond.methodLink RL 105 yX7_follows ∈ ky_WS := ky_in 918 (by decide +kernel) (by decide +kernel)
theorem kw_922 : Cond.methodLink RL 109 yX7_state ∈ ky_WS := ky_in 922 (by decide +kernel) (by decide +kernel)
theorem kw_926 : Cond.methodLink RL 112 yX7_shown ∈ ky_WS := ky_in 926 (by decide +kernel) (by decide +kernel)
theorem kw_930 : Cond.methodLink RL 115 yX7_cube ∈ ky_WS := ky_in 930 (by decide +kernel) (by decide +kernel)
theorem kw_934 : Cond.methodLink RL 119 yX7_node ∈ ky_WS := ky_in 934 (by decide +kernel) (by decide +kernel)
theorem kw_52 : Cond.constant RX0 22 (1000000000 : Int32) ∈ ky_WS := ky_in 52 (by decide +kernel) (by decide +kernel)
theorem kw_590 : Cond.constant RX6 172 (1000000000 : Int32) ∈ ky_WS := ky_in 590 (by decide +kernel) (by decide +kernel)
theorem kw_865 : Cond.constant RX7 111 (1000000000 : Int32) ∈ ky_WS := ky_in 865 (by decide +kernel) (by decide +kernel)
theorem kw_arraycopy : Cond.native arraycopyName ∈ ky_WS ∧ Cond.static arraycopyName ∈ ky_WS ∧ Cond.initialized "java/lang/System" ∈ ky_WS := ⟨ky_in 278 (by decide +kernel) (by decide +kernel), ky_in 277 (by decide +kernel) (by decide +kernel), ky_in 14 (by decide +kernel) (by decide +kernel)⟩
theorem iv_X0_clear : ky_iv yX0_clear RX0 (.code yX0_clear cX0_clear 2 none) := ⟨ky_in 49 (by decide +kernel) (by decide +kernel), ky_in 50 (by decide +kernel) (by decide +kernel), ky_in 4 (by decide +kernel) (by decide +kernel), ky_in 51 (by decide +kernel) (by decide +kernel)⟩
theorem iv_X6_start : ky_iv yX6_start RX6 (.code yX6_start cX6_start 1 none) := ⟨ky_in 237 (by decide +kernel) (by decide +kernel), ky_in 238 (by decide +kernel) (by decide +kernel), ky_in 1 (by decide +kernel) (by decide +kernel), ky_in 239 (by decide +kernel) (by decide +kernel)⟩
theorem iv_X6_startAfresh : ky_iv yX6_startAfresh RX6 (.code yX6_startAfresh cX6_startAfresh 2 none) := ⟨ky_in 242 (by decide +kernel) (by decide +kernel), ky_inS 0 (by decide +kernel) (by decide +kernel), ky_in 1 (by decide +kernel) (by decide +kernel), ky_in 243 (by decide +kernel) (by decide +kernel)⟩
theorem iv_X4_forgetStates : ky_iv yX4_forgetStates RX4 (.code yX4_forgetStates cX4_forgetStates 2 none) := ⟨ky_in 245 (by decide +kernel) (by decide +kernel), ky_in 246 (by decide +kernel) (by decide +kernel), ky_in 5 (by decide +kernel) (by decide +kernel), ky_in 247 (by decide +kernel) (by decide +kernel)⟩
theorem iv_X6_check : ky_iv yX6_check RX6 (.code yX6_check cX6_check 2 (some .int)) := ⟨ky_in 249 (by decide +kernel) (by decide +kernel), ky_in 250 (by decide +kernel) (by decide +kernel), ky_in 1 (by decide +kernel) (by decide +kernel), ky_in 251 (by decide +kernel) (by decide +kernel)⟩
theorem iv_X6_isObeyed : ky_iv yX6_isObeyed RX6 (.code yX6_isObeyed cX6_isObeyed 3 (some .boolean)) := ⟨ky_in 254 (by decide +kernel) (by decide +kernel), ky_inS 1 (by decide +kernel) (by decide +kernel), ky_in 1 (by decide +kernel) (by decide +kernel), ky_in 255 (by decide +kernel) (by decide +kernel)⟩
theorem iv_X6_nextPremises : ky_iv yX6_nextPremises RX6 (.code yX6_nextPremises cX6_nextPremises 7 (some .int)) := ⟨ky_in 258 (by decide +kernel) (by decide +kernel), ky_inS 2 (by decide +kernel) (by decide +kernel), ky_in 1 (by decide +kernel) (by decide +kernel), ky_in 259 (by decide +kernel) (by decide +kernel)⟩
theorem iv_X6_choices : ky_iv yX6_choices RX6 (.code yX6_choices cX6_choices 3 (some .int)) := ⟨ky_in 262 (by decide +kernel) (by decide +kernel), ky_inS 3 (by decide +kernel) (by decide +kernel), ky_in 1 (by decide +kernel) (by decide +kernel), ky_in 263 (by decide +kernel) (by decide +kernel)⟩
theorem iv_X4_cubes : ky_iv yX4_cubes RX4 (.code yX4_cubes cX4_cubes 1 (some .int)) := ⟨ky_in 265 (by decide +kernel) (by decide +kernel), ky_in 266 (by decide +kernel) (by decide +kernel), ky_in 5 (by decide +kernel) (by decide +kernel), ky_in 267 (by decide +kernel) (by decide +kernel)⟩
theorem iv_X6_lay : ky_iv yX6_lay RX6 (.code yX6_lay cX6_lay 9 (some .boolean)) := ⟨ky_in 270 (by decide +kernel) (by decide +kernel), ky_inS 4 (by decide +kernel) (by decide +kernel), ky_in 1 (by decide +kernel) (by decide +kernel), ky_in 271 (by decide +kernel) (by decide +kernel)⟩
theorem iv_X0_copyFrom : ky_iv yX0_copyFrom RX0 (.code yX0_copyFrom cX0_copyFrom 2 none) := ⟨ky_in 273 (by decide +kernel) (by decide +kernel), ky_in 274 (by decide +kernel) (by decide +kernel), ky_in 4 (by decide +kernel) (by decide +kernel), ky_in 275 (by decide +kernel) (by decide +kernel)⟩
theorem iv_X4_restrict : ky_iv yX4_restrict RX4 (.code yX4_restrict cX4_restrict 8 none) := ⟨ky_in 280 (by decide +kernel) (by decide +kernel), ky_in 281 (by decide +kernel) (by decide +kernel), ky_in 5 (by decide +kernel) (by decide +kernel), ky_in 282 (by decide +kernel) (by decide +kernel)⟩
theorem is_X6_pointAt : ky_is9 yX6_pointAt (.code yX6_pointAt cX6_pointAt 3 (some .int)) := ⟨ky_in 284 (by decide +kernel) (by decide +kernel), ky_in 1 (by decide +kernel) (by decide +kernel), ky_in 285 (by decide +kernel) (by decide +kernel)⟩
theorem iv_X0_add : ky_iv yX0_add RX0 (.code yX0_add cX0_add 9 none) := ⟨ky_in 287 (by decide +kernel) (by decide +kernel), ky_in 288 (by decide +kernel) (by decide +kernel), ky_in 4 (by decide +kernel) (by decide +kernel), ky_in 289 (by decide +kernel) (by decide +kernel)⟩
theorem iv_X6_isAnyMissing : ky_iv yX6_isAnyMissing RX6 (.code yX6_isAnyMissing cX6_isAnyMissing 4 (some .boolean)) := ⟨ky_in 292 (by decide +kernel) (by decide +kernel), ky_inS 5 (by decide +kernel) (by decide +kernel), ky_in 1 (by decide +kernel) (by decide +kernel), ky_in 293 (by decide +kernel) (by decide +kernel)⟩
theorem iv_X6_isMissing : ky_iv yX6_isMissing RX6 (.code yX6_isMissing cX6_isMissing 4 (some .boolean)) := ⟨ky_in 296 (by decide +kernel) (by decide +kernel), ky_inS 6 (by decide +kernel) (by decide +kernel), ky_in 1 (by decide +kernel) (by decide +kernel), ky_in 297 (by decide +kernel) (by decide +kernel)⟩
theorem iv_X6_state : ky_iv yX6_state RX6 (.code yX6_state cX6_state 2 (some .int)) := ⟨ky_in 299 (by decide +kernel) (by decide +kernel), ky_in 300 (by decide +kernel) (by decide +kernel), ky_in 1 (by decide +kernel) (by decide +kernel), ky_in 301 (by decide +kernel) (by decide +kernel)⟩
theorem iv_X6_relation : ky_iv yX6_relation RX6 (.code yX6_relation cX6_relation 2 (some .int)) := ⟨ky_in 308 (by decide +kernel) (by decide +kernel), ky_in 309 (by decide +kernel) (by decide +kernel), ky_in 1 (by decide +kernel) (by decide +kernel), ky_in 310 (by decide +kernel) (by decide +kernel)⟩
theorem iv_X6_mark : ky_iv yX6_mark RX6 (.code yX6_mark cX6_mark 6 (some .int)) := ⟨ky_in 400 (by decide +kernel) (by decide +kernel), ky_in 401 (by decide +kernel) (by decide +kernel), ky_in 1 (by decide +kernel) (by decide +kernel), ky_in 402 (by decide +kernel) (by decide +kernel)⟩
theorem iv_X6_isRelation : ky_iv yX6_isRelation RX6 (.code yX6_isRelation cX6_isRelation 2 (some .boolean)) := ⟨ky_in 405 (by decide +kernel) (by decide +kernel), ky_inS 8 (by decide +kernel) (by decide +kernel), ky_in 1 (by decide +kernel) (by decide +kernel), ky_in 406 (by decide +kernel) (by decide +kernel)⟩
theorem iv_X4_canMark : ky_iv yX4_canMark RX4 (.code yX4_canMark cX4_canMark 4 (some .boolean)) := ⟨ky_in 408 (by decide +kernel) (by decide +kernel), ky_in 409 (by decide +kernel) (by decide +kernel), ky_in 5 (by decide +kernel) (by decide +kernel), ky_in 410 (by decide +kernel) (by decide +kernel)⟩
theorem iv_X4_areTwoCorners : ky_iv yX4_areTwoCorners RX4 (.code yX4_areTwoCorners cX4_areTwoCorners 3 (some .boolean)) := ⟨ky_in 412 (by decide +kernel) (by decide +kernel), ky_in 413 (by decide +kernel) (by decide +kernel), ky_in 5 (by decide +kernel) (by decide +kernel), ky_in 414 (by decide +kernel) (by decide +kernel)⟩
theorem iv_X4_isCorner : ky_iv yX4_isCorner RX4 (.code yX4_isCorner cX4_isCorner 2 (some .boolean)) := ⟨ky_in 417 (by decide +kernel) (by decide +kernel), ky_inS 9 (by decide +kernel) (by decide +kernel), ky_in 5 (by decide +kernel) (by decide +kernel), ky_in 418 (by decide +kernel) (by decide +kernel)⟩
theorem is_X6_isLimit : ky_is9 yX6_isLimit (.code yX6_isLimit cX6_isLimit 1 (some .boolean)) := ⟨ky_in 420 (by decide +kernel) (by decide +kernel), ky_in 1 (by decide +kernel) (by decide +kernel), ky_in 421 (by decide +kernel) (by decide +kernel)⟩
theorem iv_X4_hasMark : ky_iv yX4_hasMark RX4 (.code yX4_hasMark cX4_hasMark 5 (some .boolean)) := ⟨ky_in 424 (by decide +kernel) (by decide +kernel), ky_in 425 (by decide +kernel) (by decide +kernel), ky_in 5 (by decide +kernel) (by decide +kernel), ky_in 426 (by decide +kernel) (by decide +kernel)⟩
theorem iv_X4_addMark : ky_iv yX4_addMark RX4 (.code yX4_addMark cX4_addMark 4 none) := ⟨ky_in 429 (by decide +kernel) (by decide +kernel), ky_in 430 (by decide +kernel) (by decide +kernel), ky_in 5 (by decide +kernel) (by decide +kernel), ky_in 431 (by decide +kernel) (by decide +kernel)⟩
theorem iv_X6_clause : ky_iv yX6_clause RX6 (.code yX6_clause cX6_clause 4 (some .int)) := ⟨ky_in 436 (by decide +kernel) (by decide +kernel), ky_in 437 (by decide +kernel) (by decide +kernel), ky_in 1 (by decide +kernel) (by decide +kernel), ky_in 438 (by decide +kernel) (by decide +kernel)⟩
theorem iv_X6_isLiteral : ky_iv yX6_isLiteral RX6 (.code yX6_isLiteral cX6_isLiteral 4 (some .boolean)) := ⟨ky_in 441 (by decide +kernel) (by decide +kernel), ky_inS 10 (by decide +kernel) (by decide +kernel), ky_in 1 (by decide +kernel) (by decide +kernel), ky_in 442 (by decide +kernel) (by decide +kernel)⟩
theorem is_X6_isVariable : ky_is9 yX6_isVariable (.code yX6_isVariable cX6_isVariable 1 (some .boolean)) := ⟨ky_in 444 (by decide +kernel) (by decide +kernel), ky_in 1 (by decide +kernel) (by decide +kernel), ky_in 445 (by decide +kernel) (by decide +kernel)⟩
theorem iv_X6_fill : ky_iv yX6_fill RX6 (.code yX6_fill cX6_fill 5 none) := ⟨ky_in 450 (by decide +kernel) (by decide +kernel), ky_inS 11 (by decide +kernel) (by decide +kernel), ky_in 1 (by decide +kernel) (by decide +kernel), ky_in 451 (by decide +kernel) (by decide +kernel)⟩
theorem iv_X6_atom : ky_iv yX6_atom RX6 (.code yX6_atom cX6_atom 5 (some .int)) := ⟨ky_in 456 (by decide +kernel) (by decide +kernel), ky_in 457 (by decide +kernel) (by decide +kernel), ky_in 1 (by decide +kernel) (by decide +kernel), ky_in 458 (by decide +kernel) (by decide +kernel)⟩
theorem iv_X6_bound : ky_iv yX6_bound RX6 (.code yX6_bound cX6_bound 5 (some .int)) := ⟨ky_in 464 (by decide +kernel) (by decide +kernel), ky_in 465 (by decide +kernel) (by decide +kernel), ky_in 1 (by decide +kernel) (by decide +kernel), ky_in 466 (by decide +kernel) (by decide +kernel)⟩
theorem is_X6_areTwoPoints : ky_is9 yX6_areTwoPoints (.code yX6_areTwoPoints cX6_areTwoPoints 2 (some .boolean)) := ⟨ky_in 468 (by decide +kernel) (by decide +kernel), ky_in 1 (by decide +kernel) (by decide +kernel), ky_in 469 (by decide +kernel) (by decide +kernel)⟩
theorem iv_X6_round : ky_iv yX6_round RX6 (.code yX6_round cX6_round 1 (some .int)) := ⟨ky_in 478 (by decide +kernel) (by decide +kernel), ky_in 479 (by decide +kernel) (by decide +kernel), ky_in 1 (by decide +kernel) (by decide +kernel), ky_in 480 (by decide +kernel) (by decide +kernel)⟩
theorem iv_X6_makeRound : ky_iv yX6_makeRound RX6 (.code yX6_makeRound cX6_makeRound 3 (some .int)) := ⟨ky_in 484 (by decide +kernel) (by decide +kernel), ky_inS 12 (by decide +kernel) (by decide +kernel), ky_in 1 (by decide +kernel) (by decide +kernel), ky_in 485 (by decide +kernel) (by decide +kernel)⟩
theorem iv_X6_raiseAlarm : ky_iv yX6_raiseAlarm RX6 (.code yX6_raiseAlarm cX6_raiseAlarm 3 (some .boolean)) := ⟨ky_in 488 (by decide +kernel) (by decide +kernel), ky_inS 13 (by decide +kernel) (by decide +kernel), ky_in 1 (by decide +kernel) (by decide +kernel), ky_in 489 (by decide +kernel) (by decide +kernel)⟩
theorem iv_X6_growTree : ky_iv yX6_growTree RX6 (.code yX6_growTree cX6_growTree 4 none) := ⟨ky_in 492 (by decide +kernel) (by decide +kernel), ky_inS 14 (by decide +kernel) (by decide +kernel), ky_in 1 (by decide +kernel) (by decide +kernel), ky_in 493 (by decide +kernel) (by decide +kernel)⟩
theorem iv_X3_fill : ky_iv yX3_fill RX3 (.code yX3_fill cX3_fill 5 none) := ⟨ky_in 495 (by decide +kernel) (by decide +kernel), ky_in 496 (by decide +kernel) (by decide +kernel), ky_in 3 (by decide +kernel) (by decide +kernel), ky_in 497 (by decide +kernel) (by decide +kernel)⟩
theorem iv_X1_premise : ky_iv yX1_premise RX1 (.code yX1_premise cX1_premise 3 (some .int)) := ⟨ky_in 499 (by decide +kernel) (by decide +kernel), ky_in 500 (by decide +kernel) (by decide +kernel), ky_in 6 (by decide +kernel) (by decide +kernel), ky_in 501 (by decide +kernel) (by decide +kernel)⟩
theorem iv_X5_number : ky_iv yX5_number RX5 (.code yX5_number cX5_number 4 none) := ⟨ky_in 503 (by decide +kernel) (by decide +kernel), ky_in 504 (by decide +kernel) (by decide +kernel), ky_in 2 (by decide +kernel) (by decide +kernel), ky_in 505 (by decide +kernel) (by decide +kernel)⟩
theorem iv_X5_postpone : ky_iv yX5_postpone RX5 (.code yX5_postpone cX5_postpone 4 none) := ⟨ky_in 508 (by decide +kernel) (by decide +kernel), ky_inS 15 (by decide +kernel) (by decide +kernel), ky_in 2 (by decide +kernel) (by decide +kernel), ky_in 509 (by decide +kernel) (by decide +kernel)⟩
theorem iv_X6_growChild : ky_iv yX6_growChild RX6 (.code yX6_growChild cX6_growChild 7 none) := ⟨ky_in 512 (by decide +kernel) (by decide +kernel), ky_inS 16 (by decide +kernel) (by decide +kernel), ky_in 1 (by decide +kernel) (by decide +kernel), ky_in 513 (by decide +kernel) (by decide +kernel)⟩
theorem iv_X6_reachBy : ky_iv yX6_reachBy RX6 (.code yX6_reachBy cX6_reachBy 5 (some .int)) := ⟨ky_in 516 (by decide +kernel) (by decide +kernel), ky_inS 17 (by decide +kernel) (by decide +kernel), ky_in 1 (by decide +kernel) (by decide +kernel), ky_in 517 (by decide +kernel) (by decide +kernel)⟩
theorem iv_X6_reachCubes : ky_iv yX6_reachCubes RX6 (.code yX6_reachCubes cX6_reachCubes 7 (some .int)) := ⟨ky_in 520 (by decide +kernel) (by decide +kernel), ky_inS 18 (by decide +kernel) (by decide +kernel), ky_in 1 (by decide +kernel) (by decide +kernel), ky_in 521 (by decide +kernel) (by decide +kernel)⟩
theorem iv_X6_refine : ky_iv yX6_refine RX6 (.code yX6_refine cX6_refine 1 (some .int)) := ⟨ky_in 526 (by decide +kernel) (by decide +kernel), ky_in 527 (by decide +kernel) (by decide +kernel), ky_in 1 (by decide +kernel) (by decide +kernel), ky_in 528 (by decide +kernel) (by decide +kernel)⟩
theorem iv_X6_refineAlarm : ky_iv yX6_refineAlarm RX6 (.code yX6_refineAlarm cX6_refineAlarm 3 (some .int)) := ⟨ky_in 532 (by decide +kernel) (by decide +kernel), ky_inS 19 (by decide +kernel) (by decide +kernel), ky_in 1 (by decide +kernel) (by decide +kernel), ky_in 533 (by decide +kernel) (by decide +kernel)⟩
theorem iv_X6_closeTree : ky_iv yX6_closeTree RX6 (.code yX6_closeTree cX6_closeTree 3 none) := ⟨ky_in 536 (by decide +kernel) (by decide +kernel), ky_inS 20 (by decide +kernel) (by decide +kernel), ky_in 1 (by decide +kernel) (by decide +kernel), ky_in 537 (by decide +kernel) (by decide +kernel)⟩
theorem iv_X6_handUp : ky_iv yX6_handUp RX6 (.code yX6_handUp cX6_handUp 9 none) := ⟨ky_in 540 (by decide +kernel) (by decide +kernel), ky_inS 21 (by decide +kernel) (by decide +kernel), ky_in 1 (by decide +kernel) (by decide +kernel), ky_in 541 (by decide +kernel) (by decide +kernel)⟩
theorem iv_X2_point : ky_iv yX2_point RX2 (.code yX2_point cX2_point 2 (some .int)) := ⟨ky_in 544 (by decide +kernel) (by decide +kernel), ky_in 545 (by decide +kernel) (by decide +kernel), ky_in 7 (by decide +kernel) (by decide +kernel), ky_in 546 (by decide +kernel) (by decide +kernel)⟩
theorem iv_X0_leastOf : ky_iv yX0_leastOf RX0 (.code yX0_leastOf cX0_leastOf 3 (some .int)) := ⟨ky_in 549 (by decide +kernel) (by decide +kernel), ky_in 550 (by decide +kernel) (by decide +kernel), ky_in 4 (by decide +kernel) (by decide +kernel), ky_in 551 (by decide +kernel) (by decide +kernel)⟩
theorem iv_X6_markBy : ky_iv yX6_markBy RX6 (.code yX6_markBy cX6_markBy 8 (some .int)) := ⟨ky_in 554 (by decide +kernel) (by decide +kernel), ky_inS 22 (by decide +kernel) (by decide +kernel), ky_in 1 (by decide +kernel) (by decide +kernel), ky_in 555 (by decide +kernel) (by decide +kernel)⟩
theorem iv_X6_verify : ky_iv yX6_verify RX6 (.code yX6_verify cX6_verify 3 (some .int)) := ⟨ky_in 560 (by decide +kernel) (by decide +kernel), ky_in 561 (by decide +kernel) (by decide +kernel), ky_in 1 (by decide +kernel) (by decide +kernel), ky_in 562 (by decide +kernel) (by decide +kernel)⟩
theorem iv_X6_follows : ky_iv yX6_follows RX6 (.code yX6_follows cX6_follows 6 (some .int)) := ⟨ky_in 570 (by decide +kernel) (by decide +kernel), ky_in 571 (by decide +kernel) (by decide +kernel), ky_in 1 (by decide +kernel) (by decide +kernel), ky_in 572 (by decide +kernel) (by decide +kernel)⟩
theorem iv_X6_shown : ky_iv yX6_shown RX6 (.code yX6_shown cX6_shown 5 (some .int)) := ⟨ky_in 611 (by decide +kernel) (by decide +kernel), ky_in 612 (by decide +kernel) (by decide +kernel), ky_in 1 (by decide +kernel) (by decide +kernel), ky_in 613 (by decide +kernel) (by decide +kernel)⟩
theorem iv_X6_cube : ky_iv yX6_cube RX6 (.code yX6_cube cX6_cube 5 (some .int)) := ⟨ky_in 620 (by decide +kernel) (by decide +kernel), ky_in 621 (by decide +kernel) (by decide +kernel), ky_in 1 (by decide +kernel) (by decide +kernel), ky_in 622 (by decide +kernel) (by decide +kernel)⟩
theorem iv_X6_node : ky_iv yX6_node RX6 (.code yX6_node cX6_node 4 (some .int)) := ⟨ky_in 629 (by decide +kernel) (by decide +kernel), ky_in 630 (by decide +kernel) (by decide +kernel), ky_in 1 (by decide +kernel) (by decide +kernel), ky_in 631 (by decide +kernel) (by decide +kernel)⟩
theorem iv_X7_thrown : ky_iv yX7_thrown RX7 (.code yX7_thrown cX7_thrown 1 (some .int)) := ⟨ky_in 759 (by decide +kernel) (by decide +kernel), ky_in 760 (by decide +kernel) (by decide +kernel), ky_in 8 (by decide +kernel) (by decide +kernel), ky_in 761 (by decide +kernel) (by decide +kernel)⟩
theorem iv_X7_relation : ky_iv yX7_relation RX7 (.code yX7_relation cX7_relation 2 (some .int)) := ⟨ky_in 763 (by decide +kernel) (by decide +kernel), ky_in 764 (by decide +kernel) (by decide +kernel), ky_in 8 (by decide +kernel) (by decide +kernel), ky_in 765 (by decide +kernel) (by decide +kernel)⟩
theorem is_X7_in : ky_is9 yX7_in (.code yX7_in cX7_in 3 (some .boolean)) := ⟨ky_in 767 (by decide +kernel) (by decide +kernel), ky_in 8 (by decide +kernel) (by decide +kernel), ky_in 768 (by decide +kernel) (by decide +kernel)⟩
theorem iv_X7_made : ky_iv yX7_made RX7 (.code yX7_made cX7_made 2 (some .int)) := ⟨ky_in 771 (by decide +kernel) (by decide +kernel), ky_inS 23 (by decide +kernel) (by decide +kernel), ky_in 8 (by decide +kernel) (by decide +kernel), ky_in 772 (by decide +kernel) (by decide +kernel)⟩
theorem iv_X7_freshStart : ky_iv yX7_freshStart RX7 (.code yX7_freshStart cX7_freshStart 2 none) := ⟨ky_in 775 (by decide +kernel) (by decide +kernel), ky_inS 24 (by decide +kernel) (by decide +kernel), ky_in 8 (by decide +kernel) (by decide +kernel), ky_in 776 (by decide +kernel) (by decide +kernel)⟩
theorem iv_X7_mark : ky_iv yX7_mark RX7 (.code yX7_mark cX7_mark 6 (some .int)) := ⟨ky_in 778 (by decide +kernel) (by decide +kernel), ky_in 779 (by decide +kernel) (by decide +kernel), ky_in 8 (by decide +kernel) (by decide +kernel), ky_in 780 (by decide +kernel) (by decide +kernel)⟩
theorem iv_X7_isRelation : ky_iv yX7_isRelation RX7 (.code yX7_isRelation cX7_isRelation 2 (some .boolean)) := ⟨ky_in 783 (by decide +kernel) (by decide +kernel), ky_inS 25 (by decide +kernel) (by decide +kernel), ky_in 8 (by decide +kernel) (by decide +kernel), ky_in 784 (by decide +kernel) (by decide +kernel)⟩
theorem iv_X7_isPlace : ky_iv yX7_isPlace RX7 (.code yX7_isPlace cX7_isPlace 3 (some .boolean)) := ⟨ky_in 787 (by decide +kernel) (by decide +kernel), ky_inS 26 (by decide +kernel) (by decide +kernel), ky_in 8 (by decide +kernel) (by decide +kernel), ky_in 788 (by decide +kernel) (by decide +kernel)⟩
theorem iv_X7_isMark : ky_iv yX7_isMark RX7 (.code yX7_isMark cX7_isMark 6 (some .boolean)) := ⟨ky_in 791 (by decide +kernel) (by decide +kernel), ky_inS 27 (by decide +kernel) (by decide +kernel), ky_in 8 (by decide +kernel) (by decide +kernel), ky_in 792 (by decide +kernel) (by decide +kernel)⟩
theorem iv_X7_fails : ky_iv yX7_fails RX7 (.code yX7_fails cX7_fails 2 (some .int)) := ⟨ky_in 795 (by decide +kernel) (by decide +kernel), ky_inS 28 (by decide +kernel) (by decide +kernel), ky_in 8 (by decide +kernel) (by decide +kernel), ky_in 796 (by decide +kernel) (by decide +kernel)⟩
theorem iv_X7_keepMark : ky_iv yX7_keepMark RX7 (.code yX7_keepMark cX7_keepMark 6 none) := ⟨ky_in 799 (by decide +kernel) (by decide +kernel), ky_inS 29 (by decide +kernel) (by decide +kernel), ky_in 8 (by decide +kernel) (by decide +kernel), ky_in 800 (by decide +kernel) (by decide +kernel)⟩
theorem iv_X7_clause : ky_iv yX7_clause RX7 (.code yX7_clause cX7_clause 4 (some .int)) := ⟨ky_in 802 (by decide +kernel) (by decide +kernel), ky_in 803 (by decide +kernel) (by decide +kernel), ky_in 8 (by decide +kernel) (by decide +kernel), ky_in 804 (by decide +kernel) (by decide +kernel)⟩
theorem iv_X7_areVariables : ky_iv yX7_areVariables RX7 (.code yX7_areVariables cX7_areVariables 4 (some .boolean)) := ⟨ky_in 807 (by decide +kernel) (by decide +kernel), ky_inS 30 (by decide +kernel) (by decide +kernel), ky_in 8 (by decide +kernel) (by decide +kernel), ky_in 808 (by decide +kernel) (by decide +kernel)⟩
theorem iv_X7_atom : ky_iv yX7_atom RX7 (.code yX7_atom cX7_atom 6 (some .int)) := ⟨ky_in 810 (by decide +kernel) (by decide +kernel), ky_in 811 (by decide +kernel) (by decide +kernel), ky_in 8 (by decide +kernel) (by decide +kernel), ky_in 812 (by decide +kernel) (by decide +kernel)⟩
theorem iv_X7_bound : ky_iv yX7_bound RX7 (.code yX7_bound cX7_bound 5 (some .int)) := ⟨ky_in 814 (by decide +kernel) (by decide +kernel), ky_in 815 (by decide +kernel) (by decide +kernel), ky_in 8 (by decide +kernel) (by decide +kernel), ky_in 816 (by decide +kernel) (by decide +kernel)⟩
theorem iv_X7_start : ky_iv yX7_start RX7 (.code yX7_start cX7_start 1 none) := ⟨ky_in 818 (by decide +kernel) (by decide +kernel), ky_in 819 (by decide +kernel) (by decide +kernel), ky_in 8 (by decide +kernel) (by decide +kernel), ky_in 820 (by decide +kernel) (by decide +kernel)⟩
theorem iv_X7_round : ky_iv yX7_round RX7 (.code yX7_round cX7_round 1 (some .int)) := ⟨ky_in 822 (by decide +kernel) (by decide +kernel), ky_in 823 (by decide +kernel) (by decide +kernel), ky_in 8 (by decide +kernel) (by decide +kernel), ky_in 824 (by decide +kernel) (by decide +kernel)⟩
theorem iv_X7_next : ky_iv yX7_next RX7 (.code yX7_next cX7_next 3 (some .int)) := ⟨ky_in 827 (by decide +kernel) (by decide +kernel), ky_inS 31 (by decide +kernel) (by decide +kernel), ky_in 8 (by decide +kernel) (by decide +kernel), ky_in 828 (by decide +kernel) (by decide +kernel)⟩
theorem iv_X7_isFound : ky_iv yX7_isFound RX7 (.code yX7_isFound cX7_isFound 9 (some .boolean)) := ⟨ky_in 831 (by decide +kernel) (by decide +kernel), ky_inS 32 (by decide +kernel) (by decide +kernel), ky_in 8 (by decide +kernel) (by decide +kernel), ky_in 832 (by decide +kernel) (by decide +kernel)⟩
theorem iv_X7_cubesOf : ky_iv yX7_cubesOf RX7 (.code yX7_cubesOf cX7_cubesOf 2 (some .int)) := ⟨ky_in 835 (by decide +kernel) (by decide +kernel), ky_inS 33 (by decide +kernel) (by decide +kernel), ky_in 8 (by decide +kernel) (by decide +kernel), ky_in 836 (by decide +kernel) (by decide +kernel)⟩
theorem iv_X7_isBefore : ky_iv yX7_isBefore RX7 (.code yX7_isBefore cX7_isBefore 4 (some .boolean)) := ⟨ky_in 839 (by decide +kernel) (by decide +kernel), ky_inS 34 (by decide +kernel) (by decide +kernel), ky_in 8 (by decide +kernel) (by decide +kernel), ky_in 840 (by decide +kernel) (by decide +kernel)⟩
theorem iv_X7_fits : ky_iv yX7_fits RX7 (.code yX7_fits cX7_fits 7 (some .boolean)) := ⟨ky_in 843 (by decide +kernel) (by decide +kernel), ky_inS 35 (by decide +kernel) (by decide +kernel), ky_in 8 (by decide +kernel) (by decide +kernel), ky_in 844 (by decide +kernel) (by decide +kernel)⟩
theorem iv_X7_addBounds : ky_iv yX7_addBounds RX7 (.code yX7_addBounds cX7_addBounds 7 none) := ⟨ky_in 847 (by decide +kernel) (by decide +kernel), ky_inS 36 (by decide +kernel) (by decide +kernel), ky_in 8 (by decide +kernel) (by decide +kernel), ky_in 848 (by decide +kernel) (by decide +kernel)⟩
theorem iv_X7_add : ky_iv yX7_add RX7 (.code yX7_add cX7_add 4 none) := ⟨ky_in 851 (by decide +kernel) (by decide +kernel), ky_inS 37 (by decide +kernel) (by decide +kernel), ky_in 8 (by decide +kernel) (by decide +kernel), ky_in 852 (by decide +kernel) (by decide +kernel)⟩
theorem iv_X7_addCube : ky_iv yX7_addCube RX7 (.code yX7_addCube cX7_addCube 10 none) := ⟨ky_in 855 (by decide +kernel) (by decide +kernel), ky_inS 38 (by decide +kernel) (by decide +kernel), ky_in 8 (by decide +kernel) (by decide +kernel), ky_in 856 (by decide +kernel) (by decide +kernel)⟩
theorem iv_X7_holdsTogether : ky_iv yX7_holdsTogether RX7 (.code yX7_holdsTogether cX7_holdsTogether 3 (some .boolean)) := ⟨ky_in 859 (by decide +kernel) (by decide +kernel), ky_inS 39 (by decide +kernel) (by decide +kernel), ky_in 8 (by decide +kernel) (by decide +kernel), ky_in 860 (by decide +kernel) (by decide +kernel)⟩
theorem iv_X7_settles : ky_iv yX7_settles RX7 (.code yX7_settles cX7_settles 5 (some .boolean)) := ⟨ky_in 863 (by decide +kernel) (by decide +kernel), ky_inS 40 (by decide +kernel) (by decide +kernel), ky_in 8 (by decide +kernel) (by decide +kernel), ky_in 864 (by decide +kernel) (by decide +kernel)⟩
theorem iv_X7_grow : ky_iv yX7_grow RX7 (.code yX7_grow cX7_grow 4 none) := ⟨ky_in 868 (by decide +kernel) (by decide +kernel), ky_inS 41 (by decide +kernel) (by decide +kernel), ky_in 8 (by decide +kernel) (by decide +kernel), ky_in 869 (by decide +kernel) (by decide +kernel)⟩
theorem iv_X7_place : ky_iv yX7_place RX7 (.code yX7_place cX7_place 4 none) := ⟨ky_in 872 (by decide +kernel) (by decide +kernel), ky_inS 42 (by decide +kernel) (by decide +kernel), ky_in 8 (by decide +kernel) (by decide +kernel), ky_in 873 (by decide +kernel) (by decide +kernel)⟩
theorem iv_X7_stateOf : ky_iv yX7_stateOf RX7 (.code yX7_stateOf cX7_stateOf 2 (some .int)) := ⟨ky_in 876 (by decide +kernel) (by decide +kernel), ky_inS 43 (by decide +kernel) (by decide +kernel), ky_in 8 (by decide +kernel) (by decide +kernel), ky_in 877 (by decide +kernel) (by decide +kernel)⟩
theorem iv_X7_isReached : ky_iv yX7_isReached RX7 (.code yX7_isReached cX7_isReached 3 (some .boolean)) := ⟨ky_in 880 (by decide +kernel) (by decide +kernel), ky_inS 44 (by decide +kernel) (by decide +kernel), ky_in 8 (by decide +kernel) (by decide +kernel), ky_in 881 (by decide +kernel) (by decide +kernel)⟩
theorem iv_X7_refine : ky_iv yX7_refine RX7 (.code yX7_refine cX7_refine 1 (some .int)) := ⟨ky_in 883 (by decide +kernel) (by decide +kernel), ky_in 884 (by decide +kernel) (by decide +kernel), ky_in 8 (by decide +kernel) (by decide +kernel), ky_in 885 (by decide +kernel) (by decide +kernel)⟩
theorem iv_X7_improve : ky_iv yX7_improve RX7 (.code yX7_improve cX7_improve 3 (some .int)) := ⟨ky_in 888 (by decide +kernel) (by decide +kernel), ky_inS 45 (by decide +kernel) (by decide +kernel), ky_in 8 (by decide +kernel) (by decide +kernel), ky_in 889 (by decide +kernel) (by decide +kernel)⟩
theorem iv_X7_gather : ky_iv yX7_gather RX7 (.code yX7_gather cX7_gather 3 none) := ⟨ky_in 892 (by decide +kernel) (by decide +kernel), ky_inS 46 (by decide +kernel) (by decide +kernel), ky_in 8 (by decide +kernel) (by decide +kernel), ky_in 893 (by decide +kernel) (by decide +kernel)⟩
theorem iv_X7_join : ky_iv yX7_join RX7 (.code yX7_join cX7_join 7 none) := ⟨ky_in 896 (by decide +kernel) (by decide +kernel), ky_inS 47 (by decide +kernel) (by decide +kernel), ky_in 8 (by decide +kernel) (by decide +kernel), ky_in 897 (by decide +kernel) (by decide +kernel)⟩
theorem iv_X7_marksOf : ky_iv yX7_marksOf RX7 (.code yX7_marksOf cX7_marksOf 14 (some .int)) := ⟨ky_in 900 (by decide +kernel) (by decide +kernel), ky_inS 48 (by decide +kernel) (by decide +kernel), ky_in 8 (by decide +kernel) (by decide +kernel), ky_in 901 (by decide +kernel) (by decide +kernel)⟩
theorem iv_X7_least : ky_iv yX7_least RX7 (.code yX7_least cX7_least 5 (some .int)) := ⟨ky_in 904 (by decide +kernel) (by decide +kernel), ky_inS 49 (by decide +kernel) (by decide +kernel), ky_in 8 (by decide +kernel) (by decide +kernel), ky_in 905 (by decide +kernel) (by decide +kernel)⟩
theorem iv_X7_verify : ky_iv yX7_verify RX7 (.code yX7_verify cX7_verify 3 (some .int)) := ⟨ky_in 907 (by decide +kernel) (by decide +kernel), ky_in 908 (by decide +kernel) (by decide +kernel), ky_in 8 (by decide +kernel) (by decide +kernel), ky_in 909 (by decide +kernel) (by decide +kernel)⟩
theorem iv_X7_check : ky_iv yX7_check RX7 (.code yX7_check cX7_check 4 (some .int)) := ⟨ky_in 911 (by decide +kernel) (by decide +kernel), ky_in 912 (by decide +kernel) (by decide +kernel), ky_in 8 (by decide +kernel) (by decide +kernel), ky_in 913 (by decide +kernel) (by decide +kernel)⟩
theorem iv_X7_isBroken : ky_iv yX7_isBroken RX7 (.code yX7_isBroken cX7_isBroken 3 (some .boolean)) := ⟨ky_in 916 (by decide +kernel) (by decide +kernel), ky_inS 50 (by decide +kernel) (by decide +kernel), ky_in 8 (by decide +kernel) (by decide +kernel), ky_in 917 (by decide +kernel) (by decide +kernel)⟩
theorem iv_X7_follows : ky_iv yX7_follows RX7 (.code yX7_follows cX7_follows 5 (some .int)) := ⟨ky_in 919 (by decide +kernel) (by decide +kernel), ky_in 920 (by decide +kernel) (by decide +kernel), ky_in 8 (by decide +kernel) (by decide +kernel), ky_in 921 (by decide +kernel) (by decide +kernel)⟩
theorem iv_X7_state : ky_iv yX7_state RX7 (.code yX7_state cX7_state 2 (some .int)) := ⟨ky_in 923 (by decide +kernel) (by decide +kernel), ky_in 924 (by decide +kernel) (by decide +kernel), ky_in 8 (by decide +kernel) (by decide +kernel), ky_in 925 (by decide +kernel) (by decide +kernel)⟩
theorem iv_X7_shown : ky_iv yX7_shown RX7 (.code yX7_shown cX7_shown 4 (some .int)) := ⟨ky_in 927 (by decide +kernel) (by decide +kernel), ky_in 928 (by decide +kernel) (by decide +kernel), ky_in 8 (by decide +kernel) (by decide +kernel), ky_in 929 (by decide +kernel) (by decide +kernel)⟩
theorem iv_X7_cube : ky_iv yX7_cube RX7 (.code yX7_cube cX7_cube 5 (some .int)) := ⟨ky_in 931 (by decide +kernel) (by decide +kernel), ky_in 932 (by decide +kernel) (by decide +kernel), ky_in 8 (by decide +kernel) (by decide +kernel), ky_in 933 (by decide +kernel) (by decide +kernel)⟩
theorem iv_X7_node : ky_iv yX7_node RX7 (.code yX7_node cX7_node 3 (some .int)) := ⟨ky_in 935 (by decide +kernel) (by decide +kernel), ky_in 936 (by decide +kernel) (by decide +kernel), ky_in 8 (by decide +kernel) (by decide +kernel), ky_in 937 (by decide +kernel) (by decide +kernel)⟩
end
section
abbrev rm_X0_clear : Room := { frames := 0, cells := 0, slots := 0, locals := 0 }
section
variable {p : Program} {l : Launch} {e : Env} {s : State} {m : MethodId} {args : Array Value} {below : List Frame} {meth : Method} {c : Code} {C : Cc} {Y : Ly} {A : Nat → Prop}
def w_X0_clear_L7 (Y : Ly) (post : Mm → Prop) (ex_42 : Mm → Prop) : Nat → Nat → Int32 → Mm → Prop
  | 0, _, _, _ => False
  | n7 + 1, k0, v1, I => (((36 : Int32) ≤ v1 → ex_42 I) ∧ (¬ (36 : Int32) ≤ v1 → (ky_is Y k0 0 ∧ ((¬ (v1 / (6 : Int32)) = (v1 - v1 / (6 : Int32) * (6 : Int32)) → (ky_is Y (ky_rp Y k0 0) 8 ∧ (vp_in v1 (ky_ln Y (ky_rp Y k0 0)) ∧ (∀ I6 : Mm, I6 = ky_up I (ky_rp Y k0 0) v1.toNatClampNeg (1000000000 : Int32) → (∀ x7 : Int32, x7 = v1 + (1 : Int32) → w_X0_clear_L7 Y post ex_42 n7 k0 x7 I6))))) ∧ ((v1 / (6 : Int32)) = (v1 - v1 / (6 : Int32) * (6 : Int32)) → (ky_is Y (ky_rp Y k0 0) 8 ∧ (vp_in v1 (ky_ln Y (ky_rp Y k0 0)) ∧ (∀ I10 : Mm, I10 = ky_up I (ky_rp Y k0 0) v1.toNatClampNeg (0 : Int32) → (∀ x11 : Int32, x11 = v1 + (1 : Int32) → w_X0_clear_L7 Y post ex_42 n7 k0 x11 I10)))))))))
set_option maxHeartbeats 4000000 in
set_option maxRecDepth 100000 in
theorem s_X0_clear_L7 (X : ky_X p s m args meth c C cX0_clear 2 RX0) (hr : meth.sig.returnType = none) (post : Mm → Prop) (ex_42 : Mm → Prop) (hx_42 : ∀ (J : Mm), ex_42 J → ky_G p l e rm_X0_clear s m args below meth c C Y A 2 (MQ below (va_Qv post (ky_B C Y A) A) args s 0 0 A) 42 [] [] J) : ∀ (n7 : Nat) (k0 : Nat) (v1 : Int32) (I : Mm), w_X0_clear_L7 Y post ex_42 n7 k0 v1 I → ky_G p l e rm_X0_clear s m args below meth c C Y A 2 (MQ below (va_Qv post (ky_B C Y A) A) args s 0 0 A) 7 [(0, .ref (Y.2.1 k0)), (1, .int v1)] [] I := by
  intro n7
  induction n7 with
  | zero => intro k0 v1 I hw; exact False.elim hw
  | succ n7 ih =>
    intro k0 v1 I hw
    refine kg_iload_n X 1 dX0_clear_7 rfl rfl ?_
    refine kg_bipush (v := (36 : Int32)) X dX0_clear_8 (by decide) ?_
    refine kg_icmp_ge (tgt := 42) X dX0_clear_10 (by decide) (fun h13 => ?_) (fun h13 => ?_)
    · have hw := hw.1 h13
      refine kg_sub [] rfl ?_
      exact hx_42 _  hw
    · have hw := hw.2 h13
      refine kg_aload_n X 0 dX0_clear_13 rfl rfl ?_
      obtain ⟨h3, hw⟩ := hw
      refine kg_getR (j := 0) X kc_0 h3 (by decide) (by decide) rfl kw_53 dX0_clear_14 ?_
      refine kg_iload_n X 1 dX0_clear_17 rfl rfl ?_
      refine kg_iload_n X 1 dX0_clear_18 rfl rfl ?_
      refine kg_bipush (v := (6 : Int32)) X dX0_clear_19 (by decide) ?_
      refine kg_idiv X dX0_clear_21 (by decide) ?_
      refine kg_iload_n X 1 dX0_clear_22 rfl rfl ?_
      refine kg_bipush (v := (6 : Int32)) X dX0_clear_23 (by decide) ?_
      refine kg_irem X dX0_clear_25 (by decide) ?_
      refine kg_icmp_ne (tgt := 33) X dX0_clear_26 (by decide) (fun h12 => ?_) (fun h12 => ?_)
      · have hw := hw.1 h12
        refine kg_ldc (v := (1000000000 : Int32)) X kw_52 dX0_clear_33 ?_
        obtain ⟨h4, hw⟩ := hw
        obtain ⟨h5, hw⟩ := hw
        refine kg_iast X h4 h5 dX0_clear_35 ?_
        refine kg_topm (fun I6 eI6 => ?_)
        have hw := hw I6 eI6
        refine kg_iinc (dd := (1 : Int32)) (lvf := fun x7 => [(1, .int x7), (0, .ref (Y.2.1 k0))]) X 1 dX0_clear_36 rfl (by decide) (by decide) (fun _ => rfl) (fun x7 ex7 => ?_)
        have hw := hw x7 ex7
        refine kg_goto (tgt := 7) X dX0_clear_39 (by decide) ?_
        refine kg_sub [1, 0] rfl ?_
        exact ih _ _ _  hw
      · have hw := hw.2 h12
        refine kg_iconst (v := (0 : Int32)) X dX0_clear_29 (by decide) ?_
        refine kg_goto (tgt := 35) X dX0_clear_30 (by decide) ?_
        obtain ⟨h8, hw⟩ := hw
        obtain ⟨h9, hw⟩ := hw
        refine kg_iast X h8 h9 dX0_clear_35 ?_
        refine kg_topm (fun I10 eI10 => ?_)
        have hw := hw I10 eI10
        refine kg_iinc (dd := (1 : Int32)) (lvf := fun x11 => [(1, .int x11), (0, .ref (Y.2.1 k0))]) X 1 dX0_clear_36 rfl (by decide) (by decide) (fun _ => rfl) (fun x11 ex11 => ?_)
        have hw := hw x11 ex11
        refine kg_goto (tgt := 7) X dX0_clear_39 (by decide) ?_
        refine kg_sub [1, 0] rfl ?_
        exact ih _ _ _  hw
def w_X0_clear (Y : Ly) (I : Mm) (k0 : Nat) (post : Mm → Prop) : Prop := (ky_is Y k0 0 ∧ (∀ I2 : Mm, I2 = ky_up I k0 1 (1 : Int32) → (∃ n7 : Nat, w_X0_clear_L7 Y post (fun I14 => post I14) n7 k0 (0 : Int32) I2)))
set_option maxHeartbeats 4000000 in
set_option maxRecDepth 100000 in
theorem c_X0_clear (l : Launch) (C : Cc) (Y : Ly) (A : Nat → Prop) (I : Mm) (k0 : Nat) (post : Mm → Prop) (hw : w_X0_clear Y I k0 post) : ky_MV l yX0_clear cX0_clear 2 rm_X0_clear C Y A I [.ref (Y.2.1 k0)] post := by
  refine ky_met (by decide) (Nat.le_of_ble_eq_true rfl) ?_
  intro p e s m args below meth c X hr
  have X : ky_X p s m args meth c C cX0_clear 2 RX0 := X
  show ky_G p l e rm_X0_clear s m args below meth c C Y A 2 (MQ below (va_Qv post (ky_B C Y A) A) args s 0 0 A) 0 [(0, .ref (Y.2.1 k0))] [] I
  refine kg_aload_n X 0 dX0_clear_0 rfl rfl ?_
  refine kg_iconst (v := (1 : Int32)) X dX0_clear_1 (by decide) ?_
  obtain ⟨h1, hw⟩ := hw
  refine kg_putI (ci := 0) (Tn := TX0) (j := 1) (ty := .boolean) X tyX0 tyX0_ok nmX0 kc_0 h1 (by decide) (by decide) rfl kw_54 (by decide +kernel) (ky_nb (by decide)).1 (ky_nb (by decide)).2 dX0_clear_2 ?_
  refine kg_topm (fun I2 eI2 => ?_)
  have hw := hw I2 eI2
  refine kg_iconst (v := (0 : Int32)) X dX0_clear_5 (by decide) ?_
  refine kg_istore_n (lv' := [(1, .int (0 : Int32)), (0, .ref (Y.2.1 k0))]) X dX0_clear_6 rfl (by decide) rfl ?_
  obtain ⟨n7, hw⟩ := hw
  refine kg_sub [1, 0] rfl ?_
  refine s_X0_clear_L7 X hr post _ ?_ n7 _ _ _  hw
  · intro I14 hw
    exact kg_vret X hr hw dX0_clear_42
end

abbrev rm_X0_copyFrom : Room := { frames := 1, cells := 0, slots := 0, locals := 60 }
section
variable {p : Program} {l : Launch} {e : Env} {s : State} {m : MethodId} {args : Array Value} {below : List Frame} {meth : Method} {c : Code} {C : Cc} {Y : Ly} {A : Nat → Prop}
def w_X0_copyFrom (Y : Ly) (I : Mm) (k0 : Nat) (k1 : Nat) (post : Mm → Prop) : Prop := (ky_is Y k1 0 ∧ (ky_is Y k0 0 ∧ ((I k1 1 = 0 ∨ I k1 1 = 1) ∧ (∀ I4 : Mm, I4 = ky_up I k0 1 (I k1 1) → (ky_is Y (ky_rp Y k0 0) 8 ∧ (ky_is Y (ky_rp Y k1 0) 8 ∧ ((0 : Int32).toNatClampNeg + (36 : Int32).toNatClampNeg ≤ ky_ln Y (ky_rp Y k1 0) ∧ ((0 : Int32).toNatClampNeg + (36 : Int32).toNatClampNeg ≤ ky_ln Y (ky_rp Y k0 0) ∧ (∀ I9 : Mm, I9 = ky_cp I4 (ky_rp Y k1 0) (ky_rp Y k0 0) (0 : Int32).toNatClampNeg (0 : Int32).toNatClampNeg (36 : Int32).toNatClampNeg → post I9)))))))))
set_option maxHeartbeats 4000000 in
set_option maxRecDepth 100000 in
theorem c_X0_copyFrom (l : Launch) (C : Cc) (Y : Ly) (A : Nat → Prop) (I : Mm) (k0 : Nat) (k1 : Nat) (post : Mm → Prop) (hw : w_X0_copyFrom Y I k0 k1 post) : ky_MV l yX0_copyFrom cX0_copyFrom 2 rm_X0_copyFrom C Y A I [.ref (Y.2.1 k0), .ref (Y.2.1 k1)] post := by
  refine ky_met (by decide) (Nat.le_of_ble_eq_true rfl) ?_
  intro p e s m args below meth c X hr
  have X : ky_X p s m args meth c C cX0_copyFrom 2 RX0 := X
  show ky_G p l e rm_X0_copyFrom s m args below meth c C Y A 2 (MQ below (va_Qv post (ky_B C Y A) A) args s 0 0 A) 0 [(0, .ref (Y.2.1 k0)), (1, .ref (Y.2.1 k1))] [] I
  refine kg_aload_n X 0 dX0_copyFrom_0 rfl rfl ?_
  refine kg_aload_n X 1 dX0_copyFrom_1 rfl rfl ?_
  obtain ⟨h1, hw⟩ := hw
  refine kg_getI (j := 1) X kc_0 h1 (by decide) (by decide) rfl kw_54 dX0_copyFrom_2 ?_
  obtain ⟨h2, hw⟩ := hw
  obtain ⟨h3, hw⟩ := hw
  refine kg_putI (ci := 0) (Tn := TX0) (j := 1) (ty := .boolean) X tyX0 tyX0_ok nmX0 kc_0 h2 (by decide) (by decide) rfl kw_54 (by decide +kernel) (ky_nb h3).1 (ky_nb h3).2 dX0_copyFrom_5 ?_
  refine kg_topm (fun I4 eI4 => ?_)
  have hw := hw I4 eI4
  refine kg_aload_n X 1 dX0_copyFrom_8 rfl rfl ?_
  refine kg_getR (j := 0) X kc_0 h1 (by decide) (by decide) rfl kw_53 dX0_copyFrom_9 ?_
  refine kg_iconst (v := (0 : Int32)) X dX0_copyFrom_12 (by decide) ?_
  refine kg_aload_n X 0 dX0_copyFrom_13 rfl rfl ?_
  refine kg_getR (j := 0) X kc_0 h2 (by decide) (by decide) rfl kw_53 dX0_copyFrom_14 ?_
  refine kg_iconst (v := (0 : Int32)) X dX0_copyFrom_17 (by decide) ?_
  refine kg_bipush (v := (36 : Int32)) X dX0_copyFrom_18 (by decide) ?_
  obtain ⟨h5, hw⟩ := hw
  obtain ⟨h6, hw⟩ := hw
  obtain ⟨h7, hw⟩ := hw
  obtain ⟨h8, hw⟩ := hw
  refine kg_copy X kw_276 kw_arraycopy h5 h6 (by decide) (by decide) (by decide) h7 h8 (by decide) (by decide) dX0_copyFrom_20 ?_
  refine kg_topm (fun I9 eI9 => ?_)
  have hw := hw I9 eI9
  exact kg_vret X hr hw dX0_copyFrom_23
end

abbrev rm_X0_leastOf : Room := { frames := 0, cells := 0, slots := 0, locals := 0 }
section
variable {p : Program} {l : Launch} {e : Env} {s : State} {m : MethodId} {args : Array Value} {below : List Frame} {meth : Method} {c : Code} {C : Cc} {Y : Ly} {A : Nat → Prop}
def w_X0_leastOf (Y : Ly) (I : Mm) (k0 : Nat) (v1 : Int32) (v2 : Int32) (post : Int32 → Mm → Prop) : Prop := (ky_is Y k0 0 ∧ (ky_is Y (ky_rp Y k0 0) 8 ∧ (vp_in ((v1 * (6 : Int32)) + v2) (ky_ln Y (ky_rp Y k0 0)) ∧ post (I (ky_rp Y k0 0) ((v1 * (6 : Int32)) + v2).toNatClampNeg) I)))
set_option maxHeartbeats 4000000 in
set_option maxRecDepth 100000 in
theorem c_X0_leastOf (l : Launch) (C : Cc) (Y : Ly) (A : Nat → Prop) (I : Mm) (k0 : Nat) (v1 : Int32) (v2 : Int32) (post : Int32 → Mm → Prop) (hw : w_X0_leastOf Y I k0 v1 v2 post) : ky_MI l yX0_leastOf cX0_leastOf 3 (some .int) rm_X0_leastOf C Y A I [.ref (Y.2.1 k0), .int v1, .int v2] post := by
  refine ky_met (by decide) (Nat.le_of_ble_eq_true rfl) ?_
  intro p e s m args below meth c X hr
  have X : ky_X p s m args meth c C cX0_leastOf 3 RX0 := X
  show ky_G p l e rm_X0_leastOf s m args below meth c C Y A 3 (MQ below (va_Qi post (ky_B C Y A) A) args s 0 0 A) 0 [(0, .ref (Y.2.1 k0)), (1, .int v1), (2, .int v2)] [] I
  refine kg_aload_n X 0 dX0_leastOf_0 rfl rfl ?_
  obtain ⟨h1, hw⟩ := hw
  refine kg_getR (j := 0) X kc_0 h1 (by decide) (by decide) rfl kw_53 dX0_leastOf_1 ?_
  refine kg_iload_n X 1 dX0_leastOf_4 rfl rfl ?_
  refine kg_bipush (v := (6 : Int32)) X dX0_leastOf_5 (by decide) ?_
  refine kg_imul X dX0_leastOf_7 ?_
  refine kg_iload_n X 2 dX0_leastOf_8 rfl rfl ?_
  refine kg_iadd X dX0_leastOf_9 ?_
  obtain ⟨h2, hw⟩ := hw
  obtain ⟨h3, hw⟩ := hw
  refine kg_iald X h2 h3 dX0_leastOf_10 ?_
  exact kg_iret X hr hw dX0_leastOf_11
end

abbrev rm_X0_add : Room := { frames := 0, cells := 0, slots := 0, locals := 0 }
section
variable {p : Program} {l : Launch} {e : Env} {s : State} {m : MethodId} {args : Array Value} {below : List Frame} {meth : Method} {c : Code} {C : Cc} {Y : Ly} {A : Nat → Prop}
def w_X0_add_L80 (Y : Ly) (post : Mm → Prop) (ex_158 : Nat → Int32 → Int32 → Int32 → Int32 → Mm → Prop) : Nat → Nat → Int32 → Int32 → Int32 → Int32 → Int32 → Int32 → Mm → Prop
  | 0, _, _, _, _, _, _, _, _ => False
  | n80 + 1, k0, v1, v2, v3, v5, v6, v7, I => (((6 : Int32) ≤ v7 → ex_158 k0 v1 v2 v3 v5 I) ∧ (¬ (6 : Int32) ≤ v7 → ((v6 = (1000000000 : Int32) → ex_158 k0 v1 v2 v3 v5 I) ∧ (¬ v6 = (1000000000 : Int32) → (ky_is Y k0 0 ∧ (ky_is Y (ky_rp Y k0 0) 8 ∧ (vp_in ((v2 * (6 : Int32)) + v7) (ky_ln Y (ky_rp Y k0 0)) ∧ (∀ x13 : Int32, x13 = I (ky_rp Y k0 0) ((v2 * (6 : Int32)) + v7).toNatClampNeg → ((x13 = (1000000000 : Int32) → (∀ x14 : Int32, x14 = v7 + (1 : Int32) → w_X0_add_L80 Y post ex_158 n80 k0 v1 v2 v3 v5 v6 x14 I)) ∧ (¬ x13 = (1000000000 : Int32) → (vp_in (v5 + v7) (ky_ln Y (ky_rp Y k0 0)) ∧ (((I (ky_rp Y k0 0) (v5 + v7).toNatClampNeg) ≤ ((v6 + v3) + x13) → (∀ x16 : Int32, x16 = v7 + (1 : Int32) → w_X0_add_L80 Y post ex_158 n80 k0 v1 v2 v3 v5 v6 x16 I)) ∧ (¬ (I (ky_rp Y k0 0) (v5 + v7).toNatClampNeg) ≤ ((v6 + v3) + x13) → (∀ I17 : Mm, I17 = ky_up I (ky_rp Y k0 0) (v5 + v7).toNatClampNeg ((v6 + v3) + x13) → (∀ x18 : Int32, x18 = v7 + (1 : Int32) → w_X0_add_L80 Y post ex_158 n80 k0 v1 v2 v3 v5 v6 x18 I17)))))))))))))))
set_option maxHeartbeats 4000000 in
set_option maxRecDepth 100000 in
theorem s_X0_add_L80 (X : ky_X p s m args meth c C cX0_add 9 RX0) (hr : meth.sig.returnType = none) (post : Mm → Prop) (ex_158 : Nat → Int32 → Int32 → Int32 → Int32 → Mm → Prop) (hx_158 : ∀ (k0 : Nat) (v1 : Int32) (v2 : Int32) (v3 : Int32) (v5 : Int32) (J : Mm), ex_158 k0 v1 v2 v3 v5 J → ky_G p l e rm_X0_add s m args below meth c C Y A 9 (MQ below (va_Qv post (ky_B C Y A) A) args s 0 0 A) 158 [(0, .ref (Y.2.1 k0)), (1, .int v1), (2, .int v2), (3, .int v3), (5, .int v5)] [] J) : ∀ (n80 : Nat) (k0 : Nat) (v1 : Int32) (v2 : Int32) (v3 : Int32) (v5 : Int32) (v6 : Int32) (v7 : Int32) (I : Mm), w_X0_add_L80 Y post ex_158 n80 k0 v1 v2 v3 v5 v6 v7 I → ky_G p l e rm_X0_add s m args below meth c C Y A 9 (MQ below (va_Qv post (ky_B C Y A) A) args s 0 0 A) 80 [(0, .ref (Y.2.1 k0)), (1, .int v1), (2, .int v2), (3, .int v3), (5, .int v5), (6, .int v6), (7, .int v7)] [] I := by
  intro n80
  induction n80 with
  | zero => intro k0 v1 v2 v3 v5 v6 v7 I hw; exact False.elim hw
  | succ n80 ih =>
    intro k0 v1 v2 v3 v5 v6 v7 I hw
    refine kg_iload X 6 dX0_add_80 rfl ?_
    refine kg_bipush (v := (6 : Int32)) X dX0_add_82 (by decide) ?_
    refine kg_icmp_ge (tgt := 158) X dX0_add_84 (by decide) (fun h22 => ?_) (fun h22 => ?_)
    · have hw := hw.1 h22
      refine kg_sub [0, 1, 2, 3, 4] rfl ?_
      exact hx_158 _ _ _ _ _ _  hw
    · have hw := hw.2 h22
      refine kg_iload X 5 dX0_add_87 rfl ?_
      refine kg_ldc (v := (1000000000 : Int32)) X kw_52 dX0_add_89 ?_
      refine kg_icmp_eq (tgt := 158) X dX0_add_91 (by decide) (fun h21 => ?_) (fun h21 => ?_)
      · have hw := hw.1 h21
        refine kg_sub [0, 1, 2, 3, 4] rfl ?_
        exact hx_158 _ _ _ _ _ _  hw
      · have hw := hw.2 h21
        refine kg_aload_n X 0 dX0_add_94 rfl rfl ?_
        obtain ⟨h10, hw⟩ := hw
        refine kg_getR (j := 0) X kc_0 h10 (by decide) (by decide) rfl kw_53 dX0_add_95 ?_
        refine kg_iload_n X 2 dX0_add_98 rfl rfl ?_
        refine kg_bipush (v := (6 : Int32)) X dX0_add_99 (by decide) ?_
        refine kg_imul X dX0_add_101 ?_
        refine kg_iload X 6 dX0_add_102 rfl ?_
        refine kg_iadd X dX0_add_104 ?_
        obtain ⟨h11, hw⟩ := hw
        obtain ⟨h12, hw⟩ := hw
        refine kg_iald X h11 h12 dX0_add_105 ?_
        refine kg_topi (fun x13 ex13 => ?_)
        have hw := hw x13 ex13
        refine kg_istore (lv' := [(8, .int x13), (0, .ref (Y.2.1 k0)), (1, .int v1), (2, .int v2), (3, .int v3), (5, .int v5), (6, .int v6), (7, .int v7)]) X dX0_add_106 (by decide) rfl ?_
        refine kg_iload X 0 dX0_add_108 rfl ?_
        refine kg_ldc (v := (1000000000 : Int32)) X kw_52 dX0_add_110 ?_
        refine kg_icmp_eq (tgt := 152) X dX0_add_112 (by decide) (fun h20 => ?_) (fun h20 => ?_)
        · have hw := hw.1 h20
          refine kg_iinc (dd := (1 : Int32)) (lvf := fun x14 => [(7, .int x14), (8, .int x13), (0, .ref (Y.2.1 k0)), (1, .int v1), (2, .int v2), (3, .int v3), (5, .int v5), (6, .int v6)]) X 7 dX0_add_152 rfl (by decide) (by decide) (fun _ => rfl) (fun x14 ex14 => ?_)
          have hw := hw x14 ex14
          refine kg_goto (tgt := 80) X dX0_add_155 (by decide) ?_
          refine kg_sub [2, 3, 4, 5, 6, 7, 0] rfl ?_
          exact ih _ _ _ _ _ _ _ _  hw
        · have hw := hw.2 h20
          refine kg_iload X 6 dX0_add_115 rfl ?_
          refine kg_iload_n X 4 dX0_add_117 rfl rfl ?_
          refine kg_iadd X dX0_add_118 ?_
          refine kg_iload X 0 dX0_add_119 rfl ?_
          refine kg_iadd X dX0_add_121 ?_
          refine kg_aload_n X 1 dX0_add_122 rfl rfl ?_
          refine kg_getR (j := 0) X kc_0 h10 (by decide) (by decide) rfl kw_53 dX0_add_123 ?_
          refine kg_iload X 5 dX0_add_126 rfl ?_
          refine kg_iload X 7 dX0_add_128 rfl ?_
          refine kg_iadd X dX0_add_130 ?_
          obtain ⟨h15, hw⟩ := hw
          refine kg_iald X h11 h15 dX0_add_131 ?_
          refine kg_icmp_ge (tgt := 152) X dX0_add_132 (by decide) (fun h19 => ?_) (fun h19 => ?_)
          · have hw := hw.1 h19
            refine kg_iinc (dd := (1 : Int32)) (lvf := fun x16 => [(7, .int x16), (8, .int x13), (0, .ref (Y.2.1 k0)), (1, .int v1), (2, .int v2), (3, .int v3), (5, .int v5), (6, .int v6)]) X 7 dX0_add_152 rfl (by decide) (by decide) (fun _ => rfl) (fun x16 ex16 => ?_)
            have hw := hw x16 ex16
            refine kg_goto (tgt := 80) X dX0_add_155 (by decide) ?_
            refine kg_sub [2, 3, 4, 5, 6, 7, 0] rfl ?_
            exact ih _ _ _ _ _ _ _ _  hw
          · have hw := hw.2 h19
            refine kg_aload_n X 1 dX0_add_135 rfl rfl ?_
            refine kg_getR (j := 0) X kc_0 h10 (by decide) (by decide) rfl kw_53 dX0_add_136 ?_
            refine kg_iload X 5 dX0_add_139 rfl ?_
            refine kg_iload X 7 dX0_add_141 rfl ?_
            refine kg_iadd X dX0_add_143 ?_
            refine kg_iload X 6 dX0_add_144 rfl ?_
            refine kg_iload_n X 4 dX0_add_146 rfl rfl ?_
            refine kg_iadd X dX0_add_147 ?_
            refine kg_iload X 0 dX0_add_148 rfl ?_
            refine kg_iadd X dX0_add_150 ?_
            refine kg_iast X h11 h15 dX0_add_151 ?_
            refine kg_topm (fun I17 eI17 => ?_)
            have hw := hw I17 eI17
            refine kg_iinc (dd := (1 : Int32)) (lvf := fun x18 => [(7, .int x18), (8, .int x13), (0, .ref (Y.2.1 k0)), (1, .int v1), (2, .int v2), (3, .int v3), (5, .int v5), (6, .int v6)]) X 7 dX0_add_152 rfl (by decide) (by decide) (fun _ => rfl) (fun x18 ex18 => ?_)
            have hw := hw x18 ex18
            refine kg_goto (tgt := 80) X dX0_add_155 (by decide) ?_
            refine kg_sub [2, 3, 4, 5, 6, 7, 0] rfl ?_
            exact ih _ _ _ _ _ _ _ _  hw
def w_X0_add_L59 (Y : Ly) (post : Mm → Prop) (ex_164 : Mm → Prop) : Nat → Nat → Int32 → Int32 → Int32 → Int32 → Mm → Prop
  | 0, _, _, _, _, _, _ => False
  | n59 + 1, k0, v1, v2, v3, v5, I => (((36 : Int32) ≤ v5 → ex_164 I) ∧ (¬ (36 : Int32) ≤ v5 → (ky_is Y k0 0 ∧ (ky_is Y (ky_rp Y k0 0) 8 ∧ (vp_in (v5 + v1) (ky_ln Y (ky_rp Y k0 0)) ∧ (∀ x9 : Int32, x9 = I (ky_rp Y k0 0) (v5 + v1).toNatClampNeg → (∃ n80 : Nat, w_X0_add_L80 Y post (fun k24 v25 v26 v27 v28 I23 => (∀ x29 : Int32, x29 = v28 + (6 : Int32) → w_X0_add_L59 Y post ex_164 n59 k24 v25 v26 v27 x29 I23)) n80 k0 v1 v2 v3 v5 x9 (0 : Int32) I)))))))
set_option maxHeartbeats 4000000 in
set_option maxRecDepth 100000 in
theorem s_X0_add_L59 (X : ky_X p s m args meth c C cX0_add 9 RX0) (hr : meth.sig.returnType = none) (post : Mm → Prop) (ex_164 : Mm → Prop) (hx_164 : ∀ (J : Mm), ex_164 J → ky_G p l e rm_X0_add s m args below meth c C Y A 9 (MQ below (va_Qv post (ky_B C Y A) A) args s 0 0 A) 164 [] [] J) : ∀ (n59 : Nat) (k0 : Nat) (v1 : Int32) (v2 : Int32) (v3 : Int32) (v5 : Int32) (I : Mm), w_X0_add_L59 Y post ex_164 n59 k0 v1 v2 v3 v5 I → ky_G p l e rm_X0_add s m args below meth c C Y A 9 (MQ below (va_Qv post (ky_B C Y A) A) args s 0 0 A) 59 [(0, .ref (Y.2.1 k0)), (1, .int v1), (2, .int v2), (3, .int v3), (5, .int v5)] [] I := by
  intro n59
  induction n59 with
  | zero => intro k0 v1 v2 v3 v5 I hw; exact False.elim hw
  | succ n59 ih =>
    intro k0 v1 v2 v3 v5 I hw
    refine kg_iload X 4 dX0_add_59 rfl ?_
    refine kg_bipush (v := (36 : Int32)) X dX0_add_61 (by decide) ?_
    refine kg_icmp_ge (tgt := 164) X dX0_add_63 (by decide) (fun h30 => ?_) (fun h30 => ?_)
    · have hw := hw.1 h30
      refine kg_sub [] rfl ?_
      exact hx_164 _  hw
    · have hw := hw.2 h30
      refine kg_aload_n X 0 dX0_add_66 rfl rfl ?_
      obtain ⟨h6, hw⟩ := hw
      refine kg_getR (j := 0) X kc_0 h6 (by decide) (by decide) rfl kw_53 dX0_add_67 ?_
      refine kg_iload X 4 dX0_add_70 rfl ?_
      refine kg_iload_n X 1 dX0_add_72 rfl rfl ?_
      refine kg_iadd X dX0_add_73 ?_
      obtain ⟨h7, hw⟩ := hw
      obtain ⟨h8, hw⟩ := hw
      refine kg_iald X h7 h8 dX0_add_74 ?_
      refine kg_topi (fun x9 ex9 => ?_)
      have hw := hw x9 ex9
      refine kg_istore (lv' := [(6, .int x9), (0, .ref (Y.2.1 k0)), (1, .int v1), (2, .int v2), (3, .int v3), (5, .int v5)]) X dX0_add_75 (by decide) rfl ?_
      refine kg_iconst (v := (0 : Int32)) X dX0_add_77 (by decide) ?_
      refine kg_istore (lv' := [(7, .int (0 : Int32)), (6, .int x9), (0, .ref (Y.2.1 k0)), (1, .int v1), (2, .int v2), (3, .int v3), (5, .int v5)]) X dX0_add_78 (by decide) rfl ?_
      obtain ⟨n80, hw⟩ := hw
      refine kg_sub [2, 3, 4, 5, 6, 1, 0] rfl ?_
      refine s_X0_add_L80 X hr post _ ?_ n80 _ _ _ _ _ _ _ _  hw
      · intro k24 v25 v26 v27 v28 I23 hw
        refine kg_iinc (dd := (6 : Int32)) (lvf := fun x29 => [(5, .int x29), (0, .ref (Y.2.1 k24)), (1, .int v25), (2, .int v26), (3, .int v27)]) X 4 dX0_add_158 rfl (by decide) (by decide) (fun _ => rfl) (fun x29 ex29 => ?_)
        have hw := hw x29 ex29
        refine kg_goto (tgt := 59) X dX0_add_161 (by decide) ?_
        refine kg_sub [1, 2, 3, 4, 0] rfl ?_
        exact ih _ _ _ _ _ _  hw
def w_X0_add (Y : Ly) (I : Mm) (k0 : Nat) (v1 : Int32) (v2 : Int32) (v3 : Int32) (post : Mm → Prop) : Prop := (ky_is Y k0 0 ∧ (((I k0 1) = 0 → post I) ∧ (¬ (I k0 1) = 0 → (ky_is Y (ky_rp Y k0 0) 8 ∧ (vp_in ((v1 * (6 : Int32)) + v2) (ky_ln Y (ky_rp Y k0 0)) ∧ ((v3 < (I (ky_rp Y k0 0) ((v1 * (6 : Int32)) + v2).toNatClampNeg) → (vp_in ((v2 * (6 : Int32)) + v1) (ky_ln Y (ky_rp Y k0 0)) ∧ (∀ x5 : Int32, x5 = I (ky_rp Y k0 0) ((v2 * (6 : Int32)) + v1).toNatClampNeg → ((x5 = (1000000000 : Int32) → (∃ n59 : Nat, w_X0_add_L59 Y post (fun I31 => post I31) n59 k0 v1 v2 v3 (0 : Int32) I)) ∧ (¬ x5 = (1000000000 : Int32) → ((0 ≤ (x5 + v3) → (∃ n59 : Nat, w_X0_add_L59 Y post (fun I32 => post I32) n59 k0 v1 v2 v3 (0 : Int32) I)) ∧ (¬ 0 ≤ (x5 + v3) → (∀ I33 : Mm, I33 = ky_up I k0 1 (0 : Int32) → post I33)))))))) ∧ (¬ v3 < (I (ky_rp Y k0 0) ((v1 * (6 : Int32)) + v2).toNatClampNeg) → post I)))))))
set_option maxHeartbeats 4000000 in
set_option maxRecDepth 100000 in
theorem c_X0_add (l : Launch) (C : Cc) (Y : Ly) (A : Nat → Prop) (I : Mm) (k0 : Nat) (v1 : Int32) (v2 : Int32) (v3 : Int32) (post : Mm → Prop) (hw : w_X0_add Y I k0 v1 v2 v3 post) : ky_MV l yX0_add cX0_add 9 rm_X0_add C Y A I [.ref (Y.2.1 k0), .int v1, .int v2, .int v3] post := by
  refine ky_met (by decide) (Nat.le_of_ble_eq_true rfl) ?_
  intro p e s m args below meth c X hr
  have X : ky_X p s m args meth c C cX0_add 9 RX0 := X
  show ky_G p l e rm_X0_add s m args below meth c C Y A 9 (MQ below (va_Qv post (ky_B C Y A) A) args s 0 0 A) 0 [(0, .ref (Y.2.1 k0)), (1, .int v1), (2, .int v2), (3, .int v3)] [] I
  refine kg_aload_n X 0 dX0_add_0 rfl rfl ?_
  obtain ⟨h1, hw⟩ := hw
  refine kg_getI (j := 1) X kc_0 h1 (by decide) (by decide) rfl kw_54 dX0_add_1 ?_
  refine kg_if_eq (tgt := 22) X dX0_add_4 (by decide) (fun h37 => ?_) (fun h37 => ?_)
  · have hw := hw.1 h37
    exact kg_vret X hr hw dX0_add_22
  · have hw := hw.2 h37
    refine kg_iload_n X 3 dX0_add_7 rfl rfl ?_
    refine kg_aload_n X 0 dX0_add_8 rfl rfl ?_
    refine kg_getR (j := 0) X kc_0 h1 (by decide) (by decide) rfl kw_53 dX0_add_9 ?_
    refine kg_iload_n X 1 dX0_add_12 rfl rfl ?_
    refine kg_bipush (v := (6 : Int32)) X dX0_add_13 (by decide) ?_
    refine kg_imul X dX0_add_15 ?_
    refine kg_iload_n X 2 dX0_add_16 rfl rfl ?_
    refine kg_iadd X dX0_add_17 ?_
    obtain ⟨h2, hw⟩ := hw
    obtain ⟨h3, hw⟩ := hw
    refine kg_iald X h2 h3 dX0_add_18 ?_
    refine kg_icmp_lt (tgt := 23) X dX0_add_19 (by decide) (fun h36 => ?_) (fun h36 => ?_)
    · have hw := hw.1 h36
      refine kg_aload_n X 0 dX0_add_23 rfl rfl ?_
      refine kg_getR (j := 0) X kc_0 h1 (by decide) (by decide) rfl kw_53 dX0_add_24 ?_
      refine kg_iload_n X 2 dX0_add_27 rfl rfl ?_
      refine kg_bipush (v := (6 : Int32)) X dX0_add_28 (by decide) ?_
      refine kg_imul X dX0_add_30 ?_
      refine kg_iload_n X 1 dX0_add_31 rfl rfl ?_
      refine kg_iadd X dX0_add_32 ?_
      obtain ⟨h4, hw⟩ := hw
      refine kg_iald X h2 h4 dX0_add_33 ?_
      refine kg_topi (fun x5 ex5 => ?_)
      have hw := hw x5 ex5
      refine kg_istore (lv' := [(4, .int x5), (0, .ref (Y.2.1 k0)), (1, .int v1), (2, .int v2), (3, .int v3)]) X dX0_add_34 (by decide) rfl ?_
      refine kg_iload X 0 dX0_add_36 rfl ?_
      refine kg_ldc (v := (1000000000 : Int32)) X kw_52 dX0_add_38 ?_
      refine kg_icmp_eq (tgt := 56) X dX0_add_40 (by decide) (fun h35 => ?_) (fun h35 => ?_)
      · have hw := hw.1 h35
        refine kg_iconst (v := (0 : Int32)) X dX0_add_56 (by decide) ?_
        refine kg_istore (lv' := [(5, .int (0 : Int32)), (4, .int x5), (0, .ref (Y.2.1 k0)), (1, .int v1), (2, .int v2), (3, .int v3)]) X dX0_add_57 (by decide) rfl ?_
        obtain ⟨n59, hw⟩ := hw
        refine kg_sub [2, 3, 4, 5, 0] rfl ?_
        refine s_X0_add_L59 X hr post _ ?_ n59 _ _ _ _ _ _  hw
        · intro I31 hw
          exact kg_vret X hr hw dX0_add_164
      · have hw := hw.2 h35
        refine kg_iload X 0 dX0_add_43 rfl ?_
        refine kg_iload_n X 4 dX0_add_45 rfl rfl ?_
        refine kg_iadd X dX0_add_46 ?_
        refine kg_if_ge (tgt := 56) X dX0_add_47 (by decide) (fun h34 => ?_) (fun h34 => ?_)
        · have hw := hw.1 h34
          refine kg_iconst (v := (0 : Int32)) X dX0_add_56 (by decide) ?_
          refine kg_istore (lv' := [(5, .int (0 : Int32)), (4, .int x5), (0, .ref (Y.2.1 k0)), (1, .int v1), (2, .int v2), (3, .int v3)]) X dX0_add_57 (by decide) rfl ?_
          obtain ⟨n59, hw⟩ := hw
          refine kg_sub [2, 3, 4, 5, 0] rfl ?_
          refine s_X0_add_L59 X hr post _ ?_ n59 _ _ _ _ _ _  hw
          · intro I32 hw
            exact kg_vret X hr hw dX0_add_164
        · have hw := hw.2 h34
          refine kg_aload_n X 1 dX0_add_50 rfl rfl ?_
          refine kg_iconst (v := (0 : Int32)) X dX0_add_51 (by decide) ?_
          refine kg_putI (ci := 0) (Tn := TX0) (j := 1) (ty := .boolean) X tyX0 tyX0_ok nmX0 kc_0 h1 (by decide) (by decide) rfl kw_54 (by decide +kernel) (ky_nb (by decide)).1 (ky_nb (by decide)).2 dX0_add_52 ?_
          refine kg_topm (fun I33 eI33 => ?_)
          have hw := hw I33 eI33
          exact kg_vret X hr hw dX0_add_55
    · have hw := hw.2 h36
      exact kg_vret X hr hw dX0_add_22
end

abbrev rm_X6_isLimit : Room := { frames := 0, cells := 0, slots := 0, locals := 0 }
section
variable {p : Program} {l : Launch} {e : Env} {s : State} {m : MethodId} {args : Array Value} {below : List Frame} {meth : Method} {c : Code} {C : Cc} {Y : Ly} {A : Nat → Prop}
def w_X6_isLimit (Y : Ly) (I : Mm) (v0 : Int32) (post : Int32 → Mm → Prop) : Prop := ((v0 < (-1000 : Int32) → post (0 : Int32) I) ∧ (¬ v0 < (-1000 : Int32) → (((1000 : Int32) < v0 → post (0 : Int32) I) ∧ (¬ (1000 : Int32) < v0 → post (1 : Int32) I))))
set_option maxHeartbeats 4000000 in
set_option maxRecDepth 100000 in
theorem c_X6_isLimit (l : Launch) (C : Cc) (Y : Ly) (A : Nat → Prop) (I : Mm) (v0 : Int32) (post : Int32 → Mm → Prop) (hw : w_X6_isLimit Y I v0 post) : ky_MI l yX6_isLimit cX6_isLimit 1 (some .boolean) rm_X6_isLimit C Y A I [.int v0] post := by
  refine ky_met (by decide) (Nat.le_of_ble_eq_true rfl) ?_
  intro p e s m args below meth c X hr
  have X : ky_X p s m args meth c C cX6_isLimit 1 RX6 := X
  show ky_G p l e rm_X6_isLimit s m args below meth c C Y A 1 (MQ below (va_Qi post (ky_B C Y A) A) args s 0 0 A) 0 [(0, .int v0)] [] I
  refine kg_iload_n X 0 dX6_isLimit_0 rfl rfl ?_
  refine kg_sipush (v := (-1000 : Int32)) X dX6_isLimit_1 (by decide) ?_
  refine kg_icmp_lt (tgt := 18) X dX6_isLimit_4 (by decide) (fun h2 => ?_) (fun h2 => ?_)
  · have hw := hw.1 h2
    refine kg_iconst (v := (0 : Int32)) X dX6_isLimit_18 (by decide) ?_
    exact kg_zret X hr (by decide) hw dX6_isLimit_19
  · have hw := hw.2 h2
    refine kg_iload_n X 0 dX6_isLimit_7 rfl rfl ?_
    refine kg_sipush (v := (1000 : Int32)) X dX6_isLimit_8 (by decide) ?_
    refine kg_icmp_gt (tgt := 18) X dX6_isLimit_11 (by decide) (fun h1 => ?_) (fun h1 => ?_)
    · have hw := hw.1 h1
      refine kg_iconst (v := (0 : Int32)) X dX6_isLimit_18 (by decide) ?_
      exact kg_zret X hr (by decide) hw dX6_isLimit_19
    · have hw := hw.2 h1
      refine kg_iconst (v := (1 : Int32)) X dX6_isLimit_14 (by decide) ?_
      refine kg_goto (tgt := 19) X dX6_isLimit_15 (by decide) ?_
      exact kg_zret X hr (by decide) hw dX6_isLimit_19
end

abbrev rm_X6_pointAt : Room := { frames := 0, cells := 0, slots := 0, locals := 0 }
section
variable {p : Program} {l : Launch} {e : Env} {s : State} {m : MethodId} {args : Array Value} {below : List Frame} {meth : Method} {c : Code} {C : Cc} {Y : Ly} {A : Nat → Prop}
def w_X6_pointAt (Y : Ly) (I : Mm) (v0 : Int32) (v1 : Int32) (v2 : Int32) (post : Int32 → Mm → Prop) : Prop := ((¬ v0 = (2 : Int32) → ((¬ v0 = 0 → post v2 I) ∧ (v0 = 0 → post v1 I))) ∧ (v0 = (2 : Int32) → post (5 : Int32) I))
set_option maxHeartbeats 4000000 in
set_option maxRecDepth 100000 in
theorem c_X6_pointAt (l : Launch) (C : Cc) (Y : Ly) (A : Nat → Prop) (I : Mm) (v0 : Int32) (v1 : Int32) (v2 : Int32) (post : Int32 → Mm → Prop) (hw : w_X6_pointAt Y I v0 v1 v2 post) : ky_MI l yX6_pointAt cX6_pointAt 3 (some .int) rm_X6_pointAt C Y A I [.int v0, .int v1, .int v2] post := by
  refine ky_met (by decide) (Nat.le_of_ble_eq_true rfl) ?_
  intro p e s m args below meth c X hr
  have X : ky_X p s m args meth c C cX6_pointAt 3 RX6 := X
  show ky_G p l e rm_X6_pointAt s m args below meth c C Y A 3 (MQ below (va_Qi post (ky_B C Y A) A) args s 0 0 A) 0 [(0, .int v0), (1, .int v1), (2, .int v2)] [] I
  refine kg_iload_n X 0 dX6_pointAt_0 rfl rfl ?_
  refine kg_iconst (v := (2 : Int32)) X dX6_pointAt_1 (by decide) ?_
  refine kg_icmp_ne (tgt := 7) X dX6_pointAt_2 (by decide) (fun h2 => ?_) (fun h2 => ?_)
  · have hw := hw.1 h2
    refine kg_iload_n X 0 dX6_pointAt_7 rfl rfl ?_
    refine kg_if_ne (tgt := 15) X dX6_pointAt_8 (by decide) (fun h1 => ?_) (fun h1 => ?_)
    · have hw := hw.1 h1
      refine kg_iload_n X 2 dX6_pointAt_15 rfl rfl ?_
      exact kg_iret X hr hw dX6_pointAt_16
    · have hw := hw.2 h1
      refine kg_iload_n X 1 dX6_pointAt_11 rfl rfl ?_
      refine kg_goto (tgt := 16) X dX6_pointAt_12 (by decide) ?_
      exact kg_iret X hr hw dX6_pointAt_16
  · have hw := hw.2 h2
    refine kg_iconst (v := (5 : Int32)) X dX6_pointAt_5 (by decide) ?_
    exact kg_iret X hr hw dX6_pointAt_6
end
end
