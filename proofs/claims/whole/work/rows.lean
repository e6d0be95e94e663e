section
-- ===== PART A: goes FIRST, ahead of the names: the tables' words, and 'selects' of the private methods out of them =====
/-- a private method of a class that the tables say can be made, by its rows of tables_1 -/
def lw_okq (q : MethodName × Nat) : Prop := (q.1.cls ≠ "java/lang/invoke/MethodHandle" ∧ q.1.cls ≠ "java/lang/invoke/VarHandle") ∧ Cond.instantiable q.1.cls q.2 ∈ tables_1 ∧ Cond.privateMethod q.1 ∈ tables_1 ∧ Cond.instanceMethod q.1 ∈ tables_1
theorem lw_p0 : lw_okq (⟨"PurseTrace", "isPerson", "(I)Z"⟩, 13) := ⟨⟨by decide +kernel, by decide +kernel⟩, List.mem_of_getElem? (i := 18) (by decide +kernel), List.mem_of_getElem? (i := 535) (by decide +kernel), List.mem_of_getElem? (i := 536) (by decide +kernel)⟩
theorem lw_p1 : lw_okq (⟨"PurseTrace", "isPurse", "(I)Z"⟩, 13) := ⟨⟨by decide +kernel, by decide +kernel⟩, List.mem_of_getElem? (i := 18) (by decide +kernel), List.mem_of_getElem? (i := 551) (by decide +kernel), List.mem_of_getElem? (i := 552) (by decide +kernel)⟩
theorem lw_p2 : lw_okq (⟨"PurseTrace", "mayDate", "(III)Z"⟩, 13) := ⟨⟨by decide +kernel, by decide +kernel⟩, List.mem_of_getElem? (i := 18) (by decide +kernel), List.mem_of_getElem? (i := 559) (by decide +kernel), List.mem_of_getElem? (i := 560) (by decide +kernel)⟩
theorem lw_p3 : lw_okq (⟨"PurseTrace$Lines", "sortIn", "(I)V"⟩, 12) := ⟨⟨by decide +kernel, by decide +kernel⟩, List.mem_of_getElem? (i := 62) (by decide +kernel), List.mem_of_getElem? (i := 571) (by decide +kernel), List.mem_of_getElem? (i := 572) (by decide +kernel)⟩
theorem lw_p4 : lw_okq (⟨"PurseTrace$Lines", "isLater", "(II)Z"⟩, 12) := ⟨⟨by decide +kernel, by decide +kernel⟩, List.mem_of_getElem? (i := 62) (by decide +kernel), List.mem_of_getElem? (i := 575) (by decide +kernel), List.mem_of_getElem? (i := 576) (by decide +kernel)⟩
theorem lw_p5 : lw_okq (⟨"PurseTrace", "isThing", "(I)Z"⟩, 13) := ⟨⟨by decide +kernel, by decide +kernel⟩, List.mem_of_getElem? (i := 18) (by decide +kernel), List.mem_of_getElem? (i := 587) (by decide +kernel), List.mem_of_getElem? (i := 588) (by decide +kernel)⟩
theorem lw_p6 : lw_okq (⟨"PurseTrace", "isLine", "(I)Z"⟩, 13) := ⟨⟨by decide +kernel, by decide +kernel⟩, List.mem_of_getElem? (i := 18) (by decide +kernel), List.mem_of_getElem? (i := 595) (by decide +kernel), List.mem_of_getElem? (i := 596) (by decide +kernel)⟩
theorem lw_p7 : lw_okq (⟨"PurseTrace$RuleReader", "readClause", "(II)V"⟩, 8) := ⟨⟨by decide +kernel, by decide +kernel⟩, List.mem_of_getElem? (i := 216) (by decide +kernel), List.mem_of_getElem? (i := 622) (by decide +kernel), List.mem_of_getElem? (i := 623) (by decide +kernel)⟩
theorem lw_p8 : lw_okq (⟨"PurseTrace$RuleReader", "peek", "()I"⟩, 8) := ⟨⟨by decide +kernel, by decide +kernel⟩, List.mem_of_getElem? (i := 216) (by decide +kernel), List.mem_of_getElem? (i := 626) (by decide +kernel), List.mem_of_getElem? (i := 627) (by decide +kernel)⟩
theorem lw_p9 : lw_okq (⟨"PurseTrace$RuleReader", "fail", "(II)V"⟩, 8) := ⟨⟨by decide +kernel, by decide +kernel⟩, List.mem_of_getElem? (i := 216) (by decide +kernel), List.mem_of_getElem? (i := 634) (by decide +kernel), List.mem_of_getElem? (i := 635) (by decide +kernel)⟩
theorem lw_p10 : lw_okq (⟨"PurseTrace$RuleReader", "readNumber", "(I)I"⟩, 8) := ⟨⟨by decide +kernel, by decide +kernel⟩, List.mem_of_getElem? (i := 216) (by decide +kernel), List.mem_of_getElem? (i := 638) (by decide +kernel), List.mem_of_getElem? (i := 639) (by decide +kernel)⟩
theorem lw_p11 : lw_okq (⟨"PurseTrace$RuleReader", "pass", "(I)V"⟩, 8) := ⟨⟨by decide +kernel, by decide +kernel⟩, List.mem_of_getElem? (i := 216) (by decide +kernel), List.mem_of_getElem? (i := 645) (by decide +kernel), List.mem_of_getElem? (i := 646) (by decide +kernel)⟩
theorem lw_p12 : lw_okq (⟨"PurseTrace$RuleReader", "readCondition", "(I)V"⟩, 8) := ⟨⟨by decide +kernel, by decide +kernel⟩, List.mem_of_getElem? (i := 216) (by decide +kernel), List.mem_of_getElem? (i := 649) (by decide +kernel), List.mem_of_getElem? (i := 650) (by decide +kernel)⟩
theorem lw_p13 : lw_okq (⟨"PurseTrace$RuleReader", "readPart", "(I)V"⟩, 8) := ⟨⟨by decide +kernel, by decide +kernel⟩, List.mem_of_getElem? (i := 216) (by decide +kernel), List.mem_of_getElem? (i := 653) (by decide +kernel), List.mem_of_getElem? (i := 654) (by decide +kernel)⟩
theorem lw_p14 : lw_okq (⟨"PurseTrace$RuleReader", "readPiece", "(I)V"⟩, 8) := ⟨⟨by decide +kernel, by decide +kernel⟩, List.mem_of_getElem? (i := 216) (by decide +kernel), List.mem_of_getElem? (i := 657) (by decide +kernel), List.mem_of_getElem? (i := 658) (by decide +kernel)⟩
theorem lw_p15 : lw_okq (⟨"PurseTrace$RuleReader", "mayOpen", "(I)Z"⟩, 8) := ⟨⟨by decide +kernel, by decide +kernel⟩, List.mem_of_getElem? (i := 216) (by decide +kernel), List.mem_of_getElem? (i := 661) (by decide +kernel), List.mem_of_getElem? (i := 662) (by decide +kernel)⟩
def lw_privs_1 : List (MethodName × Nat) := [(⟨"PurseTrace", "isPerson", "(I)Z"⟩, 13), (⟨"PurseTrace", "isPurse", "(I)Z"⟩, 13), (⟨"PurseTrace", "mayDate", "(III)Z"⟩, 13), (⟨"PurseTrace$Lines", "sortIn", "(I)V"⟩, 12), (⟨"PurseTrace$Lines", "isLater", "(II)Z"⟩, 12), (⟨"PurseTrace", "isThing", "(I)Z"⟩, 13), (⟨"PurseTrace", "isLine", "(I)Z"⟩, 13), (⟨"PurseTrace$RuleReader", "readClause", "(II)V"⟩, 8), (⟨"PurseTrace$RuleReader", "peek", "()I"⟩, 8), (⟨"PurseTrace$RuleReader", "fail", "(II)V"⟩, 8), (⟨"PurseTrace$RuleReader", "readNumber", "(I)I"⟩, 8), (⟨"PurseTrace$RuleReader", "pass", "(I)V"⟩, 8), (⟨"PurseTrace$RuleReader", "readCondition", "(I)V"⟩, 8), (⟨"PurseTrace$RuleReader", "readPart", "(I)V"⟩, 8), (⟨"PurseTrace$RuleReader", "readPiece", "(I)V"⟩, 8), (⟨"PurseTrace$RuleReader", "mayOpen", "(I)Z"⟩, 8)]
theorem lw_r1 : ∀ q ∈ lw_privs_1, lw_okq q := List.forall_mem_cons.mpr ⟨lw_p0, List.forall_mem_cons.mpr ⟨lw_p1, List.forall_mem_cons.mpr ⟨lw_p2, List.forall_mem_cons.mpr ⟨lw_p3, List.forall_mem_cons.mpr ⟨lw_p4, List.forall_mem_cons.mpr ⟨lw_p5, List.forall_mem_cons.mpr ⟨lw_p6, List.forall_mem_cons.mpr ⟨lw_p7, List.forall_mem_cons.mpr ⟨lw_p8, List.forall_mem_cons.mpr ⟨lw_p9, List.forall_mem_cons.mpr ⟨lw_p10, List.forall_mem_cons.mpr ⟨lw_p11, List.forall_mem_cons.mpr ⟨lw_p12, List.forall_mem_cons.mpr ⟨lw_p13, List.forall_mem_cons.mpr ⟨lw_p14, List.forall_mem_cons.mpr ⟨lw_p15, fun _ h => absurd h List.not_mem_nil⟩⟩⟩⟩⟩⟩⟩⟩⟩⟩⟩⟩⟩⟩⟩⟩
theorem lw_p16 : lw_okq (⟨"PurseTrace$RuleReader", "emit", "(II)I"⟩, 8) := ⟨⟨by decide +kernel, by decide +kernel⟩, List.mem_of_getElem? (i := 216) (by decide +kernel), List.mem_of_getElem? (i := 665) (by decide +kernel), List.mem_of_getElem? (i := 666) (by decide +kernel)⟩
theorem lw_p17 : lw_okq (⟨"PurseTrace$RuleReader", "readSum", "(I)V"⟩, 8) := ⟨⟨by decide +kernel, by decide +kernel⟩, List.mem_of_getElem? (i := 216) (by decide +kernel), List.mem_of_getElem? (i := 669) (by decide +kernel), List.mem_of_getElem? (i := 670) (by decide +kernel)⟩
theorem lw_p18 : lw_okq (⟨"PurseTrace$RuleReader", "readTerm", "(I)V"⟩, 8) := ⟨⟨by decide +kernel, by decide +kernel⟩, List.mem_of_getElem? (i := 216) (by decide +kernel), List.mem_of_getElem? (i := 673) (by decide +kernel), List.mem_of_getElem? (i := 674) (by decide +kernel)⟩
theorem lw_p19 : lw_okq (⟨"PurseTrace$RuleReader", "readFactor", "(I)V"⟩, 8) := ⟨⟨by decide +kernel, by decide +kernel⟩, List.mem_of_getElem? (i := 216) (by decide +kernel), List.mem_of_getElem? (i := 677) (by decide +kernel), List.mem_of_getElem? (i := 678) (by decide +kernel)⟩
theorem lw_p20 : lw_okq (⟨"PurseTrace$RuleReader", "aim", "(II)V"⟩, 8) := ⟨⟨by decide +kernel, by decide +kernel⟩, List.mem_of_getElem? (i := 216) (by decide +kernel), List.mem_of_getElem? (i := 691) (by decide +kernel), List.mem_of_getElem? (i := 692) (by decide +kernel)⟩
theorem lw_p21 : lw_okq (⟨"PurseTrace", "isPersonOrAll", "(I)Z"⟩, 13) := ⟨⟨by decide +kernel, by decide +kernel⟩, List.mem_of_getElem? (i := 18) (by decide +kernel), List.mem_of_getElem? (i := 711) (by decide +kernel), List.mem_of_getElem? (i := 712) (by decide +kernel)⟩
theorem lw_p22 : lw_okq (⟨"PurseTrace$Replay", "decide", "(I)V"⟩, 17) := ⟨⟨by decide +kernel, by decide +kernel⟩, List.mem_of_getElem? (i := 247) (by decide +kernel), List.mem_of_getElem? (i := 743) (by decide +kernel), List.mem_of_getElem? (i := 744) (by decide +kernel)⟩
theorem lw_p23 : lw_okq (⟨"PurseTrace$Replay", "gatherFacts", "(I)V"⟩, 17) := ⟨⟨by decide +kernel, by decide +kernel⟩, List.mem_of_getElem? (i := 247) (by decide +kernel), List.mem_of_getElem? (i := 747) (by decide +kernel), List.mem_of_getElem? (i := 748) (by decide +kernel)⟩
theorem lw_p24 : lw_okq (⟨"PurseTrace$RuleBook", "isInForce", "(IIII)Z"⟩, 15) := ⟨⟨by decide +kernel, by decide +kernel⟩, List.mem_of_getElem? (i := 152) (by decide +kernel), List.mem_of_getElem? (i := 760) (by decide +kernel), List.mem_of_getElem? (i := 761) (by decide +kernel)⟩
theorem lw_p25 : lw_okq (⟨"PurseTrace$RuleBook", "strikeLower", "(II)V"⟩, 15) := ⟨⟨by decide +kernel, by decide +kernel⟩, List.mem_of_getElem? (i := 152) (by decide +kernel), List.mem_of_getElem? (i := 764) (by decide +kernel), List.mem_of_getElem? (i := 765) (by decide +kernel)⟩
theorem lw_p26 : lw_okq (⟨"PurseTrace$RuleBook", "holds", "(I)Z"⟩, 15) := ⟨⟨by decide +kernel, by decide +kernel⟩, List.mem_of_getElem? (i := 152) (by decide +kernel), List.mem_of_getElem? (i := 768) (by decide +kernel), List.mem_of_getElem? (i := 769) (by decide +kernel)⟩
theorem lw_p27 : lw_okq (⟨"PurseTrace$Replay", "act", "(I)V"⟩, 17) := ⟨⟨by decide +kernel, by decide +kernel⟩, List.mem_of_getElem? (i := 247) (by decide +kernel), List.mem_of_getElem? (i := 782) (by decide +kernel), List.mem_of_getElem? (i := 783) (by decide +kernel)⟩
theorem lw_p28 : lw_okq (⟨"PurseTrace$State", "takeFromLast", "(II)V"⟩, 13) := ⟨⟨by decide +kernel, by decide +kernel⟩, List.mem_of_getElem? (i := 253) (by decide +kernel), List.mem_of_getElem? (i := 791) (by decide +kernel), List.mem_of_getElem? (i := 792) (by decide +kernel)⟩
theorem lw_p29 : lw_okq (⟨"PurseTrace$State", "grab", "(II)I"⟩, 13) := ⟨⟨by decide +kernel, by decide +kernel⟩, List.mem_of_getElem? (i := 253) (by decide +kernel), List.mem_of_getElem? (i := 795) (by decide +kernel), List.mem_of_getElem? (i := 796) (by decide +kernel)⟩
theorem lw_p30 : lw_okq (⟨"PurseTrace$State", "takeOf", "(III)I"⟩, 13) := ⟨⟨by decide +kernel, by decide +kernel⟩, List.mem_of_getElem? (i := 253) (by decide +kernel), List.mem_of_getElem? (i := 804) (by decide +kernel), List.mem_of_getElem? (i := 805) (by decide +kernel)⟩
theorem lw_p31 : lw_okq (⟨"PurseTrace$State", "takeOthers", "(III)I"⟩, 13) := ⟨⟨by decide +kernel, by decide +kernel⟩, List.mem_of_getElem? (i := 253) (by decide +kernel), List.mem_of_getElem? (i := 808) (by decide +kernel), List.mem_of_getElem? (i := 809) (by decide +kernel)⟩
def lw_privs_2 : List (MethodName × Nat) := [(⟨"PurseTrace$RuleReader", "emit", "(II)I"⟩, 8), (⟨"PurseTrace$RuleReader", "readSum", "(I)V"⟩, 8), (⟨"PurseTrace$RuleReader", "readTerm", "(I)V"⟩, 8), (⟨"PurseTrace$RuleReader", "readFactor", "(I)V"⟩, 8), (⟨"PurseTrace$RuleReader", "aim", "(II)V"⟩, 8), (⟨"PurseTrace", "isPersonOrAll", "(I)Z"⟩, 13), (⟨"PurseTrace$Replay", "decide", "(I)V"⟩, 17), (⟨"PurseTrace$Replay", "gatherFacts", "(I)V"⟩, 17), (⟨"PurseTrace$RuleBook", "isInForce", "(IIII)Z"⟩, 15), (⟨"PurseTrace$RuleBook", "strikeLower", "(II)V"⟩, 15), (⟨"PurseTrace$RuleBook", "holds", "(I)Z"⟩, 15), (⟨"PurseTrace$Replay", "act", "(I)V"⟩, 17), (⟨"PurseTrace$State", "takeFromLast", "(II)V"⟩, 13), (⟨"PurseTrace$State", "grab", "(II)I"⟩, 13), (⟨"PurseTrace$State", "takeOf", "(III)I"⟩, 13), (⟨"PurseTrace$State", "takeOthers", "(III)I"⟩, 13)]
theorem lw_r2 : ∀ q ∈ lw_privs_2, lw_okq q := List.forall_mem_cons.mpr ⟨lw_p16, List.forall_mem_cons.mpr ⟨lw_p17, List.forall_mem_cons.mpr ⟨lw_p18, List.forall_mem_cons.mpr ⟨lw_p19, List.forall_mem_cons.mpr ⟨lw_p20, List.forall_mem_cons.mpr ⟨lw_p21, List.forall_mem_cons.mpr ⟨lw_p22, List.forall_mem_cons.mpr ⟨lw_p23, List.forall_mem_cons.mpr ⟨lw_p24, List.forall_mem_cons.mpr ⟨lw_p25, List.forall_mem_cons.mpr ⟨lw_p26, List.forall_mem_cons.mpr ⟨lw_p27, List.forall_mem_cons.mpr ⟨lw_p28, List.forall_mem_cons.mpr ⟨lw_p29, List.forall_mem_cons.mpr ⟨lw_p30, List.forall_mem_cons.mpr ⟨lw_p31, fun _ h => absurd h List.not_mem_nil⟩⟩⟩⟩⟩⟩⟩⟩⟩⟩⟩⟩⟩⟩⟩⟩
theorem lw_p32 : lw_okq (⟨"PurseTrace$State", "tidy", "()V"⟩, 13) := ⟨⟨by decide +kernel, by decide +kernel⟩, List.mem_of_getElem? (i := 253) (by decide +kernel), List.mem_of_getElem? (i := 812) (by decide +kernel), List.mem_of_getElem? (i := 813) (by decide +kernel)⟩
theorem lw_p33 : lw_okq (⟨"PurseTrace$Replay", "moveOn", "(I)V"⟩, 17) := ⟨⟨by decide +kernel, by decide +kernel⟩, List.mem_of_getElem? (i := 247) (by decide +kernel), List.mem_of_getElem? (i := 824) (by decide +kernel), List.mem_of_getElem? (i := 825) (by decide +kernel)⟩
theorem lw_p34 : lw_okq (⟨"PurseTrace$Replay", "spend", "(I)V"⟩, 17) := ⟨⟨by decide +kernel, by decide +kernel⟩, List.mem_of_getElem? (i := 247) (by decide +kernel), List.mem_of_getElem? (i := 833) (by decide +kernel), List.mem_of_getElem? (i := 834) (by decide +kernel)⟩
theorem lw_p35 : lw_okq (⟨"PurseTrace$Replay", "buy", "(I)V"⟩, 17) := ⟨⟨by decide +kernel, by decide +kernel⟩, List.mem_of_getElem? (i := 247) (by decide +kernel), List.mem_of_getElem? (i := 837) (by decide +kernel), List.mem_of_getElem? (i := 838) (by decide +kernel)⟩
theorem lw_p36 : lw_okq (⟨"PurseTrace$Replay", "sell", "(III)V"⟩, 17) := ⟨⟨by decide +kernel, by decide +kernel⟩, List.mem_of_getElem? (i := 247) (by decide +kernel), List.mem_of_getElem? (i := 841) (by decide +kernel), List.mem_of_getElem? (i := 842) (by decide +kernel)⟩
theorem lw_p37 : lw_okq (⟨"PurseTrace$Replay", "makeGood", "(III)V"⟩, 17) := ⟨⟨by decide +kernel, by decide +kernel⟩, List.mem_of_getElem? (i := 247) (by decide +kernel), List.mem_of_getElem? (i := 852) (by decide +kernel), List.mem_of_getElem? (i := 853) (by decide +kernel)⟩
theorem lw_p38 : lw_okq (⟨"PurseTrace$Orders", "findDay", "(I)V"⟩, 7) := ⟨⟨by decide +kernel, by decide +kernel⟩, List.mem_of_getElem? (i := 375) (by decide +kernel), List.mem_of_getElem? (i := 903) (by decide +kernel), List.mem_of_getElem? (i := 904) (by decide +kernel)⟩
theorem lw_p39 : lw_okq (⟨"PurseTrace$Orders", "sortByNumber", "()V"⟩, 7) := ⟨⟨by decide +kernel, by decide +kernel⟩, List.mem_of_getElem? (i := 375) (by decide +kernel), List.mem_of_getElem? (i := 921) (by decide +kernel), List.mem_of_getElem? (i := 922) (by decide +kernel)⟩
theorem lw_p40 : lw_okq (⟨"PurseTrace$Orders", "swap", "(II)V"⟩, 7) := ⟨⟨by decide +kernel, by decide +kernel⟩, List.mem_of_getElem? (i := 375) (by decide +kernel), List.mem_of_getElem? (i := 925) (by decide +kernel), List.mem_of_getElem? (i := 926) (by decide +kernel)⟩
theorem lw_p41 : lw_okq (⟨"PurseTrace$Orders", "isLawful", "()Z"⟩, 7) := ⟨⟨by decide +kernel, by decide +kernel⟩, List.mem_of_getElem? (i := 375) (by decide +kernel), List.mem_of_getElem? (i := 929) (by decide +kernel), List.mem_of_getElem? (i := 930) (by decide +kernel)⟩
theorem lw_p42 : lw_okq (⟨"PurseTrace$Orders", "note", "(I)V"⟩, 7) := ⟨⟨by decide +kernel, by decide +kernel⟩, List.mem_of_getElem? (i := 375) (by decide +kernel), List.mem_of_getElem? (i := 938) (by decide +kernel), List.mem_of_getElem? (i := 939) (by decide +kernel)⟩
theorem lw_p43 : lw_okq (⟨"PurseTrace$Orders", "goToNext", "()Z"⟩, 7) := ⟨⟨by decide +kernel, by decide +kernel⟩, List.mem_of_getElem? (i := 375) (by decide +kernel), List.mem_of_getElem? (i := 944) (by decide +kernel), List.mem_of_getElem? (i := 945) (by decide +kernel)⟩
theorem lw_p44 : lw_okq (⟨"PurseTrace$Choices", "isBarred", "(II)Z"⟩, 12) := ⟨⟨by decide +kernel, by decide +kernel⟩, List.mem_of_getElem? (i := 406) (by decide +kernel), List.mem_of_getElem? (i := 974) (by decide +kernel), List.mem_of_getElem? (i := 975) (by decide +kernel)⟩
theorem lw_p45 : lw_okq (⟨"PurseTrace$Choices", "isChanged", "(I)Z"⟩, 12) := ⟨⟨by decide +kernel, by decide +kernel⟩, List.mem_of_getElem? (i := 406) (by decide +kernel), List.mem_of_getElem? (i := 991) (by decide +kernel), List.mem_of_getElem? (i := 992) (by decide +kernel)⟩
theorem lw_p46 : lw_okq (⟨"PurseTrace$Choices", "spellFromLast", "(I)V"⟩, 12) := ⟨⟨by decide +kernel, by decide +kernel⟩, List.mem_of_getElem? (i := 406) (by decide +kernel), List.mem_of_getElem? (i := 1003) (by decide +kernel), List.mem_of_getElem? (i := 1004) (by decide +kernel)⟩
theorem lw_p47 : lw_okq (⟨"PurseTrace$Debts", "gather", "(II)I"⟩, 6) := ⟨⟨by decide +kernel, by decide +kernel⟩, List.mem_of_getElem? (i := 453) (by decide +kernel), List.mem_of_getElem? (i := 1058) (by decide +kernel), List.mem_of_getElem? (i := 1059) (by decide +kernel)⟩
def lw_privs_3 : List (MethodName × Nat) := [(⟨"PurseTrace$State", "tidy", "()V"⟩, 13), (⟨"PurseTrace$Replay", "moveOn", "(I)V"⟩, 17), (⟨"PurseTrace$Replay", "spend", "(I)V"⟩, 17), (⟨"PurseTrace$Replay", "buy", "(I)V"⟩, 17), (⟨"PurseTrace$Replay", "sell", "(III)V"⟩, 17), (⟨"PurseTrace$Replay", "makeGood", "(III)V"⟩, 17), (⟨"PurseTrace$Orders", "findDay", "(I)V"⟩, 7), (⟨"PurseTrace$Orders", "sortByNumber", "()V"⟩, 7), (⟨"PurseTrace$Orders", "swap", "(II)V"⟩, 7), (⟨"PurseTrace$Orders", "isLawful", "()Z"⟩, 7), (⟨"PurseTrace$Orders", "note", "(I)V"⟩, 7), (⟨"PurseTrace$Orders", "goToNext", "()Z"⟩, 7), (⟨"PurseTrace$Choices", "isBarred", "(II)Z"⟩, 12), (⟨"PurseTrace$Choices", "isChanged", "(I)Z"⟩, 12), (⟨"PurseTrace$Choices", "spellFromLast", "(I)V"⟩, 12), (⟨"PurseTrace$Debts", "gather", "(II)I"⟩, 6)]
theorem lw_r3 : ∀ q ∈ lw_privs_3, lw_okq q := List.forall_mem_cons.mpr ⟨lw_p32, List.forall_mem_cons.mpr ⟨lw_p33, List.forall_mem_cons.mpr ⟨lw_p34, List.forall_mem_cons.mpr ⟨lw_p35, List.forall_mem_cons.mpr ⟨lw_p36, List.forall_mem_cons.mpr ⟨lw_p37, List.forall_mem_cons.mpr ⟨lw_p38, List.forall_mem_cons.mpr ⟨lw_p39, List.forall_mem_cons.mpr ⟨lw_p40, List.forall_mem_cons.mpr ⟨lw_p41, List.forall_mem_cons.mpr ⟨lw_p42, List.forall_mem_cons.mpr ⟨lw_p43, List.forall_mem_cons.mpr ⟨lw_p44, List.forall_mem_cons.mpr ⟨lw_p45, List.forall_mem_cons.mpr ⟨lw_p46, List.forall_mem_cons.mpr ⟨lw_p47, fun _ h => absurd h List.not_mem_nil⟩⟩⟩⟩⟩⟩⟩⟩⟩⟩⟩⟩⟩⟩⟩⟩
theorem lw_p48 : lw_okq (⟨"PurseTrace", "firstWrong", "(I)I"⟩, 13) := ⟨⟨by decide +kernel, by decide +kernel⟩, List.mem_of_getElem? (i := 18) (by decide +kernel), List.mem_of_getElem? (i := 1068) (by decide +kernel), List.mem_of_getElem? (i := 1069) (by decide +kernel)⟩
theorem lw_p49 : lw_okq (⟨"PurseTrace", "wrongInThree", "(IIII)I"⟩, 13) := ⟨⟨by decide +kernel, by decide +kernel⟩, List.mem_of_getElem? (i := 18) (by decide +kernel), List.mem_of_getElem? (i := 1072) (by decide +kernel), List.mem_of_getElem? (i := 1073) (by decide +kernel)⟩
theorem lw_p50 : lw_okq (⟨"PurseTraceModel", "isPerson", "(I)Z"⟩, 82) := ⟨⟨by decide +kernel, by decide +kernel⟩, List.mem_of_getElem? (i := 1092) (by decide +kernel), List.mem_of_getElem? (i := 1362) (by decide +kernel), List.mem_of_getElem? (i := 1363) (by decide +kernel)⟩
theorem lw_p51 : lw_okq (⟨"PurseTraceModel", "isPurse", "(I)Z"⟩, 82) := ⟨⟨by decide +kernel, by decide +kernel⟩, List.mem_of_getElem? (i := 1092) (by decide +kernel), List.mem_of_getElem? (i := 1375) (by decide +kernel), List.mem_of_getElem? (i := 1376) (by decide +kernel)⟩
theorem lw_p52 : lw_okq (⟨"PurseTraceModel", "adds", "(IIIIZIII)I"⟩, 82) := ⟨⟨by decide +kernel, by decide +kernel⟩, List.mem_of_getElem? (i := 1092) (by decide +kernel), List.mem_of_getElem? (i := 1379) (by decide +kernel), List.mem_of_getElem? (i := 1380) (by decide +kernel)⟩
theorem lw_p53 : lw_okq (⟨"PurseTraceModel", "isThing", "(I)Z"⟩, 82) := ⟨⟨by decide +kernel, by decide +kernel⟩, List.mem_of_getElem? (i := 1092) (by decide +kernel), List.mem_of_getElem? (i := 1393) (by decide +kernel), List.mem_of_getElem? (i := 1394) (by decide +kernel)⟩
theorem lw_p54 : lw_okq (⟨"PurseTraceModel", "isLine", "(I)Z"⟩, 82) := ⟨⟨by decide +kernel, by decide +kernel⟩, List.mem_of_getElem? (i := 1092) (by decide +kernel), List.mem_of_getElem? (i := 1401) (by decide +kernel), List.mem_of_getElem? (i := 1402) (by decide +kernel)⟩
theorem lw_p55 : lw_okq (⟨"PurseTraceModel", "push", "(I)V"⟩, 82) := ⟨⟨by decide +kernel, by decide +kernel⟩, List.mem_of_getElem? (i := 1092) (by decide +kernel), List.mem_of_getElem? (i := 1409) (by decide +kernel), List.mem_of_getElem? (i := 1410) (by decide +kernel)⟩
theorem lw_p56 : lw_okq (⟨"PurseTraceModel", "isGood", "()Z"⟩, 82) := ⟨⟨by decide +kernel, by decide +kernel⟩, List.mem_of_getElem? (i := 1092) (by decide +kernel), List.mem_of_getElem? (i := 1421) (by decide +kernel), List.mem_of_getElem? (i := 1422) (by decide +kernel)⟩
theorem lw_p57 : lw_okq (⟨"PurseTraceModel", "clause", "()V"⟩, 82) := ⟨⟨by decide +kernel, by decide +kernel⟩, List.mem_of_getElem? (i := 1092) (by decide +kernel), List.mem_of_getElem? (i := 1425) (by decide +kernel), List.mem_of_getElem? (i := 1426) (by decide +kernel)⟩
theorem lw_p58 : lw_okq (⟨"PurseTraceModel", "here", "()I"⟩, 82) := ⟨⟨by decide +kernel, by decide +kernel⟩, List.mem_of_getElem? (i := 1092) (by decide +kernel), List.mem_of_getElem? (i := 1429) (by decide +kernel), List.mem_of_getElem? (i := 1430) (by decide +kernel)⟩
theorem lw_p59 : lw_okq (⟨"PurseTraceModel", "wrongs", "(II)V"⟩, 82) := ⟨⟨by decide +kernel, by decide +kernel⟩, List.mem_of_getElem? (i := 1092) (by decide +kernel), List.mem_of_getElem? (i := 1433) (by decide +kernel), List.mem_of_getElem? (i := 1434) (by decide +kernel)⟩
theorem lw_p60 : lw_okq (⟨"PurseTraceModel", "reads", "(I)I"⟩, 82) := ⟨⟨by decide +kernel, by decide +kernel⟩, List.mem_of_getElem? (i := 1092) (by decide +kernel), List.mem_of_getElem? (i := 1437) (by decide +kernel), List.mem_of_getElem? (i := 1438) (by decide +kernel)⟩
theorem lw_p61 : lw_okq (⟨"PurseTraceModel", "seesDigit", "()Z"⟩, 82) := ⟨⟨by decide +kernel, by decide +kernel⟩, List.mem_of_getElem? (i := 1092) (by decide +kernel), List.mem_of_getElem? (i := 1441) (by decide +kernel), List.mem_of_getElem? (i := 1442) (by decide +kernel)⟩
theorem lw_p62 : lw_okq (⟨"PurseTraceModel", "must", "(I)V"⟩, 82) := ⟨⟨by decide +kernel, by decide +kernel⟩, List.mem_of_getElem? (i := 1092) (by decide +kernel), List.mem_of_getElem? (i := 1447) (by decide +kernel), List.mem_of_getElem? (i := 1448) (by decide +kernel)⟩
theorem lw_p63 : lw_okq (⟨"PurseTraceModel", "condition", "()V"⟩, 82) := ⟨⟨by decide +kernel, by decide +kernel⟩, List.mem_of_getElem? (i := 1092) (by decide +kernel), List.mem_of_getElem? (i := 1451) (by decide +kernel), List.mem_of_getElem? (i := 1452) (by decide +kernel)⟩
def lw_privs_4 : List (MethodName × Nat) := [(⟨"PurseTrace", "firstWrong", "(I)I"⟩, 13), (⟨"PurseTrace", "wrongInThree", "(IIII)I"⟩, 13), (⟨"PurseTraceModel", "isPerson", "(I)Z"⟩, 82), (⟨"PurseTraceModel", "isPurse", "(I)Z"⟩, 82), (⟨"PurseTraceModel", "adds", "(IIIIZIII)I"⟩, 82), (⟨"PurseTraceModel", "isThing", "(I)Z"⟩, 82), (⟨"PurseTraceModel", "isLine", "(I)Z"⟩, 82), (⟨"PurseTraceModel", "push", "(I)V"⟩, 82), (⟨"PurseTraceModel", "isGood", "()Z"⟩, 82), (⟨"PurseTraceModel", "clause", "()V"⟩, 82), (⟨"PurseTraceModel", "here", "()I"⟩, 82), (⟨"PurseTraceModel", "wrongs", "(II)V"⟩, 82), (⟨"PurseTraceModel", "reads", "(I)I"⟩, 82), (⟨"PurseTraceModel", "seesDigit", "()Z"⟩, 82), (⟨"PurseTraceModel", "must", "(I)V"⟩, 82), (⟨"PurseTraceModel", "condition", "()V"⟩, 82)]
theorem lw_r4 : ∀ q ∈ lw_privs_4, lw_okq q := List.forall_mem_cons.mpr ⟨lw_p48, List.forall_mem_cons.mpr ⟨lw_p49, List.forall_mem_cons.mpr ⟨lw_p50, List.forall_mem_cons.mpr ⟨lw_p51, List.forall_mem_cons.mpr ⟨lw_p52, List.forall_mem_cons.mpr ⟨lw_p53, List.forall_mem_cons.mpr ⟨lw_p54, List.forall_mem_cons.mpr ⟨lw_p55, List.forall_mem_cons.mpr ⟨lw_p56, List.forall_mem_cons.mpr ⟨lw_p57, List.forall_mem_cons.mpr ⟨lw_p58, List.forall_mem_cons.mpr ⟨lw_p59, List.forall_mem_cons.mpr ⟨lw_p60, List.forall_mem_cons.mpr ⟨lw_p61, List.forall_mem_cons.mpr ⟨lw_p62, List.forall_mem_cons.mpr ⟨lw_p63, fun _ h => absurd h List.not_mem_nil⟩⟩⟩⟩⟩⟩⟩⟩⟩⟩⟩⟩⟩⟩⟩⟩
theorem lw_p64 : lw_okq (⟨"PurseTraceModel", "opens", "()V"⟩, 82) := ⟨⟨by decide +kernel, by decide +kernel⟩, List.mem_of_getElem? (i := 1092) (by decide +kernel), List.mem_of_getElem? (i := 1455) (by decide +kernel), List.mem_of_getElem? (i := 1456) (by decide +kernel)⟩
theorem lw_p65 : lw_okq (⟨"PurseTraceModel", "puts", "(I)V"⟩, 82) := ⟨⟨by decide +kernel, by decide +kernel⟩, List.mem_of_getElem? (i := 1092) (by decide +kernel), List.mem_of_getElem? (i := 1459) (by decide +kernel), List.mem_of_getElem? (i := 1460) (by decide +kernel)⟩
theorem lw_p66 : lw_okq (⟨"PurseTraceModel", "piece", "()V"⟩, 82) := ⟨⟨by decide +kernel, by decide +kernel⟩, List.mem_of_getElem? (i := 1092) (by decide +kernel), List.mem_of_getElem? (i := 1463) (by decide +kernel), List.mem_of_getElem? (i := 1464) (by decide +kernel)⟩
theorem lw_p67 : lw_okq (⟨"PurseTraceModel", "factor", "()V"⟩, 82) := ⟨⟨by decide +kernel, by decide +kernel⟩, List.mem_of_getElem? (i := 1092) (by decide +kernel), List.mem_of_getElem? (i := 1467) (by decide +kernel), List.mem_of_getElem? (i := 1468) (by decide +kernel)⟩
theorem lw_p68 : lw_okq (⟨"PurseTraceModel", "emit", "(II)V"⟩, 82) := ⟨⟨by decide +kernel, by decide +kernel⟩, List.mem_of_getElem? (i := 1092) (by decide +kernel), List.mem_of_getElem? (i := 1472) (by decide +kernel), List.mem_of_getElem? (i := 1473) (by decide +kernel)⟩
theorem lw_p69 : lw_okq (⟨"PurseTraceModel", "goesOn", "()Z"⟩, 82) := ⟨⟨by decide +kernel, by decide +kernel⟩, List.mem_of_getElem? (i := 1092) (by decide +kernel), List.mem_of_getElem? (i := 1479) (by decide +kernel), List.mem_of_getElem? (i := 1480) (by decide +kernel)⟩
theorem lw_p70 : lw_okq (⟨"PurseTraceModel", "sums", "(Z)V"⟩, 82) := ⟨⟨by decide +kernel, by decide +kernel⟩, List.mem_of_getElem? (i := 1092) (by decide +kernel), List.mem_of_getElem? (i := 1489) (by decide +kernel), List.mem_of_getElem? (i := 1490) (by decide +kernel)⟩
theorem lw_p71 : lw_okq (⟨"PurseTraceModel", "top", "()I"⟩, 82) := ⟨⟨by decide +kernel, by decide +kernel⟩, List.mem_of_getElem? (i := 1092) (by decide +kernel), List.mem_of_getElem? (i := 1493) (by decide +kernel), List.mem_of_getElem? (i := 1494) (by decide +kernel)⟩
theorem lw_p72 : lw_okq (⟨"PurseTraceModel", "ends", "()V"⟩, 82) := ⟨⟨by decide +kernel, by decide +kernel⟩, List.mem_of_getElem? (i := 1092) (by decide +kernel), List.mem_of_getElem? (i := 1500) (by decide +kernel), List.mem_of_getElem? (i := 1501) (by decide +kernel)⟩
theorem lw_p73 : lw_okq (⟨"PurseTraceModel", "goesBehind", "()Z"⟩, 82) := ⟨⟨by decide +kernel, by decide +kernel⟩, List.mem_of_getElem? (i := 1092) (by decide +kernel), List.mem_of_getElem? (i := 1504) (by decide +kernel), List.mem_of_getElem? (i := 1505) (by decide +kernel)⟩
theorem lw_p74 : lw_okq (⟨"PurseTraceModel", "joins", "(Z)V"⟩, 82) := ⟨⟨by decide +kernel, by decide +kernel⟩, List.mem_of_getElem? (i := 1092) (by decide +kernel), List.mem_of_getElem? (i := 1508) (by decide +kernel), List.mem_of_getElem? (i := 1509) (by decide +kernel)⟩
theorem lw_p75 : lw_okq (⟨"PurseTraceModel", "isAsked", "(II)Z"⟩, 82) := ⟨⟨by decide +kernel, by decide +kernel⟩, List.mem_of_getElem? (i := 1092) (by decide +kernel), List.mem_of_getElem? (i := 1520) (by decide +kernel), List.mem_of_getElem? (i := 1521) (by decide +kernel)⟩
theorem lw_p76 : lw_okq (⟨"PurseTraceModel", "plays", "(II)V"⟩, 82) := ⟨⟨by decide +kernel, by decide +kernel⟩, List.mem_of_getElem? (i := 1092) (by decide +kernel), List.mem_of_getElem? (i := 1524) (by decide +kernel), List.mem_of_getElem? (i := 1525) (by decide +kernel)⟩
theorem lw_p77 : lw_okq (⟨"PurseTraceModel", "lists", "(II)V"⟩, 82) := ⟨⟨by decide +kernel, by decide +kernel⟩, List.mem_of_getElem? (i := 1092) (by decide +kernel), List.mem_of_getElem? (i := 1528) (by decide +kernel), List.mem_of_getElem? (i := 1529) (by decide +kernel)⟩
theorem lw_p78 : lw_okq (⟨"PurseTraceModel", "isKnown", "(II)Z"⟩, 82) := ⟨⟨by decide +kernel, by decide +kernel⟩, List.mem_of_getElem? (i := 1092) (by decide +kernel), List.mem_of_getElem? (i := 1532) (by decide +kernel), List.mem_of_getElem? (i := 1533) (by decide +kernel)⟩
theorem lw_p79 : lw_okq (⟨"PurseTraceModel", "isAhead", "(II)Z"⟩, 82) := ⟨⟨by decide +kernel, by decide +kernel⟩, List.mem_of_getElem? (i := 1092) (by decide +kernel), List.mem_of_getElem? (i := 1536) (by decide +kernel), List.mem_of_getElem? (i := 1537) (by decide +kernel)⟩
def lw_privs_5 : List (MethodName × Nat) := [(⟨"PurseTraceModel", "opens", "()V"⟩, 82), (⟨"PurseTraceModel", "puts", "(I)V"⟩, 82), (⟨"PurseTraceModel", "piece", "()V"⟩, 82), (⟨"PurseTraceModel", "factor", "()V"⟩, 82), (⟨"PurseTraceModel", "emit", "(II)V"⟩, 82), (⟨"PurseTraceModel", "goesOn", "()Z"⟩, 82), (⟨"PurseTraceModel", "sums", "(Z)V"⟩, 82), (⟨"PurseTraceModel", "top", "()I"⟩, 82), (⟨"PurseTraceModel", "ends", "()V"⟩, 82), (⟨"PurseTraceModel", "goesBehind", "()Z"⟩, 82), (⟨"PurseTraceModel", "joins", "(Z)V"⟩, 82), (⟨"PurseTraceModel", "isAsked", "(II)Z"⟩, 82), (⟨"PurseTraceModel", "plays", "(II)V"⟩, 82), (⟨"PurseTraceModel", "lists", "(II)V"⟩, 82), (⟨"PurseTraceModel", "isKnown", "(II)Z"⟩, 82), (⟨"PurseTraceModel", "isAhead", "(II)Z"⟩, 82)]
theorem lw_r5 : ∀ q ∈ lw_privs_5, lw_okq q := List.forall_mem_cons.mpr ⟨lw_p64, List.forall_mem_cons.mpr ⟨lw_p65, List.forall_mem_cons.mpr ⟨lw_p66, List.forall_mem_cons.mpr ⟨lw_p67, List.forall_mem_cons.mpr ⟨lw_p68, List.forall_mem_cons.mpr ⟨lw_p69, List.forall_mem_cons.mpr ⟨lw_p70, List.forall_mem_cons.mpr ⟨lw_p71, List.forall_mem_cons.mpr ⟨lw_p72, List.forall_mem_cons.mpr ⟨lw_p73, List.forall_mem_cons.mpr ⟨lw_p74, List.forall_mem_cons.mpr ⟨lw_p75, List.forall_mem_cons.mpr ⟨lw_p76, List.forall_mem_cons.mpr ⟨lw_p77, List.forall_mem_cons.mpr ⟨lw_p78, List.forall_mem_cons.mpr ⟨lw_p79, fun _ h => absurd h List.not_mem_nil⟩⟩⟩⟩⟩⟩⟩⟩⟩⟩⟩⟩⟩⟩⟩⟩
theorem lw_p80 : lw_okq (⟨"PurseTraceModel", "empties", "()V"⟩, 82) := ⟨⟨by decide +kernel, by decide +kernel⟩, List.mem_of_getElem? (i := 1092) (by decide +kernel), List.mem_of_getElem? (i := 1540) (by decide +kernel), List.mem_of_getElem? (i := 1541) (by decide +kernel)⟩
theorem lw_p81 : lw_okq (⟨"PurseTraceModel", "acts", "(II)Z"⟩, 82) := ⟨⟨by decide +kernel, by decide +kernel⟩, List.mem_of_getElem? (i := 1092) (by decide +kernel), List.mem_of_getElem? (i := 1544) (by decide +kernel), List.mem_of_getElem? (i := 1545) (by decide +kernel)⟩
theorem lw_p82 : lw_okq (⟨"PurseTraceModel", "lays", "(III)V"⟩, 82) := ⟨⟨by decide +kernel, by decide +kernel⟩, List.mem_of_getElem? (i := 1092) (by decide +kernel), List.mem_of_getElem? (i := 1548) (by decide +kernel), List.mem_of_getElem? (i := 1549) (by decide +kernel)⟩
theorem lw_p83 : lw_okq (⟨"PurseTraceModel", "sells", "(II)V"⟩, 82) := ⟨⟨by decide +kernel, by decide +kernel⟩, List.mem_of_getElem? (i := 1092) (by decide +kernel), List.mem_of_getElem? (i := 1552) (by decide +kernel), List.mem_of_getElem? (i := 1553) (by decide +kernel)⟩
theorem lw_p84 : lw_okq (⟨"PurseTraceModel", "clauseOf", "(IIII)I"⟩, 82) := ⟨⟨by decide +kernel, by decide +kernel⟩, List.mem_of_getElem? (i := 1092) (by decide +kernel), List.mem_of_getElem? (i := 1556) (by decide +kernel), List.mem_of_getElem? (i := 1557) (by decide +kernel)⟩
theorem lw_p85 : lw_okq (⟨"PurseTraceModel", "isAmong", "(IIII)Z"⟩, 82) := ⟨⟨by decide +kernel, by decide +kernel⟩, List.mem_of_getElem? (i := 1092) (by decide +kernel), List.mem_of_getElem? (i := 1560) (by decide +kernel), List.mem_of_getElem? (i := 1561) (by decide +kernel)⟩
theorem lw_p86 : lw_okq (⟨"PurseTraceModel", "holds", "(II)Z"⟩, 82) := ⟨⟨by decide +kernel, by decide +kernel⟩, List.mem_of_getElem? (i := 1092) (by decide +kernel), List.mem_of_getElem? (i := 1564) (by decide +kernel), List.mem_of_getElem? (i := 1565) (by decide +kernel)⟩
theorem lw_p87 : lw_okq (⟨"PurseTraceModel", "does", "(II)V"⟩, 82) := ⟨⟨by decide +kernel, by decide +kernel⟩, List.mem_of_getElem? (i := 1092) (by decide +kernel), List.mem_of_getElem? (i := 1568) (by decide +kernel), List.mem_of_getElem? (i := 1569) (by decide +kernel)⟩
theorem lw_p88 : lw_okq (⟨"PurseTraceModel", "valueOf", "(II)I"⟩, 82) := ⟨⟨by decide +kernel, by decide +kernel⟩, List.mem_of_getElem? (i := 1092) (by decide +kernel), List.mem_of_getElem? (i := 1575) (by decide +kernel), List.mem_of_getElem? (i := 1576) (by decide +kernel)⟩
theorem lw_p89 : lw_okq (⟨"PurseTraceModel", "allOf", "(I)I"⟩, 82) := ⟨⟨by decide +kernel, by decide +kernel⟩, List.mem_of_getElem? (i := 1092) (by decide +kernel), List.mem_of_getElem? (i := 1579) (by decide +kernel), List.mem_of_getElem? (i := 1580) (by decide +kernel)⟩
theorem lw_p90 : lw_okq (⟨"PurseTraceModel", "of", "(II)I"⟩, 82) := ⟨⟨by decide +kernel, by decide +kernel⟩, List.mem_of_getElem? (i := 1092) (by decide +kernel), List.mem_of_getElem? (i := 1583) (by decide +kernel), List.mem_of_getElem? (i := 1584) (by decide +kernel)⟩
theorem lw_p91 : lw_okq (⟨"PurseTraceModel", "some", "(I)I"⟩, 82) := ⟨⟨by decide +kernel, by decide +kernel⟩, List.mem_of_getElem? (i := 1092) (by decide +kernel), List.mem_of_getElem? (i := 1587) (by decide +kernel), List.mem_of_getElem? (i := 1588) (by decide +kernel)⟩
theorem lw_p92 : lw_okq (⟨"PurseTraceModel", "partsOut", "(III)V"⟩, 82) := ⟨⟨by decide +kernel, by decide +kernel⟩, List.mem_of_getElem? (i := 1092) (by decide +kernel), List.mem_of_getElem? (i := 1591) (by decide +kernel), List.mem_of_getElem? (i := 1592) (by decide +kernel)⟩
theorem lw_p93 : lw_okq (⟨"PurseTraceModel", "makesGood", "(I)V"⟩, 82) := ⟨⟨by decide +kernel, by decide +kernel⟩, List.mem_of_getElem? (i := 1092) (by decide +kernel), List.mem_of_getElem? (i := 1595) (by decide +kernel), List.mem_of_getElem? (i := 1596) (by decide +kernel)⟩
theorem lw_p94 : lw_okq (⟨"PurseTraceModel", "wayOf", "(II)I"⟩, 82) := ⟨⟨by decide +kernel, by decide +kernel⟩, List.mem_of_getElem? (i := 1092) (by decide +kernel), List.mem_of_getElem? (i := 1599) (by decide +kernel), List.mem_of_getElem? (i := 1600) (by decide +kernel)⟩
theorem lw_p95 : lw_okq (⟨"PurseTraceModel", "takesOut", "(III)V"⟩, 82) := ⟨⟨by decide +kernel, by decide +kernel⟩, List.mem_of_getElem? (i := 1092) (by decide +kernel), List.mem_of_getElem? (i := 1603) (by decide +kernel), List.mem_of_getElem? (i := 1604) (by decide +kernel)⟩
def lw_privs_6 : List (MethodName × Nat) := [(⟨"PurseTraceModel", "empties", "()V"⟩, 82), (⟨"PurseTraceModel", "acts", "(II)Z"⟩, 82), (⟨"PurseTraceModel", "lays", "(III)V"⟩, 82), (⟨"PurseTraceModel", "sells", "(II)V"⟩, 82), (⟨"PurseTraceModel", "clauseOf", "(IIII)I"⟩, 82), (⟨"PurseTraceModel", "isAmong", "(IIII)Z"⟩, 82), (⟨"PurseTraceModel", "holds", "(II)Z"⟩, 82), (⟨"PurseTraceModel", "does", "(II)V"⟩, 82), (⟨"PurseTraceModel", "valueOf", "(II)I"⟩, 82), (⟨"PurseTraceModel", "allOf", "(I)I"⟩, 82), (⟨"PurseTraceModel", "of", "(II)I"⟩, 82), (⟨"PurseTraceModel", "some", "(I)I"⟩, 82), (⟨"PurseTraceModel", "partsOut", "(III)V"⟩, 82), (⟨"PurseTraceModel", "makesGood", "(I)V"⟩, 82), (⟨"PurseTraceModel", "wayOf", "(II)I"⟩, 82), (⟨"PurseTraceModel", "takesOut", "(III)V"⟩, 82)]
theorem lw_r6 : ∀ q ∈ lw_privs_6, lw_okq q := List.forall_mem_cons.mpr ⟨lw_p80, List.forall_mem_cons.mpr ⟨lw_p81, List.forall_mem_cons.mpr ⟨lw_p82, List.forall_mem_cons.mpr ⟨lw_p83, List.forall_mem_cons.mpr ⟨lw_p84, List.forall_mem_cons.mpr ⟨lw_p85, List.forall_mem_cons.mpr ⟨lw_p86, List.forall_mem_cons.mpr ⟨lw_p87, List.forall_mem_cons.mpr ⟨lw_p88, List.forall_mem_cons.mpr ⟨lw_p89, List.forall_mem_cons.mpr ⟨lw_p90, List.forall_mem_cons.mpr ⟨lw_p91, List.forall_mem_cons.mpr ⟨lw_p92, List.forall_mem_cons.mpr ⟨lw_p93, List.forall_mem_cons.mpr ⟨lw_p94, List.forall_mem_cons.mpr ⟨lw_p95, fun _ h => absurd h List.not_mem_nil⟩⟩⟩⟩⟩⟩⟩⟩⟩⟩⟩⟩⟩⟩⟩⟩
theorem lw_p96 : lw_okq (⟨"PurseTraceModel", "takesOf", "(IIZI)I"⟩, 82) := ⟨⟨by decide +kernel, by decide +kernel⟩, List.mem_of_getElem? (i := 1092) (by decide +kernel), List.mem_of_getElem? (i := 1607) (by decide +kernel), List.mem_of_getElem? (i := 1608) (by decide +kernel)⟩
theorem lw_p97 : lw_okq (⟨"PurseTraceModel", "takesPart", "(II)I"⟩, 82) := ⟨⟨by decide +kernel, by decide +kernel⟩, List.mem_of_getElem? (i := 1092) (by decide +kernel), List.mem_of_getElem? (i := 1611) (by decide +kernel), List.mem_of_getElem? (i := 1612) (by decide +kernel)⟩
theorem lw_p98 : lw_okq (⟨"PurseTraceModel", "takes", "(II)V"⟩, 82) := ⟨⟨by decide +kernel, by decide +kernel⟩, List.mem_of_getElem? (i := 1092) (by decide +kernel), List.mem_of_getElem? (i := 1615) (by decide +kernel), List.mem_of_getElem? (i := 1616) (by decide +kernel)⟩
theorem lw_p99 : lw_okq (⟨"PurseTraceModel", "takesByParts", "(II)V"⟩, 82) := ⟨⟨by decide +kernel, by decide +kernel⟩, List.mem_of_getElem? (i := 1092) (by decide +kernel), List.mem_of_getElem? (i := 1619) (by decide +kernel), List.mem_of_getElem? (i := 1620) (by decide +kernel)⟩
theorem lw_p100 : lw_okq (⟨"PurseTraceModel", "closes", "(I)V"⟩, 82) := ⟨⟨by decide +kernel, by decide +kernel⟩, List.mem_of_getElem? (i := 1092) (by decide +kernel), List.mem_of_getElem? (i := 1623) (by decide +kernel), List.mem_of_getElem? (i := 1624) (by decide +kernel)⟩
theorem lw_p101 : lw_okq (⟨"PurseTraceModel", "moves", "(IZI)V"⟩, 82) := ⟨⟨by decide +kernel, by decide +kernel⟩, List.mem_of_getElem? (i := 1092) (by decide +kernel), List.mem_of_getElem? (i := 1627) (by decide +kernel), List.mem_of_getElem? (i := 1628) (by decide +kernel)⟩
theorem lw_p102 : lw_okq (⟨"PurseTraceModel", "knew", "(IIII)Z"⟩, 82) := ⟨⟨by decide +kernel, by decide +kernel⟩, List.mem_of_getElem? (i := 1092) (by decide +kernel), List.mem_of_getElem? (i := 1631) (by decide +kernel), List.mem_of_getElem? (i := 1632) (by decide +kernel)⟩
theorem lw_p103 : lw_okq (⟨"PurseTraceModel", "spends", "(I)V"⟩, 82) := ⟨⟨by decide +kernel, by decide +kernel⟩, List.mem_of_getElem? (i := 1092) (by decide +kernel), List.mem_of_getElem? (i := 1635) (by decide +kernel), List.mem_of_getElem? (i := 1636) (by decide +kernel)⟩
theorem lw_p104 : lw_okq (⟨"PurseTraceModel", "buys", "(I)V"⟩, 82) := ⟨⟨by decide +kernel, by decide +kernel⟩, List.mem_of_getElem? (i := 1092) (by decide +kernel), List.mem_of_getElem? (i := 1639) (by decide +kernel), List.mem_of_getElem? (i := 1640) (by decide +kernel)⟩
theorem lw_p105 : lw_okq (⟨"PurseTraceModel", "playsTo", "(II)Z"⟩, 82) := ⟨⟨by decide +kernel, by decide +kernel⟩, List.mem_of_getElem? (i := 1092) (by decide +kernel), List.mem_of_getElem? (i := 1659) (by decide +kernel), List.mem_of_getElem? (i := 1660) (by decide +kernel)⟩
theorem lw_p106 : lw_okq (⟨"PurseTraceModel", "takesAny", "(I)Z"⟩, 82) := ⟨⟨by decide +kernel, by decide +kernel⟩, List.mem_of_getElem? (i := 1092) (by decide +kernel), List.mem_of_getElem? (i := 1663) (by decide +kernel), List.mem_of_getElem? (i := 1664) (by decide +kernel)⟩
theorem lw_p107 : lw_okq (⟨"PurseTraceModel", "mayBe", "(I)Z"⟩, 82) := ⟨⟨by decide +kernel, by decide +kernel⟩, List.mem_of_getElem? (i := 1092) (by decide +kernel), List.mem_of_getElem? (i := 1680) (by decide +kernel), List.mem_of_getElem? (i := 1681) (by decide +kernel)⟩
theorem lw_p108 : lw_okq (⟨"PurseTraceModel", "playsOrder", "(IIII)V"⟩, 82) := ⟨⟨by decide +kernel, by decide +kernel⟩, List.mem_of_getElem? (i := 1092) (by decide +kernel), List.mem_of_getElem? (i := 1684) (by decide +kernel), List.mem_of_getElem? (i := 1685) (by decide +kernel)⟩
theorem lw_p109 : lw_okq (⟨"PurseTraceModel", "turns", "(I)Z"⟩, 82) := ⟨⟨by decide +kernel, by decide +kernel⟩, List.mem_of_getElem? (i := 1092) (by decide +kernel), List.mem_of_getElem? (i := 1688) (by decide +kernel), List.mem_of_getElem? (i := 1689) (by decide +kernel)⟩
theorem lw_p110 : lw_okq (⟨"PurseTraceModel", "choosing", "()I"⟩, 82) := ⟨⟨by decide +kernel, by decide +kernel⟩, List.mem_of_getElem? (i := 1092) (by decide +kernel), List.mem_of_getElem? (i := 1705) (by decide +kernel), List.mem_of_getElem? (i := 1706) (by decide +kernel)⟩
theorem lw_p111 : lw_okq (⟨"PurseTraceModel", "isBarred", "(IIII)Z"⟩, 82) := ⟨⟨by decide +kernel, by decide +kernel⟩, List.mem_of_getElem? (i := 1092) (by decide +kernel), List.mem_of_getElem? (i := 1713) (by decide +kernel), List.mem_of_getElem? (i := 1714) (by decide +kernel)⟩
def lw_privs_7 : List (MethodName × Nat) := [(⟨"PurseTraceModel", "takesOf", "(IIZI)I"⟩, 82), (⟨"PurseTraceModel", "takesPart", "(II)I"⟩, 82), (⟨"PurseTraceModel", "takes", "(II)V"⟩, 82), (⟨"PurseTraceModel", "takesByParts", "(II)V"⟩, 82), (⟨"PurseTraceModel", "closes", "(I)V"⟩, 82), (⟨"PurseTraceModel", "moves", "(IZI)V"⟩, 82), (⟨"PurseTraceModel", "knew", "(IIII)Z"⟩, 82), (⟨"PurseTraceModel", "spends", "(I)V"⟩, 82), (⟨"PurseTraceModel", "buys", "(I)V"⟩, 82), (⟨"PurseTraceModel", "playsTo", "(II)Z"⟩, 82), (⟨"PurseTraceModel", "takesAny", "(I)Z"⟩, 82), (⟨"PurseTraceModel", "mayBe", "(I)Z"⟩, 82), (⟨"PurseTraceModel", "playsOrder", "(IIII)V"⟩, 82), (⟨"PurseTraceModel", "turns", "(I)Z"⟩, 82), (⟨"PurseTraceModel", "choosing", "()I"⟩, 82), (⟨"PurseTraceModel", "isBarred", "(IIII)Z"⟩, 82)]
theorem lw_r7 : ∀ q ∈ lw_privs_7, lw_okq q := List.forall_mem_cons.mpr ⟨lw_p96, List.forall_mem_cons.mpr ⟨lw_p97, List.forall_mem_cons.mpr ⟨lw_p98, List.forall_mem_cons.mpr ⟨lw_p99, List.forall_mem_cons.mpr ⟨lw_p100, List.forall_mem_cons.mpr ⟨lw_p101, List.forall_mem_cons.mpr ⟨lw_p102, List.forall_mem_cons.mpr ⟨lw_p103, List.forall_mem_cons.mpr ⟨lw_p104, List.forall_mem_cons.mpr ⟨lw_p105, List.forall_mem_cons.mpr ⟨lw_p106, List.forall_mem_cons.mpr ⟨lw_p107, List.forall_mem_cons.mpr ⟨lw_p108, List.forall_mem_cons.mpr ⟨lw_p109, List.forall_mem_cons.mpr ⟨lw_p110, List.forall_mem_cons.mpr ⟨lw_p111, fun _ h => absurd h List.not_mem_nil⟩⟩⟩⟩⟩⟩⟩⟩⟩⟩⟩⟩⟩⟩⟩⟩
theorem lw_p112 : lw_okq (⟨"PurseTraceModel", "chooses", "(I)Z"⟩, 82) := ⟨⟨by decide +kernel, by decide +kernel⟩, List.mem_of_getElem? (i := 1092) (by decide +kernel), List.mem_of_getElem? (i := 1721) (by decide +kernel), List.mem_of_getElem? (i := 1722) (by decide +kernel)⟩
theorem lw_p113 : lw_okq (⟨"PurseTraceModel", "rowsOf", "(I)I"⟩, 82) := ⟨⟨by decide +kernel, by decide +kernel⟩, List.mem_of_getElem? (i := 1092) (by decide +kernel), List.mem_of_getElem? (i := 1725) (by decide +kernel), List.mem_of_getElem? (i := 1726) (by decide +kernel)⟩
theorem lw_p114 : lw_okq (⟨"PurseTraceModel", "laid", "(I)Z"⟩, 82) := ⟨⟨by decide +kernel, by decide +kernel⟩, List.mem_of_getElem? (i := 1092) (by decide +kernel), List.mem_of_getElem? (i := 1729) (by decide +kernel), List.mem_of_getElem? (i := 1730) (by decide +kernel)⟩
theorem lw_p115 : lw_okq (⟨"PurseTraceModel", "worthOf", "(I)I"⟩, 82) := ⟨⟨by decide +kernel, by decide +kernel⟩, List.mem_of_getElem? (i := 1092) (by decide +kernel), List.mem_of_getElem? (i := 1736) (by decide +kernel), List.mem_of_getElem? (i := 1737) (by decide +kernel)⟩
theorem lw_p116 : lw_okq (⟨"PurseTraceModel", "isLess", "(III)Z"⟩, 82) := ⟨⟨by decide +kernel, by decide +kernel⟩, List.mem_of_getElem? (i := 1092) (by decide +kernel), List.mem_of_getElem? (i := 1740) (by decide +kernel), List.mem_of_getElem? (i := 1741) (by decide +kernel)⟩
theorem lw_p117 : lw_okq (⟨"PurseTraceModel", "unlaid", "()V"⟩, 82) := ⟨⟨by decide +kernel, by decide +kernel⟩, List.mem_of_getElem? (i := 1092) (by decide +kernel), List.mem_of_getElem? (i := 1747) (by decide +kernel), List.mem_of_getElem? (i := 1748) (by decide +kernel)⟩
theorem lw_p118 : lw_okq (⟨"PurseTraceModel", "pays", "(III)I"⟩, 82) := ⟨⟨by decide +kernel, by decide +kernel⟩, List.mem_of_getElem? (i := 1092) (by decide +kernel), List.mem_of_getElem? (i := 1767) (by decide +kernel), List.mem_of_getElem? (i := 1768) (by decide +kernel)⟩
theorem lw_p119 : lw_okq (⟨"PurseTraceModel", "isOf", "(III)Z"⟩, 82) := ⟨⟨by decide +kernel, by decide +kernel⟩, List.mem_of_getElem? (i := 1092) (by decide +kernel), List.mem_of_getElem? (i := 1771) (by decide +kernel), List.mem_of_getElem? (i := 1772) (by decide +kernel)⟩
theorem lw_p120 : lw_okq (⟨"PurseTraceModel", "numberAt", "(I)I"⟩, 82) := ⟨⟨by decide +kernel, by decide +kernel⟩, List.mem_of_getElem? (i := 1092) (by decide +kernel), List.mem_of_getElem? (i := 1779) (by decide +kernel), List.mem_of_getElem? (i := 1780) (by decide +kernel)⟩
def lw_privs_8 : List (MethodName × Nat) := [(⟨"PurseTraceModel", "chooses", "(I)Z"⟩, 82), (⟨"PurseTraceModel", "rowsOf", "(I)I"⟩, 82), (⟨"PurseTraceModel", "laid", "(I)Z"⟩, 82), (⟨"PurseTraceModel", "worthOf", "(I)I"⟩, 82), (⟨"PurseTraceModel", "isLess", "(III)Z"⟩, 82), (⟨"PurseTraceModel", "unlaid", "()V"⟩, 82), (⟨"PurseTraceModel", "pays", "(III)I"⟩, 82), (⟨"PurseTraceModel", "isOf", "(III)Z"⟩, 82), (⟨"PurseTraceModel", "numberAt", "(I)I"⟩, 82)]
theorem lw_r8 : ∀ q ∈ lw_privs_8, lw_okq q := List.forall_mem_cons.mpr ⟨lw_p112, List.forall_mem_cons.mpr ⟨lw_p113, List.forall_mem_cons.mpr ⟨lw_p114, List.forall_mem_cons.mpr ⟨lw_p115, List.forall_mem_cons.mpr ⟨lw_p116, List.forall_mem_cons.mpr ⟨lw_p117, List.forall_mem_cons.mpr ⟨lw_p118, List.forall_mem_cons.mpr ⟨lw_p119, List.forall_mem_cons.mpr ⟨lw_p120, fun _ h => absurd h List.not_mem_nil⟩⟩⟩⟩⟩⟩⟩⟩⟩
def lw_privs : List (MethodName × Nat) := lw_privs_1 ++ (lw_privs_2 ++ (lw_privs_3 ++ (lw_privs_4 ++ (lw_privs_5 ++ (lw_privs_6 ++ (lw_privs_7 ++ (lw_privs_8)))))))
def lw_tbl : List Cond := k2_sels lw_privs ++ tables_1
theorem lw_privs_ok : ∀ q ∈ lw_privs, lw_okq q := by
  show ∀ q ∈ lw_privs_1 ++ (lw_privs_2 ++ (lw_privs_3 ++ (lw_privs_4 ++ (lw_privs_5 ++ (lw_privs_6 ++ (lw_privs_7 ++ (lw_privs_8))))))), lw_okq q
  exact List.forall_mem_append.mpr ⟨lw_r1, List.forall_mem_append.mpr ⟨lw_r2, List.forall_mem_append.mpr ⟨lw_r3, List.forall_mem_append.mpr ⟨lw_r4, List.forall_mem_append.mpr ⟨lw_r5, List.forall_mem_append.mpr ⟨lw_r6, List.forall_mem_append.mpr ⟨lw_r7, lw_r8⟩⟩⟩⟩⟩⟩⟩
-- ===== end of PART A; then your names; then what follows =====
end
section
/-! names of classes, fields and methods: as the claim's printed NAMES has them (fields in the order of the slots), and the methods' table -/
def RX0 : String := "PurseTrace$Choices"
def TX0 : u_T := fun k => match k with
  | 0 => ("PurseTrace$Choices", "purses", "LPurseTrace$Purses;", true)
  | 1 => ("PurseTrace$Choices", "lines", "LPurseTrace$Lines;", true)
  | 2 => ("PurseTrace$Choices", "replay", "LPurseTrace$Replay;", true)
  | 3 => ("PurseTrace$Choices", "ways", "[I", true)
  | 4 => ("PurseTrace$Choices", "choosing", "I", false)
  | 5 => ("PurseTrace$Choices", "barred", "[J", true)
  | 6 => ("PurseTrace$Choices", "bars", "I", false)
  | 7 => ("PurseTrace$Choices", "open", "[I", true)
  | 8 => ("PurseTrace$Choices", "row", "[I", true)
  | 9 => ("PurseTrace$Choices", "start", "I", false)
  | 10 => ("PurseTrace$Choices", "bestWorth", "I", false)
  | _ => ("PurseTrace$Choices", "bestRow", "[I", true)
def tyX0 : Nat → FieldType := fun k => match k with
  | 0 => .object "PurseTrace$Purses"
  | 1 => .object "PurseTrace$Lines"
  | 2 => .object "PurseTrace$Replay"
  | 3 => .array .int
  | 4 => .int
  | 5 => .array .long
  | 6 => .int
  | 7 => .array .int
  | 8 => .array .int
  | 9 => .int
  | 10 => .int
  | _ => .array .int
abbrev wsX00 : List Cond := u_ws RX0 TX0 12
theorem nmX0 : ∀ a, a < 12 → ∀ b, b < 12 → a ≠ b → (TX0 a).2.1 ≠ (TX0 b).2.1 := by decide +kernel
theorem tyX0_ok : ∀ k, k < 12 → parseFieldDescriptor (TX0 k).2.2.1 = some (tyX0 k) := by decide +kernel
def RX1 : String := "PurseTrace$Debts"
def TX1 : u_T := fun k => match k with
  | 0 => ("PurseTrace$Debts", "debtor", "[I", true)
  | 1 => ("PurseTrace$Debts", "sum", "[I", true)
  | 2 => ("PurseTrace$Debts", "rank", "[I", true)
  | 3 => ("PurseTrace$Debts", "size", "I", false)
  | 4 => ("PurseTrace$Debts", "weights", "[I", true)
  | _ => ("PurseTrace$Debts", "parts", "[I", true)
def tyX1 : Nat → FieldType := fun k => match k with
  | 0 => .array .int
  | 1 => .array .int
  | 2 => .array .int
  | 3 => .int
  | 4 => .array .int
  | _ => .array .int
abbrev wsX10 : List Cond := u_ws RX1 TX1 6
theorem nmX1 : ∀ a, a < 6 → ∀ b, b < 6 → a ≠ b → (TX1 a).2.1 ≠ (TX1 b).2.1 := by decide +kernel
theorem tyX1_ok : ∀ k, k < 6 → parseFieldDescriptor (TX1 k).2.2.1 = some (tyX1 k) := by decide +kernel
def RX2 : String := "PurseTrace$Knowing"
def TX2 : u_T := fun k => match k with
  | 0 => ("PurseTrace$Knowing", "who", "[I", true)
  | 1 => ("PurseTrace$Knowing", "ofWhom", "[I", true)
  | 2 => ("PurseTrace$Knowing", "since", "[I", true)
  | 3 => ("PurseTrace$Knowing", "told", "[I", true)
  | _ => ("PurseTrace$Knowing", "size", "I", false)
def tyX2 : Nat → FieldType := fun k => match k with
  | 0 => .array .int
  | 1 => .array .int
  | 2 => .array .int
  | 3 => .array .int
  | _ => .int
abbrev wsX20 : List Cond := u_ws RX2 TX2 5
theorem nmX2 : ∀ a, a < 5 → ∀ b, b < 5 → a ≠ b → (TX2 a).2.1 ≠ (TX2 b).2.1 := by decide +kernel
theorem tyX2_ok : ∀ k, k < 5 → parseFieldDescriptor (TX2 k).2.2.1 = some (tyX2 k) := by decide +kernel
def RX3 : String := "PurseTrace$Lines"
def TX3 : u_T := fun k => match k with
  | 0 => ("PurseTrace$Lines", "kind", "[I", true)
  | 1 => ("PurseTrace$Lines", "purse", "[I", true)
  | 2 => ("PurseTrace$Lines", "other", "[I", true)
  | 3 => ("PurseTrace$Lines", "sum", "[I", true)
  | 4 => ("PurseTrace$Lines", "gave", "[Z", true)
  | 5 => ("PurseTrace$Lines", "day", "[I", true)
  | 6 => ("PurseTrace$Lines", "from", "[I", true)
  | 7 => ("PurseTrace$Lines", "to", "[I", true)
  | 8 => ("PurseTrace$Lines", "told", "[I", true)
  | 9 => ("PurseTrace$Lines", "struck", "[I", true)
  | 10 => ("PurseTrace$Lines", "sorted", "[I", true)
  | _ => ("PurseTrace$Lines", "size", "I", false)
def tyX3 : Nat → FieldType := fun k => match k with
  | 0 => .array .int
  | 1 => .array .int
  | 2 => .array .int
  | 3 => .array .int
  | 4 => .array .boolean
  | 5 => .array .int
  | 6 => .array .int
  | 7 => .array .int
  | 8 => .array .int
  | 9 => .array .int
  | 10 => .array .int
  | _ => .int
abbrev wsX30 : List Cond := u_ws RX3 TX3 12
theorem nmX3 : ∀ a, a < 12 → ∀ b, b < 12 → a ≠ b → (TX3 a).2.1 ≠ (TX3 b).2.1 := by decide +kernel
theorem tyX3_ok : ∀ k, k < 12 → parseFieldDescriptor (TX3 k).2.2.1 = some (tyX3 k) := by decide +kernel
def RX4 : String := "PurseTrace$Orders"
def TX4 : u_T := fun k => match k with
  | 0 => ("PurseTrace$Orders", "lines", "LPurseTrace$Lines;", true)
  | 1 => ("PurseTrace$Orders", "replay", "LPurseTrace$Replay;", true)
  | 2 => ("PurseTrace$Orders", "start", "I", false)
  | 3 => ("PurseTrace$Orders", "end", "I", false)
  | 4 => ("PurseTrace$Orders", "least", "I", false)
  | 5 => ("PurseTrace$Orders", "most", "I", false)
  | _ => ("PurseTrace$Orders", "lawful", "I", false)
def tyX4 : Nat → FieldType := fun k => match k with
  | 0 => .object "PurseTrace$Lines"
  | 1 => .object "PurseTrace$Replay"
  | 2 => .int
  | 3 => .int
  | 4 => .int
  | 5 => .int
  | _ => .int
abbrev wsX40 : List Cond := u_ws RX4 TX4 7
theorem nmX4 : ∀ a, a < 7 → ∀ b, b < 7 → a ≠ b → (TX4 a).2.1 ≠ (TX4 b).2.1 := by decide +kernel
theorem tyX4_ok : ∀ k, k < 7 → parseFieldDescriptor (TX4 k).2.2.1 = some (tyX4 k) := by decide +kernel
def RX5 : String := "PurseTrace$Purses"
def TX5 : u_T := fun k => match k with
  | 0 => ("PurseTrace$Purses", "holder", "[I", true)
  | 1 => ("PurseTrace$Purses", "land", "[I", true)
  | _ => ("PurseTrace$Purses", "size", "I", false)
def tyX5 : Nat → FieldType := fun k => match k with
  | 0 => .array .int
  | 1 => .array .int
  | _ => .int
abbrev wsX50 : List Cond := u_ws RX5 TX5 3
theorem nmX5 : ∀ a, a < 3 → ∀ b, b < 3 → a ≠ b → (TX5 a).2.1 ≠ (TX5 b).2.1 := by decide +kernel
theorem tyX5_ok : ∀ k, k < 3 → parseFieldDescriptor (TX5 k).2.2.1 = some (tyX5 k) := by decide +kernel
def RX6 : String := "PurseTrace$Replay"
def TX6 : u_T := fun k => match k with
  | 0 => ("PurseTrace$Replay", "purses", "LPurseTrace$Purses;", true)
  | 1 => ("PurseTrace$Replay", "lines", "LPurseTrace$Lines;", true)
  | 2 => ("PurseTrace$Replay", "book", "LPurseTrace$RuleBook;", true)
  | 3 => ("PurseTrace$Replay", "knowing", "LPurseTrace$Knowing;", true)
  | 4 => ("PurseTrace$Replay", "state", "LPurseTrace$State;", true)
  | 5 => ("PurseTrace$Replay", "kept", "LPurseTrace$State;", true)
  | 6 => ("PurseTrace$Replay", "order", "[I", true)
  | 7 => ("PurseTrace$Replay", "listed", "I", false)
  | 8 => ("PurseTrace$Replay", "forced", "[I", true)
  | 9 => ("PurseTrace$Replay", "known", "I", false)
  | 10 => ("PurseTrace$Replay", "wayTaken", "I", false)
  | 11 => ("PurseTrace$Replay", "rises", "Z", false)
  | 12 => ("PurseTrace$Replay", "ends", "Z", false)
  | 13 => ("PurseTrace$Replay", "failed", "Z", false)
  | 14 => ("PurseTrace$Replay", "failures", "I", false)
  | 15 => ("PurseTrace$Replay", "weights", "[I", true)
  | _ => ("PurseTrace$Replay", "gains", "[I", true)
def tyX6 : Nat → FieldType := fun k => match k with
  | 0 => .object "PurseTrace$Purses"
  | 1 => .object "PurseTrace$Lines"
  | 2 => .object "PurseTrace$RuleBook"
  | 3 => .object "PurseTrace$Knowing"
  | 4 => .object "PurseTrace$State"
  | 5 => .object "PurseTrace$State"
  | 6 => .array .int
  | 7 => .int
  | 8 => .array .int
  | 9 => .int
  | 10 => .int
  | 11 => .boolean
  | 12 => .boolean
  | 13 => .boolean
  | 14 => .int
  | 15 => .array .int
  | _ => .array .int
abbrev wsX60 : List Cond := u_ws RX6 TX6 17
theorem nmX6 : ∀ a, a < 17 → ∀ b, b < 17 → a ≠ b → (TX6 a).2.1 ≠ (TX6 b).2.1 := by decide +kernel
theorem tyX6_ok : ∀ k, k < 17 → parseFieldDescriptor (TX6 k).2.2.1 = some (tyX6 k) := by decide +kernel
def RX7 : String := "PurseTrace$RuleBook"
def TX7 : u_T := fun k => match k with
  | 0 => ("PurseTrace$RuleBook", "land", "[I", true)
  | 1 => ("PurseTrace$RuleBook", "from", "[I", true)
  | 2 => ("PurseTrace$RuleBook", "to", "[I", true)
  | 3 => ("PurseTrace$RuleBook", "told", "[I", true)
  | 4 => ("PurseTrace$RuleBook", "clauses", "[I", true)
  | 5 => ("PurseTrace$RuleBook", "letter", "[I", true)
  | 6 => ("PurseTrace$RuleBook", "first", "[I", true)
  | 7 => ("PurseTrace$RuleBook", "second", "[I", true)
  | 8 => ("PurseTrace$RuleBook", "codeStart", "[I", true)
  | 9 => ("PurseTrace$RuleBook", "codeEnd", "[I", true)
  | 10 => ("PurseTrace$RuleBook", "code", "[I", true)
  | 11 => ("PurseTrace$RuleBook", "struck", "[I", true)
  | 12 => ("PurseTrace$RuleBook", "stack", "[J", true)
  | 13 => ("PurseTrace$RuleBook", "facts", "[J", true)
  | _ => ("PurseTrace$RuleBook", "size", "I", false)
def tyX7 : Nat → FieldType := fun k => match k with
  | 0 => .array .int
  | 1 => .array .int
  | 2 => .array .int
  | 3 => .array .int
  | 4 => .array .int
  | 5 => .array .int
  | 6 => .array .int
  | 7 => .array .int
  | 8 => .array .int
  | 9 => .array .int
  | 10 => .array .int
  | 11 => .array .int
  | 12 => .array .long
  | 13 => .array .long
  | _ => .int
abbrev wsX70 : List Cond := u_ws RX7 TX7 15
theorem nmX7 : ∀ a, a < 15 → ∀ b, b < 15 → a ≠ b → (TX7 a).2.1 ≠ (TX7 b).2.1 := by decide +kernel
theorem tyX7_ok : ∀ k, k < 15 → parseFieldDescriptor (TX7 k).2.2.1 = some (tyX7 k) := by decide +kernel
def RX8 : String := "PurseTrace$RuleReader"
def TX8 : u_T := fun k => match k with
  | 0 => ("PurseTrace$RuleReader", "tape", "LPurseTrace$Tape;", true)
  | 1 => ("PurseTrace$RuleReader", "book", "LPurseTrace$RuleBook;", true)
  | 2 => ("PurseTrace$RuleReader", "size", "I", false)
  | 3 => ("PurseTrace$RuleReader", "at", "I", false)
  | 4 => ("PurseTrace$RuleReader", "fault", "I", false)
  | 5 => ("PurseTrace$RuleReader", "place", "I", false)
  | 6 => ("PurseTrace$RuleReader", "base", "I", false)
  | _ => ("PurseTrace$RuleReader", "used", "I", false)
def tyX8 : Nat → FieldType := fun k => match k with
  | 0 => .object "PurseTrace$Tape"
  | 1 => .object "PurseTrace$RuleBook"
  | 2 => .int
  | 3 => .int
  | 4 => .int
  | 5 => .int
  | 6 => .int
  | _ => .int
abbrev wsX80 : List Cond := u_ws RX8 TX8 8
theorem nmX8 : ∀ a, a < 8 → ∀ b, b < 8 → a ≠ b → (TX8 a).2.1 ≠ (TX8 b).2.1 := by decide +kernel
theorem tyX8_ok : ∀ k, k < 8 → parseFieldDescriptor (TX8 k).2.2.1 = some (tyX8 k) := by decide +kernel
def RX9 : String := "PurseTrace$State"
def TX9 : u_T := fun k => match k with
  | 0 => ("PurseTrace$State", "where", "[I", true)
  | 1 => ("PurseTrace$State", "whose", "[I", true)
  | 2 => ("PurseTrace$State", "much", "[I", true)
  | 3 => ("PurseTrace$State", "size", "I", false)
  | 4 => ("PurseTrace$State", "last", "[I", true)
  | 5 => ("PurseTrace$State", "shares", "[I", true)
  | 6 => ("PurseTrace$State", "losses", "[I", true)
  | 7 => ("PurseTrace$State", "takenWhose", "[I", true)
  | 8 => ("PurseTrace$State", "takenMuch", "[I", true)
  | 9 => ("PurseTrace$State", "taken", "I", false)
  | 10 => ("PurseTrace$State", "got", "[I", true)
  | 11 => ("PurseTrace$State", "have", "[I", true)
  | _ => ("PurseTrace$State", "quota", "[I", true)
def tyX9 : Nat → FieldType := fun k => match k with
  | 0 => .array .int
  | 1 => .array .int
  | 2 => .array .int
  | 3 => .int
  | 4 => .array .int
  | 5 => .array .int
  | 6 => .array .int
  | 7 => .array .int
  | 8 => .array .int
  | 9 => .int
  | 10 => .array .int
  | 11 => .array .int
  | _ => .array .int
abbrev wsX90 : List Cond := u_ws RX9 TX9 13
theorem nmX9 : ∀ a, a < 13 → ∀ b, b < 13 → a ≠ b → (TX9 a).2.1 ≠ (TX9 b).2.1 := by decide +kernel
theorem tyX9_ok : ∀ k, k < 13 → parseFieldDescriptor (TX9 k).2.2.1 = some (tyX9 k) := by decide +kernel
def RX10 : String := "PurseTrace$Tape"
def TX10 : u_T := fun k => match k with
  | 0 => ("PurseTrace$Tape", "bytes", "[I", true)
  | _ => ("PurseTrace$Tape", "size", "I", false)
def tyX10 : Nat → FieldType := fun k => match k with
  | 0 => .array .int
  | _ => .int
abbrev wsX100 : List Cond := u_ws RX10 TX10 2
theorem nmX10 : ∀ a, a < 2 → ∀ b, b < 2 → a ≠ b → (TX10 a).2.1 ≠ (TX10 b).2.1 := by decide +kernel
theorem tyX10_ok : ∀ k, k < 2 → parseFieldDescriptor (TX10 k).2.2.1 = some (tyX10 k) := by decide +kernel
def RX11 : String := "PurseTrace"
def TX11 : u_T := fun k => match k with
  | 0 => ("PurseTrace", "tape", "LPurseTrace$Tape;", true)
  | 1 => ("PurseTrace", "purses", "LPurseTrace$Purses;", true)
  | 2 => ("PurseTrace", "lines", "LPurseTrace$Lines;", true)
  | 3 => ("PurseTrace", "knowing", "LPurseTrace$Knowing;", true)
  | 4 => ("PurseTrace", "book", "LPurseTrace$RuleBook;", true)
  | 5 => ("PurseTrace", "reader", "LPurseTrace$RuleReader;", true)
  | 6 => ("PurseTrace", "replay", "LPurseTrace$Replay;", true)
  | 7 => ("PurseTrace", "orders", "LPurseTrace$Orders;", true)
  | 8 => ("PurseTrace", "choices", "LPurseTrace$Choices;", true)
  | 9 => ("PurseTrace", "debts", "LPurseTrace$Debts;", true)
  | 10 => ("PurseTrace", "today", "I", false)
  | 11 => ("PurseTrace", "persons", "I", false)
  | _ => ("PurseTrace", "things", "I", false)
def tyX11 : Nat → FieldType := fun k => match k with
  | 0 => .object "PurseTrace$Tape"
  | 1 => .object "PurseTrace$Purses"
  | 2 => .object "PurseTrace$Lines"
  | 3 => .object "PurseTrace$Knowing"
  | 4 => .object "PurseTrace$RuleBook"
  | 5 => .object "PurseTrace$RuleReader"
  | 6 => .object "PurseTrace$Replay"
  | 7 => .object "PurseTrace$Orders"
  | 8 => .object "PurseTrace$Choices"
  | 9 => .object "PurseTrace$Debts"
  | 10 => .int
  | 11 => .int
  | _ => .int
abbrev wsX110 : List Cond := u_ws RX11 TX11 13
theorem nmX11 : ∀ a, a < 13 → ∀ b, b < 13 → a ≠ b → (TX11 a).2.1 ≠ (TX11 b).2.1 := by decide +kernel
theorem tyX11_ok : ∀ k, k < 13 → parseFieldDescriptor (TX11 k).2.2.1 = some (tyX11 k) := by decide +kernel
def RX12 : String := "PurseTraceModel"
def TX12 : u_T := fun k => match k with
  | 0 => ("PurseTraceModel", "tape", "[B", true)
  | 1 => ("PurseTraceModel", "taped", "I", false)
  | 2 => ("PurseTraceModel", "now", "I", false)
  | 3 => ("PurseTraceModel", "persons", "I", false)
  | 4 => ("PurseTraceModel", "purses", "I", false)
  | 5 => ("PurseTraceModel", "things", "I", false)
  | 6 => ("PurseTraceModel", "lines", "I", false)
  | 7 => ("PurseTraceModel", "rules", "I", false)
  | 8 => ("PurseTraceModel", "tellings", "I", false)
  | 9 => ("PurseTraceModel", "debts", "I", false)
  | 10 => ("PurseTraceModel", "bars", "I", false)
  | 11 => ("PurseTraceModel", "holder", "[I", true)
  | 12 => ("PurseTraceModel", "land", "[I", true)
  | 13 => ("PurseTraceModel", "kind", "[I", true)
  | 14 => ("PurseTraceModel", "purse", "[I", true)
  | 15 => ("PurseTraceModel", "what", "[I", true)
  | 16 => ("PurseTraceModel", "sum", "[I", true)
  | 17 => ("PurseTraceModel", "day", "[I", true)
  | 18 => ("PurseTraceModel", "hourFrom", "[I", true)
  | 19 => ("PurseTraceModel", "hourTo", "[I", true)
  | 20 => ("PurseTraceModel", "told", "[I", true)
  | 21 => ("PurseTraceModel", "struckOn", "[I", true)
  | 22 => ("PurseTraceModel", "gave", "[Z", true)
  | 23 => ("PurseTraceModel", "ruleLand", "[I", true)
  | 24 => ("PurseTraceModel", "ruleFrom", "[I", true)
  | 25 => ("PurseTraceModel", "ruleTo", "[I", true)
  | 26 => ("PurseTraceModel", "ruleTold", "[I", true)
  | 27 => ("PurseTraceModel", "clauses", "[I", true)
  | 28 => ("PurseTraceModel", "letter", "[I", true)
  | 29 => ("PurseTraceModel", "first", "[I", true)
  | 30 => ("PurseTraceModel", "second", "[I", true)
  | 31 => ("PurseTraceModel", "codeFrom", "[I", true)
  | 32 => ("PurseTraceModel", "codeTo", "[I", true)
  | 33 => ("PurseTraceModel", "code", "[I", true)
  | 34 => ("PurseTraceModel", "codeArg", "[I", true)
  | 35 => ("PurseTraceModel", "place", "I", false)
  | 36 => ("PurseTraceModel", "end", "I", false)
  | 37 => ("PurseTraceModel", "bad", "I", false)
  | 38 => ("PurseTraceModel", "many", "I", false)
  | 39 => ("PurseTraceModel", "codes", "I", false)
  | 40 => ("PurseTraceModel", "open", "I", false)
  | 41 => ("PurseTraceModel", "stacked", "I", false)
  | 42 => ("PurseTraceModel", "isDone", "Z", false)
  | 43 => ("PurseTraceModel", "isBehind", "Z", false)
  | 44 => ("PurseTraceModel", "stack", "[I", true)
  | 45 => ("PurseTraceModel", "knower", "[I", true)
  | 46 => ("PurseTraceModel", "known", "[I", true)
  | 47 => ("PurseTraceModel", "knowsFrom", "[I", true)
  | 48 => ("PurseTraceModel", "knowsTold", "[I", true)
  | 49 => ("PurseTraceModel", "parts", "[I", true)
  | 50 => ("PurseTraceModel", "partWho", "[I", true)
  | 51 => ("PurseTraceModel", "partSum", "[I", true)
  | 52 => ("PurseTraceModel", "shares", "[I", true)
  | 53 => ("PurseTraceModel", "lost", "[I", true)
  | 54 => ("PurseTraceModel", "taken", "I", false)
  | 55 => ("PurseTraceModel", "takenWho", "[I", true)
  | 56 => ("PurseTraceModel", "takenSum", "[I", true)
  | 57 => ("PurseTraceModel", "got", "[I", true)
  | 58 => ("PurseTraceModel", "other", "[I", true)
  | 59 => ("PurseTraceModel", "value", "[J", true)
  | 60 => ("PurseTraceModel", "isRefused", "[Z", true)
  | 61 => ("PurseTraceModel", "isStruck", "[Z", true)
  | 62 => ("PurseTraceModel", "came", "[I", true)
  | 63 => ("PurseTraceModel", "rows", "I", false)
  | 64 => ("PurseTraceModel", "row", "[I", true)
  | 65 => ("PurseTraceModel", "orders", "I", false)
  | 66 => ("PurseTraceModel", "leastSure", "I", false)
  | 67 => ("PurseTraceModel", "mostSure", "I", false)
  | 68 => ("PurseTraceModel", "dayRow", "[I", true)
  | 69 => ("PurseTraceModel", "order", "[I", true)
  | 70 => ("PurseTraceModel", "choices", "[I", true)
  | 71 => ("PurseTraceModel", "barP", "[I", true)
  | 72 => ("PurseTraceModel", "barW", "[I", true)
  | 73 => ("PurseTraceModel", "barQ", "[I", true)
  | 74 => ("PurseTraceModel", "barV", "[I", true)
  | 75 => ("PurseTraceModel", "bestRow", "I", false)
  | 76 => ("PurseTraceModel", "bestWorth", "I", false)
  | 77 => ("PurseTraceModel", "debtor", "[I", true)
  | 78 => ("PurseTraceModel", "creditor", "[I", true)
  | 79 => ("PurseTraceModel", "debtSum", "[I", true)
  | 80 => ("PurseTraceModel", "rank", "[I", true)
  | _ => ("PurseTraceModel", "paid", "[I", true)
def tyX12 : Nat → FieldType := fun k => match k with
  | 0 => .array .byte
  | 1 => .int
  | 2 => .int
  | 3 => .int
  | 4 => .int
  | 5 => .int
  | 6 => .int
  | 7 => .int
  | 8 => .int
  | 9 => .int
  | 10 => .int
  | 11 => .array .int
  | 12 => .array .int
  | 13 => .array .int
  | 14 => .array .int
  | 15 => .array .int
  | 16 => .array .int
  | 17 => .array .int
  | 18 => .array .int
  | 19 => .array .int
  | 20 => .array .int
  | 21 => .array .int
  | 22 => .array .boolean
  | 23 => .array .int
  | 24 => .array .int
  | 25 => .array .int
  | 26 => .array .int
  | 27 => .array .int
  | 28 => .array .int
  | 29 => .array .int
  | 30 => .array .int
  | 31 => .array .int
  | 32 => .array .int
  | 33 => .array .int
  | 34 => .array .int
  | 35 => .int
  | 36 => .int
  | 37 => .int
  | 38 => .int
  | 39 => .int
  | 40 => .int
  | 41 => .int
  | 42 => .boolean
  | 43 => .boolean
  | 44 => .array .int
  | 45 => .array .int
  | 46 => .array .int
  | 47 => .array .int
  | 48 => .array .int
  | 49 => .array .int
  | 50 => .array .int
  | 51 => .array .int
  | 52 => .array .int
  | 53 => .array .int
  | 54 => .int
  | 55 => .array .int
  | 56 => .array .int
  | 57 => .array .int
  | 58 => .array .int
  | 59 => .array .long
  | 60 => .array .boolean
  | 61 => .array .boolean
  | 62 => .array .int
  | 63 => .int
  | 64 => .array .int
  | 65 => .int
  | 66 => .int
  | 67 => .int
  | 68 => .array .int
  | 69 => .array .int
  | 70 => .array .int
  | 71 => .array .int
  | 72 => .array .int
  | 73 => .array .int
  | 74 => .array .int
  | 75 => .int
  | 76 => .int
  | 77 => .array .int
  | 78 => .array .int
  | 79 => .array .int
  | 80 => .array .int
  | _ => .array .int
abbrev wsX120 : List Cond := u_ws RX12 TX12 82
theorem nmX12 : ∀ a, a < 82 → ∀ b, b < 82 → a ≠ b → (TX12 a).2.1 ≠ (TX12 b).2.1 := by decide +kernel
theorem tyX12_ok : ∀ k, k < 82 → parseFieldDescriptor (TX12 k).2.2.1 = some (tyX12 k) := by decide +kernel
def RJ9 : String := "java/lang/Math"
def RJ10 : String := "java/lang/System"
def RJ7 : String := "java/util/Arrays"
def RL : String := "PurseTraceLaw"
abbrev am_cls : List vw_C := [(RX0, TX0, 12), (RX1, TX1, 6), (RX2, TX2, 5), (RX3, TX3, 12), (RX4, TX4, 7), (RX5, TX5, 3), (RX6, TX6, 17), (RX7, TX7, 15), (RX8, TX8, 8), (RX9, TX9, 13), (RX10, TX10, 2), (RX11, TX11, 13), (RX12, TX12, 82)]
noncomputable def am_myL : List (List (MethodName × ByteArray)) := [[(⟨RL, "law", "([I)Z"⟩, code), (⟨RX0, "set", "(II)Z"⟩, prog_2_method_2_code), (⟨RX0, "addBar", "(II)Z"⟩, prog_2_method_3_code), (⟨RX0, "isBarred", "(II)Z"⟩, prog_2_method_4_code), (⟨RX0, "rows", "()I"⟩, prog_2_method_5_code), (⟨RX0, "prepare", "(I)V"⟩, prog_2_method_6_code), (⟨RX0, "isChanged", "(I)Z"⟩, prog_2_method_7_code), (⟨RX0, "search", "(II)V"⟩, prog_2_method_8_code), (⟨RX0, "spellFromFirst", "(I)V"⟩, prog_2_method_9_code), (⟨RX0, "spellFromLast", "(I)V"⟩, prog_2_method_10_code), (⟨RX0, "isLawful", "()Z"⟩, prog_2_method_11_code), (⟨RX0, "worth", "(I)I"⟩, prog_2_method_12_code), (⟨RX1, "add", "(III)I"⟩, prog_3_method_2_code), (⟨RX1, "settle", "(II)I"⟩, prog_3_method_3_code), (⟨RX1, "gather", "(II)I"⟩, prog_3_method_4_code), (⟨RX2, "add", "(IIII)Z"⟩, prog_4_method_2_code)],
  [(⟨RX2, "knew", "(IIII)Z"⟩, prog_4_method_3_code), (⟨RX3, "begin", "(IIIIZ)V"⟩, prog_5_method_2_code), (⟨RX3, "end", "(IIII)I"⟩, prog_5_method_3_code), (⟨RX3, "sortIn", "(I)V"⟩, prog_5_method_4_code), (⟨RX3, "isLater", "(II)Z"⟩, prog_5_method_5_code), (⟨RX3, "isKnown", "(II)Z"⟩, prog_5_method_6_code), (⟨RX3, "takes", "(I)Z"⟩, prog_5_method_7_code), (⟨RX4, "weigh", "(IIII)Z"⟩, prog_6_method_2_code), (⟨RX4, "note", "(I)V"⟩, prog_6_method_3_code), (⟨RX4, "findDay", "(I)V"⟩, prog_6_method_4_code), (⟨RX4, "isLawful", "()Z"⟩, prog_6_method_5_code), (⟨RX4, "sortByNumber", "()V"⟩, prog_6_method_6_code), (⟨RX4, "goToNext", "()Z"⟩, prog_6_method_7_code), (⟨RX4, "swap", "(II)V"⟩, prog_6_method_8_code), (⟨RX5, "add", "(II)I"⟩, prog_7_method_2_code), (⟨RX6, "list", "(II)V"⟩, prog_8_method_2_code)],
  [(⟨RX6, "playAll", "(II)V"⟩, prog_8_method_3_code), (⟨RX6, "playThrough", "(II)Z"⟩, prog_8_method_4_code), (⟨RX6, "keep", "()V"⟩, prog_8_method_5_code), (⟨RX6, "goBack", "()V"⟩, prog_8_method_6_code), (⟨RX6, "play", "(II)V"⟩, prog_8_method_7_code), (⟨RX6, "decide", "(I)V"⟩, prog_8_method_8_code), (⟨RX6, "gatherFacts", "(I)V"⟩, prog_8_method_9_code), (⟨RX6, "act", "(I)V"⟩, prog_8_method_10_code), (⟨RX6, "moveOn", "(I)V"⟩, prog_8_method_11_code), (⟨RX6, "spend", "(I)V"⟩, prog_8_method_12_code), (⟨RX6, "buy", "(I)V"⟩, prog_8_method_13_code), (⟨RX6, "sell", "(III)V"⟩, prog_8_method_14_code), (⟨RX6, "makeGood", "(III)V"⟩, prog_8_method_15_code), (⟨RX6, "ownOf", "(I)I"⟩, prog_8_method_16_code), (⟨RX6, "claimOf", "(I)I"⟩, prog_8_method_17_code), (⟨RX7, "add", "(IIII)I"⟩, prog_9_method_2_code)],
  [(⟨RX7, "clausesOf", "(I)I"⟩, prog_9_method_3_code), (⟨RX7, "find", "(IIII)I"⟩, prog_9_method_4_code), (⟨RX7, "isInForce", "(IIII)Z"⟩, prog_9_method_5_code), (⟨RX7, "strikeLower", "(II)V"⟩, prog_9_method_6_code), (⟨RX7, "holds", "(I)Z"⟩, prog_9_method_7_code), (⟨RX7, "reckon", "(IJJ)J"⟩, prog_9_method_8_code), (⟨RX8, "read", "(I)I"⟩, prog_10_method_2_code), (⟨RX8, "readClause", "(II)V"⟩, prog_10_method_3_code), (⟨RX8, "readCondition", "(I)V"⟩, prog_10_method_4_code), (⟨RX8, "readPart", "(I)V"⟩, prog_10_method_5_code), (⟨RX8, "readPiece", "(I)V"⟩, prog_10_method_6_code), (⟨RX8, "readSum", "(I)V"⟩, prog_10_method_7_code), (⟨RX8, "readTerm", "(I)V"⟩, prog_10_method_8_code), (⟨RX8, "readFactor", "(I)V"⟩, prog_10_method_9_code), (⟨RX8, "readNumber", "(I)I"⟩, prog_10_method_10_code), (⟨RX8, "mayOpen", "(I)Z"⟩, prog_10_method_11_code)],
  [(⟨RX8, "pass", "(I)V"⟩, prog_10_method_12_code), (⟨RX8, "fail", "(II)V"⟩, prog_10_method_13_code), (⟨RX8, "peek", "()I"⟩, prog_10_method_14_code), (⟨RX8, "emit", "(II)I"⟩, prog_10_method_15_code), (⟨RX8, "aim", "(II)V"⟩, prog_10_method_16_code), (⟨RX8, "isDigit", "(I)Z"⟩, prog_10_method_17_code), (⟨RX8, "comparison", "(I)I"⟩, prog_10_method_18_code), (⟨RX8, "multiplication", "(I)I"⟩, prog_10_method_19_code), (⟨RX8, "fact", "(I)I"⟩, prog_10_method_20_code), (⟨RX9, "clear", "()V"⟩, prog_11_method_2_code), (⟨RX9, "copyFrom", "(LPurseTrace$State;)V"⟩, prog_11_method_3_code), (⟨RX9, "forgetTaken", "()V"⟩, prog_11_method_4_code), (⟨RX9, "put", "(III)V"⟩, prog_11_method_5_code), (⟨RX9, "receive", "(III)V"⟩, prog_11_method_6_code), (⟨RX9, "takeOut", "(IIII)V"⟩, prog_11_method_7_code), (⟨RX9, "takeFromLast", "(II)V"⟩, prog_11_method_8_code)],
  [(⟨RX9, "takeOf", "(III)I"⟩, prog_11_method_9_code), (⟨RX9, "takeOthers", "(III)I"⟩, prog_11_method_10_code), (⟨RX9, "grab", "(II)I"⟩, prog_11_method_11_code), (⟨RX9, "tidy", "()V"⟩, prog_11_method_12_code), (⟨RX9, "measure", "(I)I"⟩, prog_11_method_13_code), (⟨RX9, "held", "(II)I"⟩, prog_11_method_14_code), (⟨RX9, "shareOf", "(II)I"⟩, prog_11_method_15_code), (⟨RX9, "placeOf", "(II)I"⟩, prog_11_method_16_code), (⟨RX10, "hasRoom", "()Z"⟩, prog_12_method_2_code), (⟨RX10, "append", "(I)V"⟩, prog_12_method_3_code), (⟨RX10, "byteAt", "(I)I"⟩, prog_12_method_4_code), (⟨RX10, "number", "(I)I"⟩, prog_12_method_5_code), (⟨RX11, "now", "(I)Z"⟩, prog_1_method_2_code), (⟨RX11, "person", "()I"⟩, prog_1_method_3_code), (⟨RX11, "purse", "(II)I"⟩, prog_1_method_4_code), (⟨RX11, "thing", "()I"⟩, prog_1_method_5_code)],
  [(⟨RX11, "line", "(IIIIIII)I"⟩, prog_1_method_6_code), (⟨RX11, "move", "(IIIZIII)I"⟩, prog_1_method_7_code), (⟨RX11, "deal", "(ZIIIIII)I"⟩, prog_1_method_8_code), (⟨RX11, "strike", "(I)Z"⟩, prog_1_method_9_code), (⟨RX11, "feed", "(IIIII)I"⟩, prog_1_method_10_code), (⟨RX11, "rules", "(IIII)I"⟩, prog_1_method_11_code), (⟨RX11, "knows", "(III)Z"⟩, prog_1_method_12_code), (⟨RX11, "left", "(IIII)I"⟩, prog_1_method_13_code), (⟨RX11, "share", "(IIII)I"⟩, prog_1_method_14_code), (⟨RX11, "lost", "(IIII)I"⟩, prog_1_method_15_code), (⟨RX11, "part", "(III)I"⟩, prog_1_method_16_code), (⟨RX11, "took", "(III)I"⟩, prog_1_method_17_code), (⟨RX11, "way", "(II)I"⟩, prog_1_method_18_code), (⟨RX11, "fails", "(I)I"⟩, prog_1_method_19_code), (⟨RX11, "sure", "(IIII)I"⟩, prog_1_method_20_code), (⟨RX11, "beside", "(IIII)I"⟩, prog_1_method_21_code)],
  [(⟨RX11, "choose", "(II)Z"⟩, prog_1_method_22_code), (⟨RX11, "bar", "(IIII)Z"⟩, prog_1_method_23_code), (⟨RX11, "best", "(I)I"⟩, prog_1_method_24_code), (⟨RX11, "chosen", "(II)I"⟩, prog_1_method_25_code), (⟨RX11, "judge", "(II)I"⟩, prog_1_method_26_code), (⟨RX11, "debt", "(IIII)I"⟩, prog_1_method_27_code), (⟨RX11, "paid", "(I)I"⟩, prog_1_method_28_code), (⟨RX11, "check", "(I)I"⟩, prog_1_method_29_code), (⟨RX11, "look", "(II)I"⟩, prog_1_method_30_code), (⟨RX11, "count", "(I)I"⟩, prog_1_method_31_code), (⟨RX11, "firstWrong", "(I)I"⟩, prog_1_method_32_code), (⟨RX11, "wrongInThree", "(IIII)I"⟩, prog_1_method_33_code), (⟨RX11, "mayDate", "(III)Z"⟩, prog_1_method_34_code), (⟨RX11, "isPerson", "(I)Z"⟩, prog_1_method_35_code), (⟨RX11, "isPersonOrAll", "(I)Z"⟩, prog_1_method_36_code), (⟨RX11, "isPurse", "(I)Z"⟩, prog_1_method_37_code)],
  [(⟨RX11, "isThing", "(I)Z"⟩, prog_1_method_38_code), (⟨RX11, "isLine", "(I)Z"⟩, prog_1_method_39_code), (⟨RX11, "isDay", "(I)Z"⟩, prog_1_method_40_code), (⟨RX11, "isSum", "(I)Z"⟩, prog_1_method_41_code), (⟨RX11, "isWay", "(I)Z"⟩, prog_1_method_42_code), (⟨RX11, "portion", "(I[I[I)V"⟩, prog_1_method_43_code), (⟨RX12, "lies", "(JJJ)Z"⟩, prog_14_method_2_code), (⟨RX12, "has", "(II)Z"⟩, prog_14_method_3_code), (⟨RX12, "isPerson", "(I)Z"⟩, prog_14_method_4_code), (⟨RX12, "isPurse", "(I)Z"⟩, prog_14_method_5_code), (⟨RX12, "isThing", "(I)Z"⟩, prog_14_method_6_code), (⟨RX12, "isDay", "(I)Z"⟩, prog_14_method_7_code), (⟨RX12, "now", "(I)Z"⟩, prog_14_method_8_code), (⟨RX12, "person", "()I"⟩, prog_14_method_9_code), (⟨RX12, "purse", "(II)I"⟩, prog_14_method_10_code), (⟨RX12, "thing", "()I"⟩, prog_14_method_11_code)],
  [(⟨RX12, "adds", "(IIIIZIII)I"⟩, prog_14_method_12_code), (⟨RX12, "line", "(IIIIIII)I"⟩, prog_14_method_13_code), (⟨RX12, "move", "(IIIZIII)I"⟩, prog_14_method_14_code), (⟨RX12, "deal", "(ZIIIIII)I"⟩, prog_14_method_15_code), (⟨RX12, "isLine", "(I)Z"⟩, prog_14_method_16_code), (⟨RX12, "strike", "(I)Z"⟩, prog_14_method_17_code), (⟨RX12, "push", "(I)V"⟩, prog_14_method_18_code), (⟨RX12, "feed", "(IIIII)I"⟩, prog_14_method_19_code), (⟨RX12, "here", "()I"⟩, prog_14_method_20_code), (⟨RX12, "wrongs", "(II)V"⟩, prog_14_method_21_code), (⟨RX12, "isGood", "()Z"⟩, prog_14_method_22_code), (⟨RX12, "emit", "(II)V"⟩, prog_14_method_23_code), (⟨RX12, "top", "()I"⟩, prog_14_method_24_code), (⟨RX12, "puts", "(I)V"⟩, prog_14_method_25_code), (⟨RX12, "opens", "()V"⟩, prog_14_method_26_code), (⟨RX12, "seesDigit", "()Z"⟩, prog_14_method_27_code)],
  [(⟨RX12, "reads", "(I)I"⟩, prog_14_method_28_code), (⟨RX12, "must", "(I)V"⟩, prog_14_method_29_code), (⟨RX12, "isTimes", "(I)Z"⟩, prog_14_method_30_code), (⟨RX12, "isPlus", "(I)Z"⟩, prog_14_method_31_code), (⟨RX12, "isSign", "(I)Z"⟩, prog_14_method_32_code), (⟨RX12, "isValue", "(I)Z"⟩, prog_14_method_33_code), (⟨RX12, "sums", "(Z)V"⟩, prog_14_method_34_code), (⟨RX12, "joins", "(Z)V"⟩, prog_14_method_35_code), (⟨RX12, "ends", "()V"⟩, prog_14_method_36_code), (⟨RX12, "factor", "()V"⟩, prog_14_method_37_code), (⟨RX12, "goesOn", "()Z"⟩, prog_14_method_38_code), (⟨RX12, "piece", "()V"⟩, prog_14_method_39_code), (⟨RX12, "goesBehind", "()Z"⟩, prog_14_method_40_code), (⟨RX12, "condition", "()V"⟩, prog_14_method_41_code), (⟨RX12, "clause", "()V"⟩, prog_14_method_42_code), (⟨RX12, "rules", "(IIII)I"⟩, prog_14_method_43_code)],
  [(⟨RX12, "knows", "(III)Z"⟩, prog_14_method_44_code), (⟨RX12, "knew", "(IIII)Z"⟩, prog_14_method_45_code), (⟨RX12, "empties", "()V"⟩, prog_14_method_46_code), (⟨RX12, "lays", "(III)V"⟩, prog_14_method_47_code), (⟨RX12, "allOf", "(I)I"⟩, prog_14_method_48_code), (⟨RX12, "of", "(II)I"⟩, prog_14_method_49_code), (⟨RX12, "some", "(I)I"⟩, prog_14_method_50_code), (⟨RX12, "takes", "(II)V"⟩, prog_14_method_51_code), (⟨RX12, "takesPart", "(II)I"⟩, prog_14_method_52_code), (⟨RX12, "takesOf", "(IIZI)I"⟩, prog_14_method_53_code), (⟨RX12, "takesByParts", "(II)V"⟩, prog_14_method_54_code), (⟨RX12, "closes", "(I)V"⟩, prog_14_method_55_code), (⟨RX12, "takesOut", "(III)V"⟩, prog_14_method_56_code), (⟨RX12, "valueOf", "(II)I"⟩, prog_14_method_57_code), (⟨RX12, "worked", "(IJJ)J"⟩, prog_14_method_58_code), (⟨RX12, "does", "(II)V"⟩, prog_14_method_59_code)],
  [(⟨RX12, "holds", "(II)Z"⟩, prog_14_method_60_code), (⟨RX12, "isAmong", "(IIII)Z"⟩, prog_14_method_61_code), (⟨RX12, "clauseOf", "(IIII)I"⟩, prog_14_method_62_code), (⟨RX12, "wayOf", "(II)I"⟩, prog_14_method_63_code), (⟨RX12, "moves", "(IZI)V"⟩, prog_14_method_64_code), (⟨RX12, "spends", "(I)V"⟩, prog_14_method_65_code), (⟨RX12, "buys", "(I)V"⟩, prog_14_method_66_code), (⟨RX12, "partsOut", "(III)V"⟩, prog_14_method_67_code), (⟨RX12, "sells", "(II)V"⟩, prog_14_method_68_code), (⟨RX12, "makesGood", "(I)V"⟩, prog_14_method_69_code), (⟨RX12, "acts", "(II)Z"⟩, prog_14_method_70_code), (⟨RX12, "isKnown", "(II)Z"⟩, prog_14_method_71_code), (⟨RX12, "isAhead", "(II)Z"⟩, prog_14_method_72_code), (⟨RX12, "lists", "(II)V"⟩, prog_14_method_73_code), (⟨RX12, "plays", "(II)V"⟩, prog_14_method_74_code), (⟨RX12, "isAsked", "(II)Z"⟩, prog_14_method_75_code)],
  [(⟨RX12, "left", "(IIII)I"⟩, prog_14_method_76_code), (⟨RX12, "share", "(IIII)I"⟩, prog_14_method_77_code), (⟨RX12, "lost", "(IIII)I"⟩, prog_14_method_78_code), (⟨RX12, "part", "(III)I"⟩, prog_14_method_79_code), (⟨RX12, "playsTo", "(II)Z"⟩, prog_14_method_80_code), (⟨RX12, "takesAny", "(I)Z"⟩, prog_14_method_81_code), (⟨RX12, "took", "(III)I"⟩, prog_14_method_82_code), (⟨RX12, "way", "(II)I"⟩, prog_14_method_83_code), (⟨RX12, "fails", "(I)I"⟩, prog_14_method_84_code), (⟨RX12, "mayBe", "(I)Z"⟩, prog_14_method_85_code), (⟨RX12, "playsOrder", "(IIII)V"⟩, prog_14_method_86_code), (⟨RX12, "turns", "(I)Z"⟩, prog_14_method_87_code), (⟨RX12, "sure", "(IIII)I"⟩, prog_14_method_88_code), (⟨RX12, "isWay", "(I)Z"⟩, prog_14_method_89_code), (⟨RX12, "beside", "(IIII)I"⟩, prog_14_method_90_code), (⟨RX12, "choosing", "()I"⟩, prog_14_method_91_code)],
  [(⟨RX12, "choose", "(II)Z"⟩, prog_14_method_92_code), (⟨RX12, "isBarred", "(IIII)Z"⟩, prog_14_method_93_code), (⟨RX12, "bar", "(IIII)Z"⟩, prog_14_method_94_code), (⟨RX12, "rowsOf", "(I)I"⟩, prog_14_method_95_code), (⟨RX12, "laid", "(I)Z"⟩, prog_14_method_96_code), (⟨RX12, "unlaid", "()V"⟩, prog_14_method_97_code), (⟨RX12, "worthOf", "(I)I"⟩, prog_14_method_98_code), (⟨RX12, "digit", "(II)I"⟩, prog_14_method_99_code), (⟨RX12, "isLess", "(III)Z"⟩, prog_14_method_100_code), (⟨RX12, "chooses", "(I)Z"⟩, prog_14_method_101_code), (⟨RX12, "best", "(I)I"⟩, prog_14_method_102_code), (⟨RX12, "chosen", "(II)I"⟩, prog_14_method_103_code), (⟨RX12, "judge", "(II)I"⟩, prog_14_method_104_code), (⟨RX12, "debt", "(IIII)I"⟩, prog_14_method_105_code), (⟨RX12, "isOf", "(III)Z"⟩, prog_14_method_106_code), (⟨RX12, "pays", "(III)I"⟩, prog_14_method_107_code)],
  [(⟨RX12, "paid", "(I)I"⟩, prog_14_method_108_code), (⟨RX12, "numberAt", "(I)I"⟩, prog_14_method_109_code), (⟨RX12, "check", "(I)I"⟩, prog_14_method_110_code), (⟨RX12, "look", "(II)I"⟩, prog_14_method_111_code), (⟨RX12, "count", "(I)I"⟩, prog_14_method_112_code), (⟨RJ7, "fill", "([II)V"⟩, prog_17_method_103_code), (⟨RJ9, "max", "(II)I"⟩, prog_15_method_65_code), (⟨RJ9, "min", "(II)I"⟩, prog_15_method_69_code)]]
noncomputable def am_my (m : Nat) : MethodName × ByteArray := (am_myL.getD (m / 16) []).getD (m % 16) (⟨"", "", ""⟩, ⟨#[]⟩)
end
section
/-! the abstract machine: tables. Cells by the order in which the constructors make them; methods by number. Printed by wip/tools/gen_tables.py out of this claim's own tables. -/
abbrev am_Op : Type := Instr × Nat × Nat × Nat × Int × Nat
/-- cell k + 1: its kind (0 an object, 1 int[], 2 long[], 3 byte[], 4 boolean[]), its length, its class -/
noncomputable def am_kdL : List (List (Nat × Int × Nat)) := [[(0, 0, 11), (0, 0, 10), (1, 400, 0), (0, 0, 5), (1, 10, 0), (1, 10, 0), (0, 0, 3), (1, 100, 0), (1, 100, 0), (1, 100, 0), (1, 100, 0), (4, 100, 0), (1, 100, 0), (1, 100, 0), (1, 100, 0), (1, 100, 0)],
  [(1, 100, 0), (1, 100, 0), (0, 0, 2), (1, 100, 0), (1, 100, 0), (1, 100, 0), (1, 100, 0), (0, 0, 7), (1, 20, 0), (1, 20, 0), (1, 20, 0), (1, 20, 0), (1, 20, 0), (1, 240, 0), (1, 240, 0), (1, 240, 0)],
  [(1, 240, 0), (1, 240, 0), (1, 3200, 0), (1, 20, 0), (2, 40, 0), (2, 8, 0), (0, 0, 8), (0, 0, 6), (0, 0, 9), (1, 1010, 0), (1, 1010, 0), (1, 1010, 0), (1, 10, 0), (1, 100, 0), (1, 100, 0), (1, 1010, 0)],
  [(1, 1010, 0), (1, 10, 0), (1, 10, 0), (1, 10, 0), (0, 0, 9), (1, 1010, 0), (1, 1010, 0), (1, 1010, 0), (1, 10, 0), (1, 100, 0), (1, 100, 0), (1, 1010, 0), (1, 1010, 0), (1, 10, 0), (1, 10, 0), (1, 10, 0)],
  [(1, 100, 0), (1, 10, 0), (1, 10, 0), (1, 10, 0), (0, 0, 4), (0, 0, 0), (1, 10, 0), (2, 50, 0), (1, 4, 0), (1, 4, 0), (1, 4, 0), (0, 0, 1), (1, 40, 0), (1, 40, 0), (1, 40, 0), (1, 40, 0)],
  [(1, 40, 0), (0, 0, 12), (3, 400, 0), (1, 10, 0), (1, 10, 0), (1, 100, 0), (1, 100, 0), (1, 100, 0), (1, 100, 0), (1, 100, 0), (1, 100, 0), (1, 100, 0), (1, 100, 0), (1, 100, 0), (4, 100, 0), (1, 20, 0)],
  [(1, 20, 0), (1, 20, 0), (1, 20, 0), (1, 20, 0), (1, 240, 0), (1, 240, 0), (1, 240, 0), (1, 240, 0), (1, 240, 0), (1, 3200, 0), (1, 3200, 0), (1, 200, 0), (1, 100, 0), (1, 100, 0), (1, 100, 0), (1, 100, 0)],
  [(1, 10, 0), (1, 14000, 0), (1, 14000, 0), (1, 100, 0), (1, 100, 0), (1, 1500, 0), (1, 1500, 0), (1, 10, 0), (1, 10, 0), (2, 200, 0), (4, 200, 0), (4, 240, 0), (1, 10, 0), (1, 100, 0), (1, 6, 0), (1, 6, 0)],
  [(1, 10, 0), (1, 40, 0), (1, 40, 0), (1, 40, 0), (1, 40, 0), (1, 40, 0), (1, 40, 0), (1, 40, 0), (1, 40, 0), (1, 40, 0)]]
noncomputable def am_kd (Ln : Int) (a : Nat) : Nat × Int × Nat := match a with
  | 0 => (5, Ln, 0)
  | k + 1 => (am_kdL.getD (k / 16) []).getD (k % 16) (9, 0, 0)
def am_NC : Nat := 138
/-- fields of class ci: 0 int, 1 boolean, 2 a reference -/
noncomputable def am_ftL : List (List Nat) := [[2, 2, 2, 2, 0, 2, 0, 2, 2, 0, 0, 2],
  [2, 2, 2, 0, 2, 2],
  [2, 2, 2, 2, 0],
  [2, 2, 2, 2, 2, 2, 2, 2, 2, 2, 2, 0],
  [2, 2, 0, 0, 0, 0, 0],
  [2, 2, 0],
  [2, 2, 2, 2, 2, 2, 2, 0, 2, 0, 0, 1, 1, 1, 0, 2, 2],
  [2, 2, 2, 2, 2, 2, 2, 2, 2, 2, 2, 2, 2, 2, 0],
  [2, 2, 0, 0, 0, 0, 0, 0],
  [2, 2, 2, 0, 2, 2, 2, 2, 2, 0, 2, 2, 2],
  [2, 0],
  [2, 2, 2, 2, 2, 2, 2, 2, 2, 2, 0, 0, 0],
  [2, 0, 0, 0, 0, 0, 0, 0, 0, 0, 0, 2, 2, 2, 2, 2, 2, 2, 2, 2, 2, 2, 2, 2, 2, 2, 2, 2, 2, 2, 2, 2, 2, 2, 2, 0, 0, 0, 0, 0, 0, 0, 1, 1, 2, 2, 2, 2, 2, 2, 2, 2, 2, 2, 0, 2, 2, 2, 2, 2, 2, 2, 2, 0, 2, 0, 0, 0, 2, 2, 2, 2, 2, 2, 2, 0, 0, 2, 2, 2, 2, 2]]
noncomputable def am_ft (ci k : Nat) : Nat := (am_ftL.getD ci []).getD k 9
/-- what a field of references holds, by cell -/
noncomputable def am_refL : List (List (List Nat)) := [[[], [2, 4, 7, 19, 24, 39, 40, 69, 70, 76, 0, 0, 0], [3, 0], [], [5, 6, 0], [], [], [8, 9, 10, 11, 12, 13, 14, 15, 16, 17, 18, 0], [], [], [], [], [], [], [], []],
  [[], [], [], [20, 21, 22, 23, 0], [], [], [], [], [25, 26, 27, 28, 29, 30, 31, 32, 33, 34, 35, 36, 37, 38, 0], [], [], [], [], [], [], []],
  [[], [], [], [], [], [], [], [2, 24, 0, 0, 0, 0, 0, 0], [4, 7, 24, 19, 41, 53, 65, 0, 66, 0, 0, 0, 0, 0, 0, 67, 68], [42, 43, 44, 0, 45, 46, 47, 48, 49, 0, 50, 51, 52], [], [], [], [], [], []],
  [[], [], [], [], [], [54, 55, 56, 0, 57, 58, 59, 60, 61, 0, 62, 63, 64], [], [], [], [], [], [], [], [], [], []],
  [[], [], [], [], [], [7, 40, 0, 0, 0, 0, 0], [4, 7, 40, 71, 0, 72, 0, 73, 74, 0, 0, 75], [], [], [], [], [], [77, 78, 79, 0, 80, 81], [], [], []],
  [[], [], [83, 0, 0, 0, 0, 0, 0, 0, 0, 0, 0, 84, 85, 86, 87, 88, 89, 90, 91, 92, 93, 94, 95, 96, 97, 98, 99, 100, 101, 102, 103, 104, 105, 106, 107, 0, 0, 0, 0, 0, 0, 0, 0, 0, 108, 109, 110, 111, 112, 113, 114, 115, 116, 117, 0, 118, 119, 120, 121, 122, 123, 124, 125, 0, 126, 0, 0, 0, 127, 128, 129, 130, 131, 132, 133, 0, 0, 134, 135, 136, 137, 138], [], [], [], [], [], [], [], [], [], [], [], [], []],
  [[], [], [], [], [], [], [], [], [], [], [], [], [], [], [], []],
  [[], [], [], [], [], [], [], [], [], [], [], [], [], [], [], []],
  [[], [], [], [], [], [], [], [], [], [], []]]
noncomputable def am_ref (a k : Nat) : Nat := ((am_refL.getD (a / 16) []).getD (a % 16) []).getD k 0
/-- 0: PurseTraceLaw.law([I)Z -/
noncomputable def am_o0_0 : List (Option am_Op) := [none, none, none, none, none, none, none, none, none, none, none, none, none, none, none, none]
noncomputable def am_o0_1 : List (Option am_Op) := [some (.iconst 0, 1, 0, 0, 0, 0), some (.istore_n 3, 1, 0, 0, 0, 0), some (.iload_n 3, 1, 0, 0, 0, 0), some (.aload_n 0, 1, 0, 0, 0, 0), some (.arraylength, 1, 0, 0, 0, 0), some (.bipush 8, 2, 0, 0, 0, 0), none, some (.isub, 1, 0, 0, 0, 0), some (.if_icmp .gt 1444, 3, 0, 0, 0, 0), none, none, some (.aload_n 0, 1, 0, 0, 0, 0), some (.iload_n 3, 1, 0, 0, 0, 0), some (.iaload, 1, 0, 0, 0, 0), some (.bipush 31, 2, 0, 0, 0, 0), none]
noncomputable def am_o0_2 : List (Option am_Op) := [some (.iand, 1, 0, 0, 0, 0), some (.tableswitch 1429 0 29 #[135, 158, 171, 204, 217, 304, 407, 510, 533, 596, 649, 692, 745, 798, 851, 894, 937, 970, 993, 1046, 1099, 1132, 1185, 1208, 1241, 1274, 1327, 1350, 1373, 1406], 135, 0, 0, 0, 0), none, none, none, none, none, none, none, none, none, none, none, none, none, none]
noncomputable def am_o0_3 : List (Option am_Op) := [none, none, none, none, none, none, none, none, none, none, none, none, none, none, none, none]
noncomputable def am_o0_4 : List (Option am_Op) := [none, none, none, none, none, none, none, none, none, none, none, none, none, none, none, none]
noncomputable def am_o0_5 : List (Option am_Op) := [none, none, none, none, none, none, none, none, none, none, none, none, none, none, none, none]
noncomputable def am_o0_6 : List (Option am_Op) := [none, none, none, none, none, none, none, none, none, none, none, none, none, none, none, none]
noncomputable def am_o0_7 : List (Option am_Op) := [none, none, none, none, none, none, none, none, none, none, none, none, none, none, none, none]
noncomputable def am_o0_8 : List (Option am_Op) := [none, none, none, none, none, none, none, none, none, none, none, none, none, none, none, none]
noncomputable def am_o0_9 : List (Option am_Op) := [none, none, none, none, none, none, none, none, none, none, none, none, none, none, none, none]
noncomputable def am_o0_10 : List (Option am_Op) := [none, none, none, none, none, none, none, none, some (.aload_n 1, 1, 0, 0, 0, 0), some (.aload_n 0, 1, 0, 0, 0, 0), some (.iload_n 3, 1, 0, 0, 0, 0), some (.iconst 1, 1, 0, 0, 0, 0), some (.iadd, 1, 0, 0, 0, 0), some (.iaload, 1, 0, 0, 0, 0), some (.invokevirtual 13, 3, 92, 2, 11, 640), none]
noncomputable def am_o0_11 : List (Option am_Op) := [none, some (.aload_n 2, 1, 0, 0, 0, 0), some (.aload_n 0, 1, 0, 0, 0, 0), some (.iload_n 3, 1, 0, 0, 0, 0), some (.iconst 1, 1, 0, 0, 0, 0), some (.iadd, 1, 0, 0, 0, 0), some (.iaload, 1, 0, 0, 0, 0), some (.invokevirtual 17, 3, 140, 2, 12, 1466), none, none, some (.if_icmp .eq 1276, 3, 0, 0, 0, 0), none, none, some (.iconst 0, 1, 0, 0, 0, 0), some (.ireturn, 1, 1, 0, 0, 0), some (.aload_n 1, 1, 0, 0, 0, 0)]
noncomputable def am_o0_12 : List (Option am_Op) := [some (.invokevirtual 18, 3, 93, 1, 11, 647), none, none, some (.aload_n 2, 1, 0, 0, 0, 0), some (.invokevirtual 22, 3, 141, 1, 12, 1474), none, none, some (.if_icmp .eq 1263, 3, 0, 0, 0, 0), none, none, some (.iconst 0, 1, 0, 0, 0, 0), some (.ireturn, 1, 1, 0, 0, 0), some (.aload_n 1, 1, 0, 0, 0, 0), some (.aload_n 0, 1, 0, 0, 0, 0), some (.iload_n 3, 1, 0, 0, 0, 0), some (.iconst 1, 1, 0, 0, 0, 0)]
noncomputable def am_o0_13 : List (Option am_Op) := [some (.iadd, 1, 0, 0, 0, 0), some (.iaload, 1, 0, 0, 0, 0), some (.aload_n 0, 1, 0, 0, 0, 0), some (.iload_n 3, 1, 0, 0, 0, 0), some (.iconst 2, 1, 0, 0, 0, 0), some (.iadd, 1, 0, 0, 0, 0), some (.iaload, 1, 0, 0, 0, 0), some (.invokevirtual 23, 3, 94, 3, 11, 651), none, none, some (.aload_n 2, 1, 0, 0, 0, 0), some (.aload_n 0, 1, 0, 0, 0, 0), some (.iload_n 3, 1, 0, 0, 0, 0), some (.iconst 1, 1, 0, 0, 0, 0), some (.iadd, 1, 0, 0, 0, 0), some (.iaload, 1, 0, 0, 0, 0)]
noncomputable def am_o0_14 : List (Option am_Op) := [some (.aload_n 0, 1, 0, 0, 0, 0), some (.iload_n 3, 1, 0, 0, 0, 0), some (.iconst 2, 1, 0, 0, 0, 0), some (.iadd, 1, 0, 0, 0, 0), some (.iaload, 1, 0, 0, 0, 0), some (.invokevirtual 27, 3, 142, 3, 12, 1478), none, none, some (.if_icmp .eq 1230, 3, 0, 0, 0, 0), none, none, some (.iconst 0, 1, 0, 0, 0, 0), some (.ireturn, 1, 1, 0, 0, 0), some (.aload_n 1, 1, 0, 0, 0, 0), some (.invokevirtual 28, 3, 95, 1, 11, 663), none]
noncomputable def am_o0_15 : List (Option am_Op) := [none, some (.aload_n 2, 1, 0, 0, 0, 0), some (.invokevirtual 31, 3, 143, 1, 12, 1487), none, none, some (.if_icmp .eq 1217, 3, 0, 0, 0, 0), none, none, some (.iconst 0, 1, 0, 0, 0, 0), some (.ireturn, 1, 1, 0, 0, 0), some (.aload_n 1, 1, 0, 0, 0, 0), some (.aload_n 0, 1, 0, 0, 0, 0), some (.iload_n 3, 1, 0, 0, 0, 0), some (.iconst 1, 1, 0, 0, 0, 0), some (.iadd, 1, 0, 0, 0, 0), some (.iaload, 1, 0, 0, 0, 0)]
noncomputable def am_o0_16 : List (Option am_Op) := [some (.aload_n 0, 1, 0, 0, 0, 0), some (.iload_n 3, 1, 0, 0, 0, 0), some (.iconst 2, 1, 0, 0, 0, 0), some (.iadd, 1, 0, 0, 0, 0), some (.iaload, 1, 0, 0, 0, 0), some (.aload_n 0, 1, 0, 0, 0, 0), some (.iload_n 3, 1, 0, 0, 0, 0), some (.iconst 3, 1, 0, 0, 0, 0), some (.iadd, 1, 0, 0, 0, 0), some (.iaload, 1, 0, 0, 0, 0), some (.aload_n 0, 1, 0, 0, 0, 0), some (.iload_n 3, 1, 0, 0, 0, 0), some (.iconst 4, 1, 0, 0, 0, 0), some (.iadd, 1, 0, 0, 0, 0), some (.iaload, 1, 0, 0, 0, 0), some (.aload_n 0, 1, 0, 0, 0, 0)]
noncomputable def am_o0_17 : List (Option am_Op) := [some (.iload_n 3, 1, 0, 0, 0, 0), some (.iconst 5, 1, 0, 0, 0, 0), some (.iadd, 1, 0, 0, 0, 0), some (.iaload, 1, 0, 0, 0, 0), some (.aload_n 0, 1, 0, 0, 0, 0), some (.iload_n 3, 1, 0, 0, 0, 0), some (.bipush 6, 2, 0, 0, 0, 0), none, some (.iadd, 1, 0, 0, 0, 0), some (.iaload, 1, 0, 0, 0, 0), some (.aload_n 0, 1, 0, 0, 0, 0), some (.iload_n 3, 1, 0, 0, 0, 0), some (.bipush 7, 2, 0, 0, 0, 0), none, some (.iadd, 1, 0, 0, 0, 0), some (.iaload, 1, 0, 0, 0, 0)]
noncomputable def am_o0_18 : List (Option am_Op) := [some (.invokevirtual 32, 3, 96, 8, 11, 667), none, none, some (.aload_n 2, 1, 0, 0, 0, 0), some (.aload_n 0, 1, 0, 0, 0, 0), some (.iload_n 3, 1, 0, 0, 0, 0), some (.iconst 1, 1, 0, 0, 0, 0), some (.iadd, 1, 0, 0, 0, 0), some (.iaload, 1, 0, 0, 0, 0), some (.aload_n 0, 1, 0, 0, 0, 0), some (.iload_n 3, 1, 0, 0, 0, 0), some (.iconst 2, 1, 0, 0, 0, 0), some (.iadd, 1, 0, 0, 0, 0), some (.iaload, 1, 0, 0, 0, 0), some (.aload_n 0, 1, 0, 0, 0, 0), some (.iload_n 3, 1, 0, 0, 0, 0)]
noncomputable def am_o0_19 : List (Option am_Op) := [some (.iconst 3, 1, 0, 0, 0, 0), some (.iadd, 1, 0, 0, 0, 0), some (.iaload, 1, 0, 0, 0, 0), some (.aload_n 0, 1, 0, 0, 0, 0), some (.iload_n 3, 1, 0, 0, 0, 0), some (.iconst 4, 1, 0, 0, 0, 0), some (.iadd, 1, 0, 0, 0, 0), some (.iaload, 1, 0, 0, 0, 0), some (.aload_n 0, 1, 0, 0, 0, 0), some (.iload_n 3, 1, 0, 0, 0, 0), some (.iconst 5, 1, 0, 0, 0, 0), some (.iadd, 1, 0, 0, 0, 0), some (.iaload, 1, 0, 0, 0, 0), some (.aload_n 0, 1, 0, 0, 0, 0), some (.iload_n 3, 1, 0, 0, 0, 0), some (.bipush 6, 2, 0, 0, 0, 0)]
noncomputable def am_o0_20 : List (Option am_Op) := [none, some (.iadd, 1, 0, 0, 0, 0), some (.iaload, 1, 0, 0, 0, 0), some (.aload_n 0, 1, 0, 0, 0, 0), some (.iload_n 3, 1, 0, 0, 0, 0), some (.bipush 7, 2, 0, 0, 0, 0), none, some (.iadd, 1, 0, 0, 0, 0), some (.iaload, 1, 0, 0, 0, 0), some (.invokevirtual 36, 3, 145, 8, 12, 1491), none, none, some (.if_icmp .eq 1130, 3, 0, 0, 0, 0), none, none, some (.iconst 0, 1, 0, 0, 0, 0)]
noncomputable def am_o0_21 : List (Option am_Op) := [some (.ireturn, 1, 1, 0, 0, 0), some (.aload_n 1, 1, 0, 0, 0, 0), some (.aload_n 0, 1, 0, 0, 0, 0), some (.iload_n 3, 1, 0, 0, 0, 0), some (.iconst 1, 1, 0, 0, 0, 0), some (.iadd, 1, 0, 0, 0, 0), some (.iaload, 1, 0, 0, 0, 0), some (.aload_n 0, 1, 0, 0, 0, 0), some (.iload_n 3, 1, 0, 0, 0, 0), some (.iconst 2, 1, 0, 0, 0, 0), some (.iadd, 1, 0, 0, 0, 0), some (.iaload, 1, 0, 0, 0, 0), some (.aload_n 0, 1, 0, 0, 0, 0), some (.iload_n 3, 1, 0, 0, 0, 0), some (.iconst 3, 1, 0, 0, 0, 0), some (.iadd, 1, 0, 0, 0, 0)]
noncomputable def am_o0_22 : List (Option am_Op) := [some (.iaload, 1, 0, 0, 0, 0), some (.aload_n 0, 1, 0, 0, 0, 0), some (.iload_n 3, 1, 0, 0, 0, 0), some (.iconst 4, 1, 0, 0, 0, 0), some (.iadd, 1, 0, 0, 0, 0), some (.iaload, 1, 0, 0, 0, 0), some (.ifCond .eq 7, 3, 0, 0, 0, 0), none, none, some (.iconst 1, 1, 0, 0, 0, 0), some (.goto 4, 3, 0, 0, 0, 0), none, none, some (.iconst 0, 1, 0, 0, 0, 0), some (.aload_n 0, 1, 0, 0, 0, 0), some (.iload_n 3, 1, 0, 0, 0, 0)]
noncomputable def am_o0_23 : List (Option am_Op) := [some (.iconst 5, 1, 0, 0, 0, 0), some (.iadd, 1, 0, 0, 0, 0), some (.iaload, 1, 0, 0, 0, 0), some (.aload_n 0, 1, 0, 0, 0, 0), some (.iload_n 3, 1, 0, 0, 0, 0), some (.bipush 6, 2, 0, 0, 0, 0), none, some (.iadd, 1, 0, 0, 0, 0), some (.iaload, 1, 0, 0, 0, 0), some (.aload_n 0, 1, 0, 0, 0, 0), some (.iload_n 3, 1, 0, 0, 0, 0), some (.bipush 7, 2, 0, 0, 0, 0), none, some (.iadd, 1, 0, 0, 0, 0), some (.iaload, 1, 0, 0, 0, 0), some (.invokevirtual 37, 3, 97, 8, 11, 699)]
noncomputable def am_o0_24 : List (Option am_Op) := [none, none, some (.aload_n 2, 1, 0, 0, 0, 0), some (.aload_n 0, 1, 0, 0, 0, 0), some (.iload_n 3, 1, 0, 0, 0, 0), some (.iconst 1, 1, 0, 0, 0, 0), some (.iadd, 1, 0, 0, 0, 0), some (.iaload, 1, 0, 0, 0, 0), some (.aload_n 0, 1, 0, 0, 0, 0), some (.iload_n 3, 1, 0, 0, 0, 0), some (.iconst 2, 1, 0, 0, 0, 0), some (.iadd, 1, 0, 0, 0, 0), some (.iaload, 1, 0, 0, 0, 0), some (.aload_n 0, 1, 0, 0, 0, 0), some (.iload_n 3, 1, 0, 0, 0, 0), some (.iconst 3, 1, 0, 0, 0, 0)]
noncomputable def am_o0_25 : List (Option am_Op) := [some (.iadd, 1, 0, 0, 0, 0), some (.iaload, 1, 0, 0, 0, 0), some (.aload_n 0, 1, 0, 0, 0, 0), some (.iload_n 3, 1, 0, 0, 0, 0), some (.iconst 4, 1, 0, 0, 0, 0), some (.iadd, 1, 0, 0, 0, 0), some (.iaload, 1, 0, 0, 0, 0), some (.ifCond .eq 7, 3, 0, 0, 0, 0), none, none, some (.iconst 1, 1, 0, 0, 0, 0), some (.goto 4, 3, 0, 0, 0, 0), none, none, some (.iconst 0, 1, 0, 0, 0, 0), some (.aload_n 0, 1, 0, 0, 0, 0)]
noncomputable def am_o0_26 : List (Option am_Op) := [some (.iload_n 3, 1, 0, 0, 0, 0), some (.iconst 5, 1, 0, 0, 0, 0), some (.iadd, 1, 0, 0, 0, 0), some (.iaload, 1, 0, 0, 0, 0), some (.aload_n 0, 1, 0, 0, 0, 0), some (.iload_n 3, 1, 0, 0, 0, 0), some (.bipush 6, 2, 0, 0, 0, 0), none, some (.iadd, 1, 0, 0, 0, 0), some (.iaload, 1, 0, 0, 0, 0), some (.aload_n 0, 1, 0, 0, 0, 0), some (.iload_n 3, 1, 0, 0, 0, 0), some (.bipush 7, 2, 0, 0, 0, 0), none, some (.iadd, 1, 0, 0, 0, 0), some (.iaload, 1, 0, 0, 0, 0)]
noncomputable def am_o0_27 : List (Option am_Op) := [some (.invokevirtual 41, 3, 146, 8, 12, 1505), none, none, some (.if_icmp .eq 1027, 3, 0, 0, 0, 0), none, none, some (.iconst 0, 1, 0, 0, 0, 0), some (.ireturn, 1, 1, 0, 0, 0), some (.aload_n 1, 1, 0, 0, 0, 0), some (.aload_n 0, 1, 0, 0, 0, 0), some (.iload_n 3, 1, 0, 0, 0, 0), some (.iconst 1, 1, 0, 0, 0, 0), some (.iadd, 1, 0, 0, 0, 0), some (.iaload, 1, 0, 0, 0, 0), some (.ifCond .eq 7, 3, 0, 0, 0, 0), none]
noncomputable def am_o0_28 : List (Option am_Op) := [none, some (.iconst 1, 1, 0, 0, 0, 0), some (.goto 4, 3, 0, 0, 0, 0), none, none, some (.iconst 0, 1, 0, 0, 0, 0), some (.aload_n 0, 1, 0, 0, 0, 0), some (.iload_n 3, 1, 0, 0, 0, 0), some (.iconst 2, 1, 0, 0, 0, 0), some (.iadd, 1, 0, 0, 0, 0), some (.iaload, 1, 0, 0, 0, 0), some (.aload_n 0, 1, 0, 0, 0, 0), some (.iload_n 3, 1, 0, 0, 0, 0), some (.iconst 3, 1, 0, 0, 0, 0), some (.iadd, 1, 0, 0, 0, 0), some (.iaload, 1, 0, 0, 0, 0)]
noncomputable def am_o0_29 : List (Option am_Op) := [some (.aload_n 0, 1, 0, 0, 0, 0), some (.iload_n 3, 1, 0, 0, 0, 0), some (.iconst 4, 1, 0, 0, 0, 0), some (.iadd, 1, 0, 0, 0, 0), some (.iaload, 1, 0, 0, 0, 0), some (.aload_n 0, 1, 0, 0, 0, 0), some (.iload_n 3, 1, 0, 0, 0, 0), some (.iconst 5, 1, 0, 0, 0, 0), some (.iadd, 1, 0, 0, 0, 0), some (.iaload, 1, 0, 0, 0, 0), some (.aload_n 0, 1, 0, 0, 0, 0), some (.iload_n 3, 1, 0, 0, 0, 0), some (.bipush 6, 2, 0, 0, 0, 0), none, some (.iadd, 1, 0, 0, 0, 0), some (.iaload, 1, 0, 0, 0, 0)]
noncomputable def am_o0_30 : List (Option am_Op) := [some (.aload_n 0, 1, 0, 0, 0, 0), some (.iload_n 3, 1, 0, 0, 0, 0), some (.bipush 7, 2, 0, 0, 0, 0), none, some (.iadd, 1, 0, 0, 0, 0), some (.iaload, 1, 0, 0, 0, 0), some (.invokevirtual 42, 3, 98, 8, 11, 703), none, none, some (.aload_n 2, 1, 0, 0, 0, 0), some (.aload_n 0, 1, 0, 0, 0, 0), some (.iload_n 3, 1, 0, 0, 0, 0), some (.iconst 1, 1, 0, 0, 0, 0), some (.iadd, 1, 0, 0, 0, 0), some (.iaload, 1, 0, 0, 0, 0), some (.ifCond .eq 7, 3, 0, 0, 0, 0)]
noncomputable def am_o0_31 : List (Option am_Op) := [none, none, some (.iconst 1, 1, 0, 0, 0, 0), some (.goto 4, 3, 0, 0, 0, 0), none, none, some (.iconst 0, 1, 0, 0, 0, 0), some (.aload_n 0, 1, 0, 0, 0, 0), some (.iload_n 3, 1, 0, 0, 0, 0), some (.iconst 2, 1, 0, 0, 0, 0), some (.iadd, 1, 0, 0, 0, 0), some (.iaload, 1, 0, 0, 0, 0), some (.aload_n 0, 1, 0, 0, 0, 0), some (.iload_n 3, 1, 0, 0, 0, 0), some (.iconst 3, 1, 0, 0, 0, 0), some (.iadd, 1, 0, 0, 0, 0)]
noncomputable def am_o0_32 : List (Option am_Op) := [some (.iaload, 1, 0, 0, 0, 0), some (.aload_n 0, 1, 0, 0, 0, 0), some (.iload_n 3, 1, 0, 0, 0, 0), some (.iconst 4, 1, 0, 0, 0, 0), some (.iadd, 1, 0, 0, 0, 0), some (.iaload, 1, 0, 0, 0, 0), some (.aload_n 0, 1, 0, 0, 0, 0), some (.iload_n 3, 1, 0, 0, 0, 0), some (.iconst 5, 1, 0, 0, 0, 0), some (.iadd, 1, 0, 0, 0, 0), some (.iaload, 1, 0, 0, 0, 0), some (.aload_n 0, 1, 0, 0, 0, 0), some (.iload_n 3, 1, 0, 0, 0, 0), some (.bipush 6, 2, 0, 0, 0, 0), none, some (.iadd, 1, 0, 0, 0, 0)]
noncomputable def am_o0_33 : List (Option am_Op) := [some (.iaload, 1, 0, 0, 0, 0), some (.aload_n 0, 1, 0, 0, 0, 0), some (.iload_n 3, 1, 0, 0, 0, 0), some (.bipush 7, 2, 0, 0, 0, 0), none, some (.iadd, 1, 0, 0, 0, 0), some (.iaload, 1, 0, 0, 0, 0), some (.invokevirtual 46, 3, 147, 8, 12, 1509), none, none, some (.if_icmp .eq 924, 3, 0, 0, 0, 0), none, none, some (.iconst 0, 1, 0, 0, 0, 0), some (.ireturn, 1, 1, 0, 0, 0), some (.aload_n 1, 1, 0, 0, 0, 0)]
noncomputable def am_o0_34 : List (Option am_Op) := [some (.aload_n 0, 1, 0, 0, 0, 0), some (.iload_n 3, 1, 0, 0, 0, 0), some (.iconst 1, 1, 0, 0, 0, 0), some (.iadd, 1, 0, 0, 0, 0), some (.iaload, 1, 0, 0, 0, 0), some (.invokevirtual 47, 3, 99, 2, 11, 711), none, none, some (.aload_n 2, 1, 0, 0, 0, 0), some (.aload_n 0, 1, 0, 0, 0, 0), some (.iload_n 3, 1, 0, 0, 0, 0), some (.iconst 1, 1, 0, 0, 0, 0), some (.iadd, 1, 0, 0, 0, 0), some (.iaload, 1, 0, 0, 0, 0), some (.invokevirtual 50, 3, 149, 2, 12, 1517), none]
noncomputable def am_o0_35 : List (Option am_Op) := [none, some (.if_icmp .eq 901, 3, 0, 0, 0, 0), none, none, some (.iconst 0, 1, 0, 0, 0, 0), some (.ireturn, 1, 1, 0, 0, 0), some (.aload_n 1, 1, 0, 0, 0, 0), some (.aload_n 0, 1, 0, 0, 0, 0), some (.iload_n 3, 1, 0, 0, 0, 0), some (.iconst 1, 1, 0, 0, 0, 0), some (.iadd, 1, 0, 0, 0, 0), some (.iaload, 1, 0, 0, 0, 0), some (.aload_n 0, 1, 0, 0, 0, 0), some (.iload_n 3, 1, 0, 0, 0, 0), some (.iconst 2, 1, 0, 0, 0, 0), some (.iadd, 1, 0, 0, 0, 0)]
noncomputable def am_o0_36 : List (Option am_Op) := [some (.iaload, 1, 0, 0, 0, 0), some (.aload_n 0, 1, 0, 0, 0, 0), some (.iload_n 3, 1, 0, 0, 0, 0), some (.iconst 3, 1, 0, 0, 0, 0), some (.iadd, 1, 0, 0, 0, 0), some (.iaload, 1, 0, 0, 0, 0), some (.aload_n 0, 1, 0, 0, 0, 0), some (.iload_n 3, 1, 0, 0, 0, 0), some (.iconst 4, 1, 0, 0, 0, 0), some (.iadd, 1, 0, 0, 0, 0), some (.iaload, 1, 0, 0, 0, 0), some (.aload_n 0, 1, 0, 0, 0, 0), some (.iload_n 3, 1, 0, 0, 0, 0), some (.iconst 5, 1, 0, 0, 0, 0), some (.iadd, 1, 0, 0, 0, 0), some (.iaload, 1, 0, 0, 0, 0)]
noncomputable def am_o0_37 : List (Option am_Op) := [some (.invokevirtual 51, 3, 100, 6, 11, 719), none, none, some (.aload_n 2, 1, 0, 0, 0, 0), some (.aload_n 0, 1, 0, 0, 0, 0), some (.iload_n 3, 1, 0, 0, 0, 0), some (.iconst 1, 1, 0, 0, 0, 0), some (.iadd, 1, 0, 0, 0, 0), some (.iaload, 1, 0, 0, 0, 0), some (.aload_n 0, 1, 0, 0, 0, 0), some (.iload_n 3, 1, 0, 0, 0, 0), some (.iconst 2, 1, 0, 0, 0, 0), some (.iadd, 1, 0, 0, 0, 0), some (.iaload, 1, 0, 0, 0, 0), some (.aload_n 0, 1, 0, 0, 0, 0), some (.iload_n 3, 1, 0, 0, 0, 0)]
noncomputable def am_o0_38 : List (Option am_Op) := [some (.iconst 3, 1, 0, 0, 0, 0), some (.iadd, 1, 0, 0, 0, 0), some (.iaload, 1, 0, 0, 0, 0), some (.aload_n 0, 1, 0, 0, 0, 0), some (.iload_n 3, 1, 0, 0, 0, 0), some (.iconst 4, 1, 0, 0, 0, 0), some (.iadd, 1, 0, 0, 0, 0), some (.iaload, 1, 0, 0, 0, 0), some (.aload_n 0, 1, 0, 0, 0, 0), some (.iload_n 3, 1, 0, 0, 0, 0), some (.iconst 5, 1, 0, 0, 0, 0), some (.iadd, 1, 0, 0, 0, 0), some (.iaload, 1, 0, 0, 0, 0), some (.invokevirtual 55, 3, 151, 6, 12, 1525), none, none]
noncomputable def am_o0_39 : List (Option am_Op) := [some (.if_icmp .eq 838, 3, 0, 0, 0, 0), none, none, some (.iconst 0, 1, 0, 0, 0, 0), some (.ireturn, 1, 1, 0, 0, 0), some (.aload_n 1, 1, 0, 0, 0, 0), some (.aload_n 0, 1, 0, 0, 0, 0), some (.iload_n 3, 1, 0, 0, 0, 0), some (.iconst 1, 1, 0, 0, 0, 0), some (.iadd, 1, 0, 0, 0, 0), some (.iaload, 1, 0, 0, 0, 0), some (.aload_n 0, 1, 0, 0, 0, 0), some (.iload_n 3, 1, 0, 0, 0, 0), some (.iconst 2, 1, 0, 0, 0, 0), some (.iadd, 1, 0, 0, 0, 0), some (.iaload, 1, 0, 0, 0, 0)]
noncomputable def am_o0_40 : List (Option am_Op) := [some (.aload_n 0, 1, 0, 0, 0, 0), some (.iload_n 3, 1, 0, 0, 0, 0), some (.iconst 3, 1, 0, 0, 0, 0), some (.iadd, 1, 0, 0, 0, 0), some (.iaload, 1, 0, 0, 0, 0), some (.aload_n 0, 1, 0, 0, 0, 0), some (.iload_n 3, 1, 0, 0, 0, 0), some (.iconst 4, 1, 0, 0, 0, 0), some (.iadd, 1, 0, 0, 0, 0), some (.iaload, 1, 0, 0, 0, 0), some (.invokevirtual 56, 3, 101, 5, 11, 731), none, none, some (.aload_n 2, 1, 0, 0, 0, 0), some (.aload_n 0, 1, 0, 0, 0, 0), some (.iload_n 3, 1, 0, 0, 0, 0)]
noncomputable def am_o0_41 : List (Option am_Op) := [some (.iconst 1, 1, 0, 0, 0, 0), some (.iadd, 1, 0, 0, 0, 0), some (.iaload, 1, 0, 0, 0, 0), some (.aload_n 0, 1, 0, 0, 0, 0), some (.iload_n 3, 1, 0, 0, 0, 0), some (.iconst 2, 1, 0, 0, 0, 0), some (.iadd, 1, 0, 0, 0, 0), some (.iaload, 1, 0, 0, 0, 0), some (.aload_n 0, 1, 0, 0, 0, 0), some (.iload_n 3, 1, 0, 0, 0, 0), some (.iconst 3, 1, 0, 0, 0, 0), some (.iadd, 1, 0, 0, 0, 0), some (.iaload, 1, 0, 0, 0, 0), some (.aload_n 0, 1, 0, 0, 0, 0), some (.iload_n 3, 1, 0, 0, 0, 0), some (.iconst 4, 1, 0, 0, 0, 0)]
noncomputable def am_o0_42 : List (Option am_Op) := [some (.iadd, 1, 0, 0, 0, 0), some (.iaload, 1, 0, 0, 0, 0), some (.invokevirtual 60, 3, 175, 5, 12, 1533), none, none, some (.if_icmp .eq 785, 3, 0, 0, 0, 0), none, none, some (.iconst 0, 1, 0, 0, 0, 0), some (.ireturn, 1, 1, 0, 0, 0), some (.aload_n 1, 1, 0, 0, 0, 0), some (.aload_n 0, 1, 0, 0, 0, 0), some (.iload_n 3, 1, 0, 0, 0, 0), some (.iconst 1, 1, 0, 0, 0, 0), some (.iadd, 1, 0, 0, 0, 0), some (.iaload, 1, 0, 0, 0, 0)]
noncomputable def am_o0_43 : List (Option am_Op) := [some (.aload_n 0, 1, 0, 0, 0, 0), some (.iload_n 3, 1, 0, 0, 0, 0), some (.iconst 2, 1, 0, 0, 0, 0), some (.iadd, 1, 0, 0, 0, 0), some (.iaload, 1, 0, 0, 0, 0), some (.aload_n 0, 1, 0, 0, 0, 0), some (.iload_n 3, 1, 0, 0, 0, 0), some (.iconst 3, 1, 0, 0, 0, 0), some (.iadd, 1, 0, 0, 0, 0), some (.iaload, 1, 0, 0, 0, 0), some (.invokevirtual 61, 3, 102, 4, 11, 819), none, none, some (.aload_n 2, 1, 0, 0, 0, 0), some (.aload_n 0, 1, 0, 0, 0, 0), some (.iload_n 3, 1, 0, 0, 0, 0)]
noncomputable def am_o0_44 : List (Option am_Op) := [some (.iconst 1, 1, 0, 0, 0, 0), some (.iadd, 1, 0, 0, 0, 0), some (.iaload, 1, 0, 0, 0, 0), some (.aload_n 0, 1, 0, 0, 0, 0), some (.iload_n 3, 1, 0, 0, 0, 0), some (.iconst 2, 1, 0, 0, 0, 0), some (.iadd, 1, 0, 0, 0, 0), some (.iaload, 1, 0, 0, 0, 0), some (.aload_n 0, 1, 0, 0, 0, 0), some (.iload_n 3, 1, 0, 0, 0, 0), some (.iconst 3, 1, 0, 0, 0, 0), some (.iadd, 1, 0, 0, 0, 0), some (.iaload, 1, 0, 0, 0, 0), some (.invokevirtual 65, 3, 176, 4, 12, 1632), none, none]
noncomputable def am_o0_45 : List (Option am_Op) := [some (.if_icmp .eq 742, 3, 0, 0, 0, 0), none, none, some (.iconst 0, 1, 0, 0, 0, 0), some (.ireturn, 1, 1, 0, 0, 0), some (.aload_n 1, 1, 0, 0, 0, 0), some (.aload_n 0, 1, 0, 0, 0, 0), some (.iload_n 3, 1, 0, 0, 0, 0), some (.iconst 1, 1, 0, 0, 0, 0), some (.iadd, 1, 0, 0, 0, 0), some (.iaload, 1, 0, 0, 0, 0), some (.aload_n 0, 1, 0, 0, 0, 0), some (.iload_n 3, 1, 0, 0, 0, 0), some (.iconst 2, 1, 0, 0, 0, 0), some (.iadd, 1, 0, 0, 0, 0), some (.iaload, 1, 0, 0, 0, 0)]
noncomputable def am_o0_46 : List (Option am_Op) := [some (.aload_n 0, 1, 0, 0, 0, 0), some (.iload_n 3, 1, 0, 0, 0, 0), some (.iconst 3, 1, 0, 0, 0, 0), some (.iadd, 1, 0, 0, 0, 0), some (.iaload, 1, 0, 0, 0, 0), some (.aload_n 0, 1, 0, 0, 0, 0), some (.iload_n 3, 1, 0, 0, 0, 0), some (.iconst 4, 1, 0, 0, 0, 0), some (.iadd, 1, 0, 0, 0, 0), some (.iaload, 1, 0, 0, 0, 0), some (.invokevirtual 66, 3, 103, 5, 11, 827), none, none, some (.aload_n 2, 1, 0, 0, 0, 0), some (.aload_n 0, 1, 0, 0, 0, 0), some (.iload_n 3, 1, 0, 0, 0, 0)]
noncomputable def am_o0_47 : List (Option am_Op) := [some (.iconst 1, 1, 0, 0, 0, 0), some (.iadd, 1, 0, 0, 0, 0), some (.iaload, 1, 0, 0, 0, 0), some (.aload_n 0, 1, 0, 0, 0, 0), some (.iload_n 3, 1, 0, 0, 0, 0), some (.iconst 2, 1, 0, 0, 0, 0), some (.iadd, 1, 0, 0, 0, 0), some (.iaload, 1, 0, 0, 0, 0), some (.aload_n 0, 1, 0, 0, 0, 0), some (.iload_n 3, 1, 0, 0, 0, 0), some (.iconst 3, 1, 0, 0, 0, 0), some (.iadd, 1, 0, 0, 0, 0), some (.iaload, 1, 0, 0, 0, 0), some (.aload_n 0, 1, 0, 0, 0, 0), some (.iload_n 3, 1, 0, 0, 0, 0), some (.iconst 4, 1, 0, 0, 0, 0)]
noncomputable def am_o0_48 : List (Option am_Op) := [some (.iadd, 1, 0, 0, 0, 0), some (.iaload, 1, 0, 0, 0, 0), some (.invokevirtual 69, 3, 208, 5, 12, 1636), none, none, some (.if_icmp .eq 689, 3, 0, 0, 0, 0), none, none, some (.iconst 0, 1, 0, 0, 0, 0), some (.ireturn, 1, 1, 0, 0, 0), some (.aload_n 1, 1, 0, 0, 0, 0), some (.aload_n 0, 1, 0, 0, 0, 0), some (.iload_n 3, 1, 0, 0, 0, 0), some (.iconst 1, 1, 0, 0, 0, 0), some (.iadd, 1, 0, 0, 0, 0), some (.iaload, 1, 0, 0, 0, 0)]
noncomputable def am_o0_49 : List (Option am_Op) := [some (.aload_n 0, 1, 0, 0, 0, 0), some (.iload_n 3, 1, 0, 0, 0, 0), some (.iconst 2, 1, 0, 0, 0, 0), some (.iadd, 1, 0, 0, 0, 0), some (.iaload, 1, 0, 0, 0, 0), some (.aload_n 0, 1, 0, 0, 0, 0), some (.iload_n 3, 1, 0, 0, 0, 0), some (.iconst 3, 1, 0, 0, 0, 0), some (.iadd, 1, 0, 0, 0, 0), some (.iaload, 1, 0, 0, 0, 0), some (.aload_n 0, 1, 0, 0, 0, 0), some (.iload_n 3, 1, 0, 0, 0, 0), some (.iconst 4, 1, 0, 0, 0, 0), some (.iadd, 1, 0, 0, 0, 0), some (.iaload, 1, 0, 0, 0, 0), some (.invokevirtual 70, 3, 104, 5, 11, 980)]
noncomputable def am_o0_50 : List (Option am_Op) := [none, none, some (.aload_n 2, 1, 0, 0, 0, 0), some (.aload_n 0, 1, 0, 0, 0, 0), some (.iload_n 3, 1, 0, 0, 0, 0), some (.iconst 1, 1, 0, 0, 0, 0), some (.iadd, 1, 0, 0, 0, 0), some (.iaload, 1, 0, 0, 0, 0), some (.aload_n 0, 1, 0, 0, 0, 0), some (.iload_n 3, 1, 0, 0, 0, 0), some (.iconst 2, 1, 0, 0, 0, 0), some (.iadd, 1, 0, 0, 0, 0), some (.iaload, 1, 0, 0, 0, 0), some (.aload_n 0, 1, 0, 0, 0, 0), some (.iload_n 3, 1, 0, 0, 0, 0), some (.iconst 3, 1, 0, 0, 0, 0)]
noncomputable def am_o0_51 : List (Option am_Op) := [some (.iadd, 1, 0, 0, 0, 0), some (.iaload, 1, 0, 0, 0, 0), some (.aload_n 0, 1, 0, 0, 0, 0), some (.iload_n 3, 1, 0, 0, 0, 0), some (.iconst 4, 1, 0, 0, 0, 0), some (.iadd, 1, 0, 0, 0, 0), some (.iaload, 1, 0, 0, 0, 0), some (.invokevirtual 73, 3, 209, 5, 12, 1763), none, none, some (.if_icmp .eq 636, 3, 0, 0, 0, 0), none, none, some (.iconst 0, 1, 0, 0, 0, 0), some (.ireturn, 1, 1, 0, 0, 0), some (.aload_n 1, 1, 0, 0, 0, 0)]
noncomputable def am_o0_52 : List (Option am_Op) := [some (.aload_n 0, 1, 0, 0, 0, 0), some (.iload_n 3, 1, 0, 0, 0, 0), some (.iconst 1, 1, 0, 0, 0, 0), some (.iadd, 1, 0, 0, 0, 0), some (.iaload, 1, 0, 0, 0, 0), some (.aload_n 0, 1, 0, 0, 0, 0), some (.iload_n 3, 1, 0, 0, 0, 0), some (.iconst 2, 1, 0, 0, 0, 0), some (.iadd, 1, 0, 0, 0, 0), some (.iaload, 1, 0, 0, 0, 0), some (.aload_n 0, 1, 0, 0, 0, 0), some (.iload_n 3, 1, 0, 0, 0, 0), some (.iconst 3, 1, 0, 0, 0, 0), some (.iadd, 1, 0, 0, 0, 0), some (.iaload, 1, 0, 0, 0, 0), some (.aload_n 0, 1, 0, 0, 0, 0)]
noncomputable def am_o0_53 : List (Option am_Op) := [some (.iload_n 3, 1, 0, 0, 0, 0), some (.iconst 4, 1, 0, 0, 0, 0), some (.iadd, 1, 0, 0, 0, 0), some (.iaload, 1, 0, 0, 0, 0), some (.invokevirtual 74, 3, 105, 5, 11, 985), none, none, some (.aload_n 2, 1, 0, 0, 0, 0), some (.aload_n 0, 1, 0, 0, 0, 0), some (.iload_n 3, 1, 0, 0, 0, 0), some (.iconst 1, 1, 0, 0, 0, 0), some (.iadd, 1, 0, 0, 0, 0), some (.iaload, 1, 0, 0, 0, 0), some (.aload_n 0, 1, 0, 0, 0, 0), some (.iload_n 3, 1, 0, 0, 0, 0), some (.iconst 2, 1, 0, 0, 0, 0)]
noncomputable def am_o0_54 : List (Option am_Op) := [some (.iadd, 1, 0, 0, 0, 0), some (.iaload, 1, 0, 0, 0, 0), some (.aload_n 0, 1, 0, 0, 0, 0), some (.iload_n 3, 1, 0, 0, 0, 0), some (.iconst 3, 1, 0, 0, 0, 0), some (.iadd, 1, 0, 0, 0, 0), some (.iaload, 1, 0, 0, 0, 0), some (.aload_n 0, 1, 0, 0, 0, 0), some (.iload_n 3, 1, 0, 0, 0, 0), some (.iconst 4, 1, 0, 0, 0, 0), some (.iadd, 1, 0, 0, 0, 0), some (.iaload, 1, 0, 0, 0, 0), some (.invokevirtual 77, 3, 210, 5, 12, 1767), none, none, some (.if_icmp .eq 583, 3, 0, 0, 0, 0)]
noncomputable def am_o0_55 : List (Option am_Op) := [none, none, some (.iconst 0, 1, 0, 0, 0, 0), some (.ireturn, 1, 1, 0, 0, 0), some (.aload_n 1, 1, 0, 0, 0, 0), some (.aload_n 0, 1, 0, 0, 0, 0), some (.iload_n 3, 1, 0, 0, 0, 0), some (.iconst 1, 1, 0, 0, 0, 0), some (.iadd, 1, 0, 0, 0, 0), some (.iaload, 1, 0, 0, 0, 0), some (.aload_n 0, 1, 0, 0, 0, 0), some (.iload_n 3, 1, 0, 0, 0, 0), some (.iconst 2, 1, 0, 0, 0, 0), some (.iadd, 1, 0, 0, 0, 0), some (.iaload, 1, 0, 0, 0, 0), some (.aload_n 0, 1, 0, 0, 0, 0)]
noncomputable def am_o0_56 : List (Option am_Op) := [some (.iload_n 3, 1, 0, 0, 0, 0), some (.iconst 3, 1, 0, 0, 0, 0), some (.iadd, 1, 0, 0, 0, 0), some (.iaload, 1, 0, 0, 0, 0), some (.invokevirtual 78, 3, 106, 4, 11, 989), none, none, some (.aload_n 2, 1, 0, 0, 0, 0), some (.aload_n 0, 1, 0, 0, 0, 0), some (.iload_n 3, 1, 0, 0, 0, 0), some (.iconst 1, 1, 0, 0, 0, 0), some (.iadd, 1, 0, 0, 0, 0), some (.iaload, 1, 0, 0, 0, 0), some (.aload_n 0, 1, 0, 0, 0, 0), some (.iload_n 3, 1, 0, 0, 0, 0), some (.iconst 2, 1, 0, 0, 0, 0)]
noncomputable def am_o0_57 : List (Option am_Op) := [some (.iadd, 1, 0, 0, 0, 0), some (.iaload, 1, 0, 0, 0, 0), some (.aload_n 0, 1, 0, 0, 0, 0), some (.iload_n 3, 1, 0, 0, 0, 0), some (.iconst 3, 1, 0, 0, 0, 0), some (.iadd, 1, 0, 0, 0, 0), some (.iaload, 1, 0, 0, 0, 0), some (.invokevirtual 82, 3, 211, 4, 12, 1771), none, none, some (.if_icmp .eq 540, 3, 0, 0, 0, 0), none, none, some (.iconst 0, 1, 0, 0, 0, 0), some (.ireturn, 1, 1, 0, 0, 0), some (.aload_n 1, 1, 0, 0, 0, 0)]
noncomputable def am_o0_58 : List (Option am_Op) := [some (.aload_n 0, 1, 0, 0, 0, 0), some (.iload_n 3, 1, 0, 0, 0, 0), some (.iconst 1, 1, 0, 0, 0, 0), some (.iadd, 1, 0, 0, 0, 0), some (.iaload, 1, 0, 0, 0, 0), some (.aload_n 0, 1, 0, 0, 0, 0), some (.iload_n 3, 1, 0, 0, 0, 0), some (.iconst 2, 1, 0, 0, 0, 0), some (.iadd, 1, 0, 0, 0, 0), some (.iaload, 1, 0, 0, 0, 0), some (.aload_n 0, 1, 0, 0, 0, 0), some (.iload_n 3, 1, 0, 0, 0, 0), some (.iconst 3, 1, 0, 0, 0, 0), some (.iadd, 1, 0, 0, 0, 0), some (.iaload, 1, 0, 0, 0, 0), some (.invokevirtual 83, 3, 107, 4, 11, 997)]
noncomputable def am_o0_59 : List (Option am_Op) := [none, none, some (.aload_n 2, 1, 0, 0, 0, 0), some (.aload_n 0, 1, 0, 0, 0, 0), some (.iload_n 3, 1, 0, 0, 0, 0), some (.iconst 1, 1, 0, 0, 0, 0), some (.iadd, 1, 0, 0, 0, 0), some (.iaload, 1, 0, 0, 0, 0), some (.aload_n 0, 1, 0, 0, 0, 0), some (.iload_n 3, 1, 0, 0, 0, 0), some (.iconst 2, 1, 0, 0, 0, 0), some (.iadd, 1, 0, 0, 0, 0), some (.iaload, 1, 0, 0, 0, 0), some (.aload_n 0, 1, 0, 0, 0, 0), some (.iload_n 3, 1, 0, 0, 0, 0), some (.iconst 3, 1, 0, 0, 0, 0)]
noncomputable def am_o0_60 : List (Option am_Op) := [some (.iadd, 1, 0, 0, 0, 0), some (.iaload, 1, 0, 0, 0, 0), some (.invokevirtual 86, 3, 214, 4, 12, 1775), none, none, some (.if_icmp .eq 497, 3, 0, 0, 0, 0), none, none, some (.iconst 0, 1, 0, 0, 0, 0), some (.ireturn, 1, 1, 0, 0, 0), some (.aload_n 1, 1, 0, 0, 0, 0), some (.aload_n 0, 1, 0, 0, 0, 0), some (.iload_n 3, 1, 0, 0, 0, 0), some (.iconst 1, 1, 0, 0, 0, 0), some (.iadd, 1, 0, 0, 0, 0), some (.iaload, 1, 0, 0, 0, 0)]
noncomputable def am_o0_61 : List (Option am_Op) := [some (.aload_n 0, 1, 0, 0, 0, 0), some (.iload_n 3, 1, 0, 0, 0, 0), some (.iconst 2, 1, 0, 0, 0, 0), some (.iadd, 1, 0, 0, 0, 0), some (.iaload, 1, 0, 0, 0, 0), some (.invokevirtual 87, 3, 108, 3, 11, 1005), none, none, some (.aload_n 2, 1, 0, 0, 0, 0), some (.aload_n 0, 1, 0, 0, 0, 0), some (.iload_n 3, 1, 0, 0, 0, 0), some (.iconst 1, 1, 0, 0, 0, 0), some (.iadd, 1, 0, 0, 0, 0), some (.iaload, 1, 0, 0, 0, 0), some (.aload_n 0, 1, 0, 0, 0, 0), some (.iload_n 3, 1, 0, 0, 0, 0)]
noncomputable def am_o0_62 : List (Option am_Op) := [some (.iconst 2, 1, 0, 0, 0, 0), some (.iadd, 1, 0, 0, 0, 0), some (.iaload, 1, 0, 0, 0, 0), some (.invokevirtual 90, 3, 215, 3, 12, 1787), none, none, some (.if_icmp .eq 464, 3, 0, 0, 0, 0), none, none, some (.iconst 0, 1, 0, 0, 0, 0), some (.ireturn, 1, 1, 0, 0, 0), some (.aload_n 1, 1, 0, 0, 0, 0), some (.aload_n 0, 1, 0, 0, 0, 0), some (.iload_n 3, 1, 0, 0, 0, 0), some (.iconst 1, 1, 0, 0, 0, 0), some (.iadd, 1, 0, 0, 0, 0)]
noncomputable def am_o0_63 : List (Option am_Op) := [some (.iaload, 1, 0, 0, 0, 0), some (.invokevirtual 91, 3, 109, 2, 11, 1010), none, none, some (.aload_n 2, 1, 0, 0, 0, 0), some (.aload_n 0, 1, 0, 0, 0, 0), some (.iload_n 3, 1, 0, 0, 0, 0), some (.iconst 1, 1, 0, 0, 0, 0), some (.iadd, 1, 0, 0, 0, 0), some (.iaload, 1, 0, 0, 0, 0), some (.invokevirtual 95, 3, 216, 2, 12, 1791), none, none, some (.if_icmp .eq 441, 3, 0, 0, 0, 0), none, none]
noncomputable def am_o0_64 : List (Option am_Op) := [some (.iconst 0, 1, 0, 0, 0, 0), some (.ireturn, 1, 1, 0, 0, 0), some (.aload_n 1, 1, 0, 0, 0, 0), some (.aload_n 0, 1, 0, 0, 0, 0), some (.iload_n 3, 1, 0, 0, 0, 0), some (.iconst 1, 1, 0, 0, 0, 0), some (.iadd, 1, 0, 0, 0, 0), some (.iaload, 1, 0, 0, 0, 0), some (.aload_n 0, 1, 0, 0, 0, 0), some (.iload_n 3, 1, 0, 0, 0, 0), some (.iconst 2, 1, 0, 0, 0, 0), some (.iadd, 1, 0, 0, 0, 0), some (.iaload, 1, 0, 0, 0, 0), some (.aload_n 0, 1, 0, 0, 0, 0), some (.iload_n 3, 1, 0, 0, 0, 0), some (.iconst 3, 1, 0, 0, 0, 0)]
noncomputable def am_o0_65 : List (Option am_Op) := [some (.iadd, 1, 0, 0, 0, 0), some (.iaload, 1, 0, 0, 0, 0), some (.aload_n 0, 1, 0, 0, 0, 0), some (.iload_n 3, 1, 0, 0, 0, 0), some (.iconst 4, 1, 0, 0, 0, 0), some (.iadd, 1, 0, 0, 0, 0), some (.iaload, 1, 0, 0, 0, 0), some (.invokevirtual 96, 3, 110, 5, 11, 1014), none, none, some (.aload_n 2, 1, 0, 0, 0, 0), some (.aload_n 0, 1, 0, 0, 0, 0), some (.iload_n 3, 1, 0, 0, 0, 0), some (.iconst 1, 1, 0, 0, 0, 0), some (.iadd, 1, 0, 0, 0, 0), some (.iaload, 1, 0, 0, 0, 0)]
noncomputable def am_o0_66 : List (Option am_Op) := [some (.aload_n 0, 1, 0, 0, 0, 0), some (.iload_n 3, 1, 0, 0, 0, 0), some (.iconst 2, 1, 0, 0, 0, 0), some (.iadd, 1, 0, 0, 0, 0), some (.iaload, 1, 0, 0, 0, 0), some (.aload_n 0, 1, 0, 0, 0, 0), some (.iload_n 3, 1, 0, 0, 0, 0), some (.iconst 3, 1, 0, 0, 0, 0), some (.iadd, 1, 0, 0, 0, 0), some (.iaload, 1, 0, 0, 0, 0), some (.aload_n 0, 1, 0, 0, 0, 0), some (.iload_n 3, 1, 0, 0, 0, 0), some (.iconst 4, 1, 0, 0, 0, 0), some (.iadd, 1, 0, 0, 0, 0), some (.iaload, 1, 0, 0, 0, 0), some (.invokevirtual 99, 3, 220, 5, 12, 1795)]
noncomputable def am_o0_67 : List (Option am_Op) := [none, none, some (.if_icmp .eq 388, 3, 0, 0, 0, 0), none, none, some (.iconst 0, 1, 0, 0, 0, 0), some (.ireturn, 1, 1, 0, 0, 0), some (.aload_n 1, 1, 0, 0, 0, 0), some (.aload_n 0, 1, 0, 0, 0, 0), some (.iload_n 3, 1, 0, 0, 0, 0), some (.iconst 1, 1, 0, 0, 0, 0), some (.iadd, 1, 0, 0, 0, 0), some (.iaload, 1, 0, 0, 0, 0), some (.aload_n 0, 1, 0, 0, 0, 0), some (.iload_n 3, 1, 0, 0, 0, 0), some (.iconst 2, 1, 0, 0, 0, 0)]
noncomputable def am_o0_68 : List (Option am_Op) := [some (.iadd, 1, 0, 0, 0, 0), some (.iaload, 1, 0, 0, 0, 0), some (.aload_n 0, 1, 0, 0, 0, 0), some (.iload_n 3, 1, 0, 0, 0, 0), some (.iconst 3, 1, 0, 0, 0, 0), some (.iadd, 1, 0, 0, 0, 0), some (.iaload, 1, 0, 0, 0, 0), some (.aload_n 0, 1, 0, 0, 0, 0), some (.iload_n 3, 1, 0, 0, 0, 0), some (.iconst 4, 1, 0, 0, 0, 0), some (.iadd, 1, 0, 0, 0, 0), some (.iaload, 1, 0, 0, 0, 0), some (.invokevirtual 100, 3, 111, 5, 11, 1068), none, none, some (.aload_n 2, 1, 0, 0, 0, 0)]
noncomputable def am_o0_69 : List (Option am_Op) := [some (.aload_n 0, 1, 0, 0, 0, 0), some (.iload_n 3, 1, 0, 0, 0, 0), some (.iconst 1, 1, 0, 0, 0, 0), some (.iadd, 1, 0, 0, 0, 0), some (.iaload, 1, 0, 0, 0, 0), some (.aload_n 0, 1, 0, 0, 0, 0), some (.iload_n 3, 1, 0, 0, 0, 0), some (.iconst 2, 1, 0, 0, 0, 0), some (.iadd, 1, 0, 0, 0, 0), some (.iaload, 1, 0, 0, 0, 0), some (.aload_n 0, 1, 0, 0, 0, 0), some (.iload_n 3, 1, 0, 0, 0, 0), some (.iconst 3, 1, 0, 0, 0, 0), some (.iadd, 1, 0, 0, 0, 0), some (.iaload, 1, 0, 0, 0, 0), some (.aload_n 0, 1, 0, 0, 0, 0)]
noncomputable def am_o0_70 : List (Option am_Op) := [some (.iload_n 3, 1, 0, 0, 0, 0), some (.iconst 4, 1, 0, 0, 0, 0), some (.iadd, 1, 0, 0, 0, 0), some (.iaload, 1, 0, 0, 0, 0), some (.invokevirtual 103, 3, 222, 5, 12, 1812), none, none, some (.if_icmp .eq 335, 3, 0, 0, 0, 0), none, none, some (.iconst 0, 1, 0, 0, 0, 0), some (.ireturn, 1, 1, 0, 0, 0), some (.aload_n 1, 1, 0, 0, 0, 0), some (.aload_n 0, 1, 0, 0, 0, 0), some (.iload_n 3, 1, 0, 0, 0, 0), some (.iconst 1, 1, 0, 0, 0, 0)]
noncomputable def am_o0_71 : List (Option am_Op) := [some (.iadd, 1, 0, 0, 0, 0), some (.iaload, 1, 0, 0, 0, 0), some (.aload_n 0, 1, 0, 0, 0, 0), some (.iload_n 3, 1, 0, 0, 0, 0), some (.iconst 2, 1, 0, 0, 0, 0), some (.iadd, 1, 0, 0, 0, 0), some (.iaload, 1, 0, 0, 0, 0), some (.invokevirtual 104, 3, 112, 3, 11, 1078), none, none, some (.aload_n 2, 1, 0, 0, 0, 0), some (.aload_n 0, 1, 0, 0, 0, 0), some (.iload_n 3, 1, 0, 0, 0, 0), some (.iconst 1, 1, 0, 0, 0, 0), some (.iadd, 1, 0, 0, 0, 0), some (.iaload, 1, 0, 0, 0, 0)]
noncomputable def am_o0_72 : List (Option am_Op) := [some (.aload_n 0, 1, 0, 0, 0, 0), some (.iload_n 3, 1, 0, 0, 0, 0), some (.iconst 2, 1, 0, 0, 0, 0), some (.iadd, 1, 0, 0, 0, 0), some (.iaload, 1, 0, 0, 0, 0), some (.invokevirtual 108, 3, 224, 3, 12, 1820), none, none, some (.if_icmp .eq 302, 3, 0, 0, 0, 0), none, none, some (.iconst 0, 1, 0, 0, 0, 0), some (.ireturn, 1, 1, 0, 0, 0), some (.aload_n 1, 1, 0, 0, 0, 0), some (.aload_n 0, 1, 0, 0, 0, 0), some (.iload_n 3, 1, 0, 0, 0, 0)]
noncomputable def am_o0_73 : List (Option am_Op) := [some (.iconst 1, 1, 0, 0, 0, 0), some (.iadd, 1, 0, 0, 0, 0), some (.iaload, 1, 0, 0, 0, 0), some (.aload_n 0, 1, 0, 0, 0, 0), some (.iload_n 3, 1, 0, 0, 0, 0), some (.iconst 2, 1, 0, 0, 0, 0), some (.iadd, 1, 0, 0, 0, 0), some (.iaload, 1, 0, 0, 0, 0), some (.aload_n 0, 1, 0, 0, 0, 0), some (.iload_n 3, 1, 0, 0, 0, 0), some (.iconst 3, 1, 0, 0, 0, 0), some (.iadd, 1, 0, 0, 0, 0), some (.iaload, 1, 0, 0, 0, 0), some (.aload_n 0, 1, 0, 0, 0, 0), some (.iload_n 3, 1, 0, 0, 0, 0), some (.iconst 4, 1, 0, 0, 0, 0)]
noncomputable def am_o0_74 : List (Option am_Op) := [some (.iadd, 1, 0, 0, 0, 0), some (.iaload, 1, 0, 0, 0, 0), some (.invokevirtual 109, 3, 113, 5, 11, 1086), none, none, some (.aload_n 2, 1, 0, 0, 0, 0), some (.aload_n 0, 1, 0, 0, 0, 0), some (.iload_n 3, 1, 0, 0, 0, 0), some (.iconst 1, 1, 0, 0, 0, 0), some (.iadd, 1, 0, 0, 0, 0), some (.iaload, 1, 0, 0, 0, 0), some (.aload_n 0, 1, 0, 0, 0, 0), some (.iload_n 3, 1, 0, 0, 0, 0), some (.iconst 2, 1, 0, 0, 0, 0), some (.iadd, 1, 0, 0, 0, 0), some (.iaload, 1, 0, 0, 0, 0)]
noncomputable def am_o0_75 : List (Option am_Op) := [some (.aload_n 0, 1, 0, 0, 0, 0), some (.iload_n 3, 1, 0, 0, 0, 0), some (.iconst 3, 1, 0, 0, 0, 0), some (.iadd, 1, 0, 0, 0, 0), some (.iaload, 1, 0, 0, 0, 0), some (.aload_n 0, 1, 0, 0, 0, 0), some (.iload_n 3, 1, 0, 0, 0, 0), some (.iconst 4, 1, 0, 0, 0, 0), some (.iadd, 1, 0, 0, 0, 0), some (.iaload, 1, 0, 0, 0, 0), some (.invokevirtual 113, 3, 226, 5, 12, 1829), none, none, some (.if_icmp .eq 249, 3, 0, 0, 0, 0), none, none]
noncomputable def am_o0_76 : List (Option am_Op) := [some (.iconst 0, 1, 0, 0, 0, 0), some (.ireturn, 1, 1, 0, 0, 0), some (.aload_n 1, 1, 0, 0, 0, 0), some (.aload_n 0, 1, 0, 0, 0, 0), some (.iload_n 3, 1, 0, 0, 0, 0), some (.iconst 1, 1, 0, 0, 0, 0), some (.iadd, 1, 0, 0, 0, 0), some (.iaload, 1, 0, 0, 0, 0), some (.invokevirtual 114, 3, 114, 2, 11, 1098), none, none, some (.aload_n 2, 1, 0, 0, 0, 0), some (.aload_n 0, 1, 0, 0, 0, 0), some (.iload_n 3, 1, 0, 0, 0, 0), some (.iconst 1, 1, 0, 0, 0, 0), some (.iadd, 1, 0, 0, 0, 0)]
noncomputable def am_o0_77 : List (Option am_Op) := [some (.iaload, 1, 0, 0, 0, 0), some (.invokevirtual 117, 3, 234, 2, 12, 1837), none, none, some (.if_icmp .eq 226, 3, 0, 0, 0, 0), none, none, some (.iconst 0, 1, 0, 0, 0, 0), some (.ireturn, 1, 1, 0, 0, 0), some (.aload_n 1, 1, 0, 0, 0, 0), some (.aload_n 0, 1, 0, 0, 0, 0), some (.iload_n 3, 1, 0, 0, 0, 0), some (.iconst 1, 1, 0, 0, 0, 0), some (.iadd, 1, 0, 0, 0, 0), some (.iaload, 1, 0, 0, 0, 0), some (.aload_n 0, 1, 0, 0, 0, 0)]
noncomputable def am_o0_78 : List (Option am_Op) := [some (.iload_n 3, 1, 0, 0, 0, 0), some (.iconst 2, 1, 0, 0, 0, 0), some (.iadd, 1, 0, 0, 0, 0), some (.iaload, 1, 0, 0, 0, 0), some (.invokevirtual 118, 3, 115, 3, 11, 1142), none, none, some (.aload_n 2, 1, 0, 0, 0, 0), some (.aload_n 0, 1, 0, 0, 0, 0), some (.iload_n 3, 1, 0, 0, 0, 0), some (.iconst 1, 1, 0, 0, 0, 0), some (.iadd, 1, 0, 0, 0, 0), some (.iaload, 1, 0, 0, 0, 0), some (.aload_n 0, 1, 0, 0, 0, 0), some (.iload_n 3, 1, 0, 0, 0, 0), some (.iconst 2, 1, 0, 0, 0, 0)]
noncomputable def am_o0_79 : List (Option am_Op) := [some (.iadd, 1, 0, 0, 0, 0), some (.iaload, 1, 0, 0, 0, 0), some (.invokevirtual 121, 3, 235, 3, 12, 1871), none, none, some (.if_icmp .eq 193, 3, 0, 0, 0, 0), none, none, some (.iconst 0, 1, 0, 0, 0, 0), some (.ireturn, 1, 1, 0, 0, 0), some (.aload_n 1, 1, 0, 0, 0, 0), some (.aload_n 0, 1, 0, 0, 0, 0), some (.iload_n 3, 1, 0, 0, 0, 0), some (.iconst 1, 1, 0, 0, 0, 0), some (.iadd, 1, 0, 0, 0, 0), some (.iaload, 1, 0, 0, 0, 0)]
noncomputable def am_o0_80 : List (Option am_Op) := [some (.aload_n 0, 1, 0, 0, 0, 0), some (.iload_n 3, 1, 0, 0, 0, 0), some (.iconst 2, 1, 0, 0, 0, 0), some (.iadd, 1, 0, 0, 0, 0), some (.iaload, 1, 0, 0, 0, 0), some (.invokevirtual 122, 3, 116, 3, 11, 1146), none, none, some (.aload_n 2, 1, 0, 0, 0, 0), some (.aload_n 0, 1, 0, 0, 0, 0), some (.iload_n 3, 1, 0, 0, 0, 0), some (.iconst 1, 1, 0, 0, 0, 0), some (.iadd, 1, 0, 0, 0, 0), some (.iaload, 1, 0, 0, 0, 0), some (.aload_n 0, 1, 0, 0, 0, 0), some (.iload_n 3, 1, 0, 0, 0, 0)]
noncomputable def am_o0_81 : List (Option am_Op) := [some (.iconst 2, 1, 0, 0, 0, 0), some (.iadd, 1, 0, 0, 0, 0), some (.iaload, 1, 0, 0, 0, 0), some (.invokevirtual 125, 3, 236, 3, 12, 1875), none, none, some (.if_icmp .eq 160, 3, 0, 0, 0, 0), none, none, some (.iconst 0, 1, 0, 0, 0, 0), some (.ireturn, 1, 1, 0, 0, 0), some (.aload_n 1, 1, 0, 0, 0, 0), some (.aload_n 0, 1, 0, 0, 0, 0), some (.iload_n 3, 1, 0, 0, 0, 0), some (.iconst 1, 1, 0, 0, 0, 0), some (.iadd, 1, 0, 0, 0, 0)]
noncomputable def am_o0_82 : List (Option am_Op) := [some (.iaload, 1, 0, 0, 0, 0), some (.aload_n 0, 1, 0, 0, 0, 0), some (.iload_n 3, 1, 0, 0, 0, 0), some (.iconst 2, 1, 0, 0, 0, 0), some (.iadd, 1, 0, 0, 0, 0), some (.iaload, 1, 0, 0, 0, 0), some (.aload_n 0, 1, 0, 0, 0, 0), some (.iload_n 3, 1, 0, 0, 0, 0), some (.iconst 3, 1, 0, 0, 0, 0), some (.iadd, 1, 0, 0, 0, 0), some (.iaload, 1, 0, 0, 0, 0), some (.aload_n 0, 1, 0, 0, 0, 0), some (.iload_n 3, 1, 0, 0, 0, 0), some (.iconst 4, 1, 0, 0, 0, 0), some (.iadd, 1, 0, 0, 0, 0), some (.iaload, 1, 0, 0, 0, 0)]
noncomputable def am_o0_83 : List (Option am_Op) := [some (.invokevirtual 126, 3, 117, 5, 11, 1158), none, none, some (.aload_n 2, 1, 0, 0, 0, 0), some (.aload_n 0, 1, 0, 0, 0, 0), some (.iload_n 3, 1, 0, 0, 0, 0), some (.iconst 1, 1, 0, 0, 0, 0), some (.iadd, 1, 0, 0, 0, 0), some (.iaload, 1, 0, 0, 0, 0), some (.aload_n 0, 1, 0, 0, 0, 0), some (.iload_n 3, 1, 0, 0, 0, 0), some (.iconst 2, 1, 0, 0, 0, 0), some (.iadd, 1, 0, 0, 0, 0), some (.iaload, 1, 0, 0, 0, 0), some (.aload_n 0, 1, 0, 0, 0, 0), some (.iload_n 3, 1, 0, 0, 0, 0)]
noncomputable def am_o0_84 : List (Option am_Op) := [some (.iconst 3, 1, 0, 0, 0, 0), some (.iadd, 1, 0, 0, 0, 0), some (.iaload, 1, 0, 0, 0, 0), some (.aload_n 0, 1, 0, 0, 0, 0), some (.iload_n 3, 1, 0, 0, 0, 0), some (.iconst 4, 1, 0, 0, 0, 0), some (.iadd, 1, 0, 0, 0, 0), some (.iaload, 1, 0, 0, 0, 0), some (.invokevirtual 129, 3, 237, 5, 12, 1879), none, none, some (.if_icmp .eq 107, 3, 0, 0, 0, 0), none, none, some (.iconst 0, 1, 0, 0, 0, 0), some (.ireturn, 1, 1, 0, 0, 0)]
noncomputable def am_o0_85 : List (Option am_Op) := [some (.aload_n 1, 1, 0, 0, 0, 0), some (.aload_n 0, 1, 0, 0, 0, 0), some (.iload_n 3, 1, 0, 0, 0, 0), some (.iconst 1, 1, 0, 0, 0, 0), some (.iadd, 1, 0, 0, 0, 0), some (.iaload, 1, 0, 0, 0, 0), some (.invokevirtual 130, 3, 118, 2, 11, 1166), none, none, some (.aload_n 2, 1, 0, 0, 0, 0), some (.aload_n 0, 1, 0, 0, 0, 0), some (.iload_n 3, 1, 0, 0, 0, 0), some (.iconst 1, 1, 0, 0, 0, 0), some (.iadd, 1, 0, 0, 0, 0), some (.iaload, 1, 0, 0, 0, 0), some (.invokevirtual 133, 3, 240, 2, 12, 1883)]
noncomputable def am_o0_86 : List (Option am_Op) := [none, none, some (.if_icmp .eq 84, 3, 0, 0, 0, 0), none, none, some (.iconst 0, 1, 0, 0, 0, 0), some (.ireturn, 1, 1, 0, 0, 0), some (.aload_n 1, 1, 0, 0, 0, 0), some (.aload_n 0, 1, 0, 0, 0, 0), some (.iload_n 3, 1, 0, 0, 0, 0), some (.iconst 1, 1, 0, 0, 0, 0), some (.iadd, 1, 0, 0, 0, 0), some (.iaload, 1, 0, 0, 0, 0), some (.invokevirtual 134, 3, 119, 2, 11, 1184), none, none]
noncomputable def am_o0_87 : List (Option am_Op) := [some (.aload_n 2, 1, 0, 0, 0, 0), some (.aload_n 0, 1, 0, 0, 0, 0), some (.iload_n 3, 1, 0, 0, 0, 0), some (.iconst 1, 1, 0, 0, 0, 0), some (.iadd, 1, 0, 0, 0, 0), some (.iaload, 1, 0, 0, 0, 0), some (.invokevirtual 137, 3, 242, 2, 12, 1895), none, none, some (.if_icmp .eq 61, 3, 0, 0, 0, 0), none, none, some (.iconst 0, 1, 0, 0, 0, 0), some (.ireturn, 1, 1, 0, 0, 0), some (.aload_n 1, 1, 0, 0, 0, 0), some (.aload_n 0, 1, 0, 0, 0, 0)]
noncomputable def am_o0_88 : List (Option am_Op) := [some (.iload_n 3, 1, 0, 0, 0, 0), some (.iconst 1, 1, 0, 0, 0, 0), some (.iadd, 1, 0, 0, 0, 0), some (.iaload, 1, 0, 0, 0, 0), some (.aload_n 0, 1, 0, 0, 0, 0), some (.iload_n 3, 1, 0, 0, 0, 0), some (.iconst 2, 1, 0, 0, 0, 0), some (.iadd, 1, 0, 0, 0, 0), some (.iaload, 1, 0, 0, 0, 0), some (.invokevirtual 138, 3, 120, 3, 11, 1200), none, none, some (.aload_n 2, 1, 0, 0, 0, 0), some (.aload_n 0, 1, 0, 0, 0, 0), some (.iload_n 3, 1, 0, 0, 0, 0), some (.iconst 1, 1, 0, 0, 0, 0)]
noncomputable def am_o0_89 : List (Option am_Op) := [some (.iadd, 1, 0, 0, 0, 0), some (.iaload, 1, 0, 0, 0, 0), some (.aload_n 0, 1, 0, 0, 0, 0), some (.iload_n 3, 1, 0, 0, 0, 0), some (.iconst 2, 1, 0, 0, 0, 0), some (.iadd, 1, 0, 0, 0, 0), some (.iaload, 1, 0, 0, 0, 0), some (.invokevirtual 141, 3, 243, 3, 12, 1903), none, none, some (.if_icmp .eq 28, 3, 0, 0, 0, 0), none, none, some (.iconst 0, 1, 0, 0, 0, 0), some (.ireturn, 1, 1, 0, 0, 0), some (.aload_n 1, 1, 0, 0, 0, 0)]
noncomputable def am_o0_90 : List (Option am_Op) := [some (.aload_n 0, 1, 0, 0, 0, 0), some (.iload_n 3, 1, 0, 0, 0, 0), some (.iconst 1, 1, 0, 0, 0, 0), some (.iadd, 1, 0, 0, 0, 0), some (.iaload, 1, 0, 0, 0, 0), some (.invokevirtual 142, 3, 121, 2, 11, 1204), none, none, some (.aload_n 2, 1, 0, 0, 0, 0), some (.aload_n 0, 1, 0, 0, 0, 0), some (.iload_n 3, 1, 0, 0, 0, 0), some (.iconst 1, 1, 0, 0, 0, 0), some (.iadd, 1, 0, 0, 0, 0), some (.iaload, 1, 0, 0, 0, 0), some (.invokevirtual 145, 3, 244, 2, 12, 1907), none]
noncomputable def am_o0_91 : List (Option am_Op) := [none, some (.if_icmp .eq 5, 3, 0, 0, 0, 0), none, none, some (.iconst 0, 1, 0, 0, 0, 0), some (.ireturn, 1, 1, 0, 0, 0), some (.iinc 3 8, 3, 0, 0, 0, 0), none, none, some (.goto (-1447), 3, 0, 0, 0, 0), none, none, some (.iconst 1, 1, 0, 0, 0, 0), some (.ireturn, 1, 1, 0, 0, 0)]
noncomputable def am_o0 : List (List (Option am_Op)) := [am_o0_0, am_o0_1, am_o0_2, am_o0_3, am_o0_4, am_o0_5, am_o0_6, am_o0_7, am_o0_8, am_o0_9, am_o0_10, am_o0_11, am_o0_12, am_o0_13, am_o0_14, am_o0_15, am_o0_16, am_o0_17, am_o0_18, am_o0_19, am_o0_20, am_o0_21, am_o0_22, am_o0_23, am_o0_24, am_o0_25, am_o0_26, am_o0_27, am_o0_28, am_o0_29, am_o0_30, am_o0_31, am_o0_32, am_o0_33, am_o0_34, am_o0_35, am_o0_36, am_o0_37, am_o0_38, am_o0_39, am_o0_40, am_o0_41, am_o0_42, am_o0_43, am_o0_44, am_o0_45, am_o0_46, am_o0_47, am_o0_48, am_o0_49, am_o0_50, am_o0_51, am_o0_52, am_o0_53, am_o0_54, am_o0_55, am_o0_56, am_o0_57, am_o0_58, am_o0_59, am_o0_60, am_o0_61, am_o0_62, am_o0_63, am_o0_64, am_o0_65, am_o0_66, am_o0_67, am_o0_68, am_o0_69, am_o0_70, am_o0_71, am_o0_72, am_o0_73, am_o0_74, am_o0_75, am_o0_76, am_o0_77, am_o0_78, am_o0_79, am_o0_80, am_o0_81, am_o0_82, am_o0_83, am_o0_84, am_o0_85, am_o0_86, am_o0_87, am_o0_88, am_o0_89, am_o0_90, am_o0_91]
/-- 1: PurseTrace$Choices.set(II)Z -/
noncomputable def am_o1 : List (List (Option am_Op)) := [[some (.aload_n 0, 1, 0, 0, 0, 0), some (.getfield 40, 3, 0, 4, 0, 536), none, none, some (.aload_n 0, 1, 0, 0, 0, 0), some (.getfield 9, 3, 0, 3, 0, 535), none, none, some (.iload_n 1, 1, 0, 0, 0, 0), some (.iaload, 1, 0, 0, 0, 0), some (.ifCond .eq 7, 3, 0, 0, 0, 0), none, none, some (.iconst 1, 1, 0, 0, 0, 0), some (.goto 4, 3, 0, 0, 0, 0), none],
  [none, some (.iconst 0, 1, 0, 0, 0, 0), some (.isub, 1, 0, 0, 0, 0), some (.istore_n 3, 1, 0, 0, 0, 0), some (.iload_n 2, 1, 0, 0, 0, 0), some (.ifCond .eq 10, 3, 0, 0, 0, 0), none, none, some (.iload_n 3, 1, 0, 0, 0, 0), some (.iconst 4, 1, 0, 0, 0, 0), some (.if_icmp .lt 5, 3, 0, 0, 0, 0), none, none, some (.iconst 0, 1, 0, 0, 0, 0), some (.ireturn, 1, 1, 0, 0, 0), some (.aload_n 0, 1, 0, 0, 0, 0)],
  [some (.getfield 9, 3, 0, 3, 0, 535), none, none, some (.iload_n 1, 1, 0, 0, 0, 0), some (.iload_n 2, 1, 0, 0, 0, 0), some (.iastore, 1, 0, 0, 0, 0), some (.aload_n 0, 1, 0, 0, 0, 0), some (.iload_n 3, 1, 0, 0, 0, 0), some (.iload_n 2, 1, 0, 0, 0, 0), some (.ifCond .eq 7, 3, 0, 0, 0, 0), none, none, some (.iconst 1, 1, 0, 0, 0, 0), some (.goto 4, 3, 0, 0, 0, 0), none, none],
  [some (.iconst 0, 1, 0, 0, 0, 0), some (.iadd, 1, 0, 0, 0, 0), some (.putfield 40, 3, 0, 4, 0, 536), none, none, some (.iconst 1, 1, 0, 0, 0, 0), some (.ireturn, 1, 1, 0, 0, 0)]]
/-- 2: PurseTrace$Choices.addBar(II)Z -/
noncomputable def am_o2 : List (List (Option am_Op)) := [[some (.aload_n 0, 1, 0, 0, 0, 0), some (.iload_n 1, 1, 0, 0, 0, 0), some (.iload_n 2, 1, 0, 0, 0, 0), some (.invokevirtual 44, 3, 3, 3, 0, 1094), none, none, some (.ifCond .ne 12, 3, 0, 0, 0, 0), none, none, some (.aload_n 0, 1, 0, 0, 0, 0), some (.getfield 48, 3, 0, 6, 0, 539), none, none, some (.bipush 40, 2, 0, 0, 0, 0), none, some (.if_icmp .lt 5, 3, 0, 0, 0, 0)],
  [none, none, some (.iconst 0, 1, 0, 0, 0, 0), some (.ireturn, 1, 1, 0, 0, 0), some (.aload_n 0, 1, 0, 0, 0, 0), some (.getfield 15, 3, 0, 5, 0, 538), none, none, some (.iload_n 1, 1, 0, 0, 0, 0), some (.dup2, 1, 0, 0, 0, 0), some (.laload, 1, 0, 0, 0, 0), some (.lconst 1, 1, 0, 0, 0, 0), some (.iload_n 2, 1, 0, 0, 0, 0), some (.lshl, 1, 0, 0, 0, 0), some (.lor, 1, 0, 0, 0, 0), some (.lastore, 1, 0, 0, 0, 0)],
  [some (.aload_n 0, 1, 0, 0, 0, 0), some (.getfield 15, 3, 0, 5, 0, 538), none, none, some (.iload_n 2, 1, 0, 0, 0, 0), some (.dup2, 1, 0, 0, 0, 0), some (.laload, 1, 0, 0, 0, 0), some (.lconst 1, 1, 0, 0, 0, 0), some (.iload_n 1, 1, 0, 0, 0, 0), some (.lshl, 1, 0, 0, 0, 0), some (.lor, 1, 0, 0, 0, 0), some (.lastore, 1, 0, 0, 0, 0), some (.aload_n 0, 1, 0, 0, 0, 0), some (.dup, 1, 0, 0, 0, 0), some (.getfield 48, 3, 0, 6, 0, 539), none],
  [none, some (.iconst 1, 1, 0, 0, 0, 0), some (.iadd, 1, 0, 0, 0, 0), some (.putfield 48, 3, 0, 6, 0, 539), none, none, some (.iconst 1, 1, 0, 0, 0, 0), some (.ireturn, 1, 1, 0, 0, 0)]]
/-- 3: PurseTrace$Choices.isBarred(II)Z -/
noncomputable def am_o3 : List (List (Option am_Op)) := [[some (.aload_n 0, 1, 0, 0, 0, 0), some (.getfield 15, 3, 0, 5, 0, 538), none, none, some (.iload_n 1, 1, 0, 0, 0, 0), some (.laload, 1, 0, 0, 0, 0), some (.iload_n 2, 1, 0, 0, 0, 0), some (.lshr, 1, 0, 0, 0, 0), some (.lconst 1, 1, 0, 0, 0, 0), some (.land, 1, 0, 0, 0, 0), some (.lconst 0, 1, 0, 0, 0, 0), some (.lcmp, 1, 0, 0, 0, 0), some (.ifCond .eq 7, 3, 0, 0, 0, 0), none, none, some (.iconst 1, 1, 0, 0, 0, 0)],
  [some (.goto 4, 3, 0, 0, 0, 0), none, none, some (.iconst 0, 1, 0, 0, 0, 0), some (.ireturn, 1, 1, 0, 0, 0)]]
/-- 4: PurseTrace$Choices.rows()I -/
noncomputable def am_o4 : List (List (Option am_Op)) := [[some (.iconst 1, 1, 0, 0, 0, 0), some (.istore_n 1, 1, 0, 0, 0, 0), some (.iconst 0, 1, 0, 0, 0, 0), some (.istore_n 2, 1, 0, 0, 0, 0), some (.iload_n 2, 1, 0, 0, 0, 0), some (.aload_n 0, 1, 0, 0, 0, 0), some (.getfield 40, 3, 0, 4, 0, 536), none, none, some (.if_icmp .ge 13, 3, 0, 0, 0, 0), none, none, some (.iload_n 1, 1, 0, 0, 0, 0), some (.iconst 5, 1, 0, 0, 0, 0), some (.imul, 1, 0, 0, 0, 0), some (.istore_n 1, 1, 0, 0, 0, 0)],
  [some (.iinc 2 1, 3, 0, 0, 0, 0), none, none, some (.goto (-15), 3, 0, 0, 0, 0), none, none, some (.iload_n 1, 1, 0, 0, 0, 0), some (.ireturn, 1, 0, 0, 0, 0)]]
/-- 5: PurseTrace$Choices.prepare(I)V -/
noncomputable def am_o5 : List (List (Option am_Op)) := [[some (.iconst 0, 1, 0, 0, 0, 0), some (.istore_n 2, 1, 0, 0, 0, 0), some (.iconst 0, 1, 0, 0, 0, 0), some (.istore_n 3, 1, 0, 0, 0, 0), some (.iload_n 3, 1, 0, 0, 0, 0), some (.aload_n 0, 1, 0, 0, 0, 0), some (.getfield 28, 3, 0, 0, 0, 532), none, none, some (.getfield 51, 3, 5, 2, 0, 172), none, none, some (.if_icmp .ge 33, 3, 0, 0, 0, 0), none, none, some (.iload_n 2, 1, 0, 0, 0, 0)],
  [some (.iconst 4, 1, 0, 0, 0, 0), some (.if_icmp .ge 28, 3, 0, 0, 0, 0), none, none, some (.aload_n 0, 1, 0, 0, 0, 0), some (.getfield 9, 3, 0, 3, 0, 535), none, none, some (.iload_n 3, 1, 0, 0, 0, 0), some (.iaload, 1, 0, 0, 0, 0), some (.ifCond .eq 13, 3, 0, 0, 0, 0), none, none, some (.aload_n 0, 1, 0, 0, 0, 0), some (.getfield 19, 3, 0, 7, 0, 541), none],
  [none, some (.iload_n 2, 1, 0, 0, 0, 0), some (.iload_n 3, 1, 0, 0, 0, 0), some (.iastore, 1, 0, 0, 0, 0), some (.iinc 2 1, 3, 0, 0, 0, 0), none, none, some (.iinc 3 1, 3, 0, 0, 0, 0), none, none, some (.goto (-38), 3, 0, 0, 0, 0), none, none, some (.aload_n 0, 1, 0, 0, 0, 0), some (.getfield 36, 3, 0, 2, 0, 534), none],
  [none, some (.iload_n 1, 1, 0, 0, 0, 0), some (.iload_n 1, 1, 0, 0, 0, 0), some (.invokevirtual 56, 3, 31, 3, 6, 1110), none, none, some (.aload_n 0, 1, 0, 0, 0, 0), some (.iconst 0, 1, 0, 0, 0, 0), some (.putfield 62, 3, 0, 9, 0, 543), none, none, some (.aload_n 0, 1, 0, 0, 0, 0), some (.getfield 62, 3, 0, 9, 0, 543), none, none, some (.aload_n 0, 1, 0, 0, 0, 0)],
  [some (.getfield 36, 3, 0, 2, 0, 534), none, none, some (.getfield 65, 3, 6, 7, 0, 444), none, none, some (.if_icmp .ge 35, 3, 0, 0, 0, 0), none, none, some (.aload_n 0, 1, 0, 0, 0, 0), some (.aload_n 0, 1, 0, 0, 0, 0), some (.getfield 36, 3, 0, 2, 0, 534), none, none, some (.getfield 68, 3, 6, 6, 0, 441), none],
  [none, some (.aload_n 0, 1, 0, 0, 0, 0), some (.getfield 62, 3, 0, 9, 0, 543), none, none, some (.iaload, 1, 0, 0, 0, 0), some (.invokevirtual 71, 3, 6, 2, 0, 1111), none, none, some (.ifCond .ne 16, 3, 0, 0, 0, 0), none, none, some (.aload_n 0, 1, 0, 0, 0, 0), some (.dup, 1, 0, 0, 0, 0), some (.getfield 62, 3, 0, 9, 0, 543), none],
  [none, some (.iconst 1, 1, 0, 0, 0, 0), some (.iadd, 1, 0, 0, 0, 0), some (.putfield 62, 3, 0, 9, 0, 543), none, none, some (.goto (-43), 3, 0, 0, 0, 0), none, none, some (.aload_n 0, 1, 0, 0, 0, 0), some (.getfield 36, 3, 0, 2, 0, 534), none, none, some (.getfield 75, 3, 6, 4, 0, 436), none, none],
  [some (.invokevirtual 79, 3, 73, 1, 9, 1116), none, none, some (.aload_n 0, 1, 0, 0, 0, 0), some (.getfield 36, 3, 0, 2, 0, 534), none, none, some (.iconst 0, 1, 0, 0, 0, 0), some (.aload_n 0, 1, 0, 0, 0, 0), some (.getfield 62, 3, 0, 9, 0, 543), none, none, some (.invokevirtual 84, 3, 36, 3, 6, 1117), none, none, some (.aload_n 0, 1, 0, 0, 0, 0)],
  [some (.getfield 36, 3, 0, 2, 0, 534), none, none, some (.invokevirtual 87, 3, 34, 1, 6, 1118), none, none, some (.return_, 1, 0, 0, 0, 0)]]
/-- 6: PurseTrace$Choices.isChanged(I)Z -/
noncomputable def am_o6 : List (List (Option am_Op)) := [[some (.aload_n 0, 1, 0, 0, 0, 0), some (.getfield 32, 3, 0, 1, 0, 533), none, none, some (.iload_n 1, 1, 0, 0, 0, 0), some (.invokevirtual 90, 3, 22, 2, 3, 1115), none, none, some (.ifCond .eq 24, 3, 0, 0, 0, 0), none, none, some (.aload_n 0, 1, 0, 0, 0, 0), some (.getfield 9, 3, 0, 3, 0, 535), none, none, some (.aload_n 0, 1, 0, 0, 0, 0)],
  [some (.getfield 32, 3, 0, 1, 0, 533), none, none, some (.getfield 95, 3, 3, 1, 0, 192), none, none, some (.iload_n 1, 1, 0, 0, 0, 0), some (.iaload, 1, 0, 0, 0, 0), some (.iaload, 1, 0, 0, 0, 0), some (.ifCond .eq 7, 3, 0, 0, 0, 0), none, none, some (.iconst 1, 1, 0, 0, 0, 0), some (.goto 4, 3, 0, 0, 0, 0), none, none],
  [some (.iconst 0, 1, 0, 0, 0, 0), some (.ireturn, 1, 1, 0, 0, 0)]]
/-- 7: PurseTrace$Choices.search(II)V -/
noncomputable def am_o7 : List (List (Option am_Op)) := [[some (.aload_n 0, 1, 0, 0, 0, 0), some (.iload_n 2, 1, 0, 0, 0, 0), some (.invokevirtual 98, 3, 5, 2, 0, 1106), none, none, some (.aload_n 0, 1, 0, 0, 0, 0), some (.iconst (-1), 1, 0, 0, 0, 0), some (.putfield 102, 3, 0, 10, 0, 544), none, none, some (.aload_n 0, 1, 0, 0, 0, 0), some (.invokevirtual 105, 3, 4, 1, 0, 1119), none, none, some (.istore_n 3, 1, 0, 0, 0, 0), some (.iconst 0, 1, 0, 0, 0, 0)],
  [some (.istore 4, 2, 0, 0, 0, 0), none, some (.iload 4, 2, 0, 0, 0, 0), none, some (.iload_n 3, 1, 0, 0, 0, 0), some (.if_icmp .ge 58, 3, 0, 0, 0, 0), none, none, some (.aload_n 0, 1, 0, 0, 0, 0), some (.iload 4, 2, 0, 0, 0, 0), none, some (.invokevirtual 109, 3, 9, 2, 0, 1123), none, none, some (.aload_n 0, 1, 0, 0, 0, 0), some (.invokevirtual 112, 3, 10, 1, 0, 1127)],
  [none, none, some (.ifCond .eq 39, 3, 0, 0, 0, 0), none, none, some (.aload_n 0, 1, 0, 0, 0, 0), some (.iload_n 1, 1, 0, 0, 0, 0), some (.invokevirtual 116, 3, 11, 2, 0, 1131), none, none, some (.istore 5, 2, 0, 0, 0, 0), none, some (.iload 5, 2, 0, 0, 0, 0), none, some (.aload_n 0, 1, 0, 0, 0, 0), some (.getfield 102, 3, 0, 10, 0, 544)],
  [none, none, some (.if_icmp .le 23, 3, 0, 0, 0, 0), none, none, some (.aload_n 0, 1, 0, 0, 0, 0), some (.iload 5, 2, 0, 0, 0, 0), none, some (.putfield 102, 3, 0, 10, 0, 544), none, none, some (.aload_n 0, 1, 0, 0, 0, 0), some (.getfield 22, 3, 0, 8, 0, 542), none, none, some (.iconst 0, 1, 0, 0, 0, 0)],
  [some (.aload_n 0, 1, 0, 0, 0, 0), some (.getfield 25, 3, 0, 11, 0, 546), none, none, some (.iconst 0, 1, 0, 0, 0, 0), some (.iconst 4, 1, 0, 0, 0, 0), some (.invokestatic 120, 3, 9999, 5, 3, 1141), none, none, some (.iinc 4 1, 3, 0, 0, 0, 0), none, none, some (.goto (-58), 3, 0, 0, 0, 0), none, none, some (.return_, 1, 0, 0, 0, 0)]]
/-- 8: PurseTrace$Choices.spellFromFirst(I)V -/
noncomputable def am_o8 : List (List (Option am_Op)) := [[some (.iload_n 1, 1, 0, 0, 0, 0), some (.istore_n 2, 1, 0, 0, 0, 0), some (.iconst 0, 1, 0, 0, 0, 0), some (.istore_n 3, 1, 0, 0, 0, 0), some (.iload_n 3, 1, 0, 0, 0, 0), some (.aload_n 0, 1, 0, 0, 0, 0), some (.getfield 40, 3, 0, 4, 0, 536), none, none, some (.if_icmp .ge 27, 3, 0, 0, 0, 0), none, none, some (.iload_n 3, 1, 0, 0, 0, 0), some (.iconst 4, 1, 0, 0, 0, 0), some (.if_icmp .ge 22, 3, 0, 0, 0, 0), none],
  [none, some (.aload_n 0, 1, 0, 0, 0, 0), some (.getfield 22, 3, 0, 8, 0, 542), none, none, some (.iload_n 3, 1, 0, 0, 0, 0), some (.iload_n 2, 1, 0, 0, 0, 0), some (.iconst 5, 1, 0, 0, 0, 0), some (.irem, 1, 0, 0, 0, 0), some (.iastore, 1, 0, 0, 0, 0), some (.iload_n 2, 1, 0, 0, 0, 0), some (.iconst 5, 1, 0, 0, 0, 0), some (.idiv, 1, 0, 0, 0, 0), some (.istore_n 2, 1, 0, 0, 0, 0), some (.iinc 3 1, 3, 0, 0, 0, 0), none],
  [none, some (.goto (-29), 3, 0, 0, 0, 0), none, none, some (.return_, 1, 0, 0, 0, 0)]]
/-- 9: PurseTrace$Choices.spellFromLast(I)V -/
noncomputable def am_o9 : List (List (Option am_Op)) := [[some (.iload_n 1, 1, 0, 0, 0, 0), some (.istore_n 2, 1, 0, 0, 0, 0), some (.aload_n 0, 1, 0, 0, 0, 0), some (.getfield 40, 3, 0, 4, 0, 536), none, none, some (.iconst 1, 1, 0, 0, 0, 0), some (.isub, 1, 0, 0, 0, 0), some (.istore_n 3, 1, 0, 0, 0, 0), some (.iload_n 3, 1, 0, 0, 0, 0), some (.ifCond .lt 22, 3, 0, 0, 0, 0), none, none, some (.aload_n 0, 1, 0, 0, 0, 0), some (.getfield 22, 3, 0, 8, 0, 542), none],
  [none, some (.iload_n 3, 1, 0, 0, 0, 0), some (.iload_n 2, 1, 0, 0, 0, 0), some (.iconst 5, 1, 0, 0, 0, 0), some (.irem, 1, 0, 0, 0, 0), some (.iastore, 1, 0, 0, 0, 0), some (.iload_n 2, 1, 0, 0, 0, 0), some (.iconst 5, 1, 0, 0, 0, 0), some (.idiv, 1, 0, 0, 0, 0), some (.istore_n 2, 1, 0, 0, 0, 0), some (.iinc 3 (-1), 3, 0, 0, 0, 0), none, none, some (.goto (-20), 3, 0, 0, 0, 0), none, none],
  [some (.return_, 1, 0, 0, 0, 0)]]
/-- 10: PurseTrace$Choices.isLawful()Z -/
noncomputable def am_o10 : List (List (Option am_Op)) := [[some (.iconst 0, 1, 0, 0, 0, 0), some (.istore_n 1, 1, 0, 0, 0, 0), some (.iload_n 1, 1, 0, 0, 0, 0), some (.aload_n 0, 1, 0, 0, 0, 0), some (.getfield 40, 3, 0, 4, 0, 536), none, none, some (.if_icmp .ge 91, 3, 0, 0, 0, 0), none, none, some (.aload_n 0, 1, 0, 0, 0, 0), some (.getfield 9, 3, 0, 3, 0, 535), none, none, some (.aload_n 0, 1, 0, 0, 0, 0), some (.getfield 19, 3, 0, 7, 0, 541)],
  [none, none, some (.iload_n 1, 1, 0, 0, 0, 0), some (.iaload, 1, 0, 0, 0, 0), some (.iaload, 1, 0, 0, 0, 0), some (.aload_n 0, 1, 0, 0, 0, 0), some (.getfield 22, 3, 0, 8, 0, 542), none, none, some (.iload_n 1, 1, 0, 0, 0, 0), some (.iaload, 1, 0, 0, 0, 0), some (.ishr, 1, 0, 0, 0, 0), some (.iconst 1, 1, 0, 0, 0, 0), some (.iand, 1, 0, 0, 0, 0), some (.ifCond .ne 5, 3, 0, 0, 0, 0), none],
  [none, some (.iconst 0, 1, 0, 0, 0, 0), some (.ireturn, 1, 1, 0, 0, 0), some (.iload_n 1, 1, 0, 0, 0, 0), some (.iconst 1, 1, 0, 0, 0, 0), some (.iadd, 1, 0, 0, 0, 0), some (.istore_n 2, 1, 0, 0, 0, 0), some (.iload_n 2, 1, 0, 0, 0, 0), some (.aload_n 0, 1, 0, 0, 0, 0), some (.getfield 40, 3, 0, 4, 0, 536), none, none, some (.if_icmp .ge 48, 3, 0, 0, 0, 0), none, none, some (.aload_n 0, 1, 0, 0, 0, 0)],
  [some (.aload_n 0, 1, 0, 0, 0, 0), some (.getfield 19, 3, 0, 7, 0, 541), none, none, some (.iload_n 1, 1, 0, 0, 0, 0), some (.iaload, 1, 0, 0, 0, 0), some (.iconst 5, 1, 0, 0, 0, 0), some (.imul, 1, 0, 0, 0, 0), some (.aload_n 0, 1, 0, 0, 0, 0), some (.getfield 22, 3, 0, 8, 0, 542), none, none, some (.iload_n 1, 1, 0, 0, 0, 0), some (.iaload, 1, 0, 0, 0, 0), some (.iadd, 1, 0, 0, 0, 0), some (.aload_n 0, 1, 0, 0, 0, 0)],
  [some (.getfield 19, 3, 0, 7, 0, 541), none, none, some (.iload_n 2, 1, 0, 0, 0, 0), some (.iaload, 1, 0, 0, 0, 0), some (.iconst 5, 1, 0, 0, 0, 0), some (.imul, 1, 0, 0, 0, 0), some (.aload_n 0, 1, 0, 0, 0, 0), some (.getfield 22, 3, 0, 8, 0, 542), none, none, some (.iload_n 2, 1, 0, 0, 0, 0), some (.iaload, 1, 0, 0, 0, 0), some (.iadd, 1, 0, 0, 0, 0), some (.invokevirtual 44, 3, 3, 3, 0, 1094), none],
  [none, some (.ifCond .eq 5, 3, 0, 0, 0, 0), none, none, some (.iconst 0, 1, 0, 0, 0, 0), some (.ireturn, 1, 1, 0, 0, 0), some (.iinc 2 1, 3, 0, 0, 0, 0), none, none, some (.goto (-50), 3, 0, 0, 0, 0), none, none, some (.iinc 1 1, 3, 0, 0, 0, 0), none, none, some (.goto (-93), 3, 0, 0, 0, 0)],
  [none, none, some (.iconst 1, 1, 0, 0, 0, 0), some (.ireturn, 1, 1, 0, 0, 0)]]
/-- 11: PurseTrace$Choices.worth(I)I -/
noncomputable def am_o11 : List (List (Option am_Op)) := [[some (.iconst 0, 1, 0, 0, 0, 0), some (.istore_n 2, 1, 0, 0, 0, 0), some (.iload_n 2, 1, 0, 0, 0, 0), some (.aload_n 0, 1, 0, 0, 0, 0), some (.getfield 40, 3, 0, 4, 0, 536), none, none, some (.if_icmp .ge 29, 3, 0, 0, 0, 0), none, none, some (.aload_n 0, 1, 0, 0, 0, 0), some (.getfield 36, 3, 0, 2, 0, 534), none, none, some (.getfield 126, 3, 6, 8, 0, 447), none],
  [none, some (.aload_n 0, 1, 0, 0, 0, 0), some (.getfield 19, 3, 0, 7, 0, 541), none, none, some (.iload_n 2, 1, 0, 0, 0, 0), some (.iaload, 1, 0, 0, 0, 0), some (.aload_n 0, 1, 0, 0, 0, 0), some (.getfield 22, 3, 0, 8, 0, 542), none, none, some (.iload_n 2, 1, 0, 0, 0, 0), some (.iaload, 1, 0, 0, 0, 0), some (.iastore, 1, 0, 0, 0, 0), some (.iinc 2 1, 3, 0, 0, 0, 0), none],
  [none, some (.goto (-31), 3, 0, 0, 0, 0), none, none, some (.aload_n 0, 1, 0, 0, 0, 0), some (.getfield 36, 3, 0, 2, 0, 534), none, none, some (.invokevirtual 129, 3, 35, 1, 6, 1135), none, none, some (.aload_n 0, 1, 0, 0, 0, 0), some (.getfield 36, 3, 0, 2, 0, 534), none, none, some (.aload_n 0, 1, 0, 0, 0, 0)],
  [some (.getfield 62, 3, 0, 9, 0, 543), none, none, some (.aload_n 0, 1, 0, 0, 0, 0), some (.getfield 36, 3, 0, 2, 0, 534), none, none, some (.getfield 65, 3, 6, 7, 0, 444), none, none, some (.invokevirtual 84, 3, 36, 3, 6, 1117), none, none, some (.aload_n 0, 1, 0, 0, 0, 0), some (.getfield 36, 3, 0, 2, 0, 534), none],
  [none, some (.iload_n 1, 1, 0, 0, 0, 0), some (.invokevirtual 132, 3, 46, 2, 6, 1136), none, none, some (.ireturn, 1, 0, 0, 0, 0)]]
/-- 12: PurseTrace$Debts.add(III)I -/
noncomputable def am_o12 : List (List (Option am_Op)) := [[some (.aload_n 0, 1, 0, 0, 0, 0), some (.getfield 27, 3, 1, 3, 0, 583), none, none, some (.bipush 40, 2, 0, 0, 0, 0), none, some (.if_icmp .lt 5, 3, 0, 0, 0, 0), none, none, some (.iconst (-1), 1, 0, 0, 0, 0), some (.ireturn, 1, 0, 0, 0, 0), some (.aload_n 0, 1, 0, 0, 0, 0), some (.getfield 9, 3, 1, 0, 0, 579), none, none, some (.aload_n 0, 1, 0, 0, 0, 0)],
  [some (.getfield 27, 3, 1, 3, 0, 583), none, none, some (.iload_n 1, 1, 0, 0, 0, 0), some (.iastore, 1, 0, 0, 0, 0), some (.aload_n 0, 1, 0, 0, 0, 0), some (.getfield 15, 3, 1, 1, 0, 581), none, none, some (.aload_n 0, 1, 0, 0, 0, 0), some (.getfield 27, 3, 1, 3, 0, 583), none, none, some (.iload_n 2, 1, 0, 0, 0, 0), some (.iastore, 1, 0, 0, 0, 0), some (.aload_n 0, 1, 0, 0, 0, 0)],
  [some (.getfield 18, 3, 1, 2, 0, 582), none, none, some (.aload_n 0, 1, 0, 0, 0, 0), some (.getfield 27, 3, 1, 3, 0, 583), none, none, some (.iload_n 3, 1, 0, 0, 0, 0), some (.iastore, 1, 0, 0, 0, 0), some (.aload_n 0, 1, 0, 0, 0, 0), some (.dup, 1, 0, 0, 0, 0), some (.getfield 27, 3, 1, 3, 0, 583), none, none, some (.iconst 1, 1, 0, 0, 0, 0), some (.iadd, 1, 0, 0, 0, 0)],
  [some (.putfield 27, 3, 1, 3, 0, 583), none, none, some (.aload_n 0, 1, 0, 0, 0, 0), some (.getfield 27, 3, 1, 3, 0, 583), none, none, some (.iconst 1, 1, 0, 0, 0, 0), some (.isub, 1, 0, 0, 0, 0), some (.ireturn, 1, 0, 0, 0, 0)]]
/-- 13: PurseTrace$Debts.settle(II)I -/
noncomputable def am_o13 : List (List (Option am_Op)) := [[some (.iload_n 2, 1, 0, 0, 0, 0), some (.istore_n 3, 1, 0, 0, 0, 0), some (.iconst 0, 1, 0, 0, 0, 0), some (.istore 4, 2, 0, 0, 0, 0), none, some (.iload 4, 2, 0, 0, 0, 0), none, some (.aload_n 0, 1, 0, 0, 0, 0), some (.getfield 18, 3, 1, 2, 0, 582), none, none, some (.iload_n 1, 1, 0, 0, 0, 0), some (.iaload, 1, 0, 0, 0, 0), some (.if_icmp .gt 68, 3, 0, 0, 0, 0), none, none],
  [some (.aload_n 0, 1, 0, 0, 0, 0), some (.aload_n 0, 1, 0, 0, 0, 0), some (.getfield 9, 3, 1, 0, 0, 579), none, none, some (.iload_n 1, 1, 0, 0, 0, 0), some (.iaload, 1, 0, 0, 0, 0), some (.iload 4, 2, 0, 0, 0, 0), none, some (.invokevirtual 31, 3, 14, 3, 1, 1178), none, none, some (.istore 5, 2, 0, 0, 0, 0), none, some (.iload 5, 2, 0, 0, 0, 0), none],
  [some (.iload_n 3, 1, 0, 0, 0, 0), some (.if_icmp .le 37, 3, 0, 0, 0, 0), none, none, some (.iload_n 3, 1, 0, 0, 0, 0), some (.aload_n 0, 1, 0, 0, 0, 0), some (.getfield 21, 3, 1, 4, 0, 585), none, none, some (.aload_n 0, 1, 0, 0, 0, 0), some (.getfield 24, 3, 1, 5, 0, 586), none, none, some (.invokestatic 35, 3, 133, 3, 2, 1183), none, none],
  [some (.iload 4, 2, 0, 0, 0, 0), none, some (.aload_n 0, 1, 0, 0, 0, 0), some (.getfield 18, 3, 1, 2, 0, 582), none, none, some (.iload_n 1, 1, 0, 0, 0, 0), some (.iaload, 1, 0, 0, 0, 0), some (.if_icmp .ne 12, 3, 0, 0, 0, 0), none, none, some (.aload_n 0, 1, 0, 0, 0, 0), some (.getfield 24, 3, 1, 5, 0, 586), none, none, some (.iload_n 1, 1, 0, 0, 0, 0)],
  [some (.iaload, 1, 0, 0, 0, 0), some (.goto 4, 3, 0, 0, 0, 0), none, none, some (.iconst 0, 1, 0, 0, 0, 0), some (.ireturn, 1, 0, 0, 0, 0), some (.iload_n 3, 1, 0, 0, 0, 0), some (.iload 5, 2, 0, 0, 0, 0), none, some (.isub, 1, 0, 0, 0, 0), some (.istore_n 3, 1, 0, 0, 0, 0), some (.iinc 4 1, 3, 0, 0, 0, 0), none, none, some (.goto (-73), 3, 0, 0, 0, 0), none],
  [none, some (.aload_n 0, 1, 0, 0, 0, 0), some (.getfield 15, 3, 1, 1, 0, 581), none, none, some (.iload_n 1, 1, 0, 0, 0, 0), some (.iaload, 1, 0, 0, 0, 0), some (.ireturn, 1, 0, 0, 0, 0)]]
/-- 14: PurseTrace$Debts.gather(II)I -/
noncomputable def am_o14 : List (List (Option am_Op)) := [[some (.aload_n 0, 1, 0, 0, 0, 0), some (.getfield 21, 3, 1, 4, 0, 585), none, none, some (.iconst 0, 1, 0, 0, 0, 0), some (.invokestatic 39, 3, 245, 2, 1, 1182), none, none, some (.iconst 0, 1, 0, 0, 0, 0), some (.istore_n 3, 1, 0, 0, 0, 0), some (.iconst 0, 1, 0, 0, 0, 0), some (.istore 4, 2, 0, 0, 0, 0), none, some (.iload 4, 2, 0, 0, 0, 0), none, some (.aload_n 0, 1, 0, 0, 0, 0)],
  [some (.getfield 27, 3, 1, 3, 0, 583), none, none, some (.if_icmp .ge 55, 3, 0, 0, 0, 0), none, none, some (.aload_n 0, 1, 0, 0, 0, 0), some (.getfield 9, 3, 1, 0, 0, 579), none, none, some (.iload 4, 2, 0, 0, 0, 0), none, some (.iaload, 1, 0, 0, 0, 0), some (.iload_n 1, 1, 0, 0, 0, 0), some (.if_icmp .ne 38, 3, 0, 0, 0, 0), none],
  [none, some (.aload_n 0, 1, 0, 0, 0, 0), some (.getfield 18, 3, 1, 2, 0, 582), none, none, some (.iload 4, 2, 0, 0, 0, 0), none, some (.iaload, 1, 0, 0, 0, 0), some (.iload_n 2, 1, 0, 0, 0, 0), some (.if_icmp .ne 27, 3, 0, 0, 0, 0), none, none, some (.aload_n 0, 1, 0, 0, 0, 0), some (.getfield 21, 3, 1, 4, 0, 585), none, none],
  [some (.iload 4, 2, 0, 0, 0, 0), none, some (.aload_n 0, 1, 0, 0, 0, 0), some (.getfield 15, 3, 1, 1, 0, 581), none, none, some (.iload 4, 2, 0, 0, 0, 0), none, some (.iaload, 1, 0, 0, 0, 0), some (.iastore, 1, 0, 0, 0, 0), some (.iload_n 3, 1, 0, 0, 0, 0), some (.aload_n 0, 1, 0, 0, 0, 0), some (.getfield 15, 3, 1, 1, 0, 581), none, none, some (.iload 4, 2, 0, 0, 0, 0)],
  [none, some (.iaload, 1, 0, 0, 0, 0), some (.iadd, 1, 0, 0, 0, 0), some (.istore_n 3, 1, 0, 0, 0, 0), some (.iinc 4 1, 3, 0, 0, 0, 0), none, none, some (.goto (-58), 3, 0, 0, 0, 0), none, none, some (.iload_n 3, 1, 0, 0, 0, 0), some (.ireturn, 1, 0, 0, 0, 0)]]
/-- 15: PurseTrace$Knowing.add(IIII)Z -/
noncomputable def am_o15 : List (List (Option am_Op)) := [[some (.aload_n 0, 1, 0, 0, 0, 0), some (.getfield 24, 3, 2, 4, 0, 259), none, none, some (.bipush 100, 2, 0, 0, 0, 0), none, some (.if_icmp .lt 5, 3, 0, 0, 0, 0), none, none, some (.iconst 0, 1, 0, 0, 0, 0), some (.ireturn, 1, 1, 0, 0, 0), some (.aload_n 0, 1, 0, 0, 0, 0), some (.getfield 9, 3, 2, 0, 0, 255), none, none, some (.aload_n 0, 1, 0, 0, 0, 0)],
  [some (.getfield 24, 3, 2, 4, 0, 259), none, none, some (.iload_n 1, 1, 0, 0, 0, 0), some (.iastore, 1, 0, 0, 0, 0), some (.aload_n 0, 1, 0, 0, 0, 0), some (.getfield 15, 3, 2, 1, 0, 256), none, none, some (.aload_n 0, 1, 0, 0, 0, 0), some (.getfield 24, 3, 2, 4, 0, 259), none, none, some (.iload_n 2, 1, 0, 0, 0, 0), some (.iastore, 1, 0, 0, 0, 0), some (.aload_n 0, 1, 0, 0, 0, 0)],
  [some (.getfield 18, 3, 2, 2, 0, 257), none, none, some (.aload_n 0, 1, 0, 0, 0, 0), some (.getfield 24, 3, 2, 4, 0, 259), none, none, some (.iload_n 3, 1, 0, 0, 0, 0), some (.iastore, 1, 0, 0, 0, 0), some (.aload_n 0, 1, 0, 0, 0, 0), some (.getfield 21, 3, 2, 3, 0, 258), none, none, some (.aload_n 0, 1, 0, 0, 0, 0), some (.getfield 24, 3, 2, 4, 0, 259), none],
  [none, some (.iload 4, 2, 0, 0, 0, 0), none, some (.iastore, 1, 0, 0, 0, 0), some (.aload_n 0, 1, 0, 0, 0, 0), some (.dup, 1, 0, 0, 0, 0), some (.getfield 24, 3, 2, 4, 0, 259), none, none, some (.iconst 1, 1, 0, 0, 0, 0), some (.iadd, 1, 0, 0, 0, 0), some (.putfield 24, 3, 2, 4, 0, 259), none, none, some (.iconst 1, 1, 0, 0, 0, 0), some (.ireturn, 1, 1, 0, 0, 0)]]
/-- 16: PurseTrace$Knowing.knew(IIII)Z -/
noncomputable def am_o16 : List (List (Option am_Op)) := [[some (.iconst 0, 1, 0, 0, 0, 0), some (.istore 5, 2, 0, 0, 0, 0), none, some (.iload 5, 2, 0, 0, 0, 0), none, some (.aload_n 0, 1, 0, 0, 0, 0), some (.getfield 24, 3, 2, 4, 0, 259), none, none, some (.if_icmp .ge 56, 3, 0, 0, 0, 0), none, none, some (.aload_n 0, 1, 0, 0, 0, 0), some (.getfield 9, 3, 2, 0, 0, 255), none, none],
  [some (.iload 5, 2, 0, 0, 0, 0), none, some (.iaload, 1, 0, 0, 0, 0), some (.iload_n 1, 1, 0, 0, 0, 0), some (.if_icmp .ne 39, 3, 0, 0, 0, 0), none, none, some (.aload_n 0, 1, 0, 0, 0, 0), some (.getfield 15, 3, 2, 1, 0, 256), none, none, some (.iload 5, 2, 0, 0, 0, 0), none, some (.iaload, 1, 0, 0, 0, 0), some (.iload_n 2, 1, 0, 0, 0, 0), some (.if_icmp .ne 28, 3, 0, 0, 0, 0)],
  [none, none, some (.aload_n 0, 1, 0, 0, 0, 0), some (.getfield 18, 3, 2, 2, 0, 257), none, none, some (.iload 5, 2, 0, 0, 0, 0), none, some (.iaload, 1, 0, 0, 0, 0), some (.iload_n 3, 1, 0, 0, 0, 0), some (.if_icmp .gt 17, 3, 0, 0, 0, 0), none, none, some (.aload_n 0, 1, 0, 0, 0, 0), some (.getfield 21, 3, 2, 3, 0, 258), none],
  [none, some (.iload 5, 2, 0, 0, 0, 0), none, some (.iaload, 1, 0, 0, 0, 0), some (.iload 4, 2, 0, 0, 0, 0), none, some (.if_icmp .gt 5, 3, 0, 0, 0, 0), none, none, some (.iconst 1, 1, 0, 0, 0, 0), some (.ireturn, 1, 1, 0, 0, 0), some (.iinc 5 1, 3, 0, 0, 0, 0), none, none, some (.goto (-59), 3, 0, 0, 0, 0), none],
  [none, some (.iconst 0, 1, 0, 0, 0, 0), some (.ireturn, 1, 1, 0, 0, 0)]]
/-- 17: PurseTrace$Lines.begin(IIIIZ)V -/
noncomputable def am_o17 : List (List (Option am_Op)) := [[some (.aload_n 0, 1, 0, 0, 0, 0), some (.getfield 46, 3, 3, 11, 0, 220), none, none, some (.bipush 100, 2, 0, 0, 0, 0), none, some (.if_icmp .ge 55, 3, 0, 0, 0, 0), none, none, some (.aload_n 0, 1, 0, 0, 0, 0), some (.getfield 9, 3, 3, 0, 0, 188), none, none, some (.aload_n 0, 1, 0, 0, 0, 0), some (.getfield 46, 3, 3, 11, 0, 220), none],
  [none, some (.iload_n 1, 1, 0, 0, 0, 0), some (.iastore, 1, 0, 0, 0, 0), some (.aload_n 0, 1, 0, 0, 0, 0), some (.getfield 15, 3, 3, 1, 0, 191), none, none, some (.aload_n 0, 1, 0, 0, 0, 0), some (.getfield 46, 3, 3, 11, 0, 220), none, none, some (.iload_n 2, 1, 0, 0, 0, 0), some (.iastore, 1, 0, 0, 0, 0), some (.aload_n 0, 1, 0, 0, 0, 0), some (.getfield 18, 3, 3, 2, 0, 195), none],
  [none, some (.aload_n 0, 1, 0, 0, 0, 0), some (.getfield 46, 3, 3, 11, 0, 220), none, none, some (.iload_n 3, 1, 0, 0, 0, 0), some (.iastore, 1, 0, 0, 0, 0), some (.aload_n 0, 1, 0, 0, 0, 0), some (.getfield 21, 3, 3, 3, 0, 198), none, none, some (.aload_n 0, 1, 0, 0, 0, 0), some (.getfield 46, 3, 3, 11, 0, 220), none, none, some (.iload 4, 2, 0, 0, 0, 0)],
  [none, some (.iastore, 1, 0, 0, 0, 0), some (.aload_n 0, 1, 0, 0, 0, 0), some (.getfield 24, 3, 3, 4, 0, 201), none, none, some (.aload_n 0, 1, 0, 0, 0, 0), some (.getfield 46, 3, 3, 11, 0, 220), none, none, some (.iload 5, 2, 0, 0, 0, 0), none, some (.bastore, 1, 0, 0, 0, 0), some (.return_, 1, 0, 0, 0, 0)]]
/-- 18: PurseTrace$Lines.end(IIII)I -/
noncomputable def am_o18 : List (List (Option am_Op)) := [[some (.aload_n 0, 1, 0, 0, 0, 0), some (.getfield 46, 3, 3, 11, 0, 220), none, none, some (.bipush 100, 2, 0, 0, 0, 0), none, some (.if_icmp .lt 5, 3, 0, 0, 0, 0), none, none, some (.iconst (-1), 1, 0, 0, 0, 0), some (.ireturn, 1, 0, 0, 0, 0), some (.aload_n 0, 1, 0, 0, 0, 0), some (.getfield 28, 3, 3, 5, 0, 204), none, none, some (.aload_n 0, 1, 0, 0, 0, 0)],
  [some (.getfield 46, 3, 3, 11, 0, 220), none, none, some (.iload_n 1, 1, 0, 0, 0, 0), some (.iastore, 1, 0, 0, 0, 0), some (.aload_n 0, 1, 0, 0, 0, 0), some (.getfield 31, 3, 3, 6, 0, 208), none, none, some (.aload_n 0, 1, 0, 0, 0, 0), some (.getfield 46, 3, 3, 11, 0, 220), none, none, some (.iload_n 2, 1, 0, 0, 0, 0), some (.iastore, 1, 0, 0, 0, 0), some (.aload_n 0, 1, 0, 0, 0, 0)],
  [some (.getfield 34, 3, 3, 7, 0, 211), none, none, some (.aload_n 0, 1, 0, 0, 0, 0), some (.getfield 46, 3, 3, 11, 0, 220), none, none, some (.iload_n 3, 1, 0, 0, 0, 0), some (.iastore, 1, 0, 0, 0, 0), some (.aload_n 0, 1, 0, 0, 0, 0), some (.getfield 37, 3, 3, 8, 0, 214), none, none, some (.aload_n 0, 1, 0, 0, 0, 0), some (.getfield 46, 3, 3, 11, 0, 220), none],
  [none, some (.iload 4, 2, 0, 0, 0, 0), none, some (.iastore, 1, 0, 0, 0, 0), some (.aload_n 0, 1, 0, 0, 0, 0), some (.getfield 40, 3, 3, 9, 0, 216), none, none, some (.aload_n 0, 1, 0, 0, 0, 0), some (.getfield 46, 3, 3, 11, 0, 220), none, none, some (.iconst (-1), 1, 0, 0, 0, 0), some (.iastore, 1, 0, 0, 0, 0), some (.aload_n 0, 1, 0, 0, 0, 0), some (.aload_n 0, 1, 0, 0, 0, 0)],
  [some (.getfield 46, 3, 3, 11, 0, 220), none, none, some (.invokevirtual 50, 3, 19, 2, 3, 691), none, none, some (.aload_n 0, 1, 0, 0, 0, 0), some (.dup, 1, 0, 0, 0, 0), some (.getfield 46, 3, 3, 11, 0, 220), none, none, some (.iconst 1, 1, 0, 0, 0, 0), some (.iadd, 1, 0, 0, 0, 0), some (.putfield 46, 3, 3, 11, 0, 220), none, none],
  [some (.aload_n 0, 1, 0, 0, 0, 0), some (.getfield 46, 3, 3, 11, 0, 220), none, none, some (.iconst 1, 1, 0, 0, 0, 0), some (.isub, 1, 0, 0, 0, 0), some (.ireturn, 1, 0, 0, 0, 0)]]
/-- 19: PurseTrace$Lines.sortIn(I)V -/
noncomputable def am_o19 : List (List (Option am_Op)) := [[some (.iload_n 1, 1, 0, 0, 0, 0), some (.istore_n 2, 1, 0, 0, 0, 0), some (.iload_n 2, 1, 0, 0, 0, 0), some (.ifCond .le 39, 3, 0, 0, 0, 0), none, none, some (.aload_n 0, 1, 0, 0, 0, 0), some (.aload_n 0, 1, 0, 0, 0, 0), some (.getfield 43, 3, 3, 10, 0, 218), none, none, some (.iload_n 2, 1, 0, 0, 0, 0), some (.iconst 1, 1, 0, 0, 0, 0), some (.isub, 1, 0, 0, 0, 0), some (.iaload, 1, 0, 0, 0, 0), some (.iload_n 1, 1, 0, 0, 0, 0)],
  [some (.invokevirtual 54, 3, 20, 3, 3, 695), none, none, some (.ifCond .eq 23, 3, 0, 0, 0, 0), none, none, some (.aload_n 0, 1, 0, 0, 0, 0), some (.getfield 43, 3, 3, 10, 0, 218), none, none, some (.iload_n 2, 1, 0, 0, 0, 0), some (.aload_n 0, 1, 0, 0, 0, 0), some (.getfield 43, 3, 3, 10, 0, 218), none, none, some (.iload_n 2, 1, 0, 0, 0, 0)],
  [some (.iconst 1, 1, 0, 0, 0, 0), some (.isub, 1, 0, 0, 0, 0), some (.iaload, 1, 0, 0, 0, 0), some (.iastore, 1, 0, 0, 0, 0), some (.iinc 2 (-1), 3, 0, 0, 0, 0), none, none, some (.goto (-37), 3, 0, 0, 0, 0), none, none, some (.aload_n 0, 1, 0, 0, 0, 0), some (.getfield 43, 3, 3, 10, 0, 218), none, none, some (.iload_n 2, 1, 0, 0, 0, 0), some (.iload_n 1, 1, 0, 0, 0, 0)],
  [some (.iastore, 1, 0, 0, 0, 0), some (.return_, 1, 0, 0, 0, 0)]]
/-- 20: PurseTrace$Lines.isLater(II)Z -/
noncomputable def am_o20 : List (List (Option am_Op)) := [[some (.aload_n 0, 1, 0, 0, 0, 0), some (.getfield 28, 3, 3, 5, 0, 204), none, none, some (.iload_n 1, 1, 0, 0, 0, 0), some (.iaload, 1, 0, 0, 0, 0), some (.aload_n 0, 1, 0, 0, 0, 0), some (.getfield 28, 3, 3, 5, 0, 204), none, none, some (.iload_n 2, 1, 0, 0, 0, 0), some (.iaload, 1, 0, 0, 0, 0), some (.if_icmp .gt 33, 3, 0, 0, 0, 0), none, none, some (.aload_n 0, 1, 0, 0, 0, 0)],
  [some (.getfield 28, 3, 3, 5, 0, 204), none, none, some (.iload_n 1, 1, 0, 0, 0, 0), some (.iaload, 1, 0, 0, 0, 0), some (.aload_n 0, 1, 0, 0, 0, 0), some (.getfield 28, 3, 3, 5, 0, 204), none, none, some (.iload_n 2, 1, 0, 0, 0, 0), some (.iaload, 1, 0, 0, 0, 0), some (.if_icmp .ne 22, 3, 0, 0, 0, 0), none, none, some (.aload_n 0, 1, 0, 0, 0, 0), some (.getfield 31, 3, 3, 6, 0, 208)],
  [none, none, some (.iload_n 1, 1, 0, 0, 0, 0), some (.iaload, 1, 0, 0, 0, 0), some (.aload_n 0, 1, 0, 0, 0, 0), some (.getfield 31, 3, 3, 6, 0, 208), none, none, some (.iload_n 2, 1, 0, 0, 0, 0), some (.iaload, 1, 0, 0, 0, 0), some (.if_icmp .le 7, 3, 0, 0, 0, 0), none, none, some (.iconst 1, 1, 0, 0, 0, 0), some (.goto 4, 3, 0, 0, 0, 0), none],
  [none, some (.iconst 0, 1, 0, 0, 0, 0), some (.ireturn, 1, 1, 0, 0, 0)]]
/-- 21: PurseTrace$Lines.isKnown(II)Z -/
noncomputable def am_o21 : List (List (Option am_Op)) := [[some (.aload_n 0, 1, 0, 0, 0, 0), some (.getfield 37, 3, 3, 8, 0, 214), none, none, some (.iload_n 1, 1, 0, 0, 0, 0), some (.iaload, 1, 0, 0, 0, 0), some (.iload_n 2, 1, 0, 0, 0, 0), some (.if_icmp .gt 27, 3, 0, 0, 0, 0), none, none, some (.aload_n 0, 1, 0, 0, 0, 0), some (.getfield 40, 3, 3, 9, 0, 216), none, none, some (.iload_n 1, 1, 0, 0, 0, 0), some (.iaload, 1, 0, 0, 0, 0)],
  [some (.iconst (-1), 1, 0, 0, 0, 0), some (.if_icmp .eq 13, 3, 0, 0, 0, 0), none, none, some (.aload_n 0, 1, 0, 0, 0, 0), some (.getfield 40, 3, 3, 9, 0, 216), none, none, some (.iload_n 1, 1, 0, 0, 0, 0), some (.iaload, 1, 0, 0, 0, 0), some (.iload_n 2, 1, 0, 0, 0, 0), some (.if_icmp .le 7, 3, 0, 0, 0, 0), none, none, some (.iconst 1, 1, 0, 0, 0, 0), some (.goto 4, 3, 0, 0, 0, 0)],
  [none, none, some (.iconst 0, 1, 0, 0, 0, 0), some (.ireturn, 1, 1, 0, 0, 0)]]
/-- 22: PurseTrace$Lines.takes(I)Z -/
noncomputable def am_o22 : List (List (Option am_Op)) := [[some (.aload_n 0, 1, 0, 0, 0, 0), some (.getfield 9, 3, 3, 0, 0, 188), none, none, some (.iload_n 1, 1, 0, 0, 0, 0), some (.iaload, 1, 0, 0, 0, 0), some (.iconst 1, 1, 0, 0, 0, 0), some (.if_icmp .eq 23, 3, 0, 0, 0, 0), none, none, some (.aload_n 0, 1, 0, 0, 0, 0), some (.getfield 9, 3, 3, 0, 0, 188), none, none, some (.iload_n 1, 1, 0, 0, 0, 0), some (.iaload, 1, 0, 0, 0, 0)],
  [some (.iconst 2, 1, 0, 0, 0, 0), some (.if_icmp .eq 13, 3, 0, 0, 0, 0), none, none, some (.aload_n 0, 1, 0, 0, 0, 0), some (.getfield 9, 3, 3, 0, 0, 188), none, none, some (.iload_n 1, 1, 0, 0, 0, 0), some (.iaload, 1, 0, 0, 0, 0), some (.iconst 3, 1, 0, 0, 0, 0), some (.if_icmp .ne 7, 3, 0, 0, 0, 0), none, none, some (.iconst 1, 1, 0, 0, 0, 0), some (.goto 4, 3, 0, 0, 0, 0)],
  [none, none, some (.iconst 0, 1, 0, 0, 0, 0), some (.ireturn, 1, 1, 0, 0, 0)]]
/-- 23: PurseTrace$Orders.weigh(IIII)Z -/
noncomputable def am_o23 : List (List (Option am_Op)) := [[some (.aload_n 0, 1, 0, 0, 0, 0), some (.getfield 15, 3, 4, 1, 0, 502), none, none, some (.sipush 3999, 3, 0, 0, 0, 0), none, none, some (.iload 4, 2, 0, 0, 0, 0), none, some (.invokevirtual 19, 3, 31, 3, 6, 1022), none, none, some (.aload_n 0, 1, 0, 0, 0, 0), some (.iload_n 3, 1, 0, 0, 0, 0), some (.invokevirtual 25, 3, 25, 2, 4, 1023), none],
  [none, some (.aload_n 0, 1, 0, 0, 0, 0), some (.getfield 29, 3, 4, 3, 0, 504), none, none, some (.aload_n 0, 1, 0, 0, 0, 0), some (.getfield 33, 3, 4, 2, 0, 503), none, none, some (.isub, 1, 0, 0, 0, 0), some (.bipush 6, 2, 0, 0, 0, 0), none, some (.if_icmp .le 5, 3, 0, 0, 0, 0), none, none, some (.iconst 0, 1, 0, 0, 0, 0)],
  [some (.ireturn, 1, 1, 0, 0, 0), some (.aload_n 0, 1, 0, 0, 0, 0), some (.getfield 15, 3, 4, 1, 0, 502), none, none, some (.getfield 36, 3, 6, 4, 0, 435), none, none, some (.invokevirtual 40, 3, 73, 1, 9, 1027), none, none, some (.aload_n 0, 1, 0, 0, 0, 0), some (.getfield 15, 3, 4, 1, 0, 502), none, none, some (.iconst 0, 1, 0, 0, 0, 0)],
  [some (.aload_n 0, 1, 0, 0, 0, 0), some (.getfield 33, 3, 4, 2, 0, 503), none, none, some (.invokevirtual 45, 3, 36, 3, 6, 1028), none, none, some (.aload_n 0, 1, 0, 0, 0, 0), some (.getfield 15, 3, 4, 1, 0, 502), none, none, some (.invokevirtual 48, 3, 34, 1, 6, 1029), none, none, some (.aload_n 0, 1, 0, 0, 0, 0), some (.invokevirtual 51, 3, 27, 1, 4, 1041)],
  [none, none, some (.aload_n 0, 1, 0, 0, 0, 0), some (.iconst 0, 1, 0, 0, 0, 0), some (.putfield 54, 3, 4, 6, 0, 509), none, none, some (.iconst 1, 1, 0, 0, 0, 0), some (.istore 5, 2, 0, 0, 0, 0), none, some (.iconst 0, 1, 0, 0, 0, 0), some (.istore 6, 2, 0, 0, 0, 0), none, some (.iload 6, 2, 0, 0, 0, 0), none, some (.sipush 720, 3, 0, 0, 0, 0)],
  [none, none, some (.if_icmp .ge 68, 3, 0, 0, 0, 0), none, none, some (.iload 5, 2, 0, 0, 0, 0), none, some (.ifCond .eq 63, 3, 0, 0, 0, 0), none, none, some (.aload_n 0, 1, 0, 0, 0, 0), some (.invokevirtual 57, 3, 26, 1, 4, 1049), none, none, some (.ifCond .eq 44, 3, 0, 0, 0, 0), none],
  [none, some (.aload_n 0, 1, 0, 0, 0, 0), some (.getfield 15, 3, 4, 1, 0, 502), none, none, some (.invokevirtual 61, 3, 35, 1, 6, 1053), none, none, some (.aload_n 0, 1, 0, 0, 0, 0), some (.getfield 15, 3, 4, 1, 0, 502), none, none, some (.aload_n 0, 1, 0, 0, 0, 0), some (.getfield 33, 3, 4, 2, 0, 503), none, none],
  [some (.aload_n 0, 1, 0, 0, 0, 0), some (.getfield 15, 3, 4, 1, 0, 502), none, none, some (.getfield 64, 3, 6, 7, 0, 443), none, none, some (.invokevirtual 45, 3, 36, 3, 6, 1028), none, none, some (.aload_n 0, 1, 0, 0, 0, 0), some (.aload_n 0, 1, 0, 0, 0, 0), some (.getfield 15, 3, 4, 1, 0, 502), none, none, some (.getfield 36, 3, 6, 4, 0, 435)],
  [none, none, some (.iload_n 1, 1, 0, 0, 0, 0), some (.iload_n 2, 1, 0, 0, 0, 0), some (.invokevirtual 67, 3, 85, 3, 9, 1057), none, none, some (.invokevirtual 71, 3, 24, 2, 4, 1058), none, none, some (.aload_n 0, 1, 0, 0, 0, 0), some (.invokevirtual 74, 3, 28, 1, 4, 1064), none, none, some (.istore 5, 2, 0, 0, 0, 0), none],
  [some (.iinc 6 1, 3, 0, 0, 0, 0), none, none, some (.goto (-70), 3, 0, 0, 0, 0), none, none, some (.iconst 1, 1, 0, 0, 0, 0), some (.ireturn, 1, 1, 0, 0, 0)]]
/-- 24: PurseTrace$Orders.note(I)V -/
noncomputable def am_o24 : List (List (Option am_Op)) := [[some (.aload_n 0, 1, 0, 0, 0, 0), some (.aload_n 0, 1, 0, 0, 0, 0), some (.getfield 54, 3, 4, 6, 0, 509), none, none, some (.ifCond .ne 7, 3, 0, 0, 0, 0), none, none, some (.iload_n 1, 1, 0, 0, 0, 0), some (.goto 11, 3, 0, 0, 0, 0), none, none, some (.aload_n 0, 1, 0, 0, 0, 0), some (.getfield 77, 3, 4, 4, 0, 505), none, none],
  [some (.iload_n 1, 1, 0, 0, 0, 0), some (.invokestatic 80, 3, 247, 2, 5, 1062), none, none, some (.putfield 77, 3, 4, 4, 0, 505), none, none, some (.aload_n 0, 1, 0, 0, 0, 0), some (.aload_n 0, 1, 0, 0, 0, 0), some (.getfield 54, 3, 4, 6, 0, 509), none, none, some (.ifCond .ne 7, 3, 0, 0, 0, 0), none, none, some (.iload_n 1, 1, 0, 0, 0, 0)],
  [some (.goto 11, 3, 0, 0, 0, 0), none, none, some (.aload_n 0, 1, 0, 0, 0, 0), some (.getfield 85, 3, 4, 5, 0, 507), none, none, some (.iload_n 1, 1, 0, 0, 0, 0), some (.invokestatic 88, 3, 246, 2, 4, 1063), none, none, some (.putfield 85, 3, 4, 5, 0, 507), none, none, some (.aload_n 0, 1, 0, 0, 0, 0), some (.dup, 1, 0, 0, 0, 0)],
  [some (.getfield 54, 3, 4, 6, 0, 509), none, none, some (.iconst 1, 1, 0, 0, 0, 0), some (.iadd, 1, 0, 0, 0, 0), some (.putfield 54, 3, 4, 6, 0, 509), none, none, some (.return_, 1, 0, 0, 0, 0)]]
/-- 25: PurseTrace$Orders.findDay(I)V -/
noncomputable def am_o25 : List (List (Option am_Op)) := [[some (.aload_n 0, 1, 0, 0, 0, 0), some (.iconst 0, 1, 0, 0, 0, 0), some (.putfield 33, 3, 4, 2, 0, 503), none, none, some (.aload_n 0, 1, 0, 0, 0, 0), some (.iconst 0, 1, 0, 0, 0, 0), some (.putfield 29, 3, 4, 3, 0, 504), none, none, some (.iconst 0, 1, 0, 0, 0, 0), some (.istore_n 2, 1, 0, 0, 0, 0), some (.iload_n 2, 1, 0, 0, 0, 0), some (.aload_n 0, 1, 0, 0, 0, 0), some (.getfield 15, 3, 4, 1, 0, 502), none],
  [none, some (.getfield 64, 3, 6, 7, 0, 443), none, none, some (.if_icmp .ge 65, 3, 0, 0, 0, 0), none, none, some (.aload_n 0, 1, 0, 0, 0, 0), some (.getfield 9, 3, 4, 0, 0, 501), none, none, some (.getfield 91, 3, 3, 5, 0, 206), none, none, some (.aload_n 0, 1, 0, 0, 0, 0), some (.getfield 15, 3, 4, 1, 0, 502)],
  [none, none, some (.getfield 97, 3, 6, 6, 0, 440), none, none, some (.iload_n 2, 1, 0, 0, 0, 0), some (.iaload, 1, 0, 0, 0, 0), some (.iaload, 1, 0, 0, 0, 0), some (.iload_n 1, 1, 0, 0, 0, 0), some (.if_icmp .ge 10, 3, 0, 0, 0, 0), none, none, some (.aload_n 0, 1, 0, 0, 0, 0), some (.iload_n 2, 1, 0, 0, 0, 0), some (.iconst 1, 1, 0, 0, 0, 0), some (.iadd, 1, 0, 0, 0, 0)],
  [some (.putfield 33, 3, 4, 2, 0, 503), none, none, some (.aload_n 0, 1, 0, 0, 0, 0), some (.getfield 9, 3, 4, 0, 0, 501), none, none, some (.getfield 91, 3, 3, 5, 0, 206), none, none, some (.aload_n 0, 1, 0, 0, 0, 0), some (.getfield 15, 3, 4, 1, 0, 502), none, none, some (.getfield 97, 3, 6, 6, 0, 440), none],
  [none, some (.iload_n 2, 1, 0, 0, 0, 0), some (.iaload, 1, 0, 0, 0, 0), some (.iaload, 1, 0, 0, 0, 0), some (.iload_n 1, 1, 0, 0, 0, 0), some (.if_icmp .gt 10, 3, 0, 0, 0, 0), none, none, some (.aload_n 0, 1, 0, 0, 0, 0), some (.iload_n 2, 1, 0, 0, 0, 0), some (.iconst 1, 1, 0, 0, 0, 0), some (.iadd, 1, 0, 0, 0, 0), some (.putfield 29, 3, 4, 3, 0, 504), none, none, some (.iinc 2 1, 3, 0, 0, 0, 0)],
  [none, none, some (.goto (-70), 3, 0, 0, 0, 0), none, none, some (.return_, 1, 0, 0, 0, 0)]]
/-- 26: PurseTrace$Orders.isLawful()Z -/
noncomputable def am_o26 : List (List (Option am_Op)) := [[some (.aload_n 0, 1, 0, 0, 0, 0), some (.getfield 33, 3, 4, 2, 0, 503), none, none, some (.istore_n 1, 1, 0, 0, 0, 0), some (.iload_n 1, 1, 0, 0, 0, 0), some (.aload_n 0, 1, 0, 0, 0, 0), some (.getfield 29, 3, 4, 3, 0, 504), none, none, some (.if_icmp .ge 66, 3, 0, 0, 0, 0), none, none, some (.iload_n 1, 1, 0, 0, 0, 0), some (.iconst 1, 1, 0, 0, 0, 0), some (.iadd, 1, 0, 0, 0, 0)],
  [some (.istore_n 2, 1, 0, 0, 0, 0), some (.iload_n 2, 1, 0, 0, 0, 0), some (.aload_n 0, 1, 0, 0, 0, 0), some (.getfield 29, 3, 4, 3, 0, 504), none, none, some (.if_icmp .ge 48, 3, 0, 0, 0, 0), none, none, some (.aload_n 0, 1, 0, 0, 0, 0), some (.getfield 9, 3, 4, 0, 0, 501), none, none, some (.getfield 100, 3, 3, 7, 0, 212), none, none],
  [some (.aload_n 0, 1, 0, 0, 0, 0), some (.getfield 15, 3, 4, 1, 0, 502), none, none, some (.getfield 97, 3, 6, 6, 0, 440), none, none, some (.iload_n 2, 1, 0, 0, 0, 0), some (.iaload, 1, 0, 0, 0, 0), some (.iaload, 1, 0, 0, 0, 0), some (.aload_n 0, 1, 0, 0, 0, 0), some (.getfield 9, 3, 4, 0, 0, 501), none, none, some (.getfield 103, 3, 3, 6, 0, 209), none],
  [none, some (.aload_n 0, 1, 0, 0, 0, 0), some (.getfield 15, 3, 4, 1, 0, 502), none, none, some (.getfield 97, 3, 6, 6, 0, 440), none, none, some (.iload_n 1, 1, 0, 0, 0, 0), some (.iaload, 1, 0, 0, 0, 0), some (.iaload, 1, 0, 0, 0, 0), some (.if_icmp .ge 5, 3, 0, 0, 0, 0), none, none, some (.iconst 0, 1, 0, 0, 0, 0), some (.ireturn, 1, 1, 0, 0, 0)],
  [some (.iinc 2 1, 3, 0, 0, 0, 0), none, none, some (.goto (-50), 3, 0, 0, 0, 0), none, none, some (.iinc 1 1, 3, 0, 0, 0, 0), none, none, some (.goto (-68), 3, 0, 0, 0, 0), none, none, some (.iconst 1, 1, 0, 0, 0, 0), some (.ireturn, 1, 1, 0, 0, 0)]]
/-- 27: PurseTrace$Orders.sortByNumber()V -/
noncomputable def am_o27 : List (List (Option am_Op)) := [[some (.aload_n 0, 1, 0, 0, 0, 0), some (.getfield 33, 3, 4, 2, 0, 503), none, none, some (.istore_n 1, 1, 0, 0, 0, 0), some (.iload_n 1, 1, 0, 0, 0, 0), some (.aload_n 0, 1, 0, 0, 0, 0), some (.getfield 29, 3, 4, 3, 0, 504), none, none, some (.if_icmp .ge 54, 3, 0, 0, 0, 0), none, none, some (.iload_n 1, 1, 0, 0, 0, 0), some (.iconst 1, 1, 0, 0, 0, 0), some (.iadd, 1, 0, 0, 0, 0)],
  [some (.istore_n 2, 1, 0, 0, 0, 0), some (.iload_n 2, 1, 0, 0, 0, 0), some (.aload_n 0, 1, 0, 0, 0, 0), some (.getfield 29, 3, 4, 3, 0, 504), none, none, some (.if_icmp .ge 36, 3, 0, 0, 0, 0), none, none, some (.aload_n 0, 1, 0, 0, 0, 0), some (.getfield 15, 3, 4, 1, 0, 502), none, none, some (.getfield 97, 3, 6, 6, 0, 440), none, none],
  [some (.iload_n 2, 1, 0, 0, 0, 0), some (.iaload, 1, 0, 0, 0, 0), some (.aload_n 0, 1, 0, 0, 0, 0), some (.getfield 15, 3, 4, 1, 0, 502), none, none, some (.getfield 97, 3, 6, 6, 0, 440), none, none, some (.iload_n 1, 1, 0, 0, 0, 0), some (.iaload, 1, 0, 0, 0, 0), some (.if_icmp .ge 9, 3, 0, 0, 0, 0), none, none, some (.aload_n 0, 1, 0, 0, 0, 0), some (.iload_n 1, 1, 0, 0, 0, 0)],
  [some (.iload_n 2, 1, 0, 0, 0, 0), some (.invokevirtual 106, 3, 29, 3, 4, 1045), none, none, some (.iinc 2 1, 3, 0, 0, 0, 0), none, none, some (.goto (-38), 3, 0, 0, 0, 0), none, none, some (.iinc 1 1, 3, 0, 0, 0, 0), none, none, some (.goto (-56), 3, 0, 0, 0, 0), none, none],
  [some (.return_, 1, 0, 0, 0, 0)]]
/-- 28: PurseTrace$Orders.goToNext()Z -/
noncomputable def am_o28 : List (List (Option am_Op)) := [[some (.aload_n 0, 1, 0, 0, 0, 0), some (.getfield 29, 3, 4, 3, 0, 504), none, none, some (.iconst 2, 1, 0, 0, 0, 0), some (.isub, 1, 0, 0, 0, 0), some (.istore_n 1, 1, 0, 0, 0, 0), some (.iload_n 1, 1, 0, 0, 0, 0), some (.aload_n 0, 1, 0, 0, 0, 0), some (.getfield 33, 3, 4, 2, 0, 503), none, none, some (.if_icmp .lt 32, 3, 0, 0, 0, 0), none, none, some (.aload_n 0, 1, 0, 0, 0, 0)],
  [some (.getfield 15, 3, 4, 1, 0, 502), none, none, some (.getfield 97, 3, 6, 6, 0, 440), none, none, some (.iload_n 1, 1, 0, 0, 0, 0), some (.iaload, 1, 0, 0, 0, 0), some (.aload_n 0, 1, 0, 0, 0, 0), some (.getfield 15, 3, 4, 1, 0, 502), none, none, some (.getfield 97, 3, 6, 6, 0, 440), none, none, some (.iload_n 1, 1, 0, 0, 0, 0)],
  [some (.iconst 1, 1, 0, 0, 0, 0), some (.iadd, 1, 0, 0, 0, 0), some (.iaload, 1, 0, 0, 0, 0), some (.if_icmp .le 9, 3, 0, 0, 0, 0), none, none, some (.iinc 1 (-1), 3, 0, 0, 0, 0), none, none, some (.goto (-34), 3, 0, 0, 0, 0), none, none, some (.iload_n 1, 1, 0, 0, 0, 0), some (.aload_n 0, 1, 0, 0, 0, 0), some (.getfield 33, 3, 4, 2, 0, 503), none],
  [none, some (.if_icmp .ge 5, 3, 0, 0, 0, 0), none, none, some (.iconst 0, 1, 0, 0, 0, 0), some (.ireturn, 1, 1, 0, 0, 0), some (.aload_n 0, 1, 0, 0, 0, 0), some (.getfield 29, 3, 4, 3, 0, 504), none, none, some (.iconst 1, 1, 0, 0, 0, 0), some (.isub, 1, 0, 0, 0, 0), some (.istore_n 2, 1, 0, 0, 0, 0), some (.iload_n 2, 1, 0, 0, 0, 0), some (.iload_n 1, 1, 0, 0, 0, 0), some (.if_icmp .le 30, 3, 0, 0, 0, 0)],
  [none, none, some (.aload_n 0, 1, 0, 0, 0, 0), some (.getfield 15, 3, 4, 1, 0, 502), none, none, some (.getfield 97, 3, 6, 6, 0, 440), none, none, some (.iload_n 2, 1, 0, 0, 0, 0), some (.iaload, 1, 0, 0, 0, 0), some (.aload_n 0, 1, 0, 0, 0, 0), some (.getfield 15, 3, 4, 1, 0, 502), none, none, some (.getfield 97, 3, 6, 6, 0, 440)],
  [none, none, some (.iload_n 1, 1, 0, 0, 0, 0), some (.iaload, 1, 0, 0, 0, 0), some (.if_icmp .ge 9, 3, 0, 0, 0, 0), none, none, some (.iinc 2 (-1), 3, 0, 0, 0, 0), none, none, some (.goto (-29), 3, 0, 0, 0, 0), none, none, some (.aload_n 0, 1, 0, 0, 0, 0), some (.iload_n 1, 1, 0, 0, 0, 0), some (.iload_n 2, 1, 0, 0, 0, 0)],
  [some (.invokevirtual 106, 3, 29, 3, 4, 1045), none, none, some (.iload_n 1, 1, 0, 0, 0, 0), some (.iconst 1, 1, 0, 0, 0, 0), some (.iadd, 1, 0, 0, 0, 0), some (.istore_n 3, 1, 0, 0, 0, 0), some (.aload_n 0, 1, 0, 0, 0, 0), some (.getfield 29, 3, 4, 3, 0, 504), none, none, some (.iconst 1, 1, 0, 0, 0, 0), some (.isub, 1, 0, 0, 0, 0), some (.istore 4, 2, 0, 0, 0, 0), none, some (.iload_n 3, 1, 0, 0, 0, 0)],
  [some (.iload 4, 2, 0, 0, 0, 0), none, some (.if_icmp .ge 19, 3, 0, 0, 0, 0), none, none, some (.aload_n 0, 1, 0, 0, 0, 0), some (.iload_n 3, 1, 0, 0, 0, 0), some (.iload 4, 2, 0, 0, 0, 0), none, some (.invokevirtual 106, 3, 29, 3, 4, 1045), none, none, some (.iinc 3 1, 3, 0, 0, 0, 0), none, none, some (.iinc 4 (-1), 3, 0, 0, 0, 0)],
  [none, none, some (.goto (-19), 3, 0, 0, 0, 0), none, none, some (.iconst 1, 1, 0, 0, 0, 0), some (.ireturn, 1, 1, 0, 0, 0)]]
/-- 29: PurseTrace$Orders.swap(II)V -/
noncomputable def am_o29 : List (List (Option am_Op)) := [[some (.aload_n 0, 1, 0, 0, 0, 0), some (.getfield 15, 3, 4, 1, 0, 502), none, none, some (.getfield 97, 3, 6, 6, 0, 440), none, none, some (.iload_n 1, 1, 0, 0, 0, 0), some (.iaload, 1, 0, 0, 0, 0), some (.istore_n 3, 1, 0, 0, 0, 0), some (.aload_n 0, 1, 0, 0, 0, 0), some (.getfield 15, 3, 4, 1, 0, 502), none, none, some (.getfield 97, 3, 6, 6, 0, 440), none],
  [none, some (.iload_n 1, 1, 0, 0, 0, 0), some (.aload_n 0, 1, 0, 0, 0, 0), some (.getfield 15, 3, 4, 1, 0, 502), none, none, some (.getfield 97, 3, 6, 6, 0, 440), none, none, some (.iload_n 2, 1, 0, 0, 0, 0), some (.iaload, 1, 0, 0, 0, 0), some (.iastore, 1, 0, 0, 0, 0), some (.aload_n 0, 1, 0, 0, 0, 0), some (.getfield 15, 3, 4, 1, 0, 502), none, none],
  [some (.getfield 97, 3, 6, 6, 0, 440), none, none, some (.iload_n 2, 1, 0, 0, 0, 0), some (.iload_n 3, 1, 0, 0, 0, 0), some (.iastore, 1, 0, 0, 0, 0), some (.return_, 1, 0, 0, 0, 0)]]
/-- 30: PurseTrace$Purses.add(II)I -/
noncomputable def am_o30 : List (List (Option am_Op)) := [[some (.aload_n 0, 1, 0, 0, 0, 0), some (.getfield 18, 3, 5, 2, 0, 171), none, none, some (.bipush 10, 2, 0, 0, 0, 0), none, some (.if_icmp .lt 5, 3, 0, 0, 0, 0), none, none, some (.iconst (-1), 1, 0, 0, 0, 0), some (.ireturn, 1, 0, 0, 0, 0), some (.aload_n 0, 1, 0, 0, 0, 0), some (.getfield 9, 3, 5, 0, 0, 167), none, none, some (.aload_n 0, 1, 0, 0, 0, 0)],
  [some (.getfield 18, 3, 5, 2, 0, 171), none, none, some (.iload_n 1, 1, 0, 0, 0, 0), some (.iastore, 1, 0, 0, 0, 0), some (.aload_n 0, 1, 0, 0, 0, 0), some (.getfield 15, 3, 5, 1, 0, 169), none, none, some (.aload_n 0, 1, 0, 0, 0, 0), some (.getfield 18, 3, 5, 2, 0, 171), none, none, some (.iload_n 2, 1, 0, 0, 0, 0), some (.iastore, 1, 0, 0, 0, 0), some (.aload_n 0, 1, 0, 0, 0, 0)],
  [some (.dup, 1, 0, 0, 0, 0), some (.getfield 18, 3, 5, 2, 0, 171), none, none, some (.iconst 1, 1, 0, 0, 0, 0), some (.iadd, 1, 0, 0, 0, 0), some (.putfield 18, 3, 5, 2, 0, 171), none, none, some (.aload_n 0, 1, 0, 0, 0, 0), some (.getfield 18, 3, 5, 2, 0, 171), none, none, some (.iconst 1, 1, 0, 0, 0, 0), some (.isub, 1, 0, 0, 0, 0), some (.ireturn, 1, 0, 0, 0, 0)]]
/-- 31: PurseTrace$Replay.list(II)V -/
noncomputable def am_o31 : List (List (Option am_Op)) := [[some (.aload_n 0, 1, 0, 0, 0, 0), some (.iconst 0, 1, 0, 0, 0, 0), some (.putfield 50, 3, 6, 7, 0, 442), none, none, some (.aload_n 0, 1, 0, 0, 0, 0), some (.iload_n 2, 1, 0, 0, 0, 0), some (.putfield 54, 3, 6, 9, 0, 449), none, none, some (.aload_n 0, 1, 0, 0, 0, 0), some (.getfield 25, 3, 6, 8, 0, 446), none, none, some (.iconst (-1), 1, 0, 0, 0, 0), some (.invokestatic 57, 3, 245, 2, 1, 843)],
  [none, none, some (.iconst 0, 1, 0, 0, 0, 0), some (.istore_n 3, 1, 0, 0, 0, 0), some (.iload_n 3, 1, 0, 0, 0, 0), some (.aload_n 0, 1, 0, 0, 0, 0), some (.getfield 38, 3, 6, 1, 0, 431), none, none, some (.getfield 63, 3, 3, 11, 0, 221), none, none, some (.if_icmp .ge 68, 3, 0, 0, 0, 0), none, none, some (.aload_n 0, 1, 0, 0, 0, 0)],
  [some (.getfield 38, 3, 6, 1, 0, 431), none, none, some (.getfield 68, 3, 3, 10, 0, 219), none, none, some (.iload_n 3, 1, 0, 0, 0, 0), some (.iaload, 1, 0, 0, 0, 0), some (.istore 4, 2, 0, 0, 0, 0), none, some (.aload_n 0, 1, 0, 0, 0, 0), some (.getfield 38, 3, 6, 1, 0, 431), none, none, some (.iload 4, 2, 0, 0, 0, 0), none],
  [some (.iload_n 2, 1, 0, 0, 0, 0), some (.invokevirtual 71, 3, 21, 3, 3, 846), none, none, some (.ifCond .eq 38, 3, 0, 0, 0, 0), none, none, some (.aload_n 0, 1, 0, 0, 0, 0), some (.getfield 38, 3, 6, 1, 0, 431), none, none, some (.getfield 75, 3, 3, 5, 0, 205), none, none, some (.iload 4, 2, 0, 0, 0, 0), none],
  [some (.iaload, 1, 0, 0, 0, 0), some (.iload_n 1, 1, 0, 0, 0, 0), some (.if_icmp .gt 24, 3, 0, 0, 0, 0), none, none, some (.aload_n 0, 1, 0, 0, 0, 0), some (.getfield 21, 3, 6, 6, 0, 439), none, none, some (.aload_n 0, 1, 0, 0, 0, 0), some (.getfield 50, 3, 6, 7, 0, 442), none, none, some (.iload 4, 2, 0, 0, 0, 0), none, some (.iastore, 1, 0, 0, 0, 0)],
  [some (.aload_n 0, 1, 0, 0, 0, 0), some (.dup, 1, 0, 0, 0, 0), some (.getfield 50, 3, 6, 7, 0, 442), none, none, some (.iconst 1, 1, 0, 0, 0, 0), some (.iadd, 1, 0, 0, 0, 0), some (.putfield 50, 3, 6, 7, 0, 442), none, none, some (.iinc 3 1, 3, 0, 0, 0, 0), none, none, some (.goto (-73), 3, 0, 0, 0, 0), none, none],
  [some (.return_, 1, 0, 0, 0, 0)]]
/-- 32: PurseTrace$Replay.playAll(II)V -/
noncomputable def am_o32 : List (List (Option am_Op)) := [[some (.aload_n 0, 1, 0, 0, 0, 0), some (.iload_n 1, 1, 0, 0, 0, 0), some (.iload_n 2, 1, 0, 0, 0, 0), some (.invokevirtual 78, 3, 31, 3, 6, 839), none, none, some (.aload_n 0, 1, 0, 0, 0, 0), some (.getfield 12, 3, 6, 4, 0, 434), none, none, some (.invokevirtual 82, 3, 73, 1, 9, 850), none, none, some (.aload_n 0, 1, 0, 0, 0, 0), some (.iconst 0, 1, 0, 0, 0, 0), some (.aload_n 0, 1, 0, 0, 0, 0)],
  [some (.getfield 50, 3, 6, 7, 0, 442), none, none, some (.invokevirtual 85, 3, 36, 3, 6, 859), none, none, some (.return_, 1, 0, 0, 0, 0)]]
/-- 33: PurseTrace$Replay.playThrough(II)Z -/
noncomputable def am_o33 : List (List (Option am_Op)) := [[some (.aload_n 0, 1, 0, 0, 0, 0), some (.getfield 38, 3, 6, 1, 0, 431), none, none, some (.iload_n 1, 1, 0, 0, 0, 0), some (.iload_n 2, 1, 0, 0, 0, 0), some (.invokevirtual 71, 3, 21, 3, 3, 846), none, none, some (.ifCond .ne 5, 3, 0, 0, 0, 0), none, none, some (.iconst 0, 1, 0, 0, 0, 0), some (.ireturn, 1, 1, 0, 0, 0), some (.aload_n 0, 1, 0, 0, 0, 0), some (.sipush 3999, 3, 0, 0, 0, 0)],
  [none, none, some (.iload_n 2, 1, 0, 0, 0, 0), some (.invokevirtual 78, 3, 31, 3, 6, 839), none, none, some (.aload_n 0, 1, 0, 0, 0, 0), some (.getfield 12, 3, 6, 4, 0, 434), none, none, some (.invokevirtual 82, 3, 73, 1, 9, 850), none, none, some (.iconst 0, 1, 0, 0, 0, 0), some (.istore_n 3, 1, 0, 0, 0, 0), some (.iconst 0, 1, 0, 0, 0, 0)],
  [some (.istore 4, 2, 0, 0, 0, 0), none, some (.iload 4, 2, 0, 0, 0, 0), none, some (.aload_n 0, 1, 0, 0, 0, 0), some (.getfield 50, 3, 6, 7, 0, 442), none, none, some (.if_icmp .ge 25, 3, 0, 0, 0, 0), none, none, some (.aload_n 0, 1, 0, 0, 0, 0), some (.getfield 21, 3, 6, 6, 0, 439), none, none, some (.iload 4, 2, 0, 0, 0, 0)],
  [none, some (.iaload, 1, 0, 0, 0, 0), some (.iload_n 1, 1, 0, 0, 0, 0), some (.if_icmp .ne 8, 3, 0, 0, 0, 0), none, none, some (.iload 4, 2, 0, 0, 0, 0), none, some (.iconst 1, 1, 0, 0, 0, 0), some (.iadd, 1, 0, 0, 0, 0), some (.istore_n 3, 1, 0, 0, 0, 0), some (.iinc 4 1, 3, 0, 0, 0, 0), none, none, some (.goto (-28), 3, 0, 0, 0, 0), none],
  [none, some (.aload_n 0, 1, 0, 0, 0, 0), some (.iconst 0, 1, 0, 0, 0, 0), some (.iload_n 3, 1, 0, 0, 0, 0), some (.invokevirtual 85, 3, 36, 3, 6, 859), none, none, some (.iconst 1, 1, 0, 0, 0, 0), some (.ireturn, 1, 1, 0, 0, 0)]]
/-- 34: PurseTrace$Replay.keep()V -/
noncomputable def am_o34 : List (List (Option am_Op)) := [[some (.aload_n 0, 1, 0, 0, 0, 0), some (.getfield 18, 3, 6, 5, 0, 438), none, none, some (.aload_n 0, 1, 0, 0, 0, 0), some (.getfield 12, 3, 6, 4, 0, 434), none, none, some (.invokevirtual 88, 3, 74, 2, 9, 1033), none, none, some (.return_, 1, 0, 0, 0, 0)]]
/-- 35: PurseTrace$Replay.goBack()V -/
noncomputable def am_o35 : List (List (Option am_Op)) := [[some (.aload_n 0, 1, 0, 0, 0, 0), some (.getfield 12, 3, 6, 4, 0, 434), none, none, some (.aload_n 0, 1, 0, 0, 0, 0), some (.getfield 18, 3, 6, 5, 0, 438), none, none, some (.invokevirtual 88, 3, 74, 2, 9, 1033), none, none, some (.return_, 1, 0, 0, 0, 0)]]
/-- 36: PurseTrace$Replay.play(II)V -/
noncomputable def am_o36 : List (List (Option am_Op)) := [[some (.aload_n 0, 1, 0, 0, 0, 0), some (.iconst 0, 1, 0, 0, 0, 0), some (.putfield 92, 3, 6, 14, 0, 456), none, none, some (.iload_n 1, 1, 0, 0, 0, 0), some (.istore_n 3, 1, 0, 0, 0, 0), some (.iload_n 3, 1, 0, 0, 0, 0), some (.iload_n 2, 1, 0, 0, 0, 0), some (.if_icmp .ge 54, 3, 0, 0, 0, 0), none, none, some (.iload_n 3, 1, 0, 0, 0, 0), some (.aload_n 0, 1, 0, 0, 0, 0), some (.getfield 50, 3, 6, 7, 0, 442), none],
  [none, some (.if_icmp .ge 46, 3, 0, 0, 0, 0), none, none, some (.aload_n 0, 1, 0, 0, 0, 0), some (.aload_n 0, 1, 0, 0, 0, 0), some (.getfield 21, 3, 6, 6, 0, 439), none, none, some (.iload_n 3, 1, 0, 0, 0, 0), some (.iaload, 1, 0, 0, 0, 0), some (.invokevirtual 95, 3, 37, 2, 6, 863), none, none, some (.aload_n 0, 1, 0, 0, 0, 0), some (.aload_n 0, 1, 0, 0, 0, 0)],
  [some (.getfield 21, 3, 6, 6, 0, 439), none, none, some (.iload_n 3, 1, 0, 0, 0, 0), some (.iaload, 1, 0, 0, 0, 0), some (.invokevirtual 99, 3, 39, 2, 6, 902), none, none, some (.aload_n 0, 1, 0, 0, 0, 0), some (.getfield 102, 3, 6, 13, 0, 454), none, none, some (.ifCond .eq 13, 3, 0, 0, 0, 0), none, none, some (.aload_n 0, 1, 0, 0, 0, 0)],
  [some (.dup, 1, 0, 0, 0, 0), some (.getfield 92, 3, 6, 14, 0, 456), none, none, some (.iconst 1, 1, 0, 0, 0, 0), some (.iadd, 1, 0, 0, 0, 0), some (.putfield 92, 3, 6, 14, 0, 456), none, none, some (.iinc 3 1, 3, 0, 0, 0, 0), none, none, some (.goto (-53), 3, 0, 0, 0, 0), none, none, some (.return_, 1, 0, 0, 0, 0)]]
/-- 37: PurseTrace$Replay.decide(I)V -/
noncomputable def am_o37 : List (List (Option am_Op)) := [[some (.aload_n 0, 1, 0, 0, 0, 0), some (.iconst (-1), 1, 0, 0, 0, 0), some (.putfield 106, 3, 6, 10, 0, 450), none, none, some (.aload_n 0, 1, 0, 0, 0, 0), some (.iconst 0, 1, 0, 0, 0, 0), some (.putfield 109, 3, 6, 11, 0, 452), none, none, some (.aload_n 0, 1, 0, 0, 0, 0), some (.iconst 0, 1, 0, 0, 0, 0), some (.putfield 112, 3, 6, 12, 0, 453), none, none, some (.aload_n 0, 1, 0, 0, 0, 0)],
  [some (.getfield 38, 3, 6, 1, 0, 431), none, none, some (.getfield 115, 3, 3, 1, 0, 193), none, none, some (.iload_n 1, 1, 0, 0, 0, 0), some (.iaload, 1, 0, 0, 0, 0), some (.istore_n 2, 1, 0, 0, 0, 0), some (.aload_n 0, 1, 0, 0, 0, 0), some (.getfield 38, 3, 6, 1, 0, 431), none, none, some (.getfield 75, 3, 3, 5, 0, 205), none, none],
  [some (.iload_n 1, 1, 0, 0, 0, 0), some (.iaload, 1, 0, 0, 0, 0), some (.istore_n 3, 1, 0, 0, 0, 0), some (.aload_n 0, 1, 0, 0, 0, 0), some (.getfield 38, 3, 6, 1, 0, 431), none, none, some (.getfield 118, 3, 3, 0, 0, 189), none, none, some (.iload_n 1, 1, 0, 0, 0, 0), some (.iaload, 1, 0, 0, 0, 0), some (.iconst 4, 1, 0, 0, 0, 0), some (.if_icmp .ne 47, 3, 0, 0, 0, 0), none, none],
  [some (.aload_n 0, 1, 0, 0, 0, 0), some (.iload_n 1, 1, 0, 0, 0, 0), some (.invokevirtual 121, 3, 38, 2, 6, 867), none, none, some (.aload_n 0, 1, 0, 0, 0, 0), some (.aload_n 0, 1, 0, 0, 0, 0), some (.getfield 42, 3, 6, 2, 0, 432), none, none, some (.bipush 114, 2, 0, 0, 0, 0), none, some (.aload_n 0, 1, 0, 0, 0, 0), some (.getfield 34, 3, 6, 0, 0, 430), none, none],
  [some (.getfield 124, 3, 5, 1, 0, 170), none, none, some (.iload_n 2, 1, 0, 0, 0, 0), some (.iaload, 1, 0, 0, 0, 0), some (.iload_n 3, 1, 0, 0, 0, 0), some (.aload_n 0, 1, 0, 0, 0, 0), some (.getfield 54, 3, 6, 9, 0, 449), none, none, some (.invokevirtual 129, 3, 49, 5, 7, 875), none, none, some (.iconst (-1), 1, 0, 0, 0, 0), some (.if_icmp .eq 7, 3, 0, 0, 0, 0), none],
  [none, some (.iconst 1, 1, 0, 0, 0, 0), some (.goto 4, 3, 0, 0, 0, 0), none, none, some (.iconst 0, 1, 0, 0, 0, 0), some (.putfield 109, 3, 6, 11, 0, 452), none, none, some (.goto 159, 3, 0, 0, 0, 0), none, none, some (.aload_n 0, 1, 0, 0, 0, 0), some (.getfield 38, 3, 6, 1, 0, 431), none, none],
  [some (.iload_n 1, 1, 0, 0, 0, 0), some (.invokevirtual 135, 3, 22, 2, 3, 898), none, none, some (.ifCond .eq 148, 3, 0, 0, 0, 0), none, none, some (.aload_n 0, 1, 0, 0, 0, 0), some (.iload_n 1, 1, 0, 0, 0, 0), some (.invokevirtual 121, 3, 38, 2, 6, 867), none, none, some (.aload_n 0, 1, 0, 0, 0, 0), some (.aload_n 0, 1, 0, 0, 0, 0), some (.getfield 25, 3, 6, 8, 0, 446), none],
  [none, some (.iload_n 2, 1, 0, 0, 0, 0), some (.iaload, 1, 0, 0, 0, 0), some (.putfield 106, 3, 6, 10, 0, 450), none, none, some (.aload_n 0, 1, 0, 0, 0, 0), some (.getfield 106, 3, 6, 10, 0, 450), none, none, some (.iconst (-1), 1, 0, 0, 0, 0), some (.if_icmp .ne 52, 3, 0, 0, 0, 0), none, none, some (.aload_n 0, 1, 0, 0, 0, 0), some (.getfield 42, 3, 6, 2, 0, 432)],
  [none, none, some (.bipush 119, 2, 0, 0, 0, 0), none, some (.aload_n 0, 1, 0, 0, 0, 0), some (.getfield 34, 3, 6, 0, 0, 430), none, none, some (.getfield 124, 3, 5, 1, 0, 170), none, none, some (.iload_n 2, 1, 0, 0, 0, 0), some (.iaload, 1, 0, 0, 0, 0), some (.iload_n 3, 1, 0, 0, 0, 0), some (.aload_n 0, 1, 0, 0, 0, 0), some (.getfield 54, 3, 6, 9, 0, 449)],
  [none, none, some (.invokevirtual 129, 3, 49, 5, 7, 875), none, none, some (.istore 4, 2, 0, 0, 0, 0), none, some (.aload_n 0, 1, 0, 0, 0, 0), some (.iload 4, 2, 0, 0, 0, 0), none, some (.iconst (-1), 1, 0, 0, 0, 0), some (.if_icmp .ne 7, 3, 0, 0, 0, 0), none, none, some (.iconst 0, 1, 0, 0, 0, 0), some (.goto 13, 3, 0, 0, 0, 0)],
  [none, none, some (.aload_n 0, 1, 0, 0, 0, 0), some (.getfield 42, 3, 6, 2, 0, 432), none, none, some (.getfield 139, 3, 7, 6, 0, 288), none, none, some (.iload 4, 2, 0, 0, 0, 0), none, some (.iaload, 1, 0, 0, 0, 0), some (.putfield 106, 3, 6, 10, 0, 450), none, none, some (.aload_n 0, 1, 0, 0, 0, 0)],
  [some (.getfield 38, 3, 6, 1, 0, 431), none, none, some (.getfield 118, 3, 3, 0, 0, 189), none, none, some (.iload_n 1, 1, 0, 0, 0, 0), some (.iaload, 1, 0, 0, 0, 0), some (.iconst 1, 1, 0, 0, 0, 0), some (.if_icmp .ne 63, 3, 0, 0, 0, 0), none, none, some (.aload_n 0, 1, 0, 0, 0, 0), some (.getfield 38, 3, 6, 1, 0, 431), none, none],
  [some (.getfield 142, 3, 3, 4, 0, 202), none, none, some (.iload_n 1, 1, 0, 0, 0, 0), some (.baload, 1, 0, 0, 0, 0), some (.ifCond .eq 51, 3, 0, 0, 0, 0), none, none, some (.aload_n 0, 1, 0, 0, 0, 0), some (.getfield 38, 3, 6, 1, 0, 431), none, none, some (.getfield 146, 3, 3, 2, 0, 196), none, none, some (.iload_n 1, 1, 0, 0, 0, 0)],
  [some (.iaload, 1, 0, 0, 0, 0), some (.istore 4, 2, 0, 0, 0, 0), none, some (.aload_n 0, 1, 0, 0, 0, 0), some (.aload_n 0, 1, 0, 0, 0, 0), some (.getfield 42, 3, 6, 2, 0, 432), none, none, some (.bipush 103, 2, 0, 0, 0, 0), none, some (.aload_n 0, 1, 0, 0, 0, 0), some (.getfield 34, 3, 6, 0, 0, 430), none, none, some (.getfield 124, 3, 5, 1, 0, 170), none],
  [none, some (.iload 4, 2, 0, 0, 0, 0), none, some (.iaload, 1, 0, 0, 0, 0), some (.iload_n 3, 1, 0, 0, 0, 0), some (.aload_n 0, 1, 0, 0, 0, 0), some (.getfield 54, 3, 6, 9, 0, 449), none, none, some (.invokevirtual 129, 3, 49, 5, 7, 875), none, none, some (.iconst (-1), 1, 0, 0, 0, 0), some (.if_icmp .eq 7, 3, 0, 0, 0, 0), none, none],
  [some (.iconst 1, 1, 0, 0, 0, 0), some (.goto 4, 3, 0, 0, 0, 0), none, none, some (.iconst 0, 1, 0, 0, 0, 0), some (.putfield 112, 3, 6, 12, 0, 453), none, none, some (.return_, 1, 0, 0, 0, 0)]]
/-- 38: PurseTrace$Replay.gatherFacts(I)V -/
noncomputable def am_o38 : List (List (Option am_Op)) := [[some (.aload_n 0, 1, 0, 0, 0, 0), some (.getfield 38, 3, 6, 1, 0, 431), none, none, some (.getfield 115, 3, 3, 1, 0, 193), none, none, some (.iload_n 1, 1, 0, 0, 0, 0), some (.iaload, 1, 0, 0, 0, 0), some (.istore_n 2, 1, 0, 0, 0, 0), some (.aload_n 0, 1, 0, 0, 0, 0), some (.getfield 34, 3, 6, 0, 0, 430), none, none, some (.getfield 149, 3, 5, 0, 0, 168), none],
  [none, some (.iload_n 2, 1, 0, 0, 0, 0), some (.iaload, 1, 0, 0, 0, 0), some (.istore_n 3, 1, 0, 0, 0, 0), some (.aload_n 0, 1, 0, 0, 0, 0), some (.getfield 42, 3, 6, 2, 0, 432), none, none, some (.getfield 152, 3, 7, 13, 0, 300), none, none, some (.iconst 0, 1, 0, 0, 0, 0), some (.aload_n 0, 1, 0, 0, 0, 0), some (.getfield 38, 3, 6, 1, 0, 431), none, none],
  [some (.getfield 156, 3, 3, 3, 0, 199), none, none, some (.iload_n 1, 1, 0, 0, 0, 0), some (.iaload, 1, 0, 0, 0, 0), some (.i2l, 1, 0, 0, 0, 0), some (.lastore, 1, 0, 0, 0, 0), some (.aload_n 0, 1, 0, 0, 0, 0), some (.getfield 42, 3, 6, 2, 0, 432), none, none, some (.getfield 152, 3, 7, 13, 0, 300), none, none, some (.iconst 1, 1, 0, 0, 0, 0), some (.aload_n 0, 1, 0, 0, 0, 0)],
  [some (.getfield 38, 3, 6, 1, 0, 431), none, none, some (.getfield 75, 3, 3, 5, 0, 205), none, none, some (.iload_n 1, 1, 0, 0, 0, 0), some (.iaload, 1, 0, 0, 0, 0), some (.i2l, 1, 0, 0, 0, 0), some (.lastore, 1, 0, 0, 0, 0), some (.aload_n 0, 1, 0, 0, 0, 0), some (.getfield 42, 3, 6, 2, 0, 432), none, none, some (.getfield 152, 3, 7, 13, 0, 300), none],
  [none, some (.iconst 2, 1, 0, 0, 0, 0), some (.aload_n 0, 1, 0, 0, 0, 0), some (.getfield 38, 3, 6, 1, 0, 431), none, none, some (.getfield 118, 3, 3, 0, 0, 189), none, none, some (.iload_n 1, 1, 0, 0, 0, 0), some (.iaload, 1, 0, 0, 0, 0), some (.i2l, 1, 0, 0, 0, 0), some (.lastore, 1, 0, 0, 0, 0), some (.aload_n 0, 1, 0, 0, 0, 0), some (.getfield 42, 3, 6, 2, 0, 432), none],
  [none, some (.getfield 152, 3, 7, 13, 0, 300), none, none, some (.iconst 3, 1, 0, 0, 0, 0), some (.iload_n 2, 1, 0, 0, 0, 0), some (.i2l, 1, 0, 0, 0, 0), some (.lastore, 1, 0, 0, 0, 0), some (.aload_n 0, 1, 0, 0, 0, 0), some (.getfield 42, 3, 6, 2, 0, 432), none, none, some (.getfield 152, 3, 7, 13, 0, 300), none, none, some (.iconst 4, 1, 0, 0, 0, 0)],
  [some (.iload_n 3, 1, 0, 0, 0, 0), some (.i2l, 1, 0, 0, 0, 0), some (.lastore, 1, 0, 0, 0, 0), some (.aload_n 0, 1, 0, 0, 0, 0), some (.getfield 42, 3, 6, 2, 0, 432), none, none, some (.getfield 152, 3, 7, 13, 0, 300), none, none, some (.iconst 5, 1, 0, 0, 0, 0), some (.aload_n 0, 1, 0, 0, 0, 0), some (.getfield 12, 3, 6, 4, 0, 434), none, none, some (.iload_n 2, 1, 0, 0, 0, 0)],
  [some (.invokevirtual 159, 3, 84, 2, 9, 871), none, none, some (.i2l, 1, 0, 0, 0, 0), some (.lastore, 1, 0, 0, 0, 0), some (.aload_n 0, 1, 0, 0, 0, 0), some (.getfield 42, 3, 6, 2, 0, 432), none, none, some (.getfield 152, 3, 7, 13, 0, 300), none, none, some (.bipush 6, 2, 0, 0, 0, 0), none, some (.aload_n 0, 1, 0, 0, 0, 0), some (.getfield 12, 3, 6, 4, 0, 434)],
  [none, none, some (.getfield 163, 3, 9, 11, 0, 401), none, none, some (.iload_n 3, 1, 0, 0, 0, 0), some (.iaload, 1, 0, 0, 0, 0), some (.i2l, 1, 0, 0, 0, 0), some (.lastore, 1, 0, 0, 0, 0), some (.iconst 0, 1, 0, 0, 0, 0), some (.istore 4, 2, 0, 0, 0, 0), none, some (.iconst 0, 1, 0, 0, 0, 0), some (.istore 5, 2, 0, 0, 0, 0), none, some (.iload 5, 2, 0, 0, 0, 0)],
  [none, some (.bipush 10, 2, 0, 0, 0, 0), none, some (.if_icmp .ge 25, 3, 0, 0, 0, 0), none, none, some (.aload_n 0, 1, 0, 0, 0, 0), some (.getfield 12, 3, 6, 4, 0, 434), none, none, some (.getfield 163, 3, 9, 11, 0, 401), none, none, some (.iload 5, 2, 0, 0, 0, 0), none, some (.iaload, 1, 0, 0, 0, 0)],
  [some (.ifCond .le 6, 3, 0, 0, 0, 0), none, none, some (.iinc 4 1, 3, 0, 0, 0, 0), none, none, some (.iinc 5 1, 3, 0, 0, 0, 0), none, none, some (.goto (-26), 3, 0, 0, 0, 0), none, none, some (.aload_n 0, 1, 0, 0, 0, 0), some (.getfield 42, 3, 6, 2, 0, 432), none, none],
  [some (.getfield 152, 3, 7, 13, 0, 300), none, none, some (.bipush 7, 2, 0, 0, 0, 0), none, some (.iload 4, 2, 0, 0, 0, 0), none, some (.i2l, 1, 0, 0, 0, 0), some (.lastore, 1, 0, 0, 0, 0), some (.return_, 1, 0, 0, 0, 0)]]
/-- 39: PurseTrace$Replay.act(I)V -/
noncomputable def am_o39 : List (List (Option am_Op)) := [[some (.aload_n 0, 1, 0, 0, 0, 0), some (.getfield 38, 3, 6, 1, 0, 431), none, none, some (.getfield 115, 3, 3, 1, 0, 193), none, none, some (.iload_n 1, 1, 0, 0, 0, 0), some (.iaload, 1, 0, 0, 0, 0), some (.istore_n 2, 1, 0, 0, 0, 0), some (.aload_n 0, 1, 0, 0, 0, 0), some (.getfield 38, 3, 6, 1, 0, 431), none, none, some (.getfield 156, 3, 3, 3, 0, 199), none],
  [none, some (.iload_n 1, 1, 0, 0, 0, 0), some (.iaload, 1, 0, 0, 0, 0), some (.istore_n 3, 1, 0, 0, 0, 0), some (.aload_n 0, 1, 0, 0, 0, 0), some (.getfield 12, 3, 6, 4, 0, 434), none, none, some (.invokevirtual 166, 3, 75, 1, 9, 906), none, none, some (.aload_n 0, 1, 0, 0, 0, 0), some (.aload_n 0, 1, 0, 0, 0, 0), some (.getfield 38, 3, 6, 1, 0, 431), none, none],
  [some (.iload_n 1, 1, 0, 0, 0, 0), some (.invokevirtual 135, 3, 22, 2, 3, 898), none, none, some (.ifCond .eq 19, 3, 0, 0, 0, 0), none, none, some (.aload_n 0, 1, 0, 0, 0, 0), some (.getfield 12, 3, 6, 4, 0, 434), none, none, some (.iload_n 2, 1, 0, 0, 0, 0), some (.invokevirtual 159, 3, 84, 2, 9, 871), none, none, some (.iload_n 3, 1, 0, 0, 0, 0)],
  [some (.if_icmp .ge 7, 3, 0, 0, 0, 0), none, none, some (.iconst 1, 1, 0, 0, 0, 0), some (.goto 4, 3, 0, 0, 0, 0), none, none, some (.iconst 0, 1, 0, 0, 0, 0), some (.putfield 102, 3, 6, 13, 0, 454), none, none, some (.aload_n 0, 1, 0, 0, 0, 0), some (.getfield 102, 3, 6, 13, 0, 454), none, none, some (.ifCond .eq 4, 3, 0, 0, 0, 0)],
  [none, none, some (.return_, 1, 0, 0, 0, 0), some (.aload_n 0, 1, 0, 0, 0, 0), some (.getfield 38, 3, 6, 1, 0, 431), none, none, some (.iload_n 1, 1, 0, 0, 0, 0), some (.invokevirtual 135, 3, 22, 2, 3, 898), none, none, some (.ifCond .eq 25, 3, 0, 0, 0, 0), none, none, some (.aload_n 0, 1, 0, 0, 0, 0), some (.getfield 12, 3, 6, 4, 0, 434)],
  [none, none, some (.iload_n 2, 1, 0, 0, 0, 0), some (.iload_n 3, 1, 0, 0, 0, 0), some (.aload_n 0, 1, 0, 0, 0, 0), some (.getfield 106, 3, 6, 10, 0, 450), none, none, some (.aload_n 0, 1, 0, 0, 0, 0), some (.getfield 34, 3, 6, 0, 0, 430), none, none, some (.getfield 149, 3, 5, 0, 0, 168), none, none, some (.iload_n 2, 1, 0, 0, 0, 0)],
  [some (.iaload, 1, 0, 0, 0, 0), some (.invokevirtual 169, 3, 78, 5, 9, 907), none, none, some (.aload_n 0, 1, 0, 0, 0, 0), some (.getfield 38, 3, 6, 1, 0, 431), none, none, some (.getfield 118, 3, 3, 0, 0, 189), none, none, some (.iload_n 1, 1, 0, 0, 0, 0), some (.iaload, 1, 0, 0, 0, 0), some (.tableswitch 106 0 4 #[35, 56, 64, 72, 88], 35, 0, 0, 0, 0), none, none],
  [none, none, none, none, none, none, none, none, none, none, none, none, none, none, none, none],
  [none, none, none, none, none, none, none, none, none, none, none, none, none, none, none, none],
  [some (.aload_n 0, 1, 0, 0, 0, 0), some (.getfield 12, 3, 6, 4, 0, 434), none, none, some (.iload_n 2, 1, 0, 0, 0, 0), some (.aload_n 0, 1, 0, 0, 0, 0), some (.getfield 38, 3, 6, 1, 0, 431), none, none, some (.getfield 146, 3, 3, 2, 0, 196), none, none, some (.iload_n 1, 1, 0, 0, 0, 0), some (.iaload, 1, 0, 0, 0, 0), some (.iload_n 3, 1, 0, 0, 0, 0), some (.invokevirtual 173, 3, 77, 4, 9, 940)],
  [none, none, some (.goto 68, 3, 0, 0, 0, 0), none, none, some (.aload_n 0, 1, 0, 0, 0, 0), some (.iload_n 1, 1, 0, 0, 0, 0), some (.invokevirtual 177, 3, 40, 2, 6, 944), none, none, some (.goto 60, 3, 0, 0, 0, 0), none, none, some (.aload_n 0, 1, 0, 0, 0, 0), some (.iload_n 2, 1, 0, 0, 0, 0), some (.invokevirtual 180, 3, 41, 2, 6, 953)],
  [none, none, some (.goto 52, 3, 0, 0, 0, 0), none, none, some (.aload_n 0, 1, 0, 0, 0, 0), some (.aload_n 0, 1, 0, 0, 0, 0), some (.getfield 38, 3, 6, 1, 0, 431), none, none, some (.getfield 146, 3, 3, 2, 0, 196), none, none, some (.iload_n 1, 1, 0, 0, 0, 0), some (.iaload, 1, 0, 0, 0, 0), some (.invokevirtual 183, 3, 42, 2, 6, 957)],
  [none, none, some (.goto 36, 3, 0, 0, 0, 0), none, none, some (.aload_n 0, 1, 0, 0, 0, 0), some (.iload_n 2, 1, 0, 0, 0, 0), some (.aload_n 0, 1, 0, 0, 0, 0), some (.getfield 38, 3, 6, 1, 0, 431), none, none, some (.getfield 146, 3, 3, 2, 0, 196), none, none, some (.iload_n 1, 1, 0, 0, 0, 0), some (.iaload, 1, 0, 0, 0, 0)],
  [some (.iload_n 3, 1, 0, 0, 0, 0), some (.invokevirtual 186, 3, 43, 4, 6, 961), none, none, some (.goto 18, 3, 0, 0, 0, 0), none, none, some (.aload_n 0, 1, 0, 0, 0, 0), some (.iload_n 2, 1, 0, 0, 0, 0), some (.aload_n 0, 1, 0, 0, 0, 0), some (.getfield 38, 3, 6, 1, 0, 431), none, none, some (.getfield 146, 3, 3, 2, 0, 196), none, none],
  [some (.iload_n 1, 1, 0, 0, 0, 0), some (.iaload, 1, 0, 0, 0, 0), some (.iload_n 3, 1, 0, 0, 0, 0), some (.invokevirtual 189, 3, 44, 4, 6, 972), none, none, some (.return_, 1, 0, 0, 0, 0)]]
/-- 40: PurseTrace$Replay.moveOn(I)V -/
noncomputable def am_o40 : List (List (Option am_Op)) := [[some (.aload_n 0, 1, 0, 0, 0, 0), some (.getfield 38, 3, 6, 1, 0, 431), none, none, some (.getfield 146, 3, 3, 2, 0, 196), none, none, some (.iload_n 1, 1, 0, 0, 0, 0), some (.iaload, 1, 0, 0, 0, 0), some (.istore_n 2, 1, 0, 0, 0, 0), some (.aload_n 0, 1, 0, 0, 0, 0), some (.getfield 34, 3, 6, 0, 0, 430), none, none, some (.getfield 149, 3, 5, 0, 0, 168), none],
  [none, some (.iload_n 2, 1, 0, 0, 0, 0), some (.iaload, 1, 0, 0, 0, 0), some (.istore_n 3, 1, 0, 0, 0, 0), some (.iconst 0, 1, 0, 0, 0, 0), some (.istore 4, 2, 0, 0, 0, 0), none, some (.iload 4, 2, 0, 0, 0, 0), none, some (.aload_n 0, 1, 0, 0, 0, 0), some (.getfield 12, 3, 6, 4, 0, 434), none, none, some (.getfield 192, 3, 9, 9, 0, 396), none, none],
  [some (.if_icmp .ge 90, 3, 0, 0, 0, 0), none, none, some (.aload_n 0, 1, 0, 0, 0, 0), some (.getfield 12, 3, 6, 4, 0, 434), none, none, some (.getfield 195, 3, 9, 7, 0, 392), none, none, some (.iload 4, 2, 0, 0, 0, 0), none, some (.iaload, 1, 0, 0, 0, 0), some (.istore 5, 2, 0, 0, 0, 0), none, some (.aload_n 0, 1, 0, 0, 0, 0)],
  [some (.getfield 112, 3, 6, 12, 0, 453), none, none, some (.ifCond .eq 33, 3, 0, 0, 0, 0), none, none, some (.aload_n 0, 1, 0, 0, 0, 0), some (.getfield 46, 3, 6, 3, 0, 433), none, none, some (.iload_n 3, 1, 0, 0, 0, 0), some (.iload 5, 2, 0, 0, 0, 0), none, some (.aload_n 0, 1, 0, 0, 0, 0), some (.getfield 38, 3, 6, 1, 0, 431), none],
  [none, some (.getfield 75, 3, 3, 5, 0, 205), none, none, some (.iload_n 1, 1, 0, 0, 0, 0), some (.iaload, 1, 0, 0, 0, 0), some (.aload_n 0, 1, 0, 0, 0, 0), some (.getfield 54, 3, 6, 9, 0, 449), none, none, some (.invokevirtual 198, 3, 16, 5, 2, 948), none, none, some (.ifCond .ne 7, 3, 0, 0, 0, 0), none, none],
  [some (.iconst 1, 1, 0, 0, 0, 0), some (.goto 4, 3, 0, 0, 0, 0), none, none, some (.iconst 0, 1, 0, 0, 0, 0), some (.istore 6, 2, 0, 0, 0, 0), none, some (.aload_n 0, 1, 0, 0, 0, 0), some (.getfield 12, 3, 6, 4, 0, 434), none, none, some (.iload_n 2, 1, 0, 0, 0, 0), some (.iload 6, 2, 0, 0, 0, 0), none, some (.ifCond .eq 7, 3, 0, 0, 0, 0), none],
  [none, some (.iload_n 3, 1, 0, 0, 0, 0), some (.goto 5, 3, 0, 0, 0, 0), none, none, some (.iload 5, 2, 0, 0, 0, 0), none, some (.aload_n 0, 1, 0, 0, 0, 0), some (.getfield 12, 3, 6, 4, 0, 434), none, none, some (.getfield 204, 3, 9, 8, 0, 394), none, none, some (.iload 4, 2, 0, 0, 0, 0), none],
  [some (.iaload, 1, 0, 0, 0, 0), some (.invokevirtual 207, 3, 76, 4, 9, 952), none, none, some (.iinc 4 1, 3, 0, 0, 0, 0), none, none, some (.goto (-96), 3, 0, 0, 0, 0), none, none, some (.return_, 1, 0, 0, 0, 0)]]
/-- 41: PurseTrace$Replay.spend(I)V -/
noncomputable def am_o41 : List (List (Option am_Op)) := [[some (.iconst 0, 1, 0, 0, 0, 0), some (.istore_n 2, 1, 0, 0, 0, 0), some (.iload_n 2, 1, 0, 0, 0, 0), some (.bipush 10, 2, 0, 0, 0, 0), none, some (.if_icmp .ge 48, 3, 0, 0, 0, 0), none, none, some (.iload_n 2, 1, 0, 0, 0, 0), some (.aload_n 0, 1, 0, 0, 0, 0), some (.getfield 34, 3, 6, 0, 0, 430), none, none, some (.getfield 149, 3, 5, 0, 0, 168), none, none],
  [some (.iload_n 1, 1, 0, 0, 0, 0), some (.iaload, 1, 0, 0, 0, 0), some (.if_icmp .eq 29, 3, 0, 0, 0, 0), none, none, some (.aload_n 0, 1, 0, 0, 0, 0), some (.getfield 12, 3, 6, 4, 0, 434), none, none, some (.getfield 210, 3, 9, 6, 0, 389), none, none, some (.iload_n 1, 1, 0, 0, 0, 0), some (.bipush 10, 2, 0, 0, 0, 0), none, some (.imul, 1, 0, 0, 0, 0)],
  [some (.iload_n 2, 1, 0, 0, 0, 0), some (.iadd, 1, 0, 0, 0, 0), some (.dup2, 1, 0, 0, 0, 0), some (.iaload, 1, 0, 0, 0, 0), some (.aload_n 0, 1, 0, 0, 0, 0), some (.getfield 12, 3, 6, 4, 0, 434), none, none, some (.getfield 213, 3, 9, 10, 0, 398), none, none, some (.iload_n 2, 1, 0, 0, 0, 0), some (.iaload, 1, 0, 0, 0, 0), some (.iadd, 1, 0, 0, 0, 0), some (.iastore, 1, 0, 0, 0, 0), some (.iinc 2 1, 3, 0, 0, 0, 0)],
  [none, none, some (.goto (-48), 3, 0, 0, 0, 0), none, none, some (.return_, 1, 0, 0, 0, 0)]]
/-- 42: PurseTrace$Replay.buy(I)V -/
noncomputable def am_o42 : List (List (Option am_Op)) := [[some (.iconst 0, 1, 0, 0, 0, 0), some (.istore_n 2, 1, 0, 0, 0, 0), some (.iload_n 2, 1, 0, 0, 0, 0), some (.bipush 10, 2, 0, 0, 0, 0), none, some (.if_icmp .ge 35, 3, 0, 0, 0, 0), none, none, some (.aload_n 0, 1, 0, 0, 0, 0), some (.getfield 12, 3, 6, 4, 0, 434), none, none, some (.getfield 216, 3, 9, 5, 0, 387), none, none, some (.iload_n 1, 1, 0, 0, 0, 0)],
  [some (.bipush 10, 2, 0, 0, 0, 0), none, some (.imul, 1, 0, 0, 0, 0), some (.iload_n 2, 1, 0, 0, 0, 0), some (.iadd, 1, 0, 0, 0, 0), some (.dup2, 1, 0, 0, 0, 0), some (.iaload, 1, 0, 0, 0, 0), some (.aload_n 0, 1, 0, 0, 0, 0), some (.getfield 12, 3, 6, 4, 0, 434), none, none, some (.getfield 213, 3, 9, 10, 0, 398), none, none, some (.iload_n 2, 1, 0, 0, 0, 0), some (.iaload, 1, 0, 0, 0, 0)],
  [some (.iadd, 1, 0, 0, 0, 0), some (.iastore, 1, 0, 0, 0, 0), some (.iinc 2 1, 3, 0, 0, 0, 0), none, none, some (.goto (-35), 3, 0, 0, 0, 0), none, none, some (.return_, 1, 0, 0, 0, 0)]]
/-- 43: PurseTrace$Replay.sell(III)V -/
noncomputable def am_o43 : List (List (Option am_Op)) := [[some (.aload_n 0, 1, 0, 0, 0, 0), some (.getfield 34, 3, 6, 0, 0, 430), none, none, some (.getfield 149, 3, 5, 0, 0, 168), none, none, some (.iload_n 1, 1, 0, 0, 0, 0), some (.iaload, 1, 0, 0, 0, 0), some (.istore 4, 2, 0, 0, 0, 0), none, some (.aload_n 0, 1, 0, 0, 0, 0), some (.getfield 12, 3, 6, 4, 0, 434), none, none, some (.iload_n 2, 1, 0, 0, 0, 0)],
  [some (.iconst (-1), 1, 0, 0, 0, 0), some (.invokevirtual 219, 3, 86, 3, 9, 965), none, none, some (.istore 5, 2, 0, 0, 0, 0), none, some (.iconst 0, 1, 0, 0, 0, 0), some (.istore 6, 2, 0, 0, 0, 0), none, some (.iload 6, 2, 0, 0, 0, 0), none, some (.bipush 10, 2, 0, 0, 0, 0), none, some (.if_icmp .ge 47, 3, 0, 0, 0, 0), none, none],
  [some (.aload_n 0, 1, 0, 0, 0, 0), some (.getfield 28, 3, 6, 15, 0, 458), none, none, some (.iload 6, 2, 0, 0, 0, 0), none, some (.aload_n 0, 1, 0, 0, 0, 0), some (.getfield 12, 3, 6, 4, 0, 434), none, none, some (.getfield 216, 3, 9, 5, 0, 387), none, none, some (.iload_n 2, 1, 0, 0, 0, 0), some (.bipush 10, 2, 0, 0, 0, 0), none],
  [some (.imul, 1, 0, 0, 0, 0), some (.iload 6, 2, 0, 0, 0, 0), none, some (.iadd, 1, 0, 0, 0, 0), some (.iaload, 1, 0, 0, 0, 0), some (.iastore, 1, 0, 0, 0, 0), some (.aload_n 0, 1, 0, 0, 0, 0), some (.getfield 12, 3, 6, 4, 0, 434), none, none, some (.getfield 216, 3, 9, 5, 0, 387), none, none, some (.iload_n 2, 1, 0, 0, 0, 0), some (.bipush 10, 2, 0, 0, 0, 0), none],
  [some (.imul, 1, 0, 0, 0, 0), some (.iload 6, 2, 0, 0, 0, 0), none, some (.iadd, 1, 0, 0, 0, 0), some (.iconst 0, 1, 0, 0, 0, 0), some (.iastore, 1, 0, 0, 0, 0), some (.iinc 6 1, 3, 0, 0, 0, 0), none, none, some (.goto (-48), 3, 0, 0, 0, 0), none, none, some (.iload 5, 2, 0, 0, 0, 0), none, some (.aload_n 0, 1, 0, 0, 0, 0), some (.getfield 28, 3, 6, 15, 0, 458)],
  [none, none, some (.iload 4, 2, 0, 0, 0, 0), none, some (.iaload, 1, 0, 0, 0, 0), some (.isub, 1, 0, 0, 0, 0), some (.istore 6, 2, 0, 0, 0, 0), none, some (.aload_n 0, 1, 0, 0, 0, 0), some (.getfield 109, 3, 6, 11, 0, 452), none, none, some (.ifCond .eq 23, 3, 0, 0, 0, 0), none, none, some (.iload 5, 2, 0, 0, 0, 0)],
  [none, some (.ifCond .le 18, 3, 0, 0, 0, 0), none, none, some (.iload_n 3, 1, 0, 0, 0, 0), some (.aload_n 0, 1, 0, 0, 0, 0), some (.getfield 28, 3, 6, 15, 0, 458), none, none, some (.aload_n 0, 1, 0, 0, 0, 0), some (.getfield 31, 3, 6, 16, 0, 459), none, none, some (.invokestatic 223, 3, 133, 3, 2, 969), none, none],
  [some (.goto 43, 3, 0, 0, 0, 0), none, none, some (.aload_n 0, 1, 0, 0, 0, 0), some (.getfield 28, 3, 6, 15, 0, 458), none, none, some (.iload 4, 2, 0, 0, 0, 0), none, some (.iconst 0, 1, 0, 0, 0, 0), some (.iastore, 1, 0, 0, 0, 0), some (.iload_n 3, 1, 0, 0, 0, 0), some (.iload 6, 2, 0, 0, 0, 0), none, some (.invokestatic 227, 3, 247, 2, 5, 970), none],
  [none, some (.aload_n 0, 1, 0, 0, 0, 0), some (.getfield 28, 3, 6, 15, 0, 458), none, none, some (.aload_n 0, 1, 0, 0, 0, 0), some (.getfield 31, 3, 6, 16, 0, 459), none, none, some (.invokestatic 223, 3, 133, 3, 2, 969), none, none, some (.aload_n 0, 1, 0, 0, 0, 0), some (.getfield 31, 3, 6, 16, 0, 459), none, none],
  [some (.iload 4, 2, 0, 0, 0, 0), none, some (.iconst 0, 1, 0, 0, 0, 0), some (.iload_n 3, 1, 0, 0, 0, 0), some (.iload 6, 2, 0, 0, 0, 0), none, some (.isub, 1, 0, 0, 0, 0), some (.invokestatic 232, 3, 246, 2, 4, 971), none, none, some (.iastore, 1, 0, 0, 0, 0), some (.iconst 0, 1, 0, 0, 0, 0), some (.istore 7, 2, 0, 0, 0, 0), none, some (.iload 7, 2, 0, 0, 0, 0), none],
  [some (.bipush 10, 2, 0, 0, 0, 0), none, some (.if_icmp .ge 26, 3, 0, 0, 0, 0), none, none, some (.aload_n 0, 1, 0, 0, 0, 0), some (.getfield 12, 3, 6, 4, 0, 434), none, none, some (.iload_n 1, 1, 0, 0, 0, 0), some (.iload 7, 2, 0, 0, 0, 0), none, some (.aload_n 0, 1, 0, 0, 0, 0), some (.getfield 31, 3, 6, 16, 0, 459), none, none],
  [some (.iload 7, 2, 0, 0, 0, 0), none, some (.iaload, 1, 0, 0, 0, 0), some (.invokevirtual 173, 3, 77, 4, 9, 940), none, none, some (.iinc 7 1, 3, 0, 0, 0, 0), none, none, some (.goto (-27), 3, 0, 0, 0, 0), none, none, some (.return_, 1, 0, 0, 0, 0)]]
/-- 44: PurseTrace$Replay.makeGood(III)V -/
noncomputable def am_o44 : List (List (Option am_Op)) := [[some (.iload_n 1, 1, 0, 0, 0, 0), some (.bipush 10, 2, 0, 0, 0, 0), none, some (.imul, 1, 0, 0, 0, 0), some (.iload_n 2, 1, 0, 0, 0, 0), some (.iadd, 1, 0, 0, 0, 0), some (.istore 4, 2, 0, 0, 0, 0), none, some (.iload_n 3, 1, 0, 0, 0, 0), some (.aload_n 0, 1, 0, 0, 0, 0), some (.getfield 12, 3, 6, 4, 0, 434), none, none, some (.getfield 210, 3, 9, 6, 0, 389), none, none],
  [some (.iload 4, 2, 0, 0, 0, 0), none, some (.iaload, 1, 0, 0, 0, 0), some (.invokestatic 227, 3, 247, 2, 5, 970), none, none, some (.istore 5, 2, 0, 0, 0, 0), none, some (.aload_n 0, 1, 0, 0, 0, 0), some (.getfield 12, 3, 6, 4, 0, 434), none, none, some (.getfield 210, 3, 9, 6, 0, 389), none, none, some (.iload 4, 2, 0, 0, 0, 0)],
  [none, some (.dup2, 1, 0, 0, 0, 0), some (.iaload, 1, 0, 0, 0, 0), some (.iload 5, 2, 0, 0, 0, 0), none, some (.isub, 1, 0, 0, 0, 0), some (.iastore, 1, 0, 0, 0, 0), some (.aload_n 0, 1, 0, 0, 0, 0), some (.getfield 12, 3, 6, 4, 0, 434), none, none, some (.iload_n 1, 1, 0, 0, 0, 0), some (.iload_n 2, 1, 0, 0, 0, 0), some (.iload 5, 2, 0, 0, 0, 0), none, some (.invokevirtual 173, 3, 77, 4, 9, 940)],
  [none, none, some (.aload_n 0, 1, 0, 0, 0, 0), some (.getfield 12, 3, 6, 4, 0, 434), none, none, some (.iload_n 1, 1, 0, 0, 0, 0), some (.aload_n 0, 1, 0, 0, 0, 0), some (.getfield 34, 3, 6, 0, 0, 430), none, none, some (.getfield 149, 3, 5, 0, 0, 168), none, none, some (.iload_n 1, 1, 0, 0, 0, 0), some (.iaload, 1, 0, 0, 0, 0)],
  [some (.iload_n 3, 1, 0, 0, 0, 0), some (.iload 5, 2, 0, 0, 0, 0), none, some (.isub, 1, 0, 0, 0, 0), some (.invokevirtual 173, 3, 77, 4, 9, 940), none, none, some (.return_, 1, 0, 0, 0, 0)]]
/-- 45: PurseTrace$Replay.ownOf(I)I -/
noncomputable def am_o45 : List (List (Option am_Op)) := [[some (.iconst 0, 1, 0, 0, 0, 0), some (.istore_n 2, 1, 0, 0, 0, 0), some (.iconst 0, 1, 0, 0, 0, 0), some (.istore_n 3, 1, 0, 0, 0, 0), some (.iload_n 3, 1, 0, 0, 0, 0), some (.aload_n 0, 1, 0, 0, 0, 0), some (.getfield 34, 3, 6, 0, 0, 430), none, none, some (.getfield 235, 3, 5, 2, 0, 173), none, none, some (.if_icmp .ge 34, 3, 0, 0, 0, 0), none, none, some (.aload_n 0, 1, 0, 0, 0, 0)],
  [some (.getfield 34, 3, 6, 0, 0, 430), none, none, some (.getfield 149, 3, 5, 0, 0, 168), none, none, some (.iload_n 3, 1, 0, 0, 0, 0), some (.iaload, 1, 0, 0, 0, 0), some (.iload_n 1, 1, 0, 0, 0, 0), some (.if_icmp .ne 15, 3, 0, 0, 0, 0), none, none, some (.iload_n 2, 1, 0, 0, 0, 0), some (.aload_n 0, 1, 0, 0, 0, 0), some (.getfield 12, 3, 6, 4, 0, 434), none],
  [none, some (.iload_n 3, 1, 0, 0, 0, 0), some (.iload_n 1, 1, 0, 0, 0, 0), some (.invokevirtual 236, 3, 85, 3, 9, 1140), none, none, some (.iadd, 1, 0, 0, 0, 0), some (.istore_n 2, 1, 0, 0, 0, 0), some (.iinc 3 1, 3, 0, 0, 0, 0), none, none, some (.goto (-39), 3, 0, 0, 0, 0), none, none, some (.iload_n 2, 1, 0, 0, 0, 0), some (.ireturn, 1, 0, 0, 0, 0)]]
/-- 46: PurseTrace$Replay.claimOf(I)I -/
noncomputable def am_o46 : List (List (Option am_Op)) := [[some (.iconst 0, 1, 0, 0, 0, 0), some (.istore_n 2, 1, 0, 0, 0, 0), some (.iconst 0, 1, 0, 0, 0, 0), some (.istore_n 3, 1, 0, 0, 0, 0), some (.iload_n 3, 1, 0, 0, 0, 0), some (.aload_n 0, 1, 0, 0, 0, 0), some (.getfield 34, 3, 6, 0, 0, 430), none, none, some (.getfield 235, 3, 5, 2, 0, 173), none, none, some (.if_icmp .ge 34, 3, 0, 0, 0, 0), none, none, some (.aload_n 0, 1, 0, 0, 0, 0)],
  [some (.getfield 34, 3, 6, 0, 0, 430), none, none, some (.getfield 149, 3, 5, 0, 0, 168), none, none, some (.iload_n 3, 1, 0, 0, 0, 0), some (.iaload, 1, 0, 0, 0, 0), some (.iload_n 1, 1, 0, 0, 0, 0), some (.if_icmp .eq 15, 3, 0, 0, 0, 0), none, none, some (.iload_n 2, 1, 0, 0, 0, 0), some (.aload_n 0, 1, 0, 0, 0, 0), some (.getfield 12, 3, 6, 4, 0, 434), none],
  [none, some (.iload_n 3, 1, 0, 0, 0, 0), some (.iload_n 1, 1, 0, 0, 0, 0), some (.invokevirtual 236, 3, 85, 3, 9, 1140), none, none, some (.iadd, 1, 0, 0, 0, 0), some (.istore_n 2, 1, 0, 0, 0, 0), some (.iinc 3 1, 3, 0, 0, 0, 0), none, none, some (.goto (-39), 3, 0, 0, 0, 0), none, none, some (.iconst 0, 1, 0, 0, 0, 0), some (.istore_n 3, 1, 0, 0, 0, 0)],
  [some (.iload_n 3, 1, 0, 0, 0, 0), some (.bipush 10, 2, 0, 0, 0, 0), none, some (.if_icmp .ge 21, 3, 0, 0, 0, 0), none, none, some (.iload_n 2, 1, 0, 0, 0, 0), some (.aload_n 0, 1, 0, 0, 0, 0), some (.getfield 12, 3, 6, 4, 0, 434), none, none, some (.iload_n 3, 1, 0, 0, 0, 0), some (.iload_n 1, 1, 0, 0, 0, 0), some (.invokevirtual 219, 3, 86, 3, 9, 965), none, none],
  [some (.iadd, 1, 0, 0, 0, 0), some (.istore_n 2, 1, 0, 0, 0, 0), some (.iinc 3 1, 3, 0, 0, 0, 0), none, none, some (.goto (-21), 3, 0, 0, 0, 0), none, none, some (.iload_n 2, 1, 0, 0, 0, 0), some (.ireturn, 1, 0, 0, 0, 0)]]
/-- 47: PurseTrace$RuleBook.add(IIII)I -/
noncomputable def am_o47 : List (List (Option am_Op)) := [[some (.aload_n 0, 1, 0, 0, 0, 0), some (.getfield 57, 3, 7, 14, 0, 301), none, none, some (.bipush 20, 2, 0, 0, 0, 0), none, some (.if_icmp .lt 5, 3, 0, 0, 0, 0), none, none, some (.iconst (-1), 1, 0, 0, 0, 0), some (.ireturn, 1, 0, 0, 0, 0), some (.aload_n 0, 1, 0, 0, 0, 0), some (.getfield 11, 3, 7, 0, 0, 278), none, none, some (.aload_n 0, 1, 0, 0, 0, 0)],
  [some (.getfield 57, 3, 7, 14, 0, 301), none, none, some (.iload_n 1, 1, 0, 0, 0, 0), some (.iastore, 1, 0, 0, 0, 0), some (.aload_n 0, 1, 0, 0, 0, 0), some (.getfield 15, 3, 7, 1, 0, 279), none, none, some (.aload_n 0, 1, 0, 0, 0, 0), some (.getfield 57, 3, 7, 14, 0, 301), none, none, some (.iload_n 2, 1, 0, 0, 0, 0), some (.iastore, 1, 0, 0, 0, 0), some (.aload_n 0, 1, 0, 0, 0, 0)],
  [some (.getfield 18, 3, 7, 2, 0, 280), none, none, some (.aload_n 0, 1, 0, 0, 0, 0), some (.getfield 57, 3, 7, 14, 0, 301), none, none, some (.iload_n 3, 1, 0, 0, 0, 0), some (.iastore, 1, 0, 0, 0, 0), some (.aload_n 0, 1, 0, 0, 0, 0), some (.getfield 21, 3, 7, 3, 0, 281), none, none, some (.aload_n 0, 1, 0, 0, 0, 0), some (.getfield 57, 3, 7, 14, 0, 301), none],
  [none, some (.iload 4, 2, 0, 0, 0, 0), none, some (.iastore, 1, 0, 0, 0, 0), some (.aload_n 0, 1, 0, 0, 0, 0), some (.dup, 1, 0, 0, 0, 0), some (.getfield 57, 3, 7, 14, 0, 301), none, none, some (.iconst 1, 1, 0, 0, 0, 0), some (.iadd, 1, 0, 0, 0, 0), some (.putfield 57, 3, 7, 14, 0, 301), none, none, some (.aload_n 0, 1, 0, 0, 0, 0), some (.getfield 57, 3, 7, 14, 0, 301)],
  [none, none, some (.iconst 1, 1, 0, 0, 0, 0), some (.isub, 1, 0, 0, 0, 0), some (.ireturn, 1, 0, 0, 0, 0)]]
/-- 48: PurseTrace$RuleBook.clausesOf(I)I -/
noncomputable def am_o48 : List (List (Option am_Op)) := [[some (.iload_n 1, 1, 0, 0, 0, 0), some (.bipush 20, 2, 0, 0, 0, 0), none, some (.if_icmp .lt 18, 3, 0, 0, 0, 0), none, none, some (.iload_n 1, 1, 0, 0, 0, 0), some (.bipush 20, 2, 0, 0, 0, 0), none, some (.aload_n 0, 1, 0, 0, 0, 0), some (.getfield 57, 3, 7, 14, 0, 301), none, none, some (.iadd, 1, 0, 0, 0, 0), some (.if_icmp .ge 7, 3, 0, 0, 0, 0), none],
  [none, some (.iconst 1, 1, 0, 0, 0, 0), some (.goto 4, 3, 0, 0, 0, 0), none, none, some (.iconst 0, 1, 0, 0, 0, 0), some (.istore_n 2, 1, 0, 0, 0, 0), some (.iload_n 2, 1, 0, 0, 0, 0), some (.ifCond .eq 15, 3, 0, 0, 0, 0), none, none, some (.aload_n 0, 1, 0, 0, 0, 0), some (.getfield 24, 3, 7, 4, 0, 282), none, none, some (.iload_n 1, 1, 0, 0, 0, 0)],
  [some (.bipush 20, 2, 0, 0, 0, 0), none, some (.isub, 1, 0, 0, 0, 0), some (.iaload, 1, 0, 0, 0, 0), some (.goto 4, 3, 0, 0, 0, 0), none, none, some (.iconst (-1), 1, 0, 0, 0, 0), some (.ireturn, 1, 0, 0, 0, 0)]]
/-- 49: PurseTrace$RuleBook.find(IIII)I -/
noncomputable def am_o49 : List (List (Option am_Op)) := [[some (.aload_n 0, 1, 0, 0, 0, 0), some (.getfield 45, 3, 7, 11, 0, 297), none, none, some (.iconst 0, 1, 0, 0, 0, 0), some (.invokestatic 61, 3, 245, 2, 1, 879), none, none, some (.aload_n 0, 1, 0, 0, 0, 0), some (.getfield 57, 3, 7, 14, 0, 301), none, none, some (.iconst 1, 1, 0, 0, 0, 0), some (.isub, 1, 0, 0, 0, 0), some (.istore 5, 2, 0, 0, 0, 0), none],
  [some (.iload 5, 2, 0, 0, 0, 0), none, some (.ifCond .lt 139, 3, 0, 0, 0, 0), none, none, some (.aload_n 0, 1, 0, 0, 0, 0), some (.iload 5, 2, 0, 0, 0, 0), none, some (.iload_n 2, 1, 0, 0, 0, 0), some (.iload_n 3, 1, 0, 0, 0, 0), some (.iload 4, 2, 0, 0, 0, 0), none, some (.invokevirtual 67, 3, 50, 5, 7, 880), none, none, some (.ifCond .eq 13, 3, 0, 0, 0, 0)],
  [none, none, some (.aload_n 0, 1, 0, 0, 0, 0), some (.getfield 24, 3, 7, 4, 0, 282), none, none, some (.iload 5, 2, 0, 0, 0, 0), none, some (.iaload, 1, 0, 0, 0, 0), some (.goto 4, 3, 0, 0, 0, 0), none, none, some (.iconst 0, 1, 0, 0, 0, 0), some (.istore 6, 2, 0, 0, 0, 0), none, some (.iconst 0, 1, 0, 0, 0, 0)],
  [some (.istore 7, 2, 0, 0, 0, 0), none, some (.iload 7, 2, 0, 0, 0, 0), none, some (.iload 6, 2, 0, 0, 0, 0), none, some (.if_icmp .ge 97, 3, 0, 0, 0, 0), none, none, some (.iload 5, 2, 0, 0, 0, 0), none, some (.bipush 12, 2, 0, 0, 0, 0), none, some (.imul, 1, 0, 0, 0, 0), some (.iload 7, 2, 0, 0, 0, 0), none],
  [some (.iadd, 1, 0, 0, 0, 0), some (.istore 8, 2, 0, 0, 0, 0), none, some (.aload_n 0, 1, 0, 0, 0, 0), some (.getfield 45, 3, 7, 11, 0, 297), none, none, some (.iload 5, 2, 0, 0, 0, 0), none, some (.iaload, 1, 0, 0, 0, 0), some (.iload 7, 2, 0, 0, 0, 0), none, some (.ishr, 1, 0, 0, 0, 0), some (.iconst 1, 1, 0, 0, 0, 0), some (.iand, 1, 0, 0, 0, 0), some (.ifCond .ne 7, 3, 0, 0, 0, 0)],
  [none, none, some (.iconst 1, 1, 0, 0, 0, 0), some (.goto 4, 3, 0, 0, 0, 0), none, none, some (.iconst 0, 1, 0, 0, 0, 0), some (.istore 9, 2, 0, 0, 0, 0), none, some (.iload 9, 2, 0, 0, 0, 0), none, some (.ifCond .eq 26, 3, 0, 0, 0, 0), none, none, some (.aload_n 0, 1, 0, 0, 0, 0), some (.getfield 27, 3, 7, 5, 0, 284)],
  [none, none, some (.iload 8, 2, 0, 0, 0, 0), none, some (.iaload, 1, 0, 0, 0, 0), some (.bipush 120, 2, 0, 0, 0, 0), none, some (.if_icmp .ne 14, 3, 0, 0, 0, 0), none, none, some (.aload_n 0, 1, 0, 0, 0, 0), some (.iload 5, 2, 0, 0, 0, 0), none, some (.iload 8, 2, 0, 0, 0, 0), none, some (.invokevirtual 71, 3, 51, 3, 7, 884)],
  [none, none, some (.goto 31, 3, 0, 0, 0, 0), none, none, some (.iload 9, 2, 0, 0, 0, 0), none, some (.ifCond .eq 26, 3, 0, 0, 0, 0), none, none, some (.aload_n 0, 1, 0, 0, 0, 0), some (.getfield 27, 3, 7, 5, 0, 284), none, none, some (.iload 8, 2, 0, 0, 0, 0), none],
  [some (.iaload, 1, 0, 0, 0, 0), some (.iload_n 1, 1, 0, 0, 0, 0), some (.if_icmp .ne 15, 3, 0, 0, 0, 0), none, none, some (.aload_n 0, 1, 0, 0, 0, 0), some (.iload 8, 2, 0, 0, 0, 0), none, some (.invokevirtual 75, 3, 52, 2, 7, 888), none, none, some (.ifCond .eq 6, 3, 0, 0, 0, 0), none, none, some (.iload 8, 2, 0, 0, 0, 0), none],
  [some (.ireturn, 1, 0, 0, 0, 0), some (.iinc 7 1, 3, 0, 0, 0, 0), none, none, some (.goto (-98), 3, 0, 0, 0, 0), none, none, some (.iinc 5 (-1), 3, 0, 0, 0, 0), none, none, some (.goto (-138), 3, 0, 0, 0, 0), none, none, some (.iconst (-1), 1, 0, 0, 0, 0), some (.ireturn, 1, 0, 0, 0, 0)]]
/-- 50: PurseTrace$RuleBook.isInForce(IIII)Z -/
noncomputable def am_o50 : List (List (Option am_Op)) := [[some (.aload_n 0, 1, 0, 0, 0, 0), some (.getfield 21, 3, 7, 3, 0, 281), none, none, some (.iload_n 1, 1, 0, 0, 0, 0), some (.iaload, 1, 0, 0, 0, 0), some (.iload 4, 2, 0, 0, 0, 0), none, some (.if_icmp .gt 37, 3, 0, 0, 0, 0), none, none, some (.aload_n 0, 1, 0, 0, 0, 0), some (.getfield 11, 3, 7, 0, 0, 278), none, none, some (.iload_n 1, 1, 0, 0, 0, 0)],
  [some (.iaload, 1, 0, 0, 0, 0), some (.iload_n 2, 1, 0, 0, 0, 0), some (.if_icmp .ne 27, 3, 0, 0, 0, 0), none, none, some (.aload_n 0, 1, 0, 0, 0, 0), some (.getfield 15, 3, 7, 1, 0, 279), none, none, some (.iload_n 1, 1, 0, 0, 0, 0), some (.iaload, 1, 0, 0, 0, 0), some (.iload_n 3, 1, 0, 0, 0, 0), some (.if_icmp .gt 17, 3, 0, 0, 0, 0), none, none, some (.iload_n 3, 1, 0, 0, 0, 0)],
  [some (.aload_n 0, 1, 0, 0, 0, 0), some (.getfield 18, 3, 7, 2, 0, 280), none, none, some (.iload_n 1, 1, 0, 0, 0, 0), some (.iaload, 1, 0, 0, 0, 0), some (.if_icmp .gt 7, 3, 0, 0, 0, 0), none, none, some (.iconst 1, 1, 0, 0, 0, 0), some (.goto 4, 3, 0, 0, 0, 0), none, none, some (.iconst 0, 1, 0, 0, 0, 0), some (.ireturn, 1, 1, 0, 0, 0)]]
/-- 51: PurseTrace$RuleBook.strikeLower(II)V -/
noncomputable def am_o51 : List (List (Option am_Op)) := [[some (.aload_n 0, 1, 0, 0, 0, 0), some (.getfield 30, 3, 7, 6, 0, 286), none, none, some (.iload_n 2, 1, 0, 0, 0, 0), some (.iaload, 1, 0, 0, 0, 0), some (.istore_n 3, 1, 0, 0, 0, 0), some (.iload_n 3, 1, 0, 0, 0, 0), some (.ifCond .lt 25, 3, 0, 0, 0, 0), none, none, some (.iload_n 3, 1, 0, 0, 0, 0), some (.iload_n 1, 1, 0, 0, 0, 0), some (.if_icmp .ge 20, 3, 0, 0, 0, 0), none, none],
  [some (.aload_n 0, 1, 0, 0, 0, 0), some (.getfield 45, 3, 7, 11, 0, 297), none, none, some (.iload_n 3, 1, 0, 0, 0, 0), some (.dup2, 1, 0, 0, 0, 0), some (.iaload, 1, 0, 0, 0, 0), some (.iconst 1, 1, 0, 0, 0, 0), some (.aload_n 0, 1, 0, 0, 0, 0), some (.getfield 33, 3, 7, 7, 0, 289), none, none, some (.iload_n 2, 1, 0, 0, 0, 0), some (.iaload, 1, 0, 0, 0, 0), some (.ishl, 1, 0, 0, 0, 0), some (.ior, 1, 0, 0, 0, 0)],
  [some (.iastore, 1, 0, 0, 0, 0), some (.return_, 1, 0, 0, 0, 0)]]
/-- 52: PurseTrace$RuleBook.holds(I)Z -/
noncomputable def am_o52 : List (List (Option am_Op)) := [[some (.iconst 0, 1, 0, 0, 0, 0), some (.istore_n 2, 1, 0, 0, 0, 0), some (.aload_n 0, 1, 0, 0, 0, 0), some (.getfield 36, 3, 7, 8, 0, 291), none, none, some (.iload_n 1, 1, 0, 0, 0, 0), some (.iaload, 1, 0, 0, 0, 0), some (.istore_n 3, 1, 0, 0, 0, 0), some (.iload_n 3, 1, 0, 0, 0, 0), some (.aload_n 0, 1, 0, 0, 0, 0), some (.getfield 39, 3, 7, 9, 0, 293), none, none, some (.iload_n 1, 1, 0, 0, 0, 0), some (.iaload, 1, 0, 0, 0, 0)],
  [some (.if_icmp .ge 240, 3, 0, 0, 0, 0), none, none, some (.iload_n 2, 1, 0, 0, 0, 0), some (.bipush 40, 2, 0, 0, 0, 0), none, some (.if_icmp .ge 234, 3, 0, 0, 0, 0), none, none, some (.aload_n 0, 1, 0, 0, 0, 0), some (.getfield 42, 3, 7, 10, 0, 295), none, none, some (.iload_n 3, 1, 0, 0, 0, 0), some (.iaload, 1, 0, 0, 0, 0), some (.iconst 4, 1, 0, 0, 0, 0)],
  [some (.ishr, 1, 0, 0, 0, 0), some (.istore 4, 2, 0, 0, 0, 0), none, some (.aload_n 0, 1, 0, 0, 0, 0), some (.getfield 42, 3, 7, 10, 0, 295), none, none, some (.iload_n 3, 1, 0, 0, 0, 0), some (.iaload, 1, 0, 0, 0, 0), some (.bipush 15, 2, 0, 0, 0, 0), none, some (.iand, 1, 0, 0, 0, 0), some (.istore 5, 2, 0, 0, 0, 0), none, some (.iload 5, 2, 0, 0, 0, 0), none],
  [some (.ifCond .eq 9, 3, 0, 0, 0, 0), none, none, some (.iload 5, 2, 0, 0, 0, 0), none, some (.iconst 1, 1, 0, 0, 0, 0), some (.if_icmp .ne 33, 3, 0, 0, 0, 0), none, none, some (.aload_n 0, 1, 0, 0, 0, 0), some (.getfield 48, 3, 7, 12, 0, 298), none, none, some (.iload_n 2, 1, 0, 0, 0, 0), some (.iload 5, 2, 0, 0, 0, 0), none],
  [some (.ifCond .ne 9, 3, 0, 0, 0, 0), none, none, some (.iload 4, 2, 0, 0, 0, 0), none, some (.i2l, 1, 0, 0, 0, 0), some (.goto 10, 3, 0, 0, 0, 0), none, none, some (.aload_n 0, 1, 0, 0, 0, 0), some (.getfield 54, 3, 7, 13, 0, 299), none, none, some (.iload 4, 2, 0, 0, 0, 0), none, some (.laload, 1, 0, 0, 0, 0)],
  [some (.lastore, 1, 0, 0, 0, 0), some (.iinc 2 1, 3, 0, 0, 0, 0), none, none, some (.goto 166, 3, 0, 0, 0, 0), none, none, some (.iload_n 2, 1, 0, 0, 0, 0), some (.ifCond .le 30, 3, 0, 0, 0, 0), none, none, some (.iload 5, 2, 0, 0, 0, 0), none, some (.iconst 2, 1, 0, 0, 0, 0), some (.if_icmp .ne 24, 3, 0, 0, 0, 0), none],
  [none, some (.aload_n 0, 1, 0, 0, 0, 0), some (.getfield 48, 3, 7, 12, 0, 298), none, none, some (.iload_n 2, 1, 0, 0, 0, 0), some (.iconst 1, 1, 0, 0, 0, 0), some (.isub, 1, 0, 0, 0, 0), some (.lconst 1, 1, 0, 0, 0, 0), some (.aload_n 0, 1, 0, 0, 0, 0), some (.getfield 48, 3, 7, 12, 0, 298), none, none, some (.iload_n 2, 1, 0, 0, 0, 0), some (.iconst 1, 1, 0, 0, 0, 0), some (.isub, 1, 0, 0, 0, 0)],
  [some (.laload, 1, 0, 0, 0, 0), some (.lsub, 1, 0, 0, 0, 0), some (.lastore, 1, 0, 0, 0, 0), some (.goto 135, 3, 0, 0, 0, 0), none, none, some (.iload_n 2, 1, 0, 0, 0, 0), some (.ifCond .le 69, 3, 0, 0, 0, 0), none, none, some (.iload 5, 2, 0, 0, 0, 0), none, some (.iconst 3, 1, 0, 0, 0, 0), some (.if_icmp .eq 9, 3, 0, 0, 0, 0), none, none],
  [some (.iload 5, 2, 0, 0, 0, 0), none, some (.iconst 4, 1, 0, 0, 0, 0), some (.if_icmp .ne 57, 3, 0, 0, 0, 0), none, none, some (.aload_n 0, 1, 0, 0, 0, 0), some (.getfield 48, 3, 7, 12, 0, 298), none, none, some (.iload_n 2, 1, 0, 0, 0, 0), some (.iconst 1, 1, 0, 0, 0, 0), some (.isub, 1, 0, 0, 0, 0), some (.laload, 1, 0, 0, 0, 0), some (.lconst 0, 1, 0, 0, 0, 0), some (.lcmp, 1, 0, 0, 0, 0)],
  [some (.ifCond .eq 7, 3, 0, 0, 0, 0), none, none, some (.iconst 1, 1, 0, 0, 0, 0), some (.goto 4, 3, 0, 0, 0, 0), none, none, some (.iconst 0, 1, 0, 0, 0, 0), some (.istore 6, 2, 0, 0, 0, 0), none, some (.iload 6, 2, 0, 0, 0, 0), none, some (.iload 5, 2, 0, 0, 0, 0), none, some (.iconst 4, 1, 0, 0, 0, 0), some (.if_icmp .ne 7, 3, 0, 0, 0, 0)],
  [none, none, some (.iconst 1, 1, 0, 0, 0, 0), some (.goto 4, 3, 0, 0, 0, 0), none, none, some (.iconst 0, 1, 0, 0, 0, 0), some (.if_icmp .ne 15, 3, 0, 0, 0, 0), none, none, some (.iload_n 3, 1, 0, 0, 0, 0), some (.iload 4, 2, 0, 0, 0, 0), none, some (.iconst 1, 1, 0, 0, 0, 0), some (.isub, 1, 0, 0, 0, 0), some (.invokestatic 79, 3, 246, 2, 4, 892)],
  [none, none, some (.istore_n 3, 1, 0, 0, 0, 0), some (.goto 6, 3, 0, 0, 0, 0), none, none, some (.iinc 2 (-1), 3, 0, 0, 0, 0), none, none, some (.goto 65, 3, 0, 0, 0, 0), none, none, some (.iload_n 2, 1, 0, 0, 0, 0), some (.iconst 1, 1, 0, 0, 0, 0), some (.if_icmp .le 60, 3, 0, 0, 0, 0), none],
  [none, some (.iinc 2 (-1), 3, 0, 0, 0, 0), none, none, some (.aload_n 0, 1, 0, 0, 0, 0), some (.getfield 48, 3, 7, 12, 0, 298), none, none, some (.iload_n 2, 1, 0, 0, 0, 0), some (.laload, 1, 0, 0, 0, 0), some (.lconst 0, 1, 0, 0, 0, 0), some (.lcmp, 1, 0, 0, 0, 0), some (.ifCond .ne 19, 3, 0, 0, 0, 0), none, none, some (.iload 5, 2, 0, 0, 0, 0)],
  [none, some (.bipush 8, 2, 0, 0, 0, 0), none, some (.if_icmp .eq 10, 3, 0, 0, 0, 0), none, none, some (.iload 5, 2, 0, 0, 0, 0), none, some (.bipush 9, 2, 0, 0, 0, 0), none, some (.if_icmp .ne 5, 3, 0, 0, 0, 0), none, none, some (.iconst 0, 1, 0, 0, 0, 0), some (.ireturn, 1, 1, 0, 0, 0), some (.aload_n 0, 1, 0, 0, 0, 0)],
  [some (.getfield 48, 3, 7, 12, 0, 298), none, none, some (.iload_n 2, 1, 0, 0, 0, 0), some (.iconst 1, 1, 0, 0, 0, 0), some (.isub, 1, 0, 0, 0, 0), some (.iload 5, 2, 0, 0, 0, 0), none, some (.aload_n 0, 1, 0, 0, 0, 0), some (.getfield 48, 3, 7, 12, 0, 298), none, none, some (.iload_n 2, 1, 0, 0, 0, 0), some (.iconst 1, 1, 0, 0, 0, 0), some (.isub, 1, 0, 0, 0, 0), some (.laload, 1, 0, 0, 0, 0)],
  [some (.aload_n 0, 1, 0, 0, 0, 0), some (.getfield 48, 3, 7, 12, 0, 298), none, none, some (.iload_n 2, 1, 0, 0, 0, 0), some (.laload, 1, 0, 0, 0, 0), some (.invokestatic 85, 3, 53, 3, 1, 895), none, none, some (.lastore, 1, 0, 0, 0, 0), some (.iinc 3 1, 3, 0, 0, 0, 0), none, none, some (.goto (-244), 3, 0, 0, 0, 0), none, none],
  [some (.aload_n 0, 1, 0, 0, 0, 0), some (.getfield 48, 3, 7, 12, 0, 298), none, none, some (.iconst 0, 1, 0, 0, 0, 0), some (.laload, 1, 0, 0, 0, 0), some (.lconst 0, 1, 0, 0, 0, 0), some (.lcmp, 1, 0, 0, 0, 0), some (.ifCond .eq 7, 3, 0, 0, 0, 0), none, none, some (.iconst 1, 1, 0, 0, 0, 0), some (.goto 4, 3, 0, 0, 0, 0), none, none, some (.iconst 0, 1, 0, 0, 0, 0)],
  [some (.ireturn, 1, 1, 0, 0, 0)]]
/-- 53: PurseTrace$RuleBook.reckon(IJJ)J -/
noncomputable def am_o53 : List (List (Option am_Op)) := [[some (.iload_n 0, 1, 0, 0, 0, 0), some (.tableswitch 107 5 11 #[43, 47, 51, 55, 69, 83, 95], 43, 0, 0, 0, 0), none, none, none, none, none, none, none, none, none, none, none, none, none, none],
  [none, none, none, none, none, none, none, none, none, none, none, none, none, none, none, none],
  [none, none, none, none, none, none, none, none, none, none, none, none, some (.lload_n 1, 1, 0, 0, 0, 0), some (.lload_n 3, 1, 0, 0, 0, 0), some (.ladd, 1, 0, 0, 0, 0), some (.lreturn, 1, 0, 0, 0, 0)],
  [some (.lload_n 1, 1, 0, 0, 0, 0), some (.lload_n 3, 1, 0, 0, 0, 0), some (.lsub, 1, 0, 0, 0, 0), some (.lreturn, 1, 0, 0, 0, 0), some (.lload_n 1, 1, 0, 0, 0, 0), some (.lload_n 3, 1, 0, 0, 0, 0), some (.lmul, 1, 0, 0, 0, 0), some (.lreturn, 1, 0, 0, 0, 0), some (.lload_n 3, 1, 0, 0, 0, 0), some (.lconst 0, 1, 0, 0, 0, 0), some (.lcmp, 1, 0, 0, 0, 0), some (.ifCond .ne 7, 3, 0, 0, 0, 0), none, none, some (.lconst 0, 1, 0, 0, 0, 0), some (.goto 6, 3, 0, 0, 0, 0)],
  [none, none, some (.lload_n 1, 1, 0, 0, 0, 0), some (.lload_n 3, 1, 0, 0, 0, 0), some (.ldiv, 1, 0, 0, 0, 0), some (.lreturn, 1, 0, 0, 0, 0), some (.lload_n 3, 1, 0, 0, 0, 0), some (.lconst 0, 1, 0, 0, 0, 0), some (.lcmp, 1, 0, 0, 0, 0), some (.ifCond .ne 7, 3, 0, 0, 0, 0), none, none, some (.lconst 0, 1, 0, 0, 0, 0), some (.goto 6, 3, 0, 0, 0, 0), none, none],
  [some (.lload_n 1, 1, 0, 0, 0, 0), some (.lload_n 3, 1, 0, 0, 0, 0), some (.lrem, 1, 0, 0, 0, 0), some (.lreturn, 1, 0, 0, 0, 0), some (.lload_n 1, 1, 0, 0, 0, 0), some (.lload_n 3, 1, 0, 0, 0, 0), some (.lcmp, 1, 0, 0, 0, 0), some (.ifCond .ge 7, 3, 0, 0, 0, 0), none, none, some (.lconst 1, 1, 0, 0, 0, 0), some (.goto 4, 3, 0, 0, 0, 0), none, none, some (.lconst 0, 1, 0, 0, 0, 0), some (.lreturn, 1, 0, 0, 0, 0)],
  [some (.lload_n 1, 1, 0, 0, 0, 0), some (.lload_n 3, 1, 0, 0, 0, 0), some (.lcmp, 1, 0, 0, 0, 0), some (.ifCond .le 7, 3, 0, 0, 0, 0), none, none, some (.lconst 1, 1, 0, 0, 0, 0), some (.goto 4, 3, 0, 0, 0, 0), none, none, some (.lconst 0, 1, 0, 0, 0, 0), some (.lreturn, 1, 0, 0, 0, 0), some (.lload_n 1, 1, 0, 0, 0, 0), some (.lload_n 3, 1, 0, 0, 0, 0), some (.lcmp, 1, 0, 0, 0, 0), some (.ifCond .ne 7, 3, 0, 0, 0, 0)],
  [none, none, some (.lconst 1, 1, 0, 0, 0, 0), some (.goto 4, 3, 0, 0, 0, 0), none, none, some (.lconst 0, 1, 0, 0, 0, 0), some (.lreturn, 1, 0, 0, 0, 0)]]
/-- 54: PurseTrace$RuleReader.read(I)I -/
noncomputable def am_o54 : List (List (Option am_Op)) := [[some (.aload_n 0, 1, 0, 0, 0, 0), some (.getfield 15, 3, 8, 1, 0, 343), none, none, some (.getfield 19, 3, 7, 14, 0, 302), none, none, some (.bipush 19, 2, 0, 0, 0, 0), none, some (.invokestatic 25, 3, 247, 2, 5, 739), none, none, some (.istore_n 2, 1, 0, 0, 0, 0), some (.aload_n 0, 1, 0, 0, 0, 0), some (.iload_n 1, 1, 0, 0, 0, 0), some (.putfield 31, 3, 8, 2, 0, 344)],
  [none, none, some (.aload_n 0, 1, 0, 0, 0, 0), some (.iconst 0, 1, 0, 0, 0, 0), some (.putfield 32, 3, 8, 3, 0, 345), none, none, some (.aload_n 0, 1, 0, 0, 0, 0), some (.iconst 0, 1, 0, 0, 0, 0), some (.putfield 35, 3, 8, 4, 0, 346), none, none, some (.aload_n 0, 1, 0, 0, 0, 0), some (.iconst 0, 1, 0, 0, 0, 0), some (.putfield 38, 3, 8, 5, 0, 347), none],
  [none, some (.aload_n 0, 1, 0, 0, 0, 0), some (.iload_n 2, 1, 0, 0, 0, 0), some (.sipush 160, 3, 0, 0, 0, 0), none, none, some (.imul, 1, 0, 0, 0, 0), some (.putfield 41, 3, 8, 6, 0, 348), none, none, some (.aload_n 0, 1, 0, 0, 0, 0), some (.iconst 0, 1, 0, 0, 0, 0), some (.putfield 44, 3, 8, 7, 0, 349), none, none, some (.aload_n 0, 1, 0, 0, 0, 0)],
  [some (.getfield 15, 3, 8, 1, 0, 343), none, none, some (.getfield 47, 3, 7, 4, 0, 283), none, none, some (.iload_n 2, 1, 0, 0, 0, 0), some (.iconst 0, 1, 0, 0, 0, 0), some (.iastore, 1, 0, 0, 0, 0), some (.iconst 1, 1, 0, 0, 0, 0), some (.istore_n 3, 1, 0, 0, 0, 0), some (.iconst 0, 1, 0, 0, 0, 0), some (.istore 4, 2, 0, 0, 0, 0), none, some (.iload 4, 2, 0, 0, 0, 0), none],
  [some (.bipush 12, 2, 0, 0, 0, 0), none, some (.if_icmp .gt 54, 3, 0, 0, 0, 0), none, none, some (.iload_n 3, 1, 0, 0, 0, 0), some (.ifCond .eq 50, 3, 0, 0, 0, 0), none, none, some (.aload_n 0, 1, 0, 0, 0, 0), some (.iload_n 2, 1, 0, 0, 0, 0), some (.iload 4, 2, 0, 0, 0, 0), none, some (.invokevirtual 51, 3, 55, 3, 8, 742), none, none],
  [some (.aload_n 0, 1, 0, 0, 0, 0), some (.getfield 35, 3, 8, 4, 0, 346), none, none, some (.ifCond .ne 18, 3, 0, 0, 0, 0), none, none, some (.aload_n 0, 1, 0, 0, 0, 0), some (.getfield 32, 3, 8, 3, 0, 345), none, none, some (.aload_n 0, 1, 0, 0, 0, 0), some (.getfield 31, 3, 8, 2, 0, 344), none, none, some (.if_icmp .ge 7, 3, 0, 0, 0, 0)],
  [none, none, some (.iconst 1, 1, 0, 0, 0, 0), some (.goto 4, 3, 0, 0, 0, 0), none, none, some (.iconst 0, 1, 0, 0, 0, 0), some (.istore_n 3, 1, 0, 0, 0, 0), some (.iload_n 3, 1, 0, 0, 0, 0), some (.ifCond .eq 9, 3, 0, 0, 0, 0), none, none, some (.aload_n 0, 1, 0, 0, 0, 0), some (.bipush 59, 2, 0, 0, 0, 0), none, some (.invokevirtual 55, 3, 64, 2, 8, 765)],
  [none, none, some (.iinc 4 1, 3, 0, 0, 0, 0), none, none, some (.goto (-55), 3, 0, 0, 0, 0), none, none, some (.sipush (-1000), 3, 0, 0, 0, 0), none, none, some (.aload_n 0, 1, 0, 0, 0, 0), some (.getfield 35, 3, 8, 4, 0, 346), none, none, some (.imul, 1, 0, 0, 0, 0)],
  [some (.aload_n 0, 1, 0, 0, 0, 0), some (.getfield 38, 3, 8, 5, 0, 347), none, none, some (.isub, 1, 0, 0, 0, 0), some (.ireturn, 1, 0, 0, 0, 0)]]
/-- 55: PurseTrace$RuleReader.readClause(II)V -/
noncomputable def am_o55 : List (List (Option am_Op)) := [[some (.aload_n 0, 1, 0, 0, 0, 0), some (.invokevirtual 59, 3, 66, 1, 8, 746), none, none, some (.istore_n 3, 1, 0, 0, 0, 0), some (.iload_n 3, 1, 0, 0, 0, 0), some (.bipush 119, 2, 0, 0, 0, 0), none, some (.if_icmp .eq 31, 3, 0, 0, 0, 0), none, none, some (.iload_n 3, 1, 0, 0, 0, 0), some (.bipush 114, 2, 0, 0, 0, 0), none, some (.if_icmp .eq 25, 3, 0, 0, 0, 0), none],
  [none, some (.iload_n 3, 1, 0, 0, 0, 0), some (.bipush 103, 2, 0, 0, 0, 0), none, some (.if_icmp .eq 19, 3, 0, 0, 0, 0), none, none, some (.iload_n 3, 1, 0, 0, 0, 0), some (.bipush 120, 2, 0, 0, 0, 0), none, some (.if_icmp .eq 13, 3, 0, 0, 0, 0), none, none, some (.aload_n 0, 1, 0, 0, 0, 0), some (.iconst 1, 1, 0, 0, 0, 0), some (.aload_n 0, 1, 0, 0, 0, 0)],
  [some (.getfield 32, 3, 8, 3, 0, 345), none, none, some (.invokevirtual 63, 3, 65, 3, 8, 754), none, none, some (.return_, 1, 0, 0, 0, 0), some (.iload_n 2, 1, 0, 0, 0, 0), some (.bipush 12, 2, 0, 0, 0, 0), none, some (.if_icmp .lt 13, 3, 0, 0, 0, 0), none, none, some (.aload_n 0, 1, 0, 0, 0, 0), some (.iconst 4, 1, 0, 0, 0, 0), some (.aload_n 0, 1, 0, 0, 0, 0)],
  [some (.getfield 32, 3, 8, 3, 0, 345), none, none, some (.invokevirtual 63, 3, 65, 3, 8, 754), none, none, some (.return_, 1, 0, 0, 0, 0), some (.aload_n 0, 1, 0, 0, 0, 0), some (.dup, 1, 0, 0, 0, 0), some (.getfield 32, 3, 8, 3, 0, 345), none, none, some (.iconst 1, 1, 0, 0, 0, 0), some (.iadd, 1, 0, 0, 0, 0), some (.putfield 32, 3, 8, 3, 0, 345), none],
  [none, some (.iload_n 1, 1, 0, 0, 0, 0), some (.bipush 12, 2, 0, 0, 0, 0), none, some (.imul, 1, 0, 0, 0, 0), some (.iload_n 2, 1, 0, 0, 0, 0), some (.iadd, 1, 0, 0, 0, 0), some (.istore 4, 2, 0, 0, 0, 0), none, some (.aload_n 0, 1, 0, 0, 0, 0), some (.getfield 15, 3, 8, 1, 0, 343), none, none, some (.getfield 66, 3, 7, 5, 0, 285), none, none],
  [some (.iload 4, 2, 0, 0, 0, 0), none, some (.iload_n 3, 1, 0, 0, 0, 0), some (.iastore, 1, 0, 0, 0, 0), some (.aload_n 0, 1, 0, 0, 0, 0), some (.getfield 15, 3, 8, 1, 0, 343), none, none, some (.getfield 47, 3, 7, 4, 0, 283), none, none, some (.iload_n 1, 1, 0, 0, 0, 0), some (.iload_n 2, 1, 0, 0, 0, 0), some (.iconst 1, 1, 0, 0, 0, 0), some (.iadd, 1, 0, 0, 0, 0), some (.iastore, 1, 0, 0, 0, 0)],
  [some (.iload_n 3, 1, 0, 0, 0, 0), some (.bipush 120, 2, 0, 0, 0, 0), none, some (.if_icmp .ne 42, 3, 0, 0, 0, 0), none, none, some (.aload_n 0, 1, 0, 0, 0, 0), some (.getfield 15, 3, 8, 1, 0, 343), none, none, some (.getfield 69, 3, 7, 6, 0, 287), none, none, some (.iload 4, 2, 0, 0, 0, 0), none, some (.aload_n 0, 1, 0, 0, 0, 0)],
  [some (.bipush 19, 2, 0, 0, 0, 0), none, some (.invokevirtual 72, 3, 62, 2, 8, 758), none, none, some (.iastore, 1, 0, 0, 0, 0), some (.aload_n 0, 1, 0, 0, 0, 0), some (.bipush 46, 2, 0, 0, 0, 0), none, some (.invokevirtual 55, 3, 64, 2, 8, 765), none, none, some (.aload_n 0, 1, 0, 0, 0, 0), some (.getfield 15, 3, 8, 1, 0, 343), none, none],
  [some (.getfield 76, 3, 7, 7, 0, 290), none, none, some (.iload 4, 2, 0, 0, 0, 0), none, some (.aload_n 0, 1, 0, 0, 0, 0), some (.bipush 11, 2, 0, 0, 0, 0), none, some (.invokevirtual 72, 3, 62, 2, 8, 758), none, none, some (.iastore, 1, 0, 0, 0, 0), some (.return_, 1, 0, 0, 0, 0), some (.aload_n 0, 1, 0, 0, 0, 0), some (.getfield 15, 3, 8, 1, 0, 343), none],
  [none, some (.getfield 69, 3, 7, 6, 0, 287), none, none, some (.iload 4, 2, 0, 0, 0, 0), none, some (.iload_n 3, 1, 0, 0, 0, 0), some (.bipush 119, 2, 0, 0, 0, 0), none, some (.if_icmp .ne 11, 3, 0, 0, 0, 0), none, none, some (.aload_n 0, 1, 0, 0, 0, 0), some (.iconst 4, 1, 0, 0, 0, 0), some (.invokevirtual 72, 3, 62, 2, 8, 758), none],
  [none, some (.goto 4, 3, 0, 0, 0, 0), none, none, some (.iconst 0, 1, 0, 0, 0, 0), some (.iastore, 1, 0, 0, 0, 0), some (.aload_n 0, 1, 0, 0, 0, 0), some (.bipush 40, 2, 0, 0, 0, 0), none, some (.invokevirtual 55, 3, 64, 2, 8, 765), none, none, some (.aload_n 0, 1, 0, 0, 0, 0), some (.getfield 15, 3, 8, 1, 0, 343), none, none],
  [some (.getfield 79, 3, 7, 8, 0, 292), none, none, some (.iload 4, 2, 0, 0, 0, 0), none, some (.aload_n 0, 1, 0, 0, 0, 0), some (.getfield 41, 3, 8, 6, 0, 348), none, none, some (.aload_n 0, 1, 0, 0, 0, 0), some (.getfield 44, 3, 8, 7, 0, 349), none, none, some (.iadd, 1, 0, 0, 0, 0), some (.iastore, 1, 0, 0, 0, 0), some (.aload_n 0, 1, 0, 0, 0, 0)],
  [some (.iconst 1, 1, 0, 0, 0, 0), some (.invokevirtual 82, 3, 56, 2, 8, 769), none, none, some (.aload_n 0, 1, 0, 0, 0, 0), some (.bipush 41, 2, 0, 0, 0, 0), none, some (.invokevirtual 55, 3, 64, 2, 8, 765), none, none, some (.aload_n 0, 1, 0, 0, 0, 0), some (.getfield 15, 3, 8, 1, 0, 343), none, none, some (.getfield 85, 3, 7, 9, 0, 294), none],
  [none, some (.iload 4, 2, 0, 0, 0, 0), none, some (.aload_n 0, 1, 0, 0, 0, 0), some (.getfield 41, 3, 8, 6, 0, 348), none, none, some (.aload_n 0, 1, 0, 0, 0, 0), some (.getfield 44, 3, 8, 7, 0, 349), none, none, some (.iadd, 1, 0, 0, 0, 0), some (.iastore, 1, 0, 0, 0, 0), some (.return_, 1, 0, 0, 0, 0)]]
/-- 56: PurseTrace$RuleReader.readCondition(I)V -/
noncomputable def am_o56 : List (List (Option am_Op)) := [[some (.aload_n 0, 1, 0, 0, 0, 0), some (.iload_n 1, 1, 0, 0, 0, 0), some (.invokevirtual 88, 3, 57, 2, 8, 773), none, none, some (.aload_n 0, 1, 0, 0, 0, 0), some (.getfield 35, 3, 8, 4, 0, 346), none, none, some (.ifCond .ne 54, 3, 0, 0, 0, 0), none, none, some (.aload_n 0, 1, 0, 0, 0, 0), some (.getfield 32, 3, 8, 3, 0, 345), none, none],
  [some (.aload_n 0, 1, 0, 0, 0, 0), some (.getfield 31, 3, 8, 2, 0, 344), none, none, some (.if_icmp .ge 43, 3, 0, 0, 0, 0), none, none, some (.aload_n 0, 1, 0, 0, 0, 0), some (.invokevirtual 59, 3, 66, 1, 8, 746), none, none, some (.bipush 124, 2, 0, 0, 0, 0), none, some (.if_icmp .ne 34, 3, 0, 0, 0, 0), none, none],
  [some (.aload_n 0, 1, 0, 0, 0, 0), some (.dup, 1, 0, 0, 0, 0), some (.getfield 32, 3, 8, 3, 0, 345), none, none, some (.iconst 1, 1, 0, 0, 0, 0), some (.iadd, 1, 0, 0, 0, 0), some (.putfield 32, 3, 8, 3, 0, 345), none, none, some (.aload_n 0, 1, 0, 0, 0, 0), some (.iconst 4, 1, 0, 0, 0, 0), some (.iconst 0, 1, 0, 0, 0, 0), some (.invokevirtual 91, 3, 67, 3, 8, 785), none, none],
  [some (.istore_n 2, 1, 0, 0, 0, 0), some (.aload_n 0, 1, 0, 0, 0, 0), some (.iload_n 1, 1, 0, 0, 0, 0), some (.invokevirtual 88, 3, 57, 2, 8, 773), none, none, some (.aload_n 0, 1, 0, 0, 0, 0), some (.iload_n 2, 1, 0, 0, 0, 0), some (.iconst 4, 1, 0, 0, 0, 0), some (.invokevirtual 94, 3, 68, 3, 8, 811), none, none, some (.goto (-55), 3, 0, 0, 0, 0), none, none, some (.return_, 1, 0, 0, 0, 0)]]
/-- 57: PurseTrace$RuleReader.readPart(I)V -/
noncomputable def am_o57 : List (List (Option am_Op)) := [[some (.aload_n 0, 1, 0, 0, 0, 0), some (.iload_n 1, 1, 0, 0, 0, 0), some (.invokevirtual 97, 3, 58, 2, 8, 777), none, none, some (.aload_n 0, 1, 0, 0, 0, 0), some (.getfield 35, 3, 8, 4, 0, 346), none, none, some (.ifCond .ne 54, 3, 0, 0, 0, 0), none, none, some (.aload_n 0, 1, 0, 0, 0, 0), some (.getfield 32, 3, 8, 3, 0, 345), none, none],
  [some (.aload_n 0, 1, 0, 0, 0, 0), some (.getfield 31, 3, 8, 2, 0, 344), none, none, some (.if_icmp .ge 43, 3, 0, 0, 0, 0), none, none, some (.aload_n 0, 1, 0, 0, 0, 0), some (.invokevirtual 59, 3, 66, 1, 8, 746), none, none, some (.bipush 38, 2, 0, 0, 0, 0), none, some (.if_icmp .ne 34, 3, 0, 0, 0, 0), none, none],
  [some (.aload_n 0, 1, 0, 0, 0, 0), some (.dup, 1, 0, 0, 0, 0), some (.getfield 32, 3, 8, 3, 0, 345), none, none, some (.iconst 1, 1, 0, 0, 0, 0), some (.iadd, 1, 0, 0, 0, 0), some (.putfield 32, 3, 8, 3, 0, 345), none, none, some (.aload_n 0, 1, 0, 0, 0, 0), some (.iconst 3, 1, 0, 0, 0, 0), some (.iconst 0, 1, 0, 0, 0, 0), some (.invokevirtual 91, 3, 67, 3, 8, 785), none, none],
  [some (.istore_n 2, 1, 0, 0, 0, 0), some (.aload_n 0, 1, 0, 0, 0, 0), some (.iload_n 1, 1, 0, 0, 0, 0), some (.invokevirtual 97, 3, 58, 2, 8, 777), none, none, some (.aload_n 0, 1, 0, 0, 0, 0), some (.iload_n 2, 1, 0, 0, 0, 0), some (.iconst 3, 1, 0, 0, 0, 0), some (.invokevirtual 94, 3, 68, 3, 8, 811), none, none, some (.goto (-55), 3, 0, 0, 0, 0), none, none, some (.return_, 1, 0, 0, 0, 0)]]
/-- 58: PurseTrace$RuleReader.readPiece(I)V -/
noncomputable def am_o58 : List (List (Option am_Op)) := [[some (.aload_n 0, 1, 0, 0, 0, 0), some (.getfield 35, 3, 8, 4, 0, 346), none, none, some (.ifCond .eq 4, 3, 0, 0, 0, 0), none, none, some (.return_, 1, 0, 0, 0, 0), some (.aload_n 0, 1, 0, 0, 0, 0), some (.invokevirtual 59, 3, 66, 1, 8, 746), none, none, some (.istore_n 2, 1, 0, 0, 0, 0), some (.iload_n 2, 1, 0, 0, 0, 0), some (.bipush 33, 2, 0, 0, 0, 0), none],
  [some (.if_icmp .ne 28, 3, 0, 0, 0, 0), none, none, some (.aload_n 0, 1, 0, 0, 0, 0), some (.iload_n 1, 1, 0, 0, 0, 0), some (.invokevirtual 100, 3, 63, 2, 8, 781), none, none, some (.ifCond .eq 99, 3, 0, 0, 0, 0), none, none, some (.aload_n 0, 1, 0, 0, 0, 0), some (.iload_n 1, 1, 0, 0, 0, 0), some (.iconst 1, 1, 0, 0, 0, 0), some (.iadd, 1, 0, 0, 0, 0), some (.invokevirtual 97, 3, 58, 2, 8, 777)],
  [none, none, some (.aload_n 0, 1, 0, 0, 0, 0), some (.iconst 2, 1, 0, 0, 0, 0), some (.iconst 0, 1, 0, 0, 0, 0), some (.invokevirtual 91, 3, 67, 3, 8, 785), none, none, some (.pop, 1, 0, 0, 0, 0), some (.goto 82, 3, 0, 0, 0, 0), none, none, some (.iload_n 2, 1, 0, 0, 0, 0), some (.bipush 40, 2, 0, 0, 0, 0), none, some (.if_icmp .ne 27, 3, 0, 0, 0, 0)],
  [none, none, some (.aload_n 0, 1, 0, 0, 0, 0), some (.iload_n 1, 1, 0, 0, 0, 0), some (.invokevirtual 100, 3, 63, 2, 8, 781), none, none, some (.ifCond .eq 68, 3, 0, 0, 0, 0), none, none, some (.aload_n 0, 1, 0, 0, 0, 0), some (.iload_n 1, 1, 0, 0, 0, 0), some (.iconst 1, 1, 0, 0, 0, 0), some (.iadd, 1, 0, 0, 0, 0), some (.invokevirtual 82, 3, 56, 2, 8, 769), none],
  [none, some (.aload_n 0, 1, 0, 0, 0, 0), some (.bipush 41, 2, 0, 0, 0, 0), none, some (.invokevirtual 55, 3, 64, 2, 8, 765), none, none, some (.goto 52, 3, 0, 0, 0, 0), none, none, some (.aload_n 0, 1, 0, 0, 0, 0), some (.iload_n 1, 1, 0, 0, 0, 0), some (.invokevirtual 104, 3, 59, 2, 8, 789), none, none, some (.aload_n 0, 1, 0, 0, 0, 0)],
  [some (.invokevirtual 59, 3, 66, 1, 8, 746), none, none, some (.invokestatic 107, 3, 70, 1, 1, 808), none, none, some (.istore_n 3, 1, 0, 0, 0, 0), some (.iload_n 3, 1, 0, 0, 0, 0), some (.iconst (-1), 1, 0, 0, 0, 0), some (.if_icmp .ne 12, 3, 0, 0, 0, 0), none, none, some (.aload_n 0, 1, 0, 0, 0, 0), some (.iconst 1, 1, 0, 0, 0, 0), some (.aload_n 0, 1, 0, 0, 0, 0), some (.getfield 32, 3, 8, 3, 0, 345)],
  [none, none, some (.invokevirtual 63, 3, 65, 3, 8, 754), none, none, some (.aload_n 0, 1, 0, 0, 0, 0), some (.dup, 1, 0, 0, 0, 0), some (.getfield 32, 3, 8, 3, 0, 345), none, none, some (.iconst 1, 1, 0, 0, 0, 0), some (.iadd, 1, 0, 0, 0, 0), some (.putfield 32, 3, 8, 3, 0, 345), none, none, some (.aload_n 0, 1, 0, 0, 0, 0)],
  [some (.iload_n 1, 1, 0, 0, 0, 0), some (.invokevirtual 104, 3, 59, 2, 8, 789), none, none, some (.aload_n 0, 1, 0, 0, 0, 0), some (.iload_n 3, 1, 0, 0, 0, 0), some (.iconst 0, 1, 0, 0, 0, 0), some (.invokevirtual 91, 3, 67, 3, 8, 785), none, none, some (.pop, 1, 0, 0, 0, 0), some (.return_, 1, 0, 0, 0, 0)]]
/-- 59: PurseTrace$RuleReader.readSum(I)V -/
noncomputable def am_o59 : List (List (Option am_Op)) := [[some (.aload_n 0, 1, 0, 0, 0, 0), some (.iload_n 1, 1, 0, 0, 0, 0), some (.invokevirtual 110, 3, 60, 2, 8, 793), none, none, some (.aload_n 0, 1, 0, 0, 0, 0), some (.getfield 35, 3, 8, 4, 0, 346), none, none, some (.ifCond .ne 73, 3, 0, 0, 0, 0), none, none, some (.aload_n 0, 1, 0, 0, 0, 0), some (.getfield 32, 3, 8, 3, 0, 345), none, none],
  [some (.aload_n 0, 1, 0, 0, 0, 0), some (.getfield 31, 3, 8, 2, 0, 344), none, none, some (.if_icmp .ge 62, 3, 0, 0, 0, 0), none, none, some (.aload_n 0, 1, 0, 0, 0, 0), some (.invokevirtual 59, 3, 66, 1, 8, 746), none, none, some (.bipush 43, 2, 0, 0, 0, 0), none, some (.if_icmp .eq 12, 3, 0, 0, 0, 0), none, none],
  [some (.aload_n 0, 1, 0, 0, 0, 0), some (.invokevirtual 59, 3, 66, 1, 8, 746), none, none, some (.bipush 45, 2, 0, 0, 0, 0), none, some (.if_icmp .ne 44, 3, 0, 0, 0, 0), none, none, some (.aload_n 0, 1, 0, 0, 0, 0), some (.invokevirtual 59, 3, 66, 1, 8, 746), none, none, some (.bipush 43, 2, 0, 0, 0, 0), none, some (.if_icmp .ne 7, 3, 0, 0, 0, 0)],
  [none, none, some (.iconst 5, 1, 0, 0, 0, 0), some (.goto 5, 3, 0, 0, 0, 0), none, none, some (.bipush 6, 2, 0, 0, 0, 0), none, some (.istore_n 2, 1, 0, 0, 0, 0), some (.aload_n 0, 1, 0, 0, 0, 0), some (.dup, 1, 0, 0, 0, 0), some (.getfield 32, 3, 8, 3, 0, 345), none, none, some (.iconst 1, 1, 0, 0, 0, 0), some (.iadd, 1, 0, 0, 0, 0)],
  [some (.putfield 32, 3, 8, 3, 0, 345), none, none, some (.aload_n 0, 1, 0, 0, 0, 0), some (.iload_n 1, 1, 0, 0, 0, 0), some (.invokevirtual 110, 3, 60, 2, 8, 793), none, none, some (.aload_n 0, 1, 0, 0, 0, 0), some (.iload_n 2, 1, 0, 0, 0, 0), some (.iconst 0, 1, 0, 0, 0, 0), some (.invokevirtual 91, 3, 67, 3, 8, 785), none, none, some (.pop, 1, 0, 0, 0, 0), some (.goto (-74), 3, 0, 0, 0, 0)],
  [none, none, some (.return_, 1, 0, 0, 0, 0)]]
/-- 60: PurseTrace$RuleReader.readTerm(I)V -/
noncomputable def am_o60 : List (List (Option am_Op)) := [[some (.aload_n 0, 1, 0, 0, 0, 0), some (.iload_n 1, 1, 0, 0, 0, 0), some (.invokevirtual 113, 3, 61, 2, 8, 797), none, none, some (.aload_n 0, 1, 0, 0, 0, 0), some (.getfield 35, 3, 8, 4, 0, 346), none, none, some (.ifCond .ne 58, 3, 0, 0, 0, 0), none, none, some (.aload_n 0, 1, 0, 0, 0, 0), some (.getfield 32, 3, 8, 3, 0, 345), none, none],
  [some (.aload_n 0, 1, 0, 0, 0, 0), some (.getfield 31, 3, 8, 2, 0, 344), none, none, some (.if_icmp .ge 47, 3, 0, 0, 0, 0), none, none, some (.aload_n 0, 1, 0, 0, 0, 0), some (.invokevirtual 59, 3, 66, 1, 8, 746), none, none, some (.invokestatic 116, 3, 71, 1, 1, 805), none, none, some (.iconst (-1), 1, 0, 0, 0, 0), some (.if_icmp .eq 36, 3, 0, 0, 0, 0)],
  [none, none, some (.aload_n 0, 1, 0, 0, 0, 0), some (.invokevirtual 59, 3, 66, 1, 8, 746), none, none, some (.invokestatic 116, 3, 71, 1, 1, 805), none, none, some (.istore_n 2, 1, 0, 0, 0, 0), some (.aload_n 0, 1, 0, 0, 0, 0), some (.dup, 1, 0, 0, 0, 0), some (.getfield 32, 3, 8, 3, 0, 345), none, none, some (.iconst 1, 1, 0, 0, 0, 0)],
  [some (.iadd, 1, 0, 0, 0, 0), some (.putfield 32, 3, 8, 3, 0, 345), none, none, some (.aload_n 0, 1, 0, 0, 0, 0), some (.iload_n 1, 1, 0, 0, 0, 0), some (.invokevirtual 113, 3, 61, 2, 8, 797), none, none, some (.aload_n 0, 1, 0, 0, 0, 0), some (.iload_n 2, 1, 0, 0, 0, 0), some (.iconst 0, 1, 0, 0, 0, 0), some (.invokevirtual 91, 3, 67, 3, 8, 785), none, none, some (.pop, 1, 0, 0, 0, 0)],
  [some (.goto (-59), 3, 0, 0, 0, 0), none, none, some (.return_, 1, 0, 0, 0, 0)]]
/-- 61: PurseTrace$RuleReader.readFactor(I)V -/
noncomputable def am_o61 : List (List (Option am_Op)) := [[some (.aload_n 0, 1, 0, 0, 0, 0), some (.getfield 35, 3, 8, 4, 0, 346), none, none, some (.ifCond .eq 4, 3, 0, 0, 0, 0), none, none, some (.return_, 1, 0, 0, 0, 0), some (.aload_n 0, 1, 0, 0, 0, 0), some (.invokevirtual 59, 3, 66, 1, 8, 746), none, none, some (.istore_n 2, 1, 0, 0, 0, 0), some (.iload_n 2, 1, 0, 0, 0, 0), some (.bipush 91, 2, 0, 0, 0, 0), none],
  [some (.if_icmp .ne 27, 3, 0, 0, 0, 0), none, none, some (.aload_n 0, 1, 0, 0, 0, 0), some (.iload_n 1, 1, 0, 0, 0, 0), some (.invokevirtual 100, 3, 63, 2, 8, 781), none, none, some (.ifCond .eq 81, 3, 0, 0, 0, 0), none, none, some (.aload_n 0, 1, 0, 0, 0, 0), some (.iload_n 1, 1, 0, 0, 0, 0), some (.iconst 1, 1, 0, 0, 0, 0), some (.iadd, 1, 0, 0, 0, 0), some (.invokevirtual 104, 3, 59, 2, 8, 789)],
  [none, none, some (.aload_n 0, 1, 0, 0, 0, 0), some (.bipush 93, 2, 0, 0, 0, 0), none, some (.invokevirtual 55, 3, 64, 2, 8, 765), none, none, some (.goto 65, 3, 0, 0, 0, 0), none, none, some (.iload_n 2, 1, 0, 0, 0, 0), some (.invokestatic 119, 3, 69, 1, 1, 762), none, none, some (.ifCond .eq 18, 3, 0, 0, 0, 0)],
  [none, none, some (.aload_n 0, 1, 0, 0, 0, 0), some (.iconst 0, 1, 0, 0, 0, 0), some (.aload_n 0, 1, 0, 0, 0, 0), some (.ldc 122, 2, 0, 0, 999999, 801), none, some (.invokevirtual 72, 3, 62, 2, 8, 758), none, none, some (.invokevirtual 91, 3, 67, 3, 8, 785), none, none, some (.pop, 1, 0, 0, 0, 0), some (.goto 43, 3, 0, 0, 0, 0), none],
  [none, some (.iload_n 2, 1, 0, 0, 0, 0), some (.invokestatic 123, 3, 72, 1, 1, 802), none, none, some (.iconst (-1), 1, 0, 0, 0, 0), some (.if_icmp .eq 26, 3, 0, 0, 0, 0), none, none, some (.aload_n 0, 1, 0, 0, 0, 0), some (.iconst 1, 1, 0, 0, 0, 0), some (.iload_n 2, 1, 0, 0, 0, 0), some (.invokestatic 123, 3, 72, 1, 1, 802), none, none, some (.invokevirtual 91, 3, 67, 3, 8, 785)],
  [none, none, some (.pop, 1, 0, 0, 0, 0), some (.aload_n 0, 1, 0, 0, 0, 0), some (.dup, 1, 0, 0, 0, 0), some (.getfield 32, 3, 8, 3, 0, 345), none, none, some (.iconst 1, 1, 0, 0, 0, 0), some (.iadd, 1, 0, 0, 0, 0), some (.putfield 32, 3, 8, 3, 0, 345), none, none, some (.goto 12, 3, 0, 0, 0, 0), none, none],
  [some (.aload_n 0, 1, 0, 0, 0, 0), some (.iconst 1, 1, 0, 0, 0, 0), some (.aload_n 0, 1, 0, 0, 0, 0), some (.getfield 32, 3, 8, 3, 0, 345), none, none, some (.invokevirtual 63, 3, 65, 3, 8, 754), none, none, some (.return_, 1, 0, 0, 0, 0)]]
/-- 62: PurseTrace$RuleReader.readNumber(I)I -/
noncomputable def am_o62 : List (List (Option am_Op)) := [[some (.aload_n 0, 1, 0, 0, 0, 0), some (.getfield 32, 3, 8, 3, 0, 345), none, none, some (.istore_n 2, 1, 0, 0, 0, 0), some (.iconst 0, 1, 0, 0, 0, 0), some (.istore_n 3, 1, 0, 0, 0, 0), some (.aload_n 0, 1, 0, 0, 0, 0), some (.getfield 35, 3, 8, 4, 0, 346), none, none, some (.ifCond .ne 70, 3, 0, 0, 0, 0), none, none, some (.aload_n 0, 1, 0, 0, 0, 0), some (.getfield 32, 3, 8, 3, 0, 345)],
  [none, none, some (.aload_n 0, 1, 0, 0, 0, 0), some (.getfield 31, 3, 8, 2, 0, 344), none, none, some (.if_icmp .ge 59, 3, 0, 0, 0, 0), none, none, some (.aload_n 0, 1, 0, 0, 0, 0), some (.invokevirtual 59, 3, 66, 1, 8, 746), none, none, some (.invokestatic 119, 3, 69, 1, 1, 762), none, none],
  [some (.ifCond .eq 49, 3, 0, 0, 0, 0), none, none, some (.aload_n 0, 1, 0, 0, 0, 0), some (.getfield 32, 3, 8, 3, 0, 345), none, none, some (.iload_n 2, 1, 0, 0, 0, 0), some (.isub, 1, 0, 0, 0, 0), some (.bipush 6, 2, 0, 0, 0, 0), none, some (.if_icmp .lt 12, 3, 0, 0, 0, 0), none, none, some (.aload_n 0, 1, 0, 0, 0, 0), some (.iconst 2, 1, 0, 0, 0, 0)],
  [some (.aload_n 0, 1, 0, 0, 0, 0), some (.getfield 32, 3, 8, 3, 0, 345), none, none, some (.invokevirtual 63, 3, 65, 3, 8, 754), none, none, some (.bipush 10, 2, 0, 0, 0, 0), none, some (.iload_n 3, 1, 0, 0, 0, 0), some (.imul, 1, 0, 0, 0, 0), some (.aload_n 0, 1, 0, 0, 0, 0), some (.invokevirtual 59, 3, 66, 1, 8, 746), none, none, some (.iadd, 1, 0, 0, 0, 0)],
  [some (.bipush 48, 2, 0, 0, 0, 0), none, some (.isub, 1, 0, 0, 0, 0), some (.istore_n 3, 1, 0, 0, 0, 0), some (.aload_n 0, 1, 0, 0, 0, 0), some (.dup, 1, 0, 0, 0, 0), some (.getfield 32, 3, 8, 3, 0, 345), none, none, some (.iconst 1, 1, 0, 0, 0, 0), some (.iadd, 1, 0, 0, 0, 0), some (.putfield 32, 3, 8, 3, 0, 345), none, none, some (.goto (-71), 3, 0, 0, 0, 0), none],
  [none, some (.aload_n 0, 1, 0, 0, 0, 0), some (.getfield 32, 3, 8, 3, 0, 345), none, none, some (.iload_n 2, 1, 0, 0, 0, 0), some (.if_icmp .ne 12, 3, 0, 0, 0, 0), none, none, some (.aload_n 0, 1, 0, 0, 0, 0), some (.iconst 1, 1, 0, 0, 0, 0), some (.aload_n 0, 1, 0, 0, 0, 0), some (.getfield 32, 3, 8, 3, 0, 345), none, none, some (.invokevirtual 63, 3, 65, 3, 8, 754)],
  [none, none, some (.iload_n 3, 1, 0, 0, 0, 0), some (.iload_n 1, 1, 0, 0, 0, 0), some (.if_icmp .le 9, 3, 0, 0, 0, 0), none, none, some (.aload_n 0, 1, 0, 0, 0, 0), some (.iconst 3, 1, 0, 0, 0, 0), some (.iload_n 2, 1, 0, 0, 0, 0), some (.invokevirtual 63, 3, 65, 3, 8, 754), none, none, some (.iload_n 3, 1, 0, 0, 0, 0), some (.ireturn, 1, 0, 0, 0, 0)]]
/-- 63: PurseTrace$RuleReader.mayOpen(I)Z -/
noncomputable def am_o63 : List (List (Option am_Op)) := [[some (.iload_n 1, 1, 0, 0, 0, 0), some (.bipush 6, 2, 0, 0, 0, 0), none, some (.if_icmp .lt 14, 3, 0, 0, 0, 0), none, none, some (.aload_n 0, 1, 0, 0, 0, 0), some (.iconst 5, 1, 0, 0, 0, 0), some (.aload_n 0, 1, 0, 0, 0, 0), some (.getfield 32, 3, 8, 3, 0, 345), none, none, some (.invokevirtual 63, 3, 65, 3, 8, 754), none, none, some (.iconst 0, 1, 0, 0, 0, 0)],
  [some (.ireturn, 1, 1, 0, 0, 0), some (.aload_n 0, 1, 0, 0, 0, 0), some (.dup, 1, 0, 0, 0, 0), some (.getfield 32, 3, 8, 3, 0, 345), none, none, some (.iconst 1, 1, 0, 0, 0, 0), some (.iadd, 1, 0, 0, 0, 0), some (.putfield 32, 3, 8, 3, 0, 345), none, none, some (.iconst 1, 1, 0, 0, 0, 0), some (.ireturn, 1, 1, 0, 0, 0)]]
/-- 64: PurseTrace$RuleReader.pass(I)V -/
noncomputable def am_o64 : List (List (Option am_Op)) := [[some (.aload_n 0, 1, 0, 0, 0, 0), some (.invokevirtual 59, 3, 66, 1, 8, 746), none, none, some (.iload_n 1, 1, 0, 0, 0, 0), some (.if_icmp .eq 12, 3, 0, 0, 0, 0), none, none, some (.aload_n 0, 1, 0, 0, 0, 0), some (.iconst 1, 1, 0, 0, 0, 0), some (.aload_n 0, 1, 0, 0, 0, 0), some (.getfield 32, 3, 8, 3, 0, 345), none, none, some (.invokevirtual 63, 3, 65, 3, 8, 754), none],
  [none, some (.aload_n 0, 1, 0, 0, 0, 0), some (.dup, 1, 0, 0, 0, 0), some (.getfield 32, 3, 8, 3, 0, 345), none, none, some (.iconst 1, 1, 0, 0, 0, 0), some (.iadd, 1, 0, 0, 0, 0), some (.putfield 32, 3, 8, 3, 0, 345), none, none, some (.return_, 1, 0, 0, 0, 0)]]
/-- 65: PurseTrace$RuleReader.fail(II)V -/
noncomputable def am_o65 : List (List (Option am_Op)) := [[some (.aload_n 0, 1, 0, 0, 0, 0), some (.getfield 35, 3, 8, 4, 0, 346), none, none, some (.ifCond .ne 13, 3, 0, 0, 0, 0), none, none, some (.aload_n 0, 1, 0, 0, 0, 0), some (.iload_n 1, 1, 0, 0, 0, 0), some (.putfield 35, 3, 8, 4, 0, 346), none, none, some (.aload_n 0, 1, 0, 0, 0, 0), some (.iload_n 2, 1, 0, 0, 0, 0), some (.putfield 38, 3, 8, 5, 0, 347), none],
  [none, some (.return_, 1, 0, 0, 0, 0)]]
/-- 66: PurseTrace$RuleReader.peek()I -/
noncomputable def am_o66 : List (List (Option am_Op)) := [[some (.aload_n 0, 1, 0, 0, 0, 0), some (.getfield 32, 3, 8, 3, 0, 345), none, none, some (.aload_n 0, 1, 0, 0, 0, 0), some (.getfield 31, 3, 8, 2, 0, 344), none, none, some (.if_icmp .ge 17, 3, 0, 0, 0, 0), none, none, some (.aload_n 0, 1, 0, 0, 0, 0), some (.getfield 9, 3, 8, 0, 0, 342), none, none, some (.aload_n 0, 1, 0, 0, 0, 0)],
  [some (.getfield 32, 3, 8, 3, 0, 345), none, none, some (.invokevirtual 126, 3, 90, 2, 10, 750), none, none, some (.goto 4, 3, 0, 0, 0, 0), none, none, some (.iconst (-1), 1, 0, 0, 0, 0), some (.ireturn, 1, 0, 0, 0, 0)]]
/-- 67: PurseTrace$RuleReader.emit(II)I -/
noncomputable def am_o67 : List (List (Option am_Op)) := [[some (.aload_n 0, 1, 0, 0, 0, 0), some (.getfield 44, 3, 8, 7, 0, 349), none, none, some (.sipush 160, 3, 0, 0, 0, 0), none, none, some (.if_icmp .ge 35, 3, 0, 0, 0, 0), none, none, some (.aload_n 0, 1, 0, 0, 0, 0), some (.getfield 15, 3, 8, 1, 0, 343), none, none, some (.getfield 131, 3, 7, 10, 0, 296), none],
  [none, some (.aload_n 0, 1, 0, 0, 0, 0), some (.getfield 41, 3, 8, 6, 0, 348), none, none, some (.aload_n 0, 1, 0, 0, 0, 0), some (.getfield 44, 3, 8, 7, 0, 349), none, none, some (.iadd, 1, 0, 0, 0, 0), some (.iload_n 2, 1, 0, 0, 0, 0), some (.iconst 4, 1, 0, 0, 0, 0), some (.ishl, 1, 0, 0, 0, 0), some (.iload_n 1, 1, 0, 0, 0, 0), some (.ior, 1, 0, 0, 0, 0), some (.iastore, 1, 0, 0, 0, 0)],
  [some (.aload_n 0, 1, 0, 0, 0, 0), some (.dup, 1, 0, 0, 0, 0), some (.getfield 44, 3, 8, 7, 0, 349), none, none, some (.iconst 1, 1, 0, 0, 0, 0), some (.iadd, 1, 0, 0, 0, 0), some (.putfield 44, 3, 8, 7, 0, 349), none, none, some (.aload_n 0, 1, 0, 0, 0, 0), some (.getfield 44, 3, 8, 7, 0, 349), none, none, some (.iconst 1, 1, 0, 0, 0, 0), some (.isub, 1, 0, 0, 0, 0)],
  [some (.ireturn, 1, 0, 0, 0, 0)]]
/-- 68: PurseTrace$RuleReader.aim(II)V -/
noncomputable def am_o68 : List (List (Option am_Op)) := [[some (.iload_n 1, 1, 0, 0, 0, 0), some (.ifCond .lt 38, 3, 0, 0, 0, 0), none, none, some (.iload_n 1, 1, 0, 0, 0, 0), some (.aload_n 0, 1, 0, 0, 0, 0), some (.getfield 44, 3, 8, 7, 0, 349), none, none, some (.if_icmp .ge 30, 3, 0, 0, 0, 0), none, none, some (.aload_n 0, 1, 0, 0, 0, 0), some (.getfield 15, 3, 8, 1, 0, 343), none, none],
  [some (.getfield 131, 3, 7, 10, 0, 296), none, none, some (.aload_n 0, 1, 0, 0, 0, 0), some (.getfield 41, 3, 8, 6, 0, 348), none, none, some (.iload_n 1, 1, 0, 0, 0, 0), some (.iadd, 1, 0, 0, 0, 0), some (.aload_n 0, 1, 0, 0, 0, 0), some (.getfield 41, 3, 8, 6, 0, 348), none, none, some (.aload_n 0, 1, 0, 0, 0, 0), some (.getfield 44, 3, 8, 7, 0, 349), none],
  [none, some (.iadd, 1, 0, 0, 0, 0), some (.iconst 4, 1, 0, 0, 0, 0), some (.ishl, 1, 0, 0, 0, 0), some (.iload_n 2, 1, 0, 0, 0, 0), some (.ior, 1, 0, 0, 0, 0), some (.iastore, 1, 0, 0, 0, 0), some (.return_, 1, 0, 0, 0, 0)]]
/-- 69: PurseTrace$RuleReader.isDigit(I)Z -/
noncomputable def am_o69 : List (List (Option am_Op)) := [[some (.iload_n 0, 1, 0, 0, 0, 0), some (.bipush 48, 2, 0, 0, 0, 0), none, some (.if_icmp .lt 13, 3, 0, 0, 0, 0), none, none, some (.iload_n 0, 1, 0, 0, 0, 0), some (.bipush 57, 2, 0, 0, 0, 0), none, some (.if_icmp .gt 7, 3, 0, 0, 0, 0), none, none, some (.iconst 1, 1, 0, 0, 0, 0), some (.goto 4, 3, 0, 0, 0, 0), none, none],
  [some (.iconst 0, 1, 0, 0, 0, 0), some (.ireturn, 1, 1, 0, 0, 0)]]
/-- 70: PurseTrace$RuleReader.comparison(I)I -/
noncomputable def am_o70 : List (List (Option am_Op)) := [[some (.iload_n 0, 1, 0, 0, 0, 0), some (.tableswitch 36 60 62 #[27, 33, 30], 27, 0, 0, 0, 0), none, none, none, none, none, none, none, none, none, none, none, none, none, none],
  [none, none, none, none, none, none, none, none, none, none, none, none, some (.bipush 10, 2, 0, 0, 0, 0), none, some (.ireturn, 1, 0, 0, 0, 0), some (.bipush 11, 2, 0, 0, 0, 0)],
  [none, some (.ireturn, 1, 0, 0, 0, 0), some (.bipush 12, 2, 0, 0, 0, 0), none, some (.ireturn, 1, 0, 0, 0, 0), some (.iconst (-1), 1, 0, 0, 0, 0), some (.ireturn, 1, 0, 0, 0, 0)]]
/-- 71: PurseTrace$RuleReader.multiplication(I)I -/
noncomputable def am_o71 : List (List (Option am_Op)) := [[some (.iload_n 0, 1, 0, 0, 0, 0), some (.lookupswitch 44 #[(37, 41), (42, 35), (47, 38)], 35, 0, 0, 0, 0), none, none, none, none, none, none, none, none, none, none, none, none, none, none],
  [none, none, none, none, none, none, none, none, none, none, none, none, none, none, none, none],
  [none, none, none, none, some (.bipush 7, 2, 0, 0, 0, 0), none, some (.ireturn, 1, 0, 0, 0, 0), some (.bipush 8, 2, 0, 0, 0, 0), none, some (.ireturn, 1, 0, 0, 0, 0), some (.bipush 9, 2, 0, 0, 0, 0), none, some (.ireturn, 1, 0, 0, 0, 0), some (.iconst (-1), 1, 0, 0, 0, 0), some (.ireturn, 1, 0, 0, 0, 0)]]
/-- 72: PurseTrace$RuleReader.fact(I)I -/
noncomputable def am_o72 : List (List (Option am_Op)) := [[some (.iload_n 0, 1, 0, 0, 0, 0), some (.tableswitch 101 100 116 #[85, 101, 101, 101, 91, 101, 101, 87, 101, 101, 98, 95, 89, 101, 101, 83, 93], 83, 0, 0, 0, 0), none, none, none, none, none, none, none, none, none, none, none, none, none, none],
  [none, none, none, none, none, none, none, none, none, none, none, none, none, none, none, none],
  [none, none, none, none, none, none, none, none, none, none, none, none, none, none, none, none],
  [none, none, none, none, none, none, none, none, none, none, none, none, none, none, none, none],
  [none, none, none, none, none, none, none, none, none, none, none, none, none, none, none, none],
  [none, none, none, none, some (.iconst 0, 1, 0, 0, 0, 0), some (.ireturn, 1, 0, 0, 0, 0), some (.iconst 1, 1, 0, 0, 0, 0), some (.ireturn, 1, 0, 0, 0, 0), some (.iconst 2, 1, 0, 0, 0, 0), some (.ireturn, 1, 0, 0, 0, 0), some (.iconst 3, 1, 0, 0, 0, 0), some (.ireturn, 1, 0, 0, 0, 0), some (.iconst 4, 1, 0, 0, 0, 0), some (.ireturn, 1, 0, 0, 0, 0), some (.iconst 5, 1, 0, 0, 0, 0), some (.ireturn, 1, 0, 0, 0, 0)],
  [some (.bipush 6, 2, 0, 0, 0, 0), none, some (.ireturn, 1, 0, 0, 0, 0), some (.bipush 7, 2, 0, 0, 0, 0), none, some (.ireturn, 1, 0, 0, 0, 0), some (.iconst (-1), 1, 0, 0, 0, 0), some (.ireturn, 1, 0, 0, 0, 0)]]
/-- 73: PurseTrace$State.clear()V -/
noncomputable def am_o73 : List (List (Option am_Op)) := [[some (.aload_n 0, 1, 0, 0, 0, 0), some (.iconst 0, 1, 0, 0, 0, 0), some (.putfield 45, 3, 9, 3, 0, 384), none, none, some (.aload_n 0, 1, 0, 0, 0, 0), some (.getfield 21, 3, 9, 4, 0, 385), none, none, some (.iconst (-1), 1, 0, 0, 0, 0), some (.invokestatic 49, 3, 245, 2, 1, 854), none, none, some (.aload_n 0, 1, 0, 0, 0, 0), some (.getfield 24, 3, 9, 5, 0, 386), none],
  [none, some (.iconst 0, 1, 0, 0, 0, 0), some (.invokestatic 49, 3, 245, 2, 1, 854), none, none, some (.aload_n 0, 1, 0, 0, 0, 0), some (.getfield 27, 3, 9, 6, 0, 388), none, none, some (.iconst 0, 1, 0, 0, 0, 0), some (.invokestatic 49, 3, 245, 2, 1, 854), none, none, some (.aload_n 0, 1, 0, 0, 0, 0), some (.invokevirtual 55, 3, 75, 1, 9, 855), none],
  [none, some (.return_, 1, 0, 0, 0, 0)]]
/-- 74: PurseTrace$State.copyFrom(LPurseTrace$State;)V -/
noncomputable def am_o74 : List (List (Option am_Op)) := [[some (.aload_n 0, 1, 0, 0, 0, 0), some (.aload_n 1, 1, 0, 0, 0, 0), some (.getfield 45, 3, 9, 3, 0, 384), none, none, some (.sipush 1010, 3, 0, 0, 0, 0), none, none, some (.invokestatic 58, 3, 247, 2, 5, 1037), none, none, some (.putfield 45, 3, 9, 3, 0, 384), none, none, some (.aload_n 1, 1, 0, 0, 0, 0), some (.getfield 11, 3, 9, 0, 0, 379)],
  [none, none, some (.iconst 0, 1, 0, 0, 0, 0), some (.aload_n 0, 1, 0, 0, 0, 0), some (.getfield 11, 3, 9, 0, 0, 379), none, none, some (.iconst 0, 1, 0, 0, 0, 0), some (.aload_n 0, 1, 0, 0, 0, 0), some (.getfield 45, 3, 9, 3, 0, 384), none, none, some (.invokestatic 64, 3, 9999, 5, 3, 1038), none, none, some (.aload_n 1, 1, 0, 0, 0, 0)],
  [some (.getfield 15, 3, 9, 1, 0, 380), none, none, some (.iconst 0, 1, 0, 0, 0, 0), some (.aload_n 0, 1, 0, 0, 0, 0), some (.getfield 15, 3, 9, 1, 0, 380), none, none, some (.iconst 0, 1, 0, 0, 0, 0), some (.aload_n 0, 1, 0, 0, 0, 0), some (.getfield 45, 3, 9, 3, 0, 384), none, none, some (.invokestatic 64, 3, 9999, 5, 3, 1038), none, none],
  [some (.aload_n 1, 1, 0, 0, 0, 0), some (.getfield 18, 3, 9, 2, 0, 382), none, none, some (.iconst 0, 1, 0, 0, 0, 0), some (.aload_n 0, 1, 0, 0, 0, 0), some (.getfield 18, 3, 9, 2, 0, 382), none, none, some (.iconst 0, 1, 0, 0, 0, 0), some (.aload_n 0, 1, 0, 0, 0, 0), some (.getfield 45, 3, 9, 3, 0, 384), none, none, some (.invokestatic 64, 3, 9999, 5, 3, 1038), none],
  [none, some (.aload_n 1, 1, 0, 0, 0, 0), some (.getfield 21, 3, 9, 4, 0, 385), none, none, some (.iconst 0, 1, 0, 0, 0, 0), some (.aload_n 0, 1, 0, 0, 0, 0), some (.getfield 21, 3, 9, 4, 0, 385), none, none, some (.iconst 0, 1, 0, 0, 0, 0), some (.aload_n 0, 1, 0, 0, 0, 0), some (.getfield 21, 3, 9, 4, 0, 385), none, none, some (.arraylength, 1, 0, 0, 0, 0)],
  [some (.invokestatic 64, 3, 9999, 5, 3, 1038), none, none, some (.aload_n 1, 1, 0, 0, 0, 0), some (.getfield 24, 3, 9, 5, 0, 386), none, none, some (.iconst 0, 1, 0, 0, 0, 0), some (.aload_n 0, 1, 0, 0, 0, 0), some (.getfield 24, 3, 9, 5, 0, 386), none, none, some (.iconst 0, 1, 0, 0, 0, 0), some (.aload_n 0, 1, 0, 0, 0, 0), some (.getfield 24, 3, 9, 5, 0, 386), none],
  [none, some (.arraylength, 1, 0, 0, 0, 0), some (.invokestatic 64, 3, 9999, 5, 3, 1038), none, none, some (.aload_n 1, 1, 0, 0, 0, 0), some (.getfield 27, 3, 9, 6, 0, 388), none, none, some (.iconst 0, 1, 0, 0, 0, 0), some (.aload_n 0, 1, 0, 0, 0, 0), some (.getfield 27, 3, 9, 6, 0, 388), none, none, some (.iconst 0, 1, 0, 0, 0, 0), some (.aload_n 0, 1, 0, 0, 0, 0)],
  [some (.getfield 27, 3, 9, 6, 0, 388), none, none, some (.arraylength, 1, 0, 0, 0, 0), some (.invokestatic 64, 3, 9999, 5, 3, 1038), none, none, some (.return_, 1, 0, 0, 0, 0)]]
/-- 75: PurseTrace$State.forgetTaken()V -/
noncomputable def am_o75 : List (List (Option am_Op)) := [[some (.aload_n 0, 1, 0, 0, 0, 0), some (.iconst 0, 1, 0, 0, 0, 0), some (.putfield 70, 3, 9, 9, 0, 395), none, none, some (.aload_n 0, 1, 0, 0, 0, 0), some (.getfield 36, 3, 9, 10, 0, 397), none, none, some (.iconst 0, 1, 0, 0, 0, 0), some (.invokestatic 49, 3, 245, 2, 1, 854), none, none, some (.return_, 1, 0, 0, 0, 0)]]
/-- 76: PurseTrace$State.put(III)V -/
noncomputable def am_o76 : List (List (Option am_Op)) := [[some (.iload_n 3, 1, 0, 0, 0, 0), some (.ifCond .gt 4, 3, 0, 0, 0, 0), none, none, some (.return_, 1, 0, 0, 0, 0), some (.aload_n 0, 1, 0, 0, 0, 0), some (.getfield 21, 3, 9, 4, 0, 385), none, none, some (.iload_n 1, 1, 0, 0, 0, 0), some (.iaload, 1, 0, 0, 0, 0), some (.istore 4, 2, 0, 0, 0, 0), none, some (.iload 4, 2, 0, 0, 0, 0), none, some (.ifCond .lt 28, 3, 0, 0, 0, 0)],
  [none, none, some (.aload_n 0, 1, 0, 0, 0, 0), some (.getfield 15, 3, 9, 1, 0, 380), none, none, some (.iload 4, 2, 0, 0, 0, 0), none, some (.iaload, 1, 0, 0, 0, 0), some (.iload_n 2, 1, 0, 0, 0, 0), some (.if_icmp .ne 17, 3, 0, 0, 0, 0), none, none, some (.aload_n 0, 1, 0, 0, 0, 0), some (.getfield 18, 3, 9, 2, 0, 382), none],
  [none, some (.iload 4, 2, 0, 0, 0, 0), none, some (.dup2, 1, 0, 0, 0, 0), some (.iaload, 1, 0, 0, 0, 0), some (.iload_n 3, 1, 0, 0, 0, 0), some (.iadd, 1, 0, 0, 0, 0), some (.iastore, 1, 0, 0, 0, 0), some (.goto 63, 3, 0, 0, 0, 0), none, none, some (.aload_n 0, 1, 0, 0, 0, 0), some (.getfield 45, 3, 9, 3, 0, 384), none, none, some (.sipush 1010, 3, 0, 0, 0, 0)],
  [none, none, some (.if_icmp .ge 53, 3, 0, 0, 0, 0), none, none, some (.aload_n 0, 1, 0, 0, 0, 0), some (.getfield 11, 3, 9, 0, 0, 379), none, none, some (.aload_n 0, 1, 0, 0, 0, 0), some (.getfield 45, 3, 9, 3, 0, 384), none, none, some (.iload_n 1, 1, 0, 0, 0, 0), some (.iastore, 1, 0, 0, 0, 0), some (.aload_n 0, 1, 0, 0, 0, 0)],
  [some (.getfield 15, 3, 9, 1, 0, 380), none, none, some (.aload_n 0, 1, 0, 0, 0, 0), some (.getfield 45, 3, 9, 3, 0, 384), none, none, some (.iload_n 2, 1, 0, 0, 0, 0), some (.iastore, 1, 0, 0, 0, 0), some (.aload_n 0, 1, 0, 0, 0, 0), some (.getfield 18, 3, 9, 2, 0, 382), none, none, some (.aload_n 0, 1, 0, 0, 0, 0), some (.getfield 45, 3, 9, 3, 0, 384), none],
  [none, some (.iload_n 3, 1, 0, 0, 0, 0), some (.iastore, 1, 0, 0, 0, 0), some (.aload_n 0, 1, 0, 0, 0, 0), some (.getfield 21, 3, 9, 4, 0, 385), none, none, some (.iload_n 1, 1, 0, 0, 0, 0), some (.aload_n 0, 1, 0, 0, 0, 0), some (.getfield 45, 3, 9, 3, 0, 384), none, none, some (.iastore, 1, 0, 0, 0, 0), some (.aload_n 0, 1, 0, 0, 0, 0), some (.dup, 1, 0, 0, 0, 0), some (.getfield 45, 3, 9, 3, 0, 384)],
  [none, none, some (.iconst 1, 1, 0, 0, 0, 0), some (.iadd, 1, 0, 0, 0, 0), some (.putfield 45, 3, 9, 3, 0, 384), none, none, some (.return_, 1, 0, 0, 0, 0)]]
/-- 77: PurseTrace$State.receive(III)V -/
noncomputable def am_o77 : List (List (Option am_Op)) := [[some (.aload_n 0, 1, 0, 0, 0, 0), some (.iload_n 1, 1, 0, 0, 0, 0), some (.iload_n 2, 1, 0, 0, 0, 0), some (.iload_n 3, 1, 0, 0, 0, 0), some (.invokevirtual 73, 3, 76, 4, 9, 936), none, none, some (.aload_n 0, 1, 0, 0, 0, 0), some (.getfield 36, 3, 9, 10, 0, 397), none, none, some (.iload_n 2, 1, 0, 0, 0, 0), some (.dup2, 1, 0, 0, 0, 0), some (.iaload, 1, 0, 0, 0, 0), some (.iload_n 3, 1, 0, 0, 0, 0), some (.iadd, 1, 0, 0, 0, 0)],
  [some (.iastore, 1, 0, 0, 0, 0), some (.return_, 1, 0, 0, 0, 0)]]
/-- 78: PurseTrace$State.takeOut(IIII)V -/
noncomputable def am_o78 : List (List (Option am_Op)) := [[some (.iload_n 3, 1, 0, 0, 0, 0), some (.iconst 1, 1, 0, 0, 0, 0), some (.if_icmp .ne 12, 3, 0, 0, 0, 0), none, none, some (.aload_n 0, 1, 0, 0, 0, 0), some (.iload_n 1, 1, 0, 0, 0, 0), some (.iload_n 2, 1, 0, 0, 0, 0), some (.invokevirtual 77, 3, 79, 3, 9, 911), none, none, some (.goto 116, 3, 0, 0, 0, 0), none, none, some (.iload_n 3, 1, 0, 0, 0, 0), some (.iconst 2, 1, 0, 0, 0, 0)],
  [some (.if_icmp .ne 55, 3, 0, 0, 0, 0), none, none, some (.aload_n 0, 1, 0, 0, 0, 0), some (.iload_n 1, 1, 0, 0, 0, 0), some (.invokevirtual 81, 3, 84, 2, 9, 919), none, none, some (.pop, 1, 0, 0, 0, 0), some (.iload_n 2, 1, 0, 0, 0, 0), some (.aload_n 0, 1, 0, 0, 0, 0), some (.getfield 39, 3, 9, 11, 0, 400), none, none, some (.aload_n 0, 1, 0, 0, 0, 0), some (.getfield 42, 3, 9, 12, 0, 402)],
  [none, none, some (.invokestatic 85, 3, 133, 3, 2, 920), none, none, some (.iconst 0, 1, 0, 0, 0, 0), some (.istore 5, 2, 0, 0, 0, 0), none, some (.iload 5, 2, 0, 0, 0, 0), none, some (.bipush 10, 2, 0, 0, 0, 0), none, some (.if_icmp .ge 24, 3, 0, 0, 0, 0), none, none, some (.aload_n 0, 1, 0, 0, 0, 0)],
  [some (.iload_n 1, 1, 0, 0, 0, 0), some (.iload 5, 2, 0, 0, 0, 0), none, some (.aload_n 0, 1, 0, 0, 0, 0), some (.getfield 42, 3, 9, 12, 0, 402), none, none, some (.iload 5, 2, 0, 0, 0, 0), none, some (.iaload, 1, 0, 0, 0, 0), some (.invokevirtual 89, 3, 80, 4, 9, 924), none, none, some (.pop, 1, 0, 0, 0, 0), some (.iinc 5 1, 3, 0, 0, 0, 0), none],
  [none, some (.goto (-25), 3, 0, 0, 0, 0), none, none, some (.goto 59, 3, 0, 0, 0, 0), none, none, some (.iload_n 3, 1, 0, 0, 0, 0), some (.iconst 3, 1, 0, 0, 0, 0), some (.if_icmp .ne 22, 3, 0, 0, 0, 0), none, none, some (.aload_n 0, 1, 0, 0, 0, 0), some (.iload_n 1, 1, 0, 0, 0, 0), some (.iload 4, 2, 0, 0, 0, 0), none],
  [some (.aload_n 0, 1, 0, 0, 0, 0), some (.iload_n 1, 1, 0, 0, 0, 0), some (.iload 4, 2, 0, 0, 0, 0), none, some (.iload_n 2, 1, 0, 0, 0, 0), some (.invokevirtual 89, 3, 80, 4, 9, 924), none, none, some (.invokevirtual 93, 3, 81, 4, 9, 928), none, none, some (.pop, 1, 0, 0, 0, 0), some (.goto 35, 3, 0, 0, 0, 0), none, none, some (.iload_n 3, 1, 0, 0, 0, 0)],
  [some (.iconst 4, 1, 0, 0, 0, 0), some (.if_icmp .ne 22, 3, 0, 0, 0, 0), none, none, some (.aload_n 0, 1, 0, 0, 0, 0), some (.iload_n 1, 1, 0, 0, 0, 0), some (.iload 4, 2, 0, 0, 0, 0), none, some (.aload_n 0, 1, 0, 0, 0, 0), some (.iload_n 1, 1, 0, 0, 0, 0), some (.iload 4, 2, 0, 0, 0, 0), none, some (.iload_n 2, 1, 0, 0, 0, 0), some (.invokevirtual 93, 3, 81, 4, 9, 928), none, none],
  [some (.invokevirtual 89, 3, 80, 4, 9, 924), none, none, some (.pop, 1, 0, 0, 0, 0), some (.goto 11, 3, 0, 0, 0, 0), none, none, some (.aload_n 0, 1, 0, 0, 0, 0), some (.iload_n 1, 1, 0, 0, 0, 0), some (.iconst (-1), 1, 0, 0, 0, 0), some (.iload_n 2, 1, 0, 0, 0, 0), some (.invokevirtual 93, 3, 81, 4, 9, 928), none, none, some (.pop, 1, 0, 0, 0, 0), some (.aload_n 0, 1, 0, 0, 0, 0)],
  [some (.invokevirtual 96, 3, 83, 1, 9, 932), none, none, some (.return_, 1, 0, 0, 0, 0)]]
/-- 79: PurseTrace$State.takeFromLast(II)V -/
noncomputable def am_o79 : List (List (Option am_Op)) := [[some (.iload_n 2, 1, 0, 0, 0, 0), some (.istore_n 3, 1, 0, 0, 0, 0), some (.aload_n 0, 1, 0, 0, 0, 0), some (.getfield 45, 3, 9, 3, 0, 384), none, none, some (.iconst 1, 1, 0, 0, 0, 0), some (.isub, 1, 0, 0, 0, 0), some (.istore 4, 2, 0, 0, 0, 0), none, some (.iload 4, 2, 0, 0, 0, 0), none, some (.ifCond .lt 32, 3, 0, 0, 0, 0), none, none, some (.iload_n 3, 1, 0, 0, 0, 0)],
  [some (.ifCond .le 28, 3, 0, 0, 0, 0), none, none, some (.aload_n 0, 1, 0, 0, 0, 0), some (.getfield 11, 3, 9, 0, 0, 379), none, none, some (.iload 4, 2, 0, 0, 0, 0), none, some (.iaload, 1, 0, 0, 0, 0), some (.iload_n 1, 1, 0, 0, 0, 0), some (.if_icmp .ne 11, 3, 0, 0, 0, 0), none, none, some (.aload_n 0, 1, 0, 0, 0, 0), some (.iload 4, 2, 0, 0, 0, 0)],
  [none, some (.iload_n 3, 1, 0, 0, 0, 0), some (.invokevirtual 99, 3, 82, 3, 9, 915), none, none, some (.istore_n 3, 1, 0, 0, 0, 0), some (.iinc 4 (-1), 3, 0, 0, 0, 0), none, none, some (.goto (-31), 3, 0, 0, 0, 0), none, none, some (.return_, 1, 0, 0, 0, 0)]]
/-- 80: PurseTrace$State.takeOf(III)I -/
noncomputable def am_o80 : List (List (Option am_Op)) := [[some (.iload_n 3, 1, 0, 0, 0, 0), some (.istore 4, 2, 0, 0, 0, 0), none, some (.iconst 0, 1, 0, 0, 0, 0), some (.istore 5, 2, 0, 0, 0, 0), none, some (.iload 5, 2, 0, 0, 0, 0), none, some (.aload_n 0, 1, 0, 0, 0, 0), some (.getfield 45, 3, 9, 3, 0, 384), none, none, some (.if_icmp .ge 46, 3, 0, 0, 0, 0), none, none, some (.iload 4, 2, 0, 0, 0, 0)],
  [none, some (.ifCond .le 41, 3, 0, 0, 0, 0), none, none, some (.aload_n 0, 1, 0, 0, 0, 0), some (.getfield 11, 3, 9, 0, 0, 379), none, none, some (.iload 5, 2, 0, 0, 0, 0), none, some (.iaload, 1, 0, 0, 0, 0), some (.iload_n 1, 1, 0, 0, 0, 0), some (.if_icmp .ne 24, 3, 0, 0, 0, 0), none, none, some (.aload_n 0, 1, 0, 0, 0, 0)],
  [some (.getfield 15, 3, 9, 1, 0, 380), none, none, some (.iload 5, 2, 0, 0, 0, 0), none, some (.iaload, 1, 0, 0, 0, 0), some (.iload_n 2, 1, 0, 0, 0, 0), some (.if_icmp .ne 13, 3, 0, 0, 0, 0), none, none, some (.aload_n 0, 1, 0, 0, 0, 0), some (.iload 5, 2, 0, 0, 0, 0), none, some (.iload 4, 2, 0, 0, 0, 0), none, some (.invokevirtual 99, 3, 82, 3, 9, 915)],
  [none, none, some (.istore 4, 2, 0, 0, 0, 0), none, some (.iinc 5 1, 3, 0, 0, 0, 0), none, none, some (.goto (-49), 3, 0, 0, 0, 0), none, none, some (.iload 4, 2, 0, 0, 0, 0), none, some (.ireturn, 1, 0, 0, 0, 0)]]
/-- 81: PurseTrace$State.takeOthers(III)I -/
noncomputable def am_o81 : List (List (Option am_Op)) := [[some (.iload_n 3, 1, 0, 0, 0, 0), some (.istore 4, 2, 0, 0, 0, 0), none, some (.iconst 0, 1, 0, 0, 0, 0), some (.istore 5, 2, 0, 0, 0, 0), none, some (.iload 5, 2, 0, 0, 0, 0), none, some (.aload_n 0, 1, 0, 0, 0, 0), some (.getfield 45, 3, 9, 3, 0, 384), none, none, some (.if_icmp .ge 46, 3, 0, 0, 0, 0), none, none, some (.iload 4, 2, 0, 0, 0, 0)],
  [none, some (.ifCond .le 41, 3, 0, 0, 0, 0), none, none, some (.aload_n 0, 1, 0, 0, 0, 0), some (.getfield 11, 3, 9, 0, 0, 379), none, none, some (.iload 5, 2, 0, 0, 0, 0), none, some (.iaload, 1, 0, 0, 0, 0), some (.iload_n 1, 1, 0, 0, 0, 0), some (.if_icmp .ne 24, 3, 0, 0, 0, 0), none, none, some (.aload_n 0, 1, 0, 0, 0, 0)],
  [some (.getfield 15, 3, 9, 1, 0, 380), none, none, some (.iload 5, 2, 0, 0, 0, 0), none, some (.iaload, 1, 0, 0, 0, 0), some (.iload_n 2, 1, 0, 0, 0, 0), some (.if_icmp .eq 13, 3, 0, 0, 0, 0), none, none, some (.aload_n 0, 1, 0, 0, 0, 0), some (.iload 5, 2, 0, 0, 0, 0), none, some (.iload 4, 2, 0, 0, 0, 0), none, some (.invokevirtual 99, 3, 82, 3, 9, 915)],
  [none, none, some (.istore 4, 2, 0, 0, 0, 0), none, some (.iinc 5 1, 3, 0, 0, 0, 0), none, none, some (.goto (-49), 3, 0, 0, 0, 0), none, none, some (.iload 4, 2, 0, 0, 0, 0), none, some (.ireturn, 1, 0, 0, 0, 0)]]
/-- 82: PurseTrace$State.grab(II)I -/
noncomputable def am_o82 : List (List (Option am_Op)) := [[some (.iload_n 2, 1, 0, 0, 0, 0), some (.aload_n 0, 1, 0, 0, 0, 0), some (.getfield 18, 3, 9, 2, 0, 382), none, none, some (.iload_n 1, 1, 0, 0, 0, 0), some (.iaload, 1, 0, 0, 0, 0), some (.if_icmp .ge 7, 3, 0, 0, 0, 0), none, none, some (.iload_n 2, 1, 0, 0, 0, 0), some (.goto 9, 3, 0, 0, 0, 0), none, none, some (.aload_n 0, 1, 0, 0, 0, 0), some (.getfield 18, 3, 9, 2, 0, 382)],
  [none, none, some (.iload_n 1, 1, 0, 0, 0, 0), some (.iaload, 1, 0, 0, 0, 0), some (.istore_n 3, 1, 0, 0, 0, 0), some (.aload_n 0, 1, 0, 0, 0, 0), some (.getfield 18, 3, 9, 2, 0, 382), none, none, some (.iload_n 1, 1, 0, 0, 0, 0), some (.dup2, 1, 0, 0, 0, 0), some (.iaload, 1, 0, 0, 0, 0), some (.iload_n 3, 1, 0, 0, 0, 0), some (.isub, 1, 0, 0, 0, 0), some (.iastore, 1, 0, 0, 0, 0), some (.aload_n 0, 1, 0, 0, 0, 0)],
  [some (.getfield 36, 3, 9, 10, 0, 397), none, none, some (.aload_n 0, 1, 0, 0, 0, 0), some (.getfield 15, 3, 9, 1, 0, 380), none, none, some (.iload_n 1, 1, 0, 0, 0, 0), some (.iaload, 1, 0, 0, 0, 0), some (.dup2, 1, 0, 0, 0, 0), some (.iaload, 1, 0, 0, 0, 0), some (.iload_n 3, 1, 0, 0, 0, 0), some (.iadd, 1, 0, 0, 0, 0), some (.iastore, 1, 0, 0, 0, 0), some (.iload_n 3, 1, 0, 0, 0, 0), some (.ifCond .le 48, 3, 0, 0, 0, 0)],
  [none, none, some (.aload_n 0, 1, 0, 0, 0, 0), some (.getfield 70, 3, 9, 9, 0, 395), none, none, some (.sipush 1010, 3, 0, 0, 0, 0), none, none, some (.if_icmp .ge 38, 3, 0, 0, 0, 0), none, none, some (.aload_n 0, 1, 0, 0, 0, 0), some (.getfield 30, 3, 9, 7, 0, 391), none, none],
  [some (.aload_n 0, 1, 0, 0, 0, 0), some (.getfield 70, 3, 9, 9, 0, 395), none, none, some (.aload_n 0, 1, 0, 0, 0, 0), some (.getfield 15, 3, 9, 1, 0, 380), none, none, some (.iload_n 1, 1, 0, 0, 0, 0), some (.iaload, 1, 0, 0, 0, 0), some (.iastore, 1, 0, 0, 0, 0), some (.aload_n 0, 1, 0, 0, 0, 0), some (.getfield 33, 3, 9, 8, 0, 393), none, none, some (.aload_n 0, 1, 0, 0, 0, 0)],
  [some (.getfield 70, 3, 9, 9, 0, 395), none, none, some (.iload_n 3, 1, 0, 0, 0, 0), some (.iastore, 1, 0, 0, 0, 0), some (.aload_n 0, 1, 0, 0, 0, 0), some (.dup, 1, 0, 0, 0, 0), some (.getfield 70, 3, 9, 9, 0, 395), none, none, some (.iconst 1, 1, 0, 0, 0, 0), some (.iadd, 1, 0, 0, 0, 0), some (.putfield 70, 3, 9, 9, 0, 395), none, none, some (.iload_n 2, 1, 0, 0, 0, 0)],
  [some (.iload_n 3, 1, 0, 0, 0, 0), some (.isub, 1, 0, 0, 0, 0), some (.ireturn, 1, 0, 0, 0, 0)]]
/-- 83: PurseTrace$State.tidy()V -/
noncomputable def am_o83 : List (List (Option am_Op)) := [[some (.aload_n 0, 1, 0, 0, 0, 0), some (.getfield 45, 3, 9, 3, 0, 384), none, none, some (.istore_n 1, 1, 0, 0, 0, 0), some (.aload_n 0, 1, 0, 0, 0, 0), some (.iconst 0, 1, 0, 0, 0, 0), some (.putfield 45, 3, 9, 3, 0, 384), none, none, some (.aload_n 0, 1, 0, 0, 0, 0), some (.getfield 21, 3, 9, 4, 0, 385), none, none, some (.iconst (-1), 1, 0, 0, 0, 0), some (.invokestatic 49, 3, 245, 2, 1, 854)],
  [none, none, some (.iconst 0, 1, 0, 0, 0, 0), some (.istore_n 2, 1, 0, 0, 0, 0), some (.iload_n 2, 1, 0, 0, 0, 0), some (.iload_n 1, 1, 0, 0, 0, 0), some (.if_icmp .ge 31, 3, 0, 0, 0, 0), none, none, some (.aload_n 0, 1, 0, 0, 0, 0), some (.aload_n 0, 1, 0, 0, 0, 0), some (.getfield 11, 3, 9, 0, 0, 379), none, none, some (.iload_n 2, 1, 0, 0, 0, 0), some (.iaload, 1, 0, 0, 0, 0)],
  [some (.aload_n 0, 1, 0, 0, 0, 0), some (.getfield 15, 3, 9, 1, 0, 380), none, none, some (.iload_n 2, 1, 0, 0, 0, 0), some (.iaload, 1, 0, 0, 0, 0), some (.aload_n 0, 1, 0, 0, 0, 0), some (.getfield 18, 3, 9, 2, 0, 382), none, none, some (.iload_n 2, 1, 0, 0, 0, 0), some (.iaload, 1, 0, 0, 0, 0), some (.invokevirtual 73, 3, 76, 4, 9, 936), none, none, some (.iinc 2 1, 3, 0, 0, 0, 0)],
  [none, none, some (.goto (-30), 3, 0, 0, 0, 0), none, none, some (.return_, 1, 0, 0, 0, 0)]]
/-- 84: PurseTrace$State.measure(I)I -/
noncomputable def am_o84 : List (List (Option am_Op)) := [[some (.aload_n 0, 1, 0, 0, 0, 0), some (.getfield 39, 3, 9, 11, 0, 400), none, none, some (.iconst 0, 1, 0, 0, 0, 0), some (.invokestatic 49, 3, 245, 2, 1, 854), none, none, some (.iconst 0, 1, 0, 0, 0, 0), some (.istore_n 2, 1, 0, 0, 0, 0), some (.iconst 0, 1, 0, 0, 0, 0), some (.istore_n 3, 1, 0, 0, 0, 0), some (.iload_n 3, 1, 0, 0, 0, 0), some (.aload_n 0, 1, 0, 0, 0, 0), some (.getfield 45, 3, 9, 3, 0, 384), none],
  [none, some (.if_icmp .ge 48, 3, 0, 0, 0, 0), none, none, some (.aload_n 0, 1, 0, 0, 0, 0), some (.getfield 11, 3, 9, 0, 0, 379), none, none, some (.iload_n 3, 1, 0, 0, 0, 0), some (.iaload, 1, 0, 0, 0, 0), some (.iload_n 1, 1, 0, 0, 0, 0), some (.if_icmp .ne 32, 3, 0, 0, 0, 0), none, none, some (.aload_n 0, 1, 0, 0, 0, 0), some (.getfield 39, 3, 9, 11, 0, 400)],
  [none, none, some (.aload_n 0, 1, 0, 0, 0, 0), some (.getfield 15, 3, 9, 1, 0, 380), none, none, some (.iload_n 3, 1, 0, 0, 0, 0), some (.iaload, 1, 0, 0, 0, 0), some (.dup2, 1, 0, 0, 0, 0), some (.iaload, 1, 0, 0, 0, 0), some (.aload_n 0, 1, 0, 0, 0, 0), some (.getfield 18, 3, 9, 2, 0, 382), none, none, some (.iload_n 3, 1, 0, 0, 0, 0), some (.iaload, 1, 0, 0, 0, 0)],
  [some (.iadd, 1, 0, 0, 0, 0), some (.iastore, 1, 0, 0, 0, 0), some (.iload_n 2, 1, 0, 0, 0, 0), some (.aload_n 0, 1, 0, 0, 0, 0), some (.getfield 18, 3, 9, 2, 0, 382), none, none, some (.iload_n 3, 1, 0, 0, 0, 0), some (.iaload, 1, 0, 0, 0, 0), some (.iadd, 1, 0, 0, 0, 0), some (.istore_n 2, 1, 0, 0, 0, 0), some (.iinc 3 1, 3, 0, 0, 0, 0), none, none, some (.goto (-50), 3, 0, 0, 0, 0), none],
  [none, some (.iload_n 2, 1, 0, 0, 0, 0), some (.ireturn, 1, 0, 0, 0, 0)]]
/-- 85: PurseTrace$State.held(II)I -/
noncomputable def am_o85 : List (List (Option am_Op)) := [[some (.aload_n 0, 1, 0, 0, 0, 0), some (.iload_n 1, 1, 0, 0, 0, 0), some (.invokevirtual 81, 3, 84, 2, 9, 919), none, none, some (.istore_n 3, 1, 0, 0, 0, 0), some (.iload_n 2, 1, 0, 0, 0, 0), some (.ifCond .lt 18, 3, 0, 0, 0, 0), none, none, some (.iload_n 2, 1, 0, 0, 0, 0), some (.bipush 10, 2, 0, 0, 0, 0), none, some (.if_icmp .ge 12, 3, 0, 0, 0, 0), none, none],
  [some (.aload_n 0, 1, 0, 0, 0, 0), some (.getfield 39, 3, 9, 11, 0, 400), none, none, some (.iload_n 2, 1, 0, 0, 0, 0), some (.iaload, 1, 0, 0, 0, 0), some (.goto 4, 3, 0, 0, 0, 0), none, none, some (.iload_n 3, 1, 0, 0, 0, 0), some (.ireturn, 1, 0, 0, 0, 0)]]
/-- 86: PurseTrace$State.shareOf(II)I -/
noncomputable def am_o86 : List (List (Option am_Op)) := [[some (.iconst 0, 1, 0, 0, 0, 0), some (.istore_n 3, 1, 0, 0, 0, 0), some (.iconst 0, 1, 0, 0, 0, 0), some (.istore 4, 2, 0, 0, 0, 0), none, some (.iload 4, 2, 0, 0, 0, 0), none, some (.bipush 10, 2, 0, 0, 0, 0), none, some (.if_icmp .ge 35, 3, 0, 0, 0, 0), none, none, some (.iload_n 2, 1, 0, 0, 0, 0), some (.iconst (-1), 1, 0, 0, 0, 0), some (.if_icmp .eq 9, 3, 0, 0, 0, 0), none],
  [none, some (.iload_n 2, 1, 0, 0, 0, 0), some (.iload 4, 2, 0, 0, 0, 0), none, some (.if_icmp .ne 18, 3, 0, 0, 0, 0), none, none, some (.iload_n 3, 1, 0, 0, 0, 0), some (.aload_n 0, 1, 0, 0, 0, 0), some (.getfield 24, 3, 9, 5, 0, 386), none, none, some (.iload_n 1, 1, 0, 0, 0, 0), some (.bipush 10, 2, 0, 0, 0, 0), none, some (.imul, 1, 0, 0, 0, 0)],
  [some (.iload 4, 2, 0, 0, 0, 0), none, some (.iadd, 1, 0, 0, 0, 0), some (.iaload, 1, 0, 0, 0, 0), some (.iadd, 1, 0, 0, 0, 0), some (.istore_n 3, 1, 0, 0, 0, 0), some (.iinc 4 1, 3, 0, 0, 0, 0), none, none, some (.goto (-36), 3, 0, 0, 0, 0), none, none, some (.iload_n 3, 1, 0, 0, 0, 0), some (.ireturn, 1, 0, 0, 0, 0)]]
/-- 87: PurseTrace$State.placeOf(II)I -/
noncomputable def am_o87 : List (List (Option am_Op)) := [[some (.iconst 0, 1, 0, 0, 0, 0), some (.istore_n 3, 1, 0, 0, 0, 0), some (.iconst 0, 1, 0, 0, 0, 0), some (.istore 4, 2, 0, 0, 0, 0), none, some (.iload 4, 2, 0, 0, 0, 0), none, some (.aload_n 0, 1, 0, 0, 0, 0), some (.getfield 45, 3, 9, 3, 0, 384), none, none, some (.if_icmp .ge 31, 3, 0, 0, 0, 0), none, none, some (.aload_n 0, 1, 0, 0, 0, 0), some (.getfield 11, 3, 9, 0, 0, 379)],
  [none, none, some (.iload 4, 2, 0, 0, 0, 0), none, some (.iaload, 1, 0, 0, 0, 0), some (.iload_n 1, 1, 0, 0, 0, 0), some (.if_icmp .ne 14, 3, 0, 0, 0, 0), none, none, some (.iload_n 3, 1, 0, 0, 0, 0), some (.iload_n 2, 1, 0, 0, 0, 0), some (.if_icmp .ne 6, 3, 0, 0, 0, 0), none, none, some (.iload 4, 2, 0, 0, 0, 0), none],
  [some (.ireturn, 1, 0, 0, 0, 0), some (.iinc 3 1, 3, 0, 0, 0, 0), none, none, some (.iinc 4 1, 3, 0, 0, 0, 0), none, none, some (.goto (-34), 3, 0, 0, 0, 0), none, none, some (.iconst (-1), 1, 0, 0, 0, 0), some (.ireturn, 1, 0, 0, 0, 0)]]
/-- 88: PurseTrace$Tape.hasRoom()Z -/
noncomputable def am_o88 : List (List (Option am_Op)) := [[some (.aload_n 0, 1, 0, 0, 0, 0), some (.getfield 15, 3, 10, 1, 0, 153), none, none, some (.bipush 20, 2, 0, 0, 0, 0), none, some (.iadd, 1, 0, 0, 0, 0), some (.sipush 400, 3, 0, 0, 0, 0), none, none, some (.if_icmp .gt 7, 3, 0, 0, 0, 0), none, none, some (.iconst 1, 1, 0, 0, 0, 0), some (.goto 4, 3, 0, 0, 0, 0), none],
  [none, some (.iconst 0, 1, 0, 0, 0, 0), some (.ireturn, 1, 1, 0, 0, 0)]]
/-- 89: PurseTrace$Tape.append(I)V -/
noncomputable def am_o89 : List (List (Option am_Op)) := [[some (.bipush 24, 2, 0, 0, 0, 0), none, some (.istore_n 2, 1, 0, 0, 0, 0), some (.iload_n 2, 1, 0, 0, 0, 0), some (.ifCond .lt 45, 3, 0, 0, 0, 0), none, none, some (.aload_n 0, 1, 0, 0, 0, 0), some (.getfield 15, 3, 10, 1, 0, 153), none, none, some (.sipush 400, 3, 0, 0, 0, 0), none, none, some (.if_icmp .ge 35, 3, 0, 0, 0, 0), none],
  [none, some (.aload_n 0, 1, 0, 0, 0, 0), some (.getfield 11, 3, 10, 0, 0, 152), none, none, some (.aload_n 0, 1, 0, 0, 0, 0), some (.getfield 15, 3, 10, 1, 0, 153), none, none, some (.iload_n 1, 1, 0, 0, 0, 0), some (.iload_n 2, 1, 0, 0, 0, 0), some (.ishr, 1, 0, 0, 0, 0), some (.sipush 255, 3, 0, 0, 0, 0), none, none, some (.iand, 1, 0, 0, 0, 0)],
  [some (.iastore, 1, 0, 0, 0, 0), some (.aload_n 0, 1, 0, 0, 0, 0), some (.dup, 1, 0, 0, 0, 0), some (.getfield 15, 3, 10, 1, 0, 153), none, none, some (.iconst 1, 1, 0, 0, 0, 0), some (.iadd, 1, 0, 0, 0, 0), some (.putfield 15, 3, 10, 1, 0, 153), none, none, some (.iinc 2 (-8), 3, 0, 0, 0, 0), none, none, some (.goto (-43), 3, 0, 0, 0, 0), none],
  [none, some (.return_, 1, 0, 0, 0, 0)]]
/-- 90: PurseTrace$Tape.byteAt(I)I -/
noncomputable def am_o90 : List (List (Option am_Op)) := [[some (.iload_n 1, 1, 0, 0, 0, 0), some (.ifCond .lt 20, 3, 0, 0, 0, 0), none, none, some (.iload_n 1, 1, 0, 0, 0, 0), some (.aload_n 0, 1, 0, 0, 0, 0), some (.getfield 15, 3, 10, 1, 0, 153), none, none, some (.if_icmp .ge 12, 3, 0, 0, 0, 0), none, none, some (.aload_n 0, 1, 0, 0, 0, 0), some (.getfield 11, 3, 10, 0, 0, 152), none, none],
  [some (.iload_n 1, 1, 0, 0, 0, 0), some (.iaload, 1, 0, 0, 0, 0), some (.goto 4, 3, 0, 0, 0, 0), none, none, some (.iconst (-1), 1, 0, 0, 0, 0), some (.ireturn, 1, 0, 0, 0, 0)]]
/-- 91: PurseTrace$Tape.number(I)I -/
noncomputable def am_o91 : List (List (Option am_Op)) := [[some (.iconst 4, 1, 0, 0, 0, 0), some (.iload_n 1, 1, 0, 0, 0, 0), some (.imul, 1, 0, 0, 0, 0), some (.istore_n 2, 1, 0, 0, 0, 0), some (.iload_n 2, 1, 0, 0, 0, 0), some (.ifCond .lt 13, 3, 0, 0, 0, 0), none, none, some (.iload_n 2, 1, 0, 0, 0, 0), some (.iconst 4, 1, 0, 0, 0, 0), some (.iadd, 1, 0, 0, 0, 0), some (.aload_n 0, 1, 0, 0, 0, 0), some (.getfield 15, 3, 10, 1, 0, 153), none, none, some (.if_icmp .le 5, 3, 0, 0, 0, 0)],
  [none, none, some (.iconst 0, 1, 0, 0, 0, 0), some (.ireturn, 1, 0, 0, 0, 0), some (.aload_n 0, 1, 0, 0, 0, 0), some (.getfield 11, 3, 10, 0, 0, 152), none, none, some (.iload_n 2, 1, 0, 0, 0, 0), some (.iaload, 1, 0, 0, 0, 0), some (.bipush 24, 2, 0, 0, 0, 0), none, some (.ishl, 1, 0, 0, 0, 0), some (.aload_n 0, 1, 0, 0, 0, 0), some (.getfield 11, 3, 10, 0, 0, 152), none],
  [none, some (.iload_n 2, 1, 0, 0, 0, 0), some (.iconst 1, 1, 0, 0, 0, 0), some (.iadd, 1, 0, 0, 0, 0), some (.iaload, 1, 0, 0, 0, 0), some (.bipush 16, 2, 0, 0, 0, 0), none, some (.ishl, 1, 0, 0, 0, 0), some (.ior, 1, 0, 0, 0, 0), some (.aload_n 0, 1, 0, 0, 0, 0), some (.getfield 11, 3, 10, 0, 0, 152), none, none, some (.iload_n 2, 1, 0, 0, 0, 0), some (.iconst 2, 1, 0, 0, 0, 0), some (.iadd, 1, 0, 0, 0, 0)],
  [some (.iaload, 1, 0, 0, 0, 0), some (.bipush 8, 2, 0, 0, 0, 0), none, some (.ishl, 1, 0, 0, 0, 0), some (.ior, 1, 0, 0, 0, 0), some (.aload_n 0, 1, 0, 0, 0, 0), some (.getfield 11, 3, 10, 0, 0, 152), none, none, some (.iload_n 2, 1, 0, 0, 0, 0), some (.iconst 3, 1, 0, 0, 0, 0), some (.iadd, 1, 0, 0, 0, 0), some (.iaload, 1, 0, 0, 0, 0), some (.ior, 1, 0, 0, 0, 0), some (.ireturn, 1, 0, 0, 0, 0)]]
/-- 92: PurseTrace.now(I)Z -/
noncomputable def am_o92 : List (List (Option am_Op)) := [[some (.iload_n 1, 1, 0, 0, 0, 0), some (.invokestatic 87, 3, 130, 1, 1, 644), none, none, some (.ifCond .eq 11, 3, 0, 0, 0, 0), none, none, some (.iload_n 1, 1, 0, 0, 0, 0), some (.aload_n 0, 1, 0, 0, 0, 0), some (.getfield 91, 3, 11, 10, 0, 610), none, none, some (.if_icmp .ge 5, 3, 0, 0, 0, 0), none, none, some (.iconst 0, 1, 0, 0, 0, 0)],
  [some (.ireturn, 1, 1, 0, 0, 0), some (.aload_n 0, 1, 0, 0, 0, 0), some (.iload_n 1, 1, 0, 0, 0, 0), some (.putfield 91, 3, 11, 10, 0, 610), none, none, some (.iconst 1, 1, 0, 0, 0, 0), some (.ireturn, 1, 1, 0, 0, 0)]]
/-- 93: PurseTrace.person()I -/
noncomputable def am_o93 : List (List (Option am_Op)) := [[some (.aload_n 0, 1, 0, 0, 0, 0), some (.getfield 95, 3, 11, 11, 0, 611), none, none, some (.bipush 10, 2, 0, 0, 0, 0), none, some (.if_icmp .lt 5, 3, 0, 0, 0, 0), none, none, some (.iconst (-1), 1, 0, 0, 0, 0), some (.ireturn, 1, 0, 0, 0, 0), some (.aload_n 0, 1, 0, 0, 0, 0), some (.dup, 1, 0, 0, 0, 0), some (.getfield 95, 3, 11, 11, 0, 611), none, none],
  [some (.iconst 1, 1, 0, 0, 0, 0), some (.iadd, 1, 0, 0, 0, 0), some (.putfield 95, 3, 11, 11, 0, 611), none, none, some (.aload_n 0, 1, 0, 0, 0, 0), some (.getfield 95, 3, 11, 11, 0, 611), none, none, some (.iconst 1, 1, 0, 0, 0, 0), some (.isub, 1, 0, 0, 0, 0), some (.ireturn, 1, 0, 0, 0, 0)]]
/-- 94: PurseTrace.purse(II)I -/
noncomputable def am_o94 : List (List (Option am_Op)) := [[some (.aload_n 0, 1, 0, 0, 0, 0), some (.iload_n 1, 1, 0, 0, 0, 0), some (.invokevirtual 98, 3, 125, 2, 11, 655), none, none, some (.ifCond .eq 12, 3, 0, 0, 0, 0), none, none, some (.iload_n 2, 1, 0, 0, 0, 0), some (.ifCond .lt 8, 3, 0, 0, 0, 0), none, none, some (.iload_n 2, 1, 0, 0, 0, 0), some (.iconst 4, 1, 0, 0, 0, 0), some (.if_icmp .lt 5, 3, 0, 0, 0, 0), none],
  [none, some (.iconst (-1), 1, 0, 0, 0, 0), some (.ireturn, 1, 0, 0, 0, 0), some (.aload_n 0, 1, 0, 0, 0, 0), some (.getfield 19, 3, 11, 1, 0, 601), none, none, some (.iload_n 1, 1, 0, 0, 0, 0), some (.iload_n 2, 1, 0, 0, 0, 0), some (.invokevirtual 101, 3, 30, 3, 5, 659), none, none, some (.ireturn, 1, 0, 0, 0, 0)]]
/-- 95: PurseTrace.thing()I -/
noncomputable def am_o95 : List (List (Option am_Op)) := [[some (.aload_n 0, 1, 0, 0, 0, 0), some (.getfield 105, 3, 11, 12, 0, 612), none, none, some (.bipush 10, 2, 0, 0, 0, 0), none, some (.if_icmp .lt 5, 3, 0, 0, 0, 0), none, none, some (.iconst (-1), 1, 0, 0, 0, 0), some (.ireturn, 1, 0, 0, 0, 0), some (.aload_n 0, 1, 0, 0, 0, 0), some (.dup, 1, 0, 0, 0, 0), some (.getfield 105, 3, 11, 12, 0, 612), none, none],
  [some (.iconst 1, 1, 0, 0, 0, 0), some (.iadd, 1, 0, 0, 0, 0), some (.putfield 105, 3, 11, 12, 0, 612), none, none, some (.aload_n 0, 1, 0, 0, 0, 0), some (.getfield 105, 3, 11, 12, 0, 612), none, none, some (.iconst 1, 1, 0, 0, 0, 0), some (.isub, 1, 0, 0, 0, 0), some (.ireturn, 1, 0, 0, 0, 0)]]
/-- 96: PurseTrace.line(IIIIIII)I -/
noncomputable def am_o96 : List (List (Option am_Op)) := [[some (.iload_n 1, 1, 0, 0, 0, 0), some (.ifCond .eq 15, 3, 0, 0, 0, 0), none, none, some (.iload_n 1, 1, 0, 0, 0, 0), some (.iconst 2, 1, 0, 0, 0, 0), some (.if_icmp .eq 10, 3, 0, 0, 0, 0), none, none, some (.iload_n 1, 1, 0, 0, 0, 0), some (.iconst 5, 1, 0, 0, 0, 0), some (.if_icmp .eq 5, 3, 0, 0, 0, 0), none, none, some (.iconst (-1), 1, 0, 0, 0, 0), some (.ireturn, 1, 0, 0, 0, 0)],
  [some (.iload_n 1, 1, 0, 0, 0, 0), some (.iconst 2, 1, 0, 0, 0, 0), some (.if_icmp .ne 16, 3, 0, 0, 0, 0), none, none, some (.iload_n 3, 1, 0, 0, 0, 0), some (.iconst (-1), 1, 0, 0, 0, 0), some (.if_icmp .ne 7, 3, 0, 0, 0, 0), none, none, some (.iconst 1, 1, 0, 0, 0, 0), some (.goto 12, 3, 0, 0, 0, 0), none, none, some (.iconst 0, 1, 0, 0, 0, 0), some (.goto 8, 3, 0, 0, 0, 0)],
  [none, none, some (.aload_n 0, 1, 0, 0, 0, 0), some (.iload_n 3, 1, 0, 0, 0, 0), some (.invokevirtual 98, 3, 125, 2, 11, 655), none, none, some (.istore 8, 2, 0, 0, 0, 0), none, some (.iload 8, 2, 0, 0, 0, 0), none, some (.ifCond .eq 32, 3, 0, 0, 0, 0), none, none, some (.aload_n 0, 1, 0, 0, 0, 0), some (.iload_n 2, 1, 0, 0, 0, 0)],
  [some (.invokevirtual 108, 3, 127, 2, 11, 671), none, none, some (.ifCond .eq 24, 3, 0, 0, 0, 0), none, none, some (.iload 4, 2, 0, 0, 0, 0), none, some (.invokestatic 111, 3, 131, 1, 1, 675), none, none, some (.ifCond .eq 16, 3, 0, 0, 0, 0), none, none, some (.aload_n 0, 1, 0, 0, 0, 0), some (.iload 5, 2, 0, 0, 0, 0)],
  [none, some (.iload 6, 2, 0, 0, 0, 0), none, some (.iload 7, 2, 0, 0, 0, 0), none, some (.invokevirtual 114, 3, 124, 4, 11, 679), none, none, some (.ifCond .ne 5, 3, 0, 0, 0, 0), none, none, some (.iconst (-1), 1, 0, 0, 0, 0), some (.ireturn, 1, 0, 0, 0, 0), some (.aload_n 0, 1, 0, 0, 0, 0), some (.getfield 26, 3, 11, 2, 0, 602), none],
  [none, some (.iload_n 1, 1, 0, 0, 0, 0), some (.iload_n 2, 1, 0, 0, 0, 0), some (.iload_n 3, 1, 0, 0, 0, 0), some (.iload 4, 2, 0, 0, 0, 0), none, some (.iconst 0, 1, 0, 0, 0, 0), some (.invokevirtual 118, 3, 17, 6, 3, 683), none, none, some (.aload_n 0, 1, 0, 0, 0, 0), some (.getfield 26, 3, 11, 2, 0, 602), none, none, some (.iload 5, 2, 0, 0, 0, 0), none],
  [some (.iload 6, 2, 0, 0, 0, 0), none, some (.iload 7, 2, 0, 0, 0, 0), none, some (.aload_n 0, 1, 0, 0, 0, 0), some (.getfield 91, 3, 11, 10, 0, 610), none, none, some (.invokevirtual 122, 3, 18, 5, 3, 687), none, none, some (.ireturn, 1, 0, 0, 0, 0)]]
/-- 97: PurseTrace.move(IIIZIII)I -/
noncomputable def am_o97 : List (List (Option am_Op)) := [[some (.aload_n 0, 1, 0, 0, 0, 0), some (.iload_n 1, 1, 0, 0, 0, 0), some (.invokevirtual 108, 3, 127, 2, 11, 671), none, none, some (.ifCond .eq 36, 3, 0, 0, 0, 0), none, none, some (.aload_n 0, 1, 0, 0, 0, 0), some (.iload_n 2, 1, 0, 0, 0, 0), some (.invokevirtual 108, 3, 127, 2, 11, 671), none, none, some (.ifCond .eq 28, 3, 0, 0, 0, 0), none, none],
  [some (.iload_n 1, 1, 0, 0, 0, 0), some (.iload_n 2, 1, 0, 0, 0, 0), some (.if_icmp .eq 23, 3, 0, 0, 0, 0), none, none, some (.iload_n 3, 1, 0, 0, 0, 0), some (.invokestatic 111, 3, 131, 1, 1, 675), none, none, some (.ifCond .eq 16, 3, 0, 0, 0, 0), none, none, some (.aload_n 0, 1, 0, 0, 0, 0), some (.iload 5, 2, 0, 0, 0, 0), none, some (.iload 6, 2, 0, 0, 0, 0)],
  [none, some (.iload 7, 2, 0, 0, 0, 0), none, some (.invokevirtual 114, 3, 124, 4, 11, 679), none, none, some (.ifCond .ne 5, 3, 0, 0, 0, 0), none, none, some (.iconst (-1), 1, 0, 0, 0, 0), some (.ireturn, 1, 0, 0, 0, 0), some (.aload_n 0, 1, 0, 0, 0, 0), some (.getfield 26, 3, 11, 2, 0, 602), none, none, some (.iconst 1, 1, 0, 0, 0, 0)],
  [some (.iload_n 1, 1, 0, 0, 0, 0), some (.iload_n 2, 1, 0, 0, 0, 0), some (.iload_n 3, 1, 0, 0, 0, 0), some (.iload 4, 2, 0, 0, 0, 0), none, some (.invokevirtual 118, 3, 17, 6, 3, 683), none, none, some (.aload_n 0, 1, 0, 0, 0, 0), some (.getfield 26, 3, 11, 2, 0, 602), none, none, some (.iload 5, 2, 0, 0, 0, 0), none, some (.iload 6, 2, 0, 0, 0, 0), none],
  [some (.iload 7, 2, 0, 0, 0, 0), none, some (.aload_n 0, 1, 0, 0, 0, 0), some (.getfield 91, 3, 11, 10, 0, 610), none, none, some (.invokevirtual 122, 3, 18, 5, 3, 687), none, none, some (.ireturn, 1, 0, 0, 0, 0)]]
/-- 98: PurseTrace.deal(ZIIIIII)I -/
noncomputable def am_o98 : List (List (Option am_Op)) := [[some (.aload_n 0, 1, 0, 0, 0, 0), some (.iload_n 2, 1, 0, 0, 0, 0), some (.invokevirtual 108, 3, 127, 2, 11, 671), none, none, some (.ifCond .eq 32, 3, 0, 0, 0, 0), none, none, some (.aload_n 0, 1, 0, 0, 0, 0), some (.iload_n 3, 1, 0, 0, 0, 0), some (.invokevirtual 126, 3, 128, 2, 11, 707), none, none, some (.ifCond .eq 24, 3, 0, 0, 0, 0), none, none],
  [some (.iload 4, 2, 0, 0, 0, 0), none, some (.invokestatic 111, 3, 131, 1, 1, 675), none, none, some (.ifCond .eq 16, 3, 0, 0, 0, 0), none, none, some (.aload_n 0, 1, 0, 0, 0, 0), some (.iload 5, 2, 0, 0, 0, 0), none, some (.iload 6, 2, 0, 0, 0, 0), none, some (.iload 7, 2, 0, 0, 0, 0), none, some (.invokevirtual 114, 3, 124, 4, 11, 679)],
  [none, none, some (.ifCond .ne 5, 3, 0, 0, 0, 0), none, none, some (.iconst (-1), 1, 0, 0, 0, 0), some (.ireturn, 1, 0, 0, 0, 0), some (.aload_n 0, 1, 0, 0, 0, 0), some (.getfield 26, 3, 11, 2, 0, 602), none, none, some (.iload_n 1, 1, 0, 0, 0, 0), some (.ifCond .eq 7, 3, 0, 0, 0, 0), none, none, some (.iconst 4, 1, 0, 0, 0, 0)],
  [some (.goto 4, 3, 0, 0, 0, 0), none, none, some (.iconst 3, 1, 0, 0, 0, 0), some (.iload_n 2, 1, 0, 0, 0, 0), some (.iload_n 3, 1, 0, 0, 0, 0), some (.iload 4, 2, 0, 0, 0, 0), none, some (.iconst 0, 1, 0, 0, 0, 0), some (.invokevirtual 118, 3, 17, 6, 3, 683), none, none, some (.aload_n 0, 1, 0, 0, 0, 0), some (.getfield 26, 3, 11, 2, 0, 602), none, none],
  [some (.iload 5, 2, 0, 0, 0, 0), none, some (.iload 6, 2, 0, 0, 0, 0), none, some (.iload 7, 2, 0, 0, 0, 0), none, some (.aload_n 0, 1, 0, 0, 0, 0), some (.getfield 91, 3, 11, 10, 0, 610), none, none, some (.invokevirtual 122, 3, 18, 5, 3, 687), none, none, some (.ireturn, 1, 0, 0, 0, 0)]]
/-- 99: PurseTrace.strike(I)Z -/
noncomputable def am_o99 : List (List (Option am_Op)) := [[some (.aload_n 0, 1, 0, 0, 0, 0), some (.iload_n 1, 1, 0, 0, 0, 0), some (.invokevirtual 129, 3, 129, 2, 11, 715), none, none, some (.ifCond .eq 16, 3, 0, 0, 0, 0), none, none, some (.aload_n 0, 1, 0, 0, 0, 0), some (.getfield 26, 3, 11, 2, 0, 602), none, none, some (.getfield 132, 3, 3, 9, 0, 217), none, none, some (.iload_n 1, 1, 0, 0, 0, 0)],
  [some (.iaload, 1, 0, 0, 0, 0), some (.iconst (-1), 1, 0, 0, 0, 0), some (.if_icmp .eq 5, 3, 0, 0, 0, 0), none, none, some (.iconst 0, 1, 0, 0, 0, 0), some (.ireturn, 1, 1, 0, 0, 0), some (.aload_n 0, 1, 0, 0, 0, 0), some (.getfield 26, 3, 11, 2, 0, 602), none, none, some (.getfield 132, 3, 3, 9, 0, 217), none, none, some (.iload_n 1, 1, 0, 0, 0, 0), some (.aload_n 0, 1, 0, 0, 0, 0)],
  [some (.getfield 91, 3, 11, 10, 0, 610), none, none, some (.iastore, 1, 0, 0, 0, 0), some (.iconst 1, 1, 0, 0, 0, 0), some (.ireturn, 1, 1, 0, 0, 0)]]
/-- 100: PurseTrace.feed(IIIII)I -/
noncomputable def am_o100 : List (List (Option am_Op)) := [[some (.aload_n 0, 1, 0, 0, 0, 0), some (.getfield 10, 3, 11, 0, 0, 600), none, none, some (.invokevirtual 136, 3, 88, 1, 10, 723), none, none, some (.ifCond .ne 5, 3, 0, 0, 0, 0), none, none, some (.iconst (-1), 1, 0, 0, 0, 0), some (.ireturn, 1, 0, 0, 0, 0), some (.aload_n 0, 1, 0, 0, 0, 0), some (.getfield 10, 3, 11, 0, 0, 600), none, none],
  [some (.iload_n 1, 1, 0, 0, 0, 0), some (.invokevirtual 140, 3, 89, 2, 10, 727), none, none, some (.aload_n 0, 1, 0, 0, 0, 0), some (.getfield 10, 3, 11, 0, 0, 600), none, none, some (.iload_n 2, 1, 0, 0, 0, 0), some (.invokevirtual 140, 3, 89, 2, 10, 727), none, none, some (.aload_n 0, 1, 0, 0, 0, 0), some (.getfield 10, 3, 11, 0, 0, 600), none, none],
  [some (.iload_n 3, 1, 0, 0, 0, 0), some (.invokevirtual 140, 3, 89, 2, 10, 727), none, none, some (.aload_n 0, 1, 0, 0, 0, 0), some (.getfield 10, 3, 11, 0, 0, 600), none, none, some (.iload 4, 2, 0, 0, 0, 0), none, some (.invokevirtual 140, 3, 89, 2, 10, 727), none, none, some (.aload_n 0, 1, 0, 0, 0, 0), some (.getfield 10, 3, 11, 0, 0, 600), none],
  [none, some (.iload 5, 2, 0, 0, 0, 0), none, some (.invokevirtual 140, 3, 89, 2, 10, 727), none, none, some (.aload_n 0, 1, 0, 0, 0, 0), some (.getfield 10, 3, 11, 0, 0, 600), none, none, some (.getfield 144, 3, 10, 1, 0, 154), none, none, some (.ireturn, 1, 0, 0, 0, 0)]]
/-- 101: PurseTrace.rules(IIII)I -/
noncomputable def am_o101 : List (List (Option am_Op)) := [[some (.iload_n 1, 1, 0, 0, 0, 0), some (.ifCond .lt 27, 3, 0, 0, 0, 0), none, none, some (.iload_n 1, 1, 0, 0, 0, 0), some (.iconst 4, 1, 0, 0, 0, 0), some (.if_icmp .ge 22, 3, 0, 0, 0, 0), none, none, some (.iload_n 2, 1, 0, 0, 0, 0), some (.invokestatic 87, 3, 130, 1, 1, 644), none, none, some (.ifCond .eq 15, 3, 0, 0, 0, 0), none, none],
  [some (.iload_n 3, 1, 0, 0, 0, 0), some (.invokestatic 87, 3, 130, 1, 1, 644), none, none, some (.ifCond .eq 8, 3, 0, 0, 0, 0), none, none, some (.iload_n 3, 1, 0, 0, 0, 0), some (.iload_n 2, 1, 0, 0, 0, 0), some (.if_icmp .ge 5, 3, 0, 0, 0, 0), none, none, some (.iconst (-1), 1, 0, 0, 0, 0), some (.ireturn, 1, 0, 0, 0, 0), some (.iload 4, 2, 0, 0, 0, 0), none],
  [some (.iconst 1, 1, 0, 0, 0, 0), some (.if_icmp .lt 35, 3, 0, 0, 0, 0), none, none, some (.iload 4, 2, 0, 0, 0, 0), none, some (.sipush 160, 3, 0, 0, 0, 0), none, none, some (.if_icmp .gt 27, 3, 0, 0, 0, 0), none, none, some (.iload 4, 2, 0, 0, 0, 0), none, some (.aload_n 0, 1, 0, 0, 0, 0), some (.getfield 10, 3, 11, 0, 0, 600)],
  [none, none, some (.getfield 144, 3, 10, 1, 0, 154), none, none, some (.if_icmp .gt 15, 3, 0, 0, 0, 0), none, none, some (.aload_n 0, 1, 0, 0, 0, 0), some (.getfield 40, 3, 11, 4, 0, 604), none, none, some (.getfield 147, 3, 7, 14, 0, 303), none, none, some (.bipush 20, 2, 0, 0, 0, 0)],
  [none, some (.if_icmp .lt 5, 3, 0, 0, 0, 0), none, none, some (.iconst (-1), 1, 0, 0, 0, 0), some (.ireturn, 1, 0, 0, 0, 0), some (.aload_n 0, 1, 0, 0, 0, 0), some (.getfield 49, 3, 11, 5, 0, 605), none, none, some (.iload 4, 2, 0, 0, 0, 0), none, some (.invokevirtual 148, 3, 54, 2, 8, 735), none, none, some (.istore 5, 2, 0, 0, 0, 0)],
  [none, some (.aload_n 0, 1, 0, 0, 0, 0), some (.getfield 10, 3, 11, 0, 0, 600), none, none, some (.iconst 0, 1, 0, 0, 0, 0), some (.putfield 144, 3, 10, 1, 0, 154), none, none, some (.iload 5, 2, 0, 0, 0, 0), none, some (.ifCond .eq 6, 3, 0, 0, 0, 0), none, none, some (.iload 5, 2, 0, 0, 0, 0), none],
  [some (.ireturn, 1, 0, 0, 0, 0), some (.aload_n 0, 1, 0, 0, 0, 0), some (.getfield 40, 3, 11, 4, 0, 604), none, none, some (.iload_n 1, 1, 0, 0, 0, 0), some (.iload_n 2, 1, 0, 0, 0, 0), some (.iload_n 3, 1, 0, 0, 0, 0), some (.aload_n 0, 1, 0, 0, 0, 0), some (.getfield 91, 3, 11, 10, 0, 610), none, none, some (.invokevirtual 152, 3, 47, 5, 7, 815), none, none, some (.ireturn, 1, 0, 0, 0, 0)]]
/-- 102: PurseTrace.knows(III)Z -/
noncomputable def am_o102 : List (List (Option am_Op)) := [[some (.aload_n 0, 1, 0, 0, 0, 0), some (.iload_n 1, 1, 0, 0, 0, 0), some (.invokevirtual 98, 3, 125, 2, 11, 655), none, none, some (.ifCond .eq 23, 3, 0, 0, 0, 0), none, none, some (.aload_n 0, 1, 0, 0, 0, 0), some (.iload_n 2, 1, 0, 0, 0, 0), some (.invokevirtual 98, 3, 125, 2, 11, 655), none, none, some (.ifCond .eq 15, 3, 0, 0, 0, 0), none, none],
  [some (.iload_n 1, 1, 0, 0, 0, 0), some (.iload_n 2, 1, 0, 0, 0, 0), some (.if_icmp .eq 10, 3, 0, 0, 0, 0), none, none, some (.iload_n 3, 1, 0, 0, 0, 0), some (.invokestatic 87, 3, 130, 1, 1, 644), none, none, some (.ifCond .ne 5, 3, 0, 0, 0, 0), none, none, some (.iconst 0, 1, 0, 0, 0, 0), some (.ireturn, 1, 1, 0, 0, 0), some (.aload_n 0, 1, 0, 0, 0, 0), some (.getfield 33, 3, 11, 3, 0, 603)],
  [none, none, some (.iload_n 1, 1, 0, 0, 0, 0), some (.iload_n 2, 1, 0, 0, 0, 0), some (.iload_n 3, 1, 0, 0, 0, 0), some (.aload_n 0, 1, 0, 0, 0, 0), some (.getfield 91, 3, 11, 10, 0, 610), none, none, some (.invokevirtual 154, 3, 15, 5, 2, 823), none, none, some (.ireturn, 1, 1, 0, 0, 0)]]
/-- 103: PurseTrace.left(IIII)I -/
noncomputable def am_o103 : List (List (Option am_Op)) := [[some (.aload_n 0, 1, 0, 0, 0, 0), some (.iload_n 1, 1, 0, 0, 0, 0), some (.invokevirtual 108, 3, 127, 2, 11, 671), none, none, some (.ifCond .eq 26, 3, 0, 0, 0, 0), none, none, some (.aload_n 0, 1, 0, 0, 0, 0), some (.iload_n 2, 1, 0, 0, 0, 0), some (.invokevirtual 157, 3, 126, 2, 11, 831), none, none, some (.ifCond .eq 18, 3, 0, 0, 0, 0), none, none],
  [some (.iload_n 3, 1, 0, 0, 0, 0), some (.invokestatic 87, 3, 130, 1, 1, 644), none, none, some (.ifCond .eq 11, 3, 0, 0, 0, 0), none, none, some (.iload 4, 2, 0, 0, 0, 0), none, some (.invokestatic 87, 3, 130, 1, 1, 644), none, none, some (.ifCond .ne 5, 3, 0, 0, 0, 0), none, none, some (.iconst (-1), 1, 0, 0, 0, 0)],
  [some (.ireturn, 1, 0, 0, 0, 0), some (.aload_n 0, 1, 0, 0, 0, 0), some (.getfield 58, 3, 11, 6, 0, 606), none, none, some (.iload_n 3, 1, 0, 0, 0, 0), some (.iload 4, 2, 0, 0, 0, 0), none, some (.invokevirtual 160, 3, 32, 3, 6, 835), none, none, some (.aload_n 0, 1, 0, 0, 0, 0), some (.getfield 58, 3, 11, 6, 0, 606), none, none, some (.getfield 164, 3, 6, 4, 0, 437)],
  [none, none, some (.iload_n 1, 1, 0, 0, 0, 0), some (.iload_n 2, 1, 0, 0, 0, 0), some (.invokevirtual 168, 3, 85, 3, 9, 976), none, none, some (.ireturn, 1, 0, 0, 0, 0)]]
/-- 104: PurseTrace.share(IIII)I -/
noncomputable def am_o104 : List (List (Option am_Op)) := [[some (.aload_n 0, 1, 0, 0, 0, 0), some (.iload_n 1, 1, 0, 0, 0, 0), some (.invokevirtual 126, 3, 128, 2, 11, 707), none, none, some (.ifCond .eq 26, 3, 0, 0, 0, 0), none, none, some (.aload_n 0, 1, 0, 0, 0, 0), some (.iload_n 2, 1, 0, 0, 0, 0), some (.invokevirtual 157, 3, 126, 2, 11, 831), none, none, some (.ifCond .eq 18, 3, 0, 0, 0, 0), none, none],
  [some (.iload_n 3, 1, 0, 0, 0, 0), some (.invokestatic 87, 3, 130, 1, 1, 644), none, none, some (.ifCond .eq 11, 3, 0, 0, 0, 0), none, none, some (.iload 4, 2, 0, 0, 0, 0), none, some (.invokestatic 87, 3, 130, 1, 1, 644), none, none, some (.ifCond .ne 5, 3, 0, 0, 0, 0), none, none, some (.iconst (-1), 1, 0, 0, 0, 0)],
  [some (.ireturn, 1, 0, 0, 0, 0), some (.aload_n 0, 1, 0, 0, 0, 0), some (.getfield 58, 3, 11, 6, 0, 606), none, none, some (.iload_n 3, 1, 0, 0, 0, 0), some (.iload 4, 2, 0, 0, 0, 0), none, some (.invokevirtual 160, 3, 32, 3, 6, 835), none, none, some (.aload_n 0, 1, 0, 0, 0, 0), some (.getfield 58, 3, 11, 6, 0, 606), none, none, some (.getfield 164, 3, 6, 4, 0, 437)],
  [none, none, some (.iload_n 1, 1, 0, 0, 0, 0), some (.iload_n 2, 1, 0, 0, 0, 0), some (.invokevirtual 173, 3, 86, 3, 9, 984), none, none, some (.ireturn, 1, 0, 0, 0, 0)]]
/-- 105: PurseTrace.lost(IIII)I -/
noncomputable def am_o105 : List (List (Option am_Op)) := [[some (.aload_n 0, 1, 0, 0, 0, 0), some (.iload_n 1, 1, 0, 0, 0, 0), some (.invokevirtual 108, 3, 127, 2, 11, 671), none, none, some (.ifCond .eq 26, 3, 0, 0, 0, 0), none, none, some (.aload_n 0, 1, 0, 0, 0, 0), some (.iload_n 2, 1, 0, 0, 0, 0), some (.invokevirtual 98, 3, 125, 2, 11, 655), none, none, some (.ifCond .eq 18, 3, 0, 0, 0, 0), none, none],
  [some (.iload_n 3, 1, 0, 0, 0, 0), some (.invokestatic 87, 3, 130, 1, 1, 644), none, none, some (.ifCond .eq 11, 3, 0, 0, 0, 0), none, none, some (.iload 4, 2, 0, 0, 0, 0), none, some (.invokestatic 87, 3, 130, 1, 1, 644), none, none, some (.ifCond .ne 5, 3, 0, 0, 0, 0), none, none, some (.iconst (-1), 1, 0, 0, 0, 0)],
  [some (.ireturn, 1, 0, 0, 0, 0), some (.aload_n 0, 1, 0, 0, 0, 0), some (.getfield 58, 3, 11, 6, 0, 606), none, none, some (.iload_n 3, 1, 0, 0, 0, 0), some (.iload 4, 2, 0, 0, 0, 0), none, some (.invokevirtual 160, 3, 32, 3, 6, 835), none, none, some (.aload_n 0, 1, 0, 0, 0, 0), some (.getfield 58, 3, 11, 6, 0, 606), none, none, some (.getfield 164, 3, 6, 4, 0, 437)],
  [none, none, some (.getfield 176, 3, 9, 6, 0, 390), none, none, some (.iload_n 1, 1, 0, 0, 0, 0), some (.bipush 10, 2, 0, 0, 0, 0), none, some (.imul, 1, 0, 0, 0, 0), some (.iload_n 2, 1, 0, 0, 0, 0), some (.iadd, 1, 0, 0, 0, 0), some (.iaload, 1, 0, 0, 0, 0), some (.ireturn, 1, 0, 0, 0, 0)]]
/-- 106: PurseTrace.part(III)I -/
noncomputable def am_o106 : List (List (Option am_Op)) := [[some (.aload_n 0, 1, 0, 0, 0, 0), some (.iload_n 1, 1, 0, 0, 0, 0), some (.invokevirtual 108, 3, 127, 2, 11, 671), none, none, some (.ifCond .eq 16, 3, 0, 0, 0, 0), none, none, some (.iload_n 2, 1, 0, 0, 0, 0), some (.ifCond .lt 12, 3, 0, 0, 0, 0), none, none, some (.iload_n 3, 1, 0, 0, 0, 0), some (.ifCond .lt 8, 3, 0, 0, 0, 0), none, none],
  [some (.iload_n 3, 1, 0, 0, 0, 0), some (.iconst 1, 1, 0, 0, 0, 0), some (.if_icmp .le 5, 3, 0, 0, 0, 0), none, none, some (.iconst (-1), 1, 0, 0, 0, 0), some (.ireturn, 1, 0, 0, 0, 0), some (.aload_n 0, 1, 0, 0, 0, 0), some (.getfield 58, 3, 11, 6, 0, 606), none, none, some (.aload_n 0, 1, 0, 0, 0, 0), some (.getfield 91, 3, 11, 10, 0, 610), none, none, some (.aload_n 0, 1, 0, 0, 0, 0)],
  [some (.getfield 91, 3, 11, 10, 0, 610), none, none, some (.invokevirtual 160, 3, 32, 3, 6, 835), none, none, some (.aload_n 0, 1, 0, 0, 0, 0), some (.getfield 58, 3, 11, 6, 0, 606), none, none, some (.getfield 164, 3, 6, 4, 0, 437), none, none, some (.iload_n 1, 1, 0, 0, 0, 0), some (.iload_n 2, 1, 0, 0, 0, 0), some (.invokevirtual 179, 3, 87, 3, 9, 993)],
  [none, none, some (.istore 4, 2, 0, 0, 0, 0), none, some (.iload 4, 2, 0, 0, 0, 0), none, some (.iconst (-1), 1, 0, 0, 0, 0), some (.if_icmp .ne 5, 3, 0, 0, 0, 0), none, none, some (.iconst (-1), 1, 0, 0, 0, 0), some (.ireturn, 1, 0, 0, 0, 0), some (.iload_n 3, 1, 0, 0, 0, 0), some (.ifCond .ne 19, 3, 0, 0, 0, 0), none, none],
  [some (.aload_n 0, 1, 0, 0, 0, 0), some (.getfield 58, 3, 11, 6, 0, 606), none, none, some (.getfield 164, 3, 6, 4, 0, 437), none, none, some (.getfield 182, 3, 9, 1, 0, 381), none, none, some (.iload 4, 2, 0, 0, 0, 0), none, some (.iaload, 1, 0, 0, 0, 0), some (.goto 16, 3, 0, 0, 0, 0), none, none],
  [some (.aload_n 0, 1, 0, 0, 0, 0), some (.getfield 58, 3, 11, 6, 0, 606), none, none, some (.getfield 164, 3, 6, 4, 0, 437), none, none, some (.getfield 185, 3, 9, 2, 0, 383), none, none, some (.iload 4, 2, 0, 0, 0, 0), none, some (.iaload, 1, 0, 0, 0, 0), some (.ireturn, 1, 0, 0, 0, 0)]]
/-- 107: PurseTrace.took(III)I -/
noncomputable def am_o107 : List (List (Option am_Op)) := [[some (.aload_n 0, 1, 0, 0, 0, 0), some (.iload_n 1, 1, 0, 0, 0, 0), some (.invokevirtual 129, 3, 129, 2, 11, 715), none, none, some (.ifCond .eq 18, 3, 0, 0, 0, 0), none, none, some (.aload_n 0, 1, 0, 0, 0, 0), some (.iload_n 2, 1, 0, 0, 0, 0), some (.invokevirtual 98, 3, 125, 2, 11, 655), none, none, some (.ifCond .eq 10, 3, 0, 0, 0, 0), none, none],
  [some (.iload_n 3, 1, 0, 0, 0, 0), some (.invokestatic 87, 3, 130, 1, 1, 644), none, none, some (.ifCond .ne 5, 3, 0, 0, 0, 0), none, none, some (.iconst (-1), 1, 0, 0, 0, 0), some (.ireturn, 1, 0, 0, 0, 0), some (.aload_n 0, 1, 0, 0, 0, 0), some (.getfield 58, 3, 11, 6, 0, 606), none, none, some (.iload_n 1, 1, 0, 0, 0, 0), some (.iload_n 3, 1, 0, 0, 0, 0), some (.invokevirtual 188, 3, 33, 3, 6, 1001)],
  [none, none, some (.ifCond .ne 6, 3, 0, 0, 0, 0), none, none, some (.bipush (-3), 2, 0, 0, 0, 0), none, some (.ireturn, 1, 0, 0, 0, 0), some (.aload_n 0, 1, 0, 0, 0, 0), some (.getfield 58, 3, 11, 6, 0, 606), none, none, some (.getfield 192, 3, 6, 13, 0, 455), none, none, some (.ifCond .eq 8, 3, 0, 0, 0, 0)],
  [none, none, some (.bipush (-2), 2, 0, 0, 0, 0), none, some (.goto 15, 3, 0, 0, 0, 0), none, none, some (.aload_n 0, 1, 0, 0, 0, 0), some (.getfield 58, 3, 11, 6, 0, 606), none, none, some (.getfield 164, 3, 6, 4, 0, 437), none, none, some (.getfield 196, 3, 9, 10, 0, 399), none],
  [none, some (.iload_n 2, 1, 0, 0, 0, 0), some (.iaload, 1, 0, 0, 0, 0), some (.ireturn, 1, 0, 0, 0, 0)]]
/-- 108: PurseTrace.way(II)I -/
noncomputable def am_o108 : List (List (Option am_Op)) := [[some (.aload_n 0, 1, 0, 0, 0, 0), some (.iload_n 1, 1, 0, 0, 0, 0), some (.invokevirtual 129, 3, 129, 2, 11, 715), none, none, some (.ifCond .eq 10, 3, 0, 0, 0, 0), none, none, some (.iload_n 2, 1, 0, 0, 0, 0), some (.invokestatic 87, 3, 130, 1, 1, 644), none, none, some (.ifCond .ne 5, 3, 0, 0, 0, 0), none, none, some (.iconst (-1), 1, 0, 0, 0, 0)],
  [some (.ireturn, 1, 0, 0, 0, 0), some (.aload_n 0, 1, 0, 0, 0, 0), some (.getfield 26, 3, 11, 2, 0, 602), none, none, some (.iload_n 1, 1, 0, 0, 0, 0), some (.invokevirtual 199, 3, 22, 2, 3, 1009), none, none, some (.ifCond .eq 15, 3, 0, 0, 0, 0), none, none, some (.aload_n 0, 1, 0, 0, 0, 0), some (.getfield 58, 3, 11, 6, 0, 606), none, none],
  [some (.iload_n 1, 1, 0, 0, 0, 0), some (.iload_n 2, 1, 0, 0, 0, 0), some (.invokevirtual 188, 3, 33, 3, 6, 1001), none, none, some (.ifCond .ne 6, 3, 0, 0, 0, 0), none, none, some (.bipush (-3), 2, 0, 0, 0, 0), none, some (.ireturn, 1, 0, 0, 0, 0), some (.aload_n 0, 1, 0, 0, 0, 0), some (.getfield 58, 3, 11, 6, 0, 606), none, none, some (.getfield 202, 3, 6, 10, 0, 451)],
  [none, none, some (.ireturn, 1, 0, 0, 0, 0)]]
/-- 109: PurseTrace.fails(I)I -/
noncomputable def am_o109 : List (List (Option am_Op)) := [[some (.iload_n 1, 1, 0, 0, 0, 0), some (.invokestatic 87, 3, 130, 1, 1, 644), none, none, some (.ifCond .ne 5, 3, 0, 0, 0, 0), none, none, some (.iconst (-1), 1, 0, 0, 0, 0), some (.ireturn, 1, 0, 0, 0, 0), some (.aload_n 0, 1, 0, 0, 0, 0), some (.getfield 58, 3, 11, 6, 0, 606), none, none, some (.sipush 3999, 3, 0, 0, 0, 0), none, none],
  [some (.iload_n 1, 1, 0, 0, 0, 0), some (.invokevirtual 160, 3, 32, 3, 6, 835), none, none, some (.aload_n 0, 1, 0, 0, 0, 0), some (.getfield 58, 3, 11, 6, 0, 606), none, none, some (.getfield 205, 3, 6, 14, 0, 457), none, none, some (.ireturn, 1, 0, 0, 0, 0)]]
/-- 110: PurseTrace.sure(IIII)I -/
noncomputable def am_o110 : List (List (Option am_Op)) := [[some (.aload_n 0, 1, 0, 0, 0, 0), some (.iload_n 1, 1, 0, 0, 0, 0), some (.invokevirtual 108, 3, 127, 2, 11, 671), none, none, some (.ifCond .eq 29, 3, 0, 0, 0, 0), none, none, some (.aload_n 0, 1, 0, 0, 0, 0), some (.iload_n 2, 1, 0, 0, 0, 0), some (.invokevirtual 98, 3, 125, 2, 11, 655), none, none, some (.ifCond .eq 21, 3, 0, 0, 0, 0), none, none],
  [some (.iload_n 3, 1, 0, 0, 0, 0), some (.invokestatic 87, 3, 130, 1, 1, 644), none, none, some (.ifCond .eq 14, 3, 0, 0, 0, 0), none, none, some (.iload 4, 2, 0, 0, 0, 0), none, some (.ifCond .lt 9, 3, 0, 0, 0, 0), none, none, some (.iload 4, 2, 0, 0, 0, 0), none, some (.iconst 2, 1, 0, 0, 0, 0), some (.if_icmp .le 5, 3, 0, 0, 0, 0)],
  [none, none, some (.iconst (-1), 1, 0, 0, 0, 0), some (.ireturn, 1, 0, 0, 0, 0), some (.aload_n 0, 1, 0, 0, 0, 0), some (.getfield 67, 3, 11, 7, 0, 607), none, none, some (.iload_n 1, 1, 0, 0, 0, 0), some (.iload_n 2, 1, 0, 0, 0, 0), some (.iload_n 3, 1, 0, 0, 0, 0), some (.aload_n 0, 1, 0, 0, 0, 0), some (.getfield 91, 3, 11, 10, 0, 610), none, none, some (.invokevirtual 208, 3, 23, 5, 4, 1018)],
  [none, none, some (.ifCond .ne 5, 3, 0, 0, 0, 0), none, none, some (.iconst (-1), 1, 0, 0, 0, 0), some (.ireturn, 1, 0, 0, 0, 0), some (.iload 4, 2, 0, 0, 0, 0), none, some (.ifCond .ne 11, 3, 0, 0, 0, 0), none, none, some (.aload_n 0, 1, 0, 0, 0, 0), some (.getfield 67, 3, 11, 7, 0, 607), none, none],
  [some (.getfield 211, 3, 4, 4, 0, 506), none, none, some (.ireturn, 1, 0, 0, 0, 0), some (.iload 4, 2, 0, 0, 0, 0), none, some (.iconst 1, 1, 0, 0, 0, 0), some (.if_icmp .ne 13, 3, 0, 0, 0, 0), none, none, some (.aload_n 0, 1, 0, 0, 0, 0), some (.getfield 67, 3, 11, 7, 0, 607), none, none, some (.getfield 214, 3, 4, 5, 0, 508), none],
  [none, some (.goto 10, 3, 0, 0, 0, 0), none, none, some (.aload_n 0, 1, 0, 0, 0, 0), some (.getfield 67, 3, 11, 7, 0, 607), none, none, some (.getfield 217, 3, 4, 6, 0, 510), none, none, some (.ireturn, 1, 0, 0, 0, 0)]]
/-- 111: PurseTrace.beside(IIII)I -/
noncomputable def am_o111 : List (List (Option am_Op)) := [[some (.aload_n 0, 1, 0, 0, 0, 0), some (.iload_n 1, 1, 0, 0, 0, 0), some (.invokevirtual 108, 3, 127, 2, 11, 671), none, none, some (.ifCond .eq 27, 3, 0, 0, 0, 0), none, none, some (.aload_n 0, 1, 0, 0, 0, 0), some (.iload_n 2, 1, 0, 0, 0, 0), some (.invokevirtual 98, 3, 125, 2, 11, 655), none, none, some (.ifCond .eq 19, 3, 0, 0, 0, 0), none, none],
  [some (.aload_n 0, 1, 0, 0, 0, 0), some (.iload_n 3, 1, 0, 0, 0, 0), some (.invokevirtual 108, 3, 127, 2, 11, 671), none, none, some (.ifCond .eq 11, 3, 0, 0, 0, 0), none, none, some (.iload 4, 2, 0, 0, 0, 0), none, some (.invokestatic 220, 3, 132, 1, 1, 1072), none, none, some (.ifCond .ne 5, 3, 0, 0, 0, 0), none, none],
  [some (.iconst (-1), 1, 0, 0, 0, 0), some (.ireturn, 1, 0, 0, 0, 0), some (.aload_n 0, 1, 0, 0, 0, 0), some (.getfield 58, 3, 11, 6, 0, 606), none, none, some (.aload_n 0, 1, 0, 0, 0, 0), some (.getfield 91, 3, 11, 10, 0, 610), none, none, some (.aload_n 0, 1, 0, 0, 0, 0), some (.getfield 91, 3, 11, 10, 0, 610), none, none, some (.invokevirtual 223, 3, 31, 3, 6, 1075), none],
  [none, some (.aload_n 0, 1, 0, 0, 0, 0), some (.getfield 58, 3, 11, 6, 0, 606), none, none, some (.getfield 226, 3, 6, 8, 0, 448), none, none, some (.iload_n 3, 1, 0, 0, 0, 0), some (.iload 4, 2, 0, 0, 0, 0), none, some (.iastore, 1, 0, 0, 0, 0), some (.aload_n 0, 1, 0, 0, 0, 0), some (.getfield 58, 3, 11, 6, 0, 606), none, none],
  [some (.getfield 164, 3, 6, 4, 0, 437), none, none, some (.invokevirtual 229, 3, 73, 1, 9, 1076), none, none, some (.aload_n 0, 1, 0, 0, 0, 0), some (.getfield 58, 3, 11, 6, 0, 606), none, none, some (.iconst 0, 1, 0, 0, 0, 0), some (.aload_n 0, 1, 0, 0, 0, 0), some (.getfield 58, 3, 11, 6, 0, 606), none, none, some (.getfield 232, 3, 6, 7, 0, 445)],
  [none, none, some (.invokevirtual 235, 3, 36, 3, 6, 1077), none, none, some (.aload_n 0, 1, 0, 0, 0, 0), some (.getfield 58, 3, 11, 6, 0, 606), none, none, some (.getfield 164, 3, 6, 4, 0, 437), none, none, some (.iload_n 1, 1, 0, 0, 0, 0), some (.iload_n 2, 1, 0, 0, 0, 0), some (.invokevirtual 168, 3, 85, 3, 9, 976), none],
  [none, some (.ireturn, 1, 0, 0, 0, 0)]]
/-- 112: PurseTrace.choose(II)Z -/
noncomputable def am_o112 : List (List (Option am_Op)) := [[some (.aload_n 0, 1, 0, 0, 0, 0), some (.iload_n 1, 1, 0, 0, 0, 0), some (.invokevirtual 108, 3, 127, 2, 11, 671), none, none, some (.ifCond .eq 13, 3, 0, 0, 0, 0), none, none, some (.iload_n 2, 1, 0, 0, 0, 0), some (.ifCond .lt 9, 3, 0, 0, 0, 0), none, none, some (.iload_n 2, 1, 0, 0, 0, 0), some (.bipush 32, 2, 0, 0, 0, 0), none, some (.if_icmp .lt 5, 3, 0, 0, 0, 0)],
  [none, none, some (.iconst 0, 1, 0, 0, 0, 0), some (.ireturn, 1, 1, 0, 0, 0), some (.aload_n 0, 1, 0, 0, 0, 0), some (.getfield 76, 3, 11, 8, 0, 608), none, none, some (.iload_n 1, 1, 0, 0, 0, 0), some (.iload_n 2, 1, 0, 0, 0, 0), some (.invokevirtual 238, 3, 1, 3, 0, 1082), none, none, some (.ireturn, 1, 1, 0, 0, 0)]]
/-- 113: PurseTrace.bar(IIII)Z -/
noncomputable def am_o113 : List (List (Option am_Op)) := [[some (.aload_n 0, 1, 0, 0, 0, 0), some (.iload_n 1, 1, 0, 0, 0, 0), some (.invokevirtual 108, 3, 127, 2, 11, 671), none, none, some (.ifCond .eq 31, 3, 0, 0, 0, 0), none, none, some (.iload_n 2, 1, 0, 0, 0, 0), some (.invokestatic 220, 3, 132, 1, 1, 1072), none, none, some (.ifCond .eq 24, 3, 0, 0, 0, 0), none, none, some (.aload_n 0, 1, 0, 0, 0, 0)],
  [some (.iload_n 3, 1, 0, 0, 0, 0), some (.invokevirtual 108, 3, 127, 2, 11, 671), none, none, some (.ifCond .eq 16, 3, 0, 0, 0, 0), none, none, some (.iload 4, 2, 0, 0, 0, 0), none, some (.invokestatic 220, 3, 132, 1, 1, 1072), none, none, some (.ifCond .eq 8, 3, 0, 0, 0, 0), none, none, some (.iload_n 1, 1, 0, 0, 0, 0)],
  [some (.iload_n 3, 1, 0, 0, 0, 0), some (.if_icmp .ne 5, 3, 0, 0, 0, 0), none, none, some (.iconst 0, 1, 0, 0, 0, 0), some (.ireturn, 1, 1, 0, 0, 0), some (.aload_n 0, 1, 0, 0, 0, 0), some (.getfield 76, 3, 11, 8, 0, 608), none, none, some (.iload_n 1, 1, 0, 0, 0, 0), some (.iconst 5, 1, 0, 0, 0, 0), some (.imul, 1, 0, 0, 0, 0), some (.iload_n 2, 1, 0, 0, 0, 0), some (.iadd, 1, 0, 0, 0, 0), some (.iload_n 3, 1, 0, 0, 0, 0)],
  [some (.iconst 5, 1, 0, 0, 0, 0), some (.imul, 1, 0, 0, 0, 0), some (.iload 4, 2, 0, 0, 0, 0), none, some (.iadd, 1, 0, 0, 0, 0), some (.invokevirtual 241, 3, 2, 3, 0, 1090), none, none, some (.ireturn, 1, 1, 0, 0, 0)]]
/-- 114: PurseTrace.best(I)I -/
noncomputable def am_o114 : List (List (Option am_Op)) := [[some (.aload_n 0, 1, 0, 0, 0, 0), some (.iload_n 1, 1, 0, 0, 0, 0), some (.invokevirtual 98, 3, 125, 2, 11, 655), none, none, some (.ifCond .ne 5, 3, 0, 0, 0, 0), none, none, some (.iconst (-1), 1, 0, 0, 0, 0), some (.ireturn, 1, 0, 0, 0, 0), some (.aload_n 0, 1, 0, 0, 0, 0), some (.getfield 76, 3, 11, 8, 0, 608), none, none, some (.iload_n 1, 1, 0, 0, 0, 0), some (.aload_n 0, 1, 0, 0, 0, 0)],
  [some (.getfield 91, 3, 11, 10, 0, 610), none, none, some (.invokevirtual 244, 3, 7, 3, 0, 1102), none, none, some (.aload_n 0, 1, 0, 0, 0, 0), some (.getfield 76, 3, 11, 8, 0, 608), none, none, some (.getfield 247, 3, 0, 10, 0, 545), none, none, some (.ireturn, 1, 0, 0, 0, 0)]]
/-- 115: PurseTrace.chosen(II)I -/
noncomputable def am_o115 : List (List (Option am_Op)) := [[some (.aload_n 0, 1, 0, 0, 0, 0), some (.iload_n 1, 1, 0, 0, 0, 0), some (.invokevirtual 98, 3, 125, 2, 11, 655), none, none, some (.ifCond .eq 18, 3, 0, 0, 0, 0), none, none, some (.iload_n 2, 1, 0, 0, 0, 0), some (.ifCond .lt 14, 3, 0, 0, 0, 0), none, none, some (.iload_n 2, 1, 0, 0, 0, 0), some (.aload_n 0, 1, 0, 0, 0, 0), some (.getfield 76, 3, 11, 8, 0, 608), none],
  [none, some (.getfield 250, 3, 0, 4, 0, 537), none, none, some (.if_icmp .lt 5, 3, 0, 0, 0, 0), none, none, some (.iconst (-1), 1, 0, 0, 0, 0), some (.ireturn, 1, 0, 0, 0, 0), some (.aload_n 0, 1, 0, 0, 0, 0), some (.getfield 76, 3, 11, 8, 0, 608), none, none, some (.iload_n 1, 1, 0, 0, 0, 0), some (.aload_n 0, 1, 0, 0, 0, 0), some (.getfield 91, 3, 11, 10, 0, 610)],
  [none, none, some (.invokevirtual 244, 3, 7, 3, 0, 1102), none, none, some (.aload_n 0, 1, 0, 0, 0, 0), some (.getfield 76, 3, 11, 8, 0, 608), none, none, some (.getfield 247, 3, 0, 10, 0, 545), none, none, some (.iconst (-1), 1, 0, 0, 0, 0), some (.if_icmp .ne 7, 3, 0, 0, 0, 0), none, none],
  [some (.iconst (-1), 1, 0, 0, 0, 0), some (.goto 12, 3, 0, 0, 0, 0), none, none, some (.aload_n 0, 1, 0, 0, 0, 0), some (.getfield 76, 3, 11, 8, 0, 608), none, none, some (.getfield 253, 3, 0, 11, 0, 547), none, none, some (.iload_n 2, 1, 0, 0, 0, 0), some (.iaload, 1, 0, 0, 0, 0), some (.ireturn, 1, 0, 0, 0, 0)]]
/-- 116: PurseTrace.judge(II)I -/
noncomputable def am_o116 : List (List (Option am_Op)) := [[some (.aload_n 0, 1, 0, 0, 0, 0), some (.iload_n 1, 1, 0, 0, 0, 0), some (.invokevirtual 98, 3, 125, 2, 11, 655), none, none, some (.ifCond .eq 18, 3, 0, 0, 0, 0), none, none, some (.iload_n 2, 1, 0, 0, 0, 0), some (.ifCond .lt 14, 3, 0, 0, 0, 0), none, none, some (.iload_n 2, 1, 0, 0, 0, 0), some (.aload_n 0, 1, 0, 0, 0, 0), some (.getfield 76, 3, 11, 8, 0, 608), none],
  [none, some (.invokevirtual 256, 3, 4, 1, 0, 1150), none, none, some (.if_icmp .lt 5, 3, 0, 0, 0, 0), none, none, some (.iconst (-1), 1, 0, 0, 0, 0), some (.ireturn, 1, 0, 0, 0, 0), some (.aload_n 0, 1, 0, 0, 0, 0), some (.getfield 76, 3, 11, 8, 0, 608), none, none, some (.aload_n 0, 1, 0, 0, 0, 0), some (.getfield 91, 3, 11, 10, 0, 610), none],
  [none, some (.invokevirtual 260, 3, 5, 2, 0, 1151), none, none, some (.aload_n 0, 1, 0, 0, 0, 0), some (.getfield 76, 3, 11, 8, 0, 608), none, none, some (.iload_n 2, 1, 0, 0, 0, 0), some (.invokevirtual 263, 3, 8, 2, 0, 1152), none, none, some (.aload_n 0, 1, 0, 0, 0, 0), some (.getfield 76, 3, 11, 8, 0, 608), none, none],
  [some (.invokevirtual 266, 3, 10, 1, 0, 1156), none, none, some (.ifCond .eq 14, 3, 0, 0, 0, 0), none, none, some (.aload_n 0, 1, 0, 0, 0, 0), some (.getfield 76, 3, 11, 8, 0, 608), none, none, some (.iload_n 1, 1, 0, 0, 0, 0), some (.invokevirtual 269, 3, 11, 2, 0, 1157), none, none, some (.goto 5, 3, 0, 0, 0, 0), none],
  [none, some (.bipush (-2), 2, 0, 0, 0, 0), none, some (.ireturn, 1, 0, 0, 0, 0)]]
/-- 117: PurseTrace.debt(IIII)I -/
noncomputable def am_o117 : List (List (Option am_Op)) := [[some (.aload_n 0, 1, 0, 0, 0, 0), some (.iload_n 1, 1, 0, 0, 0, 0), some (.invokevirtual 98, 3, 125, 2, 11, 655), none, none, some (.ifCond .eq 34, 3, 0, 0, 0, 0), none, none, some (.aload_n 0, 1, 0, 0, 0, 0), some (.iload_n 2, 1, 0, 0, 0, 0), some (.invokevirtual 98, 3, 125, 2, 11, 655), none, none, some (.ifCond .eq 26, 3, 0, 0, 0, 0), none, none],
  [some (.iload_n 1, 1, 0, 0, 0, 0), some (.iload_n 2, 1, 0, 0, 0, 0), some (.if_icmp .eq 21, 3, 0, 0, 0, 0), none, none, some (.iload_n 3, 1, 0, 0, 0, 0), some (.invokestatic 111, 3, 131, 1, 1, 675), none, none, some (.ifCond .eq 14, 3, 0, 0, 0, 0), none, none, some (.iload 4, 2, 0, 0, 0, 0), none, some (.ifCond .lt 9, 3, 0, 0, 0, 0), none],
  [none, some (.iload 4, 2, 0, 0, 0, 0), none, some (.iconst 4, 1, 0, 0, 0, 0), some (.if_icmp .lt 5, 3, 0, 0, 0, 0), none, none, some (.iconst (-1), 1, 0, 0, 0, 0), some (.ireturn, 1, 0, 0, 0, 0), some (.aload_n 0, 1, 0, 0, 0, 0), some (.getfield 83, 3, 11, 9, 0, 609), none, none, some (.iload_n 1, 1, 0, 0, 0, 0), some (.iload_n 3, 1, 0, 0, 0, 0), some (.iload 4, 2, 0, 0, 0, 0)],
  [none, some (.invokevirtual 272, 3, 12, 4, 1, 1162), none, none, some (.ireturn, 1, 0, 0, 0, 0)]]
/-- 118: PurseTrace.paid(I)I -/
noncomputable def am_o118 : List (List (Option am_Op)) := [[some (.iload_n 1, 1, 0, 0, 0, 0), some (.ifCond .lt 14, 3, 0, 0, 0, 0), none, none, some (.iload_n 1, 1, 0, 0, 0, 0), some (.aload_n 0, 1, 0, 0, 0, 0), some (.getfield 83, 3, 11, 9, 0, 609), none, none, some (.getfield 275, 3, 1, 3, 0, 584), none, none, some (.if_icmp .lt 5, 3, 0, 0, 0, 0), none, none, some (.iconst (-1), 1, 0, 0, 0, 0)],
  [some (.ireturn, 1, 0, 0, 0, 0), some (.aload_n 0, 1, 0, 0, 0, 0), some (.getfield 58, 3, 11, 6, 0, 606), none, none, some (.aload_n 0, 1, 0, 0, 0, 0), some (.getfield 91, 3, 11, 10, 0, 610), none, none, some (.aload_n 0, 1, 0, 0, 0, 0), some (.getfield 91, 3, 11, 10, 0, 610), none, none, some (.invokevirtual 160, 3, 32, 3, 6, 835), none, none],
  [some (.aload_n 0, 1, 0, 0, 0, 0), some (.getfield 83, 3, 11, 9, 0, 609), none, none, some (.iload_n 1, 1, 0, 0, 0, 0), some (.aload_n 0, 1, 0, 0, 0, 0), some (.getfield 58, 3, 11, 6, 0, 606), none, none, some (.aload_n 0, 1, 0, 0, 0, 0), some (.getfield 83, 3, 11, 9, 0, 609), none, none, some (.getfield 276, 3, 1, 0, 0, 580), none, none],
  [some (.iload_n 1, 1, 0, 0, 0, 0), some (.iaload, 1, 0, 0, 0, 0), some (.invokevirtual 279, 3, 45, 2, 6, 1170), none, none, some (.invokevirtual 282, 3, 13, 3, 1, 1174), none, none, some (.ireturn, 1, 0, 0, 0, 0)]]
/-- 119: PurseTrace.check(I)I -/
noncomputable def am_o119 : List (List (Option am_Op)) := [[some (.iload_n 1, 1, 0, 0, 0, 0), some (.ifCond .lt 17, 3, 0, 0, 0, 0), none, none, some (.iload_n 1, 1, 0, 0, 0, 0), some (.aload_n 0, 1, 0, 0, 0, 0), some (.getfield 10, 3, 11, 0, 0, 600), none, none, some (.getfield 144, 3, 10, 1, 0, 154), none, none, some (.bipush 12, 2, 0, 0, 0, 0), none, some (.idiv, 1, 0, 0, 0, 0), some (.if_icmp .le 6, 3, 0, 0, 0, 0)],
  [none, none, some (.bipush (-2), 2, 0, 0, 0, 0), none, some (.ireturn, 1, 0, 0, 0, 0), some (.aload_n 0, 1, 0, 0, 0, 0), some (.getfield 58, 3, 11, 6, 0, 606), none, none, some (.aload_n 0, 1, 0, 0, 0, 0), some (.getfield 91, 3, 11, 10, 0, 610), none, none, some (.aload_n 0, 1, 0, 0, 0, 0), some (.getfield 91, 3, 11, 10, 0, 610), none],
  [none, some (.invokevirtual 160, 3, 32, 3, 6, 835), none, none, some (.aload_n 0, 1, 0, 0, 0, 0), some (.iconst 3, 1, 0, 0, 0, 0), some (.iload_n 1, 1, 0, 0, 0, 0), some (.imul, 1, 0, 0, 0, 0), some (.invokevirtual 285, 3, 122, 2, 11, 1188), none, none, some (.istore_n 2, 1, 0, 0, 0, 0), some (.aload_n 0, 1, 0, 0, 0, 0), some (.getfield 10, 3, 11, 0, 0, 600), none, none],
  [some (.iconst 0, 1, 0, 0, 0, 0), some (.putfield 144, 3, 10, 1, 0, 154), none, none, some (.iload_n 2, 1, 0, 0, 0, 0), some (.ireturn, 1, 0, 0, 0, 0)]]
/-- 120: PurseTrace.look(II)I -/
noncomputable def am_o120 : List (List (Option am_Op)) := [[some (.aload_n 0, 1, 0, 0, 0, 0), some (.iload_n 1, 1, 0, 0, 0, 0), some (.invokevirtual 129, 3, 129, 2, 11, 715), none, none, some (.ifCond .ne 5, 3, 0, 0, 0, 0), none, none, some (.iconst (-1), 1, 0, 0, 0, 0), some (.ireturn, 1, 0, 0, 0, 0), some (.iload_n 2, 1, 0, 0, 0, 0), some (.tableswitch 161 0 9 #[53, 63, 73, 83, 93, 103, 113, 123, 133, 143], 53, 0, 0, 0, 0), none, none, none, none],
  [none, none, none, none, none, none, none, none, none, none, none, none, none, none, none, none],
  [none, none, none, none, none, none, none, none, none, none, none, none, none, none, none, none],
  [none, none, none, none, none, none, none, none, none, none, none, none, none, none, none, none],
  [some (.aload_n 0, 1, 0, 0, 0, 0), some (.getfield 26, 3, 11, 2, 0, 602), none, none, some (.getfield 288, 3, 3, 0, 0, 190), none, none, some (.iload_n 1, 1, 0, 0, 0, 0), some (.iaload, 1, 0, 0, 0, 0), some (.ireturn, 1, 0, 0, 0, 0), some (.aload_n 0, 1, 0, 0, 0, 0), some (.getfield 26, 3, 11, 2, 0, 602), none, none, some (.getfield 291, 3, 3, 1, 0, 194), none],
  [none, some (.iload_n 1, 1, 0, 0, 0, 0), some (.iaload, 1, 0, 0, 0, 0), some (.ireturn, 1, 0, 0, 0, 0), some (.aload_n 0, 1, 0, 0, 0, 0), some (.getfield 26, 3, 11, 2, 0, 602), none, none, some (.getfield 294, 3, 3, 2, 0, 197), none, none, some (.iload_n 1, 1, 0, 0, 0, 0), some (.iaload, 1, 0, 0, 0, 0), some (.ireturn, 1, 0, 0, 0, 0), some (.aload_n 0, 1, 0, 0, 0, 0), some (.getfield 26, 3, 11, 2, 0, 602)],
  [none, none, some (.getfield 297, 3, 3, 3, 0, 200), none, none, some (.iload_n 1, 1, 0, 0, 0, 0), some (.iaload, 1, 0, 0, 0, 0), some (.ireturn, 1, 0, 0, 0, 0), some (.aload_n 0, 1, 0, 0, 0, 0), some (.getfield 26, 3, 11, 2, 0, 602), none, none, some (.getfield 300, 3, 3, 5, 0, 207), none, none, some (.iload_n 1, 1, 0, 0, 0, 0)],
  [some (.iaload, 1, 0, 0, 0, 0), some (.ireturn, 1, 0, 0, 0, 0), some (.aload_n 0, 1, 0, 0, 0, 0), some (.getfield 26, 3, 11, 2, 0, 602), none, none, some (.getfield 303, 3, 3, 6, 0, 210), none, none, some (.iload_n 1, 1, 0, 0, 0, 0), some (.iaload, 1, 0, 0, 0, 0), some (.ireturn, 1, 0, 0, 0, 0), some (.aload_n 0, 1, 0, 0, 0, 0), some (.getfield 26, 3, 11, 2, 0, 602), none, none],
  [some (.getfield 306, 3, 3, 7, 0, 213), none, none, some (.iload_n 1, 1, 0, 0, 0, 0), some (.iaload, 1, 0, 0, 0, 0), some (.ireturn, 1, 0, 0, 0, 0), some (.aload_n 0, 1, 0, 0, 0, 0), some (.getfield 26, 3, 11, 2, 0, 602), none, none, some (.getfield 309, 3, 3, 8, 0, 215), none, none, some (.iload_n 1, 1, 0, 0, 0, 0), some (.iaload, 1, 0, 0, 0, 0), some (.ireturn, 1, 0, 0, 0, 0)],
  [some (.aload_n 0, 1, 0, 0, 0, 0), some (.getfield 26, 3, 11, 2, 0, 602), none, none, some (.getfield 132, 3, 3, 9, 0, 217), none, none, some (.iload_n 1, 1, 0, 0, 0, 0), some (.iaload, 1, 0, 0, 0, 0), some (.ireturn, 1, 0, 0, 0, 0), some (.aload_n 0, 1, 0, 0, 0, 0), some (.getfield 26, 3, 11, 2, 0, 602), none, none, some (.getfield 312, 3, 3, 4, 0, 203), none],
  [none, some (.iload_n 1, 1, 0, 0, 0, 0), some (.baload, 1, 0, 0, 0, 0), some (.ifCond .eq 7, 3, 0, 0, 0, 0), none, none, some (.iconst 1, 1, 0, 0, 0, 0), some (.goto 4, 3, 0, 0, 0, 0), none, none, some (.iconst 0, 1, 0, 0, 0, 0), some (.ireturn, 1, 0, 0, 0, 0), some (.iconst (-1), 1, 0, 0, 0, 0), some (.ireturn, 1, 0, 0, 0, 0)]]
/-- 121: PurseTrace.count(I)I -/
noncomputable def am_o121 : List (List (Option am_Op)) := [[some (.iload_n 1, 1, 0, 0, 0, 0), some (.tableswitch 138 0 10 #[59, 64, 69, 77, 82, 90, 98, 106, 114, 122, 130], 59, 0, 0, 0, 0), none, none, none, none, none, none, none, none, none, none, none, none, none, none],
  [none, none, none, none, none, none, none, none, none, none, none, none, none, none, none, none],
  [none, none, none, none, none, none, none, none, none, none, none, none, none, none, none, none],
  [none, none, none, none, none, none, none, none, none, none, none, none, some (.aload_n 0, 1, 0, 0, 0, 0), some (.getfield 91, 3, 11, 10, 0, 610), none, none],
  [some (.ireturn, 1, 0, 0, 0, 0), some (.aload_n 0, 1, 0, 0, 0, 0), some (.getfield 95, 3, 11, 11, 0, 611), none, none, some (.ireturn, 1, 0, 0, 0, 0), some (.aload_n 0, 1, 0, 0, 0, 0), some (.getfield 19, 3, 11, 1, 0, 601), none, none, some (.getfield 316, 3, 5, 2, 0, 174), none, none, some (.ireturn, 1, 0, 0, 0, 0), some (.aload_n 0, 1, 0, 0, 0, 0), some (.getfield 105, 3, 11, 12, 0, 612)],
  [none, none, some (.ireturn, 1, 0, 0, 0, 0), some (.aload_n 0, 1, 0, 0, 0, 0), some (.getfield 26, 3, 11, 2, 0, 602), none, none, some (.getfield 317, 3, 3, 11, 0, 222), none, none, some (.ireturn, 1, 0, 0, 0, 0), some (.aload_n 0, 1, 0, 0, 0, 0), some (.getfield 40, 3, 11, 4, 0, 604), none, none, some (.getfield 147, 3, 7, 14, 0, 303)],
  [none, none, some (.ireturn, 1, 0, 0, 0, 0), some (.aload_n 0, 1, 0, 0, 0, 0), some (.getfield 33, 3, 11, 3, 0, 603), none, none, some (.getfield 318, 3, 2, 4, 0, 260), none, none, some (.ireturn, 1, 0, 0, 0, 0), some (.aload_n 0, 1, 0, 0, 0, 0), some (.getfield 83, 3, 11, 9, 0, 609), none, none, some (.getfield 275, 3, 1, 3, 0, 584)],
  [none, none, some (.ireturn, 1, 0, 0, 0, 0), some (.aload_n 0, 1, 0, 0, 0, 0), some (.getfield 10, 3, 11, 0, 0, 600), none, none, some (.getfield 144, 3, 10, 1, 0, 154), none, none, some (.ireturn, 1, 0, 0, 0, 0), some (.aload_n 0, 1, 0, 0, 0, 0), some (.getfield 76, 3, 11, 8, 0, 608), none, none, some (.getfield 250, 3, 0, 4, 0, 537)],
  [none, none, some (.ireturn, 1, 0, 0, 0, 0), some (.aload_n 0, 1, 0, 0, 0, 0), some (.getfield 76, 3, 11, 8, 0, 608), none, none, some (.getfield 319, 3, 0, 6, 0, 540), none, none, some (.ireturn, 1, 0, 0, 0, 0), some (.aload_n 0, 1, 0, 0, 0, 0), some (.getfield 40, 3, 11, 4, 0, 604), none, none, some (.iload_n 1, 1, 0, 0, 0, 0)],
  [some (.invokevirtual 322, 3, 48, 2, 7, 1208), none, none, some (.ireturn, 1, 0, 0, 0, 0)]]
/-- 122: PurseTrace.firstWrong(I)I -/
noncomputable def am_o122 : List (List (Option am_Op)) := [[some (.iconst 0, 1, 0, 0, 0, 0), some (.istore_n 2, 1, 0, 0, 0, 0), some (.iconst 0, 1, 0, 0, 0, 0), some (.istore_n 3, 1, 0, 0, 0, 0), some (.iload_n 3, 1, 0, 0, 0, 0), some (.aload_n 0, 1, 0, 0, 0, 0), some (.getfield 19, 3, 11, 1, 0, 601), none, none, some (.getfield 316, 3, 5, 2, 0, 174), none, none, some (.if_icmp .ge 87, 3, 0, 0, 0, 0), none, none, some (.iconst 0, 1, 0, 0, 0, 0)],
  [some (.istore 4, 2, 0, 0, 0, 0), none, some (.iload 4, 2, 0, 0, 0, 0), none, some (.aload_n 0, 1, 0, 0, 0, 0), some (.getfield 95, 3, 11, 11, 0, 611), none, none, some (.if_icmp .ge 69, 3, 0, 0, 0, 0), none, none, some (.aload_n 0, 1, 0, 0, 0, 0), some (.getfield 58, 3, 11, 6, 0, 606), none, none, some (.getfield 164, 3, 6, 4, 0, 437)],
  [none, none, some (.iload_n 3, 1, 0, 0, 0, 0), some (.iload 4, 2, 0, 0, 0, 0), none, some (.invokevirtual 168, 3, 85, 3, 9, 976), none, none, some (.istore 5, 2, 0, 0, 0, 0), none, some (.iload 5, 2, 0, 0, 0, 0), none, some (.ifCond .le 43, 3, 0, 0, 0, 0), none, none, some (.aload_n 0, 1, 0, 0, 0, 0)],
  [some (.iload_n 2, 1, 0, 0, 0, 0), some (.iload_n 3, 1, 0, 0, 0, 0), some (.iload 4, 2, 0, 0, 0, 0), none, some (.iload 5, 2, 0, 0, 0, 0), none, some (.invokevirtual 325, 3, 123, 5, 11, 1192), none, none, some (.istore 6, 2, 0, 0, 0, 0), none, some (.iload_n 2, 1, 0, 0, 0, 0), some (.iload_n 1, 1, 0, 0, 0, 0), some (.if_icmp .ge 9, 3, 0, 0, 0, 0), none, none],
  [some (.iload 6, 2, 0, 0, 0, 0), none, some (.iconst 3, 1, 0, 0, 0, 0), some (.if_icmp .ge 17, 3, 0, 0, 0, 0), none, none, some (.iload_n 2, 1, 0, 0, 0, 0), some (.iload_n 1, 1, 0, 0, 0, 0), some (.if_icmp .lt 7, 3, 0, 0, 0, 0), none, none, some (.iload_n 1, 1, 0, 0, 0, 0), some (.goto 7, 3, 0, 0, 0, 0), none, none, some (.iload_n 2, 1, 0, 0, 0, 0)],
  [some (.iload 6, 2, 0, 0, 0, 0), none, some (.iadd, 1, 0, 0, 0, 0), some (.ireturn, 1, 0, 0, 0, 0), some (.iinc 2 3, 3, 0, 0, 0, 0), none, none, some (.iinc 4 1, 3, 0, 0, 0, 0), none, none, some (.goto (-72), 3, 0, 0, 0, 0), none, none, some (.iinc 3 1, 3, 0, 0, 0, 0), none, none],
  [some (.goto (-92), 3, 0, 0, 0, 0), none, none, some (.iload_n 2, 1, 0, 0, 0, 0), some (.iload_n 1, 1, 0, 0, 0, 0), some (.if_icmp .ge 7, 3, 0, 0, 0, 0), none, none, some (.iload_n 2, 1, 0, 0, 0, 0), some (.goto 4, 3, 0, 0, 0, 0), none, none, some (.iconst (-1), 1, 0, 0, 0, 0), some (.ireturn, 1, 0, 0, 0, 0)]]
/-- 123: PurseTrace.wrongInThree(IIII)I -/
noncomputable def am_o123 : List (List (Option am_Op)) := [[some (.aload_n 0, 1, 0, 0, 0, 0), some (.getfield 10, 3, 11, 0, 0, 600), none, none, some (.iload_n 1, 1, 0, 0, 0, 0), some (.invokevirtual 328, 3, 91, 2, 10, 1196), none, none, some (.iload_n 2, 1, 0, 0, 0, 0), some (.if_icmp .eq 5, 3, 0, 0, 0, 0), none, none, some (.iconst 0, 1, 0, 0, 0, 0), some (.ireturn, 1, 0, 0, 0, 0), some (.aload_n 0, 1, 0, 0, 0, 0), some (.getfield 10, 3, 11, 0, 0, 600)],
  [none, none, some (.iload_n 1, 1, 0, 0, 0, 0), some (.iconst 1, 1, 0, 0, 0, 0), some (.iadd, 1, 0, 0, 0, 0), some (.invokevirtual 328, 3, 91, 2, 10, 1196), none, none, some (.iload_n 3, 1, 0, 0, 0, 0), some (.if_icmp .eq 5, 3, 0, 0, 0, 0), none, none, some (.iconst 1, 1, 0, 0, 0, 0), some (.ireturn, 1, 0, 0, 0, 0), some (.aload_n 0, 1, 0, 0, 0, 0), some (.getfield 10, 3, 11, 0, 0, 600)],
  [none, none, some (.iload_n 1, 1, 0, 0, 0, 0), some (.iconst 2, 1, 0, 0, 0, 0), some (.iadd, 1, 0, 0, 0, 0), some (.invokevirtual 328, 3, 91, 2, 10, 1196), none, none, some (.iload 4, 2, 0, 0, 0, 0), none, some (.if_icmp .eq 7, 3, 0, 0, 0, 0), none, none, some (.iconst 2, 1, 0, 0, 0, 0), some (.goto 4, 3, 0, 0, 0, 0), none],
  [none, some (.iconst 3, 1, 0, 0, 0, 0), some (.ireturn, 1, 0, 0, 0, 0)]]
/-- 124: PurseTrace.mayDate(III)Z -/
noncomputable def am_o124 : List (List (Option am_Op)) := [[some (.iload_n 2, 1, 0, 0, 0, 0), some (.ifCond .lt 18, 3, 0, 0, 0, 0), none, none, some (.iload_n 2, 1, 0, 0, 0, 0), some (.iload_n 3, 1, 0, 0, 0, 0), some (.if_icmp .gt 13, 3, 0, 0, 0, 0), none, none, some (.iload_n 3, 1, 0, 0, 0, 0), some (.bipush 23, 2, 0, 0, 0, 0), none, some (.if_icmp .gt 7, 3, 0, 0, 0, 0), none, none, some (.iconst 1, 1, 0, 0, 0, 0)],
  [some (.goto 4, 3, 0, 0, 0, 0), none, none, some (.iconst 0, 1, 0, 0, 0, 0), some (.istore 4, 2, 0, 0, 0, 0), none, some (.iload_n 1, 1, 0, 0, 0, 0), some (.invokestatic 87, 3, 130, 1, 1, 644), none, none, some (.ifCond .eq 32, 3, 0, 0, 0, 0), none, none, some (.iload_n 1, 1, 0, 0, 0, 0), some (.aload_n 0, 1, 0, 0, 0, 0), some (.getfield 91, 3, 11, 10, 0, 610)],
  [none, none, some (.if_icmp .gt 24, 3, 0, 0, 0, 0), none, none, some (.iload 4, 2, 0, 0, 0, 0), none, some (.ifCond .eq 19, 3, 0, 0, 0, 0), none, none, some (.aload_n 0, 1, 0, 0, 0, 0), some (.getfield 26, 3, 11, 2, 0, 602), none, none, some (.getfield 317, 3, 3, 11, 0, 222), none],
  [none, some (.bipush 100, 2, 0, 0, 0, 0), none, some (.if_icmp .ge 7, 3, 0, 0, 0, 0), none, none, some (.iconst 1, 1, 0, 0, 0, 0), some (.goto 4, 3, 0, 0, 0, 0), none, none, some (.iconst 0, 1, 0, 0, 0, 0), some (.ireturn, 1, 1, 0, 0, 0)]]
/-- 125: PurseTrace.isPerson(I)Z -/
noncomputable def am_o125 : List (List (Option am_Op)) := [[some (.iload_n 1, 1, 0, 0, 0, 0), some (.ifCond .lt 15, 3, 0, 0, 0, 0), none, none, some (.iload_n 1, 1, 0, 0, 0, 0), some (.aload_n 0, 1, 0, 0, 0, 0), some (.getfield 95, 3, 11, 11, 0, 611), none, none, some (.if_icmp .ge 7, 3, 0, 0, 0, 0), none, none, some (.iconst 1, 1, 0, 0, 0, 0), some (.goto 4, 3, 0, 0, 0, 0), none, none],
  [some (.iconst 0, 1, 0, 0, 0, 0), some (.ireturn, 1, 1, 0, 0, 0)]]
/-- 126: PurseTrace.isPersonOrAll(I)Z -/
noncomputable def am_o126 : List (List (Option am_Op)) := [[some (.iload_n 1, 1, 0, 0, 0, 0), some (.iconst (-1), 1, 0, 0, 0, 0), some (.if_icmp .eq 11, 3, 0, 0, 0, 0), none, none, some (.aload_n 0, 1, 0, 0, 0, 0), some (.iload_n 1, 1, 0, 0, 0, 0), some (.invokevirtual 98, 3, 125, 2, 11, 655), none, none, some (.ifCond .eq 7, 3, 0, 0, 0, 0), none, none, some (.iconst 1, 1, 0, 0, 0, 0), some (.goto 4, 3, 0, 0, 0, 0), none],
  [none, some (.iconst 0, 1, 0, 0, 0, 0), some (.ireturn, 1, 1, 0, 0, 0)]]
/-- 127: PurseTrace.isPurse(I)Z -/
noncomputable def am_o127 : List (List (Option am_Op)) := [[some (.iload_n 1, 1, 0, 0, 0, 0), some (.ifCond .lt 18, 3, 0, 0, 0, 0), none, none, some (.iload_n 1, 1, 0, 0, 0, 0), some (.aload_n 0, 1, 0, 0, 0, 0), some (.getfield 19, 3, 11, 1, 0, 601), none, none, some (.getfield 316, 3, 5, 2, 0, 174), none, none, some (.if_icmp .ge 7, 3, 0, 0, 0, 0), none, none, some (.iconst 1, 1, 0, 0, 0, 0)],
  [some (.goto 4, 3, 0, 0, 0, 0), none, none, some (.iconst 0, 1, 0, 0, 0, 0), some (.ireturn, 1, 1, 0, 0, 0)]]
/-- 128: PurseTrace.isThing(I)Z -/
noncomputable def am_o128 : List (List (Option am_Op)) := [[some (.iload_n 1, 1, 0, 0, 0, 0), some (.ifCond .lt 15, 3, 0, 0, 0, 0), none, none, some (.iload_n 1, 1, 0, 0, 0, 0), some (.aload_n 0, 1, 0, 0, 0, 0), some (.getfield 105, 3, 11, 12, 0, 612), none, none, some (.if_icmp .ge 7, 3, 0, 0, 0, 0), none, none, some (.iconst 1, 1, 0, 0, 0, 0), some (.goto 4, 3, 0, 0, 0, 0), none, none],
  [some (.iconst 0, 1, 0, 0, 0, 0), some (.ireturn, 1, 1, 0, 0, 0)]]
/-- 129: PurseTrace.isLine(I)Z -/
noncomputable def am_o129 : List (List (Option am_Op)) := [[some (.iload_n 1, 1, 0, 0, 0, 0), some (.ifCond .lt 18, 3, 0, 0, 0, 0), none, none, some (.iload_n 1, 1, 0, 0, 0, 0), some (.aload_n 0, 1, 0, 0, 0, 0), some (.getfield 26, 3, 11, 2, 0, 602), none, none, some (.getfield 317, 3, 3, 11, 0, 222), none, none, some (.if_icmp .ge 7, 3, 0, 0, 0, 0), none, none, some (.iconst 1, 1, 0, 0, 0, 0)],
  [some (.goto 4, 3, 0, 0, 0, 0), none, none, some (.iconst 0, 1, 0, 0, 0, 0), some (.ireturn, 1, 1, 0, 0, 0)]]
/-- 130: PurseTrace.isDay(I)Z -/
noncomputable def am_o130 : List (List (Option am_Op)) := [[some (.iload_n 0, 1, 0, 0, 0, 0), some (.ifCond .lt 14, 3, 0, 0, 0, 0), none, none, some (.iload_n 0, 1, 0, 0, 0, 0), some (.sipush 3999, 3, 0, 0, 0, 0), none, none, some (.if_icmp .gt 7, 3, 0, 0, 0, 0), none, none, some (.iconst 1, 1, 0, 0, 0, 0), some (.goto 4, 3, 0, 0, 0, 0), none, none, some (.iconst 0, 1, 0, 0, 0, 0)],
  [some (.ireturn, 1, 1, 0, 0, 0)]]
/-- 131: PurseTrace.isSum(I)Z -/
noncomputable def am_o131 : List (List (Option am_Op)) := [[some (.iload_n 0, 1, 0, 0, 0, 0), some (.iconst 1, 1, 0, 0, 0, 0), some (.if_icmp .lt 14, 3, 0, 0, 0, 0), none, none, some (.iload_n 0, 1, 0, 0, 0, 0), some (.ldc_w 331, 3, 0, 0, 1000000, 678), none, none, some (.if_icmp .gt 7, 3, 0, 0, 0, 0), none, none, some (.iconst 1, 1, 0, 0, 0, 0), some (.goto 4, 3, 0, 0, 0, 0), none, none],
  [some (.iconst 0, 1, 0, 0, 0, 0), some (.ireturn, 1, 1, 0, 0, 0)]]
/-- 132: PurseTrace.isWay(I)Z -/
noncomputable def am_o132 : List (List (Option am_Op)) := [[some (.iload_n 0, 1, 0, 0, 0, 0), some (.ifCond .lt 12, 3, 0, 0, 0, 0), none, none, some (.iload_n 0, 1, 0, 0, 0, 0), some (.iconst 5, 1, 0, 0, 0, 0), some (.if_icmp .ge 7, 3, 0, 0, 0, 0), none, none, some (.iconst 1, 1, 0, 0, 0, 0), some (.goto 4, 3, 0, 0, 0, 0), none, none, some (.iconst 0, 1, 0, 0, 0, 0), some (.ireturn, 1, 1, 0, 0, 0)]]
/-- 133: PurseTrace.portion(I[I[I)V -/
noncomputable def am_o133 : List (List (Option am_Op)) := [[some (.lconst 0, 1, 0, 0, 0, 0), some (.lstore_n 3, 1, 0, 0, 0, 0), some (.iconst 0, 1, 0, 0, 0, 0), some (.istore 5, 2, 0, 0, 0, 0), none, some (.iload 5, 2, 0, 0, 0, 0), none, some (.aload_n 1, 1, 0, 0, 0, 0), some (.arraylength, 1, 0, 0, 0, 0), some (.if_icmp .ge 17, 3, 0, 0, 0, 0), none, none, some (.lload_n 3, 1, 0, 0, 0, 0), some (.aload_n 1, 1, 0, 0, 0, 0), some (.iload 5, 2, 0, 0, 0, 0), none],
  [some (.iaload, 1, 0, 0, 0, 0), some (.i2l, 1, 0, 0, 0, 0), some (.ladd, 1, 0, 0, 0, 0), some (.lstore_n 3, 1, 0, 0, 0, 0), some (.iinc 5 1, 3, 0, 0, 0, 0), none, none, some (.goto (-18), 3, 0, 0, 0, 0), none, none, some (.aload_n 2, 1, 0, 0, 0, 0), some (.iconst 0, 1, 0, 0, 0, 0), some (.invokestatic 332, 3, 245, 2, 1, 923), none, none, some (.lload_n 3, 1, 0, 0, 0, 0)],
  [some (.lconst 0, 1, 0, 0, 0, 0), some (.lcmp, 1, 0, 0, 0, 0), some (.ifCond .gt 4, 3, 0, 0, 0, 0), none, none, some (.return_, 1, 0, 0, 0, 0), some (.iload_n 0, 1, 0, 0, 0, 0), some (.istore 5, 2, 0, 0, 0, 0), none, some (.iconst 0, 1, 0, 0, 0, 0), some (.istore 6, 2, 0, 0, 0, 0), none, some (.iload 6, 2, 0, 0, 0, 0), none, some (.aload_n 1, 1, 0, 0, 0, 0), some (.arraylength, 1, 0, 0, 0, 0)],
  [some (.if_icmp .ge 40, 3, 0, 0, 0, 0), none, none, some (.iload 6, 2, 0, 0, 0, 0), none, some (.aload_n 2, 1, 0, 0, 0, 0), some (.arraylength, 1, 0, 0, 0, 0), some (.if_icmp .ge 33, 3, 0, 0, 0, 0), none, none, some (.aload_n 2, 1, 0, 0, 0, 0), some (.iload 6, 2, 0, 0, 0, 0), none, some (.iload_n 0, 1, 0, 0, 0, 0), some (.i2l, 1, 0, 0, 0, 0), some (.aload_n 1, 1, 0, 0, 0, 0)],
  [some (.iload 6, 2, 0, 0, 0, 0), none, some (.iaload, 1, 0, 0, 0, 0), some (.i2l, 1, 0, 0, 0, 0), some (.lmul, 1, 0, 0, 0, 0), some (.lload_n 3, 1, 0, 0, 0, 0), some (.ldiv, 1, 0, 0, 0, 0), some (.l2i, 1, 0, 0, 0, 0), some (.iastore, 1, 0, 0, 0, 0), some (.iload 5, 2, 0, 0, 0, 0), none, some (.aload_n 2, 1, 0, 0, 0, 0), some (.iload 6, 2, 0, 0, 0, 0), none, some (.iaload, 1, 0, 0, 0, 0), some (.isub, 1, 0, 0, 0, 0)],
  [some (.istore 5, 2, 0, 0, 0, 0), none, some (.iinc 6 1, 3, 0, 0, 0, 0), none, none, some (.goto (-41), 3, 0, 0, 0, 0), none, none, some (.iconst 0, 1, 0, 0, 0, 0), some (.istore 6, 2, 0, 0, 0, 0), none, some (.iload 6, 2, 0, 0, 0, 0), none, some (.aload_n 1, 1, 0, 0, 0, 0), some (.arraylength, 1, 0, 0, 0, 0), some (.if_icmp .ge 39, 3, 0, 0, 0, 0)],
  [none, none, some (.iload 6, 2, 0, 0, 0, 0), none, some (.aload_n 2, 1, 0, 0, 0, 0), some (.arraylength, 1, 0, 0, 0, 0), some (.if_icmp .ge 32, 3, 0, 0, 0, 0), none, none, some (.iload 5, 2, 0, 0, 0, 0), none, some (.ifCond .le 27, 3, 0, 0, 0, 0), none, none, some (.aload_n 1, 1, 0, 0, 0, 0), some (.iload 6, 2, 0, 0, 0, 0)],
  [none, some (.iaload, 1, 0, 0, 0, 0), some (.ifCond .le 14, 3, 0, 0, 0, 0), none, none, some (.aload_n 2, 1, 0, 0, 0, 0), some (.iload 6, 2, 0, 0, 0, 0), none, some (.dup2, 1, 0, 0, 0, 0), some (.iaload, 1, 0, 0, 0, 0), some (.iconst 1, 1, 0, 0, 0, 0), some (.iadd, 1, 0, 0, 0, 0), some (.iastore, 1, 0, 0, 0, 0), some (.iinc 5 (-1), 3, 0, 0, 0, 0), none, none],
  [some (.iinc 6 1, 3, 0, 0, 0, 0), none, none, some (.goto (-40), 3, 0, 0, 0, 0), none, none, some (.return_, 1, 0, 0, 0, 0)]]
/-- 134: PurseTraceModel.lies(JJJ)Z -/
noncomputable def am_o134 : List (List (Option am_Op)) := [[some (.lload_n 0, 1, 0, 0, 0, 0), some (.lload_n 2, 1, 0, 0, 0, 0), some (.lcmp, 1, 0, 0, 0, 0), some (.ifCond .lt 14, 3, 0, 0, 0, 0), none, none, some (.lload_n 0, 1, 0, 0, 0, 0), some (.lload 4, 2, 0, 0, 0, 0), none, some (.lcmp, 1, 0, 0, 0, 0), some (.ifCond .gt 7, 3, 0, 0, 0, 0), none, none, some (.iconst 1, 1, 0, 0, 0, 0), some (.goto 4, 3, 0, 0, 0, 0), none],
  [none, some (.iconst 0, 1, 0, 0, 0, 0), some (.ireturn, 1, 1, 0, 0, 0)]]
/-- 135: PurseTraceModel.has(II)Z -/
noncomputable def am_o135 : List (List (Option am_Op)) := [[some (.iload_n 0, 1, 0, 0, 0, 0), some (.iload_n 1, 1, 0, 0, 0, 0), some (.ishr, 1, 0, 0, 0, 0), some (.iconst 1, 1, 0, 0, 0, 0), some (.iand, 1, 0, 0, 0, 0), some (.iconst 1, 1, 0, 0, 0, 0), some (.if_icmp .ne 7, 3, 0, 0, 0, 0), none, none, some (.iconst 1, 1, 0, 0, 0, 0), some (.goto 4, 3, 0, 0, 0, 0), none, none, some (.iconst 0, 1, 0, 0, 0, 0), some (.ireturn, 1, 1, 0, 0, 0)]]
/-- 136: PurseTraceModel.isPerson(I)Z -/
noncomputable def am_o136 : List (List (Option am_Op)) := [[some (.iload_n 1, 1, 0, 0, 0, 0), some (.i2l, 1, 0, 0, 0, 0), some (.lconst 0, 1, 0, 0, 0, 0), some (.aload_n 0, 1, 0, 0, 0, 0), some (.getfield 181, 3, 12, 3, 0, 1221), none, none, some (.iconst 1, 1, 0, 0, 0, 0), some (.isub, 1, 0, 0, 0, 0), some (.i2l, 1, 0, 0, 0, 0), some (.invokestatic 185, 3, 134, 3, 1, 1471), none, none, some (.ireturn, 1, 1, 0, 0, 0)]]
/-- 137: PurseTraceModel.isPurse(I)Z -/
noncomputable def am_o137 : List (List (Option am_Op)) := [[some (.iload_n 1, 1, 0, 0, 0, 0), some (.i2l, 1, 0, 0, 0, 0), some (.lconst 0, 1, 0, 0, 0, 0), some (.aload_n 0, 1, 0, 0, 0, 0), some (.getfield 189, 3, 12, 4, 0, 1222), none, none, some (.iconst 1, 1, 0, 0, 0, 0), some (.isub, 1, 0, 0, 0, 0), some (.i2l, 1, 0, 0, 0, 0), some (.invokestatic 185, 3, 134, 3, 1, 1471), none, none, some (.ireturn, 1, 1, 0, 0, 0)]]
/-- 138: PurseTraceModel.isThing(I)Z -/
noncomputable def am_o138 : List (List (Option am_Op)) := [[some (.iload_n 1, 1, 0, 0, 0, 0), some (.i2l, 1, 0, 0, 0, 0), some (.lconst 0, 1, 0, 0, 0, 0), some (.aload_n 0, 1, 0, 0, 0, 0), some (.getfield 192, 3, 12, 5, 0, 1223), none, none, some (.iconst 1, 1, 0, 0, 0, 0), some (.isub, 1, 0, 0, 0, 0), some (.i2l, 1, 0, 0, 0, 0), some (.invokestatic 185, 3, 134, 3, 1, 1471), none, none, some (.ireturn, 1, 1, 0, 0, 0)]]
/-- 139: PurseTraceModel.isDay(I)Z -/
noncomputable def am_o139 : List (List (Option am_Op)) := [[some (.iload_n 0, 1, 0, 0, 0, 0), some (.i2l, 1, 0, 0, 0, 0), some (.lconst 0, 1, 0, 0, 0, 0), some (.ldc2_w 195, 3, 0, 0, 3999, 1470), none, none, some (.invokestatic 185, 3, 134, 3, 1, 1471), none, none, some (.ireturn, 1, 1, 0, 0, 0)]]
/-- 140: PurseTraceModel.now(I)Z -/
noncomputable def am_o140 : List (List (Option am_Op)) := [[some (.iload_n 1, 1, 0, 0, 0, 0), some (.i2l, 1, 0, 0, 0, 0), some (.aload_n 0, 1, 0, 0, 0, 0), some (.getfield 197, 3, 12, 2, 0, 1220), none, none, some (.i2l, 1, 0, 0, 0, 0), some (.ldc2_w 195, 3, 0, 0, 3999, 1470), none, none, some (.invokestatic 185, 3, 134, 3, 1, 1471), none, none, some (.ifCond .ne 5, 3, 0, 0, 0, 0), none, none],
  [some (.iconst 0, 1, 0, 0, 0, 0), some (.ireturn, 1, 1, 0, 0, 0), some (.aload_n 0, 1, 0, 0, 0, 0), some (.iload_n 1, 1, 0, 0, 0, 0), some (.putfield 197, 3, 12, 2, 0, 1220), none, none, some (.iconst 1, 1, 0, 0, 0, 0), some (.ireturn, 1, 1, 0, 0, 0)]]
/-- 141: PurseTraceModel.person()I -/
noncomputable def am_o141 : List (List (Option am_Op)) := [[some (.aload_n 0, 1, 0, 0, 0, 0), some (.getfield 181, 3, 12, 3, 0, 1221), none, none, some (.bipush 10, 2, 0, 0, 0, 0), none, some (.if_icmp .ne 5, 3, 0, 0, 0, 0), none, none, some (.iconst (-1), 1, 0, 0, 0, 0), some (.ireturn, 1, 0, 0, 0, 0), some (.aload_n 0, 1, 0, 0, 0, 0), some (.dup, 1, 0, 0, 0, 0), some (.getfield 181, 3, 12, 3, 0, 1221), none, none],
  [some (.iconst 1, 1, 0, 0, 0, 0), some (.iadd, 1, 0, 0, 0, 0), some (.putfield 181, 3, 12, 3, 0, 1221), none, none, some (.aload_n 0, 1, 0, 0, 0, 0), some (.getfield 181, 3, 12, 3, 0, 1221), none, none, some (.iconst 1, 1, 0, 0, 0, 0), some (.isub, 1, 0, 0, 0, 0), some (.ireturn, 1, 0, 0, 0, 0)]]
/-- 142: PurseTraceModel.purse(II)I -/
noncomputable def am_o142 : List (List (Option am_Op)) := [[some (.aload_n 0, 1, 0, 0, 0, 0), some (.getfield 189, 3, 12, 4, 0, 1222), none, none, some (.bipush 10, 2, 0, 0, 0, 0), none, some (.if_icmp .eq 23, 3, 0, 0, 0, 0), none, none, some (.aload_n 0, 1, 0, 0, 0, 0), some (.iload_n 1, 1, 0, 0, 0, 0), some (.invokevirtual 200, 3, 136, 2, 12, 1482), none, none, some (.ifCond .eq 15, 3, 0, 0, 0, 0), none],
  [none, some (.iload_n 2, 1, 0, 0, 0, 0), some (.i2l, 1, 0, 0, 0, 0), some (.lconst 0, 1, 0, 0, 0, 0), some (.ldc2_w 204, 3, 0, 0, 3, 1486), none, none, some (.invokestatic 185, 3, 134, 3, 1, 1471), none, none, some (.ifCond .ne 5, 3, 0, 0, 0, 0), none, none, some (.iconst (-1), 1, 0, 0, 0, 0), some (.ireturn, 1, 0, 0, 0, 0), some (.aload_n 0, 1, 0, 0, 0, 0)],
  [some (.getfield 13, 3, 12, 11, 0, 1229), none, none, some (.aload_n 0, 1, 0, 0, 0, 0), some (.getfield 189, 3, 12, 4, 0, 1222), none, none, some (.iload_n 1, 1, 0, 0, 0, 0), some (.iastore, 1, 0, 0, 0, 0), some (.aload_n 0, 1, 0, 0, 0, 0), some (.getfield 17, 3, 12, 12, 0, 1230), none, none, some (.aload_n 0, 1, 0, 0, 0, 0), some (.getfield 189, 3, 12, 4, 0, 1222), none],
  [none, some (.iload_n 2, 1, 0, 0, 0, 0), some (.iastore, 1, 0, 0, 0, 0), some (.aload_n 0, 1, 0, 0, 0, 0), some (.dup, 1, 0, 0, 0, 0), some (.getfield 189, 3, 12, 4, 0, 1222), none, none, some (.iconst 1, 1, 0, 0, 0, 0), some (.iadd, 1, 0, 0, 0, 0), some (.putfield 189, 3, 12, 4, 0, 1222), none, none, some (.aload_n 0, 1, 0, 0, 0, 0), some (.getfield 189, 3, 12, 4, 0, 1222), none],
  [none, some (.iconst 1, 1, 0, 0, 0, 0), some (.isub, 1, 0, 0, 0, 0), some (.ireturn, 1, 0, 0, 0, 0)]]
/-- 143: PurseTraceModel.thing()I -/
noncomputable def am_o143 : List (List (Option am_Op)) := [[some (.aload_n 0, 1, 0, 0, 0, 0), some (.getfield 192, 3, 12, 5, 0, 1223), none, none, some (.bipush 10, 2, 0, 0, 0, 0), none, some (.if_icmp .ne 5, 3, 0, 0, 0, 0), none, none, some (.iconst (-1), 1, 0, 0, 0, 0), some (.ireturn, 1, 0, 0, 0, 0), some (.aload_n 0, 1, 0, 0, 0, 0), some (.dup, 1, 0, 0, 0, 0), some (.getfield 192, 3, 12, 5, 0, 1223), none, none],
  [some (.iconst 1, 1, 0, 0, 0, 0), some (.iadd, 1, 0, 0, 0, 0), some (.putfield 192, 3, 12, 5, 0, 1223), none, none, some (.aload_n 0, 1, 0, 0, 0, 0), some (.getfield 192, 3, 12, 5, 0, 1223), none, none, some (.iconst 1, 1, 0, 0, 0, 0), some (.isub, 1, 0, 0, 0, 0), some (.ireturn, 1, 0, 0, 0, 0)]]
/-- 144: PurseTraceModel.adds(IIIIZIII)I -/
noncomputable def am_o144 : List (List (Option am_Op)) := [[some (.aload_n 0, 1, 0, 0, 0, 0), some (.getfield 206, 3, 12, 6, 0, 1224), none, none, some (.bipush 100, 2, 0, 0, 0, 0), none, some (.if_icmp .eq 59, 3, 0, 0, 0, 0), none, none, some (.iload 4, 2, 0, 0, 0, 0), none, some (.i2l, 1, 0, 0, 0, 0), some (.lconst 1, 1, 0, 0, 0, 0), some (.ldc2_w 209, 3, 0, 0, 1000000, 1503), none, none],
  [some (.invokestatic 185, 3, 134, 3, 1, 1471), none, none, some (.ifCond .eq 46, 3, 0, 0, 0, 0), none, none, some (.iload 6, 2, 0, 0, 0, 0), none, some (.i2l, 1, 0, 0, 0, 0), some (.lconst 0, 1, 0, 0, 0, 0), some (.aload_n 0, 1, 0, 0, 0, 0), some (.getfield 197, 3, 12, 2, 0, 1220), none, none, some (.i2l, 1, 0, 0, 0, 0), some (.invokestatic 185, 3, 134, 3, 1, 1471)],
  [none, none, some (.ifCond .eq 31, 3, 0, 0, 0, 0), none, none, some (.iload 7, 2, 0, 0, 0, 0), none, some (.i2l, 1, 0, 0, 0, 0), some (.lconst 0, 1, 0, 0, 0, 0), some (.ldc2_w 211, 3, 0, 0, 23, 1504), none, none, some (.invokestatic 185, 3, 134, 3, 1, 1471), none, none, some (.ifCond .eq 18, 3, 0, 0, 0, 0)],
  [none, none, some (.iload 8, 2, 0, 0, 0, 0), none, some (.i2l, 1, 0, 0, 0, 0), some (.iload 7, 2, 0, 0, 0, 0), none, some (.i2l, 1, 0, 0, 0, 0), some (.ldc2_w 211, 3, 0, 0, 23, 1504), none, none, some (.invokestatic 185, 3, 134, 3, 1, 1471), none, none, some (.ifCond .ne 5, 3, 0, 0, 0, 0), none],
  [none, some (.iconst (-1), 1, 0, 0, 0, 0), some (.ireturn, 1, 0, 0, 0, 0), some (.aload_n 0, 1, 0, 0, 0, 0), some (.getfield 20, 3, 12, 13, 0, 1231), none, none, some (.aload_n 0, 1, 0, 0, 0, 0), some (.getfield 206, 3, 12, 6, 0, 1224), none, none, some (.iload_n 1, 1, 0, 0, 0, 0), some (.iastore, 1, 0, 0, 0, 0), some (.aload_n 0, 1, 0, 0, 0, 0), some (.getfield 23, 3, 12, 14, 0, 1232), none],
  [none, some (.aload_n 0, 1, 0, 0, 0, 0), some (.getfield 206, 3, 12, 6, 0, 1224), none, none, some (.iload_n 2, 1, 0, 0, 0, 0), some (.iastore, 1, 0, 0, 0, 0), some (.aload_n 0, 1, 0, 0, 0, 0), some (.getfield 26, 3, 12, 15, 0, 1233), none, none, some (.aload_n 0, 1, 0, 0, 0, 0), some (.getfield 206, 3, 12, 6, 0, 1224), none, none, some (.iload_n 3, 1, 0, 0, 0, 0)],
  [some (.iastore, 1, 0, 0, 0, 0), some (.aload_n 0, 1, 0, 0, 0, 0), some (.getfield 29, 3, 12, 16, 0, 1234), none, none, some (.aload_n 0, 1, 0, 0, 0, 0), some (.getfield 206, 3, 12, 6, 0, 1224), none, none, some (.iload 4, 2, 0, 0, 0, 0), none, some (.iastore, 1, 0, 0, 0, 0), some (.aload_n 0, 1, 0, 0, 0, 0), some (.getfield 47, 3, 12, 22, 0, 1240), none, none],
  [some (.aload_n 0, 1, 0, 0, 0, 0), some (.getfield 206, 3, 12, 6, 0, 1224), none, none, some (.iload 5, 2, 0, 0, 0, 0), none, some (.bastore, 1, 0, 0, 0, 0), some (.aload_n 0, 1, 0, 0, 0, 0), some (.getfield 32, 3, 12, 17, 0, 1235), none, none, some (.aload_n 0, 1, 0, 0, 0, 0), some (.getfield 206, 3, 12, 6, 0, 1224), none, none, some (.iload 6, 2, 0, 0, 0, 0)],
  [none, some (.iastore, 1, 0, 0, 0, 0), some (.aload_n 0, 1, 0, 0, 0, 0), some (.getfield 35, 3, 12, 18, 0, 1236), none, none, some (.aload_n 0, 1, 0, 0, 0, 0), some (.getfield 206, 3, 12, 6, 0, 1224), none, none, some (.iload 7, 2, 0, 0, 0, 0), none, some (.iastore, 1, 0, 0, 0, 0), some (.aload_n 0, 1, 0, 0, 0, 0), some (.getfield 38, 3, 12, 19, 0, 1237), none],
  [none, some (.aload_n 0, 1, 0, 0, 0, 0), some (.getfield 206, 3, 12, 6, 0, 1224), none, none, some (.iload 8, 2, 0, 0, 0, 0), none, some (.iastore, 1, 0, 0, 0, 0), some (.aload_n 0, 1, 0, 0, 0, 0), some (.getfield 41, 3, 12, 20, 0, 1238), none, none, some (.aload_n 0, 1, 0, 0, 0, 0), some (.getfield 206, 3, 12, 6, 0, 1224), none, none],
  [some (.aload_n 0, 1, 0, 0, 0, 0), some (.getfield 197, 3, 12, 2, 0, 1220), none, none, some (.iastore, 1, 0, 0, 0, 0), some (.aload_n 0, 1, 0, 0, 0, 0), some (.getfield 44, 3, 12, 21, 0, 1239), none, none, some (.aload_n 0, 1, 0, 0, 0, 0), some (.getfield 206, 3, 12, 6, 0, 1224), none, none, some (.iconst (-1), 1, 0, 0, 0, 0), some (.iastore, 1, 0, 0, 0, 0), some (.aload_n 0, 1, 0, 0, 0, 0)],
  [some (.dup, 1, 0, 0, 0, 0), some (.getfield 206, 3, 12, 6, 0, 1224), none, none, some (.iconst 1, 1, 0, 0, 0, 0), some (.iadd, 1, 0, 0, 0, 0), some (.putfield 206, 3, 12, 6, 0, 1224), none, none, some (.aload_n 0, 1, 0, 0, 0, 0), some (.getfield 206, 3, 12, 6, 0, 1224), none, none, some (.iconst 1, 1, 0, 0, 0, 0), some (.isub, 1, 0, 0, 0, 0), some (.ireturn, 1, 0, 0, 0, 0)]]
/-- 145: PurseTraceModel.line(IIIIIII)I -/
noncomputable def am_o145 : List (List (Option am_Op)) := [[some (.iload_n 1, 1, 0, 0, 0, 0), some (.ifCond .eq 13, 3, 0, 0, 0, 0), none, none, some (.iload_n 1, 1, 0, 0, 0, 0), some (.iconst 2, 1, 0, 0, 0, 0), some (.if_icmp .eq 8, 3, 0, 0, 0, 0), none, none, some (.iload_n 1, 1, 0, 0, 0, 0), some (.iconst 5, 1, 0, 0, 0, 0), some (.if_icmp .ne 32, 3, 0, 0, 0, 0), none, none, some (.aload_n 0, 1, 0, 0, 0, 0), some (.iload_n 2, 1, 0, 0, 0, 0)],
  [some (.invokevirtual 213, 3, 137, 2, 12, 1495), none, none, some (.ifCond .eq 24, 3, 0, 0, 0, 0), none, none, some (.iload_n 1, 1, 0, 0, 0, 0), some (.iconst 2, 1, 0, 0, 0, 0), some (.if_icmp .ne 11, 3, 0, 0, 0, 0), none, none, some (.iload_n 3, 1, 0, 0, 0, 0), some (.iconst (-1), 1, 0, 0, 0, 0), some (.if_icmp .eq 16, 3, 0, 0, 0, 0), none, none],
  [some (.goto 11, 3, 0, 0, 0, 0), none, none, some (.aload_n 0, 1, 0, 0, 0, 0), some (.iload_n 3, 1, 0, 0, 0, 0), some (.invokevirtual 200, 3, 136, 2, 12, 1482), none, none, some (.ifCond .ne 5, 3, 0, 0, 0, 0), none, none, some (.iconst (-1), 1, 0, 0, 0, 0), some (.ireturn, 1, 0, 0, 0, 0), some (.aload_n 0, 1, 0, 0, 0, 0), some (.iload_n 1, 1, 0, 0, 0, 0), some (.iload_n 2, 1, 0, 0, 0, 0)],
  [some (.iload_n 3, 1, 0, 0, 0, 0), some (.iload 4, 2, 0, 0, 0, 0), none, some (.iconst 0, 1, 0, 0, 0, 0), some (.iload 5, 2, 0, 0, 0, 0), none, some (.iload 6, 2, 0, 0, 0, 0), none, some (.iload 7, 2, 0, 0, 0, 0), none, some (.invokevirtual 216, 3, 144, 9, 12, 1499), none, none, some (.ireturn, 1, 0, 0, 0, 0)]]
/-- 146: PurseTraceModel.move(IIIZIII)I -/
noncomputable def am_o146 : List (List (Option am_Op)) := [[some (.aload_n 0, 1, 0, 0, 0, 0), some (.iload_n 1, 1, 0, 0, 0, 0), some (.invokevirtual 213, 3, 137, 2, 12, 1495), none, none, some (.ifCond .eq 35, 3, 0, 0, 0, 0), none, none, some (.aload_n 0, 1, 0, 0, 0, 0), some (.iload_n 2, 1, 0, 0, 0, 0), some (.invokevirtual 213, 3, 137, 2, 12, 1495), none, none, some (.ifCond .eq 27, 3, 0, 0, 0, 0), none, none],
  [some (.iload_n 1, 1, 0, 0, 0, 0), some (.iload_n 2, 1, 0, 0, 0, 0), some (.if_icmp .eq 22, 3, 0, 0, 0, 0), none, none, some (.aload_n 0, 1, 0, 0, 0, 0), some (.iconst 1, 1, 0, 0, 0, 0), some (.iload_n 1, 1, 0, 0, 0, 0), some (.iload_n 2, 1, 0, 0, 0, 0), some (.iload_n 3, 1, 0, 0, 0, 0), some (.iload 4, 2, 0, 0, 0, 0), none, some (.iload 5, 2, 0, 0, 0, 0), none, some (.iload 6, 2, 0, 0, 0, 0), none],
  [some (.iload 7, 2, 0, 0, 0, 0), none, some (.invokevirtual 216, 3, 144, 9, 12, 1499), none, none, some (.goto 4, 3, 0, 0, 0, 0), none, none, some (.iconst (-1), 1, 0, 0, 0, 0), some (.ireturn, 1, 0, 0, 0, 0)]]
/-- 147: PurseTraceModel.deal(ZIIIIII)I -/
noncomputable def am_o147 : List (List (Option am_Op)) := [[some (.aload_n 0, 1, 0, 0, 0, 0), some (.iload_n 2, 1, 0, 0, 0, 0), some (.invokevirtual 213, 3, 137, 2, 12, 1495), none, none, some (.ifCond .eq 38, 3, 0, 0, 0, 0), none, none, some (.aload_n 0, 1, 0, 0, 0, 0), some (.iload_n 3, 1, 0, 0, 0, 0), some (.invokevirtual 220, 3, 138, 2, 12, 1513), none, none, some (.ifCond .eq 30, 3, 0, 0, 0, 0), none, none],
  [some (.aload_n 0, 1, 0, 0, 0, 0), some (.iload_n 1, 1, 0, 0, 0, 0), some (.ifCond .eq 7, 3, 0, 0, 0, 0), none, none, some (.iconst 4, 1, 0, 0, 0, 0), some (.goto 4, 3, 0, 0, 0, 0), none, none, some (.iconst 3, 1, 0, 0, 0, 0), some (.iload_n 2, 1, 0, 0, 0, 0), some (.iload_n 3, 1, 0, 0, 0, 0), some (.iload 4, 2, 0, 0, 0, 0), none, some (.iconst 0, 1, 0, 0, 0, 0), some (.iload 5, 2, 0, 0, 0, 0)],
  [none, some (.iload 6, 2, 0, 0, 0, 0), none, some (.iload 7, 2, 0, 0, 0, 0), none, some (.invokevirtual 216, 3, 144, 9, 12, 1499), none, none, some (.goto 4, 3, 0, 0, 0, 0), none, none, some (.iconst (-1), 1, 0, 0, 0, 0), some (.ireturn, 1, 0, 0, 0, 0)]]
/-- 148: PurseTraceModel.isLine(I)Z -/
noncomputable def am_o148 : List (List (Option am_Op)) := [[some (.iload_n 1, 1, 0, 0, 0, 0), some (.i2l, 1, 0, 0, 0, 0), some (.lconst 0, 1, 0, 0, 0, 0), some (.aload_n 0, 1, 0, 0, 0, 0), some (.getfield 206, 3, 12, 6, 0, 1224), none, none, some (.iconst 1, 1, 0, 0, 0, 0), some (.isub, 1, 0, 0, 0, 0), some (.i2l, 1, 0, 0, 0, 0), some (.invokestatic 185, 3, 134, 3, 1, 1471), none, none, some (.ireturn, 1, 1, 0, 0, 0)]]
/-- 149: PurseTraceModel.strike(I)Z -/
noncomputable def am_o149 : List (List (Option am_Op)) := [[some (.aload_n 0, 1, 0, 0, 0, 0), some (.iload_n 1, 1, 0, 0, 0, 0), some (.invokevirtual 223, 3, 148, 2, 12, 1521), none, none, some (.ifCond .eq 13, 3, 0, 0, 0, 0), none, none, some (.aload_n 0, 1, 0, 0, 0, 0), some (.getfield 44, 3, 12, 21, 0, 1239), none, none, some (.iload_n 1, 1, 0, 0, 0, 0), some (.iaload, 1, 0, 0, 0, 0), some (.iconst (-1), 1, 0, 0, 0, 0), some (.if_icmp .eq 5, 3, 0, 0, 0, 0)],
  [none, none, some (.iconst 0, 1, 0, 0, 0, 0), some (.ireturn, 1, 1, 0, 0, 0), some (.aload_n 0, 1, 0, 0, 0, 0), some (.getfield 44, 3, 12, 21, 0, 1239), none, none, some (.iload_n 1, 1, 0, 0, 0, 0), some (.aload_n 0, 1, 0, 0, 0, 0), some (.getfield 197, 3, 12, 2, 0, 1220), none, none, some (.iastore, 1, 0, 0, 0, 0), some (.iconst 1, 1, 0, 0, 0, 0), some (.ireturn, 1, 1, 0, 0, 0)]]
/-- 150: PurseTraceModel.push(I)V -/
noncomputable def am_o150 : List (List (Option am_Op)) := [[some (.bipush 24, 2, 0, 0, 0, 0), none, some (.istore_n 2, 1, 0, 0, 0, 0), some (.iload_n 2, 1, 0, 0, 0, 0), some (.ifCond .lt 32, 3, 0, 0, 0, 0), none, none, some (.aload_n 0, 1, 0, 0, 0, 0), some (.getfield 7, 3, 12, 0, 0, 1218), none, none, some (.aload_n 0, 1, 0, 0, 0, 0), some (.getfield 226, 3, 12, 1, 0, 1219), none, none, some (.iload_n 1, 1, 0, 0, 0, 0)],
  [some (.iload_n 2, 1, 0, 0, 0, 0), some (.ishr, 1, 0, 0, 0, 0), some (.i2b, 1, 0, 0, 0, 0), some (.bastore, 1, 0, 0, 0, 0), some (.aload_n 0, 1, 0, 0, 0, 0), some (.dup, 1, 0, 0, 0, 0), some (.getfield 226, 3, 12, 1, 0, 1219), none, none, some (.iconst 1, 1, 0, 0, 0, 0), some (.iadd, 1, 0, 0, 0, 0), some (.putfield 226, 3, 12, 1, 0, 1219), none, none, some (.iinc 2 (-8), 3, 0, 0, 0, 0), none],
  [none, some (.goto (-30), 3, 0, 0, 0, 0), none, none, some (.return_, 1, 0, 0, 0, 0)]]
/-- 151: PurseTraceModel.feed(IIIII)I -/
noncomputable def am_o151 : List (List (Option am_Op)) := [[some (.aload_n 0, 1, 0, 0, 0, 0), some (.getfield 226, 3, 12, 1, 0, 1219), none, none, some (.bipush 20, 2, 0, 0, 0, 0), none, some (.iadd, 1, 0, 0, 0, 0), some (.sipush 400, 3, 0, 0, 0, 0), none, none, some (.if_icmp .le 5, 3, 0, 0, 0, 0), none, none, some (.iconst (-1), 1, 0, 0, 0, 0), some (.ireturn, 1, 0, 0, 0, 0), some (.aload_n 0, 1, 0, 0, 0, 0)],
  [some (.iload_n 1, 1, 0, 0, 0, 0), some (.invokevirtual 229, 3, 150, 2, 12, 1529), none, none, some (.aload_n 0, 1, 0, 0, 0, 0), some (.iload_n 2, 1, 0, 0, 0, 0), some (.invokevirtual 229, 3, 150, 2, 12, 1529), none, none, some (.aload_n 0, 1, 0, 0, 0, 0), some (.iload_n 3, 1, 0, 0, 0, 0), some (.invokevirtual 229, 3, 150, 2, 12, 1529), none, none, some (.aload_n 0, 1, 0, 0, 0, 0), some (.iload 4, 2, 0, 0, 0, 0)],
  [none, some (.invokevirtual 229, 3, 150, 2, 12, 1529), none, none, some (.aload_n 0, 1, 0, 0, 0, 0), some (.iload 5, 2, 0, 0, 0, 0), none, some (.invokevirtual 229, 3, 150, 2, 12, 1529), none, none, some (.aload_n 0, 1, 0, 0, 0, 0), some (.getfield 226, 3, 12, 1, 0, 1219), none, none, some (.ireturn, 1, 0, 0, 0, 0)]]
/-- 152: PurseTraceModel.here()I -/
noncomputable def am_o152 : List (List (Option am_Op)) := [[some (.aload_n 0, 1, 0, 0, 0, 0), some (.getfield 233, 3, 12, 35, 0, 1253), none, none, some (.aload_n 0, 1, 0, 0, 0, 0), some (.getfield 236, 3, 12, 36, 0, 1254), none, none, some (.if_icmp .ge 19, 3, 0, 0, 0, 0), none, none, some (.aload_n 0, 1, 0, 0, 0, 0), some (.getfield 7, 3, 12, 0, 0, 1218), none, none, some (.aload_n 0, 1, 0, 0, 0, 0)],
  [some (.getfield 233, 3, 12, 35, 0, 1253), none, none, some (.baload, 1, 0, 0, 0, 0), some (.sipush 255, 3, 0, 0, 0, 0), none, none, some (.iand, 1, 0, 0, 0, 0), some (.goto 4, 3, 0, 0, 0, 0), none, none, some (.iconst 0, 1, 0, 0, 0, 0), some (.ireturn, 1, 0, 0, 0, 0)]]
/-- 153: PurseTraceModel.wrongs(II)V -/
noncomputable def am_o153 : List (List (Option am_Op)) := [[some (.aload_n 0, 1, 0, 0, 0, 0), some (.aload_n 0, 1, 0, 0, 0, 0), some (.getfield 239, 3, 12, 37, 0, 1255), none, none, some (.ifCond .ge 10, 3, 0, 0, 0, 0), none, none, some (.aload_n 0, 1, 0, 0, 0, 0), some (.getfield 239, 3, 12, 37, 0, 1255), none, none, some (.goto 10, 3, 0, 0, 0, 0), none, none, some (.sipush (-1000), 3, 0, 0, 0, 0)],
  [none, none, some (.iload_n 1, 1, 0, 0, 0, 0), some (.imul, 1, 0, 0, 0, 0), some (.iload_n 2, 1, 0, 0, 0, 0), some (.isub, 1, 0, 0, 0, 0), some (.putfield 239, 3, 12, 37, 0, 1255), none, none, some (.return_, 1, 0, 0, 0, 0)]]
/-- 154: PurseTraceModel.isGood()Z -/
noncomputable def am_o154 : List (List (Option am_Op)) := [[some (.aload_n 0, 1, 0, 0, 0, 0), some (.getfield 239, 3, 12, 37, 0, 1255), none, none, some (.ifCond .ne 7, 3, 0, 0, 0, 0), none, none, some (.iconst 1, 1, 0, 0, 0, 0), some (.goto 4, 3, 0, 0, 0, 0), none, none, some (.iconst 0, 1, 0, 0, 0, 0), some (.ireturn, 1, 1, 0, 0, 0)]]
/-- 155: PurseTraceModel.emit(II)V -/
noncomputable def am_o155 : List (List (Option am_Op)) := [[some (.aload_n 0, 1, 0, 0, 0, 0), some (.invokevirtual 242, 3, 154, 1, 12, 1541), none, none, some (.ifCond .ne 4, 3, 0, 0, 0, 0), none, none, some (.return_, 1, 0, 0, 0, 0), some (.aload_n 0, 1, 0, 0, 0, 0), some (.getfield 81, 3, 12, 33, 0, 1251), none, none, some (.sipush 160, 3, 0, 0, 0, 0), none, none, some (.aload_n 0, 1, 0, 0, 0, 0)],
  [some (.getfield 246, 3, 12, 7, 0, 1225), none, none, some (.imul, 1, 0, 0, 0, 0), some (.aload_n 0, 1, 0, 0, 0, 0), some (.getfield 249, 3, 12, 39, 0, 1257), none, none, some (.iadd, 1, 0, 0, 0, 0), some (.iload_n 1, 1, 0, 0, 0, 0), some (.iastore, 1, 0, 0, 0, 0), some (.aload_n 0, 1, 0, 0, 0, 0), some (.getfield 84, 3, 12, 34, 0, 1252), none, none, some (.sipush 160, 3, 0, 0, 0, 0)],
  [none, none, some (.aload_n 0, 1, 0, 0, 0, 0), some (.getfield 246, 3, 12, 7, 0, 1225), none, none, some (.imul, 1, 0, 0, 0, 0), some (.aload_n 0, 1, 0, 0, 0, 0), some (.getfield 249, 3, 12, 39, 0, 1257), none, none, some (.iadd, 1, 0, 0, 0, 0), some (.iload_n 2, 1, 0, 0, 0, 0), some (.iastore, 1, 0, 0, 0, 0), some (.aload_n 0, 1, 0, 0, 0, 0), some (.dup, 1, 0, 0, 0, 0)],
  [some (.getfield 249, 3, 12, 39, 0, 1257), none, none, some (.iconst 1, 1, 0, 0, 0, 0), some (.iadd, 1, 0, 0, 0, 0), some (.putfield 249, 3, 12, 39, 0, 1257), none, none, some (.return_, 1, 0, 0, 0, 0)]]
/-- 156: PurseTraceModel.top()I -/
noncomputable def am_o156 : List (List (Option am_Op)) := [[some (.aload_n 0, 1, 0, 0, 0, 0), some (.getfield 252, 3, 12, 41, 0, 1259), none, none, some (.ifCond .le 17, 3, 0, 0, 0, 0), none, none, some (.aload_n 0, 1, 0, 0, 0, 0), some (.getfield 87, 3, 12, 44, 0, 1262), none, none, some (.aload_n 0, 1, 0, 0, 0, 0), some (.getfield 252, 3, 12, 41, 0, 1259), none, none, some (.iconst 1, 1, 0, 0, 0, 0)],
  [some (.isub, 1, 0, 0, 0, 0), some (.iaload, 1, 0, 0, 0, 0), some (.goto 4, 3, 0, 0, 0, 0), none, none, some (.iconst 0, 1, 0, 0, 0, 0), some (.ireturn, 1, 0, 0, 0, 0)]]
/-- 157: PurseTraceModel.puts(I)V -/
noncomputable def am_o157 : List (List (Option am_Op)) := [[some (.aload_n 0, 1, 0, 0, 0, 0), some (.getfield 87, 3, 12, 44, 0, 1262), none, none, some (.aload_n 0, 1, 0, 0, 0, 0), some (.getfield 252, 3, 12, 41, 0, 1259), none, none, some (.iload_n 1, 1, 0, 0, 0, 0), some (.iastore, 1, 0, 0, 0, 0), some (.aload_n 0, 1, 0, 0, 0, 0), some (.dup, 1, 0, 0, 0, 0), some (.getfield 252, 3, 12, 41, 0, 1259), none, none, some (.iconst 1, 1, 0, 0, 0, 0)],
  [some (.iadd, 1, 0, 0, 0, 0), some (.putfield 252, 3, 12, 41, 0, 1259), none, none, some (.aload_n 0, 1, 0, 0, 0, 0), some (.dup, 1, 0, 0, 0, 0), some (.getfield 233, 3, 12, 35, 0, 1253), none, none, some (.iconst 1, 1, 0, 0, 0, 0), some (.iadd, 1, 0, 0, 0, 0), some (.putfield 233, 3, 12, 35, 0, 1253), none, none, some (.return_, 1, 0, 0, 0, 0)]]
/-- 158: PurseTraceModel.opens()V -/
noncomputable def am_o158 : List (List (Option am_Op)) := [[some (.aload_n 0, 1, 0, 0, 0, 0), some (.getfield 255, 3, 12, 40, 0, 1258), none, none, some (.bipush 6, 2, 0, 0, 0, 0), none, some (.if_icmp .ne 12, 3, 0, 0, 0, 0), none, none, some (.aload_n 0, 1, 0, 0, 0, 0), some (.iconst 5, 1, 0, 0, 0, 0), some (.aload_n 0, 1, 0, 0, 0, 0), some (.getfield 233, 3, 12, 35, 0, 1253), none, none, some (.invokevirtual 258, 3, 153, 3, 12, 1553)],
  [none, none, some (.aload_n 0, 1, 0, 0, 0, 0), some (.dup, 1, 0, 0, 0, 0), some (.getfield 255, 3, 12, 40, 0, 1258), none, none, some (.iconst 1, 1, 0, 0, 0, 0), some (.iadd, 1, 0, 0, 0, 0), some (.putfield 255, 3, 12, 40, 0, 1258), none, none, some (.aload_n 0, 1, 0, 0, 0, 0), some (.aload_n 0, 1, 0, 0, 0, 0), some (.invokevirtual 262, 3, 152, 1, 12, 1549), none],
  [none, some (.invokevirtual 266, 3, 157, 2, 12, 1579), none, none, some (.return_, 1, 0, 0, 0, 0)]]
/-- 159: PurseTraceModel.seesDigit()Z -/
noncomputable def am_o159 : List (List (Option am_Op)) := [[some (.aload_n 0, 1, 0, 0, 0, 0), some (.invokevirtual 262, 3, 152, 1, 12, 1549), none, none, some (.i2l, 1, 0, 0, 0, 0), some (.ldc2_w 269, 3, 0, 0, 48, 1565), none, none, some (.ldc2_w 271, 3, 0, 0, 57, 1566), none, none, some (.invokestatic 185, 3, 134, 3, 1, 1471), none, none, some (.ireturn, 1, 1, 0, 0, 0)]]
/-- 160: PurseTraceModel.reads(I)I -/
noncomputable def am_o160 : List (List (Option am_Op)) := [[some (.aload_n 0, 1, 0, 0, 0, 0), some (.getfield 233, 3, 12, 35, 0, 1253), none, none, some (.istore_n 2, 1, 0, 0, 0, 0), some (.iconst 0, 1, 0, 0, 0, 0), some (.istore_n 3, 1, 0, 0, 0, 0), some (.aload_n 0, 1, 0, 0, 0, 0), some (.invokevirtual 273, 3, 159, 1, 12, 1561), none, none, some (.ifCond .ne 12, 3, 0, 0, 0, 0), none, none, some (.aload_n 0, 1, 0, 0, 0, 0), some (.iconst 1, 1, 0, 0, 0, 0)],
  [some (.aload_n 0, 1, 0, 0, 0, 0), some (.getfield 233, 3, 12, 35, 0, 1253), none, none, some (.invokevirtual 258, 3, 153, 3, 12, 1553), none, none, some (.aload_n 0, 1, 0, 0, 0, 0), some (.invokevirtual 242, 3, 154, 1, 12, 1541), none, none, some (.ifCond .eq 56, 3, 0, 0, 0, 0), none, none, some (.aload_n 0, 1, 0, 0, 0, 0), some (.invokevirtual 273, 3, 159, 1, 12, 1561)],
  [none, none, some (.ifCond .eq 49, 3, 0, 0, 0, 0), none, none, some (.aload_n 0, 1, 0, 0, 0, 0), some (.getfield 233, 3, 12, 35, 0, 1253), none, none, some (.iload_n 2, 1, 0, 0, 0, 0), some (.bipush 6, 2, 0, 0, 0, 0), none, some (.iadd, 1, 0, 0, 0, 0), some (.if_icmp .ne 12, 3, 0, 0, 0, 0), none, none],
  [some (.aload_n 0, 1, 0, 0, 0, 0), some (.iconst 2, 1, 0, 0, 0, 0), some (.aload_n 0, 1, 0, 0, 0, 0), some (.getfield 233, 3, 12, 35, 0, 1253), none, none, some (.invokevirtual 258, 3, 153, 3, 12, 1553), none, none, some (.bipush 10, 2, 0, 0, 0, 0), none, some (.iload_n 3, 1, 0, 0, 0, 0), some (.imul, 1, 0, 0, 0, 0), some (.aload_n 0, 1, 0, 0, 0, 0), some (.invokevirtual 262, 3, 152, 1, 12, 1549), none],
  [none, some (.iadd, 1, 0, 0, 0, 0), some (.bipush 48, 2, 0, 0, 0, 0), none, some (.isub, 1, 0, 0, 0, 0), some (.istore_n 3, 1, 0, 0, 0, 0), some (.aload_n 0, 1, 0, 0, 0, 0), some (.dup, 1, 0, 0, 0, 0), some (.getfield 233, 3, 12, 35, 0, 1253), none, none, some (.iconst 1, 1, 0, 0, 0, 0), some (.iadd, 1, 0, 0, 0, 0), some (.putfield 233, 3, 12, 35, 0, 1253), none, none],
  [some (.goto (-57), 3, 0, 0, 0, 0), none, none, some (.iload_n 3, 1, 0, 0, 0, 0), some (.iload_n 1, 1, 0, 0, 0, 0), some (.if_icmp .le 9, 3, 0, 0, 0, 0), none, none, some (.aload_n 0, 1, 0, 0, 0, 0), some (.iconst 3, 1, 0, 0, 0, 0), some (.iload_n 2, 1, 0, 0, 0, 0), some (.invokevirtual 258, 3, 153, 3, 12, 1553), none, none, some (.iload_n 3, 1, 0, 0, 0, 0), some (.ireturn, 1, 0, 0, 0, 0)]]
/-- 161: PurseTraceModel.must(I)V -/
noncomputable def am_o161 : List (List (Option am_Op)) := [[some (.aload_n 0, 1, 0, 0, 0, 0), some (.invokevirtual 262, 3, 152, 1, 12, 1549), none, none, some (.iload_n 1, 1, 0, 0, 0, 0), some (.if_icmp .eq 12, 3, 0, 0, 0, 0), none, none, some (.aload_n 0, 1, 0, 0, 0, 0), some (.iconst 1, 1, 0, 0, 0, 0), some (.aload_n 0, 1, 0, 0, 0, 0), some (.getfield 233, 3, 12, 35, 0, 1253), none, none, some (.invokevirtual 258, 3, 153, 3, 12, 1553), none],
  [none, some (.aload_n 0, 1, 0, 0, 0, 0), some (.dup, 1, 0, 0, 0, 0), some (.getfield 233, 3, 12, 35, 0, 1253), none, none, some (.iconst 1, 1, 0, 0, 0, 0), some (.iadd, 1, 0, 0, 0, 0), some (.putfield 233, 3, 12, 35, 0, 1253), none, none, some (.return_, 1, 0, 0, 0, 0)]]
/-- 162: PurseTraceModel.isTimes(I)Z -/
noncomputable def am_o162 : List (List (Option am_Op)) := [[some (.iload_n 0, 1, 0, 0, 0, 0), some (.bipush 42, 2, 0, 0, 0, 0), none, some (.if_icmp .eq 15, 3, 0, 0, 0, 0), none, none, some (.iload_n 0, 1, 0, 0, 0, 0), some (.bipush 47, 2, 0, 0, 0, 0), none, some (.if_icmp .eq 9, 3, 0, 0, 0, 0), none, none, some (.iload_n 0, 1, 0, 0, 0, 0), some (.bipush 37, 2, 0, 0, 0, 0), none, some (.if_icmp .ne 7, 3, 0, 0, 0, 0)],
  [none, none, some (.iconst 1, 1, 0, 0, 0, 0), some (.goto 4, 3, 0, 0, 0, 0), none, none, some (.iconst 0, 1, 0, 0, 0, 0), some (.ireturn, 1, 1, 0, 0, 0)]]
/-- 163: PurseTraceModel.isPlus(I)Z -/
noncomputable def am_o163 : List (List (Option am_Op)) := [[some (.iload_n 0, 1, 0, 0, 0, 0), some (.bipush 43, 2, 0, 0, 0, 0), none, some (.if_icmp .eq 9, 3, 0, 0, 0, 0), none, none, some (.iload_n 0, 1, 0, 0, 0, 0), some (.bipush 45, 2, 0, 0, 0, 0), none, some (.if_icmp .ne 7, 3, 0, 0, 0, 0), none, none, some (.iconst 1, 1, 0, 0, 0, 0), some (.goto 4, 3, 0, 0, 0, 0), none, none],
  [some (.iconst 0, 1, 0, 0, 0, 0), some (.ireturn, 1, 1, 0, 0, 0)]]
/-- 164: PurseTraceModel.isSign(I)Z -/
noncomputable def am_o164 : List (List (Option am_Op)) := [[some (.iload_n 0, 1, 0, 0, 0, 0), some (.bipush 60, 2, 0, 0, 0, 0), none, some (.if_icmp .eq 15, 3, 0, 0, 0, 0), none, none, some (.iload_n 0, 1, 0, 0, 0, 0), some (.bipush 62, 2, 0, 0, 0, 0), none, some (.if_icmp .eq 9, 3, 0, 0, 0, 0), none, none, some (.iload_n 0, 1, 0, 0, 0, 0), some (.bipush 61, 2, 0, 0, 0, 0), none, some (.if_icmp .ne 7, 3, 0, 0, 0, 0)],
  [none, none, some (.iconst 1, 1, 0, 0, 0, 0), some (.goto 4, 3, 0, 0, 0, 0), none, none, some (.iconst 0, 1, 0, 0, 0, 0), some (.ireturn, 1, 1, 0, 0, 0)]]
/-- 165: PurseTraceModel.isValue(I)Z -/
noncomputable def am_o165 : List (List (Option am_Op)) := [[some (.iload_n 0, 1, 0, 0, 0, 0), some (.bipush 115, 2, 0, 0, 0, 0), none, some (.if_icmp .eq 45, 3, 0, 0, 0, 0), none, none, some (.iload_n 0, 1, 0, 0, 0, 0), some (.bipush 100, 2, 0, 0, 0, 0), none, some (.if_icmp .eq 39, 3, 0, 0, 0, 0), none, none, some (.iload_n 0, 1, 0, 0, 0, 0), some (.bipush 107, 2, 0, 0, 0, 0), none, some (.if_icmp .eq 33, 3, 0, 0, 0, 0)],
  [none, none, some (.iload_n 0, 1, 0, 0, 0, 0), some (.bipush 112, 2, 0, 0, 0, 0), none, some (.if_icmp .eq 27, 3, 0, 0, 0, 0), none, none, some (.iload_n 0, 1, 0, 0, 0, 0), some (.bipush 104, 2, 0, 0, 0, 0), none, some (.if_icmp .eq 21, 3, 0, 0, 0, 0), none, none, some (.iload_n 0, 1, 0, 0, 0, 0), some (.bipush 116, 2, 0, 0, 0, 0)],
  [none, some (.if_icmp .eq 15, 3, 0, 0, 0, 0), none, none, some (.iload_n 0, 1, 0, 0, 0, 0), some (.bipush 111, 2, 0, 0, 0, 0), none, some (.if_icmp .eq 9, 3, 0, 0, 0, 0), none, none, some (.iload_n 0, 1, 0, 0, 0, 0), some (.bipush 110, 2, 0, 0, 0, 0), none, some (.if_icmp .ne 7, 3, 0, 0, 0, 0), none, none],
  [some (.iconst 1, 1, 0, 0, 0, 0), some (.goto 4, 3, 0, 0, 0, 0), none, none, some (.iconst 0, 1, 0, 0, 0, 0), some (.ireturn, 1, 1, 0, 0, 0)]]
/-- 166: PurseTraceModel.sums(Z)V -/
noncomputable def am_o166 : List (List (Option am_Op)) := [[some (.aload_n 0, 1, 0, 0, 0, 0), some (.invokevirtual 276, 3, 156, 1, 12, 1613), none, none, some (.invokestatic 279, 3, 162, 1, 1, 1603), none, none, some (.ifCond .ne 17, 3, 0, 0, 0, 0), none, none, some (.iload_n 1, 1, 0, 0, 0, 0), some (.ifCond .eq 35, 3, 0, 0, 0, 0), none, none, some (.aload_n 0, 1, 0, 0, 0, 0), some (.invokevirtual 276, 3, 156, 1, 12, 1613)],
  [none, none, some (.invokestatic 282, 3, 163, 1, 1, 1606), none, none, some (.ifCond .eq 25, 3, 0, 0, 0, 0), none, none, some (.aload_n 0, 1, 0, 0, 0, 0), some (.aload_n 0, 1, 0, 0, 0, 0), some (.invokevirtual 276, 3, 156, 1, 12, 1613), none, none, some (.iconst 0, 1, 0, 0, 0, 0), some (.invokevirtual 285, 3, 155, 3, 12, 1592), none],
  [none, some (.aload_n 0, 1, 0, 0, 0, 0), some (.dup, 1, 0, 0, 0, 0), some (.getfield 252, 3, 12, 41, 0, 1259), none, none, some (.iconst 1, 1, 0, 0, 0, 0), some (.isub, 1, 0, 0, 0, 0), some (.putfield 252, 3, 12, 41, 0, 1259), none, none, some (.goto (-43), 3, 0, 0, 0, 0), none, none, some (.return_, 1, 0, 0, 0, 0)]]
/-- 167: PurseTraceModel.joins(Z)V -/
noncomputable def am_o167 : List (List (Option am_Op)) := [[some (.aload_n 0, 1, 0, 0, 0, 0), some (.invokevirtual 276, 3, 156, 1, 12, 1613), none, none, some (.bipush 38, 2, 0, 0, 0, 0), none, some (.if_icmp .eq 16, 3, 0, 0, 0, 0), none, none, some (.iload_n 1, 1, 0, 0, 0, 0), some (.ifCond .eq 34, 3, 0, 0, 0, 0), none, none, some (.aload_n 0, 1, 0, 0, 0, 0), some (.invokevirtual 276, 3, 156, 1, 12, 1613), none],
  [none, some (.bipush 124, 2, 0, 0, 0, 0), none, some (.if_icmp .ne 25, 3, 0, 0, 0, 0), none, none, some (.aload_n 0, 1, 0, 0, 0, 0), some (.aload_n 0, 1, 0, 0, 0, 0), some (.invokevirtual 276, 3, 156, 1, 12, 1613), none, none, some (.iconst 0, 1, 0, 0, 0, 0), some (.invokevirtual 285, 3, 155, 3, 12, 1592), none, none, some (.aload_n 0, 1, 0, 0, 0, 0)],
  [some (.dup, 1, 0, 0, 0, 0), some (.getfield 252, 3, 12, 41, 0, 1259), none, none, some (.iconst 1, 1, 0, 0, 0, 0), some (.isub, 1, 0, 0, 0, 0), some (.putfield 252, 3, 12, 41, 0, 1259), none, none, some (.goto (-41), 3, 0, 0, 0, 0), none, none, some (.return_, 1, 0, 0, 0, 0)]]
/-- 168: PurseTraceModel.ends()V -/
noncomputable def am_o168 : List (List (Option am_Op)) := [[some (.aload_n 0, 1, 0, 0, 0, 0), some (.invokevirtual 276, 3, 156, 1, 12, 1613), none, none, some (.bipush 33, 2, 0, 0, 0, 0), none, some (.if_icmp .ne 32, 3, 0, 0, 0, 0), none, none, some (.aload_n 0, 1, 0, 0, 0, 0), some (.iconst 2, 1, 0, 0, 0, 0), some (.iconst 0, 1, 0, 0, 0, 0), some (.invokevirtual 285, 3, 155, 3, 12, 1592), none, none, some (.aload_n 0, 1, 0, 0, 0, 0)],
  [some (.dup, 1, 0, 0, 0, 0), some (.getfield 252, 3, 12, 41, 0, 1259), none, none, some (.iconst 1, 1, 0, 0, 0, 0), some (.isub, 1, 0, 0, 0, 0), some (.putfield 252, 3, 12, 41, 0, 1259), none, none, some (.aload_n 0, 1, 0, 0, 0, 0), some (.dup, 1, 0, 0, 0, 0), some (.getfield 255, 3, 12, 40, 0, 1258), none, none, some (.iconst 1, 1, 0, 0, 0, 0), some (.isub, 1, 0, 0, 0, 0)],
  [some (.putfield 255, 3, 12, 40, 0, 1258), none, none, some (.goto (-35), 3, 0, 0, 0, 0), none, none, some (.return_, 1, 0, 0, 0, 0)]]
/-- 169: PurseTraceModel.factor()V -/
noncomputable def am_o169 : List (List (Option am_Op)) := [[some (.aload_n 0, 1, 0, 0, 0, 0), some (.invokevirtual 242, 3, 154, 1, 12, 1541), none, none, some (.ifCond .eq 19, 3, 0, 0, 0, 0), none, none, some (.aload_n 0, 1, 0, 0, 0, 0), some (.invokevirtual 262, 3, 152, 1, 12, 1549), none, none, some (.bipush 91, 2, 0, 0, 0, 0), none, some (.if_icmp .ne 10, 3, 0, 0, 0, 0), none, none],
  [some (.aload_n 0, 1, 0, 0, 0, 0), some (.invokevirtual 288, 3, 158, 1, 12, 1575), none, none, some (.goto (-20), 3, 0, 0, 0, 0), none, none, some (.aload_n 0, 1, 0, 0, 0, 0), some (.invokevirtual 242, 3, 154, 1, 12, 1541), none, none, some (.ifCond .ne 4, 3, 0, 0, 0, 0), none, none, some (.return_, 1, 0, 0, 0, 0), some (.aload_n 0, 1, 0, 0, 0, 0)],
  [some (.invokevirtual 273, 3, 159, 1, 12, 1561), none, none, some (.ifCond .eq 18, 3, 0, 0, 0, 0), none, none, some (.aload_n 0, 1, 0, 0, 0, 0), some (.iconst 0, 1, 0, 0, 0, 0), some (.aload_n 0, 1, 0, 0, 0, 0), some (.ldc_w 291, 3, 0, 0, 999999, 1591), none, none, some (.invokevirtual 292, 3, 160, 2, 12, 1557), none, none, some (.invokevirtual 285, 3, 155, 3, 12, 1592)],
  [none, none, some (.goto 44, 3, 0, 0, 0, 0), none, none, some (.aload_n 0, 1, 0, 0, 0, 0), some (.invokevirtual 262, 3, 152, 1, 12, 1549), none, none, some (.invokestatic 296, 3, 165, 1, 1, 1596), none, none, some (.ifCond .eq 25, 3, 0, 0, 0, 0), none, none, some (.aload_n 0, 1, 0, 0, 0, 0)],
  [some (.iconst 1, 1, 0, 0, 0, 0), some (.aload_n 0, 1, 0, 0, 0, 0), some (.invokevirtual 262, 3, 152, 1, 12, 1549), none, none, some (.invokevirtual 285, 3, 155, 3, 12, 1592), none, none, some (.aload_n 0, 1, 0, 0, 0, 0), some (.dup, 1, 0, 0, 0, 0), some (.getfield 233, 3, 12, 35, 0, 1253), none, none, some (.iconst 1, 1, 0, 0, 0, 0), some (.iadd, 1, 0, 0, 0, 0), some (.putfield 233, 3, 12, 35, 0, 1253)],
  [none, none, some (.goto 12, 3, 0, 0, 0, 0), none, none, some (.aload_n 0, 1, 0, 0, 0, 0), some (.iconst 1, 1, 0, 0, 0, 0), some (.aload_n 0, 1, 0, 0, 0, 0), some (.getfield 233, 3, 12, 35, 0, 1253), none, none, some (.invokevirtual 258, 3, 153, 3, 12, 1553), none, none, some (.return_, 1, 0, 0, 0, 0)]]
/-- 170: PurseTraceModel.goesOn()Z -/
noncomputable def am_o170 : List (List (Option am_Op)) := [[some (.aload_n 0, 1, 0, 0, 0, 0), some (.invokevirtual 262, 3, 152, 1, 12, 1549), none, none, some (.istore_n 1, 1, 0, 0, 0, 0), some (.iload_n 1, 1, 0, 0, 0, 0), some (.invokestatic 279, 3, 162, 1, 1, 1603), none, none, some (.ifCond .ne 10, 3, 0, 0, 0, 0), none, none, some (.iload_n 1, 1, 0, 0, 0, 0), some (.invokestatic 282, 3, 163, 1, 1, 1606), none, none],
  [some (.ifCond .eq 18, 3, 0, 0, 0, 0), none, none, some (.aload_n 0, 1, 0, 0, 0, 0), some (.iload_n 1, 1, 0, 0, 0, 0), some (.invokestatic 282, 3, 163, 1, 1, 1606), none, none, some (.invokevirtual 299, 3, 166, 2, 12, 1609), none, none, some (.aload_n 0, 1, 0, 0, 0, 0), some (.iload_n 1, 1, 0, 0, 0, 0), some (.invokevirtual 266, 3, 157, 2, 12, 1579), none, none],
  [some (.iconst 1, 1, 0, 0, 0, 0), some (.ireturn, 1, 1, 0, 0, 0), some (.aload_n 0, 1, 0, 0, 0, 0), some (.iconst 1, 1, 0, 0, 0, 0), some (.invokevirtual 299, 3, 166, 2, 12, 1609), none, none, some (.iload_n 1, 1, 0, 0, 0, 0), some (.bipush 93, 2, 0, 0, 0, 0), none, some (.if_icmp .ne 60, 3, 0, 0, 0, 0), none, none, some (.aload_n 0, 1, 0, 0, 0, 0), some (.invokevirtual 276, 3, 156, 1, 12, 1613), none],
  [none, some (.bipush 91, 2, 0, 0, 0, 0), none, some (.if_icmp .eq 14, 3, 0, 0, 0, 0), none, none, some (.aload_n 0, 1, 0, 0, 0, 0), some (.iconst 1, 1, 0, 0, 0, 0), some (.aload_n 0, 1, 0, 0, 0, 0), some (.getfield 233, 3, 12, 35, 0, 1253), none, none, some (.invokevirtual 258, 3, 153, 3, 12, 1553), none, none, some (.iconst 0, 1, 0, 0, 0, 0)],
  [some (.ireturn, 1, 1, 0, 0, 0), some (.aload_n 0, 1, 0, 0, 0, 0), some (.dup, 1, 0, 0, 0, 0), some (.getfield 252, 3, 12, 41, 0, 1259), none, none, some (.iconst 1, 1, 0, 0, 0, 0), some (.isub, 1, 0, 0, 0, 0), some (.putfield 252, 3, 12, 41, 0, 1259), none, none, some (.aload_n 0, 1, 0, 0, 0, 0), some (.dup, 1, 0, 0, 0, 0), some (.getfield 255, 3, 12, 40, 0, 1258), none, none],
  [some (.iconst 1, 1, 0, 0, 0, 0), some (.isub, 1, 0, 0, 0, 0), some (.putfield 255, 3, 12, 40, 0, 1258), none, none, some (.aload_n 0, 1, 0, 0, 0, 0), some (.dup, 1, 0, 0, 0, 0), some (.getfield 233, 3, 12, 35, 0, 1253), none, none, some (.iconst 1, 1, 0, 0, 0, 0), some (.iadd, 1, 0, 0, 0, 0), some (.putfield 233, 3, 12, 35, 0, 1253), none, none, some (.aload_n 0, 1, 0, 0, 0, 0)],
  [some (.iconst 1, 1, 0, 0, 0, 0), some (.putfield 303, 3, 12, 43, 0, 1261), none, none, some (.iconst 1, 1, 0, 0, 0, 0), some (.ireturn, 1, 1, 0, 0, 0), some (.iload_n 1, 1, 0, 0, 0, 0), some (.invokestatic 307, 3, 164, 1, 1, 1617), none, none, some (.ifCond .eq 38, 3, 0, 0, 0, 0), none, none, some (.aload_n 0, 1, 0, 0, 0, 0), some (.invokevirtual 276, 3, 156, 1, 12, 1613), none],
  [none, some (.bipush 91, 2, 0, 0, 0, 0), none, some (.if_icmp .eq 13, 3, 0, 0, 0, 0), none, none, some (.aload_n 0, 1, 0, 0, 0, 0), some (.invokevirtual 276, 3, 156, 1, 12, 1613), none, none, some (.invokestatic 307, 3, 164, 1, 1, 1617), none, none, some (.ifCond .eq 12, 3, 0, 0, 0, 0), none, none],
  [some (.aload_n 0, 1, 0, 0, 0, 0), some (.iconst 1, 1, 0, 0, 0, 0), some (.aload_n 0, 1, 0, 0, 0, 0), some (.getfield 233, 3, 12, 35, 0, 1253), none, none, some (.invokevirtual 258, 3, 153, 3, 12, 1553), none, none, some (.aload_n 0, 1, 0, 0, 0, 0), some (.iload_n 1, 1, 0, 0, 0, 0), some (.invokevirtual 266, 3, 157, 2, 12, 1579), none, none, some (.iconst 1, 1, 0, 0, 0, 0), some (.ireturn, 1, 1, 0, 0, 0)],
  [some (.aload_n 0, 1, 0, 0, 0, 0), some (.invokevirtual 276, 3, 156, 1, 12, 1613), none, none, some (.invokestatic 307, 3, 164, 1, 1, 1617), none, none, some (.ifCond .eq 25, 3, 0, 0, 0, 0), none, none, some (.aload_n 0, 1, 0, 0, 0, 0), some (.aload_n 0, 1, 0, 0, 0, 0), some (.invokevirtual 276, 3, 156, 1, 12, 1613), none, none, some (.iconst 0, 1, 0, 0, 0, 0)],
  [some (.invokevirtual 285, 3, 155, 3, 12, 1592), none, none, some (.aload_n 0, 1, 0, 0, 0, 0), some (.dup, 1, 0, 0, 0, 0), some (.getfield 252, 3, 12, 41, 0, 1259), none, none, some (.iconst 1, 1, 0, 0, 0, 0), some (.isub, 1, 0, 0, 0, 0), some (.putfield 252, 3, 12, 41, 0, 1259), none, none, some (.goto 12, 3, 0, 0, 0, 0), none, none],
  [some (.aload_n 0, 1, 0, 0, 0, 0), some (.iconst 1, 1, 0, 0, 0, 0), some (.aload_n 0, 1, 0, 0, 0, 0), some (.getfield 233, 3, 12, 35, 0, 1253), none, none, some (.invokevirtual 258, 3, 153, 3, 12, 1553), none, none, some (.iconst 0, 1, 0, 0, 0, 0), some (.ireturn, 1, 1, 0, 0, 0)]]
/-- 171: PurseTraceModel.piece()V -/
noncomputable def am_o171 : List (List (Option am_Op)) := [[some (.aload_n 0, 1, 0, 0, 0, 0), some (.invokevirtual 242, 3, 154, 1, 12, 1541), none, none, some (.ifCond .eq 28, 3, 0, 0, 0, 0), none, none, some (.aload_n 0, 1, 0, 0, 0, 0), some (.invokevirtual 262, 3, 152, 1, 12, 1549), none, none, some (.bipush 33, 2, 0, 0, 0, 0), none, some (.if_icmp .eq 12, 3, 0, 0, 0, 0), none, none],
  [some (.aload_n 0, 1, 0, 0, 0, 0), some (.invokevirtual 262, 3, 152, 1, 12, 1549), none, none, some (.bipush 40, 2, 0, 0, 0, 0), none, some (.if_icmp .ne 10, 3, 0, 0, 0, 0), none, none, some (.aload_n 0, 1, 0, 0, 0, 0), some (.invokevirtual 288, 3, 158, 1, 12, 1575), none, none, some (.goto (-29), 3, 0, 0, 0, 0), none, none],
  [some (.iconst 1, 1, 0, 0, 0, 0), some (.istore_n 1, 1, 0, 0, 0, 0), some (.aload_n 0, 1, 0, 0, 0, 0), some (.iconst 0, 1, 0, 0, 0, 0), some (.putfield 303, 3, 12, 43, 0, 1261), none, none, some (.iload_n 1, 1, 0, 0, 0, 0), some (.ifCond .eq 49, 3, 0, 0, 0, 0), none, none, some (.aload_n 0, 1, 0, 0, 0, 0), some (.invokevirtual 242, 3, 154, 1, 12, 1541), none, none, some (.ifCond .eq 42, 3, 0, 0, 0, 0)],
  [none, none, some (.aload_n 0, 1, 0, 0, 0, 0), some (.getfield 303, 3, 12, 43, 0, 1261), none, none, some (.ifCond .ne 7, 3, 0, 0, 0, 0), none, none, some (.aload_n 0, 1, 0, 0, 0, 0), some (.invokevirtual 310, 3, 169, 1, 12, 1587), none, none, some (.aload_n 0, 1, 0, 0, 0, 0), some (.iconst 0, 1, 0, 0, 0, 0), some (.putfield 303, 3, 12, 43, 0, 1261)],
  [none, none, some (.aload_n 0, 1, 0, 0, 0, 0), some (.invokevirtual 242, 3, 154, 1, 12, 1541), none, none, some (.ifCond .eq 14, 3, 0, 0, 0, 0), none, none, some (.aload_n 0, 1, 0, 0, 0, 0), some (.invokevirtual 313, 3, 170, 1, 12, 1599), none, none, some (.ifCond .eq 7, 3, 0, 0, 0, 0), none, none],
  [some (.iconst 1, 1, 0, 0, 0, 0), some (.goto 4, 3, 0, 0, 0, 0), none, none, some (.iconst 0, 1, 0, 0, 0, 0), some (.istore_n 1, 1, 0, 0, 0, 0), some (.goto (-47), 3, 0, 0, 0, 0), none, none, some (.aload_n 0, 1, 0, 0, 0, 0), some (.invokevirtual 242, 3, 154, 1, 12, 1541), none, none, some (.ifCond .eq 7, 3, 0, 0, 0, 0), none, none],
  [some (.aload_n 0, 1, 0, 0, 0, 0), some (.invokevirtual 316, 3, 168, 1, 12, 1620), none, none, some (.return_, 1, 0, 0, 0, 0)]]
/-- 172: PurseTraceModel.goesBehind()Z -/
noncomputable def am_o172 : List (List (Option am_Op)) := [[some (.aload_n 0, 1, 0, 0, 0, 0), some (.invokevirtual 262, 3, 152, 1, 12, 1549), none, none, some (.istore_n 1, 1, 0, 0, 0, 0), some (.iload_n 1, 1, 0, 0, 0, 0), some (.bipush 38, 2, 0, 0, 0, 0), none, some (.if_icmp .eq 9, 3, 0, 0, 0, 0), none, none, some (.iload_n 1, 1, 0, 0, 0, 0), some (.bipush 124, 2, 0, 0, 0, 0), none, some (.if_icmp .ne 25, 3, 0, 0, 0, 0), none],
  [none, some (.aload_n 0, 1, 0, 0, 0, 0), some (.iload_n 1, 1, 0, 0, 0, 0), some (.bipush 124, 2, 0, 0, 0, 0), none, some (.if_icmp .ne 7, 3, 0, 0, 0, 0), none, none, some (.iconst 1, 1, 0, 0, 0, 0), some (.goto 4, 3, 0, 0, 0, 0), none, none, some (.iconst 0, 1, 0, 0, 0, 0), some (.invokevirtual 319, 3, 167, 2, 12, 1628), none, none],
  [some (.aload_n 0, 1, 0, 0, 0, 0), some (.iload_n 1, 1, 0, 0, 0, 0), some (.invokevirtual 266, 3, 157, 2, 12, 1579), none, none, some (.iconst 1, 1, 0, 0, 0, 0), some (.ireturn, 1, 1, 0, 0, 0), some (.iload_n 1, 1, 0, 0, 0, 0), some (.bipush 41, 2, 0, 0, 0, 0), none, some (.if_icmp .eq 14, 3, 0, 0, 0, 0), none, none, some (.aload_n 0, 1, 0, 0, 0, 0), some (.iconst 1, 1, 0, 0, 0, 0), some (.aload_n 0, 1, 0, 0, 0, 0)],
  [some (.getfield 233, 3, 12, 35, 0, 1253), none, none, some (.invokevirtual 258, 3, 153, 3, 12, 1553), none, none, some (.iconst 0, 1, 0, 0, 0, 0), some (.ireturn, 1, 1, 0, 0, 0), some (.aload_n 0, 1, 0, 0, 0, 0), some (.iconst 1, 1, 0, 0, 0, 0), some (.invokevirtual 319, 3, 167, 2, 12, 1628), none, none, some (.aload_n 0, 1, 0, 0, 0, 0), some (.dup, 1, 0, 0, 0, 0), some (.getfield 252, 3, 12, 41, 0, 1259)],
  [none, none, some (.iconst 1, 1, 0, 0, 0, 0), some (.isub, 1, 0, 0, 0, 0), some (.putfield 252, 3, 12, 41, 0, 1259), none, none, some (.aload_n 0, 1, 0, 0, 0, 0), some (.dup, 1, 0, 0, 0, 0), some (.getfield 255, 3, 12, 40, 0, 1258), none, none, some (.iconst 1, 1, 0, 0, 0, 0), some (.isub, 1, 0, 0, 0, 0), some (.putfield 255, 3, 12, 40, 0, 1258), none],
  [none, some (.aload_n 0, 1, 0, 0, 0, 0), some (.dup, 1, 0, 0, 0, 0), some (.getfield 233, 3, 12, 35, 0, 1253), none, none, some (.iconst 1, 1, 0, 0, 0, 0), some (.iadd, 1, 0, 0, 0, 0), some (.putfield 233, 3, 12, 35, 0, 1253), none, none, some (.aload_n 0, 1, 0, 0, 0, 0), some (.aload_n 0, 1, 0, 0, 0, 0), some (.getfield 252, 3, 12, 41, 0, 1259), none, none],
  [some (.ifCond .ne 7, 3, 0, 0, 0, 0), none, none, some (.iconst 1, 1, 0, 0, 0, 0), some (.goto 4, 3, 0, 0, 0, 0), none, none, some (.iconst 0, 1, 0, 0, 0, 0), some (.putfield 322, 3, 12, 42, 0, 1260), none, none, some (.aload_n 0, 1, 0, 0, 0, 0), some (.getfield 322, 3, 12, 42, 0, 1260), none, none, some (.ifCond .ne 7, 3, 0, 0, 0, 0)],
  [none, none, some (.aload_n 0, 1, 0, 0, 0, 0), some (.invokevirtual 316, 3, 168, 1, 12, 1620), none, none, some (.iconst 0, 1, 0, 0, 0, 0), some (.ireturn, 1, 1, 0, 0, 0)]]
/-- 173: PurseTraceModel.condition()V -/
noncomputable def am_o173 : List (List (Option am_Op)) := [[some (.aload_n 0, 1, 0, 0, 0, 0), some (.iconst 0, 1, 0, 0, 0, 0), some (.putfield 252, 3, 12, 41, 0, 1259), none, none, some (.aload_n 0, 1, 0, 0, 0, 0), some (.iconst 0, 1, 0, 0, 0, 0), some (.putfield 255, 3, 12, 40, 0, 1258), none, none, some (.aload_n 0, 1, 0, 0, 0, 0), some (.iconst 0, 1, 0, 0, 0, 0), some (.putfield 322, 3, 12, 42, 0, 1260), none, none, some (.aload_n 0, 1, 0, 0, 0, 0)],
  [some (.invokevirtual 262, 3, 152, 1, 12, 1549), none, none, some (.bipush 40, 2, 0, 0, 0, 0), none, some (.if_icmp .eq 12, 3, 0, 0, 0, 0), none, none, some (.aload_n 0, 1, 0, 0, 0, 0), some (.iconst 1, 1, 0, 0, 0, 0), some (.aload_n 0, 1, 0, 0, 0, 0), some (.getfield 233, 3, 12, 35, 0, 1253), none, none, some (.invokevirtual 258, 3, 153, 3, 12, 1553), none],
  [none, some (.aload_n 0, 1, 0, 0, 0, 0), some (.invokevirtual 242, 3, 154, 1, 12, 1541), none, none, some (.ifCond .ne 4, 3, 0, 0, 0, 0), none, none, some (.return_, 1, 0, 0, 0, 0), some (.aload_n 0, 1, 0, 0, 0, 0), some (.invokevirtual 288, 3, 158, 1, 12, 1575), none, none, some (.iconst 1, 1, 0, 0, 0, 0), some (.istore_n 1, 1, 0, 0, 0, 0), some (.aload_n 0, 1, 0, 0, 0, 0)],
  [some (.invokevirtual 242, 3, 154, 1, 12, 1541), none, none, some (.ifCond .eq 33, 3, 0, 0, 0, 0), none, none, some (.aload_n 0, 1, 0, 0, 0, 0), some (.getfield 322, 3, 12, 42, 0, 1260), none, none, some (.ifCond .ne 26, 3, 0, 0, 0, 0), none, none, some (.iload_n 1, 1, 0, 0, 0, 0), some (.ifCond .eq 7, 3, 0, 0, 0, 0), none],
  [none, some (.aload_n 0, 1, 0, 0, 0, 0), some (.invokevirtual 325, 3, 171, 1, 12, 1583), none, none, some (.aload_n 0, 1, 0, 0, 0, 0), some (.invokevirtual 242, 3, 154, 1, 12, 1541), none, none, some (.ifCond .eq (-26), 3, 0, 0, 0, 0), none, none, some (.aload_n 0, 1, 0, 0, 0, 0), some (.invokevirtual 328, 3, 172, 1, 12, 1624), none, none],
  [some (.istore_n 1, 1, 0, 0, 0, 0), some (.goto (-34), 3, 0, 0, 0, 0), none, none, some (.return_, 1, 0, 0, 0, 0)]]
/-- 174: PurseTraceModel.clause()V -/
noncomputable def am_o174 : List (List (Option am_Op)) := [[some (.aload_n 0, 1, 0, 0, 0, 0), some (.invokevirtual 262, 3, 152, 1, 12, 1549), none, none, some (.istore_n 1, 1, 0, 0, 0, 0), some (.iload_n 1, 1, 0, 0, 0, 0), some (.bipush 119, 2, 0, 0, 0, 0), none, some (.if_icmp .eq 33, 3, 0, 0, 0, 0), none, none, some (.iload_n 1, 1, 0, 0, 0, 0), some (.bipush 114, 2, 0, 0, 0, 0), none, some (.if_icmp .eq 27, 3, 0, 0, 0, 0), none],
  [none, some (.iload_n 1, 1, 0, 0, 0, 0), some (.bipush 103, 2, 0, 0, 0, 0), none, some (.if_icmp .eq 21, 3, 0, 0, 0, 0), none, none, some (.iload_n 1, 1, 0, 0, 0, 0), some (.bipush 120, 2, 0, 0, 0, 0), none, some (.if_icmp .eq 15, 3, 0, 0, 0, 0), none, none, some (.aload_n 0, 1, 0, 0, 0, 0), some (.iconst 1, 1, 0, 0, 0, 0), some (.aload_n 0, 1, 0, 0, 0, 0)],
  [some (.getfield 233, 3, 12, 35, 0, 1253), none, none, some (.invokevirtual 258, 3, 153, 3, 12, 1553), none, none, some (.goto 21, 3, 0, 0, 0, 0), none, none, some (.aload_n 0, 1, 0, 0, 0, 0), some (.getfield 331, 3, 12, 38, 0, 1256), none, none, some (.bipush 12, 2, 0, 0, 0, 0), none, some (.if_icmp .ne 12, 3, 0, 0, 0, 0)],
  [none, none, some (.aload_n 0, 1, 0, 0, 0, 0), some (.iconst 4, 1, 0, 0, 0, 0), some (.aload_n 0, 1, 0, 0, 0, 0), some (.getfield 233, 3, 12, 35, 0, 1253), none, none, some (.invokevirtual 258, 3, 153, 3, 12, 1553), none, none, some (.aload_n 0, 1, 0, 0, 0, 0), some (.invokevirtual 242, 3, 154, 1, 12, 1541), none, none, some (.ifCond .ne 4, 3, 0, 0, 0, 0)],
  [none, none, some (.return_, 1, 0, 0, 0, 0), some (.bipush 12, 2, 0, 0, 0, 0), none, some (.aload_n 0, 1, 0, 0, 0, 0), some (.getfield 246, 3, 12, 7, 0, 1225), none, none, some (.imul, 1, 0, 0, 0, 0), some (.aload_n 0, 1, 0, 0, 0, 0), some (.getfield 331, 3, 12, 38, 0, 1256), none, none, some (.iadd, 1, 0, 0, 0, 0), some (.istore_n 2, 1, 0, 0, 0, 0)],
  [some (.aload_n 0, 1, 0, 0, 0, 0), some (.getfield 66, 3, 12, 28, 0, 1246), none, none, some (.iload_n 2, 1, 0, 0, 0, 0), some (.iload_n 1, 1, 0, 0, 0, 0), some (.iastore, 1, 0, 0, 0, 0), some (.aload_n 0, 1, 0, 0, 0, 0), some (.getfield 69, 3, 12, 29, 0, 1247), none, none, some (.iload_n 2, 1, 0, 0, 0, 0), some (.iconst 0, 1, 0, 0, 0, 0), some (.iastore, 1, 0, 0, 0, 0), some (.aload_n 0, 1, 0, 0, 0, 0), some (.getfield 72, 3, 12, 30, 0, 1248)],
  [none, none, some (.iload_n 2, 1, 0, 0, 0, 0), some (.iconst 0, 1, 0, 0, 0, 0), some (.iastore, 1, 0, 0, 0, 0), some (.aload_n 0, 1, 0, 0, 0, 0), some (.getfield 75, 3, 12, 31, 0, 1249), none, none, some (.iload_n 2, 1, 0, 0, 0, 0), some (.aload_n 0, 1, 0, 0, 0, 0), some (.getfield 249, 3, 12, 39, 0, 1257), none, none, some (.iastore, 1, 0, 0, 0, 0), some (.aload_n 0, 1, 0, 0, 0, 0)],
  [some (.dup, 1, 0, 0, 0, 0), some (.getfield 233, 3, 12, 35, 0, 1253), none, none, some (.iconst 1, 1, 0, 0, 0, 0), some (.iadd, 1, 0, 0, 0, 0), some (.putfield 233, 3, 12, 35, 0, 1253), none, none, some (.iload_n 1, 1, 0, 0, 0, 0), some (.bipush 119, 2, 0, 0, 0, 0), none, some (.if_icmp .ne 14, 3, 0, 0, 0, 0), none, none, some (.aload_n 0, 1, 0, 0, 0, 0)],
  [some (.getfield 69, 3, 12, 29, 0, 1247), none, none, some (.iload_n 2, 1, 0, 0, 0, 0), some (.aload_n 0, 1, 0, 0, 0, 0), some (.iconst 4, 1, 0, 0, 0, 0), some (.invokevirtual 292, 3, 160, 2, 12, 1557), none, none, some (.iastore, 1, 0, 0, 0, 0), some (.iload_n 1, 1, 0, 0, 0, 0), some (.bipush 120, 2, 0, 0, 0, 0), none, some (.if_icmp .ne 50, 3, 0, 0, 0, 0), none, none],
  [some (.aload_n 0, 1, 0, 0, 0, 0), some (.getfield 69, 3, 12, 29, 0, 1247), none, none, some (.iload_n 2, 1, 0, 0, 0, 0), some (.aload_n 0, 1, 0, 0, 0, 0), some (.bipush 19, 2, 0, 0, 0, 0), none, some (.invokevirtual 292, 3, 160, 2, 12, 1557), none, none, some (.iastore, 1, 0, 0, 0, 0), some (.aload_n 0, 1, 0, 0, 0, 0), some (.invokevirtual 242, 3, 154, 1, 12, 1541), none, none],
  [some (.ifCond .eq 9, 3, 0, 0, 0, 0), none, none, some (.aload_n 0, 1, 0, 0, 0, 0), some (.bipush 46, 2, 0, 0, 0, 0), none, some (.invokevirtual 334, 3, 161, 2, 12, 1567), none, none, some (.aload_n 0, 1, 0, 0, 0, 0), some (.invokevirtual 242, 3, 154, 1, 12, 1541), none, none, some (.ifCond .eq 29, 3, 0, 0, 0, 0), none, none],
  [some (.aload_n 0, 1, 0, 0, 0, 0), some (.getfield 72, 3, 12, 30, 0, 1248), none, none, some (.iload_n 2, 1, 0, 0, 0, 0), some (.aload_n 0, 1, 0, 0, 0, 0), some (.bipush 11, 2, 0, 0, 0, 0), none, some (.invokevirtual 292, 3, 160, 2, 12, 1557), none, none, some (.iastore, 1, 0, 0, 0, 0), some (.goto 14, 3, 0, 0, 0, 0), none, none, some (.aload_n 0, 1, 0, 0, 0, 0)],
  [some (.invokevirtual 242, 3, 154, 1, 12, 1541), none, none, some (.ifCond .eq 7, 3, 0, 0, 0, 0), none, none, some (.aload_n 0, 1, 0, 0, 0, 0), some (.invokevirtual 337, 3, 173, 1, 12, 1571), none, none, some (.aload_n 0, 1, 0, 0, 0, 0), some (.getfield 78, 3, 12, 32, 0, 1250), none, none, some (.iload_n 2, 1, 0, 0, 0, 0), some (.aload_n 0, 1, 0, 0, 0, 0)],
  [some (.getfield 249, 3, 12, 39, 0, 1257), none, none, some (.iastore, 1, 0, 0, 0, 0), some (.aload_n 0, 1, 0, 0, 0, 0), some (.dup, 1, 0, 0, 0, 0), some (.getfield 331, 3, 12, 38, 0, 1256), none, none, some (.iconst 1, 1, 0, 0, 0, 0), some (.iadd, 1, 0, 0, 0, 0), some (.putfield 331, 3, 12, 38, 0, 1256), none, none, some (.return_, 1, 0, 0, 0, 0)]]
/-- 175: PurseTraceModel.rules(IIII)I -/
noncomputable def am_o175 : List (List (Option am_Op)) := [[some (.aload_n 0, 1, 0, 0, 0, 0), some (.getfield 246, 3, 12, 7, 0, 1225), none, none, some (.bipush 20, 2, 0, 0, 0, 0), none, some (.if_icmp .eq 56, 3, 0, 0, 0, 0), none, none, some (.iload_n 1, 1, 0, 0, 0, 0), some (.i2l, 1, 0, 0, 0, 0), some (.lconst 0, 1, 0, 0, 0, 0), some (.ldc2_w 204, 3, 0, 0, 3, 1486), none, none, some (.invokestatic 185, 3, 134, 3, 1, 1471)],
  [none, none, some (.ifCond .eq 44, 3, 0, 0, 0, 0), none, none, some (.iload_n 2, 1, 0, 0, 0, 0), some (.invokestatic 340, 3, 139, 1, 1, 1537), none, none, some (.ifCond .eq 37, 3, 0, 0, 0, 0), none, none, some (.iload_n 3, 1, 0, 0, 0, 0), some (.invokestatic 340, 3, 139, 1, 1, 1537), none, none],
  [some (.ifCond .eq 30, 3, 0, 0, 0, 0), none, none, some (.iload_n 3, 1, 0, 0, 0, 0), some (.iload_n 2, 1, 0, 0, 0, 0), some (.if_icmp .lt 25, 3, 0, 0, 0, 0), none, none, some (.iload 4, 2, 0, 0, 0, 0), none, some (.i2l, 1, 0, 0, 0, 0), some (.lconst 1, 1, 0, 0, 0, 0), some (.ldc2_w 343, 3, 0, 0, 160, 1540), none, none, some (.invokestatic 185, 3, 134, 3, 1, 1471)],
  [none, none, some (.ifCond .eq 12, 3, 0, 0, 0, 0), none, none, some (.iload 4, 2, 0, 0, 0, 0), none, some (.aload_n 0, 1, 0, 0, 0, 0), some (.getfield 226, 3, 12, 1, 0, 1219), none, none, some (.if_icmp .le 5, 3, 0, 0, 0, 0), none, none, some (.iconst (-1), 1, 0, 0, 0, 0), some (.ireturn, 1, 0, 0, 0, 0)],
  [some (.aload_n 0, 1, 0, 0, 0, 0), some (.iconst 0, 1, 0, 0, 0, 0), some (.putfield 226, 3, 12, 1, 0, 1219), none, none, some (.aload_n 0, 1, 0, 0, 0, 0), some (.iconst 0, 1, 0, 0, 0, 0), some (.putfield 233, 3, 12, 35, 0, 1253), none, none, some (.aload_n 0, 1, 0, 0, 0, 0), some (.iload 4, 2, 0, 0, 0, 0), none, some (.putfield 236, 3, 12, 36, 0, 1254), none, none],
  [some (.aload_n 0, 1, 0, 0, 0, 0), some (.iconst 0, 1, 0, 0, 0, 0), some (.putfield 239, 3, 12, 37, 0, 1255), none, none, some (.aload_n 0, 1, 0, 0, 0, 0), some (.iconst 0, 1, 0, 0, 0, 0), some (.putfield 331, 3, 12, 38, 0, 1256), none, none, some (.aload_n 0, 1, 0, 0, 0, 0), some (.iconst 0, 1, 0, 0, 0, 0), some (.putfield 249, 3, 12, 39, 0, 1257), none, none, some (.iconst 1, 1, 0, 0, 0, 0)],
  [some (.istore 5, 2, 0, 0, 0, 0), none, some (.iload 5, 2, 0, 0, 0, 0), none, some (.ifCond .eq 53, 3, 0, 0, 0, 0), none, none, some (.aload_n 0, 1, 0, 0, 0, 0), some (.invokevirtual 242, 3, 154, 1, 12, 1541), none, none, some (.ifCond .eq 46, 3, 0, 0, 0, 0), none, none, some (.aload_n 0, 1, 0, 0, 0, 0), some (.invokevirtual 345, 3, 174, 1, 12, 1545)],
  [none, none, some (.aload_n 0, 1, 0, 0, 0, 0), some (.invokevirtual 242, 3, 154, 1, 12, 1541), none, none, some (.ifCond .eq 18, 3, 0, 0, 0, 0), none, none, some (.aload_n 0, 1, 0, 0, 0, 0), some (.getfield 233, 3, 12, 35, 0, 1253), none, none, some (.aload_n 0, 1, 0, 0, 0, 0), some (.getfield 236, 3, 12, 36, 0, 1254), none],
  [none, some (.if_icmp .ge 7, 3, 0, 0, 0, 0), none, none, some (.iconst 1, 1, 0, 0, 0, 0), some (.goto 4, 3, 0, 0, 0, 0), none, none, some (.iconst 0, 1, 0, 0, 0, 0), some (.istore 5, 2, 0, 0, 0, 0), none, some (.iload 5, 2, 0, 0, 0, 0), none, some (.ifCond .eq (-43), 3, 0, 0, 0, 0), none, none],
  [some (.aload_n 0, 1, 0, 0, 0, 0), some (.bipush 59, 2, 0, 0, 0, 0), none, some (.invokevirtual 334, 3, 161, 2, 12, 1567), none, none, some (.goto (-52), 3, 0, 0, 0, 0), none, none, some (.aload_n 0, 1, 0, 0, 0, 0), some (.getfield 239, 3, 12, 37, 0, 1255), none, none, some (.ifCond .ge 8, 3, 0, 0, 0, 0), none, none],
  [some (.aload_n 0, 1, 0, 0, 0, 0), some (.getfield 239, 3, 12, 37, 0, 1255), none, none, some (.ireturn, 1, 0, 0, 0, 0), some (.aload_n 0, 1, 0, 0, 0, 0), some (.getfield 51, 3, 12, 23, 0, 1241), none, none, some (.aload_n 0, 1, 0, 0, 0, 0), some (.getfield 246, 3, 12, 7, 0, 1225), none, none, some (.iload_n 1, 1, 0, 0, 0, 0), some (.iastore, 1, 0, 0, 0, 0), some (.aload_n 0, 1, 0, 0, 0, 0)],
  [some (.getfield 54, 3, 12, 24, 0, 1242), none, none, some (.aload_n 0, 1, 0, 0, 0, 0), some (.getfield 246, 3, 12, 7, 0, 1225), none, none, some (.iload_n 2, 1, 0, 0, 0, 0), some (.iastore, 1, 0, 0, 0, 0), some (.aload_n 0, 1, 0, 0, 0, 0), some (.getfield 57, 3, 12, 25, 0, 1243), none, none, some (.aload_n 0, 1, 0, 0, 0, 0), some (.getfield 246, 3, 12, 7, 0, 1225), none],
  [none, some (.iload_n 3, 1, 0, 0, 0, 0), some (.iastore, 1, 0, 0, 0, 0), some (.aload_n 0, 1, 0, 0, 0, 0), some (.getfield 60, 3, 12, 26, 0, 1244), none, none, some (.aload_n 0, 1, 0, 0, 0, 0), some (.getfield 246, 3, 12, 7, 0, 1225), none, none, some (.aload_n 0, 1, 0, 0, 0, 0), some (.getfield 197, 3, 12, 2, 0, 1220), none, none, some (.iastore, 1, 0, 0, 0, 0)],
  [some (.aload_n 0, 1, 0, 0, 0, 0), some (.getfield 63, 3, 12, 27, 0, 1245), none, none, some (.aload_n 0, 1, 0, 0, 0, 0), some (.getfield 246, 3, 12, 7, 0, 1225), none, none, some (.aload_n 0, 1, 0, 0, 0, 0), some (.getfield 331, 3, 12, 38, 0, 1256), none, none, some (.iastore, 1, 0, 0, 0, 0), some (.aload_n 0, 1, 0, 0, 0, 0), some (.dup, 1, 0, 0, 0, 0), some (.getfield 246, 3, 12, 7, 0, 1225)],
  [none, none, some (.iconst 1, 1, 0, 0, 0, 0), some (.iadd, 1, 0, 0, 0, 0), some (.putfield 246, 3, 12, 7, 0, 1225), none, none, some (.aload_n 0, 1, 0, 0, 0, 0), some (.getfield 246, 3, 12, 7, 0, 1225), none, none, some (.iconst 1, 1, 0, 0, 0, 0), some (.isub, 1, 0, 0, 0, 0), some (.ireturn, 1, 0, 0, 0, 0)]]
/-- 176: PurseTraceModel.knows(III)Z -/
noncomputable def am_o176 : List (List (Option am_Op)) := [[some (.aload_n 0, 1, 0, 0, 0, 0), some (.getfield 348, 3, 12, 8, 0, 1226), none, none, some (.bipush 100, 2, 0, 0, 0, 0), none, some (.if_icmp .eq 31, 3, 0, 0, 0, 0), none, none, some (.aload_n 0, 1, 0, 0, 0, 0), some (.iload_n 1, 1, 0, 0, 0, 0), some (.invokevirtual 200, 3, 136, 2, 12, 1482), none, none, some (.ifCond .eq 23, 3, 0, 0, 0, 0), none],
  [none, some (.aload_n 0, 1, 0, 0, 0, 0), some (.iload_n 2, 1, 0, 0, 0, 0), some (.invokevirtual 200, 3, 136, 2, 12, 1482), none, none, some (.ifCond .eq 15, 3, 0, 0, 0, 0), none, none, some (.iload_n 1, 1, 0, 0, 0, 0), some (.iload_n 2, 1, 0, 0, 0, 0), some (.if_icmp .eq 10, 3, 0, 0, 0, 0), none, none, some (.iload_n 3, 1, 0, 0, 0, 0), some (.invokestatic 340, 3, 139, 1, 1, 1537)],
  [none, none, some (.ifCond .ne 5, 3, 0, 0, 0, 0), none, none, some (.iconst 0, 1, 0, 0, 0, 0), some (.ireturn, 1, 1, 0, 0, 0), some (.aload_n 0, 1, 0, 0, 0, 0), some (.getfield 90, 3, 12, 45, 0, 1263), none, none, some (.aload_n 0, 1, 0, 0, 0, 0), some (.getfield 348, 3, 12, 8, 0, 1226), none, none, some (.iload_n 1, 1, 0, 0, 0, 0)],
  [some (.iastore, 1, 0, 0, 0, 0), some (.aload_n 0, 1, 0, 0, 0, 0), some (.getfield 93, 3, 12, 46, 0, 1264), none, none, some (.aload_n 0, 1, 0, 0, 0, 0), some (.getfield 348, 3, 12, 8, 0, 1226), none, none, some (.iload_n 2, 1, 0, 0, 0, 0), some (.iastore, 1, 0, 0, 0, 0), some (.aload_n 0, 1, 0, 0, 0, 0), some (.getfield 96, 3, 12, 47, 0, 1265), none, none, some (.aload_n 0, 1, 0, 0, 0, 0)],
  [some (.getfield 348, 3, 12, 8, 0, 1226), none, none, some (.iload_n 3, 1, 0, 0, 0, 0), some (.iastore, 1, 0, 0, 0, 0), some (.aload_n 0, 1, 0, 0, 0, 0), some (.getfield 99, 3, 12, 48, 0, 1266), none, none, some (.aload_n 0, 1, 0, 0, 0, 0), some (.getfield 348, 3, 12, 8, 0, 1226), none, none, some (.aload_n 0, 1, 0, 0, 0, 0), some (.getfield 197, 3, 12, 2, 0, 1220), none],
  [none, some (.iastore, 1, 0, 0, 0, 0), some (.aload_n 0, 1, 0, 0, 0, 0), some (.dup, 1, 0, 0, 0, 0), some (.getfield 348, 3, 12, 8, 0, 1226), none, none, some (.iconst 1, 1, 0, 0, 0, 0), some (.iadd, 1, 0, 0, 0, 0), some (.putfield 348, 3, 12, 8, 0, 1226), none, none, some (.iconst 1, 1, 0, 0, 0, 0), some (.ireturn, 1, 1, 0, 0, 0)]]
/-- 177: PurseTraceModel.knew(IIII)Z -/
noncomputable def am_o177 : List (List (Option am_Op)) := [[some (.iconst 0, 1, 0, 0, 0, 0), some (.istore 5, 2, 0, 0, 0, 0), none, some (.iload 5, 2, 0, 0, 0, 0), none, some (.aload_n 0, 1, 0, 0, 0, 0), some (.getfield 348, 3, 12, 8, 0, 1226), none, none, some (.if_icmp .ge 56, 3, 0, 0, 0, 0), none, none, some (.aload_n 0, 1, 0, 0, 0, 0), some (.getfield 90, 3, 12, 45, 0, 1263), none, none],
  [some (.iload 5, 2, 0, 0, 0, 0), none, some (.iaload, 1, 0, 0, 0, 0), some (.iload_n 1, 1, 0, 0, 0, 0), some (.if_icmp .ne 39, 3, 0, 0, 0, 0), none, none, some (.aload_n 0, 1, 0, 0, 0, 0), some (.getfield 93, 3, 12, 46, 0, 1264), none, none, some (.iload 5, 2, 0, 0, 0, 0), none, some (.iaload, 1, 0, 0, 0, 0), some (.iload_n 2, 1, 0, 0, 0, 0), some (.if_icmp .ne 28, 3, 0, 0, 0, 0)],
  [none, none, some (.aload_n 0, 1, 0, 0, 0, 0), some (.getfield 96, 3, 12, 47, 0, 1265), none, none, some (.iload 5, 2, 0, 0, 0, 0), none, some (.iaload, 1, 0, 0, 0, 0), some (.iload_n 3, 1, 0, 0, 0, 0), some (.if_icmp .gt 17, 3, 0, 0, 0, 0), none, none, some (.aload_n 0, 1, 0, 0, 0, 0), some (.getfield 99, 3, 12, 48, 0, 1266), none],
  [none, some (.iload 5, 2, 0, 0, 0, 0), none, some (.iaload, 1, 0, 0, 0, 0), some (.iload 4, 2, 0, 0, 0, 0), none, some (.if_icmp .gt 5, 3, 0, 0, 0, 0), none, none, some (.iconst 1, 1, 0, 0, 0, 0), some (.ireturn, 1, 1, 0, 0, 0), some (.iinc 5 1, 3, 0, 0, 0, 0), none, none, some (.goto (-59), 3, 0, 0, 0, 0), none],
  [none, some (.iconst 0, 1, 0, 0, 0, 0), some (.ireturn, 1, 1, 0, 0, 0)]]
/-- 178: PurseTraceModel.empties()V -/
noncomputable def am_o178 : List (List (Option am_Op)) := [[some (.iconst 0, 1, 0, 0, 0, 0), some (.istore_n 1, 1, 0, 0, 0, 0), some (.iload_n 1, 1, 0, 0, 0, 0), some (.bipush 10, 2, 0, 0, 0, 0), none, some (.if_icmp .ge 16, 3, 0, 0, 0, 0), none, none, some (.aload_n 0, 1, 0, 0, 0, 0), some (.getfield 102, 3, 12, 49, 0, 1267), none, none, some (.iload_n 1, 1, 0, 0, 0, 0), some (.iconst 0, 1, 0, 0, 0, 0), some (.iastore, 1, 0, 0, 0, 0), some (.iinc 1 1, 3, 0, 0, 0, 0)],
  [none, none, some (.goto (-16), 3, 0, 0, 0, 0), none, none, some (.iconst 0, 1, 0, 0, 0, 0), some (.istore_n 1, 1, 0, 0, 0, 0), some (.iload_n 1, 1, 0, 0, 0, 0), some (.bipush 100, 2, 0, 0, 0, 0), none, some (.if_icmp .ge 23, 3, 0, 0, 0, 0), none, none, some (.aload_n 0, 1, 0, 0, 0, 0), some (.getfield 111, 3, 12, 52, 0, 1270), none],
  [none, some (.iload_n 1, 1, 0, 0, 0, 0), some (.iconst 0, 1, 0, 0, 0, 0), some (.iastore, 1, 0, 0, 0, 0), some (.aload_n 0, 1, 0, 0, 0, 0), some (.getfield 114, 3, 12, 53, 0, 1271), none, none, some (.iload_n 1, 1, 0, 0, 0, 0), some (.iconst 0, 1, 0, 0, 0, 0), some (.iastore, 1, 0, 0, 0, 0), some (.iinc 1 1, 3, 0, 0, 0, 0), none, none, some (.goto (-23), 3, 0, 0, 0, 0), none],
  [none, some (.return_, 1, 0, 0, 0, 0)]]
/-- 179: PurseTraceModel.lays(III)V -/
noncomputable def am_o179 : List (List (Option am_Op)) := [[some (.iload_n 3, 1, 0, 0, 0, 0), some (.ifCond .ne 4, 3, 0, 0, 0, 0), none, none, some (.return_, 1, 0, 0, 0, 0), some (.sipush 1400, 3, 0, 0, 0, 0), none, none, some (.iload_n 1, 1, 0, 0, 0, 0), some (.imul, 1, 0, 0, 0, 0), some (.aload_n 0, 1, 0, 0, 0, 0), some (.getfield 102, 3, 12, 49, 0, 1267), none, none, some (.iload_n 1, 1, 0, 0, 0, 0), some (.iaload, 1, 0, 0, 0, 0)],
  [some (.iadd, 1, 0, 0, 0, 0), some (.iconst 1, 1, 0, 0, 0, 0), some (.isub, 1, 0, 0, 0, 0), some (.istore 4, 2, 0, 0, 0, 0), none, some (.aload_n 0, 1, 0, 0, 0, 0), some (.getfield 102, 3, 12, 49, 0, 1267), none, none, some (.iload_n 1, 1, 0, 0, 0, 0), some (.iaload, 1, 0, 0, 0, 0), some (.ifCond .le 26, 3, 0, 0, 0, 0), none, none, some (.aload_n 0, 1, 0, 0, 0, 0), some (.getfield 105, 3, 12, 50, 0, 1268)],
  [none, none, some (.iload 4, 2, 0, 0, 0, 0), none, some (.iaload, 1, 0, 0, 0, 0), some (.iload_n 2, 1, 0, 0, 0, 0), some (.if_icmp .ne 15, 3, 0, 0, 0, 0), none, none, some (.aload_n 0, 1, 0, 0, 0, 0), some (.getfield 108, 3, 12, 51, 0, 1269), none, none, some (.iload 4, 2, 0, 0, 0, 0), none, some (.dup2, 1, 0, 0, 0, 0)],
  [some (.iaload, 1, 0, 0, 0, 0), some (.iload_n 3, 1, 0, 0, 0, 0), some (.iadd, 1, 0, 0, 0, 0), some (.iastore, 1, 0, 0, 0, 0), some (.return_, 1, 0, 0, 0, 0), some (.aload_n 0, 1, 0, 0, 0, 0), some (.getfield 105, 3, 12, 50, 0, 1268), none, none, some (.iload 4, 2, 0, 0, 0, 0), none, some (.iconst 1, 1, 0, 0, 0, 0), some (.iadd, 1, 0, 0, 0, 0), some (.iload_n 2, 1, 0, 0, 0, 0), some (.iastore, 1, 0, 0, 0, 0), some (.aload_n 0, 1, 0, 0, 0, 0)],
  [some (.getfield 108, 3, 12, 51, 0, 1269), none, none, some (.iload 4, 2, 0, 0, 0, 0), none, some (.iconst 1, 1, 0, 0, 0, 0), some (.iadd, 1, 0, 0, 0, 0), some (.iload_n 3, 1, 0, 0, 0, 0), some (.iastore, 1, 0, 0, 0, 0), some (.aload_n 0, 1, 0, 0, 0, 0), some (.getfield 102, 3, 12, 49, 0, 1267), none, none, some (.iload_n 1, 1, 0, 0, 0, 0), some (.dup2, 1, 0, 0, 0, 0), some (.iaload, 1, 0, 0, 0, 0)],
  [some (.iconst 1, 1, 0, 0, 0, 0), some (.iadd, 1, 0, 0, 0, 0), some (.iastore, 1, 0, 0, 0, 0), some (.return_, 1, 0, 0, 0, 0)]]
/-- 180: PurseTraceModel.allOf(I)I -/
noncomputable def am_o180 : List (List (Option am_Op)) := [[some (.iconst 0, 1, 0, 0, 0, 0), some (.istore_n 2, 1, 0, 0, 0, 0), some (.sipush 1400, 3, 0, 0, 0, 0), none, none, some (.iload_n 1, 1, 0, 0, 0, 0), some (.imul, 1, 0, 0, 0, 0), some (.istore_n 3, 1, 0, 0, 0, 0), some (.iload_n 3, 1, 0, 0, 0, 0), some (.sipush 1400, 3, 0, 0, 0, 0), none, none, some (.iload_n 1, 1, 0, 0, 0, 0), some (.imul, 1, 0, 0, 0, 0), some (.aload_n 0, 1, 0, 0, 0, 0), some (.getfield 102, 3, 12, 49, 0, 1267)],
  [none, none, some (.iload_n 1, 1, 0, 0, 0, 0), some (.iaload, 1, 0, 0, 0, 0), some (.iadd, 1, 0, 0, 0, 0), some (.if_icmp .ge 18, 3, 0, 0, 0, 0), none, none, some (.iload_n 2, 1, 0, 0, 0, 0), some (.aload_n 0, 1, 0, 0, 0, 0), some (.getfield 108, 3, 12, 51, 0, 1269), none, none, some (.iload_n 3, 1, 0, 0, 0, 0), some (.iaload, 1, 0, 0, 0, 0), some (.iadd, 1, 0, 0, 0, 0)],
  [some (.istore_n 2, 1, 0, 0, 0, 0), some (.iinc 3 1, 3, 0, 0, 0, 0), none, none, some (.goto (-28), 3, 0, 0, 0, 0), none, none, some (.iload_n 2, 1, 0, 0, 0, 0), some (.ireturn, 1, 0, 0, 0, 0)]]
/-- 181: PurseTraceModel.of(II)I -/
noncomputable def am_o181 : List (List (Option am_Op)) := [[some (.iconst 0, 1, 0, 0, 0, 0), some (.istore_n 3, 1, 0, 0, 0, 0), some (.sipush 1400, 3, 0, 0, 0, 0), none, none, some (.iload_n 1, 1, 0, 0, 0, 0), some (.imul, 1, 0, 0, 0, 0), some (.istore 4, 2, 0, 0, 0, 0), none, some (.iload 4, 2, 0, 0, 0, 0), none, some (.sipush 1400, 3, 0, 0, 0, 0), none, none, some (.iload_n 1, 1, 0, 0, 0, 0), some (.imul, 1, 0, 0, 0, 0)],
  [some (.aload_n 0, 1, 0, 0, 0, 0), some (.getfield 102, 3, 12, 49, 0, 1267), none, none, some (.iload_n 1, 1, 0, 0, 0, 0), some (.iaload, 1, 0, 0, 0, 0), some (.iadd, 1, 0, 0, 0, 0), some (.if_icmp .ge 34, 3, 0, 0, 0, 0), none, none, some (.iload_n 3, 1, 0, 0, 0, 0), some (.aload_n 0, 1, 0, 0, 0, 0), some (.getfield 105, 3, 12, 50, 0, 1268), none, none, some (.iload 4, 2, 0, 0, 0, 0)],
  [none, some (.iaload, 1, 0, 0, 0, 0), some (.iload_n 2, 1, 0, 0, 0, 0), some (.if_icmp .ne 13, 3, 0, 0, 0, 0), none, none, some (.aload_n 0, 1, 0, 0, 0, 0), some (.getfield 108, 3, 12, 51, 0, 1269), none, none, some (.iload 4, 2, 0, 0, 0, 0), none, some (.iaload, 1, 0, 0, 0, 0), some (.goto 4, 3, 0, 0, 0, 0), none, none],
  [some (.iconst 0, 1, 0, 0, 0, 0), some (.iadd, 1, 0, 0, 0, 0), some (.istore_n 3, 1, 0, 0, 0, 0), some (.iinc 4 1, 3, 0, 0, 0, 0), none, none, some (.goto (-45), 3, 0, 0, 0, 0), none, none, some (.iload_n 3, 1, 0, 0, 0, 0), some (.ireturn, 1, 0, 0, 0, 0)]]
/-- 182: PurseTraceModel.some(I)I -/
noncomputable def am_o182 : List (List (Option am_Op)) := [[some (.iconst 0, 1, 0, 0, 0, 0), some (.istore_n 2, 1, 0, 0, 0, 0), some (.iconst 0, 1, 0, 0, 0, 0), some (.istore_n 3, 1, 0, 0, 0, 0), some (.iload_n 3, 1, 0, 0, 0, 0), some (.aload_n 0, 1, 0, 0, 0, 0), some (.getfield 181, 3, 12, 3, 0, 1221), none, none, some (.if_icmp .ge 26, 3, 0, 0, 0, 0), none, none, some (.iload_n 2, 1, 0, 0, 0, 0), some (.aload_n 0, 1, 0, 0, 0, 0), some (.iload_n 1, 1, 0, 0, 0, 0), some (.iload_n 3, 1, 0, 0, 0, 0)],
  [some (.invokevirtual 351, 3, 181, 3, 12, 1703), none, none, some (.ifCond .le 7, 3, 0, 0, 0, 0), none, none, some (.iconst 1, 1, 0, 0, 0, 0), some (.goto 4, 3, 0, 0, 0, 0), none, none, some (.iconst 0, 1, 0, 0, 0, 0), some (.iadd, 1, 0, 0, 0, 0), some (.istore_n 2, 1, 0, 0, 0, 0), some (.iinc 3 1, 3, 0, 0, 0, 0), none, none],
  [some (.goto (-28), 3, 0, 0, 0, 0), none, none, some (.iload_n 2, 1, 0, 0, 0, 0), some (.ireturn, 1, 0, 0, 0, 0)]]
/-- 183: PurseTraceModel.takes(II)V -/
noncomputable def am_o183 : List (List (Option am_Op)) := [[some (.iload_n 2, 1, 0, 0, 0, 0), some (.ifCond .ne 4, 3, 0, 0, 0, 0), none, none, some (.return_, 1, 0, 0, 0, 0), some (.aload_n 0, 1, 0, 0, 0, 0), some (.getfield 355, 3, 12, 54, 0, 1272), none, none, some (.ifCond .le 34, 3, 0, 0, 0, 0), none, none, some (.aload_n 0, 1, 0, 0, 0, 0), some (.getfield 117, 3, 12, 55, 0, 1273), none, none],
  [some (.aload_n 0, 1, 0, 0, 0, 0), some (.getfield 355, 3, 12, 54, 0, 1272), none, none, some (.iconst 1, 1, 0, 0, 0, 0), some (.isub, 1, 0, 0, 0, 0), some (.iaload, 1, 0, 0, 0, 0), some (.iload_n 1, 1, 0, 0, 0, 0), some (.if_icmp .ne 19, 3, 0, 0, 0, 0), none, none, some (.aload_n 0, 1, 0, 0, 0, 0), some (.getfield 120, 3, 12, 56, 0, 1274), none, none, some (.aload_n 0, 1, 0, 0, 0, 0)],
  [some (.getfield 355, 3, 12, 54, 0, 1272), none, none, some (.iconst 1, 1, 0, 0, 0, 0), some (.isub, 1, 0, 0, 0, 0), some (.dup2, 1, 0, 0, 0, 0), some (.iaload, 1, 0, 0, 0, 0), some (.iload_n 2, 1, 0, 0, 0, 0), some (.iadd, 1, 0, 0, 0, 0), some (.iastore, 1, 0, 0, 0, 0), some (.return_, 1, 0, 0, 0, 0), some (.aload_n 0, 1, 0, 0, 0, 0), some (.getfield 117, 3, 12, 55, 0, 1273), none, none, some (.aload_n 0, 1, 0, 0, 0, 0)],
  [some (.getfield 355, 3, 12, 54, 0, 1272), none, none, some (.iload_n 1, 1, 0, 0, 0, 0), some (.iastore, 1, 0, 0, 0, 0), some (.aload_n 0, 1, 0, 0, 0, 0), some (.getfield 120, 3, 12, 56, 0, 1274), none, none, some (.aload_n 0, 1, 0, 0, 0, 0), some (.getfield 355, 3, 12, 54, 0, 1272), none, none, some (.iload_n 2, 1, 0, 0, 0, 0), some (.iastore, 1, 0, 0, 0, 0), some (.aload_n 0, 1, 0, 0, 0, 0)],
  [some (.dup, 1, 0, 0, 0, 0), some (.getfield 355, 3, 12, 54, 0, 1272), none, none, some (.iconst 1, 1, 0, 0, 0, 0), some (.iadd, 1, 0, 0, 0, 0), some (.putfield 355, 3, 12, 54, 0, 1272), none, none, some (.return_, 1, 0, 0, 0, 0)]]
/-- 184: PurseTraceModel.takesPart(II)I -/
noncomputable def am_o184 : List (List (Option am_Op)) := [[some (.aload_n 0, 1, 0, 0, 0, 0), some (.getfield 108, 3, 12, 51, 0, 1269), none, none, some (.iload_n 1, 1, 0, 0, 0, 0), some (.iaload, 1, 0, 0, 0, 0), some (.iload_n 2, 1, 0, 0, 0, 0), some (.if_icmp .ge 12, 3, 0, 0, 0, 0), none, none, some (.aload_n 0, 1, 0, 0, 0, 0), some (.getfield 108, 3, 12, 51, 0, 1269), none, none, some (.iload_n 1, 1, 0, 0, 0, 0), some (.iaload, 1, 0, 0, 0, 0)],
  [some (.goto 4, 3, 0, 0, 0, 0), none, none, some (.iload_n 2, 1, 0, 0, 0, 0), some (.istore_n 3, 1, 0, 0, 0, 0), some (.aload_n 0, 1, 0, 0, 0, 0), some (.aload_n 0, 1, 0, 0, 0, 0), some (.getfield 105, 3, 12, 50, 0, 1268), none, none, some (.iload_n 1, 1, 0, 0, 0, 0), some (.iaload, 1, 0, 0, 0, 0), some (.iload_n 3, 1, 0, 0, 0, 0), some (.invokevirtual 358, 3, 183, 3, 12, 1735), none, none],
  [some (.aload_n 0, 1, 0, 0, 0, 0), some (.getfield 108, 3, 12, 51, 0, 1269), none, none, some (.iload_n 1, 1, 0, 0, 0, 0), some (.dup2, 1, 0, 0, 0, 0), some (.iaload, 1, 0, 0, 0, 0), some (.iload_n 3, 1, 0, 0, 0, 0), some (.isub, 1, 0, 0, 0, 0), some (.iastore, 1, 0, 0, 0, 0), some (.iload_n 2, 1, 0, 0, 0, 0), some (.iload_n 3, 1, 0, 0, 0, 0), some (.isub, 1, 0, 0, 0, 0), some (.ireturn, 1, 0, 0, 0, 0)]]
/-- 185: PurseTraceModel.takesOf(IIZI)I -/
noncomputable def am_o185 : List (List (Option am_Op)) := [[some (.iload 4, 2, 0, 0, 0, 0), none, some (.istore 5, 2, 0, 0, 0, 0), none, some (.sipush 1400, 3, 0, 0, 0, 0), none, none, some (.iload_n 1, 1, 0, 0, 0, 0), some (.imul, 1, 0, 0, 0, 0), some (.istore 6, 2, 0, 0, 0, 0), none, some (.iload 6, 2, 0, 0, 0, 0), none, some (.sipush 1400, 3, 0, 0, 0, 0), none, none],
  [some (.iload_n 1, 1, 0, 0, 0, 0), some (.imul, 1, 0, 0, 0, 0), some (.aload_n 0, 1, 0, 0, 0, 0), some (.getfield 102, 3, 12, 49, 0, 1267), none, none, some (.iload_n 1, 1, 0, 0, 0, 0), some (.iaload, 1, 0, 0, 0, 0), some (.iadd, 1, 0, 0, 0, 0), some (.if_icmp .ge 39, 3, 0, 0, 0, 0), none, none, some (.aload_n 0, 1, 0, 0, 0, 0), some (.getfield 105, 3, 12, 50, 0, 1268), none, none],
  [some (.iload 6, 2, 0, 0, 0, 0), none, some (.iaload, 1, 0, 0, 0, 0), some (.iload_n 2, 1, 0, 0, 0, 0), some (.if_icmp .ne 7, 3, 0, 0, 0, 0), none, none, some (.iconst 1, 1, 0, 0, 0, 0), some (.goto 4, 3, 0, 0, 0, 0), none, none, some (.iconst 0, 1, 0, 0, 0, 0), some (.iload_n 3, 1, 0, 0, 0, 0), some (.if_icmp .ne 13, 3, 0, 0, 0, 0), none, none],
  [some (.aload_n 0, 1, 0, 0, 0, 0), some (.iload 6, 2, 0, 0, 0, 0), none, some (.iload 5, 2, 0, 0, 0, 0), none, some (.invokevirtual 361, 3, 184, 3, 12, 1731), none, none, some (.istore 5, 2, 0, 0, 0, 0), none, some (.iinc 6 1, 3, 0, 0, 0, 0), none, none, some (.goto (-50), 3, 0, 0, 0, 0), none, none],
  [some (.iload 5, 2, 0, 0, 0, 0), none, some (.ireturn, 1, 0, 0, 0, 0)]]
/-- 186: PurseTraceModel.takesByParts(II)V -/
noncomputable def am_o186 : List (List (Option am_Op)) := [[some (.aload_n 0, 1, 0, 0, 0, 0), some (.iload_n 1, 1, 0, 0, 0, 0), some (.invokevirtual 364, 3, 180, 2, 12, 1699), none, none, some (.istore_n 3, 1, 0, 0, 0, 0), some (.iload_n 2, 1, 0, 0, 0, 0), some (.istore 4, 2, 0, 0, 0, 0), none, some (.iconst 0, 1, 0, 0, 0, 0), some (.istore 5, 2, 0, 0, 0, 0), none, some (.iload 5, 2, 0, 0, 0, 0), none, some (.aload_n 0, 1, 0, 0, 0, 0), some (.getfield 181, 3, 12, 3, 0, 1221)],
  [none, none, some (.if_icmp .ge 43, 3, 0, 0, 0, 0), none, none, some (.aload_n 0, 1, 0, 0, 0, 0), some (.getfield 123, 3, 12, 57, 0, 1275), none, none, some (.iload 5, 2, 0, 0, 0, 0), none, some (.iload_n 2, 1, 0, 0, 0, 0), some (.i2l, 1, 0, 0, 0, 0), some (.aload_n 0, 1, 0, 0, 0, 0), some (.iload_n 1, 1, 0, 0, 0, 0), some (.iload 5, 2, 0, 0, 0, 0)],
  [none, some (.invokevirtual 351, 3, 181, 3, 12, 1703), none, none, some (.i2l, 1, 0, 0, 0, 0), some (.lmul, 1, 0, 0, 0, 0), some (.iload_n 3, 1, 0, 0, 0, 0), some (.i2l, 1, 0, 0, 0, 0), some (.ldiv, 1, 0, 0, 0, 0), some (.l2i, 1, 0, 0, 0, 0), some (.iastore, 1, 0, 0, 0, 0), some (.iload 4, 2, 0, 0, 0, 0), none, some (.aload_n 0, 1, 0, 0, 0, 0), some (.getfield 123, 3, 12, 57, 0, 1275), none],
  [none, some (.iload 5, 2, 0, 0, 0, 0), none, some (.iaload, 1, 0, 0, 0, 0), some (.isub, 1, 0, 0, 0, 0), some (.istore 4, 2, 0, 0, 0, 0), none, some (.iinc 5 1, 3, 0, 0, 0, 0), none, none, some (.goto (-46), 3, 0, 0, 0, 0), none, none, some (.iconst 0, 1, 0, 0, 0, 0), some (.istore 5, 2, 0, 0, 0, 0), none],
  [some (.iload 5, 2, 0, 0, 0, 0), none, some (.aload_n 0, 1, 0, 0, 0, 0), some (.getfield 181, 3, 12, 3, 0, 1221), none, none, some (.if_icmp .ge 48, 3, 0, 0, 0, 0), none, none, some (.iload 4, 2, 0, 0, 0, 0), none, some (.ifCond .le 43, 3, 0, 0, 0, 0), none, none, some (.aload_n 0, 1, 0, 0, 0, 0), some (.iload_n 1, 1, 0, 0, 0, 0)],
  [some (.iload 5, 2, 0, 0, 0, 0), none, some (.invokevirtual 351, 3, 181, 3, 12, 1703), none, none, some (.aload_n 0, 1, 0, 0, 0, 0), some (.getfield 123, 3, 12, 57, 0, 1275), none, none, some (.iload 5, 2, 0, 0, 0, 0), none, some (.iaload, 1, 0, 0, 0, 0), some (.if_icmp .gt 6, 3, 0, 0, 0, 0), none, none, some (.goto 17, 3, 0, 0, 0, 0)],
  [none, none, some (.aload_n 0, 1, 0, 0, 0, 0), some (.getfield 123, 3, 12, 57, 0, 1275), none, none, some (.iload 5, 2, 0, 0, 0, 0), none, some (.dup2, 1, 0, 0, 0, 0), some (.iaload, 1, 0, 0, 0, 0), some (.iconst 1, 1, 0, 0, 0, 0), some (.iadd, 1, 0, 0, 0, 0), some (.iastore, 1, 0, 0, 0, 0), some (.iinc 4 (-1), 3, 0, 0, 0, 0), none, none],
  [some (.iinc 5 1, 3, 0, 0, 0, 0), none, none, some (.goto (-51), 3, 0, 0, 0, 0), none, none, some (.iconst 0, 1, 0, 0, 0, 0), some (.istore 5, 2, 0, 0, 0, 0), none, some (.iload 5, 2, 0, 0, 0, 0), none, some (.aload_n 0, 1, 0, 0, 0, 0), some (.getfield 181, 3, 12, 3, 0, 1221), none, none, some (.if_icmp .ge 26, 3, 0, 0, 0, 0)],
  [none, none, some (.aload_n 0, 1, 0, 0, 0, 0), some (.iload_n 1, 1, 0, 0, 0, 0), some (.iload 5, 2, 0, 0, 0, 0), none, some (.iconst 1, 1, 0, 0, 0, 0), some (.aload_n 0, 1, 0, 0, 0, 0), some (.getfield 123, 3, 12, 57, 0, 1275), none, none, some (.iload 5, 2, 0, 0, 0, 0), none, some (.iaload, 1, 0, 0, 0, 0), some (.invokevirtual 367, 3, 185, 5, 12, 1727), none],
  [none, some (.istore 6, 2, 0, 0, 0, 0), none, some (.iinc 5 1, 3, 0, 0, 0, 0), none, none, some (.goto (-29), 3, 0, 0, 0, 0), none, none, some (.return_, 1, 0, 0, 0, 0)]]
/-- 187: PurseTraceModel.closes(I)V -/
noncomputable def am_o187 : List (List (Option am_Op)) := [[some (.aload_n 0, 1, 0, 0, 0, 0), some (.getfield 102, 3, 12, 49, 0, 1267), none, none, some (.iload_n 1, 1, 0, 0, 0, 0), some (.iaload, 1, 0, 0, 0, 0), some (.istore_n 2, 1, 0, 0, 0, 0), some (.aload_n 0, 1, 0, 0, 0, 0), some (.getfield 102, 3, 12, 49, 0, 1267), none, none, some (.iload_n 1, 1, 0, 0, 0, 0), some (.iconst 0, 1, 0, 0, 0, 0), some (.iastore, 1, 0, 0, 0, 0), some (.sipush 1400, 3, 0, 0, 0, 0), none],
  [none, some (.iload_n 1, 1, 0, 0, 0, 0), some (.imul, 1, 0, 0, 0, 0), some (.istore_n 3, 1, 0, 0, 0, 0), some (.iload_n 3, 1, 0, 0, 0, 0), some (.sipush 1400, 3, 0, 0, 0, 0), none, none, some (.iload_n 1, 1, 0, 0, 0, 0), some (.imul, 1, 0, 0, 0, 0), some (.iload_n 2, 1, 0, 0, 0, 0), some (.iadd, 1, 0, 0, 0, 0), some (.if_icmp .ge 26, 3, 0, 0, 0, 0), none, none, some (.aload_n 0, 1, 0, 0, 0, 0)],
  [some (.iload_n 1, 1, 0, 0, 0, 0), some (.aload_n 0, 1, 0, 0, 0, 0), some (.getfield 105, 3, 12, 50, 0, 1268), none, none, some (.iload_n 3, 1, 0, 0, 0, 0), some (.iaload, 1, 0, 0, 0, 0), some (.aload_n 0, 1, 0, 0, 0, 0), some (.getfield 108, 3, 12, 51, 0, 1269), none, none, some (.iload_n 3, 1, 0, 0, 0, 0), some (.iaload, 1, 0, 0, 0, 0), some (.invokevirtual 371, 3, 179, 4, 12, 1668), none, none],
  [some (.iinc 3 1, 3, 0, 0, 0, 0), none, none, some (.goto (-31), 3, 0, 0, 0, 0), none, none, some (.return_, 1, 0, 0, 0, 0)]]
/-- 188: PurseTraceModel.takesOut(III)V -/
noncomputable def am_o188 : List (List (Option am_Op)) := [[some (.iload_n 2, 1, 0, 0, 0, 0), some (.istore 4, 2, 0, 0, 0, 0), none, some (.aload_n 0, 1, 0, 0, 0, 0), some (.iconst 0, 1, 0, 0, 0, 0), some (.putfield 355, 3, 12, 54, 0, 1272), none, none, some (.iload_n 3, 1, 0, 0, 0, 0), some (.ifCond .ne 17, 3, 0, 0, 0, 0), none, none, some (.aload_n 0, 1, 0, 0, 0, 0), some (.iload_n 1, 1, 0, 0, 0, 0), some (.iconst (-1), 1, 0, 0, 0, 0), some (.iconst 0, 1, 0, 0, 0, 0)],
  [some (.iload 4, 2, 0, 0, 0, 0), none, some (.invokevirtual 367, 3, 185, 5, 12, 1727), none, none, some (.istore 4, 2, 0, 0, 0, 0), none, some (.goto 117, 3, 0, 0, 0, 0), none, none, some (.iload_n 3, 1, 0, 0, 0, 0), some (.iconst 1, 1, 0, 0, 0, 0), some (.if_icmp .ne 48, 3, 0, 0, 0, 0), none, none, some (.sipush 1400, 3, 0, 0, 0, 0)],
  [none, none, some (.iload_n 1, 1, 0, 0, 0, 0), some (.imul, 1, 0, 0, 0, 0), some (.aload_n 0, 1, 0, 0, 0, 0), some (.getfield 102, 3, 12, 49, 0, 1267), none, none, some (.iload_n 1, 1, 0, 0, 0, 0), some (.iaload, 1, 0, 0, 0, 0), some (.iadd, 1, 0, 0, 0, 0), some (.iconst 1, 1, 0, 0, 0, 0), some (.isub, 1, 0, 0, 0, 0), some (.istore 5, 2, 0, 0, 0, 0), none, some (.iload 5, 2, 0, 0, 0, 0)],
  [none, some (.sipush 1400, 3, 0, 0, 0, 0), none, none, some (.iload_n 1, 1, 0, 0, 0, 0), some (.imul, 1, 0, 0, 0, 0), some (.if_icmp .lt 19, 3, 0, 0, 0, 0), none, none, some (.aload_n 0, 1, 0, 0, 0, 0), some (.iload 5, 2, 0, 0, 0, 0), none, some (.iload 4, 2, 0, 0, 0, 0), none, some (.invokevirtual 361, 3, 184, 3, 12, 1731), none],
  [none, some (.istore 4, 2, 0, 0, 0, 0), none, some (.iinc 5 (-1), 3, 0, 0, 0, 0), none, none, some (.goto (-23), 3, 0, 0, 0, 0), none, none, some (.goto 67, 3, 0, 0, 0, 0), none, none, some (.iload_n 3, 1, 0, 0, 0, 0), some (.iconst 2, 1, 0, 0, 0, 0), some (.if_icmp .ne 12, 3, 0, 0, 0, 0), none],
  [none, some (.aload_n 0, 1, 0, 0, 0, 0), some (.iload_n 1, 1, 0, 0, 0, 0), some (.iload_n 2, 1, 0, 0, 0, 0), some (.invokevirtual 375, 3, 186, 3, 12, 1739), none, none, some (.goto 53, 3, 0, 0, 0, 0), none, none, some (.aload_n 0, 1, 0, 0, 0, 0), some (.iload_n 1, 1, 0, 0, 0, 0), some (.aload_n 0, 1, 0, 0, 0, 0), some (.getfield 13, 3, 12, 11, 0, 1229), none, none],
  [some (.iload_n 1, 1, 0, 0, 0, 0), some (.iaload, 1, 0, 0, 0, 0), some (.iload_n 3, 1, 0, 0, 0, 0), some (.iconst 3, 1, 0, 0, 0, 0), some (.if_icmp .ne 7, 3, 0, 0, 0, 0), none, none, some (.iconst 1, 1, 0, 0, 0, 0), some (.goto 4, 3, 0, 0, 0, 0), none, none, some (.iconst 0, 1, 0, 0, 0, 0), some (.iload 4, 2, 0, 0, 0, 0), none, some (.invokevirtual 367, 3, 185, 5, 12, 1727), none],
  [none, some (.istore 4, 2, 0, 0, 0, 0), none, some (.aload_n 0, 1, 0, 0, 0, 0), some (.iload_n 1, 1, 0, 0, 0, 0), some (.aload_n 0, 1, 0, 0, 0, 0), some (.getfield 13, 3, 12, 11, 0, 1229), none, none, some (.iload_n 1, 1, 0, 0, 0, 0), some (.iaload, 1, 0, 0, 0, 0), some (.iload_n 3, 1, 0, 0, 0, 0), some (.iconst 3, 1, 0, 0, 0, 0), some (.if_icmp .eq 7, 3, 0, 0, 0, 0), none, none],
  [some (.iconst 1, 1, 0, 0, 0, 0), some (.goto 4, 3, 0, 0, 0, 0), none, none, some (.iconst 0, 1, 0, 0, 0, 0), some (.iload 4, 2, 0, 0, 0, 0), none, some (.invokevirtual 367, 3, 185, 5, 12, 1727), none, none, some (.istore 4, 2, 0, 0, 0, 0), none, some (.aload_n 0, 1, 0, 0, 0, 0), some (.iload_n 1, 1, 0, 0, 0, 0), some (.invokevirtual 378, 3, 187, 2, 12, 1743), none],
  [none, some (.return_, 1, 0, 0, 0, 0)]]
/-- 189: PurseTraceModel.valueOf(II)I -/
noncomputable def am_o189 : List (List (Option am_Op)) := [[some (.aload_n 0, 1, 0, 0, 0, 0), some (.getfield 23, 3, 12, 14, 0, 1232), none, none, some (.iload_n 2, 1, 0, 0, 0, 0), some (.iaload, 1, 0, 0, 0, 0), some (.istore_n 3, 1, 0, 0, 0, 0), some (.iload_n 1, 1, 0, 0, 0, 0), some (.tableswitch 132 100 116 #[91, 132, 132, 132, 107, 132, 132, 98, 132, 132, 132, 120, 105, 132, 132, 84, 114], 84, 0, 0, 0, 0), none, none, none, none, none, none, none],
  [none, none, none, none, none, none, none, none, none, none, none, none, none, none, none, none],
  [none, none, none, none, none, none, none, none, none, none, none, none, none, none, none, none],
  [none, none, none, none, none, none, none, none, none, none, none, none, none, none, none, none],
  [none, none, none, none, none, none, none, none, none, none, none, none, none, none, none, none],
  [none, none, none, none, none, none, none, none, none, none, none, none, some (.aload_n 0, 1, 0, 0, 0, 0), some (.getfield 29, 3, 12, 16, 0, 1234), none, none],
  [some (.iload_n 2, 1, 0, 0, 0, 0), some (.iaload, 1, 0, 0, 0, 0), some (.ireturn, 1, 0, 0, 0, 0), some (.aload_n 0, 1, 0, 0, 0, 0), some (.getfield 32, 3, 12, 17, 0, 1235), none, none, some (.iload_n 2, 1, 0, 0, 0, 0), some (.iaload, 1, 0, 0, 0, 0), some (.ireturn, 1, 0, 0, 0, 0), some (.aload_n 0, 1, 0, 0, 0, 0), some (.getfield 20, 3, 12, 13, 0, 1231), none, none, some (.iload_n 2, 1, 0, 0, 0, 0), some (.iaload, 1, 0, 0, 0, 0)],
  [some (.ireturn, 1, 0, 0, 0, 0), some (.iload_n 3, 1, 0, 0, 0, 0), some (.ireturn, 1, 0, 0, 0, 0), some (.aload_n 0, 1, 0, 0, 0, 0), some (.getfield 13, 3, 12, 11, 0, 1229), none, none, some (.iload_n 3, 1, 0, 0, 0, 0), some (.iaload, 1, 0, 0, 0, 0), some (.ireturn, 1, 0, 0, 0, 0), some (.aload_n 0, 1, 0, 0, 0, 0), some (.iload_n 3, 1, 0, 0, 0, 0), some (.invokevirtual 364, 3, 180, 2, 12, 1699), none, none, some (.ireturn, 1, 0, 0, 0, 0)],
  [some (.aload_n 0, 1, 0, 0, 0, 0), some (.iload_n 3, 1, 0, 0, 0, 0), some (.aload_n 0, 1, 0, 0, 0, 0), some (.getfield 13, 3, 12, 11, 0, 1229), none, none, some (.iload_n 3, 1, 0, 0, 0, 0), some (.iaload, 1, 0, 0, 0, 0), some (.invokevirtual 351, 3, 181, 3, 12, 1703), none, none, some (.ireturn, 1, 0, 0, 0, 0), some (.aload_n 0, 1, 0, 0, 0, 0), some (.iload_n 3, 1, 0, 0, 0, 0), some (.invokevirtual 381, 3, 182, 2, 12, 1707), none],
  [none, some (.ireturn, 1, 0, 0, 0, 0)]]
/-- 190: PurseTraceModel.worked(IJJ)J -/
noncomputable def am_o190 : List (List (Option am_Op)) := [[some (.iload_n 0, 1, 0, 0, 0, 0), some (.lookupswitch 131 #[(37, 93), (42, 75), (43, 67), (45, 71), (47, 79), (60, 107), (62, 119)], 67, 0, 0, 0, 0), none, none, none, none, none, none, none, none, none, none, none, none, none, none],
  [none, none, none, none, none, none, none, none, none, none, none, none, none, none, none, none],
  [none, none, none, none, none, none, none, none, none, none, none, none, none, none, none, none],
  [none, none, none, none, none, none, none, none, none, none, none, none, none, none, none, none],
  [none, none, none, none, some (.lload_n 1, 1, 0, 0, 0, 0), some (.lload_n 3, 1, 0, 0, 0, 0), some (.ladd, 1, 0, 0, 0, 0), some (.lreturn, 1, 0, 0, 0, 0), some (.lload_n 1, 1, 0, 0, 0, 0), some (.lload_n 3, 1, 0, 0, 0, 0), some (.lsub, 1, 0, 0, 0, 0), some (.lreturn, 1, 0, 0, 0, 0), some (.lload_n 1, 1, 0, 0, 0, 0), some (.lload_n 3, 1, 0, 0, 0, 0), some (.lmul, 1, 0, 0, 0, 0), some (.lreturn, 1, 0, 0, 0, 0)],
  [some (.lload_n 3, 1, 0, 0, 0, 0), some (.lconst 0, 1, 0, 0, 0, 0), some (.lcmp, 1, 0, 0, 0, 0), some (.ifCond .ne 7, 3, 0, 0, 0, 0), none, none, some (.lconst 0, 1, 0, 0, 0, 0), some (.goto 6, 3, 0, 0, 0, 0), none, none, some (.lload_n 1, 1, 0, 0, 0, 0), some (.lload_n 3, 1, 0, 0, 0, 0), some (.ldiv, 1, 0, 0, 0, 0), some (.lreturn, 1, 0, 0, 0, 0), some (.lload_n 3, 1, 0, 0, 0, 0), some (.lconst 0, 1, 0, 0, 0, 0)],
  [some (.lcmp, 1, 0, 0, 0, 0), some (.ifCond .ne 7, 3, 0, 0, 0, 0), none, none, some (.lconst 0, 1, 0, 0, 0, 0), some (.goto 6, 3, 0, 0, 0, 0), none, none, some (.lload_n 1, 1, 0, 0, 0, 0), some (.lload_n 3, 1, 0, 0, 0, 0), some (.lrem, 1, 0, 0, 0, 0), some (.lreturn, 1, 0, 0, 0, 0), some (.lload_n 1, 1, 0, 0, 0, 0), some (.lload_n 3, 1, 0, 0, 0, 0), some (.lcmp, 1, 0, 0, 0, 0), some (.ifCond .ge 7, 3, 0, 0, 0, 0)],
  [none, none, some (.lconst 1, 1, 0, 0, 0, 0), some (.goto 4, 3, 0, 0, 0, 0), none, none, some (.lconst 0, 1, 0, 0, 0, 0), some (.lreturn, 1, 0, 0, 0, 0), some (.lload_n 1, 1, 0, 0, 0, 0), some (.lload_n 3, 1, 0, 0, 0, 0), some (.lcmp, 1, 0, 0, 0, 0), some (.ifCond .le 7, 3, 0, 0, 0, 0), none, none, some (.lconst 1, 1, 0, 0, 0, 0), some (.goto 4, 3, 0, 0, 0, 0)],
  [none, none, some (.lconst 0, 1, 0, 0, 0, 0), some (.lreturn, 1, 0, 0, 0, 0), some (.lload_n 1, 1, 0, 0, 0, 0), some (.lload_n 3, 1, 0, 0, 0, 0), some (.lcmp, 1, 0, 0, 0, 0), some (.ifCond .ne 7, 3, 0, 0, 0, 0), none, none, some (.lconst 1, 1, 0, 0, 0, 0), some (.goto 4, 3, 0, 0, 0, 0), none, none, some (.lconst 0, 1, 0, 0, 0, 0), some (.lreturn, 1, 0, 0, 0, 0)]]
/-- 191: PurseTraceModel.does(II)V -/
noncomputable def am_o191 : List (List (Option am_Op)) := [[some (.iload_n 2, 1, 0, 0, 0, 0), some (.iconst 1, 1, 0, 0, 0, 0), some (.iadd, 1, 0, 0, 0, 0), some (.istore_n 3, 1, 0, 0, 0, 0), some (.iload_n 1, 1, 0, 0, 0, 0), some (.bipush 38, 2, 0, 0, 0, 0), none, some (.if_icmp .eq 9, 3, 0, 0, 0, 0), none, none, some (.iload_n 1, 1, 0, 0, 0, 0), some (.bipush 124, 2, 0, 0, 0, 0), none, some (.if_icmp .ne 59, 3, 0, 0, 0, 0), none, none],
  [some (.aload_n 0, 1, 0, 0, 0, 0), some (.getfield 133, 3, 12, 60, 0, 1278), none, none, some (.iload_n 2, 1, 0, 0, 0, 0), some (.baload, 1, 0, 0, 0, 0), some (.ifCond .ne 24, 3, 0, 0, 0, 0), none, none, some (.aload_n 0, 1, 0, 0, 0, 0), some (.getfield 129, 3, 12, 59, 0, 1277), none, none, some (.iload_n 2, 1, 0, 0, 0, 0), some (.laload, 1, 0, 0, 0, 0), some (.iload_n 1, 1, 0, 0, 0, 0)],
  [some (.bipush 38, 2, 0, 0, 0, 0), none, some (.if_icmp .ne 7, 3, 0, 0, 0, 0), none, none, some (.lconst 1, 1, 0, 0, 0, 0), some (.goto 4, 3, 0, 0, 0, 0), none, none, some (.lconst 0, 1, 0, 0, 0, 0), some (.lcmp, 1, 0, 0, 0, 0), some (.ifCond .eq 4, 3, 0, 0, 0, 0), none, none, some (.return_, 1, 0, 0, 0, 0), some (.aload_n 0, 1, 0, 0, 0, 0)],
  [some (.getfield 129, 3, 12, 59, 0, 1277), none, none, some (.iload_n 2, 1, 0, 0, 0, 0), some (.aload_n 0, 1, 0, 0, 0, 0), some (.getfield 129, 3, 12, 59, 0, 1277), none, none, some (.iload_n 3, 1, 0, 0, 0, 0), some (.laload, 1, 0, 0, 0, 0), some (.lastore, 1, 0, 0, 0, 0), some (.aload_n 0, 1, 0, 0, 0, 0), some (.getfield 133, 3, 12, 60, 0, 1278), none, none, some (.iload_n 2, 1, 0, 0, 0, 0)],
  [some (.aload_n 0, 1, 0, 0, 0, 0), some (.getfield 133, 3, 12, 60, 0, 1278), none, none, some (.iload_n 3, 1, 0, 0, 0, 0), some (.baload, 1, 0, 0, 0, 0), some (.bastore, 1, 0, 0, 0, 0), some (.return_, 1, 0, 0, 0, 0), some (.aload_n 0, 1, 0, 0, 0, 0), some (.getfield 133, 3, 12, 60, 0, 1278), none, none, some (.iload_n 2, 1, 0, 0, 0, 0), some (.aload_n 0, 1, 0, 0, 0, 0), some (.getfield 133, 3, 12, 60, 0, 1278), none],
  [none, some (.iload_n 2, 1, 0, 0, 0, 0), some (.baload, 1, 0, 0, 0, 0), some (.ifCond .ne 35, 3, 0, 0, 0, 0), none, none, some (.aload_n 0, 1, 0, 0, 0, 0), some (.getfield 133, 3, 12, 60, 0, 1278), none, none, some (.iload_n 3, 1, 0, 0, 0, 0), some (.baload, 1, 0, 0, 0, 0), some (.ifCond .ne 26, 3, 0, 0, 0, 0), none, none, some (.iload_n 1, 1, 0, 0, 0, 0)],
  [some (.bipush 47, 2, 0, 0, 0, 0), none, some (.if_icmp .eq 9, 3, 0, 0, 0, 0), none, none, some (.iload_n 1, 1, 0, 0, 0, 0), some (.bipush 37, 2, 0, 0, 0, 0), none, some (.if_icmp .ne 18, 3, 0, 0, 0, 0), none, none, some (.aload_n 0, 1, 0, 0, 0, 0), some (.getfield 129, 3, 12, 59, 0, 1277), none, none, some (.iload_n 3, 1, 0, 0, 0, 0)],
  [some (.laload, 1, 0, 0, 0, 0), some (.lconst 0, 1, 0, 0, 0, 0), some (.lcmp, 1, 0, 0, 0, 0), some (.ifCond .ne 7, 3, 0, 0, 0, 0), none, none, some (.iconst 1, 1, 0, 0, 0, 0), some (.goto 4, 3, 0, 0, 0, 0), none, none, some (.iconst 0, 1, 0, 0, 0, 0), some (.bastore, 1, 0, 0, 0, 0), some (.aload_n 0, 1, 0, 0, 0, 0), some (.getfield 129, 3, 12, 59, 0, 1277), none, none],
  [some (.iload_n 2, 1, 0, 0, 0, 0), some (.iload_n 1, 1, 0, 0, 0, 0), some (.aload_n 0, 1, 0, 0, 0, 0), some (.getfield 129, 3, 12, 59, 0, 1277), none, none, some (.iload_n 2, 1, 0, 0, 0, 0), some (.laload, 1, 0, 0, 0, 0), some (.aload_n 0, 1, 0, 0, 0, 0), some (.getfield 129, 3, 12, 59, 0, 1277), none, none, some (.iload_n 3, 1, 0, 0, 0, 0), some (.laload, 1, 0, 0, 0, 0), some (.invokestatic 384, 3, 190, 3, 1, 1692), none],
  [none, some (.lastore, 1, 0, 0, 0, 0), some (.return_, 1, 0, 0, 0, 0)]]
/-- 192: PurseTraceModel.holds(II)Z -/
noncomputable def am_o192 : List (List (Option am_Op)) := [[some (.iconst 0, 1, 0, 0, 0, 0), some (.istore_n 3, 1, 0, 0, 0, 0), some (.iload_n 1, 1, 0, 0, 0, 0), some (.bipush 12, 2, 0, 0, 0, 0), none, some (.idiv, 1, 0, 0, 0, 0), some (.sipush 160, 3, 0, 0, 0, 0), none, none, some (.imul, 1, 0, 0, 0, 0), some (.istore 4, 2, 0, 0, 0, 0), none, some (.iload 4, 2, 0, 0, 0, 0), none, some (.aload_n 0, 1, 0, 0, 0, 0), some (.getfield 75, 3, 12, 31, 0, 1249)],
  [none, none, some (.iload_n 1, 1, 0, 0, 0, 0), some (.iaload, 1, 0, 0, 0, 0), some (.iadd, 1, 0, 0, 0, 0), some (.istore 5, 2, 0, 0, 0, 0), none, some (.iload 5, 2, 0, 0, 0, 0), none, some (.iload 4, 2, 0, 0, 0, 0), none, some (.aload_n 0, 1, 0, 0, 0, 0), some (.getfield 78, 3, 12, 32, 0, 1250), none, none, some (.iload_n 1, 1, 0, 0, 0, 0)],
  [some (.iaload, 1, 0, 0, 0, 0), some (.iadd, 1, 0, 0, 0, 0), some (.if_icmp .ge 122, 3, 0, 0, 0, 0), none, none, some (.aload_n 0, 1, 0, 0, 0, 0), some (.getfield 81, 3, 12, 33, 0, 1251), none, none, some (.iload 5, 2, 0, 0, 0, 0), none, some (.iaload, 1, 0, 0, 0, 0), some (.iconst 2, 1, 0, 0, 0, 0), some (.if_icmp .le 23, 3, 0, 0, 0, 0), none, none],
  [some (.iinc 3 (-1), 3, 0, 0, 0, 0), none, none, some (.aload_n 0, 1, 0, 0, 0, 0), some (.aload_n 0, 1, 0, 0, 0, 0), some (.getfield 81, 3, 12, 33, 0, 1251), none, none, some (.iload 5, 2, 0, 0, 0, 0), none, some (.iaload, 1, 0, 0, 0, 0), some (.iload_n 3, 1, 0, 0, 0, 0), some (.iconst 1, 1, 0, 0, 0, 0), some (.isub, 1, 0, 0, 0, 0), some (.invokevirtual 388, 3, 191, 3, 12, 1688), none],
  [none, some (.goto 85, 3, 0, 0, 0, 0), none, none, some (.aload_n 0, 1, 0, 0, 0, 0), some (.getfield 81, 3, 12, 33, 0, 1251), none, none, some (.iload 5, 2, 0, 0, 0, 0), none, some (.iaload, 1, 0, 0, 0, 0), some (.iconst 2, 1, 0, 0, 0, 0), some (.if_icmp .ne 24, 3, 0, 0, 0, 0), none, none, some (.aload_n 0, 1, 0, 0, 0, 0)],
  [some (.getfield 129, 3, 12, 59, 0, 1277), none, none, some (.iload_n 3, 1, 0, 0, 0, 0), some (.iconst 1, 1, 0, 0, 0, 0), some (.isub, 1, 0, 0, 0, 0), some (.lconst 1, 1, 0, 0, 0, 0), some (.aload_n 0, 1, 0, 0, 0, 0), some (.getfield 129, 3, 12, 59, 0, 1277), none, none, some (.iload_n 3, 1, 0, 0, 0, 0), some (.iconst 1, 1, 0, 0, 0, 0), some (.isub, 1, 0, 0, 0, 0), some (.laload, 1, 0, 0, 0, 0), some (.lsub, 1, 0, 0, 0, 0)],
  [some (.lastore, 1, 0, 0, 0, 0), some (.goto 53, 3, 0, 0, 0, 0), none, none, some (.aload_n 0, 1, 0, 0, 0, 0), some (.getfield 133, 3, 12, 60, 0, 1278), none, none, some (.iload_n 3, 1, 0, 0, 0, 0), some (.iconst 0, 1, 0, 0, 0, 0), some (.bastore, 1, 0, 0, 0, 0), some (.aload_n 0, 1, 0, 0, 0, 0), some (.getfield 129, 3, 12, 59, 0, 1277), none, none, some (.iload_n 3, 1, 0, 0, 0, 0)],
  [some (.aload_n 0, 1, 0, 0, 0, 0), some (.getfield 81, 3, 12, 33, 0, 1251), none, none, some (.iload 5, 2, 0, 0, 0, 0), none, some (.iaload, 1, 0, 0, 0, 0), some (.ifCond .ne 14, 3, 0, 0, 0, 0), none, none, some (.aload_n 0, 1, 0, 0, 0, 0), some (.getfield 84, 3, 12, 34, 0, 1252), none, none, some (.iload 5, 2, 0, 0, 0, 0), none],
  [some (.iaload, 1, 0, 0, 0, 0), some (.i2l, 1, 0, 0, 0, 0), some (.goto 16, 3, 0, 0, 0, 0), none, none, some (.aload_n 0, 1, 0, 0, 0, 0), some (.aload_n 0, 1, 0, 0, 0, 0), some (.getfield 84, 3, 12, 34, 0, 1252), none, none, some (.iload 5, 2, 0, 0, 0, 0), none, some (.iaload, 1, 0, 0, 0, 0), some (.iload_n 2, 1, 0, 0, 0, 0), some (.invokevirtual 391, 3, 189, 3, 12, 1695), none],
  [none, some (.i2l, 1, 0, 0, 0, 0), some (.lastore, 1, 0, 0, 0, 0), some (.iinc 3 1, 3, 0, 0, 0, 0), none, none, some (.iinc 5 1, 3, 0, 0, 0, 0), none, none, some (.goto (-130), 3, 0, 0, 0, 0), none, none, some (.aload_n 0, 1, 0, 0, 0, 0), some (.getfield 133, 3, 12, 60, 0, 1278), none, none],
  [some (.iconst 0, 1, 0, 0, 0, 0), some (.baload, 1, 0, 0, 0, 0), some (.ifCond .ne 18, 3, 0, 0, 0, 0), none, none, some (.aload_n 0, 1, 0, 0, 0, 0), some (.getfield 129, 3, 12, 59, 0, 1277), none, none, some (.iconst 0, 1, 0, 0, 0, 0), some (.laload, 1, 0, 0, 0, 0), some (.lconst 1, 1, 0, 0, 0, 0), some (.lcmp, 1, 0, 0, 0, 0), some (.ifCond .ne 7, 3, 0, 0, 0, 0), none, none],
  [some (.iconst 1, 1, 0, 0, 0, 0), some (.goto 4, 3, 0, 0, 0, 0), none, none, some (.iconst 0, 1, 0, 0, 0, 0), some (.ireturn, 1, 1, 0, 0, 0)]]
/-- 193: PurseTraceModel.isAmong(IIII)Z -/
noncomputable def am_o193 : List (List (Option am_Op)) := [[some (.aload_n 0, 1, 0, 0, 0, 0), some (.getfield 51, 3, 12, 23, 0, 1241), none, none, some (.iload_n 1, 1, 0, 0, 0, 0), some (.iaload, 1, 0, 0, 0, 0), some (.iload_n 2, 1, 0, 0, 0, 0), some (.if_icmp .ne 40, 3, 0, 0, 0, 0), none, none, some (.aload_n 0, 1, 0, 0, 0, 0), some (.getfield 60, 3, 12, 26, 0, 1244), none, none, some (.iload_n 1, 1, 0, 0, 0, 0), some (.iaload, 1, 0, 0, 0, 0)],
  [some (.iload 4, 2, 0, 0, 0, 0), none, some (.if_icmp .gt 29, 3, 0, 0, 0, 0), none, none, some (.iload_n 3, 1, 0, 0, 0, 0), some (.i2l, 1, 0, 0, 0, 0), some (.aload_n 0, 1, 0, 0, 0, 0), some (.getfield 54, 3, 12, 24, 0, 1242), none, none, some (.iload_n 1, 1, 0, 0, 0, 0), some (.iaload, 1, 0, 0, 0, 0), some (.i2l, 1, 0, 0, 0, 0), some (.aload_n 0, 1, 0, 0, 0, 0), some (.getfield 57, 3, 12, 25, 0, 1243)],
  [none, none, some (.iload_n 1, 1, 0, 0, 0, 0), some (.iaload, 1, 0, 0, 0, 0), some (.i2l, 1, 0, 0, 0, 0), some (.invokestatic 185, 3, 134, 3, 1, 1471), none, none, some (.ifCond .eq 7, 3, 0, 0, 0, 0), none, none, some (.iconst 1, 1, 0, 0, 0, 0), some (.goto 4, 3, 0, 0, 0, 0), none, none, some (.iconst 0, 1, 0, 0, 0, 0)],
  [some (.ireturn, 1, 1, 0, 0, 0)]]
/-- 194: PurseTraceModel.clauseOf(IIII)I -/
noncomputable def am_o194 : List (List (Option am_Op)) := [[some (.iconst 0, 1, 0, 0, 0, 0), some (.istore 5, 2, 0, 0, 0, 0), none, some (.iload 5, 2, 0, 0, 0, 0), none, some (.bipush 12, 2, 0, 0, 0, 0), none, some (.aload_n 0, 1, 0, 0, 0, 0), some (.getfield 246, 3, 12, 7, 0, 1225), none, none, some (.imul, 1, 0, 0, 0, 0), some (.if_icmp .ge 17, 3, 0, 0, 0, 0), none, none, some (.aload_n 0, 1, 0, 0, 0, 0)],
  [some (.getfield 136, 3, 12, 61, 0, 1279), none, none, some (.iload 5, 2, 0, 0, 0, 0), none, some (.iconst 0, 1, 0, 0, 0, 0), some (.bastore, 1, 0, 0, 0, 0), some (.iinc 5 1, 3, 0, 0, 0, 0), none, none, some (.goto (-23), 3, 0, 0, 0, 0), none, none, some (.aload_n 0, 1, 0, 0, 0, 0), some (.getfield 246, 3, 12, 7, 0, 1225), none],
  [none, some (.iconst 1, 1, 0, 0, 0, 0), some (.isub, 1, 0, 0, 0, 0), some (.istore 5, 2, 0, 0, 0, 0), none, some (.iload 5, 2, 0, 0, 0, 0), none, some (.ifCond .lt 184, 3, 0, 0, 0, 0), none, none, some (.aload_n 0, 1, 0, 0, 0, 0), some (.iload 5, 2, 0, 0, 0, 0), none, some (.iload_n 2, 1, 0, 0, 0, 0), some (.aload_n 0, 1, 0, 0, 0, 0), some (.getfield 32, 3, 12, 17, 0, 1235)],
  [none, none, some (.iload_n 3, 1, 0, 0, 0, 0), some (.iaload, 1, 0, 0, 0, 0), some (.iload 4, 2, 0, 0, 0, 0), none, some (.invokevirtual 394, 3, 193, 5, 12, 1680), none, none, some (.ifCond .ne 6, 3, 0, 0, 0, 0), none, none, some (.goto 157, 3, 0, 0, 0, 0), none, none, some (.bipush 12, 2, 0, 0, 0, 0)],
  [none, some (.iload 5, 2, 0, 0, 0, 0), none, some (.imul, 1, 0, 0, 0, 0), some (.istore 6, 2, 0, 0, 0, 0), none, some (.iload 6, 2, 0, 0, 0, 0), none, some (.bipush 12, 2, 0, 0, 0, 0), none, some (.iload 5, 2, 0, 0, 0, 0), none, some (.imul, 1, 0, 0, 0, 0), some (.aload_n 0, 1, 0, 0, 0, 0), some (.getfield 63, 3, 12, 27, 0, 1245), none],
  [none, some (.iload 5, 2, 0, 0, 0, 0), none, some (.iaload, 1, 0, 0, 0, 0), some (.iadd, 1, 0, 0, 0, 0), some (.if_icmp .ge 67, 3, 0, 0, 0, 0), none, none, some (.aload_n 0, 1, 0, 0, 0, 0), some (.getfield 66, 3, 12, 28, 0, 1246), none, none, some (.iload 6, 2, 0, 0, 0, 0), none, some (.iaload, 1, 0, 0, 0, 0), some (.bipush 120, 2, 0, 0, 0, 0)],
  [none, some (.if_icmp .ne 49, 3, 0, 0, 0, 0), none, none, some (.aload_n 0, 1, 0, 0, 0, 0), some (.getfield 136, 3, 12, 61, 0, 1279), none, none, some (.iload 6, 2, 0, 0, 0, 0), none, some (.baload, 1, 0, 0, 0, 0), some (.ifCond .ne 39, 3, 0, 0, 0, 0), none, none, some (.aload_n 0, 1, 0, 0, 0, 0), some (.getfield 69, 3, 12, 29, 0, 1247)],
  [none, none, some (.iload 6, 2, 0, 0, 0, 0), none, some (.iaload, 1, 0, 0, 0, 0), some (.iload 5, 2, 0, 0, 0, 0), none, some (.if_icmp .ge 27, 3, 0, 0, 0, 0), none, none, some (.aload_n 0, 1, 0, 0, 0, 0), some (.getfield 136, 3, 12, 61, 0, 1279), none, none, some (.bipush 12, 2, 0, 0, 0, 0), none],
  [some (.aload_n 0, 1, 0, 0, 0, 0), some (.getfield 69, 3, 12, 29, 0, 1247), none, none, some (.iload 6, 2, 0, 0, 0, 0), none, some (.iaload, 1, 0, 0, 0, 0), some (.imul, 1, 0, 0, 0, 0), some (.aload_n 0, 1, 0, 0, 0, 0), some (.getfield 72, 3, 12, 30, 0, 1248), none, none, some (.iload 6, 2, 0, 0, 0, 0), none, some (.iaload, 1, 0, 0, 0, 0), some (.iadd, 1, 0, 0, 0, 0)],
  [some (.iconst 1, 1, 0, 0, 0, 0), some (.bastore, 1, 0, 0, 0, 0), some (.iinc 6 1, 3, 0, 0, 0, 0), none, none, some (.goto (-79), 3, 0, 0, 0, 0), none, none, some (.bipush 12, 2, 0, 0, 0, 0), none, some (.iload 5, 2, 0, 0, 0, 0), none, some (.imul, 1, 0, 0, 0, 0), some (.istore 6, 2, 0, 0, 0, 0), none, some (.iload 6, 2, 0, 0, 0, 0)],
  [none, some (.bipush 12, 2, 0, 0, 0, 0), none, some (.iload 5, 2, 0, 0, 0, 0), none, some (.imul, 1, 0, 0, 0, 0), some (.aload_n 0, 1, 0, 0, 0, 0), some (.getfield 63, 3, 12, 27, 0, 1245), none, none, some (.iload 5, 2, 0, 0, 0, 0), none, some (.iaload, 1, 0, 0, 0, 0), some (.iadd, 1, 0, 0, 0, 0), some (.if_icmp .ge 43, 3, 0, 0, 0, 0), none],
  [none, some (.aload_n 0, 1, 0, 0, 0, 0), some (.getfield 66, 3, 12, 28, 0, 1246), none, none, some (.iload 6, 2, 0, 0, 0, 0), none, some (.iaload, 1, 0, 0, 0, 0), some (.iload_n 1, 1, 0, 0, 0, 0), some (.if_icmp .ne 26, 3, 0, 0, 0, 0), none, none, some (.aload_n 0, 1, 0, 0, 0, 0), some (.getfield 136, 3, 12, 61, 0, 1279), none, none],
  [some (.iload 6, 2, 0, 0, 0, 0), none, some (.baload, 1, 0, 0, 0, 0), some (.ifCond .ne 16, 3, 0, 0, 0, 0), none, none, some (.aload_n 0, 1, 0, 0, 0, 0), some (.iload 6, 2, 0, 0, 0, 0), none, some (.iload_n 3, 1, 0, 0, 0, 0), some (.invokevirtual 398, 3, 192, 3, 12, 1684), none, none, some (.ifCond .eq 6, 3, 0, 0, 0, 0), none, none],
  [some (.iload 6, 2, 0, 0, 0, 0), none, some (.ireturn, 1, 0, 0, 0, 0), some (.iinc 6 1, 3, 0, 0, 0, 0), none, none, some (.goto (-55), 3, 0, 0, 0, 0), none, none, some (.iinc 5 (-1), 3, 0, 0, 0, 0), none, none, some (.goto (-183), 3, 0, 0, 0, 0), none, none, some (.iconst (-1), 1, 0, 0, 0, 0)],
  [some (.ireturn, 1, 0, 0, 0, 0)]]
/-- 195: PurseTraceModel.wayOf(II)I -/
noncomputable def am_o195 : List (List (Option am_Op)) := [[some (.aload_n 0, 1, 0, 0, 0, 0), some (.getfield 126, 3, 12, 58, 0, 1276), none, none, some (.aload_n 0, 1, 0, 0, 0, 0), some (.getfield 23, 3, 12, 14, 0, 1232), none, none, some (.iload_n 1, 1, 0, 0, 0, 0), some (.iaload, 1, 0, 0, 0, 0), some (.iaload, 1, 0, 0, 0, 0), some (.iconst (-1), 1, 0, 0, 0, 0), some (.if_icmp .eq 15, 3, 0, 0, 0, 0), none, none, some (.aload_n 0, 1, 0, 0, 0, 0)],
  [some (.getfield 126, 3, 12, 58, 0, 1276), none, none, some (.aload_n 0, 1, 0, 0, 0, 0), some (.getfield 23, 3, 12, 14, 0, 1232), none, none, some (.iload_n 1, 1, 0, 0, 0, 0), some (.iaload, 1, 0, 0, 0, 0), some (.iaload, 1, 0, 0, 0, 0), some (.ireturn, 1, 0, 0, 0, 0), some (.aload_n 0, 1, 0, 0, 0, 0), some (.bipush 119, 2, 0, 0, 0, 0), none, some (.aload_n 0, 1, 0, 0, 0, 0), some (.getfield 17, 3, 12, 12, 0, 1230)],
  [none, none, some (.aload_n 0, 1, 0, 0, 0, 0), some (.getfield 23, 3, 12, 14, 0, 1232), none, none, some (.iload_n 1, 1, 0, 0, 0, 0), some (.iaload, 1, 0, 0, 0, 0), some (.iaload, 1, 0, 0, 0, 0), some (.iload_n 1, 1, 0, 0, 0, 0), some (.iload_n 2, 1, 0, 0, 0, 0), some (.invokevirtual 402, 3, 194, 5, 12, 1676), none, none, some (.istore_n 3, 1, 0, 0, 0, 0), some (.iload_n 3, 1, 0, 0, 0, 0)],
  [some (.iconst (-1), 1, 0, 0, 0, 0), some (.if_icmp .ne 7, 3, 0, 0, 0, 0), none, none, some (.iconst 0, 1, 0, 0, 0, 0), some (.goto 9, 3, 0, 0, 0, 0), none, none, some (.aload_n 0, 1, 0, 0, 0, 0), some (.getfield 69, 3, 12, 29, 0, 1247), none, none, some (.iload_n 3, 1, 0, 0, 0, 0), some (.iaload, 1, 0, 0, 0, 0), some (.ireturn, 1, 0, 0, 0, 0)]]
/-- 196: PurseTraceModel.moves(IZI)V -/
noncomputable def am_o196 : List (List (Option am_Op)) := [[some (.aload_n 0, 1, 0, 0, 0, 0), some (.getfield 26, 3, 12, 15, 0, 1233), none, none, some (.iload_n 1, 1, 0, 0, 0, 0), some (.iaload, 1, 0, 0, 0, 0), some (.istore 4, 2, 0, 0, 0, 0), none, some (.iconst 0, 1, 0, 0, 0, 0), some (.istore 5, 2, 0, 0, 0, 0), none, some (.iload 5, 2, 0, 0, 0, 0), none, some (.aload_n 0, 1, 0, 0, 0, 0), some (.getfield 355, 3, 12, 54, 0, 1272), none],
  [none, some (.if_icmp .ge 82, 3, 0, 0, 0, 0), none, none, some (.aload_n 0, 1, 0, 0, 0, 0), some (.getfield 117, 3, 12, 55, 0, 1273), none, none, some (.iload 5, 2, 0, 0, 0, 0), none, some (.iaload, 1, 0, 0, 0, 0), some (.istore 6, 2, 0, 0, 0, 0), none, some (.iload_n 2, 1, 0, 0, 0, 0), some (.ifCond .eq 30, 3, 0, 0, 0, 0), none],
  [none, some (.aload_n 0, 1, 0, 0, 0, 0), some (.aload_n 0, 1, 0, 0, 0, 0), some (.getfield 13, 3, 12, 11, 0, 1229), none, none, some (.iload 4, 2, 0, 0, 0, 0), none, some (.iaload, 1, 0, 0, 0, 0), some (.iload 6, 2, 0, 0, 0, 0), none, some (.aload_n 0, 1, 0, 0, 0, 0), some (.getfield 32, 3, 12, 17, 0, 1235), none, none, some (.iload_n 1, 1, 0, 0, 0, 0)],
  [some (.iaload, 1, 0, 0, 0, 0), some (.iload_n 3, 1, 0, 0, 0, 0), some (.invokevirtual 406, 3, 177, 5, 12, 1751), none, none, some (.ifCond .ne 7, 3, 0, 0, 0, 0), none, none, some (.iconst 1, 1, 0, 0, 0, 0), some (.goto 4, 3, 0, 0, 0, 0), none, none, some (.iconst 0, 1, 0, 0, 0, 0), some (.istore 7, 2, 0, 0, 0, 0), none, some (.aload_n 0, 1, 0, 0, 0, 0)],
  [some (.iload 4, 2, 0, 0, 0, 0), none, some (.iload 7, 2, 0, 0, 0, 0), none, some (.ifCond .eq 13, 3, 0, 0, 0, 0), none, none, some (.aload_n 0, 1, 0, 0, 0, 0), some (.getfield 13, 3, 12, 11, 0, 1229), none, none, some (.iload 4, 2, 0, 0, 0, 0), none, some (.iaload, 1, 0, 0, 0, 0), some (.goto 5, 3, 0, 0, 0, 0), none],
  [none, some (.iload 6, 2, 0, 0, 0, 0), none, some (.aload_n 0, 1, 0, 0, 0, 0), some (.getfield 120, 3, 12, 56, 0, 1274), none, none, some (.iload 5, 2, 0, 0, 0, 0), none, some (.iaload, 1, 0, 0, 0, 0), some (.invokevirtual 371, 3, 179, 4, 12, 1668), none, none, some (.iinc 5 1, 3, 0, 0, 0, 0), none, none],
  [some (.goto (-85), 3, 0, 0, 0, 0), none, none, some (.return_, 1, 0, 0, 0, 0)]]
/-- 197: PurseTraceModel.spends(I)V -/
noncomputable def am_o197 : List (List (Option am_Op)) := [[some (.iconst 0, 1, 0, 0, 0, 0), some (.istore_n 2, 1, 0, 0, 0, 0), some (.iload_n 2, 1, 0, 0, 0, 0), some (.aload_n 0, 1, 0, 0, 0, 0), some (.getfield 355, 3, 12, 54, 0, 1272), none, none, some (.if_icmp .ge 59, 3, 0, 0, 0, 0), none, none, some (.aload_n 0, 1, 0, 0, 0, 0), some (.getfield 117, 3, 12, 55, 0, 1273), none, none, some (.iload_n 2, 1, 0, 0, 0, 0), some (.iaload, 1, 0, 0, 0, 0)],
  [some (.aload_n 0, 1, 0, 0, 0, 0), some (.getfield 13, 3, 12, 11, 0, 1229), none, none, some (.aload_n 0, 1, 0, 0, 0, 0), some (.getfield 23, 3, 12, 14, 0, 1232), none, none, some (.iload_n 1, 1, 0, 0, 0, 0), some (.iaload, 1, 0, 0, 0, 0), some (.iaload, 1, 0, 0, 0, 0), some (.if_icmp .eq 33, 3, 0, 0, 0, 0), none, none, some (.aload_n 0, 1, 0, 0, 0, 0), some (.getfield 114, 3, 12, 53, 0, 1271)],
  [none, none, some (.bipush 10, 2, 0, 0, 0, 0), none, some (.aload_n 0, 1, 0, 0, 0, 0), some (.getfield 23, 3, 12, 14, 0, 1232), none, none, some (.iload_n 1, 1, 0, 0, 0, 0), some (.iaload, 1, 0, 0, 0, 0), some (.imul, 1, 0, 0, 0, 0), some (.aload_n 0, 1, 0, 0, 0, 0), some (.getfield 117, 3, 12, 55, 0, 1273), none, none, some (.iload_n 2, 1, 0, 0, 0, 0)],
  [some (.iaload, 1, 0, 0, 0, 0), some (.iadd, 1, 0, 0, 0, 0), some (.dup2, 1, 0, 0, 0, 0), some (.iaload, 1, 0, 0, 0, 0), some (.aload_n 0, 1, 0, 0, 0, 0), some (.getfield 120, 3, 12, 56, 0, 1274), none, none, some (.iload_n 2, 1, 0, 0, 0, 0), some (.iaload, 1, 0, 0, 0, 0), some (.iadd, 1, 0, 0, 0, 0), some (.iastore, 1, 0, 0, 0, 0), some (.iinc 2 1, 3, 0, 0, 0, 0), none, none, some (.goto (-61), 3, 0, 0, 0, 0)],
  [none, none, some (.return_, 1, 0, 0, 0, 0)]]
/-- 198: PurseTraceModel.buys(I)V -/
noncomputable def am_o198 : List (List (Option am_Op)) := [[some (.iconst 0, 1, 0, 0, 0, 0), some (.istore_n 2, 1, 0, 0, 0, 0), some (.iload_n 2, 1, 0, 0, 0, 0), some (.aload_n 0, 1, 0, 0, 0, 0), some (.getfield 355, 3, 12, 54, 0, 1272), none, none, some (.if_icmp .ge 39, 3, 0, 0, 0, 0), none, none, some (.aload_n 0, 1, 0, 0, 0, 0), some (.getfield 111, 3, 12, 52, 0, 1270), none, none, some (.bipush 10, 2, 0, 0, 0, 0), none],
  [some (.aload_n 0, 1, 0, 0, 0, 0), some (.getfield 26, 3, 12, 15, 0, 1233), none, none, some (.iload_n 1, 1, 0, 0, 0, 0), some (.iaload, 1, 0, 0, 0, 0), some (.imul, 1, 0, 0, 0, 0), some (.aload_n 0, 1, 0, 0, 0, 0), some (.getfield 117, 3, 12, 55, 0, 1273), none, none, some (.iload_n 2, 1, 0, 0, 0, 0), some (.iaload, 1, 0, 0, 0, 0), some (.iadd, 1, 0, 0, 0, 0), some (.dup2, 1, 0, 0, 0, 0), some (.iaload, 1, 0, 0, 0, 0)],
  [some (.aload_n 0, 1, 0, 0, 0, 0), some (.getfield 120, 3, 12, 56, 0, 1274), none, none, some (.iload_n 2, 1, 0, 0, 0, 0), some (.iaload, 1, 0, 0, 0, 0), some (.iadd, 1, 0, 0, 0, 0), some (.iastore, 1, 0, 0, 0, 0), some (.iinc 2 1, 3, 0, 0, 0, 0), none, none, some (.goto (-41), 3, 0, 0, 0, 0), none, none, some (.return_, 1, 0, 0, 0, 0)]]
/-- 199: PurseTraceModel.partsOut(III)V -/
noncomputable def am_o199 : List (List (Option am_Op)) := [[some (.iconst 0, 1, 0, 0, 0, 0), some (.istore 4, 2, 0, 0, 0, 0), none, some (.iconst 0, 1, 0, 0, 0, 0), some (.istore 5, 2, 0, 0, 0, 0), none, some (.iload 5, 2, 0, 0, 0, 0), none, some (.aload_n 0, 1, 0, 0, 0, 0), some (.getfield 181, 3, 12, 3, 0, 1221), none, none, some (.if_icmp .ge 36, 3, 0, 0, 0, 0), none, none, some (.iload 4, 2, 0, 0, 0, 0)],
  [none, some (.iload 5, 2, 0, 0, 0, 0), none, some (.iload_n 3, 1, 0, 0, 0, 0), some (.if_icmp .ne 7, 3, 0, 0, 0, 0), none, none, some (.iconst 0, 1, 0, 0, 0, 0), some (.goto 15, 3, 0, 0, 0, 0), none, none, some (.aload_n 0, 1, 0, 0, 0, 0), some (.getfield 111, 3, 12, 52, 0, 1270), none, none, some (.bipush 10, 2, 0, 0, 0, 0)],
  [none, some (.iload_n 1, 1, 0, 0, 0, 0), some (.imul, 1, 0, 0, 0, 0), some (.iload 5, 2, 0, 0, 0, 0), none, some (.iadd, 1, 0, 0, 0, 0), some (.iaload, 1, 0, 0, 0, 0), some (.iadd, 1, 0, 0, 0, 0), some (.istore 4, 2, 0, 0, 0, 0), none, some (.iinc 5 1, 3, 0, 0, 0, 0), none, none, some (.goto (-39), 3, 0, 0, 0, 0), none, none],
  [some (.iload_n 2, 1, 0, 0, 0, 0), some (.istore 5, 2, 0, 0, 0, 0), none, some (.iconst 0, 1, 0, 0, 0, 0), some (.istore 6, 2, 0, 0, 0, 0), none, some (.iload 6, 2, 0, 0, 0, 0), none, some (.aload_n 0, 1, 0, 0, 0, 0), some (.getfield 181, 3, 12, 3, 0, 1221), none, none, some (.if_icmp .ge 59, 3, 0, 0, 0, 0), none, none, some (.aload_n 0, 1, 0, 0, 0, 0)],
  [some (.getfield 139, 3, 12, 62, 0, 1280), none, none, some (.iload 6, 2, 0, 0, 0, 0), none, some (.iload 6, 2, 0, 0, 0, 0), none, some (.iload_n 3, 1, 0, 0, 0, 0), some (.if_icmp .ne 7, 3, 0, 0, 0, 0), none, none, some (.iconst 0, 1, 0, 0, 0, 0), some (.goto 24, 3, 0, 0, 0, 0), none, none, some (.iload_n 2, 1, 0, 0, 0, 0)],
  [some (.i2l, 1, 0, 0, 0, 0), some (.aload_n 0, 1, 0, 0, 0, 0), some (.getfield 111, 3, 12, 52, 0, 1270), none, none, some (.bipush 10, 2, 0, 0, 0, 0), none, some (.iload_n 1, 1, 0, 0, 0, 0), some (.imul, 1, 0, 0, 0, 0), some (.iload 6, 2, 0, 0, 0, 0), none, some (.iadd, 1, 0, 0, 0, 0), some (.iaload, 1, 0, 0, 0, 0), some (.i2l, 1, 0, 0, 0, 0), some (.lmul, 1, 0, 0, 0, 0), some (.iload 4, 2, 0, 0, 0, 0)],
  [none, some (.i2l, 1, 0, 0, 0, 0), some (.ldiv, 1, 0, 0, 0, 0), some (.l2i, 1, 0, 0, 0, 0), some (.iastore, 1, 0, 0, 0, 0), some (.iload 5, 2, 0, 0, 0, 0), none, some (.aload_n 0, 1, 0, 0, 0, 0), some (.getfield 139, 3, 12, 62, 0, 1280), none, none, some (.iload 6, 2, 0, 0, 0, 0), none, some (.iaload, 1, 0, 0, 0, 0), some (.isub, 1, 0, 0, 0, 0), some (.istore 5, 2, 0, 0, 0, 0)],
  [none, some (.iinc 6 1, 3, 0, 0, 0, 0), none, none, some (.goto (-62), 3, 0, 0, 0, 0), none, none, some (.iconst 0, 1, 0, 0, 0, 0), some (.istore 6, 2, 0, 0, 0, 0), none, some (.iload 6, 2, 0, 0, 0, 0), none, some (.aload_n 0, 1, 0, 0, 0, 0), some (.getfield 181, 3, 12, 3, 0, 1221), none, none],
  [some (.if_icmp .ge 52, 3, 0, 0, 0, 0), none, none, some (.iload 5, 2, 0, 0, 0, 0), none, some (.ifCond .le 47, 3, 0, 0, 0, 0), none, none, some (.iload 6, 2, 0, 0, 0, 0), none, some (.iload_n 3, 1, 0, 0, 0, 0), some (.if_icmp .eq 35, 3, 0, 0, 0, 0), none, none, some (.aload_n 0, 1, 0, 0, 0, 0), some (.getfield 111, 3, 12, 52, 0, 1270)],
  [none, none, some (.bipush 10, 2, 0, 0, 0, 0), none, some (.iload_n 1, 1, 0, 0, 0, 0), some (.imul, 1, 0, 0, 0, 0), some (.iload 6, 2, 0, 0, 0, 0), none, some (.iadd, 1, 0, 0, 0, 0), some (.iaload, 1, 0, 0, 0, 0), some (.ifCond .ne 6, 3, 0, 0, 0, 0), none, none, some (.goto 17, 3, 0, 0, 0, 0), none, none],
  [some (.aload_n 0, 1, 0, 0, 0, 0), some (.getfield 139, 3, 12, 62, 0, 1280), none, none, some (.iload 6, 2, 0, 0, 0, 0), none, some (.dup2, 1, 0, 0, 0, 0), some (.iaload, 1, 0, 0, 0, 0), some (.iconst 1, 1, 0, 0, 0, 0), some (.iadd, 1, 0, 0, 0, 0), some (.iastore, 1, 0, 0, 0, 0), some (.iinc 5 (-1), 3, 0, 0, 0, 0), none, none, some (.iinc 6 1, 3, 0, 0, 0, 0), none],
  [none, some (.goto (-55), 3, 0, 0, 0, 0), none, none, some (.return_, 1, 0, 0, 0, 0)]]
/-- 200: PurseTraceModel.sells(II)V -/
noncomputable def am_o200 : List (List (Option am_Op)) := [[some (.aload_n 0, 1, 0, 0, 0, 0), some (.getfield 26, 3, 12, 15, 0, 1233), none, none, some (.iload_n 1, 1, 0, 0, 0, 0), some (.iaload, 1, 0, 0, 0, 0), some (.istore_n 3, 1, 0, 0, 0, 0), some (.aload_n 0, 1, 0, 0, 0, 0), some (.getfield 13, 3, 12, 11, 0, 1229), none, none, some (.aload_n 0, 1, 0, 0, 0, 0), some (.getfield 23, 3, 12, 14, 0, 1232), none, none, some (.iload_n 1, 1, 0, 0, 0, 0)],
  [some (.iaload, 1, 0, 0, 0, 0), some (.iaload, 1, 0, 0, 0, 0), some (.istore 4, 2, 0, 0, 0, 0), none, some (.aload_n 0, 1, 0, 0, 0, 0), some (.bipush 114, 2, 0, 0, 0, 0), none, some (.aload_n 0, 1, 0, 0, 0, 0), some (.getfield 17, 3, 12, 12, 0, 1230), none, none, some (.aload_n 0, 1, 0, 0, 0, 0), some (.getfield 23, 3, 12, 14, 0, 1232), none, none, some (.iload_n 1, 1, 0, 0, 0, 0)],
  [some (.iaload, 1, 0, 0, 0, 0), some (.iaload, 1, 0, 0, 0, 0), some (.iload_n 1, 1, 0, 0, 0, 0), some (.iload_n 2, 1, 0, 0, 0, 0), some (.invokevirtual 402, 3, 194, 5, 12, 1676), none, none, some (.iconst (-1), 1, 0, 0, 0, 0), some (.if_icmp .eq 7, 3, 0, 0, 0, 0), none, none, some (.iconst 1, 1, 0, 0, 0, 0), some (.goto 4, 3, 0, 0, 0, 0), none, none, some (.iconst 0, 1, 0, 0, 0, 0)],
  [some (.istore 5, 2, 0, 0, 0, 0), none, some (.iconst 0, 1, 0, 0, 0, 0), some (.istore 6, 2, 0, 0, 0, 0), none, some (.iconst 0, 1, 0, 0, 0, 0), some (.istore 7, 2, 0, 0, 0, 0), none, some (.iload 7, 2, 0, 0, 0, 0), none, some (.aload_n 0, 1, 0, 0, 0, 0), some (.getfield 181, 3, 12, 3, 0, 1221), none, none, some (.if_icmp .ge 34, 3, 0, 0, 0, 0), none],
  [none, some (.iload 6, 2, 0, 0, 0, 0), none, some (.aload_n 0, 1, 0, 0, 0, 0), some (.getfield 111, 3, 12, 52, 0, 1270), none, none, some (.bipush 10, 2, 0, 0, 0, 0), none, some (.iload_n 3, 1, 0, 0, 0, 0), some (.imul, 1, 0, 0, 0, 0), some (.iload 7, 2, 0, 0, 0, 0), none, some (.iadd, 1, 0, 0, 0, 0), some (.iaload, 1, 0, 0, 0, 0), some (.iadd, 1, 0, 0, 0, 0)],
  [some (.istore 6, 2, 0, 0, 0, 0), none, some (.aload_n 0, 1, 0, 0, 0, 0), some (.getfield 139, 3, 12, 62, 0, 1280), none, none, some (.iload 7, 2, 0, 0, 0, 0), none, some (.iconst 0, 1, 0, 0, 0, 0), some (.iastore, 1, 0, 0, 0, 0), some (.iinc 7 1, 3, 0, 0, 0, 0), none, none, some (.goto (-37), 3, 0, 0, 0, 0), none, none],
  [some (.iload 6, 2, 0, 0, 0, 0), none, some (.aload_n 0, 1, 0, 0, 0, 0), some (.getfield 111, 3, 12, 52, 0, 1270), none, none, some (.bipush 10, 2, 0, 0, 0, 0), none, some (.iload_n 3, 1, 0, 0, 0, 0), some (.imul, 1, 0, 0, 0, 0), some (.iload 4, 2, 0, 0, 0, 0), none, some (.iadd, 1, 0, 0, 0, 0), some (.iaload, 1, 0, 0, 0, 0), some (.isub, 1, 0, 0, 0, 0), some (.istore 7, 2, 0, 0, 0, 0)],
  [none, some (.iload 6, 2, 0, 0, 0, 0), none, some (.ifCond .ne 19, 3, 0, 0, 0, 0), none, none, some (.aload_n 0, 1, 0, 0, 0, 0), some (.getfield 139, 3, 12, 62, 0, 1280), none, none, some (.iload 4, 2, 0, 0, 0, 0), none, some (.aload_n 0, 1, 0, 0, 0, 0), some (.getfield 29, 3, 12, 16, 0, 1234), none, none],
  [some (.iload_n 1, 1, 0, 0, 0, 0), some (.iaload, 1, 0, 0, 0, 0), some (.iastore, 1, 0, 0, 0, 0), some (.goto 106, 3, 0, 0, 0, 0), none, none, some (.iload 5, 2, 0, 0, 0, 0), none, some (.ifCond .eq 18, 3, 0, 0, 0, 0), none, none, some (.aload_n 0, 1, 0, 0, 0, 0), some (.iload_n 3, 1, 0, 0, 0, 0), some (.aload_n 0, 1, 0, 0, 0, 0), some (.getfield 29, 3, 12, 16, 0, 1234), none],
  [none, some (.iload_n 1, 1, 0, 0, 0, 0), some (.iaload, 1, 0, 0, 0, 0), some (.iconst (-1), 1, 0, 0, 0, 0), some (.invokevirtual 409, 3, 199, 4, 12, 1711), none, none, some (.goto 86, 3, 0, 0, 0, 0), none, none, some (.aload_n 0, 1, 0, 0, 0, 0), some (.getfield 29, 3, 12, 16, 0, 1234), none, none, some (.iload_n 1, 1, 0, 0, 0, 0), some (.iaload, 1, 0, 0, 0, 0)],
  [some (.iload 7, 2, 0, 0, 0, 0), none, some (.if_icmp .ge 19, 3, 0, 0, 0, 0), none, none, some (.aload_n 0, 1, 0, 0, 0, 0), some (.iload_n 3, 1, 0, 0, 0, 0), some (.aload_n 0, 1, 0, 0, 0, 0), some (.getfield 29, 3, 12, 16, 0, 1234), none, none, some (.iload_n 1, 1, 0, 0, 0, 0), some (.iaload, 1, 0, 0, 0, 0), some (.iload 4, 2, 0, 0, 0, 0), none, some (.invokevirtual 409, 3, 199, 4, 12, 1711)],
  [none, none, some (.goto 59, 3, 0, 0, 0, 0), none, none, some (.iconst 0, 1, 0, 0, 0, 0), some (.istore 8, 2, 0, 0, 0, 0), none, some (.iload 8, 2, 0, 0, 0, 0), none, some (.aload_n 0, 1, 0, 0, 0, 0), some (.getfield 181, 3, 12, 3, 0, 1221), none, none, some (.if_icmp .ge 47, 3, 0, 0, 0, 0), none],
  [none, some (.aload_n 0, 1, 0, 0, 0, 0), some (.getfield 139, 3, 12, 62, 0, 1280), none, none, some (.iload 8, 2, 0, 0, 0, 0), none, some (.iload 8, 2, 0, 0, 0, 0), none, some (.iload 4, 2, 0, 0, 0, 0), none, some (.if_icmp .ne 15, 3, 0, 0, 0, 0), none, none, some (.aload_n 0, 1, 0, 0, 0, 0), some (.getfield 29, 3, 12, 16, 0, 1234)],
  [none, none, some (.iload_n 1, 1, 0, 0, 0, 0), some (.iaload, 1, 0, 0, 0, 0), some (.iload 7, 2, 0, 0, 0, 0), none, some (.isub, 1, 0, 0, 0, 0), some (.goto 15, 3, 0, 0, 0, 0), none, none, some (.aload_n 0, 1, 0, 0, 0, 0), some (.getfield 111, 3, 12, 52, 0, 1270), none, none, some (.bipush 10, 2, 0, 0, 0, 0), none],
  [some (.iload_n 3, 1, 0, 0, 0, 0), some (.imul, 1, 0, 0, 0, 0), some (.iload 8, 2, 0, 0, 0, 0), none, some (.iadd, 1, 0, 0, 0, 0), some (.iaload, 1, 0, 0, 0, 0), some (.iastore, 1, 0, 0, 0, 0), some (.iinc 8 1, 3, 0, 0, 0, 0), none, none, some (.goto (-50), 3, 0, 0, 0, 0), none, none, some (.iconst 0, 1, 0, 0, 0, 0), some (.istore 8, 2, 0, 0, 0, 0), none],
  [some (.iload 8, 2, 0, 0, 0, 0), none, some (.aload_n 0, 1, 0, 0, 0, 0), some (.getfield 181, 3, 12, 3, 0, 1221), none, none, some (.if_icmp .ge 41, 3, 0, 0, 0, 0), none, none, some (.aload_n 0, 1, 0, 0, 0, 0), some (.getfield 111, 3, 12, 52, 0, 1270), none, none, some (.bipush 10, 2, 0, 0, 0, 0), none, some (.iload_n 3, 1, 0, 0, 0, 0)],
  [some (.imul, 1, 0, 0, 0, 0), some (.iload 8, 2, 0, 0, 0, 0), none, some (.iadd, 1, 0, 0, 0, 0), some (.iconst 0, 1, 0, 0, 0, 0), some (.iastore, 1, 0, 0, 0, 0), some (.aload_n 0, 1, 0, 0, 0, 0), some (.aload_n 0, 1, 0, 0, 0, 0), some (.getfield 23, 3, 12, 14, 0, 1232), none, none, some (.iload_n 1, 1, 0, 0, 0, 0), some (.iaload, 1, 0, 0, 0, 0), some (.iload 8, 2, 0, 0, 0, 0), none, some (.aload_n 0, 1, 0, 0, 0, 0)],
  [some (.getfield 139, 3, 12, 62, 0, 1280), none, none, some (.iload 8, 2, 0, 0, 0, 0), none, some (.iaload, 1, 0, 0, 0, 0), some (.invokevirtual 371, 3, 179, 4, 12, 1668), none, none, some (.iinc 8 1, 3, 0, 0, 0, 0), none, none, some (.goto (-44), 3, 0, 0, 0, 0), none, none, some (.return_, 1, 0, 0, 0, 0)]]
/-- 201: PurseTraceModel.makesGood(I)V -/
noncomputable def am_o201 : List (List (Option am_Op)) := [[some (.aload_n 0, 1, 0, 0, 0, 0), some (.getfield 23, 3, 12, 14, 0, 1232), none, none, some (.iload_n 1, 1, 0, 0, 0, 0), some (.iaload, 1, 0, 0, 0, 0), some (.istore_n 2, 1, 0, 0, 0, 0), some (.bipush 10, 2, 0, 0, 0, 0), none, some (.iload_n 2, 1, 0, 0, 0, 0), some (.imul, 1, 0, 0, 0, 0), some (.aload_n 0, 1, 0, 0, 0, 0), some (.getfield 26, 3, 12, 15, 0, 1233), none, none, some (.iload_n 1, 1, 0, 0, 0, 0)],
  [some (.iaload, 1, 0, 0, 0, 0), some (.iadd, 1, 0, 0, 0, 0), some (.istore_n 3, 1, 0, 0, 0, 0), some (.aload_n 0, 1, 0, 0, 0, 0), some (.getfield 114, 3, 12, 53, 0, 1271), none, none, some (.iload_n 3, 1, 0, 0, 0, 0), some (.iaload, 1, 0, 0, 0, 0), some (.aload_n 0, 1, 0, 0, 0, 0), some (.getfield 29, 3, 12, 16, 0, 1234), none, none, some (.iload_n 1, 1, 0, 0, 0, 0), some (.iaload, 1, 0, 0, 0, 0), some (.if_icmp .ge 12, 3, 0, 0, 0, 0)],
  [none, none, some (.aload_n 0, 1, 0, 0, 0, 0), some (.getfield 114, 3, 12, 53, 0, 1271), none, none, some (.iload_n 3, 1, 0, 0, 0, 0), some (.iaload, 1, 0, 0, 0, 0), some (.goto 9, 3, 0, 0, 0, 0), none, none, some (.aload_n 0, 1, 0, 0, 0, 0), some (.getfield 29, 3, 12, 16, 0, 1234), none, none, some (.iload_n 1, 1, 0, 0, 0, 0)],
  [some (.iaload, 1, 0, 0, 0, 0), some (.istore 4, 2, 0, 0, 0, 0), none, some (.aload_n 0, 1, 0, 0, 0, 0), some (.getfield 114, 3, 12, 53, 0, 1271), none, none, some (.iload_n 3, 1, 0, 0, 0, 0), some (.dup2, 1, 0, 0, 0, 0), some (.iaload, 1, 0, 0, 0, 0), some (.iload 4, 2, 0, 0, 0, 0), none, some (.isub, 1, 0, 0, 0, 0), some (.iastore, 1, 0, 0, 0, 0), some (.aload_n 0, 1, 0, 0, 0, 0), some (.getfield 139, 3, 12, 62, 0, 1280)],
  [none, none, some (.aload_n 0, 1, 0, 0, 0, 0), some (.getfield 26, 3, 12, 15, 0, 1233), none, none, some (.iload_n 1, 1, 0, 0, 0, 0), some (.iaload, 1, 0, 0, 0, 0), some (.dup2, 1, 0, 0, 0, 0), some (.iaload, 1, 0, 0, 0, 0), some (.iload 4, 2, 0, 0, 0, 0), none, some (.iadd, 1, 0, 0, 0, 0), some (.iastore, 1, 0, 0, 0, 0), some (.aload_n 0, 1, 0, 0, 0, 0), some (.getfield 139, 3, 12, 62, 0, 1280)],
  [none, none, some (.aload_n 0, 1, 0, 0, 0, 0), some (.getfield 13, 3, 12, 11, 0, 1229), none, none, some (.iload_n 2, 1, 0, 0, 0, 0), some (.iaload, 1, 0, 0, 0, 0), some (.dup2, 1, 0, 0, 0, 0), some (.iaload, 1, 0, 0, 0, 0), some (.aload_n 0, 1, 0, 0, 0, 0), some (.getfield 29, 3, 12, 16, 0, 1234), none, none, some (.iload_n 1, 1, 0, 0, 0, 0), some (.iaload, 1, 0, 0, 0, 0)],
  [some (.iload 4, 2, 0, 0, 0, 0), none, some (.isub, 1, 0, 0, 0, 0), some (.iadd, 1, 0, 0, 0, 0), some (.iastore, 1, 0, 0, 0, 0), some (.aload_n 0, 1, 0, 0, 0, 0), some (.iload_n 2, 1, 0, 0, 0, 0), some (.aload_n 0, 1, 0, 0, 0, 0), some (.getfield 26, 3, 12, 15, 0, 1233), none, none, some (.iload_n 1, 1, 0, 0, 0, 0), some (.iaload, 1, 0, 0, 0, 0), some (.iload 4, 2, 0, 0, 0, 0), none, some (.invokevirtual 371, 3, 179, 4, 12, 1668)],
  [none, none, some (.aload_n 0, 1, 0, 0, 0, 0), some (.iload_n 2, 1, 0, 0, 0, 0), some (.aload_n 0, 1, 0, 0, 0, 0), some (.getfield 13, 3, 12, 11, 0, 1229), none, none, some (.iload_n 2, 1, 0, 0, 0, 0), some (.iaload, 1, 0, 0, 0, 0), some (.aload_n 0, 1, 0, 0, 0, 0), some (.getfield 29, 3, 12, 16, 0, 1234), none, none, some (.iload_n 1, 1, 0, 0, 0, 0), some (.iaload, 1, 0, 0, 0, 0)],
  [some (.iload 4, 2, 0, 0, 0, 0), none, some (.isub, 1, 0, 0, 0, 0), some (.invokevirtual 371, 3, 179, 4, 12, 1668), none, none, some (.return_, 1, 0, 0, 0, 0)]]
/-- 202: PurseTraceModel.acts(II)Z -/
noncomputable def am_o202 : List (List (Option am_Op)) := [[some (.aload_n 0, 1, 0, 0, 0, 0), some (.getfield 23, 3, 12, 14, 0, 1232), none, none, some (.iload_n 1, 1, 0, 0, 0, 0), some (.iaload, 1, 0, 0, 0, 0), some (.istore_n 3, 1, 0, 0, 0, 0), some (.aload_n 0, 1, 0, 0, 0, 0), some (.iconst 0, 1, 0, 0, 0, 0), some (.putfield 355, 3, 12, 54, 0, 1272), none, none, some (.iconst 0, 1, 0, 0, 0, 0), some (.istore 4, 2, 0, 0, 0, 0), none, some (.iload 4, 2, 0, 0, 0, 0)],
  [none, some (.bipush 10, 2, 0, 0, 0, 0), none, some (.if_icmp .ge 17, 3, 0, 0, 0, 0), none, none, some (.aload_n 0, 1, 0, 0, 0, 0), some (.getfield 139, 3, 12, 62, 0, 1280), none, none, some (.iload 4, 2, 0, 0, 0, 0), none, some (.iconst 0, 1, 0, 0, 0, 0), some (.iastore, 1, 0, 0, 0, 0), some (.iinc 4 1, 3, 0, 0, 0, 0), none],
  [none, some (.goto (-18), 3, 0, 0, 0, 0), none, none, some (.aload_n 0, 1, 0, 0, 0, 0), some (.getfield 20, 3, 12, 13, 0, 1231), none, none, some (.iload_n 1, 1, 0, 0, 0, 0), some (.iaload, 1, 0, 0, 0, 0), some (.ifCond .ne 40, 3, 0, 0, 0, 0), none, none, some (.aload_n 0, 1, 0, 0, 0, 0), some (.getfield 139, 3, 12, 62, 0, 1280), none],
  [none, some (.aload_n 0, 1, 0, 0, 0, 0), some (.getfield 26, 3, 12, 15, 0, 1233), none, none, some (.iload_n 1, 1, 0, 0, 0, 0), some (.iaload, 1, 0, 0, 0, 0), some (.aload_n 0, 1, 0, 0, 0, 0), some (.getfield 29, 3, 12, 16, 0, 1234), none, none, some (.iload_n 1, 1, 0, 0, 0, 0), some (.iaload, 1, 0, 0, 0, 0), some (.iastore, 1, 0, 0, 0, 0), some (.aload_n 0, 1, 0, 0, 0, 0), some (.iload_n 3, 1, 0, 0, 0, 0)],
  [some (.aload_n 0, 1, 0, 0, 0, 0), some (.getfield 26, 3, 12, 15, 0, 1233), none, none, some (.iload_n 1, 1, 0, 0, 0, 0), some (.iaload, 1, 0, 0, 0, 0), some (.aload_n 0, 1, 0, 0, 0, 0), some (.getfield 29, 3, 12, 16, 0, 1234), none, none, some (.iload_n 1, 1, 0, 0, 0, 0), some (.iaload, 1, 0, 0, 0, 0), some (.invokevirtual 371, 3, 179, 4, 12, 1668), none, none, some (.goto 170, 3, 0, 0, 0, 0)],
  [none, none, some (.aload_n 0, 1, 0, 0, 0, 0), some (.getfield 20, 3, 12, 13, 0, 1231), none, none, some (.iload_n 1, 1, 0, 0, 0, 0), some (.iaload, 1, 0, 0, 0, 0), some (.iconst 4, 1, 0, 0, 0, 0), some (.if_icmp .ne 12, 3, 0, 0, 0, 0), none, none, some (.aload_n 0, 1, 0, 0, 0, 0), some (.iload_n 1, 1, 0, 0, 0, 0), some (.iload_n 2, 1, 0, 0, 0, 0), some (.invokevirtual 412, 3, 200, 3, 12, 1672)],
  [none, none, some (.goto 151, 3, 0, 0, 0, 0), none, none, some (.aload_n 0, 1, 0, 0, 0, 0), some (.getfield 20, 3, 12, 13, 0, 1231), none, none, some (.iload_n 1, 1, 0, 0, 0, 0), some (.iaload, 1, 0, 0, 0, 0), some (.iconst 5, 1, 0, 0, 0, 0), some (.if_icmp .ne 11, 3, 0, 0, 0, 0), none, none, some (.aload_n 0, 1, 0, 0, 0, 0)],
  [some (.iload_n 1, 1, 0, 0, 0, 0), some (.invokevirtual 415, 3, 201, 2, 12, 1715), none, none, some (.goto 133, 3, 0, 0, 0, 0), none, none, some (.aload_n 0, 1, 0, 0, 0, 0), some (.iload_n 1, 1, 0, 0, 0, 0), some (.iload_n 2, 1, 0, 0, 0, 0), some (.invokevirtual 418, 3, 195, 3, 12, 1719), none, none, some (.istore 4, 2, 0, 0, 0, 0), none, some (.aload_n 0, 1, 0, 0, 0, 0)],
  [some (.getfield 20, 3, 12, 13, 0, 1231), none, none, some (.iload_n 1, 1, 0, 0, 0, 0), some (.iaload, 1, 0, 0, 0, 0), some (.iconst 1, 1, 0, 0, 0, 0), some (.if_icmp .ne 39, 3, 0, 0, 0, 0), none, none, some (.aload_n 0, 1, 0, 0, 0, 0), some (.getfield 47, 3, 12, 22, 0, 1240), none, none, some (.iload_n 1, 1, 0, 0, 0, 0), some (.baload, 1, 0, 0, 0, 0), some (.ifCond .eq 30, 3, 0, 0, 0, 0)],
  [none, none, some (.aload_n 0, 1, 0, 0, 0, 0), some (.bipush 103, 2, 0, 0, 0, 0), none, some (.aload_n 0, 1, 0, 0, 0, 0), some (.getfield 17, 3, 12, 12, 0, 1230), none, none, some (.aload_n 0, 1, 0, 0, 0, 0), some (.getfield 26, 3, 12, 15, 0, 1233), none, none, some (.iload_n 1, 1, 0, 0, 0, 0), some (.iaload, 1, 0, 0, 0, 0), some (.iaload, 1, 0, 0, 0, 0)],
  [some (.iload_n 1, 1, 0, 0, 0, 0), some (.iload_n 2, 1, 0, 0, 0, 0), some (.invokevirtual 402, 3, 194, 5, 12, 1676), none, none, some (.iconst (-1), 1, 0, 0, 0, 0), some (.if_icmp .eq 7, 3, 0, 0, 0, 0), none, none, some (.iconst 1, 1, 0, 0, 0, 0), some (.goto 4, 3, 0, 0, 0, 0), none, none, some (.iconst 0, 1, 0, 0, 0, 0), some (.istore 5, 2, 0, 0, 0, 0), none],
  [some (.aload_n 0, 1, 0, 0, 0, 0), some (.iload_n 3, 1, 0, 0, 0, 0), some (.invokevirtual 364, 3, 180, 2, 12, 1699), none, none, some (.aload_n 0, 1, 0, 0, 0, 0), some (.getfield 29, 3, 12, 16, 0, 1234), none, none, some (.iload_n 1, 1, 0, 0, 0, 0), some (.iaload, 1, 0, 0, 0, 0), some (.if_icmp .ge 5, 3, 0, 0, 0, 0), none, none, some (.iconst 0, 1, 0, 0, 0, 0), some (.ireturn, 1, 1, 0, 0, 0)],
  [some (.aload_n 0, 1, 0, 0, 0, 0), some (.iload_n 3, 1, 0, 0, 0, 0), some (.aload_n 0, 1, 0, 0, 0, 0), some (.getfield 29, 3, 12, 16, 0, 1234), none, none, some (.iload_n 1, 1, 0, 0, 0, 0), some (.iaload, 1, 0, 0, 0, 0), some (.iload 4, 2, 0, 0, 0, 0), none, some (.invokevirtual 421, 3, 188, 4, 12, 1723), none, none, some (.aload_n 0, 1, 0, 0, 0, 0), some (.getfield 20, 3, 12, 13, 0, 1231), none],
  [none, some (.iload_n 1, 1, 0, 0, 0, 0), some (.iaload, 1, 0, 0, 0, 0), some (.iconst 1, 1, 0, 0, 0, 0), some (.if_icmp .ne 14, 3, 0, 0, 0, 0), none, none, some (.aload_n 0, 1, 0, 0, 0, 0), some (.iload_n 1, 1, 0, 0, 0, 0), some (.iload 5, 2, 0, 0, 0, 0), none, some (.iload_n 2, 1, 0, 0, 0, 0), some (.invokevirtual 424, 3, 196, 4, 12, 1747), none, none, some (.goto 26, 3, 0, 0, 0, 0)],
  [none, none, some (.aload_n 0, 1, 0, 0, 0, 0), some (.getfield 20, 3, 12, 13, 0, 1231), none, none, some (.iload_n 1, 1, 0, 0, 0, 0), some (.iaload, 1, 0, 0, 0, 0), some (.iconst 2, 1, 0, 0, 0, 0), some (.if_icmp .ne 11, 3, 0, 0, 0, 0), none, none, some (.aload_n 0, 1, 0, 0, 0, 0), some (.iload_n 1, 1, 0, 0, 0, 0), some (.invokevirtual 428, 3, 197, 2, 12, 1755), none],
  [none, some (.goto 8, 3, 0, 0, 0, 0), none, none, some (.aload_n 0, 1, 0, 0, 0, 0), some (.iload_n 1, 1, 0, 0, 0, 0), some (.invokevirtual 431, 3, 198, 2, 12, 1759), none, none, some (.iconst 1, 1, 0, 0, 0, 0), some (.ireturn, 1, 1, 0, 0, 0)]]
/-- 203: PurseTraceModel.isKnown(II)Z -/
noncomputable def am_o203 : List (List (Option am_Op)) := [[some (.aload_n 0, 1, 0, 0, 0, 0), some (.getfield 41, 3, 12, 20, 0, 1238), none, none, some (.iload_n 1, 1, 0, 0, 0, 0), some (.iaload, 1, 0, 0, 0, 0), some (.iload_n 2, 1, 0, 0, 0, 0), some (.if_icmp .gt 27, 3, 0, 0, 0, 0), none, none, some (.aload_n 0, 1, 0, 0, 0, 0), some (.getfield 44, 3, 12, 21, 0, 1239), none, none, some (.iload_n 1, 1, 0, 0, 0, 0), some (.iaload, 1, 0, 0, 0, 0)],
  [some (.iconst (-1), 1, 0, 0, 0, 0), some (.if_icmp .eq 13, 3, 0, 0, 0, 0), none, none, some (.aload_n 0, 1, 0, 0, 0, 0), some (.getfield 44, 3, 12, 21, 0, 1239), none, none, some (.iload_n 1, 1, 0, 0, 0, 0), some (.iaload, 1, 0, 0, 0, 0), some (.iload_n 2, 1, 0, 0, 0, 0), some (.if_icmp .le 7, 3, 0, 0, 0, 0), none, none, some (.iconst 1, 1, 0, 0, 0, 0), some (.goto 4, 3, 0, 0, 0, 0)],
  [none, none, some (.iconst 0, 1, 0, 0, 0, 0), some (.ireturn, 1, 1, 0, 0, 0)]]
/-- 204: PurseTraceModel.isAhead(II)Z -/
noncomputable def am_o204 : List (List (Option am_Op)) := [[some (.aload_n 0, 1, 0, 0, 0, 0), some (.getfield 32, 3, 12, 17, 0, 1235), none, none, some (.iload_n 1, 1, 0, 0, 0, 0), some (.iaload, 1, 0, 0, 0, 0), some (.aload_n 0, 1, 0, 0, 0, 0), some (.getfield 32, 3, 12, 17, 0, 1235), none, none, some (.iload_n 2, 1, 0, 0, 0, 0), some (.iaload, 1, 0, 0, 0, 0), some (.if_icmp .eq 26, 3, 0, 0, 0, 0), none, none, some (.aload_n 0, 1, 0, 0, 0, 0)],
  [some (.getfield 32, 3, 12, 17, 0, 1235), none, none, some (.iload_n 1, 1, 0, 0, 0, 0), some (.iaload, 1, 0, 0, 0, 0), some (.aload_n 0, 1, 0, 0, 0, 0), some (.getfield 32, 3, 12, 17, 0, 1235), none, none, some (.iload_n 2, 1, 0, 0, 0, 0), some (.iaload, 1, 0, 0, 0, 0), some (.if_icmp .ge 7, 3, 0, 0, 0, 0), none, none, some (.iconst 1, 1, 0, 0, 0, 0), some (.goto 55, 3, 0, 0, 0, 0)],
  [none, none, some (.iconst 0, 1, 0, 0, 0, 0), some (.goto 51, 3, 0, 0, 0, 0), none, none, some (.aload_n 0, 1, 0, 0, 0, 0), some (.getfield 35, 3, 12, 18, 0, 1236), none, none, some (.iload_n 1, 1, 0, 0, 0, 0), some (.iaload, 1, 0, 0, 0, 0), some (.aload_n 0, 1, 0, 0, 0, 0), some (.getfield 35, 3, 12, 18, 0, 1236), none, none],
  [some (.iload_n 2, 1, 0, 0, 0, 0), some (.iaload, 1, 0, 0, 0, 0), some (.if_icmp .eq 26, 3, 0, 0, 0, 0), none, none, some (.aload_n 0, 1, 0, 0, 0, 0), some (.getfield 35, 3, 12, 18, 0, 1236), none, none, some (.iload_n 1, 1, 0, 0, 0, 0), some (.iaload, 1, 0, 0, 0, 0), some (.aload_n 0, 1, 0, 0, 0, 0), some (.getfield 35, 3, 12, 18, 0, 1236), none, none, some (.iload_n 2, 1, 0, 0, 0, 0)],
  [some (.iaload, 1, 0, 0, 0, 0), some (.if_icmp .ge 7, 3, 0, 0, 0, 0), none, none, some (.iconst 1, 1, 0, 0, 0, 0), some (.goto 17, 3, 0, 0, 0, 0), none, none, some (.iconst 0, 1, 0, 0, 0, 0), some (.goto 13, 3, 0, 0, 0, 0), none, none, some (.iload_n 1, 1, 0, 0, 0, 0), some (.iload_n 2, 1, 0, 0, 0, 0), some (.if_icmp .ge 7, 3, 0, 0, 0, 0), none],
  [none, some (.iconst 1, 1, 0, 0, 0, 0), some (.goto 4, 3, 0, 0, 0, 0), none, none, some (.iconst 0, 1, 0, 0, 0, 0), some (.ireturn, 1, 1, 0, 0, 0)]]
/-- 205: PurseTraceModel.lists(II)V -/
noncomputable def am_o205 : List (List (Option am_Op)) := [[some (.aload_n 0, 1, 0, 0, 0, 0), some (.iconst 0, 1, 0, 0, 0, 0), some (.putfield 434, 3, 12, 63, 0, 1281), none, none, some (.iconst 0, 1, 0, 0, 0, 0), some (.istore_n 3, 1, 0, 0, 0, 0), some (.iload_n 3, 1, 0, 0, 0, 0), some (.aload_n 0, 1, 0, 0, 0, 0), some (.getfield 206, 3, 12, 6, 0, 1224), none, none, some (.if_icmp .ge 99, 3, 0, 0, 0, 0), none, none, some (.aload_n 0, 1, 0, 0, 0, 0)],
  [some (.iload_n 3, 1, 0, 0, 0, 0), some (.iload_n 2, 1, 0, 0, 0, 0), some (.invokevirtual 437, 3, 203, 3, 12, 1652), none, none, some (.ifCond .eq 84, 3, 0, 0, 0, 0), none, none, some (.aload_n 0, 1, 0, 0, 0, 0), some (.getfield 32, 3, 12, 17, 0, 1235), none, none, some (.iload_n 3, 1, 0, 0, 0, 0), some (.iaload, 1, 0, 0, 0, 0), some (.iload_n 1, 1, 0, 0, 0, 0), some (.if_icmp .le 6, 3, 0, 0, 0, 0)],
  [none, none, some (.goto 71, 3, 0, 0, 0, 0), none, none, some (.aload_n 0, 1, 0, 0, 0, 0), some (.getfield 434, 3, 12, 63, 0, 1281), none, none, some (.istore 4, 2, 0, 0, 0, 0), none, some (.iload 4, 2, 0, 0, 0, 0), none, some (.ifCond .le 42, 3, 0, 0, 0, 0), none, none],
  [some (.aload_n 0, 1, 0, 0, 0, 0), some (.iload_n 3, 1, 0, 0, 0, 0), some (.aload_n 0, 1, 0, 0, 0, 0), some (.getfield 142, 3, 12, 64, 0, 1282), none, none, some (.iload 4, 2, 0, 0, 0, 0), none, some (.iconst 1, 1, 0, 0, 0, 0), some (.isub, 1, 0, 0, 0, 0), some (.iaload, 1, 0, 0, 0, 0), some (.invokevirtual 440, 3, 204, 3, 12, 1656), none, none, some (.ifCond .eq 25, 3, 0, 0, 0, 0), none],
  [none, some (.aload_n 0, 1, 0, 0, 0, 0), some (.getfield 142, 3, 12, 64, 0, 1282), none, none, some (.iload 4, 2, 0, 0, 0, 0), none, some (.aload_n 0, 1, 0, 0, 0, 0), some (.getfield 142, 3, 12, 64, 0, 1282), none, none, some (.iload 4, 2, 0, 0, 0, 0), none, some (.iconst 1, 1, 0, 0, 0, 0), some (.isub, 1, 0, 0, 0, 0), some (.iaload, 1, 0, 0, 0, 0)],
  [some (.iastore, 1, 0, 0, 0, 0), some (.iinc 4 (-1), 3, 0, 0, 0, 0), none, none, some (.goto (-41), 3, 0, 0, 0, 0), none, none, some (.aload_n 0, 1, 0, 0, 0, 0), some (.getfield 142, 3, 12, 64, 0, 1282), none, none, some (.iload 4, 2, 0, 0, 0, 0), none, some (.iload_n 3, 1, 0, 0, 0, 0), some (.iastore, 1, 0, 0, 0, 0), some (.aload_n 0, 1, 0, 0, 0, 0)],
  [some (.dup, 1, 0, 0, 0, 0), some (.getfield 434, 3, 12, 63, 0, 1281), none, none, some (.iconst 1, 1, 0, 0, 0, 0), some (.iadd, 1, 0, 0, 0, 0), some (.putfield 434, 3, 12, 63, 0, 1281), none, none, some (.iinc 3 1, 3, 0, 0, 0, 0), none, none, some (.goto (-101), 3, 0, 0, 0, 0), none, none, some (.return_, 1, 0, 0, 0, 0)]]
/-- 206: PurseTraceModel.plays(II)V -/
noncomputable def am_o206 : List (List (Option am_Op)) := [[some (.aload_n 0, 1, 0, 0, 0, 0), some (.iload_n 1, 1, 0, 0, 0, 0), some (.iload_n 2, 1, 0, 0, 0, 0), some (.invokevirtual 443, 3, 205, 3, 12, 1648), none, none, some (.aload_n 0, 1, 0, 0, 0, 0), some (.invokevirtual 446, 3, 178, 1, 12, 1660), none, none, some (.iconst 0, 1, 0, 0, 0, 0), some (.istore_n 3, 1, 0, 0, 0, 0), some (.iload_n 3, 1, 0, 0, 0, 0), some (.aload_n 0, 1, 0, 0, 0, 0), some (.getfield 434, 3, 12, 63, 0, 1281), none],
  [none, some (.if_icmp .ge 22, 3, 0, 0, 0, 0), none, none, some (.aload_n 0, 1, 0, 0, 0, 0), some (.aload_n 0, 1, 0, 0, 0, 0), some (.getfield 142, 3, 12, 64, 0, 1282), none, none, some (.iload_n 3, 1, 0, 0, 0, 0), some (.iaload, 1, 0, 0, 0, 0), some (.iload_n 2, 1, 0, 0, 0, 0), some (.invokevirtual 449, 3, 202, 3, 12, 1664), none, none, some (.istore 4, 2, 0, 0, 0, 0)],
  [none, some (.iinc 3 1, 3, 0, 0, 0, 0), none, none, some (.goto (-24), 3, 0, 0, 0, 0), none, none, some (.return_, 1, 0, 0, 0, 0)]]
/-- 207: PurseTraceModel.isAsked(II)Z -/
noncomputable def am_o207 : List (List (Option am_Op)) := [[some (.iload_n 1, 1, 0, 0, 0, 0), some (.invokestatic 340, 3, 139, 1, 1, 1537), none, none, some (.ifCond .eq 14, 3, 0, 0, 0, 0), none, none, some (.iload_n 2, 1, 0, 0, 0, 0), some (.invokestatic 340, 3, 139, 1, 1, 1537), none, none, some (.ifCond .eq 7, 3, 0, 0, 0, 0), none, none, some (.iconst 1, 1, 0, 0, 0, 0), some (.goto 4, 3, 0, 0, 0, 0)],
  [none, none, some (.iconst 0, 1, 0, 0, 0, 0), some (.ireturn, 1, 1, 0, 0, 0)]]
/-- 208: PurseTraceModel.left(IIII)I -/
noncomputable def am_o208 : List (List (Option am_Op)) := [[some (.aload_n 0, 1, 0, 0, 0, 0), some (.iload_n 1, 1, 0, 0, 0, 0), some (.invokevirtual 213, 3, 137, 2, 12, 1495), none, none, some (.ifCond .eq 26, 3, 0, 0, 0, 0), none, none, some (.iload_n 2, 1, 0, 0, 0, 0), some (.iconst (-1), 1, 0, 0, 0, 0), some (.if_icmp .eq 11, 3, 0, 0, 0, 0), none, none, some (.aload_n 0, 1, 0, 0, 0, 0), some (.iload_n 2, 1, 0, 0, 0, 0), some (.invokevirtual 200, 3, 136, 2, 12, 1482)],
  [none, none, some (.ifCond .eq 13, 3, 0, 0, 0, 0), none, none, some (.aload_n 0, 1, 0, 0, 0, 0), some (.iload_n 3, 1, 0, 0, 0, 0), some (.iload 4, 2, 0, 0, 0, 0), none, some (.invokevirtual 452, 3, 207, 3, 12, 1640), none, none, some (.ifCond .ne 5, 3, 0, 0, 0, 0), none, none, some (.iconst (-1), 1, 0, 0, 0, 0)],
  [some (.ireturn, 1, 0, 0, 0, 0), some (.aload_n 0, 1, 0, 0, 0, 0), some (.iload_n 3, 1, 0, 0, 0, 0), some (.iload 4, 2, 0, 0, 0, 0), none, some (.invokevirtual 455, 3, 206, 3, 12, 1644), none, none, some (.iload_n 2, 1, 0, 0, 0, 0), some (.iconst (-1), 1, 0, 0, 0, 0), some (.if_icmp .ne 11, 3, 0, 0, 0, 0), none, none, some (.aload_n 0, 1, 0, 0, 0, 0), some (.iload_n 1, 1, 0, 0, 0, 0), some (.invokevirtual 364, 3, 180, 2, 12, 1699)],
  [none, none, some (.goto 9, 3, 0, 0, 0, 0), none, none, some (.aload_n 0, 1, 0, 0, 0, 0), some (.iload_n 1, 1, 0, 0, 0, 0), some (.iload_n 2, 1, 0, 0, 0, 0), some (.invokevirtual 351, 3, 181, 3, 12, 1703), none, none, some (.ireturn, 1, 0, 0, 0, 0)]]
/-- 209: PurseTraceModel.share(IIII)I -/
noncomputable def am_o209 : List (List (Option am_Op)) := [[some (.aload_n 0, 1, 0, 0, 0, 0), some (.iload_n 1, 1, 0, 0, 0, 0), some (.invokevirtual 220, 3, 138, 2, 12, 1513), none, none, some (.ifCond .eq 26, 3, 0, 0, 0, 0), none, none, some (.iload_n 2, 1, 0, 0, 0, 0), some (.iconst (-1), 1, 0, 0, 0, 0), some (.if_icmp .eq 11, 3, 0, 0, 0, 0), none, none, some (.aload_n 0, 1, 0, 0, 0, 0), some (.iload_n 2, 1, 0, 0, 0, 0), some (.invokevirtual 200, 3, 136, 2, 12, 1482)],
  [none, none, some (.ifCond .eq 13, 3, 0, 0, 0, 0), none, none, some (.aload_n 0, 1, 0, 0, 0, 0), some (.iload_n 3, 1, 0, 0, 0, 0), some (.iload 4, 2, 0, 0, 0, 0), none, some (.invokevirtual 452, 3, 207, 3, 12, 1640), none, none, some (.ifCond .ne 5, 3, 0, 0, 0, 0), none, none, some (.iconst (-1), 1, 0, 0, 0, 0)],
  [some (.ireturn, 1, 0, 0, 0, 0), some (.aload_n 0, 1, 0, 0, 0, 0), some (.iload_n 3, 1, 0, 0, 0, 0), some (.iload 4, 2, 0, 0, 0, 0), none, some (.invokevirtual 455, 3, 206, 3, 12, 1644), none, none, some (.iconst 0, 1, 0, 0, 0, 0), some (.istore 5, 2, 0, 0, 0, 0), none, some (.iconst 0, 1, 0, 0, 0, 0), some (.istore 6, 2, 0, 0, 0, 0), none, some (.iload 6, 2, 0, 0, 0, 0), none],
  [some (.aload_n 0, 1, 0, 0, 0, 0), some (.getfield 181, 3, 12, 3, 0, 1221), none, none, some (.if_icmp .ge 41, 3, 0, 0, 0, 0), none, none, some (.iload 5, 2, 0, 0, 0, 0), none, some (.iload_n 2, 1, 0, 0, 0, 0), some (.iconst (-1), 1, 0, 0, 0, 0), some (.if_icmp .eq 9, 3, 0, 0, 0, 0), none, none, some (.iload_n 2, 1, 0, 0, 0, 0), some (.iload 6, 2, 0, 0, 0, 0)],
  [none, some (.if_icmp .ne 18, 3, 0, 0, 0, 0), none, none, some (.aload_n 0, 1, 0, 0, 0, 0), some (.getfield 111, 3, 12, 52, 0, 1270), none, none, some (.bipush 10, 2, 0, 0, 0, 0), none, some (.iload_n 1, 1, 0, 0, 0, 0), some (.imul, 1, 0, 0, 0, 0), some (.iload 6, 2, 0, 0, 0, 0), none, some (.iadd, 1, 0, 0, 0, 0), some (.iaload, 1, 0, 0, 0, 0)],
  [some (.goto 4, 3, 0, 0, 0, 0), none, none, some (.iconst 0, 1, 0, 0, 0, 0), some (.iadd, 1, 0, 0, 0, 0), some (.istore 5, 2, 0, 0, 0, 0), none, some (.iinc 6 1, 3, 0, 0, 0, 0), none, none, some (.goto (-44), 3, 0, 0, 0, 0), none, none, some (.iload 5, 2, 0, 0, 0, 0), none, some (.ireturn, 1, 0, 0, 0, 0)]]
/-- 210: PurseTraceModel.lost(IIII)I -/
noncomputable def am_o210 : List (List (Option am_Op)) := [[some (.aload_n 0, 1, 0, 0, 0, 0), some (.iload_n 1, 1, 0, 0, 0, 0), some (.invokevirtual 213, 3, 137, 2, 12, 1495), none, none, some (.ifCond .eq 21, 3, 0, 0, 0, 0), none, none, some (.aload_n 0, 1, 0, 0, 0, 0), some (.iload_n 2, 1, 0, 0, 0, 0), some (.invokevirtual 200, 3, 136, 2, 12, 1482), none, none, some (.ifCond .eq 13, 3, 0, 0, 0, 0), none, none],
  [some (.aload_n 0, 1, 0, 0, 0, 0), some (.iload_n 3, 1, 0, 0, 0, 0), some (.iload 4, 2, 0, 0, 0, 0), none, some (.invokevirtual 452, 3, 207, 3, 12, 1640), none, none, some (.ifCond .ne 5, 3, 0, 0, 0, 0), none, none, some (.iconst (-1), 1, 0, 0, 0, 0), some (.ireturn, 1, 0, 0, 0, 0), some (.aload_n 0, 1, 0, 0, 0, 0), some (.iload_n 3, 1, 0, 0, 0, 0), some (.iload 4, 2, 0, 0, 0, 0), none],
  [some (.invokevirtual 455, 3, 206, 3, 12, 1644), none, none, some (.aload_n 0, 1, 0, 0, 0, 0), some (.getfield 114, 3, 12, 53, 0, 1271), none, none, some (.bipush 10, 2, 0, 0, 0, 0), none, some (.iload_n 1, 1, 0, 0, 0, 0), some (.imul, 1, 0, 0, 0, 0), some (.iload_n 2, 1, 0, 0, 0, 0), some (.iadd, 1, 0, 0, 0, 0), some (.iaload, 1, 0, 0, 0, 0), some (.ireturn, 1, 0, 0, 0, 0)]]
/-- 211: PurseTraceModel.part(III)I -/
noncomputable def am_o211 : List (List (Option am_Op)) := [[some (.aload_n 0, 1, 0, 0, 0, 0), some (.iload_n 1, 1, 0, 0, 0, 0), some (.invokevirtual 213, 3, 137, 2, 12, 1495), none, none, some (.ifCond .ne 5, 3, 0, 0, 0, 0), none, none, some (.iconst (-1), 1, 0, 0, 0, 0), some (.ireturn, 1, 0, 0, 0, 0), some (.aload_n 0, 1, 0, 0, 0, 0), some (.aload_n 0, 1, 0, 0, 0, 0), some (.getfield 197, 3, 12, 2, 0, 1220), none, none, some (.aload_n 0, 1, 0, 0, 0, 0)],
  [some (.getfield 197, 3, 12, 2, 0, 1220), none, none, some (.invokevirtual 455, 3, 206, 3, 12, 1644), none, none, some (.iload_n 2, 1, 0, 0, 0, 0), some (.i2l, 1, 0, 0, 0, 0), some (.lconst 0, 1, 0, 0, 0, 0), some (.aload_n 0, 1, 0, 0, 0, 0), some (.getfield 102, 3, 12, 49, 0, 1267), none, none, some (.iload_n 1, 1, 0, 0, 0, 0), some (.iaload, 1, 0, 0, 0, 0), some (.iconst 1, 1, 0, 0, 0, 0)],
  [some (.isub, 1, 0, 0, 0, 0), some (.i2l, 1, 0, 0, 0, 0), some (.invokestatic 185, 3, 134, 3, 1, 1471), none, none, some (.ifCond .ne 5, 3, 0, 0, 0, 0), none, none, some (.iconst (-1), 1, 0, 0, 0, 0), some (.ireturn, 1, 0, 0, 0, 0), some (.iload_n 3, 1, 0, 0, 0, 0), some (.ifCond .ne 18, 3, 0, 0, 0, 0), none, none, some (.aload_n 0, 1, 0, 0, 0, 0), some (.getfield 105, 3, 12, 50, 0, 1268)],
  [none, none, some (.sipush 1400, 3, 0, 0, 0, 0), none, none, some (.iload_n 1, 1, 0, 0, 0, 0), some (.imul, 1, 0, 0, 0, 0), some (.iload_n 2, 1, 0, 0, 0, 0), some (.iadd, 1, 0, 0, 0, 0), some (.iaload, 1, 0, 0, 0, 0), some (.goto 24, 3, 0, 0, 0, 0), none, none, some (.iload_n 3, 1, 0, 0, 0, 0), some (.iconst 1, 1, 0, 0, 0, 0), some (.if_icmp .ne 18, 3, 0, 0, 0, 0)],
  [none, none, some (.aload_n 0, 1, 0, 0, 0, 0), some (.getfield 108, 3, 12, 51, 0, 1269), none, none, some (.sipush 1400, 3, 0, 0, 0, 0), none, none, some (.iload_n 1, 1, 0, 0, 0, 0), some (.imul, 1, 0, 0, 0, 0), some (.iload_n 2, 1, 0, 0, 0, 0), some (.iadd, 1, 0, 0, 0, 0), some (.iaload, 1, 0, 0, 0, 0), some (.goto 4, 3, 0, 0, 0, 0), none],
  [none, some (.iconst (-1), 1, 0, 0, 0, 0), some (.ireturn, 1, 0, 0, 0, 0)]]
/-- 212: PurseTraceModel.playsTo(II)Z -/
noncomputable def am_o212 : List (List (Option am_Op)) := [[some (.aload_n 0, 1, 0, 0, 0, 0), some (.sipush 4000, 3, 0, 0, 0, 0), none, none, some (.iload_n 2, 1, 0, 0, 0, 0), some (.invokevirtual 443, 3, 205, 3, 12, 1648), none, none, some (.aload_n 0, 1, 0, 0, 0, 0), some (.invokevirtual 446, 3, 178, 1, 12, 1660), none, none, some (.iconst 0, 1, 0, 0, 0, 0), some (.istore_n 3, 1, 0, 0, 0, 0), some (.iload_n 3, 1, 0, 0, 0, 0), some (.aload_n 0, 1, 0, 0, 0, 0)],
  [some (.getfield 434, 3, 12, 63, 0, 1281), none, none, some (.if_icmp .ge 34, 3, 0, 0, 0, 0), none, none, some (.aload_n 0, 1, 0, 0, 0, 0), some (.getfield 142, 3, 12, 64, 0, 1282), none, none, some (.iload_n 3, 1, 0, 0, 0, 0), some (.iaload, 1, 0, 0, 0, 0), some (.iload_n 1, 1, 0, 0, 0, 0), some (.if_icmp .ne 5, 3, 0, 0, 0, 0), none, none],
  [some (.iconst 1, 1, 0, 0, 0, 0), some (.ireturn, 1, 1, 0, 0, 0), some (.aload_n 0, 1, 0, 0, 0, 0), some (.aload_n 0, 1, 0, 0, 0, 0), some (.getfield 142, 3, 12, 64, 0, 1282), none, none, some (.iload_n 3, 1, 0, 0, 0, 0), some (.iaload, 1, 0, 0, 0, 0), some (.iload_n 2, 1, 0, 0, 0, 0), some (.invokevirtual 449, 3, 202, 3, 12, 1664), none, none, some (.istore 4, 2, 0, 0, 0, 0), none, some (.iinc 3 1, 3, 0, 0, 0, 0)],
  [none, none, some (.goto (-36), 3, 0, 0, 0, 0), none, none, some (.iconst 0, 1, 0, 0, 0, 0), some (.ireturn, 1, 1, 0, 0, 0)]]
/-- 213: PurseTraceModel.takesAny(I)Z -/
noncomputable def am_o213 : List (List (Option am_Op)) := [[some (.aload_n 0, 1, 0, 0, 0, 0), some (.getfield 20, 3, 12, 13, 0, 1231), none, none, some (.iload_n 1, 1, 0, 0, 0, 0), some (.iaload, 1, 0, 0, 0, 0), some (.iconst 1, 1, 0, 0, 0, 0), some (.if_icmp .eq 23, 3, 0, 0, 0, 0), none, none, some (.aload_n 0, 1, 0, 0, 0, 0), some (.getfield 20, 3, 12, 13, 0, 1231), none, none, some (.iload_n 1, 1, 0, 0, 0, 0), some (.iaload, 1, 0, 0, 0, 0)],
  [some (.iconst 2, 1, 0, 0, 0, 0), some (.if_icmp .eq 13, 3, 0, 0, 0, 0), none, none, some (.aload_n 0, 1, 0, 0, 0, 0), some (.getfield 20, 3, 12, 13, 0, 1231), none, none, some (.iload_n 1, 1, 0, 0, 0, 0), some (.iaload, 1, 0, 0, 0, 0), some (.iconst 3, 1, 0, 0, 0, 0), some (.if_icmp .ne 7, 3, 0, 0, 0, 0), none, none, some (.iconst 1, 1, 0, 0, 0, 0), some (.goto 4, 3, 0, 0, 0, 0)],
  [none, none, some (.iconst 0, 1, 0, 0, 0, 0), some (.ireturn, 1, 1, 0, 0, 0)]]
/-- 214: PurseTraceModel.took(III)I -/
noncomputable def am_o214 : List (List (Option am_Op)) := [[some (.aload_n 0, 1, 0, 0, 0, 0), some (.iload_n 1, 1, 0, 0, 0, 0), some (.invokevirtual 223, 3, 148, 2, 12, 1521), none, none, some (.ifCond .eq 18, 3, 0, 0, 0, 0), none, none, some (.aload_n 0, 1, 0, 0, 0, 0), some (.iload_n 2, 1, 0, 0, 0, 0), some (.invokevirtual 200, 3, 136, 2, 12, 1482), none, none, some (.ifCond .eq 10, 3, 0, 0, 0, 0), none, none],
  [some (.iload_n 3, 1, 0, 0, 0, 0), some (.invokestatic 340, 3, 139, 1, 1, 1537), none, none, some (.ifCond .ne 5, 3, 0, 0, 0, 0), none, none, some (.iconst (-1), 1, 0, 0, 0, 0), some (.ireturn, 1, 0, 0, 0, 0), some (.aload_n 0, 1, 0, 0, 0, 0), some (.iload_n 1, 1, 0, 0, 0, 0), some (.iload_n 3, 1, 0, 0, 0, 0), some (.invokevirtual 458, 3, 212, 3, 12, 1779), none, none, some (.ifCond .ne 6, 3, 0, 0, 0, 0)],
  [none, none, some (.bipush (-3), 2, 0, 0, 0, 0), none, some (.ireturn, 1, 0, 0, 0, 0), some (.aload_n 0, 1, 0, 0, 0, 0), some (.iload_n 1, 1, 0, 0, 0, 0), some (.iload_n 3, 1, 0, 0, 0, 0), some (.invokevirtual 449, 3, 202, 3, 12, 1664), none, none, some (.ifCond .ne 6, 3, 0, 0, 0, 0), none, none, some (.bipush (-2), 2, 0, 0, 0, 0), none],
  [some (.ireturn, 1, 0, 0, 0, 0), some (.aload_n 0, 1, 0, 0, 0, 0), some (.getfield 139, 3, 12, 62, 0, 1280), none, none, some (.iload_n 2, 1, 0, 0, 0, 0), some (.iaload, 1, 0, 0, 0, 0), some (.istore 4, 2, 0, 0, 0, 0), none, some (.iconst 0, 1, 0, 0, 0, 0), some (.istore 5, 2, 0, 0, 0, 0), none, some (.iload 5, 2, 0, 0, 0, 0), none, some (.aload_n 0, 1, 0, 0, 0, 0), some (.getfield 355, 3, 12, 54, 0, 1272)],
  [none, none, some (.if_icmp .ge 44, 3, 0, 0, 0, 0), none, none, some (.iload 4, 2, 0, 0, 0, 0), none, some (.aload_n 0, 1, 0, 0, 0, 0), some (.iload_n 1, 1, 0, 0, 0, 0), some (.invokevirtual 461, 3, 213, 2, 12, 1783), none, none, some (.ifCond .eq 24, 3, 0, 0, 0, 0), none, none, some (.aload_n 0, 1, 0, 0, 0, 0)],
  [some (.getfield 117, 3, 12, 55, 0, 1273), none, none, some (.iload 5, 2, 0, 0, 0, 0), none, some (.iaload, 1, 0, 0, 0, 0), some (.iload_n 2, 1, 0, 0, 0, 0), some (.if_icmp .ne 13, 3, 0, 0, 0, 0), none, none, some (.aload_n 0, 1, 0, 0, 0, 0), some (.getfield 120, 3, 12, 56, 0, 1274), none, none, some (.iload 5, 2, 0, 0, 0, 0), none],
  [some (.iaload, 1, 0, 0, 0, 0), some (.goto 4, 3, 0, 0, 0, 0), none, none, some (.iconst 0, 1, 0, 0, 0, 0), some (.iadd, 1, 0, 0, 0, 0), some (.istore 4, 2, 0, 0, 0, 0), none, some (.iinc 5 1, 3, 0, 0, 0, 0), none, none, some (.goto (-47), 3, 0, 0, 0, 0), none, none, some (.iload 4, 2, 0, 0, 0, 0), none],
  [some (.ireturn, 1, 0, 0, 0, 0)]]
/-- 215: PurseTraceModel.way(II)I -/
noncomputable def am_o215 : List (List (Option am_Op)) := [[some (.aload_n 0, 1, 0, 0, 0, 0), some (.iload_n 1, 1, 0, 0, 0, 0), some (.invokevirtual 223, 3, 148, 2, 12, 1521), none, none, some (.ifCond .eq 10, 3, 0, 0, 0, 0), none, none, some (.iload_n 2, 1, 0, 0, 0, 0), some (.invokestatic 340, 3, 139, 1, 1, 1537), none, none, some (.ifCond .ne 5, 3, 0, 0, 0, 0), none, none, some (.iconst (-1), 1, 0, 0, 0, 0)],
  [some (.ireturn, 1, 0, 0, 0, 0), some (.aload_n 0, 1, 0, 0, 0, 0), some (.iload_n 1, 1, 0, 0, 0, 0), some (.invokevirtual 461, 3, 213, 2, 12, 1783), none, none, some (.ifCond .eq 21, 3, 0, 0, 0, 0), none, none, some (.aload_n 0, 1, 0, 0, 0, 0), some (.iload_n 1, 1, 0, 0, 0, 0), some (.iload_n 2, 1, 0, 0, 0, 0), some (.invokevirtual 458, 3, 212, 3, 12, 1779), none, none, some (.ifCond .eq 12, 3, 0, 0, 0, 0)],
  [none, none, some (.aload_n 0, 1, 0, 0, 0, 0), some (.iload_n 1, 1, 0, 0, 0, 0), some (.iload_n 2, 1, 0, 0, 0, 0), some (.invokevirtual 418, 3, 195, 3, 12, 1719), none, none, some (.goto 5, 3, 0, 0, 0, 0), none, none, some (.bipush (-3), 2, 0, 0, 0, 0), none, some (.ireturn, 1, 0, 0, 0, 0)]]
/-- 216: PurseTraceModel.fails(I)I -/
noncomputable def am_o216 : List (List (Option am_Op)) := [[some (.iload_n 1, 1, 0, 0, 0, 0), some (.invokestatic 340, 3, 139, 1, 1, 1537), none, none, some (.ifCond .ne 5, 3, 0, 0, 0, 0), none, none, some (.iconst (-1), 1, 0, 0, 0, 0), some (.ireturn, 1, 0, 0, 0, 0), some (.iconst 0, 1, 0, 0, 0, 0), some (.istore_n 2, 1, 0, 0, 0, 0), some (.aload_n 0, 1, 0, 0, 0, 0), some (.sipush 4000, 3, 0, 0, 0, 0), none, none, some (.iload_n 1, 1, 0, 0, 0, 0)],
  [some (.invokevirtual 443, 3, 205, 3, 12, 1648), none, none, some (.aload_n 0, 1, 0, 0, 0, 0), some (.invokevirtual 446, 3, 178, 1, 12, 1660), none, none, some (.iconst 0, 1, 0, 0, 0, 0), some (.istore_n 3, 1, 0, 0, 0, 0), some (.iload_n 3, 1, 0, 0, 0, 0), some (.aload_n 0, 1, 0, 0, 0, 0), some (.getfield 434, 3, 12, 63, 0, 1281), none, none, some (.if_icmp .ge 31, 3, 0, 0, 0, 0), none],
  [none, some (.iload_n 2, 1, 0, 0, 0, 0), some (.aload_n 0, 1, 0, 0, 0, 0), some (.aload_n 0, 1, 0, 0, 0, 0), some (.getfield 142, 3, 12, 64, 0, 1282), none, none, some (.iload_n 3, 1, 0, 0, 0, 0), some (.iaload, 1, 0, 0, 0, 0), some (.iload_n 1, 1, 0, 0, 0, 0), some (.invokevirtual 449, 3, 202, 3, 12, 1664), none, none, some (.ifCond .eq 7, 3, 0, 0, 0, 0), none, none],
  [some (.iconst 0, 1, 0, 0, 0, 0), some (.goto 4, 3, 0, 0, 0, 0), none, none, some (.iconst 1, 1, 0, 0, 0, 0), some (.iadd, 1, 0, 0, 0, 0), some (.istore_n 2, 1, 0, 0, 0, 0), some (.iinc 3 1, 3, 0, 0, 0, 0), none, none, some (.goto (-33), 3, 0, 0, 0, 0), none, none, some (.iload_n 2, 1, 0, 0, 0, 0), some (.ireturn, 1, 0, 0, 0, 0)]]
/-- 217: PurseTraceModel.mayBe(I)Z -/
noncomputable def am_o217 : List (List (Option am_Op)) := [[some (.iconst 0, 1, 0, 0, 0, 0), some (.istore_n 2, 1, 0, 0, 0, 0), some (.iload_n 2, 1, 0, 0, 0, 0), some (.iload_n 1, 1, 0, 0, 0, 0), some (.if_icmp .ge 76, 3, 0, 0, 0, 0), none, none, some (.iload_n 2, 1, 0, 0, 0, 0), some (.iconst 1, 1, 0, 0, 0, 0), some (.iadd, 1, 0, 0, 0, 0), some (.istore_n 3, 1, 0, 0, 0, 0), some (.iload_n 3, 1, 0, 0, 0, 0), some (.iload_n 1, 1, 0, 0, 0, 0), some (.if_icmp .ge 61, 3, 0, 0, 0, 0), none, none],
  [some (.aload_n 0, 1, 0, 0, 0, 0), some (.getfield 148, 3, 12, 69, 0, 1287), none, none, some (.iload_n 2, 1, 0, 0, 0, 0), some (.iaload, 1, 0, 0, 0, 0), some (.aload_n 0, 1, 0, 0, 0, 0), some (.getfield 148, 3, 12, 69, 0, 1287), none, none, some (.iload_n 3, 1, 0, 0, 0, 0), some (.iaload, 1, 0, 0, 0, 0), some (.if_icmp .eq 38, 3, 0, 0, 0, 0), none, none, some (.aload_n 0, 1, 0, 0, 0, 0)],
  [some (.getfield 38, 3, 12, 19, 0, 1237), none, none, some (.aload_n 0, 1, 0, 0, 0, 0), some (.getfield 145, 3, 12, 68, 0, 1286), none, none, some (.aload_n 0, 1, 0, 0, 0, 0), some (.getfield 148, 3, 12, 69, 0, 1287), none, none, some (.iload_n 3, 1, 0, 0, 0, 0), some (.iaload, 1, 0, 0, 0, 0), some (.iaload, 1, 0, 0, 0, 0), some (.iaload, 1, 0, 0, 0, 0), some (.aload_n 0, 1, 0, 0, 0, 0)],
  [some (.getfield 35, 3, 12, 18, 0, 1236), none, none, some (.aload_n 0, 1, 0, 0, 0, 0), some (.getfield 145, 3, 12, 68, 0, 1286), none, none, some (.aload_n 0, 1, 0, 0, 0, 0), some (.getfield 148, 3, 12, 69, 0, 1287), none, none, some (.iload_n 2, 1, 0, 0, 0, 0), some (.iaload, 1, 0, 0, 0, 0), some (.iaload, 1, 0, 0, 0, 0), some (.iaload, 1, 0, 0, 0, 0), some (.if_icmp .ge 5, 3, 0, 0, 0, 0)],
  [none, none, some (.iconst 0, 1, 0, 0, 0, 0), some (.ireturn, 1, 1, 0, 0, 0), some (.iinc 3 1, 3, 0, 0, 0, 0), none, none, some (.goto (-60), 3, 0, 0, 0, 0), none, none, some (.iinc 2 1, 3, 0, 0, 0, 0), none, none, some (.goto (-75), 3, 0, 0, 0, 0), none, none],
  [some (.iconst 1, 1, 0, 0, 0, 0), some (.ireturn, 1, 1, 0, 0, 0)]]
/-- 218: PurseTraceModel.playsOrder(IIII)V -/
noncomputable def am_o218 : List (List (Option am_Op)) := [[some (.aload_n 0, 1, 0, 0, 0, 0), some (.invokevirtual 446, 3, 178, 1, 12, 1660), none, none, some (.iconst 0, 1, 0, 0, 0, 0), some (.istore 5, 2, 0, 0, 0, 0), none, some (.iload 5, 2, 0, 0, 0, 0), none, some (.aload_n 0, 1, 0, 0, 0, 0), some (.getfield 434, 3, 12, 63, 0, 1281), none, none, some (.if_icmp .ge 65, 3, 0, 0, 0, 0), none, none],
  [some (.iload 5, 2, 0, 0, 0, 0), none, some (.i2l, 1, 0, 0, 0, 0), some (.iload_n 3, 1, 0, 0, 0, 0), some (.i2l, 1, 0, 0, 0, 0), some (.iload_n 3, 1, 0, 0, 0, 0), some (.iload 4, 2, 0, 0, 0, 0), none, some (.iadd, 1, 0, 0, 0, 0), some (.iconst 1, 1, 0, 0, 0, 0), some (.isub, 1, 0, 0, 0, 0), some (.i2l, 1, 0, 0, 0, 0), some (.invokestatic 185, 3, 134, 3, 1, 1471), none, none, some (.ifCond .eq 20, 3, 0, 0, 0, 0)],
  [none, none, some (.aload_n 0, 1, 0, 0, 0, 0), some (.getfield 145, 3, 12, 68, 0, 1286), none, none, some (.aload_n 0, 1, 0, 0, 0, 0), some (.getfield 148, 3, 12, 69, 0, 1287), none, none, some (.iload 5, 2, 0, 0, 0, 0), none, some (.iload_n 3, 1, 0, 0, 0, 0), some (.isub, 1, 0, 0, 0, 0), some (.iaload, 1, 0, 0, 0, 0), some (.iaload, 1, 0, 0, 0, 0)],
  [some (.goto 10, 3, 0, 0, 0, 0), none, none, some (.aload_n 0, 1, 0, 0, 0, 0), some (.getfield 142, 3, 12, 64, 0, 1282), none, none, some (.iload 5, 2, 0, 0, 0, 0), none, some (.iaload, 1, 0, 0, 0, 0), some (.istore 6, 2, 0, 0, 0, 0), none, some (.aload_n 0, 1, 0, 0, 0, 0), some (.iload 6, 2, 0, 0, 0, 0), none, some (.aload_n 0, 1, 0, 0, 0, 0)],
  [some (.getfield 197, 3, 12, 2, 0, 1220), none, none, some (.invokevirtual 449, 3, 202, 3, 12, 1664), none, none, some (.istore 7, 2, 0, 0, 0, 0), none, some (.iinc 5 1, 3, 0, 0, 0, 0), none, none, some (.goto (-68), 3, 0, 0, 0, 0), none, none, some (.aload_n 0, 1, 0, 0, 0, 0), some (.iload_n 1, 1, 0, 0, 0, 0)],
  [some (.iload_n 2, 1, 0, 0, 0, 0), some (.invokevirtual 351, 3, 181, 3, 12, 1703), none, none, some (.istore 5, 2, 0, 0, 0, 0), none, some (.aload_n 0, 1, 0, 0, 0, 0), some (.aload_n 0, 1, 0, 0, 0, 0), some (.getfield 464, 3, 12, 65, 0, 1283), none, none, some (.ifCond .eq 12, 3, 0, 0, 0, 0), none, none, some (.iload 5, 2, 0, 0, 0, 0), none],
  [some (.aload_n 0, 1, 0, 0, 0, 0), some (.getfield 467, 3, 12, 66, 0, 1284), none, none, some (.if_icmp .ge 8, 3, 0, 0, 0, 0), none, none, some (.iload 5, 2, 0, 0, 0, 0), none, some (.goto 7, 3, 0, 0, 0, 0), none, none, some (.aload_n 0, 1, 0, 0, 0, 0), some (.getfield 467, 3, 12, 66, 0, 1284), none, none],
  [some (.putfield 467, 3, 12, 66, 0, 1284), none, none, some (.aload_n 0, 1, 0, 0, 0, 0), some (.aload_n 0, 1, 0, 0, 0, 0), some (.getfield 464, 3, 12, 65, 0, 1283), none, none, some (.ifCond .eq 12, 3, 0, 0, 0, 0), none, none, some (.iload 5, 2, 0, 0, 0, 0), none, some (.aload_n 0, 1, 0, 0, 0, 0), some (.getfield 470, 3, 12, 67, 0, 1285), none],
  [none, some (.if_icmp .le 8, 3, 0, 0, 0, 0), none, none, some (.iload 5, 2, 0, 0, 0, 0), none, some (.goto 7, 3, 0, 0, 0, 0), none, none, some (.aload_n 0, 1, 0, 0, 0, 0), some (.getfield 470, 3, 12, 67, 0, 1285), none, none, some (.putfield 470, 3, 12, 67, 0, 1285), none, none],
  [some (.aload_n 0, 1, 0, 0, 0, 0), some (.dup, 1, 0, 0, 0, 0), some (.getfield 464, 3, 12, 65, 0, 1283), none, none, some (.iconst 1, 1, 0, 0, 0, 0), some (.iadd, 1, 0, 0, 0, 0), some (.putfield 464, 3, 12, 65, 0, 1283), none, none, some (.return_, 1, 0, 0, 0, 0)]]
/-- 219: PurseTraceModel.turns(I)Z -/
noncomputable def am_o219 : List (List (Option am_Op)) := [[some (.iload_n 1, 1, 0, 0, 0, 0), some (.iconst 1, 1, 0, 0, 0, 0), some (.isub, 1, 0, 0, 0, 0), some (.istore_n 2, 1, 0, 0, 0, 0), some (.iload_n 2, 1, 0, 0, 0, 0), some (.ifCond .lt 28, 3, 0, 0, 0, 0), none, none, some (.aload_n 0, 1, 0, 0, 0, 0), some (.getfield 148, 3, 12, 69, 0, 1287), none, none, some (.iload_n 2, 1, 0, 0, 0, 0), some (.iaload, 1, 0, 0, 0, 0), some (.iload_n 1, 1, 0, 0, 0, 0), some (.iconst 1, 1, 0, 0, 0, 0)],
  [some (.isub, 1, 0, 0, 0, 0), some (.if_icmp .ne 16, 3, 0, 0, 0, 0), none, none, some (.aload_n 0, 1, 0, 0, 0, 0), some (.getfield 148, 3, 12, 69, 0, 1287), none, none, some (.iload_n 2, 1, 0, 0, 0, 0), some (.iconst 0, 1, 0, 0, 0, 0), some (.iastore, 1, 0, 0, 0, 0), some (.iinc 2 (-1), 3, 0, 0, 0, 0), none, none, some (.goto (-26), 3, 0, 0, 0, 0), none],
  [none, some (.iload_n 2, 1, 0, 0, 0, 0), some (.ifCond .ge 5, 3, 0, 0, 0, 0), none, none, some (.iconst 0, 1, 0, 0, 0, 0), some (.ireturn, 1, 1, 0, 0, 0), some (.aload_n 0, 1, 0, 0, 0, 0), some (.getfield 148, 3, 12, 69, 0, 1287), none, none, some (.iload_n 2, 1, 0, 0, 0, 0), some (.dup2, 1, 0, 0, 0, 0), some (.iaload, 1, 0, 0, 0, 0), some (.iconst 1, 1, 0, 0, 0, 0), some (.iadd, 1, 0, 0, 0, 0)],
  [some (.iastore, 1, 0, 0, 0, 0), some (.iconst 1, 1, 0, 0, 0, 0), some (.ireturn, 1, 1, 0, 0, 0)]]
/-- 220: PurseTraceModel.sure(IIII)I -/
noncomputable def am_o220 : List (List (Option am_Op)) := [[some (.aload_n 0, 1, 0, 0, 0, 0), some (.iload_n 1, 1, 0, 0, 0, 0), some (.invokevirtual 213, 3, 137, 2, 12, 1495), none, none, some (.ifCond .eq 31, 3, 0, 0, 0, 0), none, none, some (.aload_n 0, 1, 0, 0, 0, 0), some (.iload_n 2, 1, 0, 0, 0, 0), some (.invokevirtual 200, 3, 136, 2, 12, 1482), none, none, some (.ifCond .eq 23, 3, 0, 0, 0, 0), none, none],
  [some (.iload_n 3, 1, 0, 0, 0, 0), some (.invokestatic 340, 3, 139, 1, 1, 1537), none, none, some (.ifCond .eq 16, 3, 0, 0, 0, 0), none, none, some (.iload 4, 2, 0, 0, 0, 0), none, some (.i2l, 1, 0, 0, 0, 0), some (.lconst 0, 1, 0, 0, 0, 0), some (.ldc2_w 473, 3, 0, 0, 2, 1799), none, none, some (.invokestatic 185, 3, 134, 3, 1, 1471), none],
  [none, some (.ifCond .ne 5, 3, 0, 0, 0, 0), none, none, some (.iconst (-1), 1, 0, 0, 0, 0), some (.ireturn, 1, 0, 0, 0, 0), some (.aload_n 0, 1, 0, 0, 0, 0), some (.sipush 4000, 3, 0, 0, 0, 0), none, none, some (.aload_n 0, 1, 0, 0, 0, 0), some (.getfield 197, 3, 12, 2, 0, 1220), none, none, some (.invokevirtual 443, 3, 205, 3, 12, 1648), none],
  [none, some (.iconst 0, 1, 0, 0, 0, 0), some (.istore 5, 2, 0, 0, 0, 0), none, some (.iload 5, 2, 0, 0, 0, 0), none, some (.aload_n 0, 1, 0, 0, 0, 0), some (.getfield 434, 3, 12, 63, 0, 1281), none, none, some (.if_icmp .ge 25, 3, 0, 0, 0, 0), none, none, some (.aload_n 0, 1, 0, 0, 0, 0), some (.getfield 32, 3, 12, 17, 0, 1235), none],
  [none, some (.aload_n 0, 1, 0, 0, 0, 0), some (.getfield 142, 3, 12, 64, 0, 1282), none, none, some (.iload 5, 2, 0, 0, 0, 0), none, some (.iaload, 1, 0, 0, 0, 0), some (.iaload, 1, 0, 0, 0, 0), some (.iload_n 3, 1, 0, 0, 0, 0), some (.if_icmp .ge 9, 3, 0, 0, 0, 0), none, none, some (.iinc 5 1, 3, 0, 0, 0, 0), none, none],
  [some (.goto (-28), 3, 0, 0, 0, 0), none, none, some (.iconst 0, 1, 0, 0, 0, 0), some (.istore 6, 2, 0, 0, 0, 0), none, some (.iload 5, 2, 0, 0, 0, 0), none, some (.iload 6, 2, 0, 0, 0, 0), none, some (.iadd, 1, 0, 0, 0, 0), some (.aload_n 0, 1, 0, 0, 0, 0), some (.getfield 434, 3, 12, 63, 0, 1281), none, none, some (.if_icmp .ge 28, 3, 0, 0, 0, 0)],
  [none, none, some (.aload_n 0, 1, 0, 0, 0, 0), some (.getfield 32, 3, 12, 17, 0, 1235), none, none, some (.aload_n 0, 1, 0, 0, 0, 0), some (.getfield 142, 3, 12, 64, 0, 1282), none, none, some (.iload 5, 2, 0, 0, 0, 0), none, some (.iload 6, 2, 0, 0, 0, 0), none, some (.iadd, 1, 0, 0, 0, 0), some (.iaload, 1, 0, 0, 0, 0)],
  [some (.iaload, 1, 0, 0, 0, 0), some (.iload_n 3, 1, 0, 0, 0, 0), some (.if_icmp .ne 9, 3, 0, 0, 0, 0), none, none, some (.iinc 6 1, 3, 0, 0, 0, 0), none, none, some (.goto (-34), 3, 0, 0, 0, 0), none, none, some (.iload 6, 2, 0, 0, 0, 0), none, some (.bipush 6, 2, 0, 0, 0, 0), none, some (.if_icmp .le 5, 3, 0, 0, 0, 0)],
  [none, none, some (.iconst (-1), 1, 0, 0, 0, 0), some (.ireturn, 1, 0, 0, 0, 0), some (.iconst 0, 1, 0, 0, 0, 0), some (.istore 7, 2, 0, 0, 0, 0), none, some (.iload 7, 2, 0, 0, 0, 0), none, some (.iload 6, 2, 0, 0, 0, 0), none, some (.if_icmp .ge 34, 3, 0, 0, 0, 0), none, none, some (.aload_n 0, 1, 0, 0, 0, 0), some (.getfield 145, 3, 12, 68, 0, 1286)],
  [none, none, some (.iload 7, 2, 0, 0, 0, 0), none, some (.aload_n 0, 1, 0, 0, 0, 0), some (.getfield 142, 3, 12, 64, 0, 1282), none, none, some (.iload 5, 2, 0, 0, 0, 0), none, some (.iload 7, 2, 0, 0, 0, 0), none, some (.iadd, 1, 0, 0, 0, 0), some (.iaload, 1, 0, 0, 0, 0), some (.iastore, 1, 0, 0, 0, 0), some (.aload_n 0, 1, 0, 0, 0, 0)],
  [some (.getfield 148, 3, 12, 69, 0, 1287), none, none, some (.iload 7, 2, 0, 0, 0, 0), none, some (.iconst 0, 1, 0, 0, 0, 0), some (.iastore, 1, 0, 0, 0, 0), some (.iinc 7 1, 3, 0, 0, 0, 0), none, none, some (.goto (-35), 3, 0, 0, 0, 0), none, none, some (.aload_n 0, 1, 0, 0, 0, 0), some (.iconst 0, 1, 0, 0, 0, 0), some (.putfield 464, 3, 12, 65, 0, 1283)],
  [none, none, some (.iconst 1, 1, 0, 0, 0, 0), some (.istore 7, 2, 0, 0, 0, 0), none, some (.iload 7, 2, 0, 0, 0, 0), none, some (.ifCond .eq 33, 3, 0, 0, 0, 0), none, none, some (.aload_n 0, 1, 0, 0, 0, 0), some (.iload 6, 2, 0, 0, 0, 0), none, some (.invokevirtual 475, 3, 217, 2, 12, 1800), none, none],
  [some (.ifCond .eq 13, 3, 0, 0, 0, 0), none, none, some (.aload_n 0, 1, 0, 0, 0, 0), some (.iload_n 1, 1, 0, 0, 0, 0), some (.iload_n 2, 1, 0, 0, 0, 0), some (.iload 5, 2, 0, 0, 0, 0), none, some (.iload 6, 2, 0, 0, 0, 0), none, some (.invokevirtual 478, 3, 218, 5, 12, 1804), none, none, some (.aload_n 0, 1, 0, 0, 0, 0), some (.iload 6, 2, 0, 0, 0, 0), none],
  [some (.invokevirtual 482, 3, 219, 2, 12, 1808), none, none, some (.istore 7, 2, 0, 0, 0, 0), none, some (.goto (-32), 3, 0, 0, 0, 0), none, none, some (.iload 4, 2, 0, 0, 0, 0), none, some (.ifCond .ne 10, 3, 0, 0, 0, 0), none, none, some (.aload_n 0, 1, 0, 0, 0, 0), some (.getfield 467, 3, 12, 66, 0, 1284), none],
  [none, some (.goto 20, 3, 0, 0, 0, 0), none, none, some (.iload 4, 2, 0, 0, 0, 0), none, some (.iconst 1, 1, 0, 0, 0, 0), some (.if_icmp .ne 10, 3, 0, 0, 0, 0), none, none, some (.aload_n 0, 1, 0, 0, 0, 0), some (.getfield 470, 3, 12, 67, 0, 1285), none, none, some (.goto 7, 3, 0, 0, 0, 0), none],
  [none, some (.aload_n 0, 1, 0, 0, 0, 0), some (.getfield 464, 3, 12, 65, 0, 1283), none, none, some (.ireturn, 1, 0, 0, 0, 0)]]
/-- 221: PurseTraceModel.isWay(I)Z -/
noncomputable def am_o221 : List (List (Option am_Op)) := [[some (.iload_n 0, 1, 0, 0, 0, 0), some (.i2l, 1, 0, 0, 0, 0), some (.lconst 0, 1, 0, 0, 0, 0), some (.ldc2_w 485, 3, 0, 0, 4, 1819), none, none, some (.invokestatic 185, 3, 134, 3, 1, 1471), none, none, some (.ireturn, 1, 1, 0, 0, 0)]]
/-- 222: PurseTraceModel.beside(IIII)I -/
noncomputable def am_o222 : List (List (Option am_Op)) := [[some (.aload_n 0, 1, 0, 0, 0, 0), some (.iload_n 1, 1, 0, 0, 0, 0), some (.invokevirtual 213, 3, 137, 2, 12, 1495), none, none, some (.ifCond .eq 27, 3, 0, 0, 0, 0), none, none, some (.aload_n 0, 1, 0, 0, 0, 0), some (.iload_n 2, 1, 0, 0, 0, 0), some (.invokevirtual 200, 3, 136, 2, 12, 1482), none, none, some (.ifCond .eq 19, 3, 0, 0, 0, 0), none, none],
  [some (.aload_n 0, 1, 0, 0, 0, 0), some (.iload_n 3, 1, 0, 0, 0, 0), some (.invokevirtual 213, 3, 137, 2, 12, 1495), none, none, some (.ifCond .eq 11, 3, 0, 0, 0, 0), none, none, some (.iload 4, 2, 0, 0, 0, 0), none, some (.invokestatic 487, 3, 221, 1, 1, 1816), none, none, some (.ifCond .ne 5, 3, 0, 0, 0, 0), none, none],
  [some (.iconst (-1), 1, 0, 0, 0, 0), some (.ireturn, 1, 0, 0, 0, 0), some (.aload_n 0, 1, 0, 0, 0, 0), some (.getfield 126, 3, 12, 58, 0, 1276), none, none, some (.iload_n 3, 1, 0, 0, 0, 0), some (.iload 4, 2, 0, 0, 0, 0), none, some (.iastore, 1, 0, 0, 0, 0), some (.aload_n 0, 1, 0, 0, 0, 0), some (.aload_n 0, 1, 0, 0, 0, 0), some (.getfield 197, 3, 12, 2, 0, 1220), none, none, some (.aload_n 0, 1, 0, 0, 0, 0)],
  [some (.getfield 197, 3, 12, 2, 0, 1220), none, none, some (.invokevirtual 455, 3, 206, 3, 12, 1644), none, none, some (.aload_n 0, 1, 0, 0, 0, 0), some (.getfield 126, 3, 12, 58, 0, 1276), none, none, some (.iload_n 3, 1, 0, 0, 0, 0), some (.iconst (-1), 1, 0, 0, 0, 0), some (.iastore, 1, 0, 0, 0, 0), some (.aload_n 0, 1, 0, 0, 0, 0), some (.iload_n 1, 1, 0, 0, 0, 0), some (.iload_n 2, 1, 0, 0, 0, 0)],
  [some (.invokevirtual 351, 3, 181, 3, 12, 1703), none, none, some (.ireturn, 1, 0, 0, 0, 0)]]
/-- 223: PurseTraceModel.choosing()I -/
noncomputable def am_o223 : List (List (Option am_Op)) := [[some (.iconst 0, 1, 0, 0, 0, 0), some (.istore_n 1, 1, 0, 0, 0, 0), some (.iconst 0, 1, 0, 0, 0, 0), some (.istore_n 2, 1, 0, 0, 0, 0), some (.iload_n 2, 1, 0, 0, 0, 0), some (.aload_n 0, 1, 0, 0, 0, 0), some (.getfield 189, 3, 12, 4, 0, 1222), none, none, some (.if_icmp .ge 26, 3, 0, 0, 0, 0), none, none, some (.iload_n 1, 1, 0, 0, 0, 0), some (.aload_n 0, 1, 0, 0, 0, 0), some (.getfield 151, 3, 12, 70, 0, 1288), none],
  [none, some (.iload_n 2, 1, 0, 0, 0, 0), some (.iaload, 1, 0, 0, 0, 0), some (.ifCond .eq 7, 3, 0, 0, 0, 0), none, none, some (.iconst 1, 1, 0, 0, 0, 0), some (.goto 4, 3, 0, 0, 0, 0), none, none, some (.iconst 0, 1, 0, 0, 0, 0), some (.iadd, 1, 0, 0, 0, 0), some (.istore_n 1, 1, 0, 0, 0, 0), some (.iinc 2 1, 3, 0, 0, 0, 0), none, none],
  [some (.goto (-28), 3, 0, 0, 0, 0), none, none, some (.iload_n 1, 1, 0, 0, 0, 0), some (.ireturn, 1, 0, 0, 0, 0)]]
/-- 224: PurseTraceModel.choose(II)Z -/
noncomputable def am_o224 : List (List (Option am_Op)) := [[some (.aload_n 0, 1, 0, 0, 0, 0), some (.iload_n 1, 1, 0, 0, 0, 0), some (.invokevirtual 213, 3, 137, 2, 12, 1495), none, none, some (.ifCond .eq 36, 3, 0, 0, 0, 0), none, none, some (.iload_n 2, 1, 0, 0, 0, 0), some (.i2l, 1, 0, 0, 0, 0), some (.lconst 0, 1, 0, 0, 0, 0), some (.ldc2_w 490, 3, 0, 0, 31, 1824), none, none, some (.invokestatic 185, 3, 134, 3, 1, 1471), none],
  [none, some (.ifCond .eq 24, 3, 0, 0, 0, 0), none, none, some (.iload_n 2, 1, 0, 0, 0, 0), some (.ifCond .eq 22, 3, 0, 0, 0, 0), none, none, some (.aload_n 0, 1, 0, 0, 0, 0), some (.getfield 151, 3, 12, 70, 0, 1288), none, none, some (.iload_n 1, 1, 0, 0, 0, 0), some (.iaload, 1, 0, 0, 0, 0), some (.ifCond .ne 13, 3, 0, 0, 0, 0), none],
  [none, some (.aload_n 0, 1, 0, 0, 0, 0), some (.invokevirtual 492, 3, 223, 1, 12, 1825), none, none, some (.iconst 4, 1, 0, 0, 0, 0), some (.if_icmp .ne 5, 3, 0, 0, 0, 0), none, none, some (.iconst 0, 1, 0, 0, 0, 0), some (.ireturn, 1, 1, 0, 0, 0), some (.aload_n 0, 1, 0, 0, 0, 0), some (.getfield 151, 3, 12, 70, 0, 1288), none, none, some (.iload_n 1, 1, 0, 0, 0, 0)],
  [some (.iload_n 2, 1, 0, 0, 0, 0), some (.iastore, 1, 0, 0, 0, 0), some (.iconst 1, 1, 0, 0, 0, 0), some (.ireturn, 1, 1, 0, 0, 0)]]
/-- 225: PurseTraceModel.isBarred(IIII)Z -/
noncomputable def am_o225 : List (List (Option am_Op)) := [[some (.iconst 0, 1, 0, 0, 0, 0), some (.istore 5, 2, 0, 0, 0, 0), none, some (.iload 5, 2, 0, 0, 0, 0), none, some (.aload_n 0, 1, 0, 0, 0, 0), some (.getfield 495, 3, 12, 10, 0, 1228), none, none, some (.if_icmp .ge 103, 3, 0, 0, 0, 0), none, none, some (.aload_n 0, 1, 0, 0, 0, 0), some (.getfield 154, 3, 12, 71, 0, 1289), none, none],
  [some (.iload 5, 2, 0, 0, 0, 0), none, some (.iaload, 1, 0, 0, 0, 0), some (.iload_n 1, 1, 0, 0, 0, 0), some (.if_icmp .ne 39, 3, 0, 0, 0, 0), none, none, some (.aload_n 0, 1, 0, 0, 0, 0), some (.getfield 157, 3, 12, 72, 0, 1290), none, none, some (.iload 5, 2, 0, 0, 0, 0), none, some (.iaload, 1, 0, 0, 0, 0), some (.iload_n 2, 1, 0, 0, 0, 0), some (.if_icmp .ne 28, 3, 0, 0, 0, 0)],
  [none, none, some (.aload_n 0, 1, 0, 0, 0, 0), some (.getfield 160, 3, 12, 73, 0, 1291), none, none, some (.iload 5, 2, 0, 0, 0, 0), none, some (.iaload, 1, 0, 0, 0, 0), some (.iload_n 3, 1, 0, 0, 0, 0), some (.if_icmp .ne 17, 3, 0, 0, 0, 0), none, none, some (.aload_n 0, 1, 0, 0, 0, 0), some (.getfield 163, 3, 12, 74, 0, 1292), none],
  [none, some (.iload 5, 2, 0, 0, 0, 0), none, some (.iaload, 1, 0, 0, 0, 0), some (.iload 4, 2, 0, 0, 0, 0), none, some (.if_icmp .ne 5, 3, 0, 0, 0, 0), none, none, some (.iconst 1, 1, 0, 0, 0, 0), some (.ireturn, 1, 1, 0, 0, 0), some (.aload_n 0, 1, 0, 0, 0, 0), some (.getfield 154, 3, 12, 71, 0, 1289), none, none, some (.iload 5, 2, 0, 0, 0, 0)],
  [none, some (.iaload, 1, 0, 0, 0, 0), some (.iload_n 3, 1, 0, 0, 0, 0), some (.if_icmp .ne 39, 3, 0, 0, 0, 0), none, none, some (.aload_n 0, 1, 0, 0, 0, 0), some (.getfield 157, 3, 12, 72, 0, 1290), none, none, some (.iload 5, 2, 0, 0, 0, 0), none, some (.iaload, 1, 0, 0, 0, 0), some (.iload 4, 2, 0, 0, 0, 0), none, some (.if_icmp .ne 27, 3, 0, 0, 0, 0)],
  [none, none, some (.aload_n 0, 1, 0, 0, 0, 0), some (.getfield 160, 3, 12, 73, 0, 1291), none, none, some (.iload 5, 2, 0, 0, 0, 0), none, some (.iaload, 1, 0, 0, 0, 0), some (.iload_n 1, 1, 0, 0, 0, 0), some (.if_icmp .ne 16, 3, 0, 0, 0, 0), none, none, some (.aload_n 0, 1, 0, 0, 0, 0), some (.getfield 163, 3, 12, 74, 0, 1292), none],
  [none, some (.iload 5, 2, 0, 0, 0, 0), none, some (.iaload, 1, 0, 0, 0, 0), some (.iload_n 2, 1, 0, 0, 0, 0), some (.if_icmp .ne 5, 3, 0, 0, 0, 0), none, none, some (.iconst 1, 1, 0, 0, 0, 0), some (.ireturn, 1, 1, 0, 0, 0), some (.iinc 5 1, 3, 0, 0, 0, 0), none, none, some (.goto (-106), 3, 0, 0, 0, 0), none, none],
  [some (.iconst 0, 1, 0, 0, 0, 0), some (.ireturn, 1, 1, 0, 0, 0)]]
/-- 226: PurseTraceModel.bar(IIII)Z -/
noncomputable def am_o226 : List (List (Option am_Op)) := [[some (.aload_n 0, 1, 0, 0, 0, 0), some (.getfield 495, 3, 12, 10, 0, 1228), none, none, some (.bipush 40, 2, 0, 0, 0, 0), none, some (.if_icmp .eq 51, 3, 0, 0, 0, 0), none, none, some (.aload_n 0, 1, 0, 0, 0, 0), some (.iload_n 1, 1, 0, 0, 0, 0), some (.invokevirtual 213, 3, 137, 2, 12, 1495), none, none, some (.ifCond .eq 43, 3, 0, 0, 0, 0), none],
  [none, some (.aload_n 0, 1, 0, 0, 0, 0), some (.iload_n 3, 1, 0, 0, 0, 0), some (.invokevirtual 213, 3, 137, 2, 12, 1495), none, none, some (.ifCond .eq 35, 3, 0, 0, 0, 0), none, none, some (.iload_n 1, 1, 0, 0, 0, 0), some (.iload_n 3, 1, 0, 0, 0, 0), some (.if_icmp .eq 30, 3, 0, 0, 0, 0), none, none, some (.iload_n 2, 1, 0, 0, 0, 0), some (.invokestatic 487, 3, 221, 1, 1, 1816)],
  [none, none, some (.ifCond .eq 23, 3, 0, 0, 0, 0), none, none, some (.iload 4, 2, 0, 0, 0, 0), none, some (.invokestatic 487, 3, 221, 1, 1, 1816), none, none, some (.ifCond .eq 15, 3, 0, 0, 0, 0), none, none, some (.aload_n 0, 1, 0, 0, 0, 0), some (.iload_n 1, 1, 0, 0, 0, 0), some (.iload_n 2, 1, 0, 0, 0, 0)],
  [some (.iload_n 3, 1, 0, 0, 0, 0), some (.iload 4, 2, 0, 0, 0, 0), none, some (.invokevirtual 498, 3, 225, 5, 12, 1833), none, none, some (.ifCond .eq 5, 3, 0, 0, 0, 0), none, none, some (.iconst 0, 1, 0, 0, 0, 0), some (.ireturn, 1, 1, 0, 0, 0), some (.aload_n 0, 1, 0, 0, 0, 0), some (.getfield 154, 3, 12, 71, 0, 1289), none, none, some (.aload_n 0, 1, 0, 0, 0, 0)],
  [some (.getfield 495, 3, 12, 10, 0, 1228), none, none, some (.iload_n 1, 1, 0, 0, 0, 0), some (.iastore, 1, 0, 0, 0, 0), some (.aload_n 0, 1, 0, 0, 0, 0), some (.getfield 157, 3, 12, 72, 0, 1290), none, none, some (.aload_n 0, 1, 0, 0, 0, 0), some (.getfield 495, 3, 12, 10, 0, 1228), none, none, some (.iload_n 2, 1, 0, 0, 0, 0), some (.iastore, 1, 0, 0, 0, 0), some (.aload_n 0, 1, 0, 0, 0, 0)],
  [some (.getfield 160, 3, 12, 73, 0, 1291), none, none, some (.aload_n 0, 1, 0, 0, 0, 0), some (.getfield 495, 3, 12, 10, 0, 1228), none, none, some (.iload_n 3, 1, 0, 0, 0, 0), some (.iastore, 1, 0, 0, 0, 0), some (.aload_n 0, 1, 0, 0, 0, 0), some (.getfield 163, 3, 12, 74, 0, 1292), none, none, some (.aload_n 0, 1, 0, 0, 0, 0), some (.getfield 495, 3, 12, 10, 0, 1228), none],
  [none, some (.iload 4, 2, 0, 0, 0, 0), none, some (.iastore, 1, 0, 0, 0, 0), some (.aload_n 0, 1, 0, 0, 0, 0), some (.dup, 1, 0, 0, 0, 0), some (.getfield 495, 3, 12, 10, 0, 1228), none, none, some (.iconst 1, 1, 0, 0, 0, 0), some (.iadd, 1, 0, 0, 0, 0), some (.putfield 495, 3, 12, 10, 0, 1228), none, none, some (.iconst 1, 1, 0, 0, 0, 0), some (.ireturn, 1, 1, 0, 0, 0)]]
/-- 227: PurseTraceModel.rowsOf(I)I -/
noncomputable def am_o227 : List (List (Option am_Op)) := [[some (.iconst 1, 1, 0, 0, 0, 0), some (.istore_n 2, 1, 0, 0, 0, 0), some (.iconst 0, 1, 0, 0, 0, 0), some (.istore_n 3, 1, 0, 0, 0, 0), some (.iload_n 3, 1, 0, 0, 0, 0), some (.iload_n 1, 1, 0, 0, 0, 0), some (.if_icmp .ge 13, 3, 0, 0, 0, 0), none, none, some (.iload_n 2, 1, 0, 0, 0, 0), some (.iconst 5, 1, 0, 0, 0, 0), some (.imul, 1, 0, 0, 0, 0), some (.istore_n 2, 1, 0, 0, 0, 0), some (.iinc 3 1, 3, 0, 0, 0, 0), none, none],
  [some (.goto (-12), 3, 0, 0, 0, 0), none, none, some (.iload_n 2, 1, 0, 0, 0, 0), some (.ireturn, 1, 0, 0, 0, 0)]]
/-- 228: PurseTraceModel.laid(I)Z -/
noncomputable def am_o228 : List (List (Option am_Op)) := [[some (.iload_n 1, 1, 0, 0, 0, 0), some (.istore_n 2, 1, 0, 0, 0, 0), some (.iconst 1, 1, 0, 0, 0, 0), some (.istore_n 3, 1, 0, 0, 0, 0), some (.iconst 0, 1, 0, 0, 0, 0), some (.istore 4, 2, 0, 0, 0, 0), none, some (.iload 4, 2, 0, 0, 0, 0), none, some (.aload_n 0, 1, 0, 0, 0, 0), some (.getfield 189, 3, 12, 4, 0, 1222), none, none, some (.if_icmp .ge 135, 3, 0, 0, 0, 0), none, none],
  [some (.aload_n 0, 1, 0, 0, 0, 0), some (.getfield 126, 3, 12, 58, 0, 1276), none, none, some (.iload 4, 2, 0, 0, 0, 0), none, some (.iconst (-1), 1, 0, 0, 0, 0), some (.iastore, 1, 0, 0, 0, 0), some (.aload_n 0, 1, 0, 0, 0, 0), some (.getfield 151, 3, 12, 70, 0, 1288), none, none, some (.iload 4, 2, 0, 0, 0, 0), none, some (.iaload, 1, 0, 0, 0, 0), some (.ifCond .ne 6, 3, 0, 0, 0, 0)],
  [none, none, some (.goto 108, 3, 0, 0, 0, 0), none, none, some (.aload_n 0, 1, 0, 0, 0, 0), some (.getfield 126, 3, 12, 58, 0, 1276), none, none, some (.iload 4, 2, 0, 0, 0, 0), none, some (.iload_n 2, 1, 0, 0, 0, 0), some (.iconst 5, 1, 0, 0, 0, 0), some (.irem, 1, 0, 0, 0, 0), some (.iastore, 1, 0, 0, 0, 0), some (.iload_n 2, 1, 0, 0, 0, 0)],
  [some (.iconst 5, 1, 0, 0, 0, 0), some (.idiv, 1, 0, 0, 0, 0), some (.istore_n 2, 1, 0, 0, 0, 0), some (.iload_n 3, 1, 0, 0, 0, 0), some (.ifCond .eq 27, 3, 0, 0, 0, 0), none, none, some (.aload_n 0, 1, 0, 0, 0, 0), some (.getfield 151, 3, 12, 70, 0, 1288), none, none, some (.iload 4, 2, 0, 0, 0, 0), none, some (.iaload, 1, 0, 0, 0, 0), some (.aload_n 0, 1, 0, 0, 0, 0), some (.getfield 126, 3, 12, 58, 0, 1276)],
  [none, none, some (.iload 4, 2, 0, 0, 0, 0), none, some (.iaload, 1, 0, 0, 0, 0), some (.invokestatic 501, 3, 135, 2, 1, 1853), none, none, some (.ifCond .eq 7, 3, 0, 0, 0, 0), none, none, some (.iconst 1, 1, 0, 0, 0, 0), some (.goto 4, 3, 0, 0, 0, 0), none, none, some (.iconst 0, 1, 0, 0, 0, 0)],
  [some (.istore_n 3, 1, 0, 0, 0, 0), some (.iconst 0, 1, 0, 0, 0, 0), some (.istore 5, 2, 0, 0, 0, 0), none, some (.iload 5, 2, 0, 0, 0, 0), none, some (.iload 4, 2, 0, 0, 0, 0), none, some (.if_icmp .ge 54, 3, 0, 0, 0, 0), none, none, some (.iload_n 3, 1, 0, 0, 0, 0), some (.ifCond .eq 42, 3, 0, 0, 0, 0), none, none, some (.aload_n 0, 1, 0, 0, 0, 0)],
  [some (.getfield 151, 3, 12, 70, 0, 1288), none, none, some (.iload 5, 2, 0, 0, 0, 0), none, some (.iaload, 1, 0, 0, 0, 0), some (.ifCond .eq 28, 3, 0, 0, 0, 0), none, none, some (.aload_n 0, 1, 0, 0, 0, 0), some (.iload 5, 2, 0, 0, 0, 0), none, some (.aload_n 0, 1, 0, 0, 0, 0), some (.getfield 126, 3, 12, 58, 0, 1276), none, none],
  [some (.iload 5, 2, 0, 0, 0, 0), none, some (.iaload, 1, 0, 0, 0, 0), some (.iload 4, 2, 0, 0, 0, 0), none, some (.aload_n 0, 1, 0, 0, 0, 0), some (.getfield 126, 3, 12, 58, 0, 1276), none, none, some (.iload 4, 2, 0, 0, 0, 0), none, some (.iaload, 1, 0, 0, 0, 0), some (.invokevirtual 498, 3, 225, 5, 12, 1833), none, none, some (.ifCond .ne 7, 3, 0, 0, 0, 0)],
  [none, none, some (.iconst 1, 1, 0, 0, 0, 0), some (.goto 4, 3, 0, 0, 0, 0), none, none, some (.iconst 0, 1, 0, 0, 0, 0), some (.istore_n 3, 1, 0, 0, 0, 0), some (.iinc 5 1, 3, 0, 0, 0, 0), none, none, some (.goto (-55), 3, 0, 0, 0, 0), none, none, some (.iinc 4 1, 3, 0, 0, 0, 0), none],
  [none, some (.goto (-138), 3, 0, 0, 0, 0), none, none, some (.iload_n 3, 1, 0, 0, 0, 0), some (.ireturn, 1, 1, 0, 0, 0)]]
/-- 229: PurseTraceModel.unlaid()V -/
noncomputable def am_o229 : List (List (Option am_Op)) := [[some (.iconst 0, 1, 0, 0, 0, 0), some (.istore_n 1, 1, 0, 0, 0, 0), some (.iload_n 1, 1, 0, 0, 0, 0), some (.bipush 10, 2, 0, 0, 0, 0), none, some (.if_icmp .ge 16, 3, 0, 0, 0, 0), none, none, some (.aload_n 0, 1, 0, 0, 0, 0), some (.getfield 126, 3, 12, 58, 0, 1276), none, none, some (.iload_n 1, 1, 0, 0, 0, 0), some (.iconst (-1), 1, 0, 0, 0, 0), some (.iastore, 1, 0, 0, 0, 0), some (.iinc 1 1, 3, 0, 0, 0, 0)],
  [none, none, some (.goto (-16), 3, 0, 0, 0, 0), none, none, some (.return_, 1, 0, 0, 0, 0)]]
/-- 230: PurseTraceModel.worthOf(I)I -/
noncomputable def am_o230 : List (List (Option am_Op)) := [[some (.aload_n 0, 1, 0, 0, 0, 0), some (.aload_n 0, 1, 0, 0, 0, 0), some (.getfield 197, 3, 12, 2, 0, 1220), none, none, some (.aload_n 0, 1, 0, 0, 0, 0), some (.getfield 197, 3, 12, 2, 0, 1220), none, none, some (.invokevirtual 455, 3, 206, 3, 12, 1644), none, none, some (.iconst 0, 1, 0, 0, 0, 0), some (.istore_n 2, 1, 0, 0, 0, 0), some (.iconst 0, 1, 0, 0, 0, 0), some (.istore_n 3, 1, 0, 0, 0, 0)],
  [some (.iload_n 3, 1, 0, 0, 0, 0), some (.aload_n 0, 1, 0, 0, 0, 0), some (.getfield 189, 3, 12, 4, 0, 1222), none, none, some (.if_icmp .ge 32, 3, 0, 0, 0, 0), none, none, some (.iload_n 2, 1, 0, 0, 0, 0), some (.aload_n 0, 1, 0, 0, 0, 0), some (.getfield 13, 3, 12, 11, 0, 1229), none, none, some (.iload_n 3, 1, 0, 0, 0, 0), some (.iaload, 1, 0, 0, 0, 0), some (.iload_n 1, 1, 0, 0, 0, 0)],
  [some (.if_icmp .ne 7, 3, 0, 0, 0, 0), none, none, some (.iconst 0, 1, 0, 0, 0, 0), some (.goto 9, 3, 0, 0, 0, 0), none, none, some (.aload_n 0, 1, 0, 0, 0, 0), some (.iload_n 3, 1, 0, 0, 0, 0), some (.iload_n 1, 1, 0, 0, 0, 0), some (.invokevirtual 351, 3, 181, 3, 12, 1703), none, none, some (.iadd, 1, 0, 0, 0, 0), some (.istore_n 2, 1, 0, 0, 0, 0), some (.iinc 3 1, 3, 0, 0, 0, 0)],
  [none, none, some (.goto (-34), 3, 0, 0, 0, 0), none, none, some (.iconst 0, 1, 0, 0, 0, 0), some (.istore_n 3, 1, 0, 0, 0, 0), some (.iload_n 3, 1, 0, 0, 0, 0), some (.aload_n 0, 1, 0, 0, 0, 0), some (.getfield 192, 3, 12, 5, 0, 1223), none, none, some (.if_icmp .ge 23, 3, 0, 0, 0, 0), none, none, some (.iload_n 2, 1, 0, 0, 0, 0)],
  [some (.aload_n 0, 1, 0, 0, 0, 0), some (.getfield 111, 3, 12, 52, 0, 1270), none, none, some (.bipush 10, 2, 0, 0, 0, 0), none, some (.iload_n 3, 1, 0, 0, 0, 0), some (.imul, 1, 0, 0, 0, 0), some (.iload_n 1, 1, 0, 0, 0, 0), some (.iadd, 1, 0, 0, 0, 0), some (.iaload, 1, 0, 0, 0, 0), some (.iadd, 1, 0, 0, 0, 0), some (.istore_n 2, 1, 0, 0, 0, 0), some (.iinc 3 1, 3, 0, 0, 0, 0), none, none],
  [some (.goto (-25), 3, 0, 0, 0, 0), none, none, some (.iload_n 2, 1, 0, 0, 0, 0), some (.ireturn, 1, 0, 0, 0, 0)]]
/-- 231: PurseTraceModel.digit(II)I -/
noncomputable def am_o231 : List (List (Option am_Op)) := [[some (.iload_n 0, 1, 0, 0, 0, 0), some (.istore_n 2, 1, 0, 0, 0, 0), some (.iconst 0, 1, 0, 0, 0, 0), some (.istore_n 3, 1, 0, 0, 0, 0), some (.iload_n 3, 1, 0, 0, 0, 0), some (.iload_n 1, 1, 0, 0, 0, 0), some (.if_icmp .ge 13, 3, 0, 0, 0, 0), none, none, some (.iload_n 2, 1, 0, 0, 0, 0), some (.iconst 5, 1, 0, 0, 0, 0), some (.idiv, 1, 0, 0, 0, 0), some (.istore_n 2, 1, 0, 0, 0, 0), some (.iinc 3 1, 3, 0, 0, 0, 0), none, none],
  [some (.goto (-12), 3, 0, 0, 0, 0), none, none, some (.iload_n 2, 1, 0, 0, 0, 0), some (.iconst 5, 1, 0, 0, 0, 0), some (.irem, 1, 0, 0, 0, 0), some (.ireturn, 1, 0, 0, 0, 0)]]
/-- 232: PurseTraceModel.isLess(III)Z -/
noncomputable def am_o232 : List (List (Option am_Op)) := [[some (.iconst 0, 1, 0, 0, 0, 0), some (.istore 4, 2, 0, 0, 0, 0), none, some (.iload 4, 2, 0, 0, 0, 0), none, some (.iload_n 3, 1, 0, 0, 0, 0), some (.if_icmp .ge 45, 3, 0, 0, 0, 0), none, none, some (.iload_n 1, 1, 0, 0, 0, 0), some (.iload 4, 2, 0, 0, 0, 0), none, some (.invokestatic 504, 3, 231, 2, 1, 1864), none, none, some (.iload_n 2, 1, 0, 0, 0, 0)],
  [some (.iload 4, 2, 0, 0, 0, 0), none, some (.invokestatic 504, 3, 231, 2, 1, 1864), none, none, some (.if_icmp .eq 24, 3, 0, 0, 0, 0), none, none, some (.iload_n 1, 1, 0, 0, 0, 0), some (.iload 4, 2, 0, 0, 0, 0), none, some (.invokestatic 504, 3, 231, 2, 1, 1864), none, none, some (.iload_n 2, 1, 0, 0, 0, 0), some (.iload 4, 2, 0, 0, 0, 0)],
  [none, some (.invokestatic 504, 3, 231, 2, 1, 1864), none, none, some (.if_icmp .ge 7, 3, 0, 0, 0, 0), none, none, some (.iconst 1, 1, 0, 0, 0, 0), some (.goto 4, 3, 0, 0, 0, 0), none, none, some (.iconst 0, 1, 0, 0, 0, 0), some (.ireturn, 1, 1, 0, 0, 0), some (.iinc 4 1, 3, 0, 0, 0, 0), none, none],
  [some (.goto (-45), 3, 0, 0, 0, 0), none, none, some (.iconst 0, 1, 0, 0, 0, 0), some (.ireturn, 1, 1, 0, 0, 0)]]
/-- 233: PurseTraceModel.chooses(I)Z -/
noncomputable def am_o233 : List (List (Option am_Op)) := [[some (.aload_n 0, 1, 0, 0, 0, 0), some (.invokevirtual 492, 3, 223, 1, 12, 1825), none, none, some (.istore_n 2, 1, 0, 0, 0, 0), some (.aload_n 0, 1, 0, 0, 0, 0), some (.iconst (-1), 1, 0, 0, 0, 0), some (.putfield 507, 3, 12, 75, 0, 1293), none, none, some (.iconst 0, 1, 0, 0, 0, 0), some (.istore_n 3, 1, 0, 0, 0, 0), some (.iload_n 3, 1, 0, 0, 0, 0), some (.aload_n 0, 1, 0, 0, 0, 0), some (.iload_n 2, 1, 0, 0, 0, 0), some (.invokevirtual 510, 3, 227, 2, 12, 1845)],
  [none, none, some (.if_icmp .ge 80, 3, 0, 0, 0, 0), none, none, some (.aload_n 0, 1, 0, 0, 0, 0), some (.iload_n 3, 1, 0, 0, 0, 0), some (.invokevirtual 513, 3, 228, 2, 12, 1849), none, none, some (.ifCond .ne 6, 3, 0, 0, 0, 0), none, none, some (.goto 63, 3, 0, 0, 0, 0), none, none],
  [some (.aload_n 0, 1, 0, 0, 0, 0), some (.iload_n 1, 1, 0, 0, 0, 0), some (.invokevirtual 516, 3, 230, 2, 12, 1856), none, none, some (.istore 4, 2, 0, 0, 0, 0), none, some (.aload_n 0, 1, 0, 0, 0, 0), some (.getfield 507, 3, 12, 75, 0, 1293), none, none, some (.iconst (-1), 1, 0, 0, 0, 0), some (.if_icmp .eq 37, 3, 0, 0, 0, 0), none, none, some (.iload 4, 2, 0, 0, 0, 0)],
  [none, some (.aload_n 0, 1, 0, 0, 0, 0), some (.getfield 519, 3, 12, 76, 0, 1294), none, none, some (.if_icmp .lt 39, 3, 0, 0, 0, 0), none, none, some (.iload 4, 2, 0, 0, 0, 0), none, some (.aload_n 0, 1, 0, 0, 0, 0), some (.getfield 519, 3, 12, 76, 0, 1294), none, none, some (.if_icmp .ne 19, 3, 0, 0, 0, 0), none],
  [none, some (.aload_n 0, 1, 0, 0, 0, 0), some (.iload_n 3, 1, 0, 0, 0, 0), some (.aload_n 0, 1, 0, 0, 0, 0), some (.getfield 507, 3, 12, 75, 0, 1293), none, none, some (.iload_n 2, 1, 0, 0, 0, 0), some (.invokevirtual 522, 3, 232, 4, 12, 1860), none, none, some (.ifCond .ne 6, 3, 0, 0, 0, 0), none, none, some (.goto 14, 3, 0, 0, 0, 0), none],
  [none, some (.aload_n 0, 1, 0, 0, 0, 0), some (.iload_n 3, 1, 0, 0, 0, 0), some (.putfield 507, 3, 12, 75, 0, 1293), none, none, some (.aload_n 0, 1, 0, 0, 0, 0), some (.iload 4, 2, 0, 0, 0, 0), none, some (.putfield 519, 3, 12, 76, 0, 1294), none, none, some (.iinc 3 1, 3, 0, 0, 0, 0), none, none, some (.goto (-83), 3, 0, 0, 0, 0)],
  [none, none, some (.aload_n 0, 1, 0, 0, 0, 0), some (.invokevirtual 526, 3, 229, 1, 12, 1867), none, none, some (.aload_n 0, 1, 0, 0, 0, 0), some (.getfield 507, 3, 12, 75, 0, 1293), none, none, some (.iconst (-1), 1, 0, 0, 0, 0), some (.if_icmp .eq 7, 3, 0, 0, 0, 0), none, none, some (.iconst 1, 1, 0, 0, 0, 0), some (.goto 4, 3, 0, 0, 0, 0)],
  [none, none, some (.iconst 0, 1, 0, 0, 0, 0), some (.ireturn, 1, 1, 0, 0, 0)]]
/-- 234: PurseTraceModel.best(I)I -/
noncomputable def am_o234 : List (List (Option am_Op)) := [[some (.aload_n 0, 1, 0, 0, 0, 0), some (.iload_n 1, 1, 0, 0, 0, 0), some (.invokevirtual 200, 3, 136, 2, 12, 1482), none, none, some (.ifCond .eq 18, 3, 0, 0, 0, 0), none, none, some (.aload_n 0, 1, 0, 0, 0, 0), some (.iload_n 1, 1, 0, 0, 0, 0), some (.invokevirtual 529, 3, 233, 2, 12, 1841), none, none, some (.ifCond .eq 10, 3, 0, 0, 0, 0), none, none],
  [some (.aload_n 0, 1, 0, 0, 0, 0), some (.getfield 519, 3, 12, 76, 0, 1294), none, none, some (.goto 4, 3, 0, 0, 0, 0), none, none, some (.iconst (-1), 1, 0, 0, 0, 0), some (.ireturn, 1, 0, 0, 0, 0)]]
/-- 235: PurseTraceModel.chosen(II)I -/
noncomputable def am_o235 : List (List (Option am_Op)) := [[some (.aload_n 0, 1, 0, 0, 0, 0), some (.iload_n 1, 1, 0, 0, 0, 0), some (.invokevirtual 200, 3, 136, 2, 12, 1482), none, none, some (.ifCond .eq 38, 3, 0, 0, 0, 0), none, none, some (.iload_n 2, 1, 0, 0, 0, 0), some (.i2l, 1, 0, 0, 0, 0), some (.lconst 0, 1, 0, 0, 0, 0), some (.aload_n 0, 1, 0, 0, 0, 0), some (.invokevirtual 492, 3, 223, 1, 12, 1825), none, none, some (.iconst 1, 1, 0, 0, 0, 0)],
  [some (.isub, 1, 0, 0, 0, 0), some (.i2l, 1, 0, 0, 0, 0), some (.invokestatic 185, 3, 134, 3, 1, 1471), none, none, some (.ifCond .eq 22, 3, 0, 0, 0, 0), none, none, some (.aload_n 0, 1, 0, 0, 0, 0), some (.iload_n 1, 1, 0, 0, 0, 0), some (.invokevirtual 529, 3, 233, 2, 12, 1841), none, none, some (.ifCond .eq 14, 3, 0, 0, 0, 0), none, none],
  [some (.aload_n 0, 1, 0, 0, 0, 0), some (.getfield 507, 3, 12, 75, 0, 1293), none, none, some (.iload_n 2, 1, 0, 0, 0, 0), some (.invokestatic 504, 3, 231, 2, 1, 1864), none, none, some (.goto 4, 3, 0, 0, 0, 0), none, none, some (.iconst (-1), 1, 0, 0, 0, 0), some (.ireturn, 1, 0, 0, 0, 0)]]
/-- 236: PurseTraceModel.judge(II)I -/
noncomputable def am_o236 : List (List (Option am_Op)) := [[some (.aload_n 0, 1, 0, 0, 0, 0), some (.iload_n 1, 1, 0, 0, 0, 0), some (.invokevirtual 200, 3, 136, 2, 12, 1482), none, none, some (.ifCond .eq 23, 3, 0, 0, 0, 0), none, none, some (.iload_n 2, 1, 0, 0, 0, 0), some (.i2l, 1, 0, 0, 0, 0), some (.lconst 0, 1, 0, 0, 0, 0), some (.aload_n 0, 1, 0, 0, 0, 0), some (.aload_n 0, 1, 0, 0, 0, 0), some (.invokevirtual 492, 3, 223, 1, 12, 1825), none, none],
  [some (.invokevirtual 510, 3, 227, 2, 12, 1845), none, none, some (.iconst 1, 1, 0, 0, 0, 0), some (.isub, 1, 0, 0, 0, 0), some (.i2l, 1, 0, 0, 0, 0), some (.invokestatic 185, 3, 134, 3, 1, 1471), none, none, some (.ifCond .ne 5, 3, 0, 0, 0, 0), none, none, some (.iconst (-1), 1, 0, 0, 0, 0), some (.ireturn, 1, 0, 0, 0, 0), some (.aload_n 0, 1, 0, 0, 0, 0), some (.iload_n 2, 1, 0, 0, 0, 0)],
  [some (.invokevirtual 513, 3, 228, 2, 12, 1849), none, none, some (.ifCond .eq 11, 3, 0, 0, 0, 0), none, none, some (.aload_n 0, 1, 0, 0, 0, 0), some (.iload_n 1, 1, 0, 0, 0, 0), some (.invokevirtual 516, 3, 230, 2, 12, 1856), none, none, some (.goto 5, 3, 0, 0, 0, 0), none, none, some (.bipush (-2), 2, 0, 0, 0, 0), none],
  [some (.istore_n 3, 1, 0, 0, 0, 0), some (.aload_n 0, 1, 0, 0, 0, 0), some (.invokevirtual 526, 3, 229, 1, 12, 1867), none, none, some (.iload_n 3, 1, 0, 0, 0, 0), some (.ireturn, 1, 0, 0, 0, 0)]]
/-- 237: PurseTraceModel.debt(IIII)I -/
noncomputable def am_o237 : List (List (Option am_Op)) := [[some (.aload_n 0, 1, 0, 0, 0, 0), some (.getfield 532, 3, 12, 9, 0, 1227), none, none, some (.bipush 40, 2, 0, 0, 0, 0), none, some (.if_icmp .eq 49, 3, 0, 0, 0, 0), none, none, some (.aload_n 0, 1, 0, 0, 0, 0), some (.iload_n 1, 1, 0, 0, 0, 0), some (.invokevirtual 200, 3, 136, 2, 12, 1482), none, none, some (.ifCond .eq 41, 3, 0, 0, 0, 0), none],
  [none, some (.aload_n 0, 1, 0, 0, 0, 0), some (.iload_n 2, 1, 0, 0, 0, 0), some (.invokevirtual 200, 3, 136, 2, 12, 1482), none, none, some (.ifCond .eq 33, 3, 0, 0, 0, 0), none, none, some (.iload_n 1, 1, 0, 0, 0, 0), some (.iload_n 2, 1, 0, 0, 0, 0), some (.if_icmp .eq 28, 3, 0, 0, 0, 0), none, none, some (.iload_n 3, 1, 0, 0, 0, 0), some (.i2l, 1, 0, 0, 0, 0)],
  [some (.lconst 1, 1, 0, 0, 0, 0), some (.ldc2_w 209, 3, 0, 0, 1000000, 1503), none, none, some (.invokestatic 185, 3, 134, 3, 1, 1471), none, none, some (.ifCond .eq 16, 3, 0, 0, 0, 0), none, none, some (.iload 4, 2, 0, 0, 0, 0), none, some (.i2l, 1, 0, 0, 0, 0), some (.lconst 0, 1, 0, 0, 0, 0), some (.ldc2_w 204, 3, 0, 0, 3, 1486), none],
  [none, some (.invokestatic 185, 3, 134, 3, 1, 1471), none, none, some (.ifCond .ne 5, 3, 0, 0, 0, 0), none, none, some (.iconst (-1), 1, 0, 0, 0, 0), some (.ireturn, 1, 0, 0, 0, 0), some (.aload_n 0, 1, 0, 0, 0, 0), some (.getfield 166, 3, 12, 77, 0, 1295), none, none, some (.aload_n 0, 1, 0, 0, 0, 0), some (.getfield 532, 3, 12, 9, 0, 1227), none],
  [none, some (.iload_n 1, 1, 0, 0, 0, 0), some (.iastore, 1, 0, 0, 0, 0), some (.aload_n 0, 1, 0, 0, 0, 0), some (.getfield 169, 3, 12, 78, 0, 1296), none, none, some (.aload_n 0, 1, 0, 0, 0, 0), some (.getfield 532, 3, 12, 9, 0, 1227), none, none, some (.iload_n 2, 1, 0, 0, 0, 0), some (.iastore, 1, 0, 0, 0, 0), some (.aload_n 0, 1, 0, 0, 0, 0), some (.getfield 172, 3, 12, 79, 0, 1297), none],
  [none, some (.aload_n 0, 1, 0, 0, 0, 0), some (.getfield 532, 3, 12, 9, 0, 1227), none, none, some (.iload_n 3, 1, 0, 0, 0, 0), some (.iastore, 1, 0, 0, 0, 0), some (.aload_n 0, 1, 0, 0, 0, 0), some (.getfield 175, 3, 12, 80, 0, 1298), none, none, some (.aload_n 0, 1, 0, 0, 0, 0), some (.getfield 532, 3, 12, 9, 0, 1227), none, none, some (.iload 4, 2, 0, 0, 0, 0)],
  [none, some (.iastore, 1, 0, 0, 0, 0), some (.aload_n 0, 1, 0, 0, 0, 0), some (.dup, 1, 0, 0, 0, 0), some (.getfield 532, 3, 12, 9, 0, 1227), none, none, some (.iconst 1, 1, 0, 0, 0, 0), some (.iadd, 1, 0, 0, 0, 0), some (.putfield 532, 3, 12, 9, 0, 1227), none, none, some (.aload_n 0, 1, 0, 0, 0, 0), some (.getfield 532, 3, 12, 9, 0, 1227), none, none],
  [some (.iconst 1, 1, 0, 0, 0, 0), some (.isub, 1, 0, 0, 0, 0), some (.ireturn, 1, 0, 0, 0, 0)]]
/-- 238: PurseTraceModel.isOf(III)Z -/
noncomputable def am_o238 : List (List (Option am_Op)) := [[some (.aload_n 0, 1, 0, 0, 0, 0), some (.getfield 166, 3, 12, 77, 0, 1295), none, none, some (.iload_n 1, 1, 0, 0, 0, 0), some (.iaload, 1, 0, 0, 0, 0), some (.iload_n 2, 1, 0, 0, 0, 0), some (.if_icmp .ne 17, 3, 0, 0, 0, 0), none, none, some (.aload_n 0, 1, 0, 0, 0, 0), some (.getfield 175, 3, 12, 80, 0, 1298), none, none, some (.iload_n 1, 1, 0, 0, 0, 0), some (.iaload, 1, 0, 0, 0, 0)],
  [some (.iload_n 3, 1, 0, 0, 0, 0), some (.if_icmp .ne 7, 3, 0, 0, 0, 0), none, none, some (.iconst 1, 1, 0, 0, 0, 0), some (.goto 4, 3, 0, 0, 0, 0), none, none, some (.iconst 0, 1, 0, 0, 0, 0), some (.ireturn, 1, 1, 0, 0, 0)]]
/-- 239: PurseTraceModel.pays(III)I -/
noncomputable def am_o239 : List (List (Option am_Op)) := [[some (.iconst 0, 1, 0, 0, 0, 0), some (.istore 4, 2, 0, 0, 0, 0), none, some (.iconst 0, 1, 0, 0, 0, 0), some (.istore 5, 2, 0, 0, 0, 0), none, some (.iload 5, 2, 0, 0, 0, 0), none, some (.aload_n 0, 1, 0, 0, 0, 0), some (.getfield 532, 3, 12, 9, 0, 1227), none, none, some (.if_icmp .ge 36, 3, 0, 0, 0, 0), none, none, some (.iload 4, 2, 0, 0, 0, 0)],
  [none, some (.aload_n 0, 1, 0, 0, 0, 0), some (.iload 5, 2, 0, 0, 0, 0), none, some (.iload_n 1, 1, 0, 0, 0, 0), some (.iload_n 2, 1, 0, 0, 0, 0), some (.invokevirtual 535, 3, 238, 4, 12, 1891), none, none, some (.ifCond .eq 13, 3, 0, 0, 0, 0), none, none, some (.aload_n 0, 1, 0, 0, 0, 0), some (.getfield 172, 3, 12, 79, 0, 1297), none, none],
  [some (.iload 5, 2, 0, 0, 0, 0), none, some (.iaload, 1, 0, 0, 0, 0), some (.goto 4, 3, 0, 0, 0, 0), none, none, some (.iconst 0, 1, 0, 0, 0, 0), some (.iadd, 1, 0, 0, 0, 0), some (.istore 4, 2, 0, 0, 0, 0), none, some (.iinc 5 1, 3, 0, 0, 0, 0), none, none, some (.goto (-39), 3, 0, 0, 0, 0), none, none],
  [some (.iload_n 3, 1, 0, 0, 0, 0), some (.istore 5, 2, 0, 0, 0, 0), none, some (.iconst 0, 1, 0, 0, 0, 0), some (.istore 6, 2, 0, 0, 0, 0), none, some (.iload 6, 2, 0, 0, 0, 0), none, some (.aload_n 0, 1, 0, 0, 0, 0), some (.getfield 532, 3, 12, 9, 0, 1227), none, none, some (.if_icmp .ge 74, 3, 0, 0, 0, 0), none, none, some (.aload_n 0, 1, 0, 0, 0, 0)],
  [some (.iload 6, 2, 0, 0, 0, 0), none, some (.iload_n 1, 1, 0, 0, 0, 0), some (.iload_n 2, 1, 0, 0, 0, 0), some (.invokevirtual 535, 3, 238, 4, 12, 1891), none, none, some (.ifCond .ne 6, 3, 0, 0, 0, 0), none, none, some (.goto 54, 3, 0, 0, 0, 0), none, none, some (.aload_n 0, 1, 0, 0, 0, 0), some (.getfield 178, 3, 12, 81, 0, 1299), none],
  [none, some (.iload 6, 2, 0, 0, 0, 0), none, some (.iload 4, 2, 0, 0, 0, 0), none, some (.iload_n 3, 1, 0, 0, 0, 0), some (.if_icmp .gt 13, 3, 0, 0, 0, 0), none, none, some (.aload_n 0, 1, 0, 0, 0, 0), some (.getfield 172, 3, 12, 79, 0, 1297), none, none, some (.iload 6, 2, 0, 0, 0, 0), none, some (.iaload, 1, 0, 0, 0, 0)],
  [some (.goto 19, 3, 0, 0, 0, 0), none, none, some (.iload_n 3, 1, 0, 0, 0, 0), some (.i2l, 1, 0, 0, 0, 0), some (.aload_n 0, 1, 0, 0, 0, 0), some (.getfield 172, 3, 12, 79, 0, 1297), none, none, some (.iload 6, 2, 0, 0, 0, 0), none, some (.iaload, 1, 0, 0, 0, 0), some (.i2l, 1, 0, 0, 0, 0), some (.lmul, 1, 0, 0, 0, 0), some (.iload 4, 2, 0, 0, 0, 0), none],
  [some (.i2l, 1, 0, 0, 0, 0), some (.ldiv, 1, 0, 0, 0, 0), some (.l2i, 1, 0, 0, 0, 0), some (.iastore, 1, 0, 0, 0, 0), some (.iload 5, 2, 0, 0, 0, 0), none, some (.aload_n 0, 1, 0, 0, 0, 0), some (.getfield 178, 3, 12, 81, 0, 1299), none, none, some (.iload 6, 2, 0, 0, 0, 0), none, some (.iaload, 1, 0, 0, 0, 0), some (.isub, 1, 0, 0, 0, 0), some (.istore 5, 2, 0, 0, 0, 0), none],
  [some (.iinc 6 1, 3, 0, 0, 0, 0), none, none, some (.goto (-77), 3, 0, 0, 0, 0), none, none, some (.iload 4, 2, 0, 0, 0, 0), none, some (.iload_n 3, 1, 0, 0, 0, 0), some (.if_icmp .gt 6, 3, 0, 0, 0, 0), none, none, some (.iload 5, 2, 0, 0, 0, 0), none, some (.ireturn, 1, 0, 0, 0, 0), some (.iconst 0, 1, 0, 0, 0, 0)],
  [some (.istore 6, 2, 0, 0, 0, 0), none, some (.iload 6, 2, 0, 0, 0, 0), none, some (.aload_n 0, 1, 0, 0, 0, 0), some (.getfield 532, 3, 12, 9, 0, 1227), none, none, some (.if_icmp .ge 42, 3, 0, 0, 0, 0), none, none, some (.iload 5, 2, 0, 0, 0, 0), none, some (.ifCond .le 37, 3, 0, 0, 0, 0), none, none],
  [some (.aload_n 0, 1, 0, 0, 0, 0), some (.iload 6, 2, 0, 0, 0, 0), none, some (.iload_n 1, 1, 0, 0, 0, 0), some (.iload_n 2, 1, 0, 0, 0, 0), some (.invokevirtual 535, 3, 238, 4, 12, 1891), none, none, some (.ifCond .ne 6, 3, 0, 0, 0, 0), none, none, some (.goto 17, 3, 0, 0, 0, 0), none, none, some (.aload_n 0, 1, 0, 0, 0, 0), some (.getfield 178, 3, 12, 81, 0, 1299)],
  [none, none, some (.iload 6, 2, 0, 0, 0, 0), none, some (.dup2, 1, 0, 0, 0, 0), some (.iaload, 1, 0, 0, 0, 0), some (.iconst 1, 1, 0, 0, 0, 0), some (.iadd, 1, 0, 0, 0, 0), some (.iastore, 1, 0, 0, 0, 0), some (.iinc 5 (-1), 3, 0, 0, 0, 0), none, none, some (.iinc 6 1, 3, 0, 0, 0, 0), none, none, some (.goto (-45), 3, 0, 0, 0, 0)],
  [none, none, some (.iconst (-1), 1, 0, 0, 0, 0), some (.ireturn, 1, 0, 0, 0, 0)]]
/-- 240: PurseTraceModel.paid(I)I -/
noncomputable def am_o240 : List (List (Option am_Op)) := [[some (.iload_n 1, 1, 0, 0, 0, 0), some (.i2l, 1, 0, 0, 0, 0), some (.lconst 0, 1, 0, 0, 0, 0), some (.aload_n 0, 1, 0, 0, 0, 0), some (.getfield 532, 3, 12, 9, 0, 1227), none, none, some (.iconst 1, 1, 0, 0, 0, 0), some (.isub, 1, 0, 0, 0, 0), some (.i2l, 1, 0, 0, 0, 0), some (.invokestatic 185, 3, 134, 3, 1, 1471), none, none, some (.ifCond .ne 5, 3, 0, 0, 0, 0), none, none],
  [some (.iconst (-1), 1, 0, 0, 0, 0), some (.ireturn, 1, 0, 0, 0, 0), some (.aload_n 0, 1, 0, 0, 0, 0), some (.getfield 166, 3, 12, 77, 0, 1295), none, none, some (.iload_n 1, 1, 0, 0, 0, 0), some (.iaload, 1, 0, 0, 0, 0), some (.istore_n 2, 1, 0, 0, 0, 0), some (.aload_n 0, 1, 0, 0, 0, 0), some (.aload_n 0, 1, 0, 0, 0, 0), some (.getfield 197, 3, 12, 2, 0, 1220), none, none, some (.aload_n 0, 1, 0, 0, 0, 0), some (.getfield 197, 3, 12, 2, 0, 1220)],
  [none, none, some (.invokevirtual 455, 3, 206, 3, 12, 1644), none, none, some (.iconst 0, 1, 0, 0, 0, 0), some (.istore_n 3, 1, 0, 0, 0, 0), some (.iconst 0, 1, 0, 0, 0, 0), some (.istore 4, 2, 0, 0, 0, 0), none, some (.iload 4, 2, 0, 0, 0, 0), none, some (.aload_n 0, 1, 0, 0, 0, 0), some (.getfield 189, 3, 12, 4, 0, 1222), none, none],
  [some (.if_icmp .ge 34, 3, 0, 0, 0, 0), none, none, some (.iload_n 3, 1, 0, 0, 0, 0), some (.aload_n 0, 1, 0, 0, 0, 0), some (.getfield 13, 3, 12, 11, 0, 1229), none, none, some (.iload 4, 2, 0, 0, 0, 0), none, some (.iaload, 1, 0, 0, 0, 0), some (.iload_n 2, 1, 0, 0, 0, 0), some (.if_icmp .ne 13, 3, 0, 0, 0, 0), none, none, some (.aload_n 0, 1, 0, 0, 0, 0)],
  [some (.iload 4, 2, 0, 0, 0, 0), none, some (.iload_n 2, 1, 0, 0, 0, 0), some (.invokevirtual 351, 3, 181, 3, 12, 1703), none, none, some (.goto 4, 3, 0, 0, 0, 0), none, none, some (.iconst 0, 1, 0, 0, 0, 0), some (.iadd, 1, 0, 0, 0, 0), some (.istore_n 3, 1, 0, 0, 0, 0), some (.iinc 4 1, 3, 0, 0, 0, 0), none, none, some (.goto (-37), 3, 0, 0, 0, 0)],
  [none, none, some (.iconst 0, 1, 0, 0, 0, 0), some (.istore 4, 2, 0, 0, 0, 0), none, some (.iload 4, 2, 0, 0, 0, 0), none, some (.aload_n 0, 1, 0, 0, 0, 0), some (.getfield 532, 3, 12, 9, 0, 1227), none, none, some (.if_icmp .ge 17, 3, 0, 0, 0, 0), none, none, some (.aload_n 0, 1, 0, 0, 0, 0), some (.getfield 178, 3, 12, 81, 0, 1299)],
  [none, none, some (.iload 4, 2, 0, 0, 0, 0), none, some (.iconst 0, 1, 0, 0, 0, 0), some (.iastore, 1, 0, 0, 0, 0), some (.iinc 4 1, 3, 0, 0, 0, 0), none, none, some (.goto (-20), 3, 0, 0, 0, 0), none, none, some (.iconst 0, 1, 0, 0, 0, 0), some (.istore 4, 2, 0, 0, 0, 0), none, some (.iload 4, 2, 0, 0, 0, 0)],
  [none, some (.iconst 4, 1, 0, 0, 0, 0), some (.if_icmp .ge 22, 3, 0, 0, 0, 0), none, none, some (.iload_n 3, 1, 0, 0, 0, 0), some (.ifCond .lt 18, 3, 0, 0, 0, 0), none, none, some (.aload_n 0, 1, 0, 0, 0, 0), some (.iload_n 2, 1, 0, 0, 0, 0), some (.iload 4, 2, 0, 0, 0, 0), none, some (.iload_n 3, 1, 0, 0, 0, 0), some (.invokevirtual 538, 3, 239, 4, 12, 1887), none],
  [none, some (.istore_n 3, 1, 0, 0, 0, 0), some (.iinc 4 1, 3, 0, 0, 0, 0), none, none, some (.goto (-22), 3, 0, 0, 0, 0), none, none, some (.aload_n 0, 1, 0, 0, 0, 0), some (.getfield 178, 3, 12, 81, 0, 1299), none, none, some (.iload_n 1, 1, 0, 0, 0, 0), some (.iaload, 1, 0, 0, 0, 0), some (.ireturn, 1, 0, 0, 0, 0)]]
/-- 241: PurseTraceModel.numberAt(I)I -/
noncomputable def am_o241 : List (List (Option am_Op)) := [[some (.iconst 0, 1, 0, 0, 0, 0), some (.istore_n 2, 1, 0, 0, 0, 0), some (.iconst 0, 1, 0, 0, 0, 0), some (.istore_n 3, 1, 0, 0, 0, 0), some (.iload_n 3, 1, 0, 0, 0, 0), some (.iconst 4, 1, 0, 0, 0, 0), some (.if_icmp .ge 29, 3, 0, 0, 0, 0), none, none, some (.iload_n 2, 1, 0, 0, 0, 0), some (.bipush 8, 2, 0, 0, 0, 0), none, some (.ishl, 1, 0, 0, 0, 0), some (.aload_n 0, 1, 0, 0, 0, 0), some (.getfield 7, 3, 12, 0, 0, 1218), none],
  [none, some (.iconst 4, 1, 0, 0, 0, 0), some (.iload_n 1, 1, 0, 0, 0, 0), some (.imul, 1, 0, 0, 0, 0), some (.iload_n 3, 1, 0, 0, 0, 0), some (.iadd, 1, 0, 0, 0, 0), some (.baload, 1, 0, 0, 0, 0), some (.sipush 255, 3, 0, 0, 0, 0), none, none, some (.iand, 1, 0, 0, 0, 0), some (.ior, 1, 0, 0, 0, 0), some (.istore_n 2, 1, 0, 0, 0, 0), some (.iinc 3 1, 3, 0, 0, 0, 0), none, none],
  [some (.goto (-28), 3, 0, 0, 0, 0), none, none, some (.iload_n 2, 1, 0, 0, 0, 0), some (.ireturn, 1, 0, 0, 0, 0)]]
/-- 242: PurseTraceModel.check(I)I -/
noncomputable def am_o242 : List (List (Option am_Op)) := [[some (.iload_n 1, 1, 0, 0, 0, 0), some (.ifCond .lt 14, 3, 0, 0, 0, 0), none, none, some (.iload_n 1, 1, 0, 0, 0, 0), some (.aload_n 0, 1, 0, 0, 0, 0), some (.getfield 226, 3, 12, 1, 0, 1219), none, none, some (.bipush 12, 2, 0, 0, 0, 0), none, some (.idiv, 1, 0, 0, 0, 0), some (.if_icmp .le 6, 3, 0, 0, 0, 0), none, none, some (.bipush (-2), 2, 0, 0, 0, 0)],
  [none, some (.ireturn, 1, 0, 0, 0, 0), some (.aload_n 0, 1, 0, 0, 0, 0), some (.iconst 0, 1, 0, 0, 0, 0), some (.putfield 226, 3, 12, 1, 0, 1219), none, none, some (.aload_n 0, 1, 0, 0, 0, 0), some (.aload_n 0, 1, 0, 0, 0, 0), some (.getfield 197, 3, 12, 2, 0, 1220), none, none, some (.aload_n 0, 1, 0, 0, 0, 0), some (.getfield 197, 3, 12, 2, 0, 1220), none, none],
  [some (.invokevirtual 455, 3, 206, 3, 12, 1644), none, none, some (.iconst 0, 1, 0, 0, 0, 0), some (.istore_n 2, 1, 0, 0, 0, 0), some (.iconst 0, 1, 0, 0, 0, 0), some (.istore_n 3, 1, 0, 0, 0, 0), some (.iload_n 3, 1, 0, 0, 0, 0), some (.aload_n 0, 1, 0, 0, 0, 0), some (.getfield 189, 3, 12, 4, 0, 1222), none, none, some (.if_icmp .ge 112, 3, 0, 0, 0, 0), none, none, some (.iconst 0, 1, 0, 0, 0, 0)],
  [some (.istore 4, 2, 0, 0, 0, 0), none, some (.iload 4, 2, 0, 0, 0, 0), none, some (.aload_n 0, 1, 0, 0, 0, 0), some (.getfield 181, 3, 12, 3, 0, 1221), none, none, some (.if_icmp .ge 94, 3, 0, 0, 0, 0), none, none, some (.aload_n 0, 1, 0, 0, 0, 0), some (.iload_n 3, 1, 0, 0, 0, 0), some (.iload 4, 2, 0, 0, 0, 0), none, some (.invokevirtual 351, 3, 181, 3, 12, 1703)],
  [none, none, some (.ifCond .ne 6, 3, 0, 0, 0, 0), none, none, some (.goto 75, 3, 0, 0, 0, 0), none, none, some (.iload_n 2, 1, 0, 0, 0, 0), some (.iload_n 1, 1, 0, 0, 0, 0), some (.if_icmp .ne 7, 3, 0, 0, 0, 0), none, none, some (.iconst 3, 1, 0, 0, 0, 0), some (.iload_n 1, 1, 0, 0, 0, 0), some (.imul, 1, 0, 0, 0, 0)],
  [some (.ireturn, 1, 0, 0, 0, 0), some (.aload_n 0, 1, 0, 0, 0, 0), some (.iconst 3, 1, 0, 0, 0, 0), some (.iload_n 2, 1, 0, 0, 0, 0), some (.imul, 1, 0, 0, 0, 0), some (.invokevirtual 542, 3, 241, 2, 12, 1899), none, none, some (.iload_n 3, 1, 0, 0, 0, 0), some (.if_icmp .eq 7, 3, 0, 0, 0, 0), none, none, some (.iconst 3, 1, 0, 0, 0, 0), some (.iload_n 2, 1, 0, 0, 0, 0), some (.imul, 1, 0, 0, 0, 0), some (.ireturn, 1, 0, 0, 0, 0)],
  [some (.aload_n 0, 1, 0, 0, 0, 0), some (.iconst 3, 1, 0, 0, 0, 0), some (.iload_n 2, 1, 0, 0, 0, 0), some (.imul, 1, 0, 0, 0, 0), some (.iconst 1, 1, 0, 0, 0, 0), some (.iadd, 1, 0, 0, 0, 0), some (.invokevirtual 542, 3, 241, 2, 12, 1899), none, none, some (.iload 4, 2, 0, 0, 0, 0), none, some (.if_icmp .eq 9, 3, 0, 0, 0, 0), none, none, some (.iconst 3, 1, 0, 0, 0, 0), some (.iload_n 2, 1, 0, 0, 0, 0)],
  [some (.imul, 1, 0, 0, 0, 0), some (.iconst 1, 1, 0, 0, 0, 0), some (.iadd, 1, 0, 0, 0, 0), some (.ireturn, 1, 0, 0, 0, 0), some (.aload_n 0, 1, 0, 0, 0, 0), some (.iconst 3, 1, 0, 0, 0, 0), some (.iload_n 2, 1, 0, 0, 0, 0), some (.imul, 1, 0, 0, 0, 0), some (.iconst 2, 1, 0, 0, 0, 0), some (.iadd, 1, 0, 0, 0, 0), some (.invokevirtual 542, 3, 241, 2, 12, 1899), none, none, some (.aload_n 0, 1, 0, 0, 0, 0), some (.iload_n 3, 1, 0, 0, 0, 0), some (.iload 4, 2, 0, 0, 0, 0)],
  [none, some (.invokevirtual 351, 3, 181, 3, 12, 1703), none, none, some (.if_icmp .eq 9, 3, 0, 0, 0, 0), none, none, some (.iconst 3, 1, 0, 0, 0, 0), some (.iload_n 2, 1, 0, 0, 0, 0), some (.imul, 1, 0, 0, 0, 0), some (.iconst 2, 1, 0, 0, 0, 0), some (.iadd, 1, 0, 0, 0, 0), some (.ireturn, 1, 0, 0, 0, 0), some (.iinc 2 1, 3, 0, 0, 0, 0), none, none],
  [some (.iinc 4 1, 3, 0, 0, 0, 0), none, none, some (.goto (-97), 3, 0, 0, 0, 0), none, none, some (.iinc 3 1, 3, 0, 0, 0, 0), none, none, some (.goto (-114), 3, 0, 0, 0, 0), none, none, some (.iload_n 2, 1, 0, 0, 0, 0), some (.iload_n 1, 1, 0, 0, 0, 0), some (.if_icmp .ne 7, 3, 0, 0, 0, 0), none],
  [none, some (.iconst (-1), 1, 0, 0, 0, 0), some (.goto 6, 3, 0, 0, 0, 0), none, none, some (.iconst 3, 1, 0, 0, 0, 0), some (.iload_n 2, 1, 0, 0, 0, 0), some (.imul, 1, 0, 0, 0, 0), some (.ireturn, 1, 0, 0, 0, 0)]]
/-- 243: PurseTraceModel.look(II)I -/
noncomputable def am_o243 : List (List (Option am_Op)) := [[some (.aload_n 0, 1, 0, 0, 0, 0), some (.iload_n 1, 1, 0, 0, 0, 0), some (.invokevirtual 223, 3, 148, 2, 12, 1521), none, none, some (.ifCond .ne 5, 3, 0, 0, 0, 0), none, none, some (.iconst (-1), 1, 0, 0, 0, 0), some (.ireturn, 1, 0, 0, 0, 0), some (.iload_n 2, 1, 0, 0, 0, 0), some (.tableswitch 131 0 9 #[53, 60, 67, 74, 81, 88, 95, 102, 109, 116], 53, 0, 0, 0, 0), none, none, none, none],
  [none, none, none, none, none, none, none, none, none, none, none, none, none, none, none, none],
  [none, none, none, none, none, none, none, none, none, none, none, none, none, none, none, none],
  [none, none, none, none, none, none, none, none, none, none, none, none, none, none, none, none],
  [some (.aload_n 0, 1, 0, 0, 0, 0), some (.getfield 20, 3, 12, 13, 0, 1231), none, none, some (.iload_n 1, 1, 0, 0, 0, 0), some (.iaload, 1, 0, 0, 0, 0), some (.ireturn, 1, 0, 0, 0, 0), some (.aload_n 0, 1, 0, 0, 0, 0), some (.getfield 23, 3, 12, 14, 0, 1232), none, none, some (.iload_n 1, 1, 0, 0, 0, 0), some (.iaload, 1, 0, 0, 0, 0), some (.ireturn, 1, 0, 0, 0, 0), some (.aload_n 0, 1, 0, 0, 0, 0), some (.getfield 26, 3, 12, 15, 0, 1233)],
  [none, none, some (.iload_n 1, 1, 0, 0, 0, 0), some (.iaload, 1, 0, 0, 0, 0), some (.ireturn, 1, 0, 0, 0, 0), some (.aload_n 0, 1, 0, 0, 0, 0), some (.getfield 29, 3, 12, 16, 0, 1234), none, none, some (.iload_n 1, 1, 0, 0, 0, 0), some (.iaload, 1, 0, 0, 0, 0), some (.ireturn, 1, 0, 0, 0, 0), some (.aload_n 0, 1, 0, 0, 0, 0), some (.getfield 32, 3, 12, 17, 0, 1235), none, none],
  [some (.iload_n 1, 1, 0, 0, 0, 0), some (.iaload, 1, 0, 0, 0, 0), some (.ireturn, 1, 0, 0, 0, 0), some (.aload_n 0, 1, 0, 0, 0, 0), some (.getfield 35, 3, 12, 18, 0, 1236), none, none, some (.iload_n 1, 1, 0, 0, 0, 0), some (.iaload, 1, 0, 0, 0, 0), some (.ireturn, 1, 0, 0, 0, 0), some (.aload_n 0, 1, 0, 0, 0, 0), some (.getfield 38, 3, 12, 19, 0, 1237), none, none, some (.iload_n 1, 1, 0, 0, 0, 0), some (.iaload, 1, 0, 0, 0, 0)],
  [some (.ireturn, 1, 0, 0, 0, 0), some (.aload_n 0, 1, 0, 0, 0, 0), some (.getfield 41, 3, 12, 20, 0, 1238), none, none, some (.iload_n 1, 1, 0, 0, 0, 0), some (.iaload, 1, 0, 0, 0, 0), some (.ireturn, 1, 0, 0, 0, 0), some (.aload_n 0, 1, 0, 0, 0, 0), some (.getfield 44, 3, 12, 21, 0, 1239), none, none, some (.iload_n 1, 1, 0, 0, 0, 0), some (.iaload, 1, 0, 0, 0, 0), some (.ireturn, 1, 0, 0, 0, 0), some (.aload_n 0, 1, 0, 0, 0, 0)],
  [some (.getfield 47, 3, 12, 22, 0, 1240), none, none, some (.iload_n 1, 1, 0, 0, 0, 0), some (.baload, 1, 0, 0, 0, 0), some (.ifCond .eq 7, 3, 0, 0, 0, 0), none, none, some (.iconst 1, 1, 0, 0, 0, 0), some (.goto 4, 3, 0, 0, 0, 0), none, none, some (.iconst 0, 1, 0, 0, 0, 0), some (.ireturn, 1, 0, 0, 0, 0), some (.iconst (-1), 1, 0, 0, 0, 0), some (.ireturn, 1, 0, 0, 0, 0)]]
/-- 244: PurseTraceModel.count(I)I -/
noncomputable def am_o244 : List (List (Option am_Op)) := [[some (.iload_n 1, 1, 0, 0, 0, 0), some (.i2l, 1, 0, 0, 0, 0), some (.ldc2_w 545, 3, 0, 0, 20, 1911), none, none, some (.bipush 19, 2, 0, 0, 0, 0), none, some (.aload_n 0, 1, 0, 0, 0, 0), some (.getfield 246, 3, 12, 7, 0, 1225), none, none, some (.iadd, 1, 0, 0, 0, 0), some (.i2l, 1, 0, 0, 0, 0), some (.invokestatic 185, 3, 134, 3, 1, 1471), none, none],
  [some (.ifCond .eq 13, 3, 0, 0, 0, 0), none, none, some (.aload_n 0, 1, 0, 0, 0, 0), some (.getfield 63, 3, 12, 27, 0, 1245), none, none, some (.iload_n 1, 1, 0, 0, 0, 0), some (.bipush 20, 2, 0, 0, 0, 0), none, some (.isub, 1, 0, 0, 0, 0), some (.iaload, 1, 0, 0, 0, 0), some (.ireturn, 1, 0, 0, 0, 0), some (.iload_n 1, 1, 0, 0, 0, 0), some (.tableswitch 113 0 10 #[58, 63, 68, 73, 78, 83, 88, 93, 98, 103, 108], 58, 0, 0, 0, 0), none],
  [none, none, none, none, none, none, none, none, none, none, none, none, none, none, none, none],
  [none, none, none, none, none, none, none, none, none, none, none, none, none, none, none, none],
  [none, none, none, none, none, none, none, none, none, none, none, none, none, none, none, none],
  [none, none, none, none, none, none, none, none, some (.aload_n 0, 1, 0, 0, 0, 0), some (.getfield 197, 3, 12, 2, 0, 1220), none, none, some (.ireturn, 1, 0, 0, 0, 0), some (.aload_n 0, 1, 0, 0, 0, 0), some (.getfield 181, 3, 12, 3, 0, 1221), none],
  [none, some (.ireturn, 1, 0, 0, 0, 0), some (.aload_n 0, 1, 0, 0, 0, 0), some (.getfield 189, 3, 12, 4, 0, 1222), none, none, some (.ireturn, 1, 0, 0, 0, 0), some (.aload_n 0, 1, 0, 0, 0, 0), some (.getfield 192, 3, 12, 5, 0, 1223), none, none, some (.ireturn, 1, 0, 0, 0, 0), some (.aload_n 0, 1, 0, 0, 0, 0), some (.getfield 206, 3, 12, 6, 0, 1224), none, none],
  [some (.ireturn, 1, 0, 0, 0, 0), some (.aload_n 0, 1, 0, 0, 0, 0), some (.getfield 246, 3, 12, 7, 0, 1225), none, none, some (.ireturn, 1, 0, 0, 0, 0), some (.aload_n 0, 1, 0, 0, 0, 0), some (.getfield 348, 3, 12, 8, 0, 1226), none, none, some (.ireturn, 1, 0, 0, 0, 0), some (.aload_n 0, 1, 0, 0, 0, 0), some (.getfield 532, 3, 12, 9, 0, 1227), none, none, some (.ireturn, 1, 0, 0, 0, 0)],
  [some (.aload_n 0, 1, 0, 0, 0, 0), some (.getfield 226, 3, 12, 1, 0, 1219), none, none, some (.ireturn, 1, 0, 0, 0, 0), some (.aload_n 0, 1, 0, 0, 0, 0), some (.invokevirtual 492, 3, 223, 1, 12, 1825), none, none, some (.ireturn, 1, 0, 0, 0, 0), some (.aload_n 0, 1, 0, 0, 0, 0), some (.getfield 495, 3, 12, 10, 0, 1228), none, none, some (.ireturn, 1, 0, 0, 0, 0), some (.iconst (-1), 1, 0, 0, 0, 0)],
  [some (.ireturn, 1, 0, 0, 0, 0)]]
/-- 245: java/util/Arrays.fill([II)V -/
noncomputable def am_o245 : List (List (Option am_Op)) := [[some (.iconst 0, 1, 0, 0, 0, 0), some (.istore_n 2, 1, 0, 0, 0, 0), some (.aload_n 0, 1, 0, 0, 0, 0), some (.arraylength, 1, 0, 0, 0, 0), some (.istore_n 3, 1, 0, 0, 0, 0), some (.iload_n 2, 1, 0, 0, 0, 0), some (.iload_n 3, 1, 0, 0, 0, 0), some (.if_icmp .ge 13, 3, 0, 0, 0, 0), none, none, some (.aload_n 0, 1, 0, 0, 0, 0), some (.iload_n 2, 1, 0, 0, 0, 0), some (.iload_n 1, 1, 0, 0, 0, 0), some (.iastore, 1, 0, 0, 0, 0), some (.iinc 2 1, 3, 0, 0, 0, 0), none],
  [none, some (.goto (-12), 3, 0, 0, 0, 0), none, none, some (.return_, 1, 0, 0, 0, 0)]]
/-- 246: java/lang/Math.max(II)I -/
noncomputable def am_o246 : List (List (Option am_Op)) := [[some (.iload_n 0, 1, 0, 0, 0, 0), some (.iload_n 1, 1, 0, 0, 0, 0), some (.if_icmp .lt 7, 3, 0, 0, 0, 0), none, none, some (.iload_n 0, 1, 0, 0, 0, 0), some (.goto 4, 3, 0, 0, 0, 0), none, none, some (.iload_n 1, 1, 0, 0, 0, 0), some (.ireturn, 1, 0, 0, 0, 0)]]
/-- 247: java/lang/Math.min(II)I -/
noncomputable def am_o247 : List (List (Option am_Op)) := [[some (.iload_n 0, 1, 0, 0, 0, 0), some (.iload_n 1, 1, 0, 0, 0, 0), some (.if_icmp .gt 7, 3, 0, 0, 0, 0), none, none, some (.iload_n 0, 1, 0, 0, 0, 0), some (.goto 4, 3, 0, 0, 0, 0), none, none, some (.iload_n 1, 1, 0, 0, 0, 0), some (.ireturn, 1, 0, 0, 0, 0)]]
noncomputable def am_oL : List (List (List (List (Option am_Op)))) := [[am_o0, am_o1, am_o2, am_o3, am_o4, am_o5, am_o6, am_o7, am_o8, am_o9, am_o10, am_o11, am_o12, am_o13, am_o14, am_o15],
  [am_o16, am_o17, am_o18, am_o19, am_o20, am_o21, am_o22, am_o23, am_o24, am_o25, am_o26, am_o27, am_o28, am_o29, am_o30, am_o31],
  [am_o32, am_o33, am_o34, am_o35, am_o36, am_o37, am_o38, am_o39, am_o40, am_o41, am_o42, am_o43, am_o44, am_o45, am_o46, am_o47],
  [am_o48, am_o49, am_o50, am_o51, am_o52, am_o53, am_o54, am_o55, am_o56, am_o57, am_o58, am_o59, am_o60, am_o61, am_o62, am_o63],
  [am_o64, am_o65, am_o66, am_o67, am_o68, am_o69, am_o70, am_o71, am_o72, am_o73, am_o74, am_o75, am_o76, am_o77, am_o78, am_o79],
  [am_o80, am_o81, am_o82, am_o83, am_o84, am_o85, am_o86, am_o87, am_o88, am_o89, am_o90, am_o91, am_o92, am_o93, am_o94, am_o95],
  [am_o96, am_o97, am_o98, am_o99, am_o100, am_o101, am_o102, am_o103, am_o104, am_o105, am_o106, am_o107, am_o108, am_o109, am_o110, am_o111],
  [am_o112, am_o113, am_o114, am_o115, am_o116, am_o117, am_o118, am_o119, am_o120, am_o121, am_o122, am_o123, am_o124, am_o125, am_o126, am_o127],
  [am_o128, am_o129, am_o130, am_o131, am_o132, am_o133, am_o134, am_o135, am_o136, am_o137, am_o138, am_o139, am_o140, am_o141, am_o142, am_o143],
  [am_o144, am_o145, am_o146, am_o147, am_o148, am_o149, am_o150, am_o151, am_o152, am_o153, am_o154, am_o155, am_o156, am_o157, am_o158, am_o159],
  [am_o160, am_o161, am_o162, am_o163, am_o164, am_o165, am_o166, am_o167, am_o168, am_o169, am_o170, am_o171, am_o172, am_o173, am_o174, am_o175],
  [am_o176, am_o177, am_o178, am_o179, am_o180, am_o181, am_o182, am_o183, am_o184, am_o185, am_o186, am_o187, am_o188, am_o189, am_o190, am_o191],
  [am_o192, am_o193, am_o194, am_o195, am_o196, am_o197, am_o198, am_o199, am_o200, am_o201, am_o202, am_o203, am_o204, am_o205, am_o206, am_o207],
  [am_o208, am_o209, am_o210, am_o211, am_o212, am_o213, am_o214, am_o215, am_o216, am_o217, am_o218, am_o219, am_o220, am_o221, am_o222, am_o223],
  [am_o224, am_o225, am_o226, am_o227, am_o228, am_o229, am_o230, am_o231, am_o232, am_o233, am_o234, am_o235, am_o236, am_o237, am_o238, am_o239],
  [am_o240, am_o241, am_o242, am_o243, am_o244, am_o245, am_o246, am_o247]]
noncomputable def am_op (m pc : Nat) : Option am_Op := ((((am_oL.getD (m / 16) []).getD (m % 16) []).getD (pc / 16) []).getD (pc % 16) none)
/-- a method: words of its locals, arguments, answer (0 none, 1 int, 2 boolean, 3 long) -/
noncomputable def am_mtL : List (List (Nat × Nat × Nat)) := [[(4, 1, 2), (4, 3, 2), (3, 3, 2), (3, 3, 2), (3, 1, 1), (4, 2, 0), (2, 2, 2), (6, 3, 0), (4, 2, 0), (4, 2, 0), (3, 1, 2), (3, 2, 1), (4, 4, 1), (6, 3, 1), (5, 3, 1), (5, 5, 2)],
  [(6, 5, 2), (6, 6, 0), (5, 5, 1), (3, 2, 0), (3, 3, 2), (3, 3, 2), (2, 2, 2), (7, 5, 2), (2, 2, 0), (3, 2, 0), (3, 1, 2), (3, 1, 0), (5, 1, 2), (4, 3, 0), (3, 3, 1), (5, 3, 0)],
  [(3, 3, 0), (5, 3, 2), (1, 1, 0), (1, 1, 0), (4, 3, 0), (5, 2, 0), (6, 2, 0), (4, 2, 0), (7, 2, 0), (3, 2, 0), (3, 2, 0), (8, 4, 0), (6, 4, 0), (4, 2, 1), (4, 2, 1), (5, 5, 1)],
  [(3, 2, 1), (10, 5, 1), (5, 5, 2), (4, 3, 0), (7, 2, 2), (5, 3, 3), (5, 2, 1), (5, 3, 0), (3, 2, 0), (3, 2, 0), (4, 2, 0), (3, 2, 0), (3, 2, 0), (3, 2, 0), (4, 2, 1), (2, 2, 2)],
  [(2, 2, 0), (3, 3, 0), (1, 1, 1), (3, 3, 1), (3, 3, 0), (1, 1, 2), (1, 1, 1), (1, 1, 1), (1, 1, 1), (1, 1, 0), (2, 2, 0), (1, 1, 0), (5, 4, 0), (4, 4, 0), (6, 5, 0), (5, 3, 0)],
  [(6, 4, 1), (6, 4, 1), (4, 3, 1), (3, 1, 0), (4, 2, 1), (4, 3, 1), (5, 3, 1), (5, 3, 1), (1, 1, 2), (3, 2, 0), (2, 2, 1), (3, 2, 1), (2, 2, 2), (1, 1, 1), (3, 3, 1), (1, 1, 1)],
  [(9, 8, 1), (8, 8, 1), (8, 8, 1), (2, 2, 2), (6, 6, 1), (6, 5, 1), (4, 4, 2), (5, 5, 1), (5, 5, 1), (5, 5, 1), (5, 4, 1), (4, 4, 1), (3, 3, 1), (2, 2, 1), (5, 5, 1), (5, 5, 1)],
  [(3, 3, 2), (5, 5, 2), (2, 2, 1), (3, 3, 1), (3, 3, 1), (5, 5, 1), (2, 2, 1), (3, 2, 1), (3, 3, 1), (2, 2, 1), (7, 2, 1), (5, 5, 1), (5, 4, 2), (2, 2, 2), (2, 2, 2), (2, 2, 2)],
  [(2, 2, 2), (2, 2, 2), (1, 1, 2), (1, 1, 2), (1, 1, 2), (7, 3, 0), (6, 3, 2), (2, 2, 2), (2, 2, 2), (2, 2, 2), (2, 2, 2), (1, 1, 2), (2, 2, 2), (1, 1, 1), (3, 3, 1), (1, 1, 1)],
  [(9, 9, 1), (8, 8, 1), (8, 8, 1), (8, 8, 1), (2, 2, 2), (2, 2, 2), (3, 2, 0), (6, 6, 1), (1, 1, 1), (3, 3, 0), (1, 1, 2), (3, 3, 0), (1, 1, 1), (2, 2, 0), (1, 1, 0), (1, 1, 2)],
  [(4, 2, 1), (2, 2, 0), (1, 1, 2), (1, 1, 2), (1, 1, 2), (1, 1, 2), (2, 2, 0), (2, 2, 0), (1, 1, 0), (1, 1, 0), (2, 1, 2), (2, 1, 0), (2, 1, 2), (2, 1, 0), (3, 1, 0), (6, 5, 1)],
  [(4, 4, 2), (6, 5, 2), (2, 1, 0), (5, 4, 0), (4, 2, 1), (5, 3, 1), (4, 2, 1), (3, 3, 0), (4, 3, 1), (7, 5, 1), (7, 3, 0), (4, 2, 0), (6, 4, 0), (4, 3, 1), (5, 3, 3), (4, 3, 0)],
  [(6, 3, 2), (5, 5, 2), (7, 5, 1), (4, 3, 1), (8, 4, 0), (3, 2, 0), (3, 2, 0), (7, 4, 0), (9, 3, 0), (5, 2, 0), (6, 3, 2), (3, 3, 2), (3, 3, 2), (5, 3, 0), (5, 3, 0), (3, 3, 2)],
  [(5, 5, 1), (7, 5, 1), (5, 5, 1), (4, 4, 1), (5, 3, 2), (2, 2, 2), (6, 4, 1), (3, 3, 1), (4, 2, 1), (4, 2, 2), (8, 5, 0), (3, 2, 2), (8, 5, 1), (1, 1, 2), (5, 5, 1), (3, 1, 1)],
  [(3, 3, 2), (6, 5, 2), (5, 5, 2), (4, 2, 1), (6, 2, 2), (2, 1, 0), (4, 2, 1), (4, 2, 1), (5, 4, 2), (5, 2, 2), (2, 2, 1), (3, 3, 1), (4, 3, 1), (5, 5, 1), (4, 4, 2), (7, 4, 1)],
  [(5, 2, 1), (4, 2, 1), (5, 2, 1), (3, 3, 1), (2, 2, 1), (4, 2, 0), (2, 2, 1), (2, 2, 1)]]
noncomputable def am_mt (m : Nat) : Nat × Nat × Nat := (am_mtL.getD (m / 16) []).getD (m % 16) (0, 0, 0)
end
section
/-! the abstract machine: values, stores, one step -/
abbrev AV : Type := Int ⊕ Int ⊕ Nat ⊕ Unit
abbrev vI (x : Int) : AV := .inl x
abbrev vL (x : Int) : AV := .inr (.inl x)
abbrev vR (a : Nat) : AV := .inr (.inr (.inl a))
abbrev vU : AV := .inr (.inr (.inr ()))
abbrev AS : Type := Nat → Int → Int
def w32 (x : Int) : Int := (x + 2147483648) % 4294967296 - 2147483648
def w64 (x : Int) : Int := (x + 9223372036854775808) % 18446744073709551616 - 9223372036854775808
def w8 (x : Int) : Int := ((Int32.ofInt x).toInt8.toInt32).toInt
def bAnd (x y : Int) : Int := (Int32.ofInt x &&& Int32.ofInt y).toInt
def bOr (x y : Int) : Int := (Int32.ofInt x ||| Int32.ofInt y).toInt
def bShl (x y : Int) : Int := (Int32.ofInt x <<< (Int32.ofInt y &&& 31)).toInt
def bShr (x y : Int) : Int := (Int32.ofInt x >>> (Int32.ofInt y &&& 31)).toInt
def lAnd (x y : Int) : Int := (Int64.ofInt x &&& Int64.ofInt y).toInt
def lOr (x y : Int) : Int := (Int64.ofInt x ||| Int64.ofInt y).toInt
def lShl (x y : Int) : Int := (Int64.ofInt x <<< ((Int32.ofInt y).toInt64 &&& 63)).toInt
def lShr (x y : Int) : Int := (Int64.ofInt x >>> ((Int32.ofInt y).toInt64 &&& 63)).toInt
def lCmp (x y : Int) : Int := if x < y then -1 else if x = y then 0 else 1
def am_up (σ : AS) (c : Nat) (i v : Int) : AS := fun c' i' => match Nat.beq c' c with
  | true => if i' = i then v else σ c' i'
  | false => σ c' i'
def am_cpy (σ : AS) (a0 a1 : Nat) (sp dp n : Int) : AS := fun c i => match Nat.beq c a1 with
  | true => if dp ≤ i ∧ i < dp + n then σ a0 (sp + (i - dp)) else σ c i
  | false => σ c i
def am_b (x : Int) : Prop := x = 0 ∨ x = 1
/-- what a step does: goes on; goes on if something holds; two ways; many ways; a call; an end -/
abbrev AC : Type := Nat × List AV × List AV × AS
abbrev AA : Type := AC ⊕ (Prop × AC) ⊕ (Prop × AC × AC) ⊕ List (Prop × AC) ⊕ (Nat × List AV × AC) ⊕ (Option AV × AS) ⊕ (Prop × Option AV × AS)
abbrev aN (pc : Nat) (ls st : List AV) (σ : AS) : AA := .inl (pc, ls, st, σ)
abbrev aC (h : Prop) (pc : Nat) (ls st : List AV) (σ : AS) : AA := .inr (.inl (h, pc, ls, st, σ))
abbrev aB (h : Prop) (pc1 pc2 : Nat) (ls st : List AV) (σ : AS) : AA := .inr (.inr (.inl (h, (pc1, ls, st, σ), (pc2, ls, st, σ))))
abbrev aW (l : List (Prop × AC)) : AA := .inr (.inr (.inr (.inl l)))
abbrev aF (m : Nat) (as : List AV) (pc : Nat) (ls st : List AV) (σ : AS) : AA := .inr (.inr (.inr (.inr (.inl (m, as, pc, ls, st, σ)))))
abbrev aR (v : Option AV) (σ : AS) : AA := .inr (.inr (.inr (.inr (.inr (.inl (v, σ))))))
abbrev aQ (h : Prop) (v : Option AV) (σ : AS) : AA := .inr (.inr (.inr (.inr (.inr (.inr (h, v, σ))))))
abbrev aX : AA := aQ False none (fun _ _ => 0)
def am_isL (v : AV) : Bool := match v with
  | .inr (.inl _) => true
  | _ => false
def am_set (ls : List AV) (i : Nat) (v : AV) : List AV := match i with
  | 0 => ls.set 0 v
  | j + 1 => match am_isL (ls.getD j vU) with
    | true => (ls.set j vU).set (j + 1) v
    | false => ls.set (j + 1) v
def am_tgt (pc : Nat) (off : Int) : Nat := ((pc : Int) + off).toNat
def am_ld (ls st : List AV) (σ : AS) (pc i t : Nat) : AA := match t, ls.getD i vU with
  | 0, .inl x => aN pc ls (vI x :: st) σ
  | 1, .inr (.inl x) => aN pc ls (vL x :: st) σ
  | 2, .inr (.inr (.inl a)) => aN pc ls (vR a :: st) σ
  | _, _ => aX
def am_sto (ls st : List AV) (σ : AS) (pc i t : Nat) : AA := match t, Nat.blt i ls.length, st with
  | 0, true, .inl x :: st => aN pc (am_set ls i (vI x)) st σ
  | 1, _, .inr (.inl x) :: st => (match Nat.blt (i + 1) ls.length with
    | true => aN pc ((am_set ls i (vL x)).set (i + 1) vU) st σ
    | false => aX)
  | 2, true, .inr (.inr (.inl a)) :: st => aN pc (am_set ls i (vR a)) st σ
  | _, _, _ => aX
def am_tab (ls st : List AV) (σ : AS) (pc : Nat) (x : Int) : Int → List Int → List (Prop × AC)
  | _, [] => []
  | lo, off :: r => (x = lo, am_tgt pc off, ls, st, σ) :: am_tab ls st σ pc x (lo + 1) r
def am_lkp (ls st : List AV) (σ : AS) (pc : Nat) (x : Int) : List (Int × Int) → List (Prop × AC)
  | [] => []
  | (k, off) :: r => (x = k, am_tgt pc off, ls, st, σ) :: am_lkp ls st σ pc x r
def am_ne (x : Int) : List (Int × Int) → Prop
  | [] => True
  | (k, _) :: r => ¬ x = k ∧ am_ne x r
def am_i2 (st : List AV) (f : Int → Int → List AV → AA) : AA := match st with
  | .inl y :: .inl x :: st => f x y st
  | _ => aX
def am_l2 (st : List AV) (f : Int → Int → List AV → AA) : AA := match st with
  | .inr (.inl y) :: .inr (.inl x) :: st => f x y st
  | _ => aX
def am_i1 (st : List AV) (f : Int → List AV → AA) : AA := match st with
  | .inl x :: st => f x st
  | _ => aX
def am_br (cd : ClassFile.Cond) (x y : Int) (t f : Nat) (ls st : List AV) (σ : AS) : AA := match cd with
  | .eq => aB (x = y) t f ls st σ
  | .ne => aB (x = y) f t ls st σ
  | .lt => aB (x < y) t f ls st σ
  | .ge => aB (y ≤ x) t f ls st σ
  | .gt => aB (y < x) t f ls st σ
  | .le => aB (x ≤ y) t f ls st σ
noncomputable def am_fld (Ln : Int) (a ci k : Nat) : Nat := match am_kd Ln a with
  | (0, _, c) => (match Nat.beq c ci with
    | true => am_ft ci k
    | false => 9)
  | _ => 9
def am_exp : List AV → List AV
  | [] => []
  | v :: r => (match am_isL v with
    | true => v :: vU :: am_exp r
    | false => v :: am_exp r)
/-- the receiver of a call is an object of that class -/
noncomputable def am_rcv (Ln : Int) (v : Bool) (ci : Int) (as : List AV) : Bool := match v with
  | false => true
  | true => (match as with
    | .inr (.inr (.inl a)) :: _ => (match am_kd Ln a with
      | (0, _, k) => Nat.beq k ci.toNat
      | _ => false)
    | _ => false)
noncomputable def am_inv (Ln : Int) (v : Bool) (ci : Int) (ls st : List AV) (σ : AS) (pc m n : Nat) : AA := match Nat.ble n st.length, Nat.ble (st.drop n).length 4, Nat.ble (am_exp (st.take n).reverse).length (am_mt m).1, am_rcv Ln v ci (st.take n).reverse with
  | true, true, true, true => aF m (st.take n).reverse pc ls (st.drop n) σ
  | _, _, _, _ => aX
noncomputable def am_act (Ln : Int) (op : am_Op) (pc : Nat) (ls st : List AV) (σ : AS) : AA := match op with
  | (ins, len, x, y, c, _) => match ins with
    | .iconst n => aN (pc + len) ls (vI n :: st) σ
    | .bipush n => aN (pc + len) ls (vI n :: st) σ
    | .sipush n => aN (pc + len) ls (vI n :: st) σ
    | .ldc _ => aN (pc + len) ls (vI c :: st) σ
    | .ldc_w _ => aN (pc + len) ls (vI c :: st) σ
    | .lconst n => aN (pc + len) ls (vL ((n : Nat) : Int) :: st) σ
    | .ldc2_w _ => aN (pc + len) ls (vL c :: st) σ
    | .iload i => am_ld ls st σ (pc + len) i 0
    | .iload_n i => am_ld ls st σ (pc + len) i 0
    | .lload i => am_ld ls st σ (pc + len) i 1
    | .lload_n i => am_ld ls st σ (pc + len) i 1
    | .aload i => am_ld ls st σ (pc + len) i 2
    | .aload_n i => am_ld ls st σ (pc + len) i 2
    | .istore i => am_sto ls st σ (pc + len) i 0
    | .istore_n i => am_sto ls st σ (pc + len) i 0
    | .lstore i => am_sto ls st σ (pc + len) i 1
    | .lstore_n i => am_sto ls st σ (pc + len) i 1
    | .astore i => am_sto ls st σ (pc + len) i 2
    | .astore_n i => am_sto ls st σ (pc + len) i 2
    | .iinc i n => (match Nat.blt i ls.length, ls.getD i vU with
      | true, .inl v => aN (pc + len) (am_set ls i (vI (w32 (v + n)))) st σ
      | _, _ => aX)
    | .iadd => am_i2 st fun a b st => aN (pc + len) ls (vI (w32 (a + b)) :: st) σ
    | .isub => am_i2 st fun a b st => aN (pc + len) ls (vI (w32 (a - b)) :: st) σ
    | .imul => am_i2 st fun a b st => aN (pc + len) ls (vI (w32 (a * b)) :: st) σ
    | .idiv => am_i2 st fun a b st => aC (¬ b = 0) (pc + len) ls (vI (w32 (Int.tdiv a b)) :: st) σ
    | .irem => am_i2 st fun a b st => aC (¬ b = 0) (pc + len) ls (vI (Int.tmod a b) :: st) σ
    | .iand => am_i2 st fun a b st => aN (pc + len) ls (vI (bAnd a b) :: st) σ
    | .ior => am_i2 st fun a b st => aN (pc + len) ls (vI (bOr a b) :: st) σ
    | .ishl => am_i2 st fun a b st => aN (pc + len) ls (vI (bShl a b) :: st) σ
    | .ishr => am_i2 st fun a b st => aN (pc + len) ls (vI (bShr a b) :: st) σ
    | .ladd => am_l2 st fun a b st => aN (pc + len) ls (vL (w64 (a + b)) :: st) σ
    | .lsub => am_l2 st fun a b st => aN (pc + len) ls (vL (w64 (a - b)) :: st) σ
    | .lmul => am_l2 st fun a b st => aN (pc + len) ls (vL (w64 (a * b)) :: st) σ
    | .ldiv => am_l2 st fun a b st => aC (¬ b = 0) (pc + len) ls (vL (w64 (Int.tdiv a b)) :: st) σ
    | .lrem => am_l2 st fun a b st => aC (¬ b = 0) (pc + len) ls (vL (Int.tmod a b) :: st) σ
    | .land => am_l2 st fun a b st => aN (pc + len) ls (vL (lAnd a b) :: st) σ
    | .lor => am_l2 st fun a b st => aN (pc + len) ls (vL (lOr a b) :: st) σ
    | .lshl => (match st with
      | .inl b :: .inr (.inl a) :: st => aN (pc + len) ls (vL (lShl a b) :: st) σ
      | _ => aX)
    | .lshr => (match st with
      | .inl b :: .inr (.inl a) :: st => aN (pc + len) ls (vL (lShr a b) :: st) σ
      | _ => aX)
    | .lcmp => am_l2 st fun a b st => aN (pc + len) ls (vI (lCmp a b) :: st) σ
    | .i2l => am_i1 st fun a st => aN (pc + len) ls (vL a :: st) σ
    | .l2i => (match st with
      | .inr (.inl a) :: st => aN (pc + len) ls (vI (w32 a) :: st) σ
      | _ => aX)
    | .i2b => am_i1 st fun a st => aN (pc + len) ls (vI (w8 a) :: st) σ
    | .dup => (match st with
      | .inl a :: st => aN (pc + len) ls (vI a :: vI a :: st) σ
      | .inr (.inr (.inl a)) :: st => aN (pc + len) ls (vR a :: vR a :: st) σ
      | _ => aX)
    | .dup2 => (match st with
      | .inl b :: .inr (.inr (.inl a)) :: st => aN (pc + len) ls (vI b :: vR a :: vI b :: vR a :: st) σ
      | _ => aX)
    | .pop => (match st with
      | .inl _ :: st => aN (pc + len) ls st σ
      | .inr (.inr (.inl _)) :: st => aN (pc + len) ls st σ
      | _ => aX)
    | .goto off => aN (am_tgt pc off) ls st σ
    | .ifCond cd off => am_i1 st fun a st => am_br cd a 0 (am_tgt pc off) (pc + len) ls st σ
    | .if_icmp cd off => am_i2 st fun a b st => am_br cd a b (am_tgt pc off) (pc + len) ls st σ
    | .tableswitch d lo hi offs => am_i1 st fun a st => aW (am_tab ls st σ pc a lo offs.toList ++ [(a < lo ∨ hi < a, am_tgt pc d, ls, st, σ)])
    | .lookupswitch d ps => am_i1 st fun a st => aW (am_lkp ls st σ pc a ps.toList ++ [(am_ne a ps.toList, am_tgt pc d, ls, st, σ)])
    | .getfield _ => (match st with
      | .inr (.inr (.inl a)) :: st => (match am_fld Ln a x y with
        | 0 => aN (pc + len) ls (vI (σ a y) :: st) σ
        | 1 => aN (pc + len) ls (vI (σ a y) :: st) σ
        | 2 => aN (pc + len) ls (vR (am_ref a y) :: st) σ
        | _ => aX)
      | _ => aX)
    | .putfield _ => (match st with
      | .inl v :: .inr (.inr (.inl a)) :: st => (match am_fld Ln a x y with
        | 0 => aN (pc + len) ls st (am_up σ a y v)
        | 1 => aC (am_b v) (pc + len) ls st (am_up σ a y v)
        | _ => aX)
      | _ => aX)
    | .arraylength => (match st with
      | .inr (.inr (.inl a)) :: st => (match am_kd Ln a with
        | (0, _, _) => aX
        | (9, _, _) => aX
        | (_, n, _) => aN (pc + len) ls (vI n :: st) σ)
      | _ => aX)
    | .iaload => (match st with
      | .inl i :: .inr (.inr (.inl a)) :: st => (match am_kd Ln a with
        | (1, n, _) => aC (0 ≤ i ∧ i < n) (pc + len) ls (vI (σ a i) :: st) σ
        | (5, n, _) => aC (0 ≤ i ∧ i < n) (pc + len) ls (vI (σ a i) :: st) σ
        | _ => aX)
      | _ => aX)
    | .laload => (match st with
      | .inl i :: .inr (.inr (.inl a)) :: st => (match am_kd Ln a with
        | (2, n, _) => aC (0 ≤ i ∧ i < n) (pc + len) ls (vL (σ a i) :: st) σ
        | _ => aX)
      | _ => aX)
    | .baload => (match st with
      | .inl i :: .inr (.inr (.inl a)) :: st => (match am_kd Ln a with
        | (3, n, _) => aC (0 ≤ i ∧ i < n) (pc + len) ls (vI (σ a i) :: st) σ
        | (4, n, _) => aC (0 ≤ i ∧ i < n) (pc + len) ls (vI (σ a i) :: st) σ
        | _ => aX)
      | _ => aX)
    | .iastore => (match st with
      | .inl v :: .inl i :: .inr (.inr (.inl a)) :: st => (match am_kd Ln a with
        | (1, n, _) => aC (0 ≤ i ∧ i < n) (pc + len) ls st (am_up σ a i v)
        | _ => aX)
      | _ => aX)
    | .lastore => (match st with
      | .inr (.inl v) :: .inl i :: .inr (.inr (.inl a)) :: st => (match am_kd Ln a with
        | (2, n, _) => aC (0 ≤ i ∧ i < n) (pc + len) ls st (am_up σ a i v)
        | _ => aX)
      | _ => aX)
    | .bastore => (match st with
      | .inl v :: .inl i :: .inr (.inr (.inl a)) :: st => (match am_kd Ln a with
        | (3, n, _) => aC (0 ≤ i ∧ i < n) (pc + len) ls st (am_up σ a i (w8 v))
        | (4, n, _) => aC (0 ≤ i ∧ i < n) (pc + len) ls st (am_up σ a i (bAnd v 1))
        | _ => aX)
      | _ => aX)
    | .invokevirtual _ => am_inv Ln true c ls st σ (pc + len) x y
    | .invokestatic _ => (match c with
      | 3 => (match st with
        | .inl n :: .inl dp :: .inr (.inr (.inl a1)) :: .inl sp :: .inr (.inr (.inl a0)) :: st => (match am_kd Ln a0, am_kd Ln a1, Nat.ble st.length 4 with
          | (1, n0, _), (1, n1, _), true => aC (0 ≤ sp ∧ 0 ≤ dp ∧ 0 ≤ n ∧ sp + n ≤ n0 ∧ dp + n ≤ n1) (pc + len) ls st (am_cpy σ a0 a1 sp dp n)
          | _, _, _ => aX)
        | _ => aX)
      | 4 => am_i2 st fun a b st => (match Nat.ble st.length 4 with
        | true => aN (pc + len) ls (vI (max a b) :: st) σ
        | false => aX)
      | 5 => am_i2 st fun a b st => (match Nat.ble st.length 4 with
        | true => aN (pc + len) ls (vI (min a b) :: st) σ
        | false => aX)
      | _ => am_inv Ln false c ls st σ (pc + len) x y)
    | .ireturn => (match st with
      | [.inl v] => (match x with
        | 1 => aQ (am_b v) (some (vI v)) σ
        | _ => aR (some (vI v)) σ)
      | _ => aX)
    | .lreturn => (match st with
      | [.inr (.inl v)] => aR (some (vL v)) σ
      | _ => aX)
    | .return_ => (match st with
      | [] => aR none σ
      | _ => aX)
    | _ => aX
/-- behind a call: by what kind of answer the callee has -/
def am_kont (t : Nat) (T : Option AV → AS → Prop) (K : Nat → List AV → List AV → AS → Prop) (pc : Nat) (ls st : List AV) : Prop := match t with
  | 0 => ∀ σ1, T none σ1 → K pc ls st σ1
  | 3 => ∀ (x : Int) σ1, T (some (vL x)) σ1 → K pc ls (vL x :: st) σ1
  | _ => ∀ (x : Int) σ1, T (some (vI x)) σ1 → K pc ls (vI x :: st) σ1
theorem am_kont_mono {t : Nat} {T : Option AV → AS → Prop} {K K' : Nat → List AV → List AV → AS → Prop} {pc : Nat} {ls st : List AV} (hK : ∀ pc ls st σ, K pc ls st σ → K' pc ls st σ) (h : am_kont t T K pc ls st) : am_kont t T K' pc ls st := by
  match t, h with
  | 0, h => exact fun σ q => hK _ _ _ _ (h σ q)
  | 1, h => exact fun x σ q => hK _ _ _ _ (h x σ q)
  | 2, h => exact fun x σ q => hK _ _ _ _ (h x σ q)
  | 3, h => exact fun x σ q => hK _ _ _ _ (h x σ q)
  | t + 4, h => exact fun x σ q => hK _ _ _ _ (h x σ q)
/-- what is said of an answer -/
def am_rI (P : Int → AS → Prop) : Option AV → AS → Prop := fun r σ => match r with
  | some (.inl x) => P x σ
  | _ => False
def am_rL (P : Int → AS → Prop) : Option AV → AS → Prop := fun r σ => match r with
  | some (.inr (.inl x)) => P x σ
  | _ => False
def am_rV (P : AS → Prop) : Option AV → AS → Prop := fun r σ => match r with
  | none => P σ
  | _ => False
def am_all (K : Nat → List AV → List AV → AS → Prop) : List (Prop × AC) → Prop
  | [] => True
  | (h, pc, ls, st, σ) :: r => (h → K pc ls st σ) ∧ am_all K r
noncomputable def am_sem (call : Nat → List AV → AS → (Option AV → AS → Prop) → Prop) (K : Nat → List AV → List AV → AS → Prop) (Q : Option AV → AS → Prop) (a : AA) : Prop := match a with
  | .inl (pc, ls, st, σ) => K pc ls st σ
  | .inr (.inl (h, pc, ls, st, σ)) => h ∧ K pc ls st σ
  | .inr (.inr (.inl (h, (pc1, ls1, st1, σ1), (pc2, ls2, st2, σ2)))) => (h → K pc1 ls1 st1 σ1) ∧ (¬ h → K pc2 ls2 st2 σ2)
  | .inr (.inr (.inr (.inl l))) => am_all K l
  | .inr (.inr (.inr (.inr (.inl (m, as, pc, ls, st, σ))))) => ∃ T : Option AV → AS → Prop, call m as σ T ∧ am_kont (am_mt m).2.2 T K pc ls st
  | .inr (.inr (.inr (.inr (.inr (.inl (v, σ)))))) => Q v σ
  | .inr (.inr (.inr (.inr (.inr (.inr (h, v, σ)))))) => h ∧ Q v σ
theorem am_all_mono {K K' : Nat → List AV → List AV → AS → Prop} (hK : ∀ pc ls st σ, K pc ls st σ → K' pc ls st σ) : ∀ l : List (Prop × AC), am_all K l → am_all K' l
  | [], _ => trivial
  | (_, pc, ls, st, σ) :: r, h => ⟨fun q => hK _ _ _ _ (h.1 q), am_all_mono hK r h.2⟩
theorem am_sem_mono {call call' : Nat → List AV → AS → (Option AV → AS → Prop) → Prop} {K K' : Nat → List AV → List AV → AS → Prop} {Q Q' : Option AV → AS → Prop}
    (hc : ∀ m as σ T, call m as σ T → call' m as σ T) (hK : ∀ pc ls st σ, K pc ls st σ → K' pc ls st σ) (hQ : ∀ v σ, Q v σ → Q' v σ) (a : AA) (h : am_sem call K Q a) : am_sem call' K' Q' a := by
  match a, h with
  | .inl (pc, ls, st, σ), h => exact hK _ _ _ _ h
  | .inr (.inl (g, pc, ls, st, σ)), h => exact ⟨h.1, hK _ _ _ _ h.2⟩
  | .inr (.inr (.inl (g, (pc1, ls1, st1, σ1), (pc2, ls2, st2, σ2)))), h => exact ⟨fun q => hK _ _ _ _ (h.1 q), fun q => hK _ _ _ _ (h.2 q)⟩
  | .inr (.inr (.inr (.inl l))), h => exact am_all_mono hK l h
  | .inr (.inr (.inr (.inr (.inl (m, as, pc, ls, st, σ))))), h =>
    obtain ⟨T, h1, h2⟩ := h
    exact ⟨T, hc _ _ _ _ h1, am_kont_mono hK h2⟩
  | .inr (.inr (.inr (.inr (.inr (.inl (v, σ)))))), h => exact hQ _ _ h
  | .inr (.inr (.inr (.inr (.inr (.inr (g, v, σ)))))), h => exact ⟨h.1, hQ _ _ h.2⟩
/-- the locals with which a method begins -/
def am_pad : Nat → List AV → List AV
  | 0, _ => []
  | n + 1, [] => vU :: am_pad n []
  | n + 1, v :: r => v :: am_pad n r
noncomputable def am_entry (m : Nat) (as : List AV) : List AV := am_pad (am_mt m).1 (am_exp as)
def am_le : List AV → List AV → Prop
  | [], [] => True
  | a :: l, b :: k => (a = b ∨ a = vU) ∧ am_le l k
  | _, _ => False
/-- a family of claims that is closed under steps, and under forgetting of locals -/
abbrev AP : Type := Nat → Nat → Nat → List AV → List AV → AS → (Option AV → AS → Prop) → Prop
noncomputable def am_cl (P : AP) (d m : Nat) (as : List AV) (σ : AS) (T : Option AV → AS → Prop) : Prop := match d with
  | 0 => False
  | d' + 1 => P d' m 0 (am_entry m as) [] σ T
def am_stp (Ln : Int) (P : AP) : Prop := ∀ d m pc ls st σ Q op, am_op m pc = some op → am_sem (am_cl P d) (fun pc ls st σ => P d m pc ls st σ Q) Q (am_act Ln op pc ls st σ) → P d m pc ls st σ Q
def am_fgt (P : AP) : Prop := ∀ d m pc ls ls' st σ Q, am_le ls' ls → P d m pc ls' st σ Q → P d m pc ls st σ Q
/-- the run from here comes to an end, and there Q holds -/
def am_E (Ln : Int) (d m pc : Nat) (ls st : List AV) (σ : AS) (Q : Option AV → AS → Prop) : Prop := ∀ P : AP, am_stp Ln P → am_fgt P → P d m pc ls st σ Q
noncomputable def am_M (Ln : Int) (d m : Nat) (as : List AV) (σ : AS) (T : Option AV → AS → Prop) : Prop := am_cl (am_E Ln) d m as σ T
theorem am_cl_mono {P P' : AP} (h : ∀ d m pc ls st σ Q, P d m pc ls st σ Q → P' d m pc ls st σ Q) (d m : Nat) (as : List AV) (σ : AS) (T : Option AV → AS → Prop) (q : am_cl P d m as σ T) : am_cl P' d m as σ T := by
  cases d with
  | zero => exact q
  | succ d => exact h _ _ _ _ _ _ _ q
theorem am_E_step (Ln : Int) : am_stp Ln (am_E Ln) := by
  intro d m pc ls st σ Q op ho h P hs hf
  exact hs d m pc ls st σ Q op ho (am_sem_mono (am_cl_mono (fun d m pc ls st σ Q q => q P hs hf) d) (fun pc ls st σ q => q P hs hf) (fun _ _ q => q) _ h)
theorem am_E_forget (Ln : Int) : am_fgt (am_E Ln) := fun d m pc ls ls' st σ Q hl h P hs hf => hf d m pc ls ls' st σ Q hl (h P hs hf)
/-- one could ask less -/
theorem am_E_post {Ln : Int} {d m pc : Nat} {ls st : List AV} {σ : AS} {Q Q' : Option AV → AS → Prop} (h : am_E Ln d m pc ls st σ Q) (hQ : ∀ v σ, Q v σ → Q' v σ) : am_E Ln d m pc ls st σ Q' := by
  refine h (fun d m pc ls st σ Q => ∀ Q' : Option AV → AS → Prop, (∀ v σ, Q v σ → Q' v σ) → am_E Ln d m pc ls st σ Q') ?_ ?_ Q' hQ
  · intro d m pc ls st σ Q op ho h Q' hQ
    refine am_E_step Ln d m pc ls st σ Q' op ho (am_sem_mono ?_ (fun pc ls st σ q => q Q' hQ) hQ _ h)
    intro m as σ T q
    exact am_cl_mono (fun d m pc ls st σ Q q => q Q (fun _ _ q => q)) d m as σ T q
  · intro d m pc ls ls' st σ Q hl h Q' hQ
    exact am_E_forget Ln d m pc ls ls' st σ Q' hl (h Q' hQ)
theorem am_M_post {Ln : Int} {d m : Nat} {as : List AV} {σ : AS} {Q Q' : Option AV → AS → Prop} (h : am_M Ln d m as σ Q) (hQ : ∀ v σ, Q v σ → Q' v σ) : am_M Ln d m as σ Q' := by
  cases d with
  | zero => exact h
  | succ d => exact am_E_post (show am_E Ln d m 0 (am_entry m as) [] σ Q from h) hQ
def am_mask : List Bool → List AV → List AV
  | b :: bs, v :: vs => (match b with
    | true => v :: am_mask bs vs
    | false => vU :: am_mask bs vs)
  | _, vs => vs
theorem am_le_rf : ∀ l : List AV, am_le l l
  | [] => trivial
  | _ :: l => ⟨Or.inl rfl, am_le_rf l⟩
theorem am_mask_le : ∀ (bs : List Bool) (vs : List AV), am_le (am_mask bs vs) vs
  | [], vs => by
    have h : am_mask [] vs = vs := by cases vs <;> rfl
    rw [h]
    exact am_le_rf vs
  | b :: bs, [] => trivial
  | true :: bs, v :: vs => ⟨Or.inl rfl, am_mask_le bs vs⟩
  | false :: bs, v :: vs => ⟨Or.inr rfl, am_mask_le bs vs⟩
def am_stop : List (Nat × List Bool) → Nat → Option (List Bool)
  | [], _ => none
  | (k, b) :: r, pc => (match Nat.beq k pc with
    | true => some b
    | false => am_stop r pc)
/-- the condition under which a run from here is right, up to the places where it is cut -/
noncomputable def am_vc (Ln : Int) (d m : Nat) (cut : List (Nat × List Bool)) (Q : Option AV → AS → Prop) : Nat → Nat → List AV → List AV → AS → Prop
  | 0, pc, ls, st, σ => am_E Ln d m pc ls st σ Q
  | n + 1, pc, ls, st, σ => (match am_op m pc with
    | some op => am_sem (am_M Ln d) (fun pc ls st σ => (match am_stop cut pc with
      | some bs => am_E Ln d m pc (am_mask bs ls) st σ Q
      | none => am_vc Ln d m cut Q n pc ls st σ)) Q (am_act Ln op pc ls st σ)
    | none => False)
theorem am_vc_E {Ln : Int} {d m : Nat} {cut : List (Nat × List Bool)} {Q : Option AV → AS → Prop} : ∀ (n pc : Nat) (ls st : List AV) (σ : AS), am_vc Ln d m cut Q n pc ls st σ → am_E Ln d m pc ls st σ Q
  | 0, _, _, _, _, h => h
  | n + 1, pc, ls, st, σ, h => by
    rw [am_vc] at h
    cases ho : am_op m pc with
    | none => rw [ho] at h; exact h.elim
    | some op =>
      rw [ho] at h
      refine am_E_step Ln d m pc ls st σ Q op ho (am_sem_mono (fun m as σ T q => q) ?_ (fun _ _ q => q) _ h)
      intro pc2 ls2 st2 σ2 q
      cases hc : am_stop cut pc2 with
      | none => rw [hc] at q; exact am_vc_E n pc2 ls2 st2 σ2 q
      | some bs => rw [hc] at q; exact am_E_forget Ln d m pc2 ls2 _ st2 σ2 Q (am_mask_le bs ls2) q
end
section
/-! what the claim's tables say of each method and each instruction of the abstract machine: decided -/
def am_rty (t : Nat) : Option FieldType := match t with
  | 0 => none
  | 1 => some .int
  | 2 => some .boolean
  | _ => some .long
/-- places of a method's words: its code, static or not, selects, initialized; 1 if static -/
noncomputable def am_mwL : List (List (Nat × Nat × Nat × Nat × Nat)) := [[(0, 0, 0, 0, 1), (1085, 1083, 1084, 132, 0), (1093, 1091, 1092, 132, 0), (1097, 1096, 44, 132, 0), (1122, 1120, 1121, 132, 0), (1109, 1107, 1108, 132, 0), (1114, 1113, 45, 132, 0), (1105, 1103, 1104, 132, 0), (1155, 1153, 1154, 132, 0), (1126, 1125, 46, 132, 0), (1130, 1128, 1129, 132, 0), (1134, 1132, 1133, 132, 0), (1165, 1163, 1164, 133, 0), (1177, 1175, 1176, 133, 0), (1181, 1180, 47, 133, 0), (826, 824, 825, 126, 0)],
  [(951, 949, 950, 126, 0), (686, 684, 685, 125, 0), (690, 688, 689, 125, 0), (694, 693, 3, 125, 0), (698, 697, 4, 125, 0), (849, 847, 848, 125, 0), (901, 899, 900, 125, 0), (1021, 1019, 1020, 131, 0), (1061, 1060, 42, 131, 0), (1026, 1025, 38, 131, 0), (1052, 1051, 41, 131, 0), (1044, 1043, 39, 131, 0), (1067, 1066, 43, 131, 0), (1048, 1047, 40, 131, 0), (662, 660, 661, 124, 0), (842, 840, 841, 129, 0)],
  [(838, 836, 837, 129, 0), (1004, 1002, 1003, 129, 0), (1032, 1030, 1031, 129, 0), (1056, 1054, 1055, 129, 0), (862, 860, 861, 129, 0), (866, 865, 22, 129, 0), (870, 869, 23, 129, 0), (905, 904, 27, 129, 0), (947, 946, 33, 129, 0), (956, 955, 34, 129, 0), (960, 959, 35, 129, 0), (964, 963, 36, 129, 0), (975, 974, 37, 129, 0), (1173, 1171, 1172, 129, 0), (1139, 1137, 1138, 129, 0), (818, 816, 817, 127, 0)],
  [(1211, 1209, 1210, 127, 0), (878, 876, 877, 127, 0), (883, 882, 24, 127, 0), (887, 886, 25, 127, 0), (891, 890, 26, 127, 0), (897, 896, 0, 127, 1), (738, 736, 737, 128, 0), (745, 744, 7, 128, 0), (772, 771, 12, 128, 0), (776, 775, 13, 128, 0), (780, 779, 14, 128, 0), (792, 791, 17, 128, 0), (796, 795, 18, 128, 0), (800, 799, 19, 128, 0), (761, 760, 10, 128, 0), (784, 783, 15, 128, 0)],
  [(768, 767, 11, 128, 0), (757, 756, 9, 128, 0), (749, 748, 8, 128, 0), (788, 787, 16, 128, 0), (814, 813, 20, 128, 0), (764, 763, 0, 128, 1), (810, 809, 0, 128, 1), (807, 806, 0, 128, 1), (804, 803, 0, 128, 1), (853, 851, 852, 130, 0), (1036, 1034, 1035, 130, 0), (858, 856, 857, 130, 0), (939, 937, 938, 130, 0), (943, 941, 942, 130, 0), (910, 908, 909, 130, 0), (914, 913, 28, 130, 0)],
  [(927, 926, 30, 130, 0), (931, 930, 31, 130, 0), (918, 917, 29, 130, 0), (935, 934, 32, 130, 0), (874, 872, 873, 130, 0), (979, 977, 978, 130, 0), (968, 966, 967, 130, 0), (996, 994, 995, 130, 0), (726, 724, 725, 123, 0), (730, 728, 729, 123, 0), (753, 751, 752, 123, 0), (1199, 1197, 1198, 123, 0), (643, 641, 642, 122, 0), (650, 648, 649, 122, 0), (654, 652, 653, 122, 0), (666, 664, 665, 122, 0)],
  [(670, 668, 669, 122, 0), (702, 700, 701, 122, 0), (706, 704, 705, 122, 0), (714, 712, 713, 122, 0), (722, 720, 721, 122, 0), (734, 732, 733, 122, 0), (822, 820, 821, 122, 0), (830, 828, 829, 122, 0), (983, 981, 982, 122, 0), (988, 986, 987, 122, 0), (992, 990, 991, 122, 0), (1000, 998, 999, 122, 0), (1008, 1006, 1007, 122, 0), (1013, 1011, 1012, 122, 0), (1017, 1015, 1016, 122, 0), (1071, 1069, 1070, 122, 0)],
  [(1081, 1079, 1080, 122, 0), (1089, 1087, 1088, 122, 0), (1101, 1099, 1100, 122, 0), (1145, 1143, 1144, 122, 0), (1149, 1147, 1148, 122, 0), (1161, 1159, 1160, 122, 0), (1169, 1167, 1168, 122, 0), (1187, 1185, 1186, 122, 0), (1203, 1201, 1202, 122, 0), (1207, 1205, 1206, 122, 0), (1191, 1190, 48, 122, 0), (1195, 1194, 49, 122, 0), (682, 681, 2, 122, 0), (658, 657, 0, 122, 0), (834, 833, 21, 122, 0), (674, 673, 1, 122, 0)],
  [(710, 709, 5, 122, 0), (718, 717, 6, 122, 0), (646, 645, 0, 122, 1), (677, 676, 0, 122, 1), (1074, 1073, 0, 122, 1), (922, 921, 0, 122, 1), (1473, 1472, 0, 134, 1), (1855, 1854, 0, 134, 1), (1485, 1484, 50, 134, 0), (1498, 1497, 51, 134, 0), (1516, 1515, 53, 134, 0), (1539, 1538, 0, 134, 1), (1469, 1467, 1468, 134, 0), (1477, 1475, 1476, 134, 0), (1481, 1479, 1480, 134, 0), (1490, 1488, 1489, 134, 0)],
  [(1502, 1501, 52, 134, 0), (1494, 1492, 1493, 134, 0), (1508, 1506, 1507, 134, 0), (1512, 1510, 1511, 134, 0), (1524, 1523, 54, 134, 0), (1520, 1518, 1519, 134, 0), (1532, 1531, 55, 134, 0), (1528, 1526, 1527, 134, 0), (1552, 1551, 58, 134, 0), (1556, 1555, 59, 134, 0), (1544, 1543, 56, 134, 0), (1595, 1594, 68, 134, 0), (1616, 1615, 71, 134, 0), (1582, 1581, 65, 134, 0), (1578, 1577, 64, 134, 0), (1564, 1563, 61, 134, 0)],
  [(1560, 1559, 60, 134, 0), (1570, 1569, 62, 134, 0), (1605, 1604, 0, 134, 1), (1608, 1607, 0, 134, 1), (1619, 1618, 0, 134, 1), (1598, 1597, 0, 134, 1), (1612, 1611, 70, 134, 0), (1631, 1630, 74, 134, 0), (1623, 1622, 72, 134, 0), (1590, 1589, 67, 134, 0), (1602, 1601, 69, 134, 0), (1586, 1585, 66, 134, 0), (1627, 1626, 73, 134, 0), (1574, 1573, 63, 134, 0), (1548, 1547, 57, 134, 0), (1536, 1534, 1535, 134, 0)],
  [(1635, 1633, 1634, 134, 0), (1754, 1753, 102, 134, 0), (1663, 1662, 80, 134, 0), (1671, 1670, 82, 134, 0), (1702, 1701, 89, 134, 0), (1706, 1705, 90, 134, 0), (1710, 1709, 91, 134, 0), (1738, 1737, 98, 134, 0), (1734, 1733, 97, 134, 0), (1730, 1729, 96, 134, 0), (1742, 1741, 99, 134, 0), (1746, 1745, 100, 134, 0), (1726, 1725, 95, 134, 0), (1698, 1697, 88, 134, 0), (1694, 1693, 0, 134, 1), (1691, 1690, 87, 134, 0)],
  [(1687, 1686, 86, 134, 0), (1683, 1682, 85, 134, 0), (1679, 1678, 84, 134, 0), (1722, 1721, 94, 134, 0), (1750, 1749, 101, 134, 0), (1758, 1757, 103, 134, 0), (1762, 1761, 104, 134, 0), (1714, 1713, 92, 134, 0), (1675, 1674, 83, 134, 0), (1718, 1717, 93, 134, 0), (1667, 1666, 81, 134, 0), (1655, 1654, 78, 134, 0), (1659, 1658, 79, 134, 0), (1651, 1650, 77, 134, 0), (1647, 1646, 76, 134, 0), (1643, 1642, 75, 134, 0)],
  [(1639, 1637, 1638, 134, 0), (1766, 1764, 1765, 134, 0), (1770, 1768, 1769, 134, 0), (1774, 1772, 1773, 134, 0), (1782, 1781, 105, 134, 0), (1786, 1785, 106, 134, 0), (1778, 1776, 1777, 134, 0), (1790, 1788, 1789, 134, 0), (1794, 1792, 1793, 134, 0), (1803, 1802, 107, 134, 0), (1807, 1806, 108, 134, 0), (1811, 1810, 109, 134, 0), (1798, 1796, 1797, 134, 0), (1818, 1817, 0, 134, 1), (1815, 1813, 1814, 134, 0), (1828, 1827, 110, 134, 0)],
  [(1823, 1821, 1822, 134, 0), (1836, 1835, 111, 134, 0), (1832, 1830, 1831, 134, 0), (1848, 1847, 113, 134, 0), (1852, 1851, 114, 134, 0), (1870, 1869, 117, 134, 0), (1859, 1858, 115, 134, 0), (1866, 1865, 0, 134, 1), (1863, 1862, 116, 134, 0), (1844, 1843, 112, 134, 0), (1840, 1838, 1839, 134, 0), (1874, 1872, 1873, 134, 0), (1878, 1876, 1877, 134, 0), (1882, 1880, 1881, 134, 0), (1894, 1893, 119, 134, 0), (1890, 1889, 118, 134, 0)],
  [(1886, 1884, 1885, 134, 0), (1902, 1901, 120, 134, 0), (1898, 1896, 1897, 134, 0), (1906, 1904, 1905, 134, 0), (1910, 1908, 1909, 134, 0), (845, 844, 0, 136, 1), (894, 893, 0, 135, 1), (741, 740, 0, 135, 1)]]
noncomputable def am_mw (m : Nat) : Nat × Nat × Nat × Nat × Nat := (am_mwL.getD (m / 16) []).getD (m % 16) (0, 0, 0, 0, 9)
noncomputable def am_okm (m : Nat) : Bool := match am_my m, am_mt m, am_mw m with
  | (y, bs), (ml, na, rt), (p1, p2, p3, p4, t) =>
    decide (lw_tbl[p1]? = some (Jvm.Cond.code y bs ml (am_rty rt))) && decide (lw_tbl[p4]? = some (Jvm.Cond.initialized y.cls)) &&
    decide (y.cls ≠ "java/lang/invoke/MethodHandle" ∧ y.cls ≠ "java/lang/invoke/VarHandle") && Nat.ble ml 21 && plainName y.cls &&
    (match t with
    | 0 => decide (lw_tbl[p2]? = some (Jvm.Cond.instanceMethod y)) && decide (lw_tbl[p3]? = some (Jvm.Cond.selects y.cls y y)) && decide ((parseMethodDescriptor y.desc).map (fun d => d.parameters.length + 1) = some na)
    | 1 => decide (lw_tbl[p2]? = some (Jvm.Cond.static y)) && decide ((parseMethodDescriptor y.desc).map (fun d => d.parameters.length) = some na)
    | _ => false)
def am_nn (pc : Nat) (off : Int) : Bool := decide (0 ≤ (pc : Int) + off)
def am_i32 (x : Int) : Bool := decide (-2147483648 ≤ x ∧ x < 2147483648)
def am_i64 (x : Int) : Bool := decide (-9223372036854775808 ≤ x ∧ x < 9223372036854775808)
noncomputable def am_okop (m pc : Nat) (op : am_Op) : Bool := match op with
  | (ins, len, x, y, c, w) => decide (decode (am_my m).2 pc = .ok (ins, len)) && (match ins with
    | .iconst n => Nat.beq len 1 && am_i32 n
    | .bipush n => Nat.beq len 2 && am_i32 n && decide ((Int8.ofInt n).toInt32 = Int32.ofInt n)
    | .sipush n => Nat.beq len 3 && am_i32 n && decide ((Int16.ofInt n).toInt32 = Int32.ofInt n)
    | .ldc i => Nat.beq len 2 && am_i32 c && decide (lw_tbl[w]? = some (Jvm.Cond.constant (am_my m).1.cls i (Int32.ofInt c)))
    | .ldc_w i => Nat.beq len 3 && am_i32 c && decide (lw_tbl[w]? = some (Jvm.Cond.constant (am_my m).1.cls i (Int32.ofInt c)))
    | .ldc2_w i => Nat.beq len 3 && am_i64 c && decide (lw_tbl[w]? = some (Jvm.Cond.constantLong (am_my m).1.cls i (Int64.ofInt c)))
    | .iload _ => Nat.beq len 2
    | .lload _ => Nat.beq len 2
    | .aload _ => Nat.beq len 2
    | .istore _ => Nat.beq len 2
    | .lstore _ => Nat.beq len 2
    | .astore _ => Nat.beq len 2
    | .iinc _ _ => Nat.beq len 3
    | .goto off => Nat.beq len 3 && am_nn pc off
    | .ifCond _ off => Nat.beq len 3 && am_nn pc off
    | .if_icmp _ off => Nat.beq len 3 && am_nn pc off
    | .tableswitch d lo hi offs => am_nn pc d && offs.toList.all (am_nn pc) && decide (lo + (offs.toList.length : Int) = hi + 1) && am_i32 lo && am_i32 hi
    | .lookupswitch d ps => am_nn pc d && ps.toList.all (fun q => am_nn pc q.2) && ps.toList.all (fun q => am_i32 q.1) && (ps.toList.zip (ps.toList.drop 1)).all (fun (a, next) => a.1 < next.1)
    | .getfield i => Nat.beq len 3 && (match am_cls[x]? with
      | some (C, T, N) => Nat.blt y N && decide ((T y).1 = C) && decide (lw_tbl[w]? = some (Jvm.Cond.fieldLink (am_my m).1.cls i C (T y).2.1 (T y).2.2.1))
      | none => false)
    | .putfield i => Nat.beq len 3 && (match am_cls[x]? with
      | some (C, T, N) => Nat.blt y N && decide ((T y).1 = C) && decide (lw_tbl[w]? = some (Jvm.Cond.fieldLink (am_my m).1.cls i C (T y).2.1 (T y).2.2.1)) && decide ((T y).2.2.2 = false) &&
        (match am_ft x y with
        | 0 => decide ((T y).2.2.1 = "I")
        | 1 => decide ((T y).2.2.1 = "Z")
        | _ => false)
      | none => false)
    | .invokevirtual i => Nat.beq len 3 && decide (lw_tbl[w]? = some (Jvm.Cond.methodLink (am_my m).1.cls i (am_my x).1)) && Nat.blt 0 x && Nat.blt x 246 && Nat.beq (am_mw x).2.2.2.2 0 && Nat.beq y (am_mt x).2.1 && decide ((am_cls[c.toNat]?).map (fun q => q.1) = some (am_my x).1.cls)
    | .invokestatic i => Nat.beq len 3 && (match c with
      | 1 => decide (lw_tbl[w]? = some (Jvm.Cond.methodLink (am_my m).1.cls i (am_my x).1)) && Nat.blt 0 x && Nat.blt x 246 && Nat.beq (am_mw x).2.2.2.2 1 && Nat.beq y (am_mt x).2.1
      | 2 => decide (lw_tbl[w]? = some (Jvm.Cond.methodLinkNest (am_my m).1.cls i (am_my x).1 "PurseTrace")) && Nat.blt 0 x && Nat.blt x 246 && Nat.beq (am_mw x).2.2.2.2 1 && Nat.beq y (am_mt x).2.1
      | 3 => decide (lw_tbl[w]? = some (Jvm.Cond.methodLink (am_my m).1.cls i arraycopyName))
      | 4 => decide (lw_tbl[w]? = some (Jvm.Cond.methodLink (am_my m).1.cls i Lib.Math.max.name))
      | 5 => decide (lw_tbl[w]? = some (Jvm.Cond.methodLink (am_my m).1.cls i Lib.Math.min.name))
      | _ => false)
    | .ireturn => Nat.beq len 1 && (match (am_mt m).2.2, x with
      | 1, 0 => true
      | 2, 1 => true
      | _, _ => false)
    | .lreturn => Nat.beq len 1 && Nat.beq (am_mt m).2.2 3
    | .return_ => Nat.beq len 1 && Nat.beq (am_mt m).2.2 0
    | _ => Nat.beq len 1)
noncomputable def am_ckr (m : Nat) : Nat → List (Option am_Op) → Bool
  | _, [] => true
  | pc, none :: r => am_ckr m (pc + 1) r
  | pc, some op :: r => am_okop m pc op && am_ckr m (pc + 1) r
noncomputable def am_ckc (m : Nat) : Nat → List (List (Option am_Op)) → Bool
  | _, [] => true
  | k, ch :: r => am_ckr m (16 * k) ch && am_ckc m (k + 1) r
noncomputable def am_ckq : Nat → List (List (List (Option am_Op))) → Bool
  | _, [] => true
  | m, o :: r => am_ckc m 0 o && am_ckq (m + 1) r
noncomputable def am_cka : Nat → List (List (List (List (Option am_Op)))) → Bool
  | _, [] => true
  | k, q :: r => am_ckq (16 * k) q && am_cka (k + 1) r
theorem am_ckr_at {m : Nat} {op : am_Op} : ∀ (l : List (Option am_Op)) (p i : Nat), am_ckr m p l = true → l.getD i none = some op → am_okop m (p + i) op = true
  | [], p, i, _, h => by simp at h
  | none :: r, p, 0, _, h => by simp at h
  | none :: r, p, i + 1, hc, h => by
    have h2 := am_ckr_at r (p + 1) i hc (by simpa using h)
    rwa [show p + 1 + i = p + (i + 1) by omega] at h2
  | some o :: r, p, 0, hc, h => by
    simp only [am_ckr, Bool.and_eq_true] at hc
    have : o = op := by simpa using h
    subst this
    exact hc.1
  | some o :: r, p, i + 1, hc, h => by
    simp only [am_ckr, Bool.and_eq_true] at hc
    have h2 := am_ckr_at r (p + 1) i hc.2 (by simpa using h)
    rwa [show p + 1 + i = p + (i + 1) by omega] at h2
theorem am_ckc_at {m : Nat} {op : am_Op} {i : Nat} : ∀ (l : List (List (Option am_Op))) (k j : Nat), am_ckc m k l = true → (l.getD j []).getD i none = some op → am_okop m (16 * (k + j) + i) op = true
  | [], k, j, _, h => by simp at h
  | ch :: r, k, 0, hc, h => by
    simp only [am_ckc, Bool.and_eq_true] at hc
    exact am_ckr_at ch (16 * k) i hc.1 (by simpa using h)
  | ch :: r, k, j + 1, hc, h => by
    simp only [am_ckc, Bool.and_eq_true] at hc
    have h2 := am_ckc_at r (k + 1) j hc.2 (by simpa using h)
    rwa [show k + 1 + j = k + (j + 1) by omega] at h2
theorem am_ckq_at {op : am_Op} {i j : Nat} : ∀ (l : List (List (List (Option am_Op)))) (m n : Nat), am_ckq m l = true → ((l.getD n []).getD j []).getD i none = some op → am_okop (m + n) (16 * j + i) op = true
  | [], m, n, _, h => by simp at h
  | o :: r, m, 0, hc, h => by
    simp only [am_ckq, Bool.and_eq_true] at hc
    have h2 := am_ckc_at o 0 j hc.1 (by simpa using h)
    rwa [show 16 * (0 + j) + i = 16 * j + i by omega] at h2
  | o :: r, m, n + 1, hc, h => by
    simp only [am_ckq, Bool.and_eq_true] at hc
    have h2 := am_ckq_at r (m + 1) n hc.2 (by simpa using h)
    rwa [show m + 1 + n = m + (n + 1) by omega] at h2
theorem am_cka_at {op : am_Op} {i j n : Nat} : ∀ (l : List (List (List (List (Option am_Op))))) (k q : Nat), am_cka k l = true → (((l.getD q []).getD n []).getD j []).getD i none = some op → am_okop (16 * (k + q) + n) (16 * j + i) op = true
  | [], k, q, _, h => by simp at h
  | o :: r, k, 0, hc, h => by
    simp only [am_cka, Bool.and_eq_true] at hc
    exact am_ckq_at o (16 * k) n hc.1 (by simpa using h)
  | o :: r, k, q + 1, hc, h => by
    simp only [am_cka, Bool.and_eq_true] at hc
    have h2 := am_cka_at r (k + 1) q hc.2 (by simpa using h)
    rwa [show k + 1 + q = k + (q + 1) by omega] at h2
end
section
/-! the checks, one by one -/
theorem am_ck0_0 : am_ckr 0 0 am_o0_0 = true := by decide +kernel
theorem am_ck0_1 : am_ckr 0 16 am_o0_1 = true := by decide +kernel
theorem am_ck0_2 : am_ckr 0 32 am_o0_2 = true := by decide +kernel
theorem am_ck0_3 : am_ckr 0 48 am_o0_3 = true := by decide +kernel
theorem am_ck0_4 : am_ckr 0 64 am_o0_4 = true := by decide +kernel
theorem am_ck0_5 : am_ckr 0 80 am_o0_5 = true := by decide +kernel
theorem am_ck0_6 : am_ckr 0 96 am_o0_6 = true := by decide +kernel
theorem am_ck0_7 : am_ckr 0 112 am_o0_7 = true := by decide +kernel
theorem am_ck0_8 : am_ckr 0 128 am_o0_8 = true := by decide +kernel
theorem am_ck0_9 : am_ckr 0 144 am_o0_9 = true := by decide +kernel
theorem am_ck0_10 : am_ckr 0 160 am_o0_10 = true := by decide +kernel
theorem am_ck0_11 : am_ckr 0 176 am_o0_11 = true := by decide +kernel
theorem am_ck0_12 : am_ckr 0 192 am_o0_12 = true := by decide +kernel
theorem am_ck0_13 : am_ckr 0 208 am_o0_13 = true := by decide +kernel
theorem am_ck0_14 : am_ckr 0 224 am_o0_14 = true := by decide +kernel
theorem am_ck0_15 : am_ckr 0 240 am_o0_15 = true := by decide +kernel
theorem am_ck0_16 : am_ckr 0 256 am_o0_16 = true := by decide +kernel
theorem am_ck0_17 : am_ckr 0 272 am_o0_17 = true := by decide +kernel
theorem am_ck0_18 : am_ckr 0 288 am_o0_18 = true := by decide +kernel
theorem am_ck0_19 : am_ckr 0 304 am_o0_19 = true := by decide +kernel
theorem am_ck0_20 : am_ckr 0 320 am_o0_20 = true := by decide +kernel
theorem am_ck0_21 : am_ckr 0 336 am_o0_21 = true := by decide +kernel
theorem am_ck0_22 : am_ckr 0 352 am_o0_22 = true := by decide +kernel
theorem am_ck0_23 : am_ckr 0 368 am_o0_23 = true := by decide +kernel
theorem am_ck0_24 : am_ckr 0 384 am_o0_24 = true := by decide +kernel
theorem am_ck0_25 : am_ckr 0 400 am_o0_25 = true := by decide +kernel
theorem am_ck0_26 : am_ckr 0 416 am_o0_26 = true := by decide +kernel
theorem am_ck0_27 : am_ckr 0 432 am_o0_27 = true := by decide +kernel
theorem am_ck0_28 : am_ckr 0 448 am_o0_28 = true := by decide +kernel
theorem am_ck0_29 : am_ckr 0 464 am_o0_29 = true := by decide +kernel
theorem am_ck0_30 : am_ckr 0 480 am_o0_30 = true := by decide +kernel
theorem am_ck0_31 : am_ckr 0 496 am_o0_31 = true := by decide +kernel
theorem am_ck0_32 : am_ckr 0 512 am_o0_32 = true := by decide +kernel
theorem am_ck0_33 : am_ckr 0 528 am_o0_33 = true := by decide +kernel
theorem am_ck0_34 : am_ckr 0 544 am_o0_34 = true := by decide +kernel
theorem am_ck0_35 : am_ckr 0 560 am_o0_35 = true := by decide +kernel
theorem am_ck0_36 : am_ckr 0 576 am_o0_36 = true := by decide +kernel
theorem am_ck0_37 : am_ckr 0 592 am_o0_37 = true := by decide +kernel
theorem am_ck0_38 : am_ckr 0 608 am_o0_38 = true := by decide +kernel
theorem am_ck0_39 : am_ckr 0 624 am_o0_39 = true := by decide +kernel
theorem am_ck0_40 : am_ckr 0 640 am_o0_40 = true := by decide +kernel
theorem am_ck0_41 : am_ckr 0 656 am_o0_41 = true := by decide +kernel
theorem am_ck0_42 : am_ckr 0 672 am_o0_42 = true := by decide +kernel
theorem am_ck0_43 : am_ckr 0 688 am_o0_43 = true := by decide +kernel
theorem am_ck0_44 : am_ckr 0 704 am_o0_44 = true := by decide +kernel
theorem am_ck0_45 : am_ckr 0 720 am_o0_45 = true := by decide +kernel
theorem am_ck0_46 : am_ckr 0 736 am_o0_46 = true := by decide +kernel
theorem am_ck0_47 : am_ckr 0 752 am_o0_47 = true := by decide +kernel
theorem am_ck0_48 : am_ckr 0 768 am_o0_48 = true := by decide +kernel
theorem am_ck0_49 : am_ckr 0 784 am_o0_49 = true := by decide +kernel
theorem am_ck0_50 : am_ckr 0 800 am_o0_50 = true := by decide +kernel
theorem am_ck0_51 : am_ckr 0 816 am_o0_51 = true := by decide +kernel
theorem am_ck0_52 : am_ckr 0 832 am_o0_52 = true := by decide +kernel
theorem am_ck0_53 : am_ckr 0 848 am_o0_53 = true := by decide +kernel
theorem am_ck0_54 : am_ckr 0 864 am_o0_54 = true := by decide +kernel
theorem am_ck0_55 : am_ckr 0 880 am_o0_55 = true := by decide +kernel
theorem am_ck0_56 : am_ckr 0 896 am_o0_56 = true := by decide +kernel
theorem am_ck0_57 : am_ckr 0 912 am_o0_57 = true := by decide +kernel
theorem am_ck0_58 : am_ckr 0 928 am_o0_58 = true := by decide +kernel
theorem am_ck0_59 : am_ckr 0 944 am_o0_59 = true := by decide +kernel
theorem am_ck0_60 : am_ckr 0 960 am_o0_60 = true := by decide +kernel
theorem am_ck0_61 : am_ckr 0 976 am_o0_61 = true := by decide +kernel
theorem am_ck0_62 : am_ckr 0 992 am_o0_62 = true := by decide +kernel
theorem am_ck0_63 : am_ckr 0 1008 am_o0_63 = true := by decide +kernel
theorem am_ck0_64 : am_ckr 0 1024 am_o0_64 = true := by decide +kernel
theorem am_ck0_65 : am_ckr 0 1040 am_o0_65 = true := by decide +kernel
theorem am_ck0_66 : am_ckr 0 1056 am_o0_66 = true := by decide +kernel
theorem am_ck0_67 : am_ckr 0 1072 am_o0_67 = true := by decide +kernel
theorem am_ck0_68 : am_ckr 0 1088 am_o0_68 = true := by decide +kernel
theorem am_ck0_69 : am_ckr 0 1104 am_o0_69 = true := by decide +kernel
theorem am_ck0_70 : am_ckr 0 1120 am_o0_70 = true := by decide +kernel
theorem am_ck0_71 : am_ckr 0 1136 am_o0_71 = true := by decide +kernel
theorem am_ck0_72 : am_ckr 0 1152 am_o0_72 = true := by decide +kernel
theorem am_ck0_73 : am_ckr 0 1168 am_o0_73 = true := by decide +kernel
theorem am_ck0_74 : am_ckr 0 1184 am_o0_74 = true := by decide +kernel
theorem am_ck0_75 : am_ckr 0 1200 am_o0_75 = true := by decide +kernel
theorem am_ck0_76 : am_ckr 0 1216 am_o0_76 = true := by decide +kernel
theorem am_ck0_77 : am_ckr 0 1232 am_o0_77 = true := by decide +kernel
theorem am_ck0_78 : am_ckr 0 1248 am_o0_78 = true := by decide +kernel
theorem am_ck0_79 : am_ckr 0 1264 am_o0_79 = true := by decide +kernel
theorem am_ck0_80 : am_ckr 0 1280 am_o0_80 = true := by decide +kernel
theorem am_ck0_81 : am_ckr 0 1296 am_o0_81 = true := by decide +kernel
theorem am_ck0_82 : am_ckr 0 1312 am_o0_82 = true := by decide +kernel
theorem am_ck0_83 : am_ckr 0 1328 am_o0_83 = true := by decide +kernel
theorem am_ck0_84 : am_ckr 0 1344 am_o0_84 = true := by decide +kernel
theorem am_ck0_85 : am_ckr 0 1360 am_o0_85 = true := by decide +kernel
theorem am_ck0_86 : am_ckr 0 1376 am_o0_86 = true := by decide +kernel
theorem am_ck0_87 : am_ckr 0 1392 am_o0_87 = true := by decide +kernel
theorem am_ck0_88 : am_ckr 0 1408 am_o0_88 = true := by decide +kernel
theorem am_ck0_89 : am_ckr 0 1424 am_o0_89 = true := by decide +kernel
theorem am_ck0_90 : am_ckr 0 1440 am_o0_90 = true := by decide +kernel
theorem am_ck0_91 : am_ckr 0 1456 am_o0_91 = true := by decide +kernel
theorem am_ck0 : am_ckc 0 0 am_o0 = true := by
  simp only [am_o0, am_ckc, Nat.reduceAdd, Nat.reduceMul, am_ck0_0, am_ck0_1, am_ck0_2, am_ck0_3, am_ck0_4, am_ck0_5, am_ck0_6, am_ck0_7, am_ck0_8, am_ck0_9, am_ck0_10, am_ck0_11, am_ck0_12, am_ck0_13, am_ck0_14, am_ck0_15, am_ck0_16, am_ck0_17, am_ck0_18, am_ck0_19, am_ck0_20, am_ck0_21, am_ck0_22, am_ck0_23, am_ck0_24, am_ck0_25, am_ck0_26, am_ck0_27, am_ck0_28, am_ck0_29, am_ck0_30, am_ck0_31, am_ck0_32, am_ck0_33, am_ck0_34, am_ck0_35, am_ck0_36, am_ck0_37, am_ck0_38, am_ck0_39, am_ck0_40, am_ck0_41, am_ck0_42, am_ck0_43, am_ck0_44, am_ck0_45, am_ck0_46, am_ck0_47, am_ck0_48, am_ck0_49, am_ck0_50, am_ck0_51, am_ck0_52, am_ck0_53, am_ck0_54, am_ck0_55, am_ck0_56, am_ck0_57, am_ck0_58, am_ck0_59, am_ck0_60, am_ck0_61, am_ck0_62, am_ck0_63, am_ck0_64, am_ck0_65, am_ck0_66, am_ck0_67, am_ck0_68, am_ck0_69, am_ck0_70, am_ck0_71, am_ck0_72, am_ck0_73, am_ck0_74, am_ck0_75, am_ck0_76, am_ck0_77, am_ck0_78, am_ck0_79, am_ck0_80, am_ck0_81, am_ck0_82, am_ck0_83, am_ck0_84, am_ck0_85, am_ck0_86, am_ck0_87, am_ck0_88, am_ck0_89, am_ck0_90, am_ck0_91, Bool.and_self]
theorem am_ck1 : am_ckc 1 0 am_o1 = true := by decide +kernel
theorem am_ck2 : am_ckc 2 0 am_o2 = true := by decide +kernel
theorem am_ck3 : am_ckc 3 0 am_o3 = true := by decide +kernel
theorem am_ck4 : am_ckc 4 0 am_o4 = true := by decide +kernel
theorem am_ck5 : am_ckc 5 0 am_o5 = true := by decide +kernel
theorem am_ck6 : am_ckc 6 0 am_o6 = true := by decide +kernel
theorem am_ck7 : am_ckc 7 0 am_o7 = true := by decide +kernel
theorem am_ck8 : am_ckc 8 0 am_o8 = true := by decide +kernel
theorem am_ck9 : am_ckc 9 0 am_o9 = true := by decide +kernel
theorem am_ck10 : am_ckc 10 0 am_o10 = true := by decide +kernel
theorem am_ck11 : am_ckc 11 0 am_o11 = true := by decide +kernel
theorem am_ck12 : am_ckc 12 0 am_o12 = true := by decide +kernel
theorem am_ck13 : am_ckc 13 0 am_o13 = true := by decide +kernel
theorem am_ck14 : am_ckc 14 0 am_o14 = true := by decide +kernel
theorem am_ck15 : am_ckc 15 0 am_o15 = true := by decide +kernel
theorem am_ck16 : am_ckc 16 0 am_o16 = true := by decide +kernel
theorem am_ck17 : am_ckc 17 0 am_o17 = true := by decide +kernel
theorem am_ck18 : am_ckc 18 0 am_o18 = true := by decide +kernel
theorem am_ck19 : am_ckc 19 0 am_o19 = true := by decide +kernel
theorem am_ck20 : am_ckc 20 0 am_o20 = true := by decide +kernel
theorem am_ck21 : am_ckc 21 0 am_o21 = true := by decide +kernel
theorem am_ck22 : am_ckc 22 0 am_o22 = true := by decide +kernel
theorem am_ck23 : am_ckc 23 0 am_o23 = true := by decide +kernel
theorem am_ck24 : am_ckc 24 0 am_o24 = true := by decide +kernel
theorem am_ck25 : am_ckc 25 0 am_o25 = true := by decide +kernel
theorem am_ck26 : am_ckc 26 0 am_o26 = true := by decide +kernel
theorem am_ck27 : am_ckc 27 0 am_o27 = true := by decide +kernel
theorem am_ck28 : am_ckc 28 0 am_o28 = true := by decide +kernel
theorem am_ck29 : am_ckc 29 0 am_o29 = true := by decide +kernel
theorem am_ck30 : am_ckc 30 0 am_o30 = true := by decide +kernel
theorem am_ck31 : am_ckc 31 0 am_o31 = true := by decide +kernel
theorem am_ck32 : am_ckc 32 0 am_o32 = true := by decide +kernel
theorem am_ck33 : am_ckc 33 0 am_o33 = true := by decide +kernel
theorem am_ck34 : am_ckc 34 0 am_o34 = true := by decide +kernel
theorem am_ck35 : am_ckc 35 0 am_o35 = true := by decide +kernel
theorem am_ck36 : am_ckc 36 0 am_o36 = true := by decide +kernel
theorem am_ck37 : am_ckc 37 0 am_o37 = true := by decide +kernel
theorem am_ck38 : am_ckc 38 0 am_o38 = true := by decide +kernel
theorem am_ck39 : am_ckc 39 0 am_o39 = true := by decide +kernel
theorem am_ck40 : am_ckc 40 0 am_o40 = true := by decide +kernel
theorem am_ck41 : am_ckc 41 0 am_o41 = true := by decide +kernel
theorem am_ck42 : am_ckc 42 0 am_o42 = true := by decide +kernel
theorem am_ck43 : am_ckc 43 0 am_o43 = true := by decide +kernel
theorem am_ck44 : am_ckc 44 0 am_o44 = true := by decide +kernel
theorem am_ck45 : am_ckc 45 0 am_o45 = true := by decide +kernel
theorem am_ck46 : am_ckc 46 0 am_o46 = true := by decide +kernel
theorem am_ck47 : am_ckc 47 0 am_o47 = true := by decide +kernel
theorem am_ck48 : am_ckc 48 0 am_o48 = true := by decide +kernel
theorem am_ck49 : am_ckc 49 0 am_o49 = true := by decide +kernel
theorem am_ck50 : am_ckc 50 0 am_o50 = true := by decide +kernel
theorem am_ck51 : am_ckc 51 0 am_o51 = true := by decide +kernel
theorem am_ck52 : am_ckc 52 0 am_o52 = true := by decide +kernel
theorem am_ck53 : am_ckc 53 0 am_o53 = true := by decide +kernel
theorem am_ck54 : am_ckc 54 0 am_o54 = true := by decide +kernel
theorem am_ck55 : am_ckc 55 0 am_o55 = true := by decide +kernel
theorem am_ck56 : am_ckc 56 0 am_o56 = true := by decide +kernel
theorem am_ck57 : am_ckc 57 0 am_o57 = true := by decide +kernel
theorem am_ck58 : am_ckc 58 0 am_o58 = true := by decide +kernel
theorem am_ck59 : am_ckc 59 0 am_o59 = true := by decide +kernel
theorem am_ck60 : am_ckc 60 0 am_o60 = true := by decide +kernel
theorem am_ck61 : am_ckc 61 0 am_o61 = true := by decide +kernel
theorem am_ck62 : am_ckc 62 0 am_o62 = true := by decide +kernel
theorem am_ck63 : am_ckc 63 0 am_o63 = true := by decide +kernel
theorem am_ck64 : am_ckc 64 0 am_o64 = true := by decide +kernel
theorem am_ck65 : am_ckc 65 0 am_o65 = true := by decide +kernel
theorem am_ck66 : am_ckc 66 0 am_o66 = true := by decide +kernel
theorem am_ck67 : am_ckc 67 0 am_o67 = true := by decide +kernel
theorem am_ck68 : am_ckc 68 0 am_o68 = true := by decide +kernel
theorem am_ck69 : am_ckc 69 0 am_o69 = true := by decide +kernel
theorem am_ck70 : am_ckc 70 0 am_o70 = true := by decide +kernel
theorem am_ck71 : am_ckc 71 0 am_o71 = true := by decide +kernel
theorem am_ck72 : am_ckc 72 0 am_o72 = true := by decide +kernel
theorem am_ck73 : am_ckc 73 0 am_o73 = true := by decide +kernel
theorem am_ck74 : am_ckc 74 0 am_o74 = true := by decide +kernel
theorem am_ck75 : am_ckc 75 0 am_o75 = true := by decide +kernel
theorem am_ck76 : am_ckc 76 0 am_o76 = true := by decide +kernel
theorem am_ck77 : am_ckc 77 0 am_o77 = true := by decide +kernel
theorem am_ck78 : am_ckc 78 0 am_o78 = true := by decide +kernel
theorem am_ck79 : am_ckc 79 0 am_o79 = true := by decide +kernel
theorem am_ck80 : am_ckc 80 0 am_o80 = true := by decide +kernel
theorem am_ck81 : am_ckc 81 0 am_o81 = true := by decide +kernel
theorem am_ck82 : am_ckc 82 0 am_o82 = true := by decide +kernel
theorem am_ck83 : am_ckc 83 0 am_o83 = true := by decide +kernel
theorem am_ck84 : am_ckc 84 0 am_o84 = true := by decide +kernel
theorem am_ck85 : am_ckc 85 0 am_o85 = true := by decide +kernel
theorem am_ck86 : am_ckc 86 0 am_o86 = true := by decide +kernel
theorem am_ck87 : am_ckc 87 0 am_o87 = true := by decide +kernel
theorem am_ck88 : am_ckc 88 0 am_o88 = true := by decide +kernel
theorem am_ck89 : am_ckc 89 0 am_o89 = true := by decide +kernel
end
section
/-! the checks, one by one, and all of them -/
theorem am_ck90 : am_ckc 90 0 am_o90 = true := by decide +kernel
theorem am_ck91 : am_ckc 91 0 am_o91 = true := by decide +kernel
theorem am_ck92 : am_ckc 92 0 am_o92 = true := by decide +kernel
theorem am_ck93 : am_ckc 93 0 am_o93 = true := by decide +kernel
theorem am_ck94 : am_ckc 94 0 am_o94 = true := by decide +kernel
theorem am_ck95 : am_ckc 95 0 am_o95 = true := by decide +kernel
theorem am_ck96 : am_ckc 96 0 am_o96 = true := by decide +kernel
theorem am_ck97 : am_ckc 97 0 am_o97 = true := by decide +kernel
theorem am_ck98 : am_ckc 98 0 am_o98 = true := by decide +kernel
theorem am_ck99 : am_ckc 99 0 am_o99 = true := by decide +kernel
theorem am_ck100 : am_ckc 100 0 am_o100 = true := by decide +kernel
theorem am_ck101 : am_ckc 101 0 am_o101 = true := by decide +kernel
theorem am_ck102 : am_ckc 102 0 am_o102 = true := by decide +kernel
theorem am_ck103 : am_ckc 103 0 am_o103 = true := by decide +kernel
theorem am_ck104 : am_ckc 104 0 am_o104 = true := by decide +kernel
theorem am_ck105 : am_ckc 105 0 am_o105 = true := by decide +kernel
theorem am_ck106 : am_ckc 106 0 am_o106 = true := by decide +kernel
theorem am_ck107 : am_ckc 107 0 am_o107 = true := by decide +kernel
theorem am_ck108 : am_ckc 108 0 am_o108 = true := by decide +kernel
theorem am_ck109 : am_ckc 109 0 am_o109 = true := by decide +kernel
theorem am_ck110 : am_ckc 110 0 am_o110 = true := by decide +kernel
theorem am_ck111 : am_ckc 111 0 am_o111 = true := by decide +kernel
theorem am_ck112 : am_ckc 112 0 am_o112 = true := by decide +kernel
theorem am_ck113 : am_ckc 113 0 am_o113 = true := by decide +kernel
theorem am_ck114 : am_ckc 114 0 am_o114 = true := by decide +kernel
theorem am_ck115 : am_ckc 115 0 am_o115 = true := by decide +kernel
theorem am_ck116 : am_ckc 116 0 am_o116 = true := by decide +kernel
theorem am_ck117 : am_ckc 117 0 am_o117 = true := by decide +kernel
theorem am_ck118 : am_ckc 118 0 am_o118 = true := by decide +kernel
theorem am_ck119 : am_ckc 119 0 am_o119 = true := by decide +kernel
theorem am_ck120 : am_ckc 120 0 am_o120 = true := by decide +kernel
theorem am_ck121 : am_ckc 121 0 am_o121 = true := by decide +kernel
theorem am_ck122 : am_ckc 122 0 am_o122 = true := by decide +kernel
theorem am_ck123 : am_ckc 123 0 am_o123 = true := by decide +kernel
theorem am_ck124 : am_ckc 124 0 am_o124 = true := by decide +kernel
theorem am_ck125 : am_ckc 125 0 am_o125 = true := by decide +kernel
theorem am_ck126 : am_ckc 126 0 am_o126 = true := by decide +kernel
theorem am_ck127 : am_ckc 127 0 am_o127 = true := by decide +kernel
theorem am_ck128 : am_ckc 128 0 am_o128 = true := by decide +kernel
theorem am_ck129 : am_ckc 129 0 am_o129 = true := by decide +kernel
theorem am_ck130 : am_ckc 130 0 am_o130 = true := by decide +kernel
theorem am_ck131 : am_ckc 131 0 am_o131 = true := by decide +kernel
theorem am_ck132 : am_ckc 132 0 am_o132 = true := by decide +kernel
theorem am_ck133 : am_ckc 133 0 am_o133 = true := by decide +kernel
theorem am_ck134 : am_ckc 134 0 am_o134 = true := by decide +kernel
theorem am_ck135 : am_ckc 135 0 am_o135 = true := by decide +kernel
theorem am_ck136 : am_ckc 136 0 am_o136 = true := by decide +kernel
theorem am_ck137 : am_ckc 137 0 am_o137 = true := by decide +kernel
theorem am_ck138 : am_ckc 138 0 am_o138 = true := by decide +kernel
theorem am_ck139 : am_ckc 139 0 am_o139 = true := by decide +kernel
theorem am_ck140 : am_ckc 140 0 am_o140 = true := by decide +kernel
theorem am_ck141 : am_ckc 141 0 am_o141 = true := by decide +kernel
theorem am_ck142 : am_ckc 142 0 am_o142 = true := by decide +kernel
theorem am_ck143 : am_ckc 143 0 am_o143 = true := by decide +kernel
theorem am_ck144 : am_ckc 144 0 am_o144 = true := by decide +kernel
theorem am_ck145 : am_ckc 145 0 am_o145 = true := by decide +kernel
theorem am_ck146 : am_ckc 146 0 am_o146 = true := by decide +kernel
theorem am_ck147 : am_ckc 147 0 am_o147 = true := by decide +kernel
theorem am_ck148 : am_ckc 148 0 am_o148 = true := by decide +kernel
theorem am_ck149 : am_ckc 149 0 am_o149 = true := by decide +kernel
theorem am_ck150 : am_ckc 150 0 am_o150 = true := by decide +kernel
theorem am_ck151 : am_ckc 151 0 am_o151 = true := by decide +kernel
theorem am_ck152 : am_ckc 152 0 am_o152 = true := by decide +kernel
theorem am_ck153 : am_ckc 153 0 am_o153 = true := by decide +kernel
theorem am_ck154 : am_ckc 154 0 am_o154 = true := by decide +kernel
theorem am_ck155 : am_ckc 155 0 am_o155 = true := by decide +kernel
theorem am_ck156 : am_ckc 156 0 am_o156 = true := by decide +kernel
theorem am_ck157 : am_ckc 157 0 am_o157 = true := by decide +kernel
theorem am_ck158 : am_ckc 158 0 am_o158 = true := by decide +kernel
theorem am_ck159 : am_ckc 159 0 am_o159 = true := by decide +kernel
theorem am_ck160 : am_ckc 160 0 am_o160 = true := by decide +kernel
theorem am_ck161 : am_ckc 161 0 am_o161 = true := by decide +kernel
theorem am_ck162 : am_ckc 162 0 am_o162 = true := by decide +kernel
theorem am_ck163 : am_ckc 163 0 am_o163 = true := by decide +kernel
theorem am_ck164 : am_ckc 164 0 am_o164 = true := by decide +kernel
theorem am_ck165 : am_ckc 165 0 am_o165 = true := by decide +kernel
theorem am_ck166 : am_ckc 166 0 am_o166 = true := by decide +kernel
theorem am_ck167 : am_ckc 167 0 am_o167 = true := by decide +kernel
theorem am_ck168 : am_ckc 168 0 am_o168 = true := by decide +kernel
theorem am_ck169 : am_ckc 169 0 am_o169 = true := by decide +kernel
theorem am_ck170 : am_ckc 170 0 am_o170 = true := by decide +kernel
theorem am_ck171 : am_ckc 171 0 am_o171 = true := by decide +kernel
theorem am_ck172 : am_ckc 172 0 am_o172 = true := by decide +kernel
theorem am_ck173 : am_ckc 173 0 am_o173 = true := by decide +kernel
theorem am_ck174 : am_ckc 174 0 am_o174 = true := by decide +kernel
theorem am_ck175 : am_ckc 175 0 am_o175 = true := by decide +kernel
theorem am_ck176 : am_ckc 176 0 am_o176 = true := by decide +kernel
theorem am_ck177 : am_ckc 177 0 am_o177 = true := by decide +kernel
theorem am_ck178 : am_ckc 178 0 am_o178 = true := by decide +kernel
theorem am_ck179 : am_ckc 179 0 am_o179 = true := by decide +kernel
theorem am_ck180 : am_ckc 180 0 am_o180 = true := by decide +kernel
theorem am_ck181 : am_ckc 181 0 am_o181 = true := by decide +kernel
theorem am_ck182 : am_ckc 182 0 am_o182 = true := by decide +kernel
theorem am_ck183 : am_ckc 183 0 am_o183 = true := by decide +kernel
theorem am_ck184 : am_ckc 184 0 am_o184 = true := by decide +kernel
theorem am_ck185 : am_ckc 185 0 am_o185 = true := by decide +kernel
theorem am_ck186 : am_ckc 186 0 am_o186 = true := by decide +kernel
theorem am_ck187 : am_ckc 187 0 am_o187 = true := by decide +kernel
theorem am_ck188 : am_ckc 188 0 am_o188 = true := by decide +kernel
theorem am_ck189 : am_ckc 189 0 am_o189 = true := by decide +kernel
theorem am_ck190 : am_ckc 190 0 am_o190 = true := by decide +kernel
theorem am_ck191 : am_ckc 191 0 am_o191 = true := by decide +kernel
theorem am_ck192 : am_ckc 192 0 am_o192 = true := by decide +kernel
theorem am_ck193 : am_ckc 193 0 am_o193 = true := by decide +kernel
theorem am_ck194 : am_ckc 194 0 am_o194 = true := by decide +kernel
theorem am_ck195 : am_ckc 195 0 am_o195 = true := by decide +kernel
theorem am_ck196 : am_ckc 196 0 am_o196 = true := by decide +kernel
theorem am_ck197 : am_ckc 197 0 am_o197 = true := by decide +kernel
theorem am_ck198 : am_ckc 198 0 am_o198 = true := by decide +kernel
theorem am_ck199 : am_ckc 199 0 am_o199 = true := by decide +kernel
theorem am_ck200 : am_ckc 200 0 am_o200 = true := by decide +kernel
theorem am_ck201 : am_ckc 201 0 am_o201 = true := by decide +kernel
theorem am_ck202 : am_ckc 202 0 am_o202 = true := by decide +kernel
theorem am_ck203 : am_ckc 203 0 am_o203 = true := by decide +kernel
theorem am_ck204 : am_ckc 204 0 am_o204 = true := by decide +kernel
theorem am_ck205 : am_ckc 205 0 am_o205 = true := by decide +kernel
theorem am_ck206 : am_ckc 206 0 am_o206 = true := by decide +kernel
theorem am_ck207 : am_ckc 207 0 am_o207 = true := by decide +kernel
theorem am_ck208 : am_ckc 208 0 am_o208 = true := by decide +kernel
theorem am_ck209 : am_ckc 209 0 am_o209 = true := by decide +kernel
theorem am_ck210 : am_ckc 210 0 am_o210 = true := by decide +kernel
theorem am_ck211 : am_ckc 211 0 am_o211 = true := by decide +kernel
theorem am_ck212 : am_ckc 212 0 am_o212 = true := by decide +kernel
theorem am_ck213 : am_ckc 213 0 am_o213 = true := by decide +kernel
theorem am_ck214 : am_ckc 214 0 am_o214 = true := by decide +kernel
theorem am_ck215 : am_ckc 215 0 am_o215 = true := by decide +kernel
theorem am_ck216 : am_ckc 216 0 am_o216 = true := by decide +kernel
theorem am_ck217 : am_ckc 217 0 am_o217 = true := by decide +kernel
theorem am_ck218 : am_ckc 218 0 am_o218 = true := by decide +kernel
theorem am_ck219 : am_ckc 219 0 am_o219 = true := by decide +kernel
theorem am_ck220 : am_ckc 220 0 am_o220 = true := by decide +kernel
theorem am_ck221 : am_ckc 221 0 am_o221 = true := by decide +kernel
theorem am_ck222 : am_ckc 222 0 am_o222 = true := by decide +kernel
theorem am_ck223 : am_ckc 223 0 am_o223 = true := by decide +kernel
theorem am_ck224 : am_ckc 224 0 am_o224 = true := by decide +kernel
theorem am_ck225 : am_ckc 225 0 am_o225 = true := by decide +kernel
theorem am_ck226 : am_ckc 226 0 am_o226 = true := by decide +kernel
theorem am_ck227 : am_ckc 227 0 am_o227 = true := by decide +kernel
theorem am_ck228 : am_ckc 228 0 am_o228 = true := by decide +kernel
theorem am_ck229 : am_ckc 229 0 am_o229 = true := by decide +kernel
theorem am_ck230 : am_ckc 230 0 am_o230 = true := by decide +kernel
theorem am_ck231 : am_ckc 231 0 am_o231 = true := by decide +kernel
theorem am_ck232 : am_ckc 232 0 am_o232 = true := by decide +kernel
theorem am_ck233 : am_ckc 233 0 am_o233 = true := by decide +kernel
theorem am_ck234 : am_ckc 234 0 am_o234 = true := by decide +kernel
theorem am_ck235 : am_ckc 235 0 am_o235 = true := by decide +kernel
theorem am_ck236 : am_ckc 236 0 am_o236 = true := by decide +kernel
theorem am_ck237 : am_ckc 237 0 am_o237 = true := by decide +kernel
theorem am_ck238 : am_ckc 238 0 am_o238 = true := by decide +kernel
theorem am_ck239 : am_ckc 239 0 am_o239 = true := by decide +kernel
theorem am_ck240 : am_ckc 240 0 am_o240 = true := by decide +kernel
theorem am_ck241 : am_ckc 241 0 am_o241 = true := by decide +kernel
theorem am_ck242 : am_ckc 242 0 am_o242 = true := by decide +kernel
theorem am_ck243 : am_ckc 243 0 am_o243 = true := by decide +kernel
theorem am_ck244 : am_ckc 244 0 am_o244 = true := by decide +kernel
theorem am_ck245 : am_ckc 245 0 am_o245 = true := by decide +kernel
theorem am_ck246 : am_ckc 246 0 am_o246 = true := by decide +kernel
theorem am_ck247 : am_ckc 247 0 am_o247 = true := by decide +kernel
theorem am_cq0 : am_ckq 0 [am_o0, am_o1, am_o2, am_o3, am_o4, am_o5, am_o6, am_o7, am_o8, am_o9, am_o10, am_o11, am_o12, am_o13, am_o14, am_o15] = true := by simp only [am_ckq, Nat.reduceAdd, am_ck0, am_ck1, am_ck2, am_ck3, am_ck4, am_ck5, am_ck6, am_ck7, am_ck8, am_ck9, am_ck10, am_ck11, am_ck12, am_ck13, am_ck14, am_ck15, Bool.and_self]
theorem am_cq1 : am_ckq 16 [am_o16, am_o17, am_o18, am_o19, am_o20, am_o21, am_o22, am_o23, am_o24, am_o25, am_o26, am_o27, am_o28, am_o29, am_o30, am_o31] = true := by simp only [am_ckq, Nat.reduceAdd, am_ck16, am_ck17, am_ck18, am_ck19, am_ck20, am_ck21, am_ck22, am_ck23, am_ck24, am_ck25, am_ck26, am_ck27, am_ck28, am_ck29, am_ck30, am_ck31, Bool.and_self]
theorem am_cq2 : am_ckq 32 [am_o32, am_o33, am_o34, am_o35, am_o36, am_o37, am_o38, am_o39, am_o40, am_o41, am_o42, am_o43, am_o44, am_o45, am_o46, am_o47] = true := by simp only [am_ckq, Nat.reduceAdd, am_ck32, am_ck33, am_ck34, am_ck35, am_ck36, am_ck37, am_ck38, am_ck39, am_ck40, am_ck41, am_ck42, am_ck43, am_ck44, am_ck45, am_ck46, am_ck47, Bool.and_self]
theorem am_cq3 : am_ckq 48 [am_o48, am_o49, am_o50, am_o51, am_o52, am_o53, am_o54, am_o55, am_o56, am_o57, am_o58, am_o59, am_o60, am_o61, am_o62, am_o63] = true := by simp only [am_ckq, Nat.reduceAdd, am_ck48, am_ck49, am_ck50, am_ck51, am_ck52, am_ck53, am_ck54, am_ck55, am_ck56, am_ck57, am_ck58, am_ck59, am_ck60, am_ck61, am_ck62, am_ck63, Bool.and_self]
theorem am_cq4 : am_ckq 64 [am_o64, am_o65, am_o66, am_o67, am_o68, am_o69, am_o70, am_o71, am_o72, am_o73, am_o74, am_o75, am_o76, am_o77, am_o78, am_o79] = true := by simp only [am_ckq, Nat.reduceAdd, am_ck64, am_ck65, am_ck66, am_ck67, am_ck68, am_ck69, am_ck70, am_ck71, am_ck72, am_ck73, am_ck74, am_ck75, am_ck76, am_ck77, am_ck78, am_ck79, Bool.and_self]
theorem am_cq5 : am_ckq 80 [am_o80, am_o81, am_o82, am_o83, am_o84, am_o85, am_o86, am_o87, am_o88, am_o89, am_o90, am_o91, am_o92, am_o93, am_o94, am_o95] = true := by simp only [am_ckq, Nat.reduceAdd, am_ck80, am_ck81, am_ck82, am_ck83, am_ck84, am_ck85, am_ck86, am_ck87, am_ck88, am_ck89, am_ck90, am_ck91, am_ck92, am_ck93, am_ck94, am_ck95, Bool.and_self]
theorem am_cq6 : am_ckq 96 [am_o96, am_o97, am_o98, am_o99, am_o100, am_o101, am_o102, am_o103, am_o104, am_o105, am_o106, am_o107, am_o108, am_o109, am_o110, am_o111] = true := by simp only [am_ckq, Nat.reduceAdd, am_ck96, am_ck97, am_ck98, am_ck99, am_ck100, am_ck101, am_ck102, am_ck103, am_ck104, am_ck105, am_ck106, am_ck107, am_ck108, am_ck109, am_ck110, am_ck111, Bool.and_self]
theorem am_cq7 : am_ckq 112 [am_o112, am_o113, am_o114, am_o115, am_o116, am_o117, am_o118, am_o119, am_o120, am_o121, am_o122, am_o123, am_o124, am_o125, am_o126, am_o127] = true := by simp only [am_ckq, Nat.reduceAdd, am_ck112, am_ck113, am_ck114, am_ck115, am_ck116, am_ck117, am_ck118, am_ck119, am_ck120, am_ck121, am_ck122, am_ck123, am_ck124, am_ck125, am_ck126, am_ck127, Bool.and_self]
theorem am_cq8 : am_ckq 128 [am_o128, am_o129, am_o130, am_o131, am_o132, am_o133, am_o134, am_o135, am_o136, am_o137, am_o138, am_o139, am_o140, am_o141, am_o142, am_o143] = true := by simp only [am_ckq, Nat.reduceAdd, am_ck128, am_ck129, am_ck130, am_ck131, am_ck132, am_ck133, am_ck134, am_ck135, am_ck136, am_ck137, am_ck138, am_ck139, am_ck140, am_ck141, am_ck142, am_ck143, Bool.and_self]
theorem am_cq9 : am_ckq 144 [am_o144, am_o145, am_o146, am_o147, am_o148, am_o149, am_o150, am_o151, am_o152, am_o153, am_o154, am_o155, am_o156, am_o157, am_o158, am_o159] = true := by simp only [am_ckq, Nat.reduceAdd, am_ck144, am_ck145, am_ck146, am_ck147, am_ck148, am_ck149, am_ck150, am_ck151, am_ck152, am_ck153, am_ck154, am_ck155, am_ck156, am_ck157, am_ck158, am_ck159, Bool.and_self]
theorem am_cq10 : am_ckq 160 [am_o160, am_o161, am_o162, am_o163, am_o164, am_o165, am_o166, am_o167, am_o168, am_o169, am_o170, am_o171, am_o172, am_o173, am_o174, am_o175] = true := by simp only [am_ckq, Nat.reduceAdd, am_ck160, am_ck161, am_ck162, am_ck163, am_ck164, am_ck165, am_ck166, am_ck167, am_ck168, am_ck169, am_ck170, am_ck171, am_ck172, am_ck173, am_ck174, am_ck175, Bool.and_self]
theorem am_cq11 : am_ckq 176 [am_o176, am_o177, am_o178, am_o179, am_o180, am_o181, am_o182, am_o183, am_o184, am_o185, am_o186, am_o187, am_o188, am_o189, am_o190, am_o191] = true := by simp only [am_ckq, Nat.reduceAdd, am_ck176, am_ck177, am_ck178, am_ck179, am_ck180, am_ck181, am_ck182, am_ck183, am_ck184, am_ck185, am_ck186, am_ck187, am_ck188, am_ck189, am_ck190, am_ck191, Bool.and_self]
theorem am_cq12 : am_ckq 192 [am_o192, am_o193, am_o194, am_o195, am_o196, am_o197, am_o198, am_o199, am_o200, am_o201, am_o202, am_o203, am_o204, am_o205, am_o206, am_o207] = true := by simp only [am_ckq, Nat.reduceAdd, am_ck192, am_ck193, am_ck194, am_ck195, am_ck196, am_ck197, am_ck198, am_ck199, am_ck200, am_ck201, am_ck202, am_ck203, am_ck204, am_ck205, am_ck206, am_ck207, Bool.and_self]
theorem am_cq13 : am_ckq 208 [am_o208, am_o209, am_o210, am_o211, am_o212, am_o213, am_o214, am_o215, am_o216, am_o217, am_o218, am_o219, am_o220, am_o221, am_o222, am_o223] = true := by simp only [am_ckq, Nat.reduceAdd, am_ck208, am_ck209, am_ck210, am_ck211, am_ck212, am_ck213, am_ck214, am_ck215, am_ck216, am_ck217, am_ck218, am_ck219, am_ck220, am_ck221, am_ck222, am_ck223, Bool.and_self]
theorem am_cq14 : am_ckq 224 [am_o224, am_o225, am_o226, am_o227, am_o228, am_o229, am_o230, am_o231, am_o232, am_o233, am_o234, am_o235, am_o236, am_o237, am_o238, am_o239] = true := by simp only [am_ckq, Nat.reduceAdd, am_ck224, am_ck225, am_ck226, am_ck227, am_ck228, am_ck229, am_ck230, am_ck231, am_ck232, am_ck233, am_ck234, am_ck235, am_ck236, am_ck237, am_ck238, am_ck239, Bool.and_self]
theorem am_cq15 : am_ckq 240 [am_o240, am_o241, am_o242, am_o243, am_o244, am_o245, am_o246, am_o247] = true := by simp only [am_ckq, Nat.reduceAdd, am_ck240, am_ck241, am_ck242, am_ck243, am_ck244, am_ck245, am_ck246, am_ck247, Bool.and_self]
theorem am_ck_all : am_cka 0 am_oL = true := by
  simp only [am_oL, am_cka, Nat.reduceAdd, Nat.reduceMul, am_cq0, am_cq1, am_cq2, am_cq3, am_cq4, am_cq5, am_cq6, am_cq7, am_cq8, am_cq9, am_cq10, am_cq11, am_cq12, am_cq13, am_cq14, am_cq15, Bool.and_self]
theorem am_ok_op {m pc : Nat} {op : am_Op} (h : am_op m pc = some op) : am_okop m pc op = true := by
  have h2 := am_cka_at am_oL 0 (m / 16) am_ck_all h
  rwa [show 16 * (0 + m / 16) + m % 16 = m by omega, show 16 * (pc / 16) + pc % 16 = pc by omega] at h2
theorem am_okm1 : am_okm 1 = true := by decide +kernel
theorem am_okm2 : am_okm 2 = true := by decide +kernel
theorem am_okm3 : am_okm 3 = true := by decide +kernel
theorem am_okm4 : am_okm 4 = true := by decide +kernel
theorem am_okm5 : am_okm 5 = true := by decide +kernel
theorem am_okm6 : am_okm 6 = true := by decide +kernel
theorem am_okm7 : am_okm 7 = true := by decide +kernel
theorem am_okm8 : am_okm 8 = true := by decide +kernel
theorem am_okm9 : am_okm 9 = true := by decide +kernel
theorem am_okm10 : am_okm 10 = true := by decide +kernel
theorem am_okm11 : am_okm 11 = true := by decide +kernel
theorem am_okm12 : am_okm 12 = true := by decide +kernel
theorem am_okm13 : am_okm 13 = true := by decide +kernel
theorem am_okm14 : am_okm 14 = true := by decide +kernel
theorem am_okm15 : am_okm 15 = true := by decide +kernel
theorem am_okm16 : am_okm 16 = true := by decide +kernel
theorem am_okm17 : am_okm 17 = true := by decide +kernel
theorem am_okm18 : am_okm 18 = true := by decide +kernel
theorem am_okm19 : am_okm 19 = true := by decide +kernel
theorem am_okm20 : am_okm 20 = true := by decide +kernel
theorem am_okm21 : am_okm 21 = true := by decide +kernel
theorem am_okm22 : am_okm 22 = true := by decide +kernel
theorem am_okm23 : am_okm 23 = true := by decide +kernel
theorem am_okm24 : am_okm 24 = true := by decide +kernel
theorem am_okm25 : am_okm 25 = true := by decide +kernel
theorem am_okm26 : am_okm 26 = true := by decide +kernel
theorem am_okm27 : am_okm 27 = true := by decide +kernel
theorem am_okm28 : am_okm 28 = true := by decide +kernel
theorem am_okm29 : am_okm 29 = true := by decide +kernel
theorem am_okm30 : am_okm 30 = true := by decide +kernel
theorem am_okm31 : am_okm 31 = true := by decide +kernel
theorem am_okm32 : am_okm 32 = true := by decide +kernel
theorem am_okm33 : am_okm 33 = true := by decide +kernel
theorem am_okm34 : am_okm 34 = true := by decide +kernel
theorem am_okm35 : am_okm 35 = true := by decide +kernel
theorem am_okm36 : am_okm 36 = true := by decide +kernel
theorem am_okm37 : am_okm 37 = true := by decide +kernel
theorem am_okm38 : am_okm 38 = true := by decide +kernel
theorem am_okm39 : am_okm 39 = true := by decide +kernel
theorem am_okm40 : am_okm 40 = true := by decide +kernel
theorem am_okm41 : am_okm 41 = true := by decide +kernel
theorem am_okm42 : am_okm 42 = true := by decide +kernel
theorem am_okm43 : am_okm 43 = true := by decide +kernel
theorem am_okm44 : am_okm 44 = true := by decide +kernel
theorem am_okm45 : am_okm 45 = true := by decide +kernel
theorem am_okm46 : am_okm 46 = true := by decide +kernel
theorem am_okm47 : am_okm 47 = true := by decide +kernel
theorem am_okm48 : am_okm 48 = true := by decide +kernel
theorem am_okm49 : am_okm 49 = true := by decide +kernel
theorem am_okm50 : am_okm 50 = true := by decide +kernel
theorem am_okm51 : am_okm 51 = true := by decide +kernel
theorem am_okm52 : am_okm 52 = true := by decide +kernel
theorem am_okm53 : am_okm 53 = true := by decide +kernel
theorem am_okm54 : am_okm 54 = true := by decide +kernel
theorem am_okm55 : am_okm 55 = true := by decide +kernel
theorem am_okm56 : am_okm 56 = true := by decide +kernel
theorem am_okm57 : am_okm 57 = true := by decide +kernel
theorem am_okm58 : am_okm 58 = true := by decide +kernel
theorem am_okm59 : am_okm 59 = true := by decide +kernel
theorem am_okm60 : am_okm 60 = true := by decide +kernel
theorem am_okm61 : am_okm 61 = true := by decide +kernel
theorem am_okm62 : am_okm 62 = true := by decide +kernel
theorem am_okm63 : am_okm 63 = true := by decide +kernel
theorem am_okm64 : am_okm 64 = true := by decide +kernel
theorem am_okm65 : am_okm 65 = true := by decide +kernel
theorem am_okm66 : am_okm 66 = true := by decide +kernel
theorem am_okm67 : am_okm 67 = true := by decide +kernel
theorem am_okm68 : am_okm 68 = true := by decide +kernel
theorem am_okm69 : am_okm 69 = true := by decide +kernel
theorem am_okm70 : am_okm 70 = true := by decide +kernel
theorem am_okm71 : am_okm 71 = true := by decide +kernel
theorem am_okm72 : am_okm 72 = true := by decide +kernel
theorem am_okm73 : am_okm 73 = true := by decide +kernel
theorem am_okm74 : am_okm 74 = true := by decide +kernel
theorem am_okm75 : am_okm 75 = true := by decide +kernel
theorem am_okm76 : am_okm 76 = true := by decide +kernel
theorem am_okm77 : am_okm 77 = true := by decide +kernel
theorem am_okm78 : am_okm 78 = true := by decide +kernel
theorem am_okm79 : am_okm 79 = true := by decide +kernel
theorem am_okm80 : am_okm 80 = true := by decide +kernel
theorem am_okm81 : am_okm 81 = true := by decide +kernel
theorem am_okm82 : am_okm 82 = true := by decide +kernel
theorem am_okm83 : am_okm 83 = true := by decide +kernel
theorem am_okm84 : am_okm 84 = true := by decide +kernel
theorem am_okm85 : am_okm 85 = true := by decide +kernel
theorem am_okm86 : am_okm 86 = true := by decide +kernel
theorem am_okm87 : am_okm 87 = true := by decide +kernel
theorem am_okm88 : am_okm 88 = true := by decide +kernel
theorem am_okm89 : am_okm 89 = true := by decide +kernel
theorem am_okm90 : am_okm 90 = true := by decide +kernel
theorem am_okm91 : am_okm 91 = true := by decide +kernel
theorem am_okm92 : am_okm 92 = true := by decide +kernel
theorem am_okm93 : am_okm 93 = true := by decide +kernel
theorem am_okm94 : am_okm 94 = true := by decide +kernel
theorem am_okm95 : am_okm 95 = true := by decide +kernel
theorem am_okm96 : am_okm 96 = true := by decide +kernel
theorem am_okm97 : am_okm 97 = true := by decide +kernel
theorem am_okm98 : am_okm 98 = true := by decide +kernel
theorem am_okm99 : am_okm 99 = true := by decide +kernel
theorem am_okm100 : am_okm 100 = true := by decide +kernel
theorem am_okm101 : am_okm 101 = true := by decide +kernel
theorem am_okm102 : am_okm 102 = true := by decide +kernel
theorem am_okm103 : am_okm 103 = true := by decide +kernel
theorem am_okm104 : am_okm 104 = true := by decide +kernel
theorem am_okm105 : am_okm 105 = true := by decide +kernel
theorem am_okm106 : am_okm 106 = true := by decide +kernel
theorem am_okm107 : am_okm 107 = true := by decide +kernel
theorem am_okm108 : am_okm 108 = true := by decide +kernel
theorem am_okm109 : am_okm 109 = true := by decide +kernel
theorem am_okm110 : am_okm 110 = true := by decide +kernel
theorem am_okm111 : am_okm 111 = true := by decide +kernel
theorem am_okm112 : am_okm 112 = true := by decide +kernel
theorem am_okm113 : am_okm 113 = true := by decide +kernel
theorem am_okm114 : am_okm 114 = true := by decide +kernel
theorem am_okm115 : am_okm 115 = true := by decide +kernel
theorem am_okm116 : am_okm 116 = true := by decide +kernel
theorem am_okm117 : am_okm 117 = true := by decide +kernel
theorem am_okm118 : am_okm 118 = true := by decide +kernel
theorem am_okm119 : am_okm 119 = true := by decide +kernel
theorem am_okm120 : am_okm 120 = true := by decide +kernel
theorem am_okm121 : am_okm 121 = true := by decide +kernel
theorem am_okm122 : am_okm 122 = true := by decide +kernel
theorem am_okm123 : am_okm 123 = true := by decide +kernel
theorem am_okm124 : am_okm 124 = true := by decide +kernel
theorem am_okm125 : am_okm 125 = true := by decide +kernel
theorem am_okm126 : am_okm 126 = true := by decide +kernel
theorem am_okm127 : am_okm 127 = true := by decide +kernel
theorem am_okm128 : am_okm 128 = true := by decide +kernel
theorem am_okm129 : am_okm 129 = true := by decide +kernel
theorem am_okm130 : am_okm 130 = true := by decide +kernel
theorem am_okm131 : am_okm 131 = true := by decide +kernel
theorem am_okm132 : am_okm 132 = true := by decide +kernel
theorem am_okm133 : am_okm 133 = true := by decide +kernel
theorem am_okm134 : am_okm 134 = true := by decide +kernel
theorem am_okm135 : am_okm 135 = true := by decide +kernel
theorem am_okm136 : am_okm 136 = true := by decide +kernel
theorem am_okm137 : am_okm 137 = true := by decide +kernel
theorem am_okm138 : am_okm 138 = true := by decide +kernel
theorem am_okm139 : am_okm 139 = true := by decide +kernel
theorem am_okm140 : am_okm 140 = true := by decide +kernel
theorem am_okm141 : am_okm 141 = true := by decide +kernel
theorem am_okm142 : am_okm 142 = true := by decide +kernel
theorem am_okm143 : am_okm 143 = true := by decide +kernel
theorem am_okm144 : am_okm 144 = true := by decide +kernel
theorem am_okm145 : am_okm 145 = true := by decide +kernel
theorem am_okm146 : am_okm 146 = true := by decide +kernel
theorem am_okm147 : am_okm 147 = true := by decide +kernel
theorem am_okm148 : am_okm 148 = true := by decide +kernel
theorem am_okm149 : am_okm 149 = true := by decide +kernel
theorem am_okm150 : am_okm 150 = true := by decide +kernel
theorem am_okm151 : am_okm 151 = true := by decide +kernel
theorem am_okm152 : am_okm 152 = true := by decide +kernel
theorem am_okm153 : am_okm 153 = true := by decide +kernel
theorem am_okm154 : am_okm 154 = true := by decide +kernel
theorem am_okm155 : am_okm 155 = true := by decide +kernel
theorem am_okm156 : am_okm 156 = true := by decide +kernel
theorem am_okm157 : am_okm 157 = true := by decide +kernel
theorem am_okm158 : am_okm 158 = true := by decide +kernel
theorem am_okm159 : am_okm 159 = true := by decide +kernel
theorem am_okm160 : am_okm 160 = true := by decide +kernel
theorem am_okm161 : am_okm 161 = true := by decide +kernel
theorem am_okm162 : am_okm 162 = true := by decide +kernel
theorem am_okm163 : am_okm 163 = true := by decide +kernel
theorem am_okm164 : am_okm 164 = true := by decide +kernel
theorem am_okm165 : am_okm 165 = true := by decide +kernel
theorem am_okm166 : am_okm 166 = true := by decide +kernel
theorem am_okm167 : am_okm 167 = true := by decide +kernel
theorem am_okm168 : am_okm 168 = true := by decide +kernel
theorem am_okm169 : am_okm 169 = true := by decide +kernel
theorem am_okm170 : am_okm 170 = true := by decide +kernel
theorem am_okm171 : am_okm 171 = true := by decide +kernel
theorem am_okm172 : am_okm 172 = true := by decide +kernel
theorem am_okm173 : am_okm 173 = true := by decide +kernel
theorem am_okm174 : am_okm 174 = true := by decide +kernel
theorem am_okm175 : am_okm 175 = true := by decide +kernel
theorem am_okm176 : am_okm 176 = true := by decide +kernel
theorem am_okm177 : am_okm 177 = true := by decide +kernel
theorem am_okm178 : am_okm 178 = true := by decide +kernel
theorem am_okm179 : am_okm 179 = true := by decide +kernel
theorem am_okm180 : am_okm 180 = true := by decide +kernel
theorem am_okm181 : am_okm 181 = true := by decide +kernel
theorem am_okm182 : am_okm 182 = true := by decide +kernel
theorem am_okm183 : am_okm 183 = true := by decide +kernel
theorem am_okm184 : am_okm 184 = true := by decide +kernel
theorem am_okm185 : am_okm 185 = true := by decide +kernel
theorem am_okm186 : am_okm 186 = true := by decide +kernel
theorem am_okm187 : am_okm 187 = true := by decide +kernel
theorem am_okm188 : am_okm 188 = true := by decide +kernel
theorem am_okm189 : am_okm 189 = true := by decide +kernel
theorem am_okm190 : am_okm 190 = true := by decide +kernel
theorem am_okm191 : am_okm 191 = true := by decide +kernel
theorem am_okm192 : am_okm 192 = true := by decide +kernel
theorem am_okm193 : am_okm 193 = true := by decide +kernel
theorem am_okm194 : am_okm 194 = true := by decide +kernel
theorem am_okm195 : am_okm 195 = true := by decide +kernel
theorem am_okm196 : am_okm 196 = true := by decide +kernel
theorem am_okm197 : am_okm 197 = true := by decide +kernel
theorem am_okm198 : am_okm 198 = true := by decide +kernel
theorem am_okm199 : am_okm 199 = true := by decide +kernel
theorem am_okm200 : am_okm 200 = true := by decide +kernel
theorem am_okm201 : am_okm 201 = true := by decide +kernel
theorem am_okm202 : am_okm 202 = true := by decide +kernel
theorem am_okm203 : am_okm 203 = true := by decide +kernel
theorem am_okm204 : am_okm 204 = true := by decide +kernel
theorem am_okm205 : am_okm 205 = true := by decide +kernel
theorem am_okm206 : am_okm 206 = true := by decide +kernel
theorem am_okm207 : am_okm 207 = true := by decide +kernel
theorem am_okm208 : am_okm 208 = true := by decide +kernel
theorem am_okm209 : am_okm 209 = true := by decide +kernel
theorem am_okm210 : am_okm 210 = true := by decide +kernel
theorem am_okm211 : am_okm 211 = true := by decide +kernel
theorem am_okm212 : am_okm 212 = true := by decide +kernel
theorem am_okm213 : am_okm 213 = true := by decide +kernel
theorem am_okm214 : am_okm 214 = true := by decide +kernel
theorem am_okm215 : am_okm 215 = true := by decide +kernel
theorem am_okm216 : am_okm 216 = true := by decide +kernel
theorem am_okm217 : am_okm 217 = true := by decide +kernel
theorem am_okm218 : am_okm 218 = true := by decide +kernel
theorem am_okm219 : am_okm 219 = true := by decide +kernel
theorem am_okm220 : am_okm 220 = true := by decide +kernel
theorem am_okm221 : am_okm 221 = true := by decide +kernel
theorem am_okm222 : am_okm 222 = true := by decide +kernel
theorem am_okm223 : am_okm 223 = true := by decide +kernel
theorem am_okm224 : am_okm 224 = true := by decide +kernel
theorem am_okm225 : am_okm 225 = true := by decide +kernel
theorem am_okm226 : am_okm 226 = true := by decide +kernel
theorem am_okm227 : am_okm 227 = true := by decide +kernel
theorem am_okm228 : am_okm 228 = true := by decide +kernel
theorem am_okm229 : am_okm 229 = true := by decide +kernel
theorem am_okm230 : am_okm 230 = true := by decide +kernel
theorem am_okm231 : am_okm 231 = true := by decide +kernel
theorem am_okm232 : am_okm 232 = true := by decide +kernel
theorem am_okm233 : am_okm 233 = true := by decide +kernel
theorem am_okm234 : am_okm 234 = true := by decide +kernel
theorem am_okm235 : am_okm 235 = true := by decide +kernel
theorem am_okm236 : am_okm 236 = true := by decide +kernel
theorem am_okm237 : am_okm 237 = true := by decide +kernel
theorem am_okm238 : am_okm 238 = true := by decide +kernel
theorem am_okm239 : am_okm 239 = true := by decide +kernel
theorem am_okm240 : am_okm 240 = true := by decide +kernel
theorem am_okm241 : am_okm 241 = true := by decide +kernel
theorem am_okm242 : am_okm 242 = true := by decide +kernel
theorem am_okm243 : am_okm 243 = true := by decide +kernel
theorem am_okm244 : am_okm 244 = true := by decide +kernel
theorem am_okm245 : am_okm 245 = true := by decide +kernel
/-- all methods up to a number -/
noncomputable def am_okl : Nat → Bool
  | 0 => true
  | m + 1 => am_okl m && am_okm (m + 1)
theorem am_okl_at : ∀ n m, am_okl n = true → 0 < m → m ≤ n → am_okm m = true
  | 0, m, _, h1, h2 => by omega
  | n + 1, m, h, h1, h2 => by
    simp only [am_okl, Bool.and_eq_true] at h
    rcases Nat.lt_or_ge m (n + 1) with q | q
    · exact am_okl_at n m h.1 h1 (by omega)
    · rw [show m = n + 1 by omega]; exact h.2
theorem am_okl_0 : am_okl 0 = true := rfl
theorem am_okl_1 : am_okl 1 = true := by rw [am_okl, am_okl_0, am_okm1]; rfl
theorem am_okl_2 : am_okl 2 = true := by rw [am_okl, am_okl_1, am_okm2]; rfl
theorem am_okl_3 : am_okl 3 = true := by rw [am_okl, am_okl_2, am_okm3]; rfl
theorem am_okl_4 : am_okl 4 = true := by rw [am_okl, am_okl_3, am_okm4]; rfl
theorem am_okl_5 : am_okl 5 = true := by rw [am_okl, am_okl_4, am_okm5]; rfl
theorem am_okl_6 : am_okl 6 = true := by rw [am_okl, am_okl_5, am_okm6]; rfl
theorem am_okl_7 : am_okl 7 = true := by rw [am_okl, am_okl_6, am_okm7]; rfl
theorem am_okl_8 : am_okl 8 = true := by rw [am_okl, am_okl_7, am_okm8]; rfl
theorem am_okl_9 : am_okl 9 = true := by rw [am_okl, am_okl_8, am_okm9]; rfl
theorem am_okl_10 : am_okl 10 = true := by rw [am_okl, am_okl_9, am_okm10]; rfl
theorem am_okl_11 : am_okl 11 = true := by rw [am_okl, am_okl_10, am_okm11]; rfl
theorem am_okl_12 : am_okl 12 = true := by rw [am_okl, am_okl_11, am_okm12]; rfl
theorem am_okl_13 : am_okl 13 = true := by rw [am_okl, am_okl_12, am_okm13]; rfl
theorem am_okl_14 : am_okl 14 = true := by rw [am_okl, am_okl_13, am_okm14]; rfl
theorem am_okl_15 : am_okl 15 = true := by rw [am_okl, am_okl_14, am_okm15]; rfl
theorem am_okl_16 : am_okl 16 = true := by rw [am_okl, am_okl_15, am_okm16]; rfl
theorem am_okl_17 : am_okl 17 = true := by rw [am_okl, am_okl_16, am_okm17]; rfl
theorem am_okl_18 : am_okl 18 = true := by rw [am_okl, am_okl_17, am_okm18]; rfl
theorem am_okl_19 : am_okl 19 = true := by rw [am_okl, am_okl_18, am_okm19]; rfl
theorem am_okl_20 : am_okl 20 = true := by rw [am_okl, am_okl_19, am_okm20]; rfl
theorem am_okl_21 : am_okl 21 = true := by rw [am_okl, am_okl_20, am_okm21]; rfl
theorem am_okl_22 : am_okl 22 = true := by rw [am_okl, am_okl_21, am_okm22]; rfl
theorem am_okl_23 : am_okl 23 = true := by rw [am_okl, am_okl_22, am_okm23]; rfl
theorem am_okl_24 : am_okl 24 = true := by rw [am_okl, am_okl_23, am_okm24]; rfl
theorem am_okl_25 : am_okl 25 = true := by rw [am_okl, am_okl_24, am_okm25]; rfl
theorem am_okl_26 : am_okl 26 = true := by rw [am_okl, am_okl_25, am_okm26]; rfl
theorem am_okl_27 : am_okl 27 = true := by rw [am_okl, am_okl_26, am_okm27]; rfl
theorem am_okl_28 : am_okl 28 = true := by rw [am_okl, am_okl_27, am_okm28]; rfl
theorem am_okl_29 : am_okl 29 = true := by rw [am_okl, am_okl_28, am_okm29]; rfl
theorem am_okl_30 : am_okl 30 = true := by rw [am_okl, am_okl_29, am_okm30]; rfl
theorem am_okl_31 : am_okl 31 = true := by rw [am_okl, am_okl_30, am_okm31]; rfl
theorem am_okl_32 : am_okl 32 = true := by rw [am_okl, am_okl_31, am_okm32]; rfl
theorem am_okl_33 : am_okl 33 = true := by rw [am_okl, am_okl_32, am_okm33]; rfl
theorem am_okl_34 : am_okl 34 = true := by rw [am_okl, am_okl_33, am_okm34]; rfl
theorem am_okl_35 : am_okl 35 = true := by rw [am_okl, am_okl_34, am_okm35]; rfl
theorem am_okl_36 : am_okl 36 = true := by rw [am_okl, am_okl_35, am_okm36]; rfl
theorem am_okl_37 : am_okl 37 = true := by rw [am_okl, am_okl_36, am_okm37]; rfl
theorem am_okl_38 : am_okl 38 = true := by rw [am_okl, am_okl_37, am_okm38]; rfl
theorem am_okl_39 : am_okl 39 = true := by rw [am_okl, am_okl_38, am_okm39]; rfl
theorem am_okl_40 : am_okl 40 = true := by rw [am_okl, am_okl_39, am_okm40]; rfl
theorem am_okl_41 : am_okl 41 = true := by rw [am_okl, am_okl_40, am_okm41]; rfl
theorem am_okl_42 : am_okl 42 = true := by rw [am_okl, am_okl_41, am_okm42]; rfl
theorem am_okl_43 : am_okl 43 = true := by rw [am_okl, am_okl_42, am_okm43]; rfl
theorem am_okl_44 : am_okl 44 = true := by rw [am_okl, am_okl_43, am_okm44]; rfl
theorem am_okl_45 : am_okl 45 = true := by rw [am_okl, am_okl_44, am_okm45]; rfl
theorem am_okl_46 : am_okl 46 = true := by rw [am_okl, am_okl_45, am_okm46]; rfl
theorem am_okl_47 : am_okl 47 = true := by rw [am_okl, am_okl_46, am_okm47]; rfl
theorem am_okl_48 : am_okl 48 = true := by rw [am_okl, am_okl_47, am_okm48]; rfl
theorem am_okl_49 : am_okl 49 = true := by rw [am_okl, am_okl_48, am_okm49]; rfl
theorem am_okl_50 : am_okl 50 = true := by rw [am_okl, am_okl_49, am_okm50]; rfl
theorem am_okl_51 : am_okl 51 = true := by rw [am_okl, am_okl_50, am_okm51]; rfl
theorem am_okl_52 : am_okl 52 = true := by rw [am_okl, am_okl_51, am_okm52]; rfl
theorem am_okl_53 : am_okl 53 = true := by rw [am_okl, am_okl_52, am_okm53]; rfl
theorem am_okl_54 : am_okl 54 = true := by rw [am_okl, am_okl_53, am_okm54]; rfl
theorem am_okl_55 : am_okl 55 = true := by rw [am_okl, am_okl_54, am_okm55]; rfl
theorem am_okl_56 : am_okl 56 = true := by rw [am_okl, am_okl_55, am_okm56]; rfl
theorem am_okl_57 : am_okl 57 = true := by rw [am_okl, am_okl_56, am_okm57]; rfl
theorem am_okl_58 : am_okl 58 = true := by rw [am_okl, am_okl_57, am_okm58]; rfl
theorem am_okl_59 : am_okl 59 = true := by rw [am_okl, am_okl_58, am_okm59]; rfl
theorem am_okl_60 : am_okl 60 = true := by rw [am_okl, am_okl_59, am_okm60]; rfl
theorem am_okl_61 : am_okl 61 = true := by rw [am_okl, am_okl_60, am_okm61]; rfl
theorem am_okl_62 : am_okl 62 = true := by rw [am_okl, am_okl_61, am_okm62]; rfl
theorem am_okl_63 : am_okl 63 = true := by rw [am_okl, am_okl_62, am_okm63]; rfl
theorem am_okl_64 : am_okl 64 = true := by rw [am_okl, am_okl_63, am_okm64]; rfl
theorem am_okl_65 : am_okl 65 = true := by rw [am_okl, am_okl_64, am_okm65]; rfl
theorem am_okl_66 : am_okl 66 = true := by rw [am_okl, am_okl_65, am_okm66]; rfl
theorem am_okl_67 : am_okl 67 = true := by rw [am_okl, am_okl_66, am_okm67]; rfl
theorem am_okl_68 : am_okl 68 = true := by rw [am_okl, am_okl_67, am_okm68]; rfl
theorem am_okl_69 : am_okl 69 = true := by rw [am_okl, am_okl_68, am_okm69]; rfl
theorem am_okl_70 : am_okl 70 = true := by rw [am_okl, am_okl_69, am_okm70]; rfl
theorem am_okl_71 : am_okl 71 = true := by rw [am_okl, am_okl_70, am_okm71]; rfl
theorem am_okl_72 : am_okl 72 = true := by rw [am_okl, am_okl_71, am_okm72]; rfl
theorem am_okl_73 : am_okl 73 = true := by rw [am_okl, am_okl_72, am_okm73]; rfl
theorem am_okl_74 : am_okl 74 = true := by rw [am_okl, am_okl_73, am_okm74]; rfl
theorem am_okl_75 : am_okl 75 = true := by rw [am_okl, am_okl_74, am_okm75]; rfl
theorem am_okl_76 : am_okl 76 = true := by rw [am_okl, am_okl_75, am_okm76]; rfl
theorem am_okl_77 : am_okl 77 = true := by rw [am_okl, am_okl_76, am_okm77]; rfl
theorem am_okl_78 : am_okl 78 = true := by rw [am_okl, am_okl_77, am_okm78]; rfl
theorem am_okl_79 : am_okl 79 = true := by rw [am_okl, am_okl_78, am_okm79]; rfl
theorem am_okl_80 : am_okl 80 = true := by rw [am_okl, am_okl_79, am_okm80]; rfl
theorem am_okl_81 : am_okl 81 = true := by rw [am_okl, am_okl_80, am_okm81]; rfl
theorem am_okl_82 : am_okl 82 = true := by rw [am_okl, am_okl_81, am_okm82]; rfl
theorem am_okl_83 : am_okl 83 = true := by rw [am_okl, am_okl_82, am_okm83]; rfl
theorem am_okl_84 : am_okl 84 = true := by rw [am_okl, am_okl_83, am_okm84]; rfl
theorem am_okl_85 : am_okl 85 = true := by rw [am_okl, am_okl_84, am_okm85]; rfl
theorem am_okl_86 : am_okl 86 = true := by rw [am_okl, am_okl_85, am_okm86]; rfl
theorem am_okl_87 : am_okl 87 = true := by rw [am_okl, am_okl_86, am_okm87]; rfl
theorem am_okl_88 : am_okl 88 = true := by rw [am_okl, am_okl_87, am_okm88]; rfl
theorem am_okl_89 : am_okl 89 = true := by rw [am_okl, am_okl_88, am_okm89]; rfl
theorem am_okl_90 : am_okl 90 = true := by rw [am_okl, am_okl_89, am_okm90]; rfl
theorem am_okl_91 : am_okl 91 = true := by rw [am_okl, am_okl_90, am_okm91]; rfl
theorem am_okl_92 : am_okl 92 = true := by rw [am_okl, am_okl_91, am_okm92]; rfl
theorem am_okl_93 : am_okl 93 = true := by rw [am_okl, am_okl_92, am_okm93]; rfl
theorem am_okl_94 : am_okl 94 = true := by rw [am_okl, am_okl_93, am_okm94]; rfl
theorem am_okl_95 : am_okl 95 = true := by rw [am_okl, am_okl_94, am_okm95]; rfl
theorem am_okl_96 : am_okl 96 = true := by rw [am_okl, am_okl_95, am_okm96]; rfl
theorem am_okl_97 : am_okl 97 = true := by rw [am_okl, am_okl_96, am_okm97]; rfl
theorem am_okl_98 : am_okl 98 = true := by rw [am_okl, am_okl_97, am_okm98]; rfl
theorem am_okl_99 : am_okl 99 = true := by rw [am_okl, am_okl_98, am_okm99]; rfl
theorem am_okl_100 : am_okl 100 = true := by rw [am_okl, am_okl_99, am_okm100]; rfl
theorem am_okl_101 : am_okl 101 = true := by rw [am_okl, am_okl_100, am_okm101]; rfl
theorem am_okl_102 : am_okl 102 = true := by rw [am_okl, am_okl_101, am_okm102]; rfl
theorem am_okl_103 : am_okl 103 = true := by rw [am_okl, am_okl_102, am_okm103]; rfl
theorem am_okl_104 : am_okl 104 = true := by rw [am_okl, am_okl_103, am_okm104]; rfl
theorem am_okl_105 : am_okl 105 = true := by rw [am_okl, am_okl_104, am_okm105]; rfl
theorem am_okl_106 : am_okl 106 = true := by rw [am_okl, am_okl_105, am_okm106]; rfl
theorem am_okl_107 : am_okl 107 = true := by rw [am_okl, am_okl_106, am_okm107]; rfl
theorem am_okl_108 : am_okl 108 = true := by rw [am_okl, am_okl_107, am_okm108]; rfl
theorem am_okl_109 : am_okl 109 = true := by rw [am_okl, am_okl_108, am_okm109]; rfl
theorem am_okl_110 : am_okl 110 = true := by rw [am_okl, am_okl_109, am_okm110]; rfl
theorem am_okl_111 : am_okl 111 = true := by rw [am_okl, am_okl_110, am_okm111]; rfl
theorem am_okl_112 : am_okl 112 = true := by rw [am_okl, am_okl_111, am_okm112]; rfl
theorem am_okl_113 : am_okl 113 = true := by rw [am_okl, am_okl_112, am_okm113]; rfl
theorem am_okl_114 : am_okl 114 = true := by rw [am_okl, am_okl_113, am_okm114]; rfl
theorem am_okl_115 : am_okl 115 = true := by rw [am_okl, am_okl_114, am_okm115]; rfl
theorem am_okl_116 : am_okl 116 = true := by rw [am_okl, am_okl_115, am_okm116]; rfl
theorem am_okl_117 : am_okl 117 = true := by rw [am_okl, am_okl_116, am_okm117]; rfl
theorem am_okl_118 : am_okl 118 = true := by rw [am_okl, am_okl_117, am_okm118]; rfl
theorem am_okl_119 : am_okl 119 = true := by rw [am_okl, am_okl_118, am_okm119]; rfl
theorem am_okl_120 : am_okl 120 = true := by rw [am_okl, am_okl_119, am_okm120]; rfl
theorem am_okl_121 : am_okl 121 = true := by rw [am_okl, am_okl_120, am_okm121]; rfl
theorem am_okl_122 : am_okl 122 = true := by rw [am_okl, am_okl_121, am_okm122]; rfl
theorem am_okl_123 : am_okl 123 = true := by rw [am_okl, am_okl_122, am_okm123]; rfl
theorem am_okl_124 : am_okl 124 = true := by rw [am_okl, am_okl_123, am_okm124]; rfl
theorem am_okl_125 : am_okl 125 = true := by rw [am_okl, am_okl_124, am_okm125]; rfl
theorem am_okl_126 : am_okl 126 = true := by rw [am_okl, am_okl_125, am_okm126]; rfl
theorem am_okl_127 : am_okl 127 = true := by rw [am_okl, am_okl_126, am_okm127]; rfl
theorem am_okl_128 : am_okl 128 = true := by rw [am_okl, am_okl_127, am_okm128]; rfl
theorem am_okl_129 : am_okl 129 = true := by rw [am_okl, am_okl_128, am_okm129]; rfl
theorem am_okl_130 : am_okl 130 = true := by rw [am_okl, am_okl_129, am_okm130]; rfl
theorem am_okl_131 : am_okl 131 = true := by rw [am_okl, am_okl_130, am_okm131]; rfl
theorem am_okl_132 : am_okl 132 = true := by rw [am_okl, am_okl_131, am_okm132]; rfl
theorem am_okl_133 : am_okl 133 = true := by rw [am_okl, am_okl_132, am_okm133]; rfl
theorem am_okl_134 : am_okl 134 = true := by rw [am_okl, am_okl_133, am_okm134]; rfl
theorem am_okl_135 : am_okl 135 = true := by rw [am_okl, am_okl_134, am_okm135]; rfl
theorem am_okl_136 : am_okl 136 = true := by rw [am_okl, am_okl_135, am_okm136]; rfl
theorem am_okl_137 : am_okl 137 = true := by rw [am_okl, am_okl_136, am_okm137]; rfl
theorem am_okl_138 : am_okl 138 = true := by rw [am_okl, am_okl_137, am_okm138]; rfl
theorem am_okl_139 : am_okl 139 = true := by rw [am_okl, am_okl_138, am_okm139]; rfl
theorem am_okl_140 : am_okl 140 = true := by rw [am_okl, am_okl_139, am_okm140]; rfl
theorem am_okl_141 : am_okl 141 = true := by rw [am_okl, am_okl_140, am_okm141]; rfl
theorem am_okl_142 : am_okl 142 = true := by rw [am_okl, am_okl_141, am_okm142]; rfl
theorem am_okl_143 : am_okl 143 = true := by rw [am_okl, am_okl_142, am_okm143]; rfl
theorem am_okl_144 : am_okl 144 = true := by rw [am_okl, am_okl_143, am_okm144]; rfl
theorem am_okl_145 : am_okl 145 = true := by rw [am_okl, am_okl_144, am_okm145]; rfl
theorem am_okl_146 : am_okl 146 = true := by rw [am_okl, am_okl_145, am_okm146]; rfl
theorem am_okl_147 : am_okl 147 = true := by rw [am_okl, am_okl_146, am_okm147]; rfl
theorem am_okl_148 : am_okl 148 = true := by rw [am_okl, am_okl_147, am_okm148]; rfl
theorem am_okl_149 : am_okl 149 = true := by rw [am_okl, am_okl_148, am_okm149]; rfl
theorem am_okl_150 : am_okl 150 = true := by rw [am_okl, am_okl_149, am_okm150]; rfl
theorem am_okl_151 : am_okl 151 = true := by rw [am_okl, am_okl_150, am_okm151]; rfl
theorem am_okl_152 : am_okl 152 = true := by rw [am_okl, am_okl_151, am_okm152]; rfl
theorem am_okl_153 : am_okl 153 = true := by rw [am_okl, am_okl_152, am_okm153]; rfl
theorem am_okl_154 : am_okl 154 = true := by rw [am_okl, am_okl_153, am_okm154]; rfl
theorem am_okl_155 : am_okl 155 = true := by rw [am_okl, am_okl_154, am_okm155]; rfl
theorem am_okl_156 : am_okl 156 = true := by rw [am_okl, am_okl_155, am_okm156]; rfl
theorem am_okl_157 : am_okl 157 = true := by rw [am_okl, am_okl_156, am_okm157]; rfl
theorem am_okl_158 : am_okl 158 = true := by rw [am_okl, am_okl_157, am_okm158]; rfl
theorem am_okl_159 : am_okl 159 = true := by rw [am_okl, am_okl_158, am_okm159]; rfl
theorem am_okl_160 : am_okl 160 = true := by rw [am_okl, am_okl_159, am_okm160]; rfl
theorem am_okl_161 : am_okl 161 = true := by rw [am_okl, am_okl_160, am_okm161]; rfl
theorem am_okl_162 : am_okl 162 = true := by rw [am_okl, am_okl_161, am_okm162]; rfl
theorem am_okl_163 : am_okl 163 = true := by rw [am_okl, am_okl_162, am_okm163]; rfl
theorem am_okl_164 : am_okl 164 = true := by rw [am_okl, am_okl_163, am_okm164]; rfl
theorem am_okl_165 : am_okl 165 = true := by rw [am_okl, am_okl_164, am_okm165]; rfl
theorem am_okl_166 : am_okl 166 = true := by rw [am_okl, am_okl_165, am_okm166]; rfl
theorem am_okl_167 : am_okl 167 = true := by rw [am_okl, am_okl_166, am_okm167]; rfl
theorem am_okl_168 : am_okl 168 = true := by rw [am_okl, am_okl_167, am_okm168]; rfl
theorem am_okl_169 : am_okl 169 = true := by rw [am_okl, am_okl_168, am_okm169]; rfl
theorem am_okl_170 : am_okl 170 = true := by rw [am_okl, am_okl_169, am_okm170]; rfl
theorem am_okl_171 : am_okl 171 = true := by rw [am_okl, am_okl_170, am_okm171]; rfl
theorem am_okl_172 : am_okl 172 = true := by rw [am_okl, am_okl_171, am_okm172]; rfl
theorem am_okl_173 : am_okl 173 = true := by rw [am_okl, am_okl_172, am_okm173]; rfl
theorem am_okl_174 : am_okl 174 = true := by rw [am_okl, am_okl_173, am_okm174]; rfl
theorem am_okl_175 : am_okl 175 = true := by rw [am_okl, am_okl_174, am_okm175]; rfl
theorem am_okl_176 : am_okl 176 = true := by rw [am_okl, am_okl_175, am_okm176]; rfl
theorem am_okl_177 : am_okl 177 = true := by rw [am_okl, am_okl_176, am_okm177]; rfl
theorem am_okl_178 : am_okl 178 = true := by rw [am_okl, am_okl_177, am_okm178]; rfl
theorem am_okl_179 : am_okl 179 = true := by rw [am_okl, am_okl_178, am_okm179]; rfl
theorem am_okl_180 : am_okl 180 = true := by rw [am_okl, am_okl_179, am_okm180]; rfl
theorem am_okl_181 : am_okl 181 = true := by rw [am_okl, am_okl_180, am_okm181]; rfl
theorem am_okl_182 : am_okl 182 = true := by rw [am_okl, am_okl_181, am_okm182]; rfl
theorem am_okl_183 : am_okl 183 = true := by rw [am_okl, am_okl_182, am_okm183]; rfl
theorem am_okl_184 : am_okl 184 = true := by rw [am_okl, am_okl_183, am_okm184]; rfl
theorem am_okl_185 : am_okl 185 = true := by rw [am_okl, am_okl_184, am_okm185]; rfl
theorem am_okl_186 : am_okl 186 = true := by rw [am_okl, am_okl_185, am_okm186]; rfl
theorem am_okl_187 : am_okl 187 = true := by rw [am_okl, am_okl_186, am_okm187]; rfl
theorem am_okl_188 : am_okl 188 = true := by rw [am_okl, am_okl_187, am_okm188]; rfl
theorem am_okl_189 : am_okl 189 = true := by rw [am_okl, am_okl_188, am_okm189]; rfl
theorem am_okl_190 : am_okl 190 = true := by rw [am_okl, am_okl_189, am_okm190]; rfl
theorem am_okl_191 : am_okl 191 = true := by rw [am_okl, am_okl_190, am_okm191]; rfl
theorem am_okl_192 : am_okl 192 = true := by rw [am_okl, am_okl_191, am_okm192]; rfl
theorem am_okl_193 : am_okl 193 = true := by rw [am_okl, am_okl_192, am_okm193]; rfl
theorem am_okl_194 : am_okl 194 = true := by rw [am_okl, am_okl_193, am_okm194]; rfl
theorem am_okl_195 : am_okl 195 = true := by rw [am_okl, am_okl_194, am_okm195]; rfl
theorem am_okl_196 : am_okl 196 = true := by rw [am_okl, am_okl_195, am_okm196]; rfl
theorem am_okl_197 : am_okl 197 = true := by rw [am_okl, am_okl_196, am_okm197]; rfl
theorem am_okl_198 : am_okl 198 = true := by rw [am_okl, am_okl_197, am_okm198]; rfl
theorem am_okl_199 : am_okl 199 = true := by rw [am_okl, am_okl_198, am_okm199]; rfl
theorem am_okl_200 : am_okl 200 = true := by rw [am_okl, am_okl_199, am_okm200]; rfl
theorem am_okl_201 : am_okl 201 = true := by rw [am_okl, am_okl_200, am_okm201]; rfl
theorem am_okl_202 : am_okl 202 = true := by rw [am_okl, am_okl_201, am_okm202]; rfl
theorem am_okl_203 : am_okl 203 = true := by rw [am_okl, am_okl_202, am_okm203]; rfl
theorem am_okl_204 : am_okl 204 = true := by rw [am_okl, am_okl_203, am_okm204]; rfl
theorem am_okl_205 : am_okl 205 = true := by rw [am_okl, am_okl_204, am_okm205]; rfl
theorem am_okl_206 : am_okl 206 = true := by rw [am_okl, am_okl_205, am_okm206]; rfl
theorem am_okl_207 : am_okl 207 = true := by rw [am_okl, am_okl_206, am_okm207]; rfl
theorem am_okl_208 : am_okl 208 = true := by rw [am_okl, am_okl_207, am_okm208]; rfl
theorem am_okl_209 : am_okl 209 = true := by rw [am_okl, am_okl_208, am_okm209]; rfl
theorem am_okl_210 : am_okl 210 = true := by rw [am_okl, am_okl_209, am_okm210]; rfl
theorem am_okl_211 : am_okl 211 = true := by rw [am_okl, am_okl_210, am_okm211]; rfl
theorem am_okl_212 : am_okl 212 = true := by rw [am_okl, am_okl_211, am_okm212]; rfl
theorem am_okl_213 : am_okl 213 = true := by rw [am_okl, am_okl_212, am_okm213]; rfl
theorem am_okl_214 : am_okl 214 = true := by rw [am_okl, am_okl_213, am_okm214]; rfl
theorem am_okl_215 : am_okl 215 = true := by rw [am_okl, am_okl_214, am_okm215]; rfl
theorem am_okl_216 : am_okl 216 = true := by rw [am_okl, am_okl_215, am_okm216]; rfl
theorem am_okl_217 : am_okl 217 = true := by rw [am_okl, am_okl_216, am_okm217]; rfl
theorem am_okl_218 : am_okl 218 = true := by rw [am_okl, am_okl_217, am_okm218]; rfl
theorem am_okl_219 : am_okl 219 = true := by rw [am_okl, am_okl_218, am_okm219]; rfl
theorem am_okl_220 : am_okl 220 = true := by rw [am_okl, am_okl_219, am_okm220]; rfl
theorem am_okl_221 : am_okl 221 = true := by rw [am_okl, am_okl_220, am_okm221]; rfl
theorem am_okl_222 : am_okl 222 = true := by rw [am_okl, am_okl_221, am_okm222]; rfl
theorem am_okl_223 : am_okl 223 = true := by rw [am_okl, am_okl_222, am_okm223]; rfl
theorem am_okl_224 : am_okl 224 = true := by rw [am_okl, am_okl_223, am_okm224]; rfl
theorem am_okl_225 : am_okl 225 = true := by rw [am_okl, am_okl_224, am_okm225]; rfl
theorem am_okl_226 : am_okl 226 = true := by rw [am_okl, am_okl_225, am_okm226]; rfl
theorem am_okl_227 : am_okl 227 = true := by rw [am_okl, am_okl_226, am_okm227]; rfl
theorem am_okl_228 : am_okl 228 = true := by rw [am_okl, am_okl_227, am_okm228]; rfl
theorem am_okl_229 : am_okl 229 = true := by rw [am_okl, am_okl_228, am_okm229]; rfl
theorem am_okl_230 : am_okl 230 = true := by rw [am_okl, am_okl_229, am_okm230]; rfl
theorem am_okl_231 : am_okl 231 = true := by rw [am_okl, am_okl_230, am_okm231]; rfl
theorem am_okl_232 : am_okl 232 = true := by rw [am_okl, am_okl_231, am_okm232]; rfl
theorem am_okl_233 : am_okl 233 = true := by rw [am_okl, am_okl_232, am_okm233]; rfl
theorem am_okl_234 : am_okl 234 = true := by rw [am_okl, am_okl_233, am_okm234]; rfl
theorem am_okl_235 : am_okl 235 = true := by rw [am_okl, am_okl_234, am_okm235]; rfl
theorem am_okl_236 : am_okl 236 = true := by rw [am_okl, am_okl_235, am_okm236]; rfl
theorem am_okl_237 : am_okl 237 = true := by rw [am_okl, am_okl_236, am_okm237]; rfl
theorem am_okl_238 : am_okl 238 = true := by rw [am_okl, am_okl_237, am_okm238]; rfl
theorem am_okl_239 : am_okl 239 = true := by rw [am_okl, am_okl_238, am_okm239]; rfl
theorem am_okl_240 : am_okl 240 = true := by rw [am_okl, am_okl_239, am_okm240]; rfl
theorem am_okl_241 : am_okl 241 = true := by rw [am_okl, am_okl_240, am_okm241]; rfl
theorem am_okl_242 : am_okl 242 = true := by rw [am_okl, am_okl_241, am_okm242]; rfl
theorem am_okl_243 : am_okl 243 = true := by rw [am_okl, am_okl_242, am_okm243]; rfl
theorem am_okl_244 : am_okl 244 = true := by rw [am_okl, am_okl_243, am_okm244]; rfl
theorem am_okl_245 : am_okl 245 = true := by rw [am_okl, am_okl_244, am_okm245]; rfl
theorem am_ok_m {m : Nat} (h1 : 0 < m) (h2 : m < 246) : am_okm m = true := am_okl_at 245 m am_okl_245 h1 (by omega)
end
section
/-! the abstract machine and the machine: values, locals, cells -/
def in32 (x : Int) : Prop := -2147483648 ≤ x ∧ x < 2147483648
def in64 (x : Int) : Prop := -9223372036854775808 ≤ x ∧ x < 9223372036854775808
theorem in32_of (x : Int32) : in32 x.toInt := ⟨by have := x.le_toInt; simpa using this, by have := x.toInt_lt; simpa using this⟩
theorem in64_of (x : Int64) : in64 x.toInt := ⟨by have := x.le_toInt; simpa using this, by have := x.toInt_lt; simpa using this⟩
theorem toInt32 {x : Int} (h : in32 x) : (Int32.ofInt x).toInt = x := by
  rw [Int32.toInt_ofInt]
  exact Int.bmod_eq_of_le (by simpa [Int32.size] using h.1) (by have := h.2; simpa [Int32.size] using this)
theorem toInt64 {x : Int} (h : in64 x) : (Int64.ofInt x).toInt = x := by
  rw [Int64.toInt_ofInt]
  exact Int.bmod_eq_of_le (by simpa [Int64.size] using h.1) (by have := h.2; simpa [Int64.size] using this)
theorem in32_w32 (x : Int) : in32 (w32 x) := by unfold in32 w32; omega
theorem in64_w64 (x : Int) : in64 (w64 x) := by unfold in64 w64; omega
theorem of_w32 (x : Int) : Int32.ofInt (w32 x) = Int32.ofInt x := by
  apply Int32.toInt_inj.mp
  rw [toInt32 (in32_w32 x), Int32.toInt_ofInt]
  unfold w32
  simp only [Int32.size, Int.bmod]
  omega
theorem of_w64 (x : Int) : Int64.ofInt (w64 x) = Int64.ofInt x := by
  apply Int64.toInt_inj.mp
  rw [toInt64 (in64_w64 x), Int64.toInt_ofInt]
  unfold w64
  simp only [Int64.size, Int.bmod]
  omega
theorem add_w32 (x y : Int) : Int32.ofInt x + Int32.ofInt y = Int32.ofInt (w32 (x + y)) := by rw [of_w32, Int32.ofInt_add]
theorem sub_w32 (x y : Int) : Int32.ofInt x - Int32.ofInt y = Int32.ofInt (w32 (x - y)) := by rw [of_w32, Int32.ofInt_sub]
theorem mul_w32 (x y : Int) : Int32.ofInt x * Int32.ofInt y = Int32.ofInt (w32 (x * y)) := by rw [of_w32, Int32.ofInt_mul]
theorem add_w64 (x y : Int) : Int64.ofInt x + Int64.ofInt y = Int64.ofInt (w64 (x + y)) := by rw [of_w64, Int64.ofInt_add]
theorem sub_w64 (x y : Int) : Int64.ofInt x - Int64.ofInt y = Int64.ofInt (w64 (x - y)) := by rw [of_w64, Int64.ofInt_sub]
theorem mul_w64 (x y : Int) : Int64.ofInt x * Int64.ofInt y = Int64.ofInt (w64 (x * y)) := by rw [of_w64, Int64.ofInt_mul]
theorem div_w32 {x y : Int} (hx : in32 x) (hy : in32 y) : Int32.ofInt x / Int32.ofInt y = Int32.ofInt (w32 (Int.tdiv x y)) := by
  apply Int32.toInt_inj.mp
  rw [Int32.toInt_div, toInt32 hx, toInt32 hy, of_w32, Int32.toInt_ofInt]
theorem div_w64 {x y : Int} (hx : in64 x) (hy : in64 y) : Int64.ofInt x / Int64.ofInt y = Int64.ofInt (w64 (Int.tdiv x y)) := by
  apply Int64.toInt_inj.mp
  rw [Int64.toInt_div, toInt64 hx, toInt64 hy, of_w64, Int64.toInt_ofInt]
theorem rem_i32 {x y : Int} (hx : in32 x) (hy : in32 y) : Int32.ofInt x - Int32.ofInt x / Int32.ofInt y * Int32.ofInt y = Int32.ofInt (Int.tmod x y) := by
  rw [irem_eq_mod]
  apply Int32.toInt_inj.mp
  have h := Int32.toInt_mod (Int32.ofInt x) (Int32.ofInt y)
  rw [toInt32 hx, toInt32 hy] at h
  rw [h, Int32.toInt_ofInt]
  have h2 := in32_of (Int32.ofInt x % Int32.ofInt y)
  rw [h] at h2
  exact (Int.bmod_eq_of_le (by simpa [Int32.size] using h2.1) (by have := h2.2; simpa [Int32.size] using this)).symm
theorem in32_tmod {x y : Int} (hx : in32 x) (hy : in32 y) : in32 (Int.tmod x y) := by
  have h := Int32.toInt_mod (Int32.ofInt x) (Int32.ofInt y)
  rw [toInt32 hx, toInt32 hy] at h
  rw [← h]
  exact in32_of _
theorem in64_tmod {x y : Int} (hx : in64 x) (hy : in64 y) : in64 (Int.tmod x y) := by
  have h := Int64.toInt_mod (Int64.ofInt x) (Int64.ofInt y)
  rw [toInt64 hx, toInt64 hy] at h
  rw [← h]
  exact in64_of _
theorem rem_i64 {x y : Int} (hx : in64 x) (hy : in64 y) : Int64.ofInt x - Int64.ofInt x / Int64.ofInt y * Int64.ofInt y = Int64.ofInt (Int.tmod x y) := by
  have e : ∀ x y : Int64, x - x / y * y = x % y := by
    intro x y
    apply Int64.toInt_inj.mp
    have h1 := Int64.le_toInt (x % y)
    have h2 := Int64.toInt_lt (x % y)
    rw [Int64.toInt_sub, Int64.toInt_mul, Int64.toInt_div, Int.bmod_mul_bmod, Int.sub_bmod_bmod, Int.mul_comm (x.toInt.tdiv y.toInt), ← Int.tmod_def, ← Int64.toInt_mod]
    exact Int.bmod_eq_of_le_mul_two (by omega) (by omega)
  rw [e]
  apply Int64.toInt_inj.mp
  have h := Int64.toInt_mod (Int64.ofInt x) (Int64.ofInt y)
  rw [toInt64 hx, toInt64 hy] at h
  rw [h, toInt64 (in64_tmod hx hy)]
theorem of_toInt32 (x : Int32) : Int32.ofInt x.toInt = x := Int32.ofInt_toInt x
theorem of_toInt64 (x : Int64) : Int64.ofInt x.toInt = x := Int64.ofInt_toInt x
theorem lt_i32 {x y : Int} (hx : in32 x) (hy : in32 y) : Int32.ofInt x < Int32.ofInt y ↔ x < y := by rw [Int32.lt_iff_toInt_lt, toInt32 hx, toInt32 hy]
theorem le_i32 {x y : Int} (hx : in32 x) (hy : in32 y) : Int32.ofInt x ≤ Int32.ofInt y ↔ x ≤ y := by rw [Int32.le_iff_toInt_le, toInt32 hx, toInt32 hy]
theorem eq_i32 {x y : Int} (hx : in32 x) (hy : in32 y) : Int32.ofInt x = Int32.ofInt y ↔ x = y := by rw [← Int32.toInt_inj, toInt32 hx, toInt32 hy]
theorem eq_i64 {x y : Int} (hx : in64 x) (hy : in64 y) : Int64.ofInt x = Int64.ofInt y ↔ x = y := by rw [← Int64.toInt_inj, toInt64 hx, toInt64 hy]
theorem in32_0 : in32 0 := ⟨by omega, by omega⟩
theorem in64_0 : in64 0 := ⟨by omega, by omega⟩
theorem zero_i32 : (0 : Int32) = Int32.ofInt 0 := rfl
theorem zero_i64 : (0 : Int64) = Int64.ofInt 0 := rfl
theorem i2l_i {x : Int} (hx : in32 x) : (Int32.ofInt x).toInt64 = Int64.ofInt x := by
  apply Int64.toInt_inj.mp
  rw [Int32.toInt_toInt64, toInt32 hx, toInt64 ⟨by have := hx.1; omega, by have := hx.2; omega⟩]
theorem in32_64 {x : Int} (hx : in32 x) : in64 x := ⟨by have := hx.1; omega, by have := hx.2; omega⟩
theorem l2i_i (x : Int) : (Int64.ofInt x).toInt32 = Int32.ofInt (w32 x) := by
  rw [of_w32]
  first | exact Int64.toInt32_ofInt x | simp
theorem cmp_i {x y : Int} (hx : in64 x) (hy : in64 y) : lg_cmp (Int64.ofInt x) (Int64.ofInt y) = Int32.ofInt (lCmp x y) := by
  unfold lg_cmp lCmp
  simp only [gt_iff_lt, Int64.lt_iff_toInt_lt, ← Int64.toInt_inj, toInt64 hx, toInt64 hy]
  by_cases h1 : x < y
  · rw [if_neg (by omega), if_neg (by omega), if_pos h1]; rfl
  · by_cases h2 : x = y
    · rw [if_neg (by omega), if_pos h2, if_neg h1, if_pos h2]; rfl
    · rw [if_pos (by omega), if_neg h1, if_neg h2]; rfl
theorem in32_cmp (x y : Int) : in32 (lCmp x y) := by unfold lCmp in32; split <;> (try split) <;> omega
theorem max_i {x y : Int} (hx : in32 x) (hy : in32 y) : (if Int32.ofInt x < Int32.ofInt y then Int32.ofInt y else Int32.ofInt x) = Int32.ofInt (max x y) := by
  simp only [lt_i32 hx hy]
  split
  · rw [show max x y = y by omega]
  · rw [show max x y = x by omega]
theorem min_i {x y : Int} (hx : in32 x) (hy : in32 y) : (if Int32.ofInt y < Int32.ofInt x then Int32.ofInt y else Int32.ofInt x) = Int32.ofInt (min x y) := by
  simp only [lt_i32 hy hx]
  split
  · rw [show min x y = y by omega]
  · rw [show min x y = x by omega]
theorem in32_max {x y : Int} (hx : in32 x) (hy : in32 y) : in32 (max x y) := by unfold in32 at *; omega
theorem in32_min {x y : Int} (hx : in32 x) (hy : in32 y) : in32 (min x y) := by unfold in32 at *; omega
theorem clamp_i {x : Int} (h0 : 0 ≤ x) (hx : in32 x) : (Int32.ofInt x).toNatClampNeg = x.toNat := by
  show (Int32.ofInt x).toInt.toNat = x.toNat
  rw [toInt32 hx]
theorem vpin_i {x : Int} {n : Nat} (h0 : 0 ≤ x) (h1 : x < n) (hx : in32 x) : vp_in (Int32.ofInt x) n := by
  rw [vp_in_iff, toInt32 hx]
  exact ⟨h0, h1⟩
end
section
/-! how a state of the abstract machine lies in the machine's -/
def am_ad (b base : Nat) (a : Nat) : Nat := match a with
  | 0 => b
  | k + 1 => base + k
def am_c (ad : Nat → Nat) (v : AV) : Value := match v with
  | .inl x => .int (Int32.ofInt x)
  | .inr (.inl x) => .long (Int64.ofInt x)
  | .inr (.inr (.inl a)) => .ref (ad a)
  | .inr (.inr (.inr _)) => .null
def am_in (v : AV) : Prop := match v with
  | .inl x => in32 x
  | .inr (.inl x) => in64 x
  | _ => True
def am_lv (ad : Nat → Nat) : Nat → List AV → List (Nat × Value)
  | _, [] => []
  | i, .inr (.inr (.inr _)) :: r => am_lv ad (i + 1) r
  | i, v :: r => (i, am_c ad v) :: am_lv ad (i + 1) r
theorem am_lv_mem {ad : Nat → Nat} {q : Nat × Value} : ∀ {l : List AV} {i : Nat}, q ∈ am_lv ad i l → ∃ j v, l[j]? = some v ∧ v ≠ vU ∧ q = (i + j, am_c ad v)
  | [], i, h => by simp [am_lv] at h
  | .inr (.inr (.inr u)) :: r, i, h => by
    obtain ⟨j, v, h1, h2, h3⟩ := am_lv_mem (l := r) (i := i + 1) h
    exact ⟨j + 1, v, by simpa using h1, h2, by rw [h3, show i + 1 + j = i + (j + 1) by omega]⟩
  | .inl x :: r, i, h => by
    rcases List.mem_cons.mp h with h | h
    · exact ⟨0, vI x, rfl, (fun q => by cases q), h⟩
    · obtain ⟨j, v, h1, h2, h3⟩ := am_lv_mem (l := r) (i := i + 1) h
      exact ⟨j + 1, v, by simpa using h1, h2, by rw [h3, show i + 1 + j = i + (j + 1) by omega]⟩
  | .inr (.inl x) :: r, i, h => by
    rcases List.mem_cons.mp h with h | h
    · exact ⟨0, vL x, rfl, (fun q => by cases q), h⟩
    · obtain ⟨j, v, h1, h2, h3⟩ := am_lv_mem (l := r) (i := i + 1) h
      exact ⟨j + 1, v, by simpa using h1, h2, by rw [h3, show i + 1 + j = i + (j + 1) by omega]⟩
  | .inr (.inr (.inl x)) :: r, i, h => by
    rcases List.mem_cons.mp h with h | h
    · exact ⟨0, vR x, rfl, (fun q => by cases q), h⟩
    · obtain ⟨j, v, h1, h2, h3⟩ := am_lv_mem (l := r) (i := i + 1) h
      exact ⟨j + 1, v, by simpa using h1, h2, by rw [h3, show i + 1 + j = i + (j + 1) by omega]⟩
theorem am_lv_of {ad : Nat → Nat} {v : AV} (hv : v ≠ vU) : ∀ {l : List AV} {i j : Nat}, l[j]? = some v → (i + j, am_c ad v) ∈ am_lv ad i l
  | [], i, j, h => by simp at h
  | a :: r, i, 0, h => by
    have : a = v := by simpa using h
    subst this
    rcases a with x | x | x | x
    · exact List.mem_cons_self
    · exact List.mem_cons_self
    · exact List.mem_cons_self
    · exact absurd rfl hv
  | a :: r, i, j + 1, h => by
    have h2 := am_lv_of (ad := ad) hv (l := r) (i := i + 1) (j := j) (by simpa using h)
    rw [show i + 1 + j = i + (j + 1) by omega] at h2
    rcases a with x | x | x | x
    · exact List.mem_cons_of_mem _ h2
    · exact List.mem_cons_of_mem _ h2
    · exact List.mem_cons_of_mem _ h2
    · exact h2
/-- locals: what the abstract machine knows of them -/
def am_loc (ad : Nat → Nat) (ls : Array Slot) (n : Nat) (al : List AV) : Prop := al.length = n ∧ lv_has ls n (am_lv ad 0 al)
theorem am_loc_at {ad : Nat → Nat} {ls : Array Slot} {n : Nat} {al : List AV} (h : am_loc ad ls n al) {i : Nat} {v : AV} (hv : v ≠ vU) (hi : al.getD i vU = v) : ls[i]? = some (.val (am_c ad v)) := by
  have h1 : al[i]? = some v := by
    rw [List.getD_eq_getElem?_getD] at hi
    cases hq : al[i]? with
    | none => rw [hq] at hi; exact absurd hi.symm hv
    | some w => rw [hq] at hi; rw [← hi]; rfl
  have h2 := h.2.2.2 _ (am_lv_of (ad := ad) hv (i := 0) h1)
  simpa using h2
theorem am_loc_le {ad : Nat → Nat} {ls : Array Slot} {n : Nat} {al : List AV} {lv : List (Nat × Value)} (hn : al.length = n) (h : lv_has ls n lv) (hm : ∀ j v, al[j]? = some v → v ≠ vU → (j, am_c ad v) ∈ lv) : am_loc ad ls n al := by
  refine ⟨hn, h.1, h.2.1, fun q hq => ?_⟩
  obtain ⟨j, v, h1, h2, rfl⟩ := am_lv_mem hq
  rw [Nat.zero_add]
  exact h.2.2 _ (hm j v h1 h2)
theorem am_set_len (al : List AV) (i : Nat) (v : AV) : (am_set al i v).length = al.length := by
  unfold am_set
  split
  · simp
  · split <;> simp
theorem am_isL_c {ad : Nat → Nat} {v : AV} : am_isL v = true ↔ (am_c ad v).category = 2 := by
  rcases v with x | x | x | x <;> simp [am_isL, am_c, Value.category]
theorem am_set_get {al : List AV} {i j : Nat} {v w : AV} (h : (am_set al i v)[j]? = some w) (hw : w ≠ vU) : (j = i ∧ w = v) ∨ (j ≠ i ∧ al[j]? = some w ∧ ¬ (j + 1 = i ∧ am_isL w = true)) := by
  unfold am_set at h
  split at h
  · rw [List.getElem?_set] at h
    split at h
    · split at h
      · left; rename_i e _; exact ⟨e.symm, (Option.some.inj h).symm⟩
      · cases h
    · right; rename_i e; exact ⟨fun q => e q.symm, h, by omega⟩
  · rename_i k
    split at h
    · rw [List.getElem?_set] at h
      split at h
      · split at h
        · left; rename_i e _; exact ⟨e.symm, (Option.some.inj h).symm⟩
        · cases h
      · rw [List.getElem?_set] at h
        split at h
        · split at h
          · exact absurd (Option.some.inj h).symm hw
          · cases h
        · right
          rename_i e1 e2
          exact ⟨fun q => e1 q.symm, h, by omega⟩
    · rename_i hl
      rw [List.getElem?_set] at h
      split at h
      · split at h
        · left; rename_i e _; exact ⟨e.symm, (Option.some.inj h).symm⟩
        · cases h
      · right
        rename_i e1
        refine ⟨fun q => e1 q.symm, h, fun q => ?_⟩
        have hk : j = k := by omega
        subst hk
        rw [List.getD_eq_getElem?_getD, h] at hl
        have h3 := q.2
        simp only [Option.getD_some] at hl
        rw [hl] at h3
        cases h3
theorem am_loc_set {ad : Nat → Nat} {ls' : Array Slot} {n : Nat} {al : List AV} {i : Nat} {v : AV} (hn : al.length = n)
    (h : lv_has ls' n ((i, am_c ad v) :: (am_lv ad 0 al).filter (fun q => !(q.1 == i) && !(q.1 + 1 == i && q.2.category == 2)))) : am_loc ad ls' n (am_set al i v) := by
  refine am_loc_le (by rw [am_set_len]; exact hn) h fun j w hj hw => ?_
  rcases am_set_get hj hw with ⟨rfl, rfl⟩ | ⟨h1, h2, h3⟩
  · exact List.mem_cons_self
  · refine List.mem_cons_of_mem _ (List.mem_filter.mpr ⟨by have := am_lv_of (ad := ad) hw (i := 0) h2; rwa [Nat.zero_add] at this, ?_⟩)
    have h4 : ¬ (j + 1 = i ∧ (am_c ad w).category = 2) := fun q => h3 ⟨q.1, am_isL_c.mpr q.2⟩
    simp only [Bool.and_eq_true, Bool.not_eq_true', Bool.and_eq_false_iff, beq_eq_false_iff_ne, ne_eq]
    refine ⟨h1, ?_⟩
    by_cases q : j + 1 = i
    · exact Or.inr fun e => h4 ⟨q, e⟩
    · exact Or.inl q
theorem am_loc_setL {ad : Nat → Nat} {ls' : Array Slot} {n : Nat} {al : List AV} {i : Nat} {v : AV} (hn : al.length = n)
    (h : lv_has ls' n ((i, am_c ad v) :: (am_lv ad 0 al).filter (fun q => !(q.1 == i) && (!(q.1 == i + 1) && !(q.1 + 1 == i && q.2.category == 2))))) : am_loc ad ls' n ((am_set al i v).set (i + 1) vU) := by
  refine am_loc_le (by simp [am_set_len, hn]) h fun j w hj hw => ?_
  rw [List.getElem?_set] at hj
  split at hj
  · split at hj
    · exact absurd (Option.some.inj hj).symm hw
    · cases hj
  rename_i e0
  rcases am_set_get hj hw with ⟨rfl, rfl⟩ | ⟨h1, h2, h3⟩
  · exact List.mem_cons_self
  · refine List.mem_cons_of_mem _ (List.mem_filter.mpr ⟨by have := am_lv_of (ad := ad) hw (i := 0) h2; rwa [Nat.zero_add] at this, ?_⟩)
    have h4 : ¬ (j + 1 = i ∧ (am_c ad w).category = 2) := fun q => h3 ⟨q.1, am_isL_c.mpr q.2⟩
    simp only [Bool.and_eq_true, Bool.not_eq_true', Bool.and_eq_false_iff, beq_eq_false_iff_ne, ne_eq]
    refine ⟨h1, fun q => e0 q.symm, ?_⟩
    by_cases q : j + 1 = i
    · exact Or.inr fun e => h4 ⟨q, e⟩
    · exact Or.inl q
theorem am_in_set {al : List AV} {i : Nat} {v : AV} (h : ∀ w ∈ al, am_in w) (hv : am_in v) : ∀ w ∈ am_set al i v, am_in w := by
  intro w hw
  obtain ⟨j, hj⟩ := List.getElem?_of_mem hw
  by_cases hu : w = vU
  · rw [hu]; trivial
  · rcases am_set_get hj hu with ⟨-, rfl⟩ | ⟨-, h2, -⟩
    · exact hv
    · exact h w (List.mem_of_getElem? h2)
theorem am_in_setU {al : List AV} {i : Nat} (h : ∀ w ∈ al, am_in w) : ∀ w ∈ al.set i vU, am_in w := by
  intro w hw
  rcases List.mem_or_eq_of_mem_set hw with q | q
  · exact h w q
  · rw [q]; trivial
theorem am_in_get {al : List AV} {i : Nat} (h : ∀ w ∈ al, am_in w) : am_in (al.getD i vU) := by
  rw [List.getD_eq_getElem?_getD]
  cases hq : al[i]? with
  | none => trivial
  | some w => exact h w (List.mem_of_getElem? hq)
/-! cells -/
noncomputable def am_fe (ad : Nat → Nat) (σ : AS) (a k t : Nat) : Value := match t with
  | 2 => Value.ref (ad (am_ref a k))
  | _ => .int (Int32.ofInt (σ a (k : Int)))
noncomputable def am_fv (ad : Nat → Nat) (σ : AS) (a : Nat) : Nat → List Nat → List Value
  | _, [] => []
  | k, t :: r => am_fe ad σ a k t :: am_fv ad σ a (k + 1) r
theorem am_fv_get {ad : Nat → Nat} {σ : AS} {a : Nat} : ∀ (l : List Nat) (k j : Nat), (am_fv ad σ a k l)[j]? = (l[j]?).map (fun t => am_fe ad σ a (k + j) t)
  | [], k, j => by simp [am_fv]
  | t :: r, k, 0 => by simp [am_fv]
  | t :: r, k, j + 1 => by
    rw [am_fv, List.getElem?_cons_succ, am_fv_get r (k + 1) j, List.getElem?_cons_succ, show k + 1 + j = k + (j + 1) by omega]
theorem am_fv_len {ad : Nat → Nat} {σ : AS} {a : Nat} : ∀ (l : List Nat) (k : Nat), (am_fv ad σ a k l).length = l.length
  | [], k => rfl
  | t :: r, k => by rw [am_fv, List.length_cons, am_fv_len r (k + 1), List.length_cons]
noncomputable def am_cell (Ln : Int) (ad : Nat → Nat) (cA : Nat → ClassId) (σ : AS) (a : Nat) : va_E := match am_kd Ln a with
  | (0, _, ci) => .inr (ci, am_fv ad σ a 0 (am_ftL.getD ci []))
  | (2, n, _) => .inl (cA 2, n.toNat, .inr (.inl (fun j => Int64.ofInt (σ a j))))
  | (t, n, _) => .inl (cA t, n.toNat, .inl (fun j => Int32.ofInt (σ a j)))
noncomputable def am_ws (Ln : Int) (b base : Nat) (cA : Nat → ClassId) (σ : AS) : va_W := (List.range am_NC).map (fun k => (base + k, am_cell Ln (am_ad b base) cA σ (k + 1)))
theorem am_ws_get {Ln : Int} {b base : Nat} {cA : Nat → ClassId} {σ : AS} {k : Nat} (h : k < am_NC) : (am_ws Ln b base cA σ)[k]? = some (base + k, am_cell Ln (am_ad b base) cA σ (k + 1)) := by
  unfold am_ws
  rw [List.getElem?_map, List.getElem?_range h]
  rfl
theorem am_ws_D {Ln : Int} {b base : Nat} {cA : Nat → ClassId} {σ : AS} : va_D (fun q => base ≤ q) (am_ws Ln b base cA σ) := by
  have key : ∀ (k : Nat) (q : Nat × va_E), (am_ws Ln b base cA σ)[k]? = some q → q.1 = base + k := by
    intro k q h
    by_cases hk : k < am_NC
    · rw [am_ws_get hk] at h
      rw [← Option.some.inj h]
    · have : (am_ws Ln b base cA σ).length ≤ k := by unfold am_ws; simp; omega
      rw [List.getElem?_eq_none this] at h
      cases h
  refine ⟨fun i j p q hi hj e => ?_, fun k q h => ?_⟩
  · have h1 := key i p hi
    have h2 := key j q hj
    omega
  · have h1 := key k q h
    show base ≤ q.1
    omega
theorem am_cell_congr {Ln : Int} {ad : Nat → Nat} {cA : Nat → ClassId} {σ σ' : AS} {a : Nat} (h : σ' a = σ a) : am_cell Ln ad cA σ' a = am_cell Ln ad cA σ a := by
  have h2 : ∀ (l : List Nat) (k : Nat), am_fv ad σ' a k l = am_fv ad σ a k l := by
    intro l
    induction l with
    | nil => intro k; rfl
    | cons t r ih =>
      intro k
      rw [am_fv, am_fv, ih]
      unfold am_fe
      rw [h]
  unfold am_cell
  split <;> simp only [h, h2]
theorem am_ws_set {Ln : Int} {b base : Nat} {cA : Nat → ClassId} {σ σ' : AS} {k : Nat} (h : ∀ a, a ≠ k + 1 → σ' a = σ a) : am_ws Ln b base cA σ' = (am_ws Ln b base cA σ).set k (base + k, am_cell Ln (am_ad b base) cA σ' (k + 1)) := by
  apply List.ext_getElem?
  intro j
  by_cases hj : j < am_NC
  · by_cases e : k = j
    · subst e
      rw [am_ws_get hj, List.getElem?_set_self (by unfold am_ws; simpa using hj)]
    · rw [am_ws_get hj, List.getElem?_set_ne e, am_ws_get hj, am_cell_congr (h (j + 1) (by omega))]
  · have h1 : (am_ws Ln b base cA σ').length ≤ j := by unfold am_ws; simp; omega
    have h2 : ((am_ws Ln b base cA σ).set k (base + k, am_cell Ln (am_ad b base) cA σ' (k + 1))).length ≤ j := by unfold am_ws; simp; omega
    rw [List.getElem?_eq_none h1, List.getElem?_eq_none h2]
theorem am_up_ne {σ : AS} {c c' : Nat} {i v : Int} (h : c' ≠ c) : am_up σ c i v c' = σ c' := by
  funext j
  unfold am_up
  cases h9 : Nat.beq c' c with
  | true => exact absurd (Nat.eq_of_beq_eq_true h9) h
  | false => rfl
theorem am_up_eq {σ : AS} {c : Nat} {i v j : Int} : am_up σ c i v c j = if j = i then v else σ c j := by
  unfold am_up
  rw [show Nat.beq c c = true from Nat.beq_refl c]
theorem am_cpy_ne {σ : AS} {a0 a1 c : Nat} {sp dp n : Int} (h : c ≠ a1) : am_cpy σ a0 a1 sp dp n c = σ c := by
  funext j
  unfold am_cpy
  cases h9 : Nat.beq c a1 with
  | true => exact absurd (Nat.eq_of_beq_eq_true h9) h
  | false => rfl
theorem am_cpy_eq {σ : AS} {a0 a1 : Nat} {sp dp n i : Int} : am_cpy σ a0 a1 sp dp n a1 i = if dp ≤ i ∧ i < dp + n then σ a0 (sp + (i - dp)) else σ a1 i := by
  unfold am_cpy
  rw [show Nat.beq a1 a1 = true from Nat.beq_refl a1]
/-- a cell that has a kind is one of the cells -/
theorem am_kd_lt {Ln : Int} {k : Nat} (h : (am_kd Ln (k + 1)).1 ≠ 9) : k < am_NC := by
  rcases Nat.lt_or_ge k am_NC with q | q
  · exact q
  · exfalso
    apply h
    unfold am_NC at q
    show ((am_kdL.getD (k / 16) []).getD (k % 16) (9, 0, 0)).1 = 9
    rcases Nat.lt_or_ge k 144 with q2 | q2
    · have h1 : k / 16 = 8 := by omega
      rw [h1]
      have h2 : k % 16 = 10 ∨ k % 16 = 11 ∨ k % 16 = 12 ∨ k % 16 = 13 ∨ k % 16 = 14 ∨ k % 16 = 15 := by omega
      rcases h2 with e | e | e | e | e | e <;> rw [e] <;> rfl
    · have h1 : am_kdL.length ≤ k / 16 := by
        show 9 ≤ k / 16
        omega
      have h2 : am_kdL.getD (k / 16) [] = [] := by rw [List.getD_eq_getElem?_getD, List.getElem?_eq_none h1]; rfl
      rw [h2]
      simp
theorem am_kd_len {Ln : Int} {a : Nat} (h0 : 0 ≤ Ln) (h1 : Ln ≤ 4096) : 0 ≤ (am_kd Ln a).2.1 ∧ (am_kd Ln a).2.1 ≤ 14000 := by
  cases a with
  | zero => exact ⟨h0, by show Ln ≤ 14000; omega⟩
  | succ k =>
    have key : ∀ q ∈ am_kdL, ∀ r ∈ q, 0 ≤ r.2.1 ∧ r.2.1 ≤ (14000 : Int) := by
      have : am_kdL.all (fun q => q.all fun r => decide (0 ≤ r.2.1 ∧ r.2.1 ≤ (14000 : Int))) = true := by decide +kernel
      intro q hq r hr
      have h2 := List.all_eq_true.mp this q hq
      simpa using List.all_eq_true.mp h2 r hr
    show 0 ≤ ((am_kdL.getD (k / 16) []).getD (k % 16) (9, 0, 0)).2.1 ∧ ((am_kdL.getD (k / 16) []).getD (k % 16) (9, 0, 0)).2.1 ≤ 14000
    rw [List.getD_eq_getElem?_getD, List.getD_eq_getElem?_getD]
    cases hq : am_kdL[k / 16]? with
    | none => simp
    | some q =>
      simp only [Option.getD_some]
      cases hr : q[k % 16]? with
      | none => simp
      | some r => exact key q (List.mem_of_getElem? hq) r (List.mem_of_getElem? hr)
end
section
/-! a run of the abstract machine is a run of the machine: what goes with a method -/
noncomputable def am_gt : List Cond := lw_tbl.filter goodWord
theorem am_gt_in {i : Nat} {w : Cond} (h : lw_tbl[i]? = some w) (g : goodWord w = true) : w ∈ am_gt := List.mem_filter.mpr ⟨List.mem_of_getElem? h, g⟩
def am_nest (U : State) : Prop := ∀ a i x h, Cond.methodLinkNest a i x h ∈ lw_tbl → va_Nw (.methodLinkNest a i x h) U
theorem am_nest_warm {s U : State} (hW : s.WarmedH U.vm) (h : am_nest s) : am_nest U := fun a i x k hm => va_Nw.warmM hW (h a i x k hm)
theorem am_nest_vm {s U : State} (e : s.vm = U.vm) (h : am_nest s) : am_nest U := fun a i x k hm => va_Nw.same rfl e (h a i x k hm)
def am_tys (cA : Nat → ClassId) : List (ClassId × FieldType) := [(cA 1, .int), (cA 2, .long), (cA 3, .byte), (cA 4, .boolean)]
noncomputable def am_rel (Ln : Int) (b base : Nat) (D : va_G) (cA : Nat → ClassId) (xs : Nat → Int32) (σ : AS) (H : Heap) : Prop :=
  va_P D am_cls (am_ws Ln b base cA σ) H ∧ (∀ a i, match (am_kd Ln a).1 with
    | 2 => in64 (σ a i)
    | _ => in32 (σ a i)) ∧ ∀ j : Nat, j < Ln.toNat → σ 0 (j : Int) = (xs j).toInt
noncomputable def am_ctx (Ln : Int) (b base : Nat) (D : va_G) (cA : Nat → ClassId) (xs : Nat → Int32) (d m : Nat) (p : Program) (R : Room) (s : State) (mid : MethodId) (args : Array Value) (c : Code) (H0 : Heap) : Prop :=
  p.tables.exec = Jvm.exec ∧ c.code = (am_my m).2 ∧ c.maxLocals = (am_mt m).1 ∧ s.vm.findClass (am_my m).1.cls = some mid.cls ∧ (∀ w ∈ am_gt, w.before args s = true) ∧ am_nest s ∧ va_K D am_cls (am_tys cA) s ∧
  va_X b Ln.toNat xs s H0 ∧ b < base ∧ base ≤ H0.size ∧ d + 1 ≤ R.frames ∧ 40 * (d + 1) ≤ R.locals ∧ 0 ≤ Ln ∧ Ln ≤ 4096
/-- the place of an end, by its answer -/
noncomputable def am_retn (m pc : Nat) (v : Option AV) : Prop := match v with
  | none => decode (am_my m).2 pc = .ok (.return_, 1) ∧ (am_mt m).2.2 = 0
  | some (.inl x) => decode (am_my m).2 pc = .ok (.ireturn, 1) ∧ ((am_mt m).2.2 = 1 ∨ (am_mt m).2.2 = 2 ∧ am_b x) ∧ in32 x
  | some (.inr (.inl x)) => decode (am_my m).2 pc = .ok (.lreturn, 1) ∧ (am_mt m).2.2 = 3 ∧ in64 x
  | _ => False
def am_top (ad : Nat → Nat) (v : Option AV) : List Value := match v with
  | some v => [am_c ad v]
  | none => []
noncomputable def am_P (l : Launch) (Ln : Int) (b base : Nat) (D : va_G) (cA : Nat → ClassId) (xs : Nat → Int32) : AP := fun d m pc al st σ Q =>
  ∀ (p : Program) (e : Env) (R : Room) (s : State) (mid : MethodId) (args : Array Value) (below : List Frame) (meth : Method) (c : Code) (H H0 : Heap) (locs : List Loc) (cells slots : Nat) (Qf : State → Prop) (ls : Array Slot),
  am_ctx Ln b base D cA xs d m p R s mid args c H0 → am_rel Ln b base D cA xs σ H → va_S (fun q => base ≤ q) H0 H locs → cells ≤ R.cells → slots ≤ R.slots → am_loc (am_ad b base) ls (am_mt m).1 al → (∀ v ∈ al, am_in v) → (∀ v ∈ st, am_in v) →
  (∀ v σ' H' locs' pc' ls', Q v σ' → am_rel Ln b base D cA xs σ' H' → va_S (fun q => base ≤ q) H0 H' locs' → am_retn m pc' v → W p l e R s mid args below meth c H' locs' cells slots Qf (F0 mid pc' ls' (am_top (am_ad b base) v))) →
  W p l e R s mid args below meth c H locs cells slots Qf (F0 mid pc ls (st.map (am_c (am_ad b base))))
theorem am_P_forget {l : Launch} {Ln : Int} {b base : Nat} {D : va_G} {cA : Nat → ClassId} {xs : Nat → Int32} : am_fgt (am_P l Ln b base D cA xs) := by
  intro d m pc al al' st σ Q hle h p e R s mid args below meth c H H0 locs cells slots Qf ls hC hR hS hc hs hl hal hst hret
  have key : ∀ (x y : List AV), am_le x y → x.length = y.length ∧ ∀ (j : Nat) (v : AV), x[j]? = some v → v = vU ∨ y[j]? = some v := by
    intro x
    induction x with
    | nil =>
      intro y hy
      cases y with
      | nil => exact ⟨rfl, fun j v h => by simp at h⟩
      | cons a r => exact hy.elim
    | cons a r ih =>
      intro y hy
      cases y with
      | nil => exact hy.elim
      | cons a2 r2 =>
        obtain ⟨h1, h2⟩ := ih r2 hy.2
        refine ⟨by simp [h1], fun j v hj => ?_⟩
        cases j with
        | zero =>
          have e1 : a = v := by simpa using hj
          subst e1
          rcases hy.1 with q | q
          · right; rw [q]; rfl
          · left; exact q
        | succ j =>
          rcases h2 j v (by simpa using hj) with q | q
          · exact Or.inl q
          · exact Or.inr (by simpa using q)
  obtain ⟨k1, k2⟩ := key al' al hle
  refine h p e R s mid args below meth c H H0 locs cells slots Qf ls hC hR hS hc hs ?_ ?_ hst hret
  · refine am_loc_le (by rw [k1]; exact hl.1) hl.2 fun j v hj hv => ?_
    rcases k2 j v hj with q | q
    · exact absurd q hv
    · have := am_lv_of (ad := am_ad b base) hv (i := 0) q
      rwa [Nat.zero_add] at this
  · intro v hv
    obtain ⟨j, hj⟩ := List.getElem?_of_mem hv
    rcases k2 j v hj with q | q
    · rw [q]; trivial
    · exact hal v (List.mem_of_getElem? q)
/-! steps read backwards -/
section INV
variable {call : Nat → List AV → AS → (Option AV → AS → Prop) → Prop} {K : Nat → List AV → List AV → AS → Prop} {Q : Option AV → AS → Prop}
theorem am_i2_inv {st : List AV} {f : Int → Int → List AV → AA} (h : am_sem call K Q (am_i2 st f)) : ∃ x y r, st = vI y :: vI x :: r ∧ am_sem call K Q (f x y r) := by
  unfold am_i2 at h
  split at h
  · exact ⟨_, _, _, rfl, h⟩
  · exact h.1.elim
theorem am_l2_inv {st : List AV} {f : Int → Int → List AV → AA} (h : am_sem call K Q (am_l2 st f)) : ∃ x y r, st = vL y :: vL x :: r ∧ am_sem call K Q (f x y r) := by
  unfold am_l2 at h
  split at h
  · exact ⟨_, _, _, rfl, h⟩
  · exact h.1.elim
theorem am_i1_inv {st : List AV} {f : Int → List AV → AA} (h : am_sem call K Q (am_i1 st f)) : ∃ x r, st = vI x :: r ∧ am_sem call K Q (f x r) := by
  unfold am_i1 at h
  split at h
  · exact ⟨_, _, rfl, h⟩
  · exact h.1.elim
theorem am_ld_inv {ls st : List AV} {σ : AS} {pc i t : Nat} (h : am_sem call K Q (am_ld ls st σ pc i t)) : ∃ v, v ≠ vU ∧ ls.getD i vU = v ∧ K pc ls (v :: st) σ ∧ (match t with
    | 0 => ∃ x, v = vI x
    | 1 => ∃ x, v = vL x
    | _ => ∃ x, v = vR x) := by
  unfold am_ld at h
  split at h
  · rename_i x e _; exact ⟨vI x, (fun q => by cases q), e, h, x, rfl⟩
  · rename_i x e _; exact ⟨vL x, (fun q => by cases q), e, h, x, rfl⟩
  · rename_i x e _; exact ⟨vR x, (fun q => by cases q), e, h, x, rfl⟩
  · exact h.1.elim
theorem am_sto_inv0 {ls st : List AV} {σ : AS} {pc i : Nat} (h : am_sem call K Q (am_sto ls st σ pc i 0)) : ∃ x r, st = vI x :: r ∧ i < ls.length ∧ K pc (am_set ls i (vI x)) r σ := by
  unfold am_sto at h
  split at h
  · rename_i e; exact ⟨_, _, rfl, Nat.blt_eq.mp e, h⟩
  · omega
  · omega
  · exact h.1.elim
theorem am_sto_inv1 {ls st : List AV} {σ : AS} {pc i : Nat} (h : am_sem call K Q (am_sto ls st σ pc i 1)) : ∃ x r, st = vL x :: r ∧ i + 1 < ls.length ∧ K pc ((am_set ls i (vL x)).set (i + 1) vU) r σ := by
  unfold am_sto at h
  split at h
  · omega
  · split at h
    · rename_i e; exact ⟨_, _, rfl, Nat.blt_eq.mp e, h⟩
    · exact h.1.elim
  · omega
  · exact h.1.elim
theorem am_sto_inv2 {ls st : List AV} {σ : AS} {pc i : Nat} (h : am_sem call K Q (am_sto ls st σ pc i 2)) : ∃ x r, st = vR x :: r ∧ i < ls.length ∧ K pc (am_set ls i (vR x)) r σ := by
  unfold am_sto at h
  split at h
  · omega
  · omega
  · rename_i e; exact ⟨_, _, rfl, Nat.blt_eq.mp e, h⟩
  · exact h.1.elim
theorem am_inv_inv {Ln : Int} {v : Bool} {ci : Int} {ls st : List AV} {σ : AS} {pc m n : Nat} (h : am_sem call K Q (am_inv Ln v ci ls st σ pc m n)) : n ≤ st.length ∧ (st.drop n).length ≤ 4 ∧ (am_exp (st.take n).reverse).length ≤ (am_mt m).1 ∧ am_rcv Ln v ci (st.take n).reverse = true ∧
    ∃ T : Option AV → AS → Prop, call m (st.take n).reverse σ T ∧ am_kont (am_mt m).2.2 T K pc ls (st.drop n) := by
  unfold am_inv at h
  split at h
  · rename_i e1 e2 e3 e4
    exact ⟨Nat.ble_eq.mp e1, Nat.ble_eq.mp e2, Nat.ble_eq.mp e3, e4, h⟩
  · exact h.1.elim
end INV
end
section
/-! calls -/
theorem am_pad_len : ∀ (n : Nat) (l : List AV), (am_pad n l).length = n
  | 0, _ => rfl
  | n + 1, [] => by rw [am_pad, List.length_cons, am_pad_len n []]
  | n + 1, v :: r => by rw [am_pad, List.length_cons, am_pad_len n r]
theorem am_pad_get {v : AV} (hv : v ≠ vU) : ∀ (n : Nat) (l : List AV) (j : Nat), (am_pad n l)[j]? = some v → l[j]? = some v
  | 0, l, j, h => by simp [am_pad] at h
  | n + 1, [], 0, h => by
    have : vU = v := by simpa [am_pad] using h
    exact absurd this.symm hv
  | n + 1, [], j + 1, h => am_pad_get hv n [] j (by simpa [am_pad] using h) |> fun q => by simp at q
  | n + 1, a :: r, 0, h => by simpa [am_pad] using h
  | n + 1, a :: r, j + 1, h => by
    have := am_pad_get hv n r j (by simpa [am_pad] using h)
    simpa using this
theorem am_exp_cons (v : AV) (r : List AV) : am_exp (v :: r) = (if am_isL v = true then v :: vU :: am_exp r else v :: am_exp r) := by
  rw [am_exp]
  split <;> simp_all
theorem am_exp_len {ad : Nat → Nat} : ∀ (as : List AV), (lg_sl (as.map (am_c ad))).length = (am_exp as).length
  | [] => rfl
  | v :: r => by
    have ih := am_exp_len (ad := ad) r
    rw [am_exp_cons]
    unfold lg_sl at ih ⊢
    rw [List.map_cons, List.flatMap_cons, List.length_append, ih]
    by_cases h : am_isL v = true
    · rw [if_pos h, if_pos (am_isL_c.mp h)]; simp; omega
    · rw [if_neg h, if_neg (fun q => h (am_isL_c.mpr q))]; simp; omega
theorem am_exp_get {ad : Nat → Nat} {v : AV} (hv : v ≠ vU) : ∀ (as : List AV) (i j : Nat), (am_exp as)[j]? = some v → (i + j, am_c ad v) ∈ lv_args i (as.map (am_c ad))
  | [], i, j, h => by simp [am_exp] at h
  | a :: r, i, j, h => by
    rw [am_exp_cons] at h
    rw [List.map_cons, lv_args]
    by_cases hl : am_isL a = true
    · rw [if_pos hl] at h
      rw [if_pos (am_isL_c.mp hl)]
      match j, h with
      | 0, h =>
        have e : a = v := by simpa using h
        rw [e]; exact List.mem_cons_self
      | 1, h =>
        have e : vU = v := by simpa using h
        exact absurd e.symm hv
      | j + 2, h =>
        have := am_exp_get (ad := ad) hv r (i + 2) j (by simpa using h)
        rw [show i + 2 + j = i + (j + 2) by omega] at this
        exact List.mem_cons_of_mem _ this
    · rw [if_neg hl] at h
      rw [if_neg (fun q => hl (am_isL_c.mpr q))]
      match j, h with
      | 0, h =>
        have e : a = v := by simpa using h
        rw [e]; exact List.mem_cons_self
      | j + 1, h =>
        have := am_exp_get (ad := ad) hv r (i + 1) j (by simpa using h)
        rw [show i + 1 + j = i + (j + 1) by omega] at this
        exact List.mem_cons_of_mem _ this
theorem am_entry_loc {ad : Nat → Nat} {ls : Array Slot} {m : Nat} {as : List AV} (h : lv_has ls (am_mt m).1 (lv_args 0 (as.map (am_c ad)))) : am_loc ad ls (am_mt m).1 (am_entry m as) := by
  refine am_loc_le (am_pad_len _ _) h fun j v hj hv => ?_
  have := am_exp_get (ad := ad) hv as 0 j (am_pad_get hv _ _ j hj)
  rwa [Nat.zero_add] at this
theorem am_exp_in {P : AV → Prop} (hU : P vU) : ∀ (as : List AV), (∀ v ∈ as, P v) → ∀ v ∈ am_exp as, P v
  | [], _, v, h => by simp [am_exp] at h
  | a :: r, hp, v, h => by
    rw [am_exp_cons] at h
    have ih := am_exp_in hU r (fun v hv => hp v (List.mem_cons_of_mem _ hv))
    split at h
    · rcases List.mem_cons.mp h with rfl | h
      · exact hp _ List.mem_cons_self
      · rcases List.mem_cons.mp h with rfl | h
        · exact hU
        · exact ih v h
    · rcases List.mem_cons.mp h with rfl | h
      · exact hp _ List.mem_cons_self
      · exact ih v h
theorem am_pad_in {P : AV → Prop} (hU : P vU) : ∀ (n : Nat) (as : List AV), (∀ v ∈ as, P v) → ∀ v ∈ am_pad n as, P v
  | 0, _, _, v, h => by simp [am_pad] at h
  | n + 1, [], hp, v, h => by
    rcases List.mem_cons.mp h with rfl | h
    · exact hU
    · exact am_pad_in hU n [] hp v h
  | n + 1, a :: r, hp, v, h => by
    rcases List.mem_cons.mp h with rfl | h
    · exact hp _ List.mem_cons_self
    · exact am_pad_in hU n r (fun v hv => hp v (List.mem_cons_of_mem _ hv)) v h
noncomputable def am_shape (m : Nat) (v : Option AV) : Prop := match v with
  | none => (am_mt m).2.2 = 0
  | some (.inl x) => ((am_mt m).2.2 = 1 ∨ (am_mt m).2.2 = 2 ∧ am_b x) ∧ in32 x
  | some (.inr (.inl x)) => (am_mt m).2.2 = 3 ∧ in64 x
  | _ => False
noncomputable def am_Qc (Ln : Int) (b base : Nat) (D : va_G) (cA : Nat → ClassId) (xs : Nat → Int32) (m : Nat) (T : Option AV → AS → Prop) : Array Value → State → Outcome → State → Prop := fun _ st oc t =>
  (∃ v σ', oc = .returned (v.map (am_c (am_ad b base))) ∧ T v σ' ∧ am_rel Ln b base D cA xs σ' t.heap ∧ am_shape m v) ∧ va_F (fun q => base ≤ q) st t
abbrev am_rm (d : Nat) : Room := { frames := d + 1, cells := 0, slots := 0, locals := 40 * (d + 1) }
noncomputable abbrev am_wd (m : Nat) : List Cond := .code (am_my m).1 (am_my m).2 (am_mt m).1 (am_rty (am_mt m).2.2) :: am_gt
noncomputable def am_Pc (Ln : Int) (b base : Nat) (D : va_G) (cA : Nat → ClassId) (xs : Nat → Int32) (as : List AV) (H : Heap) : Array Value → State → Prop := va_Pc (as.map (am_c (am_ad b base))) (fun U => U.heap = H ∧ va_K D am_cls (am_tys cA) U ∧ am_nest U ∧ va_X b Ln.toNat xs U H)
set_option maxHeartbeats 4000000 in
theorem am_met {l : Launch} {Ln : Int} {b base : Nat} {D : va_G} {cA : Nat → ClassId} {xs : Nat → Int32} {d m : Nat} {as : List AV} {σ : AS} {T : Option AV → AS → Prop} {H : Heap} (h1 : 0 < m) (h2 : m < 246) (hP : am_P l Ln b base D cA xs d m 0 (am_entry m as) [] σ T)
    (hin : ∀ v ∈ as, am_in v) (hlen : (am_exp as).length ≤ (am_mt m).1) (hrel : am_rel Ln b base D cA xs σ H) (hb : b < base) (hbase : base ≤ H.size) (h0 : 0 ≤ Ln) (h4 : Ln ≤ 4096) :
    Met l (am_my m).1 (am_wd m) (am_rm d) (am_Pc Ln b base D cA xs as H) (am_Qc Ln b base D cA xs m T) 0 0 (fun q => base ≤ q) := by
  have hok := am_ok_m h1 h2
  have hpl : plainName (am_my m).1.cls = true := by
    simp only [am_okm, Bool.and_eq_true] at hok
    exact hok.1.2
  refine Met.ofW (cc := (am_my m).2) (maxL := (am_mt m).1) (ret := am_rty (am_mt m).2.2) (ws' := am_gt) hpl rfl ?_
  intro p e s mid args below meth c s₁ B hml hv
  obtain ⟨rfl, hH, hK, hN, hX⟩ := hv
  subst hH
  have hx := B.exec
  have hbb := B.bytes
  have hr := B.returns
  have hts := atoms_spec (ws := am_wd m) B.pre
  have hown : s.vm.findClass (am_my m).1.cls = some mid.cls := findClass_of_methodNamed B.named
  have hlocks := B.notSynchronized
  have hl := lv_entry (as.map (am_c (am_ad b base))) (n := (am_mt m).1) (by rw [am_exp_len]; exact hlen)
  rw [lg_entry_eq]
  generalize (lg_sl (as.map (am_c (am_ad b base))) ++ List.replicate ((am_mt m).1 - (lg_sl (as.map (am_c (am_ad b base)))).length) Slot.unset).toArray = ls at hl ⊢
  refine hP p e (am_rm d) s mid _ below meth c s.heap s.heap [] 0 0 _ ls ⟨hx, hbb, hml, hown, fun w hw => hts w (List.mem_cons_of_mem _ hw), hN, hK, hX, hb, hbase, Nat.le_refl _, Nat.le_refl _, h0, h4⟩ hrel va_S.rf (Nat.le_refl _) (Nat.le_refl _) (am_entry_loc hl) (am_pad_in trivial _ _ (am_exp_in trivial _ hin)) (fun v hv => by cases hv) ?_
  intro v σ' H' locs' pc' ls' hT hrel' hS' hd
  have fin : ∀ t : State, t.heap = H' → am_shape m v → am_Qc Ln b base D cA xs m T (as.map (am_c (am_ad b base))).toArray s (.returned (v.map (am_c (am_ad b base)))) t := fun t ht hsh => ⟨⟨v, σ', rfl, hT, by rw [ht]; exact hrel', hsh⟩, hS'.F ht⟩
  match v, hd with
  | none, hd =>
    exact W.vret hx hbb (by rw [hr, hd.2]; rfl) (fun t ht hW => fin t ht hd.2) hS'.2.2 hd.1
  | some (.inl x), hd =>
    rcases hd.2.1 with q | q
    · exact W.iret (v := Int32.ofInt x) hx hbb (by rw [hr, q]; rfl) (fun t ht hW => fin t ht hd.2) hS'.2.2 hd.1
    · refine W.zret (v := Int32.ofInt x) (ty := .boolean) hx hbb (by rw [hr, q.1]; rfl) ?_ (fun t ht hW => fin t ht hd.2) hS'.2.2 hd.1
      rcases q.2 with e | e <;> rw [e] <;> rfl
  | some (.inr (.inl x)), hd =>
    exact W.lret (v := Int64.ofInt x) hx hbb (by rw [hr, hd.2.1]; rfl) (fun t ht hW => fin t ht hd.2) hS'.2.2 hd.1
theorem am_Pc_blind {Ln : Int} {b base : Nat} {D : va_G} {cA : Nat → ClassId} {xs : Nat → Int32} {as : List AV} {H : Heap} : FrameBlind (am_Pc Ln b base D cA xs as H) := by
  intro a U g mk q
  obtain ⟨q0, q1, q2, q3, q4⟩ := q
  exact ⟨q0, q1, va_K.moved (u := U) (U := U.calling g mk a) (Vm.Alike.refl U.vm) q2, am_nest_vm (s := U) (U := U.calling g mk a) rfl q3, va_X.moved (u := U) (U := U.calling g mk a) (Vm.Alike.refl U.vm) q4⟩
section CW
variable {p : Program} {l : Launch} {e : Env} {R : Room} {s : State} {mid : MethodId} {args : Array Value} {below : List Frame} {meth : Method} {c : Code} {H H0 : Heap} {locs : List Loc} {cells slots : Nat} {Qf : State → Prop}
theorem am_callW {Ln : Int} {b base : Nat} {D : va_G} {cA : Nat → ClassId} {xs : Nat → Int32} {m pc : Nat} {T : Option AV → AS → Prop} {a : Array Value} {ls : Array Slot} {st0 rest : List Value}
    (hr : va_Run p l e R s mid args below meth c H locs cells slots 0 0 (F0 mid pc ls st0) rest (am_Qc Ln b base D cA xs m T a) (fun q => base ≤ q)) (hS : va_S (fun q => base ≤ q) H0 H locs)
    (kk : ∀ v σ' H1 locs1, T v σ' → am_rel Ln b base D cA xs σ' H1 → am_shape m v → va_S (fun q => base ≤ q) H0 H1 locs1 → W p l e R s mid args below meth c H1 locs1 cells slots Qf (F0 mid (pc + 3) ls (am_top (am_ad b base) v ++ rest))) :
    W p l e R s mid args below meth c H locs cells slots Qf (F0 mid pc ls st0) := by
  intro U hU X
  obtain ⟨v, st₀, t, T', L, h0, X', hL, e1, e2, ⟨⟨w, σ', hv, hp, hrel, hsh⟩, hz, hk⟩, st⟩ := hr U hU X
  cases hv
  rw [h0] at hz hk
  obtain ⟨t2, a1, b1⟩ := kk w σ' T'.heap (locs ++ L) hp (by rw [e1]; exact hrel) hsh
    ⟨Nat.le_trans hS.1 (by rw [e1]; exact hz), fun q h1 h2 => by rw [e1, hk q (Nat.lt_of_lt_of_le h1 hS.1) h2]; exact hS.2.1 q h1 h2, fun q hq => by
      rcases List.mem_append.mp hq with h | h
      · exact hS.2.2 q h
      · exact hL q h⟩ T' rfl X'
  refine ⟨t2, st t2 ?_, b1⟩
  have e3 : ((w.map (am_c (am_ad b base))).toList ++ rest) = am_top (am_ad b base) w ++ rest := by cases w <;> rfl
  rw [e3]
  exact a1
end CW
end
section
theorem am_uw0 : (wsX00).map some = ([548, 550, 552, 554, 556, 558, 560, 562, 564, 566, 568, 570] : List Nat).map (fun i => lw_tbl[i]?) := by decide +kernel
theorem am_ug0 : (wsX00).all goodWord = true := by decide +kernel
theorem am_uw1 : (wsX10).map some = ([587, 589, 591, 593, 595, 597] : List Nat).map (fun i => lw_tbl[i]?) := by decide +kernel
theorem am_ug1 : (wsX10).all goodWord = true := by decide +kernel
theorem am_uw2 : (wsX20).map some = ([261, 263, 265, 267, 269] : List Nat).map (fun i => lw_tbl[i]?) := by decide +kernel
theorem am_ug2 : (wsX20).all goodWord = true := by decide +kernel
theorem am_uw3 : (wsX30).map some = ([223, 225, 227, 229, 231, 233, 235, 237, 239, 241, 243, 245] : List Nat).map (fun i => lw_tbl[i]?) := by decide +kernel
theorem am_ug3 : (wsX30).all goodWord = true := by decide +kernel
theorem am_uw4 : (wsX40).map some = ([511, 513, 515, 517, 519, 521, 523] : List Nat).map (fun i => lw_tbl[i]?) := by decide +kernel
theorem am_ug4 : (wsX40).all goodWord = true := by decide +kernel
theorem am_uw5 : (wsX50).map some = ([175, 177, 179] : List Nat).map (fun i => lw_tbl[i]?) := by decide +kernel
theorem am_ug5 : (wsX50).all goodWord = true := by decide +kernel
theorem am_uw6 : (wsX60).map some = ([460, 462, 464, 466, 468, 470, 472, 474, 476, 478, 480, 482, 484, 486, 488, 490, 492] : List Nat).map (fun i => lw_tbl[i]?) := by decide +kernel
theorem am_ug6 : (wsX60).all goodWord = true := by decide +kernel
theorem am_uw7 : (wsX70).map some = ([304, 306, 308, 310, 312, 314, 316, 318, 320, 322, 324, 326, 328, 330, 332] : List Nat).map (fun i => lw_tbl[i]?) := by decide +kernel
theorem am_ug7 : (wsX70).all goodWord = true := by decide +kernel
theorem am_uw8 : (wsX80).map some = ([350, 352, 354, 356, 358, 360, 362, 364] : List Nat).map (fun i => lw_tbl[i]?) := by decide +kernel
theorem am_ug8 : (wsX80).all goodWord = true := by decide +kernel
theorem am_uw9 : (wsX90).map some = ([403, 405, 407, 409, 411, 413, 415, 417, 419, 421, 423, 425, 427] : List Nat).map (fun i => lw_tbl[i]?) := by decide +kernel
theorem am_ug9 : (wsX90).all goodWord = true := by decide +kernel
theorem am_uw10 : (wsX100).map some = ([155, 157] : List Nat).map (fun i => lw_tbl[i]?) := by decide +kernel
theorem am_ug10 : (wsX100).all goodWord = true := by decide +kernel
theorem am_uw11 : (wsX110).map some = ([613, 615, 617, 619, 621, 623, 625, 627, 629, 631, 633, 635, 637] : List Nat).map (fun i => lw_tbl[i]?) := by decide +kernel
theorem am_ug11 : (wsX110).all goodWord = true := by decide +kernel
theorem am_uw12 : (wsX120).map some = ([1300, 1302, 1304, 1306, 1308, 1310, 1312, 1314, 1316, 1318, 1320, 1322, 1324, 1326, 1328, 1330, 1332, 1334, 1336, 1338, 1340, 1342, 1344, 1346, 1348, 1350, 1352, 1354, 1356, 1358, 1360, 1362, 1364, 1366, 1368, 1370, 1372, 1374, 1376, 1378, 1380, 1382, 1384, 1386, 1388, 1390, 1392, 1394, 1396, 1398, 1400, 1402, 1404, 1406, 1408, 1410, 1412, 1414, 1416, 1418, 1420, 1422, 1424, 1426, 1428, 1430, 1432, 1434, 1436, 1438, 1440, 1442, 1444, 1446, 1448, 1450, 1452, 1454, 1456, 1458, 1460, 1462] : List Nat).map (fun i => lw_tbl[i]?) := by decide +kernel
theorem am_ug12 : (wsX120).all goodWord = true := by decide +kernel
theorem am_uw_in {ws : List Cond} {ps : List Nat} (h : ws.map some = ps.map (fun i => lw_tbl[i]?)) (g : ws.all goodWord = true) : ∀ w ∈ ws, w ∈ am_gt := by
  intro w hw
  have h1 : some w ∈ ws.map some := List.mem_map.mpr ⟨w, hw, rfl⟩
  rw [h] at h1
  obtain ⟨i, -, hi⟩ := List.mem_map.mp h1
  exact am_gt_in hi (List.all_eq_true.mp g w hw)
/-- what goes with a class of the abstract machine -/
theorem am_cls_ok : ∀ (ci : Nat) (C : String) (T : u_T) (N : Nat), am_cls[ci]? = some (C, T, N) → ∃ ty0 : Nat → FieldType, (∀ k, k < N → parseFieldDescriptor (T k).2.2.1 = some (ty0 k)) ∧ (∀ a, a < N → ∀ b, b < N → a ≠ b → (T a).2.1 ≠ (T b).2.1) ∧ (∀ w ∈ u_ws C T N, w ∈ am_gt) ∧ (am_ftL.getD ci []).length = N := by
  intro ci C T N h
  match ci, h with
  | 0, h => cases h; exact ⟨tyX0, tyX0_ok, nmX0, am_uw_in am_uw0 am_ug0, by decide +kernel⟩
  | 1, h => cases h; exact ⟨tyX1, tyX1_ok, nmX1, am_uw_in am_uw1 am_ug1, by decide +kernel⟩
  | 2, h => cases h; exact ⟨tyX2, tyX2_ok, nmX2, am_uw_in am_uw2 am_ug2, by decide +kernel⟩
  | 3, h => cases h; exact ⟨tyX3, tyX3_ok, nmX3, am_uw_in am_uw3 am_ug3, by decide +kernel⟩
  | 4, h => cases h; exact ⟨tyX4, tyX4_ok, nmX4, am_uw_in am_uw4 am_ug4, by decide +kernel⟩
  | 5, h => cases h; exact ⟨tyX5, tyX5_ok, nmX5, am_uw_in am_uw5 am_ug5, by decide +kernel⟩
  | 6, h => cases h; exact ⟨tyX6, tyX6_ok, nmX6, am_uw_in am_uw6 am_ug6, by decide +kernel⟩
  | 7, h => cases h; exact ⟨tyX7, tyX7_ok, nmX7, am_uw_in am_uw7 am_ug7, by decide +kernel⟩
  | 8, h => cases h; exact ⟨tyX8, tyX8_ok, nmX8, am_uw_in am_uw8 am_ug8, by decide +kernel⟩
  | 9, h => cases h; exact ⟨tyX9, tyX9_ok, nmX9, am_uw_in am_uw9 am_ug9, by decide +kernel⟩
  | 10, h => cases h; exact ⟨tyX10, tyX10_ok, nmX10, am_uw_in am_uw10 am_ug10, by decide +kernel⟩
  | 11, h => cases h; exact ⟨tyX11, tyX11_ok, nmX11, am_uw_in am_uw11 am_ug11, by decide +kernel⟩
  | 12, h => cases h; exact ⟨tyX12, tyX12_ok, nmX12, am_uw_in am_uw12 am_ug12, by decide +kernel⟩
  | ci + 13, h => simp [am_cls] at h
theorem am_w_ac1 : Cond.native arraycopyName ∈ am_gt := am_gt_in (i := 1040) (by decide +kernel) (by decide +kernel)
theorem am_w_ac2 : Cond.static arraycopyName ∈ am_gt := am_gt_in (i := 1039) (by decide +kernel) (by decide +kernel)
theorem am_w_ac3 : Cond.initialized "java/lang/System" ∈ am_gt := am_gt_in (i := 137) (by decide +kernel) (by decide +kernel)
theorem am_w_ma0 : Cond.initialized "java/lang/Math" ∈ am_gt := am_gt_in (i := 135) (by decide +kernel) (by decide +kernel)
theorem am_w_max1 : Cond.static Lib.Math.max.name ∈ am_gt := am_gt_in (i := 893) (by decide +kernel) (by decide +kernel)
theorem am_w_max2 : Cond.code Lib.Math.max.name Lib.Math.max.code 2 (some .int) ∈ am_gt := am_gt_in (i := 894) (by decide +kernel) (by decide +kernel)
theorem am_w_min1 : Cond.static Lib.Math.min.name ∈ am_gt := am_gt_in (i := 740) (by decide +kernel) (by decide +kernel)
theorem am_w_min2 : Cond.code Lib.Math.min.name Lib.Math.min.code 2 (some .int) ∈ am_gt := am_gt_in (i := 741) (by decide +kernel) (by decide +kernel)
end
section
/-! a step of the abstract machine is steps of the machine -/
theorem am_cons {v : AV} {r : List AV} (h1 : am_in v) (h2 : ∀ w ∈ r, am_in w) : ∀ w ∈ v :: r, am_in w := fun w hw => by
  rcases List.mem_cons.mp hw with rfl | q
  · exact h1
  · exact h2 w q
theorem am_hd {v : AV} {r : List AV} (h : ∀ w ∈ v :: r, am_in w) : am_in v := h v List.mem_cons_self
theorem am_tl {v : AV} {r : List AV} (h : ∀ w ∈ v :: r, am_in w) : ∀ w ∈ r, am_in w := fun w hw => h w (List.mem_cons_of_mem _ hw)
theorem am_len {a b : Nat} (h : Nat.beq a b = true) : a = b := Nat.eq_of_beq_eq_true h
theorem am_tgt_eq {pc : Nat} {off : Int} (h : am_nn pc off = true) : (pc : Int) + off = ((am_tgt pc off : Nat) : Int) := by
  have h2 : 0 ≤ (pc : Int) + off := by simpa [am_nn] using h
  unfold am_tgt
  omega
theorem am_i32_in {x : Int} (h : am_i32 x = true) : in32 x := by simpa [am_i32, in32] using h
theorem am_i64_in {x : Int} (h : am_i64 x = true) : in64 x := by simpa [am_i64, in64] using h
theorem am_all_app {K : Nat → List AV → List AV → AS → Prop} : ∀ {l1 l2 : List (Prop × AC)}, am_all K (l1 ++ l2) → am_all K l1 ∧ am_all K l2
  | [], _, h => ⟨trivial, h⟩
  | (_, _, _, _, _) :: r, _, h => ⟨⟨h.1, (am_all_app (l1 := r) h.2).1⟩, (am_all_app (l1 := r) h.2).2⟩
theorem am_tab_at {K : Nat → List AV → List AV → AS → Prop} {ls st : List AV} {σ : AS} {pc : Nat} {x off : Int} : ∀ {offs : List Int} {lo : Int} {j : Nat}, am_all K (am_tab ls st σ pc x lo offs) → offs[j]? = some off → x = lo + j → K (am_tgt pc off) ls st σ
  | [], lo, j, _, h, _ => by simp at h
  | o :: r, lo, 0, h, h2, h3 => by
    have e : o = off := by simpa using h2
    subst e
    exact h.1 (by simpa using h3)
  | o :: r, lo, j + 1, h, h2, h3 => am_tab_at (offs := r) (lo := lo + 1) (j := j) h.2 (by simpa using h2) (by rw [h3]; push_cast; omega)
theorem am_lkp_at {K : Nat → List AV → List AV → AS → Prop} {ls st : List AV} {σ : AS} {pc : Nat} {x d : Int} : ∀ {ps : List (Int × Int)}, am_all K (am_lkp ls st σ pc x ps) → (am_ne x ps → K (am_tgt pc d) ls st σ) → (∀ q ∈ ps, am_nn pc q.2 = true) → am_nn pc d = true →
    ∃ off, Op.lookupswitch.offset ps d x = off ∧ K (am_tgt pc off) ls st σ ∧ am_nn pc off = true
  | [], _, h2, _, h4 => ⟨d, Op.lookupswitch.offset_nil _ _, h2 trivial, h4⟩
  | (k, o) :: r, h, h2, h3, h4 => by
    rw [Op.lookupswitch.offset_cons]
    by_cases e : k = x
    · rw [if_pos e]
      exact ⟨o, rfl, h.1 e.symm, h3 (k, o) List.mem_cons_self⟩
    · rw [if_neg e]
      exact am_lkp_at (ps := r) h.2 (fun q => h2 ⟨fun z => e z.symm, q⟩) (fun q hq => h3 q (List.mem_cons_of_mem _ hq)) h4
theorem am_kd_0 {Ln : Int} : am_kd Ln 0 = (5, Ln, 0) := rfl
theorem am_kd_5 {Ln : Int} {k : Nat} : (am_kd Ln (k + 1)).1 ≠ 5 := by
  have key : ∀ q ∈ am_kdL, ∀ r ∈ q, r.1 ≠ 5 := by
    have : am_kdL.all (fun q => q.all fun r => decide (r.1 ≠ 5)) = true := by decide +kernel
    intro q hq r hr
    have h2 := List.all_eq_true.mp this q hq
    simpa using List.all_eq_true.mp h2 r hr
  show ((am_kdL.getD (k / 16) []).getD (k % 16) (9, 0, 0)).1 ≠ 5
  rw [List.getD_eq_getElem?_getD, List.getD_eq_getElem?_getD]
  cases hq : am_kdL[k / 16]? with
  | none => simp
  | some q =>
    simp only [Option.getD_some]
    cases hr : q[k % 16]? with
    | none => simp
    | some r => exact key q (List.mem_of_getElem? hq) r (List.mem_of_getElem? hr)
/-- a cell of a kind is one of the world's -/
theorem am_kd_cell {Ln : Int} {a t ci : Nat} {n : Int} (h : am_kd Ln a = (t, n, ci)) (h5 : t ≠ 5) (h9 : t ≠ 9) : ∃ k, a = k + 1 ∧ k < am_NC := by
  cases a with
  | zero => rw [am_kd_0] at h; cases h; exact absurd rfl h5
  | succ k => exact ⟨k, rfl, am_kd_lt (Ln := Ln) (by rw [h]; exact h9)⟩
theorem am_fld_inv {Ln : Int} {a ci k t : Nat} (h : am_fld Ln a ci k = t) (ht : t ≠ 9) : (∃ n, am_kd Ln a = (0, n, ci)) ∧ am_ft ci k = t := by
  unfold am_fld at h
  split at h
  · rename_i n c e
    split at h
    · rename_i e2
      have e3 := Nat.eq_of_beq_eq_true e2
      subst e3
      exact ⟨⟨n, e⟩, h⟩
    · exact absurd h.symm ht
  · exact absurd h.symm ht
theorem am_ft_at {ci k t : Nat} (h : am_ft ci k = t) (ht : t ≠ 9) : (am_ftL.getD ci [])[k]? = some t := by
  unfold am_ft at h
  rw [List.getD_eq_getElem?_getD] at h
  cases hq : (am_ftL.getD ci [])[k]? with
  | none => rw [hq] at h; exact absurd h.symm ht
  | some v => rw [hq] at h; rw [← h]; rfl
theorem am_fv_up {ad : Nat → Nat} {σ : AS} {a y t : Nat} {v : Int} {l : List Nat} (h : l[y]? = some t) (ht : t ≠ 2) : am_fv ad (am_up σ a (y : Int) v) a 0 l = (am_fv ad σ a 0 l).set y (.int (Int32.ofInt v)) := by
  apply List.ext_getElem?
  intro j
  have hy := (List.getElem?_eq_some_iff.mp h).1
  rw [am_fv_get, List.getElem?_set]
  by_cases e : y = j
  · subst e
    rw [if_pos rfl, if_pos (by rw [am_fv_len]; exact hy), h]
    simp only [Option.map_some]
    unfold am_fe
    split
    · exact absurd rfl ht
    · rw [am_up_eq, if_pos (by simp)]
  · rw [if_neg e, am_fv_get]
    cases l[j]? with
    | none => rfl
    | some u =>
      simp only [Option.map_some]
      unfold am_fe
      split
      · rfl
      · rw [am_up_eq, if_neg (by omega)]
section REL
variable {Ln : Int} {b base : Nat} {D : va_G} {cA : Nat → ClassId} {xs : Nat → Int32} {σ : AS} {H H1 : Heap}
theorem am_rel_i {a t : Nat} {n : Int} {ci : Nat} (h : am_rel Ln b base D cA xs σ H) (hk : am_kd Ln a = (t, n, ci)) (ht : t ≠ 2) (i : Int) : in32 (σ a i) := by
  have h2 := h.2.1 a i
  rw [hk] at h2
  revert h2
  match t, ht with
  | 0, _ => exact id
  | 1, _ => exact id
  | 2, ht => exact absurd rfl ht
  | t + 3, _ => exact id
theorem am_rel_l {a : Nat} {n : Int} {ci : Nat} (h : am_rel Ln b base D cA xs σ H) (hk : am_kd Ln a = (2, n, ci)) (i : Int) : in64 (σ a i) := by
  have h2 := h.2.1 a i
  rw [hk] at h2
  exact h2
theorem am_rel_up {k : Nat} {i v : Int} {t : Nat} {n : Int} {ci : Nat} (h : am_rel Ln b base D cA xs σ H) (hk : am_kd Ln (k + 1) = (t, n, ci)) (hv : (t = 2 → in64 v) ∧ (t ≠ 2 → in32 v))
    (hP : va_P D am_cls ((am_ws Ln b base cA σ).set k (base + k, am_cell Ln (am_ad b base) cA (am_up σ (k + 1) i v) (k + 1))) H1) : am_rel Ln b base D cA xs (am_up σ (k + 1) i v) H1 := by
  refine ⟨?_, ?_, ?_⟩
  · rw [am_ws_set (σ := σ) (k := k) (fun a ha => am_up_ne ha)]
    exact hP
  · intro a j
    by_cases e : a = k + 1
    · subst e
      have h2 := h.2.1 (k + 1) j
      rw [hk] at h2 ⊢
      rw [am_up_eq]
      by_cases ej : j = i
      · rw [if_pos ej]
        by_cases e2 : t = 2
        · subst e2; exact hv.1 rfl
        · revert h2
          match t, e2 with
          | 0, _ => exact fun _ => hv.2 (by decide)
          | 1, _ => exact fun _ => hv.2 (by decide)
          | 2, e2 => exact absurd rfl e2
          | t + 3, _ => exact fun _ => hv.2 (by omega)
      · rw [if_neg ej]
        exact h2
    · rw [am_up_ne e]
      exact h.2.1 a j
  · intro j hj
    rw [am_up_ne (by omega)]
    exact h.2.2 j hj
end REL
theorem am_upd_i {σ : AS} {a : Nat} {i v : Int} (h0 : 0 ≤ i) (hi : in32 i) : (fun j : Nat => Int32.ofInt (am_up σ a i v a j)) = upd (fun j : Nat => Int32.ofInt (σ a j)) (Int32.ofInt i).toNatClampNeg (Int32.ofInt v) := by
  funext j
  rw [clamp_i h0 hi, am_up_eq]
  unfold upd
  by_cases e : (j : Int) = i
  · rw [if_pos e, if_pos (by omega)]
  · rw [if_neg e, if_neg (by omega)]
theorem am_upd_l {σ : AS} {a : Nat} {i v : Int} (h0 : 0 ≤ i) (hi : in32 i) : (fun j : Nat => Int64.ofInt (am_up σ a i v a j)) = vp_updL (fun j : Nat => Int64.ofInt (σ a j)) (Int32.ofInt i).toNatClampNeg (Int64.ofInt v) := by
  funext j
  rw [clamp_i h0 hi, am_up_eq]
  unfold vp_updL
  by_cases e : (j : Int) = i
  · rw [if_pos e, if_pos (by omega)]
  · rw [if_neg e, if_neg (by omega)]
theorem am_kd_n {Ln : Int} {a t ci : Nat} {n : Int} (h0 : 0 ≤ Ln) (h4 : Ln ≤ 4096) (h : am_kd Ln a = (t, n, ci)) : 0 ≤ n ∧ n ≤ 14000 := by
  have := am_kd_len (a := a) h0 h4
  rw [h] at this
  exact this
theorem am_cats {ad : Nat → Nat} : ∀ {r : List AV}, r.length ≤ 4 → ((r.map (am_c ad)).map fun v => v.category).sum ≤ 8 := by
  have key : ∀ (r : List AV), ((r.map (am_c ad)).map fun v => v.category).sum ≤ 2 * r.length := by
    intro r
    induction r with
    | nil => exact Nat.le_refl _
    | cons v r ih =>
      rw [List.map_cons, List.map_cons, List.sum_cons, List.length_cons]
      rcases lv_cat (am_c ad v) with e | e <;> rw [e] <;> omega
  intro r h
  have := key r
  omega
theorem am_ofInt_toInt (x : Int32) : Int32.ofInt x.toInt = x := Int32.ofInt_toInt x
theorem am_len_i {n : Int} (h0 : 0 ≤ n) : Int32.ofNat n.toNat = Int32.ofInt n := by
  obtain ⟨k, rfl⟩ := Int.eq_ofNat_of_zero_le h0
  simp [Int32.ofNat, Int32.ofInt]
  try rfl
theorem am_kd_big {Ln : Int} {a t ci : Nat} {n : Int} (h5 : 5 < t) (h9 : t ≠ 9) : ¬ am_kd Ln a = (t, n, ci) := by
  intro h
  cases a with
  | zero => rw [am_kd_0] at h; cases h; omega
  | succ k =>
    have key : ∀ q ∈ am_kdL, ∀ r ∈ q, r.1 ≤ 5 := by
      have : am_kdL.all (fun q => q.all fun r => decide (r.1 ≤ 5)) = true := by decide +kernel
      intro q hq r hr
      have h2 := List.all_eq_true.mp this q hq
      simpa using List.all_eq_true.mp h2 r hr
    have e : (am_kdL.getD (k / 16) []).getD (k % 16) (9, 0, 0) = (t, n, ci) := h
    rw [List.getD_eq_getElem?_getD, List.getD_eq_getElem?_getD] at e
    cases hq : am_kdL[k / 16]? with
    | none => rw [hq] at e; simp at e; omega
    | some q =>
      rw [hq] at e
      simp only [Option.getD_some] at e
      cases hr : q[k % 16]? with
      | none => rw [hr] at e; simp at e; omega
      | some r =>
        rw [hr] at e
        simp only [Option.getD_some] at e
        have := key q (List.mem_of_getElem? hq) r (List.mem_of_getElem? hr)
        rw [e] at this
        exact absurd this (by show ¬ t ≤ 5; omega)
theorem am_rel_cpy {Ln : Int} {b base : Nat} {D : va_G} {cA : Nat → ClassId} {xs : Nat → Int32} {σ : AS} {H H1 : Heap} {k0 k1 c0 c1 : Nat} {n0 n1 sp dp n : Int} (h : am_rel Ln b base D cA xs σ H) (hkd0 : am_kd Ln (k0 + 1) = (1, n0, c0)) (hkd1 : am_kd Ln (k1 + 1) = (1, n1, c1)) (h1 : 0 ≤ sp) (h2 : 0 ≤ dp) (h3 : 0 ≤ n)
    (hP : va_P D am_cls ((am_ws Ln b base cA σ).set k1 (base + k1, .inl (cA 1, n1.toNat, .inl (va_cpy (fun j : Nat => Int32.ofInt (σ (k0 + 1) j)) (fun j : Nat => Int32.ofInt (σ (k1 + 1) j)) sp.toNat dp.toNat n.toNat)))) H1) : am_rel Ln b base D cA xs (am_cpy σ (k0 + 1) (k1 + 1) sp dp n) H1 := by
  refine ⟨?_, ?_, ?_⟩
  · rw [am_ws_set (σ := σ) (k := k1) (fun a ha => am_cpy_ne ha)]
    have hcell : am_cell Ln (am_ad b base) cA (am_cpy σ (k0 + 1) (k1 + 1) sp dp n) (k1 + 1) = .inl (cA 1, n1.toNat, .inl (fun j => Int32.ofInt (am_cpy σ (k0 + 1) (k1 + 1) sp dp n (k1 + 1) j))) := by unfold am_cell; rw [hkd1] <;> rfl
    rw [hcell]
    have e : (fun j : Nat => Int32.ofInt (am_cpy σ (k0 + 1) (k1 + 1) sp dp n (k1 + 1) j)) = va_cpy (fun j : Nat => Int32.ofInt (σ (k0 + 1) j)) (fun j : Nat => Int32.ofInt (σ (k1 + 1) j)) sp.toNat dp.toNat n.toNat := by
      funext j
      rw [am_cpy_eq]
      unfold va_cpy
      by_cases q : dp.toNat ≤ j ∧ j < dp.toNat + n.toNat
      · rw [if_pos q, if_pos (by omega), show sp + ((j : Int) - dp) = ((sp.toNat + (j - dp.toNat) : Nat) : Int) by omega]
      · rw [if_neg q, if_neg (by omega)]
    rw [e]
    exact hP
  · intro a j
    by_cases e : a = k1 + 1
    · subst e
      rw [hkd1]
      show in32 _
      rw [am_cpy_eq]
      split
      · exact am_rel_i h hkd0 (by decide) _
      · exact am_rel_i h hkd1 (by decide) _
    · rw [am_cpy_ne e]
      exact h.2.1 a j
  · intro j hj
    rw [am_cpy_ne (by omega)]
    exact h.2.2 j hj
end
section
/-! a call, as a step -/
theorem am_goodIn {ws : List Cond} (h : ∀ w ∈ ws, w ∈ am_gt) : GoodIn am_gt ws := fun w hw => ⟨h w hw, good_of_word (List.mem_filter.mp (h w hw)).2⟩
theorem am_rest_in {st st' : List AV} {y : Nat} (hst : ∀ w ∈ st, am_in w) (hv : ∀ w ∈ st', w ∈ st.drop y ∨ am_in w) : ∀ w ∈ st', am_in w := fun w hw => (hv w hw).elim (fun q => hst w (List.mem_of_mem_drop q)) id
theorem am_kont_go {ad : Nat → Nat} {x pc : Nat} {v : Option AV} {σ' : AS} {T : Option AV → AS → Prop} {K : Nat → List AV → List AV → AS → Prop} {al rest : List AV} {G : Prop} (hsh : am_shape x v) (hk : am_kont (am_mt x).2.2 T K pc al rest) (hT : T v σ')
    (cont : ∀ st', K pc al st' σ' → (∀ w ∈ st', w ∈ rest ∨ am_in w) → st'.map (am_c ad) = am_top ad v ++ rest.map (am_c ad) → G) : G := by
  match v, hsh, hT with
  | none, hsh, hT =>
    have hsh : (am_mt x).2.2 = 0 := hsh
    rw [hsh] at hk
    exact cont rest (hk σ' hT) (fun w hw => Or.inl hw) rfl
  | some (.inl u), hsh, hT =>
    have key : K pc al (vI u :: rest) σ' := by
      rcases hsh.1 with q | q
      · rw [q] at hk; exact hk u σ' hT
      · rw [q.1] at hk; exact hk u σ' hT
    refine cont (vI u :: rest) key (fun w hw => ?_) rfl
    rcases List.mem_cons.mp hw with rfl | q
    · exact Or.inr hsh.2
    · exact Or.inl q
  | some (.inr (.inl u)), hsh, hT =>
    have h3 : (am_mt x).2.2 = 3 := hsh.1
    rw [h3] at hk
    refine cont (vL u :: rest) (hk u σ' hT) (fun w hw => ?_) rfl
    rcases List.mem_cons.mp hw with rfl | q
    · exact Or.inr hsh.2
    · exact Or.inl q
  | some (.inr (.inr _)), hsh, _ => exact hsh.elim
/-- what the tables say of a method that is called -/
theorem am_okm_facts {x : Nat} (h1 : 0 < x) (h2 : x < 246) : lw_tbl[(am_mw x).1]? = some (Jvm.Cond.code (am_my x).1 (am_my x).2 (am_mt x).1 (am_rty (am_mt x).2.2)) ∧ lw_tbl[(am_mw x).2.2.2.1]? = some (Jvm.Cond.initialized (am_my x).1.cls) ∧
    ((am_my x).1.cls ≠ "java/lang/invoke/MethodHandle" ∧ (am_my x).1.cls ≠ "java/lang/invoke/VarHandle") ∧ (am_mt x).1 ≤ 21 ∧
    ((am_mw x).2.2.2.2 = 0 → lw_tbl[(am_mw x).2.1]? = some (Jvm.Cond.instanceMethod (am_my x).1) ∧ lw_tbl[(am_mw x).2.2.1]? = some (Jvm.Cond.selects (am_my x).1.cls (am_my x).1 (am_my x).1) ∧ (parseMethodDescriptor (am_my x).1.desc).map (fun d => d.parameters.length + 1) = some (am_mt x).2.1) ∧
    ((am_mw x).2.2.2.2 = 1 → lw_tbl[(am_mw x).2.1]? = some (Jvm.Cond.static (am_my x).1) ∧ (parseMethodDescriptor (am_my x).1.desc).map (fun d => d.parameters.length) = some (am_mt x).2.1) := by
  have h := am_ok_m h1 h2
  unfold am_okm at h
  generalize am_my x = a at h ⊢
  generalize am_mt x = b at h ⊢
  generalize am_mw x = c at h ⊢
  obtain ⟨y, bs⟩ := a
  obtain ⟨ml, na, rt⟩ := b
  obtain ⟨p1, p2, p3, p4, t⟩ := c
  simp only [Bool.and_eq_true, decide_eq_true_eq] at h
  obtain ⟨⟨⟨⟨⟨q1, q2⟩, q3⟩, q4⟩, q5⟩, q6⟩ := h
  refine ⟨q1, q2, q3, Nat.ble_eq.mp q4, fun e => ?_, fun e => ?_⟩
  · have e : t = 0 := e
    subst e
    simp only [Bool.and_eq_true, decide_eq_true_eq] at q6
    exact ⟨q6.1.1, q6.1.2, q6.2⟩
  · have e : t = 1 := e
    subst e
    simp only [Bool.and_eq_true, decide_eq_true_eq] at q6
    exact q6
section ST
variable {l : Launch} {Ln : Int} {b base : Nat} {D : va_G} {cA : Nat → ClassId} {xs : Nat → Int32} {d m : Nat} {p : Program} {e : Env} {R : Room} {s : State} {mid : MethodId} {args : Array Value} {below : List Frame} {meth : Method} {c : Code} {H H0 : Heap} {locs : List Loc} {cells slots : Nat} {Qf : State → Prop}
variable {ls : Array Slot} {al st : List AV} {σ : AS} {pc i w x y : Nat} {cc : Int} {T : Option AV → AS → Prop}
theorem am_callV_step (hC : am_ctx Ln b base D cA xs d m p R s mid args c H0) (hR : am_rel Ln b base D cA xs σ H) (hS : va_S (fun q => base ≤ q) H0 H locs) (hcc : cells ≤ R.cells) (hss : slots ≤ R.slots) (hl : am_loc (am_ad b base) ls (am_mt m).1 al) (hst : ∀ v ∈ st, am_in v)
    (hdg : decode (am_my m).2 pc = .ok (.invokevirtual i, 3)) (hlink : lw_tbl[w]? = some (Jvm.Cond.methodLink (am_my m).1.cls i (am_my x).1)) (h1 : 0 < x) (h2 : x < 246) (hstat : (am_mw x).2.2.2.2 = 0) (hny : y = (am_mt x).2.1) (hcls : (am_cls[cc.toNat]?).map (fun q => q.1) = some (am_my x).1.cls)
    (hn : y ≤ st.length) (hr4 : (st.drop y).length ≤ 4) (hexp : (am_exp (st.take y).reverse).length ≤ (am_mt x).1) (hrcv : am_rcv Ln true cc (st.take y).reverse = true) (hcall : am_cl (am_P l Ln b base D cA xs) d x (st.take y).reverse σ T)
    (kk : ∀ v σ' H1 locs1, T v σ' → am_rel Ln b base D cA xs σ' H1 → am_shape x v → va_S (fun q => base ≤ q) H0 H1 locs1 → W p l e R s mid args below meth c H1 locs1 cells slots Qf (F0 mid (pc + 3) ls (am_top (am_ad b base) v ++ (st.drop y).map (am_c (am_ad b base))))) :
    W p l e R s mid args below meth c H locs cells slots Qf (F0 mid pc ls (st.map (am_c (am_ad b base)))) := by
  obtain ⟨hx, hb, hml, hown, hts, hN, hK, hX, hbb, hbase, hfr, hlo, h0, h4⟩ := id hC
  obtain ⟨f1, f2, f3, f4, f5, -⟩ := am_okm_facts h1 h2
  obtain ⟨f5, f6, f7⟩ := f5 hstat
  have hlen : (st.take y).reverse.length = y := by rw [List.length_reverse, List.length_take]; omega
  have hst2 : st = ((st.take y).reverse).reverse ++ st.drop y := by rw [List.reverse_reverse, List.take_append_drop]
  have hin2 : ∀ v ∈ (st.take y).reverse, am_in v := fun v hv => hst v (List.mem_of_mem_take (List.mem_reverse.mp hv))
  generalize (st.take y).reverse = as at *
  generalize st.drop y = rest at *
  cases d with
  | zero => exact hcall.elim
  | succ d =>
    unfold am_rcv at hrcv
    simp only at hrcv
    split at hrcv
    · rename_i a as' 
      split at hrcv
      · rename_i n0 k hkd
        have ek := Nat.eq_of_beq_eq_true hrcv
        obtain ⟨ka, rfl, hka⟩ := am_kd_cell hkd (by decide) (by decide)
        have hcell : am_cell Ln (am_ad b base) cA σ (ka + 1) = .inr (k, am_fv (am_ad b base) σ (ka + 1) 0 (am_ftL.getD k [])) := by unfold am_cell; rw [hkd] <;> rfl
        have he := am_ws_get (Ln := Ln) (b := b) (base := base) (cA := cA) (σ := σ) hka
        rw [hcell] at he
        have hMet := am_met (l := l) h1 h2 hcall hin2 hexp hR hbb (Nat.le_trans hbase hS.1) h0 h4
        rw [← ek] at hcls
        cases hq : am_cls[k]? with
        | none => rw [hq] at hcls; cases hcls
        | some q =>
          rw [hq] at hcls
          have hq1 : q.1 = (am_my x).1.cls := Option.some.inj hcls
          have hrec := va_recv hK hR.1 hq he
          rw [hq1] at hrec
          have hpar : (parseMethodDescriptor (am_my x).1.desc).map (fun d => d.parameters.length) = some as'.length := by
            cases hp : parseMethodDescriptor (am_my x).1.desc with
            | none => rw [hp] at f7; cases f7
            | some sg =>
              rw [hp] at f7
              have f8 : sg.parameters.length + 1 = (am_mt x).2.1 := Option.some.inj f7
              have f9 : as'.length + 1 = y := by simpa using hlen
              have f10 : sg.parameters.length = as'.length := by omega
              exact congrArg some f10
          have hgood : GoodIn am_gt (wsV (am_my m).1.cls i (am_my x).1.cls (am_my x).1 (am_wd x)) := by
            refine am_goodIn fun w' hw => ?_
            unfold wsV at hw
            rcases List.mem_append.mp hw with hw | hw
            · simp only [List.mem_cons, List.not_mem_nil, or_false] at hw
              rcases hw with rfl | rfl | rfl | rfl
              · exact am_gt_in hlink rfl
              · exact am_gt_in f5 rfl
              · exact am_gt_in f6 rfl
              · exact am_gt_in f2 rfl
            · rcases List.mem_cons.mp hw with rfl | hw
              · exact am_gt_in f1 rfl
              · exact hw
          have hXH : va_X b Ln.toNat xs s H := hX.kept (hS.2.1 b (Nat.lt_of_lt_of_le hbb hbase) (Nat.not_le.mpr hbb))
          refine am_callW (rest := rest.map (am_c (am_ad b base))) (va_runV (As := as'.map (am_c (am_ad b base))) (rest := rest.map (am_c (am_ad b base))) ⟨hx, hb, hml, hown, hts⟩ hMet (cwV as'.length hts hgood rfl rfl rfl ⟨rfl, f3.1, f3.2, hpar⟩ ⟨hfr, by show 8 + ((am_mt x).1 + 11) + 40 * (d + 1) ≤ R.locals; omega⟩)
            ⟨am_Pc_blind, hrec, fun U hU hW => ⟨rfl, hU, va_K.moved hW.alike hK, am_nest_warm hW hN, hXH.moved hW.alike⟩⟩ rfl (by simp) hl.2.1 ?_ (lv_room (am_cats hr4)) hdg ⟨hcc, hss⟩) hS kk
          show st.map (am_c (am_ad b base)) = _
          rw [hst2]
          simp [am_c, am_ad]
      · cases hrcv
    · cases hrcv
theorem am_callS_step (hC : am_ctx Ln b base D cA xs d m p R s mid args c H0) (hR : am_rel Ln b base D cA xs σ H) (hS : va_S (fun q => base ≤ q) H0 H locs) (hcc : cells ≤ R.cells) (hss : slots ≤ R.slots) (hl : am_loc (am_ad b base) ls (am_mt m).1 al) (hst : ∀ v ∈ st, am_in v)
    (hdg : decode (am_my m).2 pc = .ok (.invokestatic i, 3)) (hlink : lw_tbl[w]? = some (Jvm.Cond.methodLink (am_my m).1.cls i (am_my x).1)) (h1 : 0 < x) (h2 : x < 246) (hstat : (am_mw x).2.2.2.2 = 1) (hny : y = (am_mt x).2.1)
    (hn : y ≤ st.length) (hr4 : (st.drop y).length ≤ 4) (hexp : (am_exp (st.take y).reverse).length ≤ (am_mt x).1) (hcall : am_cl (am_P l Ln b base D cA xs) d x (st.take y).reverse σ T)
    (kk : ∀ v σ' H1 locs1, T v σ' → am_rel Ln b base D cA xs σ' H1 → am_shape x v → va_S (fun q => base ≤ q) H0 H1 locs1 → W p l e R s mid args below meth c H1 locs1 cells slots Qf (F0 mid (pc + 3) ls (am_top (am_ad b base) v ++ (st.drop y).map (am_c (am_ad b base))))) :
    W p l e R s mid args below meth c H locs cells slots Qf (F0 mid pc ls (st.map (am_c (am_ad b base)))) := by
  obtain ⟨hx, hb, hml, hown, hts, hN, hK, hX, hbb, hbase, hfr, hlo, h0, h4⟩ := id hC
  obtain ⟨f1, f2, f3, f4, -, f5⟩ := am_okm_facts h1 h2
  obtain ⟨f5, f7⟩ := f5 hstat
  have hlen : (st.take y).reverse.length = y := by rw [List.length_reverse, List.length_take]; omega
  have hst2 : st = ((st.take y).reverse).reverse ++ st.drop y := by rw [List.reverse_reverse, List.take_append_drop]
  have hin2 : ∀ v ∈ (st.take y).reverse, am_in v := fun v hv => hst v (List.mem_of_mem_take (List.mem_reverse.mp hv))
  generalize (st.take y).reverse = as at *
  generalize st.drop y = rest at *
  cases d with
  | zero => exact hcall.elim
  | succ d =>
    have hMet := am_met (l := l) h1 h2 hcall hin2 hexp hR hbb (Nat.le_trans hbase hS.1) h0 h4
    have hgood : GoodIn am_gt (am_wd x) := am_goodIn fun w' hw => by
      rcases List.mem_cons.mp hw with rfl | hw
      · exact am_gt_in f1 rfl
      · exact hw
    have hXH : va_X b Ln.toNat xs s H := hX.kept (hS.2.1 b (Nat.lt_of_lt_of_le hbb hbase) (Nat.not_le.mpr hbb))
    refine am_callW (rest := rest.map (am_c (am_ad b base))) (va_runS (As := as.map (am_c (am_ad b base))) (rest := rest.map (am_c (am_ad b base))) (n := as.length) ⟨hx, hb, hml, hown, hts⟩ hMet ⟨callB_of as.length hts hgood rfl rfl rfl (hts _ (am_gt_in f2 rfl)) (hts _ (am_gt_in hlink rfl)) ⟨f3.1, f3.2, by rw [f7, ← hny, hlen]⟩ ⟨hfr, by show 8 + ((am_mt x).1 + 11) + 40 * (d + 1) ≤ R.locals; omega⟩, hts _ (am_gt_in f5 rfl)⟩
      ⟨am_Pc_blind, fun U hU hW => ⟨rfl, hU, va_K.moved hW.alike hK, am_nest_warm hW hN, hXH.moved hW.alike⟩⟩ rfl (by simp) hl.2.1 ?_ (lv_room (am_cats hr4)) hdg ⟨hcc, hss⟩) hS kk
    show st.map (am_c (am_ad b base)) = _
    rw [hst2]
    simp
theorem am_callN_step (hC : am_ctx Ln b base D cA xs d m p R s mid args c H0) (hR : am_rel Ln b base D cA xs σ H) (hS : va_S (fun q => base ≤ q) H0 H locs) (hcc : cells ≤ R.cells) (hss : slots ≤ R.slots) (hl : am_loc (am_ad b base) ls (am_mt m).1 al) (hst : ∀ v ∈ st, am_in v)
    (hdg : decode (am_my m).2 pc = .ok (.invokestatic i, 3)) (hlink : lw_tbl[w]? = some (Jvm.Cond.methodLinkNest (am_my m).1.cls i (am_my x).1 "PurseTrace")) (h1 : 0 < x) (h2 : x < 246) (hstat : (am_mw x).2.2.2.2 = 1) (hny : y = (am_mt x).2.1)
    (hn : y ≤ st.length) (hr4 : (st.drop y).length ≤ 4) (hexp : (am_exp (st.take y).reverse).length ≤ (am_mt x).1) (hcall : am_cl (am_P l Ln b base D cA xs) d x (st.take y).reverse σ T)
    (kk : ∀ v σ' H1 locs1, T v σ' → am_rel Ln b base D cA xs σ' H1 → am_shape x v → va_S (fun q => base ≤ q) H0 H1 locs1 → W p l e R s mid args below meth c H1 locs1 cells slots Qf (F0 mid (pc + 3) ls (am_top (am_ad b base) v ++ (st.drop y).map (am_c (am_ad b base))))) :
    W p l e R s mid args below meth c H locs cells slots Qf (F0 mid pc ls (st.map (am_c (am_ad b base)))) := by
  obtain ⟨hx, hb, hml, hown, hts, hN, hK, hX, hbb, hbase, hfr, hlo, h0, h4⟩ := id hC
  obtain ⟨f1, f2, f3, f4, -, f5⟩ := am_okm_facts h1 h2
  obtain ⟨f5, f7⟩ := f5 hstat
  have hlen : (st.take y).reverse.length = y := by rw [List.length_reverse, List.length_take]; omega
  have hst2 : st = ((st.take y).reverse).reverse ++ st.drop y := by rw [List.reverse_reverse, List.take_append_drop]
  have hin2 : ∀ v ∈ (st.take y).reverse, am_in v := fun v hv => hst v (List.mem_of_mem_take (List.mem_reverse.mp hv))
  generalize (st.take y).reverse = as at *
  generalize st.drop y = rest at *
  cases d with
  | zero => exact hcall.elim
  | succ d =>
    have hMet := am_met (l := l) h1 h2 hcall hin2 hexp hR hbb (Nat.le_trans hbase hS.1) h0 h4
    have hgood : GoodIn am_gt (am_wd x) := am_goodIn fun w' hw => by
      rcases List.mem_cons.mp hw with rfl | hw
      · exact am_gt_in f1 rfl
      · exact hw
    have hXH : va_X b Ln.toNat xs s H := hX.kept (hS.2.1 b (Nat.lt_of_lt_of_le hbb hbase) (Nat.not_le.mpr hbb))
    refine am_callW (rest := rest.map (am_c (am_ad b base))) (va_runSN (As := as.map (am_c (am_ad b base))) (rest := rest.map (am_c (am_ad b base))) (n := as.length) ⟨hx, hb, hml, hown, hts⟩ hMet ⟨va_cnB as.length hts hgood rfl rfl rfl (hN _ _ _ _ (List.mem_of_getElem? hlink)) (hts _ (am_gt_in f2 rfl)) ⟨f3.1, f3.2, by rw [f7, ← hny, hlen]⟩ ⟨hfr, by show 8 + ((am_mt x).1 + 11) + 40 * (d + 1) ≤ R.locals; omega⟩, hts _ (am_gt_in f5 rfl), trivial⟩
      ⟨am_Pc_blind, fun U hU hW => ⟨rfl, hU, va_K.moved hW.alike hK, am_nest_warm hW hN, hXH.moved hW.alike⟩⟩ rfl (by simp) hl.2.1 ?_ (lv_room (am_cats hr4)) hdg ⟨hcc, hss⟩) hS kk
    show st.map (am_c (am_ad b base)) = _
    rw [hst2]
    simp
end ST
end
section
/-! the step, instruction by instruction -/
noncomputable def am_acp (Ln : Int) (ls st : List AV) (σ : AS) (pc : Nat) : AA := match st with
  | .inl n :: .inl dp :: .inr (.inr (.inl a1)) :: .inl sp :: .inr (.inr (.inl a0)) :: st => (match am_kd Ln a0, am_kd Ln a1, Nat.ble st.length 4 with
    | (1, n0, _), (1, n1, _), true => aC (0 ≤ sp ∧ 0 ≤ dp ∧ 0 ≤ n ∧ sp + n ≤ n0 ∧ dp + n ≤ n1) pc ls st (am_cpy σ a0 a1 sp dp n)
    | _, _, _ => aX)
  | _ => aX
set_option maxHeartbeats 40000000 in
set_option maxRecDepth 100000 in
theorem am_P_step {l : Launch} {Ln : Int} {b base : Nat} {D : va_G} {cA : Nat → ClassId} {xs : Nat → Int32} : am_stp Ln (am_P l Ln b base D cA xs) := by
  intro d m pc al st σ Q op ho h p e R s mid args below meth c H H0 locs cells slots Qf ls hC hR hS hcc hss hl hal hst hret
  have ck := am_ok_op ho
  obtain ⟨hx, hb, hml, hown, hts, hN, hK, hX, hbb, hbase, hfr, hlo, h0, h4⟩ := id hC
  have go : ∀ {pc' : Nat} {al' st' : List AV} {σ' : AS} {H' : Heap} {locs' : List Loc} {ls' : Array Slot}, am_P l Ln b base D cA xs d m pc' al' st' σ' Q → am_rel Ln b base D cA xs σ' H' → va_S (fun q => base ≤ q) H0 H' locs' → am_loc (am_ad b base) ls' (am_mt m).1 al' → (∀ v ∈ al', am_in v) → (∀ v ∈ st', am_in v) →
      W p l e R s mid args below meth c H' locs' cells slots Qf (F0 mid pc' ls' (st'.map (am_c (am_ad b base)))) := fun hk hR' hS' hl' hal' hst' => hk p e R s mid args below meth c _ H0 _ cells slots Qf _ hC hR' hS' hcc hss hl' hal' hst' hret
  have hbA : ¬ (fun q => base ≤ q) b := Nat.not_le.mpr hbb
  have hbl : b < H0.size := Nat.lt_of_lt_of_le hbb hbase
  obtain ⟨ins, len, x, y, cc, w⟩ := op
  cases ins with
  | iconst n =>
    simp only [am_okop, Bool.and_eq_true, decide_eq_true_eq] at ck
    obtain ⟨hdg, hlen, hi⟩ := ck
    have hlen := am_len hlen
    subst hlen
    exact lv_iconst hx hb hdg rfl (go (st' := vI n :: st) h hR hS hl hal (am_cons (am_i32_in hi) hst))
  | bipush n =>
    simp only [am_okop, Bool.and_eq_true, decide_eq_true_eq] at ck
    obtain ⟨hdg, ⟨hlen, hi⟩, hv⟩ := ck
    have hlen := am_len hlen
    subst hlen
    exact lv_bipush hx hb hdg hv (go (st' := vI n :: st) h hR hS hl hal (am_cons (am_i32_in hi) hst))
  | sipush n =>
    simp only [am_okop, Bool.and_eq_true, decide_eq_true_eq] at ck
    obtain ⟨hdg, ⟨hlen, hi⟩, hv⟩ := ck
    have hlen := am_len hlen
    subst hlen
    exact lv_sipush hx hb hdg hv (go (st' := vI n :: st) h hR hS hl hal (am_cons (am_i32_in hi) hst))
  | ldc i =>
    simp only [am_okop, Bool.and_eq_true, decide_eq_true_eq] at ck
    obtain ⟨hdg, ⟨hlen, hi⟩, hv⟩ := ck
    have hlen := am_len hlen
    subst hlen
    exact lv_ldc hx hb hown (hts _ (am_gt_in hv rfl)) hdg (go (st' := vI cc :: st) h hR hS hl hal (am_cons (am_i32_in hi) hst))
  | ldc_w i =>
    simp only [am_okop, Bool.and_eq_true, decide_eq_true_eq] at ck
    obtain ⟨hdg, ⟨hlen, hi⟩, hv⟩ := ck
    have hlen := am_len hlen
    subst hlen
    exact lv_ldcw hx hb hown (hts _ (am_gt_in hv rfl)) hdg (go (st' := vI cc :: st) h hR hS hl hal (am_cons (am_i32_in hi) hst))
  | ldc2_w i =>
    simp only [am_okop, Bool.and_eq_true, decide_eq_true_eq] at ck
    obtain ⟨hdg, ⟨hlen, hi⟩, hv⟩ := ck
    have hlen := am_len hlen
    subst hlen
    exact lv_ldc2 hx hb hown (hts _ (am_gt_in hv rfl)) hdg (go (st' := vL cc :: st) h hR hS hl hal (am_cons (am_i64_in hi) hst))
  | lconst n =>
    simp only [am_okop, Bool.and_eq_true, decide_eq_true_eq] at ck
    obtain ⟨hdg, hlen⟩ := ck
    have hlen := am_len hlen
    subst hlen
    have hn := n.isLt
    exact lv_lconst hx hb hdg (v := Int64.ofInt ((n : Nat) : Int)) rfl (go (st' := vL ((n : Nat) : Int) :: st) h hR hS hl hal (am_cons ⟨by omega, by omega⟩ hst))
  | iload i =>
    simp only [am_okop, Bool.and_eq_true, decide_eq_true_eq] at ck
    obtain ⟨hdg, hlen⟩ := ck
    have hlen := am_len hlen
    subst hlen
    obtain ⟨v, hv, hg, hk, x, rfl⟩ := am_ld_inv h
    exact lv_iload hx hb hdg (am_loc_at hl hv hg) (go (st' := vI x :: st) hk hR hS hl hal (am_cons (hg ▸ am_in_get hal) hst))
  | iload_n i =>
    simp only [am_okop, Bool.and_eq_true, decide_eq_true_eq] at ck
    obtain ⟨hdg, hlen⟩ := ck
    have hlen := am_len hlen
    subst hlen
    obtain ⟨v, hv, hg, hk, x, rfl⟩ := am_ld_inv h
    exact lv_iload_n hx hb hdg rfl (am_loc_at hl hv hg) (go (st' := vI x :: st) hk hR hS hl hal (am_cons (hg ▸ am_in_get hal) hst))
  | lload i =>
    simp only [am_okop, Bool.and_eq_true, decide_eq_true_eq] at ck
    obtain ⟨hdg, hlen⟩ := ck
    have hlen := am_len hlen
    subst hlen
    obtain ⟨v, hv, hg, hk, x, rfl⟩ := am_ld_inv h
    exact lv_lload hx hb hdg (am_loc_at hl hv hg) (go (st' := vL x :: st) hk hR hS hl hal (am_cons (hg ▸ am_in_get hal) hst))
  | lload_n i =>
    simp only [am_okop, Bool.and_eq_true, decide_eq_true_eq] at ck
    obtain ⟨hdg, hlen⟩ := ck
    have hlen := am_len hlen
    subst hlen
    obtain ⟨v, hv, hg, hk, x, rfl⟩ := am_ld_inv h
    exact lv_lload_n hx hb hdg rfl (am_loc_at hl hv hg) (go (st' := vL x :: st) hk hR hS hl hal (am_cons (hg ▸ am_in_get hal) hst))
  | aload i =>
    simp only [am_okop, Bool.and_eq_true, decide_eq_true_eq] at ck
    obtain ⟨hdg, hlen⟩ := ck
    have hlen := am_len hlen
    subst hlen
    obtain ⟨v, hv, hg, hk, x, rfl⟩ := am_ld_inv h
    exact lv_aload hx hb hdg (am_loc_at hl hv hg) (go (st' := vR x :: st) hk hR hS hl hal (am_cons trivial hst))
  | aload_n i =>
    simp only [am_okop, Bool.and_eq_true, decide_eq_true_eq] at ck
    obtain ⟨hdg, hlen⟩ := ck
    have hlen := am_len hlen
    subst hlen
    obtain ⟨v, hv, hg, hk, x, rfl⟩ := am_ld_inv h
    exact lv_aload_n hx hb hdg rfl (am_loc_at hl hv hg) (go (st' := vR x :: st) hk hR hS hl hal (am_cons trivial hst))
  | istore i =>
    simp only [am_okop, Bool.and_eq_true, decide_eq_true_eq] at ck
    obtain ⟨hdg, hlen⟩ := ck
    have hlen := am_len hlen
    subst hlen
    obtain ⟨x, r, rfl, hi, hk⟩ := am_sto_inv0 h
    exact lv_istore hx hb hdg hl.2 (by rw [← hl.1]; exact hi) rfl fun ls' hl' => go hk hR hS (am_loc_set hl.1 hl') (am_in_set hal (am_hd hst)) (am_tl hst)
  | istore_n i =>
    simp only [am_okop, Bool.and_eq_true, decide_eq_true_eq] at ck
    obtain ⟨hdg, hlen⟩ := ck
    have hlen := am_len hlen
    subst hlen
    obtain ⟨x, r, rfl, hi, hk⟩ := am_sto_inv0 h
    exact lv_istore_n hx hb hdg rfl hl.2 (by rw [← hl.1]; exact hi) rfl fun ls' hl' => go hk hR hS (am_loc_set hl.1 hl') (am_in_set hal (am_hd hst)) (am_tl hst)
  | lstore i =>
    simp only [am_okop, Bool.and_eq_true, decide_eq_true_eq] at ck
    obtain ⟨hdg, hlen⟩ := ck
    have hlen := am_len hlen
    subst hlen
    obtain ⟨x, r, rfl, hi, hk⟩ := am_sto_inv1 h
    exact lv_lstore hx hb hdg hl.2 (by rw [← hl.1]; exact hi) rfl fun ls' hl' => go hk hR hS (am_loc_setL hl.1 hl') (am_in_setU (am_in_set hal (am_hd hst))) (am_tl hst)
  | lstore_n i =>
    simp only [am_okop, Bool.and_eq_true, decide_eq_true_eq] at ck
    obtain ⟨hdg, hlen⟩ := ck
    have hlen := am_len hlen
    subst hlen
    obtain ⟨x, r, rfl, hi, hk⟩ := am_sto_inv1 h
    exact lv_lstore_n hx hb hdg rfl hl.2 (by rw [← hl.1]; exact hi) rfl fun ls' hl' => go hk hR hS (am_loc_setL hl.1 hl') (am_in_setU (am_in_set hal (am_hd hst))) (am_tl hst)
  | astore i =>
    simp only [am_okop, Bool.and_eq_true, decide_eq_true_eq] at ck
    obtain ⟨hdg, hlen⟩ := ck
    have hlen := am_len hlen
    subst hlen
    obtain ⟨x, r, rfl, hi, hk⟩ := am_sto_inv2 h
    exact lv_astore hx hb hdg hl.2 (by rw [← hl.1]; exact hi) rfl fun ls' hl' => go hk hR hS (am_loc_set hl.1 hl') (am_in_set hal trivial) (am_tl hst)
  | astore_n i =>
    simp only [am_okop, Bool.and_eq_true, decide_eq_true_eq] at ck
    obtain ⟨hdg, hlen⟩ := ck
    have hlen := am_len hlen
    subst hlen
    obtain ⟨x, r, rfl, hi, hk⟩ := am_sto_inv2 h
    exact lv_astore_n hx hb hdg rfl hl.2 (by rw [← hl.1]; exact hi) rfl fun ls' hl' => go hk hR hS (am_loc_set hl.1 hl') (am_in_set hal trivial) (am_tl hst)
  | iinc i n =>
    simp only [am_okop, Bool.and_eq_true, decide_eq_true_eq] at ck
    obtain ⟨hdg, hlen⟩ := ck
    have hlen := am_len hlen
    subst hlen
    simp only [am_act] at h
    split at h
    · rename_i v e1 e2
      have hi : i < al.length := Nat.blt_eq.mp e1
      have hv1 : (i, Value.int (Int32.ofInt v)) ∈ am_lv (am_ad b base) 0 al := by
        have h1 : al[i]? = some (vI v) := by
          rw [List.getD_eq_getElem?_getD] at e2
          rw [List.getElem?_eq_getElem hi] at e2 ⊢
          exact congrArg some e2
        have := am_lv_of (ad := am_ad b base) (v := vI v) (fun q => by cases q) (i := 0) h1
        rwa [Nat.zero_add] at this
      obtain ⟨k, hk⟩ := List.getElem?_of_mem hv1
      exact lv_iinc (v := Int32.ofInt (w32 (v + n))) hx hb hdg hl.2 hk (by rw [of_w32, Int32.ofInt_add]) (by rw [← hl.1]; exact hi) rfl fun ls' hl' => go h hR hS (am_loc_set (v := vI (w32 (v + n))) hl.1 hl') (am_in_set hal (in32_w32 _)) hst
    · exact h.1.elim
  | iadd =>
    simp only [am_okop, Bool.and_eq_true, decide_eq_true_eq] at ck
    obtain ⟨hdg, hlen⟩ := ck
    have hlen := am_len hlen
    subst hlen
    obtain ⟨u, v, r, rfl, hk⟩ := am_i2_inv h
    refine lv_iadd hx hb hdg ?_
    rw [add_w32]
    exact go (st' := vI _ :: r) hk hR hS hl hal (am_cons (in32_w32 _) (am_tl (am_tl hst)))
  | isub =>
    simp only [am_okop, Bool.and_eq_true, decide_eq_true_eq] at ck
    obtain ⟨hdg, hlen⟩ := ck
    have hlen := am_len hlen
    subst hlen
    obtain ⟨u, v, r, rfl, hk⟩ := am_i2_inv h
    refine lv_isub hx hb hdg ?_
    rw [sub_w32]
    exact go (st' := vI _ :: r) hk hR hS hl hal (am_cons (in32_w32 _) (am_tl (am_tl hst)))
  | imul =>
    simp only [am_okop, Bool.and_eq_true, decide_eq_true_eq] at ck
    obtain ⟨hdg, hlen⟩ := ck
    have hlen := am_len hlen
    subst hlen
    obtain ⟨u, v, r, rfl, hk⟩ := am_i2_inv h
    refine lv_imul hx hb hdg ?_
    rw [mul_w32]
    exact go (st' := vI _ :: r) hk hR hS hl hal (am_cons (in32_w32 _) (am_tl (am_tl hst)))
  | idiv =>
    simp only [am_okop, Bool.and_eq_true, decide_eq_true_eq] at ck
    obtain ⟨hdg, hlen⟩ := ck
    have hlen := am_len hlen
    subst hlen
    obtain ⟨u, v, r, rfl, hne, hk⟩ := am_i2_inv h
    have hv := am_hd hst
    have hu := am_hd (am_tl hst)
    refine lv_idiv hx hb hdg (fun q => hne ((eq_i32 hv in32_0).mp q)) ?_
    rw [div_w32 hu hv]
    exact go (st' := vI _ :: r) hk hR hS hl hal (am_cons (in32_w32 _) (am_tl (am_tl hst)))
  | irem =>
    simp only [am_okop, Bool.and_eq_true, decide_eq_true_eq] at ck
    obtain ⟨hdg, hlen⟩ := ck
    have hlen := am_len hlen
    subst hlen
    obtain ⟨u, v, r, rfl, hne, hk⟩ := am_i2_inv h
    have hv := am_hd hst
    have hu := am_hd (am_tl hst)
    refine lv_irem hx hb hdg (fun q => hne ((eq_i32 hv in32_0).mp q)) ?_
    rw [rem_i32 hu hv]
    exact go (st' := vI _ :: r) hk hR hS hl hal (am_cons (in32_tmod hu hv) (am_tl (am_tl hst)))
  | iand =>
    simp only [am_okop, Bool.and_eq_true, decide_eq_true_eq] at ck
    obtain ⟨hdg, hlen⟩ := ck
    have hlen := am_len hlen
    subst hlen
    obtain ⟨u, v, r, rfl, hk⟩ := am_i2_inv h
    refine lv_iand hx hb hdg ?_
    rw [← am_ofInt_toInt (Int32.ofInt u &&& Int32.ofInt v)]
    exact go (st' := vI (bAnd u v) :: r) hk hR hS hl hal (am_cons (in32_of _) (am_tl (am_tl hst)))
  | ior =>
    simp only [am_okop, Bool.and_eq_true, decide_eq_true_eq] at ck
    obtain ⟨hdg, hlen⟩ := ck
    have hlen := am_len hlen
    subst hlen
    obtain ⟨u, v, r, rfl, hk⟩ := am_i2_inv h
    refine lv_ior hx hb hdg ?_
    rw [← am_ofInt_toInt (Int32.ofInt u ||| Int32.ofInt v)]
    exact go (st' := vI (bOr u v) :: r) hk hR hS hl hal (am_cons (in32_of _) (am_tl (am_tl hst)))
  | ishl =>
    simp only [am_okop, Bool.and_eq_true, decide_eq_true_eq] at ck
    obtain ⟨hdg, hlen⟩ := ck
    have hlen := am_len hlen
    subst hlen
    obtain ⟨u, v, r, rfl, hk⟩ := am_i2_inv h
    refine lv_ishl hx hb hdg ?_
    rw [← am_ofInt_toInt (Int32.ofInt u <<< (Int32.ofInt v &&& 31))]
    exact go (st' := vI (bShl u v) :: r) hk hR hS hl hal (am_cons (in32_of _) (am_tl (am_tl hst)))
  | ishr =>
    simp only [am_okop, Bool.and_eq_true, decide_eq_true_eq] at ck
    obtain ⟨hdg, hlen⟩ := ck
    have hlen := am_len hlen
    subst hlen
    obtain ⟨u, v, r, rfl, hk⟩ := am_i2_inv h
    refine lv_ishr hx hb hdg ?_
    rw [← am_ofInt_toInt (Int32.ofInt u >>> (Int32.ofInt v &&& 31))]
    exact go (st' := vI (bShr u v) :: r) hk hR hS hl hal (am_cons (in32_of _) (am_tl (am_tl hst)))
  | ladd =>
    simp only [am_okop, Bool.and_eq_true, decide_eq_true_eq] at ck
    obtain ⟨hdg, hlen⟩ := ck
    have hlen := am_len hlen
    subst hlen
    obtain ⟨u, v, r, rfl, hk⟩ := am_l2_inv h
    refine lv_ladd hx hb hdg ?_
    rw [add_w64]
    exact go (st' := vL _ :: r) hk hR hS hl hal (am_cons (in64_w64 _) (am_tl (am_tl hst)))
  | lsub =>
    simp only [am_okop, Bool.and_eq_true, decide_eq_true_eq] at ck
    obtain ⟨hdg, hlen⟩ := ck
    have hlen := am_len hlen
    subst hlen
    obtain ⟨u, v, r, rfl, hk⟩ := am_l2_inv h
    refine lv_lsub hx hb hdg ?_
    rw [sub_w64]
    exact go (st' := vL _ :: r) hk hR hS hl hal (am_cons (in64_w64 _) (am_tl (am_tl hst)))
  | lmul =>
    simp only [am_okop, Bool.and_eq_true, decide_eq_true_eq] at ck
    obtain ⟨hdg, hlen⟩ := ck
    have hlen := am_len hlen
    subst hlen
    obtain ⟨u, v, r, rfl, hk⟩ := am_l2_inv h
    refine lv_lmul hx hb hdg ?_
    rw [mul_w64]
    exact go (st' := vL _ :: r) hk hR hS hl hal (am_cons (in64_w64 _) (am_tl (am_tl hst)))
  | ldiv =>
    simp only [am_okop, Bool.and_eq_true, decide_eq_true_eq] at ck
    obtain ⟨hdg, hlen⟩ := ck
    have hlen := am_len hlen
    subst hlen
    obtain ⟨u, v, r, rfl, hne, hk⟩ := am_l2_inv h
    have hv := am_hd hst
    have hu := am_hd (am_tl hst)
    refine lv_ldiv hx hb hdg (fun q => hne ((eq_i64 hv in64_0).mp q)) ?_
    rw [div_w64 hu hv]
    exact go (st' := vL _ :: r) hk hR hS hl hal (am_cons (in64_w64 _) (am_tl (am_tl hst)))
  | lrem =>
    simp only [am_okop, Bool.and_eq_true, decide_eq_true_eq] at ck
    obtain ⟨hdg, hlen⟩ := ck
    have hlen := am_len hlen
    subst hlen
    obtain ⟨u, v, r, rfl, hne, hk⟩ := am_l2_inv h
    have hv := am_hd hst
    have hu := am_hd (am_tl hst)
    refine lv_lrem hx hb hdg (fun q => hne ((eq_i64 hv in64_0).mp q)) ?_
    rw [rem_i64 hu hv]
    exact go (st' := vL _ :: r) hk hR hS hl hal (am_cons (in64_tmod hu hv) (am_tl (am_tl hst)))
  | land =>
    simp only [am_okop, Bool.and_eq_true, decide_eq_true_eq] at ck
    obtain ⟨hdg, hlen⟩ := ck
    have hlen := am_len hlen
    subst hlen
    obtain ⟨u, v, r, rfl, hk⟩ := am_l2_inv h
    refine lv_land hx hb hdg ?_
    rw [← of_toInt64 (Int64.ofInt u &&& Int64.ofInt v)]
    exact go (st' := vL (lAnd u v) :: r) hk hR hS hl hal (am_cons (in64_of _) (am_tl (am_tl hst)))
  | lor =>
    simp only [am_okop, Bool.and_eq_true, decide_eq_true_eq] at ck
    obtain ⟨hdg, hlen⟩ := ck
    have hlen := am_len hlen
    subst hlen
    obtain ⟨u, v, r, rfl, hk⟩ := am_l2_inv h
    refine lv_lor hx hb hdg ?_
    rw [← of_toInt64 (Int64.ofInt u ||| Int64.ofInt v)]
    exact go (st' := vL (lOr u v) :: r) hk hR hS hl hal (am_cons (in64_of _) (am_tl (am_tl hst)))
  | lshl =>
    simp only [am_okop, Bool.and_eq_true, decide_eq_true_eq] at ck
    obtain ⟨hdg, hlen⟩ := ck
    have hlen := am_len hlen
    subst hlen
    simp only [am_act] at h
    split at h
    · rename_i v u r
      refine lv_lshl (v := Int64.ofInt (lShl u v)) hx hb hdg (by rw [lShl, of_toInt64]) ?_
      exact go (st' := vL (lShl u v) :: r) h hR hS hl hal (am_cons (in64_of _) (am_tl (am_tl hst)))
    · exact h.1.elim
  | lshr =>
    simp only [am_okop, Bool.and_eq_true, decide_eq_true_eq] at ck
    obtain ⟨hdg, hlen⟩ := ck
    have hlen := am_len hlen
    subst hlen
    simp only [am_act] at h
    split at h
    · rename_i v u r
      refine lv_lshr (v := Int64.ofInt (lShr u v)) hx hb hdg (by rw [lShr, of_toInt64]) ?_
      exact go (st' := vL (lShr u v) :: r) h hR hS hl hal (am_cons (in64_of _) (am_tl (am_tl hst)))
    · exact h.1.elim
  | lcmp =>
    simp only [am_okop, Bool.and_eq_true, decide_eq_true_eq] at ck
    obtain ⟨hdg, hlen⟩ := ck
    have hlen := am_len hlen
    subst hlen
    obtain ⟨u, v, r, rfl, hk⟩ := am_l2_inv h
    refine W.lcmp hx hb hdg ?_
    rw [cmp_i (am_hd (am_tl hst)) (am_hd hst)]
    exact go (st' := vI (lCmp u v) :: r) hk hR hS hl hal (am_cons (in32_cmp _ _) (am_tl (am_tl hst)))
  | i2l =>
    simp only [am_okop, Bool.and_eq_true, decide_eq_true_eq] at ck
    obtain ⟨hdg, hlen⟩ := ck
    have hlen := am_len hlen
    subst hlen
    obtain ⟨u, r, rfl, hk⟩ := am_i1_inv h
    exact lv_i2l hx hb hdg (i2l_i (am_hd hst)) (go (st' := vL u :: r) hk hR hS hl hal (am_cons (in32_64 (am_hd hst)) (am_tl hst)))
  | l2i =>
    simp only [am_okop, Bool.and_eq_true, decide_eq_true_eq] at ck
    obtain ⟨hdg, hlen⟩ := ck
    have hlen := am_len hlen
    subst hlen
    simp only [am_act] at h
    split at h
    · rename_i u r
      exact lv_l2i hx hb hdg (l2i_i u) (go (st' := vI (w32 u) :: r) h hR hS hl hal (am_cons (in32_w32 _) (am_tl hst)))
    · exact h.1.elim
  | i2b =>
    simp only [am_okop, Bool.and_eq_true, decide_eq_true_eq] at ck
    obtain ⟨hdg, hlen⟩ := ck
    have hlen := am_len hlen
    subst hlen
    obtain ⟨u, r, rfl, hk⟩ := am_i1_inv h
    exact lv_i2b (v := Int32.ofInt (w8 u)) hx hb hdg (by rw [w8, am_ofInt_toInt]) (go (st' := vI (w8 u) :: r) hk hR hS hl hal (am_cons (in32_of _) (am_tl hst)))
  | dup =>
    simp only [am_okop, Bool.and_eq_true, decide_eq_true_eq] at ck
    obtain ⟨hdg, hlen⟩ := ck
    have hlen := am_len hlen
    subst hlen
    simp only [am_act] at h
    split at h
    · rename_i u r
      exact lv_dup hx hb hdg rfl (go (st' := vI u :: vI u :: r) h hR hS hl hal (am_cons (am_hd hst) hst))
    · rename_i u r
      exact lv_dup hx hb hdg rfl (go (st' := vR u :: vR u :: r) h hR hS hl hal (am_cons (am_hd hst) hst))
    · exact h.1.elim
  | dup2 =>
    simp only [am_okop, Bool.and_eq_true, decide_eq_true_eq] at ck
    obtain ⟨hdg, hlen⟩ := ck
    have hlen := am_len hlen
    subst hlen
    simp only [am_act] at h
    split at h
    · rename_i v u r
      exact lv_dup2_11 hx hb hdg rfl rfl (go (st' := vI v :: vR u :: vI v :: vR u :: r) h hR hS hl hal (am_cons (am_hd hst) (am_cons trivial hst)))
    · exact h.1.elim
  | pop =>
    simp only [am_okop, Bool.and_eq_true, decide_eq_true_eq] at ck
    obtain ⟨hdg, hlen⟩ := ck
    have hlen := am_len hlen
    subst hlen
    simp only [am_act] at h
    split at h
    · exact lv_pop hx hb hdg rfl (go h hR hS hl hal (am_tl hst))
    · exact lv_pop hx hb hdg rfl (go h hR hS hl hal (am_tl hst))
    · exact h.1.elim
  | goto off =>
    simp only [am_okop, Bool.and_eq_true, decide_eq_true_eq] at ck
    obtain ⟨hdg, hlen, hn⟩ := ck
    have hlen := am_len hlen
    subst hlen
    exact lv_goto hx hb hdg (am_tgt_eq hn) (go h hR hS hl hal hst)
  | ifCond cd off =>
    simp only [am_okop, Bool.and_eq_true, decide_eq_true_eq] at ck
    obtain ⟨hdg, hlen, hn⟩ := ck
    have hlen := am_len hlen
    subst hlen
    have ht := am_tgt_eq hn
    obtain ⟨u, r, rfl, hk⟩ := am_i1_inv h
    have hu := am_hd hst
    have ht2 := am_tl hst
    cases cd with
    | eq => exact lv_if_eq hx hb hdg ht (fun q => go (hk.1 ((eq_i32 hu in32_0).mp q)) hR hS hl hal ht2) (fun q => go (hk.2 (fun z => q ((eq_i32 hu in32_0).mpr z))) hR hS hl hal ht2)
    | ne => exact lv_if_ne hx hb hdg ht (fun q => go (hk.2 (fun z => q ((eq_i32 hu in32_0).mpr z))) hR hS hl hal ht2) (fun q => go (hk.1 ((eq_i32 hu in32_0).mp q)) hR hS hl hal ht2)
    | lt => exact lv_if_lt hx hb hdg ht (fun q => go (hk.1 ((lt_i32 hu in32_0).mp q)) hR hS hl hal ht2) (fun q => go (hk.2 (fun z => q ((lt_i32 hu in32_0).mpr z))) hR hS hl hal ht2)
    | ge => exact lv_if_ge hx hb hdg ht (fun q => go (hk.1 ((le_i32 in32_0 hu).mp q)) hR hS hl hal ht2) (fun q => go (hk.2 (fun z => q ((le_i32 in32_0 hu).mpr z))) hR hS hl hal ht2)
    | gt => exact lv_if_gt hx hb hdg ht (fun q => go (hk.1 ((lt_i32 in32_0 hu).mp q)) hR hS hl hal ht2) (fun q => go (hk.2 (fun z => q ((lt_i32 in32_0 hu).mpr z))) hR hS hl hal ht2)
    | le => exact lv_if_le hx hb hdg ht (fun q => go (hk.1 ((le_i32 hu in32_0).mp q)) hR hS hl hal ht2) (fun q => go (hk.2 (fun z => q ((le_i32 hu in32_0).mpr z))) hR hS hl hal ht2)
  | if_icmp cd off =>
    simp only [am_okop, Bool.and_eq_true, decide_eq_true_eq] at ck
    obtain ⟨hdg, hlen, hn⟩ := ck
    have hlen := am_len hlen
    subst hlen
    have ht := am_tgt_eq hn
    obtain ⟨u, v, r, rfl, hk⟩ := am_i2_inv h
    have hv := am_hd hst
    have hu := am_hd (am_tl hst)
    have ht2 := am_tl (am_tl hst)
    cases cd with
    | eq => exact lv_icmp_eq hx hb hdg ht (fun q => go (hk.1 ((eq_i32 hu hv).mp q)) hR hS hl hal ht2) (fun q => go (hk.2 (fun z => q ((eq_i32 hu hv).mpr z))) hR hS hl hal ht2)
    | ne => exact lv_icmp_ne hx hb hdg ht (fun q => go (hk.2 (fun z => q ((eq_i32 hu hv).mpr z))) hR hS hl hal ht2) (fun q => go (hk.1 ((eq_i32 hu hv).mp q)) hR hS hl hal ht2)
    | lt => exact lv_icmp_lt hx hb hdg ht (fun q => go (hk.1 ((lt_i32 hu hv).mp q)) hR hS hl hal ht2) (fun q => go (hk.2 (fun z => q ((lt_i32 hu hv).mpr z))) hR hS hl hal ht2)
    | ge => exact lv_icmp_ge hx hb hdg ht (fun q => go (hk.1 ((le_i32 hv hu).mp q)) hR hS hl hal ht2) (fun q => go (hk.2 (fun z => q ((le_i32 hv hu).mpr z))) hR hS hl hal ht2)
    | gt => exact lv_icmp_gt hx hb hdg ht (fun q => go (hk.1 ((lt_i32 hv hu).mp q)) hR hS hl hal ht2) (fun q => go (hk.2 (fun z => q ((lt_i32 hv hu).mpr z))) hR hS hl hal ht2)
    | le => exact lv_icmp_le hx hb hdg ht (fun q => go (hk.1 ((le_i32 hu hv).mp q)) hR hS hl hal ht2) (fun q => go (hk.2 (fun z => q ((le_i32 hu hv).mpr z))) hR hS hl hal ht2)
  | tableswitch dd lo hi offs =>
    simp only [am_okop, Bool.and_eq_true, decide_eq_true_eq] at ck
    obtain ⟨hdg, ⟨⟨⟨hn, hall⟩, hlen⟩, hlo2⟩, hhi2⟩ := ck
    obtain ⟨u, r, rfl, hk⟩ := am_i1_inv h
    have hu := am_hd hst
    obtain ⟨hk1, hk2⟩ := am_all_app hk
    have hti : (Int32.ofInt u).toInt = u := toInt32 hu
    by_cases ho : u < lo ∨ hi < u
    · exact lv_tableOut hx hb hdg (by rw [hti]; exact ho) (am_tgt_eq hn) (go (hk2.1 ho) hR hS hl hal (am_tl hst))
    · have hj : (u - lo).toNat < offs.toList.length := by omega
      have hoff := List.getElem?_eq_getElem hj
      refine lv_tableIn (off := offs.toList[(u - lo).toNat]) hx hb hdg (by rw [hti]; omega) (by rw [hti]; omega) (by rw [hti, ← Array.getElem?_toList]; exact hoff) (am_tgt_eq ?_) (go (am_tab_at hk1 hoff (by omega)) hR hS hl hal (am_tl hst))
      exact List.all_eq_true.mp hall _ (List.getElem_mem hj)
  | lookupswitch dd ps =>
    simp only [am_okop, Bool.and_eq_true, decide_eq_true_eq] at ck
    obtain ⟨hdg, ⟨⟨hn, hall⟩, hkeys⟩, hinc⟩ := ck
    obtain ⟨u, r, rfl, hk⟩ := am_i1_inv h
    have hu := am_hd hst
    obtain ⟨hk1, hk2⟩ := am_all_app hk
    have hti : (Int32.ofInt u).toInt = u := toInt32 hu
    obtain ⟨off, e1, e2, e3⟩ := am_lkp_at hk1 hk2.1 (fun q hq => List.all_eq_true.mp hall q hq) hn
    exact lv_lookup hx hb hdg hinc (by rw [hti]; exact e1) (am_tgt_eq e3) (go e2 hR hS hl hal (am_tl hst))
  | getfield i =>
    simp only [am_okop, Bool.and_eq_true, decide_eq_true_eq] at ck
    obtain ⟨hdg, hlen, hcl⟩ := ck
    have hlen := am_len hlen
    subst hlen
    simp only [am_act] at h
    split at h
    · rename_i a r
      split at hcl
      · rename_i C T N hC2
        simp only [Bool.and_eq_true, decide_eq_true_eq] at hcl
        obtain ⟨⟨hyN, hT1⟩, hw⟩ := hcl
        have hyN := Nat.blt_eq.mp hyN
        obtain ⟨ty0, hty, hnm, huw, hftl⟩ := am_cls_ok _ _ _ _ hC2
        have key : ∀ t, t ≠ 9 → am_fld Ln a x y = t → W p l e R s mid args below meth c H locs cells slots Qf (F0 mid (pc + 3) ls (am_fe (am_ad b base) σ a y t :: r.map (am_c (am_ad b base)))) →
            W p l e R s mid args below meth c H locs cells slots Qf (F0 mid pc ls (.ref (am_ad b base a) :: r.map (am_c (am_ad b base)))) := by
          intro t ht hf kk
          obtain ⟨⟨n, hkd⟩, hft⟩ := am_fld_inv hf ht
          obtain ⟨k, rfl, hk⟩ := am_kd_cell hkd (by decide) (by decide)
          have hcell : am_cell Ln (am_ad b base) cA σ (k + 1) = .inr (x, am_fv (am_ad b base) σ (k + 1) 0 (am_ftL.getD x [])) := by unfold am_cell; rw [hkd] <;> rfl
          have he := am_ws_get (Ln := Ln) (b := b) (base := base) (cA := cA) (σ := σ) hk
          rw [hcell] at he
          refine va_get (D := D) (ci := x) (C := C) (T := T) (N := N) hx hb hts huw hown hK hR.1 k he hC2 y hyN (hts _ (am_gt_in hw rfl)) (fun z hz => by rw [hT1] at hz; exact hz) ?_ hdg kk
          rw [am_fv_get, am_ft_at hft ht]
          simp
        split at h
        · rename_i e0
          obtain ⟨⟨n, hkd⟩, -⟩ := am_fld_inv e0 (by decide)
          exact key 0 (by decide) e0 (go (st' := vI (σ a y) :: r) h hR hS hl hal (am_cons (am_rel_i hR hkd (by decide) _) (am_tl hst)))
        · rename_i e0
          obtain ⟨⟨n, hkd⟩, -⟩ := am_fld_inv e0 (by decide)
          exact key 1 (by decide) e0 (go (st' := vI (σ a y) :: r) h hR hS hl hal (am_cons (am_rel_i hR hkd (by decide) _) (am_tl hst)))
        · rename_i e0
          exact key 2 (by decide) e0 (go (st' := vR (am_ref a y) :: r) h hR hS hl hal (am_cons trivial (am_tl hst)))
        · exact h.1.elim
      · exact absurd hcl (by decide)
    · exact h.1.elim
  | putfield i =>
    simp only [am_okop, Bool.and_eq_true, decide_eq_true_eq] at ck
    obtain ⟨hdg, hlen, hcl⟩ := ck
    have hlen := am_len hlen
    subst hlen
    simp only [am_act] at h
    split at h
    · rename_i v a r
      split at hcl
      · rename_i C T N hC2
        simp only [Bool.and_eq_true, decide_eq_true_eq] at hcl
        obtain ⟨⟨⟨⟨hyN, hT1⟩, hw⟩, hfin⟩, hdesc⟩ := hcl
        have hyN := Nat.blt_eq.mp hyN
        obtain ⟨ty0, hty, hnm, huw, hftl⟩ := am_cls_ok _ _ _ _ hC2
        have hv := am_hd hst
        have key : ∀ (t : Nat) (ty : FieldType), t ≠ 9 → t ≠ 2 → am_fld Ln a x y = t → parseFieldDescriptor (T y).2.2.1 = some ty → narrow ty (.int (Int32.ofInt v)) = .int (Int32.ofInt v) → fits ty (.int (Int32.ofInt v)) = true →
            (∀ H1 locs1, am_rel Ln b base D cA xs (am_up σ a y v) H1 → va_S (fun q => base ≤ q) H0 H1 locs1 → W p l e R s mid args below meth c H1 locs1 cells slots Qf (F0 mid (pc + 3) ls (r.map (am_c (am_ad b base))))) →
            W p l e R s mid args below meth c H locs cells slots Qf (F0 mid pc ls (.int (Int32.ofInt v) :: .ref (am_ad b base a) :: r.map (am_c (am_ad b base)))) := by
          intro t ty ht ht2 hf hp hn hfit kk
          obtain ⟨⟨n, hkd⟩, hft⟩ := am_fld_inv hf ht
          obtain ⟨k, rfl, hk⟩ := am_kd_cell hkd (by decide) (by decide)
          have hcell : am_cell Ln (am_ad b base) cA σ (k + 1) = .inr (x, am_fv (am_ad b base) σ (k + 1) 0 (am_ftL.getD x [])) := by unfold am_cell; rw [hkd] <;> rfl
          have he := am_ws_get (Ln := Ln) (b := b) (base := base) (cA := cA) (σ := σ) hk
          rw [hcell] at he
          refine va_put (D := D) (ci := x) (C := C) (T := T) (N := N) (ty := ty) hx hb hts huw ty0 hty hnm hown hK hR.1 am_ws_D hS k he hC2 y hyN (hts _ (am_gt_in hw rfl)) (fun z hz => by rw [hT1] at hz; exact hz) hfin hp hn hfit (by rw [am_fv_len, hftl]; exact hyN) hdg (fun H1 locs1 hP1 hD1 hS1 => kk H1 locs1 (am_rel_up hR hkd ⟨fun q => absurd q (by decide), fun _ => hv⟩ ?_) hS1)
          have hcell2 : am_cell Ln (am_ad b base) cA (am_up σ (k + 1) y v) (k + 1) = .inr (x, (am_fv (am_ad b base) σ (k + 1) 0 (am_ftL.getD x [])).set y (.int (Int32.ofInt v))) := by
            unfold am_cell
            rw [hkd]
            show Sum.inr (x, am_fv (am_ad b base) (am_up σ (k + 1) y v) (k + 1) 0 (am_ftL.getD x [])) = _
            rw [am_fv_up (am_ft_at hft ht) ht2]
          rw [hcell2]
          exact hP1
        split at h
        · rename_i e0
          obtain ⟨-, hft⟩ := am_fld_inv e0 (by decide)
          rw [hft] at hdesc
          have hds : (T y).2.2.1 = "I" := by simpa using hdesc
          exact key 0 .int (by decide) (by decide) e0 (by rw [hds]; decide +kernel) rfl rfl (fun H1 locs1 hR1 hS1 => go h hR1 hS1 hl hal (am_tl (am_tl hst)))
        · rename_i e0
          obtain ⟨-, hft⟩ := am_fld_inv e0 (by decide)
          rw [hft] at hdesc
          have hds : (T y).2.2.1 = "Z" := by simpa using hdesc
          obtain ⟨hbv, hk⟩ := h
          exact key 1 .boolean (by decide) (by decide) e0 (by rw [hds]; decide +kernel) (by rcases hbv with q | q <;> rw [q] <;> rfl) (by rcases hbv with q | q <;> rw [q] <;> rfl) (fun H1 locs1 hR1 hS1 => go hk hR1 hS1 hl hal (am_tl (am_tl hst)))
        · exact h.1.elim
      · exact absurd hcl (by decide)
    · exact h.1.elim
  | arraylength =>
    simp only [am_okop, Bool.and_eq_true, decide_eq_true_eq] at ck
    obtain ⟨hdg, hlen⟩ := ck
    have hlen := am_len hlen
    subst hlen
    simp only [am_act] at h
    split at h
    · rename_i a r
      generalize hkd : am_kd Ln a = q at h
      obtain ⟨t, n, ci⟩ := q
      have hn := am_kd_n h0 h4 hkd
      have hin : in32 n := ⟨by omega, by omega⟩
      have fin : ∀ (t0 : Nat) (ty : FieldType), t ≠ 5 → t ≠ 9 → t ≠ 0 → (am_tys cA)[t0]? = some (cA t, ty) → am_sem (am_cl (am_P l Ln b base D cA xs) d) (fun pc ls st σ => am_P l Ln b base D cA xs d m pc ls st σ Q) Q (aN (pc + 1) al (vI n :: r) σ) → W p l e R s mid args below meth c H locs cells slots Qf (F0 mid pc ls ((vR a :: r).map (am_c (am_ad b base)))) := by
        intro t0 ty h5 h9 h00 htys hk
        obtain ⟨k, rfl, hkl⟩ := am_kd_cell hkd h5 h9
        have he := am_ws_get (Ln := Ln) (b := b) (base := base) (cA := cA) (σ := σ) hkl
        by_cases e2 : t = 2
        · subst e2
          have hcell : am_cell Ln (am_ad b base) cA σ (k + 1) = .inl (cA 2, n.toNat, .inr (.inl (fun j => Int64.ofInt (σ (k + 1) j)))) := by unfold am_cell; rw [hkd] <;> rfl
          rw [hcell] at he
          exact va_alen (D := D) (v := Int32.ofInt n) hx hb hK hR.1 k t0 he htys (am_len_i hn.1) hdg (go (st' := vI n :: r) hk hR hS hl hal (am_cons hin (am_tl hst)))
        · have hcell : am_cell Ln (am_ad b base) cA σ (k + 1) = .inl (cA t, n.toNat, .inl (fun j => Int32.ofInt (σ (k + 1) j))) := by
            unfold am_cell
            rw [hkd]
            match t, h00, e2 with
            | 0, h00, _ => exact absurd rfl h00
            | 1, _, _ => rfl
            | 2, _, e2 => exact absurd rfl e2
            | t + 3, _, _ => rfl
          rw [hcell] at he
          exact va_alen (D := D) (v := Int32.ofInt n) hx hb hK hR.1 k t0 he htys (am_len_i hn.1) hdg (go (st' := vI n :: r) hk hR hS hl hal (am_cons hin (am_tl hst)))
      match t, hkd, fin, h with
      | 0, _, _, h => exact h.1.elim
      | 1, _, fin, h => exact fin 0 .int (by decide) (by decide) (by decide) rfl h
      | 2, _, fin, h => exact fin 1 .long (by decide) (by decide) (by decide) rfl h
      | 3, _, fin, h => exact fin 2 .byte (by decide) (by decide) (by decide) rfl h
      | 4, _, fin, h => exact fin 3 .boolean (by decide) (by decide) (by decide) rfl h
      | 5, hkd, _, h =>
        cases a with
        | zero =>
          rw [am_kd_0] at hkd
          cases hkd
          refine va_slen hx hb hX hbl hbA hS hdg ?_
          rw [am_len_i h0]
          exact go (st' := vI Ln :: r) h hR hS hl hal (am_cons hin (am_tl hst))
        | succ k => exact absurd (by rw [hkd]) (am_kd_5 (Ln := Ln) (k := k))
      | 6, hkd, _, h => exact absurd hkd (am_kd_big (by decide) (by decide))
      | 7, hkd, _, h => exact absurd hkd (am_kd_big (by decide) (by decide))
      | 8, hkd, _, h => exact absurd hkd (am_kd_big (by decide) (by decide))
      | 9, _, _, h => exact h.1.elim
      | t + 10, hkd, _, h => exact absurd hkd (am_kd_big (by omega) (by omega))
    · exact h.1.elim
  | iaload =>
    simp only [am_okop, Bool.and_eq_true, decide_eq_true_eq] at ck
    obtain ⟨hdg, hlen⟩ := ck
    have hlen := am_len hlen
    subst hlen
    simp only [am_act] at h
    split at h
    · rename_i i a r
      split at h
      · rename_i n ci hkd
        · obtain ⟨hb1, hk⟩ := h
          obtain ⟨k, rfl, hkl⟩ := am_kd_cell hkd (by decide) (by decide)
          have he := am_ws_get (Ln := Ln) (b := b) (base := base) (cA := cA) (σ := σ) hkl
          have hcell : am_cell Ln (am_ad b base) cA σ (k + 1) = .inl (cA 1, n.toNat, .inl (fun j => Int32.ofInt (σ (k + 1) j))) := by unfold am_cell; rw [hkd] <;> rfl
          rw [hcell] at he
          have hn := am_kd_n h0 h4 hkd
          have hi := am_hd hst
          refine va_iald (D := D) hx hb hK hR.1 k 0 he rfl (vpin_i hb1.1 (by omega) hi) hdg ?_
          rw [clamp_i hb1.1 hi, show ((i.toNat : Nat) : Int) = i by omega]
          exact go (st' := vI (σ (k + 1) i) :: r) hk hR hS hl hal (am_cons (am_rel_i hR hkd (by decide) _) (am_tl (am_tl hst)))
      · rename_i n ci hkd
        cases a with
        | zero =>
          rw [am_kd_0] at hkd
          cases hkd
          obtain ⟨hb1, hk⟩ := h
          have hi := am_hd hst
          have hv := hR.2.2 i.toNat (by omega)
          rw [show ((i.toNat : Nat) : Int) = i by omega] at hv
          refine va_sld hx hb hX hbl hbA hS (vpin_i hb1.1 (by omega) hi) hdg ?_
          rw [clamp_i hb1.1 hi, ← am_ofInt_toInt (xs i.toNat), ← hv]
          exact go (st' := vI (σ 0 i) :: r) hk hR hS hl hal (am_cons (by rw [am_in, hv]; exact in32_of _) (am_tl (am_tl hst)))
        | succ k => exact absurd (by rw [hkd]) (am_kd_5 (Ln := Ln) (k := k))
      · exact h.1.elim
    · exact h.1.elim
  | laload =>
    simp only [am_okop, Bool.and_eq_true, decide_eq_true_eq] at ck
    obtain ⟨hdg, hlen⟩ := ck
    have hlen := am_len hlen
    subst hlen
    simp only [am_act] at h
    split at h
    · rename_i i a r
      split at h
      · rename_i n ci hkd
        · obtain ⟨hb1, hk⟩ := h
          obtain ⟨k, rfl, hkl⟩ := am_kd_cell hkd (by decide) (by decide)
          have he := am_ws_get (Ln := Ln) (b := b) (base := base) (cA := cA) (σ := σ) hkl
          have hcell : am_cell Ln (am_ad b base) cA σ (k + 1) = .inl (cA 2, n.toNat, .inr (.inl (fun j => Int64.ofInt (σ (k + 1) j)))) := by unfold am_cell; rw [hkd] <;> rfl
          rw [hcell] at he
          have hn := am_kd_n h0 h4 hkd
          have hi := am_hd hst
          refine va_lald (D := D) hx hb hK hR.1 k 1 he rfl (vpin_i hb1.1 (by omega) hi) hdg ?_
          rw [clamp_i hb1.1 hi, show ((i.toNat : Nat) : Int) = i by omega]
          exact go (st' := vL (σ (k + 1) i) :: r) hk hR hS hl hal (am_cons (am_rel_l hR hkd _) (am_tl (am_tl hst)))
      · exact h.1.elim
    · exact h.1.elim
  | baload =>
    simp only [am_okop, Bool.and_eq_true, decide_eq_true_eq] at ck
    obtain ⟨hdg, hlen⟩ := ck
    have hlen := am_len hlen
    subst hlen
    simp only [am_act] at h
    split at h
    · rename_i i a r
      split at h
      · rename_i n ci hkd
        · obtain ⟨hb1, hk⟩ := h
          obtain ⟨k, rfl, hkl⟩ := am_kd_cell hkd (by decide) (by decide)
          have he := am_ws_get (Ln := Ln) (b := b) (base := base) (cA := cA) (σ := σ) hkl
          have hcell : am_cell Ln (am_ad b base) cA σ (k + 1) = .inl (cA 3, n.toNat, .inl (fun j => Int32.ofInt (σ (k + 1) j))) := by unfold am_cell; rw [hkd] <;> rfl
          rw [hcell] at he
          have hn := am_kd_n h0 h4 hkd
          have hi := am_hd hst
          refine va_bald (D := D) hx hb hK hR.1 k 2 he rfl (vpin_i hb1.1 (by omega) hi) hdg ?_
          rw [clamp_i hb1.1 hi, show ((i.toNat : Nat) : Int) = i by omega]
          exact go (st' := vI (σ (k + 1) i) :: r) hk hR hS hl hal (am_cons (am_rel_i hR hkd (by decide) _) (am_tl (am_tl hst)))
      · rename_i n ci hkd
        · obtain ⟨hb1, hk⟩ := h
          obtain ⟨k, rfl, hkl⟩ := am_kd_cell hkd (by decide) (by decide)
          have he := am_ws_get (Ln := Ln) (b := b) (base := base) (cA := cA) (σ := σ) hkl
          have hcell : am_cell Ln (am_ad b base) cA σ (k + 1) = .inl (cA 4, n.toNat, .inl (fun j => Int32.ofInt (σ (k + 1) j))) := by unfold am_cell; rw [hkd] <;> rfl
          rw [hcell] at he
          have hn := am_kd_n h0 h4 hkd
          have hi := am_hd hst
          refine va_zald (D := D) hx hb hK hR.1 k 3 he rfl (vpin_i hb1.1 (by omega) hi) hdg ?_
          rw [clamp_i hb1.1 hi, show ((i.toNat : Nat) : Int) = i by omega]
          exact go (st' := vI (σ (k + 1) i) :: r) hk hR hS hl hal (am_cons (am_rel_i hR hkd (by decide) _) (am_tl (am_tl hst)))
      · exact h.1.elim
    · exact h.1.elim
  | iastore =>
    simp only [am_okop, Bool.and_eq_true, decide_eq_true_eq] at ck
    obtain ⟨hdg, hlen⟩ := ck
    have hlen := am_len hlen
    subst hlen
    simp only [am_act] at h
    split at h
    · rename_i v i a r
      split at h
      · rename_i n ci hkd
        · skip
          obtain ⟨hb1, hk⟩ := h
          obtain ⟨k, rfl, hkl⟩ := am_kd_cell hkd (by decide) (by decide)
          have he := am_ws_get (Ln := Ln) (b := b) (base := base) (cA := cA) (σ := σ) hkl
          have hcell : ∀ σ' : AS, am_cell Ln (am_ad b base) cA σ' (k + 1) = .inl (cA 1, n.toNat, .inl (fun j => Int32.ofInt (σ' (k + 1) j))) := by intro σ'; unfold am_cell; rw [hkd] <;> rfl
          rw [hcell σ] at he
          have hn := am_kd_n h0 h4 hkd
          have hi := am_hd (am_tl hst)
          have hv := am_hd hst
          refine va_iast (D := D) hx hb hK hR.1 am_ws_D hS k 0 he rfl (vpin_i hb1.1 (by omega) hi) hdg (fun H1 locs1 hP1 hD1 hS1 => go hk (am_rel_up hR hkd (⟨fun q => absurd q (by decide), fun _ => hv⟩) ?_) hS1 hl hal (am_tl (am_tl (am_tl hst))))
          rw [hcell, am_upd_i hb1.1 hi]
          exact hP1
      · exact h.1.elim
    · exact h.1.elim
  | lastore =>
    simp only [am_okop, Bool.and_eq_true, decide_eq_true_eq] at ck
    obtain ⟨hdg, hlen⟩ := ck
    have hlen := am_len hlen
    subst hlen
    simp only [am_act] at h
    split at h
    · rename_i v i a r
      split at h
      · rename_i n ci hkd
        · skip
          obtain ⟨hb1, hk⟩ := h
          obtain ⟨k, rfl, hkl⟩ := am_kd_cell hkd (by decide) (by decide)
          have he := am_ws_get (Ln := Ln) (b := b) (base := base) (cA := cA) (σ := σ) hkl
          have hcell : ∀ σ' : AS, am_cell Ln (am_ad b base) cA σ' (k + 1) = .inl (cA 2, n.toNat, .inr (.inl (fun j => Int64.ofInt (σ' (k + 1) j)))) := by intro σ'; unfold am_cell; rw [hkd] <;> rfl
          rw [hcell σ] at he
          have hn := am_kd_n h0 h4 hkd
          have hi := am_hd (am_tl hst)
          have hv := am_hd hst
          refine va_last (D := D) hx hb hK hR.1 am_ws_D hS k 1 he rfl (vpin_i hb1.1 (by omega) hi) hdg (fun H1 locs1 hP1 hD1 hS1 => go hk (am_rel_up hR hkd (⟨fun _ => hv, fun q => absurd rfl q⟩) ?_) hS1 hl hal (am_tl (am_tl (am_tl hst))))
          rw [hcell, am_upd_l hb1.1 hi]
          exact hP1
      · exact h.1.elim
    · exact h.1.elim
  | bastore =>
    simp only [am_okop, Bool.and_eq_true, decide_eq_true_eq] at ck
    obtain ⟨hdg, hlen⟩ := ck
    have hlen := am_len hlen
    subst hlen
    simp only [am_act] at h
    split at h
    · rename_i v i a r
      split at h
      · rename_i n ci hkd
        · skip
          obtain ⟨hb1, hk⟩ := h
          obtain ⟨k, rfl, hkl⟩ := am_kd_cell hkd (by decide) (by decide)
          have he := am_ws_get (Ln := Ln) (b := b) (base := base) (cA := cA) (σ := σ) hkl
          have hcell : ∀ σ' : AS, am_cell Ln (am_ad b base) cA σ' (k + 1) = .inl (cA 3, n.toNat, .inl (fun j => Int32.ofInt (σ' (k + 1) j))) := by intro σ'; unfold am_cell; rw [hkd] <;> rfl
          rw [hcell σ] at he
          have hn := am_kd_n h0 h4 hkd
          have hi := am_hd (am_tl hst)
          have hv := am_hd hst
          refine va_bast (D := D) hx hb hK hR.1 am_ws_D hS k 2 he rfl (vpin_i hb1.1 (by omega) hi) hdg (fun H1 locs1 hP1 hD1 hS1 => go hk (am_rel_up hR hkd (⟨fun q => absurd q (by decide), fun _ => in32_of _⟩) ?_) hS1 hl hal (am_tl (am_tl (am_tl hst))))
          rw [hcell, am_upd_i hb1.1 hi, show Int32.ofInt (w8 v) = vp_nar .byte (Int32.ofInt v) by rw [w8, am_ofInt_toInt]; rfl]
          exact hP1
      · rename_i n ci hkd
        · skip
          obtain ⟨hb1, hk⟩ := h
          obtain ⟨k, rfl, hkl⟩ := am_kd_cell hkd (by decide) (by decide)
          have he := am_ws_get (Ln := Ln) (b := b) (base := base) (cA := cA) (σ := σ) hkl
          have hcell : ∀ σ' : AS, am_cell Ln (am_ad b base) cA σ' (k + 1) = .inl (cA 4, n.toNat, .inl (fun j => Int32.ofInt (σ' (k + 1) j))) := by intro σ'; unfold am_cell; rw [hkd] <;> rfl
          rw [hcell σ] at he
          have hn := am_kd_n h0 h4 hkd
          have hi := am_hd (am_tl hst)
          have hv := am_hd hst
          refine va_zast (D := D) hx hb hK hR.1 am_ws_D hS k 3 he rfl (vpin_i hb1.1 (by omega) hi) hdg (fun H1 locs1 hP1 hD1 hS1 => go hk (am_rel_up hR hkd (⟨fun q => absurd q (by decide), fun _ => in32_of _⟩) ?_) hS1 hl hal (am_tl (am_tl (am_tl hst))))
          rw [hcell, am_upd_i hb1.1 hi, show Int32.ofInt (bAnd v 1) = vp_nar .boolean (Int32.ofInt v) by rw [bAnd, am_ofInt_toInt]; rfl]
          exact hP1
      · exact h.1.elim
    · exact h.1.elim
  | invokevirtual i =>
    simp only [am_okop, Bool.and_eq_true, decide_eq_true_eq] at ck
    obtain ⟨hdg, ⟨⟨⟨⟨⟨hlen, hlink⟩, hx0⟩, hx1⟩, hstat⟩, hny⟩, hcls⟩ := ck
    have hlen := am_len hlen
    subst hlen
    obtain ⟨hn, hr4, hexp, hrcv, T, hcall, hk⟩ := am_inv_inv h
    exact am_callV_step hC hR hS hcc hss hl hst hdg hlink (Nat.blt_eq.mp hx0) (Nat.blt_eq.mp hx1) (am_len hstat) (am_len hny) hcls hn hr4 hexp hrcv hcall (fun v σ' H1 locs1 hT hrel hsh hS1 => am_kont_go hsh hk hT fun st2 hk2 hv e2 => by rw [← e2]; exact go hk2 hrel hS1 hl hal (am_rest_in hst hv))
  | invokestatic i =>
    simp only [am_okop, Bool.and_eq_true, decide_eq_true_eq] at ck
    obtain ⟨hdg, hlen, hck⟩ := ck
    have hlen := am_len hlen
    subst hlen
    by_cases e1 : cc = 1
    · subst e1
      simp only [Bool.and_eq_true, decide_eq_true_eq] at hck
      obtain ⟨⟨⟨⟨hlink, hx0⟩, hx1⟩, hstat⟩, hny⟩ := hck
      obtain ⟨hn, hr4, hexp, hrcv, T, hcall, hk⟩ := am_inv_inv h
      exact am_callS_step hC hR hS hcc hss hl hst hdg hlink (Nat.blt_eq.mp hx0) (Nat.blt_eq.mp hx1) (am_len hstat) (am_len hny) hn hr4 hexp hcall (fun v σ' H1 locs1 hT hrel hsh hS1 => am_kont_go hsh hk hT fun st2 hk2 hv e2 => by rw [← e2]; exact go hk2 hrel hS1 hl hal (am_rest_in hst hv))
    · by_cases e2 : cc = 2
      · subst e2
        simp only [Bool.and_eq_true, decide_eq_true_eq] at hck
        obtain ⟨⟨⟨⟨hlink, hx0⟩, hx1⟩, hstat⟩, hny⟩ := hck
        obtain ⟨hn, hr4, hexp, hrcv, T, hcall, hk⟩ := am_inv_inv h
        exact am_callN_step hC hR hS hcc hss hl hst hdg hlink (Nat.blt_eq.mp hx0) (Nat.blt_eq.mp hx1) (am_len hstat) (am_len hny) hn hr4 hexp hcall (fun v σ' H1 locs1 hT hrel hsh hS1 => am_kont_go hsh hk hT fun st2 hk2 hv e2 => by rw [← e2]; exact go hk2 hrel hS1 hl hal (am_rest_in hst hv))
      · by_cases e3 : cc = 3
        · subst e3
          have hlink : lw_tbl[w]? = some (Jvm.Cond.methodLink (am_my m).1.cls i arraycopyName) := by simpa using hck
          have h : am_sem (am_cl (am_P l Ln b base D cA xs) d) (fun pc ls st σ => am_P l Ln b base D cA xs d m pc ls st σ Q) Q (am_acp Ln al st σ (pc + 3)) := h
          unfold am_acp at h
          split at h
          · rename_i n dp a1 sp a0 r
            split at h
            · rename_i n0 c0 n1 c1 hkd0 hkd1 hr4
              obtain ⟨hb1, hk⟩ := h
              have hr4 := Nat.ble_eq.mp hr4
              obtain ⟨k0, rfl, hkl0⟩ := am_kd_cell hkd0 (by decide) (by decide)
              obtain ⟨k1, rfl, hkl1⟩ := am_kd_cell hkd1 (by decide) (by decide)
              have he0 := am_ws_get (Ln := Ln) (b := b) (base := base) (cA := cA) (σ := σ) hkl0
              have he1 := am_ws_get (Ln := Ln) (b := b) (base := base) (cA := cA) (σ := σ) hkl1
              have hcell0 : am_cell Ln (am_ad b base) cA σ (k0 + 1) = .inl (cA 1, n0.toNat, .inl (fun j => Int32.ofInt (σ (k0 + 1) j))) := by unfold am_cell; rw [hkd0] <;> rfl
              have hcell1 : ∀ σ' : AS, am_cell Ln (am_ad b base) cA σ' (k1 + 1) = .inl (cA 1, n1.toNat, .inl (fun j => Int32.ofInt (σ' (k1 + 1) j))) := by intro σ'; unfold am_cell; rw [hkd1] <;> rfl
              rw [hcell0] at he0
              rw [hcell1] at he1
              have hn0 := am_kd_n h0 h4 hkd0
              have hn1 := am_kd_n h0 h4 hkd1
              have in1 := am_hd hst
              have in2 := am_hd (am_tl hst)
              have in3 := am_hd (am_tl (am_tl (am_tl hst)))
              have c1 := clamp_i hb1.2.2.1 in1
              have c2 := clamp_i hb1.2.1 in2
              have c3 := clamp_i hb1.1 in3
              have neg : ∀ {z : Int}, 0 ≤ z → in32 z → ¬ Int32.ofInt z < 0 := fun hz hi q => by
                have := (lt_i32 hi in32_0).mp q
                omega
              refine va_copyi (D := D) hx hb (by rw [hml]; exact hl.2.1.symm) hown (hts _ (am_gt_in hlink rfl)) (hts _ am_w_ac1) (hts _ am_w_ac2) (hts _ am_w_ac3) hK hR.1 am_ws_D hS k0 k1 0 0 he0 he1 rfl rfl rfl (neg hb1.1 in3) (neg hb1.2.1 in2) (neg hb1.2.2.1 in1) (by rw [c3, c1]; omega) (by rw [c2, c1]; omega) (fun _ _ => rfl) (by omega) ?_ hdg (fun H1 locs1 hP1 hD1 hS1 => go hk ?_ hS1 hl hal (am_tl (am_tl (am_tl (am_tl (am_tl hst))))))
              · have h8 := am_cats (ad := am_ad b base) hr4
                have e9 : nativeFrameWords "java/lang/System" "arraycopy" 5 = 7 := by decide +kernel
                rw [e9]
                omega
              · rw [c1, c2, c3] at hP1
                exact am_rel_cpy hR hkd0 hkd1 hb1.1 hb1.2.1 hb1.2.2.1 hP1
            · exact h.1.elim
          · exact h.1.elim
        · by_cases e4 : cc = 4
          · subst e4
            have hlink : lw_tbl[w]? = some (Jvm.Cond.methodLink (am_my m).1.cls i Lib.Math.max.name) := by simpa using hck
            obtain ⟨u, v, r, rfl, hk⟩ := am_i2_inv h
            split at hk
            · rename_i hr4
              have h8 := am_cats (ad := am_ad b base) (Nat.ble_eq.mp hr4)
              refine va_mmax hx hb (by rw [hml]; exact hl.2.1.symm) hown (hts _ (am_gt_in hlink rfl)) (hts _ am_w_max1) (hts _ am_w_ma0) (hts _ am_w_max2) (by omega) (by omega) hcc hss hdg ?_
              rw [max_i (am_hd (am_tl hst)) (am_hd hst)]
              exact go (st' := vI (max u v) :: r) hk hR hS hl hal (am_cons (in32_max (am_hd (am_tl hst)) (am_hd hst)) (am_tl (am_tl hst)))
            · exact hk.1.elim
          · by_cases e5 : cc = 5
            · subst e5
              have hlink : lw_tbl[w]? = some (Jvm.Cond.methodLink (am_my m).1.cls i Lib.Math.min.name) := by simpa using hck
              obtain ⟨u, v, r, rfl, hk⟩ := am_i2_inv h
              split at hk
              · rename_i hr4
                have h8 := am_cats (ad := am_ad b base) (Nat.ble_eq.mp hr4)
                refine va_mmin hx hb (by rw [hml]; exact hl.2.1.symm) hown (hts _ (am_gt_in hlink rfl)) (hts _ am_w_min1) (hts _ am_w_ma0) (hts _ am_w_min2) (by omega) (by omega) hcc hss hdg ?_
                rw [min_i (am_hd (am_tl hst)) (am_hd hst)]
                exact go (st' := vI (min u v) :: r) hk hR hS hl hal (am_cons (in32_min (am_hd (am_tl hst)) (am_hd hst)) (am_tl (am_tl hst)))
              · exact hk.1.elim
            · exfalso
              revert hck
              split <;> simp_all
  | ireturn =>
    simp only [am_okop, Bool.and_eq_true, decide_eq_true_eq] at ck
    obtain ⟨hdg, hlen, hck⟩ := ck
    have hlen := am_len hlen
    subst hlen
    simp only [am_act] at h
    split at h
    · rename_i v
      have hv := am_hd hst
      split at h
      · obtain ⟨hbv, hq⟩ := h
        refine hret (some (vI v)) σ H locs pc ls hq hR hS ⟨hdg, ?_, hv⟩
        split at hck
        · rename_i e1 e2; cases e2
        · rename_i e1 _; exact Or.inr ⟨e1, hbv⟩
        · cases hck
      · rename_i hne
        refine hret (some (vI v)) σ H locs pc ls h hR hS ⟨hdg, ?_, hv⟩
        split at hck
        · rename_i e1; exact Or.inl e1
        · exact absurd rfl hne
        · cases hck
    · exact h.1.elim
  | lreturn =>
    simp only [am_okop, Bool.and_eq_true, decide_eq_true_eq] at ck
    obtain ⟨hdg, hlen, hck⟩ := ck
    have hlen := am_len hlen
    subst hlen
    simp only [am_act] at h
    split at h
    · rename_i v
      exact hret (some (vL v)) σ H locs pc ls h hR hS ⟨hdg, am_len hck, am_hd hst⟩
    · exact h.1.elim
  | return_ =>
    simp only [am_okop, Bool.and_eq_true, decide_eq_true_eq] at ck
    obtain ⟨hdg, hlen, hck⟩ := ck
    have hlen := am_len hlen
    subst hlen
    simp only [am_act] at h
    split at h
    · exact hret none σ H locs pc ls h hR hS ⟨hdg, am_len hck⟩
    · exact h.1.elim
  | _ => exact h.1.elim
end
section
/-! the constructors: worlds of the first n cells, of whose references some are set -/
noncomputable def ao_e (ad : Nat → Nat) (S : List (Nat × Nat)) (a k t : Nat) : Value := match t with
  | 2 => if (a, k) ∈ S then Value.ref (ad (am_ref a k)) else .null
  | _ => .int 0
noncomputable def ao_f (ad : Nat → Nat) (S : List (Nat × Nat)) (a : Nat) : Nat → List Nat → List Value
  | _, [] => []
  | k, t :: r => ao_e ad S a k t :: ao_f ad S a (k + 1) r
theorem ao_f_get {ad : Nat → Nat} {S : List (Nat × Nat)} {a : Nat} : ∀ (l : List Nat) (k j : Nat), (ao_f ad S a k l)[j]? = (l[j]?).map (fun t => ao_e ad S a (k + j) t)
  | [], k, j => by simp [ao_f]
  | t :: r, k, 0 => by simp [ao_f]
  | t :: r, k, j + 1 => by
    rw [ao_f, List.getElem?_cons_succ, ao_f_get r (k + 1) j, List.getElem?_cons_succ, show k + 1 + j = k + (j + 1) by omega]
theorem ao_f_len {ad : Nat → Nat} {S : List (Nat × Nat)} {a : Nat} : ∀ (l : List Nat) (k : Nat), (ao_f ad S a k l).length = l.length
  | [], k => rfl
  | t :: r, k => by rw [ao_f, List.length_cons, ao_f_len r (k + 1), List.length_cons]
noncomputable def ao_cell (ad : Nat → Nat) (cA : Nat → ClassId) (S : List (Nat × Nat)) (a : Nat) : va_E := match am_kd 0 a with
  | (0, _, ci) => .inr (ci, ao_f ad S a 0 (am_ftL.getD ci []))
  | (2, n, _) => .inl (cA 2, n.toNat, .inr (.inl (fun _ => 0)))
  | (t, n, _) => .inl (cA t, n.toNat, .inl (fun _ => 0))
noncomputable def ao_ws (b base : Nat) (cA : Nat → ClassId) (S : List (Nat × Nat)) (n : Nat) : va_W := (List.range n).map (fun k => (base + k, ao_cell (am_ad b base) cA S (k + 1)))
noncomputable def ao_rel (b base : Nat) (D : va_G) (cA : Nat → ClassId) (S : List (Nat × Nat)) (n : Nat) (H : Heap) : Prop := va_P D am_cls (ao_ws b base cA S n) H ∧ H.size = base + n
theorem ao_ws_get {b base : Nat} {cA : Nat → ClassId} {S : List (Nat × Nat)} {n k : Nat} (h : k < n) : (ao_ws b base cA S n)[k]? = some (base + k, ao_cell (am_ad b base) cA S (k + 1)) := by
  unfold ao_ws
  rw [List.getElem?_map, List.getElem?_range h]
  rfl
theorem ao_ws_out {b base : Nat} {cA : Nat → ClassId} {S : List (Nat × Nat)} {n k : Nat} {q : Nat × va_E} (h : (ao_ws b base cA S n)[k]? = some q) : k < n := by
  have := (List.getElem?_eq_some_iff.mp h).1
  simpa [ao_ws] using this
theorem ao_ws_D {b base : Nat} {cA : Nat → ClassId} {S : List (Nat × Nat)} {n : Nat} : va_D (fun q => base ≤ q) (ao_ws b base cA S n) := by
  have key : ∀ (k : Nat) (q : Nat × va_E), (ao_ws b base cA S n)[k]? = some q → q.1 = base + k := by
    intro k q h
    rw [ao_ws_get (ao_ws_out h)] at h
    rw [← Option.some.inj h]
  refine ⟨fun i j p q hi hj e => ?_, fun k q h => ?_⟩
  · have h1 := key i p hi
    have h2 := key j q hj
    omega
  · have h1 := key k q h
    show base ≤ q.1
    omega
theorem ao_push {b base : Nat} {D : va_G} {cA : Nat → ClassId} {S : List (Nat × Nat)} {n : Nat} {H H1 : Heap} (h : ao_rel b base D cA S n H) (hz : H1.size = base + n + 1) (ho : ∀ q, q < base + n → H1[q]? = H[q]?) (hn : va_at D am_cls (base + n, ao_cell (am_ad b base) cA S (n + 1)) H1) : ao_rel b base D cA S (n + 1) H1 := by
  refine ⟨fun k q hq => ?_, by omega⟩
  have hk := ao_ws_out hq
  rw [ao_ws_get hk] at hq
  cases hq
  rcases Nat.lt_or_ge k n with g | g
  · exact (h.1 k _ (ao_ws_get g)).kept (ho _ (by show base + k < base + n; omega))
  · rw [show k = n by omega]
    exact hn
theorem ao_setS {b base : Nat} {cA : Nat → ClassId} {S : List (Nat × Nat)} {n j k ci : Nat} (hkd : am_kd 0 (j + 1) = (0, 0, ci)) (hj : j < n) (hft : am_ft ci k = 2) :
    ao_ws b base cA ((j + 1, k) :: S) n = (ao_ws b base cA S n).set j (base + j, .inr (ci, (ao_f (am_ad b base) S (j + 1) 0 (am_ftL.getD ci [])).set k (.ref (am_ad b base (am_ref (j + 1) k))))) := by
  have hat := am_ft_at hft (by decide)
  have hkl := (List.getElem?_eq_some_iff.mp hat).1
  have e1 : ∀ (l : List Nat) (a i : Nat), a ≠ j + 1 → ao_f (am_ad b base) ((j + 1, k) :: S) a i l = ao_f (am_ad b base) S a i l := by
    intro l
    induction l with
    | nil => intro a i _; rfl
    | cons t r ih =>
      intro a i ha
      rw [ao_f, ao_f, ih a (i + 1) ha]
      congr 1
      unfold ao_e
      split
      · have : ((a, i) ∈ (j + 1, k) :: S) ↔ (a, i) ∈ S := by
          rw [List.mem_cons]
          constructor
          · rintro (q | q)
            · cases q; exact absurd rfl ha
            · exact q
          · exact Or.inr
        simp only [this]
      · rfl
  apply List.ext_getElem?
  intro i
  by_cases hi : i < n
  · by_cases e : j = i
    · subst e
      rw [ao_ws_get hi, List.getElem?_set_self (by unfold ao_ws; simpa using hi)]
      have : ao_cell (am_ad b base) cA ((j + 1, k) :: S) (j + 1) = .inr (ci, ao_f (am_ad b base) ((j + 1, k) :: S) (j + 1) 0 (am_ftL.getD ci [])) := by unfold ao_cell; rw [hkd] <;> rfl
      rw [this]
      have e2 : ao_f (am_ad b base) ((j + 1, k) :: S) (j + 1) 0 (am_ftL.getD ci []) = (ao_f (am_ad b base) S (j + 1) 0 (am_ftL.getD ci [])).set k (.ref (am_ad b base (am_ref (j + 1) k))) := by
        apply List.ext_getElem?
        intro x
        rw [ao_f_get, List.getElem?_set]
        by_cases ex : k = x
        · subst ex
          rw [if_pos rfl, if_pos (by rw [ao_f_len]; exact hkl), hat]
          simp [ao_e]
        · rw [if_neg ex, ao_f_get]
          congr 1
          funext t
          unfold ao_e
          split
          · have : ((j + 1, 0 + x) ∈ (j + 1, k) :: S) ↔ (j + 1, 0 + x) ∈ S := by
              rw [List.mem_cons]
              constructor
              · rintro (q | q)
                · have := congrArg Prod.snd q
                  simp at this
                  exact absurd this.symm ex
                · exact q
              · exact Or.inr
            simp only [this]
          · rfl
      rw [e2]
    · rw [ao_ws_get hi, List.getElem?_set_ne e, ao_ws_get hi]
      congr 2
      unfold ao_cell
      split
      · rw [e1 _ _ _ (by omega)]
      · rfl
      · rfl
  · have h1 : (ao_ws b base cA ((j + 1, k) :: S) n).length ≤ i := by unfold ao_ws; simp; omega
    rw [List.getElem?_eq_none h1, List.getElem?_eq_none (by rw [List.length_set]; unfold ao_ws; simp; omega)]
section AO
variable {p : Program} {l : Launch} {e : Env} {R : Room} {s : State} {mid : MethodId} {args : Array Value} {below : List Frame} {meth : Method} {c : Code} {H H0 : Heap} {locs : List Loc} {cells slots : Nat} {Qf : State → Prop}
variable {cc : ByteArray} {pc : Nat} {ls : Array Slot} {st : List Value} {b base : Nat} {D : va_G} {cA : Nat → ClassId} {S : List (Nat × Nat)} {n : Nat} {own : String}
theorem ao_new (hx : p.tables.exec = Jvm.exec) (hb : c.code = cc) (hown : s.vm.findClass own = some mid.cls) (hts : ∀ w ∈ am_gt, w.before args s = true) (hK : va_K D am_cls (am_tys cA) s) (hR : ao_rel b base D cA S n H) (hS : va_S (fun q => base ≤ q) H0 H locs)
    {idx ci N : Nat} {C : String} {T : u_T} {ty : Nat → FieldType} (hcl : Cond.classLink own idx C ∈ am_gt) (hins : Cond.instantiable C N ∈ am_gt) (hini : Cond.initialized C ∈ am_gt) (hkd : am_kd 0 (n + 1) = (0, 0, ci)) (hc : am_cls[ci]? = some (C, T, N)) (hw : ∀ w ∈ u_ws C T N, w ∈ am_gt) (hty : ∀ k, k < N → parseFieldDescriptor (T k).2.2.1 = some (ty k))
    (hdf : ∀ k, k < N → defaultValue (ty k) = (match am_ft ci k with
      | 2 => Value.null
      | _ => .int 0)) (hft : ∀ k, k < N → am_ft ci k ≠ 9) (hn : ∀ q ∈ S, q.1 ≠ n + 1) (hcells : cells + 1 ≤ R.cells) (hslots : slots + N ≤ R.slots) (hdg : decode cc pc = .ok (.new idx, 3))
    (kk : ∀ H1, ao_rel b base D cA S (n + 1) H1 → va_S (fun q => base ≤ q) H0 H1 locs → W p l e R s mid args below meth c H1 locs (cells + 1) (slots + N) Qf (F0 mid (pc + 3) ls (.ref (base + n) :: st))) : W p l e R s mid args below meth c H locs cells slots Qf (F0 mid pc ls st) := by
  have hKn := hK.1 ci _ hc
  refine W.newcK hx hb hown (hts _ hcl) (hts _ hins) (hts _ hini) rfl hdg hcells hslots hKn.2.1 hR.2 fun H1 kC hkC e1 z1 o1 => ?_
  refine kk H1 (ao_push hR z1 o1 ?_) ⟨by have := hS.1; have := hR.2; omega, fun q h1 h2 => (o1 q (by have := hS.1; have := hR.2; omega)).trans (hS.2.1 q h1 h2), hS.2.2⟩
  have hcell : ao_cell (am_ad b base) cA S (n + 1) = .inr (ci, ao_f (am_ad b base) S (n + 1) 0 (am_ftL.getD ci [])) := by unfold ao_cell; rw [hkd] <;> rfl
  rw [hcell]
  refine ⟨_, hc, (u_born ty hts hw hKn hkC e1 hty).to fun k hk => ?_⟩
  show defaultValue (ty k) = _
  rw [hdf k hk]
  unfold vp_V
  rw [List.getD_eq_getElem?_getD, ao_f_get]
  have hat := am_ft_at (ci := ci) (k := k) rfl (hft k hk)
  rw [hat]
  show _ = ao_e (am_ad b base) S (n + 1) (0 + k) (am_ft ci k)
  unfold ao_e
  split
  · rw [if_neg]
    intro q
    exact hn _ q rfl
  · rfl
theorem ao_newa (hx : p.tables.exec = Jvm.exec) (hb : c.code = cc) (hts : ∀ w ∈ am_gt, w.before args s = true) (hK : va_K D am_cls (am_tys cA) s) (hR : ao_rel b base D cA S n H) (hS : va_S (fun q => base ≤ q) H0 H locs)
    {atype : ArrayType} {ty : FieldType} {t t0 N : Nat} {v : Int32} {a0 : vp_A} (harr : Cond.arrayClass ty ∈ am_gt) (hty : newarray.typeOf atype = ty) (htys : (am_tys cA)[t0]? = some (cA t, ty)) (hnob : ∀ C, ty ≠ .object C) (hcell : ao_cell (am_ad b base) cA S (n + 1) = .inl (cA t, a0)) (ha0 : ∀ c0 : ClassId, vp_cell c0 a0 = arrV c0 N (fun _ => defaultValue ty))
    (hn : ¬ v < 0) (hN : v.toNatClampNeg = N) (hbytes : N * componentBytes ty ≤ 536870912) (hcells : cells + 1 ≤ R.cells) (hslots : slots + N ≤ R.slots) (hdg : decode cc pc = .ok (.newarray atype, 2))
    (kk : ∀ H1, ao_rel b base D cA S (n + 1) H1 → va_S (fun q => base ≤ q) H0 H1 locs → W p l e R s mid args below meth c H1 locs (cells + 1) (slots + N) Qf (F0 mid (pc + 2) ls (.ref (base + n) :: st))) : W p l e R s mid args below meth c H locs cells slots Qf (F0 mid pc ls (.int v :: st)) := by
  subst hty
  refine va_newaK hx hb (hts _ harr) rfl hdg rfl hn hN hbytes hcells hslots hR.2 fun H1 c1 e1 z1 o1 hAr hNm => ?_
  refine kk H1 (ao_push hR z1 o1 ?_) ⟨by have := hS.1; have := hR.2; omega, fun q h1 h2 => (o1 q (by have := hS.1; have := hR.2; omega)).trans (hS.2.1 q h1 h2), hS.2.2⟩
  rw [hcell]
  have hra := (hK.2 t0 _ htys).2
  have hcls : c1 = cA t := by
    revert hra hNm hnob
    generalize newarray.typeOf atype = ty
    intro hnob hra hNm
    cases ty with
    | object C => exact absurd rfl (hnob C)
    | _ => exact (Option.some.inj (hNm.symm.trans hra)).symm
  show H1[base + n]? = some (vp_cell _ _)
  rw [ha0, e1, hcls]
theorem ao_put (hx : p.tables.exec = Jvm.exec) (hb : c.code = cc) (hown : s.vm.findClass own = some mid.cls) (hts : ∀ w ∈ am_gt, w.before args s = true) (hK : va_K D am_cls (am_tys cA) s) (hR : ao_rel b base D cA S n H) (hS : va_S (fun q => base ≤ q) H0 H locs) (hin2 : meth.name = "<init>")
    {idx ci N j k v : Nat} {T : u_T} {ty0 : Nat → FieldType} {ty : FieldType} {S' : List (Nat × Nat)} (hlink : Cond.fieldLink own idx own (T k).2.1 (T k).2.2.1 ∈ am_gt) (hkd : am_kd 0 (j + 1) = (0, 0, ci)) (hj : j < n) (hc : am_cls[ci]? = some (own, T, N)) (hw : ∀ w ∈ u_ws own T N, w ∈ am_gt) (hty : ∀ k, k < N → parseFieldDescriptor (T k).2.2.1 = some (ty0 k)) (hnm : ∀ a, a < N → ∀ b, b < N → a ≠ b → (T a).2.1 ≠ (T b).2.1)
    (hk : k < N) (hlen : (am_ftL.getD ci []).length = N) (hT1 : (T k).1 = own) (hfin : (T k).2.2.2 = true) (hd : parseFieldDescriptor (T k).2.2.1 = some ty) (hnr : ∀ a, narrow ty (.ref a) = .ref a) (hfit : ∀ a, fits ty (.ref a) = true) (hft : am_ft ci k = 2) (href : am_ref (j + 1) k = v + 1) (hS' : (j + 1, k) :: S = S') (hdg : decode cc pc = .ok (.putfield idx, 3))
    (kk : ∀ H1 locs1, ao_rel b base D cA S' n H1 → va_S (fun q => base ≤ q) H0 H1 locs1 → W p l e R s mid args below meth c H1 locs1 cells slots Qf (F0 mid (pc + 3) ls st)) : W p l e R s mid args below meth c H locs cells slots Qf (F0 mid pc ls (.ref (base + v) :: .ref (base + j) :: st)) := by
  subst hS'
  have hcell : ao_cell (am_ad b base) cA S (j + 1) = .inr (ci, ao_f (am_ad b base) S (j + 1) 0 (am_ftL.getD ci [])) := by unfold ao_cell; rw [hkd] <;> rfl
  have he := ao_ws_get (b := b) (base := base) (cA := cA) (S := S) hj
  rw [hcell] at he
  have hap := va_apart (own := own) hts hw ty0 hty hnm hK hc
  obtain ⟨r, h1, cell, q1, q2, q3, q4⟩ := hR.1 j _ he
  have hr : r = (own, T, N) := Option.some.inj (h1.symm.trans hc)
  subst hr
  obtain ⟨hSl, hfc, kC, hkC, hkind⟩ := hK.1 ci _ hc
  obtain ⟨cf, kf, fi, f, hi, hsl⟩ := hSl k hk
  have hlay := hts _ (hw _ (u_in_lay hk))
  unfold u_lay at hlay
  rw [if_pos hfin] at hlay
  have hst := (u_facts hfc hkC (u_lays hts hw hk) hi).1
  have hcf : mid.cls = cf := by
    obtain ⟨_, _, c', _, _, _, -, -, hf', -, -, -, hown2, -⟩ := Cond.laysFinal_spec hlay
    have e1 : c' = cf := by have := hi.symm.trans hf'; simp at this; exact this.1.symm
    rw [hT1] at hown2
    rw [← e1]; exact Option.some.inj (hown.symm.trans hown2)
  have h6 := u_fits hfc hkC hkind (Or.inr hlay) hi hd (hnr (base + v)) (hfit (base + v))
  refine W.putFinK hx hb hown (hts _ hlink) (by rw [hT1] at hi; exact hi) hst hcf hin2 (by rw [q2]; exact h6) q1 q3 (by rw [hsl]; exact k2_hasslot (q4 k hk)) rfl rfl hdg fun H' e1 e2 e3 => ?_
  rw [hsl] at e1 ⊢
  have hlt : k < (ao_f (am_ad b base) S (j + 1) 0 (am_ftL.getD ci [])).length := by rw [ao_f_len, hlen]; exact hk
  refine kk H' _ ⟨?_, by rw [e2]; exact hR.2⟩ (hS.put e2 e3 (ao_ws_D.2 j _ he))
  rw [ao_setS hkd hj hft, href]
  exact hR.1.set ao_ws_D he ⟨_, hc, t_OB.to (V := updV (vp_V (ao_f (am_ad b base) S (j + 1) 0 (am_ftL.getD ci []))) k (.ref (base + v))) ⟨_, e1, q2, q3, t_set q4 hap hk _⟩ (fun i _ => vp_updV_set hlt _ i)⟩ e3
theorem ao_get (hx : p.tables.exec = Jvm.exec) (hb : c.code = cc) (hown : s.vm.findClass own = some mid.cls) (hts : ∀ w ∈ am_gt, w.before args s = true) (hK : va_K D am_cls (am_tys cA) s) (hR : ao_rel b base D cA S n H)
    {idx ci N j k v : Nat} {T : u_T} (hlink : Cond.fieldLink own idx own (T k).2.1 (T k).2.2.1 ∈ am_gt) (hkd : am_kd 0 (j + 1) = (0, 0, ci)) (hj : j < n) (hc : am_cls[ci]? = some (own, T, N)) (hw : ∀ w ∈ u_ws own T N, w ∈ am_gt) (hk : k < N) (hT1 : (T k).1 = own) (hft : am_ft ci k = 2) (href : am_ref (j + 1) k = v + 1) (hmem : (j + 1, k) ∈ S) (hdg : decode cc pc = .ok (.getfield idx, 3))
    (kk : W p l e R s mid args below meth c H locs cells slots Qf (F0 mid (pc + 3) ls (.ref (base + v) :: st))) : W p l e R s mid args below meth c H locs cells slots Qf (F0 mid pc ls (.ref (base + j) :: st)) := by
  have hcell : ao_cell (am_ad b base) cA S (j + 1) = .inr (ci, ao_f (am_ad b base) S (j + 1) 0 (am_ftL.getD ci [])) := by unfold ao_cell; rw [hkd] <;> rfl
  have he := ao_ws_get (b := b) (base := base) (cA := cA) (S := S) hj
  rw [hcell] at he
  refine va_get (D := D) (ci := ci) (C := own) (T := T) (N := N) hx hb hts hw hown hK hR.1 j he hc k hk (hts _ hlink) (fun z hz => by rw [hT1] at hz; exact hz) ?_ hdg kk
  rw [ao_f_get, am_ft_at hft (by decide)]
  simp only [Option.map_some, Nat.zero_add]
  unfold ao_e
  rw [if_pos hmem, href]
  rfl
end AO
end
section
/-! the constructors, printed by wip/tools/gen_ctor.py: each step a row -/
/-- the references, the last set first -/
def ao_L : List (Nat × Nat) := [(82, 81), (82, 80), (82, 79), (82, 78), (82, 77), (82, 74), (82, 73), (82, 72), (82, 71), (82, 70), (82, 69), (82, 68), (82, 64), (82, 62), (82, 61), (82, 60), (82, 59), (82, 58), (82, 57), (82, 56), (82, 55), (82, 53), (82, 52), (82, 51), (82, 50), (82, 49), (82, 48), (82, 47), (82, 46), (82, 45), (82, 44), (82, 34), (82, 33), (82, 32), (82, 31), (82, 30), (82, 29), (82, 28), (82, 27), (82, 26), (82, 25), (82, 24), (82, 23), (82, 22), (82, 21), (82, 20), (82, 19), (82, 18), (82, 17), (82, 16), (82, 15), (82, 14), (82, 13), (82, 12), (82, 11), (82, 0), (1, 9), (76, 5), (76, 4), (76, 2), (76, 1), (76, 0), (1, 8), (70, 2), (70, 1), (70, 0), (70, 11), (70, 8), (70, 7), (70, 5), (70, 3), (1, 7), (69, 1), (69, 0), (1, 6), (40, 3), (40, 2), (40, 1), (40, 0), (40, 16), (40, 15), (40, 8), (40, 6), (40, 5), (53, 12), (53, 11), (53, 10), (53, 8), (53, 7), (53, 6), (53, 5), (53, 4), (53, 2), (53, 1), (53, 0), (40, 4), (41, 12), (41, 11), (41, 10), (41, 8), (41, 7), (41, 6), (41, 5), (41, 4), (41, 2), (41, 1), (41, 0), (1, 5), (39, 1), (39, 0), (1, 4), (24, 13), (24, 12), (24, 11), (24, 10), (24, 9), (24, 8), (24, 7), (24, 6), (24, 5), (24, 4), (24, 3), (24, 2), (24, 1), (24, 0), (1, 3), (19, 3), (19, 2), (19, 1), (19, 0), (1, 2), (7, 10), (7, 9), (7, 8), (7, 7), (7, 6), (7, 5), (7, 4), (7, 3), (7, 2), (7, 1), (7, 0), (1, 1), (4, 1), (4, 0), (1, 0), (2, 0)]
def ao_SS (i : Nat) : List (Nat × Nat) := ao_L.drop (147 - i)
noncomputable def ao_Pc (b base : Nat) (D : va_G) (cA : Nat → ClassId) (as : List Value) (S : List (Nat × Nat)) (n : Nat) : Array Value → State → Prop := va_Pc as (fun U => ao_rel b base D cA S n U.heap ∧ va_K D am_cls (am_tys cA) U ∧ am_nest U)
noncomputable def ao_Qc (b base : Nat) (D : va_G) (cA : Nat → ClassId) (S : List (Nat × Nat)) (n : Nat) : Array Value → State → Outcome → State → Prop := fun _ st oc t => oc = .returned none ∧ ao_rel b base D cA S n t.heap ∧ va_F (fun q => base ≤ q) st t
theorem ao_blind {b base : Nat} {D : va_G} {cA : Nat → ClassId} {as : List Value} {S : List (Nat × Nat)} {n : Nat} : FrameBlind (ao_Pc b base D cA as S n) := by
  intro a U g mk q
  obtain ⟨q0, q1, q2, q3⟩ := q
  exact ⟨q0, q1, va_K.moved (u := U) (U := U.calling g mk a) (Vm.Alike.refl U.vm) q2, am_nest_vm (s := U) (U := U.calling g mk a) rfl q3⟩
/-- the store with which the law's loop begins: all zero, the script, and (behind p rounds of the last constructor's loop) no other way for any purse -/
noncomputable def ao_σp (p : Int) (Ln : Int) (xs : Nat → Int32) : AS := fun c i => if c = 0 then (if 0 ≤ i ∧ i < Ln then (xs i.toNat).toInt else 0) else if c = 121 then (if 0 ≤ i ∧ i < p then -1 else 0) else 0
noncomputable def ao_σ (Ln : Int) (xs : Nat → Int32) : AS := ao_σp 10 Ln xs
noncomputable def ao_Qm (b base : Nat) (D : va_G) (cA : Nat → ClassId) : Array Value → State → Outcome → State → Prop := fun _ st oc t => oc = .returned none ∧ (∀ Ln xs, va_P D am_cls (am_ws Ln b base cA (ao_σ Ln xs)) t.heap) ∧ va_F (fun q => base ≤ q) st t
section AOC
variable {p : Program} {l : Launch} {e : Env} {R : Room} {s : State} {mid : MethodId} {args : Array Value} {below : List Frame} {meth : Method} {c : Code} {H H0 : Heap} {locs : List Loc} {cells slots mc ms : Nat} {Qf : State → Prop}
variable {pc : Nat} {ls : Array Slot} {st0 rest : List Value} {b base : Nat} {D : va_G} {cA : Nat → ClassId} {S : List (Nat × Nat)} {n : Nat} {a : Array Value}
theorem ao_call (hr : va_Run p l e R s mid args below meth c H locs cells slots mc ms (F0 mid pc ls st0) rest (ao_Qc b base D cA S n a) (fun q => base ≤ q)) (hS : va_S (fun q => base ≤ q) H0 H locs)
    (kk : ∀ H1 locs1, ao_rel b base D cA S n H1 → va_S (fun q => base ≤ q) H0 H1 locs1 → W p l e R s mid args below meth c H1 locs1 (cells + mc) (slots + ms) Qf (F0 mid (pc + 3) ls rest)) : W p l e R s mid args below meth c H locs cells slots Qf (F0 mid pc ls st0) := by
  intro U hU X
  obtain ⟨v, st₀, t, T', L, h0, X', hL, e1, e2, ⟨hv, hrel, hz, hk⟩, st⟩ := hr U hU X
  cases hv
  rw [h0] at hz hk
  obtain ⟨t2, a1, b1⟩ := kk T'.heap (locs ++ L) (by rw [e1]; exact hrel)
    ⟨Nat.le_trans hS.1 (by rw [e1]; exact hz), fun q h1 h2 => by rw [e1, hk q (Nat.lt_of_lt_of_le h1 hS.1) h2]; exact hS.2.1 q h1 h2, fun q hq => by
      rcases List.mem_append.mp hq with h | h
      · exact hS.2.2 q h
      · exact hL q h⟩ T' rfl X'
  exact ⟨t2, st t2 a1, b1⟩
theorem ao_callM (hr : va_Run p l e R s mid args below meth c H locs cells slots mc ms (F0 mid pc ls st0) rest (ao_Qm b base D cA a) (fun q => base ≤ q)) (hS : va_S (fun q => base ≤ q) H0 H locs)
    (kk : ∀ H1 locs1, (∀ Ln xs, va_P D am_cls (am_ws Ln b base cA (ao_σ Ln xs)) H1) → va_S (fun q => base ≤ q) H0 H1 locs1 → W p l e R s mid args below meth c H1 locs1 (cells + mc) (slots + ms) Qf (F0 mid (pc + 3) ls rest)) : W p l e R s mid args below meth c H locs cells slots Qf (F0 mid pc ls st0) := by
  intro U hU X
  obtain ⟨v, st₀, t, T', L, h0, X', hL, e1, e2, ⟨hv, hrel, hz, hk⟩, st⟩ := hr U hU X
  cases hv
  rw [h0] at hz hk
  obtain ⟨t2, a1, b1⟩ := kk T'.heap (locs ++ L) (by rw [e1]; exact hrel)
    ⟨Nat.le_trans hS.1 (by rw [e1]; exact hz), fun q h1 h2 => by rw [e1, hk q (Nat.lt_of_lt_of_le h1 hS.1) h2]; exact hS.2.1 q h1 h2, fun q hq => by
      rcases List.mem_append.mp hq with h | h
      · exact hS.2.2 q h
      · exact hL q h⟩ T' rfl X'
  exact ⟨t2, st t2 a1, b1⟩
end AOC
/-- all references are set: the cells are those of the abstract machine's first store -/
theorem ao_full : (List.range 138).all (fun k => match am_kd 0 (k + 1) with
    | (0, _, ci) => (List.range (am_ftL.getD ci []).length).all (fun j => (match am_ft ci j with
      | 2 => decide ((k + 1, j) ∈ ao_SS 147)
      | _ => true))
    | _ => true) = true := by decide +kernel
theorem ao_cell_eq {b base : Nat} {cA : Nat → ClassId} {Ln : Int} {xs : Nat → Int32} {k : Nat} (hk : k < 138) : am_cell Ln (am_ad b base) cA (ao_σp 0 Ln xs) (k + 1) = ao_cell (am_ad b base) cA (ao_SS 147) (k + 1) := by
  have hz : ∀ i, ao_σp 0 Ln xs (k + 1) i = 0 := by
    intro i
    unfold ao_σp
    rw [if_neg (by omega)]
    split
    · rw [if_neg (by omega)]
    · rfl
  have hf := List.all_eq_true.mp ao_full k (List.mem_range.mpr hk)
  unfold am_cell ao_cell
  show ((match am_kd 0 (k + 1) with
    | (0, _, ci) => Sum.inr (ci, am_fv (am_ad b base) (ao_σp 0 Ln xs) (k + 1) 0 (am_ftL.getD ci []))
    | (2, n, _) => .inl (cA 2, n.toNat, .inr (.inl (fun j => Int64.ofInt (ao_σp 0 Ln xs (k + 1) j))))
    | (t, n, _) => .inl (cA t, n.toNat, .inl (fun j => Int32.ofInt (ao_σp 0 Ln xs (k + 1) j)))) : va_E) = _
  generalize am_kd 0 (k + 1) = q at hf ⊢
  obtain ⟨t, n, ci⟩ := q
  match t, hf with
  | 0, hf =>
    show Sum.inr (ci, _) = Sum.inr (ci, _)
    congr 2
    apply List.ext_getElem?
    intro j
    rw [am_fv_get, ao_f_get]
    cases hj : (am_ftL.getD ci [])[j]? with
    | none => rfl
    | some t =>
      simp only [Option.map_some, Nat.zero_add]
      have hjl := (List.getElem?_eq_some_iff.mp hj).1
      have h2 := List.all_eq_true.mp hf j (List.mem_range.mpr hjl)
      have h3 : am_ft ci j = t := by unfold am_ft; rw [List.getD_eq_getElem?_getD, hj]; rfl
      rw [h3] at h2
      unfold am_fe ao_e
      split
      · have h4 : (k + 1, j) ∈ ao_SS 147 := by simpa using h2
        rw [if_pos h4]
        rfl
      · rename_i hne
        rw [hz]
        split
        · exact (hne rfl).elim
        · rfl
  | 1, _ => simp only [hz]; rfl
  | 2, _ => simp only [hz]; rfl
  | t + 3, _ => simp only [hz]; rfl
theorem ao_ws_eq {b base : Nat} {cA : Nat → ClassId} {Ln : Int} {xs : Nat → Int32} : am_ws Ln b base cA (ao_σp 0 Ln xs) = ao_ws b base cA (ao_SS 147) 138 := by
  apply List.ext_getElem?
  intro k
  rcases Nat.lt_or_ge k 138 with hk | hk
  · rw [am_ws_get hk, ao_ws_get hk, ao_cell_eq hk]
  · rw [List.getElem?_eq_none (by unfold am_ws am_NC; simpa using hk), List.getElem?_eq_none (by unfold ao_ws; simpa using hk)]
theorem am_kd_S {Ln Ln' : Int} {k : Nat} : am_kd Ln (k + 1) = am_kd Ln' (k + 1) := rfl
theorem am_cell_S {ad : Nat → Nat} {cA : Nat → ClassId} {Ln Ln' : Int} {σ σ' : AS} {k : Nat} (h : σ (k + 1) = σ' (k + 1)) : am_cell Ln ad cA σ (k + 1) = am_cell Ln' ad cA σ' (k + 1) := by
  rw [am_cell_congr h]
  unfold am_cell
  rw [am_kd_S (Ln := Ln) (Ln' := Ln')]
theorem ao_ws_all {b base : Nat} {cA : Nat → ClassId} {Ln Ln' : Int} {xs xs' : Nat → Int32} {p : Int} : am_ws Ln b base cA (ao_σp p Ln xs) = am_ws Ln' b base cA (ao_σp p Ln' xs') := by
  have hz : ∀ k, ao_σp p Ln xs (k + 1) = ao_σp p Ln' xs' (k + 1) := by
    intro k
    funext i
    unfold ao_σp
    simp only [if_neg (show ¬ k + 1 = 0 by omega)]
  unfold am_ws
  generalize am_NC = n
  apply List.map_congr_left
  intro k _
  rw [am_cell_S (hz k)]
end
