section
-- ===== PART A: goes FIRST, ahead of the names: the tables' words, and 'selects' of the private methods out of them =====
/-- a private method of a class that the tables say can be made, by its rows of tables_1 -/
def lw_okq (q : MethodName × Nat) : Prop := (q.1.cls ≠ "java/lang/invoke/MethodHandle" ∧ q.1.cls ≠ "java/lang/invoke/VarHandle") ∧ Cond.instantiable q.1.cls q.2 ∈ tables_1 ∧ Cond.privateMethod q.1 ∈ tables_1 ∧ Cond.instanceMethod q.1 ∈ tables_1
theorem lw_p0 : lw_okq (⟨"BoundWright$Forms", "codeOf", "(IIII)I"⟩, 10) := ⟨⟨by decide +kernel, by decide +kernel⟩, List.mem_of_getElem? (i := 29) (by decide +kernel), List.mem_of_getElem? (i := 49) (by decide +kernel), List.mem_of_getElem? (i := 50) (by decide +kernel)⟩
theorem lw_p1 : lw_okq (⟨"BoundWright$Forms", "ownersOf", "(IIII)I"⟩, 10) := ⟨⟨by decide +kernel, by decide +kernel⟩, List.mem_of_getElem? (i := 29) (by decide +kernel), List.mem_of_getElem? (i := 54) (by decide +kernel), List.mem_of_getElem? (i := 55) (by decide +kernel)⟩
theorem lw_p2 : lw_okq (⟨"BoundWright$Kinds", "settle", "(I)V"⟩, 10) := ⟨⟨by decide +kernel, by decide +kernel⟩, List.mem_of_getElem? (i := 115) (by decide +kernel), List.mem_of_getElem? (i := 129) (by decide +kernel), List.mem_of_getElem? (i := 130) (by decide +kernel)⟩
theorem lw_p3 : lw_okq (⟨"BoundWright$Kinds", "view", "(III)I"⟩, 10) := ⟨⟨by decide +kernel, by decide +kernel⟩, List.mem_of_getElem? (i := 115) (by decide +kernel), List.mem_of_getElem? (i := 141) (by decide +kernel), List.mem_of_getElem? (i := 142) (by decide +kernel)⟩
theorem lw_p4 : lw_okq (⟨"BoundWright$Kinds", "marked", "(I)I"⟩, 10) := ⟨⟨by decide +kernel, by decide +kernel⟩, List.mem_of_getElem? (i := 115) (by decide +kernel), List.mem_of_getElem? (i := 153) (by decide +kernel), List.mem_of_getElem? (i := 154) (by decide +kernel)⟩
theorem lw_p5 : lw_okq (⟨"BoundWright", "membersOfKind", "(I)I"⟩, 7) := ⟨⟨by decide +kernel, by decide +kernel⟩, List.mem_of_getElem? (i := 21) (by decide +kernel), List.mem_of_getElem? (i := 420) (by decide +kernel), List.mem_of_getElem? (i := 421) (by decide +kernel)⟩
theorem lw_p6 : lw_okq (⟨"java/lang/Throwable", "fillInStackTrace", "(I)Ljava/lang/Throwable;"⟩, 6) := ⟨⟨by decide +kernel, by decide +kernel⟩, List.mem_of_getElem? (i := 489) (by decide +kernel), List.mem_of_getElem? (i := 487) (by decide +kernel), List.mem_of_getElem? (i := 488) (by decide +kernel)⟩
theorem lw_p7 : lw_okq (⟨"BoundWright$Order", "isUnder", "(III)Z"⟩, 2) := ⟨⟨by decide +kernel, by decide +kernel⟩, List.mem_of_getElem? (i := 205) (by decide +kernel), List.mem_of_getElem? (i := 527) (by decide +kernel), List.mem_of_getElem? (i := 528) (by decide +kernel)⟩
theorem lw_p8 : lw_okq (⟨"BoundWright$Order", "areArraysOfReferences", "(II)Z"⟩, 2) := ⟨⟨by decide +kernel, by decide +kernel⟩, List.mem_of_getElem? (i := 205) (by decide +kernel), List.mem_of_getElem? (i := 535) (by decide +kernel), List.mem_of_getElem? (i := 536) (by decide +kernel)⟩
theorem lw_p9 : lw_okq (⟨"BoundWright$Order", "isClassUnder", "(III)Z"⟩, 2) := ⟨⟨by decide +kernel, by decide +kernel⟩, List.mem_of_getElem? (i := 205) (by decide +kernel), List.mem_of_getElem? (i := 539) (by decide +kernel), List.mem_of_getElem? (i := 540) (by decide +kernel)⟩
theorem lw_p10 : lw_okq (⟨"BoundWright$Order", "isWithin", "(IIII)Z"⟩, 2) := ⟨⟨by decide +kernel, by decide +kernel⟩, List.mem_of_getElem? (i := 205) (by decide +kernel), List.mem_of_getElem? (i := 545) (by decide +kernel), List.mem_of_getElem? (i := 546) (by decide +kernel)⟩
theorem lw_p11 : lw_okq (⟨"BoundWright", "needKind", "(I)V"⟩, 7) := ⟨⟨by decide +kernel, by decide +kernel⟩, List.mem_of_getElem? (i := 21) (by decide +kernel), List.mem_of_getElem? (i := 556) (by decide +kernel), List.mem_of_getElem? (i := 557) (by decide +kernel)⟩
theorem lw_p12 : lw_okq (⟨"BoundWright", "needType", "(I)V"⟩, 7) := ⟨⟨by decide +kernel, by decide +kernel⟩, List.mem_of_getElem? (i := 21) (by decide +kernel), List.mem_of_getElem? (i := 594) (by decide +kernel), List.mem_of_getElem? (i := 595) (by decide +kernel)⟩
theorem lw_p13 : lw_okq (⟨"BoundWright$Order", "isNamed", "(II)Z"⟩, 2) := ⟨⟨by decide +kernel, by decide +kernel⟩, List.mem_of_getElem? (i := 205) (by decide +kernel), List.mem_of_getElem? (i := 603) (by decide +kernel), List.mem_of_getElem? (i := 604) (by decide +kernel)⟩
theorem lw_p14 : lw_okq (⟨"BoundWright$Order", "coveredBelow", "(II)I"⟩, 2) := ⟨⟨by decide +kernel, by decide +kernel⟩, List.mem_of_getElem? (i := 205) (by decide +kernel), List.mem_of_getElem? (i := 608) (by decide +kernel), List.mem_of_getElem? (i := 609) (by decide +kernel)⟩
theorem lw_p15 : lw_okq (⟨"BoundWright$Order", "isImpossible", "(II)Z"⟩, 2) := ⟨⟨by decide +kernel, by decide +kernel⟩, List.mem_of_getElem? (i := 205) (by decide +kernel), List.mem_of_getElem? (i := 612) (by decide +kernel), List.mem_of_getElem? (i := 613) (by decide +kernel)⟩
def lw_privs_1 : List (MethodName × Nat) := [(⟨"BoundWright$Forms", "codeOf", "(IIII)I"⟩, 10), (⟨"BoundWright$Forms", "ownersOf", "(IIII)I"⟩, 10), (⟨"BoundWright$Kinds", "settle", "(I)V"⟩, 10), (⟨"BoundWright$Kinds", "view", "(III)I"⟩, 10), (⟨"BoundWright$Kinds", "marked", "(I)I"⟩, 10), (⟨"BoundWright", "membersOfKind", "(I)I"⟩, 7), (⟨"java/lang/Throwable", "fillInStackTrace", "(I)Ljava/lang/Throwable;"⟩, 6), (⟨"BoundWright$Order", "isUnder", "(III)Z"⟩, 2), (⟨"BoundWright$Order", "areArraysOfReferences", "(II)Z"⟩, 2), (⟨"BoundWright$Order", "isClassUnder", "(III)Z"⟩, 2), (⟨"BoundWright$Order", "isWithin", "(IIII)Z"⟩, 2), (⟨"BoundWright", "needKind", "(I)V"⟩, 7), (⟨"BoundWright", "needType", "(I)V"⟩, 7), (⟨"BoundWright$Order", "isNamed", "(II)Z"⟩, 2), (⟨"BoundWright$Order", "coveredBelow", "(II)I"⟩, 2), (⟨"BoundWright$Order", "isImpossible", "(II)Z"⟩, 2)]
theorem lw_r1 : ∀ q ∈ lw_privs_1, lw_okq q := List.forall_mem_cons.mpr ⟨lw_p0, List.forall_mem_cons.mpr ⟨lw_p1, List.forall_mem_cons.mpr ⟨lw_p2, List.forall_mem_cons.mpr ⟨lw_p3, List.forall_mem_cons.mpr ⟨lw_p4, List.forall_mem_cons.mpr ⟨lw_p5, List.forall_mem_cons.mpr ⟨lw_p6, List.forall_mem_cons.mpr ⟨lw_p7, List.forall_mem_cons.mpr ⟨lw_p8, List.forall_mem_cons.mpr ⟨lw_p9, List.forall_mem_cons.mpr ⟨lw_p10, List.forall_mem_cons.mpr ⟨lw_p11, List.forall_mem_cons.mpr ⟨lw_p12, List.forall_mem_cons.mpr ⟨lw_p13, List.forall_mem_cons.mpr ⟨lw_p14, List.forall_mem_cons.mpr ⟨lw_p15, fun _ h => absurd h List.not_mem_nil⟩⟩⟩⟩⟩⟩⟩⟩⟩⟩⟩⟩⟩⟩⟩⟩
theorem lw_p16 : lw_okq (⟨"BoundWright$Order", "isAgainst", "(III)Z"⟩, 2) := ⟨⟨by decide +kernel, by decide +kernel⟩, List.mem_of_getElem? (i := 205) (by decide +kernel), List.mem_of_getElem? (i := 618) (by decide +kernel), List.mem_of_getElem? (i := 619) (by decide +kernel)⟩
theorem lw_p17 : lw_okq (⟨"BoundWright$Order", "erasedInmost", "(II)I"⟩, 2) := ⟨⟨by decide +kernel, by decide +kernel⟩, List.mem_of_getElem? (i := 205) (by decide +kernel), List.mem_of_getElem? (i := 630) (by decide +kernel), List.mem_of_getElem? (i := 631) (by decide +kernel)⟩
theorem lw_p18 : lw_okq (⟨"BoundWright", "isKeeping", "(I)Z"⟩, 7) := ⟨⟨by decide +kernel, by decide +kernel⟩, List.mem_of_getElem? (i := 21) (by decide +kernel), List.mem_of_getElem? (i := 634) (by decide +kernel), List.mem_of_getElem? (i := 635) (by decide +kernel)⟩
theorem lw_p19 : lw_okq (⟨"BoundWright$Order", "isKeeping", "(II)Z"⟩, 2) := ⟨⟨by decide +kernel, by decide +kernel⟩, List.mem_of_getElem? (i := 205) (by decide +kernel), List.mem_of_getElem? (i := 638) (by decide +kernel), List.mem_of_getElem? (i := 639) (by decide +kernel)⟩
theorem lw_p20 : lw_okq (⟨"BoundWright$Order", "isArgumentKeeping", "(III)Z"⟩, 2) := ⟨⟨by decide +kernel, by decide +kernel⟩, List.mem_of_getElem? (i := 205) (by decide +kernel), List.mem_of_getElem? (i := 643) (by decide +kernel), List.mem_of_getElem? (i := 644) (by decide +kernel)⟩
theorem lw_p21 : lw_okq (⟨"BoundWright$Forms", "put", "(IIIII)I"⟩, 10) := ⟨⟨by decide +kernel, by decide +kernel⟩, List.mem_of_getElem? (i := 29) (by decide +kernel), List.mem_of_getElem? (i := 647) (by decide +kernel), List.mem_of_getElem? (i := 648) (by decide +kernel)⟩
theorem lw_p22 : lw_okq (⟨"BoundWright$Forms", "putIntoArgument", "(IIIII)I"⟩, 10) := ⟨⟨by decide +kernel, by decide +kernel⟩, List.mem_of_getElem? (i := 29) (by decide +kernel), List.mem_of_getElem? (i := 651) (by decide +kernel), List.mem_of_getElem? (i := 652) (by decide +kernel)⟩
theorem lw_p23 : lw_okq (⟨"BoundWright$Order", "joined", "(IIZI)I"⟩, 2) := ⟨⟨by decide +kernel, by decide +kernel⟩, List.mem_of_getElem? (i := 205) (by decide +kernel), List.mem_of_getElem? (i := 669) (by decide +kernel), List.mem_of_getElem? (i := 670) (by decide +kernel)⟩
theorem lw_p24 : lw_okq (⟨"BoundWright$Order", "lowestShared", "(II)I"⟩, 2) := ⟨⟨by decide +kernel, by decide +kernel⟩, List.mem_of_getElem? (i := 205) (by decide +kernel), List.mem_of_getElem? (i := 675) (by decide +kernel), List.mem_of_getElem? (i := 676) (by decide +kernel)⟩
theorem lw_p25 : lw_okq (⟨"BoundWright$Order", "joinedArgument", "(IIIIZI)I"⟩, 2) := ⟨⟨by decide +kernel, by decide +kernel⟩, List.mem_of_getElem? (i := 205) (by decide +kernel), List.mem_of_getElem? (i := 679) (by decide +kernel), List.mem_of_getElem? (i := 680) (by decide +kernel)⟩
theorem lw_p26 : lw_okq (⟨"BoundWright", "needMethod", "(I)V"⟩, 7) := ⟨⟨by decide +kernel, by decide +kernel⟩, List.mem_of_getElem? (i := 21) (by decide +kernel), List.mem_of_getElem? (i := 690) (by decide +kernel), List.mem_of_getElem? (i := 691) (by decide +kernel)⟩
theorem lw_p27 : lw_okq (⟨"BoundWright$Faults", "isOnlyBecauseOf", "(IILBoundWright$Review;)Z"⟩, 6) := ⟨⟨by decide +kernel, by decide +kernel⟩, List.mem_of_getElem? (i := 266) (by decide +kernel), List.mem_of_getElem? (i := 703) (by decide +kernel), List.mem_of_getElem? (i := 704) (by decide +kernel)⟩
theorem lw_p28 : lw_okq (⟨"BoundWright$Review", "isReachedTwofold", "(I)Z"⟩, 16) := ⟨⟨by decide +kernel, by decide +kernel⟩, List.mem_of_getElem? (i := 295) (by decide +kernel), List.mem_of_getElem? (i := 741) (by decide +kernel), List.mem_of_getElem? (i := 742) (by decide +kernel)⟩
theorem lw_p29 : lw_okq (⟨"BoundWright$Review", "countLooseExtended", "(I)I"⟩, 16) := ⟨⟨by decide +kernel, by decide +kernel⟩, List.mem_of_getElem? (i := 295) (by decide +kernel), List.mem_of_getElem? (i := 754) (by decide +kernel), List.mem_of_getElem? (i := 755) (by decide +kernel)⟩
theorem lw_p30 : lw_okq (⟨"BoundWright$Review", "erase", "(I)V"⟩, 16) := ⟨⟨by decide +kernel, by decide +kernel⟩, List.mem_of_getElem? (i := 295) (by decide +kernel), List.mem_of_getElem? (i := 760) (by decide +kernel), List.mem_of_getElem? (i := 761) (by decide +kernel)⟩
theorem lw_p31 : lw_okq (⟨"BoundWright$Review", "isOneMisplaced", "(I)Z"⟩, 16) := ⟨⟨by decide +kernel, by decide +kernel⟩, List.mem_of_getElem? (i := 295) (by decide +kernel), List.mem_of_getElem? (i := 769) (by decide +kernel), List.mem_of_getElem? (i := 770) (by decide +kernel)⟩
def lw_privs_2 : List (MethodName × Nat) := [(⟨"BoundWright$Order", "isAgainst", "(III)Z"⟩, 2), (⟨"BoundWright$Order", "erasedInmost", "(II)I"⟩, 2), (⟨"BoundWright", "isKeeping", "(I)Z"⟩, 7), (⟨"BoundWright$Order", "isKeeping", "(II)Z"⟩, 2), (⟨"BoundWright$Order", "isArgumentKeeping", "(III)Z"⟩, 2), (⟨"BoundWright$Forms", "put", "(IIIII)I"⟩, 10), (⟨"BoundWright$Forms", "putIntoArgument", "(IIIII)I"⟩, 10), (⟨"BoundWright$Order", "joined", "(IIZI)I"⟩, 2), (⟨"BoundWright$Order", "lowestShared", "(II)I"⟩, 2), (⟨"BoundWright$Order", "joinedArgument", "(IIIIZI)I"⟩, 2), (⟨"BoundWright", "needMethod", "(I)V"⟩, 7), (⟨"BoundWright$Faults", "isOnlyBecauseOf", "(IILBoundWright$Review;)Z"⟩, 6), (⟨"BoundWright$Review", "isReachedTwofold", "(I)Z"⟩, 16), (⟨"BoundWright$Review", "countLooseExtended", "(I)I"⟩, 16), (⟨"BoundWright$Review", "erase", "(I)V"⟩, 16), (⟨"BoundWright$Review", "isOneMisplaced", "(I)Z"⟩, 16)]
theorem lw_r2 : ∀ q ∈ lw_privs_2, lw_okq q := List.forall_mem_cons.mpr ⟨lw_p16, List.forall_mem_cons.mpr ⟨lw_p17, List.forall_mem_cons.mpr ⟨lw_p18, List.forall_mem_cons.mpr ⟨lw_p19, List.forall_mem_cons.mpr ⟨lw_p20, List.forall_mem_cons.mpr ⟨lw_p21, List.forall_mem_cons.mpr ⟨lw_p22, List.forall_mem_cons.mpr ⟨lw_p23, List.forall_mem_cons.mpr ⟨lw_p24, List.forall_mem_cons.mpr ⟨lw_p25, List.forall_mem_cons.mpr ⟨lw_p26, List.forall_mem_cons.mpr ⟨lw_p27, List.forall_mem_cons.mpr ⟨lw_p28, List.forall_mem_cons.mpr ⟨lw_p29, List.forall_mem_cons.mpr ⟨lw_p30, List.forall_mem_cons.mpr ⟨lw_p31, fun _ h => absurd h List.not_mem_nil⟩⟩⟩⟩⟩⟩⟩⟩⟩⟩⟩⟩⟩⟩⟩⟩
theorem lw_p32 : lw_okq (⟨"BoundWright$Review", "isParameterWith", "(II)Z"⟩, 16) := ⟨⟨by decide +kernel, by decide +kernel⟩, List.mem_of_getElem? (i := 295) (by decide +kernel), List.mem_of_getElem? (i := 773) (by decide +kernel), List.mem_of_getElem? (i := 774) (by decide +kernel)⟩
theorem lw_p33 : lw_okq (⟨"BoundWright$Review", "isOneLoose", "(I)Z"⟩, 16) := ⟨⟨by decide +kernel, by decide +kernel⟩, List.mem_of_getElem? (i := 295) (by decide +kernel), List.mem_of_getElem? (i := 777) (by decide +kernel), List.mem_of_getElem? (i := 778) (by decide +kernel)⟩
theorem lw_p34 : lw_okq (⟨"BoundWright$Review", "lookAtOthers", "(I)V"⟩, 16) := ⟨⟨by decide +kernel, by decide +kernel⟩, List.mem_of_getElem? (i := 295) (by decide +kernel), List.mem_of_getElem? (i := 781) (by decide +kernel), List.mem_of_getElem? (i := 782) (by decide +kernel)⟩
theorem lw_p35 : lw_okq (⟨"BoundWright$Review", "isOverriding", "(III)Z"⟩, 16) := ⟨⟨by decide +kernel, by decide +kernel⟩, List.mem_of_getElem? (i := 295) (by decide +kernel), List.mem_of_getElem? (i := 789) (by decide +kernel), List.mem_of_getElem? (i := 790) (by decide +kernel)⟩
theorem lw_p36 : lw_okq (⟨"BoundWright$Review", "isAbove", "(II)Z"⟩, 16) := ⟨⟨by decide +kernel, by decide +kernel⟩, List.mem_of_getElem? (i := 295) (by decide +kernel), List.mem_of_getElem? (i := 793) (by decide +kernel), List.mem_of_getElem? (i := 794) (by decide +kernel)⟩
theorem lw_p37 : lw_okq (⟨"BoundWright$Review", "isWorse", "(III)Z"⟩, 16) := ⟨⟨by decide +kernel, by decide +kernel⟩, List.mem_of_getElem? (i := 295) (by decide +kernel), List.mem_of_getElem? (i := 798) (by decide +kernel), List.mem_of_getElem? (i := 799) (by decide +kernel)⟩
theorem lw_p38 : lw_okq (⟨"BoundWright$Review", "isBeforeInClass", "(II)Z"⟩, 16) := ⟨⟨by decide +kernel, by decide +kernel⟩, List.mem_of_getElem? (i := 295) (by decide +kernel), List.mem_of_getElem? (i := 803) (by decide +kernel), List.mem_of_getElem? (i := 804) (by decide +kernel)⟩
theorem lw_p39 : lw_okq (⟨"BoundWright$Review", "areFormalsErasedAlike", "(II)Z"⟩, 16) := ⟨⟨by decide +kernel, by decide +kernel⟩, List.mem_of_getElem? (i := 295) (by decide +kernel), List.mem_of_getElem? (i := 807) (by decide +kernel), List.mem_of_getElem? (i := 808) (by decide +kernel)⟩
theorem lw_p40 : lw_okq (⟨"BoundWright$Review", "countBridges", "(I)I"⟩, 16) := ⟨⟨by decide +kernel, by decide +kernel⟩, List.mem_of_getElem? (i := 295) (by decide +kernel), List.mem_of_getElem? (i := 811) (by decide +kernel), List.mem_of_getElem? (i := 812) (by decide +kernel)⟩
theorem lw_p41 : lw_okq (⟨"BoundWright$Review", "isOverridden", "(II)Z"⟩, 16) := ⟨⟨by decide +kernel, by decide +kernel⟩, List.mem_of_getElem? (i := 295) (by decide +kernel), List.mem_of_getElem? (i := 815) (by decide +kernel), List.mem_of_getElem? (i := 816) (by decide +kernel)⟩
theorem lw_p42 : lw_okq (⟨"BoundWright$Review", "areErasedAlike", "(II)Z"⟩, 16) := ⟨⟨by decide +kernel, by decide +kernel⟩, List.mem_of_getElem? (i := 295) (by decide +kernel), List.mem_of_getElem? (i := 819) (by decide +kernel), List.mem_of_getElem? (i := 820) (by decide +kernel)⟩
theorem lw_p43 : lw_okq (⟨"BoundWright$Review", "isCountedBefore", "(II)Z"⟩, 16) := ⟨⟨by decide +kernel, by decide +kernel⟩, List.mem_of_getElem? (i := 295) (by decide +kernel), List.mem_of_getElem? (i := 823) (by decide +kernel), List.mem_of_getElem? (i := 824) (by decide +kernel)⟩
theorem lw_p44 : lw_okq (⟨"BoundWright$Faults", "addIf", "(ZIII)V"⟩, 6) := ⟨⟨by decide +kernel, by decide +kernel⟩, List.mem_of_getElem? (i := 266) (by decide +kernel), List.mem_of_getElem? (i := 831) (by decide +kernel), List.mem_of_getElem? (i := 832) (by decide +kernel)⟩
theorem lw_p45 : lw_okq (⟨"BoundWright$Faults", "listMethods", "(ILBoundWright$Review;)V"⟩, 6) := ⟨⟨by decide +kernel, by decide +kernel⟩, List.mem_of_getElem? (i := 266) (by decide +kernel), List.mem_of_getElem? (i := 835) (by decide +kernel), List.mem_of_getElem? (i := 836) (by decide +kernel)⟩
theorem lw_p46 : lw_okq (⟨"BoundWright", "needParameter", "(II)V"⟩, 7) := ⟨⟨by decide +kernel, by decide +kernel⟩, List.mem_of_getElem? (i := 21) (by decide +kernel), List.mem_of_getElem? (i := 847) (by decide +kernel), List.mem_of_getElem? (i := 848) (by decide +kernel)⟩
theorem lw_p47 : lw_okq (⟨"BoundWright", "isSimpleOf", "(II)Z"⟩, 7) := ⟨⟨by decide +kernel, by decide +kernel⟩, List.mem_of_getElem? (i := 21) (by decide +kernel), List.mem_of_getElem? (i := 852) (by decide +kernel), List.mem_of_getElem? (i := 853) (by decide +kernel)⟩
def lw_privs_3 : List (MethodName × Nat) := [(⟨"BoundWright$Review", "isParameterWith", "(II)Z"⟩, 16), (⟨"BoundWright$Review", "isOneLoose", "(I)Z"⟩, 16), (⟨"BoundWright$Review", "lookAtOthers", "(I)V"⟩, 16), (⟨"BoundWright$Review", "isOverriding", "(III)Z"⟩, 16), (⟨"BoundWright$Review", "isAbove", "(II)Z"⟩, 16), (⟨"BoundWright$Review", "isWorse", "(III)Z"⟩, 16), (⟨"BoundWright$Review", "isBeforeInClass", "(II)Z"⟩, 16), (⟨"BoundWright$Review", "areFormalsErasedAlike", "(II)Z"⟩, 16), (⟨"BoundWright$Review", "countBridges", "(I)I"⟩, 16), (⟨"BoundWright$Review", "isOverridden", "(II)Z"⟩, 16), (⟨"BoundWright$Review", "areErasedAlike", "(II)Z"⟩, 16), (⟨"BoundWright$Review", "isCountedBefore", "(II)Z"⟩, 16), (⟨"BoundWright$Faults", "addIf", "(ZIII)V"⟩, 6), (⟨"BoundWright$Faults", "listMethods", "(ILBoundWright$Review;)V"⟩, 6), (⟨"BoundWright", "needParameter", "(II)V"⟩, 7), (⟨"BoundWright", "isSimpleOf", "(II)Z"⟩, 7)]
theorem lw_r3 : ∀ q ∈ lw_privs_3, lw_okq q := List.forall_mem_cons.mpr ⟨lw_p32, List.forall_mem_cons.mpr ⟨lw_p33, List.forall_mem_cons.mpr ⟨lw_p34, List.forall_mem_cons.mpr ⟨lw_p35, List.forall_mem_cons.mpr ⟨lw_p36, List.forall_mem_cons.mpr ⟨lw_p37, List.forall_mem_cons.mpr ⟨lw_p38, List.forall_mem_cons.mpr ⟨lw_p39, List.forall_mem_cons.mpr ⟨lw_p40, List.forall_mem_cons.mpr ⟨lw_p41, List.forall_mem_cons.mpr ⟨lw_p42, List.forall_mem_cons.mpr ⟨lw_p43, List.forall_mem_cons.mpr ⟨lw_p44, List.forall_mem_cons.mpr ⟨lw_p45, List.forall_mem_cons.mpr ⟨lw_p46, List.forall_mem_cons.mpr ⟨lw_p47, fun _ h => absurd h List.not_mem_nil⟩⟩⟩⟩⟩⟩⟩⟩⟩⟩⟩⟩⟩⟩⟩⟩
theorem lw_p48 : lw_okq (⟨"BoundWright", "isOwnedBy", "(II)Z"⟩, 7) := ⟨⟨by decide +kernel, by decide +kernel⟩, List.mem_of_getElem? (i := 21) (by decide +kernel), List.mem_of_getElem? (i := 856) (by decide +kernel), List.mem_of_getElem? (i := 857) (by decide +kernel)⟩
theorem lw_p49 : lw_okq (⟨"BoundWright", "isSimpleArgument", "(I)Z"⟩, 7) := ⟨⟨by decide +kernel, by decide +kernel⟩, List.mem_of_getElem? (i := 21) (by decide +kernel), List.mem_of_getElem? (i := 860) (by decide +kernel), List.mem_of_getElem? (i := 861) (by decide +kernel)⟩
theorem lw_p50 : lw_okq (⟨"BoundWright", "isExtendable", "(II)Z"⟩, 7) := ⟨⟨by decide +kernel, by decide +kernel⟩, List.mem_of_getElem? (i := 21) (by decide +kernel), List.mem_of_getElem? (i := 872) (by decide +kernel), List.mem_of_getElem? (i := 873) (by decide +kernel)⟩
theorem lw_p51 : lw_okq (⟨"BoundWright", "isArgument", "(III)Z"⟩, 7) := ⟨⟨by decide +kernel, by decide +kernel⟩, List.mem_of_getElem? (i := 21) (by decide +kernel), List.mem_of_getElem? (i := 897) (by decide +kernel), List.mem_of_getElem? (i := 898) (by decide +kernel)⟩
theorem lw_p52 : lw_okq (⟨"BoundWright", "tell", "(IIII)I"⟩, 7) := ⟨⟨by decide +kernel, by decide +kernel⟩, List.mem_of_getElem? (i := 21) (by decide +kernel), List.mem_of_getElem? (i := 903) (by decide +kernel), List.mem_of_getElem? (i := 904) (by decide +kernel)⟩
theorem lw_p53 : lw_okq (⟨"BoundWright", "needTypeOrNone", "(I)V"⟩, 7) := ⟨⟨by decide +kernel, by decide +kernel⟩, List.mem_of_getElem? (i := 21) (by decide +kernel), List.mem_of_getElem? (i := 963) (by decide +kernel), List.mem_of_getElem? (i := 964) (by decide +kernel)⟩
theorem lw_p54 : lw_okq (⟨"BoundWright", "isUsable", "(II)Z"⟩, 7) := ⟨⟨by decide +kernel, by decide +kernel⟩, List.mem_of_getElem? (i := 21) (by decide +kernel), List.mem_of_getElem? (i := 973) (by decide +kernel), List.mem_of_getElem? (i := 974) (by decide +kernel)⟩
theorem lw_p55 : lw_okq (⟨"BoundWright", "membersNamed", "(II)I"⟩, 7) := ⟨⟨by decide +kernel, by decide +kernel⟩, List.mem_of_getElem? (i := 21) (by decide +kernel), List.mem_of_getElem? (i := 1011) (by decide +kernel), List.mem_of_getElem? (i := 1012) (by decide +kernel)⟩
theorem lw_p56 : lw_okq (⟨"BoundWright$Caller", "suitingOf", "(I)I"⟩, 9) := ⟨⟨by decide +kernel, by decide +kernel⟩, List.mem_of_getElem? (i := 360) (by decide +kernel), List.mem_of_getElem? (i := 1023) (by decide +kernel), List.mem_of_getElem? (i := 1024) (by decide +kernel)⟩
theorem lw_p57 : lw_okq (⟨"BoundWright$Caller", "isCountRight", "(I)Z"⟩, 9) := ⟨⟨by decide +kernel, by decide +kernel⟩, List.mem_of_getElem? (i := 360) (by decide +kernel), List.mem_of_getElem? (i := 1027) (by decide +kernel), List.mem_of_getElem? (i := 1028) (by decide +kernel)⟩
theorem lw_p58 : lw_okq (⟨"BoundWright$Caller", "layOutFormals", "(I)V"⟩, 9) := ⟨⟨by decide +kernel, by decide +kernel⟩, List.mem_of_getElem? (i := 360) (by decide +kernel), List.mem_of_getElem? (i := 1035) (by decide +kernel), List.mem_of_getElem? (i := 1036) (by decide +kernel)⟩
theorem lw_p59 : lw_okq (⟨"BoundWright$Caller", "seen", "(II)I"⟩, 9) := ⟨⟨by decide +kernel, by decide +kernel⟩, List.mem_of_getElem? (i := 360) (by decide +kernel), List.mem_of_getElem? (i := 1040) (by decide +kernel), List.mem_of_getElem? (i := 1041) (by decide +kernel)⟩
theorem lw_p60 : lw_okq (⟨"BoundWright$Caller", "isSuiting", "(I)Z"⟩, 9) := ⟨⟨by decide +kernel, by decide +kernel⟩, List.mem_of_getElem? (i := 360) (by decide +kernel), List.mem_of_getElem? (i := 1046) (by decide +kernel), List.mem_of_getElem? (i := 1047) (by decide +kernel)⟩
theorem lw_p61 : lw_okq (⟨"BoundWright$Caller", "standIn", "(I)I"⟩, 9) := ⟨⟨by decide +kernel, by decide +kernel⟩, List.mem_of_getElem? (i := 360) (by decide +kernel), List.mem_of_getElem? (i := 1050) (by decide +kernel), List.mem_of_getElem? (i := 1051) (by decide +kernel)⟩
theorem lw_p62 : lw_okq (⟨"BoundWright$Caller", "isFitting", "(II)Z"⟩, 9) := ⟨⟨by decide +kernel, by decide +kernel⟩, List.mem_of_getElem? (i := 360) (by decide +kernel), List.mem_of_getElem? (i := 1056) (by decide +kernel), List.mem_of_getElem? (i := 1057) (by decide +kernel)⟩
theorem lw_p63 : lw_okq (⟨"BoundWright$Caller", "mostSpecialOf", "(I)I"⟩, 9) := ⟨⟨by decide +kernel, by decide +kernel⟩, List.mem_of_getElem? (i := 360) (by decide +kernel), List.mem_of_getElem? (i := 1061) (by decide +kernel), List.mem_of_getElem? (i := 1062) (by decide +kernel)⟩
def lw_privs_4 : List (MethodName × Nat) := [(⟨"BoundWright", "isOwnedBy", "(II)Z"⟩, 7), (⟨"BoundWright", "isSimpleArgument", "(I)Z"⟩, 7), (⟨"BoundWright", "isExtendable", "(II)Z"⟩, 7), (⟨"BoundWright", "isArgument", "(III)Z"⟩, 7), (⟨"BoundWright", "tell", "(IIII)I"⟩, 7), (⟨"BoundWright", "needTypeOrNone", "(I)V"⟩, 7), (⟨"BoundWright", "isUsable", "(II)Z"⟩, 7), (⟨"BoundWright", "membersNamed", "(II)I"⟩, 7), (⟨"BoundWright$Caller", "suitingOf", "(I)I"⟩, 9), (⟨"BoundWright$Caller", "isCountRight", "(I)Z"⟩, 9), (⟨"BoundWright$Caller", "layOutFormals", "(I)V"⟩, 9), (⟨"BoundWright$Caller", "seen", "(II)I"⟩, 9), (⟨"BoundWright$Caller", "isSuiting", "(I)Z"⟩, 9), (⟨"BoundWright$Caller", "standIn", "(I)I"⟩, 9), (⟨"BoundWright$Caller", "isFitting", "(II)Z"⟩, 9), (⟨"BoundWright$Caller", "mostSpecialOf", "(I)I"⟩, 9)]
theorem lw_r4 : ∀ q ∈ lw_privs_4, lw_okq q := List.forall_mem_cons.mpr ⟨lw_p48, List.forall_mem_cons.mpr ⟨lw_p49, List.forall_mem_cons.mpr ⟨lw_p50, List.forall_mem_cons.mpr ⟨lw_p51, List.forall_mem_cons.mpr ⟨lw_p52, List.forall_mem_cons.mpr ⟨lw_p53, List.forall_mem_cons.mpr ⟨lw_p54, List.forall_mem_cons.mpr ⟨lw_p55, List.forall_mem_cons.mpr ⟨lw_p56, List.forall_mem_cons.mpr ⟨lw_p57, List.forall_mem_cons.mpr ⟨lw_p58, List.forall_mem_cons.mpr ⟨lw_p59, List.forall_mem_cons.mpr ⟨lw_p60, List.forall_mem_cons.mpr ⟨lw_p61, List.forall_mem_cons.mpr ⟨lw_p62, List.forall_mem_cons.mpr ⟨lw_p63, fun _ h => absurd h List.not_mem_nil⟩⟩⟩⟩⟩⟩⟩⟩⟩⟩⟩⟩⟩⟩⟩⟩
theorem lw_p64 : lw_okq (⟨"BoundWright$Caller", "isMoreSpecialThanAll", "(II)Z"⟩, 9) := ⟨⟨by decide +kernel, by decide +kernel⟩, List.mem_of_getElem? (i := 360) (by decide +kernel), List.mem_of_getElem? (i := 1065) (by decide +kernel), List.mem_of_getElem? (i := 1066) (by decide +kernel)⟩
theorem lw_p65 : lw_okq (⟨"BoundWright$Caller", "isMoreSpecial", "(II)Z"⟩, 9) := ⟨⟨by decide +kernel, by decide +kernel⟩, List.mem_of_getElem? (i := 360) (by decide +kernel), List.mem_of_getElem? (i := 1069) (by decide +kernel), List.mem_of_getElem? (i := 1070) (by decide +kernel)⟩
theorem lw_p66 : lw_okq (⟨"BoundWrightModel", "write", "(IIIIII)V"⟩, 28) := ⟨⟨by decide +kernel, by decide +kernel⟩, List.mem_of_getElem? (i := 1109) (by decide +kernel), List.mem_of_getElem? (i := 1115) (by decide +kernel), List.mem_of_getElem? (i := 1116) (by decide +kernel)⟩
theorem lw_p67 : lw_okq (⟨"BoundWrightModel", "raise", "()V"⟩, 28) := ⟨⟨by decide +kernel, by decide +kernel⟩, List.mem_of_getElem? (i := 1109) (by decide +kernel), List.mem_of_getElem? (i := 1119) (by decide +kernel), List.mem_of_getElem? (i := 1120) (by decide +kernel)⟩
theorem lw_p68 : lw_okq (⟨"BoundWrightModel", "extendsMany", "(I)I"⟩, 28) := ⟨⟨by decide +kernel, by decide +kernel⟩, List.mem_of_getElem? (i := 1109) (by decide +kernel), List.mem_of_getElem? (i := 1123) (by decide +kernel), List.mem_of_getElem? (i := 1124) (by decide +kernel)⟩
theorem lw_p69 : lw_okq (⟨"BoundWrightModel", "extendedBy", "(II)I"⟩, 28) := ⟨⟨by decide +kernel, by decide +kernel⟩, List.mem_of_getElem? (i := 1109) (by decide +kernel), List.mem_of_getElem? (i := 1128) (by decide +kernel), List.mem_of_getElem? (i := 1129) (by decide +kernel)⟩
theorem lw_p70 : lw_okq (⟨"BoundWrightModel", "begin", "()V"⟩, 28) := ⟨⟨by decide +kernel, by decide +kernel⟩, List.mem_of_getElem? (i := 1109) (by decide +kernel), List.mem_of_getElem? (i := 1225) (by decide +kernel), List.mem_of_getElem? (i := 1226) (by decide +kernel)⟩
theorem lw_p71 : lw_okq (⟨"BoundWrightModel", "no", "(I)I"⟩, 28) := ⟨⟨by decide +kernel, by decide +kernel⟩, List.mem_of_getElem? (i := 1109) (by decide +kernel), List.mem_of_getElem? (i := 1232) (by decide +kernel), List.mem_of_getElem? (i := 1233) (by decide +kernel)⟩
theorem lw_p72 : lw_okq (⟨"BoundWrightModel", "isParameter", "(II)Z"⟩, 28) := ⟨⟨by decide +kernel, by decide +kernel⟩, List.mem_of_getElem? (i := 1109) (by decide +kernel), List.mem_of_getElem? (i := 1240) (by decide +kernel), List.mem_of_getElem? (i := 1241) (by decide +kernel)⟩
theorem lw_p73 : lw_okq (⟨"BoundWrightModel", "isClass", "(I)Z"⟩, 28) := ⟨⟨by decide +kernel, by decide +kernel⟩, List.mem_of_getElem? (i := 1109) (by decide +kernel), List.mem_of_getElem? (i := 1244) (by decide +kernel), List.mem_of_getElem? (i := 1245) (by decide +kernel)⟩
theorem lw_p74 : lw_okq (⟨"BoundWrightModel", "isType", "(I)Z"⟩, 28) := ⟨⟨by decide +kernel, by decide +kernel⟩, List.mem_of_getElem? (i := 1109) (by decide +kernel), List.mem_of_getElem? (i := 1248) (by decide +kernel), List.mem_of_getElem? (i := 1249) (by decide +kernel)⟩
theorem lw_p75 : lw_okq (⟨"BoundWrightModel", "isSimple", "(I)Z"⟩, 28) := ⟨⟨by decide +kernel, by decide +kernel⟩, List.mem_of_getElem? (i := 1109) (by decide +kernel), List.mem_of_getElem? (i := 1252) (by decide +kernel), List.mem_of_getElem? (i := 1253) (by decide +kernel)⟩
theorem lw_p76 : lw_okq (⟨"BoundWrightModel", "isOfClass", "(I)Z"⟩, 28) := ⟨⟨by decide +kernel, by decide +kernel⟩, List.mem_of_getElem? (i := 1109) (by decide +kernel), List.mem_of_getElem? (i := 1256) (by decide +kernel), List.mem_of_getElem? (i := 1257) (by decide +kernel)⟩
theorem lw_p77 : lw_okq (⟨"BoundWrightModel", "argument", "(II)I"⟩, 28) := ⟨⟨by decide +kernel, by decide +kernel⟩, List.mem_of_getElem? (i := 1109) (by decide +kernel), List.mem_of_getElem? (i := 1260) (by decide +kernel), List.mem_of_getElem? (i := 1261) (by decide +kernel)⟩
theorem lw_p78 : lw_okq (⟨"BoundWrightModel", "isClosed", "(I)Z"⟩, 28) := ⟨⟨by decide +kernel, by decide +kernel⟩, List.mem_of_getElem? (i := 1109) (by decide +kernel), List.mem_of_getElem? (i := 1270) (by decide +kernel), List.mem_of_getElem? (i := 1271) (by decide +kernel)⟩
theorem lw_p79 : lw_okq (⟨"BoundWrightModel", "hasOnly", "(II)Z"⟩, 28) := ⟨⟨by decide +kernel, by decide +kernel⟩, List.mem_of_getElem? (i := 1109) (by decide +kernel), List.mem_of_getElem? (i := 1274) (by decide +kernel), List.mem_of_getElem? (i := 1275) (by decide +kernel)⟩
def lw_privs_5 : List (MethodName × Nat) := [(⟨"BoundWright$Caller", "isMoreSpecialThanAll", "(II)Z"⟩, 9), (⟨"BoundWright$Caller", "isMoreSpecial", "(II)Z"⟩, 9), (⟨"BoundWrightModel", "write", "(IIIIII)V"⟩, 28), (⟨"BoundWrightModel", "raise", "()V"⟩, 28), (⟨"BoundWrightModel", "extendsMany", "(I)I"⟩, 28), (⟨"BoundWrightModel", "extendedBy", "(II)I"⟩, 28), (⟨"BoundWrightModel", "begin", "()V"⟩, 28), (⟨"BoundWrightModel", "no", "(I)I"⟩, 28), (⟨"BoundWrightModel", "isParameter", "(II)Z"⟩, 28), (⟨"BoundWrightModel", "isClass", "(I)Z"⟩, 28), (⟨"BoundWrightModel", "isType", "(I)Z"⟩, 28), (⟨"BoundWrightModel", "isSimple", "(I)Z"⟩, 28), (⟨"BoundWrightModel", "isOfClass", "(I)Z"⟩, 28), (⟨"BoundWrightModel", "argument", "(II)I"⟩, 28), (⟨"BoundWrightModel", "isClosed", "(I)Z"⟩, 28), (⟨"BoundWrightModel", "hasOnly", "(II)Z"⟩, 28)]
theorem lw_r5 : ∀ q ∈ lw_privs_5, lw_okq q := List.forall_mem_cons.mpr ⟨lw_p64, List.forall_mem_cons.mpr ⟨lw_p65, List.forall_mem_cons.mpr ⟨lw_p66, List.forall_mem_cons.mpr ⟨lw_p67, List.forall_mem_cons.mpr ⟨lw_p68, List.forall_mem_cons.mpr ⟨lw_p69, List.forall_mem_cons.mpr ⟨lw_p70, List.forall_mem_cons.mpr ⟨lw_p71, List.forall_mem_cons.mpr ⟨lw_p72, List.forall_mem_cons.mpr ⟨lw_p73, List.forall_mem_cons.mpr ⟨lw_p74, List.forall_mem_cons.mpr ⟨lw_p75, List.forall_mem_cons.mpr ⟨lw_p76, List.forall_mem_cons.mpr ⟨lw_p77, List.forall_mem_cons.mpr ⟨lw_p78, List.forall_mem_cons.mpr ⟨lw_p79, fun _ h => absurd h List.not_mem_nil⟩⟩⟩⟩⟩⟩⟩⟩⟩⟩⟩⟩⟩⟩⟩⟩
theorem lw_p80 : lw_okq (⟨"BoundWrightModel", "ofKindNow", "(II)I"⟩, 28) := ⟨⟨by decide +kernel, by decide +kernel⟩, List.mem_of_getElem? (i := 1109) (by decide +kernel), List.mem_of_getElem? (i := 1289) (by decide +kernel), List.mem_of_getElem? (i := 1290) (by decide +kernel)⟩
theorem lw_p81 : lw_okq (⟨"BoundWrightModel", "childrenOf", "(I)I"⟩, 28) := ⟨⟨by decide +kernel, by decide +kernel⟩, List.mem_of_getElem? (i := 1109) (by decide +kernel), List.mem_of_getElem? (i := 1293) (by decide +kernel), List.mem_of_getElem? (i := 1294) (by decide +kernel)⟩
theorem lw_p82 : lw_okq (⟨"BoundWrightModel", "membersOfClass", "(I)I"⟩, 28) := ⟨⟨by decide +kernel, by decide +kernel⟩, List.mem_of_getElem? (i := 1109) (by decide +kernel), List.mem_of_getElem? (i := 1297) (by decide +kernel), List.mem_of_getElem? (i := 1298) (by decide +kernel)⟩
theorem lw_p83 : lw_okq (⟨"BoundWrightModel", "isOrAbove", "(II)Z"⟩, 28) := ⟨⟨by decide +kernel, by decide +kernel⟩, List.mem_of_getElem? (i := 1109) (by decide +kernel), List.mem_of_getElem? (i := 1301) (by decide +kernel), List.mem_of_getElem? (i := 1302) (by decide +kernel)⟩
theorem lw_p84 : lw_okq (⟨"BoundWrightModel", "isAbove", "(II)Z"⟩, 28) := ⟨⟨by decide +kernel, by decide +kernel⟩, List.mem_of_getElem? (i := 1109) (by decide +kernel), List.mem_of_getElem? (i := 1305) (by decide +kernel), List.mem_of_getElem? (i := 1306) (by decide +kernel)⟩
theorem lw_p85 : lw_okq (⟨"BoundWrightModel", "overridden", "(I)I"⟩, 28) := ⟨⟨by decide +kernel, by decide +kernel⟩, List.mem_of_getElem? (i := 1109) (by decide +kernel), List.mem_of_getElem? (i := 1312) (by decide +kernel), List.mem_of_getElem? (i := 1313) (by decide +kernel)⟩
theorem lw_p86 : lw_okq (⟨"BoundWrightModel", "overrides", "(II)Z"⟩, 28) := ⟨⟨by decide +kernel, by decide +kernel⟩, List.mem_of_getElem? (i := 1109) (by decide +kernel), List.mem_of_getElem? (i := 1316) (by decide +kernel), List.mem_of_getElem? (i := 1317) (by decide +kernel)⟩
theorem lw_p87 : lw_okq (⟨"BoundWrightModel", "own", "(I)I"⟩, 28) := ⟨⟨by decide +kernel, by decide +kernel⟩, List.mem_of_getElem? (i := 1109) (by decide +kernel), List.mem_of_getElem? (i := 1320) (by decide +kernel), List.mem_of_getElem? (i := 1321) (by decide +kernel)⟩
theorem lw_p88 : lw_okq (⟨"BoundWrightModel", "type", "(IIIII)I"⟩, 28) := ⟨⟨by decide +kernel, by decide +kernel⟩, List.mem_of_getElem? (i := 1109) (by decide +kernel), List.mem_of_getElem? (i := 1324) (by decide +kernel), List.mem_of_getElem? (i := 1325) (by decide +kernel)⟩
theorem lw_p89 : lw_okq (⟨"BoundWrightModel", "find", "(IIIII)I"⟩, 28) := ⟨⟨by decide +kernel, by decide +kernel⟩, List.mem_of_getElem? (i := 1109) (by decide +kernel), List.mem_of_getElem? (i := 1328) (by decide +kernel), List.mem_of_getElem? (i := 1329) (by decide +kernel)⟩
theorem lw_p90 : lw_okq (⟨"BoundWrightModel", "classOf", "(III)I"⟩, 28) := ⟨⟨by decide +kernel, by decide +kernel⟩, List.mem_of_getElem? (i := 1109) (by decide +kernel), List.mem_of_getElem? (i := 1338) (by decide +kernel), List.mem_of_getElem? (i := 1339) (by decide +kernel)⟩
theorem lw_p91 : lw_okq (⟨"BoundWrightModel", "asNow", "(II)I"⟩, 28) := ⟨⟨by decide +kernel, by decide +kernel⟩, List.mem_of_getElem? (i := 1109) (by decide +kernel), List.mem_of_getElem? (i := 1342) (by decide +kernel), List.mem_of_getElem? (i := 1343) (by decide +kernel)⟩
theorem lw_p92 : lw_okq (⟨"BoundWrightModel", "put", "(II)I"⟩, 28) := ⟨⟨by decide +kernel, by decide +kernel⟩, List.mem_of_getElem? (i := 1109) (by decide +kernel), List.mem_of_getElem? (i := 1346) (by decide +kernel), List.mem_of_getElem? (i := 1347) (by decide +kernel)⟩
theorem lw_p93 : lw_okq (⟨"BoundWrightModel", "arrayOf", "(I)I"⟩, 28) := ⟨⟨by decide +kernel, by decide +kernel⟩, List.mem_of_getElem? (i := 1109) (by decide +kernel), List.mem_of_getElem? (i := 1350) (by decide +kernel), List.mem_of_getElem? (i := 1351) (by decide +kernel)⟩
theorem lw_p94 : lw_okq (⟨"BoundWrightModel", "putArgument", "(II)I"⟩, 28) := ⟨⟨by decide +kernel, by decide +kernel⟩, List.mem_of_getElem? (i := 1109) (by decide +kernel), List.mem_of_getElem? (i := 1354) (by decide +kernel), List.mem_of_getElem? (i := 1355) (by decide +kernel)⟩
theorem lw_p95 : lw_okq (⟨"BoundWrightModel", "bridges", "(I)I"⟩, 28) := ⟨⟨by decide +kernel, by decide +kernel⟩, List.mem_of_getElem? (i := 1109) (by decide +kernel), List.mem_of_getElem? (i := 1361) (by decide +kernel), List.mem_of_getElem? (i := 1362) (by decide +kernel)⟩
def lw_privs_6 : List (MethodName × Nat) := [(⟨"BoundWrightModel", "ofKindNow", "(II)I"⟩, 28), (⟨"BoundWrightModel", "childrenOf", "(I)I"⟩, 28), (⟨"BoundWrightModel", "membersOfClass", "(I)I"⟩, 28), (⟨"BoundWrightModel", "isOrAbove", "(II)Z"⟩, 28), (⟨"BoundWrightModel", "isAbove", "(II)Z"⟩, 28), (⟨"BoundWrightModel", "overridden", "(I)I"⟩, 28), (⟨"BoundWrightModel", "overrides", "(II)Z"⟩, 28), (⟨"BoundWrightModel", "own", "(I)I"⟩, 28), (⟨"BoundWrightModel", "type", "(IIIII)I"⟩, 28), (⟨"BoundWrightModel", "find", "(IIIII)I"⟩, 28), (⟨"BoundWrightModel", "classOf", "(III)I"⟩, 28), (⟨"BoundWrightModel", "asNow", "(II)I"⟩, 28), (⟨"BoundWrightModel", "put", "(II)I"⟩, 28), (⟨"BoundWrightModel", "arrayOf", "(I)I"⟩, 28), (⟨"BoundWrightModel", "putArgument", "(II)I"⟩, 28), (⟨"BoundWrightModel", "bridges", "(I)I"⟩, 28)]
theorem lw_r6 : ∀ q ∈ lw_privs_6, lw_okq q := List.forall_mem_cons.mpr ⟨lw_p80, List.forall_mem_cons.mpr ⟨lw_p81, List.forall_mem_cons.mpr ⟨lw_p82, List.forall_mem_cons.mpr ⟨lw_p83, List.forall_mem_cons.mpr ⟨lw_p84, List.forall_mem_cons.mpr ⟨lw_p85, List.forall_mem_cons.mpr ⟨lw_p86, List.forall_mem_cons.mpr ⟨lw_p87, List.forall_mem_cons.mpr ⟨lw_p88, List.forall_mem_cons.mpr ⟨lw_p89, List.forall_mem_cons.mpr ⟨lw_p90, List.forall_mem_cons.mpr ⟨lw_p91, List.forall_mem_cons.mpr ⟨lw_p92, List.forall_mem_cons.mpr ⟨lw_p93, List.forall_mem_cons.mpr ⟨lw_p94, List.forall_mem_cons.mpr ⟨lw_p95, fun _ h => absurd h List.not_mem_nil⟩⟩⟩⟩⟩⟩⟩⟩⟩⟩⟩⟩⟩⟩⟩⟩
theorem lw_p96 : lw_okq (⟨"BoundWrightModel", "areAlike", "(IIZ)Z"⟩, 28) := ⟨⟨by decide +kernel, by decide +kernel⟩, List.mem_of_getElem? (i := 1109) (by decide +kernel), List.mem_of_getElem? (i := 1365) (by decide +kernel), List.mem_of_getElem? (i := 1366) (by decide +kernel)⟩
theorem lw_p97 : lw_okq (⟨"BoundWrightModel", "erased", "(II)I"⟩, 28) := ⟨⟨by decide +kernel, by decide +kernel⟩, List.mem_of_getElem? (i := 1109) (by decide +kernel), List.mem_of_getElem? (i := 1369) (by decide +kernel), List.mem_of_getElem? (i := 1370) (by decide +kernel)⟩
theorem lw_p98 : lw_okq (⟨"BoundWrightModel", "boundOf", "(I)I"⟩, 28) := ⟨⟨by decide +kernel, by decide +kernel⟩, List.mem_of_getElem? (i := 1109) (by decide +kernel), List.mem_of_getElem? (i := 1373) (by decide +kernel), List.mem_of_getElem? (i := 1374) (by decide +kernel)⟩
theorem lw_p99 : lw_okq (⟨"BoundWrightModel", "lookFor", "(III)I"⟩, 28) := ⟨⟨by decide +kernel, by decide +kernel⟩, List.mem_of_getElem? (i := 1109) (by decide +kernel), List.mem_of_getElem? (i := 1377) (by decide +kernel), List.mem_of_getElem? (i := 1378) (by decide +kernel)⟩
theorem lw_p100 : lw_okq (⟨"BoundWrightModel", "isReachedTwice", "(I)Z"⟩, 28) := ⟨⟨by decide +kernel, by decide +kernel⟩, List.mem_of_getElem? (i := 1109) (by decide +kernel), List.mem_of_getElem? (i := 1381) (by decide +kernel), List.mem_of_getElem? (i := 1382) (by decide +kernel)⟩
theorem lw_p101 : lw_okq (⟨"BoundWrightModel", "isTwice", "(I[I)Z"⟩, 28) := ⟨⟨by decide +kernel, by decide +kernel⟩, List.mem_of_getElem? (i := 1109) (by decide +kernel), List.mem_of_getElem? (i := 1385) (by decide +kernel), List.mem_of_getElem? (i := 1386) (by decide +kernel)⟩
theorem lw_p102 : lw_okq (⟨"BoundWrightModel", "numberOf", "(IIII)I"⟩, 28) := ⟨⟨by decide +kernel, by decide +kernel⟩, List.mem_of_getElem? (i := 1109) (by decide +kernel), List.mem_of_getElem? (i := 1389) (by decide +kernel), List.mem_of_getElem? (i := 1390) (by decide +kernel)⟩
theorem lw_p103 : lw_okq (⟨"BoundWrightModel", "keeps", "(I)Z"⟩, 28) := ⟨⟨by decide +kernel, by decide +kernel⟩, List.mem_of_getElem? (i := 1109) (by decide +kernel), List.mem_of_getElem? (i := 1393) (by decide +kernel), List.mem_of_getElem? (i := 1394) (by decide +kernel)⟩
theorem lw_p104 : lw_okq (⟨"BoundWrightModel", "isUnder", "(II)Z"⟩, 28) := ⟨⟨by decide +kernel, by decide +kernel⟩, List.mem_of_getElem? (i := 1109) (by decide +kernel), List.mem_of_getElem? (i := 1397) (by decide +kernel), List.mem_of_getElem? (i := 1398) (by decide +kernel)⟩
theorem lw_p105 : lw_okq (⟨"BoundWrightModel", "isUnder", "(III)Z"⟩, 28) := ⟨⟨by decide +kernel, by decide +kernel⟩, List.mem_of_getElem? (i := 1109) (by decide +kernel), List.mem_of_getElem? (i := 1401) (by decide +kernel), List.mem_of_getElem? (i := 1402) (by decide +kernel)⟩
theorem lw_p106 : lw_okq (⟨"BoundWrightModel", "isWithin", "(IIII)Z"⟩, 28) := ⟨⟨by decide +kernel, by decide +kernel⟩, List.mem_of_getElem? (i := 1109) (by decide +kernel), List.mem_of_getElem? (i := 1405) (by decide +kernel), List.mem_of_getElem? (i := 1406) (by decide +kernel)⟩
theorem lw_p107 : lw_okq (⟨"BoundWrightModel", "isFault", "(II)Z"⟩, 28) := ⟨⟨by decide +kernel, by decide +kernel⟩, List.mem_of_getElem? (i := 1109) (by decide +kernel), List.mem_of_getElem? (i := 1412) (by decide +kernel), List.mem_of_getElem? (i := 1413) (by decide +kernel)⟩
theorem lw_p108 : lw_okq (⟨"BoundWrightModel", "isOwnWith", "(III)Z"⟩, 28) := ⟨⟨by decide +kernel, by decide +kernel⟩, List.mem_of_getElem? (i := 1109) (by decide +kernel), List.mem_of_getElem? (i := 1416) (by decide +kernel), List.mem_of_getElem? (i := 1417) (by decide +kernel)⟩
theorem lw_p109 : lw_okq (⟨"BoundWrightModel", "clashes", "(II)Z"⟩, 28) := ⟨⟨by decide +kernel, by decide +kernel⟩, List.mem_of_getElem? (i := 1109) (by decide +kernel), List.mem_of_getElem? (i := 1420) (by decide +kernel), List.mem_of_getElem? (i := 1421) (by decide +kernel)⟩
theorem lw_p110 : lw_okq (⟨"BoundWrightModel", "isArgument", "(III)Z"⟩, 28) := ⟨⟨by decide +kernel, by decide +kernel⟩, List.mem_of_getElem? (i := 1109) (by decide +kernel), List.mem_of_getElem? (i := 1428) (by decide +kernel), List.mem_of_getElem? (i := 1429) (by decide +kernel)⟩
theorem lw_p111 : lw_okq (⟨"BoundWrightModel", "tell", "(I)I"⟩, 28) := ⟨⟨by decide +kernel, by decide +kernel⟩, List.mem_of_getElem? (i := 1109) (by decide +kernel), List.mem_of_getElem? (i := 1432) (by decide +kernel), List.mem_of_getElem? (i := 1433) (by decide +kernel)⟩
def lw_privs_7 : List (MethodName × Nat) := [(⟨"BoundWrightModel", "areAlike", "(IIZ)Z"⟩, 28), (⟨"BoundWrightModel", "erased", "(II)I"⟩, 28), (⟨"BoundWrightModel", "boundOf", "(I)I"⟩, 28), (⟨"BoundWrightModel", "lookFor", "(III)I"⟩, 28), (⟨"BoundWrightModel", "isReachedTwice", "(I)Z"⟩, 28), (⟨"BoundWrightModel", "isTwice", "(I[I)Z"⟩, 28), (⟨"BoundWrightModel", "numberOf", "(IIII)I"⟩, 28), (⟨"BoundWrightModel", "keeps", "(I)Z"⟩, 28), (⟨"BoundWrightModel", "isUnder", "(II)Z"⟩, 28), (⟨"BoundWrightModel", "isUnder", "(III)Z"⟩, 28), (⟨"BoundWrightModel", "isWithin", "(IIII)Z"⟩, 28), (⟨"BoundWrightModel", "isFault", "(II)Z"⟩, 28), (⟨"BoundWrightModel", "isOwnWith", "(III)Z"⟩, 28), (⟨"BoundWrightModel", "clashes", "(II)Z"⟩, 28), (⟨"BoundWrightModel", "isArgument", "(III)Z"⟩, 28), (⟨"BoundWrightModel", "tell", "(I)I"⟩, 28)]
theorem lw_r7 : ∀ q ∈ lw_privs_7, lw_okq q := List.forall_mem_cons.mpr ⟨lw_p96, List.forall_mem_cons.mpr ⟨lw_p97, List.forall_mem_cons.mpr ⟨lw_p98, List.forall_mem_cons.mpr ⟨lw_p99, List.forall_mem_cons.mpr ⟨lw_p100, List.forall_mem_cons.mpr ⟨lw_p101, List.forall_mem_cons.mpr ⟨lw_p102, List.forall_mem_cons.mpr ⟨lw_p103, List.forall_mem_cons.mpr ⟨lw_p104, List.forall_mem_cons.mpr ⟨lw_p105, List.forall_mem_cons.mpr ⟨lw_p106, List.forall_mem_cons.mpr ⟨lw_p107, List.forall_mem_cons.mpr ⟨lw_p108, List.forall_mem_cons.mpr ⟨lw_p109, List.forall_mem_cons.mpr ⟨lw_p110, List.forall_mem_cons.mpr ⟨lw_p111, fun _ h => absurd h List.not_mem_nil⟩⟩⟩⟩⟩⟩⟩⟩⟩⟩⟩⟩⟩⟩⟩⟩
theorem lw_p112 : lw_okq (⟨"BoundWrightModel", "deepOf", "(I)I"⟩, 28) := ⟨⟨by decide +kernel, by decide +kernel⟩, List.mem_of_getElem? (i := 1109) (by decide +kernel), List.mem_of_getElem? (i := 1436) (by decide +kernel), List.mem_of_getElem? (i := 1437) (by decide +kernel)⟩
theorem lw_p113 : lw_okq (⟨"BoundWrightModel", "ofTypeNow", "(II)I"⟩, 28) := ⟨⟨by decide +kernel, by decide +kernel⟩, List.mem_of_getElem? (i := 1109) (by decide +kernel), List.mem_of_getElem? (i := 1452) (by decide +kernel), List.mem_of_getElem? (i := 1453) (by decide +kernel)⟩
theorem lw_p114 : lw_okq (⟨"BoundWrightModel", "code", "(I)I"⟩, 28) := ⟨⟨by decide +kernel, by decide +kernel⟩, List.mem_of_getElem? (i := 1109) (by decide +kernel), List.mem_of_getElem? (i := 1456) (by decide +kernel), List.mem_of_getElem? (i := 1457) (by decide +kernel)⟩
theorem lw_p115 : lw_okq (⟨"BoundWrightModel", "membersOf", "(I)I"⟩, 28) := ⟨⟨by decide +kernel, by decide +kernel⟩, List.mem_of_getElem? (i := 1109) (by decide +kernel), List.mem_of_getElem? (i := 1461) (by decide +kernel), List.mem_of_getElem? (i := 1462) (by decide +kernel)⟩
theorem lw_p116 : lw_okq (⟨"BoundWrightModel", "bearer", "(I)I"⟩, 28) := ⟨⟨by decide +kernel, by decide +kernel⟩, List.mem_of_getElem? (i := 1109) (by decide +kernel), List.mem_of_getElem? (i := 1465) (by decide +kernel), List.mem_of_getElem? (i := 1466) (by decide +kernel)⟩
theorem lw_p117 : lw_okq (⟨"BoundWrightModel", "joinNow", "(IIZ)I"⟩, 28) := ⟨⟨by decide +kernel, by decide +kernel⟩, List.mem_of_getElem? (i := 1109) (by decide +kernel), List.mem_of_getElem? (i := 1477) (by decide +kernel), List.mem_of_getElem? (i := 1478) (by decide +kernel)⟩
theorem lw_p118 : lw_okq (⟨"BoundWrightModel", "joinClasses", "(IIZ)I"⟩, 28) := ⟨⟨by decide +kernel, by decide +kernel⟩, List.mem_of_getElem? (i := 1109) (by decide +kernel), List.mem_of_getElem? (i := 1481) (by decide +kernel), List.mem_of_getElem? (i := 1482) (by decide +kernel)⟩
theorem lw_p119 : lw_okq (⟨"BoundWrightModel", "isOfBoth", "(III)Z"⟩, 28) := ⟨⟨by decide +kernel, by decide +kernel⟩, List.mem_of_getElem? (i := 1109) (by decide +kernel), List.mem_of_getElem? (i := 1485) (by decide +kernel), List.mem_of_getElem? (i := 1486) (by decide +kernel)⟩
theorem lw_p120 : lw_okq (⟨"BoundWrightModel", "joinArguments", "(IIIZ)I"⟩, 28) := ⟨⟨by decide +kernel, by decide +kernel⟩, List.mem_of_getElem? (i := 1109) (by decide +kernel), List.mem_of_getElem? (i := 1489) (by decide +kernel), List.mem_of_getElem? (i := 1490) (by decide +kernel)⟩
theorem lw_p121 : lw_okq (⟨"BoundWrightModel", "areAllNow", "(II)Z"⟩, 28) := ⟨⟨by decide +kernel, by decide +kernel⟩, List.mem_of_getElem? (i := 1109) (by decide +kernel), List.mem_of_getElem? (i := 1501) (by decide +kernel), List.mem_of_getElem? (i := 1502) (by decide +kernel)⟩
theorem lw_p122 : lw_okq (⟨"BoundWrightModel", "isCovered", "(III)Z"⟩, 28) := ⟨⟨by decide +kernel, by decide +kernel⟩, List.mem_of_getElem? (i := 1109) (by decide +kernel), List.mem_of_getElem? (i := 1505) (by decide +kernel), List.mem_of_getElem? (i := 1506) (by decide +kernel)⟩
theorem lw_p123 : lw_okq (⟨"BoundWrightModel", "cannotBe", "(II)Z"⟩, 28) := ⟨⟨by decide +kernel, by decide +kernel⟩, List.mem_of_getElem? (i := 1109) (by decide +kernel), List.mem_of_getElem? (i := 1509) (by decide +kernel), List.mem_of_getElem? (i := 1510) (by decide +kernel)⟩
theorem lw_p124 : lw_okq (⟨"BoundWrightModel", "isClosedArgument", "(I)Z"⟩, 28) := ⟨⟨by decide +kernel, by decide +kernel⟩, List.mem_of_getElem? (i := 1109) (by decide +kernel), List.mem_of_getElem? (i := 1513) (by decide +kernel), List.mem_of_getElem? (i := 1514) (by decide +kernel)⟩
theorem lw_p125 : lw_okq (⟨"BoundWrightModel", "isFormal", "(I)Z"⟩, 28) := ⟨⟨by decide +kernel, by decide +kernel⟩, List.mem_of_getElem? (i := 1109) (by decide +kernel), List.mem_of_getElem? (i := 1521) (by decide +kernel), List.mem_of_getElem? (i := 1522) (by decide +kernel)⟩
theorem lw_p126 : lw_okq (⟨"BoundWrightModel", "canBe", "(II)Z"⟩, 28) := ⟨⟨by decide +kernel, by decide +kernel⟩, List.mem_of_getElem? (i := 1109) (by decide +kernel), List.mem_of_getElem? (i := 1525) (by decide +kernel), List.mem_of_getElem? (i := 1526) (by decide +kernel)⟩
theorem lw_p127 : lw_okq (⟨"BoundWrightModel", "ofMethodNow", "(II)I"⟩, 28) := ⟨⟨by decide +kernel, by decide +kernel⟩, List.mem_of_getElem? (i := 1109) (by decide +kernel), List.mem_of_getElem? (i := 1537) (by decide +kernel), List.mem_of_getElem? (i := 1538) (by decide +kernel)⟩
def lw_privs_8 : List (MethodName × Nat) := [(⟨"BoundWrightModel", "deepOf", "(I)I"⟩, 28), (⟨"BoundWrightModel", "ofTypeNow", "(II)I"⟩, 28), (⟨"BoundWrightModel", "code", "(I)I"⟩, 28), (⟨"BoundWrightModel", "membersOf", "(I)I"⟩, 28), (⟨"BoundWrightModel", "bearer", "(I)I"⟩, 28), (⟨"BoundWrightModel", "joinNow", "(IIZ)I"⟩, 28), (⟨"BoundWrightModel", "joinClasses", "(IIZ)I"⟩, 28), (⟨"BoundWrightModel", "isOfBoth", "(III)Z"⟩, 28), (⟨"BoundWrightModel", "joinArguments", "(IIIZ)I"⟩, 28), (⟨"BoundWrightModel", "areAllNow", "(II)Z"⟩, 28), (⟨"BoundWrightModel", "isCovered", "(III)Z"⟩, 28), (⟨"BoundWrightModel", "cannotBe", "(II)Z"⟩, 28), (⟨"BoundWrightModel", "isClosedArgument", "(I)Z"⟩, 28), (⟨"BoundWrightModel", "isFormal", "(I)Z"⟩, 28), (⟨"BoundWrightModel", "canBe", "(II)Z"⟩, 28), (⟨"BoundWrightModel", "ofMethodNow", "(II)I"⟩, 28)]
theorem lw_r8 : ∀ q ∈ lw_privs_8, lw_okq q := List.forall_mem_cons.mpr ⟨lw_p112, List.forall_mem_cons.mpr ⟨lw_p113, List.forall_mem_cons.mpr ⟨lw_p114, List.forall_mem_cons.mpr ⟨lw_p115, List.forall_mem_cons.mpr ⟨lw_p116, List.forall_mem_cons.mpr ⟨lw_p117, List.forall_mem_cons.mpr ⟨lw_p118, List.forall_mem_cons.mpr ⟨lw_p119, List.forall_mem_cons.mpr ⟨lw_p120, List.forall_mem_cons.mpr ⟨lw_p121, List.forall_mem_cons.mpr ⟨lw_p122, List.forall_mem_cons.mpr ⟨lw_p123, List.forall_mem_cons.mpr ⟨lw_p124, List.forall_mem_cons.mpr ⟨lw_p125, List.forall_mem_cons.mpr ⟨lw_p126, List.forall_mem_cons.mpr ⟨lw_p127, fun _ h => absurd h List.not_mem_nil⟩⟩⟩⟩⟩⟩⟩⟩⟩⟩⟩⟩⟩⟩⟩⟩
theorem lw_p128 : lw_okq (⟨"BoundWrightModel", "membersNow", "(II)I"⟩, 28) := ⟨⟨by decide +kernel, by decide +kernel⟩, List.mem_of_getElem? (i := 1109) (by decide +kernel), List.mem_of_getElem? (i := 1545) (by decide +kernel), List.mem_of_getElem? (i := 1546) (by decide +kernel)⟩
theorem lw_p129 : lw_okq (⟨"BoundWrightModel", "choose", "(I)I"⟩, 28) := ⟨⟨by decide +kernel, by decide +kernel⟩, List.mem_of_getElem? (i := 1109) (by decide +kernel), List.mem_of_getElem? (i := 1553) (by decide +kernel), List.mem_of_getElem? (i := 1554) (by decide +kernel)⟩
theorem lw_p130 : lw_okq (⟨"BoundWrightModel", "standing", "(I)I"⟩, 28) := ⟨⟨by decide +kernel, by decide +kernel⟩, List.mem_of_getElem? (i := 1109) (by decide +kernel), List.mem_of_getElem? (i := 1557) (by decide +kernel), List.mem_of_getElem? (i := 1558) (by decide +kernel)⟩
theorem lw_p131 : lw_okq (⟨"BoundWrightModel", "formalAt", "(II)I"⟩, 28) := ⟨⟨by decide +kernel, by decide +kernel⟩, List.mem_of_getElem? (i := 1109) (by decide +kernel), List.mem_of_getElem? (i := 1561) (by decide +kernel), List.mem_of_getElem? (i := 1562) (by decide +kernel)⟩
theorem lw_p132 : lw_okq (⟨"BoundWrightModel", "stand", "(II)I"⟩, 28) := ⟨⟨by decide +kernel, by decide +kernel⟩, List.mem_of_getElem? (i := 1109) (by decide +kernel), List.mem_of_getElem? (i := 1565) (by decide +kernel), List.mem_of_getElem? (i := 1566) (by decide +kernel)⟩
theorem lw_p133 : lw_okq (⟨"BoundWrightModel", "fits", "(II)Z"⟩, 28) := ⟨⟨by decide +kernel, by decide +kernel⟩, List.mem_of_getElem? (i := 1109) (by decide +kernel), List.mem_of_getElem? (i := 1569) (by decide +kernel), List.mem_of_getElem? (i := 1570) (by decide +kernel)⟩
theorem lw_p134 : lw_okq (⟨"BoundWrightModel", "isSpecial", "(II)Z"⟩, 28) := ⟨⟨by decide +kernel, by decide +kernel⟩, List.mem_of_getElem? (i := 1109) (by decide +kernel), List.mem_of_getElem? (i := 1573) (by decide +kernel), List.mem_of_getElem? (i := 1574) (by decide +kernel)⟩
theorem lw_p135 : lw_okq (⟨"BoundWrightModel", "manyNow", "(I)I"⟩, 28) := ⟨⟨by decide +kernel, by decide +kernel⟩, List.mem_of_getElem? (i := 1109) (by decide +kernel), List.mem_of_getElem? (i := 1585) (by decide +kernel), List.mem_of_getElem? (i := 1586) (by decide +kernel)⟩
theorem lw_p136 : lw_okq (⟨"BoundWrightModel", "pairs", "()I"⟩, 28) := ⟨⟨by decide +kernel, by decide +kernel⟩, List.mem_of_getElem? (i := 1109) (by decide +kernel), List.mem_of_getElem? (i := 1589) (by decide +kernel), List.mem_of_getElem? (i := 1590) (by decide +kernel)⟩
theorem lw_p137 : lw_okq (⟨"BoundWrightModel", "withoutNow", "(I)I"⟩, 28) := ⟨⟨by decide +kernel, by decide +kernel⟩, List.mem_of_getElem? (i := 1109) (by decide +kernel), List.mem_of_getElem? (i := 1605) (by decide +kernel), List.mem_of_getElem? (i := 1606) (by decide +kernel)⟩
def lw_privs_9 : List (MethodName × Nat) := [(⟨"BoundWrightModel", "membersNow", "(II)I"⟩, 28), (⟨"BoundWrightModel", "choose", "(I)I"⟩, 28), (⟨"BoundWrightModel", "standing", "(I)I"⟩, 28), (⟨"BoundWrightModel", "formalAt", "(II)I"⟩, 28), (⟨"BoundWrightModel", "stand", "(II)I"⟩, 28), (⟨"BoundWrightModel", "fits", "(II)Z"⟩, 28), (⟨"BoundWrightModel", "isSpecial", "(II)Z"⟩, 28), (⟨"BoundWrightModel", "manyNow", "(I)I"⟩, 28), (⟨"BoundWrightModel", "pairs", "()I"⟩, 28), (⟨"BoundWrightModel", "withoutNow", "(I)I"⟩, 28)]
theorem lw_r9 : ∀ q ∈ lw_privs_9, lw_okq q := List.forall_mem_cons.mpr ⟨lw_p128, List.forall_mem_cons.mpr ⟨lw_p129, List.forall_mem_cons.mpr ⟨lw_p130, List.forall_mem_cons.mpr ⟨lw_p131, List.forall_mem_cons.mpr ⟨lw_p132, List.forall_mem_cons.mpr ⟨lw_p133, List.forall_mem_cons.mpr ⟨lw_p134, List.forall_mem_cons.mpr ⟨lw_p135, List.forall_mem_cons.mpr ⟨lw_p136, List.forall_mem_cons.mpr ⟨lw_p137, fun _ h => absurd h List.not_mem_nil⟩⟩⟩⟩⟩⟩⟩⟩⟩⟩
def lw_privs : List (MethodName × Nat) := lw_privs_1 ++ (lw_privs_2 ++ (lw_privs_3 ++ (lw_privs_4 ++ (lw_privs_5 ++ (lw_privs_6 ++ (lw_privs_7 ++ (lw_privs_8 ++ (lw_privs_9))))))))
def lw_tbl : List Cond := k2_sels lw_privs ++ tables_1
theorem lw_privs_ok : ∀ q ∈ lw_privs, lw_okq q := by
  show ∀ q ∈ lw_privs_1 ++ (lw_privs_2 ++ (lw_privs_3 ++ (lw_privs_4 ++ (lw_privs_5 ++ (lw_privs_6 ++ (lw_privs_7 ++ (lw_privs_8 ++ (lw_privs_9)))))))), lw_okq q
  exact List.forall_mem_append.mpr ⟨lw_r1, List.forall_mem_append.mpr ⟨lw_r2, List.forall_mem_append.mpr ⟨lw_r3, List.forall_mem_append.mpr ⟨lw_r4, List.forall_mem_append.mpr ⟨lw_r5, List.forall_mem_append.mpr ⟨lw_r6, List.forall_mem_append.mpr ⟨lw_r7, List.forall_mem_append.mpr ⟨lw_r8, lw_r9⟩⟩⟩⟩⟩⟩⟩⟩
/-- the streams that the claim lets the run draw from -/
abbrev lw_cs : List Choice := [Jvm.Choice.named "NaN.bits"]
theorem lw_bits : nanBits ∈ lw_cs := by first | decide | exact List.mem_cons_self | simp [lw_cs, nanBits]
-- ===== end of PART A; then your names; then what follows =====
end
section
/-! ===== BEGIN words of one list among another's, by their places ===== -/
theorem goodIn_r {big : List Cond} (ws : List Cond) (ps : List Nat) (hp : ws = ps.filterMap (fun i => big[i]?)) (h : ws.all goodWord = true) : GoodIn big ws := by
  intro w hw
  have h1 := List.all_eq_true.mp h w hw
  rw [hp] at hw
  obtain ⟨i, -, hi⟩ := List.mem_filterMap.mp hw
  have hm : w ∈ big := by first | exact List.mem_of_getElem? hi | exact List.getElem?_mem hi
  exact ⟨hm, good_of_word h1⟩
theorem goodIn_app {big a b : List Cond} (ha : GoodIn big a) (hb : GoodIn big b) : GoodIn big (a ++ b) := fun w h => (List.mem_append.mp h).elim (ha w) (hb w)
theorem goodIn_ca {big a b : List Cond} {c : Cond} (ha : GoodIn big (c :: a)) (hb : GoodIn big b) : GoodIn big (c :: (a ++ b)) := fun w h => (List.mem_cons.mp h).elim (fun e => ha w (List.mem_cons.mpr (Or.inl e))) (fun h => (List.mem_append.mp h).elim (fun h => ha w (List.mem_cons.mpr (Or.inr h))) (hb w))
theorem goodIn_sub {big ws : List Cond} (hm : ∀ w ∈ ws, w ∈ big) (h : ws.all goodWord = true) : GoodIn big ws := fun w hw => ⟨hm w hw, good_of_word (List.all_eq_true.mp h w hw)⟩
/-! ===== END ===== -/
/-! ===== BEGIN exceptions that leave a method, and their catching by the caller (launches without stack traces) ===== -/
section VXA
/-! The laws vx_back, vx_callV, vx_callS, vx_callSW, vx_throw0, vx_throwS follow proofs of the library, with one case more: JvmDerived/Free/Laws.lean (Back.of_free), Shelf42/LK1.lean (callV, callS), Shelf/KitTraced.lean (throwNew0V, throwNewS). -/
/-- where a method has thrown q: the class by its name, the cell, what was written, the world -/
def vx_T (XC : String → State → State → Prop) (st : State) (q : Addr) (t : State) (mc ms : Nat) (free : Addr → Prop) : Prop :=
  ∃ (E : String) (ce : Cell) (L : List Loc), XC E st t ∧ t.heap[q]? = some ce ∧ ce.vm = .none ∧ st.vm.findClass E = some ce.cls ∧ st.WarmedH t.vm ∧ st.sameButNew ({ t with vm := st.vm } : State) L mc ms ∧ ∀ z ∈ L, free z.base
def vx_Q (Qc : Array Value → State → Outcome → State → Prop) (XC : String → State → State → Prop) (mc ms : Nat) (free : Addr → Prop) : Array Value → State → Outcome → State → Prop := fun a st o t =>
  (Qc a st o t ∧ ∃ L, FrameEnd st o t L mc ms ∧ ∀ q ∈ L, free q.base) ∨ ∃ q, o = .threw q ∧ vx_T XC st q t mc ms free
/-- a callee that returns or throws -/
def vx_Met (l : Launch) (y : MethodName) (ws : List Cond) (rm : Room) (Pc : Array Value → State → Prop) (Qc : Array Value → State → Outcome → State → Prop) (XC : String → State → State → Prop) (mc ms : Nat) (free : Addr → Prop) : Prop :=
  MetFree l y (headSpec ws rm) Pc (fun _ _ _ _ _ => True) (vx_Q Qc XC mc ms free)
def vx_Post (XC : String → State → State → Prop) (mc ms : Nat) (free : Addr → Prop) : Pt → Array Value → Addr → Pt → Prop := fun A a q B =>
  ∃ (g : JFrame) (mk : MethodId) (t : State) (L : List Loc) (E : String) (ce : Cell), B.U.heap = t.heap ∧ B.U.vm = t.vm ∧ XC E (A.U.calling g mk a) t ∧ t.heap[q]? = some ce ∧ ce.vm = .none ∧ A.U.vm.findClass E = some ce.cls ∧ B.locs = A.locs ++ L ∧ (∀ z ∈ L, free z.base) ∧ B.cells = A.cells + mc ∧ B.slots = A.slots + ms
def vx_Back (l : Launch) (R : Room) (p : Program) (e : Env) (below : List Frame) (s : State) (sargs : Array Value) (y : MethodName) (len W9 : Nat)
    (Pre : Pt → Array Value → Prop) (Post : Pt → Array Value → Option Value → Pt → Prop) (PostX : Pt → Array Value → Addr → Pt → Prop) : Prop :=
  ∀ (m : MethodId) (meth : Method) (c : Code) (A : Pt) (g : JFrame) (ig : Instr) (mk : MethodId) (a : Array Value),
    Stand p l e R s m sargs below meth c A.U A.locs A.cells A.slots → g.method = m → g.locals.size = c.maxLocals → decode c.code g.pc = .ok (ig, len) →
    2 * g.monitorRoom + (g.stack.map fun v => v.category).sum ≤ W9 → A.U.methodNamed? y = some mk → Pre A a →
    (∃ (v : Option Value) (B : Pt), Stand p l e R s m sargs below meth c B.U B.locs B.cells B.slots ∧ Post A a v B ∧
      Steps p.tables e below (doInvoke e (A.U.setTop g) [] mk a).1 (B.U.setTop { g with pc := g.pc + len, stack := v.toList ++ g.stack })) ∨
    (∃ (q : Addr) (B : Pt), Stand p l e R s m sargs below meth c B.U B.locs B.cells B.slots ∧ PostX A a q B ∧
      Steps p.tables e below (doInvoke e (A.U.setTop g) [] mk a).1 ((B.U.setTop g).pushFrame (.throwing q)))
section Payer
variable {l : Launch} {R : Room} {p : Program} {e : Env} {below : List Frame} {s : State} {sargs : Array Value} {y : MethodName} {len W9 : Nat}
theorem vx_back {ws : List Cond} {rm : Room} {Pc : Array Value → State → Prop} {Qc : Array Value → State → Outcome → State → Prop} {XC : String → State → State → Prop} {mc ms : Nat} {free : Addr → Prop} {bytes : ByteArray} {maxL : Nat} {ret : Option FieldType}
    (hM : vx_Met l y ws rm Pc Qc XC mc ms free) (hblind : FrameBlind Pc) (hrc : rm.cells = mc) (hrs : rm.slots = ms)
    (hframes : rm.frames + 1 ≤ R.frames) (hlocals : W9 + (maxL + 11) + rm.locals ≤ R.locals)
    (hws : ∀ w ∈ ws, ∀ a' U, s.WarmedH U.vm → w.before a' U = true) (hcode : Cond.code y bytes maxL ret ∈ ws) (hinit : ∀ a' U, s.WarmedH U.vm → (Cond.initialized y.cls).before a' U = true) :
    vx_Back l R p e below s sargs y len W9 (PreOf R mc ms Pc) (PostOf Qc mc ms free) (vx_Post XC mc ms free) := by
  intro m meth c A g ig mk a X hg hsize hdg hW hn hp
  have h1 : (headSpec ws rm).pre.before a A.U = true := atoms_intro fun w hw => hws w hw _ _ X.warmed
  have h2 : (Cond.code y bytes maxL ret).before a A.U = true := hws _ hcode _ _ X.warmed
  have h3 : (Cond.initialized y.cls).before a A.U = true := hinit _ _ X.warmed
  have h4 : A.cells + (headSpec ws rm).room.cells ≤ R.cells := by rw [show (headSpec ws rm).room.cells = mc from hrc]; exact hp.1
  have h5 : A.slots + (headSpec ws rm).room.slots ≤ R.slots := by rw [show (headSpec ws rm).room.slots = ms from hrs]; exact hp.2.1
  have hPc : Pc a (A.U.calling g mk a) := hblind _ _ _ _ hp.2.2
  obtain ⟨U, Ls, c0, s0⟩ := A
  dsimp only [Pt.U, Pt.locs, Pt.cells, Pt.slots] at h1 h2 h3 h4 h5 X hn hPc ⊢
  obtain ⟨methY, cY, hmY, hcY, -, hlY, -, -, -, -⟩ := Cond.code_spec hn h2
  obtain ⟨kY, hkY, -⟩ := className_of_methodNamed hn
  have hinitY : kY.init = .initialized := Cond.initialized_spec (findClass_of_methodNamed hn) hkY h3
  have h : At U g.method c below := by rw [hg]; exact X.here
  have hlocals9 : W9 + (maxL + 11) + (headSpec ws rm).room.locals ≤ R.locals := hlocals
  have happ : (headSpec ws rm).appliesLoose y e.platform (U.calling g mk a) = true :=
    Spec.appliesLoose_calling (g := g) h hdg hn hkY hinitY
      (X.room_calling (g := g) (R' := (headSpec ws rm).room) hsize hmY hcY hframes (by rw [hlY]; omega) h4 h5) h1
  obtain ⟨mid, hmid⟩ := h.above
  have hfr : (U.setTop g).frames = (.java g :: mid) ++ below := by rw [State.frames_setTop' g h.top, hmid]; rfl
  obtain ⟨o, s₂, hsteps, -, hend, hq⟩ := Steps.callFree hM p X.admits X.cas X.clock (acts := []) hfr happ hPc trivial
  have hq' : vx_Q Qc XC mc ms free a (U.calling g mk a) o s₂ := hq
  rw [State.frames_setTop' g h.top] at hend
  obtain ⟨g₀, hg0⟩ := Option.isSome_iff_exists.mp h.top
  obtain ⟨r, hr⟩ := State.topJava?_eq_some.mp hg0
  have hr' : (({ U with heap := s₂.heap, slotsUsed := s₂.slotsUsed } : State).setVm s₂.vm).frames = .java g₀ :: r := hr
  rcases hq' with ⟨hqc, L, hfe, hL⟩ | ⟨q, rfl, E, ce, L, hx, hce, hcv, hcl, hW₂, hsm, hL⟩
  · obtain ⟨⟨v, rfl⟩, hW₂, e2, q2, q3, q4, q5, q6⟩ := id hfe
    have e3 : s₂ = ({ (U.calling g mk a).setFrames s₂.frames with heap := s₂.heap, slotsUsed := s₂.slotsUsed } : State).setVm s₂.vm := by
      have : s₂ = ({ s₂ with vm := (U.calling g mk a).vm } : State).setVm s₂.vm := rfl
      rw [e2] at this
      exact this
    obtain ⟨c₂, i₂, len₂, hc₂, hd₂, hf₂⟩ := hend
    have hW' : U.WarmedH s₂.vm := hW₂
    have hcc : c₂ = c := by
      have h1 : s₂.code? g.method = U.code? g.method := by
        rw [State.code?_eq, State.code?_eq, hW'.alike.method?]
      exact Option.some.inj (hc₂.symm.trans (h1.trans h.code))
    subst hcc
    have hlen : len₂ = len := by rw [hdg] at hd₂; cases hd₂; rfl
    subst hlen
    have hs₂ : s₂ = (({ U with heap := s₂.heap, slotsUsed := s₂.slotsUsed } : State).setVm s₂.vm).setTop { g with pc := g.pc + len₂, stack := v.toList ++ g.stack } := by
      refine e3.trans ?_
      rw [hf₂, State.calling_eq h.top, State.setFrames_setFrames, State.setTop_of_frames _ hr', hr]
      rfl
    have hsame : U.sameButNew ({ U with heap := s₂.heap, slotsUsed := s₂.slotsUsed } : State) L mc ms := by
      refine ⟨?_, q2, q3, q4, q5, q6⟩
      obtain ⟨t, ht, -⟩ := State.frames_cons hr
      show ({ U with heap := s₂.heap, slotsUsed := s₂.slotsUsed } : State) = { U.setFrames U.frames with heap := s₂.heap, slotsUsed := s₂.slotsUsed }
      rw [State.setFrames_self ht]
    subst hg
    refine Or.inl ⟨v, ⟨(({ U with heap := s₂.heap, slotsUsed := s₂.slotsUsed } : State).setVm s₂.vm), Ls ++ L, c0 + mc, s0 + ms⟩,
      ⟨X.admits, X.cas, X.clock, X.frames, X.room, X.hears, X.method, X.code, (X.here.setHeapUsed s₂.heap s₂.slotsUsed).setVm hW'.alike, X.tail, State.WarmedH.trans X.warmed hW', X.limits, X.bytes, X.same.trans (hsame.setVm s.vm)⟩,
      ⟨g, mk, s₂, L, rfl, rfl, hqc, rfl, hL, rfl, rfl⟩, ?_⟩
    show Steps p.tables e below _ ((({ U with heap := s₂.heap, slotsUsed := s₂.slotsUsed } : State).setVm s₂.vm).setTop { g with pc := g.pc + len₂, stack := v.toList ++ g.stack })
    rw [← hs₂]
    exact hsteps
  · obtain ⟨e2, q2, q3, q4, q5, q6⟩ := id hsm
    have e3 : s₂ = ({ (U.calling g mk a).setFrames s₂.frames with heap := s₂.heap, slotsUsed := s₂.slotsUsed } : State).setVm s₂.vm := by
      have : s₂ = ({ s₂ with vm := (U.calling g mk a).vm } : State).setVm s₂.vm := rfl
      rw [e2] at this
      exact this
    have hf₂ : s₂.frames = .throwing q :: .java g :: U.frames.tail := hend
    have hW' : U.WarmedH s₂.vm := hW₂
    have hs₂ : s₂ = ((({ U with heap := s₂.heap, slotsUsed := s₂.slotsUsed } : State).setVm s₂.vm).setTop g).pushFrame (.throwing q) := by
      refine e3.trans ?_
      rw [hf₂, State.calling_eq h.top, State.setFrames_setFrames, State.pushFrame, State.frames_setTop _ hr', State.setTop_of_frames _ hr', State.setFrames_setFrames, hr]
      rfl
    have hsame : U.sameButNew ({ U with heap := s₂.heap, slotsUsed := s₂.slotsUsed } : State) L mc ms := by
      refine ⟨?_, q2, q3, q4, q5, q6⟩
      obtain ⟨t, ht, -⟩ := State.frames_cons hr
      show ({ U with heap := s₂.heap, slotsUsed := s₂.slotsUsed } : State) = { U.setFrames U.frames with heap := s₂.heap, slotsUsed := s₂.slotsUsed }
      rw [State.setFrames_self ht]
    subst hg
    refine Or.inr ⟨q, ⟨(({ U with heap := s₂.heap, slotsUsed := s₂.slotsUsed } : State).setVm s₂.vm), Ls ++ L, c0 + mc, s0 + ms⟩,
      ⟨X.admits, X.cas, X.clock, X.frames, X.room, X.hears, X.method, X.code, (X.here.setHeapUsed s₂.heap s₂.slotsUsed).setVm hW'.alike, X.tail, State.WarmedH.trans X.warmed hW', X.limits, X.bytes, X.same.trans (hsame.setVm s.vm)⟩,
      ⟨g, mk, s₂, L, E, ce, rfl, rfl, hx, hce, hcv, hcl, rfl, hL, rfl, rfl⟩, ?_⟩
    show Steps p.tables e below _ (((({ U with heap := s₂.heap, slotsUsed := s₂.slotsUsed } : State).setVm s₂.vm).setTop g).pushFrame (.throwing q))
    rw [← hs₂]
    exact hsteps
end Payer
section Calls
variable {p : Program} {l : Launch} {e : Env} {R : Room} {s : State} {m : MethodId} {args : Array Value} {below : List Frame} {meth : Method} {c : Code} {T : State} {locs : List Loc} {cells slots : Nat}
theorem vx_callV (X : Stand p l e R s m args below meth c T locs cells slots) (hexec : p.tables.exec = Jvm.exec) {own C : String} {index : Nat} {y : MethodName} {bytes : ByteArray} {maxL : Nat} {ret : Option FieldType}
    (hown : s.vm.findClass own = some m.cls) (hlink : (Cond.methodLink own index y).before args s = true) (hinst : (Cond.instanceMethod y).before args s = true) (hsel : (Cond.selects C y y).before args s = true)
    (hcode : (Cond.code y bytes maxL ret).before args s = true) (hy : y.cls ≠ "java/lang/invoke/MethodHandle" ∧ y.cls ≠ "java/lang/invoke/VarHandle")
    {W9 : Nat} {Pre : Pt → Array Value → Prop} {Post : Pt → Array Value → Option Value → Pt → Prop} {PostX : Pt → Array Value → Addr → Pt → Prop} (hK : vx_Back l R p e below s args y 3 W9 Pre Post PostX)
    {b : Addr} {cellB : Cell} (hcell : T.heap[b]? = some cellB) (hobj : cellB.vm.isStatics = false) (hcls : s.vm.findClass C = some cellB.cls)
    {g : JFrame} (hg : g.method = m) (hsize : g.locals.size = c.maxLocals) {argsL rest : List Value} (hlen : ∀ sig, parseMethodDescriptor y.desc = some sig → argsL.length = sig.parameters.length)
    (hstack : g.stack = argsL.reverse ++ .ref b :: rest) (hW : 2 * g.monitorRoom + (rest.map fun v => v.category).sum ≤ W9) (hdg : decode c.code g.pc = .ok (.invokevirtual index, 3))
    (hpre : ∀ vm₁, s.WarmedH vm₁ → Pre ⟨T.setVm vm₁, locs, cells, slots⟩ (Value.ref b :: argsL).toArray) :
    (∃ (v : Option Value) (vm₁ : Vm) (B : Pt), s.WarmedH vm₁ ∧ Stand p l e R s m args below meth c B.U B.locs B.cells B.slots ∧ Post ⟨T.setVm vm₁, locs, cells, slots⟩ (Value.ref b :: argsL).toArray v B ∧
      ∀ target, Steps p.tables e below (B.U.setTop { g with pc := g.pc + 3, stack := v.toList ++ rest }) target → Steps p.tables e below (T.setTop g) target) ∨
    (∃ (q : Addr) (vm₁ : Vm) (B : Pt), s.WarmedH vm₁ ∧ Stand p l e R s m args below meth c B.U B.locs B.cells B.slots ∧ PostX ⟨T.setVm vm₁, locs, cells, slots⟩ (Value.ref b :: argsL).toArray q B ∧
      Steps p.tables e below (T.setTop g) ((B.U.setTop { g with stack := rest }).pushFrame (.throwing q))) := by
  obtain ⟨mk, methM, hnamed, hmethM, hstM, habM⟩ := Cond.instanceMethod_spec hinst
  obtain ⟨methM', cM, hmethM', -, -, -, -, -, -, hsigM⟩ := Cond.code_spec hnamed hcode
  cases hmethM.symm.trans hmethM'
  obtain ⟨c2, r2, m2, q1, q2, q3, q4, kP, hkP, hkPi⟩ := Cond.selects_spec hsel
  cases hcls.symm.trans q1
  cases (State.methodFound?_of_named hnamed hy).symm.trans q2
  cases hnamed.symm.trans q3
  have hselP : selectMethod e.platform s.vm cellB.cls mk = .method mk := by rw [Launch.admits_selectMethod X.admits]; exact q4
  obtain ⟨vm₁, X₁, hstep₁⟩ := X.invokevirtual hexec hown hlink hnamed hmethM hstM hkP hkPi hy (a := b) (cell := cellB) hcell
    (fun z h => by rw [h] at hobj; cases hobj) hselP hmethM habM hkP hkPi (g := g) hg (argsL := argsL) (rest := rest) (hlen _ hsigM) hstack hdg
  rcases hK m meth c ⟨T.setVm vm₁, locs, cells, slots⟩ { g with stack := rest } (.invokevirtual index) mk (Value.ref b :: argsL).toArray X₁ hg hsize hdg hW (X₁.named hnamed) (hpre vm₁ X₁.warmed) with ⟨v, B, X', hpost, hsteps⟩ | ⟨q, B, X', hpost, hsteps⟩
  · exact Or.inl ⟨v, vm₁, B, X₁.warmed, X', hpost, fun target h => hstep₁ _ fun acts => by rw [doInvoke_state]; exact hsteps.trans h⟩
  · exact Or.inr ⟨q, vm₁, B, X₁.warmed, X', hpost, hstep₁ _ fun acts => by rw [doInvoke_state]; exact hsteps⟩
theorem vx_callS (X : Stand p l e R s m args below meth c T locs cells slots) (hexec : p.tables.exec = Jvm.exec) {own : String} {index : Nat} {y : MethodName} {bytes : ByteArray} {maxL : Nat} {ret : Option FieldType}
    (hown : s.vm.findClass own = some m.cls) (hlink : (Cond.methodLink own index y).before args s = true) (hstat : (Cond.static y).before args s = true) (hinit : (Cond.initialized y.cls).before args s = true)
    (hcode : (Cond.code y bytes maxL ret).before args s = true) (hy : y.cls ≠ "java/lang/invoke/MethodHandle" ∧ y.cls ≠ "java/lang/invoke/VarHandle")
    {W9 : Nat} {Pre : Pt → Array Value → Prop} {Post : Pt → Array Value → Option Value → Pt → Prop} {PostX : Pt → Array Value → Addr → Pt → Prop} (hK : vx_Back l R p e below s args y 3 W9 Pre Post PostX)
    {g : JFrame} (hg : g.method = m) (hsize : g.locals.size = c.maxLocals) {argsL rest : List Value} (hlen : ∀ sig, parseMethodDescriptor y.desc = some sig → argsL.length = sig.parameters.length)
    (hstack : g.stack = argsL.reverse ++ rest) (hW : 2 * g.monitorRoom + (rest.map fun v => v.category).sum ≤ W9) (hdg : decode c.code g.pc = .ok (.invokestatic index, 3))
    (hpre : ∀ vm₁, s.WarmedH vm₁ → Pre ⟨T.setVm vm₁, locs, cells, slots⟩ argsL.toArray) :
    (∃ (v : Option Value) (vm₁ : Vm) (B : Pt), s.WarmedH vm₁ ∧ Stand p l e R s m args below meth c B.U B.locs B.cells B.slots ∧ Post ⟨T.setVm vm₁, locs, cells, slots⟩ argsL.toArray v B ∧
      ∀ target, Steps p.tables e below (B.U.setTop { g with pc := g.pc + 3, stack := v.toList ++ rest }) target → Steps p.tables e below (T.setTop g) target) ∨
    (∃ (q : Addr) (vm₁ : Vm) (B : Pt), s.WarmedH vm₁ ∧ Stand p l e R s m args below meth c B.U B.locs B.cells B.slots ∧ PostX ⟨T.setVm vm₁, locs, cells, slots⟩ argsL.toArray q B ∧
      Steps p.tables e below (T.setTop g) ((B.U.setTop { g with stack := rest }).pushFrame (.throwing q))) := by
  obtain ⟨mk, hnamed⟩ := Cond.code_named hcode
  obtain ⟨methM, cM, hmethM, -, -, -, -, -, -, hsigM⟩ := Cond.code_spec hnamed hcode
  have hstatic : methM.isStatic = true := Cond.static_spec hnamed hmethM hstat
  obtain ⟨kP, hkP, -⟩ := className_of_methodNamed hnamed
  have hinitP : kP.init = .initialized := Cond.initialized_spec (findClass_of_methodNamed hnamed) hkP hinit
  obtain ⟨vm₁, X₁, hstep₁⟩ := X.invokestatic hexec hown hlink hnamed hmethM hstatic hkP hinitP hy (g := g) hg (argsL := argsL) (rest := rest) (hlen _ hsigM) hstack hdg
  rcases hK m meth c ⟨T.setVm vm₁, locs, cells, slots⟩ { g with stack := rest } (.invokestatic index) mk argsL.toArray X₁ hg hsize hdg hW (X₁.named hnamed) (hpre vm₁ X₁.warmed) with ⟨v, B, X', hpost, hsteps⟩ | ⟨q, B, X', hpost, hsteps⟩
  · exact Or.inl ⟨v, vm₁, B, X₁.warmed, X', hpost, fun target h => hstep₁ _ fun acts => by rw [doInvoke_state]; exact hsteps.trans h⟩
  · exact Or.inr ⟨q, vm₁, B, X₁.warmed, X', hpost, hstep₁ _ fun acts => by rw [doInvoke_state]; exact hsteps⟩
end Calls
theorem vx_cls {s : State} {T : State} {vm₁ : Vm} {E : String} {k : ClassId} (hW : s.WarmedH vm₁) (h : (T.setVm vm₁).vm.findClass E = some k) : s.vm.findClass E = some k := by
  have h1 : vm₁.findClass E = some k := h
  rw [hW.alike.findClass] at h1
  exact h1
/-- the method's frame g, with q thrown over it -/
def vx_W (p : Program) (l : Launch) (e : Env) (R : Room) (s : State) (m : MethodId) (args : Array Value) (below : List Frame) (meth : Method) (c : Code) (H : Heap) (locs : List Loc) (cells slots : Nat) (Q : State → Prop) (g : JFrame) (q : Addr) : Prop :=
  ∀ T : State, T.heap = H → Stand p l e R s m args below meth c T locs cells slots → ∃ t, Steps p.tables e below ((T.setTop g).pushFrame (.throwing q)) t ∧ Q t
def vx_Run (p : Program) (l : Launch) (e : Env) (R : Room) (s : State) (m : MethodId) (args : Array Value) (below : List Frame) (meth : Method) (c : Code) (H : Heap) (locs : List Loc) (cells slots mc ms : Nat) (g : JFrame) (rest : List Value) (Qa : State → Outcome → State → Prop) (XC : String → State → State → Prop) (free : Addr → Prop) : Prop :=
  ∀ T : State, T.heap = H → Stand p l e R s m args below meth c T locs cells slots →
    (∃ (v : Option Value) (st₀ t T' : State) (L : List Loc), st₀.heap = H ∧ Stand p l e R s m args below meth c T' (locs ++ L) (cells + mc) (slots + ms) ∧ (∀ q ∈ L, free q.base) ∧ T'.heap = t.heap ∧ T'.vm = t.vm ∧ Qa st₀ (.returned v) t ∧
      Goes p e below T g T' { g with pc := g.pc + 3, stack := v.toList ++ rest }) ∨
    (∃ (q : Addr) (st₀ t T' : State) (L : List Loc) (E : String) (ce : Cell), st₀.heap = H ∧ Stand p l e R s m args below meth c T' (locs ++ L) (cells + mc) (slots + ms) ∧ (∀ z ∈ L, free z.base) ∧ T'.heap = t.heap ∧ T'.vm = t.vm ∧ XC E st₀ t ∧ t.heap[q]? = some ce ∧ ce.vm = .none ∧ s.vm.findClass E = some ce.cls ∧
      Steps p.tables e below (T.setTop g) ((T'.setTop { g with stack := rest }).pushFrame (.throwing q)))
def vx_X {S : Type} (px : S → Prop) (B : String → S → State → Prop) (A : Nat → Prop) : String → State → State → Prop := fun E st t => ∃ u : S, px u ∧ B E u t ∧ va_F A st t
section Runs
variable {p : Program} {l : Launch} {e : Env} {R : Room} {s : State} {m : MethodId} {args : Array Value} {below : List Frame} {meth : Method} {c : Code} {H : Heap} {locs : List Loc} {cells slots : Nat}
variable {y : MethodName} {bytes cc : ByteArray} {maxL nL mc ms n index : Nat} {ret : Option FieldType} {ws : List Cond} {rm : Room} {Pc : Array Value → State → Prop} {Qc : Array Value → State → Outcome → State → Prop} {XC : String → State → State → Prop} {free : Addr → Prop} {Ts : List Cond} {own C : String} {b : Addr} {As rest : List Value} {g : JFrame}
theorem vx_callBack (cb : CallB R s args own index y bytes maxL ret ws rm mc ms n) (hM : vx_Met l y ws rm Pc Qc XC mc ms free) (hbl : FrameBlind Pc) : vx_Back l R p e below s args y 3 8 (PreOf R mc ms Pc) (PostOf Qc mc ms free) (vx_Post XC mc ms free) := by
  obtain ⟨hrc, hrs, hfr, hlo, hws, hcw, -, hini, -⟩ := cb
  exact vx_back (bytes := bytes) (maxL := maxL) (ret := ret) hM hbl hrc hrs hfr hlo hws hcw (fun a' U hW => word_at hW (Or.inl (by first | rfl | simp [Cond.onTables, Cond.keeps, Cond.steady])) hini)
theorem vx_runV (S : CallFix p m c cc nL s args Ts own) (hM : vx_Met l y ws rm Pc Qc XC mc ms free) (cw : CallW R s args own C index y bytes maxL ret ws rm mc ms n) (hp : PreV s H C b Pc As)
    (hg : g.method = m) (hn : As.length = n) (hsize : g.locals.size = nL) (hstack : g.stack = As.reverse ++ .ref b :: rest) (hW : 2 * g.monitorRoom + (rest.map fun v => v.category).sum ≤ 8) (hdg : decode cc g.pc = .ok (.invokevirtual index, 3)) (hf : cells + mc ≤ R.cells ∧ slots + ms ≤ R.slots) :
    vx_Run p l e R s m args below meth c H locs cells slots mc ms g rest (Qc (Value.ref b :: As).toArray) XC free := by
  have hK : vx_Back l R p e below s args y 3 8 (PreOf R mc ms Pc) (PostOf Qc mc ms free) (vx_Post XC mc ms free) := vx_callBack cw.1 hM hp.1
  obtain ⟨⟨-, -, -, -, -, -, hcode, -, hy, hlen, hl⟩, hin, hse⟩ := cw
  obtain ⟨hx, hb, hml, ho, -⟩ := S
  obtain ⟨-, ⟨cellB, hcB, hoB, hclB⟩, hPc⟩ := hp
  intro T hT X
  rcases vx_callV X hx (C := C) (bytes := bytes) (maxL := maxL) (ret := ret) ho hl hin hse hcode hy hK (by rw [hT]; exact hcB) hoB hclB hg (hsize.trans hml.symm) (argsL := As) (rest := rest) (fun sig h => hn.trans (hlen sig h)) hstack hW (by rw [hb]; exact hdg)
    (fun vm₁ hW₁ => ⟨hf.1, hf.2, hPc (T.setVm vm₁) hT hW₁⟩) with ⟨v, vm₁, ⟨U', l2, c2, s2⟩, hW₁, X', ⟨g', mk, t, L, e1, e2, hq, h1, hL, h2, h3⟩, st⟩ | ⟨q, vm₁, ⟨U', l2, c2, s2⟩, hW₁, X', ⟨g', mk, t, L, E, ce, e1, e2, hq, hce, hcv, hcl, h1, hL, h2, h3⟩, st⟩
  · dsimp only [Pt.U, Pt.locs, Pt.cells, Pt.slots] at X' e1 e2 h1 h2 h3 st
    subst h1; subst h2; subst h3
    exact Or.inl ⟨v, (T.setVm vm₁).calling g' mk (Value.ref b :: As).toArray, t, U', L, hT, X', hL, e1, e2, hq, st⟩
  · dsimp only [Pt.U, Pt.locs, Pt.cells, Pt.slots] at X' e1 e2 h1 h2 h3 st hcl
    subst h1; subst h2; subst h3
    exact Or.inr ⟨q, (T.setVm vm₁).calling g' mk (Value.ref b :: As).toArray, t, U', L, E, ce, hT, X', hL, e1, e2, hq, hce, hcv, vx_cls hW₁ hcl, st⟩
theorem vx_runS (S : CallFix p m c cc nL s args Ts own) (hM : vx_Met l y ws rm Pc Qc XC mc ms free) (cw : CallB R s args own index y bytes maxL ret ws rm mc ms n ∧ (Cond.static y).before args s = true) (hp : PreS s H Pc As)
    (hg : g.method = m) (hn : As.length = n) (hsize : g.locals.size = nL) (hstack : g.stack = As.reverse ++ rest) (hW : 2 * g.monitorRoom + (rest.map fun v => v.category).sum ≤ 8) (hdg : decode cc g.pc = .ok (.invokestatic index, 3)) (hf : cells + mc ≤ R.cells ∧ slots + ms ≤ R.slots) :
    vx_Run p l e R s m args below meth c H locs cells slots mc ms g rest (Qc As.toArray) XC free := by
  have hK : vx_Back l R p e below s args y 3 8 (PreOf R mc ms Pc) (PostOf Qc mc ms free) (vx_Post XC mc ms free) := vx_callBack cw.1 hM hp.1
  obtain ⟨⟨-, -, -, -, -, -, hcode, hini, hy, hlen, hl⟩, hstt⟩ := cw
  obtain ⟨hx, hb, hml, ho, -⟩ := S
  intro T hT X
  rcases vx_callS X hx (bytes := bytes) (maxL := maxL) (ret := ret) ho hl hstt hini hcode hy hK hg (hsize.trans hml.symm) (argsL := As) (rest := rest) (fun sig h => hn.trans (hlen sig h)) hstack hW (by rw [hb]; exact hdg)
    (fun vm₁ hW₁ => ⟨hf.1, hf.2, hp.2 (T.setVm vm₁) hT hW₁⟩) with ⟨v, vm₁, ⟨U', l2, c2, s2⟩, hW₁, X', ⟨g', mk, t, L, e1, e2, hq, h1, hL, h2, h3⟩, st⟩ | ⟨q, vm₁, ⟨U', l2, c2, s2⟩, hW₁, X', ⟨g', mk, t, L, E, ce, e1, e2, hq, hce, hcv, hcl, h1, hL, h2, h3⟩, st⟩
  · dsimp only [Pt.U, Pt.locs, Pt.cells, Pt.slots] at X' e1 e2 h1 h2 h3 st
    subst h1; subst h2; subst h3
    exact Or.inl ⟨v, (T.setVm vm₁).calling g' mk As.toArray, t, U', L, hT, X', hL, e1, e2, hq, st⟩
  · dsimp only [Pt.U, Pt.locs, Pt.cells, Pt.slots] at X' e1 e2 h1 h2 h3 st hcl
    subst h1; subst h2; subst h3
    exact Or.inr ⟨q, (T.setVm vm₁).calling g' mk As.toArray, t, U', L, E, ce, hT, X', hL, e1, e2, hq, hce, hcv, vx_cls hW₁ hcl, st⟩
end Runs
section Rows
variable {p : Program} {l : Launch} {e : Env} {R : Room} {s : State} {m : MethodId} {args : Array Value} {below : List Frame} {meth : Method} {c : Code} {H : Heap} {locs : List Loc} {cells slots : Nat} {Q : State → Prop}
variable {mc ms : Nat} {free : Addr → Prop} {A0 A1 : Nat → Prop} {H0 : Heap} {a : Array Value} {pc : Nat} {ls : Array Slot} {st0 rest : List Value}
theorem vx_keep {st₀ t T' : State} {L : List Loc} (h0 : st₀.heap = H) (e1 : T'.heap = t.heap) (hS : va_S A0 H0 H locs) (hA : ∀ q, q < H.size → A1 q → A0 q) (hf : ∀ q, free q → A0 q) (hL : ∀ q ∈ L, free q.base) (hF : va_F A1 st₀ t) :
    H.size ≤ T'.heap.size ∧ (∀ q : Nat, q < H.size → ¬ A1 q → T'.heap[q]? = H[q]?) ∧ va_S A0 H0 T'.heap (locs ++ L) := by
  obtain ⟨hz, hk⟩ := hF
  rw [h0] at hz hk
  exact ⟨by rw [e1]; exact hz, fun q h1 h2 => by rw [e1]; exact hk q h1 h2,
    ⟨Nat.le_trans hS.1 (by rw [e1]; exact hz), fun q h1 h2 => by rw [e1, hk q (Nat.lt_of_lt_of_le h1 hS.1) (fun z => h2 (hA q (Nat.lt_of_lt_of_le h1 hS.1) z))]; exact hS.2.1 q h1 h2, fun q hq => by
      rcases List.mem_append.mp hq with h | h
      · exact hS.2.2 q h
      · exact hf _ (hL q h)⟩⟩
theorem vx_calli {S SX : Type} {post : Int32 → S → Prop} {px : SX → Prop} {B : S → State → Prop} {BX : String → SX → State → Prop} {AX : Nat → Prop} (hr : vx_Run p l e R s m args below meth c H locs cells slots mc ms (F0 m pc ls st0) rest (va_Qi post B A1 a) (vx_X px BX AX) free) (hS : va_S A0 H0 H locs) (hA : ∀ q, q < H.size → A1 q → A0 q) (hf : ∀ q, free q → A0 q) (hAX : ∀ q, q < H.size → AX q → A0 q)
    (kx : ∀ (E : String) (ce : Cell) (q9 : Addr) (u : SX) (t : State) (H1 : Heap) (locs1 : List Loc), t.heap = H1 → s.vm.Alike t.vm → px u → BX E u t → H.size ≤ H1.size → (∀ q : Nat, q < H.size → ¬ AX q → H1[q]? = H[q]?) → va_S A0 H0 H1 locs1 → H1[q9]? = some ce → ce.vm = .none → s.vm.findClass E = some ce.cls → vx_W p l e R s m args below meth c H1 locs1 (cells + mc) (slots + ms) Q (F0 m pc ls rest) q9)
    (kk : ∀ (r : Int32) (u : S) (t : State) (H1 : Heap) (locs1 : List Loc), t.heap = H1 → s.vm.Alike t.vm → post r u → B u t → H.size ≤ H1.size → (∀ q : Nat, q < H.size → ¬ A1 q → H1[q]? = H[q]?) → va_S A0 H0 H1 locs1 → W p l e R s m args below meth c H1 locs1 (cells + mc) (slots + ms) Q (F0 m (pc + 3) ls (.int r :: rest))) : W p l e R s m args below meth c H locs cells slots Q (F0 m pc ls st0) := by
  intro T hT X
  rcases hr T hT X with ⟨v, st₀, t, T', L, h0, X', hL, e1, e2, ⟨⟨r, u, hv, hp, hb⟩, hF⟩, st⟩ | ⟨q, st₀, t, T', L, E, ce, h0, X', hL, e1, e2, ⟨u, hp, hb, hF⟩, hce, hcv, hcl, st⟩
  · cases hv
    obtain ⟨k1, k2, k3⟩ := vx_keep h0 e1 hS hA hf hL hF
    obtain ⟨t2, a1, b1⟩ := kk r u t T'.heap (locs ++ L) e1.symm (by rw [← e2]; exact X'.warmed.alike) hp hb k1 k2 k3 T' rfl X'
    exact ⟨t2, st t2 a1, b1⟩
  · obtain ⟨k1, k2, k3⟩ := vx_keep h0 e1 hS hAX hf hL hF
    obtain ⟨t2, a1, b1⟩ := kx E ce q u t T'.heap (locs ++ L) e1.symm (by rw [← e2]; exact X'.warmed.alike) hp hb k1 k2 k3 (by rw [e1]; exact hce) hcv hcl T' rfl X'
    exact ⟨t2, st.trans a1, b1⟩
theorem vx_calll {S SX : Type} {post : Int64 → S → Prop} {px : SX → Prop} {B : S → State → Prop} {BX : String → SX → State → Prop} {AX : Nat → Prop} (hr : vx_Run p l e R s m args below meth c H locs cells slots mc ms (F0 m pc ls st0) rest (va_Ql post B A1 a) (vx_X px BX AX) free) (hS : va_S A0 H0 H locs) (hA : ∀ q, q < H.size → A1 q → A0 q) (hf : ∀ q, free q → A0 q) (hAX : ∀ q, q < H.size → AX q → A0 q)
    (kx : ∀ (E : String) (ce : Cell) (q9 : Addr) (u : SX) (t : State) (H1 : Heap) (locs1 : List Loc), t.heap = H1 → s.vm.Alike t.vm → px u → BX E u t → H.size ≤ H1.size → (∀ q : Nat, q < H.size → ¬ AX q → H1[q]? = H[q]?) → va_S A0 H0 H1 locs1 → H1[q9]? = some ce → ce.vm = .none → s.vm.findClass E = some ce.cls → vx_W p l e R s m args below meth c H1 locs1 (cells + mc) (slots + ms) Q (F0 m pc ls rest) q9)
    (kk : ∀ (r : Int64) (u : S) (t : State) (H1 : Heap) (locs1 : List Loc), t.heap = H1 → s.vm.Alike t.vm → post r u → B u t → H.size ≤ H1.size → (∀ q : Nat, q < H.size → ¬ A1 q → H1[q]? = H[q]?) → va_S A0 H0 H1 locs1 → W p l e R s m args below meth c H1 locs1 (cells + mc) (slots + ms) Q (F0 m (pc + 3) ls (.long r :: rest))) : W p l e R s m args below meth c H locs cells slots Q (F0 m pc ls st0) := by
  intro T hT X
  rcases hr T hT X with ⟨v, st₀, t, T', L, h0, X', hL, e1, e2, ⟨⟨r, u, hv, hp, hb⟩, hF⟩, st⟩ | ⟨q, st₀, t, T', L, E, ce, h0, X', hL, e1, e2, ⟨u, hp, hb, hF⟩, hce, hcv, hcl, st⟩
  · cases hv
    obtain ⟨k1, k2, k3⟩ := vx_keep h0 e1 hS hA hf hL hF
    obtain ⟨t2, a1, b1⟩ := kk r u t T'.heap (locs ++ L) e1.symm (by rw [← e2]; exact X'.warmed.alike) hp hb k1 k2 k3 T' rfl X'
    exact ⟨t2, st t2 a1, b1⟩
  · obtain ⟨k1, k2, k3⟩ := vx_keep h0 e1 hS hAX hf hL hF
    obtain ⟨t2, a1, b1⟩ := kx E ce q u t T'.heap (locs ++ L) e1.symm (by rw [← e2]; exact X'.warmed.alike) hp hb k1 k2 k3 (by rw [e1]; exact hce) hcv hcl T' rfl X'
    exact ⟨t2, st.trans a1, b1⟩
theorem vx_callf {S SX : Type} {post : UInt32 → S → Prop} {px : SX → Prop} {B : S → State → Prop} {BX : String → SX → State → Prop} {AX : Nat → Prop} (hr : vx_Run p l e R s m args below meth c H locs cells slots mc ms (F0 m pc ls st0) rest (va_Qf post B A1 a) (vx_X px BX AX) free) (hS : va_S A0 H0 H locs) (hA : ∀ q, q < H.size → A1 q → A0 q) (hf : ∀ q, free q → A0 q) (hAX : ∀ q, q < H.size → AX q → A0 q)
    (kx : ∀ (E : String) (ce : Cell) (q9 : Addr) (u : SX) (t : State) (H1 : Heap) (locs1 : List Loc), t.heap = H1 → s.vm.Alike t.vm → px u → BX E u t → H.size ≤ H1.size → (∀ q : Nat, q < H.size → ¬ AX q → H1[q]? = H[q]?) → va_S A0 H0 H1 locs1 → H1[q9]? = some ce → ce.vm = .none → s.vm.findClass E = some ce.cls → vx_W p l e R s m args below meth c H1 locs1 (cells + mc) (slots + ms) Q (F0 m pc ls rest) q9)
    (kk : ∀ (r : UInt32) (u : S) (t : State) (H1 : Heap) (locs1 : List Loc), t.heap = H1 → s.vm.Alike t.vm → post r u → B u t → H.size ≤ H1.size → (∀ q : Nat, q < H.size → ¬ A1 q → H1[q]? = H[q]?) → va_S A0 H0 H1 locs1 → W p l e R s m args below meth c H1 locs1 (cells + mc) (slots + ms) Q (F0 m (pc + 3) ls (.float r :: rest))) : W p l e R s m args below meth c H locs cells slots Q (F0 m pc ls st0) := by
  intro T hT X
  rcases hr T hT X with ⟨v, st₀, t, T', L, h0, X', hL, e1, e2, ⟨⟨r, u, hv, hp, hb⟩, hF⟩, st⟩ | ⟨q, st₀, t, T', L, E, ce, h0, X', hL, e1, e2, ⟨u, hp, hb, hF⟩, hce, hcv, hcl, st⟩
  · cases hv
    obtain ⟨k1, k2, k3⟩ := vx_keep h0 e1 hS hA hf hL hF
    obtain ⟨t2, a1, b1⟩ := kk r u t T'.heap (locs ++ L) e1.symm (by rw [← e2]; exact X'.warmed.alike) hp hb k1 k2 k3 T' rfl X'
    exact ⟨t2, st t2 a1, b1⟩
  · obtain ⟨k1, k2, k3⟩ := vx_keep h0 e1 hS hAX hf hL hF
    obtain ⟨t2, a1, b1⟩ := kx E ce q u t T'.heap (locs ++ L) e1.symm (by rw [← e2]; exact X'.warmed.alike) hp hb k1 k2 k3 (by rw [e1]; exact hce) hcv hcl T' rfl X'
    exact ⟨t2, st.trans a1, b1⟩
theorem vx_calld {S SX : Type} {post : UInt64 → S → Prop} {px : SX → Prop} {B : S → State → Prop} {BX : String → SX → State → Prop} {AX : Nat → Prop} (hr : vx_Run p l e R s m args below meth c H locs cells slots mc ms (F0 m pc ls st0) rest (va_Qd post B A1 a) (vx_X px BX AX) free) (hS : va_S A0 H0 H locs) (hA : ∀ q, q < H.size → A1 q → A0 q) (hf : ∀ q, free q → A0 q) (hAX : ∀ q, q < H.size → AX q → A0 q)
    (kx : ∀ (E : String) (ce : Cell) (q9 : Addr) (u : SX) (t : State) (H1 : Heap) (locs1 : List Loc), t.heap = H1 → s.vm.Alike t.vm → px u → BX E u t → H.size ≤ H1.size → (∀ q : Nat, q < H.size → ¬ AX q → H1[q]? = H[q]?) → va_S A0 H0 H1 locs1 → H1[q9]? = some ce → ce.vm = .none → s.vm.findClass E = some ce.cls → vx_W p l e R s m args below meth c H1 locs1 (cells + mc) (slots + ms) Q (F0 m pc ls rest) q9)
    (kk : ∀ (r : UInt64) (u : S) (t : State) (H1 : Heap) (locs1 : List Loc), t.heap = H1 → s.vm.Alike t.vm → post r u → B u t → H.size ≤ H1.size → (∀ q : Nat, q < H.size → ¬ A1 q → H1[q]? = H[q]?) → va_S A0 H0 H1 locs1 → W p l e R s m args below meth c H1 locs1 (cells + mc) (slots + ms) Q (F0 m (pc + 3) ls (.double r :: rest))) : W p l e R s m args below meth c H locs cells slots Q (F0 m pc ls st0) := by
  intro T hT X
  rcases hr T hT X with ⟨v, st₀, t, T', L, h0, X', hL, e1, e2, ⟨⟨r, u, hv, hp, hb⟩, hF⟩, st⟩ | ⟨q, st₀, t, T', L, E, ce, h0, X', hL, e1, e2, ⟨u, hp, hb, hF⟩, hce, hcv, hcl, st⟩
  · cases hv
    obtain ⟨k1, k2, k3⟩ := vx_keep h0 e1 hS hA hf hL hF
    obtain ⟨t2, a1, b1⟩ := kk r u t T'.heap (locs ++ L) e1.symm (by rw [← e2]; exact X'.warmed.alike) hp hb k1 k2 k3 T' rfl X'
    exact ⟨t2, st t2 a1, b1⟩
  · obtain ⟨k1, k2, k3⟩ := vx_keep h0 e1 hS hAX hf hL hF
    obtain ⟨t2, a1, b1⟩ := kx E ce q u t T'.heap (locs ++ L) e1.symm (by rw [← e2]; exact X'.warmed.alike) hp hb k1 k2 k3 (by rw [e1]; exact hce) hcv hcl T' rfl X'
    exact ⟨t2, st.trans a1, b1⟩
theorem vx_callv {S SX : Type} {post : S → Prop} {px : SX → Prop} {B : S → State → Prop} {BX : String → SX → State → Prop} {AX : Nat → Prop} (hr : vx_Run p l e R s m args below meth c H locs cells slots mc ms (F0 m pc ls st0) rest (va_Qv post B A1 a) (vx_X px BX AX) free) (hS : va_S A0 H0 H locs) (hA : ∀ q, q < H.size → A1 q → A0 q) (hf : ∀ q, free q → A0 q) (hAX : ∀ q, q < H.size → AX q → A0 q)
    (kx : ∀ (E : String) (ce : Cell) (q9 : Addr) (u : SX) (t : State) (H1 : Heap) (locs1 : List Loc), t.heap = H1 → s.vm.Alike t.vm → px u → BX E u t → H.size ≤ H1.size → (∀ q : Nat, q < H.size → ¬ AX q → H1[q]? = H[q]?) → va_S A0 H0 H1 locs1 → H1[q9]? = some ce → ce.vm = .none → s.vm.findClass E = some ce.cls → vx_W p l e R s m args below meth c H1 locs1 (cells + mc) (slots + ms) Q (F0 m pc ls rest) q9)
    (kk : ∀ (u : S) (t : State) (H1 : Heap) (locs1 : List Loc), t.heap = H1 → s.vm.Alike t.vm → post u → B u t → H.size ≤ H1.size → (∀ q : Nat, q < H.size → ¬ A1 q → H1[q]? = H[q]?) → va_S A0 H0 H1 locs1 → W p l e R s m args below meth c H1 locs1 (cells + mc) (slots + ms) Q (F0 m (pc + 3) ls (rest))) : W p l e R s m args below meth c H locs cells slots Q (F0 m pc ls st0) := by
  intro T hT X
  rcases hr T hT X with ⟨v, st₀, t, T', L, h0, X', hL, e1, e2, ⟨⟨u, hv, hp, hb⟩, hF⟩, st⟩ | ⟨q, st₀, t, T', L, E, ce, h0, X', hL, e1, e2, ⟨u, hp, hb, hF⟩, hce, hcv, hcl, st⟩
  · cases hv
    obtain ⟨k1, k2, k3⟩ := vx_keep h0 e1 hS hA hf hL hF
    obtain ⟨t2, a1, b1⟩ := kk u t T'.heap (locs ++ L) e1.symm (by rw [← e2]; exact X'.warmed.alike) hp hb k1 k2 k3 T' rfl X'
    exact ⟨t2, st t2 a1, b1⟩
  · obtain ⟨k1, k2, k3⟩ := vx_keep h0 e1 hS hAX hf hL hF
    obtain ⟨t2, a1, b1⟩ := kx E ce q u t T'.heap (locs ++ L) e1.symm (by rw [← e2]; exact X'.warmed.alike) hp hb k1 k2 k3 (by rw [e1]; exact hce) hcv hcl T' rfl X'
    exact ⟨t2, st.trans a1, b1⟩
/-- caught by the row x of this method's table; the rows ahead don't take it -/
theorem vx_catch {own name : String} {E : String} {ce : Cell} {q : Addr} (hown : s.vm.findClass own = some m.cls) (pre : List ExceptionTableEntry) (x : ExceptionTableEntry) (suf : List ExceptionTableEntry) (hsplit : c.exceptionTable.toList = pre ++ x :: suf)
    (hpass : ∀ z ∈ pre, covers z pc = false ∨ (z.catchType ≠ 0 ∧ ∃ nm : String, (Cond.classLink own z.catchType nm).before args s = true ∧ va_Nc E nm s)) (hx : covers x pc = true) (h0 : x.catchType ≠ 0)
    (hlink : (Cond.classLink own x.catchType name).before args s = true) (hcast : (Cond.castable E name).before args s = true) (hcell : H[q]? = some ce) (hv : ce.vm = .none) (hcl : s.vm.findClass E = some ce.cls)
    (kk : W p l e R s m args below meth c H locs cells slots Q (F0 m x.handlerPc ls [.ref q])) : vx_W p l e R s m args below meth c H locs cells slots Q (F0 m pc ls rest) q := by
  intro T hT X
  have hpl : e.platform.magicAccessors = ({} : Platform).magicAccessors := by rw [X.admits.platform]
  obtain ⟨c3, c4, hc3, hc4, hasg⟩ := Cond.castable_spec hcast
  cases Option.some.inj (hc3.symm.trans hcl)
  obtain ⟨c5, hc5, hcl5⟩ := Cond.classLink_spec hown hlink e.platform hpl
  cases Option.some.inj (hc4.symm.trans hc5)
  obtain ⟨vm', X', st⟩ := X.thenCaughtThrough q (g := F0 m pc ls rest) rfl (Steps.refl _) (by rw [hT]; exact hcell) (by rw [hv]; rfl) (by obtain ⟨k9, h9, -⟩ := Vm.findClass_spec hcl; exact ⟨k9, h9⟩) pre x suf hsplit
    (fun z hz => by
      rcases hpass z hz with h | ⟨hz0, nm, hl1, hn1⟩
      · exact Or.inl h
      · obtain ⟨c6, hc6, hcl6⟩ := Cond.classLink_spec hown hl1 e.platform hpl
        obtain ⟨a8, b8, h1, h2, h3⟩ := hn1
        cases Option.some.inj (h1.symm.trans hcl)
        cases Option.some.inj (h2.symm.trans hc6)
        exact Or.inr ⟨hz0, _, hcl6, h3⟩) hx (Or.inr ⟨h0, c4, hcl5, hasg⟩)
  obtain ⟨t, a1, b1⟩ := kk (T.setVm vm') hT X'
  exact ⟨t, st.trans a1, b1⟩
end Rows
section Ends
variable {p : Program} {l : Launch} {e : Env} {R : Room} {s : State} {m : MethodId} {args : Array Value} {below : List Frame} {meth : Method} {c : Code} {H : Heap} {locs : List Loc} {cells slots : Nat} {Q : State → Prop}
variable {mc ms : Nat} {free : Addr → Prop} {A0 A1 : Nat → Prop} {H0 : Heap} {a : Array Value} {ls : Array Slot} {st0 rest : List Value}
variable {Qc : Array Value → State → Outcome → State → Prop} {XC : String → State → State → Prop}
/-- what a body that may throw owes at its end -/
def vx_MQ (below : List Frame) (Qc : Array Value → State → Outcome → State → Prop) (XC : String → State → State → Prop) (a : Array Value) (s : State) (mc ms : Nat) (free : Addr → Prop) : State → Prop := fun t =>
  ∃ o, t.status = .running ∧ Ended t below o ∧ vx_Q Qc XC mc ms free a s o t
theorem vx_ret {g : JFrame} {mc ms : Nat} (k : W p l e R s m args below meth c H locs cells slots (MQ below Qc args s mc ms free) g) : W p l e R s m args below meth c H locs cells slots (vx_MQ below Qc XC args s mc ms free) g := by
  intro T hT X
  obtain ⟨t, a1, o, b1, b2, b3, b4⟩ := k T hT X
  exact ⟨t, a1, o, b1, b2, Or.inl ⟨b3, b4⟩⟩
/-- not caught here: it goes on to the caller -/
theorem vx_widen {g : JFrame} {q : Addr} {k n : Nat} (h1 : cells ≤ k) (h2 : slots ≤ n) (kk : vx_W p l e R s m args below meth c H locs k n Q g q) : vx_W p l e R s m args below meth c H locs cells slots Q g q := fun T hT X => kk T hT (stand_widen X h1 h2)
theorem vx_out {pc : Nat} {E : String} {ce : Cell} {q : Addr} {mc ms : Nat} (hout : ∀ x ∈ c.exceptionTable.toList, covers x pc = false) (hlocks : meth.locks = false) (hcell : H[q]? = some ce) (hv : ce.vm = .none) (hcl : s.vm.findClass E = some ce.cls)
    (hx : ∀ t : State, t.heap = H → s.vm.Alike t.vm → XC E s t) (hf : ∀ z ∈ locs, free z.base) (hc : cells ≤ mc) (hs : slots ≤ ms) :
    vx_W p l e R s m args below meth c H locs cells slots (vx_MQ below Qc XC args s mc ms free) (F0 m pc ls rest) q := by
  intro T hT X
  obtain ⟨st1, hrun, hend, hW, hsm⟩ := X.leaveThrown q (g := F0 m pc ls rest) rfl rfl rfl hout hlocks
  have hcell9 : (T.setFrames (.throwing q :: below)).heap[q]? = some ce := by
    show T.heap[q]? = some ce
    rw [hT]; exact hcell
  exact ⟨_, st1, .threw q, hrun, hend, Or.inr ⟨q, rfl, E, ce, locs, hx _ hT hW.alike, hcell9, hv, hcl, hW, hsm.mono hc hs, hf⟩⟩
theorem vx_frame {U : State} {k n : Nat} (h : s.sameButNew ({ U with vm := s.vm } : State) locs k n) : s.heap.size ≤ U.heap.size ∧ ∀ q : Nat, q < s.heap.size → (∀ z ∈ locs, z.base ≠ q) → U.heap[q]? = s.heap[q]? := by
  obtain ⟨-, h2, -, -, -, h6⟩ := h
  refine ⟨h2, fun q hq hz => ?_⟩
  obtain ⟨c9, e1, e2, e3, e4⟩ := h6 q _ (Array.getElem?_eq_getElem hq)
  have hs : c9.slots = (s.heap[q]).slots := Array.ext_getElem? fun i => e4 i fun hm => hz _ hm rfl
  have h9 : c9 = s.heap[q] := by
    rw [hs] at e2
    exact e2
  have e5 : U.heap[q]? = some c9 := e1
  rw [e5, h9, Array.getElem?_eq_getElem hq]
/-- the words of a throw but the four that speak of the heap -/
def vx_no (w : Cond) : Bool := decide (w ≠ .isRef (.static Bundle.tN "UNASSIGNED_STACK" Bundle.steD)) && decide (w ≠ .isRef (.static Bundle.tN "SUPPRESSED_SENTINEL" Bundle.listD)) && decide (w ≠ .laysStatic Bundle.tN "UNASSIGNED_STACK" Bundle.steD) && decide (w ≠ .laysStatic Bundle.tN "SUPPRESSED_SENTINEL" Bundle.listD)
def vx_at0 (own : String) (ic : Nat) (X : String) (names : List String) : List Cond := (Bundle.ownAtoms0 own ic X names).filter vx_no
def vx_atS (own : String) (ic : Nat) (X : String) (names : List String) : List Cond := (Bundle.ownAtoms own ic X names).filter vx_no
/-- a word that the tables alone decide, or a good one -/
def vx_ot (w : Cond) : Bool := w.onTables || goodWord w
theorem vx_ot_at {args a' : Array Value} {s U : State} {w : Cond} (hW : s.WarmedH U.vm) (hvm : s.vm = U.vm) (hg : vx_ot w = true) (h : w.before args s = true) : w.before a' U = true := by
  simp only [vx_ot, Bool.or_eq_true] at hg
  rcases hg with hg | hg
  · exact va_tabs hg hvm h
  · exact word_at hW (good_of_word hg) h
/-- a list's words: the good ones out of the method's own list, the others by premises of their own -/
theorem vx_hat {args : Array Value} {s : State} {L B : List Cond} (h1 : ∀ w ∈ L.filter goodWord, w.before args s = true) (h2 : ∀ w ∈ L.filter (fun w => !goodWord w), w ∈ B) (h3 : ∀ w ∈ B, w.before args s = true) : ∀ w ∈ L, w.before args s = true := by
  intro w hw
  by_cases g : goodWord w = true
  · exact h1 w (List.mem_filter.mpr ⟨hw, g⟩)
  · refine h3 w (h2 w (List.mem_filter.mpr ⟨hw, ?_⟩))
    show (!goodWord w) = true
    cases hgw : goodWord w
    · rfl
    · exact absurd hgw g
theorem vx_c {args : Array Value} {s : State} {w : Cond} {B : List Cond} (h : w.before args s = true) (t : ∀ w ∈ B, w.before args s = true) : ∀ w' ∈ w :: B, w'.before args s = true := fun w' h' => (List.mem_cons.mp h').elim (fun e => by rw [e]; exact h) (t w')
theorem vx_n {args : Array Value} {s : State} : ∀ w ∈ ([] : List Cond), w.before args s = true := fun _ h => nomatch h
theorem vx_own {args : Array Value} {s : State} {L : List Cond} (h1 : ∀ w ∈ L.filter vx_no, w.before args s = true)
    (hU : (Cond.isRef (.static Bundle.tN "UNASSIGNED_STACK" Bundle.steD)).before args s = true) (hN : (Cond.isRef (.static Bundle.tN "SUPPRESSED_SENTINEL" Bundle.listD)).before args s = true)
    (lU : (Cond.laysStatic Bundle.tN "UNASSIGNED_STACK" Bundle.steD).before args s = true) (lN : (Cond.laysStatic Bundle.tN "SUPPRESSED_SENTINEL" Bundle.listD).before args s = true) : ∀ w ∈ L, w.before args s = true := by
  intro w hw
  by_cases e1 : w = .isRef (.static Bundle.tN "UNASSIGNED_STACK" Bundle.steD)
  · rw [e1]; exact hU
  · by_cases e2 : w = .isRef (.static Bundle.tN "SUPPRESSED_SENTINEL" Bundle.listD)
    · rw [e2]; exact hN
    · by_cases e3 : w = .laysStatic Bundle.tN "UNASSIGNED_STACK" Bundle.steD
      · rw [e3]; exact lU
      · by_cases e4 : w = .laysStatic Bundle.tN "SUPPRESSED_SENTINEL" Bundle.listD
        · rw [e4]; exact lN
        · exact h1 w (List.mem_filter.mpr ⟨hw, by unfold vx_no; rw [decide_eq_true e1, decide_eq_true e2, decide_eq_true e3, decide_eq_true e4]; rfl⟩)
/-- where a static field lies, its class's statics cell in H -/
def vx_L (C n d : String) (A : Nat → Prop) (U : State) (H : Heap) : Prop := ∃ (c : ClassId) (k : Class) (i : Nat) (f : Field) (a : Nat) (cell : Cell), U.vm.findClass C = some c ∧ U.fieldFound? C n d = some (c, k, i, f) ∧ f.isStatic = true ∧ k.statics = some a ∧ H[a]? = some cell ∧ cell.vm.isStatics = true ∧ cell.cls = c ∧ f.slot < cell.slots.size ∧ k.staticTypes[f.slot]? = some f.type ∧ ¬ A a
theorem vx_L.moved {C n d : String} {A : Nat → Prop} {u U : State} {H : Heap} (hvm : u.vm.Alike U.vm) (h : vx_L C n d A u H) : vx_L C n d A U H := by
  obtain ⟨c, k, i, f, a, cell, h1, h2, h3, h4, h5, h6, h7, h8, h9, h10⟩ := h
  obtain ⟨k', hi', he⟩ := State.fieldFound?_setVm hvm h2
  exact ⟨c, k', i, f, a, cell, by rw [hvm.findClass]; exact h1, hi', h3, by rw [he]; exact h4, h5, h6, h7, h8, by rw [he]; exact h9, h10⟩
theorem vx_L.kept {C n d : String} {A : Nat → Prop} {U : State} {H H1 : Heap} (h : vx_L C n d A U H) (hq : ∀ a : Nat, a < H.size → ¬ A a → H1[a]? = H[a]?) : vx_L C n d A U H1 := by
  obtain ⟨c, k, i, f, a, cell, h1, h2, h3, h4, h5, h6, h7, h8, h9, h10⟩ := h
  exact ⟨c, k, i, f, a, cell, h1, h2, h3, h4, by rw [hq a (Array.getElem?_eq_some_iff.mp h5).1 h10]; exact h5, h6, h7, h8, h9, h10⟩
theorem vx_L.narrow {C n d : String} {A B : Nat → Prop} {U : State} {H : Heap} (h : vx_L C n d A U H) (hAB : ∀ q, B q → A q) : vx_L C n d B U H := by
  obtain ⟨c, k, i, f, a, cell, h1, h2, h3, h4, h5, h6, h7, h8, h9, h10⟩ := h
  exact ⟨c, k, i, f, a, cell, h1, h2, h3, h4, h5, h6, h7, h8, h9, fun z => h10 (hAB _ z)⟩
theorem vx_L.word {C n d : String} {A : Nat → Prop} {s : State} {args : Array Value} (h : vx_L C n d A s s.heap) : (Cond.laysStatic C n d).before args s = true := by
  obtain ⟨c, k, i, f, a, cell, h1, h2, h3, h4, h5, h6, h7, h8, h9, -⟩ := h
  show (Cond.laysStatic C n d).holds args s none s [] = true
  exact Cond.laysStatic_of h1 h2 h3 h4 h5 h6 h7 h8 h9
/-- .. and what it holds: null or some reference -/
def vx_Zq (C n d : String) (A : Nat → Prop) (U : State) (H : Heap) : Prop := va_Zq C n d A U H ∧ vx_L C n d A U H
theorem vx_Zq.moved {C n d : String} {A : Nat → Prop} {u U : State} {H : Heap} (hvm : u.vm.Alike U.vm) (h : vx_Zq C n d A u H) : vx_Zq C n d A U H := ⟨va_Zq.moved hvm h.1, vx_L.moved hvm h.2⟩
theorem vx_Zq.kept {C n d : String} {A : Nat → Prop} {U : State} {H H1 : Heap} (h : vx_Zq C n d A U H) (hq : ∀ a : Nat, a < H.size → ¬ A a → H1[a]? = H[a]?) : vx_Zq C n d A U H1 := ⟨va_Zq.kept h.1 hq, vx_L.kept h.2 hq⟩
theorem vx_Zq.narrow {C n d : String} {A B : Nat → Prop} {U : State} {H : Heap} (h : vx_Zq C n d A U H) (hAB : ∀ q, B q → A q) : vx_Zq C n d B U H := ⟨va_Zq.narrow h.1 hAB, vx_L.narrow h.2 hAB⟩
theorem vx_Zqof {args : Array Value} {s : State} {C n d : String} {A : Nat → Prop} (hl : (Cond.laysStatic C n d).before args s = true) (hini : (Cond.initialized C).before args s = true) (h : (Cond.isRef (.static C n d)).before args s = true) (hA : ∀ a : Nat, a < s.heap.size → ¬ A a) : vx_Zq C n d A s s.heap := by
  refine ⟨va_Zqof hl hini h hA, ?_⟩
  obtain ⟨c, k, i, f, a, cell, h1, h2, h3, h4, h5, h6, h7, h8, h9⟩ := Cond.laysStatic_spec hl
  exact ⟨c, k, i, f, a, cell, h1, h2, h3, h4, h5, h6, h7, h8, h9, hA a (Array.getElem?_eq_some_iff.mp h5).1⟩
theorem vx_isRef {C n d : String} {v : Value} {A : Nat → Prop} {s : State} {args : Array Value} (h : va_Z C n d v A s s.heap) (hv : v.isRef = true) : (Cond.isRef (.static C n d)).before args s = true := by
  obtain ⟨cf, kf, fi, f, a, cell, h1, h2, h3, h4, h5, h6, h7, -⟩ := h
  have he : (Term.static C n d).eval args s none [] s = some v := by
    simp [Term.eval, State.fieldNamed?, h1, h2, h4, h5, h6, h7]
  simp only [Cond.before, Cond.holds, Cond.value, he]
  cases v <;> simp_all [Value.isRef]
theorem vx_isRefq {C n d : String} {A : Nat → Prop} {s : State} {args : Array Value} (h : va_Zq C n d A s s.heap) : (Cond.isRef (.static C n d)).before args s = true := by
  rcases h with h | ⟨t, h⟩
  · exact vx_isRef h rfl
  · exact vx_isRef h rfl
/-- the same frame, seen from here: as if the method were called anew in this heap -/
theorem vx_rebase {T : State} (X : Stand p l e R s m args below meth c T locs cells slots) {R' : Room} (hf : R'.frames ≤ R.frames) (hl : R'.locals ≤ R.locals) (hc : cells + R'.cells ≤ R.cells) (hs : slots + R'.slots ≤ R.slots) :
    Stand p l e R' ((T.setVm s.vm).setFrames (.invoking m args :: below)) m args below meth c T [] 0 0 := by
  have htop : (T.setVm s.vm).topJava?.isSome := X.here.top
  have hF : ((T.setVm s.vm).setFrames (.invoking m args :: below)).frames = .invoking m args :: below := State.frames_setFrames _ (State.cur_lt_of_top htop)
  obtain ⟨g₀, hg0⟩ := Option.isSome_iff_exists.mp htop
  obtain ⟨r, hr⟩ := State.topJava?_eq_some.mp hg0
  have hl9 : e.platform.stackLimits (T.setVm s.vm).me = e.platform.stackLimits s.me := X.limits
  have hb9 : (T.setVm s.vm).me.stackBytes = s.me.stackBytes := X.bytes
  refine ⟨X.admits, X.cas, X.clock, hF, ?_, X.hears, X.method, X.code, X.here, X.tail, X.warmed, ?_, ?_, ?_⟩
  · have h := X.room
    have hU : ((T.setVm s.vm).setFrames (.invoking m args :: below)).localsInUse = s.localsInUse := by
      rw [State.localsInUse_invoking hF (meth := meth) (c := c) X.method X.code, State.localsInUse_invoking X.frames X.method X.code]
    simp only [State.hasRoom, Bool.and_eq_true, decide_eq_true_eq] at h ⊢
    obtain ⟨⟨⟨⟨h1, h2, h3, h4, h5, h6⟩, h7⟩, h8⟩, h9⟩ := h
    rw [X.frames, List.length_cons] at h2 h3
    have q1 := X.heapSize
    have q2 := X.used
    simp only [hF, hU, List.length_cons, State.stackLimits_setFrames, State.stackBytes_setFrames, hl9, hb9]
    refine ⟨⟨⟨⟨by omega, by omega, by omega, by omega, by omega, h6⟩, ?_⟩, ?_⟩, X.book⟩
    · show T.heap.size + R'.cells ≤ e.platform.maxCells
      omega
    · show T.slotsUsed + R'.slots ≤ e.platform.maxSlots
      omega
  · rw [State.stackLimits_setFrames]; rfl
  · rw [State.stackBytes_setFrames]; rfl
  · refine ⟨?_, Nat.le_refl _, Nat.le_refl _, ?_, ?_, fun a c9 h9 => ⟨c9, h9, rfl, rfl, fun _ _ => rfl⟩⟩
    · obtain ⟨t, ht, -⟩ := State.frames_cons hr
      show T.setVm s.vm = { ((T.setVm s.vm).setFrames (.invoking m args :: below)).setFrames (T.setVm s.vm).frames with heap := T.heap, slotsUsed := T.slotsUsed }
      rw [State.setFrames_setFrames, State.setFrames_self ht]
      rfl
    · show T.slotsUsed = T.slotsUsed + ((T.heap.toList.drop T.heap.size).map (·.slots.size)).sum
      rw [List.drop_eq_nil_of_le (Nat.le_of_eq Array.length_toList)]
      rfl
    · show ((T.heap.toList.drop T.heap.size).map (·.slots.size)).sum ≤ 0
      rw [List.drop_eq_nil_of_le (Nat.le_of_eq Array.length_toList)]
      exact Nat.le_refl _
/-- 'throw new E()': new; dup; invokespecial; athrow -/
theorem vx_throw0 {cc : ByteArray} {pc : Nat} (hexec : p.tables.exec = Jvm.exec) (hb : c.code = cc) (hl : l.stackTraces = false) {own cls : String} {names : List String} {ik ic mc ms : Nat} {A : Nat → Prop}
    (hown : s.vm.findClass own = some m.cls) (hcls : Bundle.fit cls = true) (hnames : ∀ n ∈ names, Bundle.fit n = true)
    (hk : (Cond.classLink own ik cls).before args s = true) (hini : (Cond.initialized cls).before args s = true) (hat : ∀ w ∈ vx_at0 own ic cls names, w.before args s = true)
    (hgood : ∀ w ∈ Cond.classLink own ik cls :: Cond.initialized cls :: vx_at0 own ic cls names, vx_ot w = true)
    (hU : vx_Zq Bundle.tN "UNASSIGNED_STACK" Bundle.steD A s s.heap) (hN : vx_Zq Bundle.tN "SUPPRESSED_SENTINEL" Bundle.listD A s s.heap) (hS : va_S A s.heap H locs) (hsize : ls.size = c.maxLocals)
    (d0 : decode cc pc = .ok (.new ik, 3)) (d3 : decode cc (pc + 3) = .ok (.dup, 1)) (d4 : decode cc (pc + 4) = .ok (.invokespecial ic, 3)) (d7 : decode cc (pc + 7) = .ok (.athrow, 1))
    (hout : ∀ x ∈ c.exceptionTable.toList, covers x (pc + 7) = false)
    (hRframes : names.length + 3 < R.frames) (hRlocals : (rest.map fun v => v.category).sum + (13 * (names.length + 1) + 42) ≤ R.locals) (hRcells : cells + 1 ≤ R.cells) (hRslots : slots + 6 ≤ R.slots) (hlocks : meth.locks = false)
    (hx : ∀ t : State, s.vm.Alike t.vm → H.size ≤ t.heap.size → (∀ q : Nat, q < H.size → t.heap[q]? = H[q]?) → XC cls s t)
    (hf : ∀ z ∈ locs, free z.base) (hc : cells + 1 ≤ mc) (hs : slots + 6 ≤ ms) :
    W p l e R s m args below meth c H locs cells slots (vx_MQ below Qc XC args s mc ms free) (F0 m pc ls rest) := by
  intro T hT X
  have htr : e.platform.stackTraces = false := (show e.platform.stackTraces = l.stackTraces by rw [X.admits.platform]).trans hl
  have Y := vx_rebase X (R' := { frames := R.frames, locals := R.locals, cells := 1, slots := 6 }) (Nat.le_refl _) (Nat.le_refl _) hRcells hRslots
  obtain ⟨s', hA⟩ : ∃ z, z = (T.setVm s.vm).setFrames (.invoking m args :: below) := ⟨_, rfl⟩
  rw [← hA] at Y
  have hvm : s'.vm = s.vm := by rw [hA]; rfl
  have hhp : s'.heap = H := by rw [hA]; exact hT
  have hW0 : s.WarmedH s'.vm := by rw [hvm]; exact State.WarmedH.refl s
  have hat' : ∀ w ∈ vx_at0 own ic cls names, w.before args s' = true := fun w hw => vx_ot_at hW0 hvm.symm (hgood w (List.mem_cons_of_mem _ (List.mem_cons_of_mem _ hw))) (hat w hw)
  have hk' : (Cond.classLink own ik cls).before args s' = true := vx_ot_at hW0 hvm.symm (hgood _ List.mem_cons_self) hk
  have hini' : (Cond.initialized cls).before args s' = true := vx_ot_at hW0 hvm.symm (hgood _ (List.mem_cons_of_mem _ List.mem_cons_self)) hini
  have hU' : vx_Zq Bundle.tN "UNASSIGNED_STACK" Bundle.steD A s' s'.heap := by rw [hhp]; exact vx_Zq.moved hW0.alike (hU.kept hS.2.1)
  have hN' : vx_Zq Bundle.tN "SUPPRESSED_SENTINEL" Bundle.listD A s' s'.heap := by rw [hhp]; exact vx_Zq.moved hW0.alike (hN.kept hS.2.1)
  have h : ∀ w ∈ Bundle.ownAtoms0 own ic cls names, w.before args s' = true := vx_own hat' (vx_isRefq hU'.1) (vx_isRefq hN'.1) hU'.2.word hN'.2.word
  have hown' : s'.vm.findClass own = some m.cls := by rw [hvm]; exact hown
  have hins : (Cond.instantiable cls 6).before args s' = true := h _ (by simp [Bundle.ownAtoms0])
  obtain ⟨vm₁, cX, kX, hfX, hkX, -, -, X₁, st1⟩ := Y.newCold hexec (own := own) (C := cls) (index := ik) (n := 6) hown' hk' hins hini'
    (g := F0 m pc ls rest) rfl (by rw [hb]; exact d0) (Nat.le_refl _) (Nat.le_refl _)
  generalize hT1 : (T.setVm vm₁).pushCell { cls := cX, slots := kX.instanceTypes.map defaultValue, vm := .none } = T1 at X₁ st1
  have hcat : (Value.ref T.heap.size).category = 1 := rfl
  have hcellA : T1.heap[T.heap.size]? = some (freshCell cX kX) := by rw [← hT1]; exact State.heap_pushCell_size _ _
  have d3' : decode c.code (pc + 3) = .ok (.dup, 1) := by rw [hb]; exact d3
  obtain ⟨U, hsteps, hrun, hend, hW, hsame, ce, hce, hO⟩ := X₁.ctorThrow0 hexec htr (own := own) (cls := cls) (names := names) (ic := ic) hown' hcls hnames h (fun x hx => nomatch hx) hfX hkX hcellA (by rw [hhp, hT]; exact Nat.le_refl _)
    (g := { method := m, pc := pc + 4, locals := ls, stack := .ref T.heap.size :: .ref T.heap.size :: rest, locked := none }) rfl hsize rfl rfl (rest := rest) rfl
    (by rw [hb]; exact d4) (by rw [hb]; exact d7) hout hRframes (by simp only [List.map_cons, List.sum_cons, hcat]; omega) hlocks
  obtain ⟨f1, f2⟩ := vx_frame hsame
  rw [hhp] at f1 f2
  have hWs : s.WarmedH U.vm := State.WarmedH.trans hW0 hW
  have hcl : s.vm.findClass cls = some ce.cls := by
    have h9 := hO.cls
    rw [hvm] at h9
    exact h9
  have hall : s.sameButNew ({ U with vm := s.vm } : State) locs mc ms := by
    subst hA
    obtain ⟨e1, e2⟩ := hsame
    rw [State.setFrames_setFrames] at e1
    have h2 : (T.setVm s.vm).sameButNew ({ U with vm := s.vm } : State) [] (0 + 1) (0 + 6) := ⟨e1, e2⟩
    have h3 := X.same.trans h2
    rw [List.append_nil] at h3
    exact h3.mono hc hs
  refine ⟨U, ?_, .threw T.heap.size, hrun, hend, Or.inr ⟨T.heap.size, rfl, cls, ce, locs, hx U hWs.alike f1 (fun q hq => f2 q hq (fun z hz => nomatch hz)), hce, hO.vm, hcl, hWs, hall, hf⟩⟩
  refine st1 _ ?_
  show Steps p.tables e below (T1.setTop { method := m, pc := pc + 3, locals := ls, stack := .ref T.heap.size :: rest, locked := none }) _
  jvm_step X₁.here [X₁.here.top, hexec, d3', Value.category]
  exact hsteps
/-- 'throw new E("text")': new; dup; ldc; invokespecial; athrow -/
theorem vx_throwS {cc : ByteArray} {pc : Nat} (hexec : p.tables.exec = Jvm.exec) (hb : c.code = cc) (hl : l.stackTraces = false) {own cls text : String} {names : List String} {ik is ic mc ms sa : Nat} {A : Nat → Prop}
    (hown : s.vm.findClass own = some m.cls) (hcls : Bundle.fit cls = true) (hnames : ∀ n ∈ names, Bundle.fit n = true)
    (hk : (Cond.classLink own ik cls).before args s = true) (hini : (Cond.initialized cls).before args s = true) (hstr : vk_R own is text sa s) (hat : ∀ w ∈ vx_atS own ic cls names, w.before args s = true)
    (hgood : ∀ w ∈ Cond.classLink own ik cls :: Cond.initialized cls :: vx_atS own ic cls names, vx_ot w = true)
    (hU : vx_Zq Bundle.tN "UNASSIGNED_STACK" Bundle.steD A s s.heap) (hN : vx_Zq Bundle.tN "SUPPRESSED_SENTINEL" Bundle.listD A s s.heap) (hS : va_S A s.heap H locs) (hsize : ls.size = c.maxLocals)
    (d0 : decode cc pc = .ok (.new ik, 3)) (d3 : decode cc (pc + 3) = .ok (.dup, 1)) (d4 : decode cc (pc + 4) = .ok (.ldc is, 2)) (d6 : decode cc (pc + 6) = .ok (.invokespecial ic, 3)) (d9 : decode cc (pc + 9) = .ok (.athrow, 1))
    (hout : ∀ x ∈ c.exceptionTable.toList, covers x (pc + 9) = false)
    (hRframes : names.length + 3 < R.frames) (hRlocals : (rest.map fun v => v.category).sum + (13 * (names.length + 1) + 43) ≤ R.locals) (hRcells : cells + 1 ≤ R.cells) (hRslots : slots + 6 ≤ R.slots) (hlocks : meth.locks = false)
    (hx : ∀ t : State, s.vm.Alike t.vm → H.size ≤ t.heap.size → (∀ q : Nat, q < H.size → t.heap[q]? = H[q]?) → XC cls s t)
    (hf : ∀ z ∈ locs, free z.base) (hc : cells + 1 ≤ mc) (hs : slots + 6 ≤ ms) :
    W p l e R s m args below meth c H locs cells slots (vx_MQ below Qc XC args s mc ms free) (F0 m pc ls rest) := by
  intro T hT X
  have htr : e.platform.stackTraces = false := (show e.platform.stackTraces = l.stackTraces by rw [X.admits.platform]).trans hl
  have Y := vx_rebase X (R' := { frames := R.frames, locals := R.locals, cells := 1, slots := 6 }) (Nat.le_refl _) (Nat.le_refl _) hRcells hRslots
  obtain ⟨s', hA⟩ : ∃ z, z = (T.setVm s.vm).setFrames (.invoking m args :: below) := ⟨_, rfl⟩
  rw [← hA] at Y
  have hvm : s'.vm = s.vm := by rw [hA]; rfl
  have hhp : s'.heap = H := by rw [hA]; exact hT
  have hW0 : s.WarmedH s'.vm := by rw [hvm]; exact State.WarmedH.refl s
  have hat' : ∀ w ∈ vx_atS own ic cls names, w.before args s' = true := fun w hw => vx_ot_at hW0 hvm.symm (hgood w (List.mem_cons_of_mem _ (List.mem_cons_of_mem _ hw))) (hat w hw)
  have hk' : (Cond.classLink own ik cls).before args s' = true := vx_ot_at hW0 hvm.symm (hgood _ List.mem_cons_self) hk
  have hini' : (Cond.initialized cls).before args s' = true := vx_ot_at hW0 hvm.symm (hgood _ (List.mem_cons_of_mem _ List.mem_cons_self)) hini
  have hU' : vx_Zq Bundle.tN "UNASSIGNED_STACK" Bundle.steD A s' s'.heap := by rw [hhp]; exact vx_Zq.moved hW0.alike (hU.kept hS.2.1)
  have hN' : vx_Zq Bundle.tN "SUPPRESSED_SENTINEL" Bundle.listD A s' s'.heap := by rw [hhp]; exact vx_Zq.moved hW0.alike (hN.kept hS.2.1)
  have h : ∀ w ∈ Bundle.ownAtoms own ic cls names, w.before args s' = true := vx_own hat' (vx_isRefq hU'.1) (vx_isRefq hN'.1) hU'.2.word hN'.2.word
  have hown' : s'.vm.findClass own = some m.cls := by rw [hvm]; exact hown
  have hins : (Cond.instantiable cls 6).before args s' = true := h _ (by simp [Bundle.ownAtoms])
  obtain ⟨vm₁, cX, kX, hfX, hkX, -, -, X₁, st1⟩ := Y.newCold hexec (own := own) (C := cls) (index := ik) (n := 6) hown' hk' hins hini'
    (g := F0 m pc ls rest) rfl (by rw [hb]; exact d0) (Nat.le_refl _) (Nat.le_refl _)
  generalize hT1 : (T.setVm vm₁).pushCell { cls := cX, slots := kX.instanceTypes.map defaultValue, vm := .none } = T1 at X₁ st1
  have hcat : (Value.ref T.heap.size).category = 1 := rfl
  have hcellA : T1.heap[T.heap.size]? = some (freshCell cX kX) := by rw [← hT1]; exact State.heap_pushCell_size _ _
  have d3' : decode c.code (pc + 3) = .ok (.dup, 1) := by rw [hb]; exact d3
  have d4' : decode c.code (pc + 4) = .ok (.ldc is, 2) := by rw [hb]; exact d4
  have hstr' : vk_R own is text sa s' := vk_R.warm hW0 hstr
  obtain ⟨U, hsteps, hrun, hend, hW, hsame, ce, hce, hO⟩ := X₁.ctorThrowS hexec htr (own := own) (cls := cls) (names := names) (ic := ic) hown' hcls hnames h (fun x hx => nomatch hx) hfX hkX hcellA (by rw [hhp, hT]; exact Nat.le_refl _) (msg := .ref sa) rfl
    (g := { method := m, pc := pc + 6, locals := ls, stack := .ref sa :: .ref T.heap.size :: .ref T.heap.size :: rest, locked := none }) rfl hsize rfl rfl (rest := rest) rfl
    (by rw [hb]; exact d6) (by rw [hb]; exact d9) hout hRframes (by simp only [List.map_cons, List.sum_cons, hcat]; omega) hlocks
  obtain ⟨f1, f2⟩ := vx_frame hsame
  rw [hhp] at f1 f2
  have hWs : s.WarmedH U.vm := State.WarmedH.trans hW0 hW
  have hcl : s.vm.findClass cls = some ce.cls := by
    have h9 := hO.cls
    rw [hvm] at h9
    exact h9
  have hall : s.sameButNew ({ U with vm := s.vm } : State) locs mc ms := by
    subst hA
    obtain ⟨e1, e2⟩ := hsame
    rw [State.setFrames_setFrames] at e1
    have h2 : (T.setVm s.vm).sameButNew ({ U with vm := s.vm } : State) [] (0 + 1) (0 + 6) := ⟨e1, e2⟩
    have h3 := X.same.trans h2
    rw [List.append_nil] at h3
    exact h3.mono hc hs
  refine ⟨U, ?_, .threw T.heap.size, hrun, hend, Or.inr ⟨T.heap.size, rfl, cls, ce, locs, hx U hWs.alike f1 (fun q hq => f2 q hq (fun z hz => nomatch hz)), hce, hO.vm, hcl, hWs, hall, hf⟩⟩
  refine st1 _ ?_
  show Steps p.tables e below (T1.setTop { method := m, pc := pc + 3, locals := ls, stack := .ref T.heap.size :: rest, locked := none }) _
  jvm_step X₁.here [X₁.here.top, hexec, d3', Value.category]
  exact X₁.ldcString hexec (own := own) (text := text) (index := is) (a := sa) hown' hstr'.1 hstr'.2
    (g := { method := m, pc := pc + 4, locals := ls, stack := .ref T.heap.size :: .ref T.heap.size :: rest, locked := none }) rfl d4' _ hsteps
/-- 'throw new E("text")', the text by a wide index -/
theorem vx_throwSW {cc : ByteArray} {pc : Nat} (hexec : p.tables.exec = Jvm.exec) (hb : c.code = cc) (hl : l.stackTraces = false) {own cls text : String} {names : List String} {ik is ic mc ms sa : Nat} {A : Nat → Prop}
    (hown : s.vm.findClass own = some m.cls) (hcls : Bundle.fit cls = true) (hnames : ∀ n ∈ names, Bundle.fit n = true)
    (hk : (Cond.classLink own ik cls).before args s = true) (hini : (Cond.initialized cls).before args s = true) (hstr : vk_R own is text sa s) (hat : ∀ w ∈ vx_atS own ic cls names, w.before args s = true)
    (hgood : ∀ w ∈ Cond.classLink own ik cls :: Cond.initialized cls :: vx_atS own ic cls names, vx_ot w = true)
    (hU : vx_Zq Bundle.tN "UNASSIGNED_STACK" Bundle.steD A s s.heap) (hN : vx_Zq Bundle.tN "SUPPRESSED_SENTINEL" Bundle.listD A s s.heap) (hS : va_S A s.heap H locs) (hsize : ls.size = c.maxLocals)
    (d0 : decode cc pc = .ok (.new ik, 3)) (d3 : decode cc (pc + 3) = .ok (.dup, 1)) (d4 : decode cc (pc + 4) = .ok (.ldc_w is, 3)) (d7 : decode cc (pc + 7) = .ok (.invokespecial ic, 3)) (d10 : decode cc (pc + 10) = .ok (.athrow, 1))
    (hout : ∀ x ∈ c.exceptionTable.toList, covers x (pc + 10) = false)
    (hRframes : names.length + 3 < R.frames) (hRlocals : (rest.map fun v => v.category).sum + (13 * (names.length + 1) + 43) ≤ R.locals) (hRcells : cells + 1 ≤ R.cells) (hRslots : slots + 6 ≤ R.slots) (hlocks : meth.locks = false)
    (hx : ∀ t : State, s.vm.Alike t.vm → H.size ≤ t.heap.size → (∀ q : Nat, q < H.size → t.heap[q]? = H[q]?) → XC cls s t)
    (hf : ∀ z ∈ locs, free z.base) (hc : cells + 1 ≤ mc) (hs : slots + 6 ≤ ms) :
    W p l e R s m args below meth c H locs cells slots (vx_MQ below Qc XC args s mc ms free) (F0 m pc ls rest) := by
  intro T hT X
  have htr : e.platform.stackTraces = false := (show e.platform.stackTraces = l.stackTraces by rw [X.admits.platform]).trans hl
  have Y := vx_rebase X (R' := { frames := R.frames, locals := R.locals, cells := 1, slots := 6 }) (Nat.le_refl _) (Nat.le_refl _) hRcells hRslots
  obtain ⟨s', hA⟩ : ∃ z, z = (T.setVm s.vm).setFrames (.invoking m args :: below) := ⟨_, rfl⟩
  rw [← hA] at Y
  have hvm : s'.vm = s.vm := by rw [hA]; rfl
  have hhp : s'.heap = H := by rw [hA]; exact hT
  have hW0 : s.WarmedH s'.vm := by rw [hvm]; exact State.WarmedH.refl s
  have hat' : ∀ w ∈ vx_atS own ic cls names, w.before args s' = true := fun w hw => vx_ot_at hW0 hvm.symm (hgood w (List.mem_cons_of_mem _ (List.mem_cons_of_mem _ hw))) (hat w hw)
  have hk' : (Cond.classLink own ik cls).before args s' = true := vx_ot_at hW0 hvm.symm (hgood _ List.mem_cons_self) hk
  have hini' : (Cond.initialized cls).before args s' = true := vx_ot_at hW0 hvm.symm (hgood _ (List.mem_cons_of_mem _ List.mem_cons_self)) hini
  have hU' : vx_Zq Bundle.tN "UNASSIGNED_STACK" Bundle.steD A s' s'.heap := by rw [hhp]; exact vx_Zq.moved hW0.alike (hU.kept hS.2.1)
  have hN' : vx_Zq Bundle.tN "SUPPRESSED_SENTINEL" Bundle.listD A s' s'.heap := by rw [hhp]; exact vx_Zq.moved hW0.alike (hN.kept hS.2.1)
  have h : ∀ w ∈ Bundle.ownAtoms own ic cls names, w.before args s' = true := vx_own hat' (vx_isRefq hU'.1) (vx_isRefq hN'.1) hU'.2.word hN'.2.word
  have hown' : s'.vm.findClass own = some m.cls := by rw [hvm]; exact hown
  have hins : (Cond.instantiable cls 6).before args s' = true := h _ (by simp [Bundle.ownAtoms])
  obtain ⟨vm₁, cX, kX, hfX, hkX, -, -, X₁, st1⟩ := Y.newCold hexec (own := own) (C := cls) (index := ik) (n := 6) hown' hk' hins hini'
    (g := F0 m pc ls rest) rfl (by rw [hb]; exact d0) (Nat.le_refl _) (Nat.le_refl _)
  generalize hT1 : (T.setVm vm₁).pushCell { cls := cX, slots := kX.instanceTypes.map defaultValue, vm := .none } = T1 at X₁ st1
  have hcat : (Value.ref T.heap.size).category = 1 := rfl
  have hcellA : T1.heap[T.heap.size]? = some (freshCell cX kX) := by rw [← hT1]; exact State.heap_pushCell_size _ _
  have d3' : decode c.code (pc + 3) = .ok (.dup, 1) := by rw [hb]; exact d3
  have d4' : decode c.code (pc + 4) = .ok (.ldc_w is, 3) := by rw [hb]; exact d4
  have hstr' : vk_R own is text sa s' := vk_R.warm hW0 hstr
  obtain ⟨U, hsteps, hrun, hend, hW, hsame, ce, hce, hO⟩ := X₁.ctorThrowS hexec htr (own := own) (cls := cls) (names := names) (ic := ic) hown' hcls hnames h (fun x hx => nomatch hx) hfX hkX hcellA (by rw [hhp, hT]; exact Nat.le_refl _) (msg := .ref sa) rfl
    (g := { method := m, pc := pc + 7, locals := ls, stack := .ref sa :: .ref T.heap.size :: .ref T.heap.size :: rest, locked := none }) rfl hsize rfl rfl (rest := rest) rfl
    (by rw [hb]; exact d7) (by rw [hb]; exact d10) hout hRframes (by simp only [List.map_cons, List.sum_cons, hcat]; omega) hlocks
  obtain ⟨f1, f2⟩ := vx_frame hsame
  rw [hhp] at f1 f2
  have hWs : s.WarmedH U.vm := State.WarmedH.trans hW0 hW
  have hcl : s.vm.findClass cls = some ce.cls := by
    have h9 := hO.cls
    rw [hvm] at h9
    exact h9
  have hall : s.sameButNew ({ U with vm := s.vm } : State) locs mc ms := by
    subst hA
    obtain ⟨e1, e2⟩ := hsame
    rw [State.setFrames_setFrames] at e1
    have h2 : (T.setVm s.vm).sameButNew ({ U with vm := s.vm } : State) [] (0 + 1) (0 + 6) := ⟨e1, e2⟩
    have h3 := X.same.trans h2
    rw [List.append_nil] at h3
    exact h3.mono hc hs
  refine ⟨U, ?_, .threw T.heap.size, hrun, hend, Or.inr ⟨T.heap.size, rfl, cls, ce, locs, hx U hWs.alike f1 (fun q hq => f2 q hq (fun z hz => nomatch hz)), hce, hO.vm, hcl, hWs, hall, hf⟩⟩
  refine st1 _ ?_
  show Steps p.tables e below (T1.setTop { method := m, pc := pc + 3, locals := ls, stack := .ref T.heap.size :: rest, locked := none }) _
  jvm_step X₁.here [X₁.here.top, hexec, d3', Value.category]
  exact X₁.ldcStringW hexec (own := own) (text := text) (index := is) (a := sa) hown' hstr'.1 hstr'.2
    (g := { method := m, pc := pc + 4, locals := ls, stack := .ref T.heap.size :: .ref T.heap.size :: rest, locked := none }) rfl d4' _ hsteps
end Ends
section Bodies
variable {l : Launch}
theorem vx_ofW {y : MethodName} {ws ws' : List Cond} {rm : Room} {Pc : Array Value → State → Prop} {Qc : Array Value → State → Outcome → State → Prop} {XC : String → State → State → Prop} {mc ms : Nat} {free : Addr → Prop} {cc : ByteArray} {maxL : Nat} {ret : Option FieldType}
    (hy : plainName y.cls = true) (hw : ws = Cond.code y cc maxL ret :: ws')
    (body : ∀ p e s m args below meth c s₁, BodyLoose p l y (headSpec ws rm) cc maxL ret e s m args below meth c s₁ → c.maxLocals = maxL → (∀ x ∈ c.exceptionTable.toList, False) → Pc args s →
      W p l e (headSpec ws rm).room s m args below meth c s.heap [] 0 0 (vx_MQ below Qc XC args s mc ms free) (entryFrame m args maxL)) : vx_Met l y ws rm Pc Qc XC mc ms free := by
  refine MetFree.of_bodyS (code := cc) (maxLocals := maxL) (ret := ret) hy ?_ ?_
  · intro args s m h hn
    obtain ⟨meth, c, h1, h2, h3, h4, h5, h6, -, -⟩ := Cond.code_spec hn (atoms_spec (ws := ws) h _ (by rw [hw]; exact List.mem_cons_self))
    exact ⟨meth, c, h1, h2, h3, h4, h5, h6⟩
  · intro p e s m args below meth c s₁ B hml hP _
    have hh0 : s₁.heap = s.heap := by rw [B.state]; rfl
    have ht : ∀ x ∈ c.exceptionTable.toList, False := by
      obtain ⟨meth9, c9, h1, h2, -, -, -, -, h7, -⟩ := Cond.code_spec B.named (atoms_spec (ws := ws) B.pre _ (by rw [hw]; exact List.mem_cons_self))
      cases Option.some.inj (h1.symm.trans B.method)
      cases Option.some.inj (h2.symm.trans (Stand.of_body B).code)
      intro x hx
      rw [Array.isEmpty_iff.mp h7] at hx
      cases hx
    obtain ⟨t, a1, o, b1, b2, b3⟩ := body p e s m args below meth c s₁ B hml ht hP s₁ hh0 (Stand.of_body B)
    exact ⟨t, o, a1, b1, b2, b3⟩
/-- the table of a body with handlers -/
theorem vx_table {p : Program} {x y : MethodName} {S : Spec} {cc bytes : ByteArray} {maxL maxL' : Nat} {ret ret' : Option FieldType} {e : Env} {s s₁ : State} {m : MethodId} {args : Array Value} {below : List Frame} {meth : Method} {c : Code} {hh : List (Nat × Nat × Nat × Nat)}
    (B : BodyLoose p l y S cc maxL ret e s m args below meth c s₁) (h : (Cond.codeWith y bytes maxL' ret' hh).before args s = true) : c.exceptionTable.toList = tableOf hh := by
  obtain ⟨m9, meth9, c9, hn9, h1, h2, -, -, h6, -⟩ := Cond.codeWith_spec h
  cases Option.some.inj (hn9.symm.trans B.named)
  cases Option.some.inj (h1.symm.trans B.method)
  cases Option.some.inj (h2.symm.trans (Stand.of_body B).code)
  rw [← h6, table_eq]
end Bodies
end VXA
/-! ===== END ===== -/
/-! ===== BEGIN a static call of a method with an exception table ===== -/
section VXS
variable {p : Program} {l : Launch} {e : Env} {R : Room} {s : State} {m : MethodId} {args : Array Value} {below : List Frame} {meth : Method} {c : Code} {T : State} {H : Heap} {locs : List Loc} {cells slots : Nat}
abbrev vx_CSW (R : Room) (s : State) (args : Array Value) (own : String) (index : Nat) (y : MethodName) (bytes : ByteArray) (maxL : Nat) (ret : Option FieldType) (hh : List (Nat × Nat × Nat × Nat)) (ws : List Cond) (rm : Room) (mc ms n : Nat) : Prop :=
  (rm.cells = mc ∧ rm.slots = ms ∧ rm.frames + 1 ≤ R.frames ∧ 8 + (maxL + 11) + rm.locals ≤ R.locals ∧ (∀ w ∈ ws, ∀ (a' : Array Value) (U : State), s.WarmedH U.vm → w.before a' U = true) ∧ Cond.codeWith y bytes maxL ret hh ∈ ws) ∧
  (Cond.codeWith y bytes maxL ret hh).before args s = true ∧ (Cond.initialized y.cls).before args s = true ∧ (y.cls ≠ "java/lang/invoke/MethodHandle" ∧ y.cls ≠ "java/lang/invoke/VarHandle") ∧
  (∀ sig, parseMethodDescriptor y.desc = some sig → n = sig.parameters.length) ∧ (Cond.methodLink own index y).before args s = true ∧ (Cond.static y).before args s = true
theorem vx_cwSW {own : String} {index maxL mc ms : Nat} {y : MethodName} {bytes : ByteArray} {ret : Option FieldType} {hh : List (Nat × Nat × Nat × Nat)} {Ts ws ws' : List Cond} {rm : Room} (n : Nat) (ht : ∀ w ∈ Ts, w.before args s = true) (hT : GoodIn Ts (va_wsS own index y ws)) (hw : ws = Cond.codeWith y bytes maxL ret hh :: ws') (hrc : rm.cells = mc) (hrs : rm.slots = ms)
    (hd : y.cls ≠ "java/lang/invoke/MethodHandle" ∧ y.cls ≠ "java/lang/invoke/VarHandle" ∧ (parseMethodDescriptor y.desc).map (fun d => d.parameters.length) = some n) (hR : rm.frames + 1 ≤ R.frames ∧ 8 + (maxL + 11) + rm.locals ≤ R.locals) :
    vx_CSW R s args own index y bytes maxL ret hh ws rm mc ms n := by
  have ok : ∀ w ∈ va_wsS own index y ws, w.before args s = true := fun w h => ht w (hT w h).1
  have hG : GoodIn Ts ws := fun w h => hT w (by unfold va_wsS; exact List.mem_append_right _ h)
  have hc : Cond.codeWith y bytes maxL ret hh ∈ ws := by rw [hw]; exact List.mem_cons_self
  refine ⟨⟨hrc, hrs, hR.1, hR.2, pay_in ht hG, hc⟩, ht _ (hG _ hc).1, ok _ (by simp [va_wsS]), ⟨hd.1, hd.2.1⟩, fun sig h => ?_, ok _ (by simp [va_wsS]), ok _ (by simp [va_wsS])⟩
  have h2 := hd.2.2
  rw [h] at h2
  exact (Option.some.inj h2).symm
theorem vx_callSW (X : Stand p l e R s m args below meth c T locs cells slots) (hexec : p.tables.exec = Jvm.exec) {own : String} {index : Nat} {y : MethodName} {bytes : ByteArray} {maxL : Nat} {ret : Option FieldType} {hh : List (Nat × Nat × Nat × Nat)}
    (hown : s.vm.findClass own = some m.cls) (hlink : (Cond.methodLink own index y).before args s = true) (hstat : (Cond.static y).before args s = true) (hinit : (Cond.initialized y.cls).before args s = true)
    (hcode : (Cond.codeWith y bytes maxL ret hh).before args s = true) (hy : y.cls ≠ "java/lang/invoke/MethodHandle" ∧ y.cls ≠ "java/lang/invoke/VarHandle")
    {W9 : Nat} {Pre : Pt → Array Value → Prop} {Post : Pt → Array Value → Option Value → Pt → Prop} (hK : Back l R p e below s args y 3 W9 Pre Post)
    {g : JFrame} (hg : g.method = m) (hsize : g.locals.size = c.maxLocals) {argsL rest : List Value} (hlen : ∀ sig, parseMethodDescriptor y.desc = some sig → argsL.length = sig.parameters.length)
    (hstack : g.stack = argsL.reverse ++ rest) (hW : 2 * g.monitorRoom + (rest.map fun v => v.category).sum ≤ W9) (hdg : decode c.code g.pc = .ok (.invokestatic index, 3))
    (hpre : ∀ vm₁, s.WarmedH vm₁ → Pre ⟨T.setVm vm₁, locs, cells, slots⟩ argsL.toArray) :
    ∃ (v : Option Value) (vm₁ : Vm) (B : Pt), s.WarmedH vm₁ ∧ Stand p l e R s m args below meth c B.U B.locs B.cells B.slots ∧ Post ⟨T.setVm vm₁, locs, cells, slots⟩ argsL.toArray v B ∧
      ∀ target, Steps p.tables e below (B.U.setTop { g with pc := g.pc + 3, stack := v.toList ++ rest }) target → Steps p.tables e below (T.setTop g) target := by
  obtain ⟨mk, methM, cM, hnamed, hmethM, -, -, -, -, -, -, hsigM⟩ := Cond.codeWith_spec hcode
  have hstatic : methM.isStatic = true := Cond.static_spec hnamed hmethM hstat
  obtain ⟨kP, hkP, -⟩ := className_of_methodNamed hnamed
  have hinitP : kP.init = .initialized := Cond.initialized_spec (findClass_of_methodNamed hnamed) hkP hinit
  obtain ⟨vm₁, X₁, hstep₁⟩ := X.invokestatic hexec hown hlink hnamed hmethM hstatic hkP hinitP hy (g := g) hg (argsL := argsL) (rest := rest) (hlen _ hsigM) hstack hdg
  obtain ⟨v, B, X', hpost, hsteps⟩ := hK m meth c ⟨T.setVm vm₁, locs, cells, slots⟩ { g with stack := rest } (.invokestatic index) mk argsL.toArray X₁ hg hsize hdg hW (X₁.named hnamed) (hpre vm₁ X₁.warmed)
  exact ⟨v, vm₁, B, X₁.warmed, X', hpost, fun target h => hstep₁ _ fun acts => by rw [doInvoke_state]; exact hsteps.trans h⟩
theorem vx_runSW {y : MethodName} {bytes cc : ByteArray} {maxL nL mc ms n index : Nat} {ret : Option FieldType} {hh : List (Nat × Nat × Nat × Nat)} {ws : List Cond} {rm : Room} {Pc : Array Value → State → Prop} {Qc : Array Value → State → Outcome → State → Prop} {free : Addr → Prop} {Ts : List Cond} {own : String} {As rest : List Value} {g : JFrame}
    (S : CallFix p m c cc nL s args Ts own) (hM : Met l y ws rm Pc Qc mc ms free) (cw : vx_CSW R s args own index y bytes maxL ret hh ws rm mc ms n) (hp : PreS s H Pc As)
    (hg : g.method = m) (hn : As.length = n) (hsize : g.locals.size = nL) (hstack : g.stack = As.reverse ++ rest) (hW : 2 * g.monitorRoom + (rest.map fun v => v.category).sum ≤ 8) (hdg : decode cc g.pc = .ok (.invokestatic index, 3)) (hf : cells + mc ≤ R.cells ∧ slots + ms ≤ R.slots) :
    va_Run p l e R s m args below meth c H locs cells slots mc ms g rest (Qc As.toArray) (free) := by
  obtain ⟨⟨hrc, hrs, hfr, hlo, hws, hcw⟩, hcode, hini, hy, hlen, hl, hstt⟩ := cw
  have hK : Back l R p e below s args y 3 8 (PreOf R mc ms Pc) (PostOf Qc mc ms free) := va_backW (hh := hh) (bytes := bytes) (maxL := maxL) (ret := ret) hM hp.1 hrc hrs hfr hlo hws hcw (fun a' U hW => word_at hW (Or.inl (by first | rfl | simp [Cond.onTables, Cond.keeps, Cond.steady])) hini)
  obtain ⟨hx, hb, hml, ho, -⟩ := S
  intro T hT X
  obtain ⟨v, vm₁, ⟨U', l2, c2, s2⟩, hW₁, X', ⟨g', mk, t, L, e1, e2, hq, h1, hL, h2, h3⟩, st⟩ := vx_callSW X hx (hh := hh) (bytes := bytes) (maxL := maxL) (ret := ret) ho hl hstt hini hcode hy hK hg (hsize.trans hml.symm) (argsL := As) (rest := rest) (fun sig h => hn.trans (hlen sig h)) hstack hW (by rw [hb]; exact hdg)
    (fun vm₁ hW₁ => ⟨hf.1, hf.2, hp.2 (T.setVm vm₁) hT hW₁⟩)
  dsimp only [Pt.U, Pt.locs, Pt.cells, Pt.slots] at X' e1 e2 h1 h2 h3 st
  subst h1; subst h2; subst h3
  exact ⟨v, (T.setVm vm₁).calling g' mk As.toArray, t, U', L, hT, X', hL, e1, e2, hq, st⟩
/-- not caught here, past rows that name other classes: it goes on to the caller -/
theorem vx_outP {p : Program} {l : Launch} {e : Env} {R : Room} {s : State} {m : MethodId} {args : Array Value} {below : List Frame} {meth : Method} {c : Code} {H : Heap} {locs : List Loc} {cells slots : Nat} {free : Addr → Prop} {ls : Array Slot} {rest : List Value} {Qc : Array Value → State → Outcome → State → Prop} {XC : String → State → State → Prop}
    {pc : Nat} {own E : String} {ce : Cell} {q : Addr} {mc ms : Nat} (hown : s.vm.findClass own = some m.cls) (hlocks : meth.locks = false)
    (hpass : ∀ z ∈ c.exceptionTable.toList, covers z pc = false ∨ (z.catchType ≠ 0 ∧ ∃ nm : String, (Cond.classLink own z.catchType nm).before args s = true ∧ va_Nc E nm s)) (hcell : H[q]? = some ce) (hv : ce.vm = .none) (hcl : s.vm.findClass E = some ce.cls)
    (hx : ∀ t : State, t.heap = H → s.vm.Alike t.vm → XC E s t) (hf : ∀ z ∈ locs, free z.base) (hc : cells ≤ mc) (hs : slots ≤ ms) :
    vx_W p l e R s m args below meth c H locs cells slots (vx_MQ below Qc XC args s mc ms free) (F0 m pc ls rest) q := by
  intro T hT X
  have hpl : e.platform.magicAccessors = ({} : Platform).magicAccessors := by rw [X.admits.platform]
  obtain ⟨vm', hW', X', st⟩ := X.outThrough hlocks q (g := F0 m pc ls rest) rfl rfl rfl (cell := ce) (by rw [hT]; exact hcell) (by rw [hv]; rfl)
    (by obtain ⟨k9, h9, -⟩ := Vm.findClass_spec hcl; exact ⟨k9, h9⟩) (fun z hz => by
      rcases hpass z hz with h | ⟨hz0, nm, hl1, hn1⟩
      · exact Or.inl h
      · obtain ⟨c6, hc6, hcl6⟩ := Cond.classLink_spec hown hl1 e.platform hpl
        obtain ⟨a8, b8, h1, h2, h3⟩ := hn1
        cases Option.some.inj (h1.symm.trans hcl)
        cases Option.some.inj (h2.symm.trans hc6)
        exact Or.inr ⟨hz0, _, hcl6, h3⟩)
  obtain ⟨g₀, hfr⟩ := X'.frames_eq
  have hcell9 : ((T.setVm vm').setFrames (.throwing q :: below)).heap[q]? = some ce := by
    show T.heap[q]? = some ce
    rw [hT]; exact hcell
  have hend : Ended ((T.setVm vm').setFrames (.throwing q :: below)) below (.threw q) := State.frames_setFrames _ (State.cur_lt_of_frames hfr)
  refine ⟨(T.setVm vm').setFrames (.throwing q :: below), ?_, .threw q, X'.here.running, hend, Or.inr ⟨q, rfl, E, ce, locs, hx _ hT (X'.ends _).1.alike, hcell9, hv, hcl, (X'.ends _).1, (X'.ends _).2.mono hc hs, hf⟩⟩
  rw [X.pushThrowing_eq]
  exact st
/-- a thing of a world lies in the heap -/
theorem vx_lt {D : va_G} {cl : List vw_C} {ws : va_W} {H1 : Heap} (h : va_P D cl ws H1) {k : Nat} {q : Nat × va_E} (hk : ws[k]? = some q) : q.1 < H1.size := (h k q hk).lt
end VXS
/-! ===== END ===== -/
/-! ===== BEGIN methods with a table of their own: called by a name, returning or throwing ===== -/
section VXH
/-! vx_backW, vx_callVX, vx_callSX, vx_callVW, vx_runVW, vx_runVX, vx_runSX, vx_ofWH follow the same proofs as their sisters above (Free/Laws.lean, Shelf42/LK1.lean); vx_outP calls Shelf42/NT130.lean (outThrough). -/
section
variable {l : Launch} {R : Room} {p : Program} {e : Env} {below : List Frame} {s : State} {sargs : Array Value} {y : MethodName} {len W9 : Nat}
theorem vx_backW {ws : List Cond} {rm : Room} {Pc : Array Value → State → Prop} {Qc : Array Value → State → Outcome → State → Prop} {XC : String → State → State → Prop} {mc ms : Nat} {free : Addr → Prop} {bytes : ByteArray} {maxL : Nat} {ret : Option FieldType} {hh : List (Nat × Nat × Nat × Nat)}
    (hM : vx_Met l y ws rm Pc Qc XC mc ms free) (hblind : FrameBlind Pc) (hrc : rm.cells = mc) (hrs : rm.slots = ms)
    (hframes : rm.frames + 1 ≤ R.frames) (hlocals : W9 + (maxL + 11) + rm.locals ≤ R.locals)
    (hws : ∀ w ∈ ws, ∀ a' U, s.WarmedH U.vm → w.before a' U = true) (hcode : Cond.codeWith y bytes maxL ret hh ∈ ws) (hinit : ∀ a' U, s.WarmedH U.vm → (Cond.initialized y.cls).before a' U = true) :
    vx_Back l R p e below s sargs y len W9 (PreOf R mc ms Pc) (PostOf Qc mc ms free) (vx_Post XC mc ms free) := by
  intro m meth c A g ig mk a X hg hsize hdg hW hn hp
  have h1 : (headSpec ws rm).pre.before a A.U = true := atoms_intro fun w hw => hws w hw _ _ X.warmed
  have h2 : (Cond.codeWith y bytes maxL ret hh).before a A.U = true := hws _ hcode _ _ X.warmed
  have h3 : (Cond.initialized y.cls).before a A.U = true := hinit _ _ X.warmed
  have h4 : A.cells + (headSpec ws rm).room.cells ≤ R.cells := by rw [show (headSpec ws rm).room.cells = mc from hrc]; exact hp.1
  have h5 : A.slots + (headSpec ws rm).room.slots ≤ R.slots := by rw [show (headSpec ws rm).room.slots = ms from hrs]; exact hp.2.1
  have hPc : Pc a (A.U.calling g mk a) := hblind _ _ _ _ hp.2.2
  obtain ⟨U, Ls, c0, s0⟩ := A
  dsimp only [Pt.U, Pt.locs, Pt.cells, Pt.slots] at h1 h2 h3 h4 h5 X hn hPc ⊢
  obtain ⟨m9, methY, cY, hn9, hmY, hcY, -, hlY, -⟩ := Cond.codeWith_spec h2
  cases Option.some.inj (hn9.symm.trans hn)
  obtain ⟨kY, hkY, -⟩ := className_of_methodNamed hn
  have hinitY : kY.init = .initialized := Cond.initialized_spec (findClass_of_methodNamed hn) hkY h3
  have h : At U g.method c below := by rw [hg]; exact X.here
  have hlocals9 : W9 + (maxL + 11) + (headSpec ws rm).room.locals ≤ R.locals := hlocals
  have happ : (headSpec ws rm).appliesLoose y e.platform (U.calling g mk a) = true :=
    Spec.appliesLoose_calling (g := g) h hdg hn hkY hinitY
      (X.room_calling (g := g) (R' := (headSpec ws rm).room) hsize hmY hcY hframes (by rw [hlY]; omega) h4 h5) h1
  obtain ⟨mid, hmid⟩ := h.above
  have hfr : (U.setTop g).frames = (.java g :: mid) ++ below := by rw [State.frames_setTop' g h.top, hmid]; rfl
  obtain ⟨o, s₂, hsteps, -, hend, hq⟩ := Steps.callFree hM p X.admits X.cas X.clock (acts := []) hfr happ hPc trivial
  have hq' : vx_Q Qc XC mc ms free a (U.calling g mk a) o s₂ := hq
  rw [State.frames_setTop' g h.top] at hend
  obtain ⟨g₀, hg0⟩ := Option.isSome_iff_exists.mp h.top
  obtain ⟨r, hr⟩ := State.topJava?_eq_some.mp hg0
  have hr' : (({ U with heap := s₂.heap, slotsUsed := s₂.slotsUsed } : State).setVm s₂.vm).frames = .java g₀ :: r := hr
  rcases hq' with ⟨hqc, L, hfe, hL⟩ | ⟨q, rfl, E, ce, L, hx, hce, hcv, hcl, hW₂, hsm, hL⟩
  · obtain ⟨⟨v, rfl⟩, hW₂, e2, q2, q3, q4, q5, q6⟩ := id hfe
    have e3 : s₂ = ({ (U.calling g mk a).setFrames s₂.frames with heap := s₂.heap, slotsUsed := s₂.slotsUsed } : State).setVm s₂.vm := by
      have : s₂ = ({ s₂ with vm := (U.calling g mk a).vm } : State).setVm s₂.vm := rfl
      rw [e2] at this
      exact this
    obtain ⟨c₂, i₂, len₂, hc₂, hd₂, hf₂⟩ := hend
    have hW' : U.WarmedH s₂.vm := hW₂
    have hcc : c₂ = c := by
      have h1 : s₂.code? g.method = U.code? g.method := by
        rw [State.code?_eq, State.code?_eq, hW'.alike.method?]
      exact Option.some.inj (hc₂.symm.trans (h1.trans h.code))
    subst hcc
    have hlen : len₂ = len := by rw [hdg] at hd₂; cases hd₂; rfl
    subst hlen
    have hs₂ : s₂ = (({ U with heap := s₂.heap, slotsUsed := s₂.slotsUsed } : State).setVm s₂.vm).setTop { g with pc := g.pc + len₂, stack := v.toList ++ g.stack } := by
      refine e3.trans ?_
      rw [hf₂, State.calling_eq h.top, State.setFrames_setFrames, State.setTop_of_frames _ hr', hr]
      rfl
    have hsame : U.sameButNew ({ U with heap := s₂.heap, slotsUsed := s₂.slotsUsed } : State) L mc ms := by
      refine ⟨?_, q2, q3, q4, q5, q6⟩
      obtain ⟨t, ht, -⟩ := State.frames_cons hr
      show ({ U with heap := s₂.heap, slotsUsed := s₂.slotsUsed } : State) = { U.setFrames U.frames with heap := s₂.heap, slotsUsed := s₂.slotsUsed }
      rw [State.setFrames_self ht]
    subst hg
    refine Or.inl ⟨v, ⟨(({ U with heap := s₂.heap, slotsUsed := s₂.slotsUsed } : State).setVm s₂.vm), Ls ++ L, c0 + mc, s0 + ms⟩,
      ⟨X.admits, X.cas, X.clock, X.frames, X.room, X.hears, X.method, X.code, (X.here.setHeapUsed s₂.heap s₂.slotsUsed).setVm hW'.alike, X.tail, State.WarmedH.trans X.warmed hW', X.limits, X.bytes, X.same.trans (hsame.setVm s.vm)⟩,
      ⟨g, mk, s₂, L, rfl, rfl, hqc, rfl, hL, rfl, rfl⟩, ?_⟩
    show Steps p.tables e below _ ((({ U with heap := s₂.heap, slotsUsed := s₂.slotsUsed } : State).setVm s₂.vm).setTop { g with pc := g.pc + len₂, stack := v.toList ++ g.stack })
    rw [← hs₂]
    exact hsteps
  · obtain ⟨e2, q2, q3, q4, q5, q6⟩ := id hsm
    have e3 : s₂ = ({ (U.calling g mk a).setFrames s₂.frames with heap := s₂.heap, slotsUsed := s₂.slotsUsed } : State).setVm s₂.vm := by
      have : s₂ = ({ s₂ with vm := (U.calling g mk a).vm } : State).setVm s₂.vm := rfl
      rw [e2] at this
      exact this
    have hf₂ : s₂.frames = .throwing q :: .java g :: U.frames.tail := hend
    have hW' : U.WarmedH s₂.vm := hW₂
    have hs₂ : s₂ = ((({ U with heap := s₂.heap, slotsUsed := s₂.slotsUsed } : State).setVm s₂.vm).setTop g).pushFrame (.throwing q) := by
      refine e3.trans ?_
      rw [hf₂, State.calling_eq h.top, State.setFrames_setFrames, State.pushFrame, State.frames_setTop _ hr', State.setTop_of_frames _ hr', State.setFrames_setFrames, hr]
      rfl
    have hsame : U.sameButNew ({ U with heap := s₂.heap, slotsUsed := s₂.slotsUsed } : State) L mc ms := by
      refine ⟨?_, q2, q3, q4, q5, q6⟩
      obtain ⟨t, ht, -⟩ := State.frames_cons hr
      show ({ U with heap := s₂.heap, slotsUsed := s₂.slotsUsed } : State) = { U.setFrames U.frames with heap := s₂.heap, slotsUsed := s₂.slotsUsed }
      rw [State.setFrames_self ht]
    subst hg
    refine Or.inr ⟨q, ⟨(({ U with heap := s₂.heap, slotsUsed := s₂.slotsUsed } : State).setVm s₂.vm), Ls ++ L, c0 + mc, s0 + ms⟩,
      ⟨X.admits, X.cas, X.clock, X.frames, X.room, X.hears, X.method, X.code, (X.here.setHeapUsed s₂.heap s₂.slotsUsed).setVm hW'.alike, X.tail, State.WarmedH.trans X.warmed hW', X.limits, X.bytes, X.same.trans (hsame.setVm s.vm)⟩,
      ⟨g, mk, s₂, L, E, ce, rfl, rfl, hx, hce, hcv, hcl, rfl, hL, rfl, rfl⟩, ?_⟩
    show Steps p.tables e below _ (((({ U with heap := s₂.heap, slotsUsed := s₂.slotsUsed } : State).setVm s₂.vm).setTop g).pushFrame (.throwing q))
    rw [← hs₂]
    exact hsteps
end
variable {p : Program} {l : Launch} {e : Env} {R : Room} {s : State} {m : MethodId} {args : Array Value} {below : List Frame} {meth : Method} {c : Code} {T : State} {H : Heap} {locs : List Loc} {cells slots : Nat}
theorem vx_callVX (X : Stand p l e R s m args below meth c T locs cells slots) (hexec : p.tables.exec = Jvm.exec) {own C : String} {index : Nat} {y : MethodName} {bytes : ByteArray} {maxL : Nat} {ret : Option FieldType} {hh : List (Nat × Nat × Nat × Nat)}
    (hown : s.vm.findClass own = some m.cls) (hlink : (Cond.methodLink own index y).before args s = true) (hinst : (Cond.instanceMethod y).before args s = true) (hsel : (Cond.selects C y y).before args s = true)
    (hcode : (Cond.codeWith y bytes maxL ret hh).before args s = true) (hy : y.cls ≠ "java/lang/invoke/MethodHandle" ∧ y.cls ≠ "java/lang/invoke/VarHandle")
    {W9 : Nat} {Pre : Pt → Array Value → Prop} {Post : Pt → Array Value → Option Value → Pt → Prop} {PostX : Pt → Array Value → Addr → Pt → Prop} (hK : vx_Back l R p e below s args y 3 W9 Pre Post PostX)
    {b : Addr} {cellB : Cell} (hcell : T.heap[b]? = some cellB) (hobj : cellB.vm.isStatics = false) (hcls : s.vm.findClass C = some cellB.cls)
    {g : JFrame} (hg : g.method = m) (hsize : g.locals.size = c.maxLocals) {argsL rest : List Value} (hlen : ∀ sig, parseMethodDescriptor y.desc = some sig → argsL.length = sig.parameters.length)
    (hstack : g.stack = argsL.reverse ++ .ref b :: rest) (hW : 2 * g.monitorRoom + (rest.map fun v => v.category).sum ≤ W9) (hdg : decode c.code g.pc = .ok (.invokevirtual index, 3))
    (hpre : ∀ vm₁, s.WarmedH vm₁ → Pre ⟨T.setVm vm₁, locs, cells, slots⟩ (Value.ref b :: argsL).toArray) :
    (∃ (v : Option Value) (vm₁ : Vm) (B : Pt), s.WarmedH vm₁ ∧ Stand p l e R s m args below meth c B.U B.locs B.cells B.slots ∧ Post ⟨T.setVm vm₁, locs, cells, slots⟩ (Value.ref b :: argsL).toArray v B ∧
      ∀ target, Steps p.tables e below (B.U.setTop { g with pc := g.pc + 3, stack := v.toList ++ rest }) target → Steps p.tables e below (T.setTop g) target) ∨
    (∃ (q : Addr) (vm₁ : Vm) (B : Pt), s.WarmedH vm₁ ∧ Stand p l e R s m args below meth c B.U B.locs B.cells B.slots ∧ PostX ⟨T.setVm vm₁, locs, cells, slots⟩ (Value.ref b :: argsL).toArray q B ∧
      Steps p.tables e below (T.setTop g) ((B.U.setTop { g with stack := rest }).pushFrame (.throwing q))) := by
  obtain ⟨mk, methM, hnamed, hmethM, hstM, habM⟩ := Cond.instanceMethod_spec hinst
  obtain ⟨m8, methM', cM, hn8, hmethM', -, -, -, -, -, -, hsigM⟩ := Cond.codeWith_spec hcode
  cases Option.some.inj (hn8.symm.trans hnamed)
  cases hmethM.symm.trans hmethM'
  obtain ⟨c2, r2, m2, q1, q2, q3, q4, kP, hkP, hkPi⟩ := Cond.selects_spec hsel
  cases hcls.symm.trans q1
  cases (State.methodFound?_of_named hnamed hy).symm.trans q2
  cases hnamed.symm.trans q3
  have hselP : selectMethod e.platform s.vm cellB.cls mk = .method mk := by rw [Launch.admits_selectMethod X.admits]; exact q4
  obtain ⟨vm₁, X₁, hstep₁⟩ := X.invokevirtual hexec hown hlink hnamed hmethM hstM hkP hkPi hy (a := b) (cell := cellB) hcell
    (fun z h => by rw [h] at hobj; cases hobj) hselP hmethM habM hkP hkPi (g := g) hg (argsL := argsL) (rest := rest) (hlen _ hsigM) hstack hdg
  rcases hK m meth c ⟨T.setVm vm₁, locs, cells, slots⟩ { g with stack := rest } (.invokevirtual index) mk (Value.ref b :: argsL).toArray X₁ hg hsize hdg hW (X₁.named hnamed) (hpre vm₁ X₁.warmed) with ⟨v, B, X', hpost, hsteps⟩ | ⟨q, B, X', hpost, hsteps⟩
  · exact Or.inl ⟨v, vm₁, B, X₁.warmed, X', hpost, fun target h => hstep₁ _ fun acts => by rw [doInvoke_state]; exact hsteps.trans h⟩
  · exact Or.inr ⟨q, vm₁, B, X₁.warmed, X', hpost, hstep₁ _ fun acts => by rw [doInvoke_state]; exact hsteps⟩
theorem vx_callSX (X : Stand p l e R s m args below meth c T locs cells slots) (hexec : p.tables.exec = Jvm.exec) {own : String} {index : Nat} {y : MethodName} {bytes : ByteArray} {maxL : Nat} {ret : Option FieldType} {hh : List (Nat × Nat × Nat × Nat)}
    (hown : s.vm.findClass own = some m.cls) (hlink : (Cond.methodLink own index y).before args s = true) (hstat : (Cond.static y).before args s = true) (hinit : (Cond.initialized y.cls).before args s = true)
    (hcode : (Cond.codeWith y bytes maxL ret hh).before args s = true) (hy : y.cls ≠ "java/lang/invoke/MethodHandle" ∧ y.cls ≠ "java/lang/invoke/VarHandle")
    {W9 : Nat} {Pre : Pt → Array Value → Prop} {Post : Pt → Array Value → Option Value → Pt → Prop} {PostX : Pt → Array Value → Addr → Pt → Prop} (hK : vx_Back l R p e below s args y 3 W9 Pre Post PostX)
    {g : JFrame} (hg : g.method = m) (hsize : g.locals.size = c.maxLocals) {argsL rest : List Value} (hlen : ∀ sig, parseMethodDescriptor y.desc = some sig → argsL.length = sig.parameters.length)
    (hstack : g.stack = argsL.reverse ++ rest) (hW : 2 * g.monitorRoom + (rest.map fun v => v.category).sum ≤ W9) (hdg : decode c.code g.pc = .ok (.invokestatic index, 3))
    (hpre : ∀ vm₁, s.WarmedH vm₁ → Pre ⟨T.setVm vm₁, locs, cells, slots⟩ argsL.toArray) :
    (∃ (v : Option Value) (vm₁ : Vm) (B : Pt), s.WarmedH vm₁ ∧ Stand p l e R s m args below meth c B.U B.locs B.cells B.slots ∧ Post ⟨T.setVm vm₁, locs, cells, slots⟩ argsL.toArray v B ∧
      ∀ target, Steps p.tables e below (B.U.setTop { g with pc := g.pc + 3, stack := v.toList ++ rest }) target → Steps p.tables e below (T.setTop g) target) ∨
    (∃ (q : Addr) (vm₁ : Vm) (B : Pt), s.WarmedH vm₁ ∧ Stand p l e R s m args below meth c B.U B.locs B.cells B.slots ∧ PostX ⟨T.setVm vm₁, locs, cells, slots⟩ argsL.toArray q B ∧
      Steps p.tables e below (T.setTop g) ((B.U.setTop { g with stack := rest }).pushFrame (.throwing q))) := by
  obtain ⟨mk, methM, cM, hnamed, hmethM, -, -, -, -, -, -, hsigM⟩ := Cond.codeWith_spec hcode
  have hstatic : methM.isStatic = true := Cond.static_spec hnamed hmethM hstat
  obtain ⟨kP, hkP, -⟩ := className_of_methodNamed hnamed
  have hinitP : kP.init = .initialized := Cond.initialized_spec (findClass_of_methodNamed hnamed) hkP hinit
  obtain ⟨vm₁, X₁, hstep₁⟩ := X.invokestatic hexec hown hlink hnamed hmethM hstatic hkP hinitP hy (g := g) hg (argsL := argsL) (rest := rest) (hlen _ hsigM) hstack hdg
  rcases hK m meth c ⟨T.setVm vm₁, locs, cells, slots⟩ { g with stack := rest } (.invokestatic index) mk argsL.toArray X₁ hg hsize hdg hW (X₁.named hnamed) (hpre vm₁ X₁.warmed) with ⟨v, B, X', hpost, hsteps⟩ | ⟨q, B, X', hpost, hsteps⟩
  · exact Or.inl ⟨v, vm₁, B, X₁.warmed, X', hpost, fun target h => hstep₁ _ fun acts => by rw [doInvoke_state]; exact hsteps.trans h⟩
  · exact Or.inr ⟨q, vm₁, B, X₁.warmed, X', hpost, hstep₁ _ fun acts => by rw [doInvoke_state]; exact hsteps⟩
theorem vx_callVW (X : Stand p l e R s m args below meth c T locs cells slots) (hexec : p.tables.exec = Jvm.exec) {own C : String} {index : Nat} {y : MethodName} {bytes : ByteArray} {maxL : Nat} {ret : Option FieldType} {hh : List (Nat × Nat × Nat × Nat)}
    (hown : s.vm.findClass own = some m.cls) (hlink : (Cond.methodLink own index y).before args s = true) (hinst : (Cond.instanceMethod y).before args s = true) (hsel : (Cond.selects C y y).before args s = true)
    (hcode : (Cond.codeWith y bytes maxL ret hh).before args s = true) (hy : y.cls ≠ "java/lang/invoke/MethodHandle" ∧ y.cls ≠ "java/lang/invoke/VarHandle")
    {W9 : Nat} {Pre : Pt → Array Value → Prop} {Post : Pt → Array Value → Option Value → Pt → Prop} (hK : Back l R p e below s args y 3 W9 Pre Post)
    {b : Addr} {cellB : Cell} (hcell : T.heap[b]? = some cellB) (hobj : cellB.vm.isStatics = false) (hcls : s.vm.findClass C = some cellB.cls)
    {g : JFrame} (hg : g.method = m) (hsize : g.locals.size = c.maxLocals) {argsL rest : List Value} (hlen : ∀ sig, parseMethodDescriptor y.desc = some sig → argsL.length = sig.parameters.length)
    (hstack : g.stack = argsL.reverse ++ .ref b :: rest) (hW : 2 * g.monitorRoom + (rest.map fun v => v.category).sum ≤ W9) (hdg : decode c.code g.pc = .ok (.invokevirtual index, 3))
    (hpre : ∀ vm₁, s.WarmedH vm₁ → Pre ⟨T.setVm vm₁, locs, cells, slots⟩ (Value.ref b :: argsL).toArray) :
    ∃ (v : Option Value) (vm₁ : Vm) (B : Pt), s.WarmedH vm₁ ∧ Stand p l e R s m args below meth c B.U B.locs B.cells B.slots ∧ Post ⟨T.setVm vm₁, locs, cells, slots⟩ (Value.ref b :: argsL).toArray v B ∧
      ∀ target, Steps p.tables e below (B.U.setTop { g with pc := g.pc + 3, stack := v.toList ++ rest }) target → Steps p.tables e below (T.setTop g) target := by
  obtain ⟨mk, methM, hnamed, hmethM, hstM, habM⟩ := Cond.instanceMethod_spec hinst
  obtain ⟨m8, methM', cM, hn8, hmethM', -, -, -, -, -, -, hsigM⟩ := Cond.codeWith_spec hcode
  cases Option.some.inj (hn8.symm.trans hnamed)
  cases hmethM.symm.trans hmethM'
  obtain ⟨c2, r2, m2, q1, q2, q3, q4, kP, hkP, hkPi⟩ := Cond.selects_spec hsel
  cases hcls.symm.trans q1
  cases (State.methodFound?_of_named hnamed hy).symm.trans q2
  cases hnamed.symm.trans q3
  have hselP : selectMethod e.platform s.vm cellB.cls mk = .method mk := by rw [Launch.admits_selectMethod X.admits]; exact q4
  obtain ⟨vm₁, X₁, hstep₁⟩ := X.invokevirtual hexec hown hlink hnamed hmethM hstM hkP hkPi hy (a := b) (cell := cellB) hcell
    (fun z h => by rw [h] at hobj; cases hobj) hselP hmethM habM hkP hkPi (g := g) hg (argsL := argsL) (rest := rest) (hlen _ hsigM) hstack hdg
  obtain ⟨v, B, X', hpost, hsteps⟩ := hK m meth c ⟨T.setVm vm₁, locs, cells, slots⟩ { g with stack := rest } (.invokevirtual index) mk (Value.ref b :: argsL).toArray X₁ hg hsize hdg hW (X₁.named hnamed) (hpre vm₁ X₁.warmed)
  exact ⟨v, vm₁, B, X₁.warmed, X', hpost, fun target h => hstep₁ _ fun acts => by rw [doInvoke_state]; exact hsteps.trans h⟩
abbrev vx_CVW (R : Room) (s : State) (args : Array Value) (own C : String) (index : Nat) (y : MethodName) (bytes : ByteArray) (maxL : Nat) (ret : Option FieldType) (hh : List (Nat × Nat × Nat × Nat)) (ws : List Cond) (rm : Room) (mc ms n : Nat) : Prop :=
  (rm.cells = mc ∧ rm.slots = ms ∧ rm.frames + 1 ≤ R.frames ∧ 8 + (maxL + 11) + rm.locals ≤ R.locals ∧ (∀ w ∈ ws, ∀ (a' : Array Value) (U : State), s.WarmedH U.vm → w.before a' U = true) ∧ Cond.codeWith y bytes maxL ret hh ∈ ws) ∧
  (Cond.codeWith y bytes maxL ret hh).before args s = true ∧ (Cond.initialized y.cls).before args s = true ∧ (y.cls ≠ "java/lang/invoke/MethodHandle" ∧ y.cls ≠ "java/lang/invoke/VarHandle") ∧
  (∀ sig, parseMethodDescriptor y.desc = some sig → n = sig.parameters.length) ∧ (Cond.methodLink own index y).before args s = true ∧ (Cond.instanceMethod y).before args s = true ∧ (Cond.selects C y y).before args s = true
theorem vx_cwVW {own C : String} {index maxL mc ms : Nat} {y : MethodName} {bytes : ByteArray} {ret : Option FieldType} {hh : List (Nat × Nat × Nat × Nat)} {Ts ws ws' : List Cond} {rm : Room} (n : Nat) (ht : ∀ w ∈ Ts, w.before args s = true) (hT : GoodIn Ts (wsV own index C y ws)) (hw : ws = Cond.codeWith y bytes maxL ret hh :: ws') (hrc : rm.cells = mc) (hrs : rm.slots = ms)
    (hd : y.cls = C ∧ y.cls ≠ "java/lang/invoke/MethodHandle" ∧ y.cls ≠ "java/lang/invoke/VarHandle" ∧ (parseMethodDescriptor y.desc).map (fun d => d.parameters.length) = some n) (hR : rm.frames + 1 ≤ R.frames ∧ 8 + (maxL + 11) + rm.locals ≤ R.locals) :
    vx_CVW R s args own C index y bytes maxL ret hh ws rm mc ms n := by
  obtain ⟨hC, hd⟩ := hd
  subst hC
  have ok : ∀ w ∈ wsV own index y.cls y ws, w.before args s = true := fun w h => ht w (hT w h).1
  have hG : GoodIn Ts ws := fun w h => hT w (by unfold wsV; exact List.mem_append_right _ h)
  have hc : Cond.codeWith y bytes maxL ret hh ∈ ws := by rw [hw]; exact List.mem_cons_self
  refine ⟨⟨hrc, hrs, hR.1, hR.2, pay_in ht hG, hc⟩, ht _ (hG _ hc).1, ok _ (by simp [wsV]), ⟨hd.1, hd.2.1⟩, fun sig h => ?_, ok _ (by simp [wsV]), ok _ (by simp [wsV]), ok _ (by simp [wsV])⟩
  have h2 := hd.2.2
  rw [h] at h2
  exact (Option.some.inj h2).symm
theorem vx_runVW {y : MethodName} {bytes cc : ByteArray} {maxL nL mc ms n index : Nat} {ret : Option FieldType} {hh : List (Nat × Nat × Nat × Nat)} {ws : List Cond} {rm : Room} {Pc : Array Value → State → Prop} {Qc : Array Value → State → Outcome → State → Prop} {free : Addr → Prop} {Ts : List Cond} {own C : String} {b : Addr} {As rest : List Value} {g : JFrame}
    (S : CallFix p m c cc nL s args Ts own) (hM : Met l y ws rm Pc Qc mc ms free) (cw : vx_CVW R s args own C index y bytes maxL ret hh ws rm mc ms n) (hp : PreV s H C b Pc As)
    (hg : g.method = m) (hn : As.length = n) (hsize : g.locals.size = nL) (hstack : g.stack = As.reverse ++ .ref b :: rest) (hW : 2 * g.monitorRoom + (rest.map fun v => v.category).sum ≤ 8) (hdg : decode cc g.pc = .ok (.invokevirtual index, 3)) (hf : cells + mc ≤ R.cells ∧ slots + ms ≤ R.slots) :
    va_Run p l e R s m args below meth c H locs cells slots mc ms g rest (Qc (Value.ref b :: As).toArray) free := by
  obtain ⟨⟨hrc, hrs, hfr, hlo, hws, hcw⟩, hcode, hini, hy, hlen, hl, hin, hse⟩ := cw
  have hK : Back l R p e below s args y 3 8 (PreOf R mc ms Pc) (PostOf Qc mc ms free) := va_backW (hh := hh) (bytes := bytes) (maxL := maxL) (ret := ret) hM hp.1 hrc hrs hfr hlo hws hcw (fun a' U hW => word_at hW (Or.inl (by first | rfl | simp [Cond.onTables, Cond.keeps, Cond.steady])) hini)
  obtain ⟨hx, hb, hml, ho, -⟩ := S
  obtain ⟨-, ⟨cellB, hcB, hoB, hclB⟩, hPc⟩ := hp
  intro T hT X
  obtain ⟨v, vm₁, ⟨U', l2, c2, s2⟩, hW₁, X', ⟨g', mk, t, L, e1, e2, hq, h1, hL, h2, h3⟩, st⟩ := vx_callVW X hx (C := C) (hh := hh) (bytes := bytes) (maxL := maxL) (ret := ret) ho hl hin hse hcode hy hK (by rw [hT]; exact hcB) hoB hclB hg (hsize.trans hml.symm) (argsL := As) (rest := rest) (fun sig h => hn.trans (hlen sig h)) hstack hW (by rw [hb]; exact hdg)
    (fun vm₁ hW₁ => ⟨hf.1, hf.2, hPc (T.setVm vm₁) hT hW₁⟩)
  dsimp only [Pt.U, Pt.locs, Pt.cells, Pt.slots] at X' e1 e2 h1 h2 h3 st
  subst h1; subst h2; subst h3
  exact ⟨v, (T.setVm vm₁).calling g' mk (Value.ref b :: As).toArray, t, U', L, hT, X', hL, e1, e2, hq, st⟩
section
variable {y : MethodName} {bytes cc : ByteArray} {maxL nL mc ms n index : Nat} {ret : Option FieldType} {ws : List Cond} {rm : Room} {Pc : Array Value → State → Prop} {Qc : Array Value → State → Outcome → State → Prop} {XC : String → State → State → Prop} {free : Addr → Prop} {Ts : List Cond} {own C : String} {b : Addr} {As rest : List Value} {g : JFrame}
theorem vx_runVX {hh : List (Nat × Nat × Nat × Nat)} (S : CallFix p m c cc nL s args Ts own) (hM : vx_Met l y ws rm Pc Qc XC mc ms free) (cw : vx_CVW R s args own C index y bytes maxL ret hh ws rm mc ms n) (hp : PreV s H C b Pc As)
    (hg : g.method = m) (hn : As.length = n) (hsize : g.locals.size = nL) (hstack : g.stack = As.reverse ++ .ref b :: rest) (hW : 2 * g.monitorRoom + (rest.map fun v => v.category).sum ≤ 8) (hdg : decode cc g.pc = .ok (.invokevirtual index, 3)) (hf : cells + mc ≤ R.cells ∧ slots + ms ≤ R.slots) :
    vx_Run p l e R s m args below meth c H locs cells slots mc ms g rest (Qc (Value.ref b :: As).toArray) XC free := by
  obtain ⟨⟨hrc, hrs, hfr, hlo, hws, hcw⟩, hcode, hini, hy, hlen, hl, hin, hse⟩ := cw
  have hK : vx_Back l R p e below s args y 3 8 (PreOf R mc ms Pc) (PostOf Qc mc ms free) (vx_Post XC mc ms free) := vx_backW (hh := hh) (bytes := bytes) (maxL := maxL) (ret := ret) hM hp.1 hrc hrs hfr hlo hws hcw (fun a' U hW => word_at hW (Or.inl (by first | rfl | simp [Cond.onTables, Cond.keeps, Cond.steady])) hini)
  obtain ⟨hx, hb, hml, ho, -⟩ := S
  obtain ⟨-, ⟨cellB, hcB, hoB, hclB⟩, hPc⟩ := hp
  intro T hT X
  rcases vx_callVX X hx (C := C) (hh := hh) (bytes := bytes) (maxL := maxL) (ret := ret) ho hl hin hse hcode hy hK (by rw [hT]; exact hcB) hoB hclB hg (hsize.trans hml.symm) (argsL := As) (rest := rest) (fun sig h => hn.trans (hlen sig h)) hstack hW (by rw [hb]; exact hdg)
    (fun vm₁ hW₁ => ⟨hf.1, hf.2, hPc (T.setVm vm₁) hT hW₁⟩) with ⟨v, vm₁, ⟨U', l2, c2, s2⟩, hW₁, X', ⟨g', mk, t, L, e1, e2, hq, h1, hL, h2, h3⟩, st⟩ | ⟨q, vm₁, ⟨U', l2, c2, s2⟩, hW₁, X', ⟨g', mk, t, L, E, ce, e1, e2, hq, hce, hcv, hcl, h1, hL, h2, h3⟩, st⟩
  · dsimp only [Pt.U, Pt.locs, Pt.cells, Pt.slots] at X' e1 e2 h1 h2 h3 st
    subst h1; subst h2; subst h3
    exact Or.inl ⟨v, (T.setVm vm₁).calling g' mk (Value.ref b :: As).toArray, t, U', L, hT, X', hL, e1, e2, hq, st⟩
  · dsimp only [Pt.U, Pt.locs, Pt.cells, Pt.slots] at X' e1 e2 h1 h2 h3 st hcl
    subst h1; subst h2; subst h3
    exact Or.inr ⟨q, (T.setVm vm₁).calling g' mk (Value.ref b :: As).toArray, t, U', L, E, ce, hT, X', hL, e1, e2, hq, hce, hcv, vx_cls hW₁ hcl, st⟩
theorem vx_runSX {hh : List (Nat × Nat × Nat × Nat)} (S : CallFix p m c cc nL s args Ts own) (hM : vx_Met l y ws rm Pc Qc XC mc ms free) (cw : vx_CSW R s args own index y bytes maxL ret hh ws rm mc ms n) (hp : PreS s H Pc As)
    (hg : g.method = m) (hn : As.length = n) (hsize : g.locals.size = nL) (hstack : g.stack = As.reverse ++ rest) (hW : 2 * g.monitorRoom + (rest.map fun v => v.category).sum ≤ 8) (hdg : decode cc g.pc = .ok (.invokestatic index, 3)) (hf : cells + mc ≤ R.cells ∧ slots + ms ≤ R.slots) :
    vx_Run p l e R s m args below meth c H locs cells slots mc ms g rest (Qc As.toArray) XC free := by
  obtain ⟨⟨hrc, hrs, hfr, hlo, hws, hcw⟩, hcode, hini, hy, hlen, hl, hstt⟩ := cw
  have hK : vx_Back l R p e below s args y 3 8 (PreOf R mc ms Pc) (PostOf Qc mc ms free) (vx_Post XC mc ms free) := vx_backW (hh := hh) (bytes := bytes) (maxL := maxL) (ret := ret) hM hp.1 hrc hrs hfr hlo hws hcw (fun a' U hW => word_at hW (Or.inl (by first | rfl | simp [Cond.onTables, Cond.keeps, Cond.steady])) hini)
  obtain ⟨hx, hb, hml, ho, -⟩ := S
  intro T hT X
  rcases vx_callSX X hx (hh := hh) (bytes := bytes) (maxL := maxL) (ret := ret) ho hl hstt hini hcode hy hK hg (hsize.trans hml.symm) (argsL := As) (rest := rest) (fun sig h => hn.trans (hlen sig h)) hstack hW (by rw [hb]; exact hdg)
    (fun vm₁ hW₁ => ⟨hf.1, hf.2, hp.2 (T.setVm vm₁) hT hW₁⟩) with ⟨v, vm₁, ⟨U', l2, c2, s2⟩, hW₁, X', ⟨g', mk, t, L, e1, e2, hq, h1, hL, h2, h3⟩, st⟩ | ⟨q, vm₁, ⟨U', l2, c2, s2⟩, hW₁, X', ⟨g', mk, t, L, E, ce, e1, e2, hq, hce, hcv, hcl, h1, hL, h2, h3⟩, st⟩
  · dsimp only [Pt.U, Pt.locs, Pt.cells, Pt.slots] at X' e1 e2 h1 h2 h3 st
    subst h1; subst h2; subst h3
    exact Or.inl ⟨v, (T.setVm vm₁).calling g' mk As.toArray, t, U', L, hT, X', hL, e1, e2, hq, st⟩
  · dsimp only [Pt.U, Pt.locs, Pt.cells, Pt.slots] at X' e1 e2 h1 h2 h3 st hcl
    subst h1; subst h2; subst h3
    exact Or.inr ⟨q, (T.setVm vm₁).calling g' mk As.toArray, t, U', L, E, ce, hT, X', hL, e1, e2, hq, hce, hcv, vx_cls hW₁ hcl, st⟩
end
end VXH
theorem vx_ofWH {l : Launch} {y : MethodName} {ws ws' : List Cond} {rm : Room} {Pc : Array Value → State → Prop} {Qc : Array Value → State → Outcome → State → Prop} {XC : String → State → State → Prop} {mc ms : Nat} {free : Addr → Prop} {cc : ByteArray} {maxL : Nat} {ret : Option FieldType} {hh : List (Nat × Nat × Nat × Nat)}
    (hy : plainName y.cls = true) (hw : ws = Cond.codeWith y cc maxL ret hh :: ws')
    (body : ∀ p e s m args below meth c s₁, BodyLoose p l y (headSpec ws rm) cc maxL ret e s m args below meth c s₁ → c.maxLocals = maxL → Pc args s →
      W p l e (headSpec ws rm).room s m args below meth c s.heap [] 0 0 (vx_MQ below Qc XC args s mc ms free) (entryFrame m args maxL)) : vx_Met l y ws rm Pc Qc XC mc ms free := by
  refine MetFree.of_bodyS (code := cc) (maxLocals := maxL) (ret := ret) hy ?_ ?_
  · intro args s m h hn
    obtain ⟨m9, meth, c, hn9, h1, h2, h3, h4, -, h5, h6, -⟩ := Cond.codeWith_spec (atoms_spec (ws := ws) h _ (by rw [hw]; exact List.mem_cons_self))
    cases hn.symm.trans hn9
    exact ⟨meth, c, h1, h2, h3, h4, h5, h6⟩
  · intro p e s m args below meth c s₁ B hml hP _
    have hh0 : s₁.heap = s.heap := by rw [B.state]; rfl
    obtain ⟨t, a1, o, b1, b2, b3⟩ := body p e s m args below meth c s₁ B hml hP s₁ hh0 (Stand.of_body B)
    exact ⟨t, o, a1, b1, b2, b3⟩
/-! ===== END ===== -/
/-! ===== BEGIN a constructor that throws (launches without stack traces) ===== -/
section VXIA
variable {p : Program} {l : Launch} {e : Env} {R : Room} {s : State} {m : MethodId} {args : Array Value} {below : List Frame} {meth : Method} {c : Code} {T : State} {locs : List Loc} {cells slots : Nat}
theorem vx_callI (X : Stand p l e R s m args below meth c T locs cells slots) (hexec : p.tables.exec = Jvm.exec) {own : String} {index : Nat} {y : MethodName} {bytes : ByteArray} {maxL : Nat}
    (hown : s.vm.findClass own = some m.cls) (hy1 : y.name = "<init>") (hlink : (Cond.methodLink own index y).before args s = true) (hinst : (Cond.instanceMethod y).before args s = true)
    (hcode : (Cond.code y bytes maxL none).before args s = true) (hy : y.cls ≠ "java/lang/invoke/MethodHandle" ∧ y.cls ≠ "java/lang/invoke/VarHandle")
    {W9 : Nat} {Pre : Pt → Array Value → Prop} {Post : Pt → Array Value → Option Value → Pt → Prop} {PostX : Pt → Array Value → Addr → Pt → Prop} (hK : vx_Back l R p e below s args y 3 W9 Pre Post PostX)
    {g : JFrame} (hg : g.method = m) (hsize : g.locals.size = c.maxLocals) {a : Addr} {argsL rest : List Value} (hlen : ∀ sig, parseMethodDescriptor y.desc = some sig → argsL.length = sig.parameters.length)
    (hstack : g.stack = argsL.reverse ++ .ref a :: rest) (hW : 2 * g.monitorRoom + (rest.map fun v => v.category).sum ≤ W9) (hdg : decode c.code g.pc = .ok (.invokespecial index, 3))
    (hpre : ∀ vm₁, s.WarmedH vm₁ → Pre ⟨T.setVm vm₁, locs, cells, slots⟩ (Value.ref a :: argsL).toArray) :
    (∃ (v : Option Value) (vm₁ : Vm) (B : Pt), s.WarmedH vm₁ ∧ Stand p l e R s m args below meth c B.U B.locs B.cells B.slots ∧ Post ⟨T.setVm vm₁, locs, cells, slots⟩ (Value.ref a :: argsL).toArray v B ∧
      ∀ target, Steps p.tables e below (B.U.setTop { g with pc := g.pc + 3, stack := v.toList ++ rest }) target → Steps p.tables e below (T.setTop g) target) ∨
    (∃ (q : Addr) (vm₁ : Vm) (B : Pt), s.WarmedH vm₁ ∧ Stand p l e R s m args below meth c B.U B.locs B.cells B.slots ∧ PostX ⟨T.setVm vm₁, locs, cells, slots⟩ (Value.ref a :: argsL).toArray q B ∧
      Steps p.tables e below (T.setTop g) ((B.U.setTop { g with stack := rest }).pushFrame (.throwing q))) := by
  subst hg
  have hpl : e.platform.magicAccessors = ({} : Platform).magicAccessors := by rw [X.admits.platform]
  obtain ⟨mk, methM, cM, kP, vm₁, hnamed, hmethM, hcodeM, -, hlocalsM, -, hkP, -, hW₁, hstep₁⟩ := Steps.initColdArgs (e := e) X.here hexec X.warmed hpl hown hy1 hy hlink hinst hcode (f := g) rfl hlen hstack hdg
  have X₁ := X.noted hW₁
  rcases hK g.method meth c ⟨T.setVm vm₁, locs, cells, slots⟩ { g with stack := rest } (.invokespecial index) mk (Value.ref a :: argsL).toArray X₁ rfl hsize hdg hW (X₁.named hnamed) (hpre vm₁ X₁.warmed) with ⟨v, B, X', hpost, hsteps⟩ | ⟨q, B, X', hpost, hsteps⟩
  · exact Or.inl ⟨v, vm₁, B, X₁.warmed, X', hpost, fun target h => hstep₁ _ fun acts => by rw [doInvoke_state]; exact hsteps.trans h⟩
  · exact Or.inr ⟨q, vm₁, B, X₁.warmed, X', hpost, hstep₁ _ fun acts => by rw [doInvoke_state]; exact hsteps⟩
end VXIA
section VXIB
variable {p : Program} {l : Launch} {e : Env} {R : Room} {s : State} {m : MethodId} {args : Array Value} {below : List Frame} {meth : Method} {c : Code} {H : Heap} {locs : List Loc} {cells slots : Nat}
variable {y : MethodName} {bytes cc : ByteArray} {maxL nL mc ms n index : Nat} {ret : Option FieldType} {ws : List Cond} {rm : Room} {Pc : Array Value → State → Prop} {Qc : Array Value → State → Outcome → State → Prop} {XC : String → State → State → Prop} {free : Addr → Prop} {Ts : List Cond} {own C : String} {b : Addr} {As rest : List Value} {g : JFrame}
theorem vx_runI (S : CallFix p m c cc nL s args Ts own) (hM : vx_Met l y ws rm Pc Qc XC mc ms free) (cw : CallB R s args own index y bytes maxL none ws rm mc ms n ∧ y.name = "<init>" ∧ (Cond.instanceMethod y).before args s = true) (hp : PreS s H Pc (.ref b :: As))
    (hg : g.method = m) (hn : As.length = n) (hsize : g.locals.size = nL) (hstack : g.stack = As.reverse ++ .ref b :: rest) (hW : 2 * g.monitorRoom + (rest.map fun v => v.category).sum ≤ 8) (hdg : decode cc g.pc = .ok (.invokespecial index, 3)) (hf : cells + mc ≤ R.cells ∧ slots + ms ≤ R.slots) :
    vx_Run p l e R s m args below meth c H locs cells slots mc ms g rest (Qc (Value.ref b :: As).toArray) XC free := by
  have hK : vx_Back l R p e below s args y 3 8 (PreOf R mc ms Pc) (PostOf Qc mc ms free) (vx_Post XC mc ms free) := vx_callBack cw.1 hM hp.1
  obtain ⟨⟨-, -, -, -, -, -, hcode, -, hy, hlen, hl⟩, hy1, hin⟩ := cw
  obtain ⟨hx, hb, hml, ho, -⟩ := S
  have hPc := hp.2
  intro T hT X
  rcases vx_callI X hx (bytes := bytes) (maxL := maxL) ho hy1 hl hin hcode hy hK hg (hsize.trans hml.symm) (a := b) (argsL := As) (rest := rest) (fun sig h => hn.trans (hlen sig h)) hstack hW (by rw [hb]; exact hdg)
    (fun vm₁ hW₁ => ⟨hf.1, hf.2, hPc (T.setVm vm₁) hT hW₁⟩) with ⟨v, vm₁, ⟨U', l2, c2, s2⟩, hW₁, X', ⟨g', mk, t, L, e1, e2, hq, h1, hL, h2, h3⟩, st⟩ | ⟨q, vm₁, ⟨U', l2, c2, s2⟩, hW₁, X', ⟨g', mk, t, L, E, ce, e1, e2, hq, hce, hcv, hcl, h1, hL, h2, h3⟩, st⟩
  · dsimp only [Pt.U, Pt.locs, Pt.cells, Pt.slots] at X' e1 e2 h1 h2 h3 st
    subst h1; subst h2; subst h3
    exact Or.inl ⟨v, (T.setVm vm₁).calling g' mk (Value.ref b :: As).toArray, t, U', L, hT, X', hL, e1, e2, hq, st⟩
  · dsimp only [Pt.U, Pt.locs, Pt.cells, Pt.slots] at X' e1 e2 h1 h2 h3 st hcl
    subst h1; subst h2; subst h3
    exact Or.inr ⟨q, (T.setVm vm₁).calling g' mk (Value.ref b :: As).toArray, t, U', L, E, ce, hT, X', hL, e1, e2, hq, hce, hcv, vx_cls hW₁ hcl, st⟩
end VXIB
/-! ===== END ===== -/
/-! ===== BEGIN a private constructor of a nest mate that throws ===== -/
section VXIC
variable {p : Program} {l : Launch} {e : Env} {R : Room} {s : State} {m : MethodId} {args : Array Value} {below : List Frame} {meth : Method} {c : Code} {T : State} {locs : List Loc} {cells slots : Nat}
theorem vx_callIN (X : Stand p l e R s m args below meth c T locs cells slots) (hexec : p.tables.exec = Jvm.exec) {own : String} {index : Nat} {host : String} {y : MethodName} {bytes : ByteArray} {maxL : Nat}
    (hown : s.vm.findClass own = some m.cls) (hy1 : y.name = "<init>") (hlink : (Cond.methodLinkNest own index y host).before args s = true) (hinst : (Cond.instanceMethod y).before args s = true)
    (hcode : (Cond.code y bytes maxL none).before args s = true) (hy : y.cls ≠ "java/lang/invoke/MethodHandle" ∧ y.cls ≠ "java/lang/invoke/VarHandle")
    {W9 : Nat} {Pre : Pt → Array Value → Prop} {Post : Pt → Array Value → Option Value → Pt → Prop} {PostX : Pt → Array Value → Addr → Pt → Prop} (hK : vx_Back l R p e below s args y 3 W9 Pre Post PostX)
    {g : JFrame} (hg : g.method = m) (hsize : g.locals.size = c.maxLocals) {a : Addr} {argsL rest : List Value} (hlen : ∀ sig, parseMethodDescriptor y.desc = some sig → argsL.length = sig.parameters.length)
    (hstack : g.stack = argsL.reverse ++ .ref a :: rest) (hW : 2 * g.monitorRoom + (rest.map fun v => v.category).sum ≤ W9) (hdg : decode c.code g.pc = .ok (.invokespecial index, 3))
    (hpre : ∀ vm₁, s.WarmedH vm₁ → Pre ⟨T.setVm vm₁, locs, cells, slots⟩ (Value.ref a :: argsL).toArray) :
    (∃ (v : Option Value) (vm₁ : Vm) (B : Pt), s.WarmedH vm₁ ∧ Stand p l e R s m args below meth c B.U B.locs B.cells B.slots ∧ Post ⟨T.setVm vm₁, locs, cells, slots⟩ (Value.ref a :: argsL).toArray v B ∧
      ∀ target, Steps p.tables e below (B.U.setTop { g with pc := g.pc + 3, stack := v.toList ++ rest }) target → Steps p.tables e below (T.setTop g) target) ∨
    (∃ (q : Addr) (vm₁ : Vm) (B : Pt), s.WarmedH vm₁ ∧ Stand p l e R s m args below meth c B.U B.locs B.cells B.slots ∧ PostX ⟨T.setVm vm₁, locs, cells, slots⟩ (Value.ref a :: argsL).toArray q B ∧
      Steps p.tables e below (T.setTop g) ((B.U.setTop { g with stack := rest }).pushFrame (.throwing q))) := by
  subst hg
  have hpl : e.platform.magicAccessors = ({} : Platform).magicAccessors := by rw [X.admits.platform]
  obtain ⟨mk, methM, cM, kP, vm₁, hnamed, hmethM, hcodeM, -, hlocalsM, -, hkP, -, hW₁, hstep₁⟩ := Steps.initColdArgsNest (e := e) X.here hexec X.warmed hpl hown hy1 hy hlink hinst hcode (f := g) rfl hlen hstack hdg
  have X₁ := X.noted hW₁
  rcases hK g.method meth c ⟨T.setVm vm₁, locs, cells, slots⟩ { g with stack := rest } (.invokespecial index) mk (Value.ref a :: argsL).toArray X₁ rfl hsize hdg hW (X₁.named hnamed) (hpre vm₁ X₁.warmed) with ⟨v, B, X', hpost, hsteps⟩ | ⟨q, B, X', hpost, hsteps⟩
  · exact Or.inl ⟨v, vm₁, B, X₁.warmed, X', hpost, fun target h => hstep₁ _ fun acts => by rw [doInvoke_state]; exact hsteps.trans h⟩
  · exact Or.inr ⟨q, vm₁, B, X₁.warmed, X', hpost, hstep₁ _ fun acts => by rw [doInvoke_state]; exact hsteps⟩
end VXIC
section VXID
variable {p : Program} {l : Launch} {e : Env} {R : Room} {s : State} {m : MethodId} {args : Array Value} {below : List Frame} {meth : Method} {c : Code} {H : Heap} {locs : List Loc} {cells slots : Nat}
theorem vx_runIN {y : MethodName} {bytes cc : ByteArray} {maxL nL mc ms n index : Nat} {ws : List Cond} {rm : Room} {Pc : Array Value → State → Prop} {Qc : Array Value → State → Outcome → State → Prop} {XC : String → State → State → Prop} {free : Addr → Prop} {Ts : List Cond} {own host : String} {b : Addr} {As rest : List Value} {g : JFrame}
    (S : CallFix p m c cc nL s args Ts own) (hM : vx_Met l y ws rm Pc Qc XC mc ms free) (cw : va_CN R s args own index y host bytes maxL none ws rm mc ms n ∧ y.name = "<init>" ∧ (Cond.instanceMethod y).before args s = true) (hp : PreS s H Pc (.ref b :: As))
    (hg : g.method = m) (hn : As.length = n) (hsize : g.locals.size = nL) (hstack : g.stack = As.reverse ++ .ref b :: rest) (hW : 2 * g.monitorRoom + (rest.map fun v => v.category).sum ≤ 8) (hdg : decode cc g.pc = .ok (.invokespecial index, 3)) (hf : cells + mc ≤ R.cells ∧ slots + ms ≤ R.slots) :
    vx_Run p l e R s m args below meth c H locs cells slots mc ms g rest (Qc (Value.ref b :: As).toArray) XC free := by
  obtain ⟨⟨⟨hrc, hrs, hfr, hlo, hws, hcw⟩, hcode, hini, hy, hlen, hl⟩, hx1, hx2⟩ := cw
  have hK : vx_Back l R p e below s args y 3 8 (PreOf R mc ms Pc) (PostOf Qc mc ms free) (vx_Post XC mc ms free) := vx_back (bytes := bytes) (maxL := maxL) (ret := none) hM hp.1 hrc hrs hfr hlo hws hcw (fun a' U hW => word_at hW (Or.inl (by first | rfl | simp [Cond.onTables, Cond.keeps, Cond.steady])) hini)
  obtain ⟨hx, hb, hml, ho, -⟩ := S
  have hPc := hp.2
  intro T hT X
  rcases vx_callIN X hx (bytes := bytes) (maxL := maxL) ho hx1 hl hx2 hcode hy hK hg (hsize.trans hml.symm) (a := b) (argsL := As) (rest := rest) (fun sig h => hn.trans (hlen sig h)) hstack hW (by rw [hb]; exact hdg)
    (fun vm₁ hW₁ => ⟨hf.1, hf.2, hPc (T.setVm vm₁) hT hW₁⟩) with ⟨v, vm₁, ⟨U', l2, c2, s2⟩, hW₁, X', ⟨g', mk, t, L, e1, e2, hq, h1, hL, h2, h3⟩, st⟩ | ⟨q, vm₁, ⟨U', l2, c2, s2⟩, hW₁, X', ⟨g', mk, t, L, E, ce, e1, e2, hq, hce, hcv, hcl, h1, hL, h2, h3⟩, st⟩
  · dsimp only [Pt.U, Pt.locs, Pt.cells, Pt.slots] at X' e1 e2 h1 h2 h3 st
    subst h1; subst h2; subst h3
    exact Or.inl ⟨v, (T.setVm vm₁).calling g' mk (Value.ref b :: As).toArray, t, U', L, hT, X', hL, e1, e2, hq, st⟩
  · dsimp only [Pt.U, Pt.locs, Pt.cells, Pt.slots] at X' e1 e2 h1 h2 h3 st hcl
    subst h1; subst h2; subst h3
    exact Or.inr ⟨q, (T.setVm vm₁).calling g' mk (Value.ref b :: As).toArray, t, U', L, E, ce, hT, X', hL, e1, e2, hq, hce, hcv, vx_cls hW₁ hcl, st⟩
end VXID
/-! ===== END ===== -/
/-! ===== BEGIN a private method of a nest mate that may throw (follows va_callVN, va_callSN, va_runVN, va_runSN) ===== -/
section
variable {p : Program} {l : Launch} {e : Env} {R : Room} {s : State} {m : MethodId} {args : Array Value} {below : List Frame} {meth : Method} {c : Code} {H : Heap} {locs : List Loc} {cells slots : Nat}
variable {T : State}
theorem vx_callVN (X : Stand p l e R s m args below meth c T locs cells slots) (hexec : p.tables.exec = Jvm.exec) {own C : String} {index : Nat} {host : String} {y : MethodName} {bytes : ByteArray} {maxL : Nat} {ret : Option FieldType}
    (hown : s.vm.findClass own = some m.cls) (hlink : (Cond.methodLinkNest own index y host).before args s = true) (hinst : (Cond.instanceMethod y).before args s = true) (hsel : (Cond.selects C y y).before args s = true)
    (hcode : (Cond.code y bytes maxL ret).before args s = true) (hy : y.cls ≠ "java/lang/invoke/MethodHandle" ∧ y.cls ≠ "java/lang/invoke/VarHandle")
    {W : Nat} {Pre : Pt → Array Value → Prop} {Post : Pt → Array Value → Option Value → Pt → Prop} {PostX : Pt → Array Value → Addr → Pt → Prop} (hK : vx_Back l R p e below s args y 3 W Pre Post PostX)
    {b : Addr} {cellB : Cell} (hcell : T.heap[b]? = some cellB) (hobj : cellB.vm.isStatics = false) (hcls : s.vm.findClass C = some cellB.cls)
    {g : JFrame} (hg : g.method = m) (hsize : g.locals.size = c.maxLocals) {argsL rest : List Value} (hlen : ∀ sig, parseMethodDescriptor y.desc = some sig → argsL.length = sig.parameters.length)
    (hstack : g.stack = argsL.reverse ++ .ref b :: rest) (hW : 2 * g.monitorRoom + (rest.map fun v => v.category).sum ≤ W) (hdg : decode c.code g.pc = .ok (.invokevirtual index, 3))
    (hpre : ∀ vm₁, s.WarmedH vm₁ → Pre ⟨T.setVm vm₁, locs, cells, slots⟩ (Value.ref b :: argsL).toArray) :
    (∃ (v : Option Value) (vm₁ : Vm) (B : Pt), s.WarmedH vm₁ ∧ Stand p l e R s m args below meth c B.U B.locs B.cells B.slots ∧ Post ⟨T.setVm vm₁, locs, cells, slots⟩ (Value.ref b :: argsL).toArray v B ∧
      ∀ target, Steps p.tables e below (B.U.setTop { g with pc := g.pc + 3, stack := v.toList ++ rest }) target → Steps p.tables e below (T.setTop g) target) ∨
    (∃ (q : Addr) (vm₁ : Vm) (B : Pt), s.WarmedH vm₁ ∧ Stand p l e R s m args below meth c B.U B.locs B.cells B.slots ∧ PostX ⟨T.setVm vm₁, locs, cells, slots⟩ (Value.ref b :: argsL).toArray q B ∧
      Steps p.tables e below (T.setTop g) ((B.U.setTop { g with stack := rest }).pushFrame (.throwing q))) := by
  obtain ⟨mk, methM, hnamed, hmethM, hstM, habM⟩ := Cond.instanceMethod_spec hinst
  obtain ⟨methM', cM, hmethM', -, -, -, -, -, -, hsigM⟩ := Cond.code_spec hnamed hcode
  cases hmethM.symm.trans hmethM'
  obtain ⟨c2, r2, m2, q1, q2, q3, q4, kP, hkP, hkPi⟩ := Cond.selects_spec hsel
  cases hcls.symm.trans q1
  cases (State.methodFound?_of_named hnamed hy).symm.trans q2
  cases hnamed.symm.trans q3
  have hselP : selectMethod e.platform s.vm cellB.cls mk = .method mk := by rw [Launch.admits_selectMethod X.admits]; exact q4
  obtain ⟨vm₁, X₁, hstep₁⟩ := X.invokevirtualNest hexec hown hlink hnamed hmethM hstM hkP hkPi hy (a := b) (cell := cellB) hcell
    (fun z h => by rw [h] at hobj; cases hobj) hselP hmethM habM hkP hkPi (g := g) hg (argsL := argsL) (rest := rest) (hlen _ hsigM) hstack hdg
  rcases hK m meth c ⟨T.setVm vm₁, locs, cells, slots⟩ { g with stack := rest } (.invokevirtual index) mk (Value.ref b :: argsL).toArray X₁ hg hsize hdg hW (X₁.named hnamed) (hpre vm₁ X₁.warmed) with ⟨v, B, X', hpost, hsteps⟩ | ⟨q, B, X', hpost, hsteps⟩
  · exact Or.inl ⟨v, vm₁, B, X₁.warmed, X', hpost, fun target h => hstep₁ _ fun acts => by rw [doInvoke_state]; exact hsteps.trans h⟩
  · exact Or.inr ⟨q, vm₁, B, X₁.warmed, X', hpost, hstep₁ _ fun acts => by rw [doInvoke_state]; exact hsteps⟩
theorem vx_callSN (X : Stand p l e R s m args below meth c T locs cells slots) (hexec : p.tables.exec = Jvm.exec) {own : String} {index : Nat} {host : String} {y : MethodName} {bytes : ByteArray} {maxL : Nat} {ret : Option FieldType}
    (hown : s.vm.findClass own = some m.cls) (hlink : (Cond.methodLinkNest own index y host).before args s = true) (hstat : (Cond.static y).before args s = true) (hinit : (Cond.initialized y.cls).before args s = true)
    (hcode : (Cond.code y bytes maxL ret).before args s = true) (hy : y.cls ≠ "java/lang/invoke/MethodHandle" ∧ y.cls ≠ "java/lang/invoke/VarHandle")
    {W : Nat} {Pre : Pt → Array Value → Prop} {Post : Pt → Array Value → Option Value → Pt → Prop} {PostX : Pt → Array Value → Addr → Pt → Prop} (hK : vx_Back l R p e below s args y 3 W Pre Post PostX)
    {g : JFrame} (hg : g.method = m) (hsize : g.locals.size = c.maxLocals) {argsL rest : List Value} (hlen : ∀ sig, parseMethodDescriptor y.desc = some sig → argsL.length = sig.parameters.length)
    (hstack : g.stack = argsL.reverse ++ rest) (hW : 2 * g.monitorRoom + (rest.map fun v => v.category).sum ≤ W) (hdg : decode c.code g.pc = .ok (.invokestatic index, 3))
    (hpre : ∀ vm₁, s.WarmedH vm₁ → Pre ⟨T.setVm vm₁, locs, cells, slots⟩ argsL.toArray) :
    (∃ (v : Option Value) (vm₁ : Vm) (B : Pt), s.WarmedH vm₁ ∧ Stand p l e R s m args below meth c B.U B.locs B.cells B.slots ∧ Post ⟨T.setVm vm₁, locs, cells, slots⟩ argsL.toArray v B ∧
      ∀ target, Steps p.tables e below (B.U.setTop { g with pc := g.pc + 3, stack := v.toList ++ rest }) target → Steps p.tables e below (T.setTop g) target) ∨
    (∃ (q : Addr) (vm₁ : Vm) (B : Pt), s.WarmedH vm₁ ∧ Stand p l e R s m args below meth c B.U B.locs B.cells B.slots ∧ PostX ⟨T.setVm vm₁, locs, cells, slots⟩ argsL.toArray q B ∧
      Steps p.tables e below (T.setTop g) ((B.U.setTop { g with stack := rest }).pushFrame (.throwing q))) := by
  obtain ⟨mk, hnamed⟩ := Cond.code_named hcode
  obtain ⟨methM, cM, hmethM, -, -, -, -, -, -, hsigM⟩ := Cond.code_spec hnamed hcode
  have hstatic : methM.isStatic = true := Cond.static_spec hnamed hmethM hstat
  obtain ⟨kP, hkP, -⟩ := className_of_methodNamed hnamed
  have hinitP : kP.init = .initialized := Cond.initialized_spec (findClass_of_methodNamed hnamed) hkP hinit
  obtain ⟨vm₁, X₁, hstep₁⟩ := X.invokestaticNest hexec hown hlink hnamed hmethM hstatic hkP hinitP hy (g := g) hg (argsL := argsL) (rest := rest) (hlen _ hsigM) hstack hdg
  rcases hK m meth c ⟨T.setVm vm₁, locs, cells, slots⟩ { g with stack := rest } (.invokestatic index) mk argsL.toArray X₁ hg hsize hdg hW (X₁.named hnamed) (hpre vm₁ X₁.warmed) with ⟨v, B, X', hpost, hsteps⟩ | ⟨q, B, X', hpost, hsteps⟩
  · exact Or.inl ⟨v, vm₁, B, X₁.warmed, X', hpost, fun target h => hstep₁ _ fun acts => by rw [doInvoke_state]; exact hsteps.trans h⟩
  · exact Or.inr ⟨q, vm₁, B, X₁.warmed, X', hpost, hstep₁ _ fun acts => by rw [doInvoke_state]; exact hsteps⟩
theorem vx_runVN {y : MethodName} {bytes cc : ByteArray} {maxL nL mc ms n index : Nat} {ret : Option FieldType} {ws : List Cond} {rm : Room} {Pc : Array Value → State → Prop} {Qc : Array Value → State → Outcome → State → Prop} {XC : String → State → State → Prop} {free : Addr → Prop} {Ts : List Cond} {own C host : String} {b : Addr} {As rest : List Value} {g : JFrame}
    (S : CallFix p m c cc nL s args Ts own) (hM : vx_Met l y ws rm Pc Qc XC mc ms free) (cw : va_CN R s args own index y host bytes maxL ret ws rm mc ms n ∧ (Cond.instanceMethod y).before args s = true ∧ (Cond.selects C y y).before args s = true) (hp : PreV s H C b Pc As)
    (hg : g.method = m) (hn : As.length = n) (hsize : g.locals.size = nL) (hstack : g.stack = As.reverse ++ .ref b :: rest) (hW : 2 * g.monitorRoom + (rest.map fun v => v.category).sum ≤ 8) (hdg : decode cc g.pc = .ok (.invokevirtual index, 3)) (hf : cells + mc ≤ R.cells ∧ slots + ms ≤ R.slots) :
    vx_Run p l e R s m args below meth c H locs cells slots mc ms g rest (Qc (Value.ref b :: As).toArray) XC free := by
  obtain ⟨⟨⟨hrc, hrs, hfr, hlo, hws, hcw⟩, hcode, hini, hy, hlen, hl⟩, hx1, hx2⟩ := cw
  have hK : vx_Back l R p e below s args y 3 8 (PreOf R mc ms Pc) (PostOf Qc mc ms free) (vx_Post XC mc ms free) := vx_back (bytes := bytes) (maxL := maxL) (ret := ret) hM hp.1 hrc hrs hfr hlo hws hcw (fun a' U hW => word_at hW (Or.inl (by first | rfl | simp [Cond.onTables, Cond.keeps, Cond.steady])) hini)
  obtain ⟨hx, hb, hml, ho, -⟩ := S
  obtain ⟨-, ⟨cellB, hcB, hoB, hclB⟩, hPc⟩ := hp
  intro T hT X
  rcases vx_callVN X hx (C := C) (bytes := bytes) (maxL := maxL) (ret := ret) ho hl hx1 hx2 hcode hy hK (by rw [hT]; exact hcB) hoB hclB hg (hsize.trans hml.symm) (argsL := As) (rest := rest) (fun sig h => hn.trans (hlen sig h)) hstack hW (by rw [hb]; exact hdg)
    (fun vm₁ hW₁ => ⟨hf.1, hf.2, hPc (T.setVm vm₁) hT hW₁⟩) with ⟨v, vm₁, ⟨U', l2, c2, s2⟩, hW₁, X', ⟨g', mk, t, L, e1, e2, hq, h1, hL, h2, h3⟩, st⟩ | ⟨q, vm₁, ⟨U', l2, c2, s2⟩, hW₁, X', ⟨g', mk, t, L, E, ce, e1, e2, hq, hce, hcv, hcl, h1, hL, h2, h3⟩, st⟩
  · dsimp only [Pt.U, Pt.locs, Pt.cells, Pt.slots] at X' e1 e2 h1 h2 h3 st
    subst h1; subst h2; subst h3
    exact Or.inl ⟨v, (T.setVm vm₁).calling g' mk (Value.ref b :: As).toArray, t, U', L, hT, X', hL, e1, e2, hq, st⟩
  · dsimp only [Pt.U, Pt.locs, Pt.cells, Pt.slots] at X' e1 e2 h1 h2 h3 st hcl
    subst h1; subst h2; subst h3
    exact Or.inr ⟨q, (T.setVm vm₁).calling g' mk (Value.ref b :: As).toArray, t, U', L, E, ce, hT, X', hL, e1, e2, hq, hce, hcv, vx_cls hW₁ hcl, st⟩
theorem vx_runSN {y : MethodName} {bytes cc : ByteArray} {maxL nL mc ms n index : Nat} {ret : Option FieldType} {ws : List Cond} {rm : Room} {Pc : Array Value → State → Prop} {Qc : Array Value → State → Outcome → State → Prop} {XC : String → State → State → Prop} {free : Addr → Prop} {Ts : List Cond} {own host : String} {As rest : List Value} {g : JFrame}
    (S : CallFix p m c cc nL s args Ts own) (hM : vx_Met l y ws rm Pc Qc XC mc ms free) (cw : va_CN R s args own index y host bytes maxL ret ws rm mc ms n ∧ (Cond.static y).before args s = true ∧ True) (hp : PreS s H Pc As)
    (hg : g.method = m) (hn : As.length = n) (hsize : g.locals.size = nL) (hstack : g.stack = As.reverse ++ rest) (hW : 2 * g.monitorRoom + (rest.map fun v => v.category).sum ≤ 8) (hdg : decode cc g.pc = .ok (.invokestatic index, 3)) (hf : cells + mc ≤ R.cells ∧ slots + ms ≤ R.slots) :
    vx_Run p l e R s m args below meth c H locs cells slots mc ms g rest (Qc As.toArray) XC free := by
  obtain ⟨⟨⟨hrc, hrs, hfr, hlo, hws, hcw⟩, hcode, hini, hy, hlen, hl⟩, hx1, hx2⟩ := cw
  have hK : vx_Back l R p e below s args y 3 8 (PreOf R mc ms Pc) (PostOf Qc mc ms free) (vx_Post XC mc ms free) := vx_back (bytes := bytes) (maxL := maxL) (ret := ret) hM hp.1 hrc hrs hfr hlo hws hcw (fun a' U hW => word_at hW (Or.inl (by first | rfl | simp [Cond.onTables, Cond.keeps, Cond.steady])) hini)
  obtain ⟨hx, hb, hml, ho, -⟩ := S
  have hPc := hp.2
  intro T hT X
  rcases vx_callSN X hx (bytes := bytes) (maxL := maxL) (ret := ret) ho hl hx1 hini hcode hy hK hg (hsize.trans hml.symm) (argsL := As) (rest := rest) (fun sig h => hn.trans (hlen sig h)) hstack hW (by rw [hb]; exact hdg)
    (fun vm₁ hW₁ => ⟨hf.1, hf.2, hPc (T.setVm vm₁) hT hW₁⟩) with ⟨v, vm₁, ⟨U', l2, c2, s2⟩, hW₁, X', ⟨g', mk, t, L, e1, e2, hq, h1, hL, h2, h3⟩, st⟩ | ⟨q, vm₁, ⟨U', l2, c2, s2⟩, hW₁, X', ⟨g', mk, t, L, E, ce, e1, e2, hq, hce, hcv, hcl, h1, hL, h2, h3⟩, st⟩
  · dsimp only [Pt.U, Pt.locs, Pt.cells, Pt.slots] at X' e1 e2 h1 h2 h3 st
    subst h1; subst h2; subst h3
    exact Or.inl ⟨v, (T.setVm vm₁).calling g' mk As.toArray, t, U', L, hT, X', hL, e1, e2, hq, st⟩
  · dsimp only [Pt.U, Pt.locs, Pt.cells, Pt.slots] at X' e1 e2 h1 h2 h3 st hcl
    subst h1; subst h2; subst h3
    exact Or.inr ⟨q, (T.setVm vm₁).calling g' mk As.toArray, t, U', L, E, ce, hT, X', hL, e1, e2, hq, hce, hcv, vx_cls hW₁ hcl, st⟩
end
/-! ===== END ===== -/
end
section
def RX0 : String := "BoundWright$Caller"
def TX0 : u_T := fun k => match k with
  | 0 => ("BoundWright$Caller", "forms", "LBoundWright$Forms;", true)
  | 1 => ("BoundWright$Caller", "kinds", "LBoundWright$Kinds;", true)
  | 2 => ("BoundWright$Caller", "order", "LBoundWright$Order;", true)
  | 3 => ("BoundWright$Caller", "routines", "LBoundWright$Routines;", true)
  | 4 => ("BoundWright$Caller", "given", "[I", true)
  | 5 => ("BoundWright$Caller", "formals", "[I", true)
  | 6 => ("BoundWright$Caller", "givenCount", "I", false)
  | 7 => ("BoundWright$Caller", "receiver", "I", false)
  | _ => ("BoundWright$Caller", "phase", "I", false)
def tyX0 : Nat → FieldType := fun k => match k with
  | 0 => .object "BoundWright$Forms"
  | 1 => .object "BoundWright$Kinds"
  | 2 => .object "BoundWright$Order"
  | 3 => .object "BoundWright$Routines"
  | 4 => .array .int
  | 5 => .array .int
  | 6 => .int
  | 7 => .int
  | _ => .int
abbrev wsX00 : List Cond := u_ws RX0 TX0 9
theorem nmX0 : ∀ a, a < 9 → ∀ b, b < 9 → a ≠ b → (TX0 a).2.1 ≠ (TX0 b).2.1 := by decide +kernel
theorem tyX0_ok : ∀ k, k < 9 → parseFieldDescriptor (TX0 k).2.2.1 = some (tyX0 k) := by decide +kernel
abbrev cX0_init : ByteArray := prog_2_method_1_code
def yX0_init : MethodName := ⟨RX0, "<init>", "(LBoundWright$Forms;LBoundWright$Kinds;LBoundWright$Order;LBoundWright$Routines;)V"⟩
abbrev cX0_take : ByteArray := prog_2_method_2_code
def yX0_take : MethodName := ⟨RX0, "take", "(IIII)V"⟩
abbrev cX0_choose : ByteArray := prog_2_method_3_code
def yX0_choose : MethodName := ⟨RX0, "choose", "(I)I"⟩
abbrev cX0_answer : ByteArray := prog_2_method_4_code
def yX0_answer : MethodName := ⟨RX0, "answer", "(II)I"⟩
abbrev cX0_suitingOf : ByteArray := prog_2_method_5_code
def yX0_suitingOf : MethodName := ⟨RX0, "suitingOf", "(I)I"⟩
abbrev cX0_isCountRight : ByteArray := prog_2_method_6_code
def yX0_isCountRight : MethodName := ⟨RX0, "isCountRight", "(I)Z"⟩
abbrev cX0_layOutFormals : ByteArray := prog_2_method_7_code
def yX0_layOutFormals : MethodName := ⟨RX0, "layOutFormals", "(I)V"⟩
abbrev cX0_seen : ByteArray := prog_2_method_8_code
def yX0_seen : MethodName := ⟨RX0, "seen", "(II)I"⟩
abbrev cX0_isSuiting : ByteArray := prog_2_method_9_code
def yX0_isSuiting : MethodName := ⟨RX0, "isSuiting", "(I)Z"⟩
abbrev cX0_standIn : ByteArray := prog_2_method_10_code
def yX0_standIn : MethodName := ⟨RX0, "standIn", "(I)I"⟩
abbrev cX0_isFitting : ByteArray := prog_2_method_11_code
def yX0_isFitting : MethodName := ⟨RX0, "isFitting", "(II)Z"⟩
abbrev cX0_mostSpecialOf : ByteArray := prog_2_method_12_code
def yX0_mostSpecialOf : MethodName := ⟨RX0, "mostSpecialOf", "(I)I"⟩
abbrev cX0_isMoreSpecialThanAll : ByteArray := prog_2_method_13_code
def yX0_isMoreSpecialThanAll : MethodName := ⟨RX0, "isMoreSpecialThanAll", "(II)Z"⟩
abbrev cX0_isMoreSpecial : ByteArray := prog_2_method_14_code
def yX0_isMoreSpecial : MethodName := ⟨RX0, "isMoreSpecial", "(II)Z"⟩
def RX1 : String := "BoundWright$Faults"
def TX1 : u_T := fun k => match k with
  | 0 => ("BoundWright$Faults", "told", "LBoundWright$Kinds;", true)
  | 1 => ("BoundWright$Faults", "routines", "LBoundWright$Routines;", true)
  | 2 => ("BoundWright$Faults", "numbers", "[I", true)
  | 3 => ("BoundWright$Faults", "kinds", "[I", true)
  | 4 => ("BoundWright$Faults", "methods", "[I", true)
  | _ => ("BoundWright$Faults", "count", "I", false)
def tyX1 : Nat → FieldType := fun k => match k with
  | 0 => .object "BoundWright$Kinds"
  | 1 => .object "BoundWright$Routines"
  | 2 => .array .int
  | 3 => .array .int
  | 4 => .array .int
  | _ => .int
abbrev wsX10 : List Cond := u_ws RX1 TX1 6
theorem nmX1 : ∀ a, a < 6 → ∀ b, b < 6 → a ≠ b → (TX1 a).2.1 ≠ (TX1 b).2.1 := by decide +kernel
theorem tyX1_ok : ∀ k, k < 6 → parseFieldDescriptor (TX1 k).2.2.1 = some (tyX1 k) := by decide +kernel
abbrev cX1_init : ByteArray := prog_3_method_1_code
def yX1_init : MethodName := ⟨RX1, "<init>", "(LBoundWright$Kinds;LBoundWright$Routines;)V"⟩
abbrev cX1_list : ByteArray := prog_3_method_2_code
def yX1_list : MethodName := ⟨RX1, "list", "(LBoundWright$Review;)V"⟩
abbrev cX1_listMethods : ByteArray := prog_3_method_3_code
def yX1_listMethods : MethodName := ⟨RX1, "listMethods", "(ILBoundWright$Review;)V"⟩
abbrev cX1_addIf : ByteArray := prog_3_method_4_code
def yX1_addIf : MethodName := ⟨RX1, "addIf", "(ZIII)V"⟩
abbrev cX1_countOfKind : ByteArray := prog_3_method_5_code
def yX1_countOfKind : MethodName := ⟨RX1, "countOfKind", "(I)I"⟩
abbrev cX1_countWithout : ByteArray := prog_3_method_6_code
def yX1_countWithout : MethodName := ⟨RX1, "countWithout", "(ILBoundWright$Review;)I"⟩
abbrev cX1_isOnlyBecauseOf : ByteArray := prog_3_method_7_code
def yX1_isOnlyBecauseOf : MethodName := ⟨RX1, "isOnlyBecauseOf", "(IILBoundWright$Review;)Z"⟩
def RX2 : String := "BoundWright$Forms"
def TX2 : u_T := fun k => match k with
  | 0 => ("BoundWright$Forms", "what", "[I", true)
  | 1 => ("BoundWright$Forms", "owner", "[I", true)
  | 2 => ("BoundWright$Forms", "first", "[I", true)
  | 3 => ("BoundWright$Forms", "second", "[I", true)
  | 4 => ("BoundWright$Forms", "deep", "[I", true)
  | 5 => ("BoundWright$Forms", "code", "[I", true)
  | 6 => ("BoundWright$Forms", "owners", "[I", true)
  | 7 => ("BoundWright$Forms", "next", "[I", true)
  | 8 => ("BoundWright$Forms", "heads", "[I", true)
  | _ => ("BoundWright$Forms", "count", "I", false)
def tyX2 : Nat → FieldType := fun k => match k with
  | 0 => .array .int
  | 1 => .array .int
  | 2 => .array .int
  | 3 => .array .int
  | 4 => .array .int
  | 5 => .array .int
  | 6 => .array .int
  | 7 => .array .int
  | 8 => .array .int
  | _ => .int
abbrev wsX20 : List Cond := u_ws RX2 TX2 10
theorem nmX2 : ∀ a, a < 10 → ∀ b, b < 10 → a ≠ b → (TX2 a).2.1 ≠ (TX2 b).2.1 := by decide +kernel
theorem tyX2_ok : ∀ k, k < 10 → parseFieldDescriptor (TX2 k).2.2.1 = some (tyX2 k) := by decide +kernel
abbrev cX2_init : ByteArray := prog_4_method_1_code
def yX2_init : MethodName := ⟨RX2, "<init>", "()V"⟩
abbrev cX2_make : ByteArray := prog_4_method_2_code
def yX2_make : MethodName := ⟨RX2, "make", "(IIII)I"⟩
abbrev cX2_release : ByteArray := prog_4_method_3_code
def yX2_release : MethodName := ⟨RX2, "release", "(I)V"⟩
abbrev cX2_chain : ByteArray := prog_4_method_4_code
def yX2_chain : MethodName := ⟨RX2, "chain", "(IIII)I"⟩
abbrev cX2_deepOf : ByteArray := prog_4_method_5_code
def yX2_deepOf : MethodName := ⟨RX2, "deepOf", "(III)I"⟩
abbrev cX2_codeOf : ByteArray := prog_4_method_6_code
def yX2_codeOf : MethodName := ⟨RX2, "codeOf", "(IIII)I"⟩
abbrev cX2_ownersOf : ByteArray := prog_4_method_7_code
def yX2_ownersOf : MethodName := ⟨RX2, "ownersOf", "(IIII)I"⟩
abbrev cX2_put : ByteArray := prog_4_method_8_code
def yX2_put : MethodName := ⟨RX2, "put", "(IIIII)I"⟩
abbrev cX2_putIntoArgument : ByteArray := prog_4_method_9_code
def yX2_putIntoArgument : MethodName := ⟨RX2, "putIntoArgument", "(IIIII)I"⟩
def RX3 : String := "BoundWright$Kinds"
def TX3 : u_T := fun k => match k with
  | 0 => ("BoundWright$Kinds", "forms", "LBoundWright$Forms;", true)
  | 1 => ("BoundWright$Kinds", "parameters", "[I", true)
  | 2 => ("BoundWright$Kinds", "variances", "[I", true)
  | 3 => ("BoundWright$Kinds", "limits", "[I", true)
  | 4 => ("BoundWright$Kinds", "told", "[I", true)
  | 5 => ("BoundWright$Kinds", "extended", "[I", true)
  | 6 => ("BoundWright$Kinds", "above", "[I", true)
  | 7 => ("BoundWright$Kinds", "views", "[I", true)
  | 8 => ("BoundWright$Kinds", "sealedOnes", "I", false)
  | _ => ("BoundWright$Kinds", "count", "I", false)
def tyX3 : Nat → FieldType := fun k => match k with
  | 0 => .object "BoundWright$Forms"
  | 1 => .array .int
  | 2 => .array .int
  | 3 => .array .int
  | 4 => .array .int
  | 5 => .array .int
  | 6 => .array .int
  | 7 => .array .int
  | 8 => .int
  | _ => .int
abbrev wsX30 : List Cond := u_ws RX3 TX3 10
theorem nmX3 : ∀ a, a < 10 → ∀ b, b < 10 → a ≠ b → (TX3 a).2.1 ≠ (TX3 b).2.1 := by decide +kernel
theorem tyX3_ok : ∀ k, k < 10 → parseFieldDescriptor (TX3 k).2.2.1 = some (tyX3 k) := by decide +kernel
abbrev cX3_init : ByteArray := prog_5_method_1_code
def yX3_init : MethodName := ⟨RX3, "<init>", "(LBoundWright$Forms;)V"⟩
abbrev cX3_add : ByteArray := prog_5_method_2_code
def yX3_add : MethodName := ⟨RX3, "add", "(IIZ)I"⟩
abbrev cX3_lengthen : ByteArray := prog_5_method_3_code
def yX3_lengthen : MethodName := ⟨RX3, "lengthen", "(II)V"⟩
abbrev cX3_extendedCount : ByteArray := prog_5_method_4_code
def yX3_extendedCount : MethodName := ⟨RX3, "extendedCount", "(I)I"⟩
abbrev cX3_extendedAt : ByteArray := prog_5_method_5_code
def yX3_extendedAt : MethodName := ⟨RX3, "extendedAt", "(II)I"⟩
abbrev cX3_isToldOf : ByteArray := prog_5_method_6_code
def yX3_isToldOf : MethodName := ⟨RX3, "isToldOf", "(II)Z"⟩
abbrev cX3_isOrHasAbove : ByteArray := prog_5_method_7_code
def yX3_isOrHasAbove : MethodName := ⟨RX3, "isOrHasAbove", "(II)Z"⟩
abbrev cX3_directlyBelow : ByteArray := prog_5_method_8_code
def yX3_directlyBelow : MethodName := ⟨RX3, "directlyBelow", "(I)I"⟩
abbrev cX3_settle : ByteArray := prog_5_method_9_code
def yX3_settle : MethodName := ⟨RX3, "settle", "(I)V"⟩
abbrev cX3_view : ByteArray := prog_5_method_10_code
def yX3_view : MethodName := ⟨RX3, "view", "(III)I"⟩
abbrev cX3_marked : ByteArray := prog_5_method_11_code
def yX3_marked : MethodName := ⟨RX3, "marked", "(I)I"⟩
abbrev cX3_argumentAs : ByteArray := prog_5_method_12_code
def yX3_argumentAs : MethodName := ⟨RX3, "argumentAs", "(III)I"⟩
abbrev cX3_formAs : ByteArray := prog_5_method_13_code
def yX3_formAs : MethodName := ⟨RX3, "formAs", "(II)I"⟩
abbrev cX3_selfForm : ByteArray := prog_5_method_14_code
def yX3_selfForm : MethodName := ⟨RX3, "selfForm", "(I)I"⟩
abbrev cX3_limitOf : ByteArray := prog_5_method_15_code
def yX3_limitOf : MethodName := ⟨RX3, "limitOf", "(I)I"⟩
abbrev cX3_receiver : ByteArray := prog_5_method_16_code
def yX3_receiver : MethodName := ⟨RX3, "receiver", "(I)I"⟩
def RX4 : String := "BoundWright$Order"
def TX4 : u_T := fun k => match k with
  | 0 => ("BoundWright$Order", "forms", "LBoundWright$Forms;", true)
  | _ => ("BoundWright$Order", "kinds", "LBoundWright$Kinds;", true)
def tyX4 : Nat → FieldType := fun k => match k with
  | 0 => .object "BoundWright$Forms"
  | _ => .object "BoundWright$Kinds"
abbrev wsX40 : List Cond := u_ws RX4 TX4 2
theorem nmX4 : ∀ a, a < 2 → ∀ b, b < 2 → a ≠ b → (TX4 a).2.1 ≠ (TX4 b).2.1 := by decide +kernel
theorem tyX4_ok : ∀ k, k < 2 → parseFieldDescriptor (TX4 k).2.2.1 = some (tyX4 k) := by decide +kernel
abbrev cX4_init : ByteArray := prog_6_method_1_code
def yX4_init : MethodName := ⟨RX4, "<init>", "(LBoundWright$Forms;LBoundWright$Kinds;)V"⟩
abbrev cX4_isUnder : ByteArray := prog_6_method_2_code
def yX4_isUnder : MethodName := ⟨RX4, "isUnder", "(III)Z"⟩
abbrev cX4_areArraysOfReferences : ByteArray := prog_6_method_3_code
def yX4_areArraysOfReferences : MethodName := ⟨RX4, "areArraysOfReferences", "(II)Z"⟩
abbrev cX4_isClassUnder : ByteArray := prog_6_method_4_code
def yX4_isClassUnder : MethodName := ⟨RX4, "isClassUnder", "(III)Z"⟩
abbrev cX4_isWithin : ByteArray := prog_6_method_5_code
def yX4_isWithin : MethodName := ⟨RX4, "isWithin", "(IIII)Z"⟩
abbrev cX4_varied : ByteArray := prog_6_method_6_code
def yX4_varied : MethodName := ⟨RX4, "varied", "(II)I"⟩
abbrev cX4_pairs : ByteArray := prog_6_method_7_code
def yX4_pairs : MethodName := ⟨RX4, "pairs", "()I"⟩
abbrev cX4_joined : ByteArray := prog_6_method_8_code
def yX4_joined : MethodName := ⟨RX4, "joined", "(IIZI)I"⟩
abbrev cX4_lowestShared : ByteArray := prog_6_method_9_code
def yX4_lowestShared : MethodName := ⟨RX4, "lowestShared", "(II)I"⟩
abbrev cX4_joinedArgument : ByteArray := prog_6_method_10_code
def yX4_joinedArgument : MethodName := ⟨RX4, "joinedArgument", "(IIIIZI)I"⟩
abbrev cX4_isExactOrOut : ByteArray := prog_6_method_11_code
def yX4_isExactOrOut : MethodName := ⟨RX4, "isExactOrOut", "(I)Z"⟩
abbrev cX4_isKeeping : ByteArray := prog_6_method_12_code
def yX4_isKeeping : MethodName := ⟨RX4, "isKeeping", "(II)Z"⟩
abbrev cX4_isArgumentKeeping : ByteArray := prog_6_method_13_code
def yX4_isArgumentKeeping : MethodName := ⟨RX4, "isArgumentKeeping", "(III)Z"⟩
abbrev cX4_erased : ByteArray := prog_6_method_14_code
def yX4_erased : MethodName := ⟨RX4, "erased", "(II)I"⟩
abbrev cX4_erasedInmost : ByteArray := prog_6_method_15_code
def yX4_erasedInmost : MethodName := ⟨RX4, "erasedInmost", "(II)I"⟩
abbrev cX4_isCovered : ByteArray := prog_6_method_16_code
def yX4_isCovered : MethodName := ⟨RX4, "isCovered", "(II)Z"⟩
abbrev cX4_isNamed : ByteArray := prog_6_method_17_code
def yX4_isNamed : MethodName := ⟨RX4, "isNamed", "(II)Z"⟩
abbrev cX4_coveredBelow : ByteArray := prog_6_method_18_code
def yX4_coveredBelow : MethodName := ⟨RX4, "coveredBelow", "(II)I"⟩
abbrev cX4_isImpossible : ByteArray := prog_6_method_19_code
def yX4_isImpossible : MethodName := ⟨RX4, "isImpossible", "(II)Z"⟩
abbrev cX4_isAgainst : ByteArray := prog_6_method_20_code
def yX4_isAgainst : MethodName := ⟨RX4, "isAgainst", "(III)Z"⟩
def RX5 : String := "BoundWright$Review"
def TX5 : u_T := fun k => match k with
  | 0 => ("BoundWright$Review", "forms", "LBoundWright$Forms;", true)
  | 1 => ("BoundWright$Review", "kinds", "LBoundWright$Kinds;", true)
  | 2 => ("BoundWright$Review", "order", "LBoundWright$Order;", true)
  | 3 => ("BoundWright$Review", "routines", "LBoundWright$Routines;", true)
  | 4 => ("BoundWright$Review", "faults", "LBoundWright$Faults;", true)
  | 5 => ("BoundWright$Review", "overridden", "[I", true)
  | 6 => ("BoundWright$Review", "clashing", "[I", true)
  | 7 => ("BoundWright$Review", "worse", "[I", true)
  | 8 => ("BoundWright$Review", "bridges", "[I", true)
  | 9 => ("BoundWright$Review", "isMisplaced", "[Z", true)
  | 10 => ("BoundWright$Review", "isLoose", "[Z", true)
  | 11 => ("BoundWright$Review", "isTwofold", "[Z", true)
  | 12 => ("BoundWright$Review", "looseExtended", "[I", true)
  | 13 => ("BoundWright$Review", "reached", "[I", true)
  | 14 => ("BoundWright$Review", "erasedFormals", "[I", true)
  | _ => ("BoundWright$Review", "erasedResults", "[I", true)
def tyX5 : Nat → FieldType := fun k => match k with
  | 0 => .object "BoundWright$Forms"
  | 1 => .object "BoundWright$Kinds"
  | 2 => .object "BoundWright$Order"
  | 3 => .object "BoundWright$Routines"
  | 4 => .object "BoundWright$Faults"
  | 5 => .array .int
  | 6 => .array .int
  | 7 => .array .int
  | 8 => .array .int
  | 9 => .array .boolean
  | 10 => .array .boolean
  | 11 => .array .boolean
  | 12 => .array .int
  | 13 => .array .int
  | 14 => .array .int
  | _ => .array .int
abbrev wsX50 : List Cond := u_ws RX5 TX5 16
theorem nmX5 : ∀ a, a < 16 → ∀ b, b < 16 → a ≠ b → (TX5 a).2.1 ≠ (TX5 b).2.1 := by decide +kernel
theorem tyX5_ok : ∀ k, k < 16 → parseFieldDescriptor (TX5 k).2.2.1 = some (tyX5 k) := by decide +kernel
abbrev cX5_init : ByteArray := prog_7_method_1_code
def yX5_init : MethodName := ⟨RX5, "<init>", "(LBoundWright$Forms;LBoundWright$Kinds;LBoundWright$Order;LBoundWright$Routines;LBoundWright$Faults;)V"⟩
abbrev cX5_refresh : ByteArray := prog_7_method_2_code
def yX5_refresh : MethodName := ⟨RX5, "refresh", "()V"⟩
abbrev cX5_membersOf : ByteArray := prog_7_method_3_code
def yX5_membersOf : MethodName := ⟨RX5, "membersOf", "(I)I"⟩
abbrev cX5_bridgesOfKind : ByteArray := prog_7_method_4_code
def yX5_bridgesOfKind : MethodName := ⟨RX5, "bridgesOfKind", "(I)I"⟩
abbrev cX5_allBridges : ByteArray := prog_7_method_5_code
def yX5_allBridges : MethodName := ⟨RX5, "allBridges", "()I"⟩
abbrev cX5_isReachedTwofold : ByteArray := prog_7_method_6_code
def yX5_isReachedTwofold : MethodName := ⟨RX5, "isReachedTwofold", "(I)Z"⟩
abbrev cX5_countLooseExtended : ByteArray := prog_7_method_7_code
def yX5_countLooseExtended : MethodName := ⟨RX5, "countLooseExtended", "(I)I"⟩
abbrev cX5_isOneMisplaced : ByteArray := prog_7_method_8_code
def yX5_isOneMisplaced : MethodName := ⟨RX5, "isOneMisplaced", "(I)Z"⟩
abbrev cX5_isParameterWith : ByteArray := prog_7_method_9_code
def yX5_isParameterWith : MethodName := ⟨RX5, "isParameterWith", "(II)Z"⟩
abbrev cX5_isOneLoose : ByteArray := prog_7_method_10_code
def yX5_isOneLoose : MethodName := ⟨RX5, "isOneLoose", "(I)Z"⟩
abbrev cX5_lookAtOthers : ByteArray := prog_7_method_11_code
def yX5_lookAtOthers : MethodName := ⟨RX5, "lookAtOthers", "(I)V"⟩
abbrev cX5_isAbove : ByteArray := prog_7_method_12_code
def yX5_isAbove : MethodName := ⟨RX5, "isAbove", "(II)Z"⟩
abbrev cX5_isBeforeInClass : ByteArray := prog_7_method_13_code
def yX5_isBeforeInClass : MethodName := ⟨RX5, "isBeforeInClass", "(II)Z"⟩
abbrev cX5_isOverriding : ByteArray := prog_7_method_14_code
def yX5_isOverriding : MethodName := ⟨RX5, "isOverriding", "(III)Z"⟩
abbrev cX5_isWorse : ByteArray := prog_7_method_15_code
def yX5_isWorse : MethodName := ⟨RX5, "isWorse", "(III)Z"⟩
abbrev cX5_erase : ByteArray := prog_7_method_16_code
def yX5_erase : MethodName := ⟨RX5, "erase", "(I)V"⟩
abbrev cX5_areFormalsErasedAlike : ByteArray := prog_7_method_17_code
def yX5_areFormalsErasedAlike : MethodName := ⟨RX5, "areFormalsErasedAlike", "(II)Z"⟩
abbrev cX5_areErasedAlike : ByteArray := prog_7_method_18_code
def yX5_areErasedAlike : MethodName := ⟨RX5, "areErasedAlike", "(II)Z"⟩
abbrev cX5_countBridges : ByteArray := prog_7_method_19_code
def yX5_countBridges : MethodName := ⟨RX5, "countBridges", "(I)I"⟩
abbrev cX5_isCountedBefore : ByteArray := prog_7_method_20_code
def yX5_isCountedBefore : MethodName := ⟨RX5, "isCountedBefore", "(II)Z"⟩
abbrev cX5_isOverridden : ByteArray := prog_7_method_21_code
def yX5_isOverridden : MethodName := ⟨RX5, "isOverridden", "(II)Z"⟩
def RX6 : String := "BoundWright$Routines"
def TX6 : u_T := fun k => match k with
  | 0 => ("BoundWright$Routines", "kinds", "[I", true)
  | 1 => ("BoundWright$Routines", "names", "[I", true)
  | 2 => ("BoundWright$Routines", "formals", "[I", true)
  | 3 => ("BoundWright$Routines", "formalCount", "[I", true)
  | 4 => ("BoundWright$Routines", "results", "[I", true)
  | 5 => ("BoundWright$Routines", "limits", "[I", true)
  | 6 => ("BoundWright$Routines", "manyOnes", "I", false)
  | _ => ("BoundWright$Routines", "count", "I", false)
def tyX6 : Nat → FieldType := fun k => match k with
  | 0 => .array .int
  | 1 => .array .int
  | 2 => .array .int
  | 3 => .array .int
  | 4 => .array .int
  | 5 => .array .int
  | 6 => .int
  | _ => .int
abbrev wsX60 : List Cond := u_ws RX6 TX6 8
theorem nmX6 : ∀ a, a < 8 → ∀ b, b < 8 → a ≠ b → (TX6 a).2.1 ≠ (TX6 b).2.1 := by decide +kernel
theorem tyX6_ok : ∀ k, k < 8 → parseFieldDescriptor (TX6 k).2.2.1 = some (tyX6 k) := by decide +kernel
abbrev cX6_init : ByteArray := prog_8_method_1_code
def yX6_init : MethodName := ⟨RX6, "<init>", "()V"⟩
abbrev cX6_add : ByteArray := prog_8_method_2_code
def yX6_add : MethodName := ⟨RX6, "add", "(IIIZ)V"⟩
abbrev cX6_addFormal : ByteArray := prog_8_method_3_code
def yX6_addFormal : MethodName := ⟨RX6, "addFormal", "(I)V"⟩
abbrev cX6_formalAt : ByteArray := prog_8_method_4_code
def yX6_formalAt : MethodName := ⟨RX6, "formalAt", "(II)I"⟩
abbrev cX6_isMany : ByteArray := prog_8_method_5_code
def yX6_isMany : MethodName := ⟨RX6, "isMany", "(I)Z"⟩
abbrev cX6_areAlike : ByteArray := prog_8_method_6_code
def yX6_areAlike : MethodName := ⟨RX6, "areAlike", "(II)Z"⟩
abbrev cX6_setOf : ByteArray := prog_8_method_7_code
def yX6_setOf : MethodName := ⟨RX6, "setOf", "(I)I"⟩
abbrev cX6_setNamed : ByteArray := prog_8_method_8_code
def yX6_setNamed : MethodName := ⟨RX6, "setNamed", "(I)I"⟩
def RX7 : String := "BoundWright"
def TX7 : u_T := fun k => match k with
  | 0 => ("BoundWright", "forms", "LBoundWright$Forms;", true)
  | 1 => ("BoundWright", "kinds", "LBoundWright$Kinds;", true)
  | 2 => ("BoundWright", "order", "LBoundWright$Order;", true)
  | 3 => ("BoundWright", "routines", "LBoundWright$Routines;", true)
  | 4 => ("BoundWright", "faults", "LBoundWright$Faults;", true)
  | 5 => ("BoundWright", "review", "LBoundWright$Review;", true)
  | _ => ("BoundWright", "caller", "LBoundWright$Caller;", true)
def tyX7 : Nat → FieldType := fun k => match k with
  | 0 => .object "BoundWright$Forms"
  | 1 => .object "BoundWright$Kinds"
  | 2 => .object "BoundWright$Order"
  | 3 => .object "BoundWright$Routines"
  | 4 => .object "BoundWright$Faults"
  | 5 => .object "BoundWright$Review"
  | _ => .object "BoundWright$Caller"
abbrev wsX70 : List Cond := u_ws RX7 TX7 7
theorem nmX7 : ∀ a, a < 7 → ∀ b, b < 7 → a ≠ b → (TX7 a).2.1 ≠ (TX7 b).2.1 := by decide +kernel
theorem tyX7_ok : ∀ k, k < 7 → parseFieldDescriptor (TX7 k).2.2.1 = some (tyX7 k) := by decide +kernel
abbrev cX7_init : ByteArray := prog_1_method_1_code
def yX7_init : MethodName := ⟨RX7, "<init>", "()V"⟩
abbrev cX7_kind : ByteArray := prog_1_method_2_code
def yX7_kind : MethodName := ⟨RX7, "kind", "(IIZ)I"⟩
abbrev cX7_bound : ByteArray := prog_1_method_3_code
def yX7_bound : MethodName := ⟨RX7, "bound", "(III)I"⟩
abbrev cX7_extend : ByteArray := prog_1_method_4_code
def yX7_extend : MethodName := ⟨RX7, "extend", "(II)I"⟩
abbrev cX7_ofKind : ByteArray := prog_1_method_5_code
def yX7_ofKind : MethodName := ⟨RX7, "ofKind", "(II)I"⟩
abbrev cX7_of : ByteArray := prog_1_method_6_code
def yX7_of : MethodName := ⟨RX7, "of", "(III)I"⟩
abbrev cX7_parameter : ByteArray := prog_1_method_7_code
def yX7_parameter : MethodName := ⟨RX7, "parameter", "(II)I"⟩
abbrev cX7_array : ByteArray := prog_1_method_8_code
def yX7_array : MethodName := ⟨RX7, "array", "(I)I"⟩
abbrev cX7_ofType : ByteArray := prog_1_method_9_code
def yX7_ofType : MethodName := ⟨RX7, "ofType", "(II)I"⟩
abbrev cX7_isBelow : ByteArray := prog_1_method_10_code
def yX7_isBelow : MethodName := ⟨RX7, "isBelow", "(II)Z"⟩
abbrev cX7_join : ByteArray := prog_1_method_11_code
def yX7_join : MethodName := ⟨RX7, "join", "(II)I"⟩
abbrev cX7_as : ByteArray := prog_1_method_12_code
def yX7_as : MethodName := ⟨RX7, "as", "(II)I"⟩
abbrev cX7_areAll : ByteArray := prog_1_method_13_code
def yX7_areAll : MethodName := ⟨RX7, "areAll", "(II)Z"⟩
abbrev cX7_method : ByteArray := prog_1_method_14_code
def yX7_method : MethodName := ⟨RX7, "method", "(IIIIIIZ)I"⟩
abbrev cX7_variable : ByteArray := prog_1_method_15_code
def yX7_variable : MethodName := ⟨RX7, "variable", "(II)I"⟩
abbrev cX7_ofMethod : ByteArray := prog_1_method_16_code
def yX7_ofMethod : MethodName := ⟨RX7, "ofMethod", "(II)I"⟩
abbrev cX7_call : ByteArray := prog_1_method_17_code
def yX7_call : MethodName := ⟨RX7, "call", "(IIIIII)I"⟩
abbrev cX7_members : ByteArray := prog_1_method_18_code
def yX7_members : MethodName := ⟨RX7, "members", "(II)I"⟩
abbrev cX7_fault : ByteArray := prog_1_method_19_code
def yX7_fault : MethodName := ⟨RX7, "fault", "(II)I"⟩
abbrev cX7_many : ByteArray := prog_1_method_20_code
def yX7_many : MethodName := ⟨RX7, "many", "(I)I"⟩
abbrev cX7_meanMembers : ByteArray := prog_1_method_21_code
def yX7_meanMembers : MethodName := ⟨RX7, "meanMembers", "()D"⟩
abbrev cX7_pairsWith : ByteArray := prog_1_method_22_code
def yX7_pairsWith : MethodName := ⟨RX7, "pairsWith", "(III)I"⟩
abbrev cX7_faultsWithout : ByteArray := prog_1_method_23_code
def yX7_faultsWithout : MethodName := ⟨RX7, "faultsWithout", "(I)I"⟩
abbrev cX7_digest : ByteArray := prog_1_method_24_code
def yX7_digest : MethodName := ⟨RX7, "digest", "()J"⟩
abbrev cX7_needKind : ByteArray := prog_1_method_25_code
def yX7_needKind : MethodName := ⟨RX7, "needKind", "(I)V"⟩
abbrev cX7_needParameter : ByteArray := prog_1_method_26_code
def yX7_needParameter : MethodName := ⟨RX7, "needParameter", "(II)V"⟩
abbrev cX7_needType : ByteArray := prog_1_method_27_code
def yX7_needType : MethodName := ⟨RX7, "needType", "(I)V"⟩
abbrev cX7_needTypeOrNone : ByteArray := prog_1_method_28_code
def yX7_needTypeOrNone : MethodName := ⟨RX7, "needTypeOrNone", "(I)V"⟩
abbrev cX7_needMethod : ByteArray := prog_1_method_29_code
def yX7_needMethod : MethodName := ⟨RX7, "needMethod", "(I)V"⟩
abbrev cX7_needWithin : ByteArray := prog_1_method_30_code
def yX7_needWithin : MethodName := ⟨RX7, "needWithin", "(II)V"⟩
abbrev cX7_isVarianceOrNone : ByteArray := prog_1_method_31_code
def yX7_isVarianceOrNone : MethodName := ⟨RX7, "isVarianceOrNone", "(I)Z"⟩
abbrev cX7_isName : ByteArray := prog_1_method_32_code
def yX7_isName : MethodName := ⟨RX7, "isName", "(I)Z"⟩
abbrev cX7_isGap : ByteArray := prog_1_method_33_code
def yX7_isGap : MethodName := ⟨RX7, "isGap", "(III)Z"⟩
abbrev cX7_isArgument : ByteArray := prog_1_method_34_code
def yX7_isArgument : MethodName := ⟨RX7, "isArgument", "(III)Z"⟩
abbrev cX7_isUsable : ByteArray := prog_1_method_35_code
def yX7_isUsable : MethodName := ⟨RX7, "isUsable", "(II)Z"⟩
abbrev cX7_isOwnedBy : ByteArray := prog_1_method_36_code
def yX7_isOwnedBy : MethodName := ⟨RX7, "isOwnedBy", "(II)Z"⟩
abbrev cX7_isExtendable : ByteArray := prog_1_method_37_code
def yX7_isExtendable : MethodName := ⟨RX7, "isExtendable", "(II)Z"⟩
abbrev cX7_isSimpleOf : ByteArray := prog_1_method_38_code
def yX7_isSimpleOf : MethodName := ⟨RX7, "isSimpleOf", "(II)Z"⟩
abbrev cX7_isSimpleArgument : ByteArray := prog_1_method_39_code
def yX7_isSimpleArgument : MethodName := ⟨RX7, "isSimpleArgument", "(I)Z"⟩
abbrev cX7_tell : ByteArray := prog_1_method_40_code
def yX7_tell : MethodName := ⟨RX7, "tell", "(IIII)I"⟩
abbrev cX7_isKeeping : ByteArray := prog_1_method_41_code
def yX7_isKeeping : MethodName := ⟨RX7, "isKeeping", "(I)Z"⟩
abbrev cX7_membersOfKind : ByteArray := prog_1_method_42_code
def yX7_membersOfKind : MethodName := ⟨RX7, "membersOfKind", "(I)I"⟩
abbrev cX7_membersNamed : ByteArray := prog_1_method_43_code
def yX7_membersNamed : MethodName := ⟨RX7, "membersNamed", "(II)I"⟩
def RX8 : String := "BoundWrightModel"
def TX8 : u_T := fun k => match k with
  | 0 => ("BoundWrightModel", "thrown", "I", false)
  | 1 => ("BoundWrightModel", "classes", "I", false)
  | 2 => ("BoundWrightModel", "parameters", "[I", true)
  | 3 => ("BoundWrightModel", "variance", "[I", true)
  | 4 => ("BoundWrightModel", "boundOf", "[I", true)
  | 5 => ("BoundWrightModel", "extended", "[I", true)
  | 6 => ("BoundWrightModel", "extending", "[I", true)
  | 7 => ("BoundWrightModel", "above", "[I", true)
  | 8 => ("BoundWrightModel", "isSealed", "[Z", true)
  | 9 => ("BoundWrightModel", "told", "I", false)
  | 10 => ("BoundWrightModel", "types", "I", false)
  | 11 => ("BoundWrightModel", "what", "[I", false)
  | 12 => ("BoundWrightModel", "x", "[I", false)
  | 13 => ("BoundWrightModel", "y", "[I", false)
  | 14 => ("BoundWrightModel", "one", "[I", false)
  | 15 => ("BoundWrightModel", "two", "[I", false)
  | 16 => ("BoundWrightModel", "methods", "I", false)
  | 17 => ("BoundWrightModel", "owner", "[I", true)
  | 18 => ("BoundWrightModel", "named", "[I", true)
  | 19 => ("BoundWrightModel", "formals", "[I", true)
  | 20 => ("BoundWrightModel", "count", "[I", true)
  | 21 => ("BoundWrightModel", "result", "[I", true)
  | 22 => ("BoundWrightModel", "bounds", "[I", true)
  | 23 => ("BoundWrightModel", "isMany", "[Z", true)
  | 24 => ("BoundWrightModel", "left", "I", false)
  | 25 => ("BoundWrightModel", "given", "[I", false)
  | 26 => ("BoundWrightModel", "bearing", "I", false)
  | _ => ("BoundWrightModel", "phase", "I", false)
def tyX8 : Nat → FieldType := fun k => match k with
  | 0 => .int
  | 1 => .int
  | 2 => .array .int
  | 3 => .array .int
  | 4 => .array .int
  | 5 => .array .int
  | 6 => .array .int
  | 7 => .array .int
  | 8 => .array .boolean
  | 9 => .int
  | 10 => .int
  | 11 => .array .int
  | 12 => .array .int
  | 13 => .array .int
  | 14 => .array .int
  | 15 => .array .int
  | 16 => .int
  | 17 => .array .int
  | 18 => .array .int
  | 19 => .array .int
  | 20 => .array .int
  | 21 => .array .int
  | 22 => .array .int
  | 23 => .array .boolean
  | 24 => .int
  | 25 => .array .int
  | 26 => .int
  | _ => .int
abbrev wsX80 : List Cond := u_ws RX8 TX8 28
theorem nmX8 : ∀ a, a < 28 → ∀ b, b < 28 → a ≠ b → (TX8 a).2.1 ≠ (TX8 b).2.1 := by decide +kernel
theorem tyX8_ok : ∀ k, k < 28 → parseFieldDescriptor (TX8 k).2.2.1 = some (tyX8 k) := by decide +kernel
abbrev cX8_init : ByteArray := prog_10_method_1_code
def yX8_init : MethodName := ⟨RX8, "<init>", "()V"⟩
abbrev cX8_thrown : ByteArray := prog_10_method_2_code
def yX8_thrown : MethodName := ⟨RX8, "thrown", "()I"⟩
abbrev cX8_no : ByteArray := prog_10_method_3_code
def yX8_no : MethodName := ⟨RX8, "no", "(I)I"⟩
abbrev cX8_begin : ByteArray := prog_10_method_4_code
def yX8_begin : MethodName := ⟨RX8, "begin", "()V"⟩
abbrev cX8_isIn : ByteArray := prog_10_method_5_code
def yX8_isIn : MethodName := ⟨RX8, "isIn", "(III)Z"⟩
abbrev cX8_has : ByteArray := prog_10_method_6_code
def yX8_has : MethodName := ⟨RX8, "has", "(II)Z"⟩
abbrev cX8_isClass : ByteArray := prog_10_method_7_code
def yX8_isClass : MethodName := ⟨RX8, "isClass", "(I)Z"⟩
abbrev cX8_isType : ByteArray := prog_10_method_8_code
def yX8_isType : MethodName := ⟨RX8, "isType", "(I)Z"⟩
abbrev cX8_isParameter : ByteArray := prog_10_method_9_code
def yX8_isParameter : MethodName := ⟨RX8, "isParameter", "(II)Z"⟩
abbrev cX8_write : ByteArray := prog_10_method_10_code
def yX8_write : MethodName := ⟨RX8, "write", "(IIIIII)V"⟩
abbrev cX8_more : ByteArray := prog_10_method_11_code
def yX8_more : MethodName := ⟨RX8, "more", "([I)[I"⟩
abbrev cX8_find : ByteArray := prog_10_method_12_code
def yX8_find : MethodName := ⟨RX8, "find", "(IIIII)I"⟩
abbrev cX8_type : ByteArray := prog_10_method_13_code
def yX8_type : MethodName := ⟨RX8, "type", "(IIIII)I"⟩
abbrev cX8_arrayOf : ByteArray := prog_10_method_14_code
def yX8_arrayOf : MethodName := ⟨RX8, "arrayOf", "(I)I"⟩
abbrev cX8_classOf : ByteArray := prog_10_method_15_code
def yX8_classOf : MethodName := ⟨RX8, "classOf", "(III)I"⟩
abbrev cX8_isOfClass : ByteArray := prog_10_method_16_code
def yX8_isOfClass : MethodName := ⟨RX8, "isOfClass", "(I)Z"⟩
abbrev cX8_argument : ByteArray := prog_10_method_17_code
def yX8_argument : MethodName := ⟨RX8, "argument", "(II)I"⟩
abbrev cX8_typeOf : ByteArray := prog_10_method_18_code
def yX8_typeOf : MethodName := ⟨RX8, "typeOf", "(I)I"⟩
abbrev cX8_modeOf : ByteArray := prog_10_method_19_code
def yX8_modeOf : MethodName := ⟨RX8, "modeOf", "(I)I"⟩
abbrev cX8_hasType : ByteArray := prog_10_method_20_code
def yX8_hasType : MethodName := ⟨RX8, "hasType", "(I)Z"⟩
abbrev cX8_boundOf : ByteArray := prog_10_method_21_code
def yX8_boundOf : MethodName := ⟨RX8, "boundOf", "(I)I"⟩
abbrev cX8_deepOf : ByteArray := prog_10_method_22_code
def yX8_deepOf : MethodName := ⟨RX8, "deepOf", "(I)I"⟩
abbrev cX8_hasOnly : ByteArray := prog_10_method_23_code
def yX8_hasOnly : MethodName := ⟨RX8, "hasOnly", "(II)Z"⟩
abbrev cX8_isClosed : ByteArray := prog_10_method_24_code
def yX8_isClosed : MethodName := ⟨RX8, "isClosed", "(I)Z"⟩
abbrev cX8_isSimple : ByteArray := prog_10_method_25_code
def yX8_isSimple : MethodName := ⟨RX8, "isSimple", "(I)Z"⟩
abbrev cX8_put : ByteArray := prog_10_method_26_code
def yX8_put : MethodName := ⟨RX8, "put", "(II)I"⟩
abbrev cX8_putArgument : ByteArray := prog_10_method_27_code
def yX8_putArgument : MethodName := ⟨RX8, "putArgument", "(II)I"⟩
abbrev cX8_stand : ByteArray := prog_10_method_28_code
def yX8_stand : MethodName := ⟨RX8, "stand", "(II)I"⟩
abbrev cX8_own : ByteArray := prog_10_method_29_code
def yX8_own : MethodName := ⟨RX8, "own", "(I)I"⟩
abbrev cX8_extendsMany : ByteArray := prog_10_method_30_code
def yX8_extendsMany : MethodName := ⟨RX8, "extendsMany", "(I)I"⟩
abbrev cX8_extendedBy : ByteArray := prog_10_method_31_code
def yX8_extendedBy : MethodName := ⟨RX8, "extendedBy", "(II)I"⟩
abbrev cX8_raise : ByteArray := prog_10_method_32_code
def yX8_raise : MethodName := ⟨RX8, "raise", "()V"⟩
abbrev cX8_isAbove : ByteArray := prog_10_method_33_code
def yX8_isAbove : MethodName := ⟨RX8, "isAbove", "(II)Z"⟩
abbrev cX8_isOrAbove : ByteArray := prog_10_method_34_code
def yX8_isOrAbove : MethodName := ⟨RX8, "isOrAbove", "(II)Z"⟩
abbrev cX8_asNow : ByteArray := prog_10_method_35_code
def yX8_asNow : MethodName := ⟨RX8, "asNow", "(II)I"⟩
abbrev cX8_isUnder : ByteArray := prog_10_method_36_code
def yX8_isUnder : MethodName := ⟨RX8, "isUnder", "(III)Z"⟩
abbrev cX8_modeBy : ByteArray := prog_10_method_37_code
def yX8_modeBy : MethodName := ⟨RX8, "modeBy", "(II)I"⟩
abbrev cX8_isWithin : ByteArray := prog_10_method_38_code
def yX8_isWithin : MethodName := ⟨RX8, "isWithin", "(IIII)Z"⟩
abbrev cX8_isUnder_ : ByteArray := prog_10_method_39_code
def yX8_isUnder_ : MethodName := ⟨RX8, "isUnder", "(II)Z"⟩
abbrev cX8_joinNow : ByteArray := prog_10_method_40_code
def yX8_joinNow : MethodName := ⟨RX8, "joinNow", "(IIZ)I"⟩
abbrev cX8_isOfBoth : ByteArray := prog_10_method_41_code
def yX8_isOfBoth : MethodName := ⟨RX8, "isOfBoth", "(III)Z"⟩
abbrev cX8_joinClasses : ByteArray := prog_10_method_42_code
def yX8_joinClasses : MethodName := ⟨RX8, "joinClasses", "(IIZ)I"⟩
abbrev cX8_joinArguments : ByteArray := prog_10_method_43_code
def yX8_joinArguments : MethodName := ⟨RX8, "joinArguments", "(IIIZ)I"⟩
abbrev cX8_keeps : ByteArray := prog_10_method_44_code
def yX8_keeps : MethodName := ⟨RX8, "keeps", "(I)Z"⟩
abbrev cX8_kind : ByteArray := prog_10_method_45_code
def yX8_kind : MethodName := ⟨RX8, "kind", "(IIZ)I"⟩
abbrev cX8_bound : ByteArray := prog_10_method_46_code
def yX8_bound : MethodName := ⟨RX8, "bound", "(III)I"⟩
abbrev cX8_extend : ByteArray := prog_10_method_47_code
def yX8_extend : MethodName := ⟨RX8, "extend", "(II)I"⟩
abbrev cX8_childrenOf : ByteArray := prog_10_method_48_code
def yX8_childrenOf : MethodName := ⟨RX8, "childrenOf", "(I)I"⟩
abbrev cX8_ofKindNow : ByteArray := prog_10_method_49_code
def yX8_ofKindNow : MethodName := ⟨RX8, "ofKindNow", "(II)I"⟩
abbrev cX8_ofKind : ByteArray := prog_10_method_50_code
def yX8_ofKind : MethodName := ⟨RX8, "ofKind", "(II)I"⟩
abbrev cX8_isArgument : ByteArray := prog_10_method_51_code
def yX8_isArgument : MethodName := ⟨RX8, "isArgument", "(III)Z"⟩
abbrev cX8_tell : ByteArray := prog_10_method_52_code
def yX8_tell : MethodName := ⟨RX8, "tell", "(I)I"⟩
abbrev cX8_of : ByteArray := prog_10_method_53_code
def yX8_of : MethodName := ⟨RX8, "of", "(III)I"⟩
abbrev cX8_parameter : ByteArray := prog_10_method_54_code
def yX8_parameter : MethodName := ⟨RX8, "parameter", "(II)I"⟩
abbrev cX8_array : ByteArray := prog_10_method_55_code
def yX8_array : MethodName := ⟨RX8, "array", "(I)I"⟩
abbrev cX8_erased : ByteArray := prog_10_method_56_code
def yX8_erased : MethodName := ⟨RX8, "erased", "(II)I"⟩
abbrev cX8_code : ByteArray := prog_10_method_57_code
def yX8_code : MethodName := ⟨RX8, "code", "(I)I"⟩
abbrev cX8_ofTypeNow : ByteArray := prog_10_method_58_code
def yX8_ofTypeNow : MethodName := ⟨RX8, "ofTypeNow", "(II)I"⟩
abbrev cX8_ofType : ByteArray := prog_10_method_59_code
def yX8_ofType : MethodName := ⟨RX8, "ofType", "(II)I"⟩
abbrev cX8_isBelow : ByteArray := prog_10_method_60_code
def yX8_isBelow : MethodName := ⟨RX8, "isBelow", "(II)Z"⟩
abbrev cX8_join : ByteArray := prog_10_method_61_code
def yX8_join : MethodName := ⟨RX8, "join", "(II)I"⟩
abbrev cX8_as : ByteArray := prog_10_method_62_code
def yX8_as : MethodName := ⟨RX8, "as", "(II)I"⟩
abbrev cX8_isCovered : ByteArray := prog_10_method_63_code
def yX8_isCovered : MethodName := ⟨RX8, "isCovered", "(III)Z"⟩
abbrev cX8_isClosedArgument : ByteArray := prog_10_method_64_code
def yX8_isClosedArgument : MethodName := ⟨RX8, "isClosedArgument", "(I)Z"⟩
abbrev cX8_cannotBe : ByteArray := prog_10_method_65_code
def yX8_cannotBe : MethodName := ⟨RX8, "cannotBe", "(II)Z"⟩
abbrev cX8_areAllNow : ByteArray := prog_10_method_66_code
def yX8_areAllNow : MethodName := ⟨RX8, "areAllNow", "(II)Z"⟩
abbrev cX8_areAll : ByteArray := prog_10_method_67_code
def yX8_areAll : MethodName := ⟨RX8, "areAll", "(II)Z"⟩
abbrev cX8_isFormal : ByteArray := prog_10_method_68_code
def yX8_isFormal : MethodName := ⟨RX8, "isFormal", "(I)Z"⟩
abbrev cX8_canBe : ByteArray := prog_10_method_69_code
def yX8_canBe : MethodName := ⟨RX8, "canBe", "(II)Z"⟩
abbrev cX8_method : ByteArray := prog_10_method_70_code
def yX8_method : MethodName := ⟨RX8, "method", "(IIIIIIZ)I"⟩
abbrev cX8_variable : ByteArray := prog_10_method_71_code
def yX8_variable : MethodName := ⟨RX8, "variable", "(II)I"⟩
abbrev cX8_overrides : ByteArray := prog_10_method_72_code
def yX8_overrides : MethodName := ⟨RX8, "overrides", "(II)Z"⟩
abbrev cX8_overridden : ByteArray := prog_10_method_73_code
def yX8_overridden : MethodName := ⟨RX8, "overridden", "(I)I"⟩
abbrev cX8_bits : ByteArray := prog_10_method_74_code
def yX8_bits : MethodName := ⟨RX8, "bits", "(I)I"⟩
abbrev cX8_membersOfClass : ByteArray := prog_10_method_75_code
def yX8_membersOfClass : MethodName := ⟨RX8, "membersOfClass", "(I)I"⟩
abbrev cX8_bearer : ByteArray := prog_10_method_76_code
def yX8_bearer : MethodName := ⟨RX8, "bearer", "(I)I"⟩
abbrev cX8_membersOf : ByteArray := prog_10_method_77_code
def yX8_membersOf : MethodName := ⟨RX8, "membersOf", "(I)I"⟩
abbrev cX8_areAlike : ByteArray := prog_10_method_78_code
def yX8_areAlike : MethodName := ⟨RX8, "areAlike", "(IIZ)Z"⟩
abbrev cX8_bridges : ByteArray := prog_10_method_79_code
def yX8_bridges : MethodName := ⟨RX8, "bridges", "(I)I"⟩
abbrev cX8_ofMethodNow : ByteArray := prog_10_method_80_code
def yX8_ofMethodNow : MethodName := ⟨RX8, "ofMethodNow", "(II)I"⟩
abbrev cX8_ofMethod : ByteArray := prog_10_method_81_code
def yX8_ofMethod : MethodName := ⟨RX8, "ofMethod", "(II)I"⟩
abbrev cX8_membersNow : ByteArray := prog_10_method_82_code
def yX8_membersNow : MethodName := ⟨RX8, "membersNow", "(II)I"⟩
abbrev cX8_members : ByteArray := prog_10_method_83_code
def yX8_members : MethodName := ⟨RX8, "members", "(II)I"⟩
abbrev cX8_formalAt : ByteArray := prog_10_method_84_code
def yX8_formalAt : MethodName := ⟨RX8, "formalAt", "(II)I"⟩
abbrev cX8_standing : ByteArray := prog_10_method_85_code
def yX8_standing : MethodName := ⟨RX8, "standing", "(I)I"⟩
abbrev cX8_fits : ByteArray := prog_10_method_86_code
def yX8_fits : MethodName := ⟨RX8, "fits", "(II)Z"⟩
abbrev cX8_isSpecial : ByteArray := prog_10_method_87_code
def yX8_isSpecial : MethodName := ⟨RX8, "isSpecial", "(II)Z"⟩
abbrev cX8_choose : ByteArray := prog_10_method_88_code
def yX8_choose : MethodName := ⟨RX8, "choose", "(I)I"⟩
abbrev cX8_call : ByteArray := prog_10_method_89_code
def yX8_call : MethodName := ⟨RX8, "call", "(IIIIII)I"⟩
abbrev cX8_isTwice : ByteArray := prog_10_method_90_code
def yX8_isTwice : MethodName := ⟨RX8, "isTwice", "(I[I)Z"⟩
abbrev cX8_isReachedTwice : ByteArray := prog_10_method_91_code
def yX8_isReachedTwice : MethodName := ⟨RX8, "isReachedTwice", "(I)Z"⟩
abbrev cX8_isOwnWith : ByteArray := prog_10_method_92_code
def yX8_isOwnWith : MethodName := ⟨RX8, "isOwnWith", "(III)Z"⟩
abbrev cX8_isFault : ByteArray := prog_10_method_93_code
def yX8_isFault : MethodName := ⟨RX8, "isFault", "(II)Z"⟩
abbrev cX8_clashes : ByteArray := prog_10_method_94_code
def yX8_clashes : MethodName := ⟨RX8, "clashes", "(II)Z"⟩
abbrev cX8_numberOf : ByteArray := prog_10_method_95_code
def yX8_numberOf : MethodName := ⟨RX8, "numberOf", "(IIII)I"⟩
abbrev cX8_lookFor : ByteArray := prog_10_method_96_code
def yX8_lookFor : MethodName := ⟨RX8, "lookFor", "(III)I"⟩
abbrev cX8_fault : ByteArray := prog_10_method_97_code
def yX8_fault : MethodName := ⟨RX8, "fault", "(II)I"⟩
abbrev cX8_pairs : ByteArray := prog_10_method_98_code
def yX8_pairs : MethodName := ⟨RX8, "pairs", "()I"⟩
abbrev cX8_manyNow : ByteArray := prog_10_method_99_code
def yX8_manyNow : MethodName := ⟨RX8, "manyNow", "(I)I"⟩
abbrev cX8_many : ByteArray := prog_10_method_100_code
def yX8_many : MethodName := ⟨RX8, "many", "(I)I"⟩
abbrev cX8_meanMembers : ByteArray := prog_10_method_101_code
def yX8_meanMembers : MethodName := ⟨RX8, "meanMembers", "()D"⟩
abbrev cX8_pairsWith : ByteArray := prog_10_method_102_code
def yX8_pairsWith : MethodName := ⟨RX8, "pairsWith", "(III)I"⟩
abbrev cX8_withoutNow : ByteArray := prog_10_method_103_code
def yX8_withoutNow : MethodName := ⟨RX8, "withoutNow", "(I)I"⟩
abbrev cX8_faultsWithout : ByteArray := prog_10_method_104_code
def yX8_faultsWithout : MethodName := ⟨RX8, "faultsWithout", "(I)I"⟩
abbrev cX8_digest : ByteArray := prog_10_method_105_code
def yX8_digest : MethodName := ⟨RX8, "digest", "()J"⟩
def RJx145de : String := "java/io/Serializable"
def TJx145de : u_T := fun k => match k with
  | _ => ("", "", "", false)
def tyJx145de : Nat → FieldType := fun k => match k with
  | _ => .int
abbrev wsJx145de0 : List Cond := u_ws RJx145de TJx145de 0
theorem nmJx145de : ∀ a, a < 0 → ∀ b, b < 0 → a ≠ b → (TJx145de a).2.1 ≠ (TJx145de b).2.1 := by decide +kernel
theorem tyJx145de_ok : ∀ k, k < 0 → parseFieldDescriptor (TJx145de k).2.2.1 = some (tyJx145de k) := by decide +kernel
def RJ6 : String := "java/lang/Integer"
def TJ6 : u_T := fun k => match k with
  | _ => ("", "", "", false)
def tyJ6 : Nat → FieldType := fun k => match k with
  | _ => .int
abbrev wsJ60 : List Cond := u_ws RJ6 TJ6 0
theorem nmJ6 : ∀ a, a < 0 → ∀ b, b < 0 → a ≠ b → (TJ6 a).2.1 ≠ (TJ6 b).2.1 := by decide +kernel
theorem tyJ6_ok : ∀ k, k < 0 → parseFieldDescriptor (TJ6 k).2.2.1 = some (tyJ6 k) := by decide +kernel
abbrev cJ6_bitCount_0f7a4 : ByteArray := prog_15_method_49_code
def yJ6_bitCount_0f7a4 : MethodName := ⟨RJ6, "bitCount", "(I)I"⟩
def RJ9 : String := "java/lang/Math"
def TJ9 : u_T := fun k => match k with
  | _ => ("", "", "", false)
def tyJ9 : Nat → FieldType := fun k => match k with
  | _ => .int
abbrev wsJ90 : List Cond := u_ws RJ9 TJ9 0
theorem nmJ9 : ∀ a, a < 0 → ∀ b, b < 0 → a ≠ b → (TJ9 a).2.1 ≠ (TJ9 b).2.1 := by decide +kernel
theorem tyJ9_ok : ∀ k, k < 0 → parseFieldDescriptor (TJ9 k).2.2.1 = some (tyJ9 k) := by decide +kernel
abbrev cJ9_max_7cf53 : ByteArray := prog_16_method_65_code
def yJ9_max_7cf53 : MethodName := ⟨RJ9, "max", "(II)I"⟩
def RJ0 : String := "java/lang/String"
def TJ0 : u_T := fun k => match k with
  | _ => ("", "", "", false)
def tyJ0 : Nat → FieldType := fun k => match k with
  | _ => .int
abbrev wsJ00 : List Cond := u_ws RJ0 TJ0 0
theorem nmJ0 : ∀ a, a < 0 → ∀ b, b < 0 → a ≠ b → (TJ0 a).2.1 ≠ (TJ0 b).2.1 := by decide +kernel
theorem tyJ0_ok : ∀ k, k < 0 → parseFieldDescriptor (TJ0 k).2.2.1 = some (tyJ0 k) := by decide +kernel
def RJ10 : String := "java/lang/System"
def TJ10 : u_T := fun k => match k with
  | _ => ("", "", "", false)
def tyJ10 : Nat → FieldType := fun k => match k with
  | _ => .int
abbrev wsJ100 : List Cond := u_ws RJ10 TJ10 0
theorem nmJ10 : ∀ a, a < 0 → ∀ b, b < 0 → a ≠ b → (TJ10 a).2.1 ≠ (TJ10 b).2.1 := by decide +kernel
theorem tyJ10_ok : ∀ k, k < 0 → parseFieldDescriptor (TJ10 k).2.2.1 = some (tyJ10 k) := by decide +kernel
def RJ7 : String := "java/util/Arrays"
def TJ7 : u_T := fun k => match k with
  | _ => ("", "", "", false)
def tyJ7 : Nat → FieldType := fun k => match k with
  | _ => .int
abbrev wsJ70 : List Cond := u_ws RJ7 TJ7 0
theorem nmJ7 : ∀ a, a < 0 → ∀ b, b < 0 → a ≠ b → (TJ7 a).2.1 ≠ (TJ7 b).2.1 := by decide +kernel
theorem tyJ7_ok : ∀ k, k < 0 → parseFieldDescriptor (TJ7 k).2.2.1 = some (tyJ7 k) := by decide +kernel
abbrev cJ7_fill_53178 : ByteArray := prog_21_method_103_code
def yJ7_fill_53178 : MethodName := ⟨RJ7, "fill", "([II)V"⟩
def RL : String := "BoundWrightLaw"
abbrev cL_kind : ByteArray := method_3_code
def yL_kind : MethodName := ⟨RL, "kind", "(LBoundWright;IIZ[J)I"⟩
abbrev cL_bound : ByteArray := method_4_code
def yL_bound : MethodName := ⟨RL, "bound", "(LBoundWright;III[J)I"⟩
abbrev cL_extend : ByteArray := method_5_code
def yL_extend : MethodName := ⟨RL, "extend", "(LBoundWright;II[J)I"⟩
abbrev cL_ofKind : ByteArray := method_6_code
def yL_ofKind : MethodName := ⟨RL, "ofKind", "(LBoundWright;II[J)I"⟩
abbrev cL_of : ByteArray := method_7_code
def yL_of : MethodName := ⟨RL, "of", "(LBoundWright;III[J)I"⟩
abbrev cL_parameter : ByteArray := method_8_code
def yL_parameter : MethodName := ⟨RL, "parameter", "(LBoundWright;II[J)I"⟩
abbrev cL_array : ByteArray := method_9_code
def yL_array : MethodName := ⟨RL, "array", "(LBoundWright;I[J)I"⟩
abbrev cL_ofType : ByteArray := method_10_code
def yL_ofType : MethodName := ⟨RL, "ofType", "(LBoundWright;II[J)I"⟩
abbrev cL_isBelow : ByteArray := method_11_code
def yL_isBelow : MethodName := ⟨RL, "isBelow", "(LBoundWright;II[J)I"⟩
abbrev cL_join : ByteArray := method_12_code
def yL_join : MethodName := ⟨RL, "join", "(LBoundWright;II[J)I"⟩
abbrev cL_as : ByteArray := method_13_code
def yL_as : MethodName := ⟨RL, "as", "(LBoundWright;II[J)I"⟩
abbrev cL_areAll : ByteArray := method_14_code
def yL_areAll : MethodName := ⟨RL, "areAll", "(LBoundWright;II[J)I"⟩
abbrev cL_method : ByteArray := method_15_code
def yL_method : MethodName := ⟨RL, "method", "(LBoundWright;IIIIIIZ[J)I"⟩
abbrev cL_variable : ByteArray := method_16_code
def yL_variable : MethodName := ⟨RL, "variable", "(LBoundWright;II[J)I"⟩
abbrev cL_ofMethod : ByteArray := method_17_code
def yL_ofMethod : MethodName := ⟨RL, "ofMethod", "(LBoundWright;II[J)I"⟩
abbrev cL_call : ByteArray := method_18_code
def yL_call : MethodName := ⟨RL, "call", "(LBoundWright;IIIIII[J)I"⟩
abbrev cL_members : ByteArray := method_19_code
def yL_members : MethodName := ⟨RL, "members", "(LBoundWright;II[J)I"⟩
abbrev cL_fault : ByteArray := method_20_code
def yL_fault : MethodName := ⟨RL, "fault", "(LBoundWright;II[J)I"⟩
abbrev cL_many : ByteArray := method_21_code
def yL_many : MethodName := ⟨RL, "many", "(LBoundWright;I[J)I"⟩
abbrev cL_pairsWith : ByteArray := method_22_code
def yL_pairsWith : MethodName := ⟨RL, "pairsWith", "(LBoundWright;III[J)I"⟩
abbrev cL_faultsWithout : ByteArray := method_23_code
def yL_faultsWithout : MethodName := ⟨RL, "faultsWithout", "(LBoundWright;I[J)I"⟩
abbrev cL_law : ByteArray := code
def yL_law : MethodName := ⟨RL, "law", "([I)Z"⟩
abbrev vwCl : List vw_C := [(RX0, TX0, 9), (RX1, TX1, 6), (RX2, TX2, 10), (RX3, TX3, 10), (RX4, TX4, 2), (RX5, TX5, 16), (RX6, TX6, 8), (RX7, TX7, 7), (RX8, TX8, 28)]
end
section
/-! ===== an interpreter of the bytecode that is met here, over things by number: what it says is proved of the machine in the parts behind. Its own words begin with mv_ ===== -/
/-- a value: (0, n) the int n; (1, _) null; (2, k) the k-th thing made; (3, n) a long; (4, n) a double; (5, i) the i-th unknown int; (6, j) the unknown j % 16, shifted right by j / 16; (7, _) the script -/
abbrev mv_V : Type := Nat × Nat
/-- a thing: 0 ints, 1 longs, 2 booleans, 3 something that nobody looks at, n + 4 an object of class n -/
abbrev mv_C : Type := Nat × List mv_V
/-- for each unknown its least and greatest value, 2^31 more than it is -/
abbrev mv_B : Type := List (Nat × Nat)
/-- an instruction: itself, its place, its length, its kind, two numbers -/
abbrev mv_E : Type := Instr × Nat × Nat × Nat × Nat × Nat
abbrev mv_L : Type := List (Nat × mv_V)
def mv_co (x : Int32) : Nat := x.toUInt32.toNat
def mv_cl (x : Int64) : Nat := x.toUInt64.toNat
def mv_ii (r : Nat → Int32) (v : mv_V) : Int32 := match v.1 with
  | 0 => nI v.2
  | 5 => r v.2
  | 6 => ((r (v.2 % 16)).toUInt32 >>> ((nI (v.2 / 16)).toUInt32 &&& Int32.toUInt32 31)).toInt32
  | _ => 0
/-- where things lie: the first ones from ba.1 on, ba.2.1 of them; the rest behind ba.2.2 cells that nobody looks at -/
abbrev mv_A : Type := Nat × Nat × Nat
def mv_ad (ba : mv_A) (k : Nat) : Nat := if k < ba.2.1 then ba.1 + k else ba.1 + ba.2.2 + k
def mv_val (r : Nat → Int32) (ba : mv_A) (b : Nat) (v : mv_V) : Value := match v.1 with
  | 0 => .int (mv_ii r v)
  | 1 => .null
  | 2 => .ref (mv_ad ba v.2)
  | 3 => .long (lN v.2)
  | 4 => .double (UInt64.ofNat v.2)
  | 5 => .int (mv_ii r v)
  | 6 => .int (mv_ii r v)
  | _ => .ref b
def mv_isI (v : mv_V) : Bool := bif Nat.beq v.1 0 then true else bif Nat.beq v.1 5 then true else Nat.beq v.1 6
def mv_w2 (v : mv_V) : Bool := bif Nat.beq v.1 3 then true else Nat.beq v.1 4
def mv_isA (v : mv_V) : Bool := bif Nat.beq v.1 2 then true else Nat.beq v.1 7
def mv_isJ (v : mv_V) : Bool := Nat.beq v.1 3
def mv_isD (v : mv_V) : Bool := Nat.beq v.1 4
def mv_cd (x : Int32) : Nat := (x.toInt + 2147483648).toNat
def mv_bd (g : mv_B) (i : Nat) : Nat × Nat := (g[i]?).getD (0, 4294967295)
def mv_in (g : mv_B) (r : Nat → Int32) : Prop := ∀ i : Nat, (mv_bd g i).1 ≤ mv_cd (r i) ∧ mv_cd (r i) ≤ (mv_bd g i).2
/-- a number, counted out; a list, laid out -/
noncomputable def mv_fo {α : Type} (n : Nat) (k : Nat → α) : α := Nat.rec (motive := fun _ => α) (k 0) (fun m _ => k (Nat.succ m)) n
noncomputable def mv_fl {α β : Type} (l : List α) : (List α → β) → β := List.rec (motive := fun _ => (List α → β) → β) (fun k => k []) (fun x _ ih k => ih (fun q => k (x :: q))) l
noncomputable def mv_gt {α : Type} (l : List α) : Nat → Option α := List.rec (motive := fun _ => Nat → Option α) (fun _ => none) (fun x _ ih n => Nat.rec (motive := fun _ => Option α) (some x) (fun m _ => ih m) n) l
noncomputable def mv_ls {α β : Type} (l : List α) : Nat → α → (List α → β) → β := List.rec (motive := fun _ => Nat → α → (List α → β) → β) (fun _ _ k => k []) (fun x t ih n v k => Nat.rec (motive := fun _ => β) (k (v :: t)) (fun m _ => ih m v (fun q => k (x :: q))) n) l
/-- the members that p takes, laid out -/
noncomputable def mv_fi {α β : Type} (p : α → Bool) (l : List α) : (List α → β) → β := List.rec (motive := fun _ => (List α → β) → β) (fun k => k []) (fun x _ ih k => bif p x then ih (fun q => k (x :: q)) else ih k) l
/-- a member behind the last one, laid out -/
noncomputable def mv_sn {α β : Type} (l : List α) (v : α) : (List α → β) → β := List.rec (motive := fun _ => (List α → β) → β) (fun k => k [v]) (fun x _ ih k => ih (fun q => k (x :: q))) l
theorem mv_fo_eq {α : Type} (n : Nat) (k : Nat → α) : mv_fo n k = k n := by cases n <;> rfl
theorem mv_fl_eq {α β : Type} (l : List α) (k : List α → β) : mv_fl l k = k l := by
  induction l generalizing k with
  | nil => rfl
  | cons x t ih => exact ih (fun q => k (x :: q))
theorem mv_fi_eq {α β : Type} (p : α → Bool) (l : List α) (k : List α → β) : mv_fi p l k = k (l.filter p) := by
  induction l generalizing k with
  | nil => rfl
  | cons x t ih =>
    show (bif p x then mv_fi p t (fun q => k (x :: q)) else mv_fi p t k) = _
    cases hp : p x
    · rw [List.filter_cons_of_neg (by simp [hp])]; exact ih k
    · rw [List.filter_cons_of_pos hp]; exact ih (fun q => k (x :: q))
theorem mv_sn_eq {α β : Type} (l : List α) (v : α) (k : List α → β) : mv_sn l v k = k (l ++ [v]) := by
  induction l generalizing k with
  | nil => rfl
  | cons x t ih => exact ih (fun q => k (x :: q))
theorem mv_gt_eq {α : Type} (l : List α) (n : Nat) : mv_gt l n = l[n]? := by
  induction l generalizing n with
  | nil => simp [mv_gt]
  | cons x t ih => cases n with
    | zero => rfl
    | succ n => exact (ih n).trans List.getElem?_cons_succ.symm
theorem mv_ls_eq {α β : Type} (l : List α) (n : Nat) (v : α) (k : List α → β) : mv_ls l n v k = k (l.set n v) := by
  induction l generalizing n k with
  | nil => rfl
  | cons x t ih => cases n with
    | zero => rfl
    | succ n => exact ih n (fun q => k (x :: q))
/-- an int that is known; or where to part the unknown that it is -/
def mv_cI5 (i : Nat) (q : Nat × Nat) : Option ((Nat × Nat) ⊕ Nat) :=
  bif Nat.beq q.1 q.2 then some (.inr ((q.1 + 2147483648) % 4294967296))
    else bif Nat.ble (q.2 - q.1) 64 then some (.inl (i, q.1)) else none
def mv_cI (g : mv_B) (v : mv_V) : Option ((Nat × Nat) ⊕ Nat) :=
  bif Nat.beq v.1 0 then some (.inr v.2) else bif Nat.beq v.1 5 then mv_cI5 v.2 (mv_bd g v.2) else none
/-- between which two numbers an int lies -/
def mv_rg6 (k : Nat) (q : Nat × Nat) : Option (Nat × Nat) :=
  bif Nat.ble 2147483648 q.1 && (Nat.blt k 32 && Nat.blt q.2 4294967296) then some (2147483648 + (q.1 - 2147483648) / 2 ^ k, 2147483648 + (q.2 - 2147483648) / 2 ^ k) else none
def mv_rg (g : mv_B) (v : mv_V) : Option (Nat × Nat) :=
  bif Nat.beq v.1 0 then some ((v.2 + 2147483648) % 4294967296, (v.2 + 2147483648) % 4294967296) else
  bif Nat.beq v.1 5 then some (mv_bd g v.2) else
  bif Nat.beq v.1 6 then mv_rg6 (v.2 / 16) (mv_bd g (v.2 % 16)) else none
def mv_sp (v w : mv_V) (a c : Nat × Nat) : Option ((Nat × Nat) ⊕ Bool) :=
  bif Nat.beq v.1 5 && !(Nat.beq a.1 a.2) then some (.inl (v.2, bif Nat.beq c.1 c.2 then c.1 else a.1)) else bif Nat.beq w.1 5 then some (.inl (w.2, bif Nat.beq a.1 a.2 then a.1 else c.1)) else none
/-- against a number that is known: parted in two (16 more than the unknown's own number) -/
def mv_sp2 (v w : mv_V) (a c : Nat × Nat) : Option ((Nat × Nat) ⊕ Bool) :=
  bif Nat.beq v.1 5 && Nat.beq c.1 c.2 then some (.inl (v.2 + 16, c.1)) else bif Nat.beq w.1 5 && Nat.beq a.1 a.2 then some (.inl (w.2 + 16, a.1 + 1)) else mv_sp v w a c
def mv_ltr (v w : mv_V) (a c : Nat × Nat) : Option ((Nat × Nat) ⊕ Bool) := bif Nat.blt a.2 c.1 then some (.inr true) else bif Nat.ble c.2 a.1 then some (.inr false) else mv_sp2 v w a c
def mv_ltg (g : mv_B) (v w : mv_V) : Option ((Nat × Nat) ⊕ Bool) := match mv_rg g v, mv_rg g w with
  | some a, some c => mv_ltr v w a c
  | _, _ => none
def mv_lt (g : mv_B) (v w : mv_V) : Option ((Nat × Nat) ⊕ Bool) := bif Nat.beq v.1 0 && Nat.beq w.1 0 then some (.inr (Nat.blt ((v.2 + 2147483648) % 4294967296) ((w.2 + 2147483648) % 4294967296))) else mv_ltg g v w
def mv_eqr (v w : mv_V) (a c : Nat × Nat) : Option ((Nat × Nat) ⊕ Bool) := bif Nat.blt a.2 c.1 || Nat.blt c.2 a.1 then some (.inr false) else bif Nat.beq a.1 a.2 && Nat.beq c.1 c.2 then some (.inr true) else mv_sp v w a c
def mv_eqg (g : mv_B) (v w : mv_V) : Option ((Nat × Nat) ⊕ Bool) := match mv_rg g v, mv_rg g w with
  | some a, some c => mv_eqr v w a c
  | _, _ => none
def mv_eq (g : mv_B) (v w : mv_V) : Option ((Nat × Nat) ⊕ Bool) := bif Nat.beq v.1 0 && Nat.beq w.1 0 then some (.inr (Nat.beq (v.2 % 4294967296) (w.2 % 4294967296))) else mv_eqg g v w
def mv_no (x : Option ((Nat × Nat) ⊕ Bool)) : Option ((Nat × Nat) ⊕ Bool) := match x with
  | some (.inr q) => some (.inr (!q))
  | y => y
def mv_cm (g : mv_B) (o : ClassFile.Cond) (v w : mv_V) : Option ((Nat × Nat) ⊕ Bool) := match o with
  | .eq => mv_eq g v w
  | .ne => mv_no (mv_eq g v w)
  | .lt => mv_lt g v w
  | .ge => mv_no (mv_lt g v w)
  | .gt => mv_lt g w v
  | .le => mv_no (mv_lt g w v)
/-- a step: where to part an unknown; or the target of a jump, the locals, the stack, the things, how many cells and slots were made -/
abbrev mv_S : Type := Option ((Nat × Nat) ⊕ (Option Nat × mv_L × List mv_V × List mv_C × Nat × Nat))
noncomputable def mv_lk (loc : mv_L) (i : Nat) : Option mv_V := List.rec (motive := fun _ => Option mv_V) none (fun q _ ih => bif Nat.beq q.1 i then some q.2 else ih) loc
def mv_d1 (i : Nat) (q : Nat × mv_V) : Bool := bif Nat.beq q.1 i then false else bif Nat.beq (q.1 + 1) i then !mv_w2 q.2 else true
def mv_d2 (i : Nat) (q : Nat × mv_V) : Bool := bif Nat.beq q.1 i then false else bif Nat.beq q.1 (i + 1) then false else bif Nat.beq (q.1 + 1) i then !mv_w2 q.2 else true
section
variable (g : mv_B) (loc : mv_L) (st : List mv_V) (h : List mv_C) (nc ns : Nat)
def mv_go (s2 : List mv_V) : mv_S := some (.inr (none, loc, s2, h, nc, ns))
/-- a local on the stack -/
noncomputable def mv_ld (f : mv_V → Bool) (i : Nat) : mv_S := match mv_lk loc i with
  | some v => bif f v then mv_go loc h nc ns (v :: st) else none
  | none => none
noncomputable def mv_sto (f : mv_V → Bool) (nL i : Nat) : mv_S := match st with
  | v :: s2 => bif f v && Nat.blt i nL then mv_fi (mv_d1 i) loc (fun q => some (.inr (none, (i, v) :: q, s2, h, nc, ns))) else none
  | _ => none
noncomputable def mv_sto2 (f : mv_V → Bool) (nL i : Nat) : mv_S := match st with
  | v :: s2 => bif f v && Nat.blt (i + 1) nL then mv_fi (mv_d2 i) loc (fun q => some (.inr (none, (i, v) :: q, s2, h, nc, ns))) else none
  | _ => none
noncomputable def mv_un (f : Nat → mv_V) : mv_S := match st with
  | x :: s2 => match mv_cI g x with
    | some (.inr a) => mv_fo (f a).2 (fun n => mv_go loc h nc ns (((f a).1, n) :: s2))
    | some (.inl q) => some (.inl q)
    | none => none
  | _ => none
noncomputable def mv_bi (f : Nat → Nat → Option Nat) : mv_S := match st with
  | y :: x :: s2 => match mv_cI g x with
    | some (.inr a) => match mv_cI g y with
      | some (.inr c) => match f a c with
        | some n => mv_fo n (fun n => mv_go loc h nc ns ((0, n) :: s2))
        | none => none
      | some (.inl q) => some (.inl q)
      | none => none
    | some (.inl q) => some (.inl q)
    | none => none
  | _ => none
/-- two longs -/
noncomputable def mv_bl (f : Nat → Nat → mv_V) : mv_S := match st with
  | y :: x :: s2 => bif mv_isJ x && mv_isJ y then mv_fo (f x.2 y.2).2 (fun n => mv_go loc h nc ns (((f x.2 y.2).1, n) :: s2)) else none
  | _ => none
noncomputable def mv_b4 (f : Nat → Nat → mv_V) : mv_S := match st with
  | y :: x :: s2 => bif mv_isD x && mv_isD y then mv_fo (f x.2 y.2).2 (fun n => mv_go loc h nc ns (((f x.2 y.2).1, n) :: s2)) else none
  | _ => none
noncomputable def mv_dd : mv_S := match st with
  | y :: x :: s2 => bif mv_isD y && (mv_isD x && decide (FP.ddiv (UInt64.ofNat x.2) (UInt64.ofNat y.2) &&& 0x7fffffffffffffff ≤ 0x7ff0000000000000)) then mv_fo (FP.ddiv (UInt64.ofNat x.2) (UInt64.ofNat y.2)).toNat (fun n => mv_go loc h nc ns ((4, n) :: s2)) else none
  | _ => none
def mv_br (o : ClassFile.Cond) (v w : mv_V) (s2 : List mv_V) (t : Nat) : mv_S := match mv_cm g o v w with
  | some (.inr true) => some (.inr (some t, loc, s2, h, nc, ns))
  | some (.inr false) => mv_go loc h nc ns s2
  | some (.inl q) => some (.inl q)
  | none => none
/-- an array's row and a place in it -/
noncomputable def mv_ar (t : Nat) (y x : mv_V) (k : Nat → List mv_V → Nat → mv_S) : mv_S :=
  bif Nat.beq x.1 2 then match mv_cI g y with
    | some (.inr a) => match mv_gt h x.2 with
      | some c => bif Nat.beq c.1 t && (Nat.blt a c.2.length && Nat.blt c.2.length 65536) then k x.2 c.2 a else none
      | none => none
    | some (.inl q) => some (.inl q)
    | none => none
  else none
noncomputable def mv_ald (t : Nat) (f : mv_V → Bool) : mv_S := match st with
  | y :: x :: s2 => mv_ar g h t y x (fun _ l a => match mv_gt l a with
    | some v => bif f v then mv_go loc h nc ns (v :: s2) else none
    | none => none)
  | _ => none
noncomputable def mv_ast (t : Nat) (f : mv_V → Bool) : mv_S := match st with
  | v :: y :: x :: s2 => bif f v then mv_ar g h t y x (fun k l a => mv_ls l a v (fun l2 => mv_ls h k (t, l2) (fun h2 => mv_go loc h2 nc ns s2))) else none
  | _ => none
/-- booleans alone may be kept as such -/
noncomputable def mv_zst : mv_S := match st with
  | v :: y :: x :: s2 => match mv_cI g v with
    | some (.inr z) => bif Nat.blt z 2 then mv_ar g h 2 y x (fun k l a => mv_ls l a (0, z) (fun l2 => mv_ls h k (2, l2) (fun h2 => mv_go loc h2 nc ns s2))) else none
    | some (.inl q) => some (.inl q)
    | none => none
  | _ => none
noncomputable def mv_len : mv_S := match st with
  | x :: s2 => bif Nat.beq x.1 2 then match mv_gt h x.2 with
      | some c => bif Nat.blt c.1 3 then mv_fo c.2.length (fun n => mv_go loc h nc ns ((0, n) :: s2)) else none
      | none => none
    else none
  | _ => none
noncomputable def mv_gf (ci k : Nat) : mv_S := match st with
  | x :: s2 => bif Nat.beq x.1 2 then match mv_gt h x.2 with
      | some c => bif Nat.beq c.1 (ci + 4) then match mv_gt c.2 k with
          | some v => mv_go loc h nc ns (v :: s2)
          | none => none
        else none
      | none => none
    else none
  | _ => none
/-- what a field of a kind (0 int, 1 boolean, 2 reference) may hold -/
def mv_fits (t : Nat) (v : mv_V) : Bool := bif Nat.beq t 0 then mv_isI v else bif Nat.beq t 1 then Nat.beq v.1 0 && Nat.blt v.2 2 else bif Nat.beq v.1 1 then true else Nat.beq v.1 2
noncomputable def mv_pf (ci k t : Nat) : mv_S := match st with
  | v :: x :: s2 => bif Nat.beq x.1 2 && mv_fits t v then match mv_gt h x.2 with
      | some c => bif Nat.beq c.1 (ci + 4) && Nat.blt k c.2.length then mv_ls c.2 k v (fun l2 => mv_ls h x.2 (ci + 4, l2) (fun h2 => mv_go loc h2 nc ns s2)) else none
      | none => none
    else none
  | _ => none
/-- an array of a kind -/
noncomputable def mv_na (t : Nat) : mv_S := match st with
  | y :: s2 => match mv_cI g y with
    | some (.inr n) => bif Nat.blt n 65536 then mv_fo h.length (fun q => mv_sn h (t, List.replicate n (bif Nat.beq t 1 then (3, 0) else (0, 0))) (fun h2 => some (.inr (none, loc, (2, q) :: s2, h2, nc + 1, ns + n)))) else none
    | some (.inl q) => some (.inl q)
    | none => none
  | _ => none
/-- an object of class ci with these fields -/
noncomputable def mv_nw (ci : Nat) (l : List mv_V) : mv_S := mv_fo h.length (fun q => mv_sn h (ci + 4, l) (fun h2 => some (.inr (none, loc, (2, q) :: st, h2, nc + 1, ns + l.length))))
noncomputable def mv_inc (nL i n : Nat) : mv_S := match mv_lk loc i with
  | some v => match mv_cI g v with
    | some (.inr a) => bif Nat.blt i nL then mv_fo ((a + n) % 4294967296) (fun q => mv_fi (mv_d1 i) loc (fun l2 => some (.inr (none, (i, (0, q)) :: l2, st, h, nc, ns)))) else none
    | some (.inl q) => some (.inl q)
    | none => none
  | none => none
/-- the unknown 0, its last five bits: the unknown 8 -/
noncomputable def mv_and : mv_S := match st with
  | y :: x :: s2 => bif Nat.beq x.1 5 && (Nat.beq x.2 0 && (Nat.beq y.1 0 && Nat.beq y.2 31)) then mv_go loc h nc ns ((5, 8) :: s2) else mv_bi g loc st h nc ns (fun a c => some (Nat.land a c % 4294967296))
  | _ => none
noncomputable def mv_ush : mv_S := match st with
  | y :: x :: s2 => bif Nat.beq y.1 0 && (Nat.beq x.1 5 && (Nat.blt y.2 32 && Nat.blt x.2 16)) then
      bif Nat.ble 2147483648 (mv_bd g x.2).1 then
        bif Nat.blt 0 (((mv_bd g x.2).1 - 2147483648) / 2 ^ y.2) then mv_go loc h nc ns ((6, x.2 + 16 * y.2) :: s2)
        else bif Nat.beq (mv_bd g x.2).1 (mv_bd g x.2).2 then mv_bi g loc st h nc ns (fun a c => some (mv_co (((nI a).toUInt32 >>> ((nI c).toUInt32 &&& Int32.toUInt32 31)).toInt32))) else some (.inl (x.2, (mv_bd g x.2).1))
      else some (.inl (x.2, 2147483648))
    else mv_bi g loc st h nc ns (fun a c => some (mv_co (((nI a).toUInt32 >>> ((nI c).toUInt32 &&& Int32.toUInt32 31)).toInt32)))
  | _ => none
/-- the script's length is the unknown 10, what stands in it are the unknowns 0 to 7; behind the eighth int 24, 25 .. -/
noncomputable def mv_sld (y : mv_V) (s2 : List mv_V) : mv_S := match mv_cI g y with
      | some (.inr a) => bif Nat.ble 2147483648 (mv_bd g 10).1 && Nat.blt a ((mv_bd g 10).1 - 2147483648) then mv_fo (bif Nat.blt a 8 then a else a + 16) (fun i => match mv_cI g (5, i) with
        | some (.inr n) => mv_go loc h nc ns ((0, n) :: s2)
        | _ => mv_go loc h nc ns ((5, i) :: s2)) else none
      | some (.inl q) => some (.inl q)
      | none => none
noncomputable def mv_iald : mv_S := match st with
  | y :: x :: s2 => bif Nat.beq x.1 7 then mv_sld g loc h nc ns y s2
    else mv_ald g loc st h nc ns 0 mv_isI
  | _ => none
noncomputable def mv_alen : mv_S := match st with
  | x :: s2 => bif Nat.beq x.1 7 then mv_go loc h nc ns ((5, 10) :: s2) else mv_len loc st h nc ns
  | _ => none
noncomputable def mv_tsw (pc : Nat) (d lo hi : Int) (offs : Array Int) : mv_S := match st with
  | x :: s2 => match mv_cI g x with
    | some (.inr a) => bif decide ((nI a).toInt < lo) || decide (hi < (nI a).toInt) then bif decide (0 ≤ (pc : Int) + d) then mv_fo ((pc : Int) + d).toNat (fun q => some (.inr (some q, loc, s2, h, nc, ns))) else none
      else match offs[((nI a).toInt - lo).toNat]? with
        | some o => bif decide (0 ≤ (pc : Int) + o) then mv_fo ((pc : Int) + o).toNat (fun q => some (.inr (some q, loc, s2, h, nc, ns))) else none
        | none => none
    | some (.inl q) => some (.inl q)
    | none => none
  | _ => none
noncomputable def mv_lsw (pc : Nat) (d : Int) (ps : Array (Int × Int)) : mv_S := match st with
  | x :: s2 => match mv_cI g x with
    | some (.inr a) => bif (ps.toList.zip (ps.toList.drop 1)).all (fun (a, next) => a.1 < next.1) && decide (0 ≤ (pc : Int) + Op.lookupswitch.offset ps.toList d (nI a).toInt) then mv_fo ((pc : Int) + Op.lookupswitch.offset ps.toList d (nI a).toInt).toNat (fun q => some (.inr (some q, loc, s2, h, nc, ns))) else none
    | some (.inl q) => some (.inl q)
    | none => none
  | _ => none
def mv_dup : mv_S := match st with
  | x :: s2 => bif mv_w2 x then none else mv_go loc h nc ns (x :: x :: s2)
  | _ => none
def mv_pop : mv_S := match st with
  | x :: s2 => bif mv_w2 x then none else mv_go loc h nc ns s2
  | _ => none
def mv_dupx : mv_S := match st with
  | x :: y :: s2 => bif mv_w2 x || mv_w2 y then none else mv_go loc h nc ns (x :: y :: x :: s2)
  | _ => none
def mv_dup2 : mv_S := match st with
  | x :: s2 => bif mv_w2 x then mv_go loc h nc ns (x :: x :: s2) else match s2 with
    | y :: s3 => bif mv_w2 y then none else mv_go loc h nc ns (x :: y :: x :: y :: s3)
    | _ => none
  | _ => none
def mv_if (o : ClassFile.Cond) (t : Nat) : mv_S := match st with
  | x :: s2 => mv_br g loc h nc ns o x (0, 0) s2 t
  | _ => none
def mv_ic (o : ClassFile.Cond) (t : Nat) : mv_S := match st with
  | y :: x :: s2 => mv_br g loc h nc ns o x y s2 t
  | _ => none
/-- one instruction that is no call and no end -/
noncomputable def mv_s1 (dv : Nat → List mv_V) (nL : Nat) (i : Instr) (pc a b : Nat) : mv_S := match i with
  | .iconst _ => mv_go loc h nc ns ((0, a) :: st)
  | .bipush _ => mv_go loc h nc ns ((0, a) :: st)
  | .sipush _ => mv_go loc h nc ns ((0, a) :: st)
  | .ldc _ => mv_go loc h nc ns ((0, a) :: st)
  | .ldc_w _ => mv_go loc h nc ns ((0, a) :: st)
  | .lconst _ => mv_go loc h nc ns ((3, a) :: st)
  | .ldc2_w _ => mv_go loc h nc ns ((3, a) :: st)
  | .dconst _ => mv_go loc h nc ns ((4, a) :: st)
  | .iload_n _ => mv_ld loc st h nc ns mv_isI a
  | .iload _ => mv_ld loc st h nc ns mv_isI a
  | .lload_n _ => mv_ld loc st h nc ns mv_isJ a
  | .lload _ => mv_ld loc st h nc ns mv_isJ a
  | .dload_n _ => mv_ld loc st h nc ns mv_isD a
  | .dload _ => mv_ld loc st h nc ns mv_isD a
  | .aload_n _ => mv_ld loc st h nc ns mv_isA a
  | .aload _ => mv_ld loc st h nc ns mv_isA a
  | .istore_n _ => mv_sto loc st h nc ns mv_isI nL a
  | .istore _ => mv_sto loc st h nc ns mv_isI nL a
  | .astore_n _ => mv_sto loc st h nc ns mv_isA nL a
  | .astore _ => mv_sto loc st h nc ns mv_isA nL a
  | .lstore_n _ => mv_sto2 loc st h nc ns mv_isJ nL a
  | .lstore _ => mv_sto2 loc st h nc ns mv_isJ nL a
  | .dstore_n _ => mv_sto2 loc st h nc ns mv_isD nL a
  | .dstore _ => mv_sto2 loc st h nc ns mv_isD nL a
  | .iinc _ _ => mv_inc g loc st h nc ns nL a b
  | .iadd => mv_bi g loc st h nc ns (fun x y => some ((x + y) % 4294967296))
  | .isub => mv_bi g loc st h nc ns (fun x y => some ((x + (4294967296 - y % 4294967296)) % 4294967296))
  | .imul => mv_bi g loc st h nc ns (fun x y => some (x * y % 4294967296))
  | .iand => mv_and g loc st h nc ns
  | .ior => mv_bi g loc st h nc ns (fun x y => some (Nat.lor x y % 4294967296))
  | .ixor => mv_bi g loc st h nc ns (fun x y => some (Nat.xor x y % 4294967296))
  | .idiv => mv_bi g loc st h nc ns (fun x y => bif decide (nI y = 0) then none else some (mv_co (nI x / nI y)))
  | .irem => mv_bi g loc st h nc ns (fun x y => bif decide (nI y = 0) then none else some (mv_co (nI x - (nI x / nI y) * nI y)))
  | .ishl => mv_bi g loc st h nc ns (fun x y => some (mv_co (nI x <<< (nI y &&& 31))))
  | .ishr => mv_bi g loc st h nc ns (fun x y => some (mv_co (nI x >>> (nI y &&& 31))))
  | .iushr => mv_ush g loc st h nc ns
  | .i2l => mv_un g loc st h nc ns (fun x => (3, mv_cl (nI x).toInt64))
  | .i2d => mv_un g loc st h nc ns (fun x => (4, (FP.i2d (nI x)).toNat))
  | .ladd => mv_bl loc st h nc ns (fun x y => (3, mv_cl (lN x + lN y)))
  | .lmul => mv_bl loc st h nc ns (fun x y => (3, mv_cl (lN x * lN y)))
  | .lcmp => mv_bl loc st h nc ns (fun x y => (0, mv_co (lg_cmp (lN x) (lN y))))
  | .ddiv => mv_dd loc st h nc ns
  | .dcmp o => mv_b4 loc st h nc ns (fun x y => (0, mv_co (Op.cmpValue (FP.dcmp (UInt64.ofNat x) (UInt64.ofNat y)) o)))
  | .dup => mv_dup loc st h nc ns
  | .pop => mv_pop loc st h nc ns
  | .dup_x1 => mv_dupx loc st h nc ns
  | .dup2 => mv_dup2 loc st h nc ns
  | .ifCond o _ => mv_if g loc st h nc ns o a
  | .if_icmp o _ => mv_ic g loc st h nc ns o a
  | .goto _ => some (.inr (some a, loc, st, h, nc, ns))
  | .tableswitch d lo hi offs => mv_tsw g loc st h nc ns pc d lo hi offs
  | .lookupswitch d ps => mv_lsw g loc st h nc ns pc d ps
  | .getfield _ => mv_gf loc st h nc ns a b
  | .putfield _ => mv_pf loc st h nc ns a (b / 4) (b % 4)
  | .iaload => mv_iald g loc st h nc ns
  | .laload => mv_ald g loc st h nc ns 1 mv_isJ
  | .baload => mv_ald g loc st h nc ns 2 mv_isI
  | .iastore => mv_ast g loc st h nc ns 0 mv_isI
  | .lastore => mv_ast g loc st h nc ns 1 mv_isJ
  | .bastore => mv_zst g loc st h nc ns
  | .arraylength => mv_alen loc st h nc ns
  | .newarray _ => mv_na g loc st h nc ns a
  | .new _ => mv_nw loc st h nc ns a (dv a)
  | _ => none
end
/-- an instruction's number -/
def mv_oc (i : Instr) : Nat := match i with
  | .iload_n _ => 40
  | .iload _ => 40
  | .aload_n _ => 41
  | .aload _ => 41
  | .iconst _ => 42
  | .bipush _ => 42
  | .sipush _ => 42
  | .ldc _ => 42
  | .ldc_w _ => 42
  | .getfield _ => 43
  | .iaload => 44
  | .goto _ => 45
  | .istore_n _ => 46
  | .istore _ => 46
  | .iinc _ _ => 47
  | .if_icmp .eq _ => 48
  | .if_icmp .ne _ => 49
  | .if_icmp .lt _ => 50
  | .if_icmp .ge _ => 51
  | .if_icmp .gt _ => 52
  | .if_icmp .le _ => 53
  | .iadd => 54
  | .putfield _ => 55
  | .ifCond .eq _ => 56
  | .ifCond .ne _ => 57
  | .ifCond .lt _ => 58
  | .ifCond .ge _ => 59
  | .ifCond .gt _ => 60
  | .ifCond .le _ => 61
  | .imul => 62
  | .iastore => 63
  | .iand => 64
  | .ior => 65
  | .ixor => 66
  | .isub => 67
  | .idiv => 68
  | .irem => 69
  | .ishl => 70
  | .ishr => 71
  | .lload_n _ => 72
  | .lload _ => 72
  | .dload_n _ => 73
  | .dload _ => 73
  | .astore_n _ => 74
  | .astore _ => 74
  | .lstore_n _ => 75
  | .lstore _ => 75
  | .dstore_n _ => 76
  | .dstore _ => 76
  | .dup => 77
  | .pop => 78
  | .dup_x1 => 79
  | .dup2 => 80
  | .laload => 81
  | .baload => 82
  | .lastore => 83
  | .bastore => 84
  | .arraylength => 85
  | .newarray _ => 86
  | .new _ => 87
  | .lconst _ => 88
  | .ldc2_w _ => 88
  | .dconst _ => 89
  | .i2l => 90
  | .i2d => 91
  | .ladd => 92
  | .lmul => 93
  | .lcmp => 94
  | .ddiv => 95
  | .iushr => 96
  | _ => 97
section
variable (g : mv_B) (loc : mv_L) (st : List mv_V) (h : List mv_C) (nc ns : Nat)
noncomputable def mv_h0 (nL a b o : Nat) : mv_S :=
  bif Nat.ble o 43 then
    bif Nat.ble o 41 then bif Nat.beq o 40 then mv_ld loc st h nc ns mv_isI a else mv_ld loc st h nc ns mv_isA a
    else bif Nat.beq o 42 then mv_go loc h nc ns ((0, a) :: st) else mv_gf loc st h nc ns a b
  else
    bif Nat.ble o 45 then bif Nat.beq o 44 then mv_iald g loc st h nc ns else some (.inr (some a, loc, st, h, nc, ns))
    else bif Nat.beq o 46 then mv_sto loc st h nc ns mv_isI nL a else mv_inc g loc st h nc ns nL a b
noncomputable def mv_h1 (a b o : Nat) : mv_S :=
  bif Nat.ble o 51 then
    bif Nat.ble o 49 then bif Nat.beq o 48 then mv_ic g loc st h nc ns .eq a else mv_ic g loc st h nc ns .ne a
    else bif Nat.beq o 50 then mv_ic g loc st h nc ns .lt a else mv_ic g loc st h nc ns .ge a
  else
    bif Nat.ble o 53 then bif Nat.beq o 52 then mv_ic g loc st h nc ns .gt a else mv_ic g loc st h nc ns .le a
    else bif Nat.beq o 54 then mv_bi g loc st h nc ns (fun x y => some ((x + y) % 4294967296)) else mv_pf loc st h nc ns a (b / 4) (b % 4)
noncomputable def mv_h2 (a o : Nat) : mv_S :=
  bif Nat.ble o 59 then
    bif Nat.ble o 57 then bif Nat.beq o 56 then mv_if g loc st h nc ns .eq a else mv_if g loc st h nc ns .ne a
    else bif Nat.beq o 58 then mv_if g loc st h nc ns .lt a else mv_if g loc st h nc ns .ge a
  else
    bif Nat.ble o 61 then bif Nat.beq o 60 then mv_if g loc st h nc ns .gt a else mv_if g loc st h nc ns .le a
    else bif Nat.beq o 62 then mv_bi g loc st h nc ns (fun x y => some (x * y % 4294967296)) else mv_ast g loc st h nc ns 0 mv_isI
noncomputable def mv_h3 (o : Nat) : mv_S :=
  bif Nat.ble o 67 then
    bif Nat.ble o 65 then bif Nat.beq o 64 then mv_and g loc st h nc ns else mv_bi g loc st h nc ns (fun x y => some (Nat.lor x y % 4294967296))
    else bif Nat.beq o 66 then mv_bi g loc st h nc ns (fun x y => some (Nat.xor x y % 4294967296)) else mv_bi g loc st h nc ns (fun x y => some ((x + (4294967296 - y % 4294967296)) % 4294967296))
  else
    bif Nat.ble o 69 then bif Nat.beq o 68 then mv_bi g loc st h nc ns (fun x y => bif decide (nI y = 0) then none else some (mv_co (nI x / nI y))) else mv_bi g loc st h nc ns (fun x y => bif decide (nI y = 0) then none else some (mv_co (nI x - (nI x / nI y) * nI y)))
    else bif Nat.beq o 70 then mv_bi g loc st h nc ns (fun x y => some (mv_co (nI x <<< (nI y &&& 31)))) else mv_bi g loc st h nc ns (fun x y => some (mv_co (nI x >>> (nI y &&& 31))))
noncomputable def mv_h4 (nL a o : Nat) : mv_S :=
  bif Nat.ble o 75 then
    bif Nat.ble o 73 then bif Nat.beq o 72 then mv_ld loc st h nc ns mv_isJ a else mv_ld loc st h nc ns mv_isD a
    else bif Nat.beq o 74 then mv_sto loc st h nc ns mv_isA nL a else mv_sto2 loc st h nc ns mv_isJ nL a
  else
    bif Nat.ble o 77 then bif Nat.beq o 76 then mv_sto2 loc st h nc ns mv_isD nL a else mv_dup loc st h nc ns
    else bif Nat.beq o 78 then mv_pop loc st h nc ns else mv_dupx loc st h nc ns
noncomputable def mv_h5 (dv : Nat → List mv_V) (a o : Nat) : mv_S :=
  bif Nat.ble o 83 then
    bif Nat.ble o 81 then bif Nat.beq o 80 then mv_dup2 loc st h nc ns else mv_ald g loc st h nc ns 1 mv_isJ
    else bif Nat.beq o 82 then mv_ald g loc st h nc ns 2 mv_isI else mv_ast g loc st h nc ns 1 mv_isJ
  else
    bif Nat.ble o 85 then bif Nat.beq o 84 then mv_zst g loc st h nc ns else mv_alen loc st h nc ns
    else bif Nat.beq o 86 then mv_na g loc st h nc ns a else mv_nw loc st h nc ns a (dv a)
noncomputable def mv_h6 (a o : Nat) : mv_S :=
  bif Nat.ble o 91 then
    bif Nat.ble o 89 then bif Nat.beq o 88 then mv_go loc h nc ns ((3, a) :: st) else mv_go loc h nc ns ((4, a) :: st)
    else bif Nat.beq o 90 then mv_un g loc st h nc ns (fun x => (3, mv_cl (nI x).toInt64)) else mv_un g loc st h nc ns (fun x => (4, (FP.i2d (nI x)).toNat))
  else
    bif Nat.ble o 93 then bif Nat.beq o 92 then mv_bl loc st h nc ns (fun x y => (3, mv_cl (lN x + lN y))) else mv_bl loc st h nc ns (fun x y => (3, mv_cl (lN x * lN y)))
    else bif Nat.beq o 94 then mv_bl loc st h nc ns (fun x y => (0, mv_co (lg_cmp (lN x) (lN y))))
    else mv_dd loc st h nc ns
/-- the same by its number -/
noncomputable def mv_sf (dv : Nat → List mv_V) (nL : Nat) (i : Instr) (pc a b o : Nat) : mv_S :=
  bif Nat.ble o 55 then bif Nat.ble o 47 then mv_h0 g loc st h nc ns nL a b o else mv_h1 g loc st h nc ns a b o
  else bif Nat.ble o 71 then bif Nat.ble o 63 then mv_h2 g loc st h nc ns a o else mv_h3 g loc st h nc ns o
  else bif Nat.ble o 87 then bif Nat.ble o 79 then mv_h4 loc st h nc ns nL a o else mv_h5 g loc st h nc ns dv a o
  else bif Nat.ble o 95 then mv_h6 g loc st h nc ns a o else bif Nat.beq o 96 then mv_ush g loc st h nc ns else mv_s1 g loc st h nc ns dv nL i pc a b
set_option maxHeartbeats 4000000 in
theorem mv_sf_eq (dv : Nat → List mv_V) (nL : Nat) (i : Instr) (pc a b : Nat) : mv_sf g loc st h nc ns dv nL i pc a b (mv_oc i) = mv_s1 g loc st h nc ns dv nL i pc a b := by
  cases i with
  | if_icmp c o => cases c <;> rfl
  | ifCond c o => cases c <;> rfl
  | _ => rfl
end
/-- an unknown, parted at a number in three -/
noncomputable def mv_pt3 (g : mv_B) (q : Nat × Nat) (f : mv_B → Bool) : Bool :=
  bif Nat.blt q.1 g.length then
    (bif Nat.blt (mv_bd g q.1).1 q.2 then mv_fo (mv_bd g q.1).1 (fun x => mv_fo (q.2 - 1) (fun y => mv_ls g q.1 (x, y) f)) else true) &&
    (mv_fo q.2 (fun x => mv_ls g q.1 (x, x) f) &&
    (bif Nat.blt q.2 (mv_bd g q.1).2 then mv_fo (q.2 + 1) (fun x => mv_fo (mv_bd g q.1).2 (fun y => mv_ls g q.1 (x, y) f)) else true))
  else false
/-- .. in two -/
noncomputable def mv_pt2 (g : mv_B) (q : Nat × Nat) (f : mv_B → Bool) : Bool :=
  bif Nat.blt q.1 g.length then
    (bif Nat.blt (mv_bd g q.1).1 q.2 then mv_fo (mv_bd g q.1).1 (fun x => mv_fo (q.2 - 1) (fun y => mv_ls g q.1 (x, y) f)) else true) &&
    (bif Nat.ble q.2 (mv_bd g q.1).2 then mv_fo q.2 (fun x => mv_fo (mv_bd g q.1).2 (fun y => mv_ls g q.1 (x, y) f)) else true)
  else false
noncomputable def mv_pt (g : mv_B) (q : Nat × Nat) (f : mv_B → Bool) : Bool := bif Nat.ble 16 q.1 then mv_pt2 g (q.1 - 16, q.2) f else mv_pt3 g q f
/-- name, code, locals, result, how many arguments (but the receiver), kind, class, handlers -/
abbrev mv_I : Type := MethodName × ByteArray × Nat × Option FieldType × Nat × Nat × Nat × List (Nat × Nat × Nat × Nat)
def mv_cs : List mv_V → Nat
  | [] => 0
  | v :: t => (bif mv_w2 v then 2 else 1) + mv_cs t
/-- the last n of the stack, the first of them first, and the rest -/
def mv_tk : Nat → List mv_V → List mv_V → Option (List mv_V × List mv_V)
  | 0, s, acc => some (acc, s)
  | n + 1, v :: s, acc => mv_tk n s (v :: acc)
  | _ + 1, [], _ => none
def mv_ag : Nat → List mv_V → mv_L
  | _, [] => []
  | i, v :: t => (i, v) :: mv_ag (bif mv_w2 v then i + 2 else i + 1) t
/-- which of the handlers takes exception x at pc: its place -/
def mv_hd (xn : Nat → Nat) : List (Nat × Nat × Nat × Nat) → Nat → Nat → Option Nat
  | [], _, _ => none
  | q :: t, pc, x => bif Nat.ble q.1 pc && Nat.blt pc q.2.1 && Nat.beq (xn q.2.2.2) x then some q.2.2.1 else mv_hd xn t pc x
/-- the receiver is a thing of that class -/
noncomputable def mv_rc (h : List mv_C) (ci : Nat) (as : List mv_V) : Bool := match as with
  | v :: _ => Nat.beq v.1 2 && match mv_gt h v.2 with
    | some c => Nat.beq c.1 (ci + 4)
    | none => false
  | [] => false
abbrev mv_K : Type := mv_B → Nat × mv_V → List mv_C → Nat → Nat → Bool
abbrev mv_J : Type := Nat → Nat → Nat → List mv_E → mv_L → List mv_V → List mv_C → Nat → Nat → mv_B → mv_K → Bool
noncomputable def mv_x0 (ih : mv_J) (r : mv_S) (dep mid pc : Nat) (e : mv_E) (t : List mv_E) (loc : mv_L) (st : List mv_V) (h : List mv_C) (nc ns : Nat) (g : mv_B) (K : mv_K) : Bool := match r with
  | some (.inr (none, l2, s2, h2, c2, n2)) => ih dep mid (e.2.1 + e.2.2.1) t l2 s2 h2 c2 n2 g K
  | some (.inr (some q, l2, s2, h2, c2, n2)) => ih dep mid q [] l2 s2 h2 c2 n2 g K
  | some (.inl q) => mv_pt g q (fun g2 => ih dep mid pc (e :: t) loc st h nc ns g2 K)
  | none => false
noncomputable def mv_x1v (ih : mv_J) (v : mv_V) (dep mid pc : Nat) (e : mv_E) (t : List mv_E) (loc : mv_L) (st : List mv_V) (h : List mv_C) (nc ns : Nat) (g : mv_B) (K : mv_K) : Bool := match e.2.2.2.2.1 with
  | 1 => bif mv_isI v then K g (1, v) h nc ns else false
  | 2 => match mv_cI g v with
    | some (.inr z) => bif Nat.blt z 2 then mv_fo z (fun z => K g (1, (0, z)) h nc ns) else false
    | some (.inl q) => mv_pt g q (fun g2 => ih dep mid pc (e :: t) loc st h nc ns g2 K)
    | none => false
  | 3 => bif mv_isJ v then K g (1, v) h nc ns else false
  | 4 => bif mv_isD v then K g (1, v) h nc ns else false
  | 5 => bif Nat.beq v.1 2 then K g (1, v) h nc ns else false
  | _ => false
noncomputable def mv_x1 (ih : mv_J) (dep mid pc : Nat) (e : mv_E) (t : List mv_E) (loc : mv_L) (st : List mv_V) (h : List mv_C) (nc ns : Nat) (g : mv_B) (K : mv_K) : Bool := match st with
  | [] => bif Nat.beq e.2.2.2.2.1 0 then K g (0, (0, 0)) h nc ns else false
  | [v] => mv_x1v ih v dep mid pc e t loc st h nc ns g K
  | _ => false
noncomputable def mv_x2 (dep : Nat) (e : mv_E) (st : List mv_V) (h : List mv_C) (nc ns : Nat) (g : mv_B) (K : mv_K) : Bool :=
  bif Nat.blt 6 dep && Nat.ble (mv_cs st) 8 then mv_fo (nc + 1) (fun nc => mv_fo (ns + 6) (fun ns => mv_sn h (3, []) (fun h2 => K g (e.2.2.2.2.1 + 2, (0, 0)) h2 nc ns))) else false
noncomputable def mv_x3 (ih : mv_J) (dep mid : Nat) (e : mv_E) (t : List mv_E) (loc : mv_L) (st : List mv_V) (h : List mv_C) (nc ns : Nat) (g : mv_B) (K : mv_K) : Bool := match st with
  | v :: s2 => bif Nat.beq v.1 2 && (Nat.ble (mv_cs s2) 8 && Nat.blt 0 dep) then ih dep mid (e.2.1 + e.2.2.1) t loc s2 h nc ns g K else false
  | [] => false
/-- behind a call that threw -/
noncomputable def mv_x6 (bk : Nat → Nat → Option (List mv_E)) (mi : Nat → mv_I) (xn : Nat → Nat) (ih : mv_J) (x : Nat) (dep mid : Nat) (e : mv_E) (loc : mv_L) (K : mv_K) (g2 : mv_B) (h2 : List mv_C) (nc2 ns2 : Nat) : Bool :=
  match mv_hd xn (mi mid).2.2.2.2.2.2.2 e.2.1 x with
  | none => K g2 (x + 2, (0, 0)) h2 nc2 ns2
  | some hp => match bk mid hp with
    | some (e2 :: t2) => bif Nat.beq e2.2.2.2.1 20 then mv_fi (mv_d1 e2.2.2.2.2.1) loc (fun l2 => ih dep mid (e2.2.1 + e2.2.2.1) t2 l2 [] h2 nc2 ns2 g2 K) else false
    | _ => false
/-- behind a call -/
noncomputable def mv_x5 (bk : Nat → Nat → Option (List mv_E)) (mi : Nat → mv_I) (xn : Nat → Nat) (ih : mv_J) (dep mid : Nat) (e : mv_E) (t : List mv_E) (loc : mv_L) (rest : List mv_V) (nc ns : Nat) (K : mv_K) (g2 : mv_B) (res : Nat × mv_V) (h2 : List mv_C) (c2 n2 : Nat) : Bool :=
  mv_fo (nc + c2) (fun nc2 => mv_fo (ns + n2) (fun ns2 => match res.1 with
    | 0 => ih dep mid (e.2.1 + e.2.2.1) t loc rest h2 nc2 ns2 g2 K
    | 1 => ih dep mid (e.2.1 + e.2.2.1) t loc (res.2 :: rest) h2 nc2 ns2 g2 K
    | x + 2 => mv_x6 bk mi xn ih x dep mid e loc K g2 h2 nc2 ns2))
noncomputable def mv_x4 (bk : Nat → Nat → Option (List mv_E)) (mi : Nat → mv_I) (xn : Nat → Nat) (ih : mv_J) (k dep mid : Nat) (e : mv_E) (t : List mv_E) (loc : mv_L) (st : List mv_V) (h : List mv_C) (nc ns : Nat) (g : mv_B) (K : mv_K) : Bool := match dep with
  | 0 => false
  | d + 1 => match mv_tk ((mi e.2.2.2.2.1).2.2.2.2.1 + (bif Nat.beq k 6 || Nat.beq k 9 then 0 else 1)) st [] with
    | some (as, rest) => bif Nat.ble (mv_cs rest) 8 && Nat.ble (mv_cs as) (mi e.2.2.2.2.1).2.2.1 && (Nat.beq k 6 || (Nat.beq k 9 || mv_rc h (mi e.2.2.2.2.1).2.2.2.2.2.2.1 as)) then
        ih d e.2.2.2.2.1 0 [] (mv_ag 0 as) [] h 0 0 g (mv_x5 bk mi xn ih (d + 1) mid e t loc rest nc ns K)
      else false
    | none => false
noncomputable def mv_x8 (bk : Nat → Nat → Option (List mv_E)) (mi : Nat → mv_I) (xn : Nat → Nat) (ih : mv_J) (dep mid pc : Nat) (e : mv_E) (t : List mv_E) (loc : mv_L) (st : List mv_V) (h : List mv_C) (nc ns : Nat) (g : mv_B) (K : mv_K) : Bool := match e.2.2.2.1 with
  | 0 => false
  | 1 => mv_x1 ih dep mid pc e t loc st h nc ns g K
  | 2 => mv_x2 dep e st h nc ns g K
  | 3 => mv_x3 ih dep mid e t loc st h nc ns g K
  | k + 4 => bif Nat.ble k 5 then mv_x4 bk mi xn ih (k + 4) dep mid e t loc st h nc ns g K else false
/-- a run to the method's end: every end is one that K takes -/
noncomputable def mv_ev (bk : Nat → Nat → Option (List mv_E)) (mi : Nat → mv_I) (dv : Nat → List mv_V) (xn : Nat → Nat) (n : Nat) : mv_J :=
  Nat.rec (motive := fun _ => mv_J)
    (fun _ _ _ _ _ _ _ _ _ _ _ => false)
    (fun _ ih dep mid pc L loc st h nc ns g K => match L with
      | [] => match bk mid pc with
        | some (e :: t) => ih dep mid pc (e :: t) loc st h nc ns g K
        | _ => false
      | e :: t => bif Nat.ble 40 e.2.2.2.1 then mv_x0 ih (mv_sf g loc st h nc ns dv (mi mid).2.2.1 e.1 e.2.1 e.2.2.2.2.1 e.2.2.2.2.2 e.2.2.2.1) dep mid pc e t loc st h nc ns g K
        else mv_x8 bk mi xn ih dep mid pc e t loc st h nc ns g K) n
end
section
/-! ===== what the interpreter's numbers say of ints ===== -/
theorem mv_nI_mod {a b : Nat} (h : a % 4294967296 = b % 4294967296) : nI a = nI b := by
  apply Int32.toBitVec_inj.mp
  show (Int32.ofNat a).toBitVec = (Int32.ofNat b).toBitVec
  rw [Int32.toBitVec_ofNat', Int32.toBitVec_ofNat']
  apply BitVec.eq_of_toNat_eq
  simpa [BitVec.toNat_ofNat] using h
theorem mv_nI_m (a : Nat) : nI (a % 4294967296) = nI a := mv_nI_mod (by omega)
theorem mv_nI_co (x : Int32) : nI (mv_co x) = x := by
  apply Int32.toBitVec_inj.mp
  show (Int32.ofNat x.toUInt32.toNat).toBitVec = x.toBitVec
  rw [Int32.toBitVec_ofNat']
  apply BitVec.eq_of_toNat_eq
  simp [BitVec.toNat_ofNat]
theorem mv_lN_cl (x : Int64) : lN (mv_cl x) = x := by
  apply Int64.toBitVec_inj.mp
  show (Int64.ofNat x.toUInt64.toNat).toBitVec = x.toBitVec
  rw [Int64.toBitVec_ofNat']
  apply BitVec.eq_of_toNat_eq
  simp [BitVec.toNat_ofNat]
theorem mv_u64 (x : UInt64) : UInt64.ofNat x.toNat = x := by simp
theorem mv_nI_toInt (n : Nat) : (nI n).toInt = ((n : Int)).bmod 4294967296 := by
  show (Int32.ofNat n).toInt = _
  rw [Int32.toInt_ofNat']
theorem mv_b32 (x : Int32) : -2147483648 ≤ x.toInt ∧ x.toInt < 2147483648 := ⟨Int32.le_toInt x, Int32.toInt_lt x⟩
theorem mv_cd_nI (n : Nat) : mv_cd (nI n) = (n + 2147483648) % 4294967296 := by
  unfold mv_cd
  rw [mv_nI_toInt, Int.bmod_def]
  split <;> omega
theorem mv_cd_inj {x y : Int32} (h : mv_cd x = mv_cd y) : x = y := by
  apply Int32.toInt_inj.mp
  have a := mv_b32 x
  have b := mv_b32 y
  unfold mv_cd at h
  omega
theorem mv_cd_lt {x y : Int32} : x < y ↔ mv_cd x < mv_cd y := by
  rw [Int32.lt_iff_toInt_lt]
  have a := mv_b32 x
  have b := mv_b32 y
  unfold mv_cd
  omega
theorem mv_cd_lt32 (x : Int32) : mv_cd x < 4294967296 := by
  have a := mv_b32 x
  unfold mv_cd
  omega
theorem mv_cd_to {x : Int32} {c : Nat} (h : mv_cd x = c) : x = nI ((c + 2147483648) % 4294967296) := by
  apply mv_cd_inj
  rw [mv_cd_nI, h]
  have := mv_cd_lt32 x
  omega
theorem mv_inr {α β : Type} {x y : β} (h : (some (Sum.inr x) : Option (α ⊕ β)) = some (.inr y)) : x = y := Sum.inr.inj (Option.some.inj h)
theorem mv_beq {a b : Nat} (h : Nat.beq a b = true) : a = b := Nat.eq_of_beq_eq_true h
theorem mv_nbeq {a b : Nat} (h : Nat.beq a b = false) : a ≠ b := Nat.ne_of_beq_eq_false h
theorem mv_blt {a b : Nat} (h : Nat.blt a b = true) : a < b := by
  rw [Nat.blt_eq] at h; exact h
theorem mv_nblt {a b : Nat} (h : Nat.blt a b = false) : b ≤ a := by
  rcases Nat.lt_or_ge a b with q | q
  · rw [← Nat.blt_eq] at q; rw [q] at h; cases h
  · exact q
theorem mv_ble {a b : Nat} (h : Nat.ble a b = true) : a ≤ b := Nat.le_of_ble_eq_true h
theorem mv_nble {a b : Nat} (h : Nat.ble a b = false) : b < a := by
  rcases Nat.lt_or_ge b a with q | q
  · exact q
  · rw [Nat.ble_eq_true_of_le q] at h; cases h
theorem mv_cnd {α : Type} {c : Bool} {x y : α} {z : α} (h : (bif c then x else y) = z) : (c = true ∧ x = z) ∨ (c = false ∧ y = z) := by
  cases c
  · exact Or.inr ⟨rfl, h⟩
  · exact Or.inl ⟨rfl, h⟩
theorem mv_cndn {α : Type} {c : Bool} {x : Option α} {z : α} (h : (bif c then x else none) = some z) : c = true ∧ x = some z := by
  cases c
  · cases h
  · exact ⟨rfl, h⟩
theorem mv_val_I {r : Nat → Int32} {ba : mv_A} {b : Nat} {v : mv_V} (h : mv_isI v = true) : mv_val r ba b v = .int (mv_ii r v) := by
  obtain ⟨t, n⟩ := v
  unfold mv_isI at h
  rcases mv_cnd h with ⟨h, -⟩ | ⟨-, h⟩
  · cases mv_beq h; rfl
  rcases mv_cnd h with ⟨h, -⟩ | ⟨-, h⟩
  · cases mv_beq h; rfl
  · cases mv_beq h; rfl
theorem mv_val_J {r : Nat → Int32} {ba : mv_A} {b : Nat} {v : mv_V} (h : mv_isJ v = true) : mv_val r ba b v = .long (lN v.2) := by
  obtain ⟨t, n⟩ := v
  cases mv_beq h; rfl
theorem mv_val_D {r : Nat → Int32} {ba : mv_A} {b : Nat} {v : mv_V} (h : mv_isD v = true) : mv_val r ba b v = .double (UInt64.ofNat v.2) := by
  obtain ⟨t, n⟩ := v
  cases mv_beq h; rfl
theorem mv_val_A {r : Nat → Int32} {ba : mv_A} {b : Nat} {v : mv_V} (h : mv_isA v = true) : ∃ x : Nat, mv_val r ba b v = .ref x := by
  obtain ⟨t, n⟩ := v
  unfold mv_isA at h
  rcases mv_cnd h with ⟨h, -⟩ | ⟨-, h⟩
  · cases mv_beq h; exact ⟨_, rfl⟩
  · cases mv_beq h; exact ⟨_, rfl⟩
theorem mv_val_R {r : Nat → Int32} {ba : mv_A} {b : Nat} {v : mv_V} (h : Nat.beq v.1 2 = true) : mv_val r ba b v = .ref (mv_ad ba v.2) := by
  obtain ⟨t, n⟩ := v
  cases mv_beq h; rfl
theorem mv_val_S {r : Nat → Int32} {ba : mv_A} {b : Nat} {v : mv_V} (h : Nat.beq v.1 7 = true) : mv_val r ba b v = .ref b := by
  obtain ⟨t, n⟩ := v
  cases mv_beq h; rfl
theorem mv_cat (r : Nat → Int32) (ba : mv_A) (b : Nat) (v : mv_V) : ((mv_val r ba b v).category == 2) = mv_w2 v ∧ (mv_val r ba b v).category = (bif mv_w2 v then 2 else 1) := by
  obtain ⟨t, n⟩ := v
  match t with
  | 0 => exact ⟨rfl, rfl⟩
  | 1 => exact ⟨rfl, rfl⟩
  | 2 => exact ⟨rfl, rfl⟩
  | 3 => exact ⟨rfl, rfl⟩
  | 4 => exact ⟨rfl, rfl⟩
  | 5 => exact ⟨rfl, rfl⟩
  | 6 => exact ⟨rfl, rfl⟩
  | t + 7 => exact ⟨rfl, rfl⟩
/-- a known int -/
theorem mv_cI_ok {g : mv_B} {r : Nat → Int32} (hg : mv_in g r) {v : mv_V} {n : Nat} (h : mv_cI g v = some (.inr n)) : mv_isI v = true ∧ mv_ii r v = nI n := by
  obtain ⟨t, k⟩ := v
  unfold mv_cI at h
  rcases mv_cnd h with ⟨h1, h⟩ | ⟨-, h⟩
  · cases mv_beq h1
    cases h
    exact ⟨rfl, rfl⟩
  · obtain ⟨h1, h⟩ := mv_cndn h
    cases mv_beq h1
    refine ⟨rfl, ?_⟩
    unfold mv_cI5 at h
    rcases mv_cnd h with ⟨h2, h⟩ | ⟨-, h⟩
    · rw [← mv_inr h]
      have h3 := hg k
      have h4 : (mv_bd g k).1 = (mv_bd g k).2 := mv_beq h2
      show r k = _
      exact mv_cd_to (show mv_cd (r k) = (mv_bd g k).1 by omega)
    · obtain ⟨-, h⟩ := mv_cndn h
      cases h
theorem mv_u32i {x y : Int32} (h : x.toUInt32 = y.toUInt32) : x = y := by
  cases x
  cases y
  cases h
  rfl
theorem mv_ushr (z y : Nat) (hz : z < 2147483648) (h : y < 32) : ((nI z).toUInt32 >>> ((nI y).toUInt32 &&& Int32.toUInt32 31)).toInt32 = nI (z / 2 ^ y) := by
  apply mv_u32i
  rw [UInt32.toUInt32_toInt32]
  show UInt32.ofNat z >>> (UInt32.ofNat y &&& UInt32.ofNat 31) = UInt32.ofNat (z / 2 ^ y)
  apply UInt32.toNat_inj.mp
  rw [UInt32.toNat_shiftRight, UInt32.toNat_and, UInt32.toNat_ofNat', UInt32.toNat_ofNat', UInt32.toNat_ofNat', UInt32.toNat_ofNat']
  have h1 : z / 2 ^ y ≤ z := Nat.div_le_self _ _
  have e1 : z % 2 ^ 32 = z := Nat.mod_eq_of_lt (by omega)
  have e2 : y % 2 ^ 32 = y := Nat.mod_eq_of_lt (by omega)
  have e3 : z / 2 ^ y % 2 ^ 32 = z / 2 ^ y := Nat.mod_eq_of_lt (by omega)
  have e4 : (31 : Nat) % 2 ^ 32 = 2 ^ 5 - 1 := by decide
  rw [e1, e2, e3, e4, Nat.and_two_pow_sub_one_eq_mod, Nat.shiftRight_eq_div_pow]
  have e5 : y % 2 ^ 5 % 32 = y := by omega
  rw [e5]
theorem mv_rg_ok {g : mv_B} {r : Nat → Int32} (hg : mv_in g r) {v : mv_V} {a : Nat × Nat} (h : mv_rg g v = some a) : mv_isI v = true ∧ a.1 ≤ mv_cd (mv_ii r v) ∧ mv_cd (mv_ii r v) ≤ a.2 := by
  obtain ⟨t, k⟩ := v
  unfold mv_rg at h
  rcases mv_cnd h with ⟨h1, h⟩ | ⟨-, h⟩
  · cases mv_beq h1
    rw [← Option.some.inj h]
    refine ⟨rfl, ?_⟩
    show _ ≤ mv_cd (nI k) ∧ mv_cd (nI k) ≤ _
    rw [mv_cd_nI]
    exact ⟨Nat.le_refl _, Nat.le_refl _⟩
  rcases mv_cnd h with ⟨h1, h⟩ | ⟨-, h⟩
  · cases mv_beq h1
    cases h
    exact ⟨rfl, hg k⟩
  obtain ⟨h1, h⟩ := mv_cndn h
  cases mv_beq h1
  refine ⟨rfl, ?_⟩
  unfold mv_rg6 at h
  obtain ⟨h2, h⟩ := mv_cndn h
  simp only [Bool.and_eq_true] at h2
  obtain ⟨h2, h3, h4⟩ := h2
  have h2 := mv_ble h2
  have h3 := mv_blt h3
  have h4 := mv_blt h4
  rw [← Option.some.inj h]
  have h5 := hg (k % 16)
  show _ ≤ mv_cd (((r (k % 16)).toUInt32 >>> ((nI (k / 16)).toUInt32 &&& Int32.toUInt32 31)).toInt32) ∧ mv_cd (((r (k % 16)).toUInt32 >>> ((nI (k / 16)).toUInt32 &&& Int32.toUInt32 31)).toInt32) ≤ _
  have key : ((r (k % 16)).toUInt32 >>> ((nI (k / 16)).toUInt32 &&& Int32.toUInt32 31)).toInt32 = nI ((mv_cd (r (k % 16)) - 2147483648) / 2 ^ (k / 16)) := by
    have hx := mv_cd_lt32 (r (k % 16))
    have hlo : 2147483648 ≤ mv_cd (r (k % 16)) := by omega
    have e0 : (r (k % 16)) = nI (mv_cd (r (k % 16)) - 2147483648) := by
      apply mv_cd_inj
      rw [mv_cd_nI]
      omega
    have hz : mv_cd (r (k % 16)) - 2147483648 < 2147483648 := by omega
    generalize mv_cd (r (k % 16)) - 2147483648 = z at e0 hz ⊢
    generalize k / 16 = y at h3 ⊢
    rw [e0]
    exact mv_ushr z y hz h3
  rw [key, mv_cd_nI]
  have h6 := mv_cd_lt32 (r (k % 16))
  have h7 : (mv_cd (r (k % 16)) - 2147483648) / 2 ^ (k / 16) ≤ mv_cd (r (k % 16)) - 2147483648 := Nat.div_le_self _ _
  have h8 : ((mv_bd g (k % 16)).1 - 2147483648) / 2 ^ (k / 16) ≤ (mv_cd (r (k % 16)) - 2147483648) / 2 ^ (k / 16) := Nat.div_le_div_right (by omega)
  have h9 : (mv_cd (r (k % 16)) - 2147483648) / 2 ^ (k / 16) ≤ ((mv_bd g (k % 16)).2 - 2147483648) / 2 ^ (k / 16) := Nat.div_le_div_right (by omega)
  have h10 : (mv_cd (r (k % 16)) - 2147483648) / 2 ^ (k / 16) + 2147483648 < 4294967296 := by omega
  rw [Nat.mod_eq_of_lt h10]
  exact ⟨show 2147483648 + ((mv_bd g (k % 16)).1 - 2147483648) / 2 ^ (k / 16) ≤ _ from by omega, show _ ≤ 2147483648 + ((mv_bd g (k % 16)).2 - 2147483648) / 2 ^ (k / 16) from by omega⟩
theorem mv_lt_ok {g : mv_B} {r : Nat → Int32} (hg : mv_in g r) {v w : mv_V} {q : Bool} (h : mv_lt g v w = some (.inr q)) : mv_isI v = true ∧ mv_isI w = true ∧ (q = true ↔ mv_ii r v < mv_ii r w) := by
  unfold mv_lt at h
  rcases mv_cnd h with ⟨h1, h⟩ | ⟨-, h⟩
  · obtain ⟨t, k⟩ := v
    obtain ⟨t2, k2⟩ := w
    simp only [Bool.and_eq_true] at h1
    cases mv_beq h1.1
    cases mv_beq h1.2
    rw [← mv_inr h]
    refine ⟨rfl, rfl, ?_⟩
    show _ ↔ nI k < nI k2
    rw [mv_cd_lt, mv_cd_nI, mv_cd_nI, Nat.blt_eq]
  · unfold mv_ltg at h
    cases ha : mv_rg g v with
    | none => rw [ha] at h; cases h
    | some a =>
      cases hc : mv_rg g w with
      | none => rw [ha, hc] at h; cases h
      | some c =>
        rw [ha, hc] at h
        obtain ⟨i1, i2, i3⟩ := mv_rg_ok hg ha
        obtain ⟨j1, j2, j3⟩ := mv_rg_ok hg hc
        refine ⟨i1, j1, ?_⟩
        rw [mv_cd_lt]
        replace h : mv_ltr v w a c = some (.inr q) := h
        unfold mv_ltr at h
        rcases mv_cnd h with ⟨h1, h⟩ | ⟨-, h⟩
        · cases h
          have := mv_blt h1
          simp; omega
        rcases mv_cnd h with ⟨h1, h⟩ | ⟨-, h⟩
        · cases h
          have := mv_ble h1
          simp; omega
        · unfold mv_sp2 at h
          rcases mv_cnd h with ⟨-, h⟩ | ⟨-, h⟩
          · cases h
          rcases mv_cnd h with ⟨-, h⟩ | ⟨-, h⟩
          · cases h
          unfold mv_sp at h
          rcases mv_cnd h with ⟨-, h⟩ | ⟨-, h⟩
          · cases h
          · obtain ⟨-, h⟩ := mv_cndn h
            cases h
theorem mv_eq_ok {g : mv_B} {r : Nat → Int32} (hg : mv_in g r) {v w : mv_V} {q : Bool} (h : mv_eq g v w = some (.inr q)) : mv_isI v = true ∧ mv_isI w = true ∧ (q = true ↔ mv_ii r v = mv_ii r w) := by
  unfold mv_eq at h
  rcases mv_cnd h with ⟨h1, h⟩ | ⟨-, h⟩
  · obtain ⟨t, k⟩ := v
    obtain ⟨t2, k2⟩ := w
    simp only [Bool.and_eq_true] at h1
    cases mv_beq h1.1
    cases mv_beq h1.2
    rw [← mv_inr h]
    refine ⟨rfl, rfl, ?_⟩
    show _ ↔ nI k = nI k2
    refine ⟨fun z => mv_nI_mod (mv_beq z), fun z => ?_⟩
    have z2 : mv_cd (nI k) = mv_cd (nI k2) := by rw [z]
    rw [mv_cd_nI, mv_cd_nI] at z2
    have z3 : k % 4294967296 = k2 % 4294967296 := by omega
    simp only [z3]
    exact Nat.beq_refl _
  · unfold mv_eqg at h
    cases ha : mv_rg g v with
    | none => rw [ha] at h; cases h
    | some a =>
      cases hc : mv_rg g w with
      | none => rw [ha, hc] at h; cases h
      | some c =>
        rw [ha, hc] at h
        obtain ⟨i1, i2, i3⟩ := mv_rg_ok hg ha
        obtain ⟨j1, j2, j3⟩ := mv_rg_ok hg hc
        refine ⟨i1, j1, ?_⟩
        replace h : mv_eqr v w a c = some (.inr q) := h
        unfold mv_eqr at h
        rcases mv_cnd h with ⟨h1, h⟩ | ⟨h0, h⟩
        · cases h
          simp only [Bool.or_eq_true] at h1
          refine ⟨fun z => (by cases z), fun z => ?_⟩
          rw [z] at i2 i3
          rcases h1 with h1 | h1
          · have := mv_blt h1; omega
          · have := mv_blt h1; omega
        rcases mv_cnd h with ⟨h1, h⟩ | ⟨-, h⟩
        · cases h
          simp only [Bool.and_eq_true] at h1
          have e1 := mv_beq h1.1
          have e2 := mv_beq h1.2
          simp only [Bool.or_eq_false_iff] at h0
          have e3 := mv_nblt h0.1
          have e4 := mv_nblt h0.2
          exact ⟨fun _ => mv_cd_inj (by omega), fun _ => rfl⟩
        · unfold mv_sp at h
          rcases mv_cnd h with ⟨-, h⟩ | ⟨-, h⟩
          · cases h
          · obtain ⟨-, h⟩ := mv_cndn h
            cases h
theorem mv_no_ok {x : Option ((Nat × Nat) ⊕ Bool)} {q : Bool} (h : mv_no x = some (.inr q)) : x = some (.inr (!q)) := by
  cases x with
  | none => cases h
  | some y => cases y with
    | inl z => cases h
    | inr z => cases h; simp
def mv_hc (o : ClassFile.Cond) (x y : Int32) : Prop := match o with
  | .eq => x = y
  | .ne => ¬ x = y
  | .lt => x < y
  | .ge => ¬ x < y
  | .gt => y < x
  | .le => ¬ y < x
theorem mv_cm_ok {g : mv_B} {r : Nat → Int32} (hg : mv_in g r) {o : ClassFile.Cond} {v w : mv_V} {q : Bool} (h : mv_cm g o v w = some (.inr q)) : mv_isI v = true ∧ mv_isI w = true ∧ (q = true ↔ mv_hc o (mv_ii r v) (mv_ii r w)) := by
  cases o with
  | eq => exact mv_eq_ok hg h
  | ne =>
    obtain ⟨a, b, c⟩ := mv_eq_ok hg (mv_no_ok h)
    exact ⟨a, b, by show _ ↔ ¬ _; rw [← c]; simp⟩
  | lt => exact mv_lt_ok hg h
  | ge =>
    obtain ⟨a, b, c⟩ := mv_lt_ok hg (mv_no_ok h)
    exact ⟨a, b, by show _ ↔ ¬ _; rw [← c]; simp⟩
  | gt =>
    obtain ⟨a, b, c⟩ := mv_lt_ok hg h
    exact ⟨b, a, c⟩
  | le =>
    obtain ⟨a, b, c⟩ := mv_lt_ok hg (mv_no_ok h)
    exact ⟨b, a, by show _ ↔ ¬ _; rw [← c]; simp⟩
end
section
/-! ===== what the interpreter's things say of a heap; a step of it and a step of the machine ===== -/
theorem mv_ad_le (ba : mv_A) (k : Nat) : ba.1 ≤ mv_ad ba k := by unfold mv_ad; split <;> omega
theorem mv_ad_lt {ba : mv_A} {j k : Nat} (h : j < k) : mv_ad ba j < mv_ad ba k := by unfold mv_ad; split <;> split <;> omega
theorem mv_ad_ne {ba : mv_A} {j k : Nat} (h : ¬ j = k) : mv_ad ba j ≠ mv_ad ba k := by unfold mv_ad; split <;> split <;> omega
theorem mv_ad_s {ba : mv_A} {k : Nat} (n : Nat) (h : ba.2.1 ≤ k) : mv_ad ba (k + n) = mv_ad ba k + n := by unfold mv_ad; rw [if_neg (by omega), if_neg (by omega)]; omega
def mv_cok (D : va_G) (cs : ClassId × ClassId × ClassId) (r : Nat → Int32) (ba : mv_A) (b a : Nat) (c : mv_C) (H : Heap) : Prop := match c.1 with
  | 0 => H[a]? = some (arrV cs.1 c.2.length (fun j => .int (mv_ii r (c.2.getD j (0, 0)))))
  | 1 => H[a]? = some (arrV cs.2.1 c.2.length (fun j => .long (lN (c.2.getD j (3, 0)).2)))
  | 2 => H[a]? = some (arrV cs.2.2 c.2.length (fun j => .int (mv_ii r (c.2.getD j (0, 0)))))
  | 3 => True
  | n + 4 => ∃ q : vw_C, vwCl[n]? = some q ∧ t_OB a (D.1 n) q.2.2 (D.2 n) H (vp_V (c.2.map (mv_val r ba b)))
def mv_hok (D : va_G) (cs : ClassId × ClassId × ClassId) (r : Nat → Int32) (ba : mv_A) (b : Nat) (h : List mv_C) (H : Heap) : Prop :=
  (H.size = mv_ad ba h.length ∧ ba.2.1 ≤ h.length) ∧ ∀ (k : Nat) (c : mv_C), h[k]? = some c → mv_cok D cs r ba b (mv_ad ba k) c H
def mv_lv (r : Nat → Int32) (ba : mv_A) (b : Nat) (q : Nat × mv_V) : Nat × Value := (q.1, mv_val r ba b q.2)
def mv_tys (cs : ClassId × ClassId × ClassId) : List (ClassId × FieldType) := [(cs.1, .int), (cs.2.1, .long), (cs.2.2, .boolean)]
def mv_big : List Cond := lw_tbl.filter goodWord
theorem mv_big_good : GoodIn mv_big mv_big := fun w hw => ⟨hw, good_of_word (List.mem_filter.mp hw).2⟩
theorem mv_big_tbl {args : Array Value} {s : State} (h : ∀ w ∈ lw_tbl, w.before args s = true) : ∀ w ∈ mv_big, w.before args s = true := fun w hw => h w (List.mem_filter.mp hw).1
theorem mv_cok.kept {D : va_G} {cs : ClassId × ClassId × ClassId} {r : Nat → Int32} {ba : mv_A} {b a : Nat} {c : mv_C} {H H1 : Heap} (h : mv_cok D cs r ba b a c H) (e : H1[a]? = H[a]?) : mv_cok D cs r ba b a c H1 := by
  obtain ⟨t, l⟩ := c
  match t, h with
  | 0, h => exact e.trans h
  | 1, h => exact e.trans h
  | 2, h => exact e.trans h
  | 3, _ => trivial
  | n + 4, h =>
    obtain ⟨q, h1, h2⟩ := h
    exact ⟨q, h1, h2.kept e⟩
theorem mv_hok.set {D : va_G} {cs : ClassId × ClassId × ClassId} {r : Nat → Int32} {ba : mv_A} {b k : Nat} {h : List mv_C} {c : mv_C} {H H1 : Heap} (hH : mv_hok D cs r ba b h H) (z : H1.size = H.size) (o : ∀ q : Nat, q ≠ mv_ad ba k → H1[q]? = H[q]?) (hc : mv_cok D cs r ba b (mv_ad ba k) c H1) : mv_hok D cs r ba b (h.set k c) H1 := by
  refine ⟨by rw [z, List.length_set]; exact hH.1, fun j d hd => ?_⟩
  by_cases hj : j = k
  · subst hj
    have hl : j < h.length := by
      have := (List.getElem?_eq_some_iff.mp hd).1
      rwa [List.length_set] at this
    rw [List.getElem?_set_self hl] at hd
    cases hd
    exact hc
  · rw [List.getElem?_set_ne (Ne.symm hj)] at hd
    exact (hH.2 j d hd).kept (o _ (mv_ad_ne hj))
theorem mv_hok.push {D : va_G} {cs : ClassId × ClassId × ClassId} {r : Nat → Int32} {ba : mv_A} {b : Nat} {h : List mv_C} {c : mv_C} {H H1 : Heap} (hH : mv_hok D cs r ba b h H) (z : H1.size = H.size + 1) (o : ∀ q : Nat, q < H.size → H1[q]? = H[q]?) (hc : mv_cok D cs r ba b (mv_ad ba h.length) c H1) : mv_hok D cs r ba b (h ++ [c]) H1 := by
  refine ⟨⟨by rw [z, hH.1.1, List.length_append]; exact (mv_ad_s 1 hH.1.2).symm, by rw [List.length_append]; exact Nat.le_trans hH.1.2 (Nat.le_add_right _ _)⟩, fun j d hd => ?_⟩
  by_cases hl : j < h.length
  · rw [List.getElem?_append_left hl] at hd
    exact (hH.2 j d hd).kept (o _ (by rw [hH.1.1]; exact mv_ad_lt hl))
  · rw [List.getElem?_append_right (by omega)] at hd
    have hz : j - h.length < 1 := (List.getElem?_eq_some_iff.mp hd).1
    have hj : j = h.length := by omega
    subst hj
    rw [Nat.sub_self] at hd
    cases hd
    exact hc
theorem mv_nb {a b : Nat} (h : ¬ a = b) : Nat.beq a b = false := by
  cases hq : Nat.beq a b
  · rfl
  · exact absurd (mv_beq hq) h
theorem mv_bf {a b : Nat} (h : ¬ a = b) : (a == b) = false := by simpa using h
theorem mv_flt1 {r : Nat → Int32} {ba : mv_A} {b i : Nat} (loc : mv_L) : (loc.map (mv_lv r ba b)).filter (fun q => !(q.1 == i) && !(q.1 + 1 == i && q.2.category == 2)) = (loc.filter (mv_d1 i)).map (mv_lv r ba b) := by
  rw [List.filter_map]
  congr 1
  apply List.filter_congr
  intro q hq
  show (!(q.1 == i) && !(q.1 + 1 == i && (mv_val r ba b q.2).category == 2)) = mv_d1 i q
  rw [(mv_cat r ba b q.2).1]
  unfold mv_d1
  by_cases h1 : q.1 = i
  · rw [h1, Nat.beq_refl]; simp
  · have h2 : Nat.beq q.1 i = false := mv_nb h1
    rw [h2]
    by_cases h3 : q.1 + 1 = i
    · rw [h3, Nat.beq_refl]; simp [h1]
    · have h4 : Nat.beq (q.1 + 1) i = false := mv_nb h3
      rw [h4]; simp [h1, h3]
theorem mv_flt2 {r : Nat → Int32} {ba : mv_A} {b i : Nat} (loc : mv_L) : (loc.map (mv_lv r ba b)).filter (fun q => !(q.1 == i) && (!(q.1 == i + 1) && !(q.1 + 1 == i && q.2.category == 2))) = (loc.filter (mv_d2 i)).map (mv_lv r ba b) := by
  rw [List.filter_map]
  congr 1
  apply List.filter_congr
  intro q hq
  show (!(q.1 == i) && (!(q.1 == i + 1) && !(q.1 + 1 == i && (mv_val r ba b q.2).category == 2))) = mv_d2 i q
  rw [(mv_cat r ba b q.2).1]
  unfold mv_d2
  by_cases h1 : q.1 = i
  · rw [h1, Nat.beq_refl]; simp
  · have h2 : Nat.beq q.1 i = false := mv_nb h1
    rw [h2]
    by_cases h5 : q.1 = i + 1
    · rw [h5, Nat.beq_refl]; simp
    · have h6 : Nat.beq q.1 (i + 1) = false := mv_nb h5
      rw [h6]
      by_cases h3 : q.1 + 1 = i
      · rw [h3, Nat.beq_refl, mv_bf h1, mv_bf h5]; simp
      · have h4 : Nat.beq (q.1 + 1) i = false := mv_nb h3
        rw [h4]; simp [h1, h3, h5]
theorem mv_lk_mem {loc : mv_L} {i : Nat} {v : mv_V} (h : mv_lk loc i = some v) : ∃ k : Nat, loc[k]? = some (i, v) := by
  induction loc with
  | nil => cases h
  | cons q t ih =>
    have h : (bif Nat.beq q.1 i then some q.2 else mv_lk t i) = some v := h
    rcases mv_cnd h with ⟨h1, h⟩ | ⟨-, h⟩
    · refine ⟨0, ?_⟩
      cases h
      rw [← mv_beq h1]
      rfl
    · obtain ⟨k, hk⟩ := ih h
      exact ⟨k + 1, hk⟩
theorem mv_lk_at {r : Nat → Int32} {ba : mv_A} {b : Nat} {loc : mv_L} {i nL : Nat} {v : mv_V} {ls : Array Slot} (h : mv_lk loc i = some v) (hl : lv_has ls nL (loc.map (mv_lv r ba b))) : ∃ k : Nat, (loc.map (mv_lv r ba b))[k]? = some (i, mv_val r ba b v) := by
  obtain ⟨k, hk⟩ := mv_lk_mem h
  exact ⟨k, by rw [List.getElem?_map, hk]; rfl⟩
section MVS
variable {p : Program} {l : Launch} {e : Env} {R : Room} {s : State} {m : MethodId} {args : Array Value} {below : List Frame} {meth : Method} {c : Code} {Q : State → Prop}
variable {D : va_G} {cs : ClassId × ClassId × ClassId} {r : Nat → Int32} {ba : mv_A} {b nL : Nat} {g : mv_B} {loc : mv_L} {st : List mv_V} {h : List mv_C} {nc ns : Nat} {x : Option Nat × mv_L × List mv_V × List mv_C × Nat × Nat} {cc : ByteArray} {pc : Nat}
/-- the machine goes on to Q from every state that these things, locals, stack tell of -/
def mv_W (p : Program) (l : Launch) (e : Env) (R : Room) (s : State) (m : MethodId) (args : Array Value) (below : List Frame) (meth : Method) (c : Code) (Q : State → Prop) (D : va_G) (cs : ClassId × ClassId × ClassId) (r : Nat → Int32) (ba : mv_A) (b nL : Nat) (loc : mv_L) (st : List mv_V) (h : List mv_C) (nc ns pc : Nat) : Prop :=
  ∀ (H : Heap) (locs : List Loc) (ls : Array Slot), mv_hok D cs r ba b h H → va_S (fun q => ba.1 ≤ q) s.heap H locs → lv_has ls nL (loc.map (mv_lv r ba b)) → s.heap.size + nc = H.size → W p l e R s m args below meth c H locs nc ns Q (F0 m pc ls (st.map (mv_val r ba b)))
abbrev mv_Wx (p : Program) (l : Launch) (e : Env) (R : Room) (s : State) (m : MethodId) (args : Array Value) (below : List Frame) (meth : Method) (c : Code) (Q : State → Prop) (D : va_G) (cs : ClassId × ClassId × ClassId) (r : Nat → Int32) (ba : mv_A) (b nL : Nat) (x : Option Nat × mv_L × List mv_V × List mv_C × Nat × Nat) (pc : Nat) : Prop :=
  mv_W p l e R s m args below meth c Q D cs r ba b nL x.2.1 x.2.2.1 x.2.2.2.1 x.2.2.2.2.1 x.2.2.2.2.2 (x.1.getD pc)
theorem mv_go_ok {s2 : List mv_V} (h1 : mv_go loc h nc ns s2 = some (.inr x)) {pc2 : Nat} (kk : mv_Wx p l e R s m args below meth c Q D cs r ba b nL x pc2) : mv_W p l e R s m args below meth c Q D cs r ba b nL loc s2 h nc ns pc2 := by
  have e1 := mv_inr h1
  rw [← e1] at kk
  exact kk
theorem mv_bi_ok {f : Nat → Nat → Option Nat} {pc2 : Nat} (hg : mv_in g r) (h1 : mv_bi g loc st h nc ns f = some (.inr x))
    (row : ∀ (a d n : Nat) (s2 : List mv_V), f a d = some n → mv_W p l e R s m args below meth c Q D cs r ba b nL loc ((0, n) :: s2) h nc ns pc2 → ∀ (H : Heap) (locs : List Loc) (ls : Array Slot), mv_hok D cs r ba b h H → va_S (fun q => ba.1 ≤ q) s.heap H locs → lv_has ls nL (loc.map (mv_lv r ba b)) → s.heap.size + nc = H.size → W p l e R s m args below meth c H locs nc ns Q (F0 m pc ls (.int (nI d) :: .int (nI a) :: s2.map (mv_val r ba b))))
    (kk : mv_Wx p l e R s m args below meth c Q D cs r ba b nL x pc2) : mv_W p l e R s m args below meth c Q D cs r ba b nL loc st h nc ns pc := by
  unfold mv_bi at h1
  split at h1
  · rename_i y z s2
    split at h1
    · rename_i a ha
      split at h1
      · rename_i d hd
        split at h1
        · rename_i n hf
          rw [mv_fo_eq] at h1
          have k2 := mv_go_ok h1 kk
          obtain ⟨i1, i2⟩ := mv_cI_ok hg ha
          obtain ⟨j1, j2⟩ := mv_cI_ok hg hd
          intro H locs ls hH hS hl hn
          show W p l e R s m args below meth c H locs nc ns Q (F0 m pc ls (mv_val r ba b y :: mv_val r ba b z :: s2.map (mv_val r ba b)))
          rw [mv_val_I i1, mv_val_I j1, i2, j2]
          exact row a d n s2 hf k2 H locs ls hH hS hl hn
        · cases h1
      · cases h1
      · cases h1
    · cases h1
    · cases h1
  · cases h1
end MVS
end
section
/-! ===== a step of the interpreter is a step of the machine: one lemma a handler ===== -/
section MVT
variable {p : Program} {l : Launch} {e : Env} {R : Room} {s : State} {m : MethodId} {args : Array Value} {below : List Frame} {meth : Method} {c : Code} {Q : State → Prop}
variable {D : va_G} {cs : ClassId × ClassId × ClassId} {r : Nat → Int32} {ba : mv_A} {b nL : Nat} {g : mv_B} {loc : mv_L} {st : List mv_V} {h : List mv_C} {nc ns : Nat} {x : Option Nat × mv_L × List mv_V × List mv_C × Nat × Nat} {cc : ByteArray} {pc pc2 : Nat}
theorem mv_bi_nt {f : Nat → Nat → Option Nat} (h1 : mv_bi g loc st h nc ns f = some (.inr x)) : x.1 = none := by
  unfold mv_bi at h1
  split at h1
  · split at h1
    · split at h1
      · split at h1
        · rw [mv_fo_eq] at h1
          rw [← mv_inr h1]
        · cases h1
      · cases h1
      · cases h1
    · cases h1
    · cases h1
  · cases h1
theorem mv_ld_ok {f : mv_V → Bool} {i : Nat} (h1 : mv_ld loc st h nc ns f i = some (.inr x))
    (row : ∀ (v : mv_V) (H : Heap) (locs : List Loc) (ls : Array Slot), f v = true → ls[i]? = some (.val (mv_val r ba b v)) → W p l e R s m args below meth c H locs nc ns Q (F0 m pc2 ls (mv_val r ba b v :: st.map (mv_val r ba b))) → W p l e R s m args below meth c H locs nc ns Q (F0 m pc ls (st.map (mv_val r ba b))))
    (kk : mv_Wx p l e R s m args below meth c Q D cs r ba b nL x pc2) : mv_W p l e R s m args below meth c Q D cs r ba b nL loc st h nc ns pc := by
  unfold mv_ld at h1
  split at h1
  · rename_i v hv
    obtain ⟨h2, h1⟩ := mv_cndn h1
    have k2 := mv_go_ok h1 kk
    intro H locs ls hH hS hl hn
    obtain ⟨k, hk⟩ := mv_lk_at (r := r) (ba := ba) (b := b) hv hl
    exact row v H locs ls h2 (lv_at hl k hk) (k2 H locs ls hH hS hl hn)
  · cases h1
theorem mv_sto_ok {f : mv_V → Bool} {i : Nat} (h1 : mv_sto loc st h nc ns f nL i = some (.inr x))
    (row : ∀ (v : mv_V) (s2 : List mv_V) (H : Heap) (locs : List Loc) (ls : Array Slot), f v = true → i < nL → lv_has ls nL (loc.map (mv_lv r ba b)) → (∀ ls2 : Array Slot, lv_has ls2 nL (((i, v) :: loc.filter (mv_d1 i)).map (mv_lv r ba b)) → W p l e R s m args below meth c H locs nc ns Q (F0 m pc2 ls2 (s2.map (mv_val r ba b)))) → W p l e R s m args below meth c H locs nc ns Q (F0 m pc ls (mv_val r ba b v :: s2.map (mv_val r ba b))))
    (kk : mv_Wx p l e R s m args below meth c Q D cs r ba b nL x pc2) : mv_W p l e R s m args below meth c Q D cs r ba b nL loc st h nc ns pc := by
  unfold mv_sto at h1
  split at h1
  · rename_i v s2
    obtain ⟨h2, h1⟩ := mv_cndn h1
    simp only [Bool.and_eq_true] at h2
    rw [mv_fi_eq] at h1
    rw [← mv_inr h1] at kk
    intro H locs ls hH hS hl hn
    exact row v s2 H locs ls h2.1 (mv_blt h2.2) hl (fun ls2 hl2 => kk H locs ls2 hH hS hl2 hn)
  · cases h1
theorem mv_sto2_ok {f : mv_V → Bool} {i : Nat} (h1 : mv_sto2 loc st h nc ns f nL i = some (.inr x))
    (row : ∀ (v : mv_V) (s2 : List mv_V) (H : Heap) (locs : List Loc) (ls : Array Slot), f v = true → i + 1 < nL → lv_has ls nL (loc.map (mv_lv r ba b)) → (∀ ls2 : Array Slot, lv_has ls2 nL (((i, v) :: loc.filter (mv_d2 i)).map (mv_lv r ba b)) → W p l e R s m args below meth c H locs nc ns Q (F0 m pc2 ls2 (s2.map (mv_val r ba b)))) → W p l e R s m args below meth c H locs nc ns Q (F0 m pc ls (mv_val r ba b v :: s2.map (mv_val r ba b))))
    (kk : mv_Wx p l e R s m args below meth c Q D cs r ba b nL x pc2) : mv_W p l e R s m args below meth c Q D cs r ba b nL loc st h nc ns pc := by
  unfold mv_sto2 at h1
  split at h1
  · rename_i v s2
    obtain ⟨h2, h1⟩ := mv_cndn h1
    simp only [Bool.and_eq_true] at h2
    rw [mv_fi_eq] at h1
    rw [← mv_inr h1] at kk
    intro H locs ls hH hS hl hn
    exact row v s2 H locs ls h2.1 (mv_blt h2.2) hl (fun ls2 hl2 => kk H locs ls2 hH hS hl2 hn)
  · cases h1
theorem mv_un_ok {f : Nat → mv_V} (hg : mv_in g r) (h1 : mv_un g loc st h nc ns f = some (.inr x))
    (row : ∀ (a : Nat) (s2 : List mv_V) (H : Heap) (locs : List Loc) (ls : Array Slot), W p l e R s m args below meth c H locs nc ns Q (F0 m pc2 ls (mv_val r ba b (f a) :: s2.map (mv_val r ba b))) → W p l e R s m args below meth c H locs nc ns Q (F0 m pc ls (.int (nI a) :: s2.map (mv_val r ba b))))
    (kk : mv_Wx p l e R s m args below meth c Q D cs r ba b nL x pc2) : mv_W p l e R s m args below meth c Q D cs r ba b nL loc st h nc ns pc := by
  unfold mv_un at h1
  split at h1
  · rename_i y s2
    split at h1
    · rename_i a ha
      rw [mv_fo_eq] at h1
      have k2 := mv_go_ok h1 kk
      obtain ⟨i1, i2⟩ := mv_cI_ok hg ha
      intro H locs ls hH hS hl hn
      show W p l e R s m args below meth c H locs nc ns Q (F0 m pc ls (mv_val r ba b y :: s2.map (mv_val r ba b)))
      rw [mv_val_I i1, i2]
      exact row a s2 H locs ls (k2 H locs ls hH hS hl hn)
    · cases h1
    · cases h1
  · cases h1
theorem mv_bl_ok {f : Nat → Nat → mv_V} (h1 : mv_bl loc st h nc ns f = some (.inr x))
    (row : ∀ (a d : Nat) (s2 : List mv_V) (H : Heap) (locs : List Loc) (ls : Array Slot), W p l e R s m args below meth c H locs nc ns Q (F0 m pc2 ls (mv_val r ba b (f a d) :: s2.map (mv_val r ba b))) → W p l e R s m args below meth c H locs nc ns Q (F0 m pc ls (.long (lN d) :: .long (lN a) :: s2.map (mv_val r ba b))))
    (kk : mv_Wx p l e R s m args below meth c Q D cs r ba b nL x pc2) : mv_W p l e R s m args below meth c Q D cs r ba b nL loc st h nc ns pc := by
  unfold mv_bl at h1
  split at h1
  · rename_i y z s2
    obtain ⟨h2, h1⟩ := mv_cndn h1
    simp only [Bool.and_eq_true] at h2
    rw [mv_fo_eq] at h1
    have k2 := mv_go_ok h1 kk
    intro H locs ls hH hS hl hn
    show W p l e R s m args below meth c H locs nc ns Q (F0 m pc ls (mv_val r ba b y :: mv_val r ba b z :: s2.map (mv_val r ba b)))
    rw [mv_val_J h2.1, mv_val_J h2.2]
    exact row z.2 y.2 s2 H locs ls (k2 H locs ls hH hS hl hn)
  · cases h1
theorem mv_b4_ok {f : Nat → Nat → mv_V} (h1 : mv_b4 loc st h nc ns f = some (.inr x))
    (row : ∀ (a d : Nat) (s2 : List mv_V) (H : Heap) (locs : List Loc) (ls : Array Slot), W p l e R s m args below meth c H locs nc ns Q (F0 m pc2 ls (mv_val r ba b (f a d) :: s2.map (mv_val r ba b))) → W p l e R s m args below meth c H locs nc ns Q (F0 m pc ls (.double (UInt64.ofNat d) :: .double (UInt64.ofNat a) :: s2.map (mv_val r ba b))))
    (kk : mv_Wx p l e R s m args below meth c Q D cs r ba b nL x pc2) : mv_W p l e R s m args below meth c Q D cs r ba b nL loc st h nc ns pc := by
  unfold mv_b4 at h1
  split at h1
  · rename_i y z s2
    obtain ⟨h2, h1⟩ := mv_cndn h1
    simp only [Bool.and_eq_true] at h2
    rw [mv_fo_eq] at h1
    have k2 := mv_go_ok h1 kk
    intro H locs ls hH hS hl hn
    show W p l e R s m args below meth c H locs nc ns Q (F0 m pc ls (mv_val r ba b y :: mv_val r ba b z :: s2.map (mv_val r ba b)))
    rw [mv_val_D h2.1, mv_val_D h2.2]
    exact row z.2 y.2 s2 H locs ls (k2 H locs ls hH hS hl hn)
  · cases h1
theorem mv_br_ok {o : ClassFile.Cond} {v w : mv_V} {s2 : List mv_V} {t : Nat} (hg : mv_in g r) (h1 : mv_br g loc h nc ns o v w s2 t = some (.inr x))
    (row : mv_isI v = true → mv_isI w = true → ∀ (H : Heap) (locs : List Loc) (ls : Array Slot), (mv_hc o (mv_ii r v) (mv_ii r w) → W p l e R s m args below meth c H locs nc ns Q (F0 m t ls (s2.map (mv_val r ba b)))) → (¬ mv_hc o (mv_ii r v) (mv_ii r w) → W p l e R s m args below meth c H locs nc ns Q (F0 m pc2 ls (s2.map (mv_val r ba b)))) → W p l e R s m args below meth c H locs nc ns Q (F0 m pc ls (st.map (mv_val r ba b))))
    (kk : mv_Wx p l e R s m args below meth c Q D cs r ba b nL x pc2) : mv_W p l e R s m args below meth c Q D cs r ba b nL loc st h nc ns pc := by
  unfold mv_br at h1
  split at h1
  · rename_i hc
    obtain ⟨i1, i2, i3⟩ := mv_cm_ok hg hc
    rw [← mv_inr h1] at kk
    intro H locs ls hH hS hl hn
    exact row i1 i2 H locs ls (fun _ => kk H locs ls hH hS hl hn) (fun z => absurd (i3.mp rfl) z)
  · rename_i hc
    obtain ⟨i1, i2, i3⟩ := mv_cm_ok hg hc
    have k2 := mv_go_ok h1 kk
    intro H locs ls hH hS hl hn
    exact row i1 i2 H locs ls (fun z => by have z2 := i3.mpr z; cases z2) (fun _ => k2 H locs ls hH hS hl hn)
  · cases h1
  · cases h1
theorem mv_icr (hexec : p.tables.exec = Jvm.exec) (hb : c.code = cc) {o : ClassFile.Cond} {off : Int} {t : Nat} (hd : decode cc pc = .ok (.if_icmp o off, 3)) (ht : (pc : Int) + off = (t : Int)) {X Y : Int32} {H : Heap} {locs : List Loc} {ls : Array Slot} {rest : List Value}
    (k1 : mv_hc o X Y → W p l e R s m args below meth c H locs nc ns Q (F0 m t ls rest)) (k2 : ¬ mv_hc o X Y → W p l e R s m args below meth c H locs nc ns Q (F0 m (pc + 3) ls rest)) : W p l e R s m args below meth c H locs nc ns Q (F0 m pc ls (.int Y :: .int X :: rest)) := by
  cases o with
  | eq => exact lv_icmp_eq hexec hb hd ht k1 k2
  | ne => exact lv_icmp_ne hexec hb hd ht k1 (fun z => k2 (fun z2 => z2 z))
  | lt => exact lv_icmp_lt hexec hb hd ht k1 k2
  | ge => exact lv_icmp_ge hexec hb hd ht (fun z => k1 (Int32.not_lt.mpr z)) (fun z => k2 (fun z2 => z (Int32.not_lt.mp z2)))
  | gt => exact lv_icmp_gt hexec hb hd ht k1 k2
  | le => exact lv_icmp_le hexec hb hd ht (fun z => k1 (Int32.not_lt.mpr z)) (fun z => k2 (fun z2 => z (Int32.not_lt.mp z2)))
theorem mv_ifr (hexec : p.tables.exec = Jvm.exec) (hb : c.code = cc) {o : ClassFile.Cond} {off : Int} {t : Nat} (hd : decode cc pc = .ok (.ifCond o off, 3)) (ht : (pc : Int) + off = (t : Int)) {X : Int32} {H : Heap} {locs : List Loc} {ls : Array Slot} {rest : List Value}
    (k1 : mv_hc o X 0 → W p l e R s m args below meth c H locs nc ns Q (F0 m t ls rest)) (k2 : ¬ mv_hc o X 0 → W p l e R s m args below meth c H locs nc ns Q (F0 m (pc + 3) ls rest)) : W p l e R s m args below meth c H locs nc ns Q (F0 m pc ls (.int X :: rest)) := by
  cases o with
  | eq => exact lv_if_eq hexec hb hd ht k1 k2
  | ne => exact lv_if_ne hexec hb hd ht k1 (fun z => k2 (fun z2 => z2 z))
  | lt => exact lv_if_lt hexec hb hd ht k1 k2
  | ge => exact lv_if_ge hexec hb hd ht (fun z => k1 (Int32.not_lt.mpr z)) (fun z => k2 (fun z2 => z (Int32.not_lt.mp z2)))
  | gt => exact lv_if_gt hexec hb hd ht k1 k2
  | le => exact lv_if_le hexec hb hd ht (fun z => k1 (Int32.not_lt.mpr z)) (fun z => k2 (fun z2 => z (Int32.not_lt.mp z2)))
theorem mv_ic_ok (hexec : p.tables.exec = Jvm.exec) (hb : c.code = cc) (hg : mv_in g r) {o : ClassFile.Cond} {off : Int} {t : Nat} (hd : decode cc pc = .ok (.if_icmp o off, 3)) (ht : (pc : Int) + off = (t : Int)) (h1 : mv_ic g loc st h nc ns o t = some (.inr x))
    (kk : mv_Wx p l e R s m args below meth c Q D cs r ba b nL x (pc + 3)) : mv_W p l e R s m args below meth c Q D cs r ba b nL loc st h nc ns pc := by
  unfold mv_ic at h1
  split at h1
  · rename_i y z s2
    refine mv_br_ok (pc2 := pc + 3) hg h1 (fun i1 i2 H locs ls k1 k2 => ?_) kk
    show W p l e R s m args below meth c H locs nc ns Q (F0 m pc ls (mv_val r ba b y :: mv_val r ba b z :: s2.map (mv_val r ba b)))
    rw [mv_val_I i1, mv_val_I i2]
    exact mv_icr hexec hb hd ht k1 k2
  · cases h1
theorem mv_if_ok (hexec : p.tables.exec = Jvm.exec) (hb : c.code = cc) (hg : mv_in g r) {o : ClassFile.Cond} {off : Int} {t : Nat} (hd : decode cc pc = .ok (.ifCond o off, 3)) (ht : (pc : Int) + off = (t : Int)) (h1 : mv_if g loc st h nc ns o t = some (.inr x))
    (kk : mv_Wx p l e R s m args below meth c Q D cs r ba b nL x (pc + 3)) : mv_W p l e R s m args below meth c Q D cs r ba b nL loc st h nc ns pc := by
  unfold mv_if at h1
  split at h1
  · rename_i z s2
    refine mv_br_ok (pc2 := pc + 3) hg h1 (fun i1 i2 H locs ls k1 k2 => ?_) kk
    show W p l e R s m args below meth c H locs nc ns Q (F0 m pc ls (mv_val r ba b z :: s2.map (mv_val r ba b)))
    rw [mv_val_I i1]
    exact mv_ifr hexec hb hd ht (fun z => k1 z) (fun z => k2 z)
  · cases h1
theorem mv_inc_ok (hexec : p.tables.exec = Jvm.exec) (hb : c.code = cc) (hg : mv_in g r) {i q : Nat} {n : Int} (hd : decode cc pc = .ok (.iinc i n, 3)) (hq : Int32.ofInt n = nI q) (h1 : mv_inc g loc st h nc ns nL i q = some (.inr x))
    (kk : mv_Wx p l e R s m args below meth c Q D cs r ba b nL x (pc + 3)) : mv_W p l e R s m args below meth c Q D cs r ba b nL loc st h nc ns pc := by
  unfold mv_inc at h1
  split at h1
  · rename_i v hv
    split at h1
    · rename_i a ha
      obtain ⟨h2, h1⟩ := mv_cndn h1
      rw [mv_fo_eq, mv_fi_eq] at h1
      rw [← mv_inr h1] at kk
      obtain ⟨i1, i2⟩ := mv_cI_ok hg ha
      intro H locs ls hH hS hl hn
      obtain ⟨k, hk⟩ := mv_lk_at (r := r) (ba := ba) (b := b) hv hl
      rw [mv_val_I i1, i2] at hk
      refine lv_iinc (v := nI ((a + q) % 4294967296)) (lv' := ((i, ((0, (a + q) % 4294967296) : mv_V)) :: loc.filter (mv_d1 i)).map (mv_lv r ba b)) hexec hb hd hl hk (by rw [hq, nI_add, mv_nI_m]) (mv_blt h2) ?_ (fun ls2 hl2 => kk H locs ls2 hH hS hl2 hn)
      rw [mv_flt1]
      rfl
    · cases h1
    · cases h1
  · cases h1
/-- an array's row -/
theorem mv_ar_ok {t : Nat} {y z : mv_V} {k : Nat → List mv_V → Nat → mv_S} (hg : mv_in g r) (h1 : mv_ar g h t y z k = some (.inr x)) : ∃ (q a : Nat) (cl : List mv_V), z = (2, q) ∧ mv_isI y = true ∧ mv_ii r y = nI a ∧ h[q]? = some (t, cl) ∧ a < cl.length ∧ cl.length < 65536 ∧ k q cl a = some (.inr x) := by
  unfold mv_ar at h1
  obtain ⟨h2, h1⟩ := mv_cndn h1
  split at h1
  · rename_i a ha
    split at h1
    · rename_i d hd
      obtain ⟨h3, h4⟩ := mv_cndn h1
      simp only [Bool.and_eq_true] at h3
      obtain ⟨i1, i2⟩ := mv_cI_ok hg ha
      rw [mv_gt_eq] at hd
      obtain ⟨z1, z2⟩ := z
      obtain ⟨d1, d2⟩ := d
      cases mv_beq h2
      have e3 : d1 = t := mv_beq h3.1
      subst e3
      exact ⟨z2, a, d2, rfl, i1, i2, hd, mv_blt h3.2.1, mv_blt h3.2.2, h4⟩
    · cases h1
  · cases h1
  · cases h1
theorem mv_look {D : va_G} {cs : ClassId × ClassId × ClassId} {h : List mv_C} {H : Heap} {k t : Nat} {cl : List mv_V} (hH : mv_hok D cs r ba b h H) (hk : h[k]? = some (t, cl)) : mv_cok D cs r ba b (mv_ad ba k) (t, cl) H := hH.2 k (t, cl) hk
theorem mv_getD {α : Type} {l : List α} {a : Nat} {v d : α} (h : l[a]? = some v) : l.getD a d = v := by
  rw [List.getD_eq_getElem?_getD, h]; rfl
theorem mv_setD {α : Type} {l : List α} {a : Nat} {v d : α} (ha : a < l.length) (j : Nat) : (l.set a v).getD j d = if j = a then v else l.getD j d := by
  rw [List.getD_eq_getElem?_getD, List.getD_eq_getElem?_getD, List.getElem?_set]
  by_cases hj : a = j
  · subst hj; simp [ha]
  · rw [if_neg hj, if_neg (fun z => hj z.symm)]
theorem mv_aldi_ok (hexec : p.tables.exec = Jvm.exec) (hb : c.code = cc) (hg : mv_in g r) (hK : va_K D vwCl (mv_tys cs) s) (hd : decode cc pc = .ok (.iaload, 1)) (h1 : mv_ald g loc st h nc ns 0 mv_isI = some (.inr x))
    (kk : mv_Wx p l e R s m args below meth c Q D cs r ba b nL x (pc + 1)) : mv_W p l e R s m args below meth c Q D cs r ba b nL loc st h nc ns pc := by
  unfold mv_ald at h1
  split at h1
  · rename_i y z s2
    obtain ⟨q, a, cl, rfl, i1, i2, hq, ha, hlen, h2⟩ := mv_ar_ok hg h1
    split at h2
    · rename_i v hv
      obtain ⟨h3, h4⟩ := mv_cndn h2
      have k2 := mv_go_ok h4 kk
      rw [mv_gt_eq] at hv
      intro H locs ls hH hS hl hn
      have hc : H[mv_ad ba q]? = some (arrV cs.1 cl.length (fun j => .int (mv_ii r (cl.getD j (0, 0))))) := mv_look hH hq
      have hK0 := hK.2 0 _ (show (mv_tys cs)[0]? = some (cs.1, .int) from rfl)
      show W p l e R s m args below meth c H locs nc ns Q (F0 m pc ls (mv_val r ba b y :: .ref (mv_ad ba q) :: s2.map (mv_val r ba b)))
      rw [mv_val_I i1, i2]
      have hcl : (nI a).toNatClampNeg = a := nI_clamp (by omega)
      refine W.iald (v := mv_val r ba b v) hexec hb hc (hK0.1 _ _) (fun q => by cases q) (by rw [arrV_size]; exact nI_in ha (by omega)) ?_ rfl rfl hd (k2 H locs ls hH hS hl hn)
      rw [hcl, arrV_read _ _ ha, mv_getD hv, mv_val_I h3]
    · cases h2
  · cases h1
theorem mv_aldl_ok (hexec : p.tables.exec = Jvm.exec) (hb : c.code = cc) (hg : mv_in g r) (hK : va_K D vwCl (mv_tys cs) s) (hd : decode cc pc = .ok (.laload, 1)) (h1 : mv_ald g loc st h nc ns 1 mv_isJ = some (.inr x))
    (kk : mv_Wx p l e R s m args below meth c Q D cs r ba b nL x (pc + 1)) : mv_W p l e R s m args below meth c Q D cs r ba b nL loc st h nc ns pc := by
  unfold mv_ald at h1
  split at h1
  · rename_i y z s2
    obtain ⟨q, a, cl, rfl, i1, i2, hq, ha, hlen, h2⟩ := mv_ar_ok hg h1
    split at h2
    · rename_i v hv
      obtain ⟨h3, h4⟩ := mv_cndn h2
      have k2 := mv_go_ok h4 kk
      rw [mv_gt_eq] at hv
      intro H locs ls hH hS hl hn
      have hc : H[mv_ad ba q]? = some (arrV cs.2.1 cl.length (fun j => .long (lN (cl.getD j (3, 0)).2))) := mv_look hH hq
      have hK0 := hK.2 1 _ (show (mv_tys cs)[1]? = some (cs.2.1, .long) from rfl)
      show W p l e R s m args below meth c H locs nc ns Q (F0 m pc ls (mv_val r ba b y :: .ref (mv_ad ba q) :: s2.map (mv_val r ba b)))
      rw [mv_val_I i1, i2]
      have hcl : (nI a).toNatClampNeg = a := nI_clamp (by omega)
      refine W.lald (v := mv_val r ba b v) hexec hb hc (hK0.1 _ _) (fun q => by cases q) (by rw [arrV_size]; exact nI_in ha (by omega)) ?_ rfl rfl hd (k2 H locs ls hH hS hl hn)
      rw [hcl, arrV_read _ _ ha, mv_getD hv, mv_val_J h3]
    · cases h2
  · cases h1
theorem mv_aldz_ok (hexec : p.tables.exec = Jvm.exec) (hb : c.code = cc) (hg : mv_in g r) (hK : va_K D vwCl (mv_tys cs) s) (hd : decode cc pc = .ok (.baload, 1)) (h1 : mv_ald g loc st h nc ns 2 mv_isI = some (.inr x))
    (kk : mv_Wx p l e R s m args below meth c Q D cs r ba b nL x (pc + 1)) : mv_W p l e R s m args below meth c Q D cs r ba b nL loc st h nc ns pc := by
  unfold mv_ald at h1
  split at h1
  · rename_i y z s2
    obtain ⟨q, a, cl, rfl, i1, i2, hq, ha, hlen, h2⟩ := mv_ar_ok hg h1
    split at h2
    · rename_i v hv
      obtain ⟨h3, h4⟩ := mv_cndn h2
      have k2 := mv_go_ok h4 kk
      rw [mv_gt_eq] at hv
      intro H locs ls hH hS hl hn
      have hc : H[mv_ad ba q]? = some (arrV cs.2.2 cl.length (fun j => .int (mv_ii r (cl.getD j (0, 0))))) := mv_look hH hq
      have hK0 := hK.2 2 _ (show (mv_tys cs)[2]? = some (cs.2.2, .boolean) from rfl)
      show W p l e R s m args below meth c H locs nc ns Q (F0 m pc ls (mv_val r ba b y :: .ref (mv_ad ba q) :: s2.map (mv_val r ba b)))
      rw [mv_val_I i1, i2]
      have hcl : (nI a).toNatClampNeg = a := nI_clamp (by omega)
      refine W.zald (v := mv_val r ba b v) hexec hb hc (hK0.1 _ _) (fun q => by cases q) (by rw [arrV_size]; exact nI_in ha (by omega)) ?_ rfl rfl hd (k2 H locs ls hH hS hl hn)
      rw [hcl, arrV_read _ _ ha, mv_getD hv, mv_val_I h3]
    · cases h2
  · cases h1
theorem mv_asti_ok (hexec : p.tables.exec = Jvm.exec) (hb : c.code = cc) (hg : mv_in g r) (hK : va_K D vwCl (mv_tys cs) s) (hd : decode cc pc = .ok (.iastore, 1)) (h1 : mv_ast g loc st h nc ns 0 mv_isI = some (.inr x))
    (kk : mv_Wx p l e R s m args below meth c Q D cs r ba b nL x (pc + 1)) : mv_W p l e R s m args below meth c Q D cs r ba b nL loc st h nc ns pc := by
  unfold mv_ast at h1
  split at h1
  · rename_i v y z s2
    obtain ⟨hv, h1⟩ := mv_cndn h1
    obtain ⟨q, a, cl, rfl, i1, i2, hq, ha, hlen, h2⟩ := mv_ar_ok hg h1
    rw [mv_ls_eq, mv_ls_eq] at h2
    have k2 := mv_go_ok h2 kk
    intro H locs ls hH hS hl hn
    have hc : H[mv_ad ba q]? = some (arrV cs.1 cl.length (fun j => .int (mv_ii r (cl.getD j (0, 0))))) := mv_look hH hq
    have hK0 := hK.2 0 _ (show (mv_tys cs)[0]? = some (cs.1, .int) from rfl)
    show W p l e R s m args below meth c H locs nc ns Q (F0 m pc ls (mv_val r ba b v :: mv_val r ba b y :: .ref (mv_ad ba q) :: s2.map (mv_val r ba b)))
    rw [mv_val_I i1, i2, mv_val_I hv]
    have hcl : (nI a).toNatClampNeg = a := nI_clamp (by omega)
    refine W.iast hexec hb hc (hK0.1 _ _) (fun q => by cases q) (by rw [arrV_size]; exact nI_in ha (by omega)) rfl rfl hd (fun H1 e1 e2 e3 => ?_)
    refine k2 H1 _ ls (hH.set e2 e3 ?_) (hS.put e2 e3 (mv_ad_le _ _)) hl (by rw [e2]; exact hn)
    show H1[mv_ad ba q]? = some (arrV cs.1 (cl.set a v).length (fun j => .int (mv_ii r ((cl.set a v).getD j (0, 0)))))
    rw [e1, hcl, arrV_store, List.length_set]
    congr 2
    funext j
    rw [mv_setD ha]
    unfold updV
    by_cases hj : j = a
    · rw [if_pos hj, if_pos hj]
    · rw [if_neg hj, if_neg hj]
  · cases h1
theorem mv_astl_ok (hexec : p.tables.exec = Jvm.exec) (hb : c.code = cc) (hg : mv_in g r) (hK : va_K D vwCl (mv_tys cs) s) (hd : decode cc pc = .ok (.lastore, 1)) (h1 : mv_ast g loc st h nc ns 1 mv_isJ = some (.inr x))
    (kk : mv_Wx p l e R s m args below meth c Q D cs r ba b nL x (pc + 1)) : mv_W p l e R s m args below meth c Q D cs r ba b nL loc st h nc ns pc := by
  unfold mv_ast at h1
  split at h1
  · rename_i v y z s2
    obtain ⟨hv, h1⟩ := mv_cndn h1
    obtain ⟨q, a, cl, rfl, i1, i2, hq, ha, hlen, h2⟩ := mv_ar_ok hg h1
    rw [mv_ls_eq, mv_ls_eq] at h2
    have k2 := mv_go_ok h2 kk
    intro H locs ls hH hS hl hn
    have hc : H[mv_ad ba q]? = some (arrV cs.2.1 cl.length (fun j => .long (lN (cl.getD j (3, 0)).2))) := mv_look hH hq
    have hK0 := hK.2 1 _ (show (mv_tys cs)[1]? = some (cs.2.1, .long) from rfl)
    show W p l e R s m args below meth c H locs nc ns Q (F0 m pc ls (mv_val r ba b v :: mv_val r ba b y :: .ref (mv_ad ba q) :: s2.map (mv_val r ba b)))
    rw [mv_val_I i1, i2, mv_val_J hv]
    have hcl : (nI a).toNatClampNeg = a := nI_clamp (by omega)
    refine W.last hexec hb hc (hK0.1 _ _) (fun q => by cases q) (by rw [arrV_size]; exact nI_in ha (by omega)) rfl rfl hd (fun H1 e1 e2 e3 => ?_)
    refine k2 H1 _ ls (hH.set e2 e3 ?_) (hS.put e2 e3 (mv_ad_le _ _)) hl (by rw [e2]; exact hn)
    show H1[mv_ad ba q]? = some (arrV cs.2.1 (cl.set a v).length (fun j => .long (lN ((cl.set a v).getD j (3, 0)).2)))
    rw [e1, hcl, arrV_store, List.length_set]
    congr 2
    funext j
    rw [mv_setD ha]
    unfold updV
    by_cases hj : j = a
    · rw [if_pos hj, if_pos hj]
    · rw [if_neg hj, if_neg hj]
  · cases h1
theorem mv_zst_ok (hexec : p.tables.exec = Jvm.exec) (hb : c.code = cc) (hg : mv_in g r) (hK : va_K D vwCl (mv_tys cs) s) (hd : decode cc pc = .ok (.bastore, 1)) (h1 : mv_zst g loc st h nc ns = some (.inr x))
    (kk : mv_Wx p l e R s m args below meth c Q D cs r ba b nL x (pc + 1)) : mv_W p l e R s m args below meth c Q D cs r ba b nL loc st h nc ns pc := by
  unfold mv_zst at h1
  split at h1
  · rename_i v y z s2
    split at h1
    · rename_i w hw
      obtain ⟨hw2, h1⟩ := mv_cndn h1
      have hw2 := mv_blt hw2
      obtain ⟨j1, j2⟩ := mv_cI_ok hg hw
      obtain ⟨q, a, cl, rfl, i1, i2, hq, ha, hlen, h2⟩ := mv_ar_ok hg h1
      rw [mv_ls_eq, mv_ls_eq] at h2
      have k2 := mv_go_ok h2 kk
      intro H locs ls hH hS hl hn
      have hc : H[mv_ad ba q]? = some (arrV cs.2.2 cl.length (fun j => .int (mv_ii r (cl.getD j (0, 0))))) := mv_look hH hq
      have hK0 := hK.2 2 _ (show (mv_tys cs)[2]? = some (cs.2.2, .boolean) from rfl)
      show W p l e R s m args below meth c H locs nc ns Q (F0 m pc ls (mv_val r ba b v :: mv_val r ba b y :: .ref (mv_ad ba q) :: s2.map (mv_val r ba b)))
      rw [mv_val_I i1, i2, mv_val_I j1, j2]
      have hcl : (nI a).toNatClampNeg = a := nI_clamp (by omega)
      refine W.zast hexec hb hc (hK0.1 _ _) (fun q => by cases q) (by rw [arrV_size]; exact nI_in ha (by omega)) rfl rfl hd (fun H1 e1 e2 e3 => ?_)
      refine k2 H1 _ ls (hH.set e2 e3 ?_) (hS.put e2 e3 (mv_ad_le _ _)) hl (by rw [e2]; exact hn)
      show H1[mv_ad ba q]? = some (arrV cs.2.2 (cl.set a (0, w)).length (fun j => .int (mv_ii r ((cl.set a (0, w)).getD j (0, 0)))))
      have hnar : narrow .boolean (.int (nI w)) = .int (nI w) := by
        rcases (show w = 0 ∨ w = 1 by omega) with rfl | rfl <;> decide +kernel
      rw [e1, hcl, hnar, arrV_store, List.length_set]
      congr 2
      funext j
      rw [mv_setD ha]
      unfold updV
      by_cases hj : j = a
      · rw [if_pos hj, if_pos hj]; rfl
      · rw [if_neg hj, if_neg hj]
    · cases h1
    · cases h1
  · cases h1
end MVT
end
section
/-! ===== fields, new things, and the other handlers ===== -/
def mv_dvs : List (List mv_V) := [[(1, 0), (1, 0), (1, 0), (1, 0), (1, 0), (1, 0), (0, 0), (0, 0), (0, 0)],
  [(1, 0), (1, 0), (1, 0), (1, 0), (1, 0), (0, 0)],
  [(1, 0), (1, 0), (1, 0), (1, 0), (1, 0), (1, 0), (1, 0), (1, 0), (1, 0), (0, 0)],
  [(1, 0), (1, 0), (1, 0), (1, 0), (1, 0), (1, 0), (1, 0), (1, 0), (0, 0), (0, 0)],
  [(1, 0), (1, 0)],
  [(1, 0), (1, 0), (1, 0), (1, 0), (1, 0), (1, 0), (1, 0), (1, 0), (1, 0), (1, 0), (1, 0), (1, 0), (1, 0), (1, 0), (1, 0), (1, 0)],
  [(1, 0), (1, 0), (1, 0), (1, 0), (1, 0), (1, 0), (0, 0), (0, 0)],
  [(1, 0), (1, 0), (1, 0), (1, 0), (1, 0), (1, 0), (1, 0)],
  [(0, 0), (0, 0), (1, 0), (1, 0), (1, 0), (1, 0), (1, 0), (1, 0), (1, 0), (0, 0), (0, 0), (1, 0), (1, 0), (1, 0), (1, 0), (1, 0), (0, 0), (1, 0), (1, 0), (1, 0), (1, 0), (1, 0), (1, 0), (1, 0), (0, 0), (1, 0), (0, 0), (0, 0)]]
noncomputable def mv_dv (ci : Nat) : List mv_V := (mv_gt mv_dvs ci).getD []
theorem mv_uw0 : ∀ w ∈ u_ws RX0 TX0 9, w ∈ mv_big := by decide +kernel
theorem mv_uw1 : ∀ w ∈ u_ws RX1 TX1 6, w ∈ mv_big := by decide +kernel
theorem mv_uw2 : ∀ w ∈ u_ws RX2 TX2 10, w ∈ mv_big := by decide +kernel
theorem mv_uw3 : ∀ w ∈ u_ws RX3 TX3 10, w ∈ mv_big := by decide +kernel
theorem mv_uw4 : ∀ w ∈ u_ws RX4 TX4 2, w ∈ mv_big := by decide +kernel
theorem mv_uw5 : ∀ w ∈ u_ws RX5 TX5 16, w ∈ mv_big := by decide +kernel
theorem mv_uw6 : ∀ w ∈ u_ws RX6 TX6 8, w ∈ mv_big := by decide +kernel
theorem mv_uw7 : ∀ w ∈ u_ws RX7 TX7 7, w ∈ mv_big := by decide +kernel
theorem mv_uw8 : ∀ w ∈ u_ws RX8 TX8 28, w ∈ mv_big := by decide +kernel
/-- what is known of a class by its number -/
def mv_clf (r : Nat → Int32) (ba : mv_A) (b ci : Nat) (q : vw_C) : Prop := (∀ w ∈ u_ws q.1 q.2.1 q.2.2, w ∈ mv_big) ∧ (∀ a, a < q.2.2 → ∀ b, b < q.2.2 → a ≠ b → (q.2.1 a).2.1 ≠ (q.2.1 b).2.1) ∧
  ∃ ty : Nat → FieldType, (∀ k, k < q.2.2 → parseFieldDescriptor (q.2.1 k).2.2.1 = some (ty k)) ∧ (∀ j, j < q.2.2 → defaultValue (ty j) = vp_V ((mv_dv ci).map (mv_val r ba b)) j) ∧ (mv_dv ci).length = q.2.2
theorem mv_lt_cases {P : Nat → Prop} : ∀ (n : Nat), (∀ j, j < n → P j) ↔ (n = 0 ∨ ((∀ j, j < n - 1 → P j) ∧ P (n - 1)))
  | 0 => by simp
  | n + 1 => by
    constructor
    · intro h
      exact Or.inr ⟨fun j hj => h j (by omega), h n (by omega)⟩
    · rintro (h | ⟨h1, h2⟩) j hj
      · omega
      · rcases Nat.lt_or_ge j n with q | q
        · exact h1 j q
        · have : j = n := by omega
          subst this
          exact h2
theorem mv_cls (r : Nat → Int32) (ba : mv_A) (b ci : Nat) (q : vw_C) (h : vwCl[ci]? = some q) : mv_clf r ba b ci q := by
  match ci, h with
  | 0, h =>
    cases h
    refine ⟨mv_uw0, nmX0, tyX0, tyX0_ok, fun j hj => ?_, rfl⟩
    match j, hj with
    | 0, _ => rfl
    | 1, _ => rfl
    | 2, _ => rfl
    | 3, _ => rfl
    | 4, _ => rfl
    | 5, _ => rfl
    | 6, _ => rfl
    | 7, _ => rfl
    | 8, _ => rfl
    | j + 9, hj => exact absurd hj (by show ¬ j + 9 < 9; omega)
  | 1, h =>
    cases h
    refine ⟨mv_uw1, nmX1, tyX1, tyX1_ok, fun j hj => ?_, rfl⟩
    match j, hj with
    | 0, _ => rfl
    | 1, _ => rfl
    | 2, _ => rfl
    | 3, _ => rfl
    | 4, _ => rfl
    | 5, _ => rfl
    | j + 6, hj => exact absurd hj (by show ¬ j + 6 < 6; omega)
  | 2, h =>
    cases h
    refine ⟨mv_uw2, nmX2, tyX2, tyX2_ok, fun j hj => ?_, rfl⟩
    match j, hj with
    | 0, _ => rfl
    | 1, _ => rfl
    | 2, _ => rfl
    | 3, _ => rfl
    | 4, _ => rfl
    | 5, _ => rfl
    | 6, _ => rfl
    | 7, _ => rfl
    | 8, _ => rfl
    | 9, _ => rfl
    | j + 10, hj => exact absurd hj (by show ¬ j + 10 < 10; omega)
  | 3, h =>
    cases h
    refine ⟨mv_uw3, nmX3, tyX3, tyX3_ok, fun j hj => ?_, rfl⟩
    match j, hj with
    | 0, _ => rfl
    | 1, _ => rfl
    | 2, _ => rfl
    | 3, _ => rfl
    | 4, _ => rfl
    | 5, _ => rfl
    | 6, _ => rfl
    | 7, _ => rfl
    | 8, _ => rfl
    | 9, _ => rfl
    | j + 10, hj => exact absurd hj (by show ¬ j + 10 < 10; omega)
  | 4, h =>
    cases h
    refine ⟨mv_uw4, nmX4, tyX4, tyX4_ok, fun j hj => ?_, rfl⟩
    match j, hj with
    | 0, _ => rfl
    | 1, _ => rfl
    | j + 2, hj => exact absurd hj (by show ¬ j + 2 < 2; omega)
  | 5, h =>
    cases h
    refine ⟨mv_uw5, nmX5, tyX5, tyX5_ok, fun j hj => ?_, rfl⟩
    match j, hj with
    | 0, _ => rfl
    | 1, _ => rfl
    | 2, _ => rfl
    | 3, _ => rfl
    | 4, _ => rfl
    | 5, _ => rfl
    | 6, _ => rfl
    | 7, _ => rfl
    | 8, _ => rfl
    | 9, _ => rfl
    | 10, _ => rfl
    | 11, _ => rfl
    | 12, _ => rfl
    | 13, _ => rfl
    | 14, _ => rfl
    | 15, _ => rfl
    | j + 16, hj => exact absurd hj (by show ¬ j + 16 < 16; omega)
  | 6, h =>
    cases h
    refine ⟨mv_uw6, nmX6, tyX6, tyX6_ok, fun j hj => ?_, rfl⟩
    match j, hj with
    | 0, _ => rfl
    | 1, _ => rfl
    | 2, _ => rfl
    | 3, _ => rfl
    | 4, _ => rfl
    | 5, _ => rfl
    | 6, _ => rfl
    | 7, _ => rfl
    | j + 8, hj => exact absurd hj (by show ¬ j + 8 < 8; omega)
  | 7, h =>
    cases h
    refine ⟨mv_uw7, nmX7, tyX7, tyX7_ok, fun j hj => ?_, rfl⟩
    match j, hj with
    | 0, _ => rfl
    | 1, _ => rfl
    | 2, _ => rfl
    | 3, _ => rfl
    | 4, _ => rfl
    | 5, _ => rfl
    | 6, _ => rfl
    | j + 7, hj => exact absurd hj (by show ¬ j + 7 < 7; omega)
  | 8, h =>
    cases h
    refine ⟨mv_uw8, nmX8, tyX8, tyX8_ok, fun j hj => ?_, rfl⟩
    match j, hj with
    | 0, _ => rfl
    | 1, _ => rfl
    | 2, _ => rfl
    | 3, _ => rfl
    | 4, _ => rfl
    | 5, _ => rfl
    | 6, _ => rfl
    | 7, _ => rfl
    | 8, _ => rfl
    | 9, _ => rfl
    | 10, _ => rfl
    | 11, _ => rfl
    | 12, _ => rfl
    | 13, _ => rfl
    | 14, _ => rfl
    | 15, _ => rfl
    | 16, _ => rfl
    | 17, _ => rfl
    | 18, _ => rfl
    | 19, _ => rfl
    | 20, _ => rfl
    | 21, _ => rfl
    | 22, _ => rfl
    | 23, _ => rfl
    | 24, _ => rfl
    | 25, _ => rfl
    | 26, _ => rfl
    | 27, _ => rfl
    | j + 28, hj => exact absurd hj (by show ¬ j + 28 < 28; omega)
  | ci + 9, h => exact absurd h (by simp [vwCl])
end
section
/-! ===== fields, arrays made, objects made, and what is left of the steps ===== -/
section MVU
variable {p : Program} {l : Launch} {e : Env} {R : Room} {s : State} {m : MethodId} {args : Array Value} {below : List Frame} {meth : Method} {c : Code} {Q : State → Prop}
variable {D : va_G} {cs : ClassId × ClassId × ClassId} {r : Nat → Int32} {ba : mv_A} {b nL : Nat} {g : mv_B} {loc : mv_L} {st : List mv_V} {h : List mv_C} {nc ns : Nat} {x : Option Nat × mv_L × List mv_V × List mv_C × Nat × Nat} {cc : ByteArray} {pc pc2 : Nat}
theorem mv_len_ok (hexec : p.tables.exec = Jvm.exec) (hb : c.code = cc) (hK : va_K D vwCl (mv_tys cs) s) (hd : decode cc pc = .ok (.arraylength, 1)) (h1 : mv_len loc st h nc ns = some (.inr x))
    (kk : mv_Wx p l e R s m args below meth c Q D cs r ba b nL x (pc + 1)) : mv_W p l e R s m args below meth c Q D cs r ba b nL loc st h nc ns pc := by
  unfold mv_len at h1
  split at h1
  · rename_i z s2
    obtain ⟨z1, z2⟩ := z
    obtain ⟨h2, h1⟩ := mv_cndn h1
    cases mv_beq h2
    split at h1
    · rename_i d hd2
      obtain ⟨h3, h4⟩ := mv_cndn h1
      rw [mv_fo_eq] at h4
      have k2 := mv_go_ok h4 kk
      rw [mv_gt_eq] at hd2
      have h3 := mv_blt h3
      intro H locs ls hH hS hl hn
      have hc := hH.2 _ _ hd2
      obtain ⟨d1, d2⟩ := d
      show W p l e R s m args below meth c H locs nc ns Q (F0 m pc ls (.ref (mv_ad ba z2) :: s2.map (mv_val r ba b)))
      match d1, h3, hc with
      | 0, _, hc =>
        exact W.alen (n := nI d2.length) hexec hb (show H[mv_ad ba z2]? = some (arrV cs.1 d2.length (fun j => .int (mv_ii r (d2.getD j (0, 0))))) from hc) ((hK.2 0 _ (show (mv_tys cs)[0]? = some (cs.1, .int) from rfl)).1 _ _) (by rw [arrV_size]; rfl) rfl rfl hd (k2 H locs ls hH hS hl hn)
      | 1, _, hc =>
        exact W.alen (n := nI d2.length) hexec hb (show H[mv_ad ba z2]? = some (arrV cs.2.1 d2.length (fun j => .long (lN (d2.getD j (3, 0)).2))) from hc) ((hK.2 1 _ (show (mv_tys cs)[1]? = some (cs.2.1, .long) from rfl)).1 _ _) (by rw [arrV_size]; rfl) rfl rfl hd (k2 H locs ls hH hS hl hn)
      | 2, _, hc =>
        exact W.alen (n := nI d2.length) hexec hb (show H[mv_ad ba z2]? = some (arrV cs.2.2 d2.length (fun j => .int (mv_ii r (d2.getD j (0, 0))))) from hc) ((hK.2 2 _ (show (mv_tys cs)[2]? = some (cs.2.2, .boolean) from rfl)).1 _ _) (by rw [arrV_size]; rfl) rfl rfl hd (k2 H locs ls hH hS hl hn)
      | n + 3, h3, _ => omega
    · cases h1
  · cases h1
theorem mv_gf_ok (hexec : p.tables.exec = Jvm.exec) (hb : c.code = cc) (hts : ∀ w ∈ mv_big, w.before args s = true) {own C : String} {T : u_T} {N ci k index : Nat} (hown : s.vm.findClass own = some m.cls) (hK : va_K D vwCl (mv_tys cs) s) (hc : vwCl[ci]? = some (C, T, N)) (hk : k < N) (hw : Cond.fieldLink own index (T k).1 (T k).2.1 (T k).2.2.1 ∈ mv_big) (hd : decode cc pc = .ok (.getfield index, 3)) (h1 : mv_gf loc st h nc ns ci k = some (.inr x))
    (kk : mv_Wx p l e R s m args below meth c Q D cs r ba b nL x (pc + 3)) : mv_W p l e R s m args below meth c Q D cs r ba b nL loc st h nc ns pc := by
  unfold mv_gf at h1
  split at h1
  · rename_i z s2
    obtain ⟨z1, z2⟩ := z
    obtain ⟨h2, h1⟩ := mv_cndn h1
    cases mv_beq h2
    split at h1
    · rename_i d hd2
      obtain ⟨h3, h4⟩ := mv_cndn h1
      rw [mv_gt_eq] at hd2
      split at h4
      · rename_i v hv
        have k2 := mv_go_ok h4 kk
        rw [mv_gt_eq] at hv
        intro H locs ls hH hS hl hn
        have hcc := hH.2 _ _ hd2
        obtain ⟨d1, d2⟩ := d
        have e3 : d1 = ci + 4 := mv_beq h3
        subst e3
        obtain ⟨q, q1, q2⟩ : ∃ q : vw_C, vwCl[ci]? = some q ∧ t_OB (mv_ad ba z2) (D.1 ci) q.2.2 (D.2 ci) H (vp_V (d2.map (mv_val r ba b))) := hcc
        show W p l e R s m args below meth c H locs nc ns Q (F0 m pc ls (.ref (mv_ad ba z2) :: s2.map (mv_val r ba b)))
        refine va_get (ws := [(mv_ad ba z2, .inr (ci, d2.map (mv_val r ba b)))]) hexec hb hts (mv_cls r ba b ci _ hc).1 hown hK (fun j y hy => ?_) 0 rfl hc k hk (hts _ hw) (fun _ z => z) (v := mv_val r ba b v) (by rw [List.getElem?_map, hv]; rfl) hd (k2 H locs ls hH hS hl hn)
        have hz : j < 1 := (List.getElem?_eq_some_iff.mp hy).1
        rw [show j = 0 by omega] at hy
        cases hy
        exact ⟨q, q1, q2⟩
      · cases h4
    · cases h1
  · cases h1
/-- a field written: what it holds then, all else as it was -/
theorem mv_put0 (hexec : p.tables.exec = Jvm.exec) (hb : c.code = cc) (hts : ∀ w ∈ mv_big, w.before args s = true) {own C : String} {T : u_T} {N ci k index a : Nat} {fs : List Value} {v : Value} {ty : FieldType} {H : Heap} {locs : List Loc} {ls : Array Slot} {rest : List Value} (hown : s.vm.findClass own = some m.cls) (hK : va_K D vwCl (mv_tys cs) s) (hc : vwCl[ci]? = some (C, T, N)) (hk : k < N)
    (hw : Cond.fieldLink own index (T k).1 (T k).2.1 (T k).2.2.1 ∈ mv_big) (hd : decode cc pc = .ok (.putfield index, 3)) (hfin : (T k).2.2.2 = false ∨ ((T k).2.2.2 = true ∧ meth.name = "<init>" ∧ (T k).1 = own)) (hty : parseFieldDescriptor (T k).2.2.1 = some ty) (hn : narrow ty v = v) (hfit : fits ty v = true) (hl : k < fs.length) (hob : t_OB a (D.1 ci) N (D.2 ci) H (vp_V fs))
    (kk : ∀ (H1 : Heap) (locs1 : List Loc), t_OB a (D.1 ci) N (D.2 ci) H1 (vp_V (fs.set k v)) → H1.size = H.size → (∀ q : Nat, q ≠ a → H1[q]? = H[q]?) → (∀ z ∈ locs1, z ∈ locs ∨ z.base = a) → W p l e R s m args below meth c H1 locs1 nc ns Q (F0 m (pc + 3) ls rest)) : W p l e R s m args below meth c H locs nc ns Q (F0 m pc ls (v :: .ref a :: rest)) := by
  obtain ⟨hin, hnm, ty0, hty0, -, -⟩ := mv_cls (fun _ => 0) (0, 0, 0) 0 ci _ hc
  have hap := va_apart (own := own) hts hin ty0 hty0 hnm hK hc
  obtain ⟨cell, q1, q2, q3, q4⟩ := hob
  obtain ⟨hS, hfc, kC, hkC, hkind⟩ := hK.1 ci _ hc
  obtain ⟨cf, kf, fi, f, hi, hsl⟩ := hS k hk
  have hlay := hts _ (hin _ (u_in_lay hk))
  have hst := (u_facts hfc hkC (u_lays hts hin hk) hi).1
  have hend : ∀ (H1 : Heap), H1[a]? = some (cell.setSlot ((D.2 ci) k) v) → t_OB a (D.1 ci) N (D.2 ci) H1 (vp_V (fs.set k v)) := fun H1 e1 =>
    t_OB.to (V := updV (vp_V fs) k v) ⟨_, e1, q2, q3, t_set q4 hap hk v⟩ (fun j _ => vp_updV_set hl v j)
  have hlo : ∀ z ∈ locs ++ [(⟨a, (D.2 ci) k⟩ : Loc)], z ∈ locs ∨ z.base = a := fun z hz => by
    rcases List.mem_append.mp hz with h1 | h1
    · exact Or.inl h1
    · rw [List.mem_singleton.mp h1]; exact Or.inr rfl
  rcases hfin with hfin | ⟨hfin, hname, hdecl⟩
  · unfold u_lay at hlay
    rw [if_neg (by show ¬ (T k).2.2.2 = true; rw [hfin]; decide)] at hlay
    have h6 := u_store hfc hkC hkind hlay hi hty hn hfit
    refine W.putK hexec hb (f := f) ⟨hown, hts _ hw, ⟨_, _, _, hi⟩, hst⟩ (by rw [q2]; exact h6) q1 q3 (by rw [hsl]; exact k2_hasslot (q4 k hk)) rfl rfl hd fun H' e1 e2 e3 => ?_
    rw [hsl] at e1 ⊢
    exact kk H' _ (hend H' e1) e2 e3 hlo
  · unfold u_lay at hlay
    rw [if_pos hfin] at hlay
    have hcf : m.cls = cf := by
      obtain ⟨_, _, c', _, _, _, -, -, hf', -, -, -, hown2, -⟩ := Cond.laysFinal_spec hlay
      have e1 : c' = cf := by have := hi.symm.trans hf'; simp at this; exact this.1.symm
      rw [hdecl] at hown2
      rw [← e1]; exact Option.some.inj (hown.symm.trans hown2)
    have h6 := u_fits hfc hkC hkind (Or.inr hlay) hi hty hn hfit
    refine W.putFinK hexec hb hown (hts _ hw) hi hst hcf hname (by rw [q2]; exact h6) q1 q3 (by rw [hsl]; exact k2_hasslot (q4 k hk)) rfl rfl hd fun H' e1 e2 e3 => ?_
    rw [hsl] at e1 ⊢
    exact kk H' _ (hend H' e1) e2 e3 hlo
/-- which kind of field a descriptor tells -/
def mv_ft (t : Nat) (ty : FieldType) : Bool := match ty with
  | .int => Nat.beq t 0
  | .boolean => Nat.beq t 1
  | .object _ => Nat.beq t 2
  | .array _ => Nat.beq t 2
  | _ => false
theorem mv_fits_ok {t : Nat} {ty : FieldType} {v : mv_V} (h1 : mv_ft t ty = true) (h2 : mv_fits t v = true) : narrow ty (mv_val r ba b v) = mv_val r ba b v ∧ fits ty (mv_val r ba b v) = true := by
  have ref : mv_fits 2 v = true → ∀ ty2 : FieldType, (∃ n, ty2 = .object n) ∨ (∃ q, ty2 = .array q) → narrow ty2 (mv_val r ba b v) = mv_val r ba b v ∧ fits ty2 (mv_val r ba b v) = true := by
    intro h2 ty2 hty2
    obtain ⟨v1, v2⟩ := v
    have h2 : (bif Nat.beq v1 1 then true else Nat.beq v1 2) = true := h2
    rcases mv_cnd h2 with ⟨h3, -⟩ | ⟨-, h3⟩
    · cases mv_beq h3
      rcases hty2 with ⟨n, rfl⟩ | ⟨q, rfl⟩ <;> exact ⟨rfl, rfl⟩
    · cases mv_beq h3
      rcases hty2 with ⟨n, rfl⟩ | ⟨q, rfl⟩ <;> exact ⟨rfl, rfl⟩
  cases ty with
  | int =>
    have e : t = 0 := mv_beq h1
    subst e
    have h2 : mv_isI v = true := h2
    rw [mv_val_I h2]
    exact ⟨rfl, rfl⟩
  | boolean =>
    have e : t = 1 := mv_beq h1
    subst e
    obtain ⟨v1, v2⟩ := v
    have h2 : (Nat.beq v1 0 && Nat.blt v2 2) = true := h2
    simp only [Bool.and_eq_true] at h2
    cases mv_beq h2.1
    have h3 := mv_blt h2.2
    show narrow .boolean (.int (nI v2)) = .int (nI v2) ∧ fits .boolean (.int (nI v2)) = true
    rcases (show v2 = 0 ∨ v2 = 1 by omega) with rfl | rfl <;> decide +kernel
  | object n =>
    have e : t = 2 := mv_beq h1
    subst e
    exact ref h2 _ (Or.inl ⟨_, rfl⟩)
  | array q =>
    have e : t = 2 := mv_beq h1
    subst e
    exact ref h2 _ (Or.inr ⟨_, rfl⟩)
  | _ => cases h1
theorem mv_pf_ok (hexec : p.tables.exec = Jvm.exec) (hb : c.code = cc) (hts : ∀ w ∈ mv_big, w.before args s = true) {own C : String} {T : u_T} {N ci k t index : Nat} {ty : FieldType} (hown : s.vm.findClass own = some m.cls) (hK : va_K D vwCl (mv_tys cs) s) (hc : vwCl[ci]? = some (C, T, N)) (hk : k < N) (hw : Cond.fieldLink own index (T k).1 (T k).2.1 (T k).2.2.1 ∈ mv_big) (hd : decode cc pc = .ok (.putfield index, 3))
    (hfin : (T k).2.2.2 = false ∨ ((T k).2.2.2 = true ∧ meth.name = "<init>" ∧ (T k).1 = own)) (hty : parseFieldDescriptor (T k).2.2.1 = some ty) (hft : mv_ft t ty = true) (h1 : mv_pf loc st h nc ns ci k t = some (.inr x))
    (kk : mv_Wx p l e R s m args below meth c Q D cs r ba b nL x (pc + 3)) : mv_W p l e R s m args below meth c Q D cs r ba b nL loc st h nc ns pc := by
  unfold mv_pf at h1
  split at h1
  · rename_i v z s2
    obtain ⟨z1, z2⟩ := z
    obtain ⟨h2, h1⟩ := mv_cndn h1
    simp only [Bool.and_eq_true] at h2
    cases mv_beq h2.1
    split at h1
    · rename_i d hd2
      obtain ⟨h3, h4⟩ := mv_cndn h1
      simp only [Bool.and_eq_true] at h3
      rw [mv_gt_eq] at hd2
      rw [mv_ls_eq, mv_ls_eq] at h4
      have k2 := mv_go_ok h4 kk
      obtain ⟨f1, f2⟩ := mv_fits_ok (r := r) (ba := ba) (b := b) hft h2.2
      intro H locs ls hH hS hl hn
      have hcc := hH.2 _ _ hd2
      obtain ⟨d1, d2⟩ := d
      have e3 : d1 = ci + 4 := mv_beq h3.1
      have h5 : k < d2.length := mv_blt h3.2
      subst e3
      obtain ⟨q, q1, q2⟩ : ∃ q : vw_C, vwCl[ci]? = some q ∧ t_OB (mv_ad ba z2) (D.1 ci) q.2.2 (D.2 ci) H (vp_V (d2.map (mv_val r ba b))) := hcc
      have eq : q = (C, T, N) := Option.some.inj (q1.symm.trans hc)
      subst eq
      show W p l e R s m args below meth c H locs nc ns Q (F0 m pc ls (mv_val r ba b v :: .ref (mv_ad ba z2) :: s2.map (mv_val r ba b)))
      refine mv_put0 hexec hb hts hown hK hc hk hw hd hfin hty f1 f2 (by rw [List.length_map]; exact h5) q2 (fun H1 locs1 e1 e2 e4 e5 => ?_)
      refine k2 H1 locs1 ls (hH.set e2 e4 ⟨_, hc, by rw [List.map_set]; exact e1⟩) ⟨by rw [e2]; exact hS.1, fun q hq hA => ?_, fun z hz => ?_⟩ hl (by rw [e2]; exact hn)
      · rw [e4 q (by rintro rfl; exact hA (mv_ad_le _ _))]
        exact hS.2.1 q hq hA
      · rcases e5 z hz with h6 | h6
        · exact hS.2.2 z h6
        · rw [h6]; exact mv_ad_le _ _
    · cases h1
  · cases h1
theorem mv_nw_ok (hexec : p.tables.exec = Jvm.exec) (hb : c.code = cc) (hts : ∀ w ∈ mv_big, w.before args s = true) {own C : String} {T : u_T} {N ci index : Nat} (hown : s.vm.findClass own = some m.cls) (hK : va_K D vwCl (mv_tys cs) s) (hc : vwCl[ci]? = some (C, T, N)) (hw1 : Cond.classLink own index C ∈ mv_big) (hw2 : Cond.instantiable C N ∈ mv_big) (hw3 : Cond.initialized C ∈ mv_big) (hd : decode cc pc = .ok (.new index, 3)) (h1 : mv_nw loc st h nc ns ci (mv_dv ci) = some (.inr x)) (hR1 : x.2.2.2.2.1 ≤ R.cells) (hR2 : x.2.2.2.2.2 ≤ R.slots)
    (kk : mv_Wx p l e R s m args below meth c Q D cs r ba b nL x (pc + 3)) : mv_W p l e R s m args below meth c Q D cs r ba b nL loc st h nc ns pc := by
  unfold mv_nw at h1
  rw [mv_fo_eq, mv_sn_eq] at h1
  have e1 := mv_inr h1
  obtain ⟨hin, hnm, ty, hty, hdf, hln⟩ := mv_cls r ba b ci _ hc
  rw [← e1] at kk hR1 hR2
  have hln : (mv_dv ci).length = N := hln
  simp only [hln] at hR1 hR2 kk
  intro H locs ls hH hS hl hn
  have hKn := hK.1 ci _ hc
  refine W.newcK hexec hb hown (hts _ hw1) (hts _ hw2) (hts _ hw3) rfl hd hR1 hR2 hKn.2.1 rfl fun H1 kC hkC e1 z1 o1 => ?_
  have k3 := kk H1 locs ls (hH.push z1 o1 ⟨_, hc, ?_⟩) ⟨Nat.le_trans hS.1 (by omega), fun q hq hA => (o1 q (Nat.lt_of_lt_of_le hq hS.1)).trans (hS.2.1 q hq hA), hS.2.2⟩ hl (show s.heap.size + (nc + 1) = H1.size by omega)
  · rw [hH.1.1]
    exact k3
  · rw [← hH.1.1]
    exact (u_born ty hts hin hKn hkC e1 hty).to hdf
theorem mv_cAe {ty : FieldType} {cA cB : ClassId} (h1 : s.vm.findClass ("[" ++ ty.toString) = some cA) (h2 : va_RA s cB ty) (h3 : ∀ C, ty ≠ .object C) : cA = cB := by
  have h4 : s.vm.findClass ("[" ++ ty.toString) = some cB := by
    cases ty with
    | object C => exact absurd rfl (h3 C)
    | _ => exact h2
  exact Option.some.inj (h1.symm.trans h4)
theorem mv_rep {α : Type} {n j : Nat} {v : α} : (List.replicate n v).getD j v = v := by
  rw [List.getD_eq_getElem?_getD, List.getElem?_replicate]
  split <;> rfl
theorem mv_na_ok (hexec : p.tables.exec = Jvm.exec) (hb : c.code = cc) (hg : mv_in g r) (hts : ∀ w ∈ mv_big, w.before args s = true) {t : Nat} {at0 : ArrayType} (hK : va_K D vwCl (mv_tys cs) s) (hw : Cond.arrayClass (newarray.typeOf at0) ∈ mv_big) (ht : (at0 = .int ∧ t = 0) ∨ (at0 = .long ∧ t = 1) ∨ (at0 = .boolean ∧ t = 2)) (hd : decode cc pc = .ok (.newarray at0, 2)) (h1 : mv_na g loc st h nc ns t = some (.inr x)) (hR1 : x.2.2.2.2.1 ≤ R.cells) (hR2 : x.2.2.2.2.2 ≤ R.slots)
    (kk : mv_Wx p l e R s m args below meth c Q D cs r ba b nL x (pc + 2)) : mv_W p l e R s m args below meth c Q D cs r ba b nL loc st h nc ns pc := by
  unfold mv_na at h1
  split at h1
  · rename_i y s2
    split at h1
    · rename_i n hn0
      obtain ⟨hn1, h1⟩ := mv_cndn h1
      have hn1 := mv_blt hn1
      rw [mv_fo_eq, mv_sn_eq] at h1
      rw [← mv_inr h1] at kk hR1 hR2
      obtain ⟨i1, i2⟩ := mv_cI_ok hg hn0
      intro H locs ls hH hS hl hn
      show W p l e R s m args below meth c H locs nc ns Q (F0 m pc ls (mv_val r ba b y :: s2.map (mv_val r ba b)))
      rw [mv_val_I i1, i2]
      have hcb : n * componentBytes (newarray.typeOf at0) ≤ 536870912 := by
        have : componentBytes (newarray.typeOf at0) ≤ 8 := by rcases ht with ⟨rfl, -⟩ | ⟨rfl, -⟩ | ⟨rfl, -⟩ <;> decide
        calc n * componentBytes (newarray.typeOf at0) ≤ 65536 * 8 := Nat.mul_le_mul (by omega) this
          _ ≤ 536870912 := by decide
      refine va_newaK (N := n) hexec hb (hts _ hw) rfl hd rfl (nI_pos (by omega)) (nI_clamp (by omega)) hcb hR1 hR2 rfl (fun H1 cA e1 z1 o1 hAr hNm => ?_)
      have k3 := kk H1 locs ls (hH.push z1 o1 ?_) ⟨Nat.le_trans hS.1 (by omega), fun q hq hA => (o1 q (Nat.lt_of_lt_of_le hq hS.1)).trans (hS.2.1 q hq hA), hS.2.2⟩ hl (show s.heap.size + (nc + 1) = H1.size by omega)
      · rw [hH.1.1]
        exact k3
      · rw [← hH.1.1]
        rcases ht with ⟨rfl, rfl⟩ | ⟨rfl, rfl⟩ | ⟨rfl, rfl⟩
        · have e2 : cA = cs.1 := mv_cAe hNm (hK.2 0 _ (show (mv_tys cs)[0]? = some (cs.1, .int) from rfl)).2 (fun C z => by cases z)
          subst e2
          show H1[H.size]? = some (arrV cs.1 (List.replicate n ((0, 0) : mv_V)).length (fun j => .int (mv_ii r ((List.replicate n ((0, 0) : mv_V)).getD j (0, 0)))))
          rw [e1, List.length_replicate]
          congr 2
          funext j
          rw [mv_rep]
          rfl
        · have e2 : cA = cs.2.1 := mv_cAe hNm (hK.2 1 _ (show (mv_tys cs)[1]? = some (cs.2.1, .long) from rfl)).2 (fun C z => by cases z)
          subst e2
          show H1[H.size]? = some (arrV cs.2.1 (List.replicate n ((3, 0) : mv_V)).length (fun j => .long (lN ((List.replicate n ((3, 0) : mv_V)).getD j (3, 0)).2)))
          rw [e1, List.length_replicate]
          congr 2
          funext j
          rw [mv_rep]
          rfl
        · have e2 : cA = cs.2.2 := mv_cAe hNm (hK.2 2 _ (show (mv_tys cs)[2]? = some (cs.2.2, .boolean) from rfl)).2 (fun C z => by cases z)
          subst e2
          show H1[H.size]? = some (arrV cs.2.2 (List.replicate n ((0, 0) : mv_V)).length (fun j => .int (mv_ii r ((List.replicate n ((0, 0) : mv_V)).getD j (0, 0)))))
          rw [e1, List.length_replicate]
          congr 2
          funext j
          rw [mv_rep]
          rfl
    · cases h1
    · cases h1
  · cases h1
end MVU
end
section
/-! ===== the stack's own steps, the script, switches; then every step ===== -/
def mv_sc (r : Nat → Int32) (ba : mv_A) (b : Nat) (s : State) : Prop := ∃ (L : Nat) (xs : Nat → Int32), va_X b L xs s s.heap ∧ b < s.heap.size ∧ b < ba.1 ∧ (∀ j, j < 8 → j < L → r j = xs j) ∧ r 10 = nI L ∧ L < 65536 ∧ (∀ j, 8 ≤ j → j < L → r (j + 16) = xs j)
section MVX
variable {p : Program} {l : Launch} {e : Env} {R : Room} {s : State} {m : MethodId} {args : Array Value} {below : List Frame} {meth : Method} {c : Code} {Q : State → Prop}
variable {D : va_G} {cs : ClassId × ClassId × ClassId} {r : Nat → Int32} {ba : mv_A} {b nL : Nat} {g : mv_B} {loc : mv_L} {st : List mv_V} {h : List mv_C} {nc ns : Nat} {x : Option Nat × mv_L × List mv_V × List mv_C × Nat × Nat} {cc : ByteArray} {pc pc2 : Nat}
theorem mv_c1 {v : mv_V} (h : mv_w2 v = false) : (mv_val r ba b v).category = 1 := by rw [(mv_cat r ba b v).2, h]; rfl
theorem mv_c2 {v : mv_V} (h : mv_w2 v = true) : (mv_val r ba b v).category = 2 := by rw [(mv_cat r ba b v).2, h]; rfl
theorem mv_cnn {α : Type} {q : Bool} {y : Option α} {z : α} (h : (bif q then none else y) = some z) : q = false ∧ y = some z := by
  cases q
  · exact ⟨rfl, h⟩
  · cases h
theorem mv_dup_ok (hexec : p.tables.exec = Jvm.exec) (hb : c.code = cc) (hd : decode cc pc = .ok (.dup, 1)) (h1 : mv_dup loc st h nc ns = some (.inr x))
    (kk : mv_Wx p l e R s m args below meth c Q D cs r ba b nL x (pc + 1)) : mv_W p l e R s m args below meth c Q D cs r ba b nL loc st h nc ns pc := by
  unfold mv_dup at h1
  split at h1
  · obtain ⟨h2, h3⟩ := mv_cnn h1
    have k2 := mv_go_ok h3 kk
    intro H locs ls hH hS hl hn
    exact lv_dup hexec hb hd (mv_c1 h2) (k2 H locs ls hH hS hl hn)
  · cases h1
theorem mv_pop_ok (hexec : p.tables.exec = Jvm.exec) (hb : c.code = cc) (hd : decode cc pc = .ok (.pop, 1)) (h1 : mv_pop loc st h nc ns = some (.inr x))
    (kk : mv_Wx p l e R s m args below meth c Q D cs r ba b nL x (pc + 1)) : mv_W p l e R s m args below meth c Q D cs r ba b nL loc st h nc ns pc := by
  unfold mv_pop at h1
  split at h1
  · obtain ⟨h2, h3⟩ := mv_cnn h1
    have k2 := mv_go_ok h3 kk
    intro H locs ls hH hS hl hn
    exact lv_pop hexec hb hd (mv_c1 h2) (k2 H locs ls hH hS hl hn)
  · cases h1
theorem mv_dupx_ok (hexec : p.tables.exec = Jvm.exec) (hb : c.code = cc) (hd : decode cc pc = .ok (.dup_x1, 1)) (h1 : mv_dupx loc st h nc ns = some (.inr x))
    (kk : mv_Wx p l e R s m args below meth c Q D cs r ba b nL x (pc + 1)) : mv_W p l e R s m args below meth c Q D cs r ba b nL loc st h nc ns pc := by
  unfold mv_dupx at h1
  split at h1
  · obtain ⟨h2, h3⟩ := mv_cnn h1
    simp only [Bool.or_eq_false_iff] at h2
    have k2 := mv_go_ok h3 kk
    intro H locs ls hH hS hl hn
    exact lv_dup_x1 hexec hb hd (mv_c1 h2.1) (mv_c1 h2.2) (k2 H locs ls hH hS hl hn)
  · cases h1
theorem mv_dup2_ok (hexec : p.tables.exec = Jvm.exec) (hb : c.code = cc) (hd : decode cc pc = .ok (.dup2, 1)) (h1 : mv_dup2 loc st h nc ns = some (.inr x))
    (kk : mv_Wx p l e R s m args below meth c Q D cs r ba b nL x (pc + 1)) : mv_W p l e R s m args below meth c Q D cs r ba b nL loc st h nc ns pc := by
  unfold mv_dup2 at h1
  split at h1
  · rcases mv_cnd h1 with ⟨h2, h3⟩ | ⟨h2, h3⟩
    · have k2 := mv_go_ok h3 kk
      intro H locs ls hH hS hl hn
      exact lv_dup2_2 hexec hb hd (mv_c2 h2) (k2 H locs ls hH hS hl hn)
    · split at h3
      · obtain ⟨h4, h5⟩ := mv_cnn h3
        have k2 := mv_go_ok h5 kk
        intro H locs ls hH hS hl hn
        exact lv_dup2_11 hexec hb hd (mv_c1 h2) (mv_c1 h4) (k2 H locs ls hH hS hl hn)
      · cases h3
  · cases h1
theorem mv_and_ok (hexec : p.tables.exec = Jvm.exec) (hb : c.code = cc) (hg : mv_in g r) (h8 : r 8 = r 0 &&& nI 31) (hd : decode cc pc = .ok (.iand, 1)) (h1 : mv_and g loc st h nc ns = some (.inr x))
    (kk : mv_Wx p l e R s m args below meth c Q D cs r ba b nL x (pc + 1)) : mv_W p l e R s m args below meth c Q D cs r ba b nL loc st h nc ns pc := by
  unfold mv_and at h1
  split at h1
  · rename_i y z s2
    rcases mv_cnd h1 with ⟨h2, h3⟩ | ⟨-, h3⟩
    · simp only [Bool.and_eq_true] at h2
      obtain ⟨z1, z2⟩ := z
      obtain ⟨y1, y2⟩ := y
      obtain ⟨e1, e2, e3, e4⟩ := h2
      have f1 : z1 = 5 := mv_beq e1
      have f2 : z2 = 0 := mv_beq e2
      have f3 : y1 = 0 := mv_beq e3
      have f4 : y2 = 31 := mv_beq e4
      subst f1; subst f2; subst f3; subst f4
      have k2 := mv_go_ok h3 kk
      intro H locs ls hH hS hl hn
      refine lv_iand hexec hb hd ?_
      have k3 := k2 H locs ls hH hS hl hn
      have k4 : W p l e R s m args below meth c H locs nc ns Q (F0 m (pc + 1) ls (.int (r 8) :: s2.map (mv_val r ba b))) := k3
      rw [h8] at k4
      exact k4
    · refine mv_bi_ok hg h3 (fun a d n s2 hf k H locs ls hH hS hl hn => ?_) kk
      refine lv_iand hexec hb hd ?_
      have e1 : nI n = nI a &&& nI d := by
        rw [← Option.some.inj hf, mv_nI_m]
        apply Int32.toBitVec_inj.mp
        show (Int32.ofNat (a &&& d)).toBitVec = (Int32.ofNat a).toBitVec &&& (Int32.ofNat d).toBitVec
        rw [Int32.toBitVec_ofNat', Int32.toBitVec_ofNat', Int32.toBitVec_ofNat', BitVec.ofNat_and]
      rw [← e1]
      exact k H locs ls hH hS hl hn
  · cases h1
theorem mv_ushi (hexec : p.tables.exec = Jvm.exec) (hb : c.code = cc) (hg : mv_in g r) (hd : decode cc pc = .ok (.iushr, 1)) (h1 : mv_bi g loc st h nc ns (fun a c => some (mv_co (((nI a).toUInt32 >>> ((nI c).toUInt32 &&& Int32.toUInt32 31)).toInt32))) = some (.inr x))
    (kk : mv_Wx p l e R s m args below meth c Q D cs r ba b nL x (pc + 1)) : mv_W p l e R s m args below meth c Q D cs r ba b nL loc st h nc ns pc := by
  refine mv_bi_ok hg h1 (fun a d n s2 hf k H locs ls hH hS hl hn => ?_) kk
  refine lv_iushr (v := nI n) hexec hb hd (by rw [← Option.some.inj hf, mv_nI_co]) ?_
  exact k H locs ls hH hS hl hn
theorem mv_ush_ok (hexec : p.tables.exec = Jvm.exec) (hb : c.code = cc) (hg : mv_in g r) (hd : decode cc pc = .ok (.iushr, 1)) (h1 : mv_ush g loc st h nc ns = some (.inr x))
    (kk : mv_Wx p l e R s m args below meth c Q D cs r ba b nL x (pc + 1)) : mv_W p l e R s m args below meth c Q D cs r ba b nL loc st h nc ns pc := by
  unfold mv_ush at h1
  split at h1
  · rename_i y z s2
    rcases mv_cnd h1 with ⟨h2, h3⟩ | ⟨-, h3⟩
    · simp only [Bool.and_eq_true] at h2
      rcases mv_cnd h3 with ⟨-, h4⟩ | ⟨-, h4⟩
      · rcases mv_cnd h4 with ⟨-, h5⟩ | ⟨-, h5⟩
        · obtain ⟨z1, z2⟩ := z
          obtain ⟨y1, y2⟩ := y
          obtain ⟨e1, e2, e3, e4⟩ := h2
          have f1 : y1 = 0 := mv_beq e1
          have f2 : z1 = 5 := mv_beq e2
          have f4 : z2 < 16 := mv_blt e4
          subst f1; subst f2
          have k2 := mv_go_ok h5 kk
          intro H locs ls hH hS hl hn
          refine lv_iushr (v := mv_ii r (6, z2 + 16 * y2)) hexec hb hd ?_ (k2 H locs ls hH hS hl hn)
          show _ = ((r ((z2 + 16 * y2) % 16)).toUInt32 >>> ((nI ((z2 + 16 * y2) / 16)).toUInt32 &&& Int32.toUInt32 31)).toInt32
          rw [show (z2 + 16 * y2) % 16 = z2 by omega, show (z2 + 16 * y2) / 16 = y2 by omega]
          rfl
        · rcases mv_cnd h5 with ⟨-, h6⟩ | ⟨-, h6⟩
          · exact mv_ushi hexec hb hg hd h6 kk
          · cases h6
      · cases h4
    · exact mv_ushi hexec hb hg hd h3 kk
  · cases h1
theorem mv_iald_ok (hexec : p.tables.exec = Jvm.exec) (hb : c.code = cc) (hg : mv_in g r) (hK : va_K D vwCl (mv_tys cs) s) (hsc : mv_sc r ba b s) (hd : decode cc pc = .ok (.iaload, 1)) (h1 : mv_iald g loc st h nc ns = some (.inr x))
    (kk : mv_Wx p l e R s m args below meth c Q D cs r ba b nL x (pc + 1)) : mv_W p l e R s m args below meth c Q D cs r ba b nL loc st h nc ns pc := by
  unfold mv_iald at h1
  split at h1
  · rename_i y z s2
    rcases mv_cnd h1 with ⟨h2, h3⟩ | ⟨-, h3⟩
    · unfold mv_sld at h3
      split at h3
      · rename_i a ha
        obtain ⟨h4, h5⟩ := mv_cndn h3
        rw [Bool.and_eq_true] at h4
        obtain ⟨e2, e3⟩ := h4
        have e2 := mv_ble e2
        have e3 := mv_blt e3
        obtain ⟨i1, i2⟩ := mv_cI_ok hg ha
        obtain ⟨L, xs, hX, hbl, hbA, hr, hrL, hL, hr2⟩ := hsc
        have h10 := hg 10
        rw [hrL, mv_cd_nI] at h10
        have e4 : a < L := by omega
        have e8 : r (bif Nat.blt a 8 then a else a + 16) = xs a := by
          cases hq : Nat.blt a 8
          · exact hr2 a (mv_nblt hq) e4
          · exact hr a (mv_blt hq) e4
        intro H locs ls hH hS hl hn
        show W p l e R s m args below meth c H locs nc ns Q (F0 m pc ls (mv_val r ba b y :: mv_val r ba b z :: s2.map (mv_val r ba b)))
        rw [mv_val_I i1, i2, mv_val_S h2]
        refine va_sld hexec hb hX hbl (Nat.not_le.mpr hbA) hS (vp_in_nI e4 (by omega)) hd ?_
        rw [nI_clamp (by omega), ← e8]
        rw [mv_fo_eq] at h5
        split at h5
        · rename_i n hn9
          have k2 := mv_go_ok h5 kk
          have e9 : r (bif Nat.blt a 8 then a else a + 16) = nI n := (mv_cI_ok hg hn9).2
          rw [e9]
          exact k2 H locs ls hH hS hl hn
        · have k2 := mv_go_ok h5 kk
          exact k2 H locs ls hH hS hl hn
      · cases h3
      · cases h3
    · exact mv_aldi_ok hexec hb hg hK hd h3 kk
  · cases h1
theorem mv_alen_ok (hexec : p.tables.exec = Jvm.exec) (hb : c.code = cc) (hK : va_K D vwCl (mv_tys cs) s) (hsc : mv_sc r ba b s) (hd : decode cc pc = .ok (.arraylength, 1)) (h1 : mv_alen loc st h nc ns = some (.inr x))
    (kk : mv_Wx p l e R s m args below meth c Q D cs r ba b nL x (pc + 1)) : mv_W p l e R s m args below meth c Q D cs r ba b nL loc st h nc ns pc := by
  unfold mv_alen at h1
  split at h1
  · rename_i z s2
    rcases mv_cnd h1 with ⟨h2, h3⟩ | ⟨-, h3⟩
    · have k2 := mv_go_ok h3 kk
      obtain ⟨L, xs, hX, hbl, hbA, hr, hrL, hL, -⟩ := hsc
      intro H locs ls hH hS hl hn
      show W p l e R s m args below meth c H locs nc ns Q (F0 m pc ls (mv_val r ba b z :: s2.map (mv_val r ba b)))
      rw [mv_val_S h2]
      refine va_slen hexec hb hX hbl (Nat.not_le.mpr hbA) hS hd ?_
      have k3 : W p l e R s m args below meth c H locs nc ns Q (F0 m (pc + 1) ls (.int (r 10) :: s2.map (mv_val r ba b))) := k2 H locs ls hH hS hl hn
      rw [hrL] at k3
      exact k3
    · exact mv_len_ok hexec hb hK hd h3 kk
  · cases h1
theorem mv_tgt {o : Int} (h : decide (0 ≤ (pc : Int) + o) = true) : (pc : Int) + o = ((((pc : Int) + o).toNat : Nat) : Int) := (Int.toNat_of_nonneg (of_decide_eq_true h)).symm
theorem mv_tsw_ok (hexec : p.tables.exec = Jvm.exec) (hb : c.code = cc) (hg : mv_in g r) {d lo hi : Int} {offs : Array Int} {len : Nat} (hd : decode cc pc = .ok (.tableswitch d lo hi offs, len)) (h1 : mv_tsw g loc st h nc ns pc d lo hi offs = some (.inr x))
    (kk : mv_Wx p l e R s m args below meth c Q D cs r ba b nL x pc2) : mv_W p l e R s m args below meth c Q D cs r ba b nL loc st h nc ns pc := by
  unfold mv_tsw at h1
  split at h1
  · rename_i z s2
    split at h1
    · rename_i a ha
      obtain ⟨i1, i2⟩ := mv_cI_ok hg ha
      rcases mv_cnd h1 with ⟨h2, h3⟩ | ⟨h2, h3⟩
      · obtain ⟨h4, h5⟩ := mv_cndn h3
        rw [mv_fo_eq] at h5
        rw [← mv_inr h5] at kk
        intro H locs ls hH hS hl hn
        show W p l e R s m args below meth c H locs nc ns Q (F0 m pc ls (mv_val r ba b z :: s2.map (mv_val r ba b)))
        rw [mv_val_I i1, i2]
        simp only [Bool.or_eq_true, decide_eq_true_eq] at h2
        exact lv_tableOut hexec hb hd h2 (mv_tgt h4) (kk H locs ls hH hS hl hn)
      · split at h3
        · rename_i o ho
          obtain ⟨h4, h5⟩ := mv_cndn h3
          rw [mv_fo_eq] at h5
          rw [← mv_inr h5] at kk
          intro H locs ls hH hS hl hn
          show W p l e R s m args below meth c H locs nc ns Q (F0 m pc ls (mv_val r ba b z :: s2.map (mv_val r ba b)))
          rw [mv_val_I i1, i2]
          simp only [Bool.or_eq_false_iff, decide_eq_false_iff_not] at h2
          exact lv_tableIn hexec hb hd h2.1 h2.2 ho (mv_tgt h4) (kk H locs ls hH hS hl hn)
        · cases h3
    · cases h1
    · cases h1
  · cases h1
theorem mv_lsw_ok (hexec : p.tables.exec = Jvm.exec) (hb : c.code = cc) (hg : mv_in g r) {d : Int} {ps : Array (Int × Int)} {len : Nat} (hd : decode cc pc = .ok (.lookupswitch d ps, len)) (h1 : mv_lsw g loc st h nc ns pc d ps = some (.inr x))
    (kk : mv_Wx p l e R s m args below meth c Q D cs r ba b nL x pc2) : mv_W p l e R s m args below meth c Q D cs r ba b nL loc st h nc ns pc := by
  unfold mv_lsw at h1
  split at h1
  · rename_i z s2
    split at h1
    · rename_i a ha
      obtain ⟨i1, i2⟩ := mv_cI_ok hg ha
      obtain ⟨h4, h5⟩ := mv_cndn h1
      simp only [Bool.and_eq_true] at h4
      rw [mv_fo_eq] at h5
      rw [← mv_inr h5] at kk
      intro H locs ls hH hS hl hn
      show W p l e R s m args below meth c H locs nc ns Q (F0 m pc ls (mv_val r ba b z :: s2.map (mv_val r ba b)))
      rw [mv_val_I i1, i2]
      exact lv_lookup hexec hb hd h4.1 rfl (mv_tgt h4.2) (kk H locs ls hH hS hl hn)
    · cases h1
    · cases h1
  · cases h1
/-- what a table's row owes, but its place in the code -/
def mv_okB (cand : List Cond) (own name : String) (pc : Nat) (i : Instr) (len a b : Nat) : Bool := match i with
  | .iconst n => Nat.beq len 1 && decide (Int32.ofInt n = nI a)
  | .bipush n => Nat.beq len 2 && decide ((Int8.ofInt n).toInt32 = nI a)
  | .sipush n => Nat.beq len 3 && decide ((Int16.ofInt n).toInt32 = nI a)
  | .ldc k => Nat.beq len 2 && decide (Cond.constant own k (nI a) ∈ cand)
  | .ldc_w k => Nat.beq len 3 && decide (Cond.constant own k (nI a) ∈ cand)
  | .lconst n => Nat.beq len 1 && decide (Int64.ofNat (n : Nat) = lN a)
  | .ldc2_w k => Nat.beq len 3 && decide (Cond.constantLong own k (lN a) ∈ cand)
  | .dconst n => Nat.beq len 1 && (decide (n = 0) && decide (FP.dconst0 = UInt64.ofNat a))
  | .iload_n k => Nat.beq len 1 && Nat.beq k a
  | .iload k => Nat.beq len 2 && Nat.beq k a
  | .lload_n k => Nat.beq len 1 && Nat.beq k a
  | .lload k => Nat.beq len 2 && Nat.beq k a
  | .dload_n k => Nat.beq len 1 && Nat.beq k a
  | .dload k => Nat.beq len 2 && Nat.beq k a
  | .aload_n k => Nat.beq len 1 && Nat.beq k a
  | .aload k => Nat.beq len 2 && Nat.beq k a
  | .istore_n k => Nat.beq len 1 && Nat.beq k a
  | .istore k => Nat.beq len 2 && Nat.beq k a
  | .astore_n k => Nat.beq len 1 && Nat.beq k a
  | .astore k => Nat.beq len 2 && Nat.beq k a
  | .lstore_n k => Nat.beq len 1 && Nat.beq k a
  | .lstore k => Nat.beq len 2 && Nat.beq k a
  | .dstore_n k => Nat.beq len 1 && Nat.beq k a
  | .dstore k => Nat.beq len 2 && Nat.beq k a
  | .iinc k n => Nat.beq len 3 && (Nat.beq k a && decide (Int32.ofInt n = nI b))
  | .ifCond _ off => Nat.beq len 3 && decide ((pc : Int) + off = (a : Int))
  | .if_icmp _ off => Nat.beq len 3 && decide ((pc : Int) + off = (a : Int))
  | .goto off => Nat.beq len 3 && decide ((pc : Int) + off = (a : Int))
  | .tableswitch _ _ _ _ => true
  | .lookupswitch _ _ => true
  | .getfield k => Nat.beq len 3 && match vwCl[a]? with
    | some q => Nat.blt b q.2.2 && decide (Cond.fieldLink own k (q.2.1 b).1 (q.2.1 b).2.1 (q.2.1 b).2.2.1 ∈ cand)
    | none => false
  | .putfield k => Nat.beq len 3 && match vwCl[a]? with
    | some q => Nat.blt (b / 4) q.2.2 && (decide (Cond.fieldLink own k (q.2.1 (b / 4)).1 (q.2.1 (b / 4)).2.1 (q.2.1 (b / 4)).2.2.1 ∈ cand) && (match parseFieldDescriptor (q.2.1 (b / 4)).2.2.1 with
      | some ty => mv_ft (b % 4) ty
      | none => false) && (!(q.2.1 (b / 4)).2.2.2 || (decide (name = "<init>") && decide ((q.2.1 (b / 4)).1 = own))))
    | none => false
  | .newarray t => Nat.beq len 2 && (match t with
    | .int => Nat.beq a 0
    | .long => Nat.beq a 1
    | .boolean => Nat.beq a 2
    | _ => false) && decide (Cond.arrayClass (newarray.typeOf t) ∈ cand)
  | .new k => Nat.beq len 3 && match vwCl[a]? with
    | some q => decide (Cond.classLink own k q.1 ∈ cand) && (decide (Cond.instantiable q.1 q.2.2 ∈ cand) && decide (Cond.initialized q.1 ∈ cand))
    | none => false
  | _ => Nat.beq len 1
theorem mv_dd_ok (hexec : p.tables.exec = Jvm.exec) (hb : c.code = cc) (hd : decode cc pc = .ok (.ddiv, 1)) (h1 : mv_dd loc st h nc ns = some (.inr x))
    (kk : mv_Wx p l e R s m args below meth c Q D cs r ba b nL x (pc + 1)) : mv_W p l e R s m args below meth c Q D cs r ba b nL loc st h nc ns pc := by
  unfold mv_dd at h1
  split at h1
  · rename_i y z s2
    obtain ⟨h2, h3⟩ := mv_cndn h1
    simp only [Bool.and_eq_true] at h2
    rw [mv_fo_eq] at h3
    have k2 := mv_go_ok h3 kk
    intro H locs ls hH hS hl hn
    show W p l e R s m args below meth c H locs nc ns Q (F0 m pc ls (mv_val r ba b y :: mv_val r ba b z :: s2.map (mv_val r ba b)))
    rw [mv_val_D h2.1, mv_val_D h2.2.1]
    refine lv_ddiv hexec hb hd (show _ ≤ _ from of_decide_eq_true h2.2.2) ?_
    have k3 : W p l e R s m args below meth c H locs nc ns Q (F0 m (pc + 1) ls (.double (UInt64.ofNat (FP.ddiv (UInt64.ofNat z.2) (UInt64.ofNat y.2)).toNat) :: s2.map (mv_val r ba b))) := k2 H locs ls hH hS hl hn
    rw [mv_u64] at k3
    exact k3
  · cases h1
theorem mv_a2 {q w : Bool} (h : (q && w) = true) : q = true ∧ w = true := by simpa using h
set_option maxHeartbeats 4000000 in
/-- every step -/
theorem mv_s1_ok {cand : List Cond} {own : String} {i : Instr} {len a k : Nat} (hexec : p.tables.exec = Jvm.exec) (hb : c.code = cc) (hts : ∀ w ∈ mv_big, w.before args s = true) (hown : s.vm.findClass own = some m.cls) (hK : va_K D vwCl (mv_tys cs) s) (hsc : mv_sc r ba b s) (h8 : r 8 = r 0 &&& nI 31) (hg : mv_in g r) (hcand : ∀ w ∈ cand, w ∈ mv_big)
    (hd : decode cc pc = .ok (i, len)) (hk : mv_okB cand own meth.name pc i len a k = true) (h1 : mv_s1 g loc st h nc ns mv_dv nL i pc a k = some (.inr x)) (hR1 : x.2.2.2.2.1 ≤ R.cells) (hR2 : x.2.2.2.2.2 ≤ R.slots)
    (kk : mv_Wx p l e R s m args below meth c Q D cs r ba b nL x (pc + len)) : mv_W p l e R s m args below meth c Q D cs r ba b nL loc st h nc ns pc := by
  cases i with
  | iconst n =>
    obtain ⟨e1, e2⟩ := mv_a2 hk
    cases mv_beq e1
    have k2 := mv_go_ok h1 kk
    intro H locs ls hH hS hl hn
    exact lv_iconst hexec hb hd (of_decide_eq_true e2) (k2 H locs ls hH hS hl hn)
  | bipush n =>
    obtain ⟨e1, e2⟩ := mv_a2 hk
    cases mv_beq e1
    have k2 := mv_go_ok h1 kk
    intro H locs ls hH hS hl hn
    exact lv_bipush hexec hb hd (of_decide_eq_true e2) (k2 H locs ls hH hS hl hn)
  | sipush n =>
    obtain ⟨e1, e2⟩ := mv_a2 hk
    cases mv_beq e1
    have k2 := mv_go_ok h1 kk
    intro H locs ls hH hS hl hn
    exact lv_sipush hexec hb hd (of_decide_eq_true e2) (k2 H locs ls hH hS hl hn)
  | ldc n =>
    obtain ⟨e1, e2⟩ := mv_a2 hk
    cases mv_beq e1
    have k2 := mv_go_ok h1 kk
    intro H locs ls hH hS hl hn
    exact lv_ldc hexec hb hown (hts _ (hcand _ (of_decide_eq_true e2))) hd (k2 H locs ls hH hS hl hn)
  | ldc_w n =>
    obtain ⟨e1, e2⟩ := mv_a2 hk
    cases mv_beq e1
    have k2 := mv_go_ok h1 kk
    intro H locs ls hH hS hl hn
    exact lv_ldcw hexec hb hown (hts _ (hcand _ (of_decide_eq_true e2))) hd (k2 H locs ls hH hS hl hn)
  | lconst n =>
    obtain ⟨e1, e2⟩ := mv_a2 hk
    cases mv_beq e1
    have k2 := mv_go_ok h1 kk
    intro H locs ls hH hS hl hn
    exact lv_lconst hexec hb hd (of_decide_eq_true e2) (k2 H locs ls hH hS hl hn)
  | ldc2_w n =>
    obtain ⟨e1, e2⟩ := mv_a2 hk
    cases mv_beq e1
    have k2 := mv_go_ok h1 kk
    intro H locs ls hH hS hl hn
    exact lv_ldc2 hexec hb hown (hts _ (hcand _ (of_decide_eq_true e2))) hd (k2 H locs ls hH hS hl hn)
  | dconst n =>
    obtain ⟨e1, e2⟩ := mv_a2 hk
    obtain ⟨e2, e3⟩ := mv_a2 e2
    cases mv_beq e1
    have e2 : n = 0 := of_decide_eq_true e2
    subst e2
    have k2 := mv_go_ok h1 kk
    intro H locs ls hH hS hl hn
    refine lv_dconst0 hexec hb hd ?_
    have k3 : W p l e R s m args below meth c H locs nc ns Q (F0 m (pc + 1) ls (.double (UInt64.ofNat a) :: st.map (mv_val r ba b))) := k2 H locs ls hH hS hl hn
    rw [← (of_decide_eq_true e3 : FP.dconst0 = UInt64.ofNat a)] at k3
    exact k3
  | iload_n n =>
    obtain ⟨e1, e2⟩ := mv_a2 hk
    cases mv_beq e1
    exact mv_ld_ok h1 (fun v H locs ls hf hl k => by rw [mv_val_I hf] at hl k; exact lv_iload_n hexec hb hd (mv_beq e2) hl k) kk
  | iload n =>
    obtain ⟨e1, e2⟩ := mv_a2 hk
    cases mv_beq e1
    cases mv_beq e2
    exact mv_ld_ok h1 (fun v H locs ls hf hl k => by rw [mv_val_I hf] at hl k; exact lv_iload hexec hb hd hl k) kk
  | lload_n n =>
    obtain ⟨e1, e2⟩ := mv_a2 hk
    cases mv_beq e1
    exact mv_ld_ok h1 (fun v H locs ls hf hl k => by rw [mv_val_J hf] at hl k; exact lv_lload_n hexec hb hd (mv_beq e2) hl k) kk
  | lload n =>
    obtain ⟨e1, e2⟩ := mv_a2 hk
    cases mv_beq e1
    cases mv_beq e2
    exact mv_ld_ok h1 (fun v H locs ls hf hl k => by rw [mv_val_J hf] at hl k; exact lv_lload hexec hb hd hl k) kk
  | dload_n n =>
    obtain ⟨e1, e2⟩ := mv_a2 hk
    cases mv_beq e1
    exact mv_ld_ok h1 (fun v H locs ls hf hl k => by rw [mv_val_D hf] at hl k; exact lv_dload_n hexec hb hd (mv_beq e2) hl k) kk
  | dload n =>
    obtain ⟨e1, e2⟩ := mv_a2 hk
    cases mv_beq e1
    cases mv_beq e2
    exact mv_ld_ok h1 (fun v H locs ls hf hl k => by rw [mv_val_D hf] at hl k; exact lv_dload hexec hb hd hl k) kk
  | aload_n n =>
    obtain ⟨e1, e2⟩ := mv_a2 hk
    cases mv_beq e1
    exact mv_ld_ok h1 (fun v H locs ls hf hl k => by obtain ⟨y, hy⟩ := mv_val_A (r := r) (ba := ba) (b := b) hf; rw [hy] at hl k; exact lv_aload_n hexec hb hd (mv_beq e2) hl k) kk
  | aload n =>
    obtain ⟨e1, e2⟩ := mv_a2 hk
    cases mv_beq e1
    cases mv_beq e2
    exact mv_ld_ok h1 (fun v H locs ls hf hl k => by obtain ⟨y, hy⟩ := mv_val_A (r := r) (ba := ba) (b := b) hf; rw [hy] at hl k; exact lv_aload hexec hb hd hl k) kk
  | istore_n n =>
    obtain ⟨e1, e2⟩ := mv_a2 hk
    cases mv_beq e1
    exact mv_sto_ok h1 (fun v s2 H locs ls hf hi hl k => by rw [mv_val_I hf]; exact lv_istore_n hexec hb hd (mv_beq e2) hl hi (by rw [mv_flt1, ← mv_val_I hf]; rfl) k) kk
  | istore n =>
    obtain ⟨e1, e2⟩ := mv_a2 hk
    cases mv_beq e1
    cases mv_beq e2
    exact mv_sto_ok h1 (fun v s2 H locs ls hf hi hl k => by rw [mv_val_I hf]; exact lv_istore hexec hb hd hl hi (by rw [mv_flt1, ← mv_val_I hf]; rfl) k) kk
  | astore_n n =>
    obtain ⟨e1, e2⟩ := mv_a2 hk
    cases mv_beq e1
    exact mv_sto_ok h1 (fun v s2 H locs ls hf hi hl k => by obtain ⟨y, hy⟩ := mv_val_A (r := r) (ba := ba) (b := b) hf; rw [hy]; exact lv_astore_n hexec hb hd (mv_beq e2) hl hi (by rw [mv_flt1, ← hy]; rfl) k) kk
  | astore n =>
    obtain ⟨e1, e2⟩ := mv_a2 hk
    cases mv_beq e1
    cases mv_beq e2
    exact mv_sto_ok h1 (fun v s2 H locs ls hf hi hl k => by obtain ⟨y, hy⟩ := mv_val_A (r := r) (ba := ba) (b := b) hf; rw [hy]; exact lv_astore hexec hb hd hl hi (by rw [mv_flt1, ← hy]; rfl) k) kk
  | lstore_n n =>
    obtain ⟨e1, e2⟩ := mv_a2 hk
    cases mv_beq e1
    exact mv_sto2_ok h1 (fun v s2 H locs ls hf hi hl k => by rw [mv_val_J hf]; exact lv_lstore_n hexec hb hd (mv_beq e2) hl hi (by rw [mv_flt2, ← mv_val_J hf]; rfl) k) kk
  | lstore n =>
    obtain ⟨e1, e2⟩ := mv_a2 hk
    cases mv_beq e1
    cases mv_beq e2
    exact mv_sto2_ok h1 (fun v s2 H locs ls hf hi hl k => by rw [mv_val_J hf]; exact lv_lstore hexec hb hd hl hi (by rw [mv_flt2, ← mv_val_J hf]; rfl) k) kk
  | dstore_n n =>
    obtain ⟨e1, e2⟩ := mv_a2 hk
    cases mv_beq e1
    exact mv_sto2_ok h1 (fun v s2 H locs ls hf hi hl k => by rw [mv_val_D hf]; exact lv_dstore_n hexec hb hd (mv_beq e2) hl hi (by rw [mv_flt2, ← mv_val_D hf]; rfl) k) kk
  | dstore n =>
    obtain ⟨e1, e2⟩ := mv_a2 hk
    cases mv_beq e1
    cases mv_beq e2
    exact mv_sto2_ok h1 (fun v s2 H locs ls hf hi hl k => by rw [mv_val_D hf]; exact lv_dstore hexec hb hd hl hi (by rw [mv_flt2, ← mv_val_D hf]; rfl) k) kk
  | iinc n z =>
    obtain ⟨e1, e2⟩ := mv_a2 hk
    obtain ⟨e2, e3⟩ := mv_a2 e2
    cases mv_beq e1
    cases mv_beq e2
    exact mv_inc_ok hexec hb hg hd (of_decide_eq_true e3) h1 kk
  | ifCond o off =>
    obtain ⟨e1, e2⟩ := mv_a2 hk
    cases mv_beq e1
    exact mv_if_ok hexec hb hg hd (of_decide_eq_true e2) h1 kk
  | if_icmp o off =>
    obtain ⟨e1, e2⟩ := mv_a2 hk
    cases mv_beq e1
    exact mv_ic_ok hexec hb hg hd (of_decide_eq_true e2) h1 kk
  | goto off =>
    obtain ⟨e1, e2⟩ := mv_a2 hk
    cases mv_beq e1
    rw [← mv_inr h1] at kk
    intro H locs ls hH hS hl hn
    exact lv_goto hexec hb hd (of_decide_eq_true e2) (kk H locs ls hH hS hl hn)
  | tableswitch d lo hi offs => exact mv_tsw_ok hexec hb hg hd h1 kk
  | lookupswitch d ps => exact mv_lsw_ok hexec hb hg hd h1 kk
  | getfield n =>
    obtain ⟨e1, e2⟩ := mv_a2 hk
    cases mv_beq e1
    split at e2
    · rename_i q hq
      obtain ⟨e2, e3⟩ := mv_a2 e2
      obtain ⟨C, T, N⟩ := q
      exact mv_gf_ok hexec hb hts hown hK hq (mv_blt e2) (hcand _ (of_decide_eq_true e3)) hd h1 kk
    · cases e2
  | putfield n =>
    obtain ⟨e1, e2⟩ := mv_a2 hk
    cases mv_beq e1
    split at e2
    · rename_i q hq
      obtain ⟨e2, e3⟩ := mv_a2 e2
      obtain ⟨e3, e5⟩ := mv_a2 e3
      obtain ⟨e3, e4⟩ := mv_a2 e3
      obtain ⟨C, T, N⟩ := q
      split at e4
      · rename_i ty hty
        refine mv_pf_ok hexec hb hts hown hK hq (mv_blt e2) (hcand _ (of_decide_eq_true e3)) hd ?_ hty e4 h1 kk
        simp only [Bool.or_eq_true, Bool.and_eq_true, Bool.not_eq_true', decide_eq_true_eq] at e5
        rcases e5 with e5 | ⟨e5, e6⟩
        · exact Or.inl e5
        · cases e7 : (T (k / 4)).2.2.2
          · exact Or.inl rfl
          · exact Or.inr ⟨rfl, e5, e6⟩
      · cases e4
    · cases e2
  | newarray t =>
    obtain ⟨e1, e2⟩ := mv_a2 hk
    obtain ⟨e1, e3⟩ := mv_a2 e1
    cases mv_beq e1
    refine mv_na_ok hexec hb hg hts hK (hcand _ (of_decide_eq_true e2)) ?_ hd h1 hR1 hR2 kk
    cases t with
    | int => exact Or.inl ⟨rfl, mv_beq e3⟩
    | long => exact Or.inr (Or.inl ⟨rfl, mv_beq e3⟩)
    | boolean => exact Or.inr (Or.inr ⟨rfl, mv_beq e3⟩)
    | _ => cases e3
  | new n =>
    obtain ⟨e1, e2⟩ := mv_a2 hk
    cases mv_beq e1
    split at e2
    · rename_i q hq
      obtain ⟨e2, e3⟩ := mv_a2 e2
      obtain ⟨e3, e4⟩ := mv_a2 e3
      obtain ⟨C, T, N⟩ := q
      exact mv_nw_ok hexec hb hts hown hK hq (hcand _ (of_decide_eq_true e2)) (hcand _ (of_decide_eq_true e3)) (hcand _ (of_decide_eq_true e4)) hd h1 hR1 hR2 kk
    · cases e2
  | iadd =>
    cases mv_beq hk
    refine mv_bi_ok (f := fun x y => some ((x + y) % 4294967296)) hg h1 (fun a d n s2 hf k H locs ls hH hS hl hn => ?_) kk
    refine lv_iadd hexec hb hd ?_
    have e1 : nI n = nI a + nI d := by rw [← Option.some.inj hf, mv_nI_m, nI_add]
    rw [← e1]
    exact k H locs ls hH hS hl hn
  | isub =>
    cases mv_beq hk
    refine mv_bi_ok (f := fun x y => some ((x + (4294967296 - y % 4294967296)) % 4294967296)) hg h1 (fun a d n s2 hf k H locs ls hH hS hl hn => ?_) kk
    refine lv_isub hexec hb hd ?_
    have e1 : nI n = nI a - nI d := by
      rw [← Option.some.inj hf, mv_nI_m]
      have e2 : nI d + nI (a + (4294967296 - d % 4294967296)) = nI a := by
        rw [nI_add]
        exact mv_nI_mod (by omega)
      rw [← e2, Int32.add_comm, Int32.add_sub_cancel]
    rw [← e1]
    exact k H locs ls hH hS hl hn
  | imul =>
    cases mv_beq hk
    refine mv_bi_ok (f := fun x y => some (x * y % 4294967296)) hg h1 (fun a d n s2 hf k H locs ls hH hS hl hn => ?_) kk
    refine lv_imul hexec hb hd ?_
    have e1 : nI n = nI a * nI d := by
      rw [← Option.some.inj hf, mv_nI_m]
      exact Int32.ofNat_mul a d
    rw [← e1]
    exact k H locs ls hH hS hl hn
  | iand =>
    cases mv_beq hk
    exact mv_and_ok hexec hb hg h8 hd h1 kk
  | ior =>
    cases mv_beq hk
    refine mv_bi_ok (f := fun x y => some (Nat.lor x y % 4294967296)) hg h1 (fun a d n s2 hf k H locs ls hH hS hl hn => ?_) kk
    refine lv_ior hexec hb hd ?_
    have e1 : nI n = nI a ||| nI d := by
      rw [← Option.some.inj hf, mv_nI_m]
      apply Int32.toBitVec_inj.mp
      show (Int32.ofNat (a ||| d)).toBitVec = (Int32.ofNat a).toBitVec ||| (Int32.ofNat d).toBitVec
      rw [Int32.toBitVec_ofNat', Int32.toBitVec_ofNat', Int32.toBitVec_ofNat', BitVec.ofNat_or]
    rw [← e1]
    exact k H locs ls hH hS hl hn
  | ixor =>
    cases mv_beq hk
    refine mv_bi_ok (f := fun x y => some (Nat.xor x y % 4294967296)) hg h1 (fun a d n s2 hf k H locs ls hH hS hl hn => ?_) kk
    refine lv_ixor hexec hb hd ?_
    have e1 : nI n = nI a ^^^ nI d := by
      rw [← Option.some.inj hf, mv_nI_m]
      apply Int32.toBitVec_inj.mp
      show (Int32.ofNat (a ^^^ d)).toBitVec = (Int32.ofNat a).toBitVec ^^^ (Int32.ofNat d).toBitVec
      rw [Int32.toBitVec_ofNat', Int32.toBitVec_ofNat', Int32.toBitVec_ofNat', BitVec.ofNat_xor]
    rw [← e1]
    exact k H locs ls hH hS hl hn
  | idiv =>
    cases mv_beq hk
    refine mv_bi_ok (f := fun x y => bif decide (nI y = 0) then none else some (mv_co (nI x / nI y))) hg h1 (fun a d n s2 hf k H locs ls hH hS hl hn => ?_) kk
    obtain ⟨hz, hf⟩ := mv_cnn hf
    refine lv_idiv hexec hb hd (of_decide_eq_false hz) ?_
    have e1 : nI n = nI a / nI d := by rw [← Option.some.inj hf, mv_nI_co]
    rw [← e1]
    exact k H locs ls hH hS hl hn
  | irem =>
    cases mv_beq hk
    refine mv_bi_ok (f := fun x y => bif decide (nI y = 0) then none else some (mv_co (nI x - (nI x / nI y) * nI y))) hg h1 (fun a d n s2 hf k H locs ls hH hS hl hn => ?_) kk
    obtain ⟨hz, hf⟩ := mv_cnn hf
    refine lv_irem hexec hb hd (of_decide_eq_false hz) ?_
    have e1 : nI n = nI a - nI a / nI d * nI d := by rw [← Option.some.inj hf, mv_nI_co]
    rw [← e1]
    exact k H locs ls hH hS hl hn
  | ishl =>
    cases mv_beq hk
    refine mv_bi_ok (f := fun x y => some (mv_co (nI x <<< (nI y &&& 31)))) hg h1 (fun a d n s2 hf k H locs ls hH hS hl hn => ?_) kk
    refine lv_ishl hexec hb hd ?_
    have e1 : nI n = nI a <<< (nI d &&& 31) := by rw [← Option.some.inj hf, mv_nI_co]
    rw [← e1]
    exact k H locs ls hH hS hl hn
  | ishr =>
    cases mv_beq hk
    refine mv_bi_ok (f := fun x y => some (mv_co (nI x >>> (nI y &&& 31)))) hg h1 (fun a d n s2 hf k H locs ls hH hS hl hn => ?_) kk
    refine lv_ishr hexec hb hd ?_
    have e1 : nI n = nI a >>> (nI d &&& 31) := by rw [← Option.some.inj hf, mv_nI_co]
    rw [← e1]
    exact k H locs ls hH hS hl hn
  | iushr =>
    cases mv_beq hk
    exact mv_ush_ok hexec hb hg hd h1 kk
  | i2l =>
    cases mv_beq hk
    refine mv_un_ok (f := fun x => (3, mv_cl (nI x).toInt64)) hg h1 (fun a s2 H locs ls k => ?_) kk
    exact lv_i2l (v := lN (mv_cl (nI a).toInt64)) hexec hb hd (mv_lN_cl _).symm k
  | i2d =>
    cases mv_beq hk
    refine mv_un_ok (f := fun x => (4, (FP.i2d (nI x)).toNat)) hg h1 (fun a s2 H locs ls k => ?_) kk
    refine lv_i2d hexec hb hd ?_
    have k3 : W p l e R s m args below meth c H locs nc ns Q (F0 m (pc + 1) ls (.double (UInt64.ofNat (FP.i2d (nI a)).toNat) :: s2.map (mv_val r ba b))) := k
    rw [mv_u64] at k3
    exact k3
  | ladd =>
    cases mv_beq hk
    refine mv_bl_ok (f := fun x y => (3, mv_cl (lN x + lN y))) h1 (fun a d s2 H locs ls k => ?_) kk
    refine lv_ladd hexec hb hd ?_
    have k3 : W p l e R s m args below meth c H locs nc ns Q (F0 m (pc + 1) ls (.long (lN (mv_cl (lN a + lN d))) :: s2.map (mv_val r ba b))) := k
    rw [mv_lN_cl] at k3
    exact k3
  | lmul =>
    cases mv_beq hk
    refine mv_bl_ok (f := fun x y => (3, mv_cl (lN x * lN y))) h1 (fun a d s2 H locs ls k => ?_) kk
    refine lv_lmul hexec hb hd ?_
    have k3 : W p l e R s m args below meth c H locs nc ns Q (F0 m (pc + 1) ls (.long (lN (mv_cl (lN a * lN d))) :: s2.map (mv_val r ba b))) := k
    rw [mv_lN_cl] at k3
    exact k3
  | lcmp =>
    cases mv_beq hk
    refine mv_bl_ok (f := fun x y => (0, mv_co (lg_cmp (lN x) (lN y)))) h1 (fun a d s2 H locs ls k => ?_) kk
    refine W.lcmp hexec hb hd ?_
    have k3 : W p l e R s m args below meth c H locs nc ns Q (F0 m (pc + 1) ls (.int (nI (mv_co (lg_cmp (lN a) (lN d)))) :: s2.map (mv_val r ba b))) := k
    rw [mv_nI_co] at k3
    exact k3
  | ddiv =>
    cases mv_beq hk
    exact mv_dd_ok hexec hb hd h1 kk
  | dcmp o =>
    cases mv_beq hk
    refine mv_b4_ok (f := fun x y => (0, mv_co (Op.cmpValue (FP.dcmp (UInt64.ofNat x) (UInt64.ofNat y)) o))) h1 (fun a d s2 H locs ls k => ?_) kk
    refine lv_dcmp hexec hb hd ?_
    have k3 : W p l e R s m args below meth c H locs nc ns Q (F0 m (pc + 1) ls (.int (nI (mv_co (Op.cmpValue (FP.dcmp (UInt64.ofNat a) (UInt64.ofNat d)) o))) :: s2.map (mv_val r ba b))) := k
    rw [mv_nI_co] at k3
    exact k3
  | dup => cases mv_beq hk; exact mv_dup_ok hexec hb hd h1 kk
  | pop => cases mv_beq hk; exact mv_pop_ok hexec hb hd h1 kk
  | dup_x1 => cases mv_beq hk; exact mv_dupx_ok hexec hb hd h1 kk
  | dup2 => cases mv_beq hk; exact mv_dup2_ok hexec hb hd h1 kk
  | iaload => cases mv_beq hk; exact mv_iald_ok hexec hb hg hK hsc hd h1 kk
  | laload => cases mv_beq hk; exact mv_aldl_ok hexec hb hg hK hd h1 kk
  | baload => cases mv_beq hk; exact mv_aldz_ok hexec hb hg hK hd h1 kk
  | iastore => cases mv_beq hk; exact mv_asti_ok hexec hb hg hK hd h1 kk
  | lastore => cases mv_beq hk; exact mv_astl_ok hexec hb hg hK hd h1 kk
  | bastore => cases mv_beq hk; exact mv_zst_ok hexec hb hg hK hd h1 kk
  | arraylength => cases mv_beq hk; exact mv_alen_ok hexec hb hK hsc hd h1 kk
  | _ => cases h1
end MVX
end
section
/-! ===== what a step makes is counted; an unknown parted ===== -/
section MVY
variable {g : mv_B} {loc : mv_L} {st : List mv_V} {h : List mv_C} {nc ns nL : Nat} {x : Option Nat × mv_L × List mv_V × List mv_C × Nat × Nat}
def mv_mn (h : List mv_C) (nc ns : Nat) (x : Option Nat × mv_L × List mv_V × List mv_C × Nat × Nat) : Prop := nc ≤ x.2.2.2.2.1 ∧ ns ≤ x.2.2.2.2.2 ∧ h.length + x.2.2.2.2.1 = x.2.2.2.1.length + nc
theorem mv_mn_eq {j : Option Nat} {l2 : mv_L} {s2 : List mv_V} (h1 : (some (.inr (j, l2, s2, h, nc, ns)) : mv_S) = some (.inr x)) : mv_mn h nc ns x := by
  rw [← mv_inr h1]
  exact ⟨Nat.le_refl _, Nat.le_refl _, rfl⟩
theorem mv_mn_set {l2 : mv_L} {s2 : List mv_V} {k : Nat} {c : mv_C} (h1 : mv_go l2 (h.set k c) nc ns s2 = some (.inr x)) : mv_mn h nc ns x := by
  rw [← mv_inr h1]
  exact ⟨Nat.le_refl _, Nat.le_refl _, by show h.length + nc = (h.set k c).length + nc; rw [List.length_set]⟩
theorem mv_mn_ld {f : mv_V → Bool} {i : Nat} (h1 : mv_ld loc st h nc ns f i = some (.inr x)) : mv_mn h nc ns x := by
  unfold mv_ld at h1
  split at h1
  · exact mv_mn_eq (mv_cndn h1).2
  · cases h1
theorem mv_mn_sto {f : mv_V → Bool} {i : Nat} (h1 : mv_sto loc st h nc ns f nL i = some (.inr x)) : mv_mn h nc ns x := by
  unfold mv_sto at h1
  split at h1
  · have h2 := (mv_cndn h1).2
    rw [mv_fi_eq] at h2
    exact mv_mn_eq h2
  · cases h1
theorem mv_mn_sto2 {f : mv_V → Bool} {i : Nat} (h1 : mv_sto2 loc st h nc ns f nL i = some (.inr x)) : mv_mn h nc ns x := by
  unfold mv_sto2 at h1
  split at h1
  · have h2 := (mv_cndn h1).2
    rw [mv_fi_eq] at h2
    exact mv_mn_eq h2
  · cases h1
theorem mv_mn_un {f : Nat → mv_V} (h1 : mv_un g loc st h nc ns f = some (.inr x)) : mv_mn h nc ns x := by
  unfold mv_un at h1
  split at h1
  · split at h1
    · rw [mv_fo_eq] at h1; exact mv_mn_eq h1
    · cases h1
    · cases h1
  · cases h1
theorem mv_mn_bi {f : Nat → Nat → Option Nat} (h1 : mv_bi g loc st h nc ns f = some (.inr x)) : mv_mn h nc ns x := by
  unfold mv_bi at h1
  split at h1
  · split at h1
    · split at h1
      · split at h1
        · rw [mv_fo_eq] at h1; exact mv_mn_eq h1
        · cases h1
      · cases h1
      · cases h1
    · cases h1
    · cases h1
  · cases h1
theorem mv_mn_bl {f : Nat → Nat → mv_V} (h1 : mv_bl loc st h nc ns f = some (.inr x)) : mv_mn h nc ns x := by
  unfold mv_bl at h1
  split at h1
  · have h2 := (mv_cndn h1).2
    rw [mv_fo_eq] at h2
    exact mv_mn_eq h2
  · cases h1
theorem mv_mn_b4 {f : Nat → Nat → mv_V} (h1 : mv_b4 loc st h nc ns f = some (.inr x)) : mv_mn h nc ns x := by
  unfold mv_b4 at h1
  split at h1
  · have h2 := (mv_cndn h1).2
    rw [mv_fo_eq] at h2
    exact mv_mn_eq h2
  · cases h1
theorem mv_mn_dd (h1 : mv_dd loc st h nc ns = some (.inr x)) : mv_mn h nc ns x := by
  unfold mv_dd at h1
  split at h1
  · have h2 := (mv_cndn h1).2
    rw [mv_fo_eq] at h2
    exact mv_mn_eq h2
  · cases h1
theorem mv_mn_br {o : ClassFile.Cond} {v w : mv_V} {s2 : List mv_V} {t : Nat} (h1 : mv_br g loc h nc ns o v w s2 t = some (.inr x)) : mv_mn h nc ns x := by
  unfold mv_br at h1
  split at h1
  · exact mv_mn_eq h1
  · exact mv_mn_eq h1
  · cases h1
  · cases h1
theorem mv_mn_ic {o : ClassFile.Cond} {t : Nat} (h1 : mv_ic g loc st h nc ns o t = some (.inr x)) : mv_mn h nc ns x := by
  unfold mv_ic at h1
  split at h1
  · exact mv_mn_br h1
  · cases h1
theorem mv_mn_if {o : ClassFile.Cond} {t : Nat} (h1 : mv_if g loc st h nc ns o t = some (.inr x)) : mv_mn h nc ns x := by
  unfold mv_if at h1
  split at h1
  · exact mv_mn_br h1
  · cases h1
theorem mv_mn_inc {i n : Nat} (h1 : mv_inc g loc st h nc ns nL i n = some (.inr x)) : mv_mn h nc ns x := by
  unfold mv_inc at h1
  split at h1
  · split at h1
    · have h2 := (mv_cndn h1).2
      rw [mv_fo_eq, mv_fi_eq] at h2
      exact mv_mn_eq h2
    · cases h1
    · cases h1
  · cases h1
theorem mv_mn_ar {t : Nat} {y z : mv_V} {k : Nat → List mv_V → Nat → mv_S} (h1 : mv_ar g h t y z k = some (.inr x)) (hk : ∀ q l a, k q l a = some (.inr x) → mv_mn h nc ns x) : mv_mn h nc ns x := by
  unfold mv_ar at h1
  have h2 := (mv_cndn h1).2
  split at h2
  · split at h2
    · exact hk _ _ _ (mv_cndn h2).2
    · cases h2
  · cases h2
  · cases h2
theorem mv_mn_ald {t : Nat} {f : mv_V → Bool} (h1 : mv_ald g loc st h nc ns t f = some (.inr x)) : mv_mn h nc ns x := by
  unfold mv_ald at h1
  split at h1
  · refine mv_mn_ar h1 (fun q l a h2 => ?_)
    split at h2
    · exact mv_mn_eq (mv_cndn h2).2
    · cases h2
  · cases h1
theorem mv_mn_ast {t : Nat} {f : mv_V → Bool} (h1 : mv_ast g loc st h nc ns t f = some (.inr x)) : mv_mn h nc ns x := by
  unfold mv_ast at h1
  split at h1
  · refine mv_mn_ar (mv_cndn h1).2 (fun q l a h2 => ?_)
    rw [mv_ls_eq, mv_ls_eq] at h2
    exact mv_mn_set h2
  · cases h1
theorem mv_mn_zst (h1 : mv_zst g loc st h nc ns = some (.inr x)) : mv_mn h nc ns x := by
  unfold mv_zst at h1
  split at h1
  · split at h1
    · refine mv_mn_ar (mv_cndn h1).2 (fun q l a h2 => ?_)
      rw [mv_ls_eq, mv_ls_eq] at h2
      exact mv_mn_set h2
    · cases h1
    · cases h1
  · cases h1
theorem mv_mn_len (h1 : mv_len loc st h nc ns = some (.inr x)) : mv_mn h nc ns x := by
  unfold mv_len at h1
  split at h1
  · have h2 := (mv_cndn h1).2
    split at h2
    · have h3 := (mv_cndn h2).2
      rw [mv_fo_eq] at h3
      exact mv_mn_eq h3
    · cases h2
  · cases h1
theorem mv_mn_gf {ci k : Nat} (h1 : mv_gf loc st h nc ns ci k = some (.inr x)) : mv_mn h nc ns x := by
  unfold mv_gf at h1
  split at h1
  · have h2 := (mv_cndn h1).2
    split at h2
    · have h3 := (mv_cndn h2).2
      split at h3
      · exact mv_mn_eq h3
      · cases h3
    · cases h2
  · cases h1
theorem mv_mn_pf {ci k t : Nat} (h1 : mv_pf loc st h nc ns ci k t = some (.inr x)) : mv_mn h nc ns x := by
  unfold mv_pf at h1
  split at h1
  · have h2 := (mv_cndn h1).2
    split at h2
    · have h3 := (mv_cndn h2).2
      rw [mv_ls_eq, mv_ls_eq] at h3
      exact mv_mn_set h3
    · cases h2
  · cases h1
theorem mv_mn_na {t : Nat} (h1 : mv_na g loc st h nc ns t = some (.inr x)) : mv_mn h nc ns x := by
  unfold mv_na at h1
  split at h1
  · split at h1
    · have h2 := (mv_cndn h1).2
      rw [mv_fo_eq, mv_sn_eq] at h2
      rw [← mv_inr h2]
      exact ⟨Nat.le_add_right _ _, Nat.le_add_right _ _, by show h.length + (nc + 1) = (h ++ [_]).length + nc; rw [List.length_append]; show h.length + (nc + 1) = h.length + 1 + nc; omega⟩
    · cases h1
    · cases h1
  · cases h1
theorem mv_mn_nw {ci : Nat} {l : List mv_V} (h1 : mv_nw loc st h nc ns ci l = some (.inr x)) : mv_mn h nc ns x := by
  unfold mv_nw at h1
  rw [mv_fo_eq, mv_sn_eq] at h1
  rw [← mv_inr h1]
  exact ⟨Nat.le_add_right _ _, Nat.le_add_right _ _, by show h.length + (nc + 1) = (h ++ [_]).length + nc; rw [List.length_append]; show h.length + (nc + 1) = h.length + 1 + nc; omega⟩
theorem mv_mn_and (h1 : mv_and g loc st h nc ns = some (.inr x)) : mv_mn h nc ns x := by
  unfold mv_and at h1
  split at h1
  · rcases mv_cnd h1 with ⟨-, h2⟩ | ⟨-, h2⟩
    · exact mv_mn_eq h2
    · exact mv_mn_bi h2
  · cases h1
theorem mv_mn_ush (h1 : mv_ush g loc st h nc ns = some (.inr x)) : mv_mn h nc ns x := by
  unfold mv_ush at h1
  split at h1
  · rcases mv_cnd h1 with ⟨-, h2⟩ | ⟨-, h2⟩
    · rcases mv_cnd h2 with ⟨-, h3⟩ | ⟨-, h3⟩
      · rcases mv_cnd h3 with ⟨-, h4⟩ | ⟨-, h4⟩
        · exact mv_mn_eq h4
        · rcases mv_cnd h4 with ⟨-, h5⟩ | ⟨-, h5⟩
          · exact mv_mn_bi h5
          · cases h5
      · cases h3
    · exact mv_mn_bi h2
  · cases h1
theorem mv_mn_iald (h1 : mv_iald g loc st h nc ns = some (.inr x)) : mv_mn h nc ns x := by
  unfold mv_iald at h1
  split at h1
  · rcases mv_cnd h1 with ⟨-, h2⟩ | ⟨-, h2⟩
    · unfold mv_sld at h2
      split at h2
      · have h3 := (mv_cndn h2).2
        rw [mv_fo_eq] at h3
        split at h3
        · exact mv_mn_eq h3
        · exact mv_mn_eq h3
      · cases h2
      · cases h2
    · exact mv_mn_ald h2
  · cases h1
theorem mv_mn_alen (h1 : mv_alen loc st h nc ns = some (.inr x)) : mv_mn h nc ns x := by
  unfold mv_alen at h1
  split at h1
  · rcases mv_cnd h1 with ⟨-, h2⟩ | ⟨-, h2⟩
    · exact mv_mn_eq h2
    · exact mv_mn_len h2
  · cases h1
theorem mv_mn_tsw {pc : Nat} {d lo hi : Int} {offs : Array Int} (h1 : mv_tsw g loc st h nc ns pc d lo hi offs = some (.inr x)) : mv_mn h nc ns x := by
  unfold mv_tsw at h1
  split at h1
  · split at h1
    · rcases mv_cnd h1 with ⟨-, h2⟩ | ⟨-, h2⟩
      · have h3 := (mv_cndn h2).2
        rw [mv_fo_eq] at h3
        exact mv_mn_eq h3
      · split at h2
        · have h3 := (mv_cndn h2).2
          rw [mv_fo_eq] at h3
          exact mv_mn_eq h3
        · cases h2
    · cases h1
    · cases h1
  · cases h1
theorem mv_mn_lsw {pc : Nat} {d : Int} {ps : Array (Int × Int)} (h1 : mv_lsw g loc st h nc ns pc d ps = some (.inr x)) : mv_mn h nc ns x := by
  unfold mv_lsw at h1
  split at h1
  · split at h1
    · have h3 := (mv_cndn h1).2
      rw [mv_fo_eq] at h3
      exact mv_mn_eq h3
    · cases h1
    · cases h1
  · cases h1
theorem mv_mn_dup (h1 : mv_dup loc st h nc ns = some (.inr x)) : mv_mn h nc ns x := by
  unfold mv_dup at h1
  split at h1
  · exact mv_mn_eq (mv_cnn h1).2
  · cases h1
theorem mv_mn_pop (h1 : mv_pop loc st h nc ns = some (.inr x)) : mv_mn h nc ns x := by
  unfold mv_pop at h1
  split at h1
  · exact mv_mn_eq (mv_cnn h1).2
  · cases h1
theorem mv_mn_dupx (h1 : mv_dupx loc st h nc ns = some (.inr x)) : mv_mn h nc ns x := by
  unfold mv_dupx at h1
  split at h1
  · exact mv_mn_eq (mv_cnn h1).2
  · cases h1
theorem mv_mn_dup2 (h1 : mv_dup2 loc st h nc ns = some (.inr x)) : mv_mn h nc ns x := by
  unfold mv_dup2 at h1
  split at h1
  · rcases mv_cnd h1 with ⟨-, h2⟩ | ⟨-, h2⟩
    · exact mv_mn_eq h2
    · split at h2
      · exact mv_mn_eq (mv_cnn h2).2
      · cases h2
  · cases h1
theorem mv_mn_s1 {dv : Nat → List mv_V} {i : Instr} {pc a k : Nat} (h1 : mv_s1 g loc st h nc ns dv nL i pc a k = some (.inr x)) : mv_mn h nc ns x := by
  cases i with
  | iconst n => exact mv_mn_eq h1
  | bipush n => exact mv_mn_eq h1
  | sipush n => exact mv_mn_eq h1
  | ldc n => exact mv_mn_eq h1
  | ldc_w n => exact mv_mn_eq h1
  | lconst n => exact mv_mn_eq h1
  | ldc2_w n => exact mv_mn_eq h1
  | dconst n => exact mv_mn_eq h1
  | iload_n n => exact mv_mn_ld h1
  | iload n => exact mv_mn_ld h1
  | lload_n n => exact mv_mn_ld h1
  | lload n => exact mv_mn_ld h1
  | dload_n n => exact mv_mn_ld h1
  | dload n => exact mv_mn_ld h1
  | aload_n n => exact mv_mn_ld h1
  | aload n => exact mv_mn_ld h1
  | istore_n n => exact mv_mn_sto h1
  | istore n => exact mv_mn_sto h1
  | astore_n n => exact mv_mn_sto h1
  | astore n => exact mv_mn_sto h1
  | lstore_n n => exact mv_mn_sto2 h1
  | lstore n => exact mv_mn_sto2 h1
  | dstore_n n => exact mv_mn_sto2 h1
  | dstore n => exact mv_mn_sto2 h1
  | iinc n z => exact mv_mn_inc h1
  | ifCond o off => exact mv_mn_if h1
  | if_icmp o off => exact mv_mn_ic h1
  | goto off => exact mv_mn_eq h1
  | tableswitch d lo hi offs => exact mv_mn_tsw h1
  | lookupswitch d ps => exact mv_mn_lsw h1
  | getfield n => exact mv_mn_gf h1
  | putfield n => exact mv_mn_pf h1
  | newarray t => exact mv_mn_na h1
  | new n => exact mv_mn_nw h1
  | iadd => exact mv_mn_bi (f := fun x y => some ((x + y) % 4294967296)) h1
  | isub => exact mv_mn_bi (f := fun x y => some ((x + (4294967296 - y % 4294967296)) % 4294967296)) h1
  | imul => exact mv_mn_bi (f := fun x y => some (x * y % 4294967296)) h1
  | iand => exact mv_mn_and h1
  | ior => exact mv_mn_bi (f := fun x y => some (Nat.lor x y % 4294967296)) h1
  | ixor => exact mv_mn_bi (f := fun x y => some (Nat.xor x y % 4294967296)) h1
  | idiv => exact mv_mn_bi (f := fun x y => bif decide (nI y = 0) then none else some (mv_co (nI x / nI y))) h1
  | irem => exact mv_mn_bi (f := fun x y => bif decide (nI y = 0) then none else some (mv_co (nI x - (nI x / nI y) * nI y))) h1
  | ishl => exact mv_mn_bi (f := fun x y => some (mv_co (nI x <<< (nI y &&& 31)))) h1
  | ishr => exact mv_mn_bi (f := fun x y => some (mv_co (nI x >>> (nI y &&& 31)))) h1
  | iushr => exact mv_mn_ush h1
  | i2l => exact mv_mn_un (f := fun x => (3, mv_cl (nI x).toInt64)) h1
  | i2d => exact mv_mn_un (f := fun x => (4, (FP.i2d (nI x)).toNat)) h1
  | ladd => exact mv_mn_bl (f := fun x y => (3, mv_cl (lN x + lN y))) h1
  | lmul => exact mv_mn_bl (f := fun x y => (3, mv_cl (lN x * lN y))) h1
  | lcmp => exact mv_mn_bl (f := fun x y => (0, mv_co (lg_cmp (lN x) (lN y)))) h1
  | ddiv => exact mv_mn_dd h1
  | dcmp o => exact mv_mn_b4 (f := fun x y => (0, mv_co (Op.cmpValue (FP.dcmp (UInt64.ofNat x) (UInt64.ofNat y)) o))) h1
  | dup => exact mv_mn_dup h1
  | pop => exact mv_mn_pop h1
  | dup_x1 => exact mv_mn_dupx h1
  | dup2 => exact mv_mn_dup2 h1
  | iaload => exact mv_mn_iald h1
  | laload => exact mv_mn_ald h1
  | baload => exact mv_mn_ald h1
  | iastore => exact mv_mn_ast h1
  | lastore => exact mv_mn_ast h1
  | bastore => exact mv_mn_zst h1
  | arraylength => exact mv_mn_alen h1
  | _ => cases h1
theorem mv_bds {g : mv_B} {i j : Nat} {q : Nat × Nat} (hi : i < g.length) : mv_bd (g.set i q) j = if j = i then q else mv_bd g j := by
  unfold mv_bd
  rw [List.getElem?_set]
  by_cases hj : i = j
  · subst hj; simp [hi]
  · rw [if_neg hj, if_neg (fun z => hj z.symm)]
theorem mv_pt3_ok {r : Nat → Int32} {q : Nat × Nat} {f : mv_B → Bool} (hg : mv_in g r) (h1 : mv_pt3 g q f = true) : ∃ g2 : mv_B, mv_in g2 r ∧ f g2 = true := by
  unfold mv_pt3 at h1
  rcases mv_cnd h1 with ⟨hl, h1⟩ | ⟨-, h1⟩
  · have hl := mv_blt hl
    simp only [Bool.and_eq_true] at h1
    obtain ⟨h2, h3, h4⟩ := h1
    have key : ∀ a b : Nat, a ≤ mv_cd (r q.1) → mv_cd (r q.1) ≤ b → mv_in (g.set q.1 (a, b)) r := fun a b ha hb j => by
      rw [mv_bds hl]
      by_cases hj : j = q.1
      · rw [if_pos hj, hj]; exact ⟨ha, hb⟩
      · rw [if_neg hj]; exact hg j
    have hq := hg q.1
    rcases Nat.lt_trichotomy (mv_cd (r q.1)) q.2 with z | z | z
    · rcases mv_cnd h2 with ⟨-, h5⟩ | ⟨h5, -⟩
      · rw [mv_fo_eq, mv_fo_eq, mv_ls_eq] at h5
        exact ⟨_, key _ _ hq.1 (by omega), h5⟩
      · have := mv_nblt h5
        omega
    · rw [mv_fo_eq, mv_ls_eq] at h3
      exact ⟨_, key _ _ (by omega) (by omega), h3⟩
    · rcases mv_cnd h4 with ⟨-, h5⟩ | ⟨h5, -⟩
      · rw [mv_fo_eq, mv_fo_eq, mv_ls_eq] at h5
        exact ⟨_, key _ _ (by omega) hq.2, h5⟩
      · have := mv_nblt h5
        omega
  · cases h1
theorem mv_pt2_ok {r : Nat → Int32} {q : Nat × Nat} {f : mv_B → Bool} (hg : mv_in g r) (h1 : mv_pt2 g q f = true) : ∃ g2 : mv_B, mv_in g2 r ∧ f g2 = true := by
  unfold mv_pt2 at h1
  rcases mv_cnd h1 with ⟨hl, h1⟩ | ⟨-, h1⟩
  · have hl := mv_blt hl
    simp only [Bool.and_eq_true] at h1
    obtain ⟨h2, h4⟩ := h1
    have key : ∀ a b : Nat, a ≤ mv_cd (r q.1) → mv_cd (r q.1) ≤ b → mv_in (g.set q.1 (a, b)) r := fun a b ha hb j => by
      rw [mv_bds hl]
      by_cases hj : j = q.1
      · rw [if_pos hj, hj]; exact ⟨ha, hb⟩
      · rw [if_neg hj]; exact hg j
    have hq := hg q.1
    by_cases z : mv_cd (r q.1) < q.2
    · rcases mv_cnd h2 with ⟨-, h5⟩ | ⟨h5, -⟩
      · rw [mv_fo_eq, mv_fo_eq, mv_ls_eq] at h5
        exact ⟨_, key _ _ hq.1 (by omega), h5⟩
      · have := mv_nblt h5
        omega
    · rcases mv_cnd h4 with ⟨-, h5⟩ | ⟨h5, -⟩
      · rw [mv_fo_eq, mv_fo_eq, mv_ls_eq] at h5
        exact ⟨_, key _ _ (by omega) hq.2, h5⟩
      · have := mv_nble h5
        omega
  · cases h1
theorem mv_pt_ok {r : Nat → Int32} {q : Nat × Nat} {f : mv_B → Bool} (hg : mv_in g r) (h1 : mv_pt g q f = true) : ∃ g2 : mv_B, mv_in g2 r ∧ f g2 = true := by
  unfold mv_pt at h1
  rcases mv_cnd h1 with ⟨-, h1⟩ | ⟨-, h1⟩
  · exact mv_pt2_ok hg h1
  · exact mv_pt3_ok hg h1
end MVY
end
section
/-! ===== what every method's start brings along; a throw; a method called ===== -/
def mv_nst : List Cond := [.methodLinkNest "BoundWright" 36 ⟨"BoundWright$Routines", "<init>", "()V"⟩ "BoundWright",
  .methodLinkNest "BoundWright" 368 ⟨"BoundWright$Order", "isKeeping", "(II)Z"⟩ "BoundWright",
  .methodLinkNest "BoundWright$Order" 108 ⟨"BoundWright$Forms", "put", "(IIIII)I"⟩ "BoundWright",
  .methodLinkNest "BoundWright" 207 ⟨"BoundWright$Order", "joined", "(IIZI)I"⟩ "BoundWright",
  .methodLinkNest "BoundWright$Review" 141 ⟨"BoundWright$Forms", "put", "(IIIII)I"⟩ "BoundWright",
  .methodLinkNest "BoundWright$Review" 148 ⟨"BoundWright$Order", "isKeeping", "(II)Z"⟩ "BoundWright",
  .methodLinkNest "BoundWright$Review" 195 ⟨"BoundWright$Order", "isUnder", "(III)Z"⟩ "BoundWright",
  .methodLinkNest "BoundWright" 203 ⟨"BoundWright$Order", "isUnder", "(III)Z"⟩ "BoundWright",
  .methodLinkNest "BoundWright$Caller" 68 ⟨"BoundWright$Forms", "put", "(IIIII)I"⟩ "BoundWright",
  .methodLinkNest "BoundWright$Caller" 126 ⟨"BoundWright$Order", "joined", "(IIZI)I"⟩ "BoundWright",
  .methodLinkNest "BoundWright$Caller" 118 ⟨"BoundWright$Order", "isUnder", "(III)Z"⟩ "BoundWright",
  .declares ⟨"java/lang/RuntimeException", "<init>", "()V"⟩,
  .declares ⟨"java/lang/RuntimeException", "<init>", "(Ljava/lang/String;)V"⟩,
  .declares ⟨"java/lang/Exception", "<init>", "()V"⟩,
  .declares ⟨"java/lang/Exception", "<init>", "(Ljava/lang/String;)V"⟩,
  .declares ⟨"java/lang/Throwable", "<init>", "()V"⟩,
  .declares ⟨"java/lang/Throwable", "<init>", "(Ljava/lang/String;)V"⟩,
  .castable "java/lang/IllegalArgumentException" "java/lang/IllegalArgumentException",
  .castable "java/lang/IndexOutOfBoundsException" "java/lang/IndexOutOfBoundsException",
  .castable "java/lang/IllegalStateException" "java/lang/IllegalStateException"]
def mv_str : List (String × Nat × String) := [("BoundWright", 349, "not asked so"), ("BoundWright", 220, "no such class"), ("BoundWright", 347, "no such type"), ("BoundWright", 237, "no such method"), ("BoundWright", 74, "no such variance"), ("BoundWright", 85, "too many classes"), ("BoundWright", 345, "no such parameter"), ("BoundWright", 114, "no bound for this class"), ("BoundWright", 125, "nothing to extend for this class"), ("BoundWright", 133, "extends too many, or one of that class"), ("BoundWright", 179, "no such argument, or too deep"), ("BoundWright", 366, "too many types"), ("BoundWright", 185, "no array of that"), ("BoundWright", 239, "many of no array"), ("BoundWright", 242, "too many methods"), ("BoundWright", 253, "no bound of a variable"), ("BoundWright", 273, "no such call"), ("BoundWright", 288, "no such name"), ("BoundWright", 293, "no such fault")]
def mv_ex : Nat → String
  | 0 => "java/lang/IllegalArgumentException"
  | 1 => "java/lang/IndexOutOfBoundsException"
  | _ => "java/lang/IllegalStateException"
def mv_ncs : List (String × String) := [(mv_ex 0, mv_ex 1), (mv_ex 0, mv_ex 2), (mv_ex 1, mv_ex 0), (mv_ex 1, mv_ex 2), (mv_ex 2, mv_ex 0), (mv_ex 2, mv_ex 1)]
def mv_tk2 : Nat → Nat
  | 0 => 72
  | 1 => 291
  | _ => 83
def mv_tc2 : Nat → Nat
  | 0 => 76
  | 1 => 295
  | _ => 87
def mv_xnm : List String := ["java/lang/RuntimeException", "java/lang/Exception"]
theorem mv_tw0 : (∀ w ∈ Cond.classLink RX7 (mv_tk2 0) (mv_ex 0) :: Cond.initialized (mv_ex 0) :: vx_atS RX7 (mv_tc2 0) (mv_ex 0) mv_xnm, (w ∈ mv_big ∨ (w ∈ mv_nst ∧ w.onTables = true)) ∧ vx_ot w = true) ∧ Bundle.fit (mv_ex 0) = true := by decide +kernel
theorem mv_tw1 : (∀ w ∈ Cond.classLink RX7 (mv_tk2 1) (mv_ex 1) :: Cond.initialized (mv_ex 1) :: vx_atS RX7 (mv_tc2 1) (mv_ex 1) mv_xnm, (w ∈ mv_big ∨ (w ∈ mv_nst ∧ w.onTables = true)) ∧ vx_ot w = true) ∧ Bundle.fit (mv_ex 1) = true := by decide +kernel
theorem mv_tw2 : (∀ w ∈ Cond.classLink RX7 (mv_tk2 2) (mv_ex 2) :: Cond.initialized (mv_ex 2) :: vx_atS RX7 (mv_tc2 2) (mv_ex 2) mv_xnm, (w ∈ mv_big ∨ (w ∈ mv_nst ∧ w.onTables = true)) ∧ vx_ot w = true) ∧ Bundle.fit (mv_ex 2) = true := by decide +kernel
theorem mv_xfit : ∀ n ∈ mv_xnm, Bundle.fit n = true := by decide +kernel
def mv_nwk : Cond → Bool
  | .methodLinkNest _ _ _ _ => true
  | .declares _ => true
  | .castable _ _ => true
  | _ => false
theorem mv_nw_k : ∀ w ∈ mv_nst, mv_nwk w = true := by decide +kernel
theorem mv_nw_t {w : Cond} (h : mv_nwk w = true) : w.onTables = true := by cases w <;> first | rfl | cases h
theorem mv_nw_w {w : Cond} {s U : State} (h : mv_nwk w = true) (hW : s.WarmedH U.vm) (hZ : va_Nw w s) : va_Nw w U := by
  cases w with
  | methodLinkNest a i x y => exact va_Nw.warmM hW hZ
  | declares x => exact va_Nw.warmD hW hZ
  | castable x y => exact va_Nw.warmC hW hZ
  | _ => cases h
abbrev mv_ZU (ba : mv_A) (U : State) (H : Heap) : Prop := vx_Zq Bundle.tN "UNASSIGNED_STACK" Bundle.steD (fun q => ba.1 ≤ q) U H
abbrev mv_ZN (ba : mv_A) (U : State) (H : Heap) : Prop := vx_Zq Bundle.tN "SUPPRESSED_SENTINEL" Bundle.listD (fun q => ba.1 ≤ q) U H
/-- what holds at every method's start, beside its own code -/
def mv_en (D : va_G) (cs : ClassId × ClassId × ClassId) (r : Nat → Int32) (ba : mv_A) (b : Nat) (U : State) : Prop :=
  va_K D vwCl (mv_tys cs) U ∧ mv_sc r ba b U ∧ mv_ZU ba U U.heap ∧ mv_ZN ba U U.heap ∧ (∀ w ∈ mv_nst, va_Nw w U) ∧ (∀ q ∈ mv_str, ∃ a : Nat, vk_R q.1 q.2.1 q.2.2 a U) ∧ (∀ q ∈ mv_ncs, va_Nc q.1 q.2 U) ∧ ba.1 ≤ U.heap.size
theorem mv_en.go {D : va_G} {cs : ClassId × ClassId × ClassId} {r : Nat → Int32} {ba : mv_A} {b : Nat} {s U : State} {H : Heap} {locs : List Loc} (h : mv_en D cs r ba b s) (hW : s.WarmedH U.vm) (hU : U.heap = H) (hS : va_S (fun q => ba.1 ≤ q) s.heap H locs) : mv_en D cs r ba b U := by
  obtain ⟨h1, ⟨L, xs, hX, hbl, hbA, hr, hrL, hL, hr2⟩, h3, h4, h5, h6, h7, h8⟩ := h
  subst hU
  refine ⟨va_K.moved hW.alike h1, ⟨L, xs, (hX.moved hW.alike).kept (hS.2.1 b hbl (Nat.not_le.mpr hbA)), Nat.lt_of_lt_of_le hbl hS.1, hbA, hr, hrL, hL, hr2⟩, (vx_Zq.moved hW.alike h3).kept hS.2.1, (vx_Zq.moved hW.alike h4).kept hS.2.1, fun w hw => mv_nw_w (mv_nw_k w hw) hW (h5 w hw), fun q hq => ?_, fun q hq => va_Nc.moved hW.alike (h7 q hq), Nat.le_trans h8 hS.1⟩
  obtain ⟨a, ha⟩ := h6 q hq
  exact ⟨a, vk_R.warm hW ha⟩
def mv_Pc (D : va_G) (cs : ClassId × ClassId × ClassId) (r : Nat → Int32) (ba : mv_A) (b : Nat) (as : List mv_V) (h : List mv_C) : Array Value → State → Prop := fun v U => v = (as.map (mv_val r ba b)).toArray ∧ mv_en D cs r ba b U ∧ mv_hok D cs r ba b h U.heap
theorem mv_blind (D : va_G) (cs : ClassId × ClassId × ClassId) (r : Nat → Int32) (ba : mv_A) (b : Nat) (as : List mv_V) (h : List mv_C) : FrameBlind (mv_Pc D cs r ba b as h) := by
  intro a U g mk hP
  obtain ⟨h1, h2, h3⟩ := hP
  exact ⟨h1, h2.go (U := U.calling g mk a) (H := U.heap) (locs := []) (State.WarmedH.refl U) rfl va_S.rf, h3⟩
def mv_rv (r : Nat → Int32) (ba : mv_A) (b : Nat) (res : Nat × mv_V) : Option Value := bif Nat.beq res.1 0 then none else some (mv_val r ba b res.2)
def mv_Qc (D : va_G) (cs : ClassId × ClassId × ClassId) (r : Nat → Int32) (ba : mv_A) (b : Nat) (res : Nat × mv_V) (h2 : List mv_C) : Array Value → State → Outcome → State → Prop := fun _ st o t =>
  res.1 < 2 ∧ o = .returned (mv_rv r ba b res) ∧ mv_hok D cs r ba b h2 t.heap ∧ va_F (fun q => ba.1 ≤ q) st t
def mv_XC (D : va_G) (cs : ClassId × ClassId × ClassId) (r : Nat → Int32) (ba : mv_A) (b : Nat) (res : Nat × mv_V) (h2 : List mv_C) : String → State → State → Prop := fun E st t =>
  2 ≤ res.1 ∧ E = mv_ex (res.1 - 2) ∧ mv_ad ba h2.length ≤ t.heap.size ∧ (∀ (k : Nat) (c : mv_C), h2[k]? = some c → mv_cok D cs r ba b (mv_ad ba k) c t.heap) ∧ va_F (fun q => ba.1 ≤ q) st t
def mv_rm (dep mc ms : Nat) : Room := { frames := dep, cells := mc, slots := ms, locals := 100 * dep }
/-- a method's own facts -/
def mv_fr (x : mv_I) (p : Program) (s : State) (m : MethodId) (args : Array Value) (meth : Method) (c : Code) : Prop :=
  p.tables.exec = Jvm.exec ∧ c.code = x.2.1 ∧ c.maxLocals = x.2.2.1 ∧ s.vm.findClass x.1.cls = some m.cls ∧ (∀ w ∈ mv_big, w.before args s = true) ∧ meth.sig.returnType = x.2.2.2.1 ∧ meth.locks = false ∧ meth.name = x.1.name ∧ c.exceptionTable.toList = tableOf x.2.2.2.2.2.2.2
/-- from this place of the method its end is this -/
def mv_run (l : Launch) (D : va_G) (cs : ClassId × ClassId × ClassId) (r : Nat → Int32) (ba : mv_A) (b : Nat) (x : mv_I) (dep : Nat) (loc : mv_L) (st : List mv_V) (h : List mv_C) (nc ns pc : Nat) (res : Nat × mv_V) (h2 : List mv_C) (c2 n2 : Nat) : Prop :=
  nc ≤ c2 ∧ ns ≤ n2 ∧ h.length + c2 = h2.length + nc ∧ ∀ (p : Program) (e : Env) (R : Room) (s : State) (m : MethodId) (args : Array Value) (below : List Frame) (meth : Method) (c : Code), mv_fr x p s m args meth c → mv_en D cs r ba b s → dep ≤ R.frames → 100 * dep ≤ R.locals → c2 ≤ R.cells → n2 ≤ R.slots →
    mv_W p l e R s m args below meth c (vx_MQ below (mv_Qc D cs r ba b res h2) (mv_XC D cs r ba b res h2) args s c2 n2 (fun q => ba.1 ≤ q)) D cs r ba b x.2.2.1 loc st h nc ns pc
theorem mv_args (r : Nat → Int32) (ba : mv_A) (b : Nat) : ∀ (i : Nat) (as : List mv_V), lv_args i (as.map (mv_val r ba b)) = (mv_ag i as).map (mv_lv r ba b)
  | _, [] => rfl
  | i, v :: t => by
    show (i, mv_val r ba b v) :: lv_args (if (mv_val r ba b v).category = 2 then i + 2 else i + 1) (t.map (mv_val r ba b)) = (i, mv_val r ba b v) :: (mv_ag (bif mv_w2 v then i + 2 else i + 1) t).map (mv_lv r ba b)
    rw [← mv_args r ba b _ t, (mv_cat r ba b v).2]
    cases mv_w2 v <;> rfl
theorem mv_lgs (r : Nat → Int32) (ba : mv_A) (b : Nat) : ∀ (as : List mv_V), (lg_sl (as.map (mv_val r ba b))).length = mv_cs as
  | [] => rfl
  | v :: t => by
    have ih := mv_lgs r ba b t
    unfold lg_sl at ih ⊢
    rw [List.map_cons, List.flatMap_cons, List.length_append, ih]
    show _ = (bif mv_w2 v then 2 else 1) + mv_cs t
    rw [(mv_cat r ba b v).2]
    cases mv_w2 v <;> rfl
theorem mv_csum (r : Nat → Int32) (ba : mv_A) (b : Nat) : ∀ (as : List mv_V), ((as.map (mv_val r ba b)).map fun v => v.category).sum = mv_cs as
  | [] => rfl
  | v :: t => by
    have ih := mv_csum r ba b t
    rw [List.map_cons, List.map_cons, List.sum_cons, ih, (mv_cat r ba b v).2]
    rfl
section MVTH
variable {p : Program} {l : Launch} {e : Env} {R : Room} {s : State} {m : MethodId} {args : Array Value} {below : List Frame} {meth : Method} {c : Code} {H : Heap} {locs : List Loc} {cells slots : Nat} {Q : State → Prop}
variable {mc ms : Nat} {free : Addr → Prop} {A0 A1 : Nat → Prop} {H0 : Heap} {a : Array Value} {ls : Array Slot} {st0 rest : List Value}
variable {Qc : Array Value → State → Outcome → State → Prop} {XC : String → State → State → Prop}
/-! as vx_throwS and vx_throwSW of the pasted laws, with one more fact: the heap has grown -/
theorem mv_throwS {cc : ByteArray} {pc : Nat} (hexec : p.tables.exec = Jvm.exec) (hb : c.code = cc) (hl : l.stackTraces = false) {own cls text : String} {names : List String} {ik is ic mc ms sa : Nat} {A : Nat → Prop}
    (hown : s.vm.findClass own = some m.cls) (hcls : Bundle.fit cls = true) (hnames : ∀ n ∈ names, Bundle.fit n = true)
    (hk : (Cond.classLink own ik cls).before args s = true) (hini : (Cond.initialized cls).before args s = true) (hstr : vk_R own is text sa s) (hat : ∀ w ∈ vx_atS own ic cls names, w.before args s = true)
    (hgood : ∀ w ∈ Cond.classLink own ik cls :: Cond.initialized cls :: vx_atS own ic cls names, vx_ot w = true)
    (hU : vx_Zq Bundle.tN "UNASSIGNED_STACK" Bundle.steD A s s.heap) (hN : vx_Zq Bundle.tN "SUPPRESSED_SENTINEL" Bundle.listD A s s.heap) (hS : va_S A s.heap H locs) (hsize : ls.size = c.maxLocals)
    (d0 : decode cc pc = .ok (.new ik, 3)) (d3 : decode cc (pc + 3) = .ok (.dup, 1)) (d4 : decode cc (pc + 4) = .ok (.ldc is, 2)) (d6 : decode cc (pc + 6) = .ok (.invokespecial ic, 3)) (d9 : decode cc (pc + 9) = .ok (.athrow, 1))
    (hout : ∀ x ∈ c.exceptionTable.toList, covers x (pc + 9) = false)
    (hRframes : names.length + 3 < R.frames) (hRlocals : (rest.map fun v => v.category).sum + (13 * (names.length + 1) + 43) ≤ R.locals) (hRcells : cells + 1 ≤ R.cells) (hRslots : slots + 6 ≤ R.slots) (hlocks : meth.locks = false)
    (hx : ∀ t : State, s.vm.Alike t.vm → H.size < t.heap.size → (∀ q : Nat, q < H.size → t.heap[q]? = H[q]?) → XC cls s t)
    (hf : ∀ z ∈ locs, free z.base) (hc : cells + 1 ≤ mc) (hs : slots + 6 ≤ ms) :
    W p l e R s m args below meth c H locs cells slots (vx_MQ below Qc XC args s mc ms free) (F0 m pc ls rest) := by
  intro T hT X
  have htr : e.platform.stackTraces = false := (show e.platform.stackTraces = l.stackTraces by rw [X.admits.platform]).trans hl
  have Y := vx_rebase X (R' := { frames := R.frames, locals := R.locals, cells := 1, slots := 6 }) (Nat.le_refl _) (Nat.le_refl _) hRcells hRslots
  obtain ⟨s', hA⟩ : ∃ z, z = (T.setVm s.vm).setFrames (.invoking m args :: below) := ⟨_, rfl⟩
  rw [← hA] at Y
  have hvm : s'.vm = s.vm := by rw [hA]; rfl
  have hhp : s'.heap = H := by rw [hA]; exact hT
  have hW0 : s.WarmedH s'.vm := by rw [hvm]; exact State.WarmedH.refl s
  have hat' : ∀ w ∈ vx_atS own ic cls names, w.before args s' = true := fun w hw => vx_ot_at hW0 hvm.symm (hgood w (List.mem_cons_of_mem _ (List.mem_cons_of_mem _ hw))) (hat w hw)
  have hk' : (Cond.classLink own ik cls).before args s' = true := vx_ot_at hW0 hvm.symm (hgood _ List.mem_cons_self) hk
  have hini' : (Cond.initialized cls).before args s' = true := vx_ot_at hW0 hvm.symm (hgood _ (List.mem_cons_of_mem _ List.mem_cons_self)) hini
  have hU' : vx_Zq Bundle.tN "UNASSIGNED_STACK" Bundle.steD A s' s'.heap := by rw [hhp]; exact vx_Zq.moved hW0.alike (hU.kept hS.2.1)
  have hN' : vx_Zq Bundle.tN "SUPPRESSED_SENTINEL" Bundle.listD A s' s'.heap := by rw [hhp]; exact vx_Zq.moved hW0.alike (hN.kept hS.2.1)
  have h : ∀ w ∈ Bundle.ownAtoms own ic cls names, w.before args s' = true := vx_own hat' (vx_isRefq hU'.1) (vx_isRefq hN'.1) hU'.2.word hN'.2.word
  have hown' : s'.vm.findClass own = some m.cls := by rw [hvm]; exact hown
  have hins : (Cond.instantiable cls 6).before args s' = true := h _ (by simp [Bundle.ownAtoms])
  obtain ⟨vm₁, cX, kX, hfX, hkX, -, -, X₁, st1⟩ := Y.newCold hexec (own := own) (C := cls) (index := ik) (n := 6) hown' hk' hins hini'
    (g := F0 m pc ls rest) rfl (by rw [hb]; exact d0) (Nat.le_refl _) (Nat.le_refl _)
  generalize hT1 : (T.setVm vm₁).pushCell { cls := cX, slots := kX.instanceTypes.map defaultValue, vm := .none } = T1 at X₁ st1
  have hcat : (Value.ref T.heap.size).category = 1 := rfl
  have hcellA : T1.heap[T.heap.size]? = some (freshCell cX kX) := by rw [← hT1]; exact State.heap_pushCell_size _ _
  have d3' : decode c.code (pc + 3) = .ok (.dup, 1) := by rw [hb]; exact d3
  have d4' : decode c.code (pc + 4) = .ok (.ldc is, 2) := by rw [hb]; exact d4
  have hstr' : vk_R own is text sa s' := vk_R.warm hW0 hstr
  obtain ⟨U, hsteps, hrun, hend, hW, hsame, ce, hce, hO⟩ := X₁.ctorThrowS hexec htr (own := own) (cls := cls) (names := names) (ic := ic) hown' hcls hnames h (fun x hx => nomatch hx) hfX hkX hcellA (by rw [hhp, hT]; exact Nat.le_refl _) (msg := .ref sa) rfl
    (g := { method := m, pc := pc + 6, locals := ls, stack := .ref sa :: .ref T.heap.size :: .ref T.heap.size :: rest, locked := none }) rfl hsize rfl rfl (rest := rest) rfl
    (by rw [hb]; exact d6) (by rw [hb]; exact d9) hout hRframes (by simp only [List.map_cons, List.sum_cons, hcat]; omega) hlocks
  obtain ⟨f1, f2⟩ := vx_frame hsame
  rw [hhp] at f1 f2
  have hWs : s.WarmedH U.vm := State.WarmedH.trans hW0 hW
  have hcl : s.vm.findClass cls = some ce.cls := by
    have h9 := hO.cls
    rw [hvm] at h9
    exact h9
  have hall : s.sameButNew ({ U with vm := s.vm } : State) locs mc ms := by
    subst hA
    obtain ⟨e1, e2⟩ := hsame
    rw [State.setFrames_setFrames] at e1
    have h2 : (T.setVm s.vm).sameButNew ({ U with vm := s.vm } : State) [] (0 + 1) (0 + 6) := ⟨e1, e2⟩
    have h3 := X.same.trans h2
    rw [List.append_nil] at h3
    exact h3.mono hc hs
  refine ⟨U, ?_, .threw T.heap.size, hrun, hend, Or.inr ⟨T.heap.size, rfl, cls, ce, locs, hx U hWs.alike (by have h7 := (Array.getElem?_eq_some_iff.mp hce).1; rw [hT] at h7; exact h7) (fun q hq => f2 q hq (fun z hz => nomatch hz)), hce, hO.vm, hcl, hWs, hall, hf⟩⟩
  refine st1 _ ?_
  show Steps p.tables e below (T1.setTop { method := m, pc := pc + 3, locals := ls, stack := .ref T.heap.size :: rest, locked := none }) _
  jvm_step X₁.here [X₁.here.top, hexec, d3', Value.category]
  exact X₁.ldcString hexec (own := own) (text := text) (index := is) (a := sa) hown' hstr'.1 hstr'.2
    (g := { method := m, pc := pc + 4, locals := ls, stack := .ref T.heap.size :: .ref T.heap.size :: rest, locked := none }) rfl d4' _ hsteps
theorem mv_throwSW {cc : ByteArray} {pc : Nat} (hexec : p.tables.exec = Jvm.exec) (hb : c.code = cc) (hl : l.stackTraces = false) {own cls text : String} {names : List String} {ik is ic mc ms sa : Nat} {A : Nat → Prop}
    (hown : s.vm.findClass own = some m.cls) (hcls : Bundle.fit cls = true) (hnames : ∀ n ∈ names, Bundle.fit n = true)
    (hk : (Cond.classLink own ik cls).before args s = true) (hini : (Cond.initialized cls).before args s = true) (hstr : vk_R own is text sa s) (hat : ∀ w ∈ vx_atS own ic cls names, w.before args s = true)
    (hgood : ∀ w ∈ Cond.classLink own ik cls :: Cond.initialized cls :: vx_atS own ic cls names, vx_ot w = true)
    (hU : vx_Zq Bundle.tN "UNASSIGNED_STACK" Bundle.steD A s s.heap) (hN : vx_Zq Bundle.tN "SUPPRESSED_SENTINEL" Bundle.listD A s s.heap) (hS : va_S A s.heap H locs) (hsize : ls.size = c.maxLocals)
    (d0 : decode cc pc = .ok (.new ik, 3)) (d3 : decode cc (pc + 3) = .ok (.dup, 1)) (d4 : decode cc (pc + 4) = .ok (.ldc_w is, 3)) (d7 : decode cc (pc + 7) = .ok (.invokespecial ic, 3)) (d10 : decode cc (pc + 10) = .ok (.athrow, 1))
    (hout : ∀ x ∈ c.exceptionTable.toList, covers x (pc + 10) = false)
    (hRframes : names.length + 3 < R.frames) (hRlocals : (rest.map fun v => v.category).sum + (13 * (names.length + 1) + 43) ≤ R.locals) (hRcells : cells + 1 ≤ R.cells) (hRslots : slots + 6 ≤ R.slots) (hlocks : meth.locks = false)
    (hx : ∀ t : State, s.vm.Alike t.vm → H.size < t.heap.size → (∀ q : Nat, q < H.size → t.heap[q]? = H[q]?) → XC cls s t)
    (hf : ∀ z ∈ locs, free z.base) (hc : cells + 1 ≤ mc) (hs : slots + 6 ≤ ms) :
    W p l e R s m args below meth c H locs cells slots (vx_MQ below Qc XC args s mc ms free) (F0 m pc ls rest) := by
  intro T hT X
  have htr : e.platform.stackTraces = false := (show e.platform.stackTraces = l.stackTraces by rw [X.admits.platform]).trans hl
  have Y := vx_rebase X (R' := { frames := R.frames, locals := R.locals, cells := 1, slots := 6 }) (Nat.le_refl _) (Nat.le_refl _) hRcells hRslots
  obtain ⟨s', hA⟩ : ∃ z, z = (T.setVm s.vm).setFrames (.invoking m args :: below) := ⟨_, rfl⟩
  rw [← hA] at Y
  have hvm : s'.vm = s.vm := by rw [hA]; rfl
  have hhp : s'.heap = H := by rw [hA]; exact hT
  have hW0 : s.WarmedH s'.vm := by rw [hvm]; exact State.WarmedH.refl s
  have hat' : ∀ w ∈ vx_atS own ic cls names, w.before args s' = true := fun w hw => vx_ot_at hW0 hvm.symm (hgood w (List.mem_cons_of_mem _ (List.mem_cons_of_mem _ hw))) (hat w hw)
  have hk' : (Cond.classLink own ik cls).before args s' = true := vx_ot_at hW0 hvm.symm (hgood _ List.mem_cons_self) hk
  have hini' : (Cond.initialized cls).before args s' = true := vx_ot_at hW0 hvm.symm (hgood _ (List.mem_cons_of_mem _ List.mem_cons_self)) hini
  have hU' : vx_Zq Bundle.tN "UNASSIGNED_STACK" Bundle.steD A s' s'.heap := by rw [hhp]; exact vx_Zq.moved hW0.alike (hU.kept hS.2.1)
  have hN' : vx_Zq Bundle.tN "SUPPRESSED_SENTINEL" Bundle.listD A s' s'.heap := by rw [hhp]; exact vx_Zq.moved hW0.alike (hN.kept hS.2.1)
  have h : ∀ w ∈ Bundle.ownAtoms own ic cls names, w.before args s' = true := vx_own hat' (vx_isRefq hU'.1) (vx_isRefq hN'.1) hU'.2.word hN'.2.word
  have hown' : s'.vm.findClass own = some m.cls := by rw [hvm]; exact hown
  have hins : (Cond.instantiable cls 6).before args s' = true := h _ (by simp [Bundle.ownAtoms])
  obtain ⟨vm₁, cX, kX, hfX, hkX, -, -, X₁, st1⟩ := Y.newCold hexec (own := own) (C := cls) (index := ik) (n := 6) hown' hk' hins hini'
    (g := F0 m pc ls rest) rfl (by rw [hb]; exact d0) (Nat.le_refl _) (Nat.le_refl _)
  generalize hT1 : (T.setVm vm₁).pushCell { cls := cX, slots := kX.instanceTypes.map defaultValue, vm := .none } = T1 at X₁ st1
  have hcat : (Value.ref T.heap.size).category = 1 := rfl
  have hcellA : T1.heap[T.heap.size]? = some (freshCell cX kX) := by rw [← hT1]; exact State.heap_pushCell_size _ _
  have d3' : decode c.code (pc + 3) = .ok (.dup, 1) := by rw [hb]; exact d3
  have d4' : decode c.code (pc + 4) = .ok (.ldc_w is, 3) := by rw [hb]; exact d4
  have hstr' : vk_R own is text sa s' := vk_R.warm hW0 hstr
  obtain ⟨U, hsteps, hrun, hend, hW, hsame, ce, hce, hO⟩ := X₁.ctorThrowS hexec htr (own := own) (cls := cls) (names := names) (ic := ic) hown' hcls hnames h (fun x hx => nomatch hx) hfX hkX hcellA (by rw [hhp, hT]; exact Nat.le_refl _) (msg := .ref sa) rfl
    (g := { method := m, pc := pc + 7, locals := ls, stack := .ref sa :: .ref T.heap.size :: .ref T.heap.size :: rest, locked := none }) rfl hsize rfl rfl (rest := rest) rfl
    (by rw [hb]; exact d7) (by rw [hb]; exact d10) hout hRframes (by simp only [List.map_cons, List.sum_cons, hcat]; omega) hlocks
  obtain ⟨f1, f2⟩ := vx_frame hsame
  rw [hhp] at f1 f2
  have hWs : s.WarmedH U.vm := State.WarmedH.trans hW0 hW
  have hcl : s.vm.findClass cls = some ce.cls := by
    have h9 := hO.cls
    rw [hvm] at h9
    exact h9
  have hall : s.sameButNew ({ U with vm := s.vm } : State) locs mc ms := by
    subst hA
    obtain ⟨e1, e2⟩ := hsame
    rw [State.setFrames_setFrames] at e1
    have h2 : (T.setVm s.vm).sameButNew ({ U with vm := s.vm } : State) [] (0 + 1) (0 + 6) := ⟨e1, e2⟩
    have h3 := X.same.trans h2
    rw [List.append_nil] at h3
    exact h3.mono hc hs
  refine ⟨U, ?_, .threw T.heap.size, hrun, hend, Or.inr ⟨T.heap.size, rfl, cls, ce, locs, hx U hWs.alike (by have h7 := (Array.getElem?_eq_some_iff.mp hce).1; rw [hT] at h7; exact h7) (fun q hq => f2 q hq (fun z hz => nomatch hz)), hce, hO.vm, hcl, hWs, hall, hf⟩⟩
  refine st1 _ ?_
  show Steps p.tables e below (T1.setTop { method := m, pc := pc + 3, locals := ls, stack := .ref T.heap.size :: rest, locked := none }) _
  jvm_step X₁.here [X₁.here.top, hexec, d3', Value.category]
  exact X₁.ldcStringW hexec (own := own) (text := text) (index := is) (a := sa) hown' hstr'.1 hstr'.2
    (g := { method := m, pc := pc + 4, locals := ls, stack := .ref T.heap.size :: .ref T.heap.size :: rest, locked := none }) rfl d4' _ hsteps
end MVTH
end
section
/-! ===== a row of ints copied to another's begin; the interpreter with that kind too ===== -/
noncomputable def mv_cp (g : mv_B) (loc : mv_L) (st : List mv_V) (h : List mv_C) (nc ns : Nat) : mv_S := match st with
  | z :: y :: x :: w :: v :: s2 => bif (Nat.beq v.1 2 && Nat.beq x.1 2) && ((Nat.beq w.1 0 && Nat.beq w.2 0) && ((Nat.beq y.1 0 && Nat.beq y.2 0) && Nat.ble (mv_cs s2) 8)) then
      match mv_cI g z with
      | some (.inr n) => match mv_gt h v.2 with
        | some c0 => match mv_gt h x.2 with
          | some c1 => bif (Nat.beq c0.1 0 && Nat.beq c1.1 0) && (Nat.ble n c0.2.length && (Nat.ble n c1.2.length && Nat.blt c1.2.length 65536)) then
              mv_fl (c0.2.take n ++ c1.2.drop n) (fun l2 => mv_ls h x.2 (0, l2) (fun h2 => mv_go loc h2 nc ns s2)) else none
          | none => none
        | none => none
      | some (.inl q) => some (.inl q)
      | none => none
    else none
  | _ => none
/-- the greater one of two ints -/
def mv_mx (g : mv_B) (loc : mv_L) (st : List mv_V) (h : List mv_C) (nc ns : Nat) : mv_S := match st with
  | y :: x :: s2 => bif Nat.ble (mv_cs s2) 8 then match mv_lt g x y with
      | some (.inr true) => mv_go loc h nc ns (y :: s2)
      | some (.inr false) => mv_go loc h nc ns (x :: s2)
      | some (.inl q) => some (.inl q)
      | none => none
    else none
  | _ => none
noncomputable def mv_x9 (bk : Nat → Nat → Option (List mv_E)) (mi : Nat → mv_I) (xn : Nat → Nat) (ih : mv_J) (dep mid pc : Nat) (e : mv_E) (t : List mv_E) (loc : mv_L) (st : List mv_V) (h : List mv_C) (nc ns : Nat) (g : mv_B) (K : mv_K) : Bool :=
  bif Nat.beq e.2.2.2.1 11 then (bif Nat.blt 0 dep then mv_x0 ih (mv_cp g loc st h nc ns) dep mid pc e t loc st h nc ns g K else false)
  else bif Nat.beq e.2.2.2.1 15 then (bif Nat.blt 0 dep then mv_x0 ih (mv_mx g loc st h nc ns) dep mid pc e t loc st h nc ns g K else false) else mv_x8 bk mi xn ih dep mid pc e t loc st h nc ns g K
/-- a run to the method's end: every end is one that K takes -/
noncomputable def mv_eu (bk : Nat → Nat → Option (List mv_E)) (mi : Nat → mv_I) (dv : Nat → List mv_V) (xn : Nat → Nat) (n : Nat) : mv_J :=
  Nat.rec (motive := fun _ => mv_J)
    (fun _ _ _ _ _ _ _ _ _ _ _ => false)
    (fun _ ih dep mid pc L loc st h nc ns g K => match L with
      | [] => match bk mid pc with
        | some (e :: t) => ih dep mid pc (e :: t) loc st h nc ns g K
        | _ => false
      | e :: t => bif Nat.ble 40 e.2.2.2.1 then mv_x0 ih (mv_sf g loc st h nc ns dv (mi mid).2.2.1 e.1 e.2.1 e.2.2.2.2.1 e.2.2.2.2.2 e.2.2.2.1) dep mid pc e t loc st h nc ns g K
        else mv_x9 bk mi xn ih dep mid pc e t loc st h nc ns g K) n
theorem mv_cpD {α : Type} {c0 c1 : List α} {n j : Nat} {d : α} (h0 : n ≤ c0.length) : (c0.take n ++ c1.drop n).getD j d = if j < n then c0.getD j d else c1.getD j d := by
  rw [List.getD_eq_getElem?_getD, List.getD_eq_getElem?_getD, List.getD_eq_getElem?_getD, List.getElem?_append, List.length_take]
  have e : min n c0.length = n := by omega
  rw [e]
  by_cases hj : j < n
  · rw [if_pos hj, if_pos hj, List.getElem?_take, if_pos hj]
  · rw [if_neg hj, if_neg hj, List.getElem?_drop]
    have e2 : n + (j - n) = j := by omega
    rw [e2]
section MVZ
variable {p : Program} {l : Launch} {e : Env} {R : Room} {s : State} {m : MethodId} {args : Array Value} {below : List Frame} {meth : Method} {c : Code} {Q : State → Prop}
variable {D : va_G} {cs : ClassId × ClassId × ClassId} {r : Nat → Int32} {ba : mv_A} {b nL : Nat} {g : mv_B} {loc : mv_L} {st : List mv_V} {h : List mv_C} {nc ns : Nat} {x : Option Nat × mv_L × List mv_V × List mv_C × Nat × Nat} {cc : ByteArray} {pc : Nat}
theorem mv_mn_cp (h1 : mv_cp g loc st h nc ns = some (.inr x)) : mv_mn h nc ns x := by
  unfold mv_cp at h1
  split at h1
  · obtain ⟨-, h1⟩ := mv_cndn h1
    split at h1
    · split at h1
      · split at h1
        · obtain ⟨-, h1⟩ := mv_cndn h1
          rw [mv_fl_eq, mv_ls_eq] at h1
          exact mv_mn_set h1
        · cases h1
      · cases h1
    · cases h1
    · cases h1
  · cases h1
theorem mv_cp_ok {own : String} {index : Nat} (hexec : p.tables.exec = Jvm.exec) (hb : c.code = cc) (hml : c.maxLocals = nL) (hg : mv_in g r) (hown : s.vm.findClass own = some m.cls) (hlink : (Cond.methodLink own index arraycopyName).before args s = true) (hnat : (Cond.native arraycopyName).before args s = true) (hstat : (Cond.static arraycopyName).before args s = true) (hini : (Cond.initialized "java/lang/System").before args s = true)
    (hK : va_K D vwCl (mv_tys cs) s) (hRf : 1 ≤ R.frames) (hRl : 100 ≤ R.locals) (hd : decode cc pc = .ok (.invokestatic index, 3)) (h1 : mv_cp g loc st h nc ns = some (.inr x))
    (kk : mv_Wx p l e R s m args below meth c Q D cs r ba b nL x (pc + 3)) : mv_W p l e R s m args below meth c Q D cs r ba b nL loc st h nc ns pc := by
  unfold mv_cp at h1
  split at h1
  · rename_i z y u w v s2
    obtain ⟨h0, h1⟩ := mv_cndn h1
    simp only [Bool.and_eq_true] at h0
    obtain ⟨⟨v1, u1⟩, ⟨w1, w2⟩, ⟨y1, y2⟩, hr⟩ := h0
    split at h1
    · rename_i n hn9
      split at h1
      · rename_i c0 hc0
        split at h1
        · rename_i c1 hc1
          obtain ⟨h2, h1⟩ := mv_cndn h1
          simp only [Bool.and_eq_true] at h2
          obtain ⟨⟨t0, t1⟩, n0, n1, n2⟩ := h2
          have n0 := mv_ble n0
          have n1 := mv_ble n1
          have n2 := mv_blt n2
          rw [mv_fl_eq, mv_ls_eq] at h1
          have k2 := mv_go_ok h1 kk
          rw [mv_gt_eq] at hc0 hc1
          obtain ⟨i1, i2⟩ := mv_cI_ok hg hn9
          intro H locs ls hH hS hl hn
          show W p l e R s m args below meth c H locs nc ns Q (F0 m pc ls (mv_val r ba b z :: mv_val r ba b y :: mv_val r ba b u :: mv_val r ba b w :: mv_val r ba b v :: s2.map (mv_val r ba b)))
          have ew : mv_val r ba b w = .int (nI 0) := by
            have e1 := mv_beq w1
            have e2 := mv_beq w2
            obtain ⟨w3, w4⟩ := w
            cases e1
            cases e2
            rfl
          have ey : mv_val r ba b y = .int (nI 0) := by
            have e1 := mv_beq y1
            have e2 := mv_beq y2
            obtain ⟨w3, w4⟩ := y
            cases e1
            cases e2
            rfl
          rw [mv_val_I i1, i2, mv_val_R u1, mv_val_R v1, ew, ey]
          obtain ⟨a0, l0⟩ := c0
          obtain ⟨a1, l1⟩ := c1
          cases mv_beq t0
          cases mv_beq t1
          have n0 : n ≤ l0.length := n0
          have n1 : n ≤ l1.length := n1
          have n2 : l1.length < 65536 := n2
          have q0 : H[mv_ad ba v.2]? = some (arrV cs.1 l0.length (fun j => .int (mv_ii r (l0.getD j (0, 0))))) := mv_look hH hc0
          have q1 : H[mv_ad ba u.2]? = some (arrV cs.1 l1.length (fun j => .int (mv_ii r (l1.getD j (0, 0))))) := mv_look hH hc1
          obtain ⟨-, k1, hk1, cm1, hkk1⟩ := (hK.2 0 _ (show (mv_tys cs)[0]? = some (cs.1, .int) from rfl)).1 l1.length (fun j => .int (mv_ii r (l1.getD j (0, 0))))
          obtain ⟨-, k0, hk0, cm0, hkk0⟩ := (hK.2 0 _ (show (mv_tys cs)[0]? = some (cs.1, .int) from rfl)).1 l0.length (fun j => .int (mv_ii r (l0.getD j (0, 0))))
          have e0 : (nI 0).toInt = 0 := rfl
          have en : (nI n).toInt = (n : Int) := nI_toInt (by omega)
          have ec : (nI n).toNatClampNeg = n := nI_clamp (by omega)
          have ez : (nI 0).toNatClampNeg = 0 := rfl
          intro T hT X
          obtain ⟨vm', X', step⟩ := X.arraycopy hexec hown hlink hnat hstat hini (src := mv_ad ba v.2) (dst := mv_ad ba u.2) (cs := arrV cs.1 l0.length (fun j => .int (mv_ii r (l0.getD j (0, 0))))) (cd := arrV cs.1 l1.length (fun j => .int (mv_ii r (l1.getD j (0, 0))))) (srcPos := nI 0) (destPos := nI 0) (n := nI n) (by rw [hT]; exact q0) (by rw [hT]; exact q1)
            (fun _ h => by cases h) (fun _ h => by cases h) (fun h => by cases h) (fun h => by cases h) hk0 hk1 hkk0 hkk1 (show ((refKind FieldType.int != refKind FieldType.int) || (!refKind FieldType.int && FieldType.int != FieldType.int)) = false by decide) (by decide) (by decide) (fun q => nI_in (Nat.lt_succ_self n) (by omega) (Or.inl q))
            (by rw [e0, en, arrV_size]; omega)
            (by rw [e0, en, arrV_size]; omega)
            (fun vm₁ _ i hi => by
              rw [ec] at hi
              have e : (arrV cs.1 l0.length (fun j => .int (mv_ii r (l0.getD j (0, 0))))).slots.getD ((nI 0).toNatClampNeg + i) .null = .int (mv_ii r (l0.getD i (0, 0))) := by
                rw [ez, Nat.zero_add, Array.getD_eq_getD_getElem?, arrV_read _ _ (by omega)]
                rfl
              rw [e]
              exact ⟨rfl, trivial⟩)
            (g := F0 m pc ls (.int (nI n) :: .int (nI 0) :: .ref (mv_ad ba u.2) :: .int (nI 0) :: .ref (mv_ad ba v.2) :: s2.map (mv_val r ba b))) rfl (by rw [hml]; exact hl.1) (rest := s2.map (mv_val r ba b)) rfl (by rw [hb]; exact hd) hRf (by
              have e9 : ((s2.map (mv_val r ba b)).map fun v => v.category).sum ≤ 8 := by
                rw [show ((s2.map (mv_val r ba b)).map fun v => v.category).sum = mv_cs s2 from mv_csum r ba b s2]
                exact mv_ble hr
              have e8 : nativeFrameWords "java/lang/System" "arraycopy" 5 = 7 := by decide
              rw [e8]
              show 2 * 0 + _ + _ ≤ _
              omega)
          have e1 : copied (arrV cs.1 l0.length (fun j => .int (mv_ii r (l0.getD j (0, 0))))) (arrV cs.1 l1.length (fun j => .int (mv_ii r (l1.getD j (0, 0))))) (nI 0) (nI 0) (nI n) = arrV cs.1 (l0.take n ++ l1.drop n).length (fun j => .int (mv_ii r ((l0.take n ++ l1.drop n).getD j (0, 0)))) := by
            have e2 : copied (arrV cs.1 l0.length (fun j => .int (mv_ii r (l0.getD j (0, 0))))) (arrV cs.1 l1.length (fun j => .int (mv_ii r (l1.getD j (0, 0))))) (nI 0) (nI 0) (nI n) = arrV cs.1 l1.length (fun j => .int (va_cpy (fun j => mv_ii r (l0.getD j (0, 0))) (fun j => mv_ii r (l1.getD j (0, 0))) (nI 0).toNatClampNeg (nI 0).toNatClampNeg (nI n).toNatClampNeg j)) := va_copied (fun z => .int z) cs.1 cs.1 _ _ (by rw [ec, ez]; omega)
            rw [e2, ec, ez, List.length_append, List.length_take, List.length_drop]
            have e3 : min n l0.length + (l1.length - n) = l1.length := by omega
            rw [e3]
            congr 1
            funext j
            rw [mv_cpD n0]
            unfold va_cpy
            by_cases hj : j < n
            · rw [if_pos ⟨by omega, by omega⟩, if_pos hj, Nat.sub_zero, Nat.zero_add]
            · rw [if_neg (by omega), if_neg hj]
          rw [e1] at X' step
          have hlt : mv_ad ba u.2 < H.size := (Array.getElem?_eq_some_iff.mp q1).1
          have hheap : ((T.setVm vm').setCell (mv_ad ba u.2) (arrV cs.1 (l0.take n ++ l1.drop n).length (fun j => .int (mv_ii r ((l0.take n ++ l1.drop n).getD j (0, 0)))))).heap = H.setIfInBounds (mv_ad ba u.2) (arrV cs.1 (l0.take n ++ l1.drop n).length (fun j => .int (mv_ii r ((l0.take n ++ l1.drop n).getD j (0, 0))))) := by rw [← hT]; rfl
          have oq : ∀ q : Nat, q ≠ mv_ad ba u.2 → (H.setIfInBounds (mv_ad ba u.2) (arrV cs.1 (l0.take n ++ l1.drop n).length (fun j => .int (mv_ii r ((l0.take n ++ l1.drop n).getD j (0, 0))))))[q]? = H[q]? := fun q hq => by simp [Array.getElem?_setIfInBounds, Ne.symm hq]
          have hz : (H.setIfInBounds (mv_ad ba u.2) (arrV cs.1 (l0.take n ++ l1.drop n).length (fun j => .int (mv_ii r ((l0.take n ++ l1.drop n).getD j (0, 0)))))).size = H.size := by simp
          have hm : (H.setIfInBounds (mv_ad ba u.2) (arrV cs.1 (l0.take n ++ l1.drop n).length (fun j => .int (mv_ii r ((l0.take n ++ l1.drop n).getD j (0, 0))))))[mv_ad ba u.2]? = some (arrV cs.1 (l0.take n ++ l1.drop n).length (fun j => .int (mv_ii r ((l0.take n ++ l1.drop n).getD j (0, 0))))) := by simp [Array.getElem?_setIfInBounds, hlt]
          obtain ⟨t, b1, b2⟩ := k2 _ _ ls (hH.set (c := (0, l0.take n ++ l1.drop n)) hz oq hm) (⟨by rw [hz]; exact hS.1, fun q g1 g2 => by
              rw [oq q (fun e => g2 (by rw [e]; exact mv_ad_le _ _))]
              exact hS.2.1 q g1 g2, fun q hq => by
              rcases List.mem_append.mp hq with h | h
              · exact hS.2.2 q h
              · obtain ⟨z, -, hz⟩ := List.mem_map.mp h
                rw [← hz]
                exact mv_ad_le _ _⟩) hl (by rw [hz]; exact hn) _ hheap X'
          exact ⟨t, step t b1, b2⟩
        · cases h1
      · cases h1
    · cases h1
    · cases h1
  · cases h1
theorem mv_mn_mx (h1 : mv_mx g loc st h nc ns = some (.inr x)) : mv_mn h nc ns x := by
  unfold mv_mx at h1
  split at h1
  · obtain ⟨-, h1⟩ := mv_cndn h1
    split at h1
    · exact mv_mn_eq h1
    · exact mv_mn_eq h1
    · cases h1
    · cases h1
  · cases h1
theorem mv_mx_ok {own : String} {index : Nat} (hexec : p.tables.exec = Jvm.exec) (hb : c.code = cc) (hml : c.maxLocals = nL) (hg : mv_in g r) (hown : s.vm.findClass own = some m.cls) (hlink : (Cond.methodLink own index Lib.Math.max.name).before args s = true) (hstat : (Cond.static Lib.Math.max.name).before args s = true) (hini : (Cond.initialized "java/lang/Math").before args s = true) (hcode : (Cond.code Lib.Math.max.name Lib.Math.max.code 2 (some .int)).before args s = true)
    (hRf : 1 ≤ R.frames) (hRl : 100 ≤ R.locals) (hc : x.2.2.2.2.1 ≤ R.cells) (hs : x.2.2.2.2.2 ≤ R.slots) (hd : decode cc pc = .ok (.invokestatic index, 3)) (h1 : mv_mx g loc st h nc ns = some (.inr x))
    (kk : mv_Wx p l e R s m args below meth c Q D cs r ba b nL x (pc + 3)) : mv_W p l e R s m args below meth c Q D cs r ba b nL loc st h nc ns pc := by
  unfold mv_mx at h1
  split at h1
  · rename_i y z s2
    obtain ⟨h0, h1⟩ := mv_cndn h1
    have h0 := mv_ble h0
    have e9 : ((s2.map (mv_val r ba b)).map fun v => v.category).sum ≤ 8 := by
      rw [show ((s2.map (mv_val r ba b)).map fun v => v.category).sum = mv_cs s2 from mv_csum r ba b s2]
      exact h0
    split at h1
    · rename_i hq
      obtain ⟨i1, i2, i3⟩ := mv_lt_ok hg hq
      have e1 := mv_inr h1
      rw [← e1] at hc hs
      have k2 := mv_go_ok h1 kk
      intro H locs ls hH hS hl hn
      show W p l e R s m args below meth c H locs nc ns Q (F0 m pc ls (mv_val r ba b y :: mv_val r ba b z :: s2.map (mv_val r ba b)))
      have k3 : W p l e R s m args below meth c H locs nc ns Q (F0 m (pc + 3) ls (mv_val r ba b y :: s2.map (mv_val r ba b))) := k2 H locs ls hH hS hl hn
      rw [mv_val_I i2] at k3
      rw [mv_val_I i1, mv_val_I i2]
      refine va_mmax hexec hb (hml.trans hl.1.symm) hown hlink hstat hini hcode hRf (by omega) hc hs hd ?_
      rw [if_pos (i3.mp rfl)]
      exact k3
    · rename_i hq
      obtain ⟨i1, i2, i3⟩ := mv_lt_ok hg hq
      have e1 := mv_inr h1
      rw [← e1] at hc hs
      have k2 := mv_go_ok h1 kk
      intro H locs ls hH hS hl hn
      show W p l e R s m args below meth c H locs nc ns Q (F0 m pc ls (mv_val r ba b y :: mv_val r ba b z :: s2.map (mv_val r ba b)))
      have k3 : W p l e R s m args below meth c H locs nc ns Q (F0 m (pc + 3) ls (mv_val r ba b z :: s2.map (mv_val r ba b))) := k2 H locs ls hH hS hl hn
      rw [mv_val_I i1] at k3
      rw [mv_val_I i1, mv_val_I i2]
      refine va_mmax hexec hb (hml.trans hl.1.symm) hown hlink hstat hini hcode hRf (by omega) hc hs hd ?_
      rw [if_neg (fun q => by cases i3.mpr q)]
      exact k3
    · cases h1
    · cases h1
  · cases h1
end MVZ
end
section
/-! ===== what is asked of a table's entry, of a method; ends ===== -/
def mv_rets (i : Instr) (a : Nat) (ret : Option FieldType) : Bool := match i with
  | .return_ => Nat.beq a 0 && decide (ret = none)
  | .ireturn => (Nat.beq a 1 && decide (ret = some .int)) || (Nat.beq a 2 && decide (ret = some .boolean))
  | .lreturn => Nat.beq a 3 && decide (ret = some .long)
  | .dreturn => Nat.beq a 4 && decide (ret = some .double)
  | .areturn => Nat.beq a 5 && (match ret with
    | some (.object _) => true
    | some (.array _) => true
    | _ => false)
  | _ => false
def mv_thr (cc : ByteArray) (pc : Nat) (i : Instr) (own : String) (a k is ic : Nat) (hd : List (Nat × Nat × Nat × Nat)) : Bool :=
  (decide (i = .new k) && decide (own = RX7)) && ((Nat.blt a 3 && (Nat.beq k (mv_tk2 a) && Nat.beq ic (mv_tc2 a))) && ((mv_str.any (fun q => decide (q.1 = own) && Nat.beq q.2.1 is) && hd.isEmpty) &&
  (decide (decode cc (pc + 3) = .ok (.dup, 1)) &&
  ((decide (decode cc (pc + 4) = .ok (.ldc is, 2)) && (decide (decode cc (pc + 6) = .ok (.invokespecial ic, 3)) && decide (decode cc (pc + 9) = .ok (.athrow, 1)))) ||
  (decide (decode cc (pc + 4) = .ok (.ldc_w is, 3)) && (decide (decode cc (pc + 7) = .ok (.invokespecial ic, 3)) && decide (decode cc (pc + 10) = .ok (.athrow, 1))))))))
def mv_nk (i : Instr) : Nat := match i with
  | .new k => k
  | _ => 0
def mv_c3 (cand : List Cond) (own : String) (i : Instr) : Bool := match i with
  | .invokespecial k => decide (Cond.methodLink own k Lib.objectInit ∈ cand) && (decide (Cond.instanceMethod Lib.objectInit ∈ cand) && decide (Cond.code Lib.objectInit ⟨#[0xb1]⟩ 1 none ∈ cand))
  | _ => false
def mv_c4 (cand : List Cond) (own : String) (y : MethodName) (i : Instr) : Bool := match i with
  | .invokevirtual k => decide (Cond.methodLink own k y ∈ cand)
  | _ => false
def mv_c5 (own : String) (y : MethodName) (i : Instr) : Bool := match i with
  | .invokevirtual k => decide (Cond.methodLinkNest own k y "BoundWright" ∈ mv_nst)
  | _ => false
def mv_c6 (cand : List Cond) (own : String) (y : MethodName) (i : Instr) : Bool := match i with
  | .invokestatic k => decide (Cond.methodLink own k y ∈ cand)
  | _ => false
def mv_c7 (cand : List Cond) (own : String) (y : MethodName) (i : Instr) : Bool := match i with
  | .invokespecial k => decide (Cond.methodLink own k y ∈ cand)
  | _ => false
def mv_c8 (own : String) (y : MethodName) (i : Instr) : Bool := match i with
  | .invokespecial k => decide (Cond.methodLinkNest own k y "BoundWright" ∈ mv_nst)
  | _ => false
def mv_c11 (cand : List Cond) (own : String) (i : Instr) : Bool := match i with
  | .invokestatic k => decide (Cond.methodLink own k arraycopyName ∈ cand) && (decide (Cond.native arraycopyName ∈ cand) && (decide (Cond.static arraycopyName ∈ cand) && decide (Cond.initialized "java/lang/System" ∈ cand)))
  | _ => false
def mv_c15 (cand : List Cond) (own : String) (i : Instr) : Bool := match i with
  | .invokestatic k => decide (Cond.methodLink own k Lib.Math.max.name ∈ cand) && (decide (Cond.static Lib.Math.max.name ∈ cand) && (decide (Cond.initialized "java/lang/Math" ∈ cand) && decide (Cond.code Lib.Math.max.name Lib.Math.max.code 2 (some .int) ∈ cand)))
  | _ => false
def mv_c20 (nL len a : Nat) (i : Instr) : Bool := match i with
  | .astore k => Nat.beq len 2 && (Nat.beq k a && Nat.blt a nL)
  | .astore_n k => Nat.beq len 1 && (Nat.beq k a && Nat.blt a nL)
  | _ => false
def mv_vk (cand : List Cond) (mi : Nat → mv_I) (x : mv_I) (i : Instr) (pc len k a b : Nat) : Bool := match k with
  | 0 => true
  | 1 => Nat.beq len 1 && mv_rets i a x.2.2.2.1
  | 2 => Nat.beq len 3 && mv_thr x.2.1 pc i x.1.cls a (mv_nk i) (b % 65536) (b / 65536) x.2.2.2.2.2.2.2
  | 3 => Nat.beq len 3 && mv_c3 cand x.1.cls i
  | 4 => Nat.beq len 3 && (Nat.beq (mi a).2.2.2.2.2.1 0 && mv_c4 cand x.1.cls (mi a).1 i)
  | 5 => Nat.beq len 3 && (Nat.beq (mi a).2.2.2.2.2.1 0 && mv_c5 x.1.cls (mi a).1 i)
  | 6 => Nat.beq len 3 && (Nat.beq (mi a).2.2.2.2.2.1 1 && mv_c6 cand x.1.cls (mi a).1 i)
  | 7 => Nat.beq len 3 && (Nat.beq (mi a).2.2.2.2.2.1 2 && mv_c7 cand x.1.cls (mi a).1 i)
  | 8 => Nat.beq len 3 && (Nat.beq (mi a).2.2.2.2.2.1 2 && mv_c8 x.1.cls (mi a).1 i)
  | 9 => Nat.beq len 3 && (Nat.beq (mi a).2.2.2.2.2.1 3 && mv_c6 cand x.1.cls (mi a).1 i)
  | 11 => Nat.beq len 3 && mv_c11 cand x.1.cls i
  | 12 => Nat.beq len 3 && (Nat.beq (mi a).2.2.2.2.2.1 0 && mv_c4 cand x.1.cls (mi a).1 i)
  | 13 => Nat.beq len 3 && (Nat.beq (mi a).2.2.2.2.2.1 0 && mv_c5 x.1.cls (mi a).1 i)
  | 14 => Nat.beq len 3 && (Nat.beq (mi a).2.2.2.2.2.1 1 && mv_c6 cand x.1.cls (mi a).1 i)
  | 15 => Nat.beq len 3 && mv_c15 cand x.1.cls i
  | 20 => mv_c20 x.2.2.1 len a i
  | _ => true
def mv_vo (cand : List Cond) (mi : Nat → mv_I) (x : mv_I) (i : Instr) (pc len k a b : Nat) : Bool :=
  decide (decode x.2.1 pc = .ok (i, len)) && (bif Nat.ble 40 k then Nat.beq k (mv_oc i) && mv_okB cand x.1.cls x.1.name pc i len a b else mv_vk cand mi x i pc len k a b)
def mv_vL (cand : List Cond) (mi : Nat → mv_I) (x : mv_I) : Nat → List mv_E → Bool
  | _, [] => true
  | pc, e :: t => Nat.beq e.2.1 pc && (mv_vo cand mi x e.1 e.2.1 e.2.2.1 e.2.2.2.1 e.2.2.2.2.1 e.2.2.2.2.2 && mv_vL cand mi x (e.2.1 + e.2.2.1) t)
def mv_vq (cand : List Cond) (x : mv_I) : Bool := match x.2.2.2.2.2.1 with
  | 0 => x.2.2.2.2.2.2.2.isEmpty && (decide (Cond.instanceMethod x.1 ∈ cand) && (decide (Cond.selects x.1.cls x.1 x.1 ∈ cand) && (match vwCl[x.2.2.2.2.2.2.1]? with
    | some q => decide (q.1 = x.1.cls)
    | none => false)))
  | 1 => x.2.2.2.2.2.2.2.isEmpty && decide (Cond.static x.1 ∈ cand)
  | 2 => x.2.2.2.2.2.2.2.isEmpty && (decide (Cond.instanceMethod x.1 ∈ cand) && (decide (x.1.name = "<init>") && decide (x.2.2.2.1 = none)))
  | 3 => decide (Cond.static x.1 ∈ cand)
  | _ => false
/-- the word of a method's code -/
def mv_hw (x : mv_I) : Cond := bif Nat.beq x.2.2.2.2.2.1 3 then Cond.codeWith x.1 x.2.1 x.2.2.1 x.2.2.2.1 x.2.2.2.2.2.2.2 else Cond.code x.1 x.2.1 x.2.2.1 x.2.2.2.1
def mv_vp (cand : List Cond) (x : mv_I) : Bool :=
  ((plainName x.1.cls && decide (x.1.cls ≠ "java/lang/invoke/MethodHandle")) && (decide (x.1.cls ≠ "java/lang/invoke/VarHandle") && Nat.ble x.2.2.1 80)) &&
  (decide ((parseMethodDescriptor x.1.desc).map (fun d => d.parameters.length) = some x.2.2.2.2.1) && decide (Cond.initialized x.1.cls ∈ cand))
def mv_vh (cand : List Cond) (xn : Nat → Nat) (x : mv_I) : Bool :=
  x.2.2.2.2.2.2.2.all fun q => !(Nat.beq q.2.2.2 0) && (Nat.blt (xn q.2.2.2) 3 && decide (Cond.classLink x.1.cls q.2.2.2 (mv_ex (xn q.2.2.2)) ∈ cand))
def mv_vm (cand : List Cond) (xn : Nat → Nat) (x : mv_I) : Bool := mv_vh cand xn x && (bif Nat.beq x.2.2.2.2.2.1 9 then true else mv_vp cand x && mv_vq cand x)
/-- the tables are true -/
def mv_tb (bk : Nat → Nat → Option (List mv_E)) (mi : Nat → mv_I) (xn : Nat → Nat) (cand : Nat → List Cond) : Prop :=
  ∀ mid : Nat, (∀ w ∈ cand mid, w ∈ mv_big) ∧ mv_vm (cand mid) xn (mi mid) = true ∧ (∀ (pc : Nat) (L : List mv_E), bk mid pc = some L → mv_vL (cand mid) mi (mi mid) pc L = true) ∧ ((mi mid).2.2.2.2.2.1 ≠ 9 → mv_hw (mi mid) ∈ mv_big)
/-- some end that K takes is the machine's -/
def mv_ends (l : Launch) (D : va_G) (cs : ClassId × ClassId × ClassId) (r : Nat → Int32) (ba : mv_A) (b : Nat) (x : mv_I) (dep : Nat) (loc : mv_L) (st : List mv_V) (h : List mv_C) (nc ns pc : Nat) (K : mv_K) : Prop :=
  ∃ (g2 : mv_B) (res : Nat × mv_V) (h2 : List mv_C) (c2 n2 : Nat), mv_in g2 r ∧ res.1 < 5 ∧ K g2 res h2 c2 n2 = true ∧ mv_run l D cs r ba b x dep loc st h nc ns pc res h2 c2 n2
def mv_good (l : Launch) (D : va_G) (cs : ClassId × ClassId × ClassId) (r : Nat → Int32) (ba : mv_A) (b : Nat) (mi : Nat → mv_I) (cand : Nat → List Cond) (J : mv_J) : Prop :=
  ∀ (dep mid pc : Nat) (L : List mv_E) (loc : mv_L) (st : List mv_V) (h : List mv_C) (nc ns : Nat) (g : mv_B) (K : mv_K), J dep mid pc L loc st h nc ns g K = true → mv_vL (cand mid) mi (mi mid) pc L = true → mv_in g r → mv_ends l D cs r ba b (mi mid) dep loc st h nc ns pc K
theorem mv_tk_ok : ∀ (n : Nat) (st acc as rest : List mv_V), mv_tk n st acc = some (as, rest) → ∃ u : List mv_V, u.length = n ∧ st = u ++ rest ∧ as = u.reverse ++ acc
  | 0, st, acc, as, rest, h => by
    have h : some (acc, st) = some (as, rest) := h
    cases h
    exact ⟨[], rfl, rfl, rfl⟩
  | n + 1, [], acc, as, rest, h => by cases h
  | n + 1, v :: s, acc, as, rest, h => by
    obtain ⟨u, h1, h2, h3⟩ := mv_tk_ok n s (v :: acc) as rest h
    exact ⟨v :: u, by rw [List.length_cons, h1], by rw [h2]; rfl, by rw [h3, List.reverse_cons, List.append_assoc]; rfl⟩
theorem mv_hd_none {xn : Nat → Nat} {pc x : Nat} : ∀ {hh : List (Nat × Nat × Nat × Nat)}, mv_hd xn hh pc x = none → ∀ q ∈ hh, (Nat.ble q.1 pc && Nat.blt pc q.2.1) = false ∨ xn q.2.2.2 ≠ x
  | [], _, q, hq => by cases hq
  | y :: t, h, q, hq => by
    have h : (bif Nat.ble y.1 pc && Nat.blt pc y.2.1 && Nat.beq (xn y.2.2.2) x then some y.2.2.1 else mv_hd xn t pc x) = none := h
    rcases mv_cnd h with ⟨-, h1⟩ | ⟨h0, h1⟩
    · cases h1
    · rcases List.mem_cons.mp hq with rfl | hq
      · cases h2 : Nat.ble q.1 pc && Nat.blt pc q.2.1
        · exact Or.inl rfl
        · rw [h2, Bool.true_and] at h0
          exact Or.inr (mv_nbeq h0)
      · exact mv_hd_none h1 q hq
theorem mv_hd_some {xn : Nat → Nat} {pc x hp : Nat} : ∀ {hh : List (Nat × Nat × Nat × Nat)}, mv_hd xn hh pc x = some hp → ∃ (pre : List (Nat × Nat × Nat × Nat)) (q : Nat × Nat × Nat × Nat) (suf : List (Nat × Nat × Nat × Nat)), hh = pre ++ q :: suf ∧ (∀ z ∈ pre, (Nat.ble z.1 pc && Nat.blt pc z.2.1) = false ∨ xn z.2.2.2 ≠ x) ∧ (Nat.ble q.1 pc && Nat.blt pc q.2.1) = true ∧ xn q.2.2.2 = x ∧ q.2.2.1 = hp
  | [], h => by cases h
  | y :: t, h => by
    have h : (bif Nat.ble y.1 pc && Nat.blt pc y.2.1 && Nat.beq (xn y.2.2.2) x then some y.2.2.1 else mv_hd xn t pc x) = some hp := h
    rcases mv_cnd h with ⟨h0, h1⟩ | ⟨h0, h1⟩
    · rw [Bool.and_eq_true] at h0
      exact ⟨[], y, t, rfl, (fun z hz => by cases hz), h0.1, mv_beq h0.2, Option.some.inj h1⟩
    · obtain ⟨pre, q, suf, e1, e2, e3⟩ := mv_hd_some h1
      refine ⟨y :: pre, q, suf, by rw [e1]; rfl, fun z hz => ?_, e3⟩
      rcases List.mem_cons.mp hz with rfl | hz
      · cases h2 : Nat.ble z.1 pc && Nat.blt pc z.2.1
        · exact Or.inl rfl
        · rw [h2, Bool.true_and] at h0
          exact Or.inr (mv_nbeq h0)
      · exact e2 z hz
theorem mv_cov {q : Nat × Nat × Nat × Nat} {pc : Nat} {v : Bool} (h : (Nat.ble q.1 pc && Nat.blt pc q.2.1) = v) : covers ⟨q.1, q.2.1, q.2.2.1, q.2.2.2⟩ pc = v := by
  have e1 : Nat.ble q.1 pc = decide (q.1 ≤ pc) := by
    cases hq : Nat.ble q.1 pc
    · exact (decide_eq_false (Nat.not_le.mpr (mv_nble hq))).symm
    · exact (decide_eq_true (mv_ble hq)).symm
  have e2 : Nat.blt pc q.2.1 = decide (pc < q.2.1) := by
    cases hq : Nat.blt pc q.2.1
    · exact (decide_eq_false (Nat.not_lt.mpr (mv_nblt hq))).symm
    · exact (decide_eq_true (mv_blt hq)).symm
  rw [e1, e2] at h
  exact h
theorem mv_ncs_ok {x y : Nat} (hx : x < 3) (hy : y < 3) (h : y ≠ x) : (mv_ex x, mv_ex y) ∈ mv_ncs := by
  have h1 : x = 0 ∨ x = 1 ∨ x = 2 := by omega
  have h2 : y = 0 ∨ y = 1 ∨ y = 2 := by omega
  unfold mv_ncs
  rcases h1 with rfl | rfl | rfl <;> rcases h2 with rfl | rfl | rfl <;> first | exact absurd rfl h | simp
theorem mv_cst_ok {x : Nat} (hx : x < 3) : Cond.castable (mv_ex x) (mv_ex x) ∈ mv_nst := by
  have h1 : x = 0 ∨ x = 1 ∨ x = 2 := by omega
  unfold mv_nst
  rcases h1 with rfl | rfl | rfl <;> simp [mv_ex]
theorem mv_tw {a : Nat} (ha : a < 3) : (∀ w ∈ Cond.classLink RX7 (mv_tk2 a) (mv_ex a) :: Cond.initialized (mv_ex a) :: vx_atS RX7 (mv_tc2 a) (mv_ex a) mv_xnm, (w ∈ mv_big ∨ (w ∈ mv_nst ∧ w.onTables = true)) ∧ vx_ot w = true) ∧ Bundle.fit (mv_ex a) = true := by
  have h1 : a = 0 ∨ a = 1 ∨ a = 2 := by omega
  rcases h1 with rfl | rfl | rfl
  · exact mv_tw0
  · exact mv_tw1
  · exact mv_tw2
end
section
/-! ===== ends: a step more; a return; a throw; a method as a contract; behind a call ===== -/
theorem mv_run_of {l : Launch} {D : va_G} {cs : ClassId × ClassId × ClassId} {r : Nat → Int32} {ba : mv_A} {b dep : Nat} {X : mv_I} {loc : mv_L} {st : List mv_V} {h : List mv_C} {nc ns pc pc2 : Nat} {res : Nat × mv_V} {h2 : List mv_C} {c2 n2 : Nat} {x : Option Nat × mv_L × List mv_V × List mv_C × Nat × Nat}
    (hm : mv_mn h nc ns x) (hr : mv_run l D cs r ba b X dep x.2.1 x.2.2.1 x.2.2.2.1 x.2.2.2.2.1 x.2.2.2.2.2 pc2 res h2 c2 n2)
    (hW : ∀ (p : Program) (e : Env) (R : Room) (s : State) (m : MethodId) (args : Array Value) (below : List Frame) (meth : Method) (c : Code) (Q : State → Prop), mv_fr X p s m args meth c → mv_en D cs r ba b s → dep ≤ R.frames → 100 * dep ≤ R.locals → x.2.2.2.2.1 ≤ R.cells → x.2.2.2.2.2 ≤ R.slots →
      mv_W p l e R s m args below meth c Q D cs r ba b X.2.2.1 x.2.1 x.2.2.1 x.2.2.2.1 x.2.2.2.2.1 x.2.2.2.2.2 pc2 → mv_W p l e R s m args below meth c Q D cs r ba b X.2.2.1 loc st h nc ns pc) :
    mv_run l D cs r ba b X dep loc st h nc ns pc res h2 c2 n2 := by
  obtain ⟨m1, m2, m3⟩ := hm
  obtain ⟨r1, r2, r3, r4⟩ := hr
  refine ⟨Nat.le_trans m1 r1, Nat.le_trans m2 r2, by omega, fun p e R s m args below meth c hf he h1 h2 h3 h4 => ?_⟩
  exact hW p e R s m args below meth c _ hf he h1 h2 (Nat.le_trans r1 h3) (Nat.le_trans r2 h4) (r4 p e R s m args below meth c hf he h1 h2 h3 h4)
theorem mv_x0_ok {l : Launch} {D : va_G} {cs : ClassId × ClassId × ClassId} {r : Nat → Int32} {ba : mv_A} {b : Nat} {mi : Nat → mv_I} {cand : Nat → List Cond} {J : mv_J} (hJ : mv_good l D cs r ba b mi cand J) {S : mv_S} {dep mid pc : Nat} {e : mv_E} {t : List mv_E} {loc : mv_L} {st : List mv_V} {h : List mv_C} {nc ns : Nat} {g : mv_B} {K : mv_K} (h1 : mv_x0 J S dep mid pc e t loc st h nc ns g K = true)
    (hv : mv_vL (cand mid) mi (mi mid) pc (e :: t) = true) (hv2 : mv_vL (cand mid) mi (mi mid) (e.2.1 + e.2.2.1) t = true) (hg : mv_in g r)
    (hS : ∀ x, S = some (.inr x) → mv_mn h nc ns x ∧ ∀ (p : Program) (en : Env) (R : Room) (s : State) (m : MethodId) (args : Array Value) (below : List Frame) (meth : Method) (c : Code) (Q : State → Prop), mv_fr (mi mid) p s m args meth c → mv_en D cs r ba b s → dep ≤ R.frames → 100 * dep ≤ R.locals → x.2.2.2.2.1 ≤ R.cells → x.2.2.2.2.2 ≤ R.slots →
      mv_Wx p l en R s m args below meth c Q D cs r ba b (mi mid).2.2.1 x (e.2.1 + e.2.2.1) → mv_W p l en R s m args below meth c Q D cs r ba b (mi mid).2.2.1 loc st h nc ns pc) :
    mv_ends l D cs r ba b (mi mid) dep loc st h nc ns pc K := by
  unfold mv_x0 at h1
  split at h1
  · obtain ⟨g2, res, h2, c2, n2, q1, q2, q3, q4⟩ := hJ _ _ _ _ _ _ _ _ _ _ _ h1 hv2 hg
    obtain ⟨s1, s2⟩ := hS _ rfl
    exact ⟨g2, res, h2, c2, n2, q1, q2, q3, mv_run_of s1 q4 s2⟩
  · obtain ⟨g2, res, h2, c2, n2, q1, q2, q3, q4⟩ := hJ _ _ _ _ _ _ _ _ _ _ _ h1 rfl hg
    obtain ⟨s1, s2⟩ := hS _ rfl
    exact ⟨g2, res, h2, c2, n2, q1, q2, q3, mv_run_of s1 q4 s2⟩
  · obtain ⟨g2, q1, q2⟩ := mv_pt_ok hg h1
    exact hJ _ _ _ _ _ _ _ _ _ _ _ q2 hv q1
  · cases h1
theorem mv_Sf {l : List Loc} {ba : mv_A} {H0 H : Heap} (hS : va_S (fun q => ba.1 ≤ q) H0 H l) : ∀ q ∈ l, ba.1 ≤ q.base := hS.2.2
/-- an end by a return -/
theorem mv_ret0 {l : Launch} {D : va_G} {cs : ClassId × ClassId × ClassId} {r : Nat → Int32} {ba : mv_A} {b dep : Nat} {X : mv_I} {loc : mv_L} {st : List mv_V} {h : List mv_C} {nc ns pc : Nat} {res : Nat × mv_V} (h2 : res.1 < 2)
    (hW : ∀ (p : Program) (e : Env) (R : Room) (s : State) (m : MethodId) (args : Array Value) (below : List Frame) (meth : Method) (c : Code) (H : Heap) (locs : List Loc) (ls : Array Slot), mv_fr X p s m args meth c → (∀ t : State, t.heap = H → s.WarmedH t.vm → mv_Qc D cs r ba b res h args s (.returned (mv_rv r ba b res)) t) → (∀ q ∈ locs, ba.1 ≤ q.base) →
      W p l e R s m args below meth c H locs nc ns (MQ below (mv_Qc D cs r ba b res h) args s nc ns (fun q => ba.1 ≤ q)) (F0 m pc ls (st.map (mv_val r ba b)))) :
    mv_run l D cs r ba b X dep loc st h nc ns pc res h nc ns := by
  refine ⟨Nat.le_refl _, Nat.le_refl _, rfl, fun p e R s m args below meth c hf he _ _ _ _ H locs ls hH hS hl hn => vx_ret (hW p e R s m args below meth c H locs ls hf (fun t ht _ => ?_) hS.2.2)⟩
  exact ⟨h2, rfl, by rw [ht]; exact hH, by rw [ht]; exact hS.1, fun q q1 q2 => by rw [ht]; exact hS.2.1 q q1 q2⟩
theorem mv_rets1 {i : Instr} {ret : Option FieldType} (h : mv_rets i 1 ret = true) : i = .ireturn ∧ ret = some .int := by
  unfold mv_rets at h
  split at h <;> simp_all
theorem mv_rets2 {i : Instr} {ret : Option FieldType} (h : mv_rets i 2 ret = true) : i = .ireturn ∧ ret = some .boolean := by
  unfold mv_rets at h
  split at h <;> simp_all
theorem mv_rets3 {i : Instr} {ret : Option FieldType} (h : mv_rets i 3 ret = true) : i = .lreturn ∧ ret = some .long := by
  unfold mv_rets at h
  split at h <;> simp_all
theorem mv_rets4 {i : Instr} {ret : Option FieldType} (h : mv_rets i 4 ret = true) : i = .dreturn ∧ ret = some .double := by
  unfold mv_rets at h
  split at h <;> simp_all
theorem mv_rets0 {i : Instr} {ret : Option FieldType} (h : mv_rets i 0 ret = true) : i = .return_ ∧ ret = none := by
  unfold mv_rets at h
  split at h <;> simp_all
theorem mv_rets5 {i : Instr} {ret : Option FieldType} (h : mv_rets i 5 ret = true) : i = .areturn ∧ ∃ rt, ret = some rt ∧ ((∃ n, rt = .object n) ∨ ∃ t, rt = .array t) := by
  unfold mv_rets at h
  split at h
  · simp at h
  · simp at h
  · simp at h
  · simp at h
  · refine ⟨rfl, ?_⟩
    split at h
    · exact ⟨_, rfl, Or.inl ⟨_, rfl⟩⟩
    · exact ⟨_, rfl, Or.inr ⟨_, rfl⟩⟩
    · simp at h
  · cases h
theorem mv_nar {z : Nat} (h : z < 2) : narrow .boolean (.int (nI z)) = .int (nI z) := by
  have h1 : z = 0 ∨ z = 1 := by omega
  rcases h1 with rfl | rfl <;> rfl
theorem mv_x1_ok {l : Launch} {D : va_G} {cs : ClassId × ClassId × ClassId} {r : Nat → Int32} {ba : mv_A} {b : Nat} {mi : Nat → mv_I} {cand : Nat → List Cond} {J : mv_J} (hJ : mv_good l D cs r ba b mi cand J) {dep mid pc len a k : Nat} {i : Instr} {t : List mv_E} {loc : mv_L} {st : List mv_V} {h : List mv_C} {nc ns : Nat} {g : mv_B} {K : mv_K} (h1 : mv_x1 J dep mid pc (i, pc, len, 1, a, k) t loc st h nc ns g K = true)
    (hv : mv_vL (cand mid) mi (mi mid) pc ((i, pc, len, 1, a, k) :: t) = true) (hd : decode (mi mid).2.1 pc = .ok (i, len)) (hk : (Nat.beq len 1 && mv_rets i a (mi mid).2.2.2.1) = true) (hg : mv_in g r) :
    mv_ends l D cs r ba b (mi mid) dep loc st h nc ns pc K := by
  obtain ⟨hlen, hk⟩ := mv_a2 hk
  cases mv_beq hlen
  unfold mv_x1 at h1
  split at h1
  · obtain ⟨h2, h3⟩ := (mv_cndn (α := Unit) (x := some ()) (z := ()) (c := Nat.beq a 0 && K g (0, (0, 0)) h nc ns) (by
      have h1 : (bif Nat.beq a 0 then K g (0, (0, 0)) h nc ns else false) = true := h1
      cases hq : Nat.beq a 0
      · rw [hq] at h1; cases h1
      · rw [hq] at h1
        have h1 : K g (0, (0, 0)) h nc ns = true := h1
        rw [h1]; rfl))
    obtain ⟨h2, h4⟩ := mv_a2 h2
    cases mv_beq h2
    obtain ⟨rfl, hr⟩ := mv_rets0 hk
    refine ⟨g, (0, (0, 0)), h, nc, ns, hg, (by show (0 : Nat) < 5; omega), h4, mv_ret0 (by show (0 : Nat) < 2; omega) fun p e R s m args below meth c H locs ls hf hq hl => ?_⟩
    exact W.vret hf.1 hf.2.1 (hf.2.2.2.2.2.1.trans hr) hq hl hd hf.2.2.2.2.2.2.1
  · rename_i v
    unfold mv_x1v at h1
    split at h1
    · rename_i ea
      cases (show a = 1 from ea)
      obtain ⟨rfl, hr⟩ := mv_rets1 hk
      rcases mv_cnd h1 with ⟨hi, h1⟩ | ⟨-, h1⟩
      · refine ⟨g, (1, v), h, nc, ns, hg, (by show (1 : Nat) < 5; omega), h1, mv_ret0 (by show (1 : Nat) < 2; omega) fun p e R s m args below meth c H locs ls hf hq hl => ?_⟩
        have hq : ∀ t : State, t.heap = H → s.WarmedH t.vm → mv_Qc D cs r ba b (1, v) h args s (.returned (some (mv_val r ba b v))) t := hq
        show W p l e R s m args below meth c H locs nc ns _ (F0 m pc ls [mv_val r ba b v])
        rw [mv_val_I hi] at hq ⊢
        exact W.iret hf.1 hf.2.1 (hf.2.2.2.2.2.1.trans hr) hq hl hd hf.2.2.2.2.2.2.1
      · cases h1
    · rename_i ea
      cases (show a = 2 from ea)
      obtain ⟨rfl, hr⟩ := mv_rets2 hk
      split at h1
      · rename_i z hz
        rcases mv_cnd h1 with ⟨h2, h1⟩ | ⟨-, h1⟩
        · rw [mv_fo_eq] at h1
          obtain ⟨i1, i2⟩ := mv_cI_ok hg hz
          refine ⟨g, (1, (0, z)), h, nc, ns, hg, (by show (1 : Nat) < 5; omega), h1, mv_ret0 (by show (1 : Nat) < 2; omega) fun p e R s m args below meth c H locs ls hf hq hl => ?_⟩
          have hq : ∀ t : State, t.heap = H → s.WarmedH t.vm → mv_Qc D cs r ba b (1, (0, z)) h args s (.returned (some (.int (nI z)))) t := hq
          show W p l e R s m args below meth c H locs nc ns _ (F0 m pc ls [mv_val r ba b v])
          rw [mv_val_I i1, i2]
          exact W.zret hf.1 hf.2.1 (hf.2.2.2.2.2.1.trans hr) (mv_nar (mv_blt h2)) hq hl hd hf.2.2.2.2.2.2.1
        · cases h1
      · obtain ⟨g2, q1, q2⟩ := mv_pt_ok hg h1
        exact hJ _ _ _ _ _ _ _ _ _ _ _ q2 hv q1
      · cases h1
    · rename_i ea
      cases (show a = 3 from ea)
      obtain ⟨rfl, hr⟩ := mv_rets3 hk
      rcases mv_cnd h1 with ⟨hi, h1⟩ | ⟨-, h1⟩
      · refine ⟨g, (1, v), h, nc, ns, hg, (by show (1 : Nat) < 5; omega), h1, mv_ret0 (by show (1 : Nat) < 2; omega) fun p e R s m args below meth c H locs ls hf hq hl => ?_⟩
        have hq : ∀ t : State, t.heap = H → s.WarmedH t.vm → mv_Qc D cs r ba b (1, v) h args s (.returned (some (mv_val r ba b v))) t := hq
        show W p l e R s m args below meth c H locs nc ns _ (F0 m pc ls [mv_val r ba b v])
        rw [mv_val_J hi] at hq ⊢
        exact W.lret hf.1 hf.2.1 (hf.2.2.2.2.2.1.trans hr) hq hl hd hf.2.2.2.2.2.2.1
      · cases h1
    · rename_i ea
      cases (show a = 4 from ea)
      obtain ⟨rfl, hr⟩ := mv_rets4 hk
      rcases mv_cnd h1 with ⟨hi, h1⟩ | ⟨-, h1⟩
      · refine ⟨g, (1, v), h, nc, ns, hg, (by show (1 : Nat) < 5; omega), h1, mv_ret0 (by show (1 : Nat) < 2; omega) fun p e R s m args below meth c H locs ls hf hq hl => ?_⟩
        have hq : ∀ t : State, t.heap = H → s.WarmedH t.vm → mv_Qc D cs r ba b (1, v) h args s (.returned (some (mv_val r ba b v))) t := hq
        show W p l e R s m args below meth c H locs nc ns _ (F0 m pc ls [mv_val r ba b v])
        rw [mv_val_D hi] at hq ⊢
        exact W.dret hf.1 hf.2.1 (hf.2.2.2.2.2.1.trans hr) hq hl hd hf.2.2.2.2.2.2.1
      · cases h1
    · rename_i ea
      cases (show a = 5 from ea)
      obtain ⟨rfl, rt, hr, hrt⟩ := mv_rets5 hk
      rcases mv_cnd h1 with ⟨hi, h1⟩ | ⟨-, h1⟩
      · refine ⟨g, (1, v), h, nc, ns, hg, (by show (1 : Nat) < 5; omega), h1, mv_ret0 (by show (1 : Nat) < 2; omega) fun p e R s m args below meth c H locs ls hf hq hl => ?_⟩
        have hq : ∀ t : State, t.heap = H → s.WarmedH t.vm → mv_Qc D cs r ba b (1, v) h args s (.returned (some (mv_val r ba b v))) t := hq
        show W p l e R s m args below meth c H locs nc ns _ (F0 m pc ls [mv_val r ba b v])
        rw [mv_val_R hi] at hq ⊢
        exact W.aret hf.1 hf.2.1 (hf.2.2.2.2.2.1.trans hr) hrt (Or.inr ⟨_, rfl⟩) hq hl hd hf.2.2.2.2.2.2.1
      · cases h1
    · cases h1
  · cases h1
end
section
/-! ===== a throw; a method as a contract; behind a call; a handler ===== -/
theorem mv_hat {D : va_G} {cs : ClassId × ClassId × ClassId} {r : Nat → Int32} {ba : mv_A} {b : Nat} {s : State} {args : Array Value} {L : List Cond} (hts : ∀ w ∈ mv_big, w.before args s = true) (he : ∀ w ∈ mv_nst, va_Nw w s) (h : ∀ w ∈ L, (w ∈ mv_big ∨ (w ∈ mv_nst ∧ w.onTables = true)) ∧ vx_ot w = true) : ∀ w ∈ L, w.before args s = true := by
  intro w hw
  rcases (h w hw).1 with h1 | ⟨h1, h2⟩
  · exact hts w h1
  · exact va_Nw.use h2 (he w h1)
theorem mv_any {own : String} {is : Nat} (h : mv_str.any (fun q => decide (q.1 = own) && Nat.beq q.2.1 is) = true) : ∃ tx : String, (own, is, tx) ∈ mv_str := by
  obtain ⟨q, hq, h1⟩ := List.any_eq_true.mp h
  obtain ⟨h1, h2⟩ := mv_a2 h1
  have e1 : q.1 = own := of_decide_eq_true h1
  have e2 : q.2.1 = is := mv_beq h2
  refine ⟨q.2.2, ?_⟩
  rw [← e1, ← e2]
  exact hq
theorem mv_x2_ok {l : Launch} (hst : l.stackTraces = false) {D : va_G} {cs : ClassId × ClassId × ClassId} {r : Nat → Int32} {ba : mv_A} {b : Nat} {X : mv_I} {dep pc len a k : Nat} {i : Instr} {loc : mv_L} {st : List mv_V} {h : List mv_C} {nc ns : Nat} {g : mv_B} {K : mv_K} (h1 : mv_x2 dep (i, pc, len, 2, a, k) st h nc ns g K = true)
    (hd : decode X.2.1 pc = .ok (i, len)) (hk0 : (Nat.beq len 3 && mv_thr X.2.1 pc i X.1.cls a (mv_nk i) (k % 65536) (k / 65536) X.2.2.2.2.2.2.2) = true) (hg : mv_in g r) :
    mv_ends l D cs r ba b X dep loc st h nc ns pc K := by
  obtain ⟨hlen, hk⟩ := mv_a2 hk0
  clear hk0
  cases mv_beq hlen
  unfold mv_x2 at h1
  rcases mv_cnd h1 with ⟨h2, h1⟩ | ⟨-, h1⟩
  · obtain ⟨h2, h3⟩ := mv_a2 h2
    have h2 := mv_blt h2
    have h3 := mv_ble h3
    rw [mv_fo_eq, mv_fo_eq, mv_sn_eq] at h1
    have h1 : K g (a + 2, (0, 0)) (h ++ [(3, [])]) (nc + 1) (ns + 6) = true := h1
    unfold mv_thr at hk
    generalize hik : mv_nk i = ik at hk
    simp only [Bool.and_eq_true, Bool.or_eq_true, decide_eq_true_eq] at hk
    obtain ⟨⟨hi, hown⟩, ⟨ha, ⟨hk1, hk2⟩⟩, ⟨hs, hem⟩, d3, hdd⟩ := hk
    have ha := mv_blt ha
    have hk1 := mv_beq hk1
    have hk2 := mv_beq hk2
    subst hi
    rw [hk1] at hd
    rw [hk2] at hdd
    obtain ⟨tx, htx⟩ := mv_any hs
    have hh : X.2.2.2.2.2.2.2 = [] := List.isEmpty_iff.mp hem
    refine ⟨g, (a + 2, (0, 0)), h ++ [(3, [])], nc + 1, ns + 6, hg, (by show a + 2 < 5; omega), h1, Nat.le_succ _, Nat.le_add_right _ _, by rw [List.length_append]; show h.length + (nc + 1) = h.length + 1 + nc; omega, fun p e R s m args below meth c hf he hr1 hr2 hr3 hr4 H locs ls hH hS hl hn => ?_⟩
    obtain ⟨f1, f2, f3, f4, f5, f6, f7, f8, f9⟩ := hf
    obtain ⟨e1, e2, e3, e4, e5, e6, e7, e8⟩ := he
    obtain ⟨sa, hsa⟩ := e6 _ htx
    obtain ⟨t1, t2⟩ := mv_tw ha
    rw [hown] at f4 hsa
    have ht := mv_hat (D := D) (cs := cs) (r := r) (ba := ba) (b := b) f5 e5 t1
    have hcs : ((st.map (mv_val r ba b)).map fun v => v.category).sum ≤ 8 := by
      rw [mv_csum r ba b st]; exact h3
    have hx : ∀ t : State, s.vm.Alike t.vm → H.size < t.heap.size → (∀ q : Nat, q < H.size → t.heap[q]? = H[q]?) → mv_XC D cs r ba b (a + 2, (0, 0)) (h ++ [(3, [])]) (mv_ex a) s t := by
      intro t _ z1 z2
      refine ⟨Nat.le_add_left _ _, rfl, ?_, ?_, ?_, ?_⟩
      · rw [List.length_append]
        have h9 := hH.1.1
        have h8 := mv_ad_s (ba := ba) 1 hH.1.2
        show mv_ad ba (h.length + 1) ≤ _
        omega
      · intro k c hc
        by_cases hlt : k < h.length
        · rw [List.getElem?_append_left hlt] at hc
          exact (hH.2 k c hc).kept (z2 _ (by rw [hH.1.1]; exact mv_ad_lt hlt))
        · rw [List.getElem?_append_right (by omega)] at hc
          have hz : k - h.length < 1 := (List.getElem?_eq_some_iff.mp hc).1
          have hz0 : k - h.length = 0 := by omega
          rw [hz0] at hc
          cases hc
          exact trivial
      · exact Nat.le_trans hS.1 (Nat.le_of_lt z1)
      · intro q q1 q2
        rw [z2 q (Nat.lt_of_lt_of_le q1 hS.1)]
        exact hS.2.1 q q1 q2
    have hno : ∀ y ∈ c.exceptionTable.toList, False := by
      intro y hy
      rw [f9, hh] at hy
      cases hy
    rcases hdd with ⟨d4, d6, d9⟩ | ⟨d4, d6, d9⟩
    · exact mv_throwS (names := mv_xnm) f1 f2 hst f4 t2 mv_xfit (ht _ List.mem_cons_self) (ht _ (List.mem_cons_of_mem _ List.mem_cons_self)) hsa (fun w hw => ht _ (List.mem_cons_of_mem _ (List.mem_cons_of_mem _ hw))) (fun w hw => (t1 w hw).2) e3 e4 hS (hl.1.trans f3.symm) hd d3 d4 d6 d9 (fun y hy => absurd (hno y hy) id) (by show 2 + 3 < R.frames; omega) (by show _ + (13 * (2 + 1) + 43) ≤ R.locals; omega) hr3 hr4 f7 hx hS.2.2 (Nat.le_refl _) (Nat.le_refl _)
    · exact mv_throwSW (names := mv_xnm) f1 f2 hst f4 t2 mv_xfit (ht _ List.mem_cons_self) (ht _ (List.mem_cons_of_mem _ List.mem_cons_self)) hsa (fun w hw => ht _ (List.mem_cons_of_mem _ (List.mem_cons_of_mem _ hw))) (fun w hw => (t1 w hw).2) e3 e4 hS (hl.1.trans f3.symm) hd d3 d4 d6 d9 (fun y hy => absurd (hno y hy) id) (by show 2 + 3 < R.frames; omega) (by show _ + (13 * (2 + 1) + 43) ≤ R.locals; omega) hr3 hr4 f7 hx hS.2.2 (Nat.le_refl _) (Nat.le_refl _)
  · cases h1
theorem mv_x3_ok {l : Launch} {D : va_G} {cs : ClassId × ClassId × ClassId} {r : Nat → Int32} {ba : mv_A} {b : Nat} {mi : Nat → mv_I} {cand : Nat → List Cond} {J : mv_J} (hJ : mv_good l D cs r ba b mi cand J) {mid : Nat} (hc : ∀ w ∈ cand mid, w ∈ mv_big) {dep pc len a k : Nat} {i : Instr} {t : List mv_E} {loc : mv_L} {st : List mv_V} {h : List mv_C} {nc ns : Nat} {g : mv_B} {K : mv_K} (h1 : mv_x3 J dep mid (i, pc, len, 3, a, k) t loc st h nc ns g K = true)
    (hv : mv_vL (cand mid) mi (mi mid) (pc + len) t = true) (hd : decode (mi mid).2.1 pc = .ok (i, len)) (hk0 : (Nat.beq len 3 && mv_c3 (cand mid) (mi mid).1.cls i) = true) (hg : mv_in g r) :
    mv_ends l D cs r ba b (mi mid) dep loc st h nc ns pc K := by
  obtain ⟨hlen, hk⟩ := mv_a2 hk0
  clear hk0
  cases mv_beq hlen
  unfold mv_c3 at hk
  split at hk
  · rename_i idx
    simp only [Bool.and_eq_true, decide_eq_true_eq] at hk
    obtain ⟨k1, k2, k3⟩ := hk
    unfold mv_x3 at h1
    split at h1
    · rename_i v s2
      rcases mv_cnd h1 with ⟨h2, h1⟩ | ⟨-, h1⟩
      · simp only [Bool.and_eq_true] at h2
        obtain ⟨h2, h3, h4⟩ := h2
        obtain ⟨g2, res, h2', c2, n2, q1, q2, q3, q4⟩ := hJ _ _ _ _ _ _ _ _ _ _ _ h1 hv hg
        refine ⟨g2, res, h2', c2, n2, q1, q2, q3, mv_run_of (x := (none, loc, s2, h, nc, ns)) ⟨Nat.le_refl _, Nat.le_refl _, rfl⟩ q4 fun p e R s m args below meth c Q hf he r1 r2 _ _ kk H locs ls hH hS hl hn => ?_⟩
        show W p l e R s m args below meth c H locs nc ns Q (F0 m pc ls (mv_val r ba b v :: s2.map (mv_val r ba b)))
        rw [mv_val_R h2]
        have hcs : ((s2.map (mv_val r ba b)).map fun v => v.category).sum ≤ 8 := by
          rw [mv_csum r ba b s2]; exact mv_ble h3
        have h4 := mv_blt h4
        exact W.objInit hf.1 hf.2.1 hf.2.2.2.1 (hf.2.2.2.2.1 _ (hc _ k1)) (hf.2.2.2.2.1 _ (hc _ k2)) (hf.2.2.2.2.1 _ (hc _ k3)) rfl (hl.1.trans hf.2.2.1.symm) rfl hd (by omega) (by show 2 * 0 + _ + 12 ≤ _; omega) (kk H locs ls hH hS hl hn)
      · cases h1
    · cases h1
  · cases hk
/-- from the entry on -/
theorem mv_ent {l : Launch} {D : va_G} {cs : ClassId × ClassId × ClassId} {r : Nat → Int32} {ba : mv_A} {b d : Nat} {x : mv_I} {as : List mv_V} {h : List mv_C} {res : Nat × mv_V} {h2 : List mv_C} {c2 n2 : Nat} (hR : mv_run l D cs r ba b x d (mv_ag 0 as) [] h 0 0 0 res h2 c2 n2) (hcs : mv_cs as ≤ x.2.2.1)
    {p : Program} {e : Env} {s : State} {m : MethodId} {args : Array Value} {below : List Frame} {meth : Method} {c : Code} (hf : mv_fr x p s m args meth c) (hP : mv_Pc D cs r ba b as h args s) :
    W p l e (mv_rm d c2 n2) s m args below meth c s.heap [] 0 0 (vx_MQ below (mv_Qc D cs r ba b res h2) (mv_XC D cs r ba b res h2) args s c2 n2 (fun q => ba.1 ≤ q)) (entryFrame m args x.2.2.1) := by
  obtain ⟨ha, hen, hok⟩ := hP
  subst ha
  rw [lg_entry_eq]
  have hl := lv_entry (as.map (mv_val r ba b)) (n := x.2.2.1) (by rw [mv_lgs r ba b as]; exact hcs)
  rw [mv_args r ba b 0 as] at hl
  exact hR.2.2.2 p e (mv_rm d c2 n2) s m _ below meth c hf hen (Nat.le_refl _) (Nat.le_refl _) (Nat.le_refl _) (Nat.le_refl _) s.heap [] _ hok va_S.rf hl rfl
theorem mv_metC {l : Launch} {D : va_G} {cs : ClassId × ClassId × ClassId} {r : Nat → Int32} {ba : mv_A} {b d : Nat} {x : mv_I} {as : List mv_V} {h : List mv_C} {res : Nat × mv_V} {h2 : List mv_C} {c2 n2 : Nat} (hR : mv_run l D cs r ba b x d (mv_ag 0 as) [] h 0 0 0 res h2 c2 n2) (hcs : mv_cs as ≤ x.2.2.1)
    (hy : plainName x.1.cls = true) (hh : x.2.2.2.2.2.2.2 = []) : vx_Met l x.1 (Cond.code x.1 x.2.1 x.2.2.1 x.2.2.2.1 :: mv_big) (mv_rm d c2 n2) (mv_Pc D cs r ba b as h) (mv_Qc D cs r ba b res h2) (mv_XC D cs r ba b res h2) c2 n2 (fun q => ba.1 ≤ q) := by
  refine vx_ofW hy rfl fun p e s m args below meth c s₁ B hml ht hP => ?_
  have hts : ∀ w ∈ Cond.code x.1 x.2.1 x.2.2.1 x.2.2.2.1 :: mv_big, w.before args s = true := atoms_spec (ws := Cond.code x.1 x.2.1 x.2.2.1 x.2.2.2.1 :: mv_big) B.pre
  refine mv_ent hR hcs ⟨B.exec, B.bytes, hml, findClass_of_methodNamed B.named, fun w hw => hts w (List.mem_cons_of_mem _ hw), B.returns, B.notSynchronized, (name_of_methodNamed B.named B.method).1, ?_⟩ hP
  rw [hh]
  cases hq : c.exceptionTable.toList with
  | nil => rfl
  | cons y t => exact absurd (ht y (by rw [hq]; exact List.mem_cons_self)) id
theorem mv_metW {l : Launch} {D : va_G} {cs : ClassId × ClassId × ClassId} {r : Nat → Int32} {ba : mv_A} {b d : Nat} {x : mv_I} {as : List mv_V} {h : List mv_C} {res : Nat × mv_V} {h2 : List mv_C} {c2 n2 : Nat} (hR : mv_run l D cs r ba b x d (mv_ag 0 as) [] h 0 0 0 res h2 c2 n2) (hcs : mv_cs as ≤ x.2.2.1)
    (hy : plainName x.1.cls = true) : vx_Met l x.1 (Cond.codeWith x.1 x.2.1 x.2.2.1 x.2.2.2.1 x.2.2.2.2.2.2.2 :: mv_big) (mv_rm d c2 n2) (mv_Pc D cs r ba b as h) (mv_Qc D cs r ba b res h2) (mv_XC D cs r ba b res h2) c2 n2 (fun q => ba.1 ≤ q) := by
  refine vx_ofWH hy rfl fun p e s m args below meth c s₁ B hml hP => ?_
  have hts : ∀ w ∈ Cond.codeWith x.1 x.2.1 x.2.2.1 x.2.2.2.1 x.2.2.2.2.2.2.2 :: mv_big, w.before args s = true := atoms_spec (ws := Cond.codeWith x.1 x.2.1 x.2.2.1 x.2.2.2.1 x.2.2.2.2.2.2.2 :: mv_big) B.pre
  exact mv_ent hR hcs ⟨B.exec, B.bytes, hml, findClass_of_methodNamed B.named, fun w hw => hts w (List.mem_cons_of_mem _ hw), B.returns, B.notSynchronized, (name_of_methodNamed B.named B.method).1, vx_table (x := x.1) B (hts _ List.mem_cons_self)⟩ hP
end
section
/-! ===== behind a call; a handler ===== -/
section MVAF
variable {p : Program} {l : Launch} {e : Env} {R : Room} {s : State} {m : MethodId} {args : Array Value} {below : List Frame} {meth : Method} {c : Code} {H : Heap} {locs : List Loc} {nc ns : Nat} {Q : State → Prop}
variable {D : va_G} {cs : ClassId × ClassId × ClassId} {r : Nat → Int32} {ba : mv_A} {b : Nat}
theorem mv_after {res : Nat × mv_V} {h h2 : List mv_C} {c2 n2 pc : Nat} {ls : Array Slot} {av : Array Value} {stv restv : List Value} (hr : vx_Run p l e R s m args below meth c H locs nc ns c2 n2 (F0 m pc ls stv) restv (mv_Qc D cs r ba b res h2 av) (mv_XC D cs r ba b res h2) (fun q => ba.1 ≤ q))
    (hH : mv_hok D cs r ba b h H) (hS : va_S (fun q => ba.1 ≤ q) s.heap H locs) (hn : s.heap.size + nc = H.size) (hc : h.length + c2 = h2.length)
    (kk : res.1 < 2 → ∀ (H1 : Heap) (locs1 : List Loc), mv_hok D cs r ba b h2 H1 → va_S (fun q => ba.1 ≤ q) s.heap H1 locs1 → s.heap.size + (nc + c2) = H1.size → W p l e R s m args below meth c H1 locs1 (nc + c2) (ns + n2) Q (F0 m (pc + 3) ls ((mv_rv r ba b res).toList ++ restv)))
    (kx : 2 ≤ res.1 → ∀ (H1 : Heap) (locs1 : List Loc) (q9 : Addr) (ce : Cell), mv_hok D cs r ba b h2 H1 → va_S (fun q => ba.1 ≤ q) s.heap H1 locs1 → s.heap.size + (nc + c2) = H1.size → H1[q9]? = some ce → ce.vm = .none → s.vm.findClass (mv_ex (res.1 - 2)) = some ce.cls → vx_W p l e R s m args below meth c H1 locs1 (nc + c2) (ns + n2) Q (F0 m pc ls restv) q9) :
    W p l e R s m args below meth c H locs nc ns Q (F0 m pc ls stv) := by
  intro T hT X
  rcases hr T hT X with ⟨v, st₀, t, T', L, h0, X', hL, e1, e2, ⟨q1, q2, q3, q4⟩, st⟩ | ⟨q, st₀, t, T', L, E, ce, h0, X', hL, e1, e2, ⟨x1, x2, x3, x4, x5⟩, hce, hcv, hcl, st⟩
  · obtain ⟨k1, k2, k3⟩ := vx_keep h0 e1 hS (fun _ _ z => z) (fun _ z => z) hL q4
    have hv : v = mv_rv r ba b res := Outcome.returned.inj q2
    have hk : mv_hok D cs r ba b h2 T'.heap := by rw [e1]; exact q3
    obtain ⟨t2, a1, b1⟩ := kk q1 T'.heap (locs ++ L) hk k3 (by rw [hk.1.1, ← hc, mv_ad_s c2 hH.1.2]; have := hH.1.1; omega) T' rfl X'
    rw [← hv] at a1
    exact ⟨t2, st t2 a1, b1⟩
  · obtain ⟨k1, k2, k3⟩ := vx_keep h0 e1 hS (fun _ _ z => z) (fun _ z => z) hL x5
    have hz9 : mv_ad ba h2.length = mv_ad ba h.length + c2 := by rw [← hc]; exact mv_ad_s c2 hH.1.2
    have hz : T'.heap.size = mv_ad ba h2.length := by
      have y1 : T'.heap.size ≤ s.heap.size + (nc + c2) := X'.heapSize
      rw [← e1] at x3
      have := hH.1.1
      omega
    have hk : mv_hok D cs r ba b h2 T'.heap := ⟨⟨hz, by rw [← hc]; exact Nat.le_trans hH.1.2 (Nat.le_add_right _ _)⟩, fun k c9 hk9 => by rw [e1]; exact x4 k c9 hk9⟩
    obtain ⟨t2, a1, b1⟩ := kx x1 T'.heap (locs ++ L) q ce hk k3 (by rw [hz, hz9]; have := hH.1.1; omega) (by rw [e1]; exact hce) hcv (by rw [← x2]; exact hcl) T' rfl X'
    exact ⟨t2, st.trans a1, b1⟩
end MVAF
theorem mv_vL_cons {cand : List Cond} {mi : Nat → mv_I} {x : mv_I} {pc : Nat} {e : mv_E} {t : List mv_E} (h : mv_vL cand mi x pc (e :: t) = true) : e.2.1 = pc ∧ mv_vo cand mi x e.1 e.2.1 e.2.2.1 e.2.2.2.1 e.2.2.2.2.1 e.2.2.2.2.2 = true ∧ mv_vL cand mi x (e.2.1 + e.2.2.1) t = true := by
  obtain ⟨h1, h2⟩ := mv_a2 (show (Nat.beq e.2.1 pc && (mv_vo cand mi x e.1 e.2.1 e.2.2.1 e.2.2.2.1 e.2.2.2.2.1 e.2.2.2.2.2 && mv_vL cand mi x (e.2.1 + e.2.2.1) t)) = true from h)
  obtain ⟨h2, h3⟩ := mv_a2 h2
  exact ⟨mv_beq h1, h2, h3⟩
theorem mv_vh_ok {cand : List Cond} {xn : Nat → Nat} {x : mv_I} (h : mv_vm cand xn x = true) : ∀ q ∈ x.2.2.2.2.2.2.2, q.2.2.2 ≠ 0 ∧ xn q.2.2.2 < 3 ∧ Cond.classLink x.1.cls q.2.2.2 (mv_ex (xn q.2.2.2)) ∈ cand := by
  intro q hq
  have h1 := List.all_eq_true.mp (mv_a2 h).1 q hq
  simp only [Bool.and_eq_true, decide_eq_true_eq] at h1
  refine ⟨?_, mv_blt h1.2.1, h1.2.2⟩
  have h2 := h1.1
  cases hb : Nat.beq q.2.2.2 0
  · exact mv_nbeq hb
  · rw [hb] at h2; cases h2
/-- what an exception's way on is -/
def mv_onx (l : Launch) (D : va_G) (cs : ClassId × ClassId × ClassId) (r : Nat → Int32) (ba : mv_A) (b : Nat) (X : mv_I) (dep pc x : Nat) (loc : mv_L) (h2 : List mv_C) (nc2 ns2 : Nat) (res3 : Nat × mv_V) (h3 : List mv_C) (c3 n3 : Nat) : Prop :=
  ∀ (p : Program) (e : Env) (R : Room) (s : State) (m : MethodId) (args : Array Value) (below : List Frame) (meth : Method) (c : Code), mv_fr X p s m args meth c → mv_en D cs r ba b s → dep ≤ R.frames → 100 * dep ≤ R.locals → c3 ≤ R.cells → n3 ≤ R.slots →
    ∀ (H1 : Heap) (locs1 : List Loc) (ls : Array Slot) (q9 : Addr) (ce : Cell) (restv : List Value), mv_hok D cs r ba b h2 H1 → va_S (fun q => ba.1 ≤ q) s.heap H1 locs1 → lv_has ls X.2.2.1 (loc.map (mv_lv r ba b)) → s.heap.size + nc2 = H1.size → H1[q9]? = some ce → ce.vm = .none → s.vm.findClass (mv_ex x) = some ce.cls →
      vx_W p l e R s m args below meth c H1 locs1 nc2 ns2 (vx_MQ below (mv_Qc D cs r ba b res3 h3) (mv_XC D cs r ba b res3 h3) args s c3 n3 (fun q => ba.1 ≤ q)) (F0 m pc ls restv) q9
theorem mv_tab (hh : List (Nat × Nat × Nat × Nat)) {y : ExceptionTableEntry} (h : y ∈ tableOf hh) : ∃ q ∈ hh, y = ⟨q.1, q.2.1, q.2.2.1, q.2.2.2⟩ := by
  obtain ⟨q, h1, h2⟩ := List.mem_map.mp h
  exact ⟨q, h1, h2.symm⟩
theorem mv_pas {D : va_G} {cs : ClassId × ClassId × ClassId} {r : Nat → Int32} {ba : mv_A} {b : Nat} {cand : List Cond} {xn : Nat → Nat} {X : mv_I} {pc x : Nat} {p : Program} {s : State} {m : MethodId} {args : Array Value} {meth : Method} {c : Code} (hc : ∀ w ∈ cand, w ∈ mv_big) (hx : x < 3) (hvm : mv_vm cand xn X = true) (hf : mv_fr X p s m args meth c) (he : mv_en D cs r ba b s) {q : Nat × Nat × Nat × Nat} (hq : q ∈ X.2.2.2.2.2.2.2) (h : (Nat.ble q.1 pc && Nat.blt pc q.2.1) = false ∨ xn q.2.2.2 ≠ x) :
    covers ⟨q.1, q.2.1, q.2.2.1, q.2.2.2⟩ pc = false ∨ ((⟨q.1, q.2.1, q.2.2.1, q.2.2.2⟩ : ExceptionTableEntry).catchType ≠ 0 ∧ ∃ nm : String, (Cond.classLink X.1.cls (⟨q.1, q.2.1, q.2.2.1, q.2.2.2⟩ : ExceptionTableEntry).catchType nm).before args s = true ∧ va_Nc (mv_ex x) nm s) := by
  rcases h with h | h
  · exact Or.inl (mv_cov h)
  · obtain ⟨h1, h2, h3⟩ := mv_vh_ok hvm q hq
    exact Or.inr ⟨h1, _, hf.2.2.2.2.1 _ (hc _ h3), he.2.2.2.2.2.2.1 _ (mv_ncs_ok hx h2 h)⟩
theorem mv_x6_ok {l : Launch} {D : va_G} {cs : ClassId × ClassId × ClassId} {r : Nat → Int32} {ba : mv_A} {b : Nat} {bk : Nat → Nat → Option (List mv_E)} {mi : Nat → mv_I} {xn : Nat → Nat} {cand : Nat → List Cond} {J : mv_J} (hJ : mv_good l D cs r ba b mi cand J) (htb : mv_tb bk mi xn cand) {x dep mid : Nat} {e : mv_E} {loc : mv_L} {K : mv_K} {g2 : mv_B} {h2 : List mv_C} {nc2 ns2 : Nat} (hx : x < 3) (hg : mv_in g2 r)
    (h1 : mv_x6 bk mi xn J x dep mid e loc K g2 h2 nc2 ns2 = true) :
    ∃ (g3 : mv_B) (res3 : Nat × mv_V) (h3 : List mv_C) (c3 n3 : Nat), mv_in g3 r ∧ res3.1 < 5 ∧ K g3 res3 h3 c3 n3 = true ∧ nc2 ≤ c3 ∧ ns2 ≤ n3 ∧ h2.length + c3 = h3.length + nc2 ∧ mv_onx l D cs r ba b (mi mid) dep e.2.1 x loc h2 nc2 ns2 res3 h3 c3 n3 := by
  obtain ⟨t1, t2, t3, -⟩ := htb mid
  unfold mv_x6 at h1
  split at h1
  · rename_i hno
    refine ⟨g2, (x + 2, (0, 0)), h2, nc2, ns2, hg, (by show x + 2 < 5; omega), h1, Nat.le_refl _, Nat.le_refl _, rfl, fun p en R s m args below meth c hf he _ _ _ _ H1 locs1 ls q9 ce restv hH hS hl hn q1 q2 q3 => ?_⟩
    refine vx_outP hf.2.2.2.1 hf.2.2.2.2.2.2.1 (fun z hz => ?_) q1 q2 q3 (fun t ht _ => ?_) hS.2.2 (Nat.le_refl _) (Nat.le_refl _)
    · rw [hf.2.2.2.2.2.2.2.2] at hz
      obtain ⟨q, hq, rfl⟩ := mv_tab _ hz
      exact mv_pas t1 hx t2 hf he hq (mv_hd_none hno q hq)
    · exact ⟨Nat.le_add_left _ _, rfl, by rw [ht, hH.1.1]; exact Nat.le_refl _, fun k c9 hk => by rw [ht]; exact hH.2 k c9 hk, by rw [ht]; exact hS.1, fun q z1 z2 => by rw [ht]; exact hS.2.1 q z1 z2⟩
  · rename_i hp hso
    split at h1
    · rename_i e2 t9 hbk
      rcases mv_cnd h1 with ⟨h20, h1⟩ | ⟨-, h1⟩
      · rw [mv_fi_eq] at h1
        obtain ⟨v1, v2, v3⟩ := mv_vL_cons (t3 _ _ hbk)
        have h20 := mv_beq h20
        obtain ⟨i, pc2, len2, k2, a2, b2⟩ := e2
        have v1 : pc2 = hp := v1
        have h20 : k2 = 20 := h20
        subst v1
        subst h20
        obtain ⟨w1, w2⟩ := mv_a2 v2
        have hd : decode (mi mid).2.1 pc2 = .ok (i, len2) := of_decide_eq_true w1
        have w2 : mv_c20 (mi mid).2.2.1 len2 a2 i = true := w2
        obtain ⟨g3, res3, h3, c3, n3, y1, y2, y3, y4, y5, y6, y7⟩ := hJ _ _ _ _ _ _ _ _ _ _ _ h1 v3 hg
        refine ⟨g3, res3, h3, c3, n3, y1, y2, y3, y4, y5, y6, fun p en R s m args below meth c hf he hr1 hr2 hr3 hr4 H1 locs1 ls q9 ce restv hH hS hl hn q1 q2 q3 => ?_⟩
        obtain ⟨pre, q, suf, e1, e3, e4, e5, e6⟩ := mv_hd_some hso
        have hmem : ∀ z ∈ pre, z ∈ (mi mid).2.2.2.2.2.2.2 := fun z hz => by rw [e1]; exact List.mem_append_left _ hz
        obtain ⟨u1, u2, u3⟩ := mv_vh_ok t2 q (by rw [e1]; exact List.mem_append_right _ List.mem_cons_self)
        rw [e5] at u3
        refine vx_catch (E := mv_ex x) (name := mv_ex x) hf.2.2.2.1 (tableOf pre) ⟨q.1, q.2.1, q.2.2.1, q.2.2.2⟩ (tableOf suf) (by rw [hf.2.2.2.2.2.2.2.2, e1]; unfold tableOf; rw [List.map_append, List.map_cons]) (fun z hz => ?_) (mv_cov e4) u1 (hf.2.2.2.2.1 _ (t1 _ u3)) (va_Nw.use rfl (he.2.2.2.2.1 _ (mv_cst_ok hx))) q1 q2 q3 ?_
        · obtain ⟨z2, hz2, rfl⟩ := mv_tab _ hz
          exact mv_pas t1 hx t2 hf he (hmem _ hz2) (e3 _ hz2)
        · show W p l en R s m args below meth c H1 locs1 nc2 ns2 _ (F0 m q.2.2.1 ls [.ref q9])
          rw [e6]
          have kk : ∀ ls' : Array Slot, lv_has ls' (mi mid).2.2.1 ((a2, Value.ref q9) :: (loc.map (mv_lv r ba b)).filter (fun q => !(q.1 == a2) && !(q.1 + 1 == a2 && q.2.category == 2))) → W p l en R s m args below meth c H1 locs1 nc2 ns2 (vx_MQ below (mv_Qc D cs r ba b res3 h3) (mv_XC D cs r ba b res3 h3) args s c3 n3 (fun q => ba.1 ≤ q)) (F0 m (pc2 + len2) ls' []) := by
            intro ls' hl'
            refine y7 p en R s m args below meth c hf he hr1 hr2 hr3 hr4 H1 locs1 ls' hH hS ?_ hn
            rw [mv_flt1] at hl'
            exact ⟨hl'.1, hl'.2.1, fun z hz => hl'.2.2 z (List.mem_cons_of_mem _ hz)⟩
          unfold mv_c20 at w2
          split at w2
          · rename_i kq
            simp only [Bool.and_eq_true] at w2
            obtain ⟨z1, z2, z3⟩ := w2
            cases mv_beq z1
            cases mv_beq z2
            exact lv_astore hf.1 hf.2.1 hd hl (mv_blt z3) rfl kk
          · rename_i kq
            simp only [Bool.and_eq_true] at w2
            obtain ⟨z1, z2, z3⟩ := w2
            cases mv_beq z1
            exact lv_astore_n hf.1 hf.2.1 hd (mv_beq z2) hl (mv_blt z3) rfl kk
          · cases w2
      · cases h1
    · cases h1
/-- behind a call: the rest of the way -/
theorem mv_x5_ok {l : Launch} {D : va_G} {cs : ClassId × ClassId × ClassId} {r : Nat → Int32} {ba : mv_A} {b : Nat} {bk : Nat → Nat → Option (List mv_E)} {mi : Nat → mv_I} {xn : Nat → Nat} {cand : Nat → List Cond} {J : mv_J} (hJ : mv_good l D cs r ba b mi cand J) (htb : mv_tb bk mi xn cand) {dep mid : Nat} {e : mv_E} {t : List mv_E} {loc : mv_L} {rest : List mv_V} {nc ns : Nat} {K : mv_K} {g2 : mv_B} {res : Nat × mv_V} {h h2 : List mv_C} {c2 n2 : Nat} (hres : res.1 < 5) (hg : mv_in g2 r) (hlen : e.2.2.1 = 3) (hv : mv_vL (cand mid) mi (mi mid) (e.2.1 + e.2.2.1) t = true) (hc : h.length + c2 = h2.length)
    (h1 : mv_x5 bk mi xn J dep mid e t loc rest nc ns K g2 res h2 c2 n2 = true) :
    ∃ (g3 : mv_B) (res3 : Nat × mv_V) (h3 : List mv_C) (c3 n3 : Nat), mv_in g3 r ∧ res3.1 < 5 ∧ K g3 res3 h3 c3 n3 = true ∧ nc + c2 ≤ c3 ∧ ns + n2 ≤ n3 ∧ h2.length + c3 = h3.length + (nc + c2) ∧
      ∀ (p : Program) (en : Env) (R : Room) (s : State) (m : MethodId) (args : Array Value) (below : List Frame) (meth : Method) (c : Code), mv_fr (mi mid) p s m args meth c → mv_en D cs r ba b s → dep ≤ R.frames → 100 * dep ≤ R.locals → c3 ≤ R.cells → n3 ≤ R.slots →
        ∀ (H : Heap) (locs : List Loc) (ls : Array Slot) (av : Array Value) (stv : List Value), mv_hok D cs r ba b h H → va_S (fun q => ba.1 ≤ q) s.heap H locs → lv_has ls (mi mid).2.2.1 (loc.map (mv_lv r ba b)) → s.heap.size + nc = H.size →
          vx_Run p l en R s m args below meth c H locs nc ns c2 n2 (F0 m e.2.1 ls stv) (rest.map (mv_val r ba b)) (mv_Qc D cs r ba b res h2 av) (mv_XC D cs r ba b res h2) (fun q => ba.1 ≤ q) →
          W p l en R s m args below meth c H locs nc ns (vx_MQ below (mv_Qc D cs r ba b res3 h3) (mv_XC D cs r ba b res3 h3) args s c3 n3 (fun q => ba.1 ≤ q)) (F0 m e.2.1 ls stv) := by
  unfold mv_x5 at h1
  rw [mv_fo_eq, mv_fo_eq] at h1
  obtain ⟨rk, rv⟩ := res
  split at h1
  · rename_i hrk
    have hrk : rk = 0 := hrk
    subst hrk
    obtain ⟨g3, res3, h3, c3, n3, y1, y2, y3, y4, y5, y6, y7⟩ := hJ _ _ _ _ _ _ _ _ _ _ _ h1 hv hg
    refine ⟨g3, res3, h3, c3, n3, y1, y2, y3, y4, y5, y6, fun p en R s m args below meth c hf he hr1 hr2 hr3 hr4 H locs ls av stv hH hS hl hn hr => ?_⟩
    refine mv_after hr hH hS hn hc (fun _ H1 locs1 z1 z2 z3 => ?_) (fun z => absurd z (by show ¬ 2 ≤ 0; omega))
    rw [hlen] at y7
    exact y7 p en R s m args below meth c hf he hr1 hr2 hr3 hr4 H1 locs1 ls z1 z2 hl z3
  · rename_i hrk
    have hrk : rk = 1 := hrk
    subst hrk
    obtain ⟨g3, res3, h3, c3, n3, y1, y2, y3, y4, y5, y6, y7⟩ := hJ _ _ _ _ _ _ _ _ _ _ _ h1 hv hg
    refine ⟨g3, res3, h3, c3, n3, y1, y2, y3, y4, y5, y6, fun p en R s m args below meth c hf he hr1 hr2 hr3 hr4 H locs ls av stv hH hS hl hn hr => ?_⟩
    refine mv_after hr hH hS hn hc (fun _ H1 locs1 z1 z2 z3 => ?_) (fun z => absurd z (by show ¬ 2 ≤ 1; omega))
    rw [hlen] at y7
    exact y7 p en R s m args below meth c hf he hr1 hr2 hr3 hr4 H1 locs1 ls z1 z2 hl z3
  · rename_i x hrk
    have hrk : rk = x + 2 := hrk
    subst hrk
    have hres : x + 2 < 5 := hres
    obtain ⟨g3, res3, h3, c3, n3, y1, y2, y3, y4, y5, y6, y7⟩ := mv_x6_ok hJ htb (by omega) hg h1
    refine ⟨g3, res3, h3, c3, n3, y1, y2, y3, y4, y5, y6, fun p en R s m args below meth c hf he hr1 hr2 hr3 hr4 H locs ls av stv hH hS hl hn hr => ?_⟩
    refine mv_after hr hH hS hn hc (fun z => absurd z (by show ¬ x + 2 < 2; omega)) (fun _ H1 locs1 q9 ce z1 z2 z3 z4 z5 z6 => ?_)
    exact y7 p en R s m args below meth c hf he hr1 hr2 hr3 hr4 H1 locs1 ls q9 ce _ z1 z2 hl z3 z4 z5 z6
end
section
/-! ===== calls of each kind; the interpreter's word ===== -/
theorem mv_rc_ok {h : List mv_C} {ci : Nat} {as : List mv_V} (h1 : mv_rc h ci as = true) : ∃ (k : Nat) (as2 : List mv_V) (cl : List mv_V), as = (2, k) :: as2 ∧ h[k]? = some (ci + 4, cl) := by
  unfold mv_rc at h1
  split at h1
  · rename_i v as2
    obtain ⟨h2, h3⟩ := mv_a2 h1
    split at h3
    · rename_i c hc
      obtain ⟨v1, v2⟩ := v
      obtain ⟨c1, cl⟩ := c
      cases mv_beq h2
      rw [mv_gt_eq] at hc
      have e1 : c1 = ci + 4 := mv_beq h3
      subst e1
      exact ⟨v2, as2, cl, rfl, hc⟩
    · cases h3
  · cases h1
theorem mv_vp_ok {cand : List Cond} {xn : Nat → Nat} {x : mv_I} (h : mv_vm cand xn x = true) (hk : x.2.2.2.2.2.1 ≠ 9) : plainName x.1.cls = true ∧ (x.1.cls ≠ "java/lang/invoke/MethodHandle" ∧ x.1.cls ≠ "java/lang/invoke/VarHandle") ∧ x.2.2.1 ≤ 80 ∧ (∀ sig, parseMethodDescriptor x.1.desc = some sig → x.2.2.2.2.1 = sig.parameters.length) ∧ Cond.initialized x.1.cls ∈ cand ∧ mv_vq cand x = true := by
  have h1 := (mv_a2 h).2
  rcases mv_cnd h1 with ⟨h2, -⟩ | ⟨-, h2⟩
  · exact absurd (mv_beq h2) hk
  · obtain ⟨h3, h4⟩ := mv_a2 h2
    unfold mv_vp at h3
    simp only [Bool.and_eq_true, decide_eq_true_eq] at h3
    obtain ⟨⟨⟨a1, a2⟩, a3, a4⟩, a5, a6⟩ := h3
    refine ⟨a1, ⟨a2, a3⟩, mv_ble a4, fun sig hs => ?_, a6, h4⟩
    rw [hs] at a5
    exact (Option.some.inj a5).symm
theorem mv_vq0 {cand : List Cond} {x : mv_I} (h : mv_vq cand x = true) (hk : x.2.2.2.2.2.1 = 0) : x.2.2.2.2.2.2.2 = [] ∧ Cond.instanceMethod x.1 ∈ cand ∧ Cond.selects x.1.cls x.1 x.1 ∈ cand ∧ ∃ q : vw_C, vwCl[x.2.2.2.2.2.2.1]? = some q ∧ q.1 = x.1.cls := by
  unfold mv_vq at h
  rw [hk] at h
  simp only [Bool.and_eq_true, decide_eq_true_eq] at h
  obtain ⟨a1, a3, a4, a5⟩ := h
  refine ⟨List.isEmpty_iff.mp a1, a3, a4, ?_⟩
  split at a5
  · rename_i q hq
    exact ⟨q, hq, of_decide_eq_true a5⟩
  · cases a5
theorem mv_vq1 {cand : List Cond} {x : mv_I} (h : mv_vq cand x = true) (hk : x.2.2.2.2.2.1 = 1) : x.2.2.2.2.2.2.2 = [] ∧ Cond.static x.1 ∈ cand := by
  unfold mv_vq at h
  rw [hk] at h
  simp only [Bool.and_eq_true, decide_eq_true_eq] at h
  obtain ⟨a1, a3⟩ := h
  exact ⟨List.isEmpty_iff.mp a1, a3⟩
theorem mv_vq2 {cand : List Cond} {x : mv_I} (h : mv_vq cand x = true) (hk : x.2.2.2.2.2.1 = 2) : x.2.2.2.2.2.2.2 = [] ∧ Cond.instanceMethod x.1 ∈ cand ∧ x.1.name = "<init>" ∧ x.2.2.2.1 = none := by
  unfold mv_vq at h
  rw [hk] at h
  simp only [Bool.and_eq_true, decide_eq_true_eq] at h
  obtain ⟨a1, a3, a4, a5⟩ := h
  exact ⟨List.isEmpty_iff.mp a1, a3, a4, a5⟩
theorem mv_vq3 {cand : List Cond} {x : mv_I} (h : mv_vq cand x = true) (hk : x.2.2.2.2.2.1 = 3) : Cond.static x.1 ∈ cand := by
  unfold mv_vq at h
  rw [hk] at h
  simp only [Bool.and_eq_true, decide_eq_true_eq] at h
  exact h
theorem mv_gc {w : Cond} (h : w ∈ mv_big) : GoodIn mv_big (w :: mv_big) := fun v hv => (List.mem_cons.mp hv).elim (fun e => by rw [e]; exact mv_big_good w h) (mv_big_good v)
theorem mv_hwc {x : mv_I} (h : mv_hw x ∈ mv_big) (hk : x.2.2.2.2.2.1 ≠ 3) : Cond.code x.1 x.2.1 x.2.2.1 x.2.2.2.1 ∈ mv_big := by
  unfold mv_hw at h
  rw [mv_nb hk] at h
  exact h
theorem mv_hww {x : mv_I} (h : mv_hw x ∈ mv_big) (hk : x.2.2.2.2.2.1 = 3) : Cond.codeWith x.1 x.2.1 x.2.2.1 x.2.2.2.1 x.2.2.2.2.2.2.2 ∈ mv_big := by
  unfold mv_hw at h
  rw [hk] at h
  exact h
/-- what a call has at its place -/
def mv_at (l : Launch) (D : va_G) (cs : ClassId × ClassId × ClassId) (r : Nat → Int32) (ba : mv_A) (b : Nat) (X y : mv_I) (pc : Nat) (loc : mv_L) (st : List mv_V) (h : List mv_C) (nc ns d : Nat) (as rest : List mv_V) : Prop :=
  ∀ (res : Nat × mv_V) (h2 : List mv_C) (c2 n2 : Nat), mv_run l D cs r ba b y d (mv_ag 0 as) [] h 0 0 0 res h2 c2 n2 →
    ∀ (p : Program) (en : Env) (R : Room) (s : State) (m : MethodId) (args : Array Value) (below : List Frame) (meth : Method) (c : Code), mv_fr X p s m args meth c → mv_en D cs r ba b s → d + 1 ≤ R.frames → 100 * (d + 1) ≤ R.locals → nc + c2 ≤ R.cells → ns + n2 ≤ R.slots →
      ∀ (H : Heap) (locs : List Loc) (ls : Array Slot), mv_hok D cs r ba b h H → va_S (fun q => ba.1 ≤ q) s.heap H locs → lv_has ls X.2.2.1 (loc.map (mv_lv r ba b)) →
        vx_Run p l en R s m args below meth c H locs nc ns c2 n2 (F0 m pc ls (st.map (mv_val r ba b))) (rest.map (mv_val r ba b)) (mv_Qc D cs r ba b res h2 (as.map (mv_val r ba b)).toArray) (mv_XC D cs r ba b res h2) (fun q => ba.1 ≤ q)
theorem mv_x4_ok {l : Launch} {D : va_G} {cs : ClassId × ClassId × ClassId} {r : Nat → Int32} {ba : mv_A} {b : Nat} {bk : Nat → Nat → Option (List mv_E)} {mi : Nat → mv_I} {xn : Nat → Nat} {cand : Nat → List Cond} {J : mv_J} (hJ : mv_good l D cs r ba b mi cand J) (htb : mv_tb bk mi xn cand) {k dep mid pc len a a2 k2 : Nat} {i : Instr} {t : List mv_E} {loc : mv_L} {st : List mv_V} {h : List mv_C} {nc ns : Nat} {g : mv_B} {K : mv_K}
    (h1 : mv_x4 bk mi xn J k dep mid (i, pc, len, k2, a, a2) t loc st h nc ns g K = true) (hlen : len = 3) (hv : mv_vL (cand mid) mi (mi mid) (pc + len) t = true) (hg : mv_in g r)
    (hat : ∀ (d : Nat) (as rest : List mv_V), as.length = (mi a).2.2.2.2.1 + (bif Nat.beq k 6 || Nat.beq k 9 then 0 else 1) → st = as.reverse ++ rest → mv_cs rest ≤ 8 → mv_cs as ≤ (mi a).2.2.1 → (Nat.beq k 6 || (Nat.beq k 9 || mv_rc h (mi a).2.2.2.2.2.2.1 as)) = true → mv_at l D cs r ba b (mi mid) (mi a) pc loc st h nc ns d as rest) :
    mv_ends l D cs r ba b (mi mid) dep loc st h nc ns pc K := by
  unfold mv_x4 at h1
  split at h1
  · cases h1
  · rename_i d
    split at h1
    · rename_i as rest htk
      rcases mv_cnd h1 with ⟨h2, h1⟩ | ⟨-, h1⟩
      · simp only [Bool.and_eq_true] at h2
        obtain ⟨⟨h2, h3⟩, h4⟩ := h2
        obtain ⟨u, u1, u2, u3⟩ := mv_tk_ok _ _ _ _ _ htk
        rw [List.append_nil] at u3
        have hA := hat d as rest (by rw [u3, List.length_reverse]; exact u1) (by rw [u3, List.reverse_reverse]; exact u2) (mv_ble h2) (mv_ble h3) h4
        obtain ⟨g2, res, hh2, c2, n2, q1, q2, q3, q4⟩ := hJ _ _ _ _ _ _ _ _ _ _ _ h1 rfl hg
        obtain ⟨m1, m2, m3, m4⟩ := q4
        have hc : h.length + c2 = hh2.length := m3
        obtain ⟨g3, res3, h3', c3, n3, y1, y2, y3, y4, y5, y6, y7⟩ := mv_x5_ok hJ htb q2 q1 hlen hv hc q3
        refine ⟨g3, res3, h3', c3, n3, y1, y2, y3, Nat.le_trans (Nat.le_add_right _ _) y4, Nat.le_trans (Nat.le_add_right _ _) y5, by omega, fun p en R s m args below meth c hf he r1 r2 r3 r4 H locs ls hH hS hl hn => ?_⟩
        exact y7 p en R s m args below meth c hf he r1 r2 r3 r4 H locs ls _ _ hH hS hl hn (hA res hh2 c2 n2 ⟨m1, m2, m3, m4⟩ p en R s m args below meth c hf he r1 r2 (Nat.le_trans y4 r3) (Nat.le_trans y5 r4) H locs ls hH hS hl)
      · cases h1
    · cases h1
section MVKI
variable {l : Launch} {D : va_G} {cs : ClassId × ClassId × ClassId} {r : Nat → Int32} {ba : mv_A} {b : Nat} {mi : Nat → mv_I} {xn : Nat → Nat} {X y : mv_I} {cX cy : List Cond} {pc idx d nc ns : Nat} {loc : mv_L} {st : List mv_V} {h : List mv_C} {as rest : List mv_V}
theorem mv_cB {R : Room} {s : State} {args : Array Value} {c2 n2 : Nat} (hts : ∀ w ∈ mv_big, w.before args s = true) (hcy : ∀ w ∈ cy, w ∈ mv_big) (hvm : mv_vm cy xn y = true) (hk : y.2.2.2.2.2.1 ≠ 9) (hcode : Cond.code y.1 y.2.1 y.2.2.1 y.2.2.2.1 ∈ mv_big) (hlink : (Cond.methodLink X.1.cls idx y.1).before args s = true) (r1 : d + 1 ≤ R.frames) (r2 : 100 * (d + 1) ≤ R.locals) :
    CallB R s args X.1.cls idx y.1 y.2.1 y.2.2.1 y.2.2.2.1 (Cond.code y.1 y.2.1 y.2.2.1 y.2.2.2.1 :: mv_big) (mv_rm d c2 n2) c2 n2 y.2.2.2.2.1 := by
  obtain ⟨a1, a2, a3, a4, a5, -⟩ := mv_vp_ok hvm hk
  refine ⟨rfl, rfl, r1, ?_, pay_in hts (mv_gc hcode), List.mem_cons_self, hts _ hcode, hts _ (hcy _ a5), a2, a4, hlink⟩
  show 8 + (y.2.2.1 + 11) + 100 * d ≤ R.locals
  omega
theorem mv_cN {R : Room} {s : State} {args : Array Value} {c2 n2 : Nat} {host : String} (hts : ∀ w ∈ mv_big, w.before args s = true) (hcy : ∀ w ∈ cy, w ∈ mv_big) (hvm : mv_vm cy xn y = true) (hk : y.2.2.2.2.2.1 ≠ 9) (hcode : Cond.code y.1 y.2.1 y.2.2.1 y.2.2.2.1 ∈ mv_big) (hlink : (Cond.methodLinkNest X.1.cls idx y.1 host).before args s = true) (r1 : d + 1 ≤ R.frames) (r2 : 100 * (d + 1) ≤ R.locals) :
    va_CN R s args X.1.cls idx y.1 host y.2.1 y.2.2.1 y.2.2.2.1 (Cond.code y.1 y.2.1 y.2.2.1 y.2.2.2.1 :: mv_big) (mv_rm d c2 n2) c2 n2 y.2.2.2.2.1 := by
  obtain ⟨a1, a2, a3, a4, a5, -⟩ := mv_vp_ok hvm hk
  refine ⟨⟨rfl, rfl, r1, ?_, pay_in hts (mv_gc hcode), List.mem_cons_self⟩, hts _ hcode, hts _ (hcy _ a5), a2, a4, hlink⟩
  show 8 + (y.2.2.1 + 11) + 100 * d ≤ R.locals
  omega
theorem mv_pS {s : State} {H : Heap} {locs : List Loc} (he : mv_en D cs r ba b s) (hH : mv_hok D cs r ba b h H) (hS : va_S (fun q => ba.1 ≤ q) s.heap H locs) : PreS s H (mv_Pc D cs r ba b as h) (as.map (mv_val r ba b)) :=
  ⟨mv_blind D cs r ba b as h, fun U hU hW => ⟨rfl, he.go hW hU hS, by rw [hU]; exact hH⟩⟩
theorem mv_pV {s : State} {H : Heap} {locs : List Loc} {k ci : Nat} {as2 cl : List mv_V} {q : vw_C} (he : mv_en D cs r ba b s) (hH : mv_hok D cs r ba b h H) (hS : va_S (fun q => ba.1 ≤ q) s.heap H locs) (has : as = (2, k) :: as2) (hk : h[k]? = some (ci + 4, cl)) (hq : vwCl[ci]? = some q) :
    PreV s H q.1 (mv_ad ba k) (mv_Pc D cs r ba b as h) (as2.map (mv_val r ba b)) := by
  refine ⟨mv_blind D cs r ba b as h, ?_, fun U hU hW => ⟨by rw [has]; rfl, he.go hW hU hS, by rw [hU]; exact hH⟩⟩
  obtain ⟨q2, e1, cell, e2, e3, e4, -⟩ := hH.2 k _ hk
  have hC := (he.1.1 ci q hq).2.1
  exact ⟨cell, e2, by rw [e4]; rfl, by rw [e3]; exact hC⟩
theorem mv_rs {as2 : List mv_V} {k : Nat} (has : as = (2, k) :: as2) (hst : st = as.reverse ++ rest) : st.map (mv_val r ba b) = (as2.map (mv_val r ba b)).reverse ++ .ref (mv_ad ba k) :: rest.map (mv_val r ba b) := by
  rw [hst, has, List.reverse_cons, List.append_assoc, List.map_append, ← List.map_reverse]
  rfl
theorem mv_k4 (hcX : ∀ w ∈ cX, w ∈ mv_big) (hcy : ∀ w ∈ cy, w ∈ mv_big) (hvm : mv_vm cy xn y = true) (hhw : y.2.2.2.2.2.1 ≠ 9 → mv_hw y ∈ mv_big) (hk : y.2.2.2.2.2.1 = 0) (hl : Cond.methodLink X.1.cls idx y.1 ∈ cX) (hd : decode X.2.1 pc = .ok (.invokevirtual idx, 3)) (hlen : as.length = y.2.2.2.2.1 + 1) (hst : st = as.reverse ++ rest) (hr : mv_cs rest ≤ 8) (hm : mv_cs as ≤ y.2.2.1) (hrc : mv_rc h y.2.2.2.2.2.2.1 as = true) :
    mv_at l D cs r ba b X y pc loc st h nc ns d as rest := by
  intro res h2 c2 n2 hR p en R s m args below meth c hf he r1 r2 r3 r4 H locs ls hH hS hl2
  have hk9 : y.2.2.2.2.2.1 ≠ 9 := by rw [hk]; omega
  obtain ⟨a1, a2, a3, a4, a5, a6⟩ := mv_vp_ok hvm hk9
  obtain ⟨b1, b3, b4, q, b5, b6⟩ := mv_vq0 a6 hk
  have b2 := mv_hwc (hhw hk9) (by rw [hk]; omega)
  obtain ⟨k, as2, cl, has, hcl⟩ := mv_rc_ok hrc
  have hts := hf.2.2.2.2.1
  have hp := mv_pV he hH hS has hcl b5
  rw [b6] at hp
  have h9 := vx_runV (l := l) (e := en) (R := R) (below := below) (meth := meth) (locs := locs) (cells := nc) (slots := ns) (g := F0 m pc ls (st.map (mv_val r ba b))) (rest := rest.map (mv_val r ba b)) (Ts := mv_big) ⟨hf.1, hf.2.1, hf.2.2.1, hf.2.2.2.1, hts⟩ (mv_metC hR hm a1 b1) ⟨mv_cB hts hcy hvm hk9 b2 (hts _ (hcX _ hl)) r1 r2, hts _ (hcy _ b3), hts _ (hcy _ b4)⟩ hp rfl (by rw [List.length_map]; rw [has] at hlen; exact Nat.succ.inj hlen) hl2.1 (mv_rs has hst) (by
    rw [mv_csum r ba b rest]
    show 2 * 0 + _ ≤ 8
    omega) hd ⟨r3, r4⟩
  rw [has]
  exact h9
theorem mv_k5 {host : String} (hcX : ∀ w ∈ cX, w ∈ mv_big) (hcy : ∀ w ∈ cy, w ∈ mv_big) (hvm : mv_vm cy xn y = true) (hhw : y.2.2.2.2.2.1 ≠ 9 → mv_hw y ∈ mv_big) (hk : y.2.2.2.2.2.1 = 0) (hl : Cond.methodLinkNest X.1.cls idx y.1 host ∈ mv_nst) (hd : decode X.2.1 pc = .ok (.invokevirtual idx, 3)) (hlen : as.length = y.2.2.2.2.1 + 1) (hst : st = as.reverse ++ rest) (hr : mv_cs rest ≤ 8) (hm : mv_cs as ≤ y.2.2.1) (hrc : mv_rc h y.2.2.2.2.2.2.1 as = true) :
    mv_at l D cs r ba b X y pc loc st h nc ns d as rest := by
  intro res h2 c2 n2 hR p en R s m args below meth c hf he r1 r2 r3 r4 H locs ls hH hS hl2
  have hk9 : y.2.2.2.2.2.1 ≠ 9 := by rw [hk]; omega
  obtain ⟨a1, a2, a3, a4, a5, a6⟩ := mv_vp_ok hvm hk9
  obtain ⟨b1, b3, b4, q, b5, b6⟩ := mv_vq0 a6 hk
  have b2 := mv_hwc (hhw hk9) (by rw [hk]; omega)
  obtain ⟨k, as2, cl, has, hcl⟩ := mv_rc_ok hrc
  have hts := hf.2.2.2.2.1
  have hp := mv_pV he hH hS has hcl b5
  rw [b6] at hp
  have h9 := vx_runVN (l := l) (e := en) (R := R) (below := below) (meth := meth) (locs := locs) (cells := nc) (slots := ns) (g := F0 m pc ls (st.map (mv_val r ba b))) (rest := rest.map (mv_val r ba b)) (Ts := mv_big) ⟨hf.1, hf.2.1, hf.2.2.1, hf.2.2.2.1, hts⟩ (mv_metC hR hm a1 b1) ⟨mv_cN hts hcy hvm hk9 b2 (va_Nw.use (mv_nw_t (mv_nw_k _ hl)) (he.2.2.2.2.1 _ hl)) r1 r2, hts _ (hcy _ b3), hts _ (hcy _ b4)⟩ hp rfl (by rw [List.length_map]; rw [has] at hlen; exact Nat.succ.inj hlen) hl2.1 (mv_rs has hst) (by
    rw [mv_csum r ba b rest]
    show 2 * 0 + _ ≤ 8
    omega) hd ⟨r3, r4⟩
  rw [has]
  exact h9
theorem mv_k6 (hcX : ∀ w ∈ cX, w ∈ mv_big) (hcy : ∀ w ∈ cy, w ∈ mv_big) (hvm : mv_vm cy xn y = true) (hhw : y.2.2.2.2.2.1 ≠ 9 → mv_hw y ∈ mv_big) (hk : y.2.2.2.2.2.1 = 1) (hl : Cond.methodLink X.1.cls idx y.1 ∈ cX) (hd : decode X.2.1 pc = .ok (.invokestatic idx, 3)) (hlen : as.length = y.2.2.2.2.1) (hst : st = as.reverse ++ rest) (hr : mv_cs rest ≤ 8) (hm : mv_cs as ≤ y.2.2.1) :
    mv_at l D cs r ba b X y pc loc st h nc ns d as rest := by
  intro res h2 c2 n2 hR p en R s m args below meth c hf he r1 r2 r3 r4 H locs ls hH hS hl2
  have hk9 : y.2.2.2.2.2.1 ≠ 9 := by rw [hk]; omega
  obtain ⟨a1, a2, a3, a4, a5, a6⟩ := mv_vp_ok hvm hk9
  obtain ⟨b1, b3⟩ := mv_vq1 a6 hk
  have b2 := mv_hwc (hhw hk9) (by rw [hk]; omega)
  have hts := hf.2.2.2.2.1
  exact vx_runS (l := l) (e := en) (R := R) (below := below) (meth := meth) (locs := locs) (cells := nc) (slots := ns) (g := F0 m pc ls (st.map (mv_val r ba b))) (rest := rest.map (mv_val r ba b)) (Ts := mv_big) ⟨hf.1, hf.2.1, hf.2.2.1, hf.2.2.2.1, hts⟩ (mv_metC hR hm a1 b1) ⟨mv_cB hts hcy hvm hk9 b2 (hts _ (hcX _ hl)) r1 r2, hts _ (hcy _ b3)⟩ (mv_pS he hH hS) rfl (by rw [List.length_map]; exact hlen) hl2.1 (by show st.map _ = _; rw [hst, List.map_append, ← List.map_reverse]) (by
    rw [mv_csum r ba b rest]
    show 2 * 0 + _ ≤ 8
    omega) hd ⟨r3, r4⟩
theorem mv_k9 (hcX : ∀ w ∈ cX, w ∈ mv_big) (hcy : ∀ w ∈ cy, w ∈ mv_big) (hvm : mv_vm cy xn y = true) (hhw : y.2.2.2.2.2.1 ≠ 9 → mv_hw y ∈ mv_big) (hk : y.2.2.2.2.2.1 = 3) (hl : Cond.methodLink X.1.cls idx y.1 ∈ cX) (hd : decode X.2.1 pc = .ok (.invokestatic idx, 3)) (hlen : as.length = y.2.2.2.2.1) (hst : st = as.reverse ++ rest) (hr : mv_cs rest ≤ 8) (hm : mv_cs as ≤ y.2.2.1) :
    mv_at l D cs r ba b X y pc loc st h nc ns d as rest := by
  intro res h2 c2 n2 hR p en R s m args below meth c hf he r1 r2 r3 r4 H locs ls hH hS hl2
  have hk9 : y.2.2.2.2.2.1 ≠ 9 := by rw [hk]; omega
  obtain ⟨a1, a2, a3, a4, a5, a6⟩ := mv_vp_ok hvm hk9
  have b3 := mv_vq3 a6 hk
  have b2 := mv_hww (hhw hk9) hk
  have hts := hf.2.2.2.2.1
  exact vx_runSX (l := l) (e := en) (R := R) (below := below) (meth := meth) (locs := locs) (cells := nc) (slots := ns) (g := F0 m pc ls (st.map (mv_val r ba b))) (rest := rest.map (mv_val r ba b)) (Ts := mv_big) (n := y.2.2.2.2.1) ⟨hf.1, hf.2.1, hf.2.2.1, hf.2.2.2.1, hts⟩ (mv_metW hR hm a1) ⟨⟨rfl, rfl, r1, by show 8 + (y.2.2.1 + 11) + 100 * d ≤ R.locals; omega, pay_in hts (mv_gc b2), List.mem_cons_self⟩, hts _ b2, hts _ (hcy _ a5), a2, a4, hts _ (hcX _ hl), hts _ (hcy _ b3)⟩ (mv_pS he hH hS) rfl (by rw [List.length_map]; exact hlen) hl2.1 (by show st.map _ = _; rw [hst, List.map_append, ← List.map_reverse]) (by
    rw [mv_csum r ba b rest]
    show 2 * 0 + _ ≤ 8
    omega) hd ⟨r3, r4⟩
theorem mv_k7 (hcX : ∀ w ∈ cX, w ∈ mv_big) (hcy : ∀ w ∈ cy, w ∈ mv_big) (hvm : mv_vm cy xn y = true) (hhw : y.2.2.2.2.2.1 ≠ 9 → mv_hw y ∈ mv_big) (hk : y.2.2.2.2.2.1 = 2) (hl : Cond.methodLink X.1.cls idx y.1 ∈ cX) (hd : decode X.2.1 pc = .ok (.invokespecial idx, 3)) (hlen : as.length = y.2.2.2.2.1 + 1) (hst : st = as.reverse ++ rest) (hr : mv_cs rest ≤ 8) (hm : mv_cs as ≤ y.2.2.1) (hrc : mv_rc h y.2.2.2.2.2.2.1 as = true) :
    mv_at l D cs r ba b X y pc loc st h nc ns d as rest := by
  intro res h2 c2 n2 hR p en R s m args below meth c hf he r1 r2 r3 r4 H locs ls hH hS hl2
  have hk9 : y.2.2.2.2.2.1 ≠ 9 := by rw [hk]; omega
  obtain ⟨a1, a2, a3, a4, a5, a6⟩ := mv_vp_ok hvm hk9
  obtain ⟨b1, b3, b4, b5⟩ := mv_vq2 a6 hk
  have b2 := mv_hwc (hhw hk9) (by rw [hk]; omega)
  obtain ⟨k, as2, cl, has, hcl⟩ := mv_rc_ok hrc
  have hts := hf.2.2.2.2.1
  have hp := mv_pS (as := as) he hH hS
  have hB := mv_cB (X := X) (idx := idx) (c2 := c2) (n2 := n2) hts hcy hvm hk9 b2 (hts _ (hcX _ hl)) r1 r2
  have hM := mv_metC hR hm a1 b1
  rw [b5] at hB hM
  rw [has] at hp hM
  have h9 := vx_runI (l := l) (e := en) (R := R) (below := below) (meth := meth) (locs := locs) (cells := nc) (slots := ns) (b := mv_ad ba k) (As := as2.map (mv_val r ba b)) (g := F0 m pc ls (st.map (mv_val r ba b))) (rest := rest.map (mv_val r ba b)) (Ts := mv_big) ⟨hf.1, hf.2.1, hf.2.2.1, hf.2.2.2.1, hts⟩ hM ⟨hB, b4, hts _ (hcy _ b3)⟩ hp rfl (by rw [List.length_map]; rw [has] at hlen; exact Nat.succ.inj hlen) hl2.1 (mv_rs has hst) (by
    rw [mv_csum r ba b rest]
    show 2 * 0 + _ ≤ 8
    omega) hd ⟨r3, r4⟩
  rw [has]
  exact h9
theorem mv_k8 {host : String} (hcX : ∀ w ∈ cX, w ∈ mv_big) (hcy : ∀ w ∈ cy, w ∈ mv_big) (hvm : mv_vm cy xn y = true) (hhw : y.2.2.2.2.2.1 ≠ 9 → mv_hw y ∈ mv_big) (hk : y.2.2.2.2.2.1 = 2) (hl : Cond.methodLinkNest X.1.cls idx y.1 host ∈ mv_nst) (hd : decode X.2.1 pc = .ok (.invokespecial idx, 3)) (hlen : as.length = y.2.2.2.2.1 + 1) (hst : st = as.reverse ++ rest) (hr : mv_cs rest ≤ 8) (hm : mv_cs as ≤ y.2.2.1) (hrc : mv_rc h y.2.2.2.2.2.2.1 as = true) :
    mv_at l D cs r ba b X y pc loc st h nc ns d as rest := by
  intro res h2 c2 n2 hR p en R s m args below meth c hf he r1 r2 r3 r4 H locs ls hH hS hl2
  have hk9 : y.2.2.2.2.2.1 ≠ 9 := by rw [hk]; omega
  obtain ⟨a1, a2, a3, a4, a5, a6⟩ := mv_vp_ok hvm hk9
  obtain ⟨b1, b3, b4, b5⟩ := mv_vq2 a6 hk
  have b2 := mv_hwc (hhw hk9) (by rw [hk]; omega)
  obtain ⟨k, as2, cl, has, hcl⟩ := mv_rc_ok hrc
  have hts := hf.2.2.2.2.1
  have hp := mv_pS (as := as) he hH hS
  have hB := mv_cN (X := X) (idx := idx) (c2 := c2) (n2 := n2) (host := host) hts hcy hvm hk9 b2 (va_Nw.use (mv_nw_t (mv_nw_k _ hl)) (he.2.2.2.2.1 _ hl)) r1 r2
  have hM := mv_metC hR hm a1 b1
  rw [b5] at hB hM
  rw [has] at hp hM
  have h9 := vx_runIN (l := l) (e := en) (R := R) (below := below) (meth := meth) (locs := locs) (cells := nc) (slots := ns) (b := mv_ad ba k) (As := as2.map (mv_val r ba b)) (g := F0 m pc ls (st.map (mv_val r ba b))) (rest := rest.map (mv_val r ba b)) (Ts := mv_big) ⟨hf.1, hf.2.1, hf.2.2.1, hf.2.2.2.1, hts⟩ hM ⟨hB, b4, hts _ (hcy _ b3)⟩ hp rfl (by rw [List.length_map]; rw [has] at hlen; exact Nat.succ.inj hlen) hl2.1 (mv_rs has hst) (by
    rw [mv_csum r ba b rest]
    show 2 * 0 + _ ≤ 8
    omega) hd ⟨r3, r4⟩
  rw [has]
  exact h9
end MVKI
end
section
/-! ===== what the interpreter says is so ===== -/
noncomputable def mv_su (bk : Nat → Nat → Option (List mv_E)) (mi : Nat → mv_I) (dv : Nat → List mv_V) (xn : Nat → Nat) (ih : mv_J) : mv_J := fun dep mid pc L loc st h nc ns g K => match L with
      | [] => match bk mid pc with
        | some (e :: t) => ih dep mid pc (e :: t) loc st h nc ns g K
        | _ => false
      | e :: t => bif Nat.ble 40 e.2.2.2.1 then mv_x0 ih (mv_sf g loc st h nc ns dv (mi mid).2.2.1 e.1 e.2.1 e.2.2.2.2.1 e.2.2.2.2.2 e.2.2.2.1) dep mid pc e t loc st h nc ns g K
        else mv_x9 bk mi xn ih dep mid pc e t loc st h nc ns g K
theorem mv_eu_s (bk : Nat → Nat → Option (List mv_E)) (mi : Nat → mv_I) (dv : Nat → List mv_V) (xn : Nat → Nat) (n : Nat) : mv_eu bk mi dv xn (n + 1) = mv_su bk mi dv xn (mv_eu bk mi dv xn n) := rfl
section MVSO
variable {l : Launch} {D : va_G} {cs : ClassId × ClassId × ClassId} {r : Nat → Int32} {ba : mv_A} {b : Nat} {bk : Nat → Nat → Option (List mv_E)} {mi : Nat → mv_I} {xn : Nat → Nat} {cand : Nat → List Cond} {J : mv_J}
theorem mv_x8_ok (hst : l.stackTraces = false) (hJ : mv_good l D cs r ba b mi cand J) (htb : mv_tb bk mi xn cand) {dep mid pc len k a b2 : Nat} {i : Instr} {t : List mv_E} {loc : mv_L} {st : List mv_V} {h : List mv_C} {nc ns : Nat} {g : mv_B} {K : mv_K} (h1 : mv_x8 bk mi xn J dep mid pc (i, pc, len, k, a, b2) t loc st h nc ns g K = true)
    (hv : mv_vL (cand mid) mi (mi mid) pc ((i, pc, len, k, a, b2) :: t) = true) (hv2 : mv_vL (cand mid) mi (mi mid) (pc + len) t = true) (hd : decode (mi mid).2.1 pc = .ok (i, len)) (hk : mv_vk (cand mid) mi (mi mid) i pc len k a b2 = true) (hg : mv_in g r) :
    mv_ends l D cs r ba b (mi mid) dep loc st h nc ns pc K := by
  have t1 := (htb mid).1
  have u1 := (htb a).1
  have u2 := (htb a).2.1
  have u3 := (htb a).2.2.2
  unfold mv_x8 at h1
  split at h1
  · cases h1
  · rename_i e1
    have e1 : k = 1 := e1
    subst e1
    exact mv_x1_ok hJ h1 hv hd hk hg
  · rename_i e1
    have e1 : k = 2 := e1
    subst e1
    exact mv_x2_ok hst h1 hd hk hg
  · rename_i e1
    have e1 : k = 3 := e1
    subst e1
    exact mv_x3_ok hJ t1 h1 hv2 hd hk hg
  · rename_i k5 e1
    have e1 : k = k5 + 4 := e1
    subst e1
    rcases mv_cnd h1 with ⟨h2, h1⟩ | ⟨-, h1⟩
    · have h2 := mv_ble h2
      have h3 : k5 = 0 ∨ k5 = 1 ∨ k5 = 2 ∨ k5 = 3 ∨ k5 = 4 ∨ k5 = 5 := by omega
      rcases h3 with rfl | rfl | rfl | rfl | rfl | rfl
      · obtain ⟨z1, z2⟩ := mv_a2 (show (Nat.beq len 3 && (Nat.beq (mi a).2.2.2.2.2.1 0 && mv_c4 (cand mid) (mi mid).1.cls (mi a).1 i)) = true from hk)
        obtain ⟨z4, z3⟩ := mv_a2 z2
        have z1 := mv_beq z1
        unfold mv_c4 at z3
        split at z3
        · exact mv_x4_ok hJ htb h1 z1 hv2 hg fun d as rest q1 q2 q3 q4 q5 => mv_k4 t1 u1 u2 u3 (mv_beq z4) (of_decide_eq_true z3) (by rw [z1] at hd; exact hd) q1 q2 q3 q4 q5
        · cases z3
      · obtain ⟨z1, z2⟩ := mv_a2 (show (Nat.beq len 3 && (Nat.beq (mi a).2.2.2.2.2.1 0 && mv_c5 (mi mid).1.cls (mi a).1 i)) = true from hk)
        obtain ⟨z4, z3⟩ := mv_a2 z2
        have z1 := mv_beq z1
        unfold mv_c5 at z3
        split at z3
        · exact mv_x4_ok hJ htb h1 z1 hv2 hg fun d as rest q1 q2 q3 q4 q5 => mv_k5 t1 u1 u2 u3 (mv_beq z4) (of_decide_eq_true z3) (by rw [z1] at hd; exact hd) q1 q2 q3 q4 q5
        · cases z3
      · obtain ⟨z1, z2⟩ := mv_a2 (show (Nat.beq len 3 && (Nat.beq (mi a).2.2.2.2.2.1 1 && mv_c6 (cand mid) (mi mid).1.cls (mi a).1 i)) = true from hk)
        obtain ⟨z4, z3⟩ := mv_a2 z2
        have z1 := mv_beq z1
        unfold mv_c6 at z3
        split at z3
        · exact mv_x4_ok hJ htb h1 z1 hv2 hg fun d as rest q1 q2 q3 q4 q5 => mv_k6 t1 u1 u2 u3 (mv_beq z4) (of_decide_eq_true z3) (by rw [z1] at hd; exact hd) q1 q2 q3 q4
        · cases z3
      · obtain ⟨z1, z2⟩ := mv_a2 (show (Nat.beq len 3 && (Nat.beq (mi a).2.2.2.2.2.1 2 && mv_c7 (cand mid) (mi mid).1.cls (mi a).1 i)) = true from hk)
        obtain ⟨z4, z3⟩ := mv_a2 z2
        have z1 := mv_beq z1
        unfold mv_c7 at z3
        split at z3
        · exact mv_x4_ok hJ htb h1 z1 hv2 hg fun d as rest q1 q2 q3 q4 q5 => mv_k7 t1 u1 u2 u3 (mv_beq z4) (of_decide_eq_true z3) (by rw [z1] at hd; exact hd) q1 q2 q3 q4 q5
        · cases z3
      · obtain ⟨z1, z2⟩ := mv_a2 (show (Nat.beq len 3 && (Nat.beq (mi a).2.2.2.2.2.1 2 && mv_c8 (mi mid).1.cls (mi a).1 i)) = true from hk)
        obtain ⟨z4, z3⟩ := mv_a2 z2
        have z1 := mv_beq z1
        unfold mv_c8 at z3
        split at z3
        · exact mv_x4_ok hJ htb h1 z1 hv2 hg fun d as rest q1 q2 q3 q4 q5 => mv_k8 t1 u1 u2 u3 (mv_beq z4) (of_decide_eq_true z3) (by rw [z1] at hd; exact hd) q1 q2 q3 q4 q5
        · cases z3
      · obtain ⟨z1, z2⟩ := mv_a2 (show (Nat.beq len 3 && (Nat.beq (mi a).2.2.2.2.2.1 3 && mv_c6 (cand mid) (mi mid).1.cls (mi a).1 i)) = true from hk)
        obtain ⟨z4, z3⟩ := mv_a2 z2
        have z1 := mv_beq z1
        unfold mv_c6 at z3
        split at z3
        · exact mv_x4_ok hJ htb h1 z1 hv2 hg fun d as rest q1 q2 q3 q4 q5 => mv_k9 t1 u1 u2 u3 (mv_beq z4) (of_decide_eq_true z3) (by rw [z1] at hd; exact hd) q1 q2 q3 q4
        · cases z3
    · cases h1
theorem mv_sp_ok (hst : l.stackTraces = false) (h8 : r 8 = r 0 &&& nI 31) (hJ : mv_good l D cs r ba b mi cand J) (htb : mv_tb bk mi xn cand) : mv_good l D cs r ba b mi cand (mv_su bk mi mv_dv xn J) := by
  intro dep mid pc L loc st h nc ns g K h1 hv hg
  unfold mv_su at h1
  split at h1
  · split at h1
    · rename_i hbk
      exact hJ _ _ _ _ _ _ _ _ _ _ _ h1 ((htb mid).2.2.1 _ _ hbk) hg
    · cases h1
  · rename_i e t
    obtain ⟨w1, w2, w3⟩ := mv_vL_cons hv
    obtain ⟨i, pc2, len, k, a, b2⟩ := e
    have w1 : pc2 = pc := w1
    subst w1
    obtain ⟨v1, v2⟩ := mv_a2 w2
    have hd : decode (mi mid).2.1 pc2 = .ok (i, len) := of_decide_eq_true v1
    have t1 := (htb mid).1
    rcases mv_cnd h1 with ⟨h40, h1⟩ | ⟨h40, h1⟩
    · have h40 : Nat.ble 40 k = true := h40
      have v2 : (bif Nat.ble 40 k then Nat.beq k (mv_oc i) && mv_okB (cand mid) (mi mid).1.cls (mi mid).1.name pc2 i len a b2 else mv_vk (cand mid) mi (mi mid) i pc2 len k a b2) = true := v2
      rw [h40] at v2
      obtain ⟨v3, v4⟩ := mv_a2 v2
      have e3 : k = mv_oc i := mv_beq v3
      refine mv_x0_ok hJ h1 hv w3 hg fun x hx => ?_
      have hx : mv_sf g loc st h nc ns mv_dv (mi mid).2.2.1 i pc2 a b2 k = some (.inr x) := hx
      rw [e3, mv_sf_eq] at hx
      refine ⟨mv_mn_s1 hx, fun p en R s m args below meth c Q hf he r1 r2 r3 r4 kk => ?_⟩
      exact mv_s1_ok hf.1 hf.2.1 hf.2.2.2.2.1 hf.2.2.2.1 he.1 he.2.1 h8 hg t1 hd (by rw [hf.2.2.2.2.2.2.2.1]; exact v4) hx r3 r4 kk
    · have h40 : Nat.ble 40 k = false := h40
      have v2 : (bif Nat.ble 40 k then Nat.beq k (mv_oc i) && mv_okB (cand mid) (mi mid).1.cls (mi mid).1.name pc2 i len a b2 else mv_vk (cand mid) mi (mi mid) i pc2 len k a b2) = true := v2
      rw [h40] at v2
      have v2 : mv_vk (cand mid) mi (mi mid) i pc2 len k a b2 = true := v2
      unfold mv_x9 at h1
      rcases mv_cnd h1 with ⟨h11, h1⟩ | ⟨-, h1⟩
      · have h11 : k = 11 := mv_beq h11
        subst h11
        rcases mv_cnd h1 with ⟨h0, h1⟩ | ⟨-, h1⟩
        · have h0 := mv_blt h0
          obtain ⟨z1, z3⟩ := mv_a2 (show (Nat.beq len 3 && mv_c11 (cand mid) (mi mid).1.cls i) = true from v2)
          have z1 := mv_beq z1
          unfold mv_c11 at z3
          split at z3
          · simp only [Bool.and_eq_true, decide_eq_true_eq] at z3
            obtain ⟨y1, y2, y3, y4⟩ := z3
            subst z1
            refine mv_x0_ok hJ h1 hv w3 hg fun x hx => ⟨mv_mn_cp hx, fun p en R s m args below meth c Q hf he r1 r2 r3 r4 kk => ?_⟩
            exact mv_cp_ok hf.1 hf.2.1 hf.2.2.1 hg hf.2.2.2.1 (hf.2.2.2.2.1 _ (t1 _ y1)) (hf.2.2.2.2.1 _ (t1 _ y2)) (hf.2.2.2.2.1 _ (t1 _ y3)) (hf.2.2.2.2.1 _ (t1 _ y4)) he.1 (by omega) (by omega) hd hx kk
          · cases z3
        · cases h1
      rcases mv_cnd h1 with ⟨h15, h1⟩ | ⟨-, h1⟩
      · have h15 : k = 15 := mv_beq h15
        subst h15
        rcases mv_cnd h1 with ⟨h0, h1⟩ | ⟨-, h1⟩
        · have h0 := mv_blt h0
          obtain ⟨z1, z3⟩ := mv_a2 (show (Nat.beq len 3 && mv_c15 (cand mid) (mi mid).1.cls i) = true from v2)
          have z1 := mv_beq z1
          unfold mv_c15 at z3
          split at z3
          · simp only [Bool.and_eq_true, decide_eq_true_eq] at z3
            obtain ⟨y1, y2, y3, y4⟩ := z3
            subst z1
            refine mv_x0_ok hJ h1 hv w3 hg fun x hx => ⟨mv_mn_mx hx, fun p en R s m args below meth c Q hf he r1 r2 r3 r4 kk => ?_⟩
            exact mv_mx_ok hf.1 hf.2.1 hf.2.2.1 hg hf.2.2.2.1 (hf.2.2.2.2.1 _ (t1 _ y1)) (hf.2.2.2.2.1 _ (t1 _ y2)) (hf.2.2.2.2.1 _ (t1 _ y3)) (hf.2.2.2.2.1 _ (t1 _ y4)) (by omega) (by omega) r3 r4 hd hx kk
          · cases z3
        · cases h1
      · exact mv_x8_ok hst hJ htb h1 hv w3 hd v2 hg
theorem mv_eu_ok (hst : l.stackTraces = false) (h8 : r 8 = r 0 &&& nI 31) (htb : mv_tb bk mi xn cand) : ∀ n : Nat, mv_good l D cs r ba b mi cand (mv_eu bk mi mv_dv xn n)
  | 0 => fun dep mid pc L loc st h nc ns g K h1 _ _ => by cases h1
  | n + 1 => by
    rw [mv_eu_s]
    exact mv_sp_ok hst h8 (mv_eu_ok hst h8 htb n) htb
end MVSO
end
section
/-! ===== an interpreter that knows some ends beforehand; things at a distance: what is known of the first things holds behind any number of others ===== -/
/-- method, place, locals, stack, things, cells, slots: the depth, the end, the things, the cells, the slots -/
abbrev mv_O : Type := Nat → Nat → mv_L → List mv_V → List mv_C → Nat → Nat → Option (Nat × (Nat × mv_V) × List mv_C × Nat × Nat)
noncomputable def mv_ho (nc : Nat) (o : Nat × (Nat × mv_V) × List mv_C × Nat × Nat) (g : mv_B) (K : mv_K) : Bool :=
  bif Nat.ble o.2.2.2.1 (nc + 4000) then mv_fl o.2.2.1 (fun h2 => K g o.2.1 h2 o.2.2.2.1 o.2.2.2.2) else K g o.2.1 o.2.2.1 o.2.2.2.1 o.2.2.2.2
noncomputable def mv_sz (O : mv_O) (bk : Nat → Nat → Option (List mv_E)) (mi : Nat → mv_I) (dv : Nat → List mv_V) (xn : Nat → Nat) (ih : mv_J) : mv_J := fun dep mid pc L loc st h nc ns g K => match L with
      | [] => match O mid pc loc st h nc ns with
        | some o => bif Nat.ble o.1 dep then mv_ho nc o g K else false
        | none => match bk mid pc with
          | some (e :: t) => ih dep mid pc (e :: t) loc st h nc ns g K
          | _ => false
      | e :: t => bif Nat.ble 40 e.2.2.2.1 then mv_x0 ih (mv_sf g loc st h nc ns dv (mi mid).2.2.1 e.1 e.2.1 e.2.2.2.2.1 e.2.2.2.2.2 e.2.2.2.1) dep mid pc e t loc st h nc ns g K
        else mv_x9 bk mi xn ih dep mid pc e t loc st h nc ns g K
noncomputable def mv_ez (O : mv_O) (bk : Nat → Nat → Option (List mv_E)) (mi : Nat → mv_I) (dv : Nat → List mv_V) (xn : Nat → Nat) (n : Nat) : mv_J :=
  Nat.rec (motive := fun _ => mv_J)
    (fun _ _ _ _ _ _ _ _ _ _ _ => false)
    (fun _ ih dep mid pc L loc st h nc ns g K => match L with
      | [] => match O mid pc loc st h nc ns with
        | some o => bif Nat.ble o.1 dep then mv_ho nc o g K else false
        | none => match bk mid pc with
          | some (e :: t) => ih dep mid pc (e :: t) loc st h nc ns g K
          | _ => false
      | e :: t => bif Nat.ble 40 e.2.2.2.1 then mv_x0 ih (mv_sf g loc st h nc ns dv (mi mid).2.2.1 e.1 e.2.1 e.2.2.2.2.1 e.2.2.2.2.2 e.2.2.2.1) dep mid pc e t loc st h nc ns g K
        else mv_x9 bk mi xn ih dep mid pc e t loc st h nc ns g K) n
theorem mv_ez_s (O : mv_O) (bk : Nat → Nat → Option (List mv_E)) (mi : Nat → mv_I) (dv : Nat → List mv_V) (xn : Nat → Nat) (n : Nat) : mv_ez O bk mi dv xn (n + 1) = mv_sz O bk mi dv xn (mv_ez O bk mi dv xn n) := rfl
theorem mv_ho_eq (nc : Nat) (o : Nat × (Nat × mv_V) × List mv_C × Nat × Nat) (g : mv_B) (K : mv_K) : mv_ho nc o g K = K g o.2.1 o.2.2.1 o.2.2.2.1 o.2.2.2.2 := by
  unfold mv_ho
  rw [mv_fl_eq]
  cases Nat.ble o.2.2.2.1 (nc + 4000) <;> rfl
section MVOR
variable {l : Launch} {D : va_G} {cs : ClassId × ClassId × ClassId} {r : Nat → Int32} {b : Nat} {mi : Nat → mv_I} {xn : Nat → Nat} {cand : Nat → List Cond} {J : mv_J} {bk : Nat → Nat → Option (List mv_E)}
def mv_Ok (l : Launch) (D : va_G) (cs : ClassId × ClassId × ClassId) (r : Nat → Int32) (ba : mv_A) (b : Nat) (mi : Nat → mv_I) (O : mv_O) : Prop :=
  ∀ (mid pc : Nat) (loc : mv_L) (st : List mv_V) (h : List mv_C) (nc ns : Nat) (o : Nat × (Nat × mv_V) × List mv_C × Nat × Nat), O mid pc loc st h nc ns = some o →
    o.2.1.1 < 5 ∧ mv_run l D cs r ba b (mi mid) o.1 loc st h nc ns pc o.2.1 o.2.2.1 o.2.2.2.1 o.2.2.2.2
theorem mv_run_dep {ba : mv_A} {X : mv_I} {d d2 : Nat} {loc : mv_L} {st : List mv_V} {h : List mv_C} {nc ns pc : Nat} {res : Nat × mv_V} {h2 : List mv_C} {c2 n2 : Nat} (hR : mv_run l D cs r ba b X d loc st h nc ns pc res h2 c2 n2) (hd : d ≤ d2) : mv_run l D cs r ba b X d2 loc st h nc ns pc res h2 c2 n2 := by
  obtain ⟨h1, h3, h4, h5⟩ := hR
  exact ⟨h1, h3, h4, fun p e R s m args below meth c hf he r1 r2 => h5 p e R s m args below meth c hf he (Nat.le_trans hd r1) (Nat.le_trans (Nat.mul_le_mul_left 100 hd) r2)⟩
theorem mv_sz_ok {ba : mv_A} {O : mv_O} (hst : l.stackTraces = false) (h8 : r 8 = r 0 &&& nI 31) (hO : mv_Ok l D cs r ba b mi O) (hJ : mv_good l D cs r ba b mi cand J) (htb : mv_tb bk mi xn cand) : mv_good l D cs r ba b mi cand (mv_sz O bk mi mv_dv xn J) := by
  intro dep mid pc L loc st h nc ns g K h1 hv hg
  have hu := mv_sp_ok hst h8 hJ htb dep mid pc L loc st h nc ns g K
  match L, hv, hu, h1 with
  | e :: t, hv, hu, h1 => exact hu h1 hv hg
  | [], hv, hu, h1 =>
    have h1 : (match O mid pc loc st h nc ns with
        | some o => bif Nat.ble o.1 dep then mv_ho nc o g K else false
        | none => match bk mid pc with
          | some (e :: t) => J dep mid pc (e :: t) loc st h nc ns g K
          | _ => false) = true := h1
    cases ho : O mid pc loc st h nc ns with
    | none =>
      rw [ho] at h1
      exact hu h1 hv hg
    | some o =>
      rw [ho] at h1
      obtain ⟨q1, q2⟩ := hO _ _ _ _ _ _ _ _ ho
      have h1 : (bif Nat.ble o.1 dep then mv_ho nc o g K else false) = true := h1
      rcases mv_cnd h1 with ⟨h2, h1⟩ | ⟨-, h1⟩
      · rw [mv_ho_eq] at h1
        exact ⟨g, o.2.1, o.2.2.1, o.2.2.2.1, o.2.2.2.2, hg, q1, h1, mv_run_dep q2 (mv_ble h2)⟩
      · cases h1
theorem mv_ez_ok {ba : mv_A} {O : mv_O} (hst : l.stackTraces = false) (h8 : r 8 = r 0 &&& nI 31) (hO : mv_Ok l D cs r ba b mi O) (htb : mv_tb bk mi xn cand) : ∀ n : Nat, mv_good l D cs r ba b mi cand (mv_ez O bk mi mv_dv xn n)
  | 0 => fun dep mid pc L loc st h nc ns g K h1 _ _ => by cases h1
  | n + 1 => by
    rw [mv_ez_s]
    exact mv_sz_ok hst h8 hO (mv_ez_ok hst h8 hO htb n) htb
end MVOR
/-! ===== values that tell of the first K things alone ===== -/
def mv_cV (K : Nat) (v : mv_V) : Bool := bif Nat.beq v.1 2 then Nat.blt v.2 K else true
def mv_cC (K : Nat) (c : mv_C) : Bool := c.2.all (mv_cV K)
theorem mv_val_cl {r : Nat → Int32} {ba ba2 : mv_A} {b K : Nat} {v : mv_V} (hv : mv_cV K v = true) (ha : ∀ k, k < K → mv_ad ba k = mv_ad ba2 k) : mv_val r ba b v = mv_val r ba2 b v := by
  obtain ⟨t, n⟩ := v
  match t, hv with
  | 0, _ => rfl
  | 1, _ => rfl
  | 2, hv =>
    show Value.ref (mv_ad ba n) = Value.ref (mv_ad ba2 n)
    rw [ha n (mv_blt (show Nat.blt n K = true from hv))]
  | 3, _ => rfl
  | 4, _ => rfl
  | 5, _ => rfl
  | 6, _ => rfl
  | t + 7, _ => rfl
theorem mv_cok_cl {D : va_G} {cs : ClassId × ClassId × ClassId} {r : Nat → Int32} {ba ba2 : mv_A} {b K a : Nat} {c : mv_C} {H : Heap} (hc : mv_cC K c = true) (ha : ∀ k, k < K → mv_ad ba k = mv_ad ba2 k) (h : mv_cok D cs r ba b a c H) : mv_cok D cs r ba2 b a c H := by
  obtain ⟨t, cl⟩ := c
  match t, h with
  | 0, h => exact h
  | 1, h => exact h
  | 2, h => exact h
  | 3, _ => trivial
  | n + 4, h =>
    obtain ⟨q, h1, h2⟩ := h
    refine ⟨q, h1, ?_⟩
    have e : cl.map (mv_val r ba b) = cl.map (mv_val r ba2 b) := List.map_congr_left (fun v hv => mv_val_cl (List.all_eq_true.mp hc v hv) ha)
    show t_OB a (D.1 n) q.2.2 (D.2 n) H (vp_V (cl.map (mv_val r ba2 b)))
    rw [← e]
    exact h2
/-- the same rows -/
noncomputable def mv_eqL (a : List mv_V) : List mv_V → Bool := List.rec (motive := fun _ => List mv_V → Bool) (fun b => match b with
  | [] => true
  | _ => false) (fun x _ ih b => match b with
  | y :: t => bif Nat.beq x.1 y.1 && Nat.beq x.2 y.2 then ih t else false
  | [] => false) a
theorem mv_eqL_ok : ∀ {a b : List mv_V}, mv_eqL a b = true → a = b
  | [], [], _ => rfl
  | [], y :: t, h => by cases h
  | x :: a, [], h => by cases h
  | x :: a, y :: t, h => by
    have h : (bif Nat.beq x.1 y.1 && Nat.beq x.2 y.2 then mv_eqL a t else false) = true := h
    rcases mv_cnd h with ⟨h1, h9⟩ | ⟨-, h9⟩
    · obtain ⟨h2, h3⟩ := mv_a2 h1
      obtain ⟨x1, x2⟩ := x
      obtain ⟨y1, y2⟩ := y
      have e1 : x1 = y1 := mv_beq h2
      have e2 : x2 = y2 := mv_beq h3
      rw [mv_eqL_ok h9, e1, e2]
    · cases h9
/-- the things F stand first (where F has 3, anything) -/
noncomputable def mv_pr (F : List mv_C) : List mv_C → Bool := List.rec (motive := fun _ => List mv_C → Bool) (fun _ => true) (fun c _ ih h => match h with
  | d :: t => bif Nat.beq c.1 3 then ih t else bif Nat.beq c.1 d.1 && mv_eqL c.2 d.2 then ih t else false
  | [] => false) F
theorem mv_pr_ok : ∀ {F h : List mv_C}, mv_pr F h = true → F.length ≤ h.length ∧ ∀ (k : Nat) (c : mv_C), F[k]? = some c → c.1 = 3 ∨ h[k]? = some c
  | [], h, _ => ⟨Nat.zero_le _, fun k c hk => by simp at hk⟩
  | c :: F, [], h1 => by cases h1
  | c :: F, d :: t, h1 => by
    have h1 : (bif Nat.beq c.1 3 then mv_pr F t else bif Nat.beq c.1 d.1 && mv_eqL c.2 d.2 then mv_pr F t else false) = true := h1
    have hh : (c.1 = 3 ∨ c = d) ∧ mv_pr F t = true := by
      rcases mv_cnd h1 with ⟨h2, h1⟩ | ⟨-, h1⟩
      · exact ⟨Or.inl (mv_beq h2), h1⟩
      · rcases mv_cnd h1 with ⟨h2, h1⟩ | ⟨-, h1⟩
        · obtain ⟨h3, h4⟩ := mv_a2 h2
          refine ⟨Or.inr ?_, h1⟩
          obtain ⟨c1, c2⟩ := c
          obtain ⟨d1, d2⟩ := d
          have e1 : c1 = d1 := mv_beq h3
          have e2 : c2 = d2 := mv_eqL_ok h4
          rw [e1, e2]
        · cases h1
    obtain ⟨i1, i2⟩ := mv_pr_ok hh.2
    refine ⟨Nat.succ_le_succ i1, fun k x hk => ?_⟩
    match k, hk with
    | 0, hk =>
      cases hk
      exact hh.1.imp id (fun e => by rw [e]; rfl)
    | k + 1, hk => exact i2 k x hk
theorem mv_nbr (n : Nat) : Nat.beq n n = true := Nat.beq_refl n
theorem mv_eqL_self : ∀ a : List mv_V, mv_eqL a a = true
  | [] => rfl
  | x :: a => by
    show (bif Nat.beq x.1 x.1 && Nat.beq x.2 x.2 then mv_eqL a a else false) = true
    rw [mv_nbr, mv_nbr, mv_eqL_self a]
    rfl
theorem mv_pr_self : ∀ F X : List mv_C, mv_pr F (F ++ X) = true
  | [], X => rfl
  | c :: F, X => by
    show (bif Nat.beq c.1 3 then mv_pr F (F ++ X) else bif Nat.beq c.1 c.1 && mv_eqL c.2 c.2 then mv_pr F (F ++ X) else false) = true
    rw [mv_nbr, mv_eqL_self, mv_pr_self F X]
    cases Nat.beq c.1 3 <;> rfl
/-- things that nobody looks at -/
def mv_no3 (n : Nat) : List mv_C := List.replicate n (3, [])
theorem mv_no3_len (n : Nat) : (mv_no3 n).length = n := List.length_replicate
theorem mv_hok_pr {D : va_G} {cs : ClassId × ClassId × ClassId} {r : Nat → Int32} {ba ba2 : mv_A} {b n2 : Nat} {F h : List mv_C} {H : Heap} (hp : mv_pr F h = true) (hc : F.all (mv_cC F.length) = true) (ha : ∀ k, k < F.length → mv_ad ba k = mv_ad ba2 k) (hn : mv_ad ba h.length = mv_ad ba2 (F.length + n2)) (hl : ba2.2.1 ≤ F.length + n2) (hH : mv_hok D cs r ba b h H) : mv_hok D cs r ba2 b (F ++ mv_no3 n2) H := by
  obtain ⟨i1, i2⟩ := mv_pr_ok hp
  refine ⟨⟨by rw [hH.1.1, hn, List.length_append, mv_no3_len], by rw [List.length_append, mv_no3_len]; exact hl⟩, fun k c hk => ?_⟩
  by_cases hlt : k < F.length
  · rw [List.getElem?_append_left hlt] at hk
    obtain ⟨t, cl⟩ := c
    rcases i2 k _ hk with h3 | h3
    · have h3 : t = 3 := h3
      subst h3
      trivial
    · rw [← ha k hlt]
      exact mv_cok_cl (List.all_eq_true.mp hc _ (List.mem_of_getElem? hk)) ha (hH.2 k _ h3)
  · rw [List.getElem?_append_right (by omega)] at hk
    have hm := List.mem_of_getElem? hk
    obtain ⟨-, rfl⟩ := List.mem_replicate.mp hm
    trivial
/-- a lookup of all that is asked of locals -/
noncomputable def mv_lm (a : mv_L) (loc : mv_L) : Bool := List.rec (motive := fun _ => Bool) true (fun q _ ih => match mv_lk loc q.1 with
  | some v => bif Nat.beq q.2.1 v.1 && Nat.beq q.2.2 v.2 then ih else false
  | none => false) a
theorem mv_lm_ok {loc : mv_L} : ∀ {a : mv_L}, mv_lm a loc = true → ∀ q ∈ a, q ∈ loc
  | [], _, q, hq => by cases hq
  | x :: a, h, q, hq => by
    have h : (match mv_lk loc x.1 with
      | some v => bif Nat.beq x.2.1 v.1 && Nat.beq x.2.2 v.2 then mv_lm a loc else false
      | none => false) = true := h
    cases hv : mv_lk loc x.1 with
    | none => rw [hv] at h; cases h
    | some v =>
      rw [hv] at h
      have h : (bif Nat.beq x.2.1 v.1 && Nat.beq x.2.2 v.2 then mv_lm a loc else false) = true := h
      rcases mv_cnd h with ⟨h1, h⟩ | ⟨-, h⟩
      · rcases List.mem_cons.mp hq with rfl | hq
        · obtain ⟨h2, h3⟩ := mv_a2 h1
          obtain ⟨i, v1, v2⟩ := q
          obtain ⟨w1, w2⟩ := v
          have e1 : v1 = w1 := mv_beq h2
          have e2 : v2 = w2 := mv_beq h3
          obtain ⟨k, hk⟩ := mv_lk_mem hv
          rw [e1, e2]
          exact List.mem_of_getElem? hk
        · exact mv_lm_ok h q hq
      · cases h
/-! ===== what is known: ends from a place, at any distance ===== -/
/-- method, place, locals, cells, slots; depth, end, the things before and behind, cells, slots -/
abbrev mv_OE : Type := (Nat × Nat × mv_L × Nat × Nat) × Nat × (Nat × mv_V) × (List mv_C × List mv_C) × Nat × Nat
def mv_OC (K : Nat) (e : mv_OE) : Prop := e.2.2.1.1 < 2 ∧ mv_cV K e.2.2.1.2 = true ∧ e.2.2.2.1.1.length = K ∧ e.2.2.2.1.2.length = K ∧ e.2.2.2.1.1.all (mv_cC K) = true ∧ e.2.2.2.1.2.all (mv_cC K) = true ∧ e.1.2.2.1.all (fun q => mv_cV K q.2) = true
def mv_OK (l : Launch) (D : va_G) (cs : ClassId × ClassId × ClassId) (r : Nat → Int32) (b0 b : Nat) (mi : Nat → mv_I) (K : Nat) (e : mv_OE) : Prop :=
  mv_OC K e ∧ ∀ g : Nat, mv_run l D cs r (b0, K, g) b (mi e.1.1) e.2.1 e.1.2.2.1 [] e.2.2.2.1.1 e.1.2.2.2.1 e.1.2.2.2.2 e.1.2.1 e.2.2.1 (e.2.2.2.1.2 ++ mv_no3 (e.2.2.2.2.1 - e.1.2.2.2.1)) e.2.2.2.2.1 e.2.2.2.2.2
noncomputable def mv_om (e : mv_OE) (mid pc : Nat) (loc : mv_L) (st : List mv_V) (h : List mv_C) (nc ns : Nat) : Bool :=
  Nat.beq e.1.1 mid && (Nat.beq e.1.2.1 pc && (Nat.beq e.1.2.2.2.1 nc && (Nat.beq e.1.2.2.2.2 ns && (st.isEmpty && (mv_lm e.1.2.2.1 loc && mv_pr e.2.2.2.1.1 h)))))
noncomputable def mv_of (K : Nat) (E : List mv_OE) : mv_O := fun mid pc loc st h nc ns => List.rec (motive := fun _ => Option (Nat × (Nat × mv_V) × List mv_C × Nat × Nat)) none (fun e _ ih =>
  bif mv_om e mid pc loc st h nc ns then some (e.2.1, e.2.2.1, e.2.2.2.1.2 ++ mv_no3 (h.length - K + (e.2.2.2.2.1 - e.1.2.2.2.1)), e.2.2.2.2.1, e.2.2.2.2.2) else ih) E
section MVGA
variable {l : Launch} {D : va_G} {cs : ClassId × ClassId × ClassId} {r : Nat → Int32} {b0 b K : Nat} {mi : Nat → mv_I} {e : mv_OE}
theorem mv_far {ba : mv_A} (h0 : ba.1 = b0) (hba : ba.2.1 = K ∨ (ba.2.2 = 0 ∧ ba.2.1 ≤ K)) (he : mv_OK l D cs r b0 b mi K e) {loc : mv_L} {h : List mv_C} (hl : ∀ q ∈ e.1.2.2.1, q ∈ loc) (hp : mv_pr e.2.2.2.1.1 h = true) :
    mv_run l D cs r ba b (mi e.1.1) e.2.1 loc [] h e.1.2.2.2.1 e.1.2.2.2.2 e.1.2.1 e.2.2.1 (e.2.2.2.1.2 ++ mv_no3 (h.length - K + (e.2.2.2.2.1 - e.1.2.2.2.1))) e.2.2.2.2.1 e.2.2.2.2.2 := by
  obtain ⟨⟨mid, pc, loc0, nc, ns⟩, dep, res, ⟨F, F2⟩, C, N⟩ := e
  obtain ⟨b1, K1, g1⟩ := ba
  obtain ⟨⟨c1, c2, c3, c4, c5, c6, c7⟩, hR⟩ := he
  have h0 : b1 = b0 := h0
  have hba : K1 = K ∨ (g1 = 0 ∧ K1 ≤ K) := hba
  have c3 : F.length = K := c3
  have c4 : F2.length = K := c4
  have hp : mv_pr F h = true := hp
  obtain ⟨j, hj⟩ : ∃ j, h.length = K + j := ⟨h.length - K, by have := (mv_pr_ok hp).1; omega⟩
  obtain ⟨r1, r2, r3, r4⟩ := hR (g1 + j)
  have r1 : nc ≤ C := r1
  subst h0
  have ha : ∀ k, k < K → mv_ad (b1, K1, g1) k = mv_ad (b1, K, g1 + j) k := fun k hk => by
    show (if k < K1 then b1 + k else b1 + g1 + k) = (if k < K then b1 + k else b1 + (g1 + j) + k)
    rw [if_pos hk]
    split
    · rfl
    · omega
  have ha2 : ∀ i, mv_ad (b1, K1, g1) (K + j + i) = mv_ad (b1, K, g1 + j) (K + i) := fun i => by
    show (if K + j + i < K1 then b1 + (K + j + i) else b1 + g1 + (K + j + i)) = (if K + i < K then b1 + (K + i) else b1 + (g1 + j) + (K + i))
    rw [if_neg (show ¬ K + i < K by omega)]
    split
    · omega
    · omega
  have hlv : ∀ q ∈ loc0, mv_lv r (b1, K1, g1) b q = mv_lv r (b1, K, g1 + j) b q := fun q hq => by
    have := mv_val_cl (r := r) (b := b) (List.all_eq_true.mp c7 q hq) ha
    unfold mv_lv
    rw [this]
  have hjj : h.length - K = j := by omega
  show mv_run l D cs r (b1, K1, g1) b (mi mid) dep loc [] h nc ns pc res (F2 ++ mv_no3 (h.length - K + (C - nc))) C N
  rw [hjj]
  refine ⟨r1, r2, by rw [hj, List.length_append, mv_no3_len, c4]; omega, fun p en R s m args below meth c hf he q1 q2 q3 q4 H locs ls hH hS hl2 hn => ?_⟩
  have hH2 : mv_hok D cs r (b1, K, g1 + j) b F H := by
    have h9 := mv_hok_pr (n2 := 0) (ba2 := (b1, K, g1 + j)) hp (by rw [c3]; exact c5) (by rw [c3]; exact ha) (by rw [hj, c3]; exact ha2 0) (by rw [c3]; exact Nat.le_refl _) hH
    have e0 : mv_no3 0 = [] := rfl
    rw [e0, List.append_nil] at h9
    exact h9
  have hl3 : lv_has ls (mi mid).2.2.1 (loc0.map (mv_lv r (b1, K, g1 + j) b)) := by
    refine ⟨hl2.1, hl2.2.1, fun z hz => ?_⟩
    obtain ⟨q, hq, rfl⟩ := List.mem_map.mp hz
    rw [← hlv q hq]
    exact hl2.2.2 _ (List.mem_map.mpr ⟨q, hl q hq, rfl⟩)
  have h5 := r4 p en R s m args below meth c hf he q1 q2 q3 q4 H locs ls hH2 hS hl3 hn
  intro T hT X
  obtain ⟨t, a1, o, a2, a3, a4⟩ := h5 T hT X
  refine ⟨t, a1, o, a2, a3, ?_⟩
  rcases a4 with ⟨⟨z1, z2, z3, z4⟩, hz⟩ | ⟨q, -, E9, ce, L9, ⟨x1, -⟩, -⟩
  · refine Or.inl ⟨⟨z1, ?_, ?_, z4⟩, hz⟩
    · rw [z2]
      unfold mv_rv
      rw [mv_val_cl (r := r) (b := b) c2 ha]
    · have h9 := mv_hok_pr (F := F2) (n2 := j + (C - nc)) (ba2 := (b1, K1, g1)) (h := F2 ++ mv_no3 (C - nc)) ?_ (by rw [c4]; exact c6) (by rw [c4]; exact fun k hk => (ha k hk).symm) (by
        rw [List.length_append, mv_no3_len, c4, ← Nat.add_assoc]
        exact (ha2 (C - nc)).symm) (by rw [c4]; show K1 ≤ _; omega) z3
      · exact h9
      · exact mv_pr_self F2 _
  · have x1 : 2 ≤ res.1 := x1
    have c1 : res.1 < 2 := c1
    omega
theorem mv_of_ok {ba : mv_A} (h0 : ba.1 = b0) (hba : ba.2.1 = K ∨ (ba.2.2 = 0 ∧ ba.2.1 ≤ K)) : ∀ {E : List mv_OE}, (∀ e ∈ E, mv_OK l D cs r b0 b mi K e) → mv_Ok l D cs r ba b mi (mv_of K E)
  | [], _, mid, pc, loc, st, h, nc, ns, o, ho => by cases ho
  | e :: E, hE, mid, pc, loc, st, h, nc, ns, o, ho => by
    have ho : (bif mv_om e mid pc loc st h nc ns then some (e.2.1, e.2.2.1, e.2.2.2.1.2 ++ mv_no3 (h.length - K + (e.2.2.2.2.1 - e.1.2.2.2.1)), e.2.2.2.2.1, e.2.2.2.2.2) else mv_of K E mid pc loc st h nc ns) = some o := ho
    rcases mv_cnd ho with ⟨h1, h9⟩ | ⟨-, h9⟩
    · clear ho
      have he := hE e List.mem_cons_self
      unfold mv_om at h1
      simp only [Bool.and_eq_true] at h1
      obtain ⟨a1, a2, a3, a4, a5, a6, a7⟩ := h1
      have e1 := mv_beq a1
      have e2 := mv_beq a2
      have e3 := mv_beq a3
      have e4 := mv_beq a4
      have e5 : st = [] := List.isEmpty_iff.mp a5
      subst e1 e2 e3 e4 e5
      cases h9
      refine ⟨?_, mv_far h0 hba he (mv_lm_ok a6) a7⟩
      have h9 := he.1.1
      show e.2.2.1.1 < 5
      omega
    · exact mv_of_ok h0 hba (fun e he => hE e (List.mem_cons_of_mem _ he)) mid pc loc st h nc ns o h9
noncomputable def mv_KP (res : Nat × mv_V) (F2 : List mv_C) (C N : Nat) : mv_K := fun _ z h2 c2 n2 => Nat.beq z.1 res.1 && (Nat.beq z.2.1 res.2.1 && (Nat.beq z.2.2 res.2.2 && (Nat.beq c2 C && (Nat.beq n2 N && mv_pr F2 h2))))
theorem mv_run_weak {ba : mv_A} {X : mv_I} {d n3 : Nat} {loc : mv_L} {st : List mv_V} {h F2 h2 : List mv_C} {nc ns pc : Nat} {res : Nat × mv_V} {c2 n2 : Nat} (hr : res.1 < 2) (hp : mv_pr F2 h2 = true) (hc : F2.all (mv_cC F2.length) = true) (hl : h2.length = F2.length + n3) (hb : ba.2.1 ≤ F2.length + n3) (hR : mv_run l D cs r ba b X d loc st h nc ns pc res h2 c2 n2) : mv_run l D cs r ba b X d loc st h nc ns pc res (F2 ++ mv_no3 n3) c2 n2 := by
  obtain ⟨h1, h3, h4, h5⟩ := hR
  refine ⟨h1, h3, by rw [List.length_append, mv_no3_len]; omega, fun p e R s m args below meth c hf he q1 q2 q3 q4 H locs ls hH hS hl2 hn => ?_⟩
  intro T hT X
  obtain ⟨t, a1, o, a2, a3, a4⟩ := h5 p e R s m args below meth c hf he q1 q2 q3 q4 H locs ls hH hS hl2 hn T hT X
  refine ⟨t, a1, o, a2, a3, ?_⟩
  rcases a4 with ⟨⟨z1, z2, z3, z4⟩, hz⟩ | ⟨q, -, E9, ce, L9, ⟨x1, -⟩, -⟩
  · exact Or.inl ⟨⟨z1, z2, mv_hok_pr hp hc (fun _ _ => rfl) (by rw [hl]) hb z3, z4⟩, hz⟩
  · have x1 : 2 ≤ res.1 := x1
    omega
/-- an end more that is known -/
theorem mv_mk {xn : Nat → Nat} {cand : Nat → List Cond} {bk : Nat → Nat → Option (List mv_E)} (hst : l.stackTraces = false) (h8 : r 8 = r 0 &&& nI 31) (htb : mv_tb bk mi xn cand) {E : List mv_OE} (hE : ∀ e ∈ E, mv_OK l D cs r b0 b mi K e) {gB : mv_B} (hg : mv_in gB r) (n : Nat) (hC : mv_OC K e)
    (ev : mv_ez (mv_of K E) bk mi mv_dv xn n e.2.1 e.1.1 e.1.2.1 [] e.1.2.2.1 [] e.2.2.2.1.1 e.1.2.2.2.1 e.1.2.2.2.2 gB (mv_KP e.2.2.1 e.2.2.2.1.2 e.2.2.2.2.1 e.2.2.2.2.2) = true) : mv_OK l D cs r b0 b mi K e := by
  obtain ⟨⟨mid, pc, loc, nc, ns⟩, dep, ⟨ra, rb, rc⟩, ⟨F, F2⟩, C, N⟩ := e
  refine ⟨hC, fun g => ?_⟩
  obtain ⟨c1, c2, c3, c4, c5, c6, c7⟩ := hC
  have c1 : ra < 2 := c1
  have c3 : F.length = K := c3
  have c4 : F2.length = K := c4
  obtain ⟨g2, z, h2, z2, z3, -, -, q3, q4⟩ := mv_ez_ok hst h8 (mv_of_ok (ba := (b0, K, g)) rfl (Or.inl rfl) hE) htb n dep mid pc [] loc [] F nc ns gB _ ev rfl hg
  unfold mv_KP at q3
  simp only [Bool.and_eq_true] at q3
  obtain ⟨k1, k2, k3, k4, k5, k6⟩ := q3
  obtain ⟨za, zb, zc⟩ := z
  cases mv_beq k1
  cases mv_beq k2
  cases mv_beq k3
  cases mv_beq k4
  cases mv_beq k5
  have hm := q4.1
  have hm2 := q4.2.2.1
  refine mv_run_weak c1 k6 (by rw [c4]; exact c6) ?_ ?_ q4
  · show h2.length = F2.length + (C - nc)
    omega
  · show K ≤ F2.length + (C - nc)
    omega
/-- from nothing at all -/
theorem mv_mk0 {xn : Nat → Nat} {cand : Nat → List Cond} {bk : Nat → Nat → Option (List mv_E)} (hst : l.stackTraces = false) (h8 : r 8 = r 0 &&& nI 31) (htb : mv_tb bk mi xn cand) {E : List mv_OE} (hE : ∀ e ∈ E, mv_OK l D cs r b0 b mi K e) {gB : mv_B} (hg : mv_in gB r) (n dep : Nat) {loc : mv_L} {res : Nat × mv_V} {C N : Nat}
    (ev : mv_ez (mv_of K E) bk mi mv_dv xn n dep 0 0 [] loc [] [] 0 0 gB (mv_KP res [] C N) = true) : ∃ h2 : List mv_C, mv_run l D cs r (b0, 0, 0) b (mi 0) dep loc [] [] 0 0 0 res h2 C N := by
  obtain ⟨g2, z, h2, z2, z3, -, -, q3, q4⟩ := mv_ez_ok hst h8 (mv_of_ok (ba := (b0, 0, 0)) rfl (Or.inr ⟨rfl, Nat.zero_le _⟩) hE) htb n dep 0 0 [] loc [] [] 0 0 gB _ ev rfl hg
  unfold mv_KP at q3
  simp only [Bool.and_eq_true] at q3
  obtain ⟨k1, k2, k3, k4, k5, k6⟩ := q3
  obtain ⟨za, zb, zc⟩ := z
  obtain ⟨ra, rb, rc⟩ := res
  cases mv_beq k1
  cases mv_beq k2
  cases mv_beq k3
  cases mv_beq k4
  cases mv_beq k5
  exact ⟨h2, q4⟩
end MVGA
end
