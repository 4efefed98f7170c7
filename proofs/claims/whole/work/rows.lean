section
-- ===== PART A: goes FIRST, ahead of the names: the tables' words, and 'selects' of the private methods out of them =====
/-- a private method of a class that the tables say can be made, by its rows of tables_1 -/
def lw_okq (q : MethodName × Nat) : Prop := (q.1.cls ≠ "java/lang/invoke/MethodHandle" ∧ q.1.cls ≠ "java/lang/invoke/VarHandle") ∧ Cond.instantiable q.1.cls q.2 ∈ tables_1 ∧ Cond.privateMethod q.1 ∈ tables_1 ∧ Cond.instanceMethod q.1 ∈ tables_1
theorem lw_p0 : lw_okq (⟨"BoundWright$Forms", "codeOf", "(IIII)I"⟩, 10) := ⟨⟨by decide +kernel, by decide +kernel⟩, List.mem_of_getElem? (i := 29) (by decide +kernel), List.mem_of_getElem? (i := 49) (by decide +kernel), List.mem_of_getElem? (i := 50) (by decide +kernel)⟩
theorem lw_p1 : lw_okq (⟨"BoundWright$Forms", "ownersOf", "(IIII)I"⟩, 10) := ⟨⟨by decide +kernel, by decide +kernel⟩, List.mem_of_getElem? (i := 29) (by decide +kernel), List.mem_of_getElem? (i := 54) (by decide +kernel), List.mem_of_getElem? (i := 55) (by decide +kernel)⟩
theorem lw_p2 : lw_okq (⟨"BoundWright$Kinds", "settle", "(I)V"⟩, 10) := ⟨⟨by decide +kernel, by decide +kernel⟩, List.mem_of_getElem? (i := 115) (by decide +kernel), List.mem_of_getElem? (i := 129) (by decide +kernel), List.mem_of_getElem? (i := 130) (by decide +kernel)⟩
theorem lw_p3 : lw_okq (⟨"BoundWright$Kinds", "view", "(III)I"⟩, 10) := ⟨⟨by decide +kernel, by decide +kernel⟩, List.mem_of_getElem? (i := 115) (by decide +kernel), List.mem_of_getElem? (i := 141) (by decide +kernel), List.mem_of_getElem? (i := 142) (by decide +kernel)⟩
theorem lw_p4 : lw_okq (⟨"BoundWright$Kinds", "marked", "(I)I"⟩, 10) := ⟨⟨by decide +kernel, by decide +kernel⟩, List.mem_of_getElem? (i := 115) (by decide +kernel), List.mem_of_getElem? (i := 153) (by decide +kernel), List.mem_of_getElem? (i := 154) (by decide +kernel)⟩
theorem lw_p5 : lw_okq (⟨"BoundWright", "membersOfKind", "(I)I"⟩, 7) := ⟨⟨by decide +kernel, by decide +kernel⟩, List.mem_of_getElem? (i := 21) (by decide +kernel), List.mem_of_getElem? (i := 420) (by decide +kernel), List.mem_of_getElem? (i := 421) (by decide +kernel)⟩
theorem lw_p6 : lw_okq (⟨"java/lang/Throwable", "fillInStackTrace", "(I)Ljava/lang/Throwable;"⟩, 6) := ⟨⟨by decide +kernel, by decide +kernel⟩, List.mem_of_getElem? (i := 489) (by decide +kernel), List.mem_of_getElem? (i := 487) (by decide +kernel), List.mem_of_getElem? (i := 488) (by decide +kernel)⟩
theorem lw_p7 : lw_okq (⟨"BoundWright$Order", "isUnder", "(III)Z"⟩, 2) := ⟨⟨by decide +kernel, by decide +kernel⟩, List.mem_of_getElem? (i := 205) (by decide +kernel), List.mem_of_getElem? (i := 527) (by decide +kernel), List.mem_of_getElem? (i := 528) (by decide +kernel)⟩
theorem lw_p8 : lw_okq (⟨"BoundWright$Order", "areArraysOfReferences", "(II)Z"⟩, 2) := ⟨⟨by decide +kernel, by decide +kernel⟩, List.mem_of_getElem? (i := 205) (by decide +kernel), List.mem_of_getElem? (i := 535) (by decide +kernel), List.mem_of_getElem? (i := 536) (by decide +kernel)⟩
theorem lw_p9 : lw_okq (⟨"BoundWright$Order", "isClassUnder", "(III)Z"⟩, 2) := ⟨⟨by decide +kernel, by decide +kernel⟩, List.mem_of_getElem? (i := 205) (by decide +kernel), List.mem_of_getElem? (i := 539) (by decide +kernel), List.mem_of_getElem? (i := 540) (by decide +kernel)⟩
theorem lw_p10 : lw_okq (⟨"BoundWright$Order", "isWithin", "(IIII)Z"⟩, 2) := ⟨⟨by decide +kernel, by decide +kernel⟩, List.mem_of_getElem? (i := 205) (by decide +kernel), List.mem_of_getElem? (i := 545) (by decide +kernel), List.mem_of_getElem? (i := 546) (by decide +kernel)⟩
theorem lw_p11 : lw_okq (⟨"BoundWright", "needKind", "(I)V"⟩, 7) := ⟨⟨by decide +kernel, by decide +kernel⟩, List.mem_of_getElem? (i := 21) (by decide +kernel), List.mem_of_getElem? (i := 556) (by decide +kernel), List.mem_of_getElem? (i := 557) (by decide +kernel)⟩
theorem lw_p12 : lw_okq (⟨"BoundWright", "needType", "(I)V"⟩, 7) := ⟨⟨by decide +kernel, by decide +kernel⟩, List.mem_of_getElem? (i := 21) (by decide +kernel), List.mem_of_getElem? (i := 594) (by decide +kernel), List.mem_of_getElem? (i := 595) (by decide +kernel)⟩
theorem lw_p13 : lw_okq (⟨"BoundWright$Order", "isNamed", "(II)Z"⟩, 2) := ⟨⟨by decide +kernel, by decide +kernel⟩, List.mem_of_getElem? (i := 205) (by decide +kernel), List.mem_of_getElem? (i := 603) (by decide +kernel), List.mem_of_getElem? (i := 604) (by decide +kernel)⟩
theorem lw_p14 : lw_okq (⟨"BoundWright$Order", "coveredBelow", "(II)I"⟩, 2) := ⟨⟨by decide +kernel, by decide +kernel⟩, List.mem_of_getElem? (i := 205) (by decide +kernel), List.mem_of_getElem? (i := 608) (by decide +kernel), List.mem_of_getElem? (i := 609) (by decide +kernel)⟩
theorem lw_p15 : lw_okq (⟨"BoundWright$Order", "isImpossible", "(II)Z"⟩, 2) := ⟨⟨by decide +kernel, by decide +kernel⟩, List.mem_of_getElem? (i := 205) (by decide +kernel), List.mem_of_getElem? (i := 612) (by decide +kernel), List.mem_of_getElem? (i := 613) (by decide +kernel)⟩
def lw_privs_1 : List (MethodName × Nat) := [(⟨"BoundWright$Forms", "codeOf", "(IIII)I"⟩, 10), (⟨"BoundWright$Forms", "ownersOf", "(IIII)I"⟩, 10), (⟨"BoundWright$Kinds", "settle", "(I)V"⟩, 10), (⟨"BoundWright$Kinds", "view", "(III)I"⟩, 10), (⟨"BoundWright$Kinds", "marked", "(I)I"⟩, 10), (⟨"BoundWright", "membersOfKind", "(I)I"⟩, 7), (⟨"java/lang/Throwable", "fillInStackTrace", "(I)Ljava/lang/Throwable;"⟩, 6), (⟨"BoundWright$Order", "isUnder", "(III)Z"⟩, 2), (⟨"BoundWright$Order", "areArraysOfReferences", "(II)Z"⟩, 2), (⟨"BoundWright$Order", "isClassUnder", "(III)Z"⟩, 2), (⟨"BoundWright$Order", "isWithin", "(IIII)Z"⟩, 2), (⟨"BoundWright", "needKind", "(I)V"⟩, 7), (⟨"BoundWright", "needType", "(I)V"⟩, 7), (⟨"BoundWright$Order", "isNamed", "(II)Z"⟩, 2), (⟨"BoundWright$Order", "coveredBelow", "(II)I"⟩, 2), (⟨"BoundWright$Order", "isImpossible", "(II)Z"⟩, 2)]
theorem lw_r1 : ∀ q ∈ lw_privs_1, lw_okq q := List.forall_mem_cons.mpr ⟨lw_p0, List.forall_mem_cons.mpr ⟨lw_p1, List.forall_mem_cons.mpr ⟨lw_p2, List.forall_mem_cons.mpr ⟨lw_p3, List.forall_mem_cons.mpr ⟨lw_p4, List.forall_mem_cons.mpr ⟨lw_p5, List.forall_mem_cons.mpr ⟨lw_p6, List.forall_mem_cons.mpr ⟨lw_p7, List.forall_mem_cons.mpr ⟨lw_p8, List.forall_mem_cons.mpr ⟨lw_p9, List.forall_mem_cons.mpr ⟨lw_p10, List.forall_mem_cons.mpr ⟨lw_p11, List.forall_mem_cons.mpr ⟨lw_p12, List.forall_mem_cons.mpr ⟨lw_p13, List.forall_mem_cons.mpr ⟨lw_p14, List.forall_mem_cons.mpr ⟨lw_p15, fun _ h => absurd h List.not_mem_nil⟩⟩⟩⟩⟩⟩⟩⟩⟩⟩⟩⟩⟩⟩⟩⟩
theorem lw_p16 : lw_okq (⟨"BoundWright$Order", "isAgainst", "(III)Z"⟩, 2) := ⟨⟨by decide +kernel, by decide +kernel⟩, List.mem_of_getElem? (i := 205) (by decide +kernel), List.mem_of_getElem? (i := 618) (by decide +kernel), List.mem_of_getElem? (i := 619) (by decide +kernel)⟩
theorem lw_p17 : lw_okq (⟨"BoundWright$Order", "erasedInmost", "(II)I"⟩, 2) := ⟨⟨by decide +kernel, by decide +kernel⟩, List.mem_of_getElem? (i := 205) (by decide +kernel), List.mem_of_getElem? (i := 630) (by decide +kernel), List.mem_of_getElem? (i := 631) (by decide +kernel)⟩
theorem lw_p18 : lw_okq (⟨"BoundWright", "isKeeping", "(I)Z"⟩, 7) := ⟨⟨by decide +kernel, by decide +kernel⟩, List.mem_of_getElem? (i := 21) (by decide +kernel), List.mem_of_getElem? (i := 634) (by decide +kernel), List.mem_of_getElem? (i := 635) (by decide +kernel)⟩
theorem lw_p19 : lw_okq (⟨"BoundWright$Order", "isKeeping", "(II)Z"⟩, 2) := ⟨⟨by decide +kernel, by decide +kernel⟩, List.mem_of_getElem? (i := 205) (by decide +kernel), List.mem_of_getElem? (i := 638) (by decide +kernel), List.mem_of_getElem? (i := 639) (by decide +kernel)⟩
theorem lw_p20 : lw_okq (⟨"BoundWright$Order", "isArgumentKeeping", "(III)Z"⟩, 2) := ⟨⟨by decide +kernel, by decide +kernel⟩, List.mem_of_getElem? (i := 205) (by decide +kernel), List.mem_of_getElem? (i := 643) (by decide +kernel), List.mem_of_getElem? (i := 644) (by decide +kernel)⟩
theorem lw_p21 : lw_okq (⟨"BoundWright$Forms", "put", "(IIIII)I"⟩, 10) := ⟨⟨by decide +kernel, by decide +kernel⟩, List.mem_of_getElem? (i := 29) (by decide +kernel), List.mem_of_getElem? (i := 647) (by decide +kernel), List.mem_of_getElem? (i := 648) (by decide +kernel)⟩
theorem lw_p22 : lw_okq (⟨"BoundWright$Forms", "putIntoArgument", "(IIIII)I"⟩, 10) := ⟨⟨by decide +kernel, by decide +kernel⟩, List.mem_of_getElem? (i := 29) (by decide +kernel), List.mem_of_getElem? (i := 651) (by decide +kernel), List.mem_of_getElem? (i := 652) (by decide +kernel)⟩
theorem lw_p23 : lw_okq (⟨"BoundWright$Order", "joined", "(IIZI)I"⟩, 2) := ⟨⟨by decide +kernel, by decide +kernel⟩, List.mem_of_getElem? (i := 205) (by decide +kernel), List.mem_of_getElem? (i := 669) (by decide +kernel), List.mem_of_getElem? (i := 670) (by decide +kernel)⟩
theorem lw_p24 : lw_okq (⟨"BoundWright$Order", "lowestShared", "(II)I"⟩, 2) := ⟨⟨by decide +kernel, by decide +kernel⟩, List.mem_of_getElem? (i := 205) (by decide +kernel), List.mem_of_getElem? (i := 675) (by decide +kernel), List.mem_of_getElem? (i := 676) (by decide +kernel)⟩
theorem lw_p25 : lw_okq (⟨"BoundWright$Order", "joinedArgument", "(IIIIZI)I"⟩, 2) := ⟨⟨by decide +kernel, by decide +kernel⟩, List.mem_of_getElem? (i := 205) (by decide +kernel), List.mem_of_getElem? (i := 679) (by decide +kernel), List.mem_of_getElem? (i := 680) (by decide +kernel)⟩
theorem lw_p26 : lw_okq (⟨"BoundWright", "needMethod", "(I)V"⟩, 7) := ⟨⟨by decide +kernel, by decide +kernel⟩, List.mem_of_getElem? (i := 21) (by decide +kernel), List.mem_of_getElem? (i := 690) (by decide +kernel), List.mem_of_getElem? (i := 691) (by decide +kernel)⟩
theorem lw_p27 : lw_okq (⟨"BoundWright$Faults", "isOnlyBecauseOf", "(IILBoundWright$Review;)Z"⟩, 6) := ⟨⟨by decide +kernel, by decide +kernel⟩, List.mem_of_getElem? (i := 266) (by decide +kernel), List.mem_of_getElem? (i := 703) (by decide +kernel), List.mem_of_getElem? (i := 704) (by decide +kernel)⟩
theorem lw_p28 : lw_okq (⟨"BoundWright$Review", "isReachedTwofold", "(I)Z"⟩, 16) := ⟨⟨by decide +kernel, by decide +kernel⟩, List.mem_of_getElem? (i := 295) (by decide +kernel), List.mem_of_getElem? (i := 741) (by decide +kernel), List.mem_of_getElem? (i := 742) (by decide +kernel)⟩
theorem lw_p29 : lw_okq (⟨"BoundWright$Review", "countLooseExtended", "(I)I"⟩, 16) := ⟨⟨by decide +kernel, by decide +kernel⟩, List.mem_of_getElem? (i := 295) (by decide +kernel), List.mem_of_getElem? (i := 754) (by decide +kernel), List.mem_of_getElem? (i := 755) (by decide +kernel)⟩
theorem lw_p30 : lw_okq (⟨"BoundWright$Review", "erase", "(I)V"⟩, 16) := ⟨⟨by decide +kernel, by decide +kernel⟩, List.mem_of_getElem? (i := 295) (by decide +kernel), List.mem_of_getElem? (i := 760) (by decide +kernel), List.mem_of_getElem? (i := 761) (by decide +kernel)⟩
theorem lw_p31 : lw_okq (⟨"BoundWright$Review", "isOneMisplaced", "(I)Z"⟩, 16) := ⟨⟨by decide +kernel, by decide +kernel⟩, List.mem_of_getElem? (i := 295) (by decide +kernel), List.mem_of_getElem? (i := 769) (by decide +kernel), List.mem_of_getElem? (i := 770) (by decide +kernel)⟩
def lw_privs_2 : List (MethodName × Nat) := [(⟨"BoundWright$Order", "isAgainst", "(III)Z"⟩, 2), (⟨"BoundWright$Order", "erasedInmost", "(II)I"⟩, 2), (⟨"BoundWright", "isKeeping", "(I)Z"⟩, 7), (⟨"BoundWright$Order", "isKeeping", "(II)Z"⟩, 2), (⟨"BoundWright$Order", "isArgumentKeeping", "(III)Z"⟩, 2), (⟨"BoundWright$Forms", "put", "(IIIII)I"⟩, 10), (⟨"BoundWright$Forms", "putIntoArgument", "(IIIII)I"⟩, 10), (⟨"BoundWright$Order", "joined", "(IIZI)I"⟩, 2), (⟨"BoundWright$Order", "lowestShared", "(II)I"⟩, 2), (⟨"BoundWright$Order", "joinedArgument", "(IIIIZI)I"⟩, 2), (⟨"BoundWright", "needMethod", "(I)V"⟩, 7), (⟨"BoundWright$Faults", "isOnlyBecauseOf", "(IILBoundWright$Review;)Z"⟩, 6), (⟨"BoundWright$Review", "isReachedTwofold", "(I)Z"⟩, 16), (⟨"BoundWright$Review", "countLooseExtended", "(I)I"⟩, 16), (⟨"BoundWright$Review", "erase", "(I)V"⟩, 16), (⟨"BoundWright$Review", "isOneMisplaced", "(I)Z"⟩, 16)]
theorem lw_r2 : ∀ q ∈ lw_privs_2, lw_okq q := List.forall_mem_cons.mpr ⟨lw_p16, List.forall_mem_cons.mpr ⟨lw_p17, List.forall_mem_cons.mpr ⟨lw_p18, List.forall_mem_cons.mpr ⟨lw_p19, List.forall_mem_cons.mpr ⟨lw_p20, List.forall_mem_cons.mpr ⟨lw_p21, List.forall_mem_cons.mpr ⟨lw_p22, List.forall_mem_cons.mpr ⟨lw_p23, List.forall_mem_cons.mpr ⟨lw_p24, List.forall_mem_cons.mpr ⟨lw_p25, List.forall_mem_cons.mpr ⟨lw_p26, List.forall_mem_cons.mpr ⟨lw_p27, List.forall_mem_cons.mpr ⟨lw_p28, List.forall_mem_cons.mpr ⟨lw_p29, List.forall_mem_cons.mpr ⟨lw_p30, List.forall_mem_cons.mpr ⟨lw_p31, fun _ h => absurd h List.not_mem_nil⟩⟩⟩⟩⟩⟩⟩⟩⟩⟩⟩⟩⟩⟩⟩⟩
theorem lw_p32 : lw_okq (⟨"BoundWright$Review", "isParameterWith", "(II)Z"⟩, 16) := ⟨⟨by decide +kernel, by decide +kernel⟩, List.mem_of_getElem? (i := 295) (by decide +kernel), List.mem_of_getElem? (i := 773) (by decide +kernel), List.mem_of_getElem? (i := 774) (by decide +kernel)⟩
theorem lw_p33 : lw_okq (⟨"BoundWright$Review", "isOneLoose", "(I)Z"⟩, 16) := ⟨⟨by decide +kernel, by decide +kernel⟩, List.mem_of_getElem? (i := 295) (by decide +kernel), List.mem_of_getElem? (i := 777) (by decide +kernel), List.mem_of_getElem? (i := 778) (by decide +kernel)⟩
theorem lw_p34 : lw_okq (⟨"BoundWright$Review", "lookAtOthers", "(I)V"⟩, 16) := ⟨⟨by decide +kernel, by decide +kernel⟩, List.mem_of_getElem? (i := 295) (by decide +kernel), List.mem_of_getElem? (i := 781) (by decide +kernel), List.mem_of_getElem? (i := 782) (by decide +kernel)⟩
theorem lw_p35 : lw_okq (⟨"BoundWright$Review", "isOverriding", "(III)Z"⟩, 16) := ⟨⟨by decide +kernel, by decide +kernel⟩, List.mem_of_getElem? (i := 295) (by decide +kernel), List.mem_of_getElem? (i := 789) (by decide +kernel), List.mem_of_getElem? (i := 790) (by decide +kernel)⟩
theorem lw_p36 : lw_okq (⟨"BoundWright$Review", "isAbove", "(II)Z"⟩, 16) := ⟨⟨by decide +kernel, by decide +kernel⟩, List.mem_of_getElem? (i := 295) (by decide +kernel), List.mem_of_getElem? (i := 793) (by decide +kernel), List.mem_of_getElem? (i := 794) (by decide +kernel)⟩
theorem lw_p37 : lw_okq (⟨"BoundWright$Review", "isWorse", "(III)Z"⟩, 16) := ⟨⟨by decide +kernel, by decide +kernel⟩, List.mem_of_getElem? (i := 295) (by decide +kernel), List.mem_of_getElem? (i := 798) (by decide +kernel), List.mem_of_getElem? (i := 799) (by decide +kernel)⟩
theorem lw_p38 : lw_okq (⟨"BoundWright$Review", "isBeforeInClass", "(II)Z"⟩, 16) := ⟨⟨by decide +kernel, by decide +kernel⟩, List.mem_of_getElem? (i := 295) (by decide +kernel), List.mem_of_getElem? (i := 803) (by decide +kernel), List.mem_of_getElem? (i := 804) (by decide +kernel)⟩
theorem lw_p39 : lw_okq (⟨"BoundWright$Review", "areFormalsErasedAlike", "(II)Z"⟩, 16) := ⟨⟨by decide +kernel, by decide +kernel⟩, List.mem_of_getElem? (i := 295) (by decide +kernel), List.mem_of_getElem? (i := 807) (by decide +kernel), List.mem_of_getElem? (i := 808) (by decide +kernel)⟩
theorem lw_p40 : lw_okq (⟨"BoundWright$Review", "countBridges", "(I)I"⟩, 16) := ⟨⟨by decide +kernel, by decide +kernel⟩, List.mem_of_getElem? (i := 295) (by decide +kernel), List.mem_of_getElem? (i := 811) (by decide +kernel), List.mem_of_getElem? (i := 812) (by decide +kernel)⟩
theorem lw_p41 : lw_okq (⟨"BoundWright$Review", "isOverridden", "(II)Z"⟩, 16) := ⟨⟨by decide +kernel, by decide +kernel⟩, List.mem_of_getElem? (i := 295) (by decide +kernel), List.mem_of_getElem? (i := 815) (by decide +kernel), List.mem_of_getElem? (i := 816) (by decide +kernel)⟩
theorem lw_p42 : lw_okq (⟨"BoundWright$Review", "areErasedAlike", "(II)Z"⟩, 16) := ⟨⟨by decide +kernel, by decide +kernel⟩, List.mem_of_getElem? (i := 295) (by decide +kernel), List.mem_of_getElem? (i := 819) (by decide +kernel), List.mem_of_getElem? (i := 820) (by decide +kernel)⟩
theorem lw_p43 : lw_okq (⟨"BoundWright$Review", "isCountedBefore", "(II)Z"⟩, 16) := ⟨⟨by decide +kernel, by decide +kernel⟩, List.mem_of_getElem? (i := 295) (by decide +kernel), List.mem_of_getElem? (i := 823) (by decide +kernel), List.mem_of_getElem? (i := 824) (by decide +kernel)⟩
theorem lw_p44 : lw_okq (⟨"BoundWright$Faults", "addIf", "(ZIII)V"⟩, 6) := ⟨⟨by decide +kernel, by decide +kernel⟩, List.mem_of_getElem? (i := 266) (by decide +kernel), List.mem_of_getElem? (i := 831) (by decide +kernel), List.mem_of_getElem? (i := 832) (by decide +kernel)⟩
theorem lw_p45 : lw_okq (⟨"BoundWright$Faults", "listMethods", "(ILBoundWright$Review;)V"⟩, 6) := ⟨⟨by decide +kernel, by decide +kernel⟩, List.mem_of_getElem? (i := 266) (by decide +kernel), List.mem_of_getElem? (i := 835) (by decide +kernel), List.mem_of_getElem? (i := 836) (by decide +kernel)⟩
theorem lw_p46 : lw_okq (⟨"BoundWright", "needParameter", "(II)V"⟩, 7) := ⟨⟨by decide +kernel, by decide +kernel⟩, List.mem_of_getElem? (i := 21) (by decide +kernel), List.mem_of_getElem? (i := 847) (by decide +kernel), List.mem_of_getElem? (i := 848) (by decide +kernel)⟩
theorem lw_p47 : lw_okq (⟨"BoundWright", "isSimpleOf", "(II)Z"⟩, 7) := ⟨⟨by decide +kernel, by decide +kernel⟩, List.mem_of_getElem? (i := 21) (by decide +kernel), List.mem_of_getElem? (i := 852) (by decide +kernel), List.mem_of_getElem? (i := 853) (by decide +kernel)⟩
def lw_privs_3 : List (MethodName × Nat) := [(⟨"BoundWright$Review", "isParameterWith", "(II)Z"⟩, 16), (⟨"BoundWright$Review", "isOneLoose", "(I)Z"⟩, 16), (⟨"BoundWright$Review", "lookAtOthers", "(I)V"⟩, 16), (⟨"BoundWright$Review", "isOverriding", "(III)Z"⟩, 16), (⟨"BoundWright$Review", "isAbove", "(II)Z"⟩, 16), (⟨"BoundWright$Review", "isWorse", "(III)Z"⟩, 16), (⟨"BoundWright$Review", "isBeforeInClass", "(II)Z"⟩, 16), (⟨"BoundWright$Review", "areFormalsErasedAlike", "(II)Z"⟩, 16), (⟨"BoundWright$Review", "countBridges", "(I)I"⟩, 16), (⟨"BoundWright$Review", "isOverridden", "(II)Z"⟩, 16), (⟨"BoundWright$Review", "areErasedAlike", "(II)Z"⟩, 16), (⟨"BoundWright$Review", "isCountedBefore", "(II)Z"⟩, 16), (⟨"BoundWright$Faults", "addIf", "(ZIII)V"⟩, 6), (⟨"BoundWright$Faults", "listMethods", "(ILBoundWright$Review;)V"⟩, 6), (⟨"BoundWright", "needParameter", "(II)V"⟩, 7), (⟨"BoundWright", "isSimpleOf", "(II)Z"⟩, 7)]
theorem lw_r3 : ∀ q ∈ lw_privs_3, lw_okq q := List.forall_mem_cons.mpr ⟨lw_p32, List.forall_mem_cons.mpr ⟨lw_p33, List.forall_mem_cons.mpr ⟨lw_p34, List.forall_mem_cons.mpr ⟨lw_p35, List.forall_mem_cons.mpr ⟨lw_p36, List.forall_mem_cons.mpr ⟨lw_p37, List.forall_mem_cons.mpr ⟨lw_p38, List.forall_mem_cons.mpr ⟨lw_p39, List.forall_mem_cons.mpr ⟨lw_p40, List.forall_mem_cons.mpr ⟨lw_p41, List.forall_mem_cons.mpr ⟨lw_p42, List.forall_mem_cons.mpr ⟨lw_p43, List.forall_mem_cons.mpr ⟨lw_p44, List.forall_mem_cons.mpr ⟨lw_p45, List.forall_mem_cons.mpr ⟨lw_p46, List.forall_mem_cons.mpr ⟨lw_p47, fun _ h => absurd h List.not_mem_nil⟩⟩⟩⟩⟩⟩⟩⟩⟩⟩⟩⟩⟩⟩⟩⟩
theorem lw_p48 : lw_okq (⟨"BoundWright", "isOwnedBy", "(II)Z"⟩, 7) := ⟨⟨by decide +kernel, by decide +kernel⟩, List.mem_of_getElem? (i := 21) (by decide +kernel), List.mem_of_getElem? (i := 856) (by decide +kernel), List.mem_of_getElem? (i := 857) (by decide +kernel)⟩
theorem lw_p49 : lw_okq (⟨"BoundWright", "isSimpleArgument", "(I)Z"⟩, 7) := ⟨⟨by decide +kernel, by decide +kernel⟩, List.mem_of_getElem? (i := 21) (by decide +kernel), List.mem_of_getElem? (i := 860) (by decide +kernel), List.mem_of_getElem? (i := 861) (by decide +kernel)⟩
theorem lw_p50 : lw_okq (⟨"BoundWright", "isExtendable", "(II)Z"⟩, 7) := ⟨⟨by decide +kernel, by decide +kernel⟩, List.mem_of_getElem? (i := 21) (by decide +kernel), List.mem_of_getElem? (i := 872) (by decide +kernel), List.mem_of_getElem? (i := 873) (by decide +kernel)⟩
theorem lw_p51 : lw_okq (⟨"BoundWright", "isArgument", "(III)Z"⟩, 7) := ⟨⟨by decide +kernel, by decide +kernel⟩, List.mem_of_getElem? (i := 21) (by decide +kernel), List.mem_of_getElem? (i := 897) (by decide +kernel), List.mem_of_getElem? (i := 898) (by decide +kernel)⟩
theorem lw_p52 : lw_okq (⟨"BoundWright", "tell", "(IIII)I"⟩, 7) := ⟨⟨by decide +kernel, by decide +kernel⟩, List.mem_of_getElem? (i := 21) (by decide +kernel), List.mem_of_getElem? (i := 903) (by decide +kernel), List.mem_of_getElem? (i := 904) (by decide +kernel)⟩
theorem lw_p53 : lw_okq (⟨"BoundWright", "needTypeOrNone", "(I)V"⟩, 7) := ⟨⟨by decide +kernel, by decide +kernel⟩, List.mem_of_getElem? (i := 21) (by decide +kernel), List.mem_of_getElem? (i := 963) (by decide +kernel), List.mem_of_getElem? (i := 964) (by decide +kernel)⟩
theorem lw_p54 : lw_okq (⟨"BoundWright", "isUsable", "(II)Z"⟩, 7) := ⟨⟨by decide +kernel, by decide +kernel⟩, List.mem_of_getElem? (i := 21) (by decide +kernel), List.mem_of_getElem? (i := 973) (by decide +kernel), List.mem_of_getElem? (i := 974) (by decide +kernel)⟩
theorem lw_p55 : lw_okq (⟨"BoundWright", "membersNamed", "(II)I"⟩, 7) := ⟨⟨by decide +kernel, by decide +kernel⟩, List.mem_of_getElem? (i := 21) (by decide +kernel), List.mem_of_getElem? (i := 1011) (by decide +kernel), List.mem_of_getElem? (i := 1012) (by decide +kernel)⟩
theorem lw_p56 : lw_okq (⟨"BoundWright$Caller", "suitingOf", "(I)I"⟩, 9) := ⟨⟨by decide +kernel, by decide +kernel⟩, List.mem_of_getElem? (i := 360) (by decide +kernel), List.mem_of_getElem? (i := 1023) (by decide +kernel), List.mem_of_getElem? (i := 1024) (by decide +kernel)⟩
theorem lw_p57 : lw_okq (⟨"BoundWright$Caller", "isCountRight", "(I)Z"⟩, 9) := ⟨⟨by decide +kernel, by decide +kernel⟩, List.mem_of_getElem? (i := 360) (by decide +kernel), List.mem_of_getElem? (i := 1027) (by decide +kernel), List.mem_of_getElem? (i := 1028) (by decide +kernel)⟩
theorem lw_p58 : lw_okq (⟨"BoundWright$Caller", "layOutFormals", "(I)V"⟩, 9) := ⟨⟨by decide +kernel, by decide +kernel⟩, List.mem_of_getElem? (i := 360) (by decide +kernel), List.mem_of_getElem? (i := 1035) (by decide +kernel), List.mem_of_getElem? (i := 1036) (by decide +kernel)⟩
theorem lw_p59 : lw_okq (⟨"BoundWright$Caller", "seen", "(II)I"⟩, 9) := ⟨⟨by decide +kernel, by decide +kernel⟩, List.mem_of_getElem? (i := 360) (by decide +kernel), List.mem_of_getElem? (i := 1040) (by decide +kernel), List.mem_of_getElem? (i := 1041) (by decide +kernel)⟩
theorem lw_p60 : lw_okq (⟨"BoundWright$Caller", "isSuiting", "(I)Z"⟩, 9) := ⟨⟨by decide +kernel, by decide +kernel⟩, List.mem_of_getElem? (i := 360) (by decide +kernel), List.mem_of_getElem? (i := 1046) (by decide +kernel), List.mem_of_getElem? (i := 1047) (by decide +kernel)⟩
theorem lw_p61 : lw_okq (⟨"BoundWright$Caller", "standIn", "(I)I"⟩, 9) := ⟨⟨by decide +kernel, by decide +kernel⟩, List.mem_of_getElem? (i := 360) (by decide +kernel), List.mem_of_getElem? (i := 1050) (by decide +kernel), List.mem_of_getElem? (i := 1051) (by decide +kernel)⟩
theorem lw_p62 : lw_okq (⟨"BoundWright$Caller", "isFitting", "(II)Z"⟩, 9) := ⟨⟨by decide +kernel, by decide +kernel⟩, List.mem_of_getElem? (i := 360) (by decide +kernel), List.mem_of_getElem? (i := 1056) (by decide +kernel), List.mem_of_getElem? (i := 1057) (by decide +kernel)⟩
theorem lw_p63 : lw_okq (⟨"BoundWright$Caller", "mostSpecialOf", "(I)I"⟩, 9) := ⟨⟨by decide +kernel, by decide +kernel⟩, List.mem_of_getElem? (i := 360) (by decide +kernel), List.mem_of_getElem? (i := 1061) (by decide +kernel), List.mem_of_getElem? (i := 1062) (by decide +kernel)⟩
def lw_privs_4 : List (MethodName × Nat) := [(⟨"BoundWright", "isOwnedBy", "(II)Z"⟩, 7), (⟨"BoundWright", "isSimpleArgument", "(I)Z"⟩, 7), (⟨"BoundWright", "isExtendable", "(II)Z"⟩, 7), (⟨"BoundWright", "isArgument", "(III)Z"⟩, 7), (⟨"BoundWright", "tell", "(IIII)I"⟩, 7), (⟨"BoundWright", "needTypeOrNone", "(I)V"⟩, 7), (⟨"BoundWright", "isUsable", "(II)Z"⟩, 7), (⟨"BoundWright", "membersNamed", "(II)I"⟩, 7), (⟨"BoundWright$Caller", "suitingOf", "(I)I"⟩, 9), (⟨"BoundWright$Caller", "isCountRight", "(I)Z"⟩, 9), (⟨"BoundWright$Caller", "layOutFormals", "(I)V"⟩, 9), (⟨"BoundWright$Caller", "seen", "(II)I"⟩, 9), (⟨"BoundWright$Caller", "isSuiting", "(I)Z"⟩, 9), (⟨"BoundWright$Caller", "standIn", "(I)I"⟩, 9), (⟨"BoundWright$Caller", "isFitting", "(II)Z"⟩, 9), (⟨"BoundWright$Caller", "mostSpecialOf", "(I)I"⟩, 9)]
theorem lw_r4 : ∀ q ∈ lw_privs_4, lw_okq q := List.forall_mem_cons.mpr ⟨lw_p48, List.forall_mem_cons.mpr ⟨lw_p49, List.forall_mem_cons.mpr ⟨lw_p50, List.forall_mem_cons.mpr ⟨lw_p51, List.forall_mem_cons.mpr ⟨lw_p52, List.forall_mem_cons.mpr ⟨lw_p53, List.forall_mem_cons.mpr ⟨lw_p54, List.forall_mem_cons.mpr ⟨lw_p55, List.forall_mem_cons.mpr ⟨lw_p56, List.forall_mem_cons.mpr ⟨lw_p57, List.forall_mem_cons.mpr ⟨lw_p58, List.forall_mem_cons.mpr ⟨lw_p59, List.forall_mem_cons.mpr ⟨lw_p60, List.forall_mem_cons.mpr ⟨lw_p61, List.forall_mem_cons.mpr ⟨lw_p62, List.forall_mem_cons.mpr ⟨lw_p63, fun _ h => absurd h List.not_mem_nil⟩⟩⟩⟩⟩⟩⟩⟩⟩⟩⟩⟩⟩⟩⟩⟩
theorem lw_p64 : lw_okq (⟨"BoundWright$Caller", "isMoreSpecialThanAll", "(II)Z"⟩, 9) := ⟨⟨by decide +kernel, by decide +kernel⟩, List.mem_of_getElem? (i := 360) (by decide +kernel), List.mem_of_getElem? (i := 1065) (by decide +kernel), List.mem_of_getElem? (i := 1066) (by decide +kernel)⟩
theorem lw_p65 : lw_okq (⟨"BoundWright$Caller", "isMoreSpecial", "(II)Z"⟩, 9) := ⟨⟨by decide +kernel, by decide +kernel⟩, List.mem_of_getElem? (i := 360) (by decide +kernel), List.mem_of_getElem? (i := 1069) (by decide +kernel), List.mem_of_getElem? (i := 1070) (by decide +kernel)⟩
theorem lw_p66 : lw_okq (⟨"BoundWrightModel", "write", "(IIIIII)V"⟩, 28) := ⟨⟨by decide +kernel, by decide +kernel⟩, List.mem_of_getElem? (i := 1109) (by decide +kernel), List.mem_of_getElem? (i := 1115) (by decide +kernel), List.mem_of_getElem? (i := 1116) (by decide +kernel)⟩
theorem lw_p67 : lw_okq (⟨"BoundWrightModel", "raise", "()V"⟩, 28) := ⟨⟨by decide +kernel, by decide +kernel⟩, List.mem_of_getElem? (i := 1109) (by decide +kernel), List.mem_of_getElem? (i := 1119) (by decide +kernel), List.mem_of_getElem? (i := 1120) (by decide +kernel)⟩
theorem lw_p68 : lw_okq (⟨"BoundWrightModel", "extendsMany", "(I)I"⟩, 28) := ⟨⟨by decide +kernel, by decide +kernel⟩, List.mem_of_getElem? (i := 1109) (by decide +kernel), List.mem_of_getElem? (i := 1123) (by decide +kernel), List.mem_of_getElem? (i := 1124) (by decide +kernel)⟩
theorem lw_p69 : lw_okq (⟨"BoundWrightModel", "extendedBy", "(II)I"⟩, 28) := ⟨⟨by decide +kernel, by decide +kernel⟩, List.mem_of_getElem? (i := 1109) (by decide +kernel), List.mem_of_getElem? (i := 1128) (by decide +kernel), List.mem_of_getElem? (i := 1129) (by decide +kernel)⟩
theorem lw_p70 : lw_okq (⟨"BoundWrightModel", "begin", "()V"⟩, 28) := ⟨⟨by decide +kernel, by decide +kernel⟩, List.mem_of_getElem? (i := 1109) (by decide +kernel), List.mem_of_getElem? (i := 1225) (by decide +kernel), List.mem_of_getElem? (i := 1226) (by decide +kernel)⟩
theorem lw_p71 : lw_okq (⟨"BoundWrightModel", "no", "(I)I"⟩, 28) := ⟨⟨by decide +kernel, by decide +kernel⟩, List.mem_of_getElem? (i := 1109) (by decide +kernel), List.mem_of_getElem? (i := 1232) (by decide +kernel), List.mem_of_getElem? (i := 1233) (by decide +kernel)⟩
theorem lw_p72 : lw_okq (⟨"BoundWrightModel", "isParameter", "(II)Z"⟩, 28) := ⟨⟨by decide +kernel, by decide +kernel⟩, List.mem_of_getElem? (i := 1109) (by decide +kernel), List.mem_of_getElem? (i := 1240) (by decide +kernel), List.mem_of_getElem? (i := 1241) (by decide +kernel)⟩
theorem lw_p73 : lw_okq (⟨"BoundWrightModel", "isClass", "(I)Z"⟩, 28) := ⟨⟨by decide +kernel, by decide +kernel⟩, List.mem_of_getElem? (i := 1109) (by decide +kernel), List.mem_of_getElem? (i := 1244) (by decide +kernel), List.mem_of_getElem? (i := 1245) (by decide +kernel)⟩
theorem lw_p74 : lw_okq (⟨"BoundWrightModel", "isType", "(I)Z"⟩, 28) := ⟨⟨by decide +kernel, by decide +kernel⟩, List.mem_of_getElem? (i := 1109) (by decide +kernel), List.mem_of_getElem? (i := 1248) (by decide +kernel), List.mem_of_getElem? (i := 1249) (by decide +kernel)⟩
theorem lw_p75 : lw_okq (⟨"BoundWrightModel", "isSimple", "(I)Z"⟩, 28) := ⟨⟨by decide +kernel, by decide +kernel⟩, List.mem_of_getElem? (i := 1109) (by decide +kernel), List.mem_of_getElem? (i := 1252) (by decide +kernel), List.mem_of_getElem? (i := 1253) (by decide +kernel)⟩
theorem lw_p76 : lw_okq (⟨"BoundWrightModel", "isOfClass", "(I)Z"⟩, 28) := ⟨⟨by decide +kernel, by decide +kernel⟩, List.mem_of_getElem? (i := 1109) (by decide +kernel), List.mem_of_getElem? (i := 1256) (by decide +kernel), List.mem_of_getElem? (i := 1257) (by decide +kernel)⟩
theorem lw_p77 : lw_okq (⟨"BoundWrightModel", "argument", "(II)I"⟩, 28) := ⟨⟨by decide +kernel, by decide +kernel⟩, List.mem_of_getElem? (i := 1109) (by decide +kernel), List.mem_of_getElem? (i := 1260) (by decide +kernel), List.mem_of_getElem? (i := 1261) (by decide +kernel)⟩
theorem lw_p78 : lw_okq (⟨"BoundWrightModel", "isClosed", "(I)Z"⟩, 28) := ⟨⟨by decide +kernel, by decide +kernel⟩, List.mem_of_getElem? (i := 1109) (by decide +kernel), List.mem_of_getElem? (i := 1270) (by decide +kernel), List.mem_of_getElem? (i := 1271) (by decide +kernel)⟩
theorem lw_p79 : lw_okq (⟨"BoundWrightModel", "hasOnly", "(II)Z"⟩, 28) := ⟨⟨by decide +kernel, by decide +kernel⟩, List.mem_of_getElem? (i := 1109) (by decide +kernel), List.mem_of_getElem? (i := 1274) (by decide +kernel), List.mem_of_getElem? (i := 1275) (by decide +kernel)⟩
def lw_privs_5 : List (MethodName × Nat) := [(⟨"BoundWright$Caller", "isMoreSpecialThanAll", "(II)Z"⟩, 9), (⟨"BoundWright$Caller", "isMoreSpecial", "(II)Z"⟩, 9), (⟨"BoundWrightModel", "write", "(IIIIII)V"⟩, 28), (⟨"BoundWrightModel", "raise", "()V"⟩, 28), (⟨"BoundWrightModel", "extendsMany", "(I)I"⟩, 28), (⟨"BoundWrightModel", "extendedBy", "(II)I"⟩, 28), (⟨"BoundWrightModel", "begin", "()V"⟩, 28), (⟨"BoundWrightModel", "no", "(I)I"⟩, 28), (⟨"BoundWrightModel", "isParameter", "(II)Z"⟩, 28), (⟨"BoundWrightModel", "isClass", "(I)Z"⟩, 28), (⟨"BoundWrightModel", "isType", "(I)Z"⟩, 28), (⟨"BoundWrightModel", "isSimple", "(I)Z"⟩, 28), (⟨"BoundWrightModel", "isOfClass", "(I)Z"⟩, 28), (⟨"BoundWrightModel", "argument", "(II)I"⟩, 28), (⟨"BoundWrightModel", "isClosed", "(I)Z"⟩, 28), (⟨"BoundWrightModel", "hasOnly", "(II)Z"⟩, 28)]
theorem lw_r5 : ∀ q ∈ lw_privs_5, lw_okq q := List.forall_mem_cons.mpr ⟨lw_p64, List.forall_mem_cons.mpr ⟨lw_p65, List.forall_mem_cons.mpr ⟨lw_p66, List.forall_mem_cons.mpr ⟨lw_p67, List.forall_mem_cons.mpr ⟨lw_p68, List.forall_mem_cons.mpr ⟨lw_p69, List.forall_mem_cons.mpr ⟨lw_p70, List.forall_mem_cons.mpr ⟨lw_p71, List.forall_mem_cons.mpr ⟨lw_p72, List.forall_mem_cons.mpr ⟨lw_p73, List.forall_mem_cons.mpr ⟨lw_p74, List.forall_mem_cons.mpr ⟨lw_p75, List.forall_mem_cons.mpr ⟨lw_p76, List.forall_mem_cons.mpr ⟨lw_p77, List.forall_mem_cons.mpr ⟨lw_p78, List.forall_mem_cons.mpr ⟨lw_p79, fun _ h => absurd h List.not_mem_nil⟩⟩⟩⟩⟩⟩⟩⟩⟩⟩⟩⟩⟩⟩⟩⟩
theorem lw_p80 : lw_okq (⟨"BoundWrightModel", "ofKindNow", "(II)I"⟩, 28) := ⟨⟨by decide +kernel, by decide +kernel⟩, List.mem_of_getElem? (i := 1109) (by decide +kernel), List.mem_of_getElem? (i := 1289) (by decide +kernel), List.mem_of_getElem? (i := 1290) (by decide +kernel)⟩
theorem lw_p81 : lw_okq (⟨"BoundWrightModel", "childrenOf", "(I)I"⟩, 28) := ⟨⟨by decide +kernel, by decide +kernel⟩, List.mem_of_getElem? (i := 1109) (by decide +kernel), List.mem_of_getElem? (i := 1293) (by decide +kernel), List.mem_of_getElem? (i := 1294) (by decide +kernel)⟩
theorem lw_p82 : lw_okq (⟨"BoundWrightModel", "membersOfClass", "(I)I"⟩, 28) := ⟨⟨by decide +kernel, by decide +kernel⟩, List.mem_of_getElem? (i := 1109) (by decide +kernel), List.mem_of_getElem? (i := 1297) (by decide +kernel), List.mem_of_getElem? (i := 1298) (by decide +kernel)⟩
theorem lw_p83 : lw_okq (⟨"BoundWrightModel", "isOrAbove", "(II)Z"⟩, 28) := ⟨⟨by decide +kernel, by decide +kernel⟩, List.mem_of_getElem? (i := 1109) (by decide +kernel), List.mem_of_getElem? (i := 1301) (by decide +kernel), List.mem_of_getElem? (i := 1302) (by decide +kernel)⟩
theorem lw_p84 : lw_okq (⟨"BoundWrightModel", "isAbove", "(II)Z"⟩, 28) := ⟨⟨by decide +kernel, by decide +kernel⟩, List.mem_of_getElem? (i := 1109) (by decide +kernel), List.mem_of_getElem? (i := 1305) (by decide +kernel), List.mem_of_getElem? (i := 1306) (by decide +kernel)⟩
theorem lw_p85 : lw_okq (⟨"BoundWrightModel", "overridden", "(I)I"⟩, 28) := ⟨⟨by decide +kernel, by decide +kernel⟩, List.mem_of_getElem? (i := 1109) (by decide +kernel), List.mem_of_getElem? (i := 1312) (by decide +kernel), List.mem_of_getElem? (i := 1313) (by decide +kernel)⟩
theorem lw_p86 : lw_okq (⟨"BoundWrightModel", "overrides", "(II)Z"⟩, 28) := ⟨⟨by decide +kernel, by decide +kernel⟩, List.mem_of_getElem? (i := 1109) (by decide +kernel), List.mem_of_getElem? (i := 1316) (by decide +kernel), List.mem_of_getElem? (i := 1317) (by decide +kernel)⟩
theorem lw_p87 : lw_okq (⟨"BoundWrightModel", "own", "(I)I"⟩, 28) := ⟨⟨by decide +kernel, by decide +kernel⟩, List.mem_of_getElem? (i := 1109) (by decide +kernel), List.mem_of_getElem? (i := 1320) (by decide +kernel), List.mem_of_getElem? (i := 1321) (by decide +kernel)⟩
theorem lw_p88 : lw_okq (⟨"BoundWrightModel", "type", "(IIIII)I"⟩, 28) := ⟨⟨by decide +kernel, by decide +kernel⟩, List.mem_of_getElem? (i := 1109) (by decide +kernel), List.mem_of_getElem? (i := 1324) (by decide +kernel), List.mem_of_getElem? (i := 1325) (by decide +kernel)⟩
theorem lw_p89 : lw_okq (⟨"BoundWrightModel", "find", "(IIIII)I"⟩, 28) := ⟨⟨by decide +kernel, by decide +kernel⟩, List.mem_of_getElem? (i := 1109) (by decide +kernel), List.mem_of_getElem? (i := 1328) (by decide +kernel), List.mem_of_getElem? (i := 1329) (by decide +kernel)⟩
theorem lw_p90 : lw_okq (⟨"BoundWrightModel", "classOf", "(III)I"⟩, 28) := ⟨⟨by decide +kernel, by decide +kernel⟩, List.mem_of_getElem? (i := 1109) (by decide +kernel), List.mem_of_getElem? (i := 1338) (by decide +kernel), List.mem_of_getElem? (i := 1339) (by decide +kernel)⟩
theorem lw_p91 : lw_okq (⟨"BoundWrightModel", "asNow", "(II)I"⟩, 28) := ⟨⟨by decide +kernel, by decide +kernel⟩, List.mem_of_getElem? (i := 1109) (by decide +kernel), List.mem_of_getElem? (i := 1342) (by decide +kernel), List.mem_of_getElem? (i := 1343) (by decide +kernel)⟩
theorem lw_p92 : lw_okq (⟨"BoundWrightModel", "put", "(II)I"⟩, 28) := ⟨⟨by decide +kernel, by decide +kernel⟩, List.mem_of_getElem? (i := 1109) (by decide +kernel), List.mem_of_getElem? (i := 1346) (by decide +kernel), List.mem_of_getElem? (i := 1347) (by decide +kernel)⟩
theorem lw_p93 : lw_okq (⟨"BoundWrightModel", "arrayOf", "(I)I"⟩, 28) := ⟨⟨by decide +kernel, by decide +kernel⟩, List.mem_of_getElem? (i := 1109) (by decide +kernel), List.mem_of_getElem? (i := 1350) (by decide +kernel), List.mem_of_getElem? (i := 1351) (by decide +kernel)⟩
theorem lw_p94 : lw_okq (⟨"BoundWrightModel", "putArgument", "(II)I"⟩, 28) := ⟨⟨by decide +kernel, by decide +kernel⟩, List.mem_of_getElem? (i := 1109) (by decide +kernel), List.mem_of_getElem? (i := 1354) (by decide +kernel), List.mem_of_getElem? (i := 1355) (by decide +kernel)⟩
theorem lw_p95 : lw_okq (⟨"BoundWrightModel", "bridges", "(I)I"⟩, 28) := ⟨⟨by decide +kernel, by decide +kernel⟩, List.mem_of_getElem? (i := 1109) (by decide +kernel), List.mem_of_getElem? (i := 1361) (by decide +kernel), List.mem_of_getElem? (i := 1362) (by decide +kernel)⟩
def lw_privs_6 : List (MethodName × Nat) := [(⟨"BoundWrightModel", "ofKindNow", "(II)I"⟩, 28), (⟨"BoundWrightModel", "childrenOf", "(I)I"⟩, 28), (⟨"BoundWrightModel", "membersOfClass", "(I)I"⟩, 28), (⟨"BoundWrightModel", "isOrAbove", "(II)Z"⟩, 28), (⟨"BoundWrightModel", "isAbove", "(II)Z"⟩, 28), (⟨"BoundWrightModel", "overridden", "(I)I"⟩, 28), (⟨"BoundWrightModel", "overrides", "(II)Z"⟩, 28), (⟨"BoundWrightModel", "own", "(I)I"⟩, 28), (⟨"BoundWrightModel", "type", "(IIIII)I"⟩, 28), (⟨"BoundWrightModel", "find", "(IIIII)I"⟩, 28), (⟨"BoundWrightModel", "classOf", "(III)I"⟩, 28), (⟨"BoundWrightModel", "asNow", "(II)I"⟩, 28), (⟨"BoundWrightModel", "put", "(II)I"⟩, 28), (⟨"BoundWrightModel", "arrayOf", "(I)I"⟩, 28), (⟨"BoundWrightModel", "putArgument", "(II)I"⟩, 28), (⟨"BoundWrightModel", "bridges", "(I)I"⟩, 28)]
theorem lw_r6 : ∀ q ∈ lw_privs_6, lw_okq q := List.forall_mem_cons.mpr ⟨lw_p80, List.forall_mem_cons.mpr ⟨lw_p81, List.forall_mem_cons.mpr ⟨lw_p82, List.forall_mem_cons.mpr ⟨lw_p83, List.forall_mem_cons.mpr ⟨lw_p84, List.forall_mem_cons.mpr ⟨lw_p85, List.forall_mem_cons.mpr ⟨lw_p86, List.forall_mem_cons.mpr ⟨lw_p87, List.forall_mem_cons.mpr ⟨lw_p88, List.forall_mem_cons.mpr ⟨lw_p89, List.forall_mem_cons.mpr ⟨lw_p90, List.forall_mem_cons.mpr ⟨lw_p91, List.forall_mem_cons.mpr ⟨lw_p92, List.forall_mem_cons.mpr ⟨lw_p93, List.forall_mem_cons.mpr ⟨lw_p94, List.forall_mem_cons.mpr ⟨lw_p95, fun _ h => absurd h List.not_mem_nil⟩⟩⟩⟩⟩⟩⟩⟩⟩⟩⟩⟩⟩⟩⟩⟩
theorem lw_p96 : lw_okq (⟨"BoundWrightModel", "areAlike", "(IIZ)Z"⟩, 28) := ⟨⟨by decide +kernel, by decide +kernel⟩, List.mem_of_getElem? (i := 1109) (by decide +kernel), List.mem_of_getElem? (i := 1365) (by decide +kernel), List.mem_of_getElem? (i := 1366) (by decide +kernel)⟩
theorem lw_p97 : lw_okq (⟨"BoundWrightModel", "erased", "(II)I"⟩, 28) := ⟨⟨by decide +kernel, by decide +kernel⟩, List.mem_of_getElem? (i := 1109) (by decide +kernel), List.mem_of_getElem? (i := 1369) (by decide +kernel), List.mem_of_getElem? (i := 1370) (by decide +kernel)⟩
theorem lw_p98 : lw_okq (⟨"BoundWrightModel", "boundOf", "(I)I"⟩, 28) := ⟨⟨by decide +kernel, by decide +kernel⟩, List.mem_of_getElem? (i := 1109) (by decide +kernel), List.mem_of_getElem? (i := 1373) (by decide +kernel), List.mem_of_getElem? (i := 1374) (by decide +kernel)⟩
theorem lw_p99 : lw_okq (⟨"BoundWrightModel", "lookFor", "(III)I"⟩, 28) := ⟨⟨by decide +kernel, by decide +kernel⟩, List.mem_of_getElem? (i := 1109) (by decide +kernel), List.mem_of_getElem? (i := 1377) (by decide +kernel), List.mem_of_getElem? (i := 1378) (by decide +kernel)⟩
theorem lw_p100 : lw_okq (⟨"BoundWrightModel", "isReachedTwice", "(I)Z"⟩, 28) := ⟨⟨by decide +kernel, by decide +kernel⟩, List.mem_of_getElem? (i := 1109) (by decide +kernel), List.mem_of_getElem? (i := 1381) (by decide +kernel), List.mem_of_getElem? (i := 1382) (by decide +kernel)⟩
theorem lw_p101 : lw_okq (⟨"BoundWrightModel", "isTwice", "(I[I)Z"⟩, 28) := ⟨⟨by decide +kernel, by decide +kernel⟩, List.mem_of_getElem? (i := 1109) (by decide +kernel), List.mem_of_getElem? (i := 1385) (by decide +kernel), List.mem_of_getElem? (i := 1386) (by decide +kernel)⟩
theorem lw_p102 : lw_okq (⟨"BoundWrightModel", "numberOf", "(IIII)I"⟩, 28) := ⟨⟨by decide +kernel, by decide +kernel⟩, List.mem_of_getElem? (i := 1109) (by decide +kernel), List.mem_of_getElem? (i := 1389) (by decide +kernel), List.mem_of_getElem? (i := 1390) (by decide +kernel)⟩
theorem lw_p103 : lw_okq (⟨"BoundWrightModel", "keeps", "(I)Z"⟩, 28) := ⟨⟨by decide +kernel, by decide +kernel⟩, List.mem_of_getElem? (i := 1109) (by decide +kernel), List.mem_of_getElem? (i := 1393) (by decide +kernel), List.mem_of_getElem? (i := 1394) (by decide +kernel)⟩
theorem lw_p104 : lw_okq (⟨"BoundWrightModel", "isUnder", "(II)Z"⟩, 28) := ⟨⟨by decide +kernel, by decide +kernel⟩, List.mem_of_getElem? (i := 1109) (by decide +kernel), List.mem_of_getElem? (i := 1397) (by decide +kernel), List.mem_of_getElem? (i := 1398) (by decide +kernel)⟩
theorem lw_p105 : lw_okq (⟨"BoundWrightModel", "isUnder", "(III)Z"⟩, 28) := ⟨⟨by decide +kernel, by decide +kernel⟩, List.mem_of_getElem? (i := 1109) (by decide +kernel), List.mem_of_getElem? (i := 1401) (by decide +kernel), List.mem_of_getElem? (i := 1402) (by decide +kernel)⟩
theorem lw_p106 : lw_okq (⟨"BoundWrightModel", "isWithin", "(IIII)Z"⟩, 28) := ⟨⟨by decide +kernel, by decide +kernel⟩, List.mem_of_getElem? (i := 1109) (by decide +kernel), List.mem_of_getElem? (i := 1405) (by decide +kernel), List.mem_of_getElem? (i := 1406) (by decide +kernel)⟩
theorem lw_p107 : lw_okq (⟨"BoundWrightModel", "isFault", "(II)Z"⟩, 28) := ⟨⟨by decide +kernel, by decide +kernel⟩, List.mem_of_getElem? (i := 1109) (by decide +kernel), List.mem_of_getElem? (i := 1412) (by decide +kernel), List.mem_of_getElem? (i := 1413) (by decide +kernel)⟩
theorem lw_p108 : lw_okq (⟨"BoundWrightModel", "isOwnWith", "(III)Z"⟩, 28) := ⟨⟨by decide +kernel, by decide +kernel⟩, List.mem_of_getElem? (i := 1109) (by decide +kernel), List.mem_of_getElem? (i := 1416) (by decide +kernel), List.mem_of_getElem? (i := 1417) (by decide +kernel)⟩
theorem lw_p109 : lw_okq (⟨"BoundWrightModel", "clashes", "(II)Z"⟩, 28) := ⟨⟨by decide +kernel, by decide +kernel⟩, List.mem_of_getElem? (i := 1109) (by decide +kernel), List.mem_of_getElem? (i := 1420) (by decide +kernel), List.mem_of_getElem? (i := 1421) (by decide +kernel)⟩
theorem lw_p110 : lw_okq (⟨"BoundWrightModel", "isArgument", "(III)Z"⟩, 28) := ⟨⟨by decide +kernel, by decide +kernel⟩, List.mem_of_getElem? (i := 1109) (by decide +kernel), List.mem_of_getElem? (i := 1428) (by decide +kernel), List.mem_of_getElem? (i := 1429) (by decide +kernel)⟩
theorem lw_p111 : lw_okq (⟨"BoundWrightModel", "tell", "(I)I"⟩, 28) := ⟨⟨by decide +kernel, by decide +kernel⟩, List.mem_of_getElem? (i := 1109) (by decide +kernel), List.mem_of_getElem? (i := 1432) (by decide +kernel), List.mem_of_getElem? (i := 1433) (by decide +kernel)⟩
def lw_privs_7 : List (MethodName × Nat) := [(⟨"BoundWrightModel", "areAlike", "(IIZ)Z"⟩, 28), (⟨"BoundWrightModel", "erased", "(II)I"⟩, 28), (⟨"BoundWrightModel", "boundOf", "(I)I"⟩, 28), (⟨"BoundWrightModel", "lookFor", "(III)I"⟩, 28), (⟨"BoundWrightModel", "isReachedTwice", "(I)Z"⟩, 28), (⟨"BoundWrightModel", "isTwice", "(I[I)Z"⟩, 28), (⟨"BoundWrightModel", "numberOf", "(IIII)I"⟩, 28), (⟨"BoundWrightModel", "keeps", "(I)Z"⟩, 28), (⟨"BoundWrightModel", "isUnder", "(II)Z"⟩, 28), (⟨"BoundWrightModel", "isUnder", "(III)Z"⟩, 28), (⟨"BoundWrightModel", "isWithin", "(IIII)Z"⟩, 28), (⟨"BoundWrightModel", "isFault", "(II)Z"⟩, 28), (⟨"BoundWrightModel", "isOwnWith", "(III)Z"⟩, 28), (⟨"BoundWrightModel", "clashes", "(II)Z"⟩, 28), (⟨"BoundWrightModel", "isArgument", "(III)Z"⟩, 28), (⟨"BoundWrightModel", "tell", "(I)I"⟩, 28)]
theorem lw_r7 : ∀ q ∈ lw_privs_7, lw_okq q := List.forall_mem_cons.mpr ⟨lw_p96, List.forall_mem_cons.mpr ⟨lw_p97, List.forall_mem_cons.mpr ⟨lw_p98, List.forall_mem_cons.mpr ⟨lw_p99, List.forall_mem_cons.mpr ⟨lw_p100, List.forall_mem_cons.mpr ⟨lw_p101, List.forall_mem_cons.mpr ⟨lw_p102, List.forall_mem_cons.mpr ⟨lw_p103, List.forall_mem_cons.mpr ⟨lw_p104, List.forall_mem_cons.mpr ⟨lw_p105, List.forall_mem_cons.mpr ⟨lw_p106, List.forall_mem_cons.mpr ⟨lw_p107, List.forall_mem_cons.mpr ⟨lw_p108, List.forall_mem_cons.mpr ⟨lw_p109, List.forall_mem_cons.mpr ⟨lw_p110, List.forall_mem_cons.mpr ⟨lw_p111, fun _ h => absurd h List.not_mem_nil⟩⟩⟩⟩⟩⟩⟩⟩⟩⟩⟩⟩⟩⟩⟩⟩
theorem lw_p112 : lw_okq (⟨"BoundWrightModel", "deepOf", "(I)I"⟩, 28) := ⟨⟨by decide +kernel, by decide +kernel⟩, List.mem_of_getElem? (i := 1109) (by decide +kernel), List.mem_of_getElem? (i := 1436) (by decide +kernel), List.mem_of_getElem? (i := 1437) (by decide +kernel)⟩
theorem lw_p113 : lw_okq (⟨"BoundWrightModel", "ofTypeNow", "(II)I"⟩, 28) := ⟨⟨by decide +kernel, by decide +kernel⟩, List.mem_of_getElem? (i := 1109) (by decide +kernel), List.mem_of_getElem? (i := 1452) (by decide +kernel), List.mem_of_getElem? (i := 1453) (by decide +kernel)⟩
theorem lw_p114 : lw_okq (⟨"BoundWrightModel", "code", "(I)I"⟩, 28) := ⟨⟨by decide +kernel, by decide +kernel⟩, List.mem_of_getElem? (i := 1109) (by decide +kernel), List.mem_of_getElem? (i := 1456) (by decide +kernel), List.mem_of_getElem? (i := 1457) (by decide +kernel)⟩
theorem lw_p115 : lw_okq (⟨"BoundWrightModel", "membersOf", "(I)I"⟩, 28) := ⟨⟨by decide +kernel, by decide +kernel⟩, List.mem_of_getElem? (i := 1109) (by decide +kernel), List.mem_of_getElem? (i := 1461) (by decide +kernel), List.mem_of_getElem? (i := 1462) (by decide +kernel)⟩
theorem lw_p116 : lw_okq (⟨"BoundWrightModel", "bearer", "(I)I"⟩, 28) := ⟨⟨by decide +kernel, by decide +kernel⟩, List.mem_of_getElem? (i := 1109) (by decide +kernel), List.mem_of_getElem? (i := 1465) (by decide +kernel), List.mem_of_getElem? (i := 1466) (by decide +kernel)⟩
theorem lw_p117 : lw_okq (⟨"BoundWrightModel", "joinNow", "(IIZ)I"⟩, 28) := ⟨⟨by decide +kernel, by decide +kernel⟩, List.mem_of_getElem? (i := 1109) (by decide +kernel), List.mem_of_getElem? (i := 1477) (by decide +kernel), List.mem_of_getElem? (i := 1478) (by decide +kernel)⟩
theorem lw_p118 : lw_okq (⟨"BoundWrightModel", "joinClasses", "(IIZ)I"⟩, 28) := ⟨⟨by decide +kernel, by decide +kernel⟩, List.mem_of_getElem? (i := 1109) (by decide +kernel), List.mem_of_getElem? (i := 1481) (by decide +kernel), List.mem_of_getElem? (i := 1482) (by decide +kernel)⟩
theorem lw_p119 : lw_okq (⟨"BoundWrightModel", "isOfBoth", "(III)Z"⟩, 28) := ⟨⟨by decide +kernel, by decide +kernel⟩, List.mem_of_getElem? (i := 1109) (by decide +kernel), List.mem_of_getElem? (i := 1485) (by decide +kernel), List.mem_of_getElem? (i := 1486) (by decide +kernel)⟩
theorem lw_p120 : lw_okq (⟨"BoundWrightModel", "joinArguments", "(IIIZ)I"⟩, 28) := ⟨⟨by decide +kernel, by decide +kernel⟩, List.mem_of_getElem? (i := 1109) (by decide +kernel), List.mem_of_getElem? (i := 1489) (by decide +kernel), List.mem_of_getElem? (i := 1490) (by decide +kernel)⟩
theorem lw_p121 : lw_okq (⟨"BoundWrightModel", "areAllNow", "(II)Z"⟩, 28) := ⟨⟨by decide +kernel, by decide +kernel⟩, List.mem_of_getElem? (i := 1109) (by decide +kernel), List.mem_of_getElem? (i := 1501) (by decide +kernel), List.mem_of_getElem? (i := 1502) (by decide +kernel)⟩
theorem lw_p122 : lw_okq (⟨"BoundWrightModel", "isCovered", "(III)Z"⟩, 28) := ⟨⟨by decide +kernel, by decide +kernel⟩, List.mem_of_getElem? (i := 1109) (by decide +kernel), List.mem_of_getElem? (i := 1505) (by decide +kernel), List.mem_of_getElem? (i := 1506) (by decide +kernel)⟩
theorem lw_p123 : lw_okq (⟨"BoundWrightModel", "cannotBe", "(II)Z"⟩, 28) := ⟨⟨by decide +kernel, by decide +kernel⟩, List.mem_of_getElem? (i := 1109) (by decide +kernel), List.mem_of_getElem? (i := 1509) (by decide +kernel), List.mem_of_getElem? (i := 1510) (by decide +kernel)⟩
theorem lw_p124 : lw_okq (⟨"BoundWrightModel", "isClosedArgument", "(I)Z"⟩, 28) := ⟨⟨by decide +kernel, by decide +kernel⟩, List.mem_of_getElem? (i := 1109) (by decide +kernel), List.mem_of_getElem? (i := 1513) (by decide +kernel), List.mem_of_getElem? (i := 1514) (by decide +kernel)⟩
theorem lw_p125 : lw_okq (⟨"BoundWrightModel", "isFormal", "(I)Z"⟩, 28) := ⟨⟨by decide +kernel, by decide +kernel⟩, List.mem_of_getElem? (i := 1109) (by decide +kernel), List.mem_of_getElem? (i := 1521) (by decide +kernel), List.mem_of_getElem? (i := 1522) (by decide +kernel)⟩
theorem lw_p126 : lw_okq (⟨"BoundWrightModel", "canBe", "(II)Z"⟩, 28) := ⟨⟨by decide +kernel, by decide +kernel⟩, List.mem_of_getElem? (i := 1109) (by decide +kernel), List.mem_of_getElem? (i := 1525) (by decide +kernel), List.mem_of_getElem? (i := 1526) (by decide +kernel)⟩
theorem lw_p127 : lw_okq (⟨"BoundWrightModel", "ofMethodNow", "(II)I"⟩, 28) := ⟨⟨by decide +kernel, by decide +kernel⟩, List.mem_of_getElem? (i := 1109) (by decide +kernel), List.mem_of_getElem? (i := 1537) (by decide +kernel), List.mem_of_getElem? (i := 1538) (by decide +kernel)⟩
def lw_privs_8 : List (MethodName × Nat) := [(⟨"BoundWrightModel", "deepOf", "(I)I"⟩, 28), (⟨"BoundWrightModel", "ofTypeNow", "(II)I"⟩, 28), (⟨"BoundWrightModel", "code", "(I)I"⟩, 28), (⟨"BoundWrightModel", "membersOf", "(I)I"⟩, 28), (⟨"BoundWrightModel", "bearer", "(I)I"⟩, 28), (⟨"BoundWrightModel", "joinNow", "(IIZ)I"⟩, 28), (⟨"BoundWrightModel", "joinClasses", "(IIZ)I"⟩, 28), (⟨"BoundWrightModel", "isOfBoth", "(III)Z"⟩, 28), (⟨"BoundWrightModel", "joinArguments", "(IIIZ)I"⟩, 28), (⟨"BoundWrightModel", "areAllNow", "(II)Z"⟩, 28), (⟨"BoundWrightModel", "isCovered", "(III)Z"⟩, 28), (⟨"BoundWrightModel", "cannotBe", "(II)Z"⟩, 28), (⟨"BoundWrightModel", "isClosedArgument", "(I)Z"⟩, 28), (⟨"BoundWrightModel", "isFormal", "(I)Z"⟩, 28), (⟨"BoundWrightModel", "canBe", "(II)Z"⟩, 28), (⟨"BoundWrightModel", "ofMethodNow", "(II)I"⟩, 28)]
theorem lw_r8 : ∀ q ∈ lw_privs_8, lw_okq q := List.forall_mem_cons.mpr ⟨lw_p112, List.forall_mem_cons.mpr ⟨lw_p113, List.forall_mem_cons.mpr ⟨lw_p114, List.forall_mem_cons.mpr ⟨lw_p115, List.forall_mem_cons.mpr ⟨lw_p116, List.forall_mem_cons.mpr ⟨lw_p117, List.forall_mem_cons.mpr ⟨lw_p118, List.forall_mem_cons.mpr ⟨lw_p119, List.forall_mem_cons.mpr ⟨lw_p120, List.forall_mem_cons.mpr ⟨lw_p121, List.forall_mem_cons.mpr ⟨lw_p122, List.forall_mem_cons.mpr ⟨lw_p123, List.forall_mem_cons.mpr ⟨lw_p124, List.forall_mem_cons.mpr ⟨lw_p125, List.forall_mem_cons.mpr ⟨lw_p126, List.forall_mem_cons.mpr ⟨lw_p127, fun _ h => absurd h List.not_mem_nil⟩⟩⟩⟩⟩⟩⟩⟩⟩⟩⟩⟩⟩⟩⟩⟩
theorem lw_p128 : lw_okq (⟨"BoundWrightModel", "membersNow", "(II)I"⟩, 28) := ⟨⟨by decide +kernel, by decide +kernel⟩, List.mem_of_getElem? (i := 1109) (by decide +kernel), List.mem_of_getElem? (i := 1545) (by decide +kernel), List.mem_of_getElem? (i := 1546) (by decide +kernel)⟩
theorem lw_p129 : lw_okq (⟨"BoundWrightModel", "choose", "(I)I"⟩, 28) := ⟨⟨by decide +kernel, by decide +kernel⟩, List.mem_of_getElem? (i := 1109) (by decide +kernel), List.mem_of_getElem? (i := 1553) (by decide +kernel), List.mem_of_getElem? (i := 1554) (by decide +kernel)⟩
theorem lw_p130 : lw_okq (⟨"BoundWrightModel", "standing", "(I)I"⟩, 28) := ⟨⟨by decide +kernel, by decide +kernel⟩, List.mem_of_getElem? (i := 1109) (by decide +kernel), List.mem_of_getElem? (i := 1557) (by decide +kernel), List.mem_of_getElem? (i := 1558) (by decide +kernel)⟩
theorem lw_p131 : lw_okq (⟨"BoundWrightModel", "formalAt", "(II)I"⟩, 28) := ⟨⟨by decide +kernel, by decide +kernel⟩, List.mem_of_getElem? (i := 1109) (by decide +kernel), List.mem_of_getElem? (i := 1561) (by decide +kernel), List.mem_of_getElem? (i := 1562) (by decide +kernel)⟩
theorem lw_p132 : lw_okq (⟨"BoundWrightModel", "stand", "(II)I"⟩, 28) := ⟨⟨by decide +kernel, by decide +kernel⟩, List.mem_of_getElem? (i := 1109) (by decide +kernel), List.mem_of_getElem? (i := 1565) (by decide +kernel), List.mem_of_getElem? (i := 1566) (by decide +kernel)⟩
theorem lw_p133 : lw_okq (⟨"BoundWrightModel", "fits", "(II)Z"⟩, 28) := ⟨⟨by decide +kernel, by decide +kernel⟩, List.mem_of_getElem? (i := 1109) (by decide +kernel), List.mem_of_getElem? (i := 1569) (by decide +kernel), List.mem_of_getElem? (i := 1570) (by decide +kernel)⟩
theorem lw_p134 : lw_okq (⟨"BoundWrightModel", "isSpecial", "(II)Z"⟩, 28) := ⟨⟨by decide +kernel, by decide +kernel⟩, List.mem_of_getElem? (i := 1109) (by decide +kernel), List.mem_of_getElem? (i := 1573) (by decide +kernel), List.mem_of_getElem? (i := 1574) (by decide +kernel)⟩
theorem lw_p135 : lw_okq (⟨"BoundWrightModel", "manyNow", "(I)I"⟩, 28) := ⟨⟨by decide +kernel, by decide +kernel⟩, List.mem_of_getElem? (i := 1109) (by decide +kernel), List.mem_of_getElem? (i := 1585) (by decide +kernel), List.mem_of_getElem? (i := 1586) (by decide +kernel)⟩
theorem lw_p136 : lw_okq (⟨"BoundWrightModel", "pairs", "()I"⟩, 28) := ⟨⟨by decide +kernel, by decide +kernel⟩, List.mem_of_getElem? (i := 1109) (by decide +kernel), List.mem_of_getElem? (i := 1589) (by decide +kernel), List.mem_of_getElem? (i := 1590) (by decide +kernel)⟩
theorem lw_p137 : lw_okq (⟨"BoundWrightModel", "withoutNow", "(I)I"⟩, 28) := ⟨⟨by decide +kernel, by decide +kernel⟩, List.mem_of_getElem? (i := 1109) (by decide +kernel), List.mem_of_getElem? (i := 1605) (by decide +kernel), List.mem_of_getElem? (i := 1606) (by decide +kernel)⟩
def lw_privs_9 : List (MethodName × Nat) := [(⟨"BoundWrightModel", "membersNow", "(II)I"⟩, 28), (⟨"BoundWrightModel", "choose", "(I)I"⟩, 28), (⟨"BoundWrightModel", "standing", "(I)I"⟩, 28), (⟨"BoundWrightModel", "formalAt", "(II)I"⟩, 28), (⟨"BoundWrightModel", "stand", "(II)I"⟩, 28), (⟨"BoundWrightModel", "fits", "(II)Z"⟩, 28), (⟨"BoundWrightModel", "isSpecial", "(II)Z"⟩, 28), (⟨"BoundWrightModel", "manyNow", "(I)I"⟩, 28), (⟨"BoundWrightModel", "pairs", "()I"⟩, 28), (⟨"BoundWrightModel", "withoutNow", "(I)I"⟩, 28)]
theorem lw_r9 : ∀ q ∈ lw_privs_9, lw_okq q := List.forall_mem_cons.mpr ⟨lw_p128, List.forall_mem_cons.mpr ⟨lw_p129, List.forall_mem_cons.mpr ⟨lw_p130, List.forall_mem_cons.mpr ⟨lw_p131, List.forall_mem_cons.mpr ⟨lw_p132, List.forall_mem_cons.mpr ⟨lw_p133, List.forall_mem_cons.mpr ⟨lw_p134, List.forall_mem_cons.mpr ⟨lw_p135, List.forall_mem_cons.mpr ⟨lw_p136, List.forall_mem_cons.mpr ⟨lw_p137, fun _ h => absurd h List.not_mem_nil⟩⟩⟩⟩⟩⟩⟩⟩⟩⟩
def lw_privs : List (MethodName × Nat) := lw_privs_1 ++ (lw_privs_2 ++ (lw_privs_3 ++ (lw_privs_4 ++ (lw_privs_5 ++ (lw_privs_6 ++ (lw_privs_7 ++ (lw_privs_8 ++ (lw_privs_9))))))))
def lw_tbl : List Cond := k2_sels lw_privs ++ tables_1
theorem lw_privs_ok : ∀ q ∈ lw_privs, lw_okq q := by
  show ∀ q ∈ lw_privs_1 ++ (lw_privs_2 ++ (lw_privs_3 ++ (lw_privs_4 ++ (lw_privs_5 ++ (lw_privs_6 ++ (lw_privs_7 ++ (lw_privs_8 ++ (lw_privs_9)))))))), lw_okq q
  exact List.forall_mem_append.mpr ⟨lw_r1, List.forall_mem_append.mpr ⟨lw_r2, List.forall_mem_append.mpr ⟨lw_r3, List.forall_mem_append.mpr ⟨lw_r4, List.forall_mem_append.mpr ⟨lw_r5, List.forall_mem_append.mpr ⟨lw_r6, List.forall_mem_append.mpr ⟨lw_r7, List.forall_mem_append.mpr ⟨lw_r8, lw_r9⟩⟩⟩⟩⟩⟩⟩⟩
/-- the streams that the claim lets the run draw from -/
abbrev lw_cs : List Choice := [Jvm.Choice.named "NaN.bits"]
theorem lw_bits : nanBits ∈ lw_cs := by first | decide | exact List.mem_cons_self | simp [lw_cs, nanBits]
-- ===== end of PART A; then your names; then what follows =====
end
section
/-! ===== BEGIN words of one list among another's, by their places ===== -/
theorem goodIn_r {big : List Cond} (ws : List Cond) (ps : List Nat) (hp : ws = ps.filterMap (fun i => big[i]?)) (h : ws.all goodWord = true) : GoodIn big ws := by
  intro w hw
  have h1 := List.all_eq_true.mp h w hw
  rw [hp] at hw
  obtain ⟨i, -, hi⟩ := List.mem_filterMap.mp hw
  have hm : w ∈ big := by first | exact List.mem_of_getElem? hi | exact List.getElem?_mem hi
  exact ⟨hm, good_of_word h1⟩
theorem goodIn_app {big a b : List Cond} (ha : GoodIn big a) (hb : GoodIn big b) : GoodIn big (a ++ b) := fun w h => (List.mem_append.mp h).elim (ha w) (hb w)
theorem goodIn_ca {big a b : List Cond} {c : Cond} (ha : GoodIn big (c :: a)) (hb : GoodIn big b) : GoodIn big (c :: (a ++ b)) := fun w h => (List.mem_cons.mp h).elim (fun e => ha w (List.mem_cons.mpr (Or.inl e))) (fun h => (List.mem_append.mp h).elim (fun h => ha w (List.mem_cons.mpr (Or.inr h))) (hb w))
theorem goodIn_sub {big ws : List Cond} (hm : ∀ w ∈ ws, w ∈ big) (h : ws.all goodWord = true) : GoodIn big ws := fun w hw => ⟨hm w hw, good_of_word (List.all_eq_true.mp h w hw)⟩
/-! ===== END ===== -/
/-! ===== BEGIN exceptions that leave a method, and their catching by the caller (launches without stack traces) ===== -/
section VXA
/-! The laws vx_back, vx_callV, vx_callS, vx_callSW, vx_throw0, vx_throwS follow proofs of the library, with one case more: JvmDerived/Free/Laws.lean (Back.of_free), Shelf42/LK1.lean (callV, callS), Shelf/KitTraced.lean (throwNew0V, throwNewS). -/
/-- where a method has thrown q: the class by its name, the cell, what was written, the world -/
def vx_T (XC : String → State → State → Prop) (st : State) (q : Addr) (t : State) (mc ms : Nat) (free : Addr → Prop) : Prop :=
  ∃ (E : String) (ce : Cell) (L : List Loc), XC E st t ∧ t.heap[q]? = some ce ∧ ce.vm = .none ∧ st.vm.findClass E = some ce.cls ∧ st.WarmedH t.vm ∧ st.sameButNew ({ t with vm := st.vm } : State) L mc ms ∧ ∀ z ∈ L, free z.base
def vx_Q (Qc : Array Value → State → Outcome → State → Prop) (XC : String → State → State → Prop) (mc ms : Nat) (free : Addr → Prop) : Array Value → State → Outcome → State → Prop := fun a st o t =>
  (Qc a st o t ∧ ∃ L, FrameEnd st o t L mc ms ∧ ∀ q ∈ L, free q.base) ∨ ∃ q, o = .threw q ∧ vx_T XC st q t mc ms free
/-- a callee that returns or throws -/
def vx_Met (l : Launch) (y : MethodName) (ws : List Cond) (rm : Room) (Pc : Array Value → State → Prop) (Qc : Array Value → State → Outcome → State → Prop) (XC : String → State → State → Prop) (mc ms : Nat) (free : Addr → Prop) : Prop :=
  MetFree l y (headSpec ws rm) Pc (fun _ _ _ _ _ => True) (vx_Q Qc XC mc ms free)
def vx_Post (XC : String → State → State → Prop) (mc ms : Nat) (free : Addr → Prop) : Pt → Array Value → Addr → Pt → Prop := fun A a q B =>
  ∃ (g : JFrame) (mk : MethodId) (t : State) (L : List Loc) (E : String) (ce : Cell), B.U.heap = t.heap ∧ B.U.vm = t.vm ∧ XC E (A.U.calling g mk a) t ∧ t.heap[q]? = some ce ∧ ce.vm = .none ∧ A.U.vm.findClass E = some ce.cls ∧ B.locs = A.locs ++ L ∧ (∀ z ∈ L, free z.base) ∧ B.cells = A.cells + mc ∧ B.slots = A.slots + ms
def vx_Back (l : Launch) (R : Room) (p : Program) (e : Env) (below : List Frame) (s : State) (sargs : Array Value) (y : MethodName) (len W9 : Nat)
    (Pre : Pt → Array Value → Prop) (Post : Pt → Array Value → Option Value → Pt → Prop) (PostX : Pt → Array Value → Addr → Pt → Prop) : Prop :=
  ∀ (m : MethodId) (meth : Method) (c : Code) (A : Pt) (g : JFrame) (ig : Instr) (mk : MethodId) (a : Array Value),
    Stand p l e R s m sargs below meth c A.U A.locs A.cells A.slots → g.method = m → g.locals.size = c.maxLocals → decode c.code g.pc = .ok (ig, len) →
    2 * g.monitorRoom + (g.stack.map fun v => v.category).sum ≤ W9 → A.U.methodNamed? y = some mk → Pre A a →
    (∃ (v : Option Value) (B : Pt), Stand p l e R s m sargs below meth c B.U B.locs B.cells B.slots ∧ Post A a v B ∧
      Steps p.tables e below (doInvoke e (A.U.setTop g) [] mk a).1 (B.U.setTop { g with pc := g.pc + len, stack := v.toList ++ g.stack })) ∨
    (∃ (q : Addr) (B : Pt), Stand p l e R s m sargs below meth c B.U B.locs B.cells B.slots ∧ PostX A a q B ∧
      Steps p.tables e below (doInvoke e (A.U.setTop g) [] mk a).1 ((B.U.setTop g).pushFrame (.throwing q)))
section Payer
variable {l : Launch} {R : Room} {p : Program} {e : Env} {below : List Frame} {s : State} {sargs : Array Value} {y : MethodName} {len W9 : Nat}
theorem vx_back {ws : List Cond} {rm : Room} {Pc : Array Value → State → Prop} {Qc : Array Value → State → Outcome → State → Prop} {XC : String → State → State → Prop} {mc ms : Nat} {free : Addr → Prop} {bytes : ByteArray} {maxL : Nat} {ret : Option FieldType}
    (hM : vx_Met l y ws rm Pc Qc XC mc ms free) (hblind : FrameBlind Pc) (hrc : rm.cells = mc) (hrs : rm.slots = ms)
    (hframes : rm.frames + 1 ≤ R.frames) (hlocals : W9 + (maxL + 11) + rm.locals ≤ R.locals)
    (hws : ∀ w ∈ ws, ∀ a' U, s.WarmedH U.vm → w.before a' U = true) (hcode : Cond.code y bytes maxL ret ∈ ws) (hinit : ∀ a' U, s.WarmedH U.vm → (Cond.initialized y.cls).before a' U = true) :
    vx_Back l R p e below s sargs y len W9 (PreOf R mc ms Pc) (PostOf Qc mc ms free) (vx_Post XC mc ms free) := by
  intro m meth c A g ig mk a X hg hsize hdg hW hn hp
  have h1 : (headSpec ws rm).pre.before a A.U = true := atoms_intro fun w hw => hws w hw _ _ X.warmed
  have h2 : (Cond.code y bytes maxL ret).before a A.U = true := hws _ hcode _ _ X.warmed
  have h3 : (Cond.initialized y.cls).before a A.U = true := hinit _ _ X.warmed
  have h4 : A.cells + (headSpec ws rm).room.cells ≤ R.cells := by rw [show (headSpec ws rm).room.cells = mc from hrc]; exact hp.1
  have h5 : A.slots + (headSpec ws rm).room.slots ≤ R.slots := by rw [show (headSpec ws rm).room.slots = ms from hrs]; exact hp.2.1
  have hPc : Pc a (A.U.calling g mk a) := hblind _ _ _ _ hp.2.2
  obtain ⟨U, Ls, c0, s0⟩ := A
  dsimp only [Pt.U, Pt.locs, Pt.cells, Pt.slots] at h1 h2 h3 h4 h5 X hn hPc ⊢
  obtain ⟨methY, cY, hmY, hcY, -, hlY, -, -, -, -⟩ := Cond.code_spec hn h2
  obtain ⟨kY, hkY, -⟩ := className_of_methodNamed hn
  have hinitY : kY.init = .initialized := Cond.initialized_spec (findClass_of_methodNamed hn) hkY h3
  have h : At U g.method c below := by rw [hg]; exact X.here
  have hlocals9 : W9 + (maxL + 11) + (headSpec ws rm).room.locals ≤ R.locals := hlocals
  have happ : (headSpec ws rm).appliesLoose y e.platform (U.calling g mk a) = true :=
    Spec.appliesLoose_calling (g := g) h hdg hn hkY hinitY
      (X.room_calling (g := g) (R' := (headSpec ws rm).room) hsize hmY hcY hframes (by rw [hlY]; omega) h4 h5) h1
  obtain ⟨mid, hmid⟩ := h.above
  have hfr : (U.setTop g).frames = (.java g :: mid) ++ below := by rw [State.frames_setTop' g h.top, hmid]; rfl
  obtain ⟨o, s₂, hsteps, -, hend, hq⟩ := Steps.callFree hM p X.admits X.cas X.clock (acts := []) hfr happ hPc trivial
  have hq' : vx_Q Qc XC mc ms free a (U.calling g mk a) o s₂ := hq
  rw [State.frames_setTop' g h.top] at hend
  obtain ⟨g₀, hg0⟩ := Option.isSome_iff_exists.mp h.top
  obtain ⟨r, hr⟩ := State.topJava?_eq_some.mp hg0
  have hr' : (({ U with heap := s₂.heap, slotsUsed := s₂.slotsUsed } : State).setVm s₂.vm).frames = .java g₀ :: r := hr
  rcases hq' with ⟨hqc, L, hfe, hL⟩ | ⟨q, rfl, E, ce, L, hx, hce, hcv, hcl, hW₂, hsm, hL⟩
  · obtain ⟨⟨v, rfl⟩, hW₂, e2, q2, q3, q4, q5, q6⟩ := id hfe
    have e3 : s₂ = ({ (U.calling g mk a).setFrames s₂.frames with heap := s₂.heap, slotsUsed := s₂.slotsUsed } : State).setVm s₂.vm := by
      have : s₂ = ({ s₂ with vm := (U.calling g mk a).vm } : State).setVm s₂.vm := rfl
      rw [e2] at this
      exact this
    obtain ⟨c₂, i₂, len₂, hc₂, hd₂, hf₂⟩ := hend
    have hW' : U.WarmedH s₂.vm := hW₂
    have hcc : c₂ = c := by
      have h1 : s₂.code? g.method = U.code? g.method := by
        rw [State.code?_eq, State.code?_eq, hW'.alike.method?]
      exact Option.some.inj (hc₂.symm.trans (h1.trans h.code))
    subst hcc
    have hlen : len₂ = len := by rw [hdg] at hd₂; cases hd₂; rfl
    subst hlen
    have hs₂ : s₂ = (({ U with heap := s₂.heap, slotsUsed := s₂.slotsUsed } : State).setVm s₂.vm).setTop { g with pc := g.pc + len₂, stack := v.toList ++ g.stack } := by
      refine e3.trans ?_
      rw [hf₂, State.calling_eq h.top, State.setFrames_setFrames, State.setTop_of_frames _ hr', hr]
      rfl
    have hsame : U.sameButNew ({ U with heap := s₂.heap, slotsUsed := s₂.slotsUsed } : State) L mc ms := by
      refine ⟨?_, q2, q3, q4, q5, q6⟩
      obtain ⟨t, ht, -⟩ := State.frames_cons hr
      show ({ U with heap := s₂.heap, slotsUsed := s₂.slotsUsed } : State) = { U.setFrames U.frames with heap := s₂.heap, slotsUsed := s₂.slotsUsed }
      rw [State.setFrames_self ht]
    subst hg
    refine Or.inl ⟨v, ⟨(({ U with heap := s₂.heap, slotsUsed := s₂.slotsUsed } : State).setVm s₂.vm), Ls ++ L, c0 + mc, s0 + ms⟩,
      ⟨X.admits, X.cas, X.clock, X.frames, X.room, X.hears, X.method, X.code, (X.here.setHeapUsed s₂.heap s₂.slotsUsed).setVm hW'.alike, X.tail, State.WarmedH.trans X.warmed hW', X.limits, X.bytes, X.same.trans (hsame.setVm s.vm)⟩,
      ⟨g, mk, s₂, L, rfl, rfl, hqc, rfl, hL, rfl, rfl⟩, ?_⟩
    show Steps p.tables e below _ ((({ U with heap := s₂.heap, slotsUsed := s₂.slotsUsed } : State).setVm s₂.vm).setTop { g with pc := g.pc + len₂, stack := v.toList ++ g.stack })
    rw [← hs₂]
    exact hsteps
  · obtain ⟨e2, q2, q3, q4, q5, q6⟩ := id hsm
    have e3 : s₂ = ({ (U.calling g mk a).setFrames s₂.frames with heap := s₂.heap, slotsUsed := s₂.slotsUsed } : State).setVm s₂.vm := by
      have : s₂ = ({ s₂ with vm := (U.calling g mk a).vm } : State).setVm s₂.vm := rfl
      rw [e2] at this
      exact this
    have hf₂ : s₂.frames = .throwing q :: .java g :: U.frames.tail := hend
    have hW' : U.WarmedH s₂.vm := hW₂
    have hs₂ : s₂ = ((({ U with heap := s₂.heap, slotsUsed := s₂.slotsUsed } : State).setVm s₂.vm).setTop g).pushFrame (.throwing q) := by
      refine e3.trans ?_
      rw [hf₂, State.calling_eq h.top, State.setFrames_setFrames, State.pushFrame, State.frames_setTop _ hr', State.setTop_of_frames _ hr', State.setFrames_setFrames, hr]
      rfl
    have hsame : U.sameButNew ({ U with heap := s₂.heap, slotsUsed := s₂.slotsUsed } : State) L mc ms := by
      refine ⟨?_, q2, q3, q4, q5, q6⟩
      obtain ⟨t, ht, -⟩ := State.frames_cons hr
      show ({ U with heap := s₂.heap, slotsUsed := s₂.slotsUsed } : State) = { U.setFrames U.frames with heap := s₂.heap, slotsUsed := s₂.slotsUsed }
      rw [State.setFrames_self ht]
    subst hg
    refine Or.inr ⟨q, ⟨(({ U with heap := s₂.heap, slotsUsed := s₂.slotsUsed } : State).setVm s₂.vm), Ls ++ L, c0 + mc, s0 + ms⟩,
      ⟨X.admits, X.cas, X.clock, X.frames, X.room, X.hears, X.method, X.code, (X.here.setHeapUsed s₂.heap s₂.slotsUsed).setVm hW'.alike, X.tail, State.WarmedH.trans X.warmed hW', X.limits, X.bytes, X.same.trans (hsame.setVm s.vm)⟩,
      ⟨g, mk, s₂, L, E, ce, rfl, rfl, hx, hce, hcv, hcl, rfl, hL, rfl, rfl⟩, ?_⟩
    show Steps p.tables e below _ (((({ U with heap := s₂.heap, slotsUsed := s₂.slotsUsed } : State).setVm s₂.vm).setTop g).pushFrame (.throwing q))
    rw [← hs₂]
    exact hsteps
end Payer
section Calls
variable {p : Program} {l : Launch} {e : Env} {R : Room} {s : State} {m : MethodId} {args : Array Value} {below : List Frame} {meth : Method} {c : Code} {T : State} {locs : List Loc} {cells slots : Nat}
theorem vx_callV (X : Stand p l e R s m args below meth c T locs cells slots) (hexec : p.tables.exec = Jvm.exec) {own C : String} {index : Nat} {y : MethodName} {bytes : ByteArray} {maxL : Nat} {ret : Option FieldType}
    (hown : s.vm.findClass own = some m.cls) (hlink : (Cond.methodLink own index y).before args s = true) (hinst : (Cond.instanceMethod y).before args s = true) (hsel : (Cond.selects C y y).before args s = true)
    (hcode : (Cond.code y bytes maxL ret).before args s = true) (hy : y.cls ≠ "java/lang/invoke/MethodHandle" ∧ y.cls ≠ "java/lang/invoke/VarHandle")
    {W9 : Nat} {Pre : Pt → Array Value → Prop} {Post : Pt → Array Value → Option Value → Pt → Prop} {PostX : Pt → Array Value → Addr → Pt → Prop} (hK : vx_Back l R p e below s args y 3 W9 Pre Post PostX)
    {b : Addr} {cellB : Cell} (hcell : T.heap[b]? = some cellB) (hobj : cellB.vm.isStatics = false) (hcls : s.vm.findClass C = some cellB.cls)
    {g : JFrame} (hg : g.method = m) (hsize : g.locals.size = c.maxLocals) {argsL rest : List Value} (hlen : ∀ sig, parseMethodDescriptor y.desc = some sig → argsL.length = sig.parameters.length)
    (hstack : g.stack = argsL.reverse ++ .ref b :: rest) (hW : 2 * g.monitorRoom + (rest.map fun v => v.category).sum ≤ W9) (hdg : decode c.code g.pc = .ok (.invokevirtual index, 3))
    (hpre : ∀ vm₁, s.WarmedH vm₁ → Pre ⟨T.setVm vm₁, locs, cells, slots⟩ (Value.ref b :: argsL).toArray) :
    (∃ (v : Option Value) (vm₁ : Vm) (B : Pt), s.WarmedH vm₁ ∧ Stand p l e R s m args below meth c B.U B.locs B.cells B.slots ∧ Post ⟨T.setVm vm₁, locs, cells, slots⟩ (Value.ref b :: argsL).toArray v B ∧
      ∀ target, Steps p.tables e below (B.U.setTop { g with pc := g.pc + 3, stack := v.toList ++ rest }) target → Steps p.tables e below (T.setTop g) target) ∨
    (∃ (q : Addr) (vm₁ : Vm) (B : Pt), s.WarmedH vm₁ ∧ Stand p l e R s m args below meth c B.U B.locs B.cells B.slots ∧ PostX ⟨T.setVm vm₁, locs, cells, slots⟩ (Value.ref b :: argsL).toArray q B ∧
      Steps p.tables e below (T.setTop g) ((B.U.setTop { g with stack := rest }).pushFrame (.throwing q))) := by
  obtain ⟨mk, methM, hnamed, hmethM, hstM, habM⟩ := Cond.instanceMethod_spec hinst
  obtain ⟨methM', cM, hmethM', -, -, -, -, -, -, hsigM⟩ := Cond.code_spec hnamed hcode
  cases hmethM.symm.trans hmethM'
  obtain ⟨c2, r2, m2, q1, q2, q3, q4, kP, hkP, hkPi⟩ := Cond.selects_spec hsel
  cases hcls.symm.trans q1
  cases (State.methodFound?_of_named hnamed hy).symm.trans q2
  cases hnamed.symm.trans q3
  have hselP : selectMethod e.platform s.vm cellB.cls mk = .method mk := by rw [Launch.admits_selectMethod X.admits]; exact q4
  obtain ⟨vm₁, X₁, hstep₁⟩ := X.invokevirtual hexec hown hlink hnamed hmethM hstM hkP hkPi hy (a := b) (cell := cellB) hcell
    (fun z h => by rw [h] at hobj; cases hobj) hselP hmethM habM hkP hkPi (g := g) hg (argsL := argsL) (rest := rest) (hlen _ hsigM) hstack hdg
  rcases hK m meth c ⟨T.setVm vm₁, locs, cells, slots⟩ { g with stack := rest } (.invokevirtual index) mk (Value.ref b :: argsL).toArray X₁ hg hsize hdg hW (X₁.named hnamed) (hpre vm₁ X₁.warmed) with ⟨v, B, X', hpost, hsteps⟩ | ⟨q, B, X', hpost, hsteps⟩
  · exact Or.inl ⟨v, vm₁, B, X₁.warmed, X', hpost, fun target h => hstep₁ _ fun acts => by rw [doInvoke_state]; exact hsteps.trans h⟩
  · exact Or.inr ⟨q, vm₁, B, X₁.warmed, X', hpost, hstep₁ _ fun acts => by rw [doInvoke_state]; exact hsteps⟩
theorem vx_callS (X : Stand p l e R s m args below meth c T locs cells slots) (hexec : p.tables.exec = Jvm.exec) {own : String} {index : Nat} {y : MethodName} {bytes : ByteArray} {maxL : Nat} {ret : Option FieldType}
    (hown : s.vm.findClass own = some m.cls) (hlink : (Cond.methodLink own index y).before args s = true) (hstat : (Cond.static y).before args s = true) (hinit : (Cond.initialized y.cls).before args s = true)
    (hcode : (Cond.code y bytes maxL ret).before args s = true) (hy : y.cls ≠ "java/lang/invoke/MethodHandle" ∧ y.cls ≠ "java/lang/invoke/VarHandle")
    {W9 : Nat} {Pre : Pt → Array Value → Prop} {Post : Pt → Array Value → Option Value → Pt → Prop} {PostX : Pt → Array Value → Addr → Pt → Prop} (hK : vx_Back l R p e below s args y 3 W9 Pre Post PostX)
    {g : JFrame} (hg : g.method = m) (hsize : g.locals.size = c.maxLocals) {argsL rest : List Value} (hlen : ∀ sig, parseMethodDescriptor y.desc = some sig → argsL.length = sig.parameters.length)
    (hstack : g.stack = argsL.reverse ++ rest) (hW : 2 * g.monitorRoom + (rest.map fun v => v.category).sum ≤ W9) (hdg : decode c.code g.pc = .ok (.invokestatic index, 3))
    (hpre : ∀ vm₁, s.WarmedH vm₁ → Pre ⟨T.setVm vm₁, locs, cells, slots⟩ argsL.toArray) :
    (∃ (v : Option Value) (vm₁ : Vm) (B : Pt), s.WarmedH vm₁ ∧ Stand p l e R s m args below meth c B.U B.locs B.cells B.slots ∧ Post ⟨T.setVm vm₁, locs, cells, slots⟩ argsL.toArray v B ∧
      ∀ target, Steps p.tables e below (B.U.setTop { g with pc := g.pc + 3, stack := v.toList ++ rest }) target → Steps p.tables e below (T.setTop g) target) ∨
    (∃ (q : Addr) (vm₁ : Vm) (B : Pt), s.WarmedH vm₁ ∧ Stand p l e R s m args below meth c B.U B.locs B.cells B.slots ∧ PostX ⟨T.setVm vm₁, locs, cells, slots⟩ argsL.toArray q B ∧
      Steps p.tables e below (T.setTop g) ((B.U.setTop { g with stack := rest }).pushFrame (.throwing q))) := by
  obtain ⟨mk, hnamed⟩ := Cond.code_named hcode
  obtain ⟨methM, cM, hmethM, -, -, -, -, -, -, hsigM⟩ := Cond.code_spec hnamed hcode
  have hstatic : methM.isStatic = true := Cond.static_spec hnamed hmethM hstat
  obtain ⟨kP, hkP, -⟩ := className_of_methodNamed hnamed
  have hinitP : kP.init = .initialized := Cond.initialized_spec (findClass_of_methodNamed hnamed) hkP hinit
  obtain ⟨vm₁, X₁, hstep₁⟩ := X.invokestatic hexec hown hlink hnamed hmethM hstatic hkP hinitP hy (g := g) hg (argsL := argsL) (rest := rest) (hlen _ hsigM) hstack hdg
  rcases hK m meth c ⟨T.setVm vm₁, locs, cells, slots⟩ { g with stack := rest } (.invokestatic index) mk argsL.toArray X₁ hg hsize hdg hW (X₁.named hnamed) (hpre vm₁ X₁.warmed) with ⟨v, B, X', hpost, hsteps⟩ | ⟨q, B, X', hpost, hsteps⟩
  · exact Or.inl ⟨v, vm₁, B, X₁.warmed, X', hpost, fun target h => hstep₁ _ fun acts => by rw [doInvoke_state]; exact hsteps.trans h⟩
  · exact Or.inr ⟨q, vm₁, B, X₁.warmed, X', hpost, hstep₁ _ fun acts => by rw [doInvoke_state]; exact hsteps⟩
end Calls
theorem vx_cls {s : State} {T : State} {vm₁ : Vm} {E : String} {k : ClassId} (hW : s.WarmedH vm₁) (h : (T.setVm vm₁).vm.findClass E = some k) : s.vm.findClass E = some k := by
  have h1 : vm₁.findClass E = some k := h
  rw [hW.alike.findClass] at h1
  exact h1
/-- the method's frame g, with q thrown over it -/
def vx_W (p : Program) (l : Launch) (e : Env) (R : Room) (s : State) (m : MethodId) (args : Array Value) (below : List Frame) (meth : Method) (c : Code) (H : Heap) (locs : List Loc) (cells slots : Nat) (Q : State → Prop) (g : JFrame) (q : Addr) : Prop :=
  ∀ T : State, T.heap = H → Stand p l e R s m args below meth c T locs cells slots → ∃ t, Steps p.tables e below ((T.setTop g).pushFrame (.throwing q)) t ∧ Q t
def vx_Run (p : Program) (l : Launch) (e : Env) (R : Room) (s : State) (m : MethodId) (args : Array Value) (below : List Frame) (meth : Method) (c : Code) (H : Heap) (locs : List Loc) (cells slots mc ms : Nat) (g : JFrame) (rest : List Value) (Qa : State → Outcome → State → Prop) (XC : String → State → State → Prop) (free : Addr → Prop) : Prop :=
  ∀ T : State, T.heap = H → Stand p l e R s m args below meth c T locs cells slots →
    (∃ (v : Option Value) (st₀ t T' : State) (L : List Loc), st₀.heap = H ∧ Stand p l e R s m args below meth c T' (locs ++ L) (cells + mc) (slots + ms) ∧ (∀ q ∈ L, free q.base) ∧ T'.heap = t.heap ∧ T'.vm = t.vm ∧ Qa st₀ (.returned v) t ∧
      Goes p e below T g T' { g with pc := g.pc + 3, stack := v.toList ++ rest }) ∨
    (∃ (q : Addr) (st₀ t T' : State) (L : List Loc) (E : String) (ce : Cell), st₀.heap = H ∧ Stand p l e R s m args below meth c T' (locs ++ L) (cells + mc) (slots + ms) ∧ (∀ z ∈ L, free z.base) ∧ T'.heap = t.heap ∧ T'.vm = t.vm ∧ XC E st₀ t ∧ t.heap[q]? = some ce ∧ ce.vm = .none ∧ s.vm.findClass E = some ce.cls ∧
      Steps p.tables e below (T.setTop g) ((T'.setTop { g with stack := rest }).pushFrame (.throwing q)))
def vx_X {S : Type} (px : S → Prop) (B : String → S → State → Prop) (A : Nat → Prop) : String → State → State → Prop := fun E st t => ∃ u : S, px u ∧ B E u t ∧ va_F A st t
section Runs
variable {p : Program} {l : Launch} {e : Env} {R : Room} {s : State} {m : MethodId} {args : Array Value} {below : List Frame} {meth : Method} {c : Code} {H : Heap} {locs : List Loc} {cells slots : Nat}
variable {y : MethodName} {bytes cc : ByteArray} {maxL nL mc ms n index : Nat} {ret : Option FieldType} {ws : List Cond} {rm : Room} {Pc : Array Value → State → Prop} {Qc : Array Value → State → Outcome → State → Prop} {XC : String → State → State → Prop} {free : Addr → Prop} {Ts : List Cond} {own C : String} {b : Addr} {As rest : List Value} {g : JFrame}
theorem vx_callBack (cb : CallB R s args own index y bytes maxL ret ws rm mc ms n) (hM : vx_Met l y ws rm Pc Qc XC mc ms free) (hbl : FrameBlind Pc) : vx_Back l R p e below s args y 3 8 (PreOf R mc ms Pc) (PostOf Qc mc ms free) (vx_Post XC mc ms free) := by
  obtain ⟨hrc, hrs, hfr, hlo, hws, hcw, -, hini, -⟩ := cb
  exact vx_back (bytes := bytes) (maxL := maxL) (ret := ret) hM hbl hrc hrs hfr hlo hws hcw (fun a' U hW => word_at hW (Or.inl (by first | rfl | simp [Cond.onTables, Cond.keeps, Cond.steady])) hini)
theorem vx_runV (S : CallFix p m c cc nL s args Ts own) (hM : vx_Met l y ws rm Pc Qc XC mc ms free) (cw : CallW R s args own C index y bytes maxL ret ws rm mc ms n) (hp : PreV s H C b Pc As)
    (hg : g.method = m) (hn : As.length = n) (hsize : g.locals.size = nL) (hstack : g.stack = As.reverse ++ .ref b :: rest) (hW : 2 * g.monitorRoom + (rest.map fun v => v.category).sum ≤ 8) (hdg : decode cc g.pc = .ok (.invokevirtual index, 3)) (hf : cells + mc ≤ R.cells ∧ slots + ms ≤ R.slots) :
    vx_Run p l e R s m args below meth c H locs cells slots mc ms g rest (Qc (Value.ref b :: As).toArray) XC free := by
  have hK : vx_Back l R p e below s args y 3 8 (PreOf R mc ms Pc) (PostOf Qc mc ms free) (vx_Post XC mc ms free) := vx_callBack cw.1 hM hp.1
  obtain ⟨⟨-, -, -, -, -, -, hcode, -, hy, hlen, hl⟩, hin, hse⟩ := cw
  obtain ⟨hx, hb, hml, ho, -⟩ := S
  obtain ⟨-, ⟨cellB, hcB, hoB, hclB⟩, hPc⟩ := hp
  intro T hT X
  rcases vx_callV X hx (C := C) (bytes := bytes) (maxL := maxL) (ret := ret) ho hl hin hse hcode hy hK (by rw [hT]; exact hcB) hoB hclB hg (hsize.trans hml.symm) (argsL := As) (rest := rest) (fun sig h => hn.trans (hlen sig h)) hstack hW (by rw [hb]; exact hdg)
    (fun vm₁ hW₁ => ⟨hf.1, hf.2, hPc (T.setVm vm₁) hT hW₁⟩) with ⟨v, vm₁, ⟨U', l2, c2, s2⟩, hW₁, X', ⟨g', mk, t, L, e1, e2, hq, h1, hL, h2, h3⟩, st⟩ | ⟨q, vm₁, ⟨U', l2, c2, s2⟩, hW₁, X', ⟨g', mk, t, L, E, ce, e1, e2, hq, hce, hcv, hcl, h1, hL, h2, h3⟩, st⟩
  · dsimp only [Pt.U, Pt.locs, Pt.cells, Pt.slots] at X' e1 e2 h1 h2 h3 st
    subst h1; subst h2; subst h3
    exact Or.inl ⟨v, (T.setVm vm₁).calling g' mk (Value.ref b :: As).toArray, t, U', L, hT, X', hL, e1, e2, hq, st⟩
  · dsimp only [Pt.U, Pt.locs, Pt.cells, Pt.slots] at X' e1 e2 h1 h2 h3 st hcl
    subst h1; subst h2; subst h3
    exact Or.inr ⟨q, (T.setVm vm₁).calling g' mk (Value.ref b :: As).toArray, t, U', L, E, ce, hT, X', hL, e1, e2, hq, hce, hcv, vx_cls hW₁ hcl, st⟩
theorem vx_runS (S : CallFix p m c cc nL s args Ts own) (hM : vx_Met l y ws rm Pc Qc XC mc ms free) (cw : CallB R s args own index y bytes maxL ret ws rm mc ms n ∧ (Cond.static y).before args s = true) (hp : PreS s H Pc As)
    (hg : g.method = m) (hn : As.length = n) (hsize : g.locals.size = nL) (hstack : g.stack = As.reverse ++ rest) (hW : 2 * g.monitorRoom + (rest.map fun v => v.category).sum ≤ 8) (hdg : decode cc g.pc = .ok (.invokestatic index, 3)) (hf : cells + mc ≤ R.cells ∧ slots + ms ≤ R.slots) :
    vx_Run p l e R s m args below meth c H locs cells slots mc ms g rest (Qc As.toArray) XC free := by
  have hK : vx_Back l R p e below s args y 3 8 (PreOf R mc ms Pc) (PostOf Qc mc ms free) (vx_Post XC mc ms free) := vx_callBack cw.1 hM hp.1
  obtain ⟨⟨-, -, -, -, -, -, hcode, hini, hy, hlen, hl⟩, hstt⟩ := cw
  obtain ⟨hx, hb, hml, ho, -⟩ := S
  intro T hT X
  rcases vx_callS X hx (bytes := bytes) (maxL := maxL) (ret := ret) ho hl hstt hini hcode hy hK hg (hsize.trans hml.symm) (argsL := As) (rest := rest) (fun sig h => hn.trans (hlen sig h)) hstack hW (by rw [hb]; exact hdg)
    (fun vm₁ hW₁ => ⟨hf.1, hf.2, hp.2 (T.setVm vm₁) hT hW₁⟩) with ⟨v, vm₁, ⟨U', l2, c2, s2⟩, hW₁, X', ⟨g', mk, t, L, e1, e2, hq, h1, hL, h2, h3⟩, st⟩ | ⟨q, vm₁, ⟨U', l2, c2, s2⟩, hW₁, X', ⟨g', mk, t, L, E, ce, e1, e2, hq, hce, hcv, hcl, h1, hL, h2, h3⟩, st⟩
  · dsimp only [Pt.U, Pt.locs, Pt.cells, Pt.slots] at X' e1 e2 h1 h2 h3 st
    subst h1; subst h2; subst h3
    exact Or.inl ⟨v, (T.setVm vm₁).calling g' mk As.toArray, t, U', L, hT, X', hL, e1, e2, hq, st⟩
  · dsimp only [Pt.U, Pt.locs, Pt.cells, Pt.slots] at X' e1 e2 h1 h2 h3 st hcl
    subst h1; subst h2; subst h3
    exact Or.inr ⟨q, (T.setVm vm₁).calling g' mk As.toArray, t, U', L, E, ce, hT, X', hL, e1, e2, hq, hce, hcv, vx_cls hW₁ hcl, st⟩
end Runs
section Rows
variable {p : Program} {l : Launch} {e : Env} {R : Room} {s : State} {m : MethodId} {args : Array Value} {below : List Frame} {meth : Method} {c : Code} {H : Heap} {locs : List Loc} {cells slots : Nat} {Q : State → Prop}
variable {mc ms : Nat} {free : Addr → Prop} {A0 A1 : Nat → Prop} {H0 : Heap} {a : Array Value} {pc : Nat} {ls : Array Slot} {st0 rest : List Value}
theorem vx_keep {st₀ t T' : State} {L : List Loc} (h0 : st₀.heap = H) (e1 : T'.heap = t.heap) (hS : va_S A0 H0 H locs) (hA : ∀ q, q < H.size → A1 q → A0 q) (hf : ∀ q, free q → A0 q) (hL : ∀ q ∈ L, free q.base) (hF : va_F A1 st₀ t) :
    H.size ≤ T'.heap.size ∧ (∀ q : Nat, q < H.size → ¬ A1 q → T'.heap[q]? = H[q]?) ∧ va_S A0 H0 T'.heap (locs ++ L) := by
  obtain ⟨hz, hk⟩ := hF
  rw [h0] at hz hk
  exact ⟨by rw [e1]; exact hz, fun q h1 h2 => by rw [e1]; exact hk q h1 h2,
    ⟨Nat.le_trans hS.1 (by rw [e1]; exact hz), fun q h1 h2 => by rw [e1, hk q (Nat.lt_of_lt_of_le h1 hS.1) (fun z => h2 (hA q (Nat.lt_of_lt_of_le h1 hS.1) z))]; exact hS.2.1 q h1 h2, fun q hq => by
      rcases List.mem_append.mp hq with h | h
      · exact hS.2.2 q h
      · exact hf _ (hL q h)⟩⟩
theorem vx_calli {S SX : Type} {post : Int32 → S → Prop} {px : SX → Prop} {B : S → State → Prop} {BX : String → SX → State → Prop} {AX : Nat → Prop} (hr : vx_Run p l e R s m args below meth c H locs cells slots mc ms (F0 m pc ls st0) rest (va_Qi post B A1 a) (vx_X px BX AX) free) (hS : va_S A0 H0 H locs) (hA : ∀ q, q < H.size → A1 q → A0 q) (hf : ∀ q, free q → A0 q) (hAX : ∀ q, q < H.size → AX q → A0 q)
    (kx : ∀ (E : String) (ce : Cell) (q9 : Addr) (u : SX) (t : State) (H1 : Heap) (locs1 : List Loc), t.heap = H1 → s.vm.Alike t.vm → px u → BX E u t → H.size ≤ H1.size → (∀ q : Nat, q < H.size → ¬ AX q → H1[q]? = H[q]?) → va_S A0 H0 H1 locs1 → H1[q9]? = some ce → ce.vm = .none → s.vm.findClass E = some ce.cls → vx_W p l e R s m args below meth c H1 locs1 (cells + mc) (slots + ms) Q (F0 m pc ls rest) q9)
    (kk : ∀ (r : Int32) (u : S) (t : State) (H1 : Heap) (locs1 : List Loc), t.heap = H1 → s.vm.Alike t.vm → post r u → B u t → H.size ≤ H1.size → (∀ q : Nat, q < H.size → ¬ A1 q → H1[q]? = H[q]?) → va_S A0 H0 H1 locs1 → W p l e R s m args below meth c H1 locs1 (cells + mc) (slots + ms) Q (F0 m (pc + 3) ls (.int r :: rest))) : W p l e R s m args below meth c H locs cells slots Q (F0 m pc ls st0) := by
  intro T hT X
  rcases hr T hT X with ⟨v, st₀, t, T', L, h0, X', hL, e1, e2, ⟨⟨r, u, hv, hp, hb⟩, hF⟩, st⟩ | ⟨q, st₀, t, T', L, E, ce, h0, X', hL, e1, e2, ⟨u, hp, hb, hF⟩, hce, hcv, hcl, st⟩
  · cases hv
    obtain ⟨k1, k2, k3⟩ := vx_keep h0 e1 hS hA hf hL hF
    obtain ⟨t2, a1, b1⟩ := kk r u t T'.heap (locs ++ L) e1.symm (by rw [← e2]; exact X'.warmed.alike) hp hb k1 k2 k3 T' rfl X'
    exact ⟨t2, st t2 a1, b1⟩
  · obtain ⟨k1, k2, k3⟩ := vx_keep h0 e1 hS hAX hf hL hF
    obtain ⟨t2, a1, b1⟩ := kx E ce q u t T'.heap (locs ++ L) e1.symm (by rw [← e2]; exact X'.warmed.alike) hp hb k1 k2 k3 (by rw [e1]; exact hce) hcv hcl T' rfl X'
    exact ⟨t2, st.trans a1, b1⟩
theorem vx_calll {S SX : Type} {post : Int64 → S → Prop} {px : SX → Prop} {B : S → State → Prop} {BX : String → SX → State → Prop} {AX : Nat → Prop} (hr : vx_Run p l e R s m args below meth c H locs cells slots mc ms (F0 m pc ls st0) rest (va_Ql post B A1 a) (vx_X px BX AX) free) (hS : va_S A0 H0 H locs) (hA : ∀ q, q < H.size → A1 q → A0 q) (hf : ∀ q, free q → A0 q) (hAX : ∀ q, q < H.size → AX q → A0 q)
    (kx : ∀ (E : String) (ce : Cell) (q9 : Addr) (u : SX) (t : State) (H1 : Heap) (locs1 : List Loc), t.heap = H1 → s.vm.Alike t.vm → px u → BX E u t → H.size ≤ H1.size → (∀ q : Nat, q < H.size → ¬ AX q → H1[q]? = H[q]?) → va_S A0 H0 H1 locs1 → H1[q9]? = some ce → ce.vm = .none → s.vm.findClass E = some ce.cls → vx_W p l e R s m args below meth c H1 locs1 (cells + mc) (slots + ms) Q (F0 m pc ls rest) q9)
    (kk : ∀ (r : Int64) (u : S) (t : State) (H1 : Heap) (locs1 : List Loc), t.heap = H1 → s.vm.Alike t.vm → post r u → B u t → H.size ≤ H1.size → (∀ q : Nat, q < H.size → ¬ A1 q → H1[q]? = H[q]?) → va_S A0 H0 H1 locs1 → W p l e R s m args below meth c H1 locs1 (cells + mc) (slots + ms) Q (F0 m (pc + 3) ls (.long r :: rest))) : W p l e R s m args below meth c H locs cells slots Q (F0 m pc ls st0) := by
  intro T hT X
  rcases hr T hT X with ⟨v, st₀, t, T', L, h0, X', hL, e1, e2, ⟨⟨r, u, hv, hp, hb⟩, hF⟩, st⟩ | ⟨q, st₀, t, T', L, E, ce, h0, X', hL, e1, e2, ⟨u, hp, hb, hF⟩, hce, hcv, hcl, st⟩
  · cases hv
    obtain ⟨k1, k2, k3⟩ := vx_keep h0 e1 hS hA hf hL hF
    obtain ⟨t2, a1, b1⟩ := kk r u t T'.heap (locs ++ L) e1.symm (by rw [← e2]; exact X'.warmed.alike) hp hb k1 k2 k3 T' rfl X'
    exact ⟨t2, st t2 a1, b1⟩
  · obtain ⟨k1, k2, k3⟩ := vx_keep h0 e1 hS hAX hf hL hF
    obtain ⟨t2, a1, b1⟩ := kx E ce q u t T'.heap (locs ++ L) e1.symm (by rw [← e2]; exact X'.warmed.alike) hp hb k1 k2 k3 (by rw [e1]; exact hce) hcv hcl T' rfl X'
    exact ⟨t2, st.trans a1, b1⟩
theorem vx_callf {S SX : Type} {post : UInt32 → S → Prop} {px : SX → Prop} {B : S → State → Prop} {BX : String → SX → State → Prop} {AX : Nat → Prop} (hr : vx_Run p l e R s m args below meth c H locs cells slots mc ms (F0 m pc ls st0) rest (va_Qf post B A1 a) (vx_X px BX AX) free) (hS : va_S A0 H0 H locs) (hA : ∀ q, q < H.size → A1 q → A0 q) (hf : ∀ q, free q → A0 q) (hAX : ∀ q, q < H.size → AX q → A0 q)
    (kx : ∀ (E : String) (ce : Cell) (q9 : Addr) (u : SX) (t : State) (H1 : Heap) (locs1 : List Loc), t.heap = H1 → s.vm.Alike t.vm → px u → BX E u t → H.size ≤ H1.size → (∀ q : Nat, q < H.size → ¬ AX q → H1[q]? = H[q]?) → va_S A0 H0 H1 locs1 → H1[q9]? = some ce → ce.vm = .none → s.vm.findClass E = some ce.cls → vx_W p l e R s m args below meth c H1 locs1 (cells + mc) (slots + ms) Q (F0 m pc ls rest) q9)
    (kk : ∀ (r : UInt32) (u : S) (t : State) (H1 : Heap) (locs1 : List Loc), t.heap = H1 → s.vm.Alike t.vm → post r u → B u t → H.size ≤ H1.size → (∀ q : Nat, q < H.size → ¬ A1 q → H1[q]? = H[q]?) → va_S A0 H0 H1 locs1 → W p l e R s m args below meth c H1 locs1 (cells + mc) (slots + ms) Q (F0 m (pc + 3) ls (.float r :: rest))) : W p l e R s m args below meth c H locs cells slots Q (F0 m pc ls st0) := by
  intro T hT X
  rcases hr T hT X with ⟨v, st₀, t, T', L, h0, X', hL, e1, e2, ⟨⟨r, u, hv, hp, hb⟩, hF⟩, st⟩ | ⟨q, st₀, t, T', L, E, ce, h0, X', hL, e1, e2, ⟨u, hp, hb, hF⟩, hce, hcv, hcl, st⟩
  · cases hv
    obtain ⟨k1, k2, k3⟩ := vx_keep h0 e1 hS hA hf hL hF
    obtain ⟨t2, a1, b1⟩ := kk r u t T'.heap (locs ++ L) e1.symm (by rw [← e2]; exact X'.warmed.alike) hp hb k1 k2 k3 T' rfl X'
    exact ⟨t2, st t2 a1, b1⟩
  · obtain ⟨k1, k2, k3⟩ := vx_keep h0 e1 hS hAX hf hL hF
    obtain ⟨t2, a1, b1⟩ := kx E ce q u t T'.heap (locs ++ L) e1.symm (by rw [← e2]; exact X'.warmed.alike) hp hb k1 k2 k3 (by rw [e1]; exact hce) hcv hcl T' rfl X'
    exact ⟨t2, st.trans a1, b1⟩
theorem vx_calld {S SX : Type} {post : UInt64 → S → Prop} {px : SX → Prop} {B : S → State → Prop} {BX : String → SX → State → Prop} {AX : Nat → Prop} (hr : vx_Run p l e R s m args below meth c H locs cells slots mc ms (F0 m pc ls st0) rest (va_Qd post B A1 a) (vx_X px BX AX) free) (hS : va_S A0 H0 H locs) (hA : ∀ q, q < H.size → A1 q → A0 q) (hf : ∀ q, free q → A0 q) (hAX : ∀ q, q < H.size → AX q → A0 q)
    (kx : ∀ (E : String) (ce : Cell) (q9 : Addr) (u : SX) (t : State) (H1 : Heap) (locs1 : List Loc), t.heap = H1 → s.vm.Alike t.vm → px u → BX E u t → H.size ≤ H1.size → (∀ q : Nat, q < H.size → ¬ AX q → H1[q]? = H[q]?) → va_S A0 H0 H1 locs1 → H1[q9]? = some ce → ce.vm = .none → s.vm.findClass E = some ce.cls → vx_W p l e R s m args below meth c H1 locs1 (cells + mc) (slots + ms) Q (F0 m pc ls rest) q9)
    (kk : ∀ (r : UInt64) (u : S) (t : State) (H1 : Heap) (locs1 : List Loc), t.heap = H1 → s.vm.Alike t.vm → post r u → B u t → H.size ≤ H1.size → (∀ q : Nat, q < H.size → ¬ A1 q → H1[q]? = H[q]?) → va_S A0 H0 H1 locs1 → W p l e R s m args below meth c H1 locs1 (cells + mc) (slots + ms) Q (F0 m (pc + 3) ls (.double r :: rest))) : W p l e R s m args below meth c H locs cells slots Q (F0 m pc ls st0) := by
  intro T hT X
  rcases hr T hT X with ⟨v, st₀, t, T', L, h0, X', hL, e1, e2, ⟨⟨r, u, hv, hp, hb⟩, hF⟩, st⟩ | ⟨q, st₀, t, T', L, E, ce, h0, X', hL, e1, e2, ⟨u, hp, hb, hF⟩, hce, hcv, hcl, st⟩
  · cases hv
    obtain ⟨k1, k2, k3⟩ := vx_keep h0 e1 hS hA hf hL hF
    obtain ⟨t2, a1, b1⟩ := kk r u t T'.heap (locs ++ L) e1.symm (by rw [← e2]; exact X'.warmed.alike) hp hb k1 k2 k3 T' rfl X'
    exact ⟨t2, st t2 a1, b1⟩
  · obtain ⟨k1, k2, k3⟩ := vx_keep h0 e1 hS hAX hf hL hF
    obtain ⟨t2, a1, b1⟩ := kx E ce q u t T'.heap (locs ++ L) e1.symm (by rw [← e2]; exact X'.warmed.alike) hp hb k1 k2 k3 (by rw [e1]; exact hce) hcv hcl T' rfl X'
    exact ⟨t2, st.trans a1, b1⟩
theorem vx_callv {S SX : Type} {post : S → Prop} {px : SX → Prop} {B : S → State → Prop} {BX : String → SX → State → Prop} {AX : Nat → Prop} (hr : vx_Run p l e R s m args below meth c H locs cells slots mc ms (F0 m pc ls st0) rest (va_Qv post B A1 a) (vx_X px BX AX) free) (hS : va_S A0 H0 H locs) (hA : ∀ q, q < H.size → A1 q → A0 q) (hf : ∀ q, free q → A0 q) (hAX : ∀ q, q < H.size → AX q → A0 q)
    (kx : ∀ (E : String) (ce : Cell) (q9 : Addr) (u : SX) (t : State) (H1 : Heap) (locs1 : List Loc), t.heap = H1 → s.vm.Alike t.vm → px u → BX E u t → H.size ≤ H1.size → (∀ q : Nat, q < H.size → ¬ AX q → H1[q]? = H[q]?) → va_S A0 H0 H1 locs1 → H1[q9]? = some ce → ce.vm = .none → s.vm.findClass E = some ce.cls → vx_W p l e R s m args below meth c H1 locs1 (cells + mc) (slots + ms) Q (F0 m pc ls rest) q9)
    (kk : ∀ (u : S) (t : State) (H1 : Heap) (locs1 : List Loc), t.heap = H1 → s.vm.Alike t.vm → post u → B u t → H.size ≤ H1.size → (∀ q : Nat, q < H.size → ¬ A1 q → H1[q]? = H[q]?) → va_S A0 H0 H1 locs1 → W p l e R s m args below meth c H1 locs1 (cells + mc) (slots + ms) Q (F0 m (pc + 3) ls (rest))) : W p l e R s m args below meth c H locs cells slots Q (F0 m pc ls st0) := by
  intro T hT X
  rcases hr T hT X with ⟨v, st₀, t, T', L, h0, X', hL, e1, e2, ⟨⟨u, hv, hp, hb⟩, hF⟩, st⟩ | ⟨q, st₀, t, T', L, E, ce, h0, X', hL, e1, e2, ⟨u, hp, hb, hF⟩, hce, hcv, hcl, st⟩
  · cases hv
    obtain ⟨k1, k2, k3⟩ := vx_keep h0 e1 hS hA hf hL hF
    obtain ⟨t2, a1, b1⟩ := kk u t T'.heap (locs ++ L) e1.symm (by rw [← e2]; exact X'.warmed.alike) hp hb k1 k2 k3 T' rfl X'
    exact ⟨t2, st t2 a1, b1⟩
  · obtain ⟨k1, k2, k3⟩ := vx_keep h0 e1 hS hAX hf hL hF
    obtain ⟨t2, a1, b1⟩ := kx E ce q u t T'.heap (locs ++ L) e1.symm (by rw [← e2]; exact X'.warmed.alike) hp hb k1 k2 k3 (by rw [e1]; exact hce) hcv hcl T' rfl X'
    exact ⟨t2, st.trans a1, b1⟩
/-- caught by the row x of this method's table; the rows ahead don't take it -/
theorem vx_catch {own name : String} {E : String} {ce : Cell} {q : Addr} (hown : s.vm.findClass own = some m.cls) (pre : List ExceptionTableEntry) (x : ExceptionTableEntry) (suf : List ExceptionTableEntry) (hsplit : c.exceptionTable.toList = pre ++ x :: suf)
    (hpass : ∀ z ∈ pre, covers z pc = false ∨ (z.catchType ≠ 0 ∧ ∃ nm : String, (Cond.classLink own z.catchType nm).before args s = true ∧ va_Nc E nm s)) (hx : covers x pc = true) (h0 : x.catchType ≠ 0)
    (hlink : (Cond.classLink own x.catchType name).before args s = true) (hcast : (Cond.castable E name).before args s = true) (hcell : H[q]? = some ce) (hv : ce.vm = .none) (hcl : s.vm.findClass E = some ce.cls)
    (kk : W p l e R s m args below meth c H locs cells slots Q (F0 m x.handlerPc ls [.ref q])) : vx_W p l e R s m args below meth c H locs cells slots Q (F0 m pc ls rest) q := by
  intro T hT X
  have hpl : e.platform.magicAccessors = ({} : Platform).magicAccessors := by rw [X.admits.platform]
  obtain ⟨c3, c4, hc3, hc4, hasg⟩ := Cond.castable_spec hcast
  cases Option.some.inj (hc3.symm.trans hcl)
  obtain ⟨c5, hc5, hcl5⟩ := Cond.classLink_spec hown hlink e.platform hpl
  cases Option.some.inj (hc4.symm.trans hc5)
  obtain ⟨vm', X', st⟩ := X.thenCaughtThrough q (g := F0 m pc ls rest) rfl (Steps.refl _) (by rw [hT]; exact hcell) (by rw [hv]; rfl) (by obtain ⟨k9, h9, -⟩ := Vm.findClass_spec hcl; exact ⟨k9, h9⟩) pre x suf hsplit
    (fun z hz => by
      rcases hpass z hz with h | ⟨hz0, nm, hl1, hn1⟩
      · exact Or.inl h
      · obtain ⟨c6, hc6, hcl6⟩ := Cond.classLink_spec hown hl1 e.platform hpl
        obtain ⟨a8, b8, h1, h2, h3⟩ := hn1
        cases Option.some.inj (h1.symm.trans hcl)
        cases Option.some.inj (h2.symm.trans hc6)
        exact Or.inr ⟨hz0, _, hcl6, h3⟩) hx (Or.inr ⟨h0, c4, hcl5, hasg⟩)
  obtain ⟨t, a1, b1⟩ := kk (T.setVm vm') hT X'
  exact ⟨t, st.trans a1, b1⟩
end Rows
section Ends
variable {p : Program} {l : Launch} {e : Env} {R : Room} {s : State} {m : MethodId} {args : Array Value} {below : List Frame} {meth : Method} {c : Code} {H : Heap} {locs : List Loc} {cells slots : Nat} {Q : State → Prop}
variable {mc ms : Nat} {free : Addr → Prop} {A0 A1 : Nat → Prop} {H0 : Heap} {a : Array Value} {ls : Array Slot} {st0 rest : List Value}
variable {Qc : Array Value → State → Outcome → State → Prop} {XC : String → State → State → Prop}
/-- what a body that may throw owes at its end -/
def vx_MQ (below : List Frame) (Qc : Array Value → State → Outcome → State → Prop) (XC : String → State → State → Prop) (a : Array Value) (s : State) (mc ms : Nat) (free : Addr → Prop) : State → Prop := fun t =>
  ∃ o, t.status = .running ∧ Ended t below o ∧ vx_Q Qc XC mc ms free a s o t
theorem vx_ret {g : JFrame} {mc ms : Nat} (k : W p l e R s m args below meth c H locs cells slots (MQ below Qc args s mc ms free) g) : W p l e R s m args below meth c H locs cells slots (vx_MQ below Qc XC args s mc ms free) g := by
  intro T hT X
  obtain ⟨t, a1, o, b1, b2, b3, b4⟩ := k T hT X
  exact ⟨t, a1, o, b1, b2, Or.inl ⟨b3, b4⟩⟩
/-- not caught here: it goes on to the caller -/
theorem vx_widen {g : JFrame} {q : Addr} {k n : Nat} (h1 : cells ≤ k) (h2 : slots ≤ n) (kk : vx_W p l e R s m args below meth c H locs k n Q g q) : vx_W p l e R s m args below meth c H locs cells slots Q g q := fun T hT X => kk T hT (stand_widen X h1 h2)
theorem vx_out {pc : Nat} {E : String} {ce : Cell} {q : Addr} {mc ms : Nat} (hout : ∀ x ∈ c.exceptionTable.toList, covers x pc = false) (hlocks : meth.locks = false) (hcell : H[q]? = some ce) (hv : ce.vm = .none) (hcl : s.vm.findClass E = some ce.cls)
    (hx : ∀ t : State, t.heap = H → s.vm.Alike t.vm → XC E s t) (hf : ∀ z ∈ locs, free z.base) (hc : cells ≤ mc) (hs : slots ≤ ms) :
    vx_W p l e R s m args below meth c H locs cells slots (vx_MQ below Qc XC args s mc ms free) (F0 m pc ls rest) q := by
  intro T hT X
  obtain ⟨st1, hrun, hend, hW, hsm⟩ := X.leaveThrown q (g := F0 m pc ls rest) rfl rfl rfl hout hlocks
  have hcell9 : (T.setFrames (.throwing q :: below)).heap[q]? = some ce := by
    show T.heap[q]? = some ce
    rw [hT]; exact hcell
  exact ⟨_, st1, .threw q, hrun, hend, Or.inr ⟨q, rfl, E, ce, locs, hx _ hT hW.alike, hcell9, hv, hcl, hW, hsm.mono hc hs, hf⟩⟩
theorem vx_frame {U : State} {k n : Nat} (h : s.sameButNew ({ U with vm := s.vm } : State) locs k n) : s.heap.size ≤ U.heap.size ∧ ∀ q : Nat, q < s.heap.size → (∀ z ∈ locs, z.base ≠ q) → U.heap[q]? = s.heap[q]? := by
  obtain ⟨-, h2, -, -, -, h6⟩ := h
  refine ⟨h2, fun q hq hz => ?_⟩
  obtain ⟨c9, e1, e2, e3, e4⟩ := h6 q _ (Array.getElem?_eq_getElem hq)
  have hs : c9.slots = (s.heap[q]).slots := Array.ext_getElem? fun i => e4 i fun hm => hz _ hm rfl
  have h9 : c9 = s.heap[q] := by
    rw [hs] at e2
    exact e2
  have e5 : U.heap[q]? = some c9 := e1
  rw [e5, h9, Array.getElem?_eq_getElem hq]
/-- the words of a throw but the four that speak of the heap -/
def vx_no (w : Cond) : Bool := decide (w ≠ .isRef (.static Bundle.tN "UNASSIGNED_STACK" Bundle.steD)) && decide (w ≠ .isRef (.static Bundle.tN "SUPPRESSED_SENTINEL" Bundle.listD)) && decide (w ≠ .laysStatic Bundle.tN "UNASSIGNED_STACK" Bundle.steD) && decide (w ≠ .laysStatic Bundle.tN "SUPPRESSED_SENTINEL" Bundle.listD)
def vx_at0 (own : String) (ic : Nat) (X : String) (names : List String) : List Cond := (Bundle.ownAtoms0 own ic X names).filter vx_no
def vx_atS (own : String) (ic : Nat) (X : String) (names : List String) : List Cond := (Bundle.ownAtoms own ic X names).filter vx_no
/-- a word that the tables alone decide, or a good one -/
def vx_ot (w : Cond) : Bool := w.onTables || goodWord w
theorem vx_ot_at {args a' : Array Value} {s U : State} {w : Cond} (hW : s.WarmedH U.vm) (hvm : s.vm = U.vm) (hg : vx_ot w = true) (h : w.before args s = true) : w.before a' U = true := by
  simp only [vx_ot, Bool.or_eq_true] at hg
  rcases hg with hg | hg
  · exact va_tabs hg hvm h
  · exact word_at hW (good_of_word hg) h
/-- a list's words: the good ones out of the method's own list, the others by premises of their own -/
theorem vx_hat {args : Array Value} {s : State} {L B : List Cond} (h1 : ∀ w ∈ L.filter goodWord, w.before args s = true) (h2 : ∀ w ∈ L.filter (fun w => !goodWord w), w ∈ B) (h3 : ∀ w ∈ B, w.before args s = true) : ∀ w ∈ L, w.before args s = true := by
  intro w hw
  by_cases g : goodWord w = true
  · exact h1 w (List.mem_filter.mpr ⟨hw, g⟩)
  · refine h3 w (h2 w (List.mem_filter.mpr ⟨hw, ?_⟩))
    show (!goodWord w) = true
    cases hgw : goodWord w
    · rfl
    · exact absurd hgw g
theorem vx_c {args : Array Value} {s : State} {w : Cond} {B : List Cond} (h : w.before args s = true) (t : ∀ w ∈ B, w.before args s = true) : ∀ w' ∈ w :: B, w'.before args s = true := fun w' h' => (List.mem_cons.mp h').elim (fun e => by rw [e]; exact h) (t w')
theorem vx_n {args : Array Value} {s : State} : ∀ w ∈ ([] : List Cond), w.before args s = true := fun _ h => nomatch h
theorem vx_own {args : Array Value} {s : State} {L : List Cond} (h1 : ∀ w ∈ L.filter vx_no, w.before args s = true)
    (hU : (Cond.isRef (.static Bundle.tN "UNASSIGNED_STACK" Bundle.steD)).before args s = true) (hN : (Cond.isRef (.static Bundle.tN "SUPPRESSED_SENTINEL" Bundle.listD)).before args s = true)
    (lU : (Cond.laysStatic Bundle.tN "UNASSIGNED_STACK" Bundle.steD).before args s = true) (lN : (Cond.laysStatic Bundle.tN "SUPPRESSED_SENTINEL" Bundle.listD).before args s = true) : ∀ w ∈ L, w.before args s = true := by
  intro w hw
  by_cases e1 : w = .isRef (.static Bundle.tN "UNASSIGNED_STACK" Bundle.steD)
  · rw [e1]; exact hU
  · by_cases e2 : w = .isRef (.static Bundle.tN "SUPPRESSED_SENTINEL" Bundle.listD)
    · rw [e2]; exact hN
    · by_cases e3 : w = .laysStatic Bundle.tN "UNASSIGNED_STACK" Bundle.steD
      · rw [e3]; exact lU
      · by_cases e4 : w = .laysStatic Bundle.tN "SUPPRESSED_SENTINEL" Bundle.listD
        · rw [e4]; exact lN
        · exact h1 w (List.mem_filter.mpr ⟨hw, by unfold vx_no; rw [decide_eq_true e1, decide_eq_true e2, decide_eq_true e3, decide_eq_true e4]; rfl⟩)
/-- where a static field lies, its class's statics cell in H -/
def vx_L (C n d : String) (A : Nat → Prop) (U : State) (H : Heap) : Prop := ∃ (c : ClassId) (k : Class) (i : Nat) (f : Field) (a : Nat) (cell : Cell), U.vm.findClass C = some c ∧ U.fieldFound? C n d = some (c, k, i, f) ∧ f.isStatic = true ∧ k.statics = some a ∧ H[a]? = some cell ∧ cell.vm.isStatics = true ∧ cell.cls = c ∧ f.slot < cell.slots.size ∧ k.staticTypes[f.slot]? = some f.type ∧ ¬ A a
theorem vx_L.moved {C n d : String} {A : Nat → Prop} {u U : State} {H : Heap} (hvm : u.vm.Alike U.vm) (h : vx_L C n d A u H) : vx_L C n d A U H := by
  obtain ⟨c, k, i, f, a, cell, h1, h2, h3, h4, h5, h6, h7, h8, h9, h10⟩ := h
  obtain ⟨k', hi', he⟩ := State.fieldFound?_setVm hvm h2
  exact ⟨c, k', i, f, a, cell, by rw [hvm.findClass]; exact h1, hi', h3, by rw [he]; exact h4, h5, h6, h7, h8, by rw [he]; exact h9, h10⟩
theorem vx_L.kept {C n d : String} {A : Nat → Prop} {U : State} {H H1 : Heap} (h : vx_L C n d A U H) (hq : ∀ a : Nat, a < H.size → ¬ A a → H1[a]? = H[a]?) : vx_L C n d A U H1 := by
  obtain ⟨c, k, i, f, a, cell, h1, h2, h3, h4, h5, h6, h7, h8, h9, h10⟩ := h
  exact ⟨c, k, i, f, a, cell, h1, h2, h3, h4, by rw [hq a (Array.getElem?_eq_some_iff.mp h5).1 h10]; exact h5, h6, h7, h8, h9, h10⟩
theorem vx_L.narrow {C n d : String} {A B : Nat → Prop} {U : State} {H : Heap} (h : vx_L C n d A U H) (hAB : ∀ q, B q → A q) : vx_L C n d B U H := by
  obtain ⟨c, k, i, f, a, cell, h1, h2, h3, h4, h5, h6, h7, h8, h9, h10⟩ := h
  exact ⟨c, k, i, f, a, cell, h1, h2, h3, h4, h5, h6, h7, h8, h9, fun z => h10 (hAB _ z)⟩
theorem vx_L.word {C n d : String} {A : Nat → Prop} {s : State} {args : Array Value} (h : vx_L C n d A s s.heap) : (Cond.laysStatic C n d).before args s = true := by
  obtain ⟨c, k, i, f, a, cell, h1, h2, h3, h4, h5, h6, h7, h8, h9, -⟩ := h
  show (Cond.laysStatic C n d).holds args s none s [] = true
  exact Cond.laysStatic_of h1 h2 h3 h4 h5 h6 h7 h8 h9
/-- .. and what it holds: null or some reference -/
def vx_Zq (C n d : String) (A : Nat → Prop) (U : State) (H : Heap) : Prop := va_Zq C n d A U H ∧ vx_L C n d A U H
theorem vx_Zq.moved {C n d : String} {A : Nat → Prop} {u U : State} {H : Heap} (hvm : u.vm.Alike U.vm) (h : vx_Zq C n d A u H) : vx_Zq C n d A U H := ⟨va_Zq.moved hvm h.1, vx_L.moved hvm h.2⟩
theorem vx_Zq.kept {C n d : String} {A : Nat → Prop} {U : State} {H H1 : Heap} (h : vx_Zq C n d A U H) (hq : ∀ a : Nat, a < H.size → ¬ A a → H1[a]? = H[a]?) : vx_Zq C n d A U H1 := ⟨va_Zq.kept h.1 hq, vx_L.kept h.2 hq⟩
theorem vx_Zq.narrow {C n d : String} {A B : Nat → Prop} {U : State} {H : Heap} (h : vx_Zq C n d A U H) (hAB : ∀ q, B q → A q) : vx_Zq C n d B U H := ⟨va_Zq.narrow h.1 hAB, vx_L.narrow h.2 hAB⟩
theorem vx_Zqof {args : Array Value} {s : State} {C n d : String} {A : Nat → Prop} (hl : (Cond.laysStatic C n d).before args s = true) (hini : (Cond.initialized C).before args s = true) (h : (Cond.isRef (.static C n d)).before args s = true) (hA : ∀ a : Nat, a < s.heap.size → ¬ A a) : vx_Zq C n d A s s.heap := by
  refine ⟨va_Zqof hl hini h hA, ?_⟩
  obtain ⟨c, k, i, f, a, cell, h1, h2, h3, h4, h5, h6, h7, h8, h9⟩ := Cond.laysStatic_spec hl
  exact ⟨c, k, i, f, a, cell, h1, h2, h3, h4, h5, h6, h7, h8, h9, hA a (Array.getElem?_eq_some_iff.mp h5).1⟩
theorem vx_isRef {C n d : String} {v : Value} {A : Nat → Prop} {s : State} {args : Array Value} (h : va_Z C n d v A s s.heap) (hv : v.isRef = true) : (Cond.isRef (.static C n d)).before args s = true := by
  obtain ⟨cf, kf, fi, f, a, cell, h1, h2, h3, h4, h5, h6, h7, -⟩ := h
  have he : (Term.static C n d).eval args s none [] s = some v := by
    simp [Term.eval, State.fieldNamed?, h1, h2, h4, h5, h6, h7]
  simp only [Cond.before, Cond.holds, Cond.value, he]
  cases v <;> simp_all [Value.isRef]
theorem vx_isRefq {C n d : String} {A : Nat → Prop} {s : State} {args : Array Value} (h : va_Zq C n d A s s.heap) : (Cond.isRef (.static C n d)).before args s = true := by
  rcases h with h | ⟨t, h⟩
  · exact vx_isRef h rfl
  · exact vx_isRef h rfl
/-- the same frame, seen from here: as if the method were called anew in this heap -/
theorem vx_rebase {T : State} (X : Stand p l e R s m args below meth c T locs cells slots) {R' : Room} (hf : R'.frames ≤ R.frames) (hl : R'.locals ≤ R.locals) (hc : cells + R'.cells ≤ R.cells) (hs : slots + R'.slots ≤ R.slots) :
    Stand p l e R' ((T.setVm s.vm).setFrames (.invoking m args :: below)) m args below meth c T [] 0 0 := by
  have htop : (T.setVm s.vm).topJava?.isSome := X.here.top
  have hF : ((T.setVm s.vm).setFrames (.invoking m args :: below)).frames = .invoking m args :: below := State.frames_setFrames _ (State.cur_lt_of_top htop)
  obtain ⟨g₀, hg0⟩ := Option.isSome_iff_exists.mp htop
  obtain ⟨r, hr⟩ := State.topJava?_eq_some.mp hg0
  have hl9 : e.platform.stackLimits (T.setVm s.vm).me = e.platform.stackLimits s.me := X.limits
  have hb9 : (T.setVm s.vm).me.stackBytes = s.me.stackBytes := X.bytes
  refine ⟨X.admits, X.cas, X.clock, hF, ?_, X.hears, X.method, X.code, X.here, X.tail, X.warmed, ?_, ?_, ?_⟩
  · have h := X.room
    have hU : ((T.setVm s.vm).setFrames (.invoking m args :: below)).localsInUse = s.localsInUse := by
      rw [State.localsInUse_invoking hF (meth := meth) (c := c) X.method X.code, State.localsInUse_invoking X.frames X.method X.code]
    simp only [State.hasRoom, Bool.and_eq_true, decide_eq_true_eq] at h ⊢
    obtain ⟨⟨⟨⟨h1, h2, h3, h4, h5, h6⟩, h7⟩, h8⟩, h9⟩ := h
    rw [X.frames, List.length_cons] at h2 h3
    have q1 := X.heapSize
    have q2 := X.used
    simp only [hF, hU, List.length_cons, State.stackLimits_setFrames, State.stackBytes_setFrames, hl9, hb9]
    refine ⟨⟨⟨⟨by omega, by omega, by omega, by omega, by omega, h6⟩, ?_⟩, ?_⟩, X.book⟩
    · show T.heap.size + R'.cells ≤ e.platform.maxCells
      omega
    · show T.slotsUsed + R'.slots ≤ e.platform.maxSlots
      omega
  · rw [State.stackLimits_setFrames]; rfl
  · rw [State.stackBytes_setFrames]; rfl
  · refine ⟨?_, Nat.le_refl _, Nat.le_refl _, ?_, ?_, fun a c9 h9 => ⟨c9, h9, rfl, rfl, fun _ _ => rfl⟩⟩
    · obtain ⟨t, ht, -⟩ := State.frames_cons hr
      show T.setVm s.vm = { ((T.setVm s.vm).setFrames (.invoking m args :: below)).setFrames (T.setVm s.vm).frames with heap := T.heap, slotsUsed := T.slotsUsed }
      rw [State.setFrames_setFrames, State.setFrames_self ht]
      rfl
    · show T.slotsUsed = T.slotsUsed + ((T.heap.toList.drop T.heap.size).map (·.slots.size)).sum
      rw [List.drop_eq_nil_of_le (Nat.le_of_eq Array.length_toList)]
      rfl
    · show ((T.heap.toList.drop T.heap.size).map (·.slots.size)).sum ≤ 0
      rw [List.drop_eq_nil_of_le (Nat.le_of_eq Array.length_toList)]
      exact Nat.le_refl _
/-- 'throw new E()': new; dup; invokespecial; athrow -/
theorem vx_throw0 {cc : ByteArray} {pc : Nat} (hexec : p.tables.exec = Jvm.exec) (hb : c.code = cc) (hl : l.stackTraces = false) {own cls : String} {names : List String} {ik ic mc ms : Nat} {A : Nat → Prop}
    (hown : s.vm.findClass own = some m.cls) (hcls : Bundle.fit cls = true) (hnames : ∀ n ∈ names, Bundle.fit n = true)
    (hk : (Cond.classLink own ik cls).before args s = true) (hini : (Cond.initialized cls).before args s = true) (hat : ∀ w ∈ vx_at0 own ic cls names, w.before args s = true)
    (hgood : ∀ w ∈ Cond.classLink own ik cls :: Cond.initialized cls :: vx_at0 own ic cls names, vx_ot w = true)
    (hU : vx_Zq Bundle.tN "UNASSIGNED_STACK" Bundle.steD A s s.heap) (hN : vx_Zq Bundle.tN "SUPPRESSED_SENTINEL" Bundle.listD A s s.heap) (hS : va_S A s.heap H locs) (hsize : ls.size = c.maxLocals)
    (d0 : decode cc pc = .ok (.new ik, 3)) (d3 : decode cc (pc + 3) = .ok (.dup, 1)) (d4 : decode cc (pc + 4) = .ok (.invokespecial ic, 3)) (d7 : decode cc (pc + 7) = .ok (.athrow, 1))
    (hout : ∀ x ∈ c.exceptionTable.toList, covers x (pc + 7) = false)
    (hRframes : names.length + 3 < R.frames) (hRlocals : (rest.map fun v => v.category).sum + (13 * (names.length + 1) + 42) ≤ R.locals) (hRcells : cells + 1 ≤ R.cells) (hRslots : slots + 6 ≤ R.slots) (hlocks : meth.locks = false)
    (hx : ∀ t : State, s.vm.Alike t.vm → H.size ≤ t.heap.size → (∀ q : Nat, q < H.size → t.heap[q]? = H[q]?) → XC cls s t)
    (hf : ∀ z ∈ locs, free z.base) (hc : cells + 1 ≤ mc) (hs : slots + 6 ≤ ms) :
    W p l e R s m args below meth c H locs cells slots (vx_MQ below Qc XC args s mc ms free) (F0 m pc ls rest) := by
  intro T hT X
  have htr : e.platform.stackTraces = false := (show e.platform.stackTraces = l.stackTraces by rw [X.admits.platform]).trans hl
  have Y := vx_rebase X (R' := { frames := R.frames, locals := R.locals, cells := 1, slots := 6 }) (Nat.le_refl _) (Nat.le_refl _) hRcells hRslots
  obtain ⟨s', hA⟩ : ∃ z, z = (T.setVm s.vm).setFrames (.invoking m args :: below) := ⟨_, rfl⟩
  rw [← hA] at Y
  have hvm : s'.vm = s.vm := by rw [hA]; rfl
  have hhp : s'.heap = H := by rw [hA]; exact hT
  have hW0 : s.WarmedH s'.vm := by rw [hvm]; exact State.WarmedH.refl s
  have hat' : ∀ w ∈ vx_at0 own ic cls names, w.before args s' = true := fun w hw => vx_ot_at hW0 hvm.symm (hgood w (List.mem_cons_of_mem _ (List.mem_cons_of_mem _ hw))) (hat w hw)
  have hk' : (Cond.classLink own ik cls).before args s' = true := vx_ot_at hW0 hvm.symm (hgood _ List.mem_cons_self) hk
  have hini' : (Cond.initialized cls).before args s' = true := vx_ot_at hW0 hvm.symm (hgood _ (List.mem_cons_of_mem _ List.mem_cons_self)) hini
  have hU' : vx_Zq Bundle.tN "UNASSIGNED_STACK" Bundle.steD A s' s'.heap := by rw [hhp]; exact vx_Zq.moved hW0.alike (hU.kept hS.2.1)
  have hN' : vx_Zq Bundle.tN "SUPPRESSED_SENTINEL" Bundle.listD A s' s'.heap := by rw [hhp]; exact vx_Zq.moved hW0.alike (hN.kept hS.2.1)
  have h : ∀ w ∈ Bundle.ownAtoms0 own ic cls names, w.before args s' = true := vx_own hat' (vx_isRefq hU'.1) (vx_isRefq hN'.1) hU'.2.word hN'.2.word
  have hown' : s'.vm.findClass own = some m.cls := by rw [hvm]; exact hown
  have hins : (Cond.instantiable cls 6).before args s' = true := h _ (by simp [Bundle.ownAtoms0])
  obtain ⟨vm₁, cX, kX, hfX, hkX, -, -, X₁, st1⟩ := Y.newCold hexec (own := own) (C := cls) (index := ik) (n := 6) hown' hk' hins hini'
    (g := F0 m pc ls rest) rfl (by rw [hb]; exact d0) (Nat.le_refl _) (Nat.le_refl _)
  generalize hT1 : (T.setVm vm₁).pushCell { cls := cX, slots := kX.instanceTypes.map defaultValue, vm := .none } = T1 at X₁ st1
  have hcat : (Value.ref T.heap.size).category = 1 := rfl
  have hcellA : T1.heap[T.heap.size]? = some (freshCell cX kX) := by rw [← hT1]; exact State.heap_pushCell_size _ _
  have d3' : decode c.code (pc + 3) = .ok (.dup, 1) := by rw [hb]; exact d3
  obtain ⟨U, hsteps, hrun, hend, hW, hsame, ce, hce, hO⟩ := X₁.ctorThrow0 hexec htr (own := own) (cls := cls) (names := names) (ic := ic) hown' hcls hnames h (fun x hx => nomatch hx) hfX hkX hcellA (by rw [hhp, hT]; exact Nat.le_refl _)
    (g := { method := m, pc := pc + 4, locals := ls, stack := .ref T.heap.size :: .ref T.heap.size :: rest, locked := none }) rfl hsize rfl rfl (rest := rest) rfl
    (by rw [hb]; exact d4) (by rw [hb]; exact d7) hout hRframes (by simp only [List.map_cons, List.sum_cons, hcat]; omega) hlocks
  obtain ⟨f1, f2⟩ := vx_frame hsame
  rw [hhp] at f1 f2
  have hWs : s.WarmedH U.vm := State.WarmedH.trans hW0 hW
  have hcl : s.vm.findClass cls = some ce.cls := by
    have h9 := hO.cls
    rw [hvm] at h9
    exact h9
  have hall : s.sameButNew ({ U with vm := s.vm } : State) locs mc ms := by
    subst hA
    obtain ⟨e1, e2⟩ := hsame
    rw [State.setFrames_setFrames] at e1
    have h2 : (T.setVm s.vm).sameButNew ({ U with vm := s.vm } : State) [] (0 + 1) (0 + 6) := ⟨e1, e2⟩
    have h3 := X.same.trans h2
    rw [List.append_nil] at h3
    exact h3.mono hc hs
  refine ⟨U, ?_, .threw T.heap.size, hrun, hend, Or.inr ⟨T.heap.size, rfl, cls, ce, locs, hx U hWs.alike f1 (fun q hq => f2 q hq (fun z hz => nomatch hz)), hce, hO.vm, hcl, hWs, hall, hf⟩⟩
  refine st1 _ ?_
  show Steps p.tables e below (T1.setTop { method := m, pc := pc + 3, locals := ls, stack := .ref T.heap.size :: rest, locked := none }) _
  jvm_step X₁.here [X₁.here.top, hexec, d3', Value.category]
  exact hsteps
/-- 'throw new E("text")': new; dup; ldc; invokespecial; athrow -/
theorem vx_throwS {cc : ByteArray} {pc : Nat} (hexec : p.tables.exec = Jvm.exec) (hb : c.code = cc) (hl : l.stackTraces = false) {own cls text : String} {names : List String} {ik is ic mc ms sa : Nat} {A : Nat → Prop}
    (hown : s.vm.findClass own = some m.cls) (hcls : Bundle.fit cls = true) (hnames : ∀ n ∈ names, Bundle.fit n = true)
    (hk : (Cond.classLink own ik cls).before args s = true) (hini : (Cond.initialized cls).before args s = true) (hstr : vk_R own is text sa s) (hat : ∀ w ∈ vx_atS own ic cls names, w.before args s = true)
    (hgood : ∀ w ∈ Cond.classLink own ik cls :: Cond.initialized cls :: vx_atS own ic cls names, vx_ot w = true)
    (hU : vx_Zq Bundle.tN "UNASSIGNED_STACK" Bundle.steD A s s.heap) (hN : vx_Zq Bundle.tN "SUPPRESSED_SENTINEL" Bundle.listD A s s.heap) (hS : va_S A s.heap H locs) (hsize : ls.size = c.maxLocals)
    (d0 : decode cc pc = .ok (.new ik, 3)) (d3 : decode cc (pc + 3) = .ok (.dup, 1)) (d4 : decode cc (pc + 4) = .ok (.ldc is, 2)) (d6 : decode cc (pc + 6) = .ok (.invokespecial ic, 3)) (d9 : decode cc (pc + 9) = .ok (.athrow, 1))
    (hout : ∀ x ∈ c.exceptionTable.toList, covers x (pc + 9) = false)
    (hRframes : names.length + 3 < R.frames) (hRlocals : (rest.map fun v => v.category).sum + (13 * (names.length + 1) + 43) ≤ R.locals) (hRcells : cells + 1 ≤ R.cells) (hRslots : slots + 6 ≤ R.slots) (hlocks : meth.locks = false)
    (hx : ∀ t : State, s.vm.Alike t.vm → H.size ≤ t.heap.size → (∀ q : Nat, q < H.size → t.heap[q]? = H[q]?) → XC cls s t)
    (hf : ∀ z ∈ locs, free z.base) (hc : cells + 1 ≤ mc) (hs : slots + 6 ≤ ms) :
    W p l e R s m args below meth c H locs cells slots (vx_MQ below Qc XC args s mc ms free) (F0 m pc ls rest) := by
  intro T hT X
  have htr : e.platform.stackTraces = false := (show e.platform.stackTraces = l.stackTraces by rw [X.admits.platform]).trans hl
  have Y := vx_rebase X (R' := { frames := R.frames, locals := R.locals, cells := 1, slots := 6 }) (Nat.le_refl _) (Nat.le_refl _) hRcells hRslots
  obtain ⟨s', hA⟩ : ∃ z, z = (T.setVm s.vm).setFrames (.invoking m args :: below) := ⟨_, rfl⟩
  rw [← hA] at Y
  have hvm : s'.vm = s.vm := by rw [hA]; rfl
  have hhp : s'.heap = H := by rw [hA]; exact hT
  have hW0 : s.WarmedH s'.vm := by rw [hvm]; exact State.WarmedH.refl s
  have hat' : ∀ w ∈ vx_atS own ic cls names, w.before args s' = true := fun w hw => vx_ot_at hW0 hvm.symm (hgood w (List.mem_cons_of_mem _ (List.mem_cons_of_mem _ hw))) (hat w hw)
  have hk' : (Cond.classLink own ik cls).before args s' = true := vx_ot_at hW0 hvm.symm (hgood _ List.mem_cons_self) hk
  have hini' : (Cond.initialized cls).before args s' = true := vx_ot_at hW0 hvm.symm (hgood _ (List.mem_cons_of_mem _ List.mem_cons_self)) hini
  have hU' : vx_Zq Bundle.tN "UNASSIGNED_STACK" Bundle.steD A s' s'.heap := by rw [hhp]; exact vx_Zq.moved hW0.alike (hU.kept hS.2.1)
  have hN' : vx_Zq Bundle.tN "SUPPRESSED_SENTINEL" Bundle.listD A s' s'.heap := by rw [hhp]; exact vx_Zq.moved hW0.alike (hN.kept hS.2.1)
  have h : ∀ w ∈ Bundle.ownAtoms own ic cls names, w.before args s' = true := vx_own hat' (vx_isRefq hU'.1) (vx_isRefq hN'.1) hU'.2.word hN'.2.word
  have hown' : s'.vm.findClass own = some m.cls := by rw [hvm]; exact hown
  have hins : (Cond.instantiable cls 6).before args s' = true := h _ (by simp [Bundle.ownAtoms])
  obtain ⟨vm₁, cX, kX, hfX, hkX, -, -, X₁, st1⟩ := Y.newCold hexec (own := own) (C := cls) (index := ik) (n := 6) hown' hk' hins hini'
    (g := F0 m pc ls rest) rfl (by rw [hb]; exact d0) (Nat.le_refl _) (Nat.le_refl _)
  generalize hT1 : (T.setVm vm₁).pushCell { cls := cX, slots := kX.instanceTypes.map defaultValue, vm := .none } = T1 at X₁ st1
  have hcat : (Value.ref T.heap.size).category = 1 := rfl
  have hcellA : T1.heap[T.heap.size]? = some (freshCell cX kX) := by rw [← hT1]; exact State.heap_pushCell_size _ _
  have d3' : decode c.code (pc + 3) = .ok (.dup, 1) := by rw [hb]; exact d3
  have d4' : decode c.code (pc + 4) = .ok (.ldc is, 2) := by rw [hb]; exact d4
  have hstr' : vk_R own is text sa s' := vk_R.warm hW0 hstr
  obtain ⟨U, hsteps, hrun, hend, hW, hsame, ce, hce, hO⟩ := X₁.ctorThrowS hexec htr (own := own) (cls := cls) (names := names) (ic := ic) hown' hcls hnames h (fun x hx => nomatch hx) hfX hkX hcellA (by rw [hhp, hT]; exact Nat.le_refl _) (msg := .ref sa) rfl
    (g := { method := m, pc := pc + 6, locals := ls, stack := .ref sa :: .ref T.heap.size :: .ref T.heap.size :: rest, locked := none }) rfl hsize rfl rfl (rest := rest) rfl
    (by rw [hb]; exact d6) (by rw [hb]; exact d9) hout hRframes (by simp only [List.map_cons, List.sum_cons, hcat]; omega) hlocks
  obtain ⟨f1, f2⟩ := vx_frame hsame
  rw [hhp] at f1 f2
  have hWs : s.WarmedH U.vm := State.WarmedH.trans hW0 hW
  have hcl : s.vm.findClass cls = some ce.cls := by
    have h9 := hO.cls
    rw [hvm] at h9
    exact h9
  have hall : s.sameButNew ({ U with vm := s.vm } : State) locs mc ms := by
    subst hA
    obtain ⟨e1, e2⟩ := hsame
    rw [State.setFrames_setFrames] at e1
    have h2 : (T.setVm s.vm).sameButNew ({ U with vm := s.vm } : State) [] (0 + 1) (0 + 6) := ⟨e1, e2⟩
    have h3 := X.same.trans h2
    rw [List.append_nil] at h3
    exact h3.mono hc hs
  refine ⟨U, ?_, .threw T.heap.size, hrun, hend, Or.inr ⟨T.heap.size, rfl, cls, ce, locs, hx U hWs.alike f1 (fun q hq => f2 q hq (fun z hz => nomatch hz)), hce, hO.vm, hcl, hWs, hall, hf⟩⟩
  refine st1 _ ?_
  show Steps p.tables e below (T1.setTop { method := m, pc := pc + 3, locals := ls, stack := .ref T.heap.size :: rest, locked := none }) _
  jvm_step X₁.here [X₁.here.top, hexec, d3', Value.category]
  exact X₁.ldcString hexec (own := own) (text := text) (index := is) (a := sa) hown' hstr'.1 hstr'.2
    (g := { method := m, pc := pc + 4, locals := ls, stack := .ref T.heap.size :: .ref T.heap.size :: rest, locked := none }) rfl d4' _ hsteps
/-- 'throw new E("text")', the text by a wide index -/
theorem vx_throwSW {cc : ByteArray} {pc : Nat} (hexec : p.tables.exec = Jvm.exec) (hb : c.code = cc) (hl : l.stackTraces = false) {own cls text : String} {names : List String} {ik is ic mc ms sa : Nat} {A : Nat → Prop}
    (hown : s.vm.findClass own = some m.cls) (hcls : Bundle.fit cls = true) (hnames : ∀ n ∈ names, Bundle.fit n = true)
    (hk : (Cond.classLink own ik cls).before args s = true) (hini : (Cond.initialized cls).before args s = true) (hstr : vk_R own is text sa s) (hat : ∀ w ∈ vx_atS own ic cls names, w.before args s = true)
    (hgood : ∀ w ∈ Cond.classLink own ik cls :: Cond.initialized cls :: vx_atS own ic cls names, vx_ot w = true)
    (hU : vx_Zq Bundle.tN "UNASSIGNED_STACK" Bundle.steD A s s.heap) (hN : vx_Zq Bundle.tN "SUPPRESSED_SENTINEL" Bundle.listD A s s.heap) (hS : va_S A s.heap H locs) (hsize : ls.size = c.maxLocals)
    (d0 : decode cc pc = .ok (.new ik, 3)) (d3 : decode cc (pc + 3) = .ok (.dup, 1)) (d4 : decode cc (pc + 4) = .ok (.ldc_w is, 3)) (d7 : decode cc (pc + 7) = .ok (.invokespecial ic, 3)) (d10 : decode cc (pc + 10) = .ok (.athrow, 1))
    (hout : ∀ x ∈ c.exceptionTable.toList, covers x (pc + 10) = false)
    (hRframes : names.length + 3 < R.frames) (hRlocals : (rest.map fun v => v.category).sum + (13 * (names.length + 1) + 43) ≤ R.locals) (hRcells : cells + 1 ≤ R.cells) (hRslots : slots + 6 ≤ R.slots) (hlocks : meth.locks = false)
    (hx : ∀ t : State, s.vm.Alike t.vm → H.size ≤ t.heap.size → (∀ q : Nat, q < H.size → t.heap[q]? = H[q]?) → XC cls s t)
    (hf : ∀ z ∈ locs, free z.base) (hc : cells + 1 ≤ mc) (hs : slots + 6 ≤ ms) :
    W p l e R s m args below meth c H locs cells slots (vx_MQ below Qc XC args s mc ms free) (F0 m pc ls rest) := by
  intro T hT X
  have htr : e.platform.stackTraces = false := (show e.platform.stackTraces = l.stackTraces by rw [X.admits.platform]).trans hl
  have Y := vx_rebase X (R' := { frames := R.frames, locals := R.locals, cells := 1, slots := 6 }) (Nat.le_refl _) (Nat.le_refl _) hRcells hRslots
  obtain ⟨s', hA⟩ : ∃ z, z = (T.setVm s.vm).setFrames (.invoking m args :: below) := ⟨_, rfl⟩
  rw [← hA] at Y
  have hvm : s'.vm = s.vm := by rw [hA]; rfl
  have hhp : s'.heap = H := by rw [hA]; exact hT
  have hW0 : s.WarmedH s'.vm := by rw [hvm]; exact State.WarmedH.refl s
  have hat' : ∀ w ∈ vx_atS own ic cls names, w.before args s' = true := fun w hw => vx_ot_at hW0 hvm.symm (hgood w (List.mem_cons_of_mem _ (List.mem_cons_of_mem _ hw))) (hat w hw)
  have hk' : (Cond.classLink own ik cls).before args s' = true := vx_ot_at hW0 hvm.symm (hgood _ List.mem_cons_self) hk
  have hini' : (Cond.initialized cls).before args s' = true := vx_ot_at hW0 hvm.symm (hgood _ (List.mem_cons_of_mem _ List.mem_cons_self)) hini
  have hU' : vx_Zq Bundle.tN "UNASSIGNED_STACK" Bundle.steD A s' s'.heap := by rw [hhp]; exact vx_Zq.moved hW0.alike (hU.kept hS.2.1)
  have hN' : vx_Zq Bundle.tN "SUPPRESSED_SENTINEL" Bundle.listD A s' s'.heap := by rw [hhp]; exact vx_Zq.moved hW0.alike (hN.kept hS.2.1)
  have h : ∀ w ∈ Bundle.ownAtoms own ic cls names, w.before args s' = true := vx_own hat' (vx_isRefq hU'.1) (vx_isRefq hN'.1) hU'.2.word hN'.2.word
  have hown' : s'.vm.findClass own = some m.cls := by rw [hvm]; exact hown
  have hins : (Cond.instantiable cls 6).before args s' = true := h _ (by simp [Bundle.ownAtoms])
  obtain ⟨vm₁, cX, kX, hfX, hkX, -, -, X₁, st1⟩ := Y.newCold hexec (own := own) (C := cls) (index := ik) (n := 6) hown' hk' hins hini'
    (g := F0 m pc ls rest) rfl (by rw [hb]; exact d0) (Nat.le_refl _) (Nat.le_refl _)
  generalize hT1 : (T.setVm vm₁).pushCell { cls := cX, slots := kX.instanceTypes.map defaultValue, vm := .none } = T1 at X₁ st1
  have hcat : (Value.ref T.heap.size).category = 1 := rfl
  have hcellA : T1.heap[T.heap.size]? = some (freshCell cX kX) := by rw [← hT1]; exact State.heap_pushCell_size _ _
  have d3' : decode c.code (pc + 3) = .ok (.dup, 1) := by rw [hb]; exact d3
  have d4' : decode c.code (pc + 4) = .ok (.ldc_w is, 3) := by rw [hb]; exact d4
  have hstr' : vk_R own is text sa s' := vk_R.warm hW0 hstr
  obtain ⟨U, hsteps, hrun, hend, hW, hsame, ce, hce, hO⟩ := X₁.ctorThrowS hexec htr (own := own) (cls := cls) (names := names) (ic := ic) hown' hcls hnames h (fun x hx => nomatch hx) hfX hkX hcellA (by rw [hhp, hT]; exact Nat.le_refl _) (msg := .ref sa) rfl
    (g := { method := m, pc := pc + 7, locals := ls, stack := .ref sa :: .ref T.heap.size :: .ref T.heap.size :: rest, locked := none }) rfl hsize rfl rfl (rest := rest) rfl
    (by rw [hb]; exact d7) (by rw [hb]; exact d10) hout hRframes (by simp only [List.map_cons, List.sum_cons, hcat]; omega) hlocks
  obtain ⟨f1, f2⟩ := vx_frame hsame
  rw [hhp] at f1 f2
  have hWs : s.WarmedH U.vm := State.WarmedH.trans hW0 hW
  have hcl : s.vm.findClass cls = some ce.cls := by
    have h9 := hO.cls
    rw [hvm] at h9
    exact h9
  have hall : s.sameButNew ({ U with vm := s.vm } : State) locs mc ms := by
    subst hA
    obtain ⟨e1, e2⟩ := hsame
    rw [State.setFrames_setFrames] at e1
    have h2 : (T.setVm s.vm).sameButNew ({ U with vm := s.vm } : State) [] (0 + 1) (0 + 6) := ⟨e1, e2⟩
    have h3 := X.same.trans h2
    rw [List.append_nil] at h3
    exact h3.mono hc hs
  refine ⟨U, ?_, .threw T.heap.size, hrun, hend, Or.inr ⟨T.heap.size, rfl, cls, ce, locs, hx U hWs.alike f1 (fun q hq => f2 q hq (fun z hz => nomatch hz)), hce, hO.vm, hcl, hWs, hall, hf⟩⟩
  refine st1 _ ?_
  show Steps p.tables e below (T1.setTop { method := m, pc := pc + 3, locals := ls, stack := .ref T.heap.size :: rest, locked := none }) _
  jvm_step X₁.here [X₁.here.top, hexec, d3', Value.category]
  exact X₁.ldcStringW hexec (own := own) (text := text) (index := is) (a := sa) hown' hstr'.1 hstr'.2
    (g := { method := m, pc := pc + 4, locals := ls, stack := .ref T.heap.size :: .ref T.heap.size :: rest, locked := none }) rfl d4' _ hsteps
end Ends
section Bodies
variable {l : Launch}
theorem vx_ofW {y : MethodName} {ws ws' : List Cond} {rm : Room} {Pc : Array Value → State → Prop} {Qc : Array Value → State → Outcome → State → Prop} {XC : String → State → State → Prop} {mc ms : Nat} {free : Addr → Prop} {cc : ByteArray} {maxL : Nat} {ret : Option FieldType}
    (hy : plainName y.cls = true) (hw : ws = Cond.code y cc maxL ret :: ws')
    (body : ∀ p e s m args below meth c s₁, BodyLoose p l y (headSpec ws rm) cc maxL ret e s m args below meth c s₁ → c.maxLocals = maxL → (∀ x ∈ c.exceptionTable.toList, False) → Pc args s →
      W p l e (headSpec ws rm).room s m args below meth c s.heap [] 0 0 (vx_MQ below Qc XC args s mc ms free) (entryFrame m args maxL)) : vx_Met l y ws rm Pc Qc XC mc ms free := by
  refine MetFree.of_bodyS (code := cc) (maxLocals := maxL) (ret := ret) hy ?_ ?_
  · intro args s m h hn
    obtain ⟨meth, c, h1, h2, h3, h4, h5, h6, -, -⟩ := Cond.code_spec hn (atoms_spec (ws := ws) h _ (by rw [hw]; exact List.mem_cons_self))
    exact ⟨meth, c, h1, h2, h3, h4, h5, h6⟩
  · intro p e s m args below meth c s₁ B hml hP _
    have hh0 : s₁.heap = s.heap := by rw [B.state]; rfl
    have ht : ∀ x ∈ c.exceptionTable.toList, False := by
      obtain ⟨meth9, c9, h1, h2, -, -, -, -, h7, -⟩ := Cond.code_spec B.named (atoms_spec (ws := ws) B.pre _ (by rw [hw]; exact List.mem_cons_self))
      cases Option.some.inj (h1.symm.trans B.method)
      cases Option.some.inj (h2.symm.trans (Stand.of_body B).code)
      intro x hx
      rw [Array.isEmpty_iff.mp h7] at hx
      cases hx
    obtain ⟨t, a1, o, b1, b2, b3⟩ := body p e s m args below meth c s₁ B hml ht hP s₁ hh0 (Stand.of_body B)
    exact ⟨t, o, a1, b1, b2, b3⟩
/-- the table of a body with handlers -/
theorem vx_table {p : Program} {x y : MethodName} {S : Spec} {cc bytes : ByteArray} {maxL maxL' : Nat} {ret ret' : Option FieldType} {e : Env} {s s₁ : State} {m : MethodId} {args : Array Value} {below : List Frame} {meth : Method} {c : Code} {hh : List (Nat × Nat × Nat × Nat)}
    (B : BodyLoose p l y S cc maxL ret e s m args below meth c s₁) (h : (Cond.codeWith y bytes maxL' ret' hh).before args s = true) : c.exceptionTable.toList = tableOf hh := by
  obtain ⟨m9, meth9, c9, hn9, h1, h2, -, -, h6, -⟩ := Cond.codeWith_spec h
  cases Option.some.inj (hn9.symm.trans B.named)
  cases Option.some.inj (h1.symm.trans B.method)
  cases Option.some.inj (h2.symm.trans (Stand.of_body B).code)
  rw [← h6, table_eq]
end Bodies
end VXA
/-! ===== END ===== -/
/-! ===== BEGIN a static call of a method with an exception table ===== -/
section VXS
variable {p : Program} {l : Launch} {e : Env} {R : Room} {s : State} {m : MethodId} {args : Array Value} {below : List Frame} {meth : Method} {c : Code} {T : State} {H : Heap} {locs : List Loc} {cells slots : Nat}
abbrev vx_CSW (R : Room) (s : State) (args : Array Value) (own : String) (index : Nat) (y : MethodName) (bytes : ByteArray) (maxL : Nat) (ret : Option FieldType) (hh : List (Nat × Nat × Nat × Nat)) (ws : List Cond) (rm : Room) (mc ms n : Nat) : Prop :=
  (rm.cells = mc ∧ rm.slots = ms ∧ rm.frames + 1 ≤ R.frames ∧ 8 + (maxL + 11) + rm.locals ≤ R.locals ∧ (∀ w ∈ ws, ∀ (a' : Array Value) (U : State), s.WarmedH U.vm → w.before a' U = true) ∧ Cond.codeWith y bytes maxL ret hh ∈ ws) ∧
  (Cond.codeWith y bytes maxL ret hh).before args s = true ∧ (Cond.initialized y.cls).before args s = true ∧ (y.cls ≠ "java/lang/invoke/MethodHandle" ∧ y.cls ≠ "java/lang/invoke/VarHandle") ∧
  (∀ sig, parseMethodDescriptor y.desc = some sig → n = sig.parameters.length) ∧ (Cond.methodLink own index y).before args s = true ∧ (Cond.static y).before args s = true
theorem vx_cwSW {own : String} {index maxL mc ms : Nat} {y : MethodName} {bytes : ByteArray} {ret : Option FieldType} {hh : List (Nat × Nat × Nat × Nat)} {Ts ws ws' : List Cond} {rm : Room} (n : Nat) (ht : ∀ w ∈ Ts, w.before args s = true) (hT : GoodIn Ts (va_wsS own index y ws)) (hw : ws = Cond.codeWith y bytes maxL ret hh :: ws') (hrc : rm.cells = mc) (hrs : rm.slots = ms)
    (hd : y.cls ≠ "java/lang/invoke/MethodHandle" ∧ y.cls ≠ "java/lang/invoke/VarHandle" ∧ (parseMethodDescriptor y.desc).map (fun d => d.parameters.length) = some n) (hR : rm.frames + 1 ≤ R.frames ∧ 8 + (maxL + 11) + rm.locals ≤ R.locals) :
    vx_CSW R s args own index y bytes maxL ret hh ws rm mc ms n := by
  have ok : ∀ w ∈ va_wsS own index y ws, w.before args s = true := fun w h => ht w (hT w h).1
  have hG : GoodIn Ts ws := fun w h => hT w (by unfold va_wsS; exact List.mem_append_right _ h)
  have hc : Cond.codeWith y bytes maxL ret hh ∈ ws := by rw [hw]; exact List.mem_cons_self
  refine ⟨⟨hrc, hrs, hR.1, hR.2, pay_in ht hG, hc⟩, ht _ (hG _ hc).1, ok _ (by simp [va_wsS]), ⟨hd.1, hd.2.1⟩, fun sig h => ?_, ok _ (by simp [va_wsS]), ok _ (by simp [va_wsS])⟩
  have h2 := hd.2.2
  rw [h] at h2
  exact (Option.some.inj h2).symm
theorem vx_callSW (X : Stand p l e R s m args below meth c T locs cells slots) (hexec : p.tables.exec = Jvm.exec) {own : String} {index : Nat} {y : MethodName} {bytes : ByteArray} {maxL : Nat} {ret : Option FieldType} {hh : List (Nat × Nat × Nat × Nat)}
    (hown : s.vm.findClass own = some m.cls) (hlink : (Cond.methodLink own index y).before args s = true) (hstat : (Cond.static y).before args s = true) (hinit : (Cond.initialized y.cls).before args s = true)
    (hcode : (Cond.codeWith y bytes maxL ret hh).before args s = true) (hy : y.cls ≠ "java/lang/invoke/MethodHandle" ∧ y.cls ≠ "java/lang/invoke/VarHandle")
    {W9 : Nat} {Pre : Pt → Array Value → Prop} {Post : Pt → Array Value → Option Value → Pt → Prop} (hK : Back l R p e below s args y 3 W9 Pre Post)
    {g : JFrame} (hg : g.method = m) (hsize : g.locals.size = c.maxLocals) {argsL rest : List Value} (hlen : ∀ sig, parseMethodDescriptor y.desc = some sig → argsL.length = sig.parameters.length)
    (hstack : g.stack = argsL.reverse ++ rest) (hW : 2 * g.monitorRoom + (rest.map fun v => v.category).sum ≤ W9) (hdg : decode c.code g.pc = .ok (.invokestatic index, 3))
    (hpre : ∀ vm₁, s.WarmedH vm₁ → Pre ⟨T.setVm vm₁, locs, cells, slots⟩ argsL.toArray) :
    ∃ (v : Option Value) (vm₁ : Vm) (B : Pt), s.WarmedH vm₁ ∧ Stand p l e R s m args below meth c B.U B.locs B.cells B.slots ∧ Post ⟨T.setVm vm₁, locs, cells, slots⟩ argsL.toArray v B ∧
      ∀ target, Steps p.tables e below (B.U.setTop { g with pc := g.pc + 3, stack := v.toList ++ rest }) target → Steps p.tables e below (T.setTop g) target := by
  obtain ⟨mk, methM, cM, hnamed, hmethM, -, -, -, -, -, -, hsigM⟩ := Cond.codeWith_spec hcode
  have hstatic : methM.isStatic = true := Cond.static_spec hnamed hmethM hstat
  obtain ⟨kP, hkP, -⟩ := className_of_methodNamed hnamed
  have hinitP : kP.init = .initialized := Cond.initialized_spec (findClass_of_methodNamed hnamed) hkP hinit
  obtain ⟨vm₁, X₁, hstep₁⟩ := X.invokestatic hexec hown hlink hnamed hmethM hstatic hkP hinitP hy (g := g) hg (argsL := argsL) (rest := rest) (hlen _ hsigM) hstack hdg
  obtain ⟨v, B, X', hpost, hsteps⟩ := hK m meth c ⟨T.setVm vm₁, locs, cells, slots⟩ { g with stack := rest } (.invokestatic index) mk argsL.toArray X₁ hg hsize hdg hW (X₁.named hnamed) (hpre vm₁ X₁.warmed)
  exact ⟨v, vm₁, B, X₁.warmed, X', hpost, fun target h => hstep₁ _ fun acts => by rw [doInvoke_state]; exact hsteps.trans h⟩
theorem vx_runSW {y : MethodName} {bytes cc : ByteArray} {maxL nL mc ms n index : Nat} {ret : Option FieldType} {hh : List (Nat × Nat × Nat × Nat)} {ws : List Cond} {rm : Room} {Pc : Array Value → State → Prop} {Qc : Array Value → State → Outcome → State → Prop} {free : Addr → Prop} {Ts : List Cond} {own : String} {As rest : List Value} {g : JFrame}
    (S : CallFix p m c cc nL s args Ts own) (hM : Met l y ws rm Pc Qc mc ms free) (cw : vx_CSW R s args own index y bytes maxL ret hh ws rm mc ms n) (hp : PreS s H Pc As)
    (hg : g.method = m) (hn : As.length = n) (hsize : g.locals.size = nL) (hstack : g.stack = As.reverse ++ rest) (hW : 2 * g.monitorRoom + (rest.map fun v => v.category).sum ≤ 8) (hdg : decode cc g.pc = .ok (.invokestatic index, 3)) (hf : cells + mc ≤ R.cells ∧ slots + ms ≤ R.slots) :
    va_Run p l e R s m args below meth c H locs cells slots mc ms g rest (Qc As.toArray) (free) := by
  obtain ⟨⟨hrc, hrs, hfr, hlo, hws, hcw⟩, hcode, hini, hy, hlen, hl, hstt⟩ := cw
  have hK : Back l R p e below s args y 3 8 (PreOf R mc ms Pc) (PostOf Qc mc ms free) := va_backW (hh := hh) (bytes := bytes) (maxL := maxL) (ret := ret) hM hp.1 hrc hrs hfr hlo hws hcw (fun a' U hW => word_at hW (Or.inl (by first | rfl | simp [Cond.onTables, Cond.keeps, Cond.steady])) hini)
  obtain ⟨hx, hb, hml, ho, -⟩ := S
  intro T hT X
  obtain ⟨v, vm₁, ⟨U', l2, c2, s2⟩, hW₁, X', ⟨g', mk, t, L, e1, e2, hq, h1, hL, h2, h3⟩, st⟩ := vx_callSW X hx (hh := hh) (bytes := bytes) (maxL := maxL) (ret := ret) ho hl hstt hini hcode hy hK hg (hsize.trans hml.symm) (argsL := As) (rest := rest) (fun sig h => hn.trans (hlen sig h)) hstack hW (by rw [hb]; exact hdg)
    (fun vm₁ hW₁ => ⟨hf.1, hf.2, hp.2 (T.setVm vm₁) hT hW₁⟩)
  dsimp only [Pt.U, Pt.locs, Pt.cells, Pt.slots] at X' e1 e2 h1 h2 h3 st
  subst h1; subst h2; subst h3
  exact ⟨v, (T.setVm vm₁).calling g' mk As.toArray, t, U', L, hT, X', hL, e1, e2, hq, st⟩
/-- not caught here, past rows that name other classes: it goes on to the caller -/
theorem vx_outP {p : Program} {l : Launch} {e : Env} {R : Room} {s : State} {m : MethodId} {args : Array Value} {below : List Frame} {meth : Method} {c : Code} {H : Heap} {locs : List Loc} {cells slots : Nat} {free : Addr → Prop} {ls : Array Slot} {rest : List Value} {Qc : Array Value → State → Outcome → State → Prop} {XC : String → State → State → Prop}
    {pc : Nat} {own E : String} {ce : Cell} {q : Addr} {mc ms : Nat} (hown : s.vm.findClass own = some m.cls) (hlocks : meth.locks = false)
    (hpass : ∀ z ∈ c.exceptionTable.toList, covers z pc = false ∨ (z.catchType ≠ 0 ∧ ∃ nm : String, (Cond.classLink own z.catchType nm).before args s = true ∧ va_Nc E nm s)) (hcell : H[q]? = some ce) (hv : ce.vm = .none) (hcl : s.vm.findClass E = some ce.cls)
    (hx : ∀ t : State, t.heap = H → s.vm.Alike t.vm → XC E s t) (hf : ∀ z ∈ locs, free z.base) (hc : cells ≤ mc) (hs : slots ≤ ms) :
    vx_W p l e R s m args below meth c H locs cells slots (vx_MQ below Qc XC args s mc ms free) (F0 m pc ls rest) q := by
  intro T hT X
  have hpl : e.platform.magicAccessors = ({} : Platform).magicAccessors := by rw [X.admits.platform]
  obtain ⟨vm', hW', X', st⟩ := X.outThrough hlocks q (g := F0 m pc ls rest) rfl rfl rfl (cell := ce) (by rw [hT]; exact hcell) (by rw [hv]; rfl)
    (by obtain ⟨k9, h9, -⟩ := Vm.findClass_spec hcl; exact ⟨k9, h9⟩) (fun z hz => by
      rcases hpass z hz with h | ⟨hz0, nm, hl1, hn1⟩
      · exact Or.inl h
      · obtain ⟨c6, hc6, hcl6⟩ := Cond.classLink_spec hown hl1 e.platform hpl
        obtain ⟨a8, b8, h1, h2, h3⟩ := hn1
        cases Option.some.inj (h1.symm.trans hcl)
        cases Option.some.inj (h2.symm.trans hc6)
        exact Or.inr ⟨hz0, _, hcl6, h3⟩)
  obtain ⟨g₀, hfr⟩ := X'.frames_eq
  have hcell9 : ((T.setVm vm').setFrames (.throwing q :: below)).heap[q]? = some ce := by
    show T.heap[q]? = some ce
    rw [hT]; exact hcell
  have hend : Ended ((T.setVm vm').setFrames (.throwing q :: below)) below (.threw q) := State.frames_setFrames _ (State.cur_lt_of_frames hfr)
  refine ⟨(T.setVm vm').setFrames (.throwing q :: below), ?_, .threw q, X'.here.running, hend, Or.inr ⟨q, rfl, E, ce, locs, hx _ hT (X'.ends _).1.alike, hcell9, hv, hcl, (X'.ends _).1, (X'.ends _).2.mono hc hs, hf⟩⟩
  rw [X.pushThrowing_eq]
  exact st
/-- a thing of a world lies in the heap -/
theorem vx_lt {D : va_G} {cl : List vw_C} {ws : va_W} {H1 : Heap} (h : va_P D cl ws H1) {k : Nat} {q : Nat × va_E} (hk : ws[k]? = some q) : q.1 < H1.size := (h k q hk).lt
end VXS
/-! ===== END ===== -/
/-! ===== BEGIN methods with a table of their own: called by a name, returning or throwing ===== -/
section VXH
/-! vx_backW, vx_callVX, vx_callSX, vx_callVW, vx_runVW, vx_runVX, vx_runSX, vx_ofWH follow the same proofs as their sisters above (Free/Laws.lean, Shelf42/LK1.lean); vx_outP calls Shelf42/NT130.lean (outThrough). -/
section
variable {l : Launch} {R : Room} {p : Program} {e : Env} {below : List Frame} {s : State} {sargs : Array Value} {y : MethodName} {len W9 : Nat}
theorem vx_backW {ws : List Cond} {rm : Room} {Pc : Array Value → State → Prop} {Qc : Array Value → State → Outcome → State → Prop} {XC : String → State → State → Prop} {mc ms : Nat} {free : Addr → Prop} {bytes : ByteArray} {maxL : Nat} {ret : Option FieldType} {hh : List (Nat × Nat × Nat × Nat)}
    (hM : vx_Met l y ws rm Pc Qc XC mc ms free) (hblind : FrameBlind Pc) (hrc : rm.cells = mc) (hrs : rm.slots = ms)
    (hframes : rm.frames + 1 ≤ R.frames) (hlocals : W9 + (maxL + 11) + rm.locals ≤ R.locals)
    (hws : ∀ w ∈ ws, ∀ a' U, s.WarmedH U.vm → w.before a' U = true) (hcode : Cond.codeWith y bytes maxL ret hh ∈ ws) (hinit : ∀ a' U, s.WarmedH U.vm → (Cond.initialized y.cls).before a' U = true) :
    vx_Back l R p e below s sargs y len W9 (PreOf R mc ms Pc) (PostOf Qc mc ms free) (vx_Post XC mc ms free) := by
  intro m meth c A g ig mk a X hg hsize hdg hW hn hp
  have h1 : (headSpec ws rm).pre.before a A.U = true := atoms_intro fun w hw => hws w hw _ _ X.warmed
  have h2 : (Cond.codeWith y bytes maxL ret hh).before a A.U = true := hws _ hcode _ _ X.warmed
  have h3 : (Cond.initialized y.cls).before a A.U = true := hinit _ _ X.warmed
  have h4 : A.cells + (headSpec ws rm).room.cells ≤ R.cells := by rw [show (headSpec ws rm).room.cells = mc from hrc]; exact hp.1
  have h5 : A.slots + (headSpec ws rm).room.slots ≤ R.slots := by rw [show (headSpec ws rm).room.slots = ms from hrs]; exact hp.2.1
  have hPc : Pc a (A.U.calling g mk a) := hblind _ _ _ _ hp.2.2
  obtain ⟨U, Ls, c0, s0⟩ := A
  dsimp only [Pt.U, Pt.locs, Pt.cells, Pt.slots] at h1 h2 h3 h4 h5 X hn hPc ⊢
  obtain ⟨m9, methY, cY, hn9, hmY, hcY, -, hlY, -⟩ := Cond.codeWith_spec h2
  cases Option.some.inj (hn9.symm.trans hn)
  obtain ⟨kY, hkY, -⟩ := className_of_methodNamed hn
  have hinitY : kY.init = .initialized := Cond.initialized_spec (findClass_of_methodNamed hn) hkY h3
  have h : At U g.method c below := by rw [hg]; exact X.here
  have hlocals9 : W9 + (maxL + 11) + (headSpec ws rm).room.locals ≤ R.locals := hlocals
  have happ : (headSpec ws rm).appliesLoose y e.platform (U.calling g mk a) = true :=
    Spec.appliesLoose_calling (g := g) h hdg hn hkY hinitY
      (X.room_calling (g := g) (R' := (headSpec ws rm).room) hsize hmY hcY hframes (by rw [hlY]; omega) h4 h5) h1
  obtain ⟨mid, hmid⟩ := h.above
  have hfr : (U.setTop g).frames = (.java g :: mid) ++ below := by rw [State.frames_setTop' g h.top, hmid]; rfl
  obtain ⟨o, s₂, hsteps, -, hend, hq⟩ := Steps.callFree hM p X.admits X.cas X.clock (acts := []) hfr happ hPc trivial
  have hq' : vx_Q Qc XC mc ms free a (U.calling g mk a) o s₂ := hq
  rw [State.frames_setTop' g h.top] at hend
  obtain ⟨g₀, hg0⟩ := Option.isSome_iff_exists.mp h.top
  obtain ⟨r, hr⟩ := State.topJava?_eq_some.mp hg0
  have hr' : (({ U with heap := s₂.heap, slotsUsed := s₂.slotsUsed } : State).setVm s₂.vm).frames = .java g₀ :: r := hr
  rcases hq' with ⟨hqc, L, hfe, hL⟩ | ⟨q, rfl, E, ce, L, hx, hce, hcv, hcl, hW₂, hsm, hL⟩
  · obtain ⟨⟨v, rfl⟩, hW₂, e2, q2, q3, q4, q5, q6⟩ := id hfe
    have e3 : s₂ = ({ (U.calling g mk a).setFrames s₂.frames with heap := s₂.heap, slotsUsed := s₂.slotsUsed } : State).setVm s₂.vm := by
      have : s₂ = ({ s₂ with vm := (U.calling g mk a).vm } : State).setVm s₂.vm := rfl
      rw [e2] at this
      exact this
    obtain ⟨c₂, i₂, len₂, hc₂, hd₂, hf₂⟩ := hend
    have hW' : U.WarmedH s₂.vm := hW₂
    have hcc : c₂ = c := by
      have h1 : s₂.code? g.method = U.code? g.method := by
        rw [State.code?_eq, State.code?_eq, hW'.alike.method?]
      exact Option.some.inj (hc₂.symm.trans (h1.trans h.code))
    subst hcc
    have hlen : len₂ = len := by rw [hdg] at hd₂; cases hd₂; rfl
    subst hlen
    have hs₂ : s₂ = (({ U with heap := s₂.heap, slotsUsed := s₂.slotsUsed } : State).setVm s₂.vm).setTop { g with pc := g.pc + len₂, stack := v.toList ++ g.stack } := by
      refine e3.trans ?_
      rw [hf₂, State.calling_eq h.top, State.setFrames_setFrames, State.setTop_of_frames _ hr', hr]
      rfl
    have hsame : U.sameButNew ({ U with heap := s₂.heap, slotsUsed := s₂.slotsUsed } : State) L mc ms := by
      refine ⟨?_, q2, q3, q4, q5, q6⟩
      obtain ⟨t, ht, -⟩ := State.frames_cons hr
      show ({ U with heap := s₂.heap, slotsUsed := s₂.slotsUsed } : State) = { U.setFrames U.frames with heap := s₂.heap, slotsUsed := s₂.slotsUsed }
      rw [State.setFrames_self ht]
    subst hg
    refine Or.inl ⟨v, ⟨(({ U with heap := s₂.heap, slotsUsed := s₂.slotsUsed } : State).setVm s₂.vm), Ls ++ L, c0 + mc, s0 + ms⟩,
      ⟨X.admits, X.cas, X.clock, X.frames, X.room, X.hears, X.method, X.code, (X.here.setHeapUsed s₂.heap s₂.slotsUsed).setVm hW'.alike, X.tail, State.WarmedH.trans X.warmed hW', X.limits, X.bytes, X.same.trans (hsame.setVm s.vm)⟩,
      ⟨g, mk, s₂, L, rfl, rfl, hqc, rfl, hL, rfl, rfl⟩, ?_⟩
    show Steps p.tables e below _ ((({ U with heap := s₂.heap, slotsUsed := s₂.slotsUsed } : State).setVm s₂.vm).setTop { g with pc := g.pc + len₂, stack := v.toList ++ g.stack })
    rw [← hs₂]
    exact hsteps
  · obtain ⟨e2, q2, q3, q4, q5, q6⟩ := id hsm
    have e3 : s₂ = ({ (U.calling g mk a).setFrames s₂.frames with heap := s₂.heap, slotsUsed := s₂.slotsUsed } : State).setVm s₂.vm := by
      have : s₂ = ({ s₂ with vm := (U.calling g mk a).vm } : State).setVm s₂.vm := rfl
      rw [e2] at this
      exact this
    have hf₂ : s₂.frames = .throwing q :: .java g :: U.frames.tail := hend
    have hW' : U.WarmedH s₂.vm := hW₂
    have hs₂ : s₂ = ((({ U with heap := s₂.heap, slotsUsed := s₂.slotsUsed } : State).setVm s₂.vm).setTop g).pushFrame (.throwing q) := by
      refine e3.trans ?_
      rw [hf₂, State.calling_eq h.top, State.setFrames_setFrames, State.pushFrame, State.frames_setTop _ hr', State.setTop_of_frames _ hr', State.setFrames_setFrames, hr]
      rfl
    have hsame : U.sameButNew ({ U with heap := s₂.heap, slotsUsed := s₂.slotsUsed } : State) L mc ms := by
      refine ⟨?_, q2, q3, q4, q5, q6⟩
      obtain ⟨t, ht, -⟩ := State.frames_cons hr
      show ({ U with heap := s₂.heap, slotsUsed := s₂.slotsUsed } : State) = { U.setFrames U.frames with heap := s₂.heap, slotsUsed := s₂.slotsUsed }
      rw [State.setFrames_self ht]
    subst hg
    refine Or.inr ⟨q, ⟨(({ U with heap := s₂.heap, slotsUsed := s₂.slotsUsed } : State).setVm s₂.vm), Ls ++ L, c0 + mc, s0 + ms⟩,
      ⟨X.admits, X.cas, X.clock, X.frames, X.room, X.hears, X.method, X.code, (X.here.setHeapUsed s₂.heap s₂.slotsUsed).setVm hW'.alike, X.tail, State.WarmedH.trans X.warmed hW', X.limits, X.bytes, X.same.trans (hsame.setVm s.vm)⟩,
      ⟨g, mk, s₂, L, E, ce, rfl, rfl, hx, hce, hcv, hcl, rfl, hL, rfl, rfl⟩, ?_⟩
    show Steps p.tables e below _ (((({ U with heap := s₂.heap, slotsUsed := s₂.slotsUsed } : State).setVm s₂.vm).setTop g).pushFrame (.throwing q))
    rw [← hs₂]
    exact hsteps
end
variable {p : Program} {l : Launch} {e : Env} {R : Room} {s : State} {m : MethodId} {args : Array Value} {below : List Frame} {meth : Method} {c : Code} {T : State} {H : Heap} {locs : List Loc} {cells slots : Nat}
theorem vx_callVX (X : Stand p l e R s m args below meth c T locs cells slots) (hexec : p.tables.exec = Jvm.exec) {own C : String} {index : Nat} {y : MethodName} {bytes : ByteArray} {maxL : Nat} {ret : Option FieldType} {hh : List (Nat × Nat × Nat × Nat)}
    (hown : s.vm.findClass own = some m.cls) (hlink : (Cond.methodLink own index y).before args s = true) (hinst : (Cond.instanceMethod y).before args s = true) (hsel : (Cond.selects C y y).before args s = true)
    (hcode : (Cond.codeWith y bytes maxL ret hh).before args s = true) (hy : y.cls ≠ "java/lang/invoke/MethodHandle" ∧ y.cls ≠ "java/lang/invoke/VarHandle")
    {W9 : Nat} {Pre : Pt → Array Value → Prop} {Post : Pt → Array Value → Option Value → Pt → Prop} {PostX : Pt → Array Value → Addr → Pt → Prop} (hK : vx_Back l R p e below s args y 3 W9 Pre Post PostX)
    {b : Addr} {cellB : Cell} (hcell : T.heap[b]? = some cellB) (hobj : cellB.vm.isStatics = false) (hcls : s.vm.findClass C = some cellB.cls)
    {g : JFrame} (hg : g.method = m) (hsize : g.locals.size = c.maxLocals) {argsL rest : List Value} (hlen : ∀ sig, parseMethodDescriptor y.desc = some sig → argsL.length = sig.parameters.length)
    (hstack : g.stack = argsL.reverse ++ .ref b :: rest) (hW : 2 * g.monitorRoom + (rest.map fun v => v.category).sum ≤ W9) (hdg : decode c.code g.pc = .ok (.invokevirtual index, 3))
    (hpre : ∀ vm₁, s.WarmedH vm₁ → Pre ⟨T.setVm vm₁, locs, cells, slots⟩ (Value.ref b :: argsL).toArray) :
    (∃ (v : Option Value) (vm₁ : Vm) (B : Pt), s.WarmedH vm₁ ∧ Stand p l e R s m args below meth c B.U B.locs B.cells B.slots ∧ Post ⟨T.setVm vm₁, locs, cells, slots⟩ (Value.ref b :: argsL).toArray v B ∧
      ∀ target, Steps p.tables e below (B.U.setTop { g with pc := g.pc + 3, stack := v.toList ++ rest }) target → Steps p.tables e below (T.setTop g) target) ∨
    (∃ (q : Addr) (vm₁ : Vm) (B : Pt), s.WarmedH vm₁ ∧ Stand p l e R s m args below meth c B.U B.locs B.cells B.slots ∧ PostX ⟨T.setVm vm₁, locs, cells, slots⟩ (Value.ref b :: argsL).toArray q B ∧
      Steps p.tables e below (T.setTop g) ((B.U.setTop { g with stack := rest }).pushFrame (.throwing q))) := by
  obtain ⟨mk, methM, hnamed, hmethM, hstM, habM⟩ := Cond.instanceMethod_spec hinst
  obtain ⟨m8, methM', cM, hn8, hmethM', -, -, -, -, -, -, hsigM⟩ := Cond.codeWith_spec hcode
  cases Option.some.inj (hn8.symm.trans hnamed)
  cases hmethM.symm.trans hmethM'
  obtain ⟨c2, r2, m2, q1, q2, q3, q4, kP, hkP, hkPi⟩ := Cond.selects_spec hsel
  cases hcls.symm.trans q1
  cases (State.methodFound?_of_named hnamed hy).symm.trans q2
  cases hnamed.symm.trans q3
  have hselP : selectMethod e.platform s.vm cellB.cls mk = .method mk := by rw [Launch.admits_selectMethod X.admits]; exact q4
  obtain ⟨vm₁, X₁, hstep₁⟩ := X.invokevirtual hexec hown hlink hnamed hmethM hstM hkP hkPi hy (a := b) (cell := cellB) hcell
    (fun z h => by rw [h] at hobj; cases hobj) hselP hmethM habM hkP hkPi (g := g) hg (argsL := argsL) (rest := rest) (hlen _ hsigM) hstack hdg
  rcases hK m meth c ⟨T.setVm vm₁, locs, cells, slots⟩ { g with stack := rest } (.invokevirtual index) mk (Value.ref b :: argsL).toArray X₁ hg hsize hdg hW (X₁.named hnamed) (hpre vm₁ X₁.warmed) with ⟨v, B, X', hpost, hsteps⟩ | ⟨q, B, X', hpost, hsteps⟩
  · exact Or.inl ⟨v, vm₁, B, X₁.warmed, X', hpost, fun target h => hstep₁ _ fun acts => by rw [doInvoke_state]; exact hsteps.trans h⟩
  · exact Or.inr ⟨q, vm₁, B, X₁.warmed, X', hpost, hstep₁ _ fun acts => by rw [doInvoke_state]; exact hsteps⟩
theorem vx_callSX (X : Stand p l e R s m args below meth c T locs cells slots) (hexec : p.tables.exec = Jvm.exec) {own : String} {index : Nat} {y : MethodName} {bytes : ByteArray} {maxL : Nat} {ret : Option FieldType} {hh : List (Nat × Nat × Nat × Nat)}
    (hown : s.vm.findClass own = some m.cls) (hlink : (Cond.methodLink own index y).before args s = true) (hstat : (Cond.static y).before args s = true) (hinit : (Cond.initialized y.cls).before args s = true)
    (hcode : (Cond.codeWith y bytes maxL ret hh).before args s = true) (hy : y.cls ≠ "java/lang/invoke/MethodHandle" ∧ y.cls ≠ "java/lang/invoke/VarHandle")
    {W9 : Nat} {Pre : Pt → Array Value → Prop} {Post : Pt → Array Value → Option Value → Pt → Prop} {PostX : Pt → Array Value → Addr → Pt → Prop} (hK : vx_Back l R p e below s args y 3 W9 Pre Post PostX)
    {g : JFrame} (hg : g.method = m) (hsize : g.locals.size = c.maxLocals) {argsL rest : List Value} (hlen : ∀ sig, parseMethodDescriptor y.desc = some sig → argsL.length = sig.parameters.length)
    (hstack : g.stack = argsL.reverse ++ rest) (hW : 2 * g.monitorRoom + (rest.map fun v => v.category).sum ≤ W9) (hdg : decode c.code g.pc = .ok (.invokestatic index, 3))
    (hpre : ∀ vm₁, s.WarmedH vm₁ → Pre ⟨T.setVm vm₁, locs, cells, slots⟩ argsL.toArray) :
    (∃ (v : Option Value) (vm₁ : Vm) (B : Pt), s.WarmedH vm₁ ∧ Stand p l e R s m args below meth c B.U B.locs B.cells B.slots ∧ Post ⟨T.setVm vm₁, locs, cells, slots⟩ argsL.toArray v B ∧
      ∀ target, Steps p.tables e below (B.U.setTop { g with pc := g.pc + 3, stack := v.toList ++ rest }) target → Steps p.tables e below (T.setTop g) target) ∨
    (∃ (q : Addr) (vm₁ : Vm) (B : Pt), s.WarmedH vm₁ ∧ Stand p l e R s m args below meth c B.U B.locs B.cells B.slots ∧ PostX ⟨T.setVm vm₁, locs, cells, slots⟩ argsL.toArray q B ∧
      Steps p.tables e below (T.setTop g) ((B.U.setTop { g with stack := rest }).pushFrame (.throwing q))) := by
  obtain ⟨mk, methM, cM, hnamed, hmethM, -, -, -, -, -, -, hsigM⟩ := Cond.codeWith_spec hcode
  have hstatic : methM.isStatic = true := Cond.static_spec hnamed hmethM hstat
  obtain ⟨kP, hkP, -⟩ := className_of_methodNamed hnamed
  have hinitP : kP.init = .initialized := Cond.initialized_spec (findClass_of_methodNamed hnamed) hkP hinit
  obtain ⟨vm₁, X₁, hstep₁⟩ := X.invokestatic hexec hown hlink hnamed hmethM hstatic hkP hinitP hy (g := g) hg (argsL := argsL) (rest := rest) (hlen _ hsigM) hstack hdg
  rcases hK m meth c ⟨T.setVm vm₁, locs, cells, slots⟩ { g with stack := rest } (.invokestatic index) mk argsL.toArray X₁ hg hsize hdg hW (X₁.named hnamed) (hpre vm₁ X₁.warmed) with ⟨v, B, X', hpost, hsteps⟩ | ⟨q, B, X', hpost, hsteps⟩
  · exact Or.inl ⟨v, vm₁, B, X₁.warmed, X', hpost, fun target h => hstep₁ _ fun acts => by rw [doInvoke_state]; exact hsteps.trans h⟩
  · exact Or.inr ⟨q, vm₁, B, X₁.warmed, X', hpost, hstep₁ _ fun acts => by rw [doInvoke_state]; exact hsteps⟩
theorem vx_callVW (X : Stand p l e R s m args below meth c T locs cells slots) (hexec : p.tables.exec = Jvm.exec) {own C : String} {index : Nat} {y : MethodName} {bytes : ByteArray} {maxL : Nat} {ret : Option FieldType} {hh : List (Nat × Nat × Nat × Nat)}
    (hown : s.vm.findClass own = some m.cls) (hlink : (Cond.methodLink own index y).before args s = true) (hinst : (Cond.instanceMethod y).before args s = true) (hsel : (Cond.selects C y y).before args s = true)
    (hcode : (Cond.codeWith y bytes maxL ret hh).before args s = true) (hy : y.cls ≠ "java/lang/invoke/MethodHandle" ∧ y.cls ≠ "java/lang/invoke/VarHandle")
    {W9 : Nat} {Pre : Pt → Array Value → Prop} {Post : Pt → Array Value → Option Value → Pt → Prop} (hK : Back l R p e below s args y 3 W9 Pre Post)
    {b : Addr} {cellB : Cell} (hcell : T.heap[b]? = some cellB) (hobj : cellB.vm.isStatics = false) (hcls : s.vm.findClass C = some cellB.cls)
    {g : JFrame} (hg : g.method = m) (hsize : g.locals.size = c.maxLocals) {argsL rest : List Value} (hlen : ∀ sig, parseMethodDescriptor y.desc = some sig → argsL.length = sig.parameters.length)
    (hstack : g.stack = argsL.reverse ++ .ref b :: rest) (hW : 2 * g.monitorRoom + (rest.map fun v => v.category).sum ≤ W9) (hdg : decode c.code g.pc = .ok (.invokevirtual index, 3))
    (hpre : ∀ vm₁, s.WarmedH vm₁ → Pre ⟨T.setVm vm₁, locs, cells, slots⟩ (Value.ref b :: argsL).toArray) :
    ∃ (v : Option Value) (vm₁ : Vm) (B : Pt), s.WarmedH vm₁ ∧ Stand p l e R s m args below meth c B.U B.locs B.cells B.slots ∧ Post ⟨T.setVm vm₁, locs, cells, slots⟩ (Value.ref b :: argsL).toArray v B ∧
      ∀ target, Steps p.tables e below (B.U.setTop { g with pc := g.pc + 3, stack := v.toList ++ rest }) target → Steps p.tables e below (T.setTop g) target := by
  obtain ⟨mk, methM, hnamed, hmethM, hstM, habM⟩ := Cond.instanceMethod_spec hinst
  obtain ⟨m8, methM', cM, hn8, hmethM', -, -, -, -, -, -, hsigM⟩ := Cond.codeWith_spec hcode
  cases Option.some.inj (hn8.symm.trans hnamed)
  cases hmethM.symm.trans hmethM'
  obtain ⟨c2, r2, m2, q1, q2, q3, q4, kP, hkP, hkPi⟩ := Cond.selects_spec hsel
  cases hcls.symm.trans q1
  cases (State.methodFound?_of_named hnamed hy).symm.trans q2
  cases hnamed.symm.trans q3
  have hselP : selectMethod e.platform s.vm cellB.cls mk = .method mk := by rw [Launch.admits_selectMethod X.admits]; exact q4
  obtain ⟨vm₁, X₁, hstep₁⟩ := X.invokevirtual hexec hown hlink hnamed hmethM hstM hkP hkPi hy (a := b) (cell := cellB) hcell
    (fun z h => by rw [h] at hobj; cases hobj) hselP hmethM habM hkP hkPi (g := g) hg (argsL := argsL) (rest := rest) (hlen _ hsigM) hstack hdg
  obtain ⟨v, B, X', hpost, hsteps⟩ := hK m meth c ⟨T.setVm vm₁, locs, cells, slots⟩ { g with stack := rest } (.invokevirtual index) mk (Value.ref b :: argsL).toArray X₁ hg hsize hdg hW (X₁.named hnamed) (hpre vm₁ X₁.warmed)
  exact ⟨v, vm₁, B, X₁.warmed, X', hpost, fun target h => hstep₁ _ fun acts => by rw [doInvoke_state]; exact hsteps.trans h⟩
abbrev vx_CVW (R : Room) (s : State) (args : Array Value) (own C : String) (index : Nat) (y : MethodName) (bytes : ByteArray) (maxL : Nat) (ret : Option FieldType) (hh : List (Nat × Nat × Nat × Nat)) (ws : List Cond) (rm : Room) (mc ms n : Nat) : Prop :=
  (rm.cells = mc ∧ rm.slots = ms ∧ rm.frames + 1 ≤ R.frames ∧ 8 + (maxL + 11) + rm.locals ≤ R.locals ∧ (∀ w ∈ ws, ∀ (a' : Array Value) (U : State), s.WarmedH U.vm → w.before a' U = true) ∧ Cond.codeWith y bytes maxL ret hh ∈ ws) ∧
  (Cond.codeWith y bytes maxL ret hh).before args s = true ∧ (Cond.initialized y.cls).before args s = true ∧ (y.cls ≠ "java/lang/invoke/MethodHandle" ∧ y.cls ≠ "java/lang/invoke/VarHandle") ∧
  (∀ sig, parseMethodDescriptor y.desc = some sig → n = sig.parameters.length) ∧ (Cond.methodLink own index y).before args s = true ∧ (Cond.instanceMethod y).before args s = true ∧ (Cond.selects C y y).before args s = true
theorem vx_cwVW {own C : String} {index maxL mc ms : Nat} {y : MethodName} {bytes : ByteArray} {ret : Option FieldType} {hh : List (Nat × Nat × Nat × Nat)} {Ts ws ws' : List Cond} {rm : Room} (n : Nat) (ht : ∀ w ∈ Ts, w.before args s = true) (hT : GoodIn Ts (wsV own index C y ws)) (hw : ws = Cond.codeWith y bytes maxL ret hh :: ws') (hrc : rm.cells = mc) (hrs : rm.slots = ms)
    (hd : y.cls = C ∧ y.cls ≠ "java/lang/invoke/MethodHandle" ∧ y.cls ≠ "java/lang/invoke/VarHandle" ∧ (parseMethodDescriptor y.desc).map (fun d => d.parameters.length) = some n) (hR : rm.frames + 1 ≤ R.frames ∧ 8 + (maxL + 11) + rm.locals ≤ R.locals) :
    vx_CVW R s args own C index y bytes maxL ret hh ws rm mc ms n := by
  obtain ⟨hC, hd⟩ := hd
  subst hC
  have ok : ∀ w ∈ wsV own index y.cls y ws, w.before args s = true := fun w h => ht w (hT w h).1
  have hG : GoodIn Ts ws := fun w h => hT w (by unfold wsV; exact List.mem_append_right _ h)
  have hc : Cond.codeWith y bytes maxL ret hh ∈ ws := by rw [hw]; exact List.mem_cons_self
  refine ⟨⟨hrc, hrs, hR.1, hR.2, pay_in ht hG, hc⟩, ht _ (hG _ hc).1, ok _ (by simp [wsV]), ⟨hd.1, hd.2.1⟩, fun sig h => ?_, ok _ (by simp [wsV]), ok _ (by simp [wsV]), ok _ (by simp [wsV])⟩
  have h2 := hd.2.2
  rw [h] at h2
  exact (Option.some.inj h2).symm
theorem vx_runVW {y : MethodName} {bytes cc : ByteArray} {maxL nL mc ms n index : Nat} {ret : Option FieldType} {hh : List (Nat × Nat × Nat × Nat)} {ws : List Cond} {rm : Room} {Pc : Array Value → State → Prop} {Qc : Array Value → State → Outcome → State → Prop} {free : Addr → Prop} {Ts : List Cond} {own C : String} {b : Addr} {As rest : List Value} {g : JFrame}
    (S : CallFix p m c cc nL s args Ts own) (hM : Met l y ws rm Pc Qc mc ms free) (cw : vx_CVW R s args own C index y bytes maxL ret hh ws rm mc ms n) (hp : PreV s H C b Pc As)
    (hg : g.method = m) (hn : As.length = n) (hsize : g.locals.size = nL) (hstack : g.stack = As.reverse ++ .ref b :: rest) (hW : 2 * g.monitorRoom + (rest.map fun v => v.category).sum ≤ 8) (hdg : decode cc g.pc = .ok (.invokevirtual index, 3)) (hf : cells + mc ≤ R.cells ∧ slots + ms ≤ R.slots) :
    va_Run p l e R s m args below meth c H locs cells slots mc ms g rest (Qc (Value.ref b :: As).toArray) free := by
  obtain ⟨⟨hrc, hrs, hfr, hlo, hws, hcw⟩, hcode, hini, hy, hlen, hl, hin, hse⟩ := cw
  have hK : Back l R p e below s args y 3 8 (PreOf R mc ms Pc) (PostOf Qc mc ms free) := va_backW (hh := hh) (bytes := bytes) (maxL := maxL) (ret := ret) hM hp.1 hrc hrs hfr hlo hws hcw (fun a' U hW => word_at hW (Or.inl (by first | rfl | simp [Cond.onTables, Cond.keeps, Cond.steady])) hini)
  obtain ⟨hx, hb, hml, ho, -⟩ := S
  obtain ⟨-, ⟨cellB, hcB, hoB, hclB⟩, hPc⟩ := hp
  intro T hT X
  obtain ⟨v, vm₁, ⟨U', l2, c2, s2⟩, hW₁, X', ⟨g', mk, t, L, e1, e2, hq, h1, hL, h2, h3⟩, st⟩ := vx_callVW X hx (C := C) (hh := hh) (bytes := bytes) (maxL := maxL) (ret := ret) ho hl hin hse hcode hy hK (by rw [hT]; exact hcB) hoB hclB hg (hsize.trans hml.symm) (argsL := As) (rest := rest) (fun sig h => hn.trans (hlen sig h)) hstack hW (by rw [hb]; exact hdg)
    (fun vm₁ hW₁ => ⟨hf.1, hf.2, hPc (T.setVm vm₁) hT hW₁⟩)
  dsimp only [Pt.U, Pt.locs, Pt.cells, Pt.slots] at X' e1 e2 h1 h2 h3 st
  subst h1; subst h2; subst h3
  exact ⟨v, (T.setVm vm₁).calling g' mk (Value.ref b :: As).toArray, t, U', L, hT, X', hL, e1, e2, hq, st⟩
section
variable {y : MethodName} {bytes cc : ByteArray} {maxL nL mc ms n index : Nat} {ret : Option FieldType} {ws : List Cond} {rm : Room} {Pc : Array Value → State → Prop} {Qc : Array Value → State → Outcome → State → Prop} {XC : String → State → State → Prop} {free : Addr → Prop} {Ts : List Cond} {own C : String} {b : Addr} {As rest : List Value} {g : JFrame}
theorem vx_runVX {hh : List (Nat × Nat × Nat × Nat)} (S : CallFix p m c cc nL s args Ts own) (hM : vx_Met l y ws rm Pc Qc XC mc ms free) (cw : vx_CVW R s args own C index y bytes maxL ret hh ws rm mc ms n) (hp : PreV s H C b Pc As)
    (hg : g.method = m) (hn : As.length = n) (hsize : g.locals.size = nL) (hstack : g.stack = As.reverse ++ .ref b :: rest) (hW : 2 * g.monitorRoom + (rest.map fun v => v.category).sum ≤ 8) (hdg : decode cc g.pc = .ok (.invokevirtual index, 3)) (hf : cells + mc ≤ R.cells ∧ slots + ms ≤ R.slots) :
    vx_Run p l e R s m args below meth c H locs cells slots mc ms g rest (Qc (Value.ref b :: As).toArray) XC free := by
  obtain ⟨⟨hrc, hrs, hfr, hlo, hws, hcw⟩, hcode, hini, hy, hlen, hl, hin, hse⟩ := cw
  have hK : vx_Back l R p e below s args y 3 8 (PreOf R mc ms Pc) (PostOf Qc mc ms free) (vx_Post XC mc ms free) := vx_backW (hh := hh) (bytes := bytes) (maxL := maxL) (ret := ret) hM hp.1 hrc hrs hfr hlo hws hcw (fun a' U hW => word_at hW (Or.inl (by first | rfl | simp [Cond.onTables, Cond.keeps, Cond.steady])) hini)
  obtain ⟨hx, hb, hml, ho, -⟩ := S
  obtain ⟨-, ⟨cellB, hcB, hoB, hclB⟩, hPc⟩ := hp
  intro T hT X
  rcases vx_callVX X hx (C := C) (hh := hh) (bytes := bytes) (maxL := maxL) (ret := ret) ho hl hin hse hcode hy hK (by rw [hT]; exact hcB) hoB hclB hg (hsize.trans hml.symm) (argsL := As) (rest := rest) (fun sig h => hn.trans (hlen sig h)) hstack hW (by rw [hb]; exact hdg)
    (fun vm₁ hW₁ => ⟨hf.1, hf.2, hPc (T.setVm vm₁) hT hW₁⟩) with ⟨v, vm₁, ⟨U', l2, c2, s2⟩, hW₁, X', ⟨g', mk, t, L, e1, e2, hq, h1, hL, h2, h3⟩, st⟩ | ⟨q, vm₁, ⟨U', l2, c2, s2⟩, hW₁, X', ⟨g', mk, t, L, E, ce, e1, e2, hq, hce, hcv, hcl, h1, hL, h2, h3⟩, st⟩
  · dsimp only [Pt.U, Pt.locs, Pt.cells, Pt.slots] at X' e1 e2 h1 h2 h3 st
    subst h1; subst h2; subst h3
    exact Or.inl ⟨v, (T.setVm vm₁).calling g' mk (Value.ref b :: As).toArray, t, U', L, hT, X', hL, e1, e2, hq, st⟩
  · dsimp only [Pt.U, Pt.locs, Pt.cells, Pt.slots] at X' e1 e2 h1 h2 h3 st hcl
    subst h1; subst h2; subst h3
    exact Or.inr ⟨q, (T.setVm vm₁).calling g' mk (Value.ref b :: As).toArray, t, U', L, E, ce, hT, X', hL, e1, e2, hq, hce, hcv, vx_cls hW₁ hcl, st⟩
theorem vx_runSX {hh : List (Nat × Nat × Nat × Nat)} (S : CallFix p m c cc nL s args Ts own) (hM : vx_Met l y ws rm Pc Qc XC mc ms free) (cw : vx_CSW R s args own index y bytes maxL ret hh ws rm mc ms n) (hp : PreS s H Pc As)
    (hg : g.method = m) (hn : As.length = n) (hsize : g.locals.size = nL) (hstack : g.stack = As.reverse ++ rest) (hW : 2 * g.monitorRoom + (rest.map fun v => v.category).sum ≤ 8) (hdg : decode cc g.pc = .ok (.invokestatic index, 3)) (hf : cells + mc ≤ R.cells ∧ slots + ms ≤ R.slots) :
    vx_Run p l e R s m args below meth c H locs cells slots mc ms g rest (Qc As.toArray) XC free := by
  obtain ⟨⟨hrc, hrs, hfr, hlo, hws, hcw⟩, hcode, hini, hy, hlen, hl, hstt⟩ := cw
  have hK : vx_Back l R p e below s args y 3 8 (PreOf R mc ms Pc) (PostOf Qc mc ms free) (vx_Post XC mc ms free) := vx_backW (hh := hh) (bytes := bytes) (maxL := maxL) (ret := ret) hM hp.1 hrc hrs hfr hlo hws hcw (fun a' U hW => word_at hW (Or.inl (by first | rfl | simp [Cond.onTables, Cond.keeps, Cond.steady])) hini)
  obtain ⟨hx, hb, hml, ho, -⟩ := S
  intro T hT X
  rcases vx_callSX X hx (hh := hh) (bytes := bytes) (maxL := maxL) (ret := ret) ho hl hstt hini hcode hy hK hg (hsize.trans hml.symm) (argsL := As) (rest := rest) (fun sig h => hn.trans (hlen sig h)) hstack hW (by rw [hb]; exact hdg)
    (fun vm₁ hW₁ => ⟨hf.1, hf.2, hp.2 (T.setVm vm₁) hT hW₁⟩) with ⟨v, vm₁, ⟨U', l2, c2, s2⟩, hW₁, X', ⟨g', mk, t, L, e1, e2, hq, h1, hL, h2, h3⟩, st⟩ | ⟨q, vm₁, ⟨U', l2, c2, s2⟩, hW₁, X', ⟨g', mk, t, L, E, ce, e1, e2, hq, hce, hcv, hcl, h1, hL, h2, h3⟩, st⟩
  · dsimp only [Pt.U, Pt.locs, Pt.cells, Pt.slots] at X' e1 e2 h1 h2 h3 st
    subst h1; subst h2; subst h3
    exact Or.inl ⟨v, (T.setVm vm₁).calling g' mk As.toArray, t, U', L, hT, X', hL, e1, e2, hq, st⟩
  · dsimp only [Pt.U, Pt.locs, Pt.cells, Pt.slots] at X' e1 e2 h1 h2 h3 st hcl
    subst h1; subst h2; subst h3
    exact Or.inr ⟨q, (T.setVm vm₁).calling g' mk As.toArray, t, U', L, E, ce, hT, X', hL, e1, e2, hq, hce, hcv, vx_cls hW₁ hcl, st⟩
end
end VXH
theorem vx_ofWH {l : Launch} {y : MethodName} {ws ws' : List Cond} {rm : Room} {Pc : Array Value → State → Prop} {Qc : Array Value → State → Outcome → State → Prop} {XC : String → State → State → Prop} {mc ms : Nat} {free : Addr → Prop} {cc : ByteArray} {maxL : Nat} {ret : Option FieldType} {hh : List (Nat × Nat × Nat × Nat)}
    (hy : plainName y.cls = true) (hw : ws = Cond.codeWith y cc maxL ret hh :: ws')
    (body : ∀ p e s m args below meth c s₁, BodyLoose p l y (headSpec ws rm) cc maxL ret e s m args below meth c s₁ → c.maxLocals = maxL → Pc args s →
      W p l e (headSpec ws rm).room s m args below meth c s.heap [] 0 0 (vx_MQ below Qc XC args s mc ms free) (entryFrame m args maxL)) : vx_Met l y ws rm Pc Qc XC mc ms free := by
  refine MetFree.of_bodyS (code := cc) (maxLocals := maxL) (ret := ret) hy ?_ ?_
  · intro args s m h hn
    obtain ⟨m9, meth, c, hn9, h1, h2, h3, h4, -, h5, h6, -⟩ := Cond.codeWith_spec (atoms_spec (ws := ws) h _ (by rw [hw]; exact List.mem_cons_self))
    cases hn.symm.trans hn9
    exact ⟨meth, c, h1, h2, h3, h4, h5, h6⟩
  · intro p e s m args below meth c s₁ B hml hP _
    have hh0 : s₁.heap = s.heap := by rw [B.state]; rfl
    obtain ⟨t, a1, o, b1, b2, b3⟩ := body p e s m args below meth c s₁ B hml hP s₁ hh0 (Stand.of_body B)
    exact ⟨t, o, a1, b1, b2, b3⟩
/-! ===== END ===== -/
/-! ===== BEGIN a constructor that throws (launches without stack traces) ===== -/
section VXIA
variable {p : Program} {l : Launch} {e : Env} {R : Room} {s : State} {m : MethodId} {args : Array Value} {below : List Frame} {meth : Method} {c : Code} {T : State} {locs : List Loc} {cells slots : Nat}
theorem vx_callI (X : Stand p l e R s m args below meth c T locs cells slots) (hexec : p.tables.exec = Jvm.exec) {own : String} {index : Nat} {y : MethodName} {bytes : ByteArray} {maxL : Nat}
    (hown : s.vm.findClass own = some m.cls) (hy1 : y.name = "<init>") (hlink : (Cond.methodLink own index y).before args s = true) (hinst : (Cond.instanceMethod y).before args s = true)
    (hcode : (Cond.code y bytes maxL none).before args s = true) (hy : y.cls ≠ "java/lang/invoke/MethodHandle" ∧ y.cls ≠ "java/lang/invoke/VarHandle")
    {W9 : Nat} {Pre : Pt → Array Value → Prop} {Post : Pt → Array Value → Option Value → Pt → Prop} {PostX : Pt → Array Value → Addr → Pt → Prop} (hK : vx_Back l R p e below s args y 3 W9 Pre Post PostX)
    {g : JFrame} (hg : g.method = m) (hsize : g.locals.size = c.maxLocals) {a : Addr} {argsL rest : List Value} (hlen : ∀ sig, parseMethodDescriptor y.desc = some sig → argsL.length = sig.parameters.length)
    (hstack : g.stack = argsL.reverse ++ .ref a :: rest) (hW : 2 * g.monitorRoom + (rest.map fun v => v.category).sum ≤ W9) (hdg : decode c.code g.pc = .ok (.invokespecial index, 3))
    (hpre : ∀ vm₁, s.WarmedH vm₁ → Pre ⟨T.setVm vm₁, locs, cells, slots⟩ (Value.ref a :: argsL).toArray) :
    (∃ (v : Option Value) (vm₁ : Vm) (B : Pt), s.WarmedH vm₁ ∧ Stand p l e R s m args below meth c B.U B.locs B.cells B.slots ∧ Post ⟨T.setVm vm₁, locs, cells, slots⟩ (Value.ref a :: argsL).toArray v B ∧
      ∀ target, Steps p.tables e below (B.U.setTop { g with pc := g.pc + 3, stack := v.toList ++ rest }) target → Steps p.tables e below (T.setTop g) target) ∨
    (∃ (q : Addr) (vm₁ : Vm) (B : Pt), s.WarmedH vm₁ ∧ Stand p l e R s m args below meth c B.U B.locs B.cells B.slots ∧ PostX ⟨T.setVm vm₁, locs, cells, slots⟩ (Value.ref a :: argsL).toArray q B ∧
      Steps p.tables e below (T.setTop g) ((B.U.setTop { g with stack := rest }).pushFrame (.throwing q))) := by
  subst hg
  have hpl : e.platform.magicAccessors = ({} : Platform).magicAccessors := by rw [X.admits.platform]
  obtain ⟨mk, methM, cM, kP, vm₁, hnamed, hmethM, hcodeM, -, hlocalsM, -, hkP, -, hW₁, hstep₁⟩ := Steps.initColdArgs (e := e) X.here hexec X.warmed hpl hown hy1 hy hlink hinst hcode (f := g) rfl hlen hstack hdg
  have X₁ := X.noted hW₁
  rcases hK g.method meth c ⟨T.setVm vm₁, locs, cells, slots⟩ { g with stack := rest } (.invokespecial index) mk (Value.ref a :: argsL).toArray X₁ rfl hsize hdg hW (X₁.named hnamed) (hpre vm₁ X₁.warmed) with ⟨v, B, X', hpost, hsteps⟩ | ⟨q, B, X', hpost, hsteps⟩
  · exact Or.inl ⟨v, vm₁, B, X₁.warmed, X', hpost, fun target h => hstep₁ _ fun acts => by rw [doInvoke_state]; exact hsteps.trans h⟩
  · exact Or.inr ⟨q, vm₁, B, X₁.warmed, X', hpost, hstep₁ _ fun acts => by rw [doInvoke_state]; exact hsteps⟩
end VXIA
section VXIB
variable {p : Program} {l : Launch} {e : Env} {R : Room} {s : State} {m : MethodId} {args : Array Value} {below : List Frame} {meth : Method} {c : Code} {H : Heap} {locs : List Loc} {cells slots : Nat}
variable {y : MethodName} {bytes cc : ByteArray} {maxL nL mc ms n index : Nat} {ret : Option FieldType} {ws : List Cond} {rm : Room} {Pc : Array Value → State → Prop} {Qc : Array Value → State → Outcome → State → Prop} {XC : String → State → State → Prop} {free : Addr → Prop} {Ts : List Cond} {own C : String} {b : Addr} {As rest : List Value} {g : JFrame}
theorem vx_runI (S : CallFix p m c cc nL s args Ts own) (hM : vx_Met l y ws rm Pc Qc XC mc ms free) (cw : CallB R s args own index y bytes maxL none ws rm mc ms n ∧ y.name = "<init>" ∧ (Cond.instanceMethod y).before args s = true) (hp : PreS s H Pc (.ref b :: As))
    (hg : g.method = m) (hn : As.length = n) (hsize : g.locals.size = nL) (hstack : g.stack = As.reverse ++ .ref b :: rest) (hW : 2 * g.monitorRoom + (rest.map fun v => v.category).sum ≤ 8) (hdg : decode cc g.pc = .ok (.invokespecial index, 3)) (hf : cells + mc ≤ R.cells ∧ slots + ms ≤ R.slots) :
    vx_Run p l e R s m args below meth c H locs cells slots mc ms g rest (Qc (Value.ref b :: As).toArray) XC free := by
  have hK : vx_Back l R p e below s args y 3 8 (PreOf R mc ms Pc) (PostOf Qc mc ms free) (vx_Post XC mc ms free) := vx_callBack cw.1 hM hp.1
  obtain ⟨⟨-, -, -, -, -, -, hcode, -, hy, hlen, hl⟩, hy1, hin⟩ := cw
  obtain ⟨hx, hb, hml, ho, -⟩ := S
  have hPc := hp.2
  intro T hT X
  rcases vx_callI X hx (bytes := bytes) (maxL := maxL) ho hy1 hl hin hcode hy hK hg (hsize.trans hml.symm) (a := b) (argsL := As) (rest := rest) (fun sig h => hn.trans (hlen sig h)) hstack hW (by rw [hb]; exact hdg)
    (fun vm₁ hW₁ => ⟨hf.1, hf.2, hPc (T.setVm vm₁) hT hW₁⟩) with ⟨v, vm₁, ⟨U', l2, c2, s2⟩, hW₁, X', ⟨g', mk, t, L, e1, e2, hq, h1, hL, h2, h3⟩, st⟩ | ⟨q, vm₁, ⟨U', l2, c2, s2⟩, hW₁, X', ⟨g', mk, t, L, E, ce, e1, e2, hq, hce, hcv, hcl, h1, hL, h2, h3⟩, st⟩
  · dsimp only [Pt.U, Pt.locs, Pt.cells, Pt.slots] at X' e1 e2 h1 h2 h3 st
    subst h1; subst h2; subst h3
    exact Or.inl ⟨v, (T.setVm vm₁).calling g' mk (Value.ref b :: As).toArray, t, U', L, hT, X', hL, e1, e2, hq, st⟩
  · dsimp only [Pt.U, Pt.locs, Pt.cells, Pt.slots] at X' e1 e2 h1 h2 h3 st hcl
    subst h1; subst h2; subst h3
    exact Or.inr ⟨q, (T.setVm vm₁).calling g' mk (Value.ref b :: As).toArray, t, U', L, E, ce, hT, X', hL, e1, e2, hq, hce, hcv, vx_cls hW₁ hcl, st⟩
end VXIB
/-! ===== END ===== -/
/-! ===== BEGIN a private constructor of a nest mate that throws ===== -/
section VXIC
variable {p : Program} {l : Launch} {e : Env} {R : Room} {s : State} {m : MethodId} {args : Array Value} {below : List Frame} {meth : Method} {c : Code} {T : State} {locs : List Loc} {cells slots : Nat}
theorem vx_callIN (X : Stand p l e R s m args below meth c T locs cells slots) (hexec : p.tables.exec = Jvm.exec) {own : String} {index : Nat} {host : String} {y : MethodName} {bytes : ByteArray} {maxL : Nat}
    (hown : s.vm.findClass own = some m.cls) (hy1 : y.name = "<init>") (hlink : (Cond.methodLinkNest own index y host).before args s = true) (hinst : (Cond.instanceMethod y).before args s = true)
    (hcode : (Cond.code y bytes maxL none).before args s = true) (hy : y.cls ≠ "java/lang/invoke/MethodHandle" ∧ y.cls ≠ "java/lang/invoke/VarHandle")
    {W9 : Nat} {Pre : Pt → Array Value → Prop} {Post : Pt → Array Value → Option Value → Pt → Prop} {PostX : Pt → Array Value → Addr → Pt → Prop} (hK : vx_Back l R p e below s args y 3 W9 Pre Post PostX)
    {g : JFrame} (hg : g.method = m) (hsize : g.locals.size = c.maxLocals) {a : Addr} {argsL rest : List Value} (hlen : ∀ sig, parseMethodDescriptor y.desc = some sig → argsL.length = sig.parameters.length)
    (hstack : g.stack = argsL.reverse ++ .ref a :: rest) (hW : 2 * g.monitorRoom + (rest.map fun v => v.category).sum ≤ W9) (hdg : decode c.code g.pc = .ok (.invokespecial index, 3))
    (hpre : ∀ vm₁, s.WarmedH vm₁ → Pre ⟨T.setVm vm₁, locs, cells, slots⟩ (Value.ref a :: argsL).toArray) :
    (∃ (v : Option Value) (vm₁ : Vm) (B : Pt), s.WarmedH vm₁ ∧ Stand p l e R s m args below meth c B.U B.locs B.cells B.slots ∧ Post ⟨T.setVm vm₁, locs, cells, slots⟩ (Value.ref a :: argsL).toArray v B ∧
      ∀ target, Steps p.tables e below (B.U.setTop { g with pc := g.pc + 3, stack := v.toList ++ rest }) target → Steps p.tables e below (T.setTop g) target) ∨
    (∃ (q : Addr) (vm₁ : Vm) (B : Pt), s.WarmedH vm₁ ∧ Stand p l e R s m args below meth c B.U B.locs B.cells B.slots ∧ PostX ⟨T.setVm vm₁, locs, cells, slots⟩ (Value.ref a :: argsL).toArray q B ∧
      Steps p.tables e below (T.setTop g) ((B.U.setTop { g with stack := rest }).pushFrame (.throwing q))) := by
  subst hg
  have hpl : e.platform.magicAccessors = ({} : Platform).magicAccessors := by rw [X.admits.platform]
  obtain ⟨mk, methM, cM, kP, vm₁, hnamed, hmethM, hcodeM, -, hlocalsM, -, hkP, -, hW₁, hstep₁⟩ := Steps.initColdArgsNest (e := e) X.here hexec X.warmed hpl hown hy1 hy hlink hinst hcode (f := g) rfl hlen hstack hdg
  have X₁ := X.noted hW₁
  rcases hK g.method meth c ⟨T.setVm vm₁, locs, cells, slots⟩ { g with stack := rest } (.invokespecial index) mk (Value.ref a :: argsL).toArray X₁ rfl hsize hdg hW (X₁.named hnamed) (hpre vm₁ X₁.warmed) with ⟨v, B, X', hpost, hsteps⟩ | ⟨q, B, X', hpost, hsteps⟩
  · exact Or.inl ⟨v, vm₁, B, X₁.warmed, X', hpost, fun target h => hstep₁ _ fun acts => by rw [doInvoke_state]; exact hsteps.trans h⟩
  · exact Or.inr ⟨q, vm₁, B, X₁.warmed, X', hpost, hstep₁ _ fun acts => by rw [doInvoke_state]; exact hsteps⟩
end VXIC
section VXID
variable {p : Program} {l : Launch} {e : Env} {R : Room} {s : State} {m : MethodId} {args : Array Value} {below : List Frame} {meth : Method} {c : Code} {H : Heap} {locs : List Loc} {cells slots : Nat}
theorem vx_runIN {y : MethodName} {bytes cc : ByteArray} {maxL nL mc ms n index : Nat} {ws : List Cond} {rm : Room} {Pc : Array Value → State → Prop} {Qc : Array Value → State → Outcome → State → Prop} {XC : String → State → State → Prop} {free : Addr → Prop} {Ts : List Cond} {own host : String} {b : Addr} {As rest : List Value} {g : JFrame}
    (S : CallFix p m c cc nL s args Ts own) (hM : vx_Met l y ws rm Pc Qc XC mc ms free) (cw : va_CN R s args own index y host bytes maxL none ws rm mc ms n ∧ y.name = "<init>" ∧ (Cond.instanceMethod y).before args s = true) (hp : PreS s H Pc (.ref b :: As))
    (hg : g.method = m) (hn : As.length = n) (hsize : g.locals.size = nL) (hstack : g.stack = As.reverse ++ .ref b :: rest) (hW : 2 * g.monitorRoom + (rest.map fun v => v.category).sum ≤ 8) (hdg : decode cc g.pc = .ok (.invokespecial index, 3)) (hf : cells + mc ≤ R.cells ∧ slots + ms ≤ R.slots) :
    vx_Run p l e R s m args below meth c H locs cells slots mc ms g rest (Qc (Value.ref b :: As).toArray) XC free := by
  obtain ⟨⟨⟨hrc, hrs, hfr, hlo, hws, hcw⟩, hcode, hini, hy, hlen, hl⟩, hx1, hx2⟩ := cw
  have hK : vx_Back l R p e below s args y 3 8 (PreOf R mc ms Pc) (PostOf Qc mc ms free) (vx_Post XC mc ms free) := vx_back (bytes := bytes) (maxL := maxL) (ret := none) hM hp.1 hrc hrs hfr hlo hws hcw (fun a' U hW => word_at hW (Or.inl (by first | rfl | simp [Cond.onTables, Cond.keeps, Cond.steady])) hini)
  obtain ⟨hx, hb, hml, ho, -⟩ := S
  have hPc := hp.2
  intro T hT X
  rcases vx_callIN X hx (bytes := bytes) (maxL := maxL) ho hx1 hl hx2 hcode hy hK hg (hsize.trans hml.symm) (a := b) (argsL := As) (rest := rest) (fun sig h => hn.trans (hlen sig h)) hstack hW (by rw [hb]; exact hdg)
    (fun vm₁ hW₁ => ⟨hf.1, hf.2, hPc (T.setVm vm₁) hT hW₁⟩) with ⟨v, vm₁, ⟨U', l2, c2, s2⟩, hW₁, X', ⟨g', mk, t, L, e1, e2, hq, h1, hL, h2, h3⟩, st⟩ | ⟨q, vm₁, ⟨U', l2, c2, s2⟩, hW₁, X', ⟨g', mk, t, L, E, ce, e1, e2, hq, hce, hcv, hcl, h1, hL, h2, h3⟩, st⟩
  · dsimp only [Pt.U, Pt.locs, Pt.cells, Pt.slots] at X' e1 e2 h1 h2 h3 st
    subst h1; subst h2; subst h3
    exact Or.inl ⟨v, (T.setVm vm₁).calling g' mk (Value.ref b :: As).toArray, t, U', L, hT, X', hL, e1, e2, hq, st⟩
  · dsimp only [Pt.U, Pt.locs, Pt.cells, Pt.slots] at X' e1 e2 h1 h2 h3 st hcl
    subst h1; subst h2; subst h3
    exact Or.inr ⟨q, (T.setVm vm₁).calling g' mk (Value.ref b :: As).toArray, t, U', L, E, ce, hT, X', hL, e1, e2, hq, hce, hcv, vx_cls hW₁ hcl, st⟩
end VXID
/-! ===== END ===== -/
/-! ===== BEGIN a private method of a nest mate that may throw (follows va_callVN, va_callSN, va_runVN, va_runSN) ===== -/
section
variable {p : Program} {l : Launch} {e : Env} {R : Room} {s : State} {m : MethodId} {args : Array Value} {below : List Frame} {meth : Method} {c : Code} {H : Heap} {locs : List Loc} {cells slots : Nat}
variable {T : State}
theorem vx_callVN (X : Stand p l e R s m args below meth c T locs cells slots) (hexec : p.tables.exec = Jvm.exec) {own C : String} {index : Nat} {host : String} {y : MethodName} {bytes : ByteArray} {maxL : Nat} {ret : Option FieldType}
    (hown : s.vm.findClass own = some m.cls) (hlink : (Cond.methodLinkNest own index y host).before args s = true) (hinst : (Cond.instanceMethod y).before args s = true) (hsel : (Cond.selects C y y).before args s = true)
    (hcode : (Cond.code y bytes maxL ret).before args s = true) (hy : y.cls ≠ "java/lang/invoke/MethodHandle" ∧ y.cls ≠ "java/lang/invoke/VarHandle")
    {W : Nat} {Pre : Pt → Array Value → Prop} {Post : Pt → Array Value → Option Value → Pt → Prop} {PostX : Pt → Array Value → Addr → Pt → Prop} (hK : vx_Back l R p e below s args y 3 W Pre Post PostX)
    {b : Addr} {cellB : Cell} (hcell : T.heap[b]? = some cellB) (hobj : cellB.vm.isStatics = false) (hcls : s.vm.findClass C = some cellB.cls)
    {g : JFrame} (hg : g.method = m) (hsize : g.locals.size = c.maxLocals) {argsL rest : List Value} (hlen : ∀ sig, parseMethodDescriptor y.desc = some sig → argsL.length = sig.parameters.length)
    (hstack : g.stack = argsL.reverse ++ .ref b :: rest) (hW : 2 * g.monitorRoom + (rest.map fun v => v.category).sum ≤ W) (hdg : decode c.code g.pc = .ok (.invokevirtual index, 3))
    (hpre : ∀ vm₁, s.WarmedH vm₁ → Pre ⟨T.setVm vm₁, locs, cells, slots⟩ (Value.ref b :: argsL).toArray) :
    (∃ (v : Option Value) (vm₁ : Vm) (B : Pt), s.WarmedH vm₁ ∧ Stand p l e R s m args below meth c B.U B.locs B.cells B.slots ∧ Post ⟨T.setVm vm₁, locs, cells, slots⟩ (Value.ref b :: argsL).toArray v B ∧
      ∀ target, Steps p.tables e below (B.U.setTop { g with pc := g.pc + 3, stack := v.toList ++ rest }) target → Steps p.tables e below (T.setTop g) target) ∨
    (∃ (q : Addr) (vm₁ : Vm) (B : Pt), s.WarmedH vm₁ ∧ Stand p l e R s m args below meth c B.U B.locs B.cells B.slots ∧ PostX ⟨T.setVm vm₁, locs, cells, slots⟩ (Value.ref b :: argsL).toArray q B ∧
      Steps p.tables e below (T.setTop g) ((B.U.setTop { g with stack := rest }).pushFrame (.throwing q))) := by
  obtain ⟨mk, methM, hnamed, hmethM, hstM, habM⟩ := Cond.instanceMethod_spec hinst
  obtain ⟨methM', cM, hmethM', -, -, -, -, -, -, hsigM⟩ := Cond.code_spec hnamed hcode
  cases hmethM.symm.trans hmethM'
  obtain ⟨c2, r2, m2, q1, q2, q3, q4, kP, hkP, hkPi⟩ := Cond.selects_spec hsel
  cases hcls.symm.trans q1
  cases (State.methodFound?_of_named hnamed hy).symm.trans q2
  cases hnamed.symm.trans q3
  have hselP : selectMethod e.platform s.vm cellB.cls mk = .method mk := by rw [Launch.admits_selectMethod X.admits]; exact q4
  obtain ⟨vm₁, X₁, hstep₁⟩ := X.invokevirtualNest hexec hown hlink hnamed hmethM hstM hkP hkPi hy (a := b) (cell := cellB) hcell
    (fun z h => by rw [h] at hobj; cases hobj) hselP hmethM habM hkP hkPi (g := g) hg (argsL := argsL) (rest := rest) (hlen _ hsigM) hstack hdg
  rcases hK m meth c ⟨T.setVm vm₁, locs, cells, slots⟩ { g with stack := rest } (.invokevirtual index) mk (Value.ref b :: argsL).toArray X₁ hg hsize hdg hW (X₁.named hnamed) (hpre vm₁ X₁.warmed) with ⟨v, B, X', hpost, hsteps⟩ | ⟨q, B, X', hpost, hsteps⟩
  · exact Or.inl ⟨v, vm₁, B, X₁.warmed, X', hpost, fun target h => hstep₁ _ fun acts => by rw [doInvoke_state]; exact hsteps.trans h⟩
  · exact Or.inr ⟨q, vm₁, B, X₁.warmed, X', hpost, hstep₁ _ fun acts => by rw [doInvoke_state]; exact hsteps⟩
theorem vx_callSN (X : Stand p l e R s m args below meth c T locs cells slots) (hexec : p.tables.exec = Jvm.exec) {own : String} {index : Nat} {host : String} {y : MethodName} {bytes : ByteArray} {maxL : Nat} {ret : Option FieldType}
    (hown : s.vm.findClass own = some m.cls) (hlink : (Cond.methodLinkNest own index y host).before args s = true) (hstat : (Cond.static y).before args s = true) (hinit : (Cond.initialized y.cls).before args s = true)
    (hcode : (Cond.code y bytes maxL ret).before args s = true) (hy : y.cls ≠ "java/lang/invoke/MethodHandle" ∧ y.cls ≠ "java/lang/invoke/VarHandle")
    {W : Nat} {Pre : Pt → Array Value → Prop} {Post : Pt → Array Value → Option Value → Pt → Prop} {PostX : Pt → Array Value → Addr → Pt → Prop} (hK : vx_Back l R p e below s args y 3 W Pre Post PostX)
    {g : JFrame} (hg : g.method = m) (hsize : g.locals.size = c.maxLocals) {argsL rest : List Value} (hlen : ∀ sig, parseMethodDescriptor y.desc = some sig → argsL.length = sig.parameters.length)
    (hstack : g.stack = argsL.reverse ++ rest) (hW : 2 * g.monitorRoom + (rest.map fun v => v.category).sum ≤ W) (hdg : decode c.code g.pc = .ok (.invokestatic index, 3))
    (hpre : ∀ vm₁, s.WarmedH vm₁ → Pre ⟨T.setVm vm₁, locs, cells, slots⟩ argsL.toArray) :
    (∃ (v : Option Value) (vm₁ : Vm) (B : Pt), s.WarmedH vm₁ ∧ Stand p l e R s m args below meth c B.U B.locs B.cells B.slots ∧ Post ⟨T.setVm vm₁, locs, cells, slots⟩ argsL.toArray v B ∧
      ∀ target, Steps p.tables e below (B.U.setTop { g with pc := g.pc + 3, stack := v.toList ++ rest }) target → Steps p.tables e below (T.setTop g) target) ∨
    (∃ (q : Addr) (vm₁ : Vm) (B : Pt), s.WarmedH vm₁ ∧ Stand p l e R s m args below meth c B.U B.locs B.cells B.slots ∧ PostX ⟨T.setVm vm₁, locs, cells, slots⟩ argsL.toArray q B ∧
      Steps p.tables e below (T.setTop g) ((B.U.setTop { g with stack := rest }).pushFrame (.throwing q))) := by
  obtain ⟨mk, hnamed⟩ := Cond.code_named hcode
  obtain ⟨methM, cM, hmethM, -, -, -, -, -, -, hsigM⟩ := Cond.code_spec hnamed hcode
  have hstatic : methM.isStatic = true := Cond.static_spec hnamed hmethM hstat
  obtain ⟨kP, hkP, -⟩ := className_of_methodNamed hnamed
  have hinitP : kP.init = .initialized := Cond.initialized_spec (findClass_of_methodNamed hnamed) hkP hinit
  obtain ⟨vm₁, X₁, hstep₁⟩ := X.invokestaticNest hexec hown hlink hnamed hmethM hstatic hkP hinitP hy (g := g) hg (argsL := argsL) (rest := rest) (hlen _ hsigM) hstack hdg
  rcases hK m meth c ⟨T.setVm vm₁, locs, cells, slots⟩ { g with stack := rest } (.invokestatic index) mk argsL.toArray X₁ hg hsize hdg hW (X₁.named hnamed) (hpre vm₁ X₁.warmed) with ⟨v, B, X', hpost, hsteps⟩ | ⟨q, B, X', hpost, hsteps⟩
  · exact Or.inl ⟨v, vm₁, B, X₁.warmed, X', hpost, fun target h => hstep₁ _ fun acts => by rw [doInvoke_state]; exact hsteps.trans h⟩
  · exact Or.inr ⟨q, vm₁, B, X₁.warmed, X', hpost, hstep₁ _ fun acts => by rw [doInvoke_state]; exact hsteps⟩
theorem vx_runVN {y : MethodName} {bytes cc : ByteArray} {maxL nL mc ms n index : Nat} {ret : Option FieldType} {ws : List Cond} {rm : Room} {Pc : Array Value → State → Prop} {Qc : Array Value → State → Outcome → State → Prop} {XC : String → State → State → Prop} {free : Addr → Prop} {Ts : List Cond} {own C host : String} {b : Addr} {As rest : List Value} {g : JFrame}
    (S : CallFix p m c cc nL s args Ts own) (hM : vx_Met l y ws rm Pc Qc XC mc ms free) (cw : va_CN R s args own index y host bytes maxL ret ws rm mc ms n ∧ (Cond.instanceMethod y).before args s = true ∧ (Cond.selects C y y).before args s = true) (hp : PreV s H C b Pc As)
    (hg : g.method = m) (hn : As.length = n) (hsize : g.locals.size = nL) (hstack : g.stack = As.reverse ++ .ref b :: rest) (hW : 2 * g.monitorRoom + (rest.map fun v => v.category).sum ≤ 8) (hdg : decode cc g.pc = .ok (.invokevirtual index, 3)) (hf : cells + mc ≤ R.cells ∧ slots + ms ≤ R.slots) :
    vx_Run p l e R s m args below meth c H locs cells slots mc ms g rest (Qc (Value.ref b :: As).toArray) XC free := by
  obtain ⟨⟨⟨hrc, hrs, hfr, hlo, hws, hcw⟩, hcode, hini, hy, hlen, hl⟩, hx1, hx2⟩ := cw
  have hK : vx_Back l R p e below s args y 3 8 (PreOf R mc ms Pc) (PostOf Qc mc ms free) (vx_Post XC mc ms free) := vx_back (bytes := bytes) (maxL := maxL) (ret := ret) hM hp.1 hrc hrs hfr hlo hws hcw (fun a' U hW => word_at hW (Or.inl (by first | rfl | simp [Cond.onTables, Cond.keeps, Cond.steady])) hini)
  obtain ⟨hx, hb, hml, ho, -⟩ := S
  obtain ⟨-, ⟨cellB, hcB, hoB, hclB⟩, hPc⟩ := hp
  intro T hT X
  rcases vx_callVN X hx (C := C) (bytes := bytes) (maxL := maxL) (ret := ret) ho hl hx1 hx2 hcode hy hK (by rw [hT]; exact hcB) hoB hclB hg (hsize.trans hml.symm) (argsL := As) (rest := rest) (fun sig h => hn.trans (hlen sig h)) hstack hW (by rw [hb]; exact hdg)
    (fun vm₁ hW₁ => ⟨hf.1, hf.2, hPc (T.setVm vm₁) hT hW₁⟩) with ⟨v, vm₁, ⟨U', l2, c2, s2⟩, hW₁, X', ⟨g', mk, t, L, e1, e2, hq, h1, hL, h2, h3⟩, st⟩ | ⟨q, vm₁, ⟨U', l2, c2, s2⟩, hW₁, X', ⟨g', mk, t, L, E, ce, e1, e2, hq, hce, hcv, hcl, h1, hL, h2, h3⟩, st⟩
  · dsimp only [Pt.U, Pt.locs, Pt.cells, Pt.slots] at X' e1 e2 h1 h2 h3 st
    subst h1; subst h2; subst h3
    exact Or.inl ⟨v, (T.setVm vm₁).calling g' mk (Value.ref b :: As).toArray, t, U', L, hT, X', hL, e1, e2, hq, st⟩
  · dsimp only [Pt.U, Pt.locs, Pt.cells, Pt.slots] at X' e1 e2 h1 h2 h3 st hcl
    subst h1; subst h2; subst h3
    exact Or.inr ⟨q, (T.setVm vm₁).calling g' mk (Value.ref b :: As).toArray, t, U', L, E, ce, hT, X', hL, e1, e2, hq, hce, hcv, vx_cls hW₁ hcl, st⟩
theorem vx_runSN {y : MethodName} {bytes cc : ByteArray} {maxL nL mc ms n index : Nat} {ret : Option FieldType} {ws : List Cond} {rm : Room} {Pc : Array Value → State → Prop} {Qc : Array Value → State → Outcome → State → Prop} {XC : String → State → State → Prop} {free : Addr → Prop} {Ts : List Cond} {own host : String} {As rest : List Value} {g : JFrame}
    (S : CallFix p m c cc nL s args Ts own) (hM : vx_Met l y ws rm Pc Qc XC mc ms free) (cw : va_CN R s args own index y host bytes maxL ret ws rm mc ms n ∧ (Cond.static y).before args s = true ∧ True) (hp : PreS s H Pc As)
    (hg : g.method = m) (hn : As.length = n) (hsize : g.locals.size = nL) (hstack : g.stack = As.reverse ++ rest) (hW : 2 * g.monitorRoom + (rest.map fun v => v.category).sum ≤ 8) (hdg : decode cc g.pc = .ok (.invokestatic index, 3)) (hf : cells + mc ≤ R.cells ∧ slots + ms ≤ R.slots) :
    vx_Run p l e R s m args below meth c H locs cells slots mc ms g rest (Qc As.toArray) XC free := by
  obtain ⟨⟨⟨hrc, hrs, hfr, hlo, hws, hcw⟩, hcode, hini, hy, hlen, hl⟩, hx1, hx2⟩ := cw
  have hK : vx_Back l R p e below s args y 3 8 (PreOf R mc ms Pc) (PostOf Qc mc ms free) (vx_Post XC mc ms free) := vx_back (bytes := bytes) (maxL := maxL) (ret := ret) hM hp.1 hrc hrs hfr hlo hws hcw (fun a' U hW => word_at hW (Or.inl (by first | rfl | simp [Cond.onTables, Cond.keeps, Cond.steady])) hini)
  obtain ⟨hx, hb, hml, ho, -⟩ := S
  have hPc := hp.2
  intro T hT X
  rcases vx_callSN X hx (bytes := bytes) (maxL := maxL) (ret := ret) ho hl hx1 hini hcode hy hK hg (hsize.trans hml.symm) (argsL := As) (rest := rest) (fun sig h => hn.trans (hlen sig h)) hstack hW (by rw [hb]; exact hdg)
    (fun vm₁ hW₁ => ⟨hf.1, hf.2, hPc (T.setVm vm₁) hT hW₁⟩) with ⟨v, vm₁, ⟨U', l2, c2, s2⟩, hW₁, X', ⟨g', mk, t, L, e1, e2, hq, h1, hL, h2, h3⟩, st⟩ | ⟨q, vm₁, ⟨U', l2, c2, s2⟩, hW₁, X', ⟨g', mk, t, L, E, ce, e1, e2, hq, hce, hcv, hcl, h1, hL, h2, h3⟩, st⟩
  · dsimp only [Pt.U, Pt.locs, Pt.cells, Pt.slots] at X' e1 e2 h1 h2 h3 st
    subst h1; subst h2; subst h3
    exact Or.inl ⟨v, (T.setVm vm₁).calling g' mk As.toArray, t, U', L, hT, X', hL, e1, e2, hq, st⟩
  · dsimp only [Pt.U, Pt.locs, Pt.cells, Pt.slots] at X' e1 e2 h1 h2 h3 st hcl
    subst h1; subst h2; subst h3
    exact Or.inr ⟨q, (T.setVm vm₁).calling g' mk As.toArray, t, U', L, E, ce, hT, X', hL, e1, e2, hq, hce, hcv, vx_cls hW₁ hcl, st⟩
end
/-! ===== END ===== -/
end
section
def RX0 : String := "BoundWright$Caller"
def TX0 : u_T := fun k => match k with
  | 0 => ("BoundWright$Caller", "forms", "LBoundWright$Forms;", true)
  | 1 => ("BoundWright$Caller", "kinds", "LBoundWright$Kinds;", true)
  | 2 => ("BoundWright$Caller", "order", "LBoundWright$Order;", true)
  | 3 => ("BoundWright$Caller", "routines", "LBoundWright$Routines;", true)
  | 4 => ("BoundWright$Caller", "given", "[I", true)
  | 5 => ("BoundWright$Caller", "formals", "[I", true)
  | 6 => ("BoundWright$Caller", "givenCount", "I", false)
  | 7 => ("BoundWright$Caller", "receiver", "I", false)
  | _ => ("BoundWright$Caller", "phase", "I", false)
def tyX0 : Nat → FieldType := fun k => match k with
  | 0 => .object "BoundWright$Forms"
  | 1 => .object "BoundWright$Kinds"
  | 2 => .object "BoundWright$Order"
  | 3 => .object "BoundWright$Routines"
  | 4 => .array .int
  | 5 => .array .int
  | 6 => .int
  | 7 => .int
  | _ => .int
abbrev wsX00 : List Cond := u_ws RX0 TX0 9
theorem nmX0 : ∀ a, a < 9 → ∀ b, b < 9 → a ≠ b → (TX0 a).2.1 ≠ (TX0 b).2.1 := by decide +kernel
theorem tyX0_ok : ∀ k, k < 9 → parseFieldDescriptor (TX0 k).2.2.1 = some (tyX0 k) := by decide +kernel
abbrev cX0_init : ByteArray := prog_2_method_1_code
def yX0_init : MethodName := ⟨RX0, "<init>", "(LBoundWright$Forms;LBoundWright$Kinds;LBoundWright$Order;LBoundWright$Routines;)V"⟩
abbrev cX0_take : ByteArray := prog_2_method_2_code
def yX0_take : MethodName := ⟨RX0, "take", "(IIII)V"⟩
abbrev cX0_choose : ByteArray := prog_2_method_3_code
def yX0_choose : MethodName := ⟨RX0, "choose", "(I)I"⟩
abbrev cX0_answer : ByteArray := prog_2_method_4_code
def yX0_answer : MethodName := ⟨RX0, "answer", "(II)I"⟩
abbrev cX0_suitingOf : ByteArray := prog_2_method_5_code
def yX0_suitingOf : MethodName := ⟨RX0, "suitingOf", "(I)I"⟩
abbrev cX0_isCountRight : ByteArray := prog_2_method_6_code
def yX0_isCountRight : MethodName := ⟨RX0, "isCountRight", "(I)Z"⟩
abbrev cX0_layOutFormals : ByteArray := prog_2_method_7_code
def yX0_layOutFormals : MethodName := ⟨RX0, "layOutFormals", "(I)V"⟩
abbrev cX0_seen : ByteArray := prog_2_method_8_code
def yX0_seen : MethodName := ⟨RX0, "seen", "(II)I"⟩
abbrev cX0_isSuiting : ByteArray := prog_2_method_9_code
def yX0_isSuiting : MethodName := ⟨RX0, "isSuiting", "(I)Z"⟩
abbrev cX0_standIn : ByteArray := prog_2_method_10_code
def yX0_standIn : MethodName := ⟨RX0, "standIn", "(I)I"⟩
abbrev cX0_isFitting : ByteArray := prog_2_method_11_code
def yX0_isFitting : MethodName := ⟨RX0, "isFitting", "(II)Z"⟩
abbrev cX0_mostSpecialOf : ByteArray := prog_2_method_12_code
def yX0_mostSpecialOf : MethodName := ⟨RX0, "mostSpecialOf", "(I)I"⟩
abbrev cX0_isMoreSpecialThanAll : ByteArray := prog_2_method_13_code
def yX0_isMoreSpecialThanAll : MethodName := ⟨RX0, "isMoreSpecialThanAll", "(II)Z"⟩
abbrev cX0_isMoreSpecial : ByteArray := prog_2_method_14_code
def yX0_isMoreSpecial : MethodName := ⟨RX0, "isMoreSpecial", "(II)Z"⟩
def RX1 : String := "BoundWright$Faults"
def TX1 : u_T := fun k => match k with
  | 0 => ("BoundWright$Faults", "told", "LBoundWright$Kinds;", true)
  | 1 => ("BoundWright$Faults", "routines", "LBoundWright$Routines;", true)
  | 2 => ("BoundWright$Faults", "numbers", "[I", true)
  | 3 => ("BoundWright$Faults", "kinds", "[I", true)
  | 4 => ("BoundWright$Faults", "methods", "[I", true)
  | _ => ("BoundWright$Faults", "count", "I", false)
def tyX1 : Nat → FieldType := fun k => match k with
  | 0 => .object "BoundWright$Kinds"
  | 1 => .object "BoundWright$Routines"
  | 2 => .array .int
  | 3 => .array .int
  | 4 => .array .int
  | _ => .int
abbrev wsX10 : List Cond := u_ws RX1 TX1 6
theorem nmX1 : ∀ a, a < 6 → ∀ b, b < 6 → a ≠ b → (TX1 a).2.1 ≠ (TX1 b).2.1 := by decide +kernel
theorem tyX1_ok : ∀ k, k < 6 → parseFieldDescriptor (TX1 k).2.2.1 = some (tyX1 k) := by decide +kernel
abbrev cX1_init : ByteArray := prog_3_method_1_code
def yX1_init : MethodName := ⟨RX1, "<init>", "(LBoundWright$Kinds;LBoundWright$Routines;)V"⟩
abbrev cX1_list : ByteArray := prog_3_method_2_code
def yX1_list : MethodName := ⟨RX1, "list", "(LBoundWright$Review;)V"⟩
abbrev cX1_listMethods : ByteArray := prog_3_method_3_code
def yX1_listMethods : MethodName := ⟨RX1, "listMethods", "(ILBoundWright$Review;)V"⟩
abbrev cX1_addIf : ByteArray := prog_3_method_4_code
def yX1_addIf : MethodName := ⟨RX1, "addIf", "(ZIII)V"⟩
abbrev cX1_countOfKind : ByteArray := prog_3_method_5_code
def yX1_countOfKind : MethodName := ⟨RX1, "countOfKind", "(I)I"⟩
abbrev cX1_countWithout : ByteArray := prog_3_method_6_code
def yX1_countWithout : MethodName := ⟨RX1, "countWithout", "(ILBoundWright$Review;)I"⟩
abbrev cX1_isOnlyBecauseOf : ByteArray := prog_3_method_7_code
def yX1_isOnlyBecauseOf : MethodName := ⟨RX1, "isOnlyBecauseOf", "(IILBoundWright$Review;)Z"⟩
def RX2 : String := "BoundWright$Forms"
def TX2 : u_T := fun k => match k with
  | 0 => ("BoundWright$Forms", "what", "[I", true)
  | 1 => ("BoundWright$Forms", "owner", "[I", true)
  | 2 => ("BoundWright$Forms", "first", "[I", true)
  | 3 => ("BoundWright$Forms", "second", "[I", true)
  | 4 => ("BoundWright$Forms", "deep", "[I", true)
  | 5 => ("BoundWright$Forms", "code", "[I", true)
  | 6 => ("BoundWright$Forms", "owners", "[I", true)
  | 7 => ("BoundWright$Forms", "next", "[I", true)
  | 8 => ("BoundWright$Forms", "heads", "[I", true)
  | _ => ("BoundWright$Forms", "count", "I", false)
def tyX2 : Nat → FieldType := fun k => match k with
  | 0 => .array .int
  | 1 => .array .int
  | 2 => .array .int
  | 3 => .array .int
  | 4 => .array .int
  | 5 => .array .int
  | 6 => .array .int
  | 7 => .array .int
  | 8 => .array .int
  | _ => .int
abbrev wsX20 : List Cond := u_ws RX2 TX2 10
theorem nmX2 : ∀ a, a < 10 → ∀ b, b < 10 → a ≠ b → (TX2 a).2.1 ≠ (TX2 b).2.1 := by decide +kernel
theorem tyX2_ok : ∀ k, k < 10 → parseFieldDescriptor (TX2 k).2.2.1 = some (tyX2 k) := by decide +kernel
abbrev cX2_init : ByteArray := prog_4_method_1_code
def yX2_init : MethodName := ⟨RX2, "<init>", "()V"⟩
abbrev cX2_make : ByteArray := prog_4_method_2_code
def yX2_make : MethodName := ⟨RX2, "make", "(IIII)I"⟩
abbrev cX2_release : ByteArray := prog_4_method_3_code
def yX2_release : MethodName := ⟨RX2, "release", "(I)V"⟩
abbrev cX2_chain : ByteArray := prog_4_method_4_code
def yX2_chain : MethodName := ⟨RX2, "chain", "(IIII)I"⟩
abbrev cX2_deepOf : ByteArray := prog_4_method_5_code
def yX2_deepOf : MethodName := ⟨RX2, "deepOf", "(III)I"⟩
abbrev cX2_codeOf : ByteArray := prog_4_method_6_code
def yX2_codeOf : MethodName := ⟨RX2, "codeOf", "(IIII)I"⟩
abbrev cX2_ownersOf : ByteArray := prog_4_method_7_code
def yX2_ownersOf : MethodName := ⟨RX2, "ownersOf", "(IIII)I"⟩
abbrev cX2_put : ByteArray := prog_4_method_8_code
def yX2_put : MethodName := ⟨RX2, "put", "(IIIII)I"⟩
abbrev cX2_putIntoArgument : ByteArray := prog_4_method_9_code
def yX2_putIntoArgument : MethodName := ⟨RX2, "putIntoArgument", "(IIIII)I"⟩
def RX3 : String := "BoundWright$Kinds"
def TX3 : u_T := fun k => match k with
  | 0 => ("BoundWright$Kinds", "forms", "LBoundWright$Forms;", true)
  | 1 => ("BoundWright$Kinds", "parameters", "[I", true)
  | 2 => ("BoundWright$Kinds", "variances", "[I", true)
  | 3 => ("BoundWright$Kinds", "limits", "[I", true)
  | 4 => ("BoundWright$Kinds", "told", "[I", true)
  | 5 => ("BoundWright$Kinds", "extended", "[I", true)
  | 6 => ("BoundWright$Kinds", "above", "[I", true)
  | 7 => ("BoundWright$Kinds", "views", "[I", true)
  | 8 => ("BoundWright$Kinds", "sealedOnes", "I", false)
  | _ => ("BoundWright$Kinds", "count", "I", false)
def tyX3 : Nat → FieldType := fun k => match k with
  | 0 => .object "BoundWright$Forms"
  | 1 => .array .int
  | 2 => .array .int
  | 3 => .array .int
  | 4 => .array .int
  | 5 => .array .int
  | 6 => .array .int
  | 7 => .array .int
  | 8 => .int
  | _ => .int
abbrev wsX30 : List Cond := u_ws RX3 TX3 10
theorem nmX3 : ∀ a, a < 10 → ∀ b, b < 10 → a ≠ b → (TX3 a).2.1 ≠ (TX3 b).2.1 := by decide +kernel
theorem tyX3_ok : ∀ k, k < 10 → parseFieldDescriptor (TX3 k).2.2.1 = some (tyX3 k) := by decide +kernel
abbrev cX3_init : ByteArray := prog_5_method_1_code
def yX3_init : MethodName := ⟨RX3, "<init>", "(LBoundWright$Forms;)V"⟩
abbrev cX3_add : ByteArray := prog_5_method_2_code
def yX3_add : MethodName := ⟨RX3, "add", "(IIZ)I"⟩
abbrev cX3_lengthen : ByteArray := prog_5_method_3_code
def yX3_lengthen : MethodName := ⟨RX3, "lengthen", "(II)V"⟩
abbrev cX3_extendedCount : ByteArray := prog_5_method_4_code
def yX3_extendedCount : MethodName := ⟨RX3, "extendedCount", "(I)I"⟩
abbrev cX3_extendedAt : ByteArray := prog_5_method_5_code
def yX3_extendedAt : MethodName := ⟨RX3, "extendedAt", "(II)I"⟩
abbrev cX3_isToldOf : ByteArray := prog_5_method_6_code
def yX3_isToldOf : MethodName := ⟨RX3, "isToldOf", "(II)Z"⟩
abbrev cX3_isOrHasAbove : ByteArray := prog_5_method_7_code
def yX3_isOrHasAbove : MethodName := ⟨RX3, "isOrHasAbove", "(II)Z"⟩
abbrev cX3_directlyBelow : ByteArray := prog_5_method_8_code
def yX3_directlyBelow : MethodName := ⟨RX3, "directlyBelow", "(I)I"⟩
abbrev cX3_settle : ByteArray := prog_5_method_9_code
def yX3_settle : MethodName := ⟨RX3, "settle", "(I)V"⟩
abbrev cX3_view : ByteArray := prog_5_method_10_code
def yX3_view : MethodName := ⟨RX3, "view", "(III)I"⟩
abbrev cX3_marked : ByteArray := prog_5_method_11_code
def yX3_marked : MethodName := ⟨RX3, "marked", "(I)I"⟩
abbrev cX3_argumentAs : ByteArray := prog_5_method_12_code
def yX3_argumentAs : MethodName := ⟨RX3, "argumentAs", "(III)I"⟩
abbrev cX3_formAs : ByteArray := prog_5_method_13_code
def yX3_formAs : MethodName := ⟨RX3, "formAs", "(II)I"⟩
abbrev cX3_selfForm : ByteArray := prog_5_method_14_code
def yX3_selfForm : MethodName := ⟨RX3, "selfForm", "(I)I"⟩
abbrev cX3_limitOf : ByteArray := prog_5_method_15_code
def yX3_limitOf : MethodName := ⟨RX3, "limitOf", "(I)I"⟩
abbrev cX3_receiver : ByteArray := prog_5_method_16_code
def yX3_receiver : MethodName := ⟨RX3, "receiver", "(I)I"⟩
def RX4 : String := "BoundWright$Order"
def TX4 : u_T := fun k => match k with
  | 0 => ("BoundWright$Order", "forms", "LBoundWright$Forms;", true)
  | _ => ("BoundWright$Order", "kinds", "LBoundWright$Kinds;", true)
def tyX4 : Nat → FieldType := fun k => match k with
  | 0 => .object "BoundWright$Forms"
  | _ => .object "BoundWright$Kinds"
abbrev wsX40 : List Cond := u_ws RX4 TX4 2
theorem nmX4 : ∀ a, a < 2 → ∀ b, b < 2 → a ≠ b → (TX4 a).2.1 ≠ (TX4 b).2.1 := by decide +kernel
theorem tyX4_ok : ∀ k, k < 2 → parseFieldDescriptor (TX4 k).2.2.1 = some (tyX4 k) := by decide +kernel
abbrev cX4_init : ByteArray := prog_6_method_1_code
def yX4_init : MethodName := ⟨RX4, "<init>", "(LBoundWright$Forms;LBoundWright$Kinds;)V"⟩
abbrev cX4_isUnder : ByteArray := prog_6_method_2_code
def yX4_isUnder : MethodName := ⟨RX4, "isUnder", "(III)Z"⟩
abbrev cX4_areArraysOfReferences : ByteArray := prog_6_method_3_code
def yX4_areArraysOfReferences : MethodName := ⟨RX4, "areArraysOfReferences", "(II)Z"⟩
abbrev cX4_isClassUnder : ByteArray := prog_6_method_4_code
def yX4_isClassUnder : MethodName := ⟨RX4, "isClassUnder", "(III)Z"⟩
abbrev cX4_isWithin : ByteArray := prog_6_method_5_code
def yX4_isWithin : MethodName := ⟨RX4, "isWithin", "(IIII)Z"⟩
abbrev cX4_varied : ByteArray := prog_6_method_6_code
def yX4_varied : MethodName := ⟨RX4, "varied", "(II)I"⟩
abbrev cX4_pairs : ByteArray := prog_6_method_7_code
def yX4_pairs : MethodName := ⟨RX4, "pairs", "()I"⟩
abbrev cX4_joined : ByteArray := prog_6_method_8_code
def yX4_joined : MethodName := ⟨RX4, "joined", "(IIZI)I"⟩
abbrev cX4_lowestShared : ByteArray := prog_6_method_9_code
def yX4_lowestShared : MethodName := ⟨RX4, "lowestShared", "(II)I"⟩
abbrev cX4_joinedArgument : ByteArray := prog_6_method_10_code
def yX4_joinedArgument : MethodName := ⟨RX4, "joinedArgument", "(IIIIZI)I"⟩
abbrev cX4_isExactOrOut : ByteArray := prog_6_method_11_code
def yX4_isExactOrOut : MethodName := ⟨RX4, "isExactOrOut", "(I)Z"⟩
abbrev cX4_isKeeping : ByteArray := prog_6_method_12_code
def yX4_isKeeping : MethodName := ⟨RX4, "isKeeping", "(II)Z"⟩
abbrev cX4_isArgumentKeeping : ByteArray := prog_6_method_13_code
def yX4_isArgumentKeeping : MethodName := ⟨RX4, "isArgumentKeeping", "(III)Z"⟩
abbrev cX4_erased : ByteArray := prog_6_method_14_code
def yX4_erased : MethodName := ⟨RX4, "erased", "(II)I"⟩
abbrev cX4_erasedInmost : ByteArray := prog_6_method_15_code
def yX4_erasedInmost : MethodName := ⟨RX4, "erasedInmost", "(II)I"⟩
abbrev cX4_isCovered : ByteArray := prog_6_method_16_code
def yX4_isCovered : MethodName := ⟨RX4, "isCovered", "(II)Z"⟩
abbrev cX4_isNamed : ByteArray := prog_6_method_17_code
def yX4_isNamed : MethodName := ⟨RX4, "isNamed", "(II)Z"⟩
abbrev cX4_coveredBelow : ByteArray := prog_6_method_18_code
def yX4_coveredBelow : MethodName := ⟨RX4, "coveredBelow", "(II)I"⟩
abbrev cX4_isImpossible : ByteArray := prog_6_method_19_code
def yX4_isImpossible : MethodName := ⟨RX4, "isImpossible", "(II)Z"⟩
abbrev cX4_isAgainst : ByteArray := prog_6_method_20_code
def yX4_isAgainst : MethodName := ⟨RX4, "isAgainst", "(III)Z"⟩
def RX5 : String := "BoundWright$Review"
def TX5 : u_T := fun k => match k with
  | 0 => ("BoundWright$Review", "forms", "LBoundWright$Forms;", true)
  | 1 => ("BoundWright$Review", "kinds", "LBoundWright$Kinds;", true)
  | 2 => ("BoundWright$Review", "order", "LBoundWright$Order;", true)
  | 3 => ("BoundWright$Review", "routines", "LBoundWright$Routines;", true)
  | 4 => ("BoundWright$Review", "faults", "LBoundWright$Faults;", true)
  | 5 => ("BoundWright$Review", "overridden", "[I", true)
  | 6 => ("BoundWright$Review", "clashing", "[I", true)
  | 7 => ("BoundWright$Review", "worse", "[I", true)
  | 8 => ("BoundWright$Review", "bridges", "[I", true)
  | 9 => ("BoundWright$Review", "isMisplaced", "[Z", true)
  | 10 => ("BoundWright$Review", "isLoose", "[Z", true)
  | 11 => ("BoundWright$Review", "isTwofold", "[Z", true)
  | 12 => ("BoundWright$Review", "looseExtended", "[I", true)
  | 13 => ("BoundWright$Review", "reached", "[I", true)
  | 14 => ("BoundWright$Review", "erasedFormals", "[I", true)
  | _ => ("BoundWright$Review", "erasedResults", "[I", true)
def tyX5 : Nat → FieldType := fun k => match k with
  | 0 => .object "BoundWright$Forms"
  | 1 => .object "BoundWright$Kinds"
  | 2 => .object "BoundWright$Order"
  | 3 => .object "BoundWright$Routines"
  | 4 => .object "BoundWright$Faults"
  | 5 => .array .int
  | 6 => .array .int
  | 7 => .array .int
  | 8 => .array .int
  | 9 => .array .boolean
  | 10 => .array .boolean
  | 11 => .array .boolean
  | 12 => .array .int
  | 13 => .array .int
  | 14 => .array .int
  | _ => .array .int
abbrev wsX50 : List Cond := u_ws RX5 TX5 16
theorem nmX5 : ∀ a, a < 16 → ∀ b, b < 16 → a ≠ b → (TX5 a).2.1 ≠ (TX5 b).2.1 := by decide +kernel
theorem tyX5_ok : ∀ k, k < 16 → parseFieldDescriptor (TX5 k).2.2.1 = some (tyX5 k) := by decide +kernel
abbrev cX5_init : ByteArray := prog_7_method_1_code
def yX5_init : MethodName := ⟨RX5, "<init>", "(LBoundWright$Forms;LBoundWright$Kinds;LBoundWright$Order;LBoundWright$Routines;LBoundWright$Faults;)V"⟩
abbrev cX5_refresh : ByteArray := prog_7_method_2_code
def yX5_refresh : MethodName := ⟨RX5, "refresh", "()V"⟩
abbrev cX5_membersOf : ByteArray := prog_7_method_3_code
def yX5_membersOf : MethodName := ⟨RX5, "membersOf", "(I)I"⟩
abbrev cX5_bridgesOfKind : ByteArray := prog_7_method_4_code
def yX5_bridgesOfKind : MethodName := ⟨RX5, "bridgesOfKind", "(I)I"⟩
abbrev cX5_allBridges : ByteArray := prog_7_method_5_code
def yX5_allBridges : MethodName := ⟨RX5, "allBridges", "()I"⟩
abbrev cX5_isReachedTwofold : ByteArray := prog_7_method_6_code
def yX5_isReachedTwofold : MethodName := ⟨RX5, "isReachedTwofold", "(I)Z"⟩
abbrev cX5_countLooseExtended : ByteArray := prog_7_method_7_code
def yX5_countLooseExtended : MethodName := ⟨RX5, "countLooseExtended", "(I)I"⟩
abbrev cX5_isOneMisplaced : ByteArray := prog_7_method_8_code
def yX5_isOneMisplaced : MethodName := ⟨RX5, "isOneMisplaced", "(I)Z"⟩
abbrev cX5_isParameterWith : ByteArray := prog_7_method_9_code
def yX5_isParameterWith : MethodName := ⟨RX5, "isParameterWith", "(II)Z"⟩
abbrev cX5_isOneLoose : ByteArray := prog_7_method_10_code
def yX5_isOneLoose : MethodName := ⟨RX5, "isOneLoose", "(I)Z"⟩
abbrev cX5_lookAtOthers : ByteArray := prog_7_method_11_code
def yX5_lookAtOthers : MethodName := ⟨RX5, "lookAtOthers", "(I)V"⟩
abbrev cX5_isAbove : ByteArray := prog_7_method_12_code
def yX5_isAbove : MethodName := ⟨RX5, "isAbove", "(II)Z"⟩
abbrev cX5_isBeforeInClass : ByteArray := prog_7_method_13_code
def yX5_isBeforeInClass : MethodName := ⟨RX5, "isBeforeInClass", "(II)Z"⟩
abbrev cX5_isOverriding : ByteArray := prog_7_method_14_code
def yX5_isOverriding : MethodName := ⟨RX5, "isOverriding", "(III)Z"⟩
abbrev cX5_isWorse : ByteArray := prog_7_method_15_code
def yX5_isWorse : MethodName := ⟨RX5, "isWorse", "(III)Z"⟩
abbrev cX5_erase : ByteArray := prog_7_method_16_code
def yX5_erase : MethodName := ⟨RX5, "erase", "(I)V"⟩
abbrev cX5_areFormalsErasedAlike : ByteArray := prog_7_method_17_code
def yX5_areFormalsErasedAlike : MethodName := ⟨RX5, "areFormalsErasedAlike", "(II)Z"⟩
abbrev cX5_areErasedAlike : ByteArray := prog_7_method_18_code
def yX5_areErasedAlike : MethodName := ⟨RX5, "areErasedAlike", "(II)Z"⟩
abbrev cX5_countBridges : ByteArray := prog_7_method_19_code
def yX5_countBridges : MethodName := ⟨RX5, "countBridges", "(I)I"⟩
abbrev cX5_isCountedBefore : ByteArray := prog_7_method_20_code
def yX5_isCountedBefore : MethodName := ⟨RX5, "isCountedBefore", "(II)Z"⟩
abbrev cX5_isOverridden : ByteArray := prog_7_method_21_code
def yX5_isOverridden : MethodName := ⟨RX5, "isOverridden", "(II)Z"⟩
def RX6 : String := "BoundWright$Routines"
def TX6 : u_T := fun k => match k with
  | 0 => ("BoundWright$Routines", "kinds", "[I", true)
  | 1 => ("BoundWright$Routines", "names", "[I", true)
  | 2 => ("BoundWright$Routines", "formals", "[I", true)
  | 3 => ("BoundWright$Routines", "formalCount", "[I", true)
  | 4 => ("BoundWright$Routines", "results", "[I", true)
  | 5 => ("BoundWright$Routines", "limits", "[I", true)
  | 6 => ("BoundWright$Routines", "manyOnes", "I", false)
  | _ => ("BoundWright$Routines", "count", "I", false)
def tyX6 : Nat → FieldType := fun k => match k with
  | 0 => .array .int
  | 1 => .array .int
  | 2 => .array .int
  | 3 => .array .int
  | 4 => .array .int
  | 5 => .array .int
  | 6 => .int
  | _ => .int
abbrev wsX60 : List Cond := u_ws RX6 TX6 8
theorem nmX6 : ∀ a, a < 8 → ∀ b, b < 8 → a ≠ b → (TX6 a).2.1 ≠ (TX6 b).2.1 := by decide +kernel
theorem tyX6_ok : ∀ k, k < 8 → parseFieldDescriptor (TX6 k).2.2.1 = some (tyX6 k) := by decide +kernel
abbrev cX6_init : ByteArray := prog_8_method_1_code
def yX6_init : MethodName := ⟨RX6, "<init>", "()V"⟩
abbrev cX6_add : ByteArray := prog_8_method_2_code
def yX6_add : MethodName := ⟨RX6, "add", "(IIIZ)V"⟩
abbrev cX6_addFormal : ByteArray := prog_8_method_3_code
def yX6_addFormal : MethodName := ⟨RX6, "addFormal", "(I)V"⟩
abbrev cX6_formalAt : ByteArray := prog_8_method_4_code
def yX6_formalAt : MethodName := ⟨RX6, "formalAt", "(II)I"⟩
abbrev cX6_isMany : ByteArray := prog_8_method_5_code
def yX6_isMany : MethodName := ⟨RX6, "isMany", "(I)Z"⟩
abbrev cX6_areAlike : ByteArray := prog_8_method_6_code
def yX6_areAlike : MethodName := ⟨RX6, "areAlike", "(II)Z"⟩
abbrev cX6_setOf : ByteArray := prog_8_method_7_code
def yX6_setOf : MethodName := ⟨RX6, "setOf", "(I)I"⟩
abbrev cX6_setNamed : ByteArray := prog_8_method_8_code
def yX6_setNamed : MethodName := ⟨RX6, "setNamed", "(I)I"⟩
def RX7 : String := "BoundWright"
def TX7 : u_T := fun k => match k with
  | 0 => ("BoundWright", "forms", "LBoundWright$Forms;", true)
  | 1 => ("BoundWright", "kinds", "LBoundWright$Kinds;", true)
  | 2 => ("BoundWright", "order", "LBoundWright$Order;", true)
  | 3 => ("BoundWright", "routines", "LBoundWright$Routines;", true)
  | 4 => ("BoundWright", "faults", "LBoundWright$Faults;", true)
  | 5 => ("BoundWright", "review", "LBoundWright$Review;", true)
  | _ => ("BoundWright", "caller", "LBoundWright$Caller;", true)
def tyX7 : Nat → FieldType := fun k => match k with
  | 0 => .object "BoundWright$Forms"
  | 1 => .object "BoundWright$Kinds"
  | 2 => .object "BoundWright$Order"
  | 3 => .object "BoundWright$Routines"
  | 4 => .object "BoundWright$Faults"
  | 5 => .object "BoundWright$Review"
  | _ => .object "BoundWright$Caller"
abbrev wsX70 : List Cond := u_ws RX7 TX7 7
theorem nmX7 : ∀ a, a < 7 → ∀ b, b < 7 → a ≠ b → (TX7 a).2.1 ≠ (TX7 b).2.1 := by decide +kernel
theorem tyX7_ok : ∀ k, k < 7 → parseFieldDescriptor (TX7 k).2.2.1 = some (tyX7 k) := by decide +kernel
abbrev cX7_init : ByteArray := prog_1_method_1_code
def yX7_init : MethodName := ⟨RX7, "<init>", "()V"⟩
abbrev cX7_kind : ByteArray := prog_1_method_2_code
def yX7_kind : MethodName := ⟨RX7, "kind", "(IIZ)I"⟩
abbrev cX7_bound : ByteArray := prog_1_method_3_code
def yX7_bound : MethodName := ⟨RX7, "bound", "(III)I"⟩
abbrev cX7_extend : ByteArray := prog_1_method_4_code
def yX7_extend : MethodName := ⟨RX7, "extend", "(II)I"⟩
abbrev cX7_ofKind : ByteArray := prog_1_method_5_code
def yX7_ofKind : MethodName := ⟨RX7, "ofKind", "(II)I"⟩
abbrev cX7_of : ByteArray := prog_1_method_6_code
def yX7_of : MethodName := ⟨RX7, "of", "(III)I"⟩
abbrev cX7_parameter : ByteArray := prog_1_method_7_code
def yX7_parameter : MethodName := ⟨RX7, "parameter", "(II)I"⟩
abbrev cX7_array : ByteArray := prog_1_method_8_code
def yX7_array : MethodName := ⟨RX7, "array", "(I)I"⟩
abbrev cX7_ofType : ByteArray := prog_1_method_9_code
def yX7_ofType : MethodName := ⟨RX7, "ofType", "(II)I"⟩
abbrev cX7_isBelow : ByteArray := prog_1_method_10_code
def yX7_isBelow : MethodName := ⟨RX7, "isBelow", "(II)Z"⟩
abbrev cX7_join : ByteArray := prog_1_method_11_code
def yX7_join : MethodName := ⟨RX7, "join", "(II)I"⟩
abbrev cX7_as : ByteArray := prog_1_method_12_code
def yX7_as : MethodName := ⟨RX7, "as", "(II)I"⟩
abbrev cX7_areAll : ByteArray := prog_1_method_13_code
def yX7_areAll : MethodName := ⟨RX7, "areAll", "(II)Z"⟩
abbrev cX7_method : ByteArray := prog_1_method_14_code
def yX7_method : MethodName := ⟨RX7, "method", "(IIIIIIZ)I"⟩
abbrev cX7_variable : ByteArray := prog_1_method_15_code
def yX7_variable : MethodName := ⟨RX7, "variable", "(II)I"⟩
abbrev cX7_ofMethod : ByteArray := prog_1_method_16_code
def yX7_ofMethod : MethodName := ⟨RX7, "ofMethod", "(II)I"⟩
abbrev cX7_call : ByteArray := prog_1_method_17_code
def yX7_call : MethodName := ⟨RX7, "call", "(IIIIII)I"⟩
abbrev cX7_members : ByteArray := prog_1_method_18_code
def yX7_members : MethodName := ⟨RX7, "members", "(II)I"⟩
abbrev cX7_fault : ByteArray := prog_1_method_19_code
def yX7_fault : MethodName := ⟨RX7, "fault", "(II)I"⟩
abbrev cX7_many : ByteArray := prog_1_method_20_code
def yX7_many : MethodName := ⟨RX7, "many", "(I)I"⟩
abbrev cX7_meanMembers : ByteArray := prog_1_method_21_code
def yX7_meanMembers : MethodName := ⟨RX7, "meanMembers", "()D"⟩
abbrev cX7_pairsWith : ByteArray := prog_1_method_22_code
def yX7_pairsWith : MethodName := ⟨RX7, "pairsWith", "(III)I"⟩
abbrev cX7_faultsWithout : ByteArray := prog_1_method_23_code
def yX7_faultsWithout : MethodName := ⟨RX7, "faultsWithout", "(I)I"⟩
abbrev cX7_digest : ByteArray := prog_1_method_24_code
def yX7_digest : MethodName := ⟨RX7, "digest", "()J"⟩
abbrev cX7_needKind : ByteArray := prog_1_method_25_code
def yX7_needKind : MethodName := ⟨RX7, "needKind", "(I)V"⟩
abbrev cX7_needParameter : ByteArray := prog_1_method_26_code
def yX7_needParameter : MethodName := ⟨RX7, "needParameter", "(II)V"⟩
abbrev cX7_needType : ByteArray := prog_1_method_27_code
def yX7_needType : MethodName := ⟨RX7, "needType", "(I)V"⟩
abbrev cX7_needTypeOrNone : ByteArray := prog_1_method_28_code
def yX7_needTypeOrNone : MethodName := ⟨RX7, "needTypeOrNone", "(I)V"⟩
abbrev cX7_needMethod : ByteArray := prog_1_method_29_code
def yX7_needMethod : MethodName := ⟨RX7, "needMethod", "(I)V"⟩
abbrev cX7_needWithin : ByteArray := prog_1_method_30_code
def yX7_needWithin : MethodName := ⟨RX7, "needWithin", "(II)V"⟩
abbrev cX7_isVarianceOrNone : ByteArray := prog_1_method_31_code
def yX7_isVarianceOrNone : MethodName := ⟨RX7, "isVarianceOrNone", "(I)Z"⟩
abbrev cX7_isName : ByteArray := prog_1_method_32_code
def yX7_isName : MethodName := ⟨RX7, "isName", "(I)Z"⟩
abbrev cX7_isGap : ByteArray := prog_1_method_33_code
def yX7_isGap : MethodName := ⟨RX7, "isGap", "(III)Z"⟩
abbrev cX7_isArgument : ByteArray := prog_1_method_34_code
def yX7_isArgument : MethodName := ⟨RX7, "isArgument", "(III)Z"⟩
abbrev cX7_isUsable : ByteArray := prog_1_method_35_code
def yX7_isUsable : MethodName := ⟨RX7, "isUsable", "(II)Z"⟩
abbrev cX7_isOwnedBy : ByteArray := prog_1_method_36_code
def yX7_isOwnedBy : MethodName := ⟨RX7, "isOwnedBy", "(II)Z"⟩
abbrev cX7_isExtendable : ByteArray := prog_1_method_37_code
def yX7_isExtendable : MethodName := ⟨RX7, "isExtendable", "(II)Z"⟩
abbrev cX7_isSimpleOf : ByteArray := prog_1_method_38_code
def yX7_isSimpleOf : MethodName := ⟨RX7, "isSimpleOf", "(II)Z"⟩
abbrev cX7_isSimpleArgument : ByteArray := prog_1_method_39_code
def yX7_isSimpleArgument : MethodName := ⟨RX7, "isSimpleArgument", "(I)Z"⟩
abbrev cX7_tell : ByteArray := prog_1_method_40_code
def yX7_tell : MethodName := ⟨RX7, "tell", "(IIII)I"⟩
abbrev cX7_isKeeping : ByteArray := prog_1_method_41_code
def yX7_isKeeping : MethodName := ⟨RX7, "isKeeping", "(I)Z"⟩
abbrev cX7_membersOfKind : ByteArray := prog_1_method_42_code
def yX7_membersOfKind : MethodName := ⟨RX7, "membersOfKind", "(I)I"⟩
abbrev cX7_membersNamed : ByteArray := prog_1_method_43_code
def yX7_membersNamed : MethodName := ⟨RX7, "membersNamed", "(II)I"⟩
def RX8 : String := "BoundWrightModel"
def TX8 : u_T := fun k => match k with
  | 0 => ("BoundWrightModel", "thrown", "I", false)
  | 1 => ("BoundWrightModel", "classes", "I", false)
  | 2 => ("BoundWrightModel", "parameters", "[I", true)
  | 3 => ("BoundWrightModel", "variance", "[I", true)
  | 4 => ("BoundWrightModel", "boundOf", "[I", true)
  | 5 => ("BoundWrightModel", "extended", "[I", true)
  | 6 => ("BoundWrightModel", "extending", "[I", true)
  | 7 => ("BoundWrightModel", "above", "[I", true)
  | 8 => ("BoundWrightModel", "isSealed", "[Z", true)
  | 9 => ("BoundWrightModel", "told", "I", false)
  | 10 => ("BoundWrightModel", "types", "I", false)
  | 11 => ("BoundWrightModel", "what", "[I", false)
  | 12 => ("BoundWrightModel", "x", "[I", false)
  | 13 => ("BoundWrightModel", "y", "[I", false)
  | 14 => ("BoundWrightModel", "one", "[I", false)
  | 15 => ("BoundWrightModel", "two", "[I", false)
  | 16 => ("BoundWrightModel", "methods", "I", false)
  | 17 => ("BoundWrightModel", "owner", "[I", true)
  | 18 => ("BoundWrightModel", "named", "[I", true)
  | 19 => ("BoundWrightModel", "formals", "[I", true)
  | 20 => ("BoundWrightModel", "count", "[I", true)
  | 21 => ("BoundWrightModel", "result", "[I", true)
  | 22 => ("BoundWrightModel", "bounds", "[I", true)
  | 23 => ("BoundWrightModel", "isMany", "[Z", true)
  | 24 => ("BoundWrightModel", "left", "I", false)
  | 25 => ("BoundWrightModel", "given", "[I", false)
  | 26 => ("BoundWrightModel", "bearing", "I", false)
  | _ => ("BoundWrightModel", "phase", "I", false)
def tyX8 : Nat → FieldType := fun k => match k with
  | 0 => .int
  | 1 => .int
  | 2 => .array .int
  | 3 => .array .int
  | 4 => .array .int
  | 5 => .array .int
  | 6 => .array .int
  | 7 => .array .int
  | 8 => .array .boolean
  | 9 => .int
  | 10 => .int
  | 11 => .array .int
  | 12 => .array .int
  | 13 => .array .int
  | 14 => .array .int
  | 15 => .array .int
  | 16 => .int
  | 17 => .array .int
  | 18 => .array .int
  | 19 => .array .int
  | 20 => .array .int
  | 21 => .array .int
  | 22 => .array .int
  | 23 => .array .boolean
  | 24 => .int
  | 25 => .array .int
  | 26 => .int
  | _ => .int
abbrev wsX80 : List Cond := u_ws RX8 TX8 28
theorem nmX8 : ∀ a, a < 28 → ∀ b, b < 28 → a ≠ b → (TX8 a).2.1 ≠ (TX8 b).2.1 := by decide +kernel
theorem tyX8_ok : ∀ k, k < 28 → parseFieldDescriptor (TX8 k).2.2.1 = some (tyX8 k) := by decide +kernel
abbrev cX8_init : ByteArray := prog_10_method_1_code
def yX8_init : MethodName := ⟨RX8, "<init>", "()V"⟩
abbrev cX8_thrown : ByteArray := prog_10_method_2_code
def yX8_thrown : MethodName := ⟨RX8, "thrown", "()I"⟩
abbrev cX8_no : ByteArray := prog_10_method_3_code
def yX8_no : MethodName := ⟨RX8, "no", "(I)I"⟩
abbrev cX8_begin : ByteArray := prog_10_method_4_code
def yX8_begin : MethodName := ⟨RX8, "begin", "()V"⟩
abbrev cX8_isIn : ByteArray := prog_10_method_5_code
def yX8_isIn : MethodName := ⟨RX8, "isIn", "(III)Z"⟩
abbrev cX8_has : ByteArray := prog_10_method_6_code
def yX8_has : MethodName := ⟨RX8, "has", "(II)Z"⟩
abbrev cX8_isClass : ByteArray := prog_10_method_7_code
def yX8_isClass : MethodName := ⟨RX8, "isClass", "(I)Z"⟩
abbrev cX8_isType : ByteArray := prog_10_method_8_code
def yX8_isType : MethodName := ⟨RX8, "isType", "(I)Z"⟩
abbrev cX8_isParameter : ByteArray := prog_10_method_9_code
def yX8_isParameter : MethodName := ⟨RX8, "isParameter", "(II)Z"⟩
abbrev cX8_write : ByteArray := prog_10_method_10_code
def yX8_write : MethodName := ⟨RX8, "write", "(IIIIII)V"⟩
abbrev cX8_more : ByteArray := prog_10_method_11_code
def yX8_more : MethodName := ⟨RX8, "more", "([I)[I"⟩
abbrev cX8_find : ByteArray := prog_10_method_12_code
def yX8_find : MethodName := ⟨RX8, "find", "(IIIII)I"⟩
abbrev cX8_type : ByteArray := prog_10_method_13_code
def yX8_type : MethodName := ⟨RX8, "type", "(IIIII)I"⟩
abbrev cX8_arrayOf : ByteArray := prog_10_method_14_code
def yX8_arrayOf : MethodName := ⟨RX8, "arrayOf", "(I)I"⟩
abbrev cX8_classOf : ByteArray := prog_10_method_15_code
def yX8_classOf : MethodName := ⟨RX8, "classOf", "(III)I"⟩
abbrev cX8_isOfClass : ByteArray := prog_10_method_16_code
def yX8_isOfClass : MethodName := ⟨RX8, "isOfClass", "(I)Z"⟩
abbrev cX8_argument : ByteArray := prog_10_method_17_code
def yX8_argument : MethodName := ⟨RX8, "argument", "(II)I"⟩
abbrev cX8_typeOf : ByteArray := prog_10_method_18_code
def yX8_typeOf : MethodName := ⟨RX8, "typeOf", "(I)I"⟩
abbrev cX8_modeOf : ByteArray := prog_10_method_19_code
def yX8_modeOf : MethodName := ⟨RX8, "modeOf", "(I)I"⟩
abbrev cX8_hasType : ByteArray := prog_10_method_20_code
def yX8_hasType : MethodName := ⟨RX8, "hasType", "(I)Z"⟩
abbrev cX8_boundOf : ByteArray := prog_10_method_21_code
def yX8_boundOf : MethodName := ⟨RX8, "boundOf", "(I)I"⟩
abbrev cX8_deepOf : ByteArray := prog_10_method_22_code
def yX8_deepOf : MethodName := ⟨RX8, "deepOf", "(I)I"⟩
abbrev cX8_hasOnly : ByteArray := prog_10_method_23_code
def yX8_hasOnly : MethodName := ⟨RX8, "hasOnly", "(II)Z"⟩
abbrev cX8_isClosed : ByteArray := prog_10_method_24_code
def yX8_isClosed : MethodName := ⟨RX8, "isClosed", "(I)Z"⟩
abbrev cX8_isSimple : ByteArray := prog_10_method_25_code
def yX8_isSimple : MethodName := ⟨RX8, "isSimple", "(I)Z"⟩
abbrev cX8_put : ByteArray := prog_10_method_26_code
def yX8_put : MethodName := ⟨RX8, "put", "(II)I"⟩
abbrev cX8_putArgument : ByteArray := prog_10_method_27_code
def yX8_putArgument : MethodName := ⟨RX8, "putArgument", "(II)I"⟩
abbrev cX8_stand : ByteArray := prog_10_method_28_code
def yX8_stand : MethodName := ⟨RX8, "stand", "(II)I"⟩
abbrev cX8_own : ByteArray := prog_10_method_29_code
def yX8_own : MethodName := ⟨RX8, "own", "(I)I"⟩
abbrev cX8_extendsMany : ByteArray := prog_10_method_30_code
def yX8_extendsMany : MethodName := ⟨RX8, "extendsMany", "(I)I"⟩
abbrev cX8_extendedBy : ByteArray := prog_10_method_31_code
def yX8_extendedBy : MethodName := ⟨RX8, "extendedBy", "(II)I"⟩
abbrev cX8_raise : ByteArray := prog_10_method_32_code
def yX8_raise : MethodName := ⟨RX8, "raise", "()V"⟩
abbrev cX8_isAbove : ByteArray := prog_10_method_33_code
def yX8_isAbove : MethodName := ⟨RX8, "isAbove", "(II)Z"⟩
abbrev cX8_isOrAbove : ByteArray := prog_10_method_34_code
def yX8_isOrAbove : MethodName := ⟨RX8, "isOrAbove", "(II)Z"⟩
abbrev cX8_asNow : ByteArray := prog_10_method_35_code
def yX8_asNow : MethodName := ⟨RX8, "asNow", "(II)I"⟩
abbrev cX8_isUnder : ByteArray := prog_10_method_36_code
def yX8_isUnder : MethodName := ⟨RX8, "isUnder", "(III)Z"⟩
abbrev cX8_modeBy : ByteArray := prog_10_method_37_code
def yX8_modeBy : MethodName := ⟨RX8, "modeBy", "(II)I"⟩
abbrev cX8_isWithin : ByteArray := prog_10_method_38_code
def yX8_isWithin : MethodName := ⟨RX8, "isWithin", "(IIII)Z"⟩
abbrev cX8_isUnder_ : ByteArray := prog_10_method_39_code
def yX8_isUnder_ : MethodName := ⟨RX8, "isUnder", "(II)Z"⟩
abbrev cX8_joinNow : ByteArray := prog_10_method_40_code
def yX8_joinNow : MethodName := ⟨RX8, "joinNow", "(IIZ)I"⟩
abbrev cX8_isOfBoth : ByteArray := prog_10_method_41_code
def yX8_isOfBoth : MethodName := ⟨RX8, "isOfBoth", "(III)Z"⟩
abbrev cX8_joinClasses : ByteArray := prog_10_method_42_code
def yX8_joinClasses : MethodName := ⟨RX8, "joinClasses", "(IIZ)I"⟩
abbrev cX8_joinArguments : ByteArray := prog_10_method_43_code
def yX8_joinArguments : MethodName := ⟨RX8, "joinArguments", "(IIIZ)I"⟩
abbrev cX8_keeps : ByteArray := prog_10_method_44_code
def yX8_keeps : MethodName := ⟨RX8, "keeps", "(I)Z"⟩
abbrev cX8_kind : ByteArray := prog_10_method_45_code
def yX8_kind : MethodName := ⟨RX8, "kind", "(IIZ)I"⟩
abbrev cX8_bound : ByteArray := prog_10_method_46_code
def yX8_bound : MethodName := ⟨RX8, "bound", "(III)I"⟩
abbrev cX8_extend : ByteArray := prog_10_method_47_code
def yX8_extend : MethodName := ⟨RX8, "extend", "(II)I"⟩
abbrev cX8_childrenOf : ByteArray := prog_10_method_48_code
def yX8_childrenOf : MethodName := ⟨RX8, "childrenOf", "(I)I"⟩
abbrev cX8_ofKindNow : ByteArray := prog_10_method_49_code
def yX8_ofKindNow : MethodName := ⟨RX8, "ofKindNow", "(II)I"⟩
abbrev cX8_ofKind : ByteArray := prog_10_method_50_code
def yX8_ofKind : MethodName := ⟨RX8, "ofKind", "(II)I"⟩
abbrev cX8_isArgument : ByteArray := prog_10_method_51_code
def yX8_isArgument : MethodName := ⟨RX8, "isArgument", "(III)Z"⟩
abbrev cX8_tell : ByteArray := prog_10_method_52_code
def yX8_tell : MethodName := ⟨RX8, "tell", "(I)I"⟩
abbrev cX8_of : ByteArray := prog_10_method_53_code
def yX8_of : MethodName := ⟨RX8, "of", "(III)I"⟩
abbrev cX8_parameter : ByteArray := prog_10_method_54_code
def yX8_parameter : MethodName := ⟨RX8, "parameter", "(II)I"⟩
abbrev cX8_array : ByteArray := prog_10_method_55_code
def yX8_array : MethodName := ⟨RX8, "array", "(I)I"⟩
abbrev cX8_erased : ByteArray := prog_10_method_56_code
def yX8_erased : MethodName := ⟨RX8, "erased", "(II)I"⟩
abbrev cX8_code : ByteArray := prog_10_method_57_code
def yX8_code : MethodName := ⟨RX8, "code", "(I)I"⟩
abbrev cX8_ofTypeNow : ByteArray := prog_10_method_58_code
def yX8_ofTypeNow : MethodName := ⟨RX8, "ofTypeNow", "(II)I"⟩
abbrev cX8_ofType : ByteArray := prog_10_method_59_code
def yX8_ofType : MethodName := ⟨RX8, "ofType", "(II)I"⟩
abbrev cX8_isBelow : ByteArray := prog_10_method_60_code
def yX8_isBelow : MethodName := ⟨RX8, "isBelow", "(II)Z"⟩
abbrev cX8_join : ByteArray := prog_10_method_61_code
def yX8_join : MethodName := ⟨RX8, "join", "(II)I"⟩
abbrev cX8_as : ByteArray := prog_10_method_62_code
def yX8_as : MethodName := ⟨RX8, "as", "(II)I"⟩
abbrev cX8_isCovered : ByteArray := prog_10_method_63_code
def yX8_isCovered : MethodName := ⟨RX8, "isCovered", "(III)Z"⟩
abbrev cX8_isClosedArgument : ByteArray := prog_10_method_64_code
def yX8_isClosedArgument : MethodName := ⟨RX8, "isClosedArgument", "(I)Z"⟩
abbrev cX8_cannotBe : ByteArray := prog_10_method_65_code
def yX8_cannotBe : MethodName := ⟨RX8, "cannotBe", "(II)Z"⟩
abbrev cX8_areAllNow : ByteArray := prog_10_method_66_code
def yX8_areAllNow : MethodName := ⟨RX8, "areAllNow", "(II)Z"⟩
abbrev cX8_areAll : ByteArray := prog_10_method_67_code
def yX8_areAll : MethodName := ⟨RX8, "areAll", "(II)Z"⟩
abbrev cX8_isFormal : ByteArray := prog_10_method_68_code
def yX8_isFormal : MethodName := ⟨RX8, "isFormal", "(I)Z"⟩
abbrev cX8_canBe : ByteArray := prog_10_method_69_code
def yX8_canBe : MethodName := ⟨RX8, "canBe", "(II)Z"⟩
abbrev cX8_method : ByteArray := prog_10_method_70_code
def yX8_method : MethodName := ⟨RX8, "method", "(IIIIIIZ)I"⟩
abbrev cX8_variable : ByteArray := prog_10_method_71_code
def yX8_variable : MethodName := ⟨RX8, "variable", "(II)I"⟩
abbrev cX8_overrides : ByteArray := prog_10_method_72_code
def yX8_overrides : MethodName := ⟨RX8, "overrides", "(II)Z"⟩
abbrev cX8_overridden : ByteArray := prog_10_method_73_code
def yX8_overridden : MethodName := ⟨RX8, "overridden", "(I)I"⟩
abbrev cX8_bits : ByteArray := prog_10_method_74_code
def yX8_bits : MethodName := ⟨RX8, "bits", "(I)I"⟩
abbrev cX8_membersOfClass : ByteArray := prog_10_method_75_code
def yX8_membersOfClass : MethodName := ⟨RX8, "membersOfClass", "(I)I"⟩
abbrev cX8_bearer : ByteArray := prog_10_method_76_code
def yX8_bearer : MethodName := ⟨RX8, "bearer", "(I)I"⟩
abbrev cX8_membersOf : ByteArray := prog_10_method_77_code
def yX8_membersOf : MethodName := ⟨RX8, "membersOf", "(I)I"⟩
abbrev cX8_areAlike : ByteArray := prog_10_method_78_code
def yX8_areAlike : MethodName := ⟨RX8, "areAlike", "(IIZ)Z"⟩
abbrev cX8_bridges : ByteArray := prog_10_method_79_code
def yX8_bridges : MethodName := ⟨RX8, "bridges", "(I)I"⟩
abbrev cX8_ofMethodNow : ByteArray := prog_10_method_80_code
def yX8_ofMethodNow : MethodName := ⟨RX8, "ofMethodNow", "(II)I"⟩
abbrev cX8_ofMethod : ByteArray := prog_10_method_81_code
def yX8_ofMethod : MethodName := ⟨RX8, "ofMethod", "(II)I"⟩
abbrev cX8_membersNow : ByteArray := prog_10_method_82_code
def yX8_membersNow : MethodName := ⟨RX8, "membersNow", "(II)I"⟩
abbrev cX8_members : ByteArray := prog_10_method_83_code
def yX8_members : MethodName := ⟨RX8, "members", "(II)I"⟩
abbrev cX8_formalAt : ByteArray := prog_10_method_84_code
def yX8_formalAt : MethodName := ⟨RX8, "formalAt", "(II)I"⟩
abbrev cX8_standing : ByteArray := prog_10_method_85_code
def yX8_standing : MethodName := ⟨RX8, "standing", "(I)I"⟩
abbrev cX8_fits : ByteArray := prog_10_method_86_code
def yX8_fits : MethodName := ⟨RX8, "fits", "(II)Z"⟩
abbrev cX8_isSpecial : ByteArray := prog_10_method_87_code
def yX8_isSpecial : MethodName := ⟨RX8, "isSpecial", "(II)Z"⟩
abbrev cX8_choose : ByteArray := prog_10_method_88_code
def yX8_choose : MethodName := ⟨RX8, "choose", "(I)I"⟩
abbrev cX8_call : ByteArray := prog_10_method_89_code
def yX8_call : MethodName := ⟨RX8, "call", "(IIIIII)I"⟩
abbrev cX8_isTwice : ByteArray := prog_10_method_90_code
def yX8_isTwice : MethodName := ⟨RX8, "isTwice", "(I[I)Z"⟩
abbrev cX8_isReachedTwice : ByteArray := prog_10_method_91_code
def yX8_isReachedTwice : MethodName := ⟨RX8, "isReachedTwice", "(I)Z"⟩
abbrev cX8_isOwnWith : ByteArray := prog_10_method_92_code
def yX8_isOwnWith : MethodName := ⟨RX8, "isOwnWith", "(III)Z"⟩
abbrev cX8_isFault : ByteArray := prog_10_method_93_code
def yX8_isFault : MethodName := ⟨RX8, "isFault", "(II)Z"⟩
abbrev cX8_clashes : ByteArray := prog_10_method_94_code
def yX8_clashes : MethodName := ⟨RX8, "clashes", "(II)Z"⟩
abbrev cX8_numberOf : ByteArray := prog_10_method_95_code
def yX8_numberOf : MethodName := ⟨RX8, "numberOf", "(IIII)I"⟩
abbrev cX8_lookFor : ByteArray := prog_10_method_96_code
def yX8_lookFor : MethodName := ⟨RX8, "lookFor", "(III)I"⟩
abbrev cX8_fault : ByteArray := prog_10_method_97_code
def yX8_fault : MethodName := ⟨RX8, "fault", "(II)I"⟩
abbrev cX8_pairs : ByteArray := prog_10_method_98_code
def yX8_pairs : MethodName := ⟨RX8, "pairs", "()I"⟩
abbrev cX8_manyNow : ByteArray := prog_10_method_99_code
def yX8_manyNow : MethodName := ⟨RX8, "manyNow", "(I)I"⟩
abbrev cX8_many : ByteArray := prog_10_method_100_code
def yX8_many : MethodName := ⟨RX8, "many", "(I)I"⟩
abbrev cX8_meanMembers : ByteArray := prog_10_method_101_code
def yX8_meanMembers : MethodName := ⟨RX8, "meanMembers", "()D"⟩
abbrev cX8_pairsWith : ByteArray := prog_10_method_102_code
def yX8_pairsWith : MethodName := ⟨RX8, "pairsWith", "(III)I"⟩
abbrev cX8_withoutNow : ByteArray := prog_10_method_103_code
def yX8_withoutNow : MethodName := ⟨RX8, "withoutNow", "(I)I"⟩
abbrev cX8_faultsWithout : ByteArray := prog_10_method_104_code
def yX8_faultsWithout : MethodName := ⟨RX8, "faultsWithout", "(I)I"⟩
abbrev cX8_digest : ByteArray := prog_10_method_105_code
def yX8_digest : MethodName := ⟨RX8, "digest", "()J"⟩
def RJx145de : String := "java/io/Serializable"
def TJx145de : u_T := fun k => match k with
  | _ => ("", "", "", false)
def tyJx145de : Nat → FieldType := fun k => match k with
  | _ => .int
abbrev wsJx145de0 : List Cond := u_ws RJx145de TJx145de 0
theorem nmJx145de : ∀ a, a < 0 → ∀ b, b < 0 → a ≠ b → (TJx145de a).2.1 ≠ (TJx145de b).2.1 := by decide +kernel
theorem tyJx145de_ok : ∀ k, k < 0 → parseFieldDescriptor (TJx145de k).2.2.1 = some (tyJx145de k) := by decide +kernel
def RJ6 : String := "java/lang/Integer"
def TJ6 : u_T := fun k => match k with
  | _ => ("", "", "", false)
def tyJ6 : Nat → FieldType := fun k => match k with
  | _ => .int
abbrev wsJ60 : List Cond := u_ws RJ6 TJ6 0
theorem nmJ6 : ∀ a, a < 0 → ∀ b, b < 0 → a ≠ b → (TJ6 a).2.1 ≠ (TJ6 b).2.1 := by decide +kernel
theorem tyJ6_ok : ∀ k, k < 0 → parseFieldDescriptor (TJ6 k).2.2.1 = some (tyJ6 k) := by decide +kernel
abbrev cJ6_bitCount_0f7a4 : ByteArray := prog_15_method_49_code
def yJ6_bitCount_0f7a4 : MethodName := ⟨RJ6, "bitCount", "(I)I"⟩
def RJ9 : String := "java/lang/Math"
def TJ9 : u_T := fun k => match k with
  | _ => ("", "", "", false)
def tyJ9 : Nat → FieldType := fun k => match k with
  | _ => .int
abbrev wsJ90 : List Cond := u_ws RJ9 TJ9 0
theorem nmJ9 : ∀ a, a < 0 → ∀ b, b < 0 → a ≠ b → (TJ9 a).2.1 ≠ (TJ9 b).2.1 := by decide +kernel
theorem tyJ9_ok : ∀ k, k < 0 → parseFieldDescriptor (TJ9 k).2.2.1 = some (tyJ9 k) := by decide +kernel
abbrev cJ9_max_7cf53 : ByteArray := prog_16_method_65_code
def yJ9_max_7cf53 : MethodName := ⟨RJ9, "max", "(II)I"⟩
def RJ0 : String := "java/lang/String"
def TJ0 : u_T := fun k => match k with
  | _ => ("", "", "", false)
def tyJ0 : Nat → FieldType := fun k => match k with
  | _ => .int
abbrev wsJ00 : List Cond := u_ws RJ0 TJ0 0
theorem nmJ0 : ∀ a, a < 0 → ∀ b, b < 0 → a ≠ b → (TJ0 a).2.1 ≠ (TJ0 b).2.1 := by decide +kernel
theorem tyJ0_ok : ∀ k, k < 0 → parseFieldDescriptor (TJ0 k).2.2.1 = some (tyJ0 k) := by decide +kernel
def RJ10 : String := "java/lang/System"
def TJ10 : u_T := fun k => match k with
  | _ => ("", "", "", false)
def tyJ10 : Nat → FieldType := fun k => match k with
  | _ => .int
abbrev wsJ100 : List Cond := u_ws RJ10 TJ10 0
theorem nmJ10 : ∀ a, a < 0 → ∀ b, b < 0 → a ≠ b → (TJ10 a).2.1 ≠ (TJ10 b).2.1 := by decide +kernel
theorem tyJ10_ok : ∀ k, k < 0 → parseFieldDescriptor (TJ10 k).2.2.1 = some (tyJ10 k) := by decide +kernel
def RJ7 : String := "java/util/Arrays"
def TJ7 : u_T := fun k => match k with
  | _ => ("", "", "", false)
def tyJ7 : Nat → FieldType := fun k => match k with
  | _ => .int
abbrev wsJ70 : List Cond := u_ws RJ7 TJ7 0
theorem nmJ7 : ∀ a, a < 0 → ∀ b, b < 0 → a ≠ b → (TJ7 a).2.1 ≠ (TJ7 b).2.1 := by decide +kernel
theorem tyJ7_ok : ∀ k, k < 0 → parseFieldDescriptor (TJ7 k).2.2.1 = some (tyJ7 k) := by decide +kernel
abbrev cJ7_fill_53178 : ByteArray := prog_21_method_103_code
def yJ7_fill_53178 : MethodName := ⟨RJ7, "fill", "([II)V"⟩
def RL : String := "BoundWrightLaw"
abbrev cL_kind : ByteArray := method_3_code
def yL_kind : MethodName := ⟨RL, "kind", "(LBoundWright;IIZ[J)I"⟩
abbrev cL_bound : ByteArray := method_4_code
def yL_bound : MethodName := ⟨RL, "bound", "(LBoundWright;III[J)I"⟩
abbrev cL_extend : ByteArray := method_5_code
def yL_extend : MethodName := ⟨RL, "extend", "(LBoundWright;II[J)I"⟩
abbrev cL_ofKind : ByteArray := method_6_code
def yL_ofKind : MethodName := ⟨RL, "ofKind", "(LBoundWright;II[J)I"⟩
abbrev cL_of : ByteArray := method_7_code
def yL_of : MethodName := ⟨RL, "of", "(LBoundWright;III[J)I"⟩
abbrev cL_parameter : ByteArray := method_8_code
def yL_parameter : MethodName := ⟨RL, "parameter", "(LBoundWright;II[J)I"⟩
abbrev cL_array : ByteArray := method_9_code
def yL_array : MethodName := ⟨RL, "array", "(LBoundWright;I[J)I"⟩
abbrev cL_ofType : ByteArray := method_10_code
def yL_ofType : MethodName := ⟨RL, "ofType", "(LBoundWright;II[J)I"⟩
abbrev cL_isBelow : ByteArray := method_11_code
def yL_isBelow : MethodName := ⟨RL, "isBelow", "(LBoundWright;II[J)I"⟩
abbrev cL_join : ByteArray := method_12_code
def yL_join : MethodName := ⟨RL, "join", "(LBoundWright;II[J)I"⟩
abbrev cL_as : ByteArray := method_13_code
def yL_as : MethodName := ⟨RL, "as", "(LBoundWright;II[J)I"⟩
abbrev cL_areAll : ByteArray := method_14_code
def yL_areAll : MethodName := ⟨RL, "areAll", "(LBoundWright;II[J)I"⟩
abbrev cL_method : ByteArray := method_15_code
def yL_method : MethodName := ⟨RL, "method", "(LBoundWright;IIIIIIZ[J)I"⟩
abbrev cL_variable : ByteArray := method_16_code
def yL_variable : MethodName := ⟨RL, "variable", "(LBoundWright;II[J)I"⟩
abbrev cL_ofMethod : ByteArray := method_17_code
def yL_ofMethod : MethodName := ⟨RL, "ofMethod", "(LBoundWright;II[J)I"⟩
abbrev cL_call : ByteArray := method_18_code
def yL_call : MethodName := ⟨RL, "call", "(LBoundWright;IIIIII[J)I"⟩
abbrev cL_members : ByteArray := method_19_code
def yL_members : MethodName := ⟨RL, "members", "(LBoundWright;II[J)I"⟩
abbrev cL_fault : ByteArray := method_20_code
def yL_fault : MethodName := ⟨RL, "fault", "(LBoundWright;II[J)I"⟩
abbrev cL_many : ByteArray := method_21_code
def yL_many : MethodName := ⟨RL, "many", "(LBoundWright;I[J)I"⟩
abbrev cL_pairsWith : ByteArray := method_22_code
def yL_pairsWith : MethodName := ⟨RL, "pairsWith", "(LBoundWright;III[J)I"⟩
abbrev cL_faultsWithout : ByteArray := method_23_code
def yL_faultsWithout : MethodName := ⟨RL, "faultsWithout", "(LBoundWright;I[J)I"⟩
abbrev cL_law : ByteArray := code
def yL_law : MethodName := ⟨RL, "law", "([I)Z"⟩
abbrev vwCl : List vw_C := [(RX0, TX0, 9), (RX1, TX1, 6), (RX2, TX2, 10), (RX3, TX3, 10), (RX4, TX4, 2), (RX5, TX5, 16), (RX6, TX6, 8), (RX7, TX7, 7), (RX8, TX8, 28)]
end
section
/-! ===== an interpreter of the bytecode that is met here, over things by number: what it says is proved of the machine in the parts behind. Its own words begin with mv_ ===== -/
/-- a value: (0, n) the int n; (1, _) null; (2, k) the k-th thing made; (3, n) a long; (4, n) a double; (5, i) the i-th unknown int; (6, j) the unknown j % 16, shifted right by j / 16; (7, _) the script -/
abbrev mv_V : Type := Nat × Nat
/-- a thing: 0 ints, 1 longs, 2 booleans, 3 something that nobody looks at, n + 4 an object of class n -/
abbrev mv_C : Type := Nat × List mv_V
/-- for each unknown its least and greatest value, 2^31 more than it is -/
abbrev mv_B : Type := List (Nat × Nat)
/-- an instruction: itself, its place, its length, its kind, two numbers -/
abbrev mv_E : Type := Instr × Nat × Nat × Nat × Nat × Nat
abbrev mv_L : Type := List (Nat × mv_V)
def mv_co (x : Int32) : Nat := x.toUInt32.toNat
def mv_cl (x : Int64) : Nat := x.toUInt64.toNat
def mv_ii (r : Nat → Int32) (v : mv_V) : Int32 := match v.1 with
  | 0 => nI v.2
  | 5 => r v.2
  | 6 => ((r (v.2 % 16)).toUInt32 >>> ((nI (v.2 / 16)).toUInt32 &&& Int32.toUInt32 31)).toInt32
  | _ => 0
def mv_val (r : Nat → Int32) (ba b : Nat) (v : mv_V) : Value := match v.1 with
  | 0 => .int (mv_ii r v)
  | 1 => .null
  | 2 => .ref (ba + v.2)
  | 3 => .long (lN v.2)
  | 4 => .double (UInt64.ofNat v.2)
  | 5 => .int (mv_ii r v)
  | 6 => .int (mv_ii r v)
  | _ => .ref b
def mv_isI (v : mv_V) : Bool := bif Nat.beq v.1 0 then true else bif Nat.beq v.1 5 then true else Nat.beq v.1 6
def mv_w2 (v : mv_V) : Bool := bif Nat.beq v.1 3 then true else Nat.beq v.1 4
def mv_isA (v : mv_V) : Bool := bif Nat.beq v.1 2 then true else Nat.beq v.1 7
def mv_isJ (v : mv_V) : Bool := Nat.beq v.1 3
def mv_isD (v : mv_V) : Bool := Nat.beq v.1 4
def mv_cd (x : Int32) : Nat := (x.toInt + 2147483648).toNat
def mv_bd (g : mv_B) (i : Nat) : Nat × Nat := (g[i]?).getD (0, 4294967295)
def mv_in (g : mv_B) (r : Nat → Int32) : Prop := ∀ i : Nat, (mv_bd g i).1 ≤ mv_cd (r i) ∧ mv_cd (r i) ≤ (mv_bd g i).2
/-- a number, counted out; a list, laid out -/
noncomputable def mv_fo {α : Type} (n : Nat) (k : Nat → α) : α := Nat.rec (motive := fun _ => α) (k 0) (fun m _ => k (Nat.succ m)) n
noncomputable def mv_fl {α β : Type} (l : List α) : (List α → β) → β := List.rec (motive := fun _ => (List α → β) → β) (fun k => k []) (fun x _ ih k => ih (fun q => k (x :: q))) l
noncomputable def mv_gt {α : Type} (l : List α) : Nat → Option α := List.rec (motive := fun _ => Nat → Option α) (fun _ => none) (fun x _ ih n => Nat.rec (motive := fun _ => Option α) (some x) (fun m _ => ih m) n) l
noncomputable def mv_ls {α β : Type} (l : List α) : Nat → α → (List α → β) → β := List.rec (motive := fun _ => Nat → α → (List α → β) → β) (fun _ _ k => k []) (fun x t ih n v k => Nat.rec (motive := fun _ => β) (k (v :: t)) (fun m _ => ih m v (fun q => k (x :: q))) n) l
/-- the members that p takes, laid out -/
noncomputable def mv_fi {α β : Type} (p : α → Bool) (l : List α) : (List α → β) → β := List.rec (motive := fun _ => (List α → β) → β) (fun k => k []) (fun x _ ih k => bif p x then ih (fun q => k (x :: q)) else ih k) l
/-- a member behind the last one, laid out -/
noncomputable def mv_sn {α β : Type} (l : List α) (v : α) : (List α → β) → β := List.rec (motive := fun _ => (List α → β) → β) (fun k => k [v]) (fun x _ ih k => ih (fun q => k (x :: q))) l
theorem mv_fo_eq {α : Type} (n : Nat) (k : Nat → α) : mv_fo n k = k n := by cases n <;> rfl
theorem mv_fl_eq {α β : Type} (l : List α) (k : List α → β) : mv_fl l k = k l := by
  induction l generalizing k with
  | nil => rfl
  | cons x t ih => exact ih (fun q => k (x :: q))
theorem mv_fi_eq {α β : Type} (p : α → Bool) (l : List α) (k : List α → β) : mv_fi p l k = k (l.filter p) := by
  induction l generalizing k with
  | nil => rfl
  | cons x t ih =>
    show (bif p x then mv_fi p t (fun q => k (x :: q)) else mv_fi p t k) = _
    cases hp : p x
    · rw [List.filter_cons_of_neg (by simp [hp])]; exact ih k
    · rw [List.filter_cons_of_pos hp]; exact ih (fun q => k (x :: q))
theorem mv_sn_eq {α β : Type} (l : List α) (v : α) (k : List α → β) : mv_sn l v k = k (l ++ [v]) := by
  induction l generalizing k with
  | nil => rfl
  | cons x t ih => exact ih (fun q => k (x :: q))
theorem mv_gt_eq {α : Type} (l : List α) (n : Nat) : mv_gt l n = l[n]? := by
  induction l generalizing n with
  | nil => simp [mv_gt]
  | cons x t ih => cases n with
    | zero => rfl
    | succ n => exact (ih n).trans List.getElem?_cons_succ.symm
theorem mv_ls_eq {α β : Type} (l : List α) (n : Nat) (v : α) (k : List α → β) : mv_ls l n v k = k (l.set n v) := by
  induction l generalizing n k with
  | nil => rfl
  | cons x t ih => cases n with
    | zero => rfl
    | succ n => exact ih n (fun q => k (x :: q))
/-- an int that is known; or where to part the unknown that it is -/
def mv_cI5 (i : Nat) (q : Nat × Nat) : Option ((Nat × Nat) ⊕ Nat) :=
  bif Nat.beq q.1 q.2 then some (.inr ((q.1 + 2147483648) % 4294967296))
    else bif Nat.ble (q.2 - q.1) 64 then some (.inl (i, q.1)) else none
def mv_cI (g : mv_B) (v : mv_V) : Option ((Nat × Nat) ⊕ Nat) :=
  bif Nat.beq v.1 0 then some (.inr v.2) else bif Nat.beq v.1 5 then mv_cI5 v.2 (mv_bd g v.2) else none
/-- between which two numbers an int lies -/
def mv_rg6 (k : Nat) (q : Nat × Nat) : Option (Nat × Nat) :=
  bif Nat.ble 2147483648 q.1 && (Nat.blt k 32 && Nat.blt q.2 4294967296) then some (2147483648 + (q.1 - 2147483648) / 2 ^ k, 2147483648 + (q.2 - 2147483648) / 2 ^ k) else none
def mv_rg (g : mv_B) (v : mv_V) : Option (Nat × Nat) :=
  bif Nat.beq v.1 0 then some ((v.2 + 2147483648) % 4294967296, (v.2 + 2147483648) % 4294967296) else
  bif Nat.beq v.1 5 then some (mv_bd g v.2) else
  bif Nat.beq v.1 6 then mv_rg6 (v.2 / 16) (mv_bd g (v.2 % 16)) else none
def mv_sp (v w : mv_V) (a c : Nat × Nat) : Option ((Nat × Nat) ⊕ Bool) :=
  bif Nat.beq v.1 5 && !(Nat.beq a.1 a.2) then some (.inl (v.2, bif Nat.beq c.1 c.2 then c.1 else a.1)) else bif Nat.beq w.1 5 then some (.inl (w.2, bif Nat.beq a.1 a.2 then a.1 else c.1)) else none
/-- against a number that is known: parted in two (16 more than the unknown's own number) -/
def mv_sp2 (v w : mv_V) (a c : Nat × Nat) : Option ((Nat × Nat) ⊕ Bool) :=
  bif Nat.beq v.1 5 && Nat.beq c.1 c.2 then some (.inl (v.2 + 16, c.1)) else bif Nat.beq w.1 5 && Nat.beq a.1 a.2 then some (.inl (w.2 + 16, a.1 + 1)) else mv_sp v w a c
def mv_ltr (v w : mv_V) (a c : Nat × Nat) : Option ((Nat × Nat) ⊕ Bool) := bif Nat.blt a.2 c.1 then some (.inr true) else bif Nat.ble c.2 a.1 then some (.inr false) else mv_sp2 v w a c
def mv_ltg (g : mv_B) (v w : mv_V) : Option ((Nat × Nat) ⊕ Bool) := match mv_rg g v, mv_rg g w with
  | some a, some c => mv_ltr v w a c
  | _, _ => none
def mv_lt (g : mv_B) (v w : mv_V) : Option ((Nat × Nat) ⊕ Bool) := bif Nat.beq v.1 0 && Nat.beq w.1 0 then some (.inr (Nat.blt ((v.2 + 2147483648) % 4294967296) ((w.2 + 2147483648) % 4294967296))) else mv_ltg g v w
def mv_eqr (v w : mv_V) (a c : Nat × Nat) : Option ((Nat × Nat) ⊕ Bool) := bif Nat.blt a.2 c.1 || Nat.blt c.2 a.1 then some (.inr false) else bif Nat.beq a.1 a.2 && Nat.beq c.1 c.2 then some (.inr true) else mv_sp v w a c
def mv_eqg (g : mv_B) (v w : mv_V) : Option ((Nat × Nat) ⊕ Bool) := match mv_rg g v, mv_rg g w with
  | some a, some c => mv_eqr v w a c
  | _, _ => none
def mv_eq (g : mv_B) (v w : mv_V) : Option ((Nat × Nat) ⊕ Bool) := bif Nat.beq v.1 0 && Nat.beq w.1 0 then some (.inr (Nat.beq (v.2 % 4294967296) (w.2 % 4294967296))) else mv_eqg g v w
def mv_no (x : Option ((Nat × Nat) ⊕ Bool)) : Option ((Nat × Nat) ⊕ Bool) := match x with
  | some (.inr q) => some (.inr (!q))
  | y => y
def mv_cm (g : mv_B) (o : ClassFile.Cond) (v w : mv_V) : Option ((Nat × Nat) ⊕ Bool) := match o with
  | .eq => mv_eq g v w
  | .ne => mv_no (mv_eq g v w)
  | .lt => mv_lt g v w
  | .ge => mv_no (mv_lt g v w)
  | .gt => mv_lt g w v
  | .le => mv_no (mv_lt g w v)
/-- a step: where to part an unknown; or the target of a jump, the locals, the stack, the things, how many cells and slots were made -/
abbrev mv_S : Type := Option ((Nat × Nat) ⊕ (Option Nat × mv_L × List mv_V × List mv_C × Nat × Nat))
noncomputable def mv_lk (loc : mv_L) (i : Nat) : Option mv_V := List.rec (motive := fun _ => Option mv_V) none (fun q _ ih => bif Nat.beq q.1 i then some q.2 else ih) loc
def mv_d1 (i : Nat) (q : Nat × mv_V) : Bool := bif Nat.beq q.1 i then false else bif Nat.beq (q.1 + 1) i then !mv_w2 q.2 else true
def mv_d2 (i : Nat) (q : Nat × mv_V) : Bool := bif Nat.beq q.1 i then false else bif Nat.beq q.1 (i + 1) then false else bif Nat.beq (q.1 + 1) i then !mv_w2 q.2 else true
section
variable (g : mv_B) (loc : mv_L) (st : List mv_V) (h : List mv_C) (nc ns : Nat)
def mv_go (s2 : List mv_V) : mv_S := some (.inr (none, loc, s2, h, nc, ns))
/-- a local on the stack -/
noncomputable def mv_ld (f : mv_V → Bool) (i : Nat) : mv_S := match mv_lk loc i with
  | some v => bif f v then mv_go loc h nc ns (v :: st) else none
  | none => none
noncomputable def mv_sto (f : mv_V → Bool) (nL i : Nat) : mv_S := match st with
  | v :: s2 => bif f v && Nat.blt i nL then mv_fi (mv_d1 i) loc (fun q => some (.inr (none, (i, v) :: q, s2, h, nc, ns))) else none
  | _ => none
noncomputable def mv_sto2 (f : mv_V → Bool) (nL i : Nat) : mv_S := match st with
  | v :: s2 => bif f v && Nat.blt (i + 1) nL then mv_fi (mv_d2 i) loc (fun q => some (.inr (none, (i, v) :: q, s2, h, nc, ns))) else none
  | _ => none
noncomputable def mv_un (f : Nat → mv_V) : mv_S := match st with
  | x :: s2 => match mv_cI g x with
    | some (.inr a) => mv_fo (f a).2 (fun n => mv_go loc h nc ns (((f a).1, n) :: s2))
    | some (.inl q) => some (.inl q)
    | none => none
  | _ => none
noncomputable def mv_bi (f : Nat → Nat → Option Nat) : mv_S := match st with
  | y :: x :: s2 => match mv_cI g x with
    | some (.inr a) => match mv_cI g y with
      | some (.inr c) => match f a c with
        | some n => mv_fo n (fun n => mv_go loc h nc ns ((0, n) :: s2))
        | none => none
      | some (.inl q) => some (.inl q)
      | none => none
    | some (.inl q) => some (.inl q)
    | none => none
  | _ => none
/-- two longs -/
noncomputable def mv_bl (f : Nat → Nat → mv_V) : mv_S := match st with
  | y :: x :: s2 => bif mv_isJ x && mv_isJ y then mv_fo (f x.2 y.2).2 (fun n => mv_go loc h nc ns (((f x.2 y.2).1, n) :: s2)) else none
  | _ => none
noncomputable def mv_b4 (f : Nat → Nat → mv_V) : mv_S := match st with
  | y :: x :: s2 => bif mv_isD x && mv_isD y then mv_fo (f x.2 y.2).2 (fun n => mv_go loc h nc ns (((f x.2 y.2).1, n) :: s2)) else none
  | _ => none
noncomputable def mv_dd : mv_S := match st with
  | y :: x :: s2 => bif mv_isD y && (mv_isD x && decide (FP.ddiv (UInt64.ofNat x.2) (UInt64.ofNat y.2) &&& 0x7fffffffffffffff ≤ 0x7ff0000000000000)) then mv_fo (FP.ddiv (UInt64.ofNat x.2) (UInt64.ofNat y.2)).toNat (fun n => mv_go loc h nc ns ((4, n) :: s2)) else none
  | _ => none
def mv_br (o : ClassFile.Cond) (v w : mv_V) (s2 : List mv_V) (t : Nat) : mv_S := match mv_cm g o v w with
  | some (.inr true) => some (.inr (some t, loc, s2, h, nc, ns))
  | some (.inr false) => mv_go loc h nc ns s2
  | some (.inl q) => some (.inl q)
  | none => none
/-- an array's row and a place in it -/
noncomputable def mv_ar (t : Nat) (y x : mv_V) (k : Nat → List mv_V → Nat → mv_S) : mv_S :=
  bif Nat.beq x.1 2 then match mv_cI g y with
    | some (.inr a) => match mv_gt h x.2 with
      | some c => bif Nat.beq c.1 t && (Nat.blt a c.2.length && Nat.blt c.2.length 65536) then k x.2 c.2 a else none
      | none => none
    | some (.inl q) => some (.inl q)
    | none => none
  else none
noncomputable def mv_ald (t : Nat) (f : mv_V → Bool) : mv_S := match st with
  | y :: x :: s2 => mv_ar g h t y x (fun _ l a => match mv_gt l a with
    | some v => bif f v then mv_go loc h nc ns (v :: s2) else none
    | none => none)
  | _ => none
noncomputable def mv_ast (t : Nat) (f : mv_V → Bool) : mv_S := match st with
  | v :: y :: x :: s2 => bif f v then mv_ar g h t y x (fun k l a => mv_ls l a v (fun l2 => mv_ls h k (t, l2) (fun h2 => mv_go loc h2 nc ns s2))) else none
  | _ => none
/-- booleans alone may be kept as such -/
noncomputable def mv_zst : mv_S := match st with
  | v :: y :: x :: s2 => match mv_cI g v with
    | some (.inr z) => bif Nat.blt z 2 then mv_ar g h 2 y x (fun k l a => mv_ls l a (0, z) (fun l2 => mv_ls h k (2, l2) (fun h2 => mv_go loc h2 nc ns s2))) else none
    | some (.inl q) => some (.inl q)
    | none => none
  | _ => none
noncomputable def mv_len : mv_S := match st with
  | x :: s2 => bif Nat.beq x.1 2 then match mv_gt h x.2 with
      | some c => bif Nat.blt c.1 3 then mv_fo c.2.length (fun n => mv_go loc h nc ns ((0, n) :: s2)) else none
      | none => none
    else none
  | _ => none
noncomputable def mv_gf (ci k : Nat) : mv_S := match st with
  | x :: s2 => bif Nat.beq x.1 2 then match mv_gt h x.2 with
      | some c => bif Nat.beq c.1 (ci + 4) then match mv_gt c.2 k with
          | some v => mv_go loc h nc ns (v :: s2)
          | none => none
        else none
      | none => none
    else none
  | _ => none
/-- what a field of a kind (0 int, 1 boolean, 2 reference) may hold -/
def mv_fits (t : Nat) (v : mv_V) : Bool := bif Nat.beq t 0 then mv_isI v else bif Nat.beq t 1 then Nat.beq v.1 0 && Nat.blt v.2 2 else bif Nat.beq v.1 1 then true else Nat.beq v.1 2
noncomputable def mv_pf (ci k t : Nat) : mv_S := match st with
  | v :: x :: s2 => bif Nat.beq x.1 2 && mv_fits t v then match mv_gt h x.2 with
      | some c => bif Nat.beq c.1 (ci + 4) && Nat.blt k c.2.length then mv_ls c.2 k v (fun l2 => mv_ls h x.2 (ci + 4, l2) (fun h2 => mv_go loc h2 nc ns s2)) else none
      | none => none
    else none
  | _ => none
/-- an array of a kind -/
noncomputable def mv_na (t : Nat) : mv_S := match st with
  | y :: s2 => match mv_cI g y with
    | some (.inr n) => bif Nat.blt n 65536 then mv_fo h.length (fun q => mv_sn h (t, List.replicate n (bif Nat.beq t 1 then (3, 0) else (0, 0))) (fun h2 => some (.inr (none, loc, (2, q) :: s2, h2, nc + 1, ns + n)))) else none
    | some (.inl q) => some (.inl q)
    | none => none
  | _ => none
/-- an object of class ci with these fields -/
noncomputable def mv_nw (ci : Nat) (l : List mv_V) : mv_S := mv_fo h.length (fun q => mv_sn h (ci + 4, l) (fun h2 => some (.inr (none, loc, (2, q) :: st, h2, nc + 1, ns + l.length))))
noncomputable def mv_inc (nL i n : Nat) : mv_S := match mv_lk loc i with
  | some v => match mv_cI g v with
    | some (.inr a) => bif Nat.blt i nL then mv_fo ((a + n) % 4294967296) (fun q => mv_fi (mv_d1 i) loc (fun l2 => some (.inr (none, (i, (0, q)) :: l2, st, h, nc, ns)))) else none
    | some (.inl q) => some (.inl q)
    | none => none
  | none => none
/-- the unknown 0, its last five bits: the unknown 8 -/
noncomputable def mv_and : mv_S := match st with
  | y :: x :: s2 => bif Nat.beq x.1 5 && (Nat.beq x.2 0 && (Nat.beq y.1 0 && Nat.beq y.2 31)) then mv_go loc h nc ns ((5, 8) :: s2) else mv_bi g loc st h nc ns (fun a c => some (Nat.land a c % 4294967296))
  | _ => none
noncomputable def mv_ush : mv_S := match st with
  | y :: x :: s2 => bif Nat.beq y.1 0 && (Nat.beq x.1 5 && (Nat.blt y.2 32 && Nat.blt x.2 16)) then
      bif Nat.ble 2147483648 (mv_bd g x.2).1 then
        bif Nat.blt 0 (((mv_bd g x.2).1 - 2147483648) / 2 ^ y.2) then mv_go loc h nc ns ((6, x.2 + 16 * y.2) :: s2)
        else bif Nat.beq (mv_bd g x.2).1 (mv_bd g x.2).2 then mv_bi g loc st h nc ns (fun a c => some (mv_co (((nI a).toUInt32 >>> ((nI c).toUInt32 &&& Int32.toUInt32 31)).toInt32))) else some (.inl (x.2, (mv_bd g x.2).1))
      else some (.inl (x.2, 2147483648))
    else mv_bi g loc st h nc ns (fun a c => some (mv_co (((nI a).toUInt32 >>> ((nI c).toUInt32 &&& Int32.toUInt32 31)).toInt32)))
  | _ => none
/-- the script's length is the unknown 10, what stands in it are the unknowns 0 to 7 -/
noncomputable def mv_iald : mv_S := match st with
  | y :: x :: s2 => bif Nat.beq x.1 7 then match mv_cI g y with
      | some (.inr a) => bif Nat.blt a 8 && (Nat.ble 2147483648 (mv_bd g 10).1 && Nat.blt a ((mv_bd g 10).1 - 2147483648)) then mv_go loc h nc ns ((5, a) :: s2) else none
      | some (.inl q) => some (.inl q)
      | none => none
    else mv_ald g loc st h nc ns 0 mv_isI
  | _ => none
noncomputable def mv_alen : mv_S := match st with
  | x :: s2 => bif Nat.beq x.1 7 then mv_go loc h nc ns ((5, 10) :: s2) else mv_len loc st h nc ns
  | _ => none
noncomputable def mv_tsw (pc : Nat) (d lo hi : Int) (offs : Array Int) : mv_S := match st with
  | x :: s2 => match mv_cI g x with
    | some (.inr a) => bif decide ((nI a).toInt < lo) || decide (hi < (nI a).toInt) then bif decide (0 ≤ (pc : Int) + d) then mv_fo ((pc : Int) + d).toNat (fun q => some (.inr (some q, loc, s2, h, nc, ns))) else none
      else match offs[((nI a).toInt - lo).toNat]? with
        | some o => bif decide (0 ≤ (pc : Int) + o) then mv_fo ((pc : Int) + o).toNat (fun q => some (.inr (some q, loc, s2, h, nc, ns))) else none
        | none => none
    | some (.inl q) => some (.inl q)
    | none => none
  | _ => none
noncomputable def mv_lsw (pc : Nat) (d : Int) (ps : Array (Int × Int)) : mv_S := match st with
  | x :: s2 => match mv_cI g x with
    | some (.inr a) => bif (ps.toList.zip (ps.toList.drop 1)).all (fun (a, next) => a.1 < next.1) && decide (0 ≤ (pc : Int) + Op.lookupswitch.offset ps.toList d (nI a).toInt) then mv_fo ((pc : Int) + Op.lookupswitch.offset ps.toList d (nI a).toInt).toNat (fun q => some (.inr (some q, loc, s2, h, nc, ns))) else none
    | some (.inl q) => some (.inl q)
    | none => none
  | _ => none
def mv_dup : mv_S := match st with
  | x :: s2 => bif mv_w2 x then none else mv_go loc h nc ns (x :: x :: s2)
  | _ => none
def mv_pop : mv_S := match st with
  | x :: s2 => bif mv_w2 x then none else mv_go loc h nc ns s2
  | _ => none
def mv_dupx : mv_S := match st with
  | x :: y :: s2 => bif mv_w2 x || mv_w2 y then none else mv_go loc h nc ns (x :: y :: x :: s2)
  | _ => none
def mv_dup2 : mv_S := match st with
  | x :: s2 => bif mv_w2 x then mv_go loc h nc ns (x :: x :: s2) else match s2 with
    | y :: s3 => bif mv_w2 y then none else mv_go loc h nc ns (x :: y :: x :: y :: s3)
    | _ => none
  | _ => none
def mv_if (o : ClassFile.Cond) (t : Nat) : mv_S := match st with
  | x :: s2 => mv_br g loc h nc ns o x (0, 0) s2 t
  | _ => none
def mv_ic (o : ClassFile.Cond) (t : Nat) : mv_S := match st with
  | y :: x :: s2 => mv_br g loc h nc ns o x y s2 t
  | _ => none
/-- one instruction that is no call and no end -/
noncomputable def mv_s1 (dv : Nat → List mv_V) (nL : Nat) (i : Instr) (pc a b : Nat) : mv_S := match i with
  | .iconst _ => mv_go loc h nc ns ((0, a) :: st)
  | .bipush _ => mv_go loc h nc ns ((0, a) :: st)
  | .sipush _ => mv_go loc h nc ns ((0, a) :: st)
  | .ldc _ => mv_go loc h nc ns ((0, a) :: st)
  | .ldc_w _ => mv_go loc h nc ns ((0, a) :: st)
  | .lconst _ => mv_go loc h nc ns ((3, a) :: st)
  | .ldc2_w _ => mv_go loc h nc ns ((3, a) :: st)
  | .dconst _ => mv_go loc h nc ns ((4, a) :: st)
  | .iload_n _ => mv_ld loc st h nc ns mv_isI a
  | .iload _ => mv_ld loc st h nc ns mv_isI a
  | .lload_n _ => mv_ld loc st h nc ns mv_isJ a
  | .lload _ => mv_ld loc st h nc ns mv_isJ a
  | .dload_n _ => mv_ld loc st h nc ns mv_isD a
  | .dload _ => mv_ld loc st h nc ns mv_isD a
  | .aload_n _ => mv_ld loc st h nc ns mv_isA a
  | .aload _ => mv_ld loc st h nc ns mv_isA a
  | .istore_n _ => mv_sto loc st h nc ns mv_isI nL a
  | .istore _ => mv_sto loc st h nc ns mv_isI nL a
  | .astore_n _ => mv_sto loc st h nc ns mv_isA nL a
  | .astore _ => mv_sto loc st h nc ns mv_isA nL a
  | .lstore_n _ => mv_sto2 loc st h nc ns mv_isJ nL a
  | .lstore _ => mv_sto2 loc st h nc ns mv_isJ nL a
  | .dstore_n _ => mv_sto2 loc st h nc ns mv_isD nL a
  | .dstore _ => mv_sto2 loc st h nc ns mv_isD nL a
  | .iinc _ _ => mv_inc g loc st h nc ns nL a b
  | .iadd => mv_bi g loc st h nc ns (fun x y => some ((x + y) % 4294967296))
  | .isub => mv_bi g loc st h nc ns (fun x y => some ((x + (4294967296 - y % 4294967296)) % 4294967296))
  | .imul => mv_bi g loc st h nc ns (fun x y => some (x * y % 4294967296))
  | .iand => mv_and g loc st h nc ns
  | .ior => mv_bi g loc st h nc ns (fun x y => some (Nat.lor x y % 4294967296))
  | .ixor => mv_bi g loc st h nc ns (fun x y => some (Nat.xor x y % 4294967296))
  | .idiv => mv_bi g loc st h nc ns (fun x y => bif decide (nI y = 0) then none else some (mv_co (nI x / nI y)))
  | .irem => mv_bi g loc st h nc ns (fun x y => bif decide (nI y = 0) then none else some (mv_co (nI x - (nI x / nI y) * nI y)))
  | .ishl => mv_bi g loc st h nc ns (fun x y => some (mv_co (nI x <<< (nI y &&& 31))))
  | .ishr => mv_bi g loc st h nc ns (fun x y => some (mv_co (nI x >>> (nI y &&& 31))))
  | .iushr => mv_ush g loc st h nc ns
  | .i2l => mv_un g loc st h nc ns (fun x => (3, mv_cl (nI x).toInt64))
  | .i2d => mv_un g loc st h nc ns (fun x => (4, (FP.i2d (nI x)).toNat))
  | .ladd => mv_bl loc st h nc ns (fun x y => (3, mv_cl (lN x + lN y)))
  | .lmul => mv_bl loc st h nc ns (fun x y => (3, mv_cl (lN x * lN y)))
  | .lcmp => mv_bl loc st h nc ns (fun x y => (0, mv_co (lg_cmp (lN x) (lN y))))
  | .ddiv => mv_dd loc st h nc ns
  | .dcmp o => mv_b4 loc st h nc ns (fun x y => (0, mv_co (Op.cmpValue (FP.dcmp (UInt64.ofNat x) (UInt64.ofNat y)) o)))
  | .dup => mv_dup loc st h nc ns
  | .pop => mv_pop loc st h nc ns
  | .dup_x1 => mv_dupx loc st h nc ns
  | .dup2 => mv_dup2 loc st h nc ns
  | .ifCond o _ => mv_if g loc st h nc ns o a
  | .if_icmp o _ => mv_ic g loc st h nc ns o a
  | .goto _ => some (.inr (some a, loc, st, h, nc, ns))
  | .tableswitch d lo hi offs => mv_tsw g loc st h nc ns pc d lo hi offs
  | .lookupswitch d ps => mv_lsw g loc st h nc ns pc d ps
  | .getfield _ => mv_gf loc st h nc ns a b
  | .putfield _ => mv_pf loc st h nc ns a (b / 4) (b % 4)
  | .iaload => mv_iald g loc st h nc ns
  | .laload => mv_ald g loc st h nc ns 1 mv_isJ
  | .baload => mv_ald g loc st h nc ns 2 mv_isI
  | .iastore => mv_ast g loc st h nc ns 0 mv_isI
  | .lastore => mv_ast g loc st h nc ns 1 mv_isJ
  | .bastore => mv_zst g loc st h nc ns
  | .arraylength => mv_alen loc st h nc ns
  | .newarray _ => mv_na g loc st h nc ns a
  | .new _ => mv_nw loc st h nc ns a (dv a)
  | _ => none
end
/-- an instruction's number -/
def mv_oc (i : Instr) : Nat := match i with
  | .iload_n _ => 40
  | .iload _ => 40
  | .aload_n _ => 41
  | .aload _ => 41
  | .iconst _ => 42
  | .bipush _ => 42
  | .sipush _ => 42
  | .ldc _ => 42
  | .ldc_w _ => 42
  | .getfield _ => 43
  | .iaload => 44
  | .goto _ => 45
  | .istore_n _ => 46
  | .istore _ => 46
  | .iinc _ _ => 47
  | .if_icmp .eq _ => 48
  | .if_icmp .ne _ => 49
  | .if_icmp .lt _ => 50
  | .if_icmp .ge _ => 51
  | .if_icmp .gt _ => 52
  | .if_icmp .le _ => 53
  | .iadd => 54
  | .putfield _ => 55
  | .ifCond .eq _ => 56
  | .ifCond .ne _ => 57
  | .ifCond .lt _ => 58
  | .ifCond .ge _ => 59
  | .ifCond .gt _ => 60
  | .ifCond .le _ => 61
  | .imul => 62
  | .iastore => 63
  | .iand => 64
  | .ior => 65
  | .ixor => 66
  | .isub => 67
  | .idiv => 68
  | .irem => 69
  | .ishl => 70
  | .ishr => 71
  | .lload_n _ => 72
  | .lload _ => 72
  | .dload_n _ => 73
  | .dload _ => 73
  | .astore_n _ => 74
  | .astore _ => 74
  | .lstore_n _ => 75
  | .lstore _ => 75
  | .dstore_n _ => 76
  | .dstore _ => 76
  | .dup => 77
  | .pop => 78
  | .dup_x1 => 79
  | .dup2 => 80
  | .laload => 81
  | .baload => 82
  | .lastore => 83
  | .bastore => 84
  | .arraylength => 85
  | .newarray _ => 86
  | .new _ => 87
  | .lconst _ => 88
  | .ldc2_w _ => 88
  | .dconst _ => 89
  | .i2l => 90
  | .i2d => 91
  | .ladd => 92
  | .lmul => 93
  | .lcmp => 94
  | .ddiv => 95
  | .iushr => 96
  | _ => 97
section
variable (g : mv_B) (loc : mv_L) (st : List mv_V) (h : List mv_C) (nc ns : Nat)
noncomputable def mv_h0 (nL a b o : Nat) : mv_S :=
  bif Nat.ble o 43 then
    bif Nat.ble o 41 then bif Nat.beq o 40 then mv_ld loc st h nc ns mv_isI a else mv_ld loc st h nc ns mv_isA a
    else bif Nat.beq o 42 then mv_go loc h nc ns ((0, a) :: st) else mv_gf loc st h nc ns a b
  else
    bif Nat.ble o 45 then bif Nat.beq o 44 then mv_iald g loc st h nc ns else some (.inr (some a, loc, st, h, nc, ns))
    else bif Nat.beq o 46 then mv_sto loc st h nc ns mv_isI nL a else mv_inc g loc st h nc ns nL a b
noncomputable def mv_h1 (a b o : Nat) : mv_S :=
  bif Nat.ble o 51 then
    bif Nat.ble o 49 then bif Nat.beq o 48 then mv_ic g loc st h nc ns .eq a else mv_ic g loc st h nc ns .ne a
    else bif Nat.beq o 50 then mv_ic g loc st h nc ns .lt a else mv_ic g loc st h nc ns .ge a
  else
    bif Nat.ble o 53 then bif Nat.beq o 52 then mv_ic g loc st h nc ns .gt a else mv_ic g loc st h nc ns .le a
    else bif Nat.beq o 54 then mv_bi g loc st h nc ns (fun x y => some ((x + y) % 4294967296)) else mv_pf loc st h nc ns a (b / 4) (b % 4)
noncomputable def mv_h2 (a o : Nat) : mv_S :=
  bif Nat.ble o 59 then
    bif Nat.ble o 57 then bif Nat.beq o 56 then mv_if g loc st h nc ns .eq a else mv_if g loc st h nc ns .ne a
    else bif Nat.beq o 58 then mv_if g loc st h nc ns .lt a else mv_if g loc st h nc ns .ge a
  else
    bif Nat.ble o 61 then bif Nat.beq o 60 then mv_if g loc st h nc ns .gt a else mv_if g loc st h nc ns .le a
    else bif Nat.beq o 62 then mv_bi g loc st h nc ns (fun x y => some (x * y % 4294967296)) else mv_ast g loc st h nc ns 0 mv_isI
noncomputable def mv_h3 (o : Nat) : mv_S :=
  bif Nat.ble o 67 then
    bif Nat.ble o 65 then bif Nat.beq o 64 then mv_and g loc st h nc ns else mv_bi g loc st h nc ns (fun x y => some (Nat.lor x y % 4294967296))
    else bif Nat.beq o 66 then mv_bi g loc st h nc ns (fun x y => some (Nat.xor x y % 4294967296)) else mv_bi g loc st h nc ns (fun x y => some ((x + (4294967296 - y % 4294967296)) % 4294967296))
  else
    bif Nat.ble o 69 then bif Nat.beq o 68 then mv_bi g loc st h nc ns (fun x y => bif decide (nI y = 0) then none else some (mv_co (nI x / nI y))) else mv_bi g loc st h nc ns (fun x y => bif decide (nI y = 0) then none else some (mv_co (nI x - (nI x / nI y) * nI y)))
    else bif Nat.beq o 70 then mv_bi g loc st h nc ns (fun x y => some (mv_co (nI x <<< (nI y &&& 31)))) else mv_bi g loc st h nc ns (fun x y => some (mv_co (nI x >>> (nI y &&& 31))))
noncomputable def mv_h4 (nL a o : Nat) : mv_S :=
  bif Nat.ble o 75 then
    bif Nat.ble o 73 then bif Nat.beq o 72 then mv_ld loc st h nc ns mv_isJ a else mv_ld loc st h nc ns mv_isD a
    else bif Nat.beq o 74 then mv_sto loc st h nc ns mv_isA nL a else mv_sto2 loc st h nc ns mv_isJ nL a
  else
    bif Nat.ble o 77 then bif Nat.beq o 76 then mv_sto2 loc st h nc ns mv_isD nL a else mv_dup loc st h nc ns
    else bif Nat.beq o 78 then mv_pop loc st h nc ns else mv_dupx loc st h nc ns
noncomputable def mv_h5 (dv : Nat → List mv_V) (a o : Nat) : mv_S :=
  bif Nat.ble o 83 then
    bif Nat.ble o 81 then bif Nat.beq o 80 then mv_dup2 loc st h nc ns else mv_ald g loc st h nc ns 1 mv_isJ
    else bif Nat.beq o 82 then mv_ald g loc st h nc ns 2 mv_isI else mv_ast g loc st h nc ns 1 mv_isJ
  else
    bif Nat.ble o 85 then bif Nat.beq o 84 then mv_zst g loc st h nc ns else mv_alen loc st h nc ns
    else bif Nat.beq o 86 then mv_na g loc st h nc ns a else mv_nw loc st h nc ns a (dv a)
noncomputable def mv_h6 (a o : Nat) : mv_S :=
  bif Nat.ble o 91 then
    bif Nat.ble o 89 then bif Nat.beq o 88 then mv_go loc h nc ns ((3, a) :: st) else mv_go loc h nc ns ((4, a) :: st)
    else bif Nat.beq o 90 then mv_un g loc st h nc ns (fun x => (3, mv_cl (nI x).toInt64)) else mv_un g loc st h nc ns (fun x => (4, (FP.i2d (nI x)).toNat))
  else
    bif Nat.ble o 93 then bif Nat.beq o 92 then mv_bl loc st h nc ns (fun x y => (3, mv_cl (lN x + lN y))) else mv_bl loc st h nc ns (fun x y => (3, mv_cl (lN x * lN y)))
    else bif Nat.beq o 94 then mv_bl loc st h nc ns (fun x y => (0, mv_co (lg_cmp (lN x) (lN y))))
    else mv_dd loc st h nc ns
/-- the same by its number -/
noncomputable def mv_sf (dv : Nat → List mv_V) (nL : Nat) (i : Instr) (pc a b o : Nat) : mv_S :=
  bif Nat.ble o 55 then bif Nat.ble o 47 then mv_h0 g loc st h nc ns nL a b o else mv_h1 g loc st h nc ns a b o
  else bif Nat.ble o 71 then bif Nat.ble o 63 then mv_h2 g loc st h nc ns a o else mv_h3 g loc st h nc ns o
  else bif Nat.ble o 87 then bif Nat.ble o 79 then mv_h4 loc st h nc ns nL a o else mv_h5 g loc st h nc ns dv a o
  else bif Nat.ble o 95 then mv_h6 g loc st h nc ns a o else bif Nat.beq o 96 then mv_ush g loc st h nc ns else mv_s1 g loc st h nc ns dv nL i pc a b
set_option maxHeartbeats 4000000 in
theorem mv_sf_eq (dv : Nat → List mv_V) (nL : Nat) (i : Instr) (pc a b : Nat) : mv_sf g loc st h nc ns dv nL i pc a b (mv_oc i) = mv_s1 g loc st h nc ns dv nL i pc a b := by
  cases i with
  | if_icmp c o => cases c <;> rfl
  | ifCond c o => cases c <;> rfl
  | _ => rfl
end
/-- an unknown, parted at a number in three -/
noncomputable def mv_pt3 (g : mv_B) (q : Nat × Nat) (f : mv_B → Bool) : Bool :=
  bif Nat.blt q.1 g.length then
    (bif Nat.blt (mv_bd g q.1).1 q.2 then mv_fo (mv_bd g q.1).1 (fun x => mv_fo (q.2 - 1) (fun y => mv_ls g q.1 (x, y) f)) else true) &&
    (mv_fo q.2 (fun x => mv_ls g q.1 (x, x) f) &&
    (bif Nat.blt q.2 (mv_bd g q.1).2 then mv_fo (q.2 + 1) (fun x => mv_fo (mv_bd g q.1).2 (fun y => mv_ls g q.1 (x, y) f)) else true))
  else false
/-- .. in two -/
noncomputable def mv_pt2 (g : mv_B) (q : Nat × Nat) (f : mv_B → Bool) : Bool :=
  bif Nat.blt q.1 g.length then
    (bif Nat.blt (mv_bd g q.1).1 q.2 then mv_fo (mv_bd g q.1).1 (fun x => mv_fo (q.2 - 1) (fun y => mv_ls g q.1 (x, y) f)) else true) &&
    (bif Nat.ble q.2 (mv_bd g q.1).2 then mv_fo q.2 (fun x => mv_fo (mv_bd g q.1).2 (fun y => mv_ls g q.1 (x, y) f)) else true)
  else false
noncomputable def mv_pt (g : mv_B) (q : Nat × Nat) (f : mv_B → Bool) : Bool := bif Nat.ble 16 q.1 then mv_pt2 g (q.1 - 16, q.2) f else mv_pt3 g q f
/-- name, code, locals, result, how many arguments (but the receiver), kind, class, handlers -/
abbrev mv_I : Type := MethodName × ByteArray × Nat × Option FieldType × Nat × Nat × Nat × List (Nat × Nat × Nat × Nat)
def mv_cs : List mv_V → Nat
  | [] => 0
  | v :: t => (bif mv_w2 v then 2 else 1) + mv_cs t
/-- the last n of the stack, the first of them first, and the rest -/
def mv_tk : Nat → List mv_V → List mv_V → Option (List mv_V × List mv_V)
  | 0, s, acc => some (acc, s)
  | n + 1, v :: s, acc => mv_tk n s (v :: acc)
  | _ + 1, [], _ => none
def mv_ag : Nat → List mv_V → mv_L
  | _, [] => []
  | i, v :: t => (i, v) :: mv_ag (bif mv_w2 v then i + 2 else i + 1) t
/-- which of the handlers takes exception x at pc: its place -/
def mv_hd (xn : Nat → Nat) : List (Nat × Nat × Nat × Nat) → Nat → Nat → Option Nat
  | [], _, _ => none
  | q :: t, pc, x => bif Nat.ble q.1 pc && Nat.blt pc q.2.1 && Nat.beq (xn q.2.2.2) x then some q.2.2.1 else mv_hd xn t pc x
/-- the receiver is a thing of that class -/
noncomputable def mv_rc (h : List mv_C) (ci : Nat) (as : List mv_V) : Bool := match as with
  | v :: _ => Nat.beq v.1 2 && match mv_gt h v.2 with
    | some c => Nat.beq c.1 (ci + 4)
    | none => false
  | [] => false
abbrev mv_K : Type := mv_B → Nat × mv_V → List mv_C → Nat → Nat → Bool
abbrev mv_J : Type := Nat → Nat → Nat → List mv_E → mv_L → List mv_V → List mv_C → Nat → Nat → mv_B → mv_K → Bool
noncomputable def mv_x0 (ih : mv_J) (r : mv_S) (dep mid pc : Nat) (e : mv_E) (t : List mv_E) (loc : mv_L) (st : List mv_V) (h : List mv_C) (nc ns : Nat) (g : mv_B) (K : mv_K) : Bool := match r with
  | some (.inr (none, l2, s2, h2, c2, n2)) => ih dep mid (e.2.1 + e.2.2.1) t l2 s2 h2 c2 n2 g K
  | some (.inr (some q, l2, s2, h2, c2, n2)) => ih dep mid q [] l2 s2 h2 c2 n2 g K
  | some (.inl q) => mv_pt g q (fun g2 => ih dep mid pc (e :: t) loc st h nc ns g2 K)
  | none => false
noncomputable def mv_x1v (ih : mv_J) (v : mv_V) (dep mid pc : Nat) (e : mv_E) (t : List mv_E) (loc : mv_L) (st : List mv_V) (h : List mv_C) (nc ns : Nat) (g : mv_B) (K : mv_K) : Bool := match e.2.2.2.2.1 with
  | 1 => bif mv_isI v then K g (1, v) h nc ns else false
  | 2 => match mv_cI g v with
    | some (.inr z) => bif Nat.blt z 2 then mv_fo z (fun z => K g (1, (0, z)) h nc ns) else false
    | some (.inl q) => mv_pt g q (fun g2 => ih dep mid pc (e :: t) loc st h nc ns g2 K)
    | none => false
  | 3 => bif mv_isJ v then K g (1, v) h nc ns else false
  | 4 => bif mv_isD v then K g (1, v) h nc ns else false
  | 5 => bif Nat.beq v.1 2 then K g (1, v) h nc ns else false
  | _ => false
noncomputable def mv_x1 (ih : mv_J) (dep mid pc : Nat) (e : mv_E) (t : List mv_E) (loc : mv_L) (st : List mv_V) (h : List mv_C) (nc ns : Nat) (g : mv_B) (K : mv_K) : Bool := match st with
  | [] => bif Nat.beq e.2.2.2.2.1 0 then K g (0, (0, 0)) h nc ns else false
  | [v] => mv_x1v ih v dep mid pc e t loc st h nc ns g K
  | _ => false
noncomputable def mv_x2 (dep : Nat) (e : mv_E) (st : List mv_V) (h : List mv_C) (nc ns : Nat) (g : mv_B) (K : mv_K) : Bool :=
  bif Nat.blt 6 dep && Nat.ble (mv_cs st) 8 then mv_fo (nc + 1) (fun nc => mv_fo (ns + 6) (fun ns => mv_sn h (3, []) (fun h2 => K g (e.2.2.2.2.1 + 2, (0, 0)) h2 nc ns))) else false
noncomputable def mv_x3 (ih : mv_J) (dep mid : Nat) (e : mv_E) (t : List mv_E) (loc : mv_L) (st : List mv_V) (h : List mv_C) (nc ns : Nat) (g : mv_B) (K : mv_K) : Bool := match st with
  | v :: s2 => bif Nat.beq v.1 2 && (Nat.ble (mv_cs s2) 8 && Nat.blt 0 dep) then ih dep mid (e.2.1 + e.2.2.1) t loc s2 h nc ns g K else false
  | [] => false
/-- behind a call that threw -/
noncomputable def mv_x6 (bk : Nat → Nat → Option (List mv_E)) (mi : Nat → mv_I) (xn : Nat → Nat) (ih : mv_J) (x : Nat) (dep mid : Nat) (e : mv_E) (loc : mv_L) (K : mv_K) (g2 : mv_B) (h2 : List mv_C) (nc2 ns2 : Nat) : Bool :=
  match mv_hd xn (mi mid).2.2.2.2.2.2.2 e.2.1 x with
  | none => K g2 (x + 2, (0, 0)) h2 nc2 ns2
  | some hp => match bk mid hp with
    | some (e2 :: t2) => bif Nat.beq e2.2.2.2.1 20 then mv_fi (mv_d1 e2.2.2.2.2.1) loc (fun l2 => ih dep mid (e2.2.1 + e2.2.2.1) t2 l2 [] h2 nc2 ns2 g2 K) else false
    | _ => false
/-- behind a call -/
noncomputable def mv_x5 (bk : Nat → Nat → Option (List mv_E)) (mi : Nat → mv_I) (xn : Nat → Nat) (ih : mv_J) (dep mid : Nat) (e : mv_E) (t : List mv_E) (loc : mv_L) (rest : List mv_V) (nc ns : Nat) (K : mv_K) (g2 : mv_B) (res : Nat × mv_V) (h2 : List mv_C) (c2 n2 : Nat) : Bool :=
  mv_fo (nc + c2) (fun nc2 => mv_fo (ns + n2) (fun ns2 => match res.1 with
    | 0 => ih dep mid (e.2.1 + e.2.2.1) t loc rest h2 nc2 ns2 g2 K
    | 1 => ih dep mid (e.2.1 + e.2.2.1) t loc (res.2 :: rest) h2 nc2 ns2 g2 K
    | x + 2 => mv_x6 bk mi xn ih x dep mid e loc K g2 h2 nc2 ns2))
noncomputable def mv_x4 (bk : Nat → Nat → Option (List mv_E)) (mi : Nat → mv_I) (xn : Nat → Nat) (ih : mv_J) (k dep mid : Nat) (e : mv_E) (t : List mv_E) (loc : mv_L) (st : List mv_V) (h : List mv_C) (nc ns : Nat) (g : mv_B) (K : mv_K) : Bool := match dep with
  | 0 => false
  | d + 1 => match mv_tk ((mi e.2.2.2.2.1).2.2.2.2.1 + (bif Nat.beq k 6 || Nat.beq k 9 then 0 else 1)) st [] with
    | some (as, rest) => bif Nat.ble (mv_cs rest) 8 && Nat.ble (mv_cs as) (mi e.2.2.2.2.1).2.2.1 && (Nat.beq k 6 || (Nat.beq k 9 || mv_rc h (mi e.2.2.2.2.1).2.2.2.2.2.2.1 as)) then
        ih d e.2.2.2.2.1 0 [] (mv_ag 0 as) [] h 0 0 g (mv_x5 bk mi xn ih (d + 1) mid e t loc rest nc ns K)
      else false
    | none => false
noncomputable def mv_x8 (bk : Nat → Nat → Option (List mv_E)) (mi : Nat → mv_I) (xn : Nat → Nat) (ih : mv_J) (dep mid pc : Nat) (e : mv_E) (t : List mv_E) (loc : mv_L) (st : List mv_V) (h : List mv_C) (nc ns : Nat) (g : mv_B) (K : mv_K) : Bool := match e.2.2.2.1 with
  | 0 => false
  | 1 => mv_x1 ih dep mid pc e t loc st h nc ns g K
  | 2 => mv_x2 dep e st h nc ns g K
  | 3 => mv_x3 ih dep mid e t loc st h nc ns g K
  | k + 4 => bif Nat.ble k 5 then mv_x4 bk mi xn ih (k + 4) dep mid e t loc st h nc ns g K else false
/-- a run to the method's end: every end is one that K takes -/
noncomputable def mv_ev (bk : Nat → Nat → Option (List mv_E)) (mi : Nat → mv_I) (dv : Nat → List mv_V) (xn : Nat → Nat) (n : Nat) : mv_J :=
  Nat.rec (motive := fun _ => mv_J)
    (fun _ _ _ _ _ _ _ _ _ _ _ => false)
    (fun _ ih dep mid pc L loc st h nc ns g K => match L with
      | [] => match bk mid pc with
        | some (e :: t) => ih dep mid pc (e :: t) loc st h nc ns g K
        | _ => false
      | e :: t => bif Nat.ble 40 e.2.2.2.1 then mv_x0 ih (mv_sf g loc st h nc ns dv (mi mid).2.2.1 e.1 e.2.1 e.2.2.2.2.1 e.2.2.2.2.2 e.2.2.2.1) dep mid pc e t loc st h nc ns g K
        else mv_x8 bk mi xn ih dep mid pc e t loc st h nc ns g K) n
end
section
/-! ===== what the interpreter's numbers say of ints ===== -/
theorem mv_nI_mod {a b : Nat} (h : a % 4294967296 = b % 4294967296) : nI a = nI b := by
  apply Int32.toBitVec_inj.mp
  show (Int32.ofNat a).toBitVec = (Int32.ofNat b).toBitVec
  rw [Int32.toBitVec_ofNat', Int32.toBitVec_ofNat']
  apply BitVec.eq_of_toNat_eq
  simpa [BitVec.toNat_ofNat] using h
theorem mv_nI_m (a : Nat) : nI (a % 4294967296) = nI a := mv_nI_mod (by omega)
theorem mv_nI_co (x : Int32) : nI (mv_co x) = x := by
  apply Int32.toBitVec_inj.mp
  show (Int32.ofNat x.toUInt32.toNat).toBitVec = x.toBitVec
  rw [Int32.toBitVec_ofNat']
  apply BitVec.eq_of_toNat_eq
  simp [BitVec.toNat_ofNat]
theorem mv_lN_cl (x : Int64) : lN (mv_cl x) = x := by
  apply Int64.toBitVec_inj.mp
  show (Int64.ofNat x.toUInt64.toNat).toBitVec = x.toBitVec
  rw [Int64.toBitVec_ofNat']
  apply BitVec.eq_of_toNat_eq
  simp [BitVec.toNat_ofNat]
theorem mv_u64 (x : UInt64) : UInt64.ofNat x.toNat = x := by simp
theorem mv_nI_toInt (n : Nat) : (nI n).toInt = ((n : Int)).bmod 4294967296 := by
  show (Int32.ofNat n).toInt = _
  rw [Int32.toInt_ofNat']
theorem mv_b32 (x : Int32) : -2147483648 ≤ x.toInt ∧ x.toInt < 2147483648 := ⟨Int32.le_toInt x, Int32.toInt_lt x⟩
theorem mv_cd_nI (n : Nat) : mv_cd (nI n) = (n + 2147483648) % 4294967296 := by
  unfold mv_cd
  rw [mv_nI_toInt, Int.bmod_def]
  split <;> omega
theorem mv_cd_inj {x y : Int32} (h : mv_cd x = mv_cd y) : x = y := by
  apply Int32.toInt_inj.mp
  have a := mv_b32 x
  have b := mv_b32 y
  unfold mv_cd at h
  omega
theorem mv_cd_lt {x y : Int32} : x < y ↔ mv_cd x < mv_cd y := by
  rw [Int32.lt_iff_toInt_lt]
  have a := mv_b32 x
  have b := mv_b32 y
  unfold mv_cd
  omega
theorem mv_cd_lt32 (x : Int32) : mv_cd x < 4294967296 := by
  have a := mv_b32 x
  unfold mv_cd
  omega
theorem mv_cd_to {x : Int32} {c : Nat} (h : mv_cd x = c) : x = nI ((c + 2147483648) % 4294967296) := by
  apply mv_cd_inj
  rw [mv_cd_nI, h]
  have := mv_cd_lt32 x
  omega
theorem mv_inr {α β : Type} {x y : β} (h : (some (Sum.inr x) : Option (α ⊕ β)) = some (.inr y)) : x = y := Sum.inr.inj (Option.some.inj h)
theorem mv_beq {a b : Nat} (h : Nat.beq a b = true) : a = b := Nat.eq_of_beq_eq_true h
theorem mv_nbeq {a b : Nat} (h : Nat.beq a b = false) : a ≠ b := Nat.ne_of_beq_eq_false h
theorem mv_blt {a b : Nat} (h : Nat.blt a b = true) : a < b := by
  rw [Nat.blt_eq] at h; exact h
theorem mv_nblt {a b : Nat} (h : Nat.blt a b = false) : b ≤ a := by
  rcases Nat.lt_or_ge a b with q | q
  · rw [← Nat.blt_eq] at q; rw [q] at h; cases h
  · exact q
theorem mv_ble {a b : Nat} (h : Nat.ble a b = true) : a ≤ b := Nat.le_of_ble_eq_true h
theorem mv_nble {a b : Nat} (h : Nat.ble a b = false) : b < a := by
  rcases Nat.lt_or_ge b a with q | q
  · exact q
  · rw [Nat.ble_eq_true_of_le q] at h; cases h
theorem mv_cnd {α : Type} {c : Bool} {x y : α} {z : α} (h : (bif c then x else y) = z) : (c = true ∧ x = z) ∨ (c = false ∧ y = z) := by
  cases c
  · exact Or.inr ⟨rfl, h⟩
  · exact Or.inl ⟨rfl, h⟩
theorem mv_cndn {α : Type} {c : Bool} {x : Option α} {z : α} (h : (bif c then x else none) = some z) : c = true ∧ x = some z := by
  cases c
  · cases h
  · exact ⟨rfl, h⟩
theorem mv_val_I {r : Nat → Int32} {ba b : Nat} {v : mv_V} (h : mv_isI v = true) : mv_val r ba b v = .int (mv_ii r v) := by
  obtain ⟨t, n⟩ := v
  unfold mv_isI at h
  rcases mv_cnd h with ⟨h, -⟩ | ⟨-, h⟩
  · cases mv_beq h; rfl
  rcases mv_cnd h with ⟨h, -⟩ | ⟨-, h⟩
  · cases mv_beq h; rfl
  · cases mv_beq h; rfl
theorem mv_val_J {r : Nat → Int32} {ba b : Nat} {v : mv_V} (h : mv_isJ v = true) : mv_val r ba b v = .long (lN v.2) := by
  obtain ⟨t, n⟩ := v
  cases mv_beq h; rfl
theorem mv_val_D {r : Nat → Int32} {ba b : Nat} {v : mv_V} (h : mv_isD v = true) : mv_val r ba b v = .double (UInt64.ofNat v.2) := by
  obtain ⟨t, n⟩ := v
  cases mv_beq h; rfl
theorem mv_val_A {r : Nat → Int32} {ba b : Nat} {v : mv_V} (h : mv_isA v = true) : ∃ x : Nat, mv_val r ba b v = .ref x := by
  obtain ⟨t, n⟩ := v
  unfold mv_isA at h
  rcases mv_cnd h with ⟨h, -⟩ | ⟨-, h⟩
  · cases mv_beq h; exact ⟨_, rfl⟩
  · cases mv_beq h; exact ⟨_, rfl⟩
theorem mv_val_R {r : Nat → Int32} {ba b : Nat} {v : mv_V} (h : Nat.beq v.1 2 = true) : mv_val r ba b v = .ref (ba + v.2) := by
  obtain ⟨t, n⟩ := v
  cases mv_beq h; rfl
theorem mv_val_S {r : Nat → Int32} {ba b : Nat} {v : mv_V} (h : Nat.beq v.1 7 = true) : mv_val r ba b v = .ref b := by
  obtain ⟨t, n⟩ := v
  cases mv_beq h; rfl
theorem mv_cat (r : Nat → Int32) (ba b : Nat) (v : mv_V) : ((mv_val r ba b v).category == 2) = mv_w2 v ∧ (mv_val r ba b v).category = (bif mv_w2 v then 2 else 1) := by
  obtain ⟨t, n⟩ := v
  match t with
  | 0 => exact ⟨rfl, rfl⟩
  | 1 => exact ⟨rfl, rfl⟩
  | 2 => exact ⟨rfl, rfl⟩
  | 3 => exact ⟨rfl, rfl⟩
  | 4 => exact ⟨rfl, rfl⟩
  | 5 => exact ⟨rfl, rfl⟩
  | 6 => exact ⟨rfl, rfl⟩
  | t + 7 => exact ⟨rfl, rfl⟩
/-- a known int -/
theorem mv_cI_ok {g : mv_B} {r : Nat → Int32} (hg : mv_in g r) {v : mv_V} {n : Nat} (h : mv_cI g v = some (.inr n)) : mv_isI v = true ∧ mv_ii r v = nI n := by
  obtain ⟨t, k⟩ := v
  unfold mv_cI at h
  rcases mv_cnd h with ⟨h1, h⟩ | ⟨-, h⟩
  · cases mv_beq h1
    cases h
    exact ⟨rfl, rfl⟩
  · obtain ⟨h1, h⟩ := mv_cndn h
    cases mv_beq h1
    refine ⟨rfl, ?_⟩
    unfold mv_cI5 at h
    rcases mv_cnd h with ⟨h2, h⟩ | ⟨-, h⟩
    · rw [← mv_inr h]
      have h3 := hg k
      have h4 : (mv_bd g k).1 = (mv_bd g k).2 := mv_beq h2
      show r k = _
      exact mv_cd_to (show mv_cd (r k) = (mv_bd g k).1 by omega)
    · obtain ⟨-, h⟩ := mv_cndn h
      cases h
theorem mv_u32i {x y : Int32} (h : x.toUInt32 = y.toUInt32) : x = y := by
  cases x
  cases y
  cases h
  rfl
theorem mv_ushr (z y : Nat) (hz : z < 2147483648) (h : y < 32) : ((nI z).toUInt32 >>> ((nI y).toUInt32 &&& Int32.toUInt32 31)).toInt32 = nI (z / 2 ^ y) := by
  apply mv_u32i
  rw [UInt32.toUInt32_toInt32]
  show UInt32.ofNat z >>> (UInt32.ofNat y &&& UInt32.ofNat 31) = UInt32.ofNat (z / 2 ^ y)
  apply UInt32.toNat_inj.mp
  rw [UInt32.toNat_shiftRight, UInt32.toNat_and, UInt32.toNat_ofNat', UInt32.toNat_ofNat', UInt32.toNat_ofNat', UInt32.toNat_ofNat']
  have h1 : z / 2 ^ y ≤ z := Nat.div_le_self _ _
  have e1 : z % 2 ^ 32 = z := Nat.mod_eq_of_lt (by omega)
  have e2 : y % 2 ^ 32 = y := Nat.mod_eq_of_lt (by omega)
  have e3 : z / 2 ^ y % 2 ^ 32 = z / 2 ^ y := Nat.mod_eq_of_lt (by omega)
  have e4 : (31 : Nat) % 2 ^ 32 = 2 ^ 5 - 1 := by decide
  rw [e1, e2, e3, e4, Nat.and_two_pow_sub_one_eq_mod, Nat.shiftRight_eq_div_pow]
  have e5 : y % 2 ^ 5 % 32 = y := by omega
  rw [e5]
theorem mv_rg_ok {g : mv_B} {r : Nat → Int32} (hg : mv_in g r) {v : mv_V} {a : Nat × Nat} (h : mv_rg g v = some a) : mv_isI v = true ∧ a.1 ≤ mv_cd (mv_ii r v) ∧ mv_cd (mv_ii r v) ≤ a.2 := by
  obtain ⟨t, k⟩ := v
  unfold mv_rg at h
  rcases mv_cnd h with ⟨h1, h⟩ | ⟨-, h⟩
  · cases mv_beq h1
    rw [← Option.some.inj h]
    refine ⟨rfl, ?_⟩
    show _ ≤ mv_cd (nI k) ∧ mv_cd (nI k) ≤ _
    rw [mv_cd_nI]
    exact ⟨Nat.le_refl _, Nat.le_refl _⟩
  rcases mv_cnd h with ⟨h1, h⟩ | ⟨-, h⟩
  · cases mv_beq h1
    cases h
    exact ⟨rfl, hg k⟩
  obtain ⟨h1, h⟩ := mv_cndn h
  cases mv_beq h1
  refine ⟨rfl, ?_⟩
  unfold mv_rg6 at h
  obtain ⟨h2, h⟩ := mv_cndn h
  simp only [Bool.and_eq_true] at h2
  obtain ⟨h2, h3, h4⟩ := h2
  have h2 := mv_ble h2
  have h3 := mv_blt h3
  have h4 := mv_blt h4
  rw [← Option.some.inj h]
  have h5 := hg (k % 16)
  show _ ≤ mv_cd (((r (k % 16)).toUInt32 >>> ((nI (k / 16)).toUInt32 &&& Int32.toUInt32 31)).toInt32) ∧ mv_cd (((r (k % 16)).toUInt32 >>> ((nI (k / 16)).toUInt32 &&& Int32.toUInt32 31)).toInt32) ≤ _
  have key : ((r (k % 16)).toUInt32 >>> ((nI (k / 16)).toUInt32 &&& Int32.toUInt32 31)).toInt32 = nI ((mv_cd (r (k % 16)) - 2147483648) / 2 ^ (k / 16)) := by
    have hx := mv_cd_lt32 (r (k % 16))
    have hlo : 2147483648 ≤ mv_cd (r (k % 16)) := by omega
    have e0 : (r (k % 16)) = nI (mv_cd (r (k % 16)) - 2147483648) := by
      apply mv_cd_inj
      rw [mv_cd_nI]
      omega
    have hz : mv_cd (r (k % 16)) - 2147483648 < 2147483648 := by omega
    generalize mv_cd (r (k % 16)) - 2147483648 = z at e0 hz ⊢
    generalize k / 16 = y at h3 ⊢
    rw [e0]
    exact mv_ushr z y hz h3
  rw [key, mv_cd_nI]
  have h6 := mv_cd_lt32 (r (k % 16))
  have h7 : (mv_cd (r (k % 16)) - 2147483648) / 2 ^ (k / 16) ≤ mv_cd (r (k % 16)) - 2147483648 := Nat.div_le_self _ _
  have h8 : ((mv_bd g (k % 16)).1 - 2147483648) / 2 ^ (k / 16) ≤ (mv_cd (r (k % 16)) - 2147483648) / 2 ^ (k / 16) := Nat.div_le_div_right (by omega)
  have h9 : (mv_cd (r (k % 16)) - 2147483648) / 2 ^ (k / 16) ≤ ((mv_bd g (k % 16)).2 - 2147483648) / 2 ^ (k / 16) := Nat.div_le_div_right (by omega)
  have h10 : (mv_cd (r (k % 16)) - 2147483648) / 2 ^ (k / 16) + 2147483648 < 4294967296 := by omega
  rw [Nat.mod_eq_of_lt h10]
  exact ⟨show 2147483648 + ((mv_bd g (k % 16)).1 - 2147483648) / 2 ^ (k / 16) ≤ _ from by omega, show _ ≤ 2147483648 + ((mv_bd g (k % 16)).2 - 2147483648) / 2 ^ (k / 16) from by omega⟩
theorem mv_lt_ok {g : mv_B} {r : Nat → Int32} (hg : mv_in g r) {v w : mv_V} {q : Bool} (h : mv_lt g v w = some (.inr q)) : mv_isI v = true ∧ mv_isI w = true ∧ (q = true ↔ mv_ii r v < mv_ii r w) := by
  unfold mv_lt at h
  rcases mv_cnd h with ⟨h1, h⟩ | ⟨-, h⟩
  · obtain ⟨t, k⟩ := v
    obtain ⟨t2, k2⟩ := w
    simp only [Bool.and_eq_true] at h1
    cases mv_beq h1.1
    cases mv_beq h1.2
    rw [← mv_inr h]
    refine ⟨rfl, rfl, ?_⟩
    show _ ↔ nI k < nI k2
    rw [mv_cd_lt, mv_cd_nI, mv_cd_nI, Nat.blt_eq]
  · unfold mv_ltg at h
    cases ha : mv_rg g v with
    | none => rw [ha] at h; cases h
    | some a =>
      cases hc : mv_rg g w with
      | none => rw [ha, hc] at h; cases h
      | some c =>
        rw [ha, hc] at h
        obtain ⟨i1, i2, i3⟩ := mv_rg_ok hg ha
        obtain ⟨j1, j2, j3⟩ := mv_rg_ok hg hc
        refine ⟨i1, j1, ?_⟩
        rw [mv_cd_lt]
        replace h : mv_ltr v w a c = some (.inr q) := h
        unfold mv_ltr at h
        rcases mv_cnd h with ⟨h1, h⟩ | ⟨-, h⟩
        · cases h
          have := mv_blt h1
          simp; omega
        rcases mv_cnd h with ⟨h1, h⟩ | ⟨-, h⟩
        · cases h
          have := mv_ble h1
          simp; omega
        · unfold mv_sp2 at h
          rcases mv_cnd h with ⟨-, h⟩ | ⟨-, h⟩
          · cases h
          rcases mv_cnd h with ⟨-, h⟩ | ⟨-, h⟩
          · cases h
          unfold mv_sp at h
          rcases mv_cnd h with ⟨-, h⟩ | ⟨-, h⟩
          · cases h
          · obtain ⟨-, h⟩ := mv_cndn h
            cases h
theorem mv_eq_ok {g : mv_B} {r : Nat → Int32} (hg : mv_in g r) {v w : mv_V} {q : Bool} (h : mv_eq g v w = some (.inr q)) : mv_isI v = true ∧ mv_isI w = true ∧ (q = true ↔ mv_ii r v = mv_ii r w) := by
  unfold mv_eq at h
  rcases mv_cnd h with ⟨h1, h⟩ | ⟨-, h⟩
  · obtain ⟨t, k⟩ := v
    obtain ⟨t2, k2⟩ := w
    simp only [Bool.and_eq_true] at h1
    cases mv_beq h1.1
    cases mv_beq h1.2
    rw [← mv_inr h]
    refine ⟨rfl, rfl, ?_⟩
    show _ ↔ nI k = nI k2
    refine ⟨fun z => mv_nI_mod (mv_beq z), fun z => ?_⟩
    have z2 : mv_cd (nI k) = mv_cd (nI k2) := by rw [z]
    rw [mv_cd_nI, mv_cd_nI] at z2
    have z3 : k % 4294967296 = k2 % 4294967296 := by omega
    simp only [z3]
    exact Nat.beq_refl _
  · unfold mv_eqg at h
    cases ha : mv_rg g v with
    | none => rw [ha] at h; cases h
    | some a =>
      cases hc : mv_rg g w with
      | none => rw [ha, hc] at h; cases h
      | some c =>
        rw [ha, hc] at h
        obtain ⟨i1, i2, i3⟩ := mv_rg_ok hg ha
        obtain ⟨j1, j2, j3⟩ := mv_rg_ok hg hc
        refine ⟨i1, j1, ?_⟩
        replace h : mv_eqr v w a c = some (.inr q) := h
        unfold mv_eqr at h
        rcases mv_cnd h with ⟨h1, h⟩ | ⟨h0, h⟩
        · cases h
          simp only [Bool.or_eq_true] at h1
          refine ⟨fun z => (by cases z), fun z => ?_⟩
          rw [z] at i2 i3
          rcases h1 with h1 | h1
          · have := mv_blt h1; omega
          · have := mv_blt h1; omega
        rcases mv_cnd h with ⟨h1, h⟩ | ⟨-, h⟩
        · cases h
          simp only [Bool.and_eq_true] at h1
          have e1 := mv_beq h1.1
          have e2 := mv_beq h1.2
          simp only [Bool.or_eq_false_iff] at h0
          have e3 := mv_nblt h0.1
          have e4 := mv_nblt h0.2
          exact ⟨fun _ => mv_cd_inj (by omega), fun _ => rfl⟩
        · unfold mv_sp at h
          rcases mv_cnd h with ⟨-, h⟩ | ⟨-, h⟩
          · cases h
          · obtain ⟨-, h⟩ := mv_cndn h
            cases h
theorem mv_no_ok {x : Option ((Nat × Nat) ⊕ Bool)} {q : Bool} (h : mv_no x = some (.inr q)) : x = some (.inr (!q)) := by
  cases x with
  | none => cases h
  | some y => cases y with
    | inl z => cases h
    | inr z => cases h; simp
def mv_hc (o : ClassFile.Cond) (x y : Int32) : Prop := match o with
  | .eq => x = y
  | .ne => ¬ x = y
  | .lt => x < y
  | .ge => ¬ x < y
  | .gt => y < x
  | .le => ¬ y < x
theorem mv_cm_ok {g : mv_B} {r : Nat → Int32} (hg : mv_in g r) {o : ClassFile.Cond} {v w : mv_V} {q : Bool} (h : mv_cm g o v w = some (.inr q)) : mv_isI v = true ∧ mv_isI w = true ∧ (q = true ↔ mv_hc o (mv_ii r v) (mv_ii r w)) := by
  cases o with
  | eq => exact mv_eq_ok hg h
  | ne =>
    obtain ⟨a, b, c⟩ := mv_eq_ok hg (mv_no_ok h)
    exact ⟨a, b, by show _ ↔ ¬ _; rw [← c]; simp⟩
  | lt => exact mv_lt_ok hg h
  | ge =>
    obtain ⟨a, b, c⟩ := mv_lt_ok hg (mv_no_ok h)
    exact ⟨a, b, by show _ ↔ ¬ _; rw [← c]; simp⟩
  | gt =>
    obtain ⟨a, b, c⟩ := mv_lt_ok hg h
    exact ⟨b, a, c⟩
  | le =>
    obtain ⟨a, b, c⟩ := mv_lt_ok hg (mv_no_ok h)
    exact ⟨b, a, by show _ ↔ ¬ _; rw [← c]; simp⟩
end
section
/-! ===== what the interpreter's things say of a heap; a step of it and a step of the machine ===== -/
def mv_cok (D : va_G) (cs : ClassId × ClassId × ClassId) (r : Nat → Int32) (ba b a : Nat) (c : mv_C) (H : Heap) : Prop := match c.1 with
  | 0 => H[a]? = some (arrV cs.1 c.2.length (fun j => .int (mv_ii r (c.2.getD j (0, 0)))))
  | 1 => H[a]? = some (arrV cs.2.1 c.2.length (fun j => .long (lN (c.2.getD j (3, 0)).2)))
  | 2 => H[a]? = some (arrV cs.2.2 c.2.length (fun j => .int (mv_ii r (c.2.getD j (0, 0)))))
  | 3 => True
  | n + 4 => ∃ q : vw_C, vwCl[n]? = some q ∧ t_OB a (D.1 n) q.2.2 (D.2 n) H (vp_V (c.2.map (mv_val r ba b)))
def mv_hok (D : va_G) (cs : ClassId × ClassId × ClassId) (r : Nat → Int32) (ba b : Nat) (h : List mv_C) (H : Heap) : Prop :=
  H.size = ba + h.length ∧ ∀ (k : Nat) (c : mv_C), h[k]? = some c → mv_cok D cs r ba b (ba + k) c H
def mv_lv (r : Nat → Int32) (ba b : Nat) (q : Nat × mv_V) : Nat × Value := (q.1, mv_val r ba b q.2)
def mv_tys (cs : ClassId × ClassId × ClassId) : List (ClassId × FieldType) := [(cs.1, .int), (cs.2.1, .long), (cs.2.2, .boolean)]
def mv_big : List Cond := lw_tbl.filter goodWord
theorem mv_big_good : GoodIn mv_big mv_big := fun w hw => ⟨hw, good_of_word (List.mem_filter.mp hw).2⟩
theorem mv_big_tbl {args : Array Value} {s : State} (h : ∀ w ∈ lw_tbl, w.before args s = true) : ∀ w ∈ mv_big, w.before args s = true := fun w hw => h w (List.mem_filter.mp hw).1
theorem mv_cok.kept {D : va_G} {cs : ClassId × ClassId × ClassId} {r : Nat → Int32} {ba b a : Nat} {c : mv_C} {H H1 : Heap} (h : mv_cok D cs r ba b a c H) (e : H1[a]? = H[a]?) : mv_cok D cs r ba b a c H1 := by
  obtain ⟨t, l⟩ := c
  match t, h with
  | 0, h => exact e.trans h
  | 1, h => exact e.trans h
  | 2, h => exact e.trans h
  | 3, _ => trivial
  | n + 4, h =>
    obtain ⟨q, h1, h2⟩ := h
    exact ⟨q, h1, h2.kept e⟩
theorem mv_hok.set {D : va_G} {cs : ClassId × ClassId × ClassId} {r : Nat → Int32} {ba b k : Nat} {h : List mv_C} {c : mv_C} {H H1 : Heap} (hH : mv_hok D cs r ba b h H) (z : H1.size = H.size) (o : ∀ q : Nat, q ≠ ba + k → H1[q]? = H[q]?) (hc : mv_cok D cs r ba b (ba + k) c H1) : mv_hok D cs r ba b (h.set k c) H1 := by
  refine ⟨by rw [z, hH.1, List.length_set], fun j d hd => ?_⟩
  by_cases hj : j = k
  · subst hj
    have hl : j < h.length := by
      have := (List.getElem?_eq_some_iff.mp hd).1
      rwa [List.length_set] at this
    rw [List.getElem?_set_self hl] at hd
    cases hd
    exact hc
  · rw [List.getElem?_set_ne (Ne.symm hj)] at hd
    exact (hH.2 j d hd).kept (o _ (by omega))
theorem mv_hok.push {D : va_G} {cs : ClassId × ClassId × ClassId} {r : Nat → Int32} {ba b : Nat} {h : List mv_C} {c : mv_C} {H H1 : Heap} (hH : mv_hok D cs r ba b h H) (z : H1.size = H.size + 1) (o : ∀ q : Nat, q < H.size → H1[q]? = H[q]?) (hc : mv_cok D cs r ba b (ba + h.length) c H1) : mv_hok D cs r ba b (h ++ [c]) H1 := by
  refine ⟨by rw [z, hH.1, List.length_append]; rfl, fun j d hd => ?_⟩
  by_cases hl : j < h.length
  · rw [List.getElem?_append_left hl] at hd
    exact (hH.2 j d hd).kept (o _ (by rw [hH.1]; omega))
  · rw [List.getElem?_append_right (by omega)] at hd
    have hz : j - h.length < 1 := (List.getElem?_eq_some_iff.mp hd).1
    have hj : j = h.length := by omega
    subst hj
    rw [Nat.sub_self] at hd
    cases hd
    exact hc
theorem mv_nb {a b : Nat} (h : ¬ a = b) : Nat.beq a b = false := by
  cases hq : Nat.beq a b
  · rfl
  · exact absurd (mv_beq hq) h
theorem mv_bf {a b : Nat} (h : ¬ a = b) : (a == b) = false := by simpa using h
theorem mv_flt1 {r : Nat → Int32} {ba b i : Nat} (loc : mv_L) : (loc.map (mv_lv r ba b)).filter (fun q => !(q.1 == i) && !(q.1 + 1 == i && q.2.category == 2)) = (loc.filter (mv_d1 i)).map (mv_lv r ba b) := by
  rw [List.filter_map]
  congr 1
  apply List.filter_congr
  intro q hq
  show (!(q.1 == i) && !(q.1 + 1 == i && (mv_val r ba b q.2).category == 2)) = mv_d1 i q
  rw [(mv_cat r ba b q.2).1]
  unfold mv_d1
  by_cases h1 : q.1 = i
  · rw [h1, Nat.beq_refl]; simp
  · have h2 : Nat.beq q.1 i = false := mv_nb h1
    rw [h2]
    by_cases h3 : q.1 + 1 = i
    · rw [h3, Nat.beq_refl]; simp [h1]
    · have h4 : Nat.beq (q.1 + 1) i = false := mv_nb h3
      rw [h4]; simp [h1, h3]
theorem mv_flt2 {r : Nat → Int32} {ba b i : Nat} (loc : mv_L) : (loc.map (mv_lv r ba b)).filter (fun q => !(q.1 == i) && (!(q.1 == i + 1) && !(q.1 + 1 == i && q.2.category == 2))) = (loc.filter (mv_d2 i)).map (mv_lv r ba b) := by
  rw [List.filter_map]
  congr 1
  apply List.filter_congr
  intro q hq
  show (!(q.1 == i) && (!(q.1 == i + 1) && !(q.1 + 1 == i && (mv_val r ba b q.2).category == 2))) = mv_d2 i q
  rw [(mv_cat r ba b q.2).1]
  unfold mv_d2
  by_cases h1 : q.1 = i
  · rw [h1, Nat.beq_refl]; simp
  · have h2 : Nat.beq q.1 i = false := mv_nb h1
    rw [h2]
    by_cases h5 : q.1 = i + 1
    · rw [h5, Nat.beq_refl]; simp
    · have h6 : Nat.beq q.1 (i + 1) = false := mv_nb h5
      rw [h6]
      by_cases h3 : q.1 + 1 = i
      · rw [h3, Nat.beq_refl, mv_bf h1, mv_bf h5]; simp
      · have h4 : Nat.beq (q.1 + 1) i = false := mv_nb h3
        rw [h4]; simp [h1, h3, h5]
theorem mv_lk_mem {loc : mv_L} {i : Nat} {v : mv_V} (h : mv_lk loc i = some v) : ∃ k : Nat, loc[k]? = some (i, v) := by
  induction loc with
  | nil => cases h
  | cons q t ih =>
    have h : (bif Nat.beq q.1 i then some q.2 else mv_lk t i) = some v := h
    rcases mv_cnd h with ⟨h1, h⟩ | ⟨-, h⟩
    · refine ⟨0, ?_⟩
      cases h
      rw [← mv_beq h1]
      rfl
    · obtain ⟨k, hk⟩ := ih h
      exact ⟨k + 1, hk⟩
theorem mv_lk_at {r : Nat → Int32} {ba b : Nat} {loc : mv_L} {i nL : Nat} {v : mv_V} {ls : Array Slot} (h : mv_lk loc i = some v) (hl : lv_has ls nL (loc.map (mv_lv r ba b))) : ∃ k : Nat, (loc.map (mv_lv r ba b))[k]? = some (i, mv_val r ba b v) := by
  obtain ⟨k, hk⟩ := mv_lk_mem h
  exact ⟨k, by rw [List.getElem?_map, hk]; rfl⟩
section MVS
variable {p : Program} {l : Launch} {e : Env} {R : Room} {s : State} {m : MethodId} {args : Array Value} {below : List Frame} {meth : Method} {c : Code} {Q : State → Prop}
variable {D : va_G} {cs : ClassId × ClassId × ClassId} {r : Nat → Int32} {ba b nL : Nat} {g : mv_B} {loc : mv_L} {st : List mv_V} {h : List mv_C} {nc ns : Nat} {x : Option Nat × mv_L × List mv_V × List mv_C × Nat × Nat} {cc : ByteArray} {pc : Nat}
/-- the machine goes on to Q from every state that these things, locals, stack tell of -/
def mv_W (p : Program) (l : Launch) (e : Env) (R : Room) (s : State) (m : MethodId) (args : Array Value) (below : List Frame) (meth : Method) (c : Code) (Q : State → Prop) (D : va_G) (cs : ClassId × ClassId × ClassId) (r : Nat → Int32) (ba b nL : Nat) (loc : mv_L) (st : List mv_V) (h : List mv_C) (nc ns pc : Nat) : Prop :=
  ∀ (H : Heap) (locs : List Loc) (ls : Array Slot), mv_hok D cs r ba b h H → va_S (fun q => ba ≤ q) s.heap H locs → lv_has ls nL (loc.map (mv_lv r ba b)) → s.heap.size + nc = H.size → W p l e R s m args below meth c H locs nc ns Q (F0 m pc ls (st.map (mv_val r ba b)))
abbrev mv_Wx (p : Program) (l : Launch) (e : Env) (R : Room) (s : State) (m : MethodId) (args : Array Value) (below : List Frame) (meth : Method) (c : Code) (Q : State → Prop) (D : va_G) (cs : ClassId × ClassId × ClassId) (r : Nat → Int32) (ba b nL : Nat) (x : Option Nat × mv_L × List mv_V × List mv_C × Nat × Nat) (pc : Nat) : Prop :=
  mv_W p l e R s m args below meth c Q D cs r ba b nL x.2.1 x.2.2.1 x.2.2.2.1 x.2.2.2.2.1 x.2.2.2.2.2 (x.1.getD pc)
theorem mv_go_ok {s2 : List mv_V} (h1 : mv_go loc h nc ns s2 = some (.inr x)) {pc2 : Nat} (kk : mv_Wx p l e R s m args below meth c Q D cs r ba b nL x pc2) : mv_W p l e R s m args below meth c Q D cs r ba b nL loc s2 h nc ns pc2 := by
  have e1 := mv_inr h1
  rw [← e1] at kk
  exact kk
theorem mv_bi_ok {f : Nat → Nat → Option Nat} {pc2 : Nat} (hg : mv_in g r) (h1 : mv_bi g loc st h nc ns f = some (.inr x))
    (row : ∀ (a d n : Nat) (s2 : List mv_V), f a d = some n → mv_W p l e R s m args below meth c Q D cs r ba b nL loc ((0, n) :: s2) h nc ns pc2 → ∀ (H : Heap) (locs : List Loc) (ls : Array Slot), mv_hok D cs r ba b h H → va_S (fun q => ba ≤ q) s.heap H locs → lv_has ls nL (loc.map (mv_lv r ba b)) → s.heap.size + nc = H.size → W p l e R s m args below meth c H locs nc ns Q (F0 m pc ls (.int (nI d) :: .int (nI a) :: s2.map (mv_val r ba b))))
    (kk : mv_Wx p l e R s m args below meth c Q D cs r ba b nL x pc2) : mv_W p l e R s m args below meth c Q D cs r ba b nL loc st h nc ns pc := by
  unfold mv_bi at h1
  split at h1
  · rename_i y z s2
    split at h1
    · rename_i a ha
      split at h1
      · rename_i d hd
        split at h1
        · rename_i n hf
          rw [mv_fo_eq] at h1
          have k2 := mv_go_ok h1 kk
          obtain ⟨i1, i2⟩ := mv_cI_ok hg ha
          obtain ⟨j1, j2⟩ := mv_cI_ok hg hd
          intro H locs ls hH hS hl hn
          show W p l e R s m args below meth c H locs nc ns Q (F0 m pc ls (mv_val r ba b y :: mv_val r ba b z :: s2.map (mv_val r ba b)))
          rw [mv_val_I i1, mv_val_I j1, i2, j2]
          exact row a d n s2 hf k2 H locs ls hH hS hl hn
        · cases h1
      · cases h1
      · cases h1
    · cases h1
    · cases h1
  · cases h1
end MVS
end
section
/-! ===== a step of the interpreter is a step of the machine: one lemma a handler ===== -/
section MVT
variable {p : Program} {l : Launch} {e : Env} {R : Room} {s : State} {m : MethodId} {args : Array Value} {below : List Frame} {meth : Method} {c : Code} {Q : State → Prop}
variable {D : va_G} {cs : ClassId × ClassId × ClassId} {r : Nat → Int32} {ba b nL : Nat} {g : mv_B} {loc : mv_L} {st : List mv_V} {h : List mv_C} {nc ns : Nat} {x : Option Nat × mv_L × List mv_V × List mv_C × Nat × Nat} {cc : ByteArray} {pc pc2 : Nat}
theorem mv_bi_nt {f : Nat → Nat → Option Nat} (h1 : mv_bi g loc st h nc ns f = some (.inr x)) : x.1 = none := by
  unfold mv_bi at h1
  split at h1
  · split at h1
    · split at h1
      · split at h1
        · rw [mv_fo_eq] at h1
          rw [← mv_inr h1]
        · cases h1
      · cases h1
      · cases h1
    · cases h1
    · cases h1
  · cases h1
theorem mv_ld_ok {f : mv_V → Bool} {i : Nat} (h1 : mv_ld loc st h nc ns f i = some (.inr x))
    (row : ∀ (v : mv_V) (H : Heap) (locs : List Loc) (ls : Array Slot), f v = true → ls[i]? = some (.val (mv_val r ba b v)) → W p l e R s m args below meth c H locs nc ns Q (F0 m pc2 ls (mv_val r ba b v :: st.map (mv_val r ba b))) → W p l e R s m args below meth c H locs nc ns Q (F0 m pc ls (st.map (mv_val r ba b))))
    (kk : mv_Wx p l e R s m args below meth c Q D cs r ba b nL x pc2) : mv_W p l e R s m args below meth c Q D cs r ba b nL loc st h nc ns pc := by
  unfold mv_ld at h1
  split at h1
  · rename_i v hv
    obtain ⟨h2, h1⟩ := mv_cndn h1
    have k2 := mv_go_ok h1 kk
    intro H locs ls hH hS hl hn
    obtain ⟨k, hk⟩ := mv_lk_at (r := r) (ba := ba) (b := b) hv hl
    exact row v H locs ls h2 (lv_at hl k hk) (k2 H locs ls hH hS hl hn)
  · cases h1
theorem mv_sto_ok {f : mv_V → Bool} {i : Nat} (h1 : mv_sto loc st h nc ns f nL i = some (.inr x))
    (row : ∀ (v : mv_V) (s2 : List mv_V) (H : Heap) (locs : List Loc) (ls : Array Slot), f v = true → i < nL → lv_has ls nL (loc.map (mv_lv r ba b)) → (∀ ls2 : Array Slot, lv_has ls2 nL (((i, v) :: loc.filter (mv_d1 i)).map (mv_lv r ba b)) → W p l e R s m args below meth c H locs nc ns Q (F0 m pc2 ls2 (s2.map (mv_val r ba b)))) → W p l e R s m args below meth c H locs nc ns Q (F0 m pc ls (mv_val r ba b v :: s2.map (mv_val r ba b))))
    (kk : mv_Wx p l e R s m args below meth c Q D cs r ba b nL x pc2) : mv_W p l e R s m args below meth c Q D cs r ba b nL loc st h nc ns pc := by
  unfold mv_sto at h1
  split at h1
  · rename_i v s2
    obtain ⟨h2, h1⟩ := mv_cndn h1
    simp only [Bool.and_eq_true] at h2
    rw [mv_fi_eq] at h1
    rw [← mv_inr h1] at kk
    intro H locs ls hH hS hl hn
    exact row v s2 H locs ls h2.1 (mv_blt h2.2) hl (fun ls2 hl2 => kk H locs ls2 hH hS hl2 hn)
  · cases h1
theorem mv_sto2_ok {f : mv_V → Bool} {i : Nat} (h1 : mv_sto2 loc st h nc ns f nL i = some (.inr x))
    (row : ∀ (v : mv_V) (s2 : List mv_V) (H : Heap) (locs : List Loc) (ls : Array Slot), f v = true → i + 1 < nL → lv_has ls nL (loc.map (mv_lv r ba b)) → (∀ ls2 : Array Slot, lv_has ls2 nL (((i, v) :: loc.filter (mv_d2 i)).map (mv_lv r ba b)) → W p l e R s m args below meth c H locs nc ns Q (F0 m pc2 ls2 (s2.map (mv_val r ba b)))) → W p l e R s m args below meth c H locs nc ns Q (F0 m pc ls (mv_val r ba b v :: s2.map (mv_val r ba b))))
    (kk : mv_Wx p l e R s m args below meth c Q D cs r ba b nL x pc2) : mv_W p l e R s m args below meth c Q D cs r ba b nL loc st h nc ns pc := by
  unfold mv_sto2 at h1
  split at h1
  · rename_i v s2
    obtain ⟨h2, h1⟩ := mv_cndn h1
    simp only [Bool.and_eq_true] at h2
    rw [mv_fi_eq] at h1
    rw [← mv_inr h1] at kk
    intro H locs ls hH hS hl hn
    exact row v s2 H locs ls h2.1 (mv_blt h2.2) hl (fun ls2 hl2 => kk H locs ls2 hH hS hl2 hn)
  · cases h1
theorem mv_un_ok {f : Nat → mv_V} (hg : mv_in g r) (h1 : mv_un g loc st h nc ns f = some (.inr x))
    (row : ∀ (a : Nat) (s2 : List mv_V) (H : Heap) (locs : List Loc) (ls : Array Slot), W p l e R s m args below meth c H locs nc ns Q (F0 m pc2 ls (mv_val r ba b (f a) :: s2.map (mv_val r ba b))) → W p l e R s m args below meth c H locs nc ns Q (F0 m pc ls (.int (nI a) :: s2.map (mv_val r ba b))))
    (kk : mv_Wx p l e R s m args below meth c Q D cs r ba b nL x pc2) : mv_W p l e R s m args below meth c Q D cs r ba b nL loc st h nc ns pc := by
  unfold mv_un at h1
  split at h1
  · rename_i y s2
    split at h1
    · rename_i a ha
      rw [mv_fo_eq] at h1
      have k2 := mv_go_ok h1 kk
      obtain ⟨i1, i2⟩ := mv_cI_ok hg ha
      intro H locs ls hH hS hl hn
      show W p l e R s m args below meth c H locs nc ns Q (F0 m pc ls (mv_val r ba b y :: s2.map (mv_val r ba b)))
      rw [mv_val_I i1, i2]
      exact row a s2 H locs ls (k2 H locs ls hH hS hl hn)
    · cases h1
    · cases h1
  · cases h1
theorem mv_bl_ok {f : Nat → Nat → mv_V} (h1 : mv_bl loc st h nc ns f = some (.inr x))
    (row : ∀ (a d : Nat) (s2 : List mv_V) (H : Heap) (locs : List Loc) (ls : Array Slot), W p l e R s m args below meth c H locs nc ns Q (F0 m pc2 ls (mv_val r ba b (f a d) :: s2.map (mv_val r ba b))) → W p l e R s m args below meth c H locs nc ns Q (F0 m pc ls (.long (lN d) :: .long (lN a) :: s2.map (mv_val r ba b))))
    (kk : mv_Wx p l e R s m args below meth c Q D cs r ba b nL x pc2) : mv_W p l e R s m args below meth c Q D cs r ba b nL loc st h nc ns pc := by
  unfold mv_bl at h1
  split at h1
  · rename_i y z s2
    obtain ⟨h2, h1⟩ := mv_cndn h1
    simp only [Bool.and_eq_true] at h2
    rw [mv_fo_eq] at h1
    have k2 := mv_go_ok h1 kk
    intro H locs ls hH hS hl hn
    show W p l e R s m args below meth c H locs nc ns Q (F0 m pc ls (mv_val r ba b y :: mv_val r ba b z :: s2.map (mv_val r ba b)))
    rw [mv_val_J h2.1, mv_val_J h2.2]
    exact row z.2 y.2 s2 H locs ls (k2 H locs ls hH hS hl hn)
  · cases h1
theorem mv_b4_ok {f : Nat → Nat → mv_V} (h1 : mv_b4 loc st h nc ns f = some (.inr x))
    (row : ∀ (a d : Nat) (s2 : List mv_V) (H : Heap) (locs : List Loc) (ls : Array Slot), W p l e R s m args below meth c H locs nc ns Q (F0 m pc2 ls (mv_val r ba b (f a d) :: s2.map (mv_val r ba b))) → W p l e R s m args below meth c H locs nc ns Q (F0 m pc ls (.double (UInt64.ofNat d) :: .double (UInt64.ofNat a) :: s2.map (mv_val r ba b))))
    (kk : mv_Wx p l e R s m args below meth c Q D cs r ba b nL x pc2) : mv_W p l e R s m args below meth c Q D cs r ba b nL loc st h nc ns pc := by
  unfold mv_b4 at h1
  split at h1
  · rename_i y z s2
    obtain ⟨h2, h1⟩ := mv_cndn h1
    simp only [Bool.and_eq_true] at h2
    rw [mv_fo_eq] at h1
    have k2 := mv_go_ok h1 kk
    intro H locs ls hH hS hl hn
    show W p l e R s m args below meth c H locs nc ns Q (F0 m pc ls (mv_val r ba b y :: mv_val r ba b z :: s2.map (mv_val r ba b)))
    rw [mv_val_D h2.1, mv_val_D h2.2]
    exact row z.2 y.2 s2 H locs ls (k2 H locs ls hH hS hl hn)
  · cases h1
theorem mv_br_ok {o : ClassFile.Cond} {v w : mv_V} {s2 : List mv_V} {t : Nat} (hg : mv_in g r) (h1 : mv_br g loc h nc ns o v w s2 t = some (.inr x))
    (row : mv_isI v = true → mv_isI w = true → ∀ (H : Heap) (locs : List Loc) (ls : Array Slot), (mv_hc o (mv_ii r v) (mv_ii r w) → W p l e R s m args below meth c H locs nc ns Q (F0 m t ls (s2.map (mv_val r ba b)))) → (¬ mv_hc o (mv_ii r v) (mv_ii r w) → W p l e R s m args below meth c H locs nc ns Q (F0 m pc2 ls (s2.map (mv_val r ba b)))) → W p l e R s m args below meth c H locs nc ns Q (F0 m pc ls (st.map (mv_val r ba b))))
    (kk : mv_Wx p l e R s m args below meth c Q D cs r ba b nL x pc2) : mv_W p l e R s m args below meth c Q D cs r ba b nL loc st h nc ns pc := by
  unfold mv_br at h1
  split at h1
  · rename_i hc
    obtain ⟨i1, i2, i3⟩ := mv_cm_ok hg hc
    rw [← mv_inr h1] at kk
    intro H locs ls hH hS hl hn
    exact row i1 i2 H locs ls (fun _ => kk H locs ls hH hS hl hn) (fun z => absurd (i3.mp rfl) z)
  · rename_i hc
    obtain ⟨i1, i2, i3⟩ := mv_cm_ok hg hc
    have k2 := mv_go_ok h1 kk
    intro H locs ls hH hS hl hn
    exact row i1 i2 H locs ls (fun z => by have z2 := i3.mpr z; cases z2) (fun _ => k2 H locs ls hH hS hl hn)
  · cases h1
  · cases h1
theorem mv_icr (hexec : p.tables.exec = Jvm.exec) (hb : c.code = cc) {o : ClassFile.Cond} {off : Int} {t : Nat} (hd : decode cc pc = .ok (.if_icmp o off, 3)) (ht : (pc : Int) + off = (t : Int)) {X Y : Int32} {H : Heap} {locs : List Loc} {ls : Array Slot} {rest : List Value}
    (k1 : mv_hc o X Y → W p l e R s m args below meth c H locs nc ns Q (F0 m t ls rest)) (k2 : ¬ mv_hc o X Y → W p l e R s m args below meth c H locs nc ns Q (F0 m (pc + 3) ls rest)) : W p l e R s m args below meth c H locs nc ns Q (F0 m pc ls (.int Y :: .int X :: rest)) := by
  cases o with
  | eq => exact lv_icmp_eq hexec hb hd ht k1 k2
  | ne => exact lv_icmp_ne hexec hb hd ht k1 (fun z => k2 (fun z2 => z2 z))
  | lt => exact lv_icmp_lt hexec hb hd ht k1 k2
  | ge => exact lv_icmp_ge hexec hb hd ht (fun z => k1 (Int32.not_lt.mpr z)) (fun z => k2 (fun z2 => z (Int32.not_lt.mp z2)))
  | gt => exact lv_icmp_gt hexec hb hd ht k1 k2
  | le => exact lv_icmp_le hexec hb hd ht (fun z => k1 (Int32.not_lt.mpr z)) (fun z => k2 (fun z2 => z (Int32.not_lt.mp z2)))
theorem mv_ifr (hexec : p.tables.exec = Jvm.exec) (hb : c.code = cc) {o : ClassFile.Cond} {off : Int} {t : Nat} (hd : decode cc pc = .ok (.ifCond o off, 3)) (ht : (pc : Int) + off = (t : Int)) {X : Int32} {H : Heap} {locs : List Loc} {ls : Array Slot} {rest : List Value}
    (k1 : mv_hc o X 0 → W p l e R s m args below meth c H locs nc ns Q (F0 m t ls rest)) (k2 : ¬ mv_hc o X 0 → W p l e R s m args below meth c H locs nc ns Q (F0 m (pc + 3) ls rest)) : W p l e R s m args below meth c H locs nc ns Q (F0 m pc ls (.int X :: rest)) := by
  cases o with
  | eq => exact lv_if_eq hexec hb hd ht k1 k2
  | ne => exact lv_if_ne hexec hb hd ht k1 (fun z => k2 (fun z2 => z2 z))
  | lt => exact lv_if_lt hexec hb hd ht k1 k2
  | ge => exact lv_if_ge hexec hb hd ht (fun z => k1 (Int32.not_lt.mpr z)) (fun z => k2 (fun z2 => z (Int32.not_lt.mp z2)))
  | gt => exact lv_if_gt hexec hb hd ht k1 k2
  | le => exact lv_if_le hexec hb hd ht (fun z => k1 (Int32.not_lt.mpr z)) (fun z => k2 (fun z2 => z (Int32.not_lt.mp z2)))
theorem mv_ic_ok (hexec : p.tables.exec = Jvm.exec) (hb : c.code = cc) (hg : mv_in g r) {o : ClassFile.Cond} {off : Int} {t : Nat} (hd : decode cc pc = .ok (.if_icmp o off, 3)) (ht : (pc : Int) + off = (t : Int)) (h1 : mv_ic g loc st h nc ns o t = some (.inr x))
    (kk : mv_Wx p l e R s m args below meth c Q D cs r ba b nL x (pc + 3)) : mv_W p l e R s m args below meth c Q D cs r ba b nL loc st h nc ns pc := by
  unfold mv_ic at h1
  split at h1
  · rename_i y z s2
    refine mv_br_ok (pc2 := pc + 3) hg h1 (fun i1 i2 H locs ls k1 k2 => ?_) kk
    show W p l e R s m args below meth c H locs nc ns Q (F0 m pc ls (mv_val r ba b y :: mv_val r ba b z :: s2.map (mv_val r ba b)))
    rw [mv_val_I i1, mv_val_I i2]
    exact mv_icr hexec hb hd ht k1 k2
  · cases h1
theorem mv_if_ok (hexec : p.tables.exec = Jvm.exec) (hb : c.code = cc) (hg : mv_in g r) {o : ClassFile.Cond} {off : Int} {t : Nat} (hd : decode cc pc = .ok (.ifCond o off, 3)) (ht : (pc : Int) + off = (t : Int)) (h1 : mv_if g loc st h nc ns o t = some (.inr x))
    (kk : mv_Wx p l e R s m args below meth c Q D cs r ba b nL x (pc + 3)) : mv_W p l e R s m args below meth c Q D cs r ba b nL loc st h nc ns pc := by
  unfold mv_if at h1
  split at h1
  · rename_i z s2
    refine mv_br_ok (pc2 := pc + 3) hg h1 (fun i1 i2 H locs ls k1 k2 => ?_) kk
    show W p l e R s m args below meth c H locs nc ns Q (F0 m pc ls (mv_val r ba b z :: s2.map (mv_val r ba b)))
    rw [mv_val_I i1]
    exact mv_ifr hexec hb hd ht (fun z => k1 z) (fun z => k2 z)
  · cases h1
theorem mv_inc_ok (hexec : p.tables.exec = Jvm.exec) (hb : c.code = cc) (hg : mv_in g r) {i q : Nat} {n : Int} (hd : decode cc pc = .ok (.iinc i n, 3)) (hq : Int32.ofInt n = nI q) (h1 : mv_inc g loc st h nc ns nL i q = some (.inr x))
    (kk : mv_Wx p l e R s m args below meth c Q D cs r ba b nL x (pc + 3)) : mv_W p l e R s m args below meth c Q D cs r ba b nL loc st h nc ns pc := by
  unfold mv_inc at h1
  split at h1
  · rename_i v hv
    split at h1
    · rename_i a ha
      obtain ⟨h2, h1⟩ := mv_cndn h1
      rw [mv_fo_eq, mv_fi_eq] at h1
      rw [← mv_inr h1] at kk
      obtain ⟨i1, i2⟩ := mv_cI_ok hg ha
      intro H locs ls hH hS hl hn
      obtain ⟨k, hk⟩ := mv_lk_at (r := r) (ba := ba) (b := b) hv hl
      rw [mv_val_I i1, i2] at hk
      refine lv_iinc (v := nI ((a + q) % 4294967296)) (lv' := ((i, ((0, (a + q) % 4294967296) : mv_V)) :: loc.filter (mv_d1 i)).map (mv_lv r ba b)) hexec hb hd hl hk (by rw [hq, nI_add, mv_nI_m]) (mv_blt h2) ?_ (fun ls2 hl2 => kk H locs ls2 hH hS hl2 hn)
      rw [mv_flt1]
      rfl
    · cases h1
    · cases h1
  · cases h1
/-- an array's row -/
theorem mv_ar_ok {t : Nat} {y z : mv_V} {k : Nat → List mv_V → Nat → mv_S} (hg : mv_in g r) (h1 : mv_ar g h t y z k = some (.inr x)) : ∃ (q a : Nat) (cl : List mv_V), z = (2, q) ∧ mv_isI y = true ∧ mv_ii r y = nI a ∧ h[q]? = some (t, cl) ∧ a < cl.length ∧ cl.length < 65536 ∧ k q cl a = some (.inr x) := by
  unfold mv_ar at h1
  obtain ⟨h2, h1⟩ := mv_cndn h1
  split at h1
  · rename_i a ha
    split at h1
    · rename_i d hd
      obtain ⟨h3, h4⟩ := mv_cndn h1
      simp only [Bool.and_eq_true] at h3
      obtain ⟨i1, i2⟩ := mv_cI_ok hg ha
      rw [mv_gt_eq] at hd
      obtain ⟨z1, z2⟩ := z
      obtain ⟨d1, d2⟩ := d
      cases mv_beq h2
      have e3 : d1 = t := mv_beq h3.1
      subst e3
      exact ⟨z2, a, d2, rfl, i1, i2, hd, mv_blt h3.2.1, mv_blt h3.2.2, h4⟩
    · cases h1
  · cases h1
  · cases h1
theorem mv_look {D : va_G} {cs : ClassId × ClassId × ClassId} {h : List mv_C} {H : Heap} {k t : Nat} {cl : List mv_V} (hH : mv_hok D cs r ba b h H) (hk : h[k]? = some (t, cl)) : mv_cok D cs r ba b (ba + k) (t, cl) H := hH.2 k (t, cl) hk
theorem mv_getD {α : Type} {l : List α} {a : Nat} {v d : α} (h : l[a]? = some v) : l.getD a d = v := by
  rw [List.getD_eq_getElem?_getD, h]; rfl
theorem mv_setD {α : Type} {l : List α} {a : Nat} {v d : α} (ha : a < l.length) (j : Nat) : (l.set a v).getD j d = if j = a then v else l.getD j d := by
  rw [List.getD_eq_getElem?_getD, List.getD_eq_getElem?_getD, List.getElem?_set]
  by_cases hj : a = j
  · subst hj; simp [ha]
  · rw [if_neg hj, if_neg (fun z => hj z.symm)]
theorem mv_aldi_ok (hexec : p.tables.exec = Jvm.exec) (hb : c.code = cc) (hg : mv_in g r) (hK : va_K D vwCl (mv_tys cs) s) (hd : decode cc pc = .ok (.iaload, 1)) (h1 : mv_ald g loc st h nc ns 0 mv_isI = some (.inr x))
    (kk : mv_Wx p l e R s m args below meth c Q D cs r ba b nL x (pc + 1)) : mv_W p l e R s m args below meth c Q D cs r ba b nL loc st h nc ns pc := by
  unfold mv_ald at h1
  split at h1
  · rename_i y z s2
    obtain ⟨q, a, cl, rfl, i1, i2, hq, ha, hlen, h2⟩ := mv_ar_ok hg h1
    split at h2
    · rename_i v hv
      obtain ⟨h3, h4⟩ := mv_cndn h2
      have k2 := mv_go_ok h4 kk
      rw [mv_gt_eq] at hv
      intro H locs ls hH hS hl hn
      have hc : H[ba + q]? = some (arrV cs.1 cl.length (fun j => .int (mv_ii r (cl.getD j (0, 0))))) := mv_look hH hq
      have hK0 := hK.2 0 _ (show (mv_tys cs)[0]? = some (cs.1, .int) from rfl)
      show W p l e R s m args below meth c H locs nc ns Q (F0 m pc ls (mv_val r ba b y :: .ref (ba + q) :: s2.map (mv_val r ba b)))
      rw [mv_val_I i1, i2]
      have hcl : (nI a).toNatClampNeg = a := nI_clamp (by omega)
      refine W.iald (v := mv_val r ba b v) hexec hb hc (hK0.1 _ _) (fun q => by cases q) (by rw [arrV_size]; exact nI_in ha (by omega)) ?_ rfl rfl hd (k2 H locs ls hH hS hl hn)
      rw [hcl, arrV_read _ _ ha, mv_getD hv, mv_val_I h3]
    · cases h2
  · cases h1
theorem mv_aldl_ok (hexec : p.tables.exec = Jvm.exec) (hb : c.code = cc) (hg : mv_in g r) (hK : va_K D vwCl (mv_tys cs) s) (hd : decode cc pc = .ok (.laload, 1)) (h1 : mv_ald g loc st h nc ns 1 mv_isJ = some (.inr x))
    (kk : mv_Wx p l e R s m args below meth c Q D cs r ba b nL x (pc + 1)) : mv_W p l e R s m args below meth c Q D cs r ba b nL loc st h nc ns pc := by
  unfold mv_ald at h1
  split at h1
  · rename_i y z s2
    obtain ⟨q, a, cl, rfl, i1, i2, hq, ha, hlen, h2⟩ := mv_ar_ok hg h1
    split at h2
    · rename_i v hv
      obtain ⟨h3, h4⟩ := mv_cndn h2
      have k2 := mv_go_ok h4 kk
      rw [mv_gt_eq] at hv
      intro H locs ls hH hS hl hn
      have hc : H[ba + q]? = some (arrV cs.2.1 cl.length (fun j => .long (lN (cl.getD j (3, 0)).2))) := mv_look hH hq
      have hK0 := hK.2 1 _ (show (mv_tys cs)[1]? = some (cs.2.1, .long) from rfl)
      show W p l e R s m args below meth c H locs nc ns Q (F0 m pc ls (mv_val r ba b y :: .ref (ba + q) :: s2.map (mv_val r ba b)))
      rw [mv_val_I i1, i2]
      have hcl : (nI a).toNatClampNeg = a := nI_clamp (by omega)
      refine W.lald (v := mv_val r ba b v) hexec hb hc (hK0.1 _ _) (fun q => by cases q) (by rw [arrV_size]; exact nI_in ha (by omega)) ?_ rfl rfl hd (k2 H locs ls hH hS hl hn)
      rw [hcl, arrV_read _ _ ha, mv_getD hv, mv_val_J h3]
    · cases h2
  · cases h1
theorem mv_aldz_ok (hexec : p.tables.exec = Jvm.exec) (hb : c.code = cc) (hg : mv_in g r) (hK : va_K D vwCl (mv_tys cs) s) (hd : decode cc pc = .ok (.baload, 1)) (h1 : mv_ald g loc st h nc ns 2 mv_isI = some (.inr x))
    (kk : mv_Wx p l e R s m args below meth c Q D cs r ba b nL x (pc + 1)) : mv_W p l e R s m args below meth c Q D cs r ba b nL loc st h nc ns pc := by
  unfold mv_ald at h1
  split at h1
  · rename_i y z s2
    obtain ⟨q, a, cl, rfl, i1, i2, hq, ha, hlen, h2⟩ := mv_ar_ok hg h1
    split at h2
    · rename_i v hv
      obtain ⟨h3, h4⟩ := mv_cndn h2
      have k2 := mv_go_ok h4 kk
      rw [mv_gt_eq] at hv
      intro H locs ls hH hS hl hn
      have hc : H[ba + q]? = some (arrV cs.2.2 cl.length (fun j => .int (mv_ii r (cl.getD j (0, 0))))) := mv_look hH hq
      have hK0 := hK.2 2 _ (show (mv_tys cs)[2]? = some (cs.2.2, .boolean) from rfl)
      show W p l e R s m args below meth c H locs nc ns Q (F0 m pc ls (mv_val r ba b y :: .ref (ba + q) :: s2.map (mv_val r ba b)))
      rw [mv_val_I i1, i2]
      have hcl : (nI a).toNatClampNeg = a := nI_clamp (by omega)
      refine W.zald (v := mv_val r ba b v) hexec hb hc (hK0.1 _ _) (fun q => by cases q) (by rw [arrV_size]; exact nI_in ha (by omega)) ?_ rfl rfl hd (k2 H locs ls hH hS hl hn)
      rw [hcl, arrV_read _ _ ha, mv_getD hv, mv_val_I h3]
    · cases h2
  · cases h1
theorem mv_asti_ok (hexec : p.tables.exec = Jvm.exec) (hb : c.code = cc) (hg : mv_in g r) (hK : va_K D vwCl (mv_tys cs) s) (hd : decode cc pc = .ok (.iastore, 1)) (h1 : mv_ast g loc st h nc ns 0 mv_isI = some (.inr x))
    (kk : mv_Wx p l e R s m args below meth c Q D cs r ba b nL x (pc + 1)) : mv_W p l e R s m args below meth c Q D cs r ba b nL loc st h nc ns pc := by
  unfold mv_ast at h1
  split at h1
  · rename_i v y z s2
    obtain ⟨hv, h1⟩ := mv_cndn h1
    obtain ⟨q, a, cl, rfl, i1, i2, hq, ha, hlen, h2⟩ := mv_ar_ok hg h1
    rw [mv_ls_eq, mv_ls_eq] at h2
    have k2 := mv_go_ok h2 kk
    intro H locs ls hH hS hl hn
    have hc : H[ba + q]? = some (arrV cs.1 cl.length (fun j => .int (mv_ii r (cl.getD j (0, 0))))) := mv_look hH hq
    have hK0 := hK.2 0 _ (show (mv_tys cs)[0]? = some (cs.1, .int) from rfl)
    show W p l e R s m args below meth c H locs nc ns Q (F0 m pc ls (mv_val r ba b v :: mv_val r ba b y :: .ref (ba + q) :: s2.map (mv_val r ba b)))
    rw [mv_val_I i1, i2, mv_val_I hv]
    have hcl : (nI a).toNatClampNeg = a := nI_clamp (by omega)
    refine W.iast hexec hb hc (hK0.1 _ _) (fun q => by cases q) (by rw [arrV_size]; exact nI_in ha (by omega)) rfl rfl hd (fun H1 e1 e2 e3 => ?_)
    refine k2 H1 _ ls (hH.set e2 e3 ?_) (hS.put e2 e3 (Nat.le_add_right _ _)) hl (by rw [e2]; exact hn)
    show H1[ba + q]? = some (arrV cs.1 (cl.set a v).length (fun j => .int (mv_ii r ((cl.set a v).getD j (0, 0)))))
    rw [e1, hcl, arrV_store, List.length_set]
    congr 2
    funext j
    rw [mv_setD ha]
    unfold updV
    by_cases hj : j = a
    · rw [if_pos hj, if_pos hj]
    · rw [if_neg hj, if_neg hj]
  · cases h1
theorem mv_astl_ok (hexec : p.tables.exec = Jvm.exec) (hb : c.code = cc) (hg : mv_in g r) (hK : va_K D vwCl (mv_tys cs) s) (hd : decode cc pc = .ok (.lastore, 1)) (h1 : mv_ast g loc st h nc ns 1 mv_isJ = some (.inr x))
    (kk : mv_Wx p l e R s m args below meth c Q D cs r ba b nL x (pc + 1)) : mv_W p l e R s m args below meth c Q D cs r ba b nL loc st h nc ns pc := by
  unfold mv_ast at h1
  split at h1
  · rename_i v y z s2
    obtain ⟨hv, h1⟩ := mv_cndn h1
    obtain ⟨q, a, cl, rfl, i1, i2, hq, ha, hlen, h2⟩ := mv_ar_ok hg h1
    rw [mv_ls_eq, mv_ls_eq] at h2
    have k2 := mv_go_ok h2 kk
    intro H locs ls hH hS hl hn
    have hc : H[ba + q]? = some (arrV cs.2.1 cl.length (fun j => .long (lN (cl.getD j (3, 0)).2))) := mv_look hH hq
    have hK0 := hK.2 1 _ (show (mv_tys cs)[1]? = some (cs.2.1, .long) from rfl)
    show W p l e R s m args below meth c H locs nc ns Q (F0 m pc ls (mv_val r ba b v :: mv_val r ba b y :: .ref (ba + q) :: s2.map (mv_val r ba b)))
    rw [mv_val_I i1, i2, mv_val_J hv]
    have hcl : (nI a).toNatClampNeg = a := nI_clamp (by omega)
    refine W.last hexec hb hc (hK0.1 _ _) (fun q => by cases q) (by rw [arrV_size]; exact nI_in ha (by omega)) rfl rfl hd (fun H1 e1 e2 e3 => ?_)
    refine k2 H1 _ ls (hH.set e2 e3 ?_) (hS.put e2 e3 (Nat.le_add_right _ _)) hl (by rw [e2]; exact hn)
    show H1[ba + q]? = some (arrV cs.2.1 (cl.set a v).length (fun j => .long (lN ((cl.set a v).getD j (3, 0)).2)))
    rw [e1, hcl, arrV_store, List.length_set]
    congr 2
    funext j
    rw [mv_setD ha]
    unfold updV
    by_cases hj : j = a
    · rw [if_pos hj, if_pos hj]
    · rw [if_neg hj, if_neg hj]
  · cases h1
theorem mv_zst_ok (hexec : p.tables.exec = Jvm.exec) (hb : c.code = cc) (hg : mv_in g r) (hK : va_K D vwCl (mv_tys cs) s) (hd : decode cc pc = .ok (.bastore, 1)) (h1 : mv_zst g loc st h nc ns = some (.inr x))
    (kk : mv_Wx p l e R s m args below meth c Q D cs r ba b nL x (pc + 1)) : mv_W p l e R s m args below meth c Q D cs r ba b nL loc st h nc ns pc := by
  unfold mv_zst at h1
  split at h1
  · rename_i v y z s2
    split at h1
    · rename_i w hw
      obtain ⟨hw2, h1⟩ := mv_cndn h1
      have hw2 := mv_blt hw2
      obtain ⟨j1, j2⟩ := mv_cI_ok hg hw
      obtain ⟨q, a, cl, rfl, i1, i2, hq, ha, hlen, h2⟩ := mv_ar_ok hg h1
      rw [mv_ls_eq, mv_ls_eq] at h2
      have k2 := mv_go_ok h2 kk
      intro H locs ls hH hS hl hn
      have hc : H[ba + q]? = some (arrV cs.2.2 cl.length (fun j => .int (mv_ii r (cl.getD j (0, 0))))) := mv_look hH hq
      have hK0 := hK.2 2 _ (show (mv_tys cs)[2]? = some (cs.2.2, .boolean) from rfl)
      show W p l e R s m args below meth c H locs nc ns Q (F0 m pc ls (mv_val r ba b v :: mv_val r ba b y :: .ref (ba + q) :: s2.map (mv_val r ba b)))
      rw [mv_val_I i1, i2, mv_val_I j1, j2]
      have hcl : (nI a).toNatClampNeg = a := nI_clamp (by omega)
      refine W.zast hexec hb hc (hK0.1 _ _) (fun q => by cases q) (by rw [arrV_size]; exact nI_in ha (by omega)) rfl rfl hd (fun H1 e1 e2 e3 => ?_)
      refine k2 H1 _ ls (hH.set e2 e3 ?_) (hS.put e2 e3 (Nat.le_add_right _ _)) hl (by rw [e2]; exact hn)
      show H1[ba + q]? = some (arrV cs.2.2 (cl.set a (0, w)).length (fun j => .int (mv_ii r ((cl.set a (0, w)).getD j (0, 0)))))
      have hnar : narrow .boolean (.int (nI w)) = .int (nI w) := by
        rcases (show w = 0 ∨ w = 1 by omega) with rfl | rfl <;> decide +kernel
      rw [e1, hcl, hnar, arrV_store, List.length_set]
      congr 2
      funext j
      rw [mv_setD ha]
      unfold updV
      by_cases hj : j = a
      · rw [if_pos hj, if_pos hj]; rfl
      · rw [if_neg hj, if_neg hj]
    · cases h1
    · cases h1
  · cases h1
end MVT
end
section
/-! ===== fields, new things, and the other handlers ===== -/
def mv_dvs : List (List mv_V) := [[(1, 0), (1, 0), (1, 0), (1, 0), (1, 0), (1, 0), (0, 0), (0, 0), (0, 0)],
  [(1, 0), (1, 0), (1, 0), (1, 0), (1, 0), (0, 0)],
  [(1, 0), (1, 0), (1, 0), (1, 0), (1, 0), (1, 0), (1, 0), (1, 0), (1, 0), (0, 0)],
  [(1, 0), (1, 0), (1, 0), (1, 0), (1, 0), (1, 0), (1, 0), (1, 0), (0, 0), (0, 0)],
  [(1, 0), (1, 0)],
  [(1, 0), (1, 0), (1, 0), (1, 0), (1, 0), (1, 0), (1, 0), (1, 0), (1, 0), (1, 0), (1, 0), (1, 0), (1, 0), (1, 0), (1, 0), (1, 0)],
  [(1, 0), (1, 0), (1, 0), (1, 0), (1, 0), (1, 0), (0, 0), (0, 0)],
  [(1, 0), (1, 0), (1, 0), (1, 0), (1, 0), (1, 0), (1, 0)],
  [(0, 0), (0, 0), (1, 0), (1, 0), (1, 0), (1, 0), (1, 0), (1, 0), (1, 0), (0, 0), (0, 0), (1, 0), (1, 0), (1, 0), (1, 0), (1, 0), (0, 0), (1, 0), (1, 0), (1, 0), (1, 0), (1, 0), (1, 0), (1, 0), (0, 0), (1, 0), (0, 0), (0, 0)]]
noncomputable def mv_dv (ci : Nat) : List mv_V := (mv_gt mv_dvs ci).getD []
theorem mv_uw0 : ∀ w ∈ u_ws RX0 TX0 9, w ∈ mv_big := by decide +kernel
theorem mv_uw1 : ∀ w ∈ u_ws RX1 TX1 6, w ∈ mv_big := by decide +kernel
theorem mv_uw2 : ∀ w ∈ u_ws RX2 TX2 10, w ∈ mv_big := by decide +kernel
theorem mv_uw3 : ∀ w ∈ u_ws RX3 TX3 10, w ∈ mv_big := by decide +kernel
theorem mv_uw4 : ∀ w ∈ u_ws RX4 TX4 2, w ∈ mv_big := by decide +kernel
theorem mv_uw5 : ∀ w ∈ u_ws RX5 TX5 16, w ∈ mv_big := by decide +kernel
theorem mv_uw6 : ∀ w ∈ u_ws RX6 TX6 8, w ∈ mv_big := by decide +kernel
theorem mv_uw7 : ∀ w ∈ u_ws RX7 TX7 7, w ∈ mv_big := by decide +kernel
theorem mv_uw8 : ∀ w ∈ u_ws RX8 TX8 28, w ∈ mv_big := by decide +kernel
/-- what is known of a class by its number -/
def mv_clf (r : Nat → Int32) (ba b ci : Nat) (q : vw_C) : Prop := (∀ w ∈ u_ws q.1 q.2.1 q.2.2, w ∈ mv_big) ∧ (∀ a, a < q.2.2 → ∀ b, b < q.2.2 → a ≠ b → (q.2.1 a).2.1 ≠ (q.2.1 b).2.1) ∧
  ∃ ty : Nat → FieldType, (∀ k, k < q.2.2 → parseFieldDescriptor (q.2.1 k).2.2.1 = some (ty k)) ∧ (∀ j, j < q.2.2 → defaultValue (ty j) = vp_V ((mv_dv ci).map (mv_val r ba b)) j) ∧ (mv_dv ci).length = q.2.2
theorem mv_lt_cases {P : Nat → Prop} : ∀ (n : Nat), (∀ j, j < n → P j) ↔ (n = 0 ∨ ((∀ j, j < n - 1 → P j) ∧ P (n - 1)))
  | 0 => by simp
  | n + 1 => by
    constructor
    · intro h
      exact Or.inr ⟨fun j hj => h j (by omega), h n (by omega)⟩
    · rintro (h | ⟨h1, h2⟩) j hj
      · omega
      · rcases Nat.lt_or_ge j n with q | q
        · exact h1 j q
        · have : j = n := by omega
          subst this
          exact h2
theorem mv_cls (r : Nat → Int32) (ba b ci : Nat) (q : vw_C) (h : vwCl[ci]? = some q) : mv_clf r ba b ci q := by
  match ci, h with
  | 0, h =>
    cases h
    refine ⟨mv_uw0, nmX0, tyX0, tyX0_ok, fun j hj => ?_, rfl⟩
    match j, hj with
    | 0, _ => rfl
    | 1, _ => rfl
    | 2, _ => rfl
    | 3, _ => rfl
    | 4, _ => rfl
    | 5, _ => rfl
    | 6, _ => rfl
    | 7, _ => rfl
    | 8, _ => rfl
    | j + 9, hj => exact absurd hj (by show ¬ j + 9 < 9; omega)
  | 1, h =>
    cases h
    refine ⟨mv_uw1, nmX1, tyX1, tyX1_ok, fun j hj => ?_, rfl⟩
    match j, hj with
    | 0, _ => rfl
    | 1, _ => rfl
    | 2, _ => rfl
    | 3, _ => rfl
    | 4, _ => rfl
    | 5, _ => rfl
    | j + 6, hj => exact absurd hj (by show ¬ j + 6 < 6; omega)
  | 2, h =>
    cases h
    refine ⟨mv_uw2, nmX2, tyX2, tyX2_ok, fun j hj => ?_, rfl⟩
    match j, hj with
    | 0, _ => rfl
    | 1, _ => rfl
    | 2, _ => rfl
    | 3, _ => rfl
    | 4, _ => rfl
    | 5, _ => rfl
    | 6, _ => rfl
    | 7, _ => rfl
    | 8, _ => rfl
    | 9, _ => rfl
    | j + 10, hj => exact absurd hj (by show ¬ j + 10 < 10; omega)
  | 3, h =>
    cases h
    refine ⟨mv_uw3, nmX3, tyX3, tyX3_ok, fun j hj => ?_, rfl⟩
    match j, hj with
    | 0, _ => rfl
    | 1, _ => rfl
    | 2, _ => rfl
    | 3, _ => rfl
    | 4, _ => rfl
    | 5, _ => rfl
    | 6, _ => rfl
    | 7, _ => rfl
    | 8, _ => rfl
    | 9, _ => rfl
    | j + 10, hj => exact absurd hj (by show ¬ j + 10 < 10; omega)
  | 4, h =>
    cases h
    refine ⟨mv_uw4, nmX4, tyX4, tyX4_ok, fun j hj => ?_, rfl⟩
    match j, hj with
    | 0, _ => rfl
    | 1, _ => rfl
    | j + 2, hj => exact absurd hj (by show ¬ j + 2 < 2; omega)
  | 5, h =>
    cases h
    refine ⟨mv_uw5, nmX5, tyX5, tyX5_ok, fun j hj => ?_, rfl⟩
    match j, hj with
    | 0, _ => rfl
    | 1, _ => rfl
    | 2, _ => rfl
    | 3, _ => rfl
    | 4, _ => rfl
    | 5, _ => rfl
    | 6, _ => rfl
    | 7, _ => rfl
    | 8, _ => rfl
    | 9, _ => rfl
    | 10, _ => rfl
    | 11, _ => rfl
    | 12, _ => rfl
    | 13, _ => rfl
    | 14, _ => rfl
    | 15, _ => rfl
    | j + 16, hj => exact absurd hj (by show ¬ j + 16 < 16; omega)
  | 6, h =>
    cases h
    refine ⟨mv_uw6, nmX6, tyX6, tyX6_ok, fun j hj => ?_, rfl⟩
    match j, hj with
    | 0, _ => rfl
    | 1, _ => rfl
    | 2, _ => rfl
    | 3, _ => rfl
    | 4, _ => rfl
    | 5, _ => rfl
    | 6, _ => rfl
    | 7, _ => rfl
    | j + 8, hj => exact absurd hj (by show ¬ j + 8 < 8; omega)
  | 7, h =>
    cases h
    refine ⟨mv_uw7, nmX7, tyX7, tyX7_ok, fun j hj => ?_, rfl⟩
    match j, hj with
    | 0, _ => rfl
    | 1, _ => rfl
    | 2, _ => rfl
    | 3, _ => rfl
    | 4, _ => rfl
    | 5, _ => rfl
    | 6, _ => rfl
    | j + 7, hj => exact absurd hj (by show ¬ j + 7 < 7; omega)
  | 8, h =>
    cases h
    refine ⟨mv_uw8, nmX8, tyX8, tyX8_ok, fun j hj => ?_, rfl⟩
    match j, hj with
    | 0, _ => rfl
    | 1, _ => rfl
    | 2, _ => rfl
    | 3, _ => rfl
    | 4, _ => rfl
    | 5, _ => rfl
    | 6, _ => rfl
    | 7, _ => rfl
    | 8, _ => rfl
    | 9, _ => rfl
    | 10, _ => rfl
    | 11, _ => rfl
    | 12, _ => rfl
    | 13, _ => rfl
    | 14, _ => rfl
    | 15, _ => rfl
    | 16, _ => rfl
    | 17, _ => rfl
    | 18, _ => rfl
    | 19, _ => rfl
    | 20, _ => rfl
    | 21, _ => rfl
    | 22, _ => rfl
    | 23, _ => rfl
    | 24, _ => rfl
    | 25, _ => rfl
    | 26, _ => rfl
    | 27, _ => rfl
    | j + 28, hj => exact absurd hj (by show ¬ j + 28 < 28; omega)
  | ci + 9, h => exact absurd h (by simp [vwCl])
end
section
/-! ===== fields, arrays made, objects made, and what is left of the steps ===== -/
section MVU
variable {p : Program} {l : Launch} {e : Env} {R : Room} {s : State} {m : MethodId} {args : Array Value} {below : List Frame} {meth : Method} {c : Code} {Q : State → Prop}
variable {D : va_G} {cs : ClassId × ClassId × ClassId} {r : Nat → Int32} {ba b nL : Nat} {g : mv_B} {loc : mv_L} {st : List mv_V} {h : List mv_C} {nc ns : Nat} {x : Option Nat × mv_L × List mv_V × List mv_C × Nat × Nat} {cc : ByteArray} {pc pc2 : Nat}
theorem mv_len_ok (hexec : p.tables.exec = Jvm.exec) (hb : c.code = cc) (hK : va_K D vwCl (mv_tys cs) s) (hd : decode cc pc = .ok (.arraylength, 1)) (h1 : mv_len loc st h nc ns = some (.inr x))
    (kk : mv_Wx p l e R s m args below meth c Q D cs r ba b nL x (pc + 1)) : mv_W p l e R s m args below meth c Q D cs r ba b nL loc st h nc ns pc := by
  unfold mv_len at h1
  split at h1
  · rename_i z s2
    obtain ⟨z1, z2⟩ := z
    obtain ⟨h2, h1⟩ := mv_cndn h1
    cases mv_beq h2
    split at h1
    · rename_i d hd2
      obtain ⟨h3, h4⟩ := mv_cndn h1
      rw [mv_fo_eq] at h4
      have k2 := mv_go_ok h4 kk
      rw [mv_gt_eq] at hd2
      have h3 := mv_blt h3
      intro H locs ls hH hS hl hn
      have hc := hH.2 _ _ hd2
      obtain ⟨d1, d2⟩ := d
      show W p l e R s m args below meth c H locs nc ns Q (F0 m pc ls (.ref (ba + z2) :: s2.map (mv_val r ba b)))
      match d1, h3, hc with
      | 0, _, hc =>
        exact W.alen (n := nI d2.length) hexec hb (show H[ba + z2]? = some (arrV cs.1 d2.length (fun j => .int (mv_ii r (d2.getD j (0, 0))))) from hc) ((hK.2 0 _ (show (mv_tys cs)[0]? = some (cs.1, .int) from rfl)).1 _ _) (by rw [arrV_size]; rfl) rfl rfl hd (k2 H locs ls hH hS hl hn)
      | 1, _, hc =>
        exact W.alen (n := nI d2.length) hexec hb (show H[ba + z2]? = some (arrV cs.2.1 d2.length (fun j => .long (lN (d2.getD j (3, 0)).2))) from hc) ((hK.2 1 _ (show (mv_tys cs)[1]? = some (cs.2.1, .long) from rfl)).1 _ _) (by rw [arrV_size]; rfl) rfl rfl hd (k2 H locs ls hH hS hl hn)
      | 2, _, hc =>
        exact W.alen (n := nI d2.length) hexec hb (show H[ba + z2]? = some (arrV cs.2.2 d2.length (fun j => .int (mv_ii r (d2.getD j (0, 0))))) from hc) ((hK.2 2 _ (show (mv_tys cs)[2]? = some (cs.2.2, .boolean) from rfl)).1 _ _) (by rw [arrV_size]; rfl) rfl rfl hd (k2 H locs ls hH hS hl hn)
      | n + 3, h3, _ => omega
    · cases h1
  · cases h1
theorem mv_gf_ok (hexec : p.tables.exec = Jvm.exec) (hb : c.code = cc) (hts : ∀ w ∈ mv_big, w.before args s = true) {own C : String} {T : u_T} {N ci k index : Nat} (hown : s.vm.findClass own = some m.cls) (hK : va_K D vwCl (mv_tys cs) s) (hc : vwCl[ci]? = some (C, T, N)) (hk : k < N) (hw : Cond.fieldLink own index (T k).1 (T k).2.1 (T k).2.2.1 ∈ mv_big) (hd : decode cc pc = .ok (.getfield index, 3)) (h1 : mv_gf loc st h nc ns ci k = some (.inr x))
    (kk : mv_Wx p l e R s m args below meth c Q D cs r ba b nL x (pc + 3)) : mv_W p l e R s m args below meth c Q D cs r ba b nL loc st h nc ns pc := by
  unfold mv_gf at h1
  split at h1
  · rename_i z s2
    obtain ⟨z1, z2⟩ := z
    obtain ⟨h2, h1⟩ := mv_cndn h1
    cases mv_beq h2
    split at h1
    · rename_i d hd2
      obtain ⟨h3, h4⟩ := mv_cndn h1
      rw [mv_gt_eq] at hd2
      split at h4
      · rename_i v hv
        have k2 := mv_go_ok h4 kk
        rw [mv_gt_eq] at hv
        intro H locs ls hH hS hl hn
        have hcc := hH.2 _ _ hd2
        obtain ⟨d1, d2⟩ := d
        have e3 : d1 = ci + 4 := mv_beq h3
        subst e3
        obtain ⟨q, q1, q2⟩ : ∃ q : vw_C, vwCl[ci]? = some q ∧ t_OB (ba + z2) (D.1 ci) q.2.2 (D.2 ci) H (vp_V (d2.map (mv_val r ba b))) := hcc
        show W p l e R s m args below meth c H locs nc ns Q (F0 m pc ls (.ref (ba + z2) :: s2.map (mv_val r ba b)))
        refine va_get (ws := [(ba + z2, .inr (ci, d2.map (mv_val r ba b)))]) hexec hb hts (mv_cls r ba b ci _ hc).1 hown hK (fun j y hy => ?_) 0 rfl hc k hk (hts _ hw) (fun _ z => z) (v := mv_val r ba b v) (by rw [List.getElem?_map, hv]; rfl) hd (k2 H locs ls hH hS hl hn)
        have hz : j < 1 := (List.getElem?_eq_some_iff.mp hy).1
        rw [show j = 0 by omega] at hy
        cases hy
        exact ⟨q, q1, q2⟩
      · cases h4
    · cases h1
  · cases h1
/-- a field written: what it holds then, all else as it was -/
theorem mv_put0 (hexec : p.tables.exec = Jvm.exec) (hb : c.code = cc) (hts : ∀ w ∈ mv_big, w.before args s = true) {own C : String} {T : u_T} {N ci k index a : Nat} {fs : List Value} {v : Value} {ty : FieldType} {H : Heap} {locs : List Loc} {ls : Array Slot} {rest : List Value} (hown : s.vm.findClass own = some m.cls) (hK : va_K D vwCl (mv_tys cs) s) (hc : vwCl[ci]? = some (C, T, N)) (hk : k < N)
    (hw : Cond.fieldLink own index (T k).1 (T k).2.1 (T k).2.2.1 ∈ mv_big) (hd : decode cc pc = .ok (.putfield index, 3)) (hfin : (T k).2.2.2 = false ∨ ((T k).2.2.2 = true ∧ meth.name = "<init>" ∧ (T k).1 = own)) (hty : parseFieldDescriptor (T k).2.2.1 = some ty) (hn : narrow ty v = v) (hfit : fits ty v = true) (hl : k < fs.length) (hob : t_OB a (D.1 ci) N (D.2 ci) H (vp_V fs))
    (kk : ∀ (H1 : Heap) (locs1 : List Loc), t_OB a (D.1 ci) N (D.2 ci) H1 (vp_V (fs.set k v)) → H1.size = H.size → (∀ q : Nat, q ≠ a → H1[q]? = H[q]?) → (∀ z ∈ locs1, z ∈ locs ∨ z.base = a) → W p l e R s m args below meth c H1 locs1 nc ns Q (F0 m (pc + 3) ls rest)) : W p l e R s m args below meth c H locs nc ns Q (F0 m pc ls (v :: .ref a :: rest)) := by
  obtain ⟨hin, hnm, ty0, hty0, -, -⟩ := mv_cls (fun _ => 0) 0 0 ci _ hc
  have hap := va_apart (own := own) hts hin ty0 hty0 hnm hK hc
  obtain ⟨cell, q1, q2, q3, q4⟩ := hob
  obtain ⟨hS, hfc, kC, hkC, hkind⟩ := hK.1 ci _ hc
  obtain ⟨cf, kf, fi, f, hi, hsl⟩ := hS k hk
  have hlay := hts _ (hin _ (u_in_lay hk))
  have hst := (u_facts hfc hkC (u_lays hts hin hk) hi).1
  have hend : ∀ (H1 : Heap), H1[a]? = some (cell.setSlot ((D.2 ci) k) v) → t_OB a (D.1 ci) N (D.2 ci) H1 (vp_V (fs.set k v)) := fun H1 e1 =>
    t_OB.to (V := updV (vp_V fs) k v) ⟨_, e1, q2, q3, t_set q4 hap hk v⟩ (fun j _ => vp_updV_set hl v j)
  have hlo : ∀ z ∈ locs ++ [(⟨a, (D.2 ci) k⟩ : Loc)], z ∈ locs ∨ z.base = a := fun z hz => by
    rcases List.mem_append.mp hz with h1 | h1
    · exact Or.inl h1
    · rw [List.mem_singleton.mp h1]; exact Or.inr rfl
  rcases hfin with hfin | ⟨hfin, hname, hdecl⟩
  · unfold u_lay at hlay
    rw [if_neg (by show ¬ (T k).2.2.2 = true; rw [hfin]; decide)] at hlay
    have h6 := u_store hfc hkC hkind hlay hi hty hn hfit
    refine W.putK hexec hb (f := f) ⟨hown, hts _ hw, ⟨_, _, _, hi⟩, hst⟩ (by rw [q2]; exact h6) q1 q3 (by rw [hsl]; exact k2_hasslot (q4 k hk)) rfl rfl hd fun H' e1 e2 e3 => ?_
    rw [hsl] at e1 ⊢
    exact kk H' _ (hend H' e1) e2 e3 hlo
  · unfold u_lay at hlay
    rw [if_pos hfin] at hlay
    have hcf : m.cls = cf := by
      obtain ⟨_, _, c', _, _, _, -, -, hf', -, -, -, hown2, -⟩ := Cond.laysFinal_spec hlay
      have e1 : c' = cf := by have := hi.symm.trans hf'; simp at this; exact this.1.symm
      rw [hdecl] at hown2
      rw [← e1]; exact Option.some.inj (hown.symm.trans hown2)
    have h6 := u_fits hfc hkC hkind (Or.inr hlay) hi hty hn hfit
    refine W.putFinK hexec hb hown (hts _ hw) hi hst hcf hname (by rw [q2]; exact h6) q1 q3 (by rw [hsl]; exact k2_hasslot (q4 k hk)) rfl rfl hd fun H' e1 e2 e3 => ?_
    rw [hsl] at e1 ⊢
    exact kk H' _ (hend H' e1) e2 e3 hlo
/-- which kind of field a descriptor tells -/
def mv_ft (t : Nat) (ty : FieldType) : Bool := match ty with
  | .int => Nat.beq t 0
  | .boolean => Nat.beq t 1
  | .object _ => Nat.beq t 2
  | .array _ => Nat.beq t 2
  | _ => false
theorem mv_fits_ok {t : Nat} {ty : FieldType} {v : mv_V} (h1 : mv_ft t ty = true) (h2 : mv_fits t v = true) : narrow ty (mv_val r ba b v) = mv_val r ba b v ∧ fits ty (mv_val r ba b v) = true := by
  have ref : mv_fits 2 v = true → ∀ ty2 : FieldType, (∃ n, ty2 = .object n) ∨ (∃ q, ty2 = .array q) → narrow ty2 (mv_val r ba b v) = mv_val r ba b v ∧ fits ty2 (mv_val r ba b v) = true := by
    intro h2 ty2 hty2
    obtain ⟨v1, v2⟩ := v
    have h2 : (bif Nat.beq v1 1 then true else Nat.beq v1 2) = true := h2
    rcases mv_cnd h2 with ⟨h3, -⟩ | ⟨-, h3⟩
    · cases mv_beq h3
      rcases hty2 with ⟨n, rfl⟩ | ⟨q, rfl⟩ <;> exact ⟨rfl, rfl⟩
    · cases mv_beq h3
      rcases hty2 with ⟨n, rfl⟩ | ⟨q, rfl⟩ <;> exact ⟨rfl, rfl⟩
  cases ty with
  | int =>
    have e : t = 0 := mv_beq h1
    subst e
    have h2 : mv_isI v = true := h2
    rw [mv_val_I h2]
    exact ⟨rfl, rfl⟩
  | boolean =>
    have e : t = 1 := mv_beq h1
    subst e
    obtain ⟨v1, v2⟩ := v
    have h2 : (Nat.beq v1 0 && Nat.blt v2 2) = true := h2
    simp only [Bool.and_eq_true] at h2
    cases mv_beq h2.1
    have h3 := mv_blt h2.2
    show narrow .boolean (.int (nI v2)) = .int (nI v2) ∧ fits .boolean (.int (nI v2)) = true
    rcases (show v2 = 0 ∨ v2 = 1 by omega) with rfl | rfl <;> decide +kernel
  | object n =>
    have e : t = 2 := mv_beq h1
    subst e
    exact ref h2 _ (Or.inl ⟨_, rfl⟩)
  | array q =>
    have e : t = 2 := mv_beq h1
    subst e
    exact ref h2 _ (Or.inr ⟨_, rfl⟩)
  | _ => cases h1
theorem mv_pf_ok (hexec : p.tables.exec = Jvm.exec) (hb : c.code = cc) (hts : ∀ w ∈ mv_big, w.before args s = true) {own C : String} {T : u_T} {N ci k t index : Nat} {ty : FieldType} (hown : s.vm.findClass own = some m.cls) (hK : va_K D vwCl (mv_tys cs) s) (hc : vwCl[ci]? = some (C, T, N)) (hk : k < N) (hw : Cond.fieldLink own index (T k).1 (T k).2.1 (T k).2.2.1 ∈ mv_big) (hd : decode cc pc = .ok (.putfield index, 3))
    (hfin : (T k).2.2.2 = false ∨ ((T k).2.2.2 = true ∧ meth.name = "<init>" ∧ (T k).1 = own)) (hty : parseFieldDescriptor (T k).2.2.1 = some ty) (hft : mv_ft t ty = true) (h1 : mv_pf loc st h nc ns ci k t = some (.inr x))
    (kk : mv_Wx p l e R s m args below meth c Q D cs r ba b nL x (pc + 3)) : mv_W p l e R s m args below meth c Q D cs r ba b nL loc st h nc ns pc := by
  unfold mv_pf at h1
  split at h1
  · rename_i v z s2
    obtain ⟨z1, z2⟩ := z
    obtain ⟨h2, h1⟩ := mv_cndn h1
    simp only [Bool.and_eq_true] at h2
    cases mv_beq h2.1
    split at h1
    · rename_i d hd2
      obtain ⟨h3, h4⟩ := mv_cndn h1
      simp only [Bool.and_eq_true] at h3
      rw [mv_gt_eq] at hd2
      rw [mv_ls_eq, mv_ls_eq] at h4
      have k2 := mv_go_ok h4 kk
      obtain ⟨f1, f2⟩ := mv_fits_ok (r := r) (ba := ba) (b := b) hft h2.2
      intro H locs ls hH hS hl hn
      have hcc := hH.2 _ _ hd2
      obtain ⟨d1, d2⟩ := d
      have e3 : d1 = ci + 4 := mv_beq h3.1
      have h5 : k < d2.length := mv_blt h3.2
      subst e3
      obtain ⟨q, q1, q2⟩ : ∃ q : vw_C, vwCl[ci]? = some q ∧ t_OB (ba + z2) (D.1 ci) q.2.2 (D.2 ci) H (vp_V (d2.map (mv_val r ba b))) := hcc
      have eq : q = (C, T, N) := Option.some.inj (q1.symm.trans hc)
      subst eq
      show W p l e R s m args below meth c H locs nc ns Q (F0 m pc ls (mv_val r ba b v :: .ref (ba + z2) :: s2.map (mv_val r ba b)))
      refine mv_put0 hexec hb hts hown hK hc hk hw hd hfin hty f1 f2 (by rw [List.length_map]; exact h5) q2 (fun H1 locs1 e1 e2 e4 e5 => ?_)
      refine k2 H1 locs1 ls (hH.set e2 e4 ⟨_, hc, by rw [List.map_set]; exact e1⟩) ⟨by rw [e2]; exact hS.1, fun q hq hA => ?_, fun z hz => ?_⟩ hl (by rw [e2]; exact hn)
      · rw [e4 q (by rintro rfl; exact hA (Nat.le_add_right _ _))]
        exact hS.2.1 q hq hA
      · rcases e5 z hz with h6 | h6
        · exact hS.2.2 z h6
        · rw [h6]; exact Nat.le_add_right _ _
    · cases h1
  · cases h1
theorem mv_nw_ok (hexec : p.tables.exec = Jvm.exec) (hb : c.code = cc) (hts : ∀ w ∈ mv_big, w.before args s = true) {own C : String} {T : u_T} {N ci index : Nat} (hown : s.vm.findClass own = some m.cls) (hK : va_K D vwCl (mv_tys cs) s) (hc : vwCl[ci]? = some (C, T, N)) (hw1 : Cond.classLink own index C ∈ mv_big) (hw2 : Cond.instantiable C N ∈ mv_big) (hw3 : Cond.initialized C ∈ mv_big) (hd : decode cc pc = .ok (.new index, 3)) (h1 : mv_nw loc st h nc ns ci (mv_dv ci) = some (.inr x)) (hR1 : x.2.2.2.2.1 ≤ R.cells) (hR2 : x.2.2.2.2.2 ≤ R.slots)
    (kk : mv_Wx p l e R s m args below meth c Q D cs r ba b nL x (pc + 3)) : mv_W p l e R s m args below meth c Q D cs r ba b nL loc st h nc ns pc := by
  unfold mv_nw at h1
  rw [mv_fo_eq, mv_sn_eq] at h1
  have e1 := mv_inr h1
  obtain ⟨hin, hnm, ty, hty, hdf, hln⟩ := mv_cls r ba b ci _ hc
  rw [← e1] at kk hR1 hR2
  have hln : (mv_dv ci).length = N := hln
  simp only [hln] at hR1 hR2 kk
  intro H locs ls hH hS hl hn
  have hKn := hK.1 ci _ hc
  refine W.newcK hexec hb hown (hts _ hw1) (hts _ hw2) (hts _ hw3) rfl hd hR1 hR2 hKn.2.1 rfl fun H1 kC hkC e1 z1 o1 => ?_
  have k3 := kk H1 locs ls (hH.push z1 o1 ⟨_, hc, ?_⟩) ⟨Nat.le_trans hS.1 (by omega), fun q hq hA => (o1 q (Nat.lt_of_lt_of_le hq hS.1)).trans (hS.2.1 q hq hA), hS.2.2⟩ hl (show s.heap.size + (nc + 1) = H1.size by omega)
  · rw [hH.1]
    exact k3
  · rw [← hH.1]
    exact (u_born ty hts hin hKn hkC e1 hty).to hdf
theorem mv_cAe {ty : FieldType} {cA cB : ClassId} (h1 : s.vm.findClass ("[" ++ ty.toString) = some cA) (h2 : va_RA s cB ty) (h3 : ∀ C, ty ≠ .object C) : cA = cB := by
  have h4 : s.vm.findClass ("[" ++ ty.toString) = some cB := by
    cases ty with
    | object C => exact absurd rfl (h3 C)
    | _ => exact h2
  exact Option.some.inj (h1.symm.trans h4)
theorem mv_rep {α : Type} {n j : Nat} {v : α} : (List.replicate n v).getD j v = v := by
  rw [List.getD_eq_getElem?_getD, List.getElem?_replicate]
  split <;> rfl
theorem mv_na_ok (hexec : p.tables.exec = Jvm.exec) (hb : c.code = cc) (hg : mv_in g r) (hts : ∀ w ∈ mv_big, w.before args s = true) {t : Nat} {at0 : ArrayType} (hK : va_K D vwCl (mv_tys cs) s) (hw : Cond.arrayClass (newarray.typeOf at0) ∈ mv_big) (ht : (at0 = .int ∧ t = 0) ∨ (at0 = .long ∧ t = 1) ∨ (at0 = .boolean ∧ t = 2)) (hd : decode cc pc = .ok (.newarray at0, 2)) (h1 : mv_na g loc st h nc ns t = some (.inr x)) (hR1 : x.2.2.2.2.1 ≤ R.cells) (hR2 : x.2.2.2.2.2 ≤ R.slots)
    (kk : mv_Wx p l e R s m args below meth c Q D cs r ba b nL x (pc + 2)) : mv_W p l e R s m args below meth c Q D cs r ba b nL loc st h nc ns pc := by
  unfold mv_na at h1
  split at h1
  · rename_i y s2
    split at h1
    · rename_i n hn0
      obtain ⟨hn1, h1⟩ := mv_cndn h1
      have hn1 := mv_blt hn1
      rw [mv_fo_eq, mv_sn_eq] at h1
      rw [← mv_inr h1] at kk hR1 hR2
      obtain ⟨i1, i2⟩ := mv_cI_ok hg hn0
      intro H locs ls hH hS hl hn
      show W p l e R s m args below meth c H locs nc ns Q (F0 m pc ls (mv_val r ba b y :: s2.map (mv_val r ba b)))
      rw [mv_val_I i1, i2]
      have hcb : n * componentBytes (newarray.typeOf at0) ≤ 536870912 := by
        have : componentBytes (newarray.typeOf at0) ≤ 8 := by rcases ht with ⟨rfl, -⟩ | ⟨rfl, -⟩ | ⟨rfl, -⟩ <;> decide
        calc n * componentBytes (newarray.typeOf at0) ≤ 65536 * 8 := Nat.mul_le_mul (by omega) this
          _ ≤ 536870912 := by decide
      refine va_newaK (N := n) hexec hb (hts _ hw) rfl hd rfl (nI_pos (by omega)) (nI_clamp (by omega)) hcb hR1 hR2 rfl (fun H1 cA e1 z1 o1 hAr hNm => ?_)
      have k3 := kk H1 locs ls (hH.push z1 o1 ?_) ⟨Nat.le_trans hS.1 (by omega), fun q hq hA => (o1 q (Nat.lt_of_lt_of_le hq hS.1)).trans (hS.2.1 q hq hA), hS.2.2⟩ hl (show s.heap.size + (nc + 1) = H1.size by omega)
      · rw [hH.1]
        exact k3
      · rw [← hH.1]
        rcases ht with ⟨rfl, rfl⟩ | ⟨rfl, rfl⟩ | ⟨rfl, rfl⟩
        · have e2 : cA = cs.1 := mv_cAe hNm (hK.2 0 _ (show (mv_tys cs)[0]? = some (cs.1, .int) from rfl)).2 (fun C z => by cases z)
          subst e2
          show H1[H.size]? = some (arrV cs.1 (List.replicate n ((0, 0) : mv_V)).length (fun j => .int (mv_ii r ((List.replicate n ((0, 0) : mv_V)).getD j (0, 0)))))
          rw [e1, List.length_replicate]
          congr 2
          funext j
          rw [mv_rep]
          rfl
        · have e2 : cA = cs.2.1 := mv_cAe hNm (hK.2 1 _ (show (mv_tys cs)[1]? = some (cs.2.1, .long) from rfl)).2 (fun C z => by cases z)
          subst e2
          show H1[H.size]? = some (arrV cs.2.1 (List.replicate n ((3, 0) : mv_V)).length (fun j => .long (lN ((List.replicate n ((3, 0) : mv_V)).getD j (3, 0)).2)))
          rw [e1, List.length_replicate]
          congr 2
          funext j
          rw [mv_rep]
          rfl
        · have e2 : cA = cs.2.2 := mv_cAe hNm (hK.2 2 _ (show (mv_tys cs)[2]? = some (cs.2.2, .boolean) from rfl)).2 (fun C z => by cases z)
          subst e2
          show H1[H.size]? = some (arrV cs.2.2 (List.replicate n ((0, 0) : mv_V)).length (fun j => .int (mv_ii r ((List.replicate n ((0, 0) : mv_V)).getD j (0, 0)))))
          rw [e1, List.length_replicate]
          congr 2
          funext j
          rw [mv_rep]
          rfl
    · cases h1
    · cases h1
  · cases h1
end MVU
end
section
/-! ===== the stack's own steps, the script, switches; then every step ===== -/
def mv_sc (r : Nat → Int32) (ba b : Nat) (s : State) : Prop := ∃ (L : Nat) (xs : Nat → Int32), va_X b L xs s s.heap ∧ b < s.heap.size ∧ b < ba ∧ (∀ j, j < 8 → j < L → r j = xs j) ∧ r 10 = nI L ∧ L < 65536
section MVX
variable {p : Program} {l : Launch} {e : Env} {R : Room} {s : State} {m : MethodId} {args : Array Value} {below : List Frame} {meth : Method} {c : Code} {Q : State → Prop}
variable {D : va_G} {cs : ClassId × ClassId × ClassId} {r : Nat → Int32} {ba b nL : Nat} {g : mv_B} {loc : mv_L} {st : List mv_V} {h : List mv_C} {nc ns : Nat} {x : Option Nat × mv_L × List mv_V × List mv_C × Nat × Nat} {cc : ByteArray} {pc pc2 : Nat}
theorem mv_c1 {v : mv_V} (h : mv_w2 v = false) : (mv_val r ba b v).category = 1 := by rw [(mv_cat r ba b v).2, h]; rfl
theorem mv_c2 {v : mv_V} (h : mv_w2 v = true) : (mv_val r ba b v).category = 2 := by rw [(mv_cat r ba b v).2, h]; rfl
theorem mv_cnn {α : Type} {q : Bool} {y : Option α} {z : α} (h : (bif q then none else y) = some z) : q = false ∧ y = some z := by
  cases q
  · exact ⟨rfl, h⟩
  · cases h
theorem mv_dup_ok (hexec : p.tables.exec = Jvm.exec) (hb : c.code = cc) (hd : decode cc pc = .ok (.dup, 1)) (h1 : mv_dup loc st h nc ns = some (.inr x))
    (kk : mv_Wx p l e R s m args below meth c Q D cs r ba b nL x (pc + 1)) : mv_W p l e R s m args below meth c Q D cs r ba b nL loc st h nc ns pc := by
  unfold mv_dup at h1
  split at h1
  · obtain ⟨h2, h3⟩ := mv_cnn h1
    have k2 := mv_go_ok h3 kk
    intro H locs ls hH hS hl hn
    exact lv_dup hexec hb hd (mv_c1 h2) (k2 H locs ls hH hS hl hn)
  · cases h1
theorem mv_pop_ok (hexec : p.tables.exec = Jvm.exec) (hb : c.code = cc) (hd : decode cc pc = .ok (.pop, 1)) (h1 : mv_pop loc st h nc ns = some (.inr x))
    (kk : mv_Wx p l e R s m args below meth c Q D cs r ba b nL x (pc + 1)) : mv_W p l e R s m args below meth c Q D cs r ba b nL loc st h nc ns pc := by
  unfold mv_pop at h1
  split at h1
  · obtain ⟨h2, h3⟩ := mv_cnn h1
    have k2 := mv_go_ok h3 kk
    intro H locs ls hH hS hl hn
    exact lv_pop hexec hb hd (mv_c1 h2) (k2 H locs ls hH hS hl hn)
  · cases h1
theorem mv_dupx_ok (hexec : p.tables.exec = Jvm.exec) (hb : c.code = cc) (hd : decode cc pc = .ok (.dup_x1, 1)) (h1 : mv_dupx loc st h nc ns = some (.inr x))
    (kk : mv_Wx p l e R s m args below meth c Q D cs r ba b nL x (pc + 1)) : mv_W p l e R s m args below meth c Q D cs r ba b nL loc st h nc ns pc := by
  unfold mv_dupx at h1
  split at h1
  · obtain ⟨h2, h3⟩ := mv_cnn h1
    simp only [Bool.or_eq_false_iff] at h2
    have k2 := mv_go_ok h3 kk
    intro H locs ls hH hS hl hn
    exact lv_dup_x1 hexec hb hd (mv_c1 h2.1) (mv_c1 h2.2) (k2 H locs ls hH hS hl hn)
  · cases h1
theorem mv_dup2_ok (hexec : p.tables.exec = Jvm.exec) (hb : c.code = cc) (hd : decode cc pc = .ok (.dup2, 1)) (h1 : mv_dup2 loc st h nc ns = some (.inr x))
    (kk : mv_Wx p l e R s m args below meth c Q D cs r ba b nL x (pc + 1)) : mv_W p l e R s m args below meth c Q D cs r ba b nL loc st h nc ns pc := by
  unfold mv_dup2 at h1
  split at h1
  · rcases mv_cnd h1 with ⟨h2, h3⟩ | ⟨h2, h3⟩
    · have k2 := mv_go_ok h3 kk
      intro H locs ls hH hS hl hn
      exact lv_dup2_2 hexec hb hd (mv_c2 h2) (k2 H locs ls hH hS hl hn)
    · split at h3
      · obtain ⟨h4, h5⟩ := mv_cnn h3
        have k2 := mv_go_ok h5 kk
        intro H locs ls hH hS hl hn
        exact lv_dup2_11 hexec hb hd (mv_c1 h2) (mv_c1 h4) (k2 H locs ls hH hS hl hn)
      · cases h3
  · cases h1
theorem mv_and_ok (hexec : p.tables.exec = Jvm.exec) (hb : c.code = cc) (hg : mv_in g r) (h8 : r 8 = r 0 &&& nI 31) (hd : decode cc pc = .ok (.iand, 1)) (h1 : mv_and g loc st h nc ns = some (.inr x))
    (kk : mv_Wx p l e R s m args below meth c Q D cs r ba b nL x (pc + 1)) : mv_W p l e R s m args below meth c Q D cs r ba b nL loc st h nc ns pc := by
  unfold mv_and at h1
  split at h1
  · rename_i y z s2
    rcases mv_cnd h1 with ⟨h2, h3⟩ | ⟨-, h3⟩
    · simp only [Bool.and_eq_true] at h2
      obtain ⟨z1, z2⟩ := z
      obtain ⟨y1, y2⟩ := y
      obtain ⟨e1, e2, e3, e4⟩ := h2
      have f1 : z1 = 5 := mv_beq e1
      have f2 : z2 = 0 := mv_beq e2
      have f3 : y1 = 0 := mv_beq e3
      have f4 : y2 = 31 := mv_beq e4
      subst f1; subst f2; subst f3; subst f4
      have k2 := mv_go_ok h3 kk
      intro H locs ls hH hS hl hn
      refine lv_iand hexec hb hd ?_
      have k3 := k2 H locs ls hH hS hl hn
      have k4 : W p l e R s m args below meth c H locs nc ns Q (F0 m (pc + 1) ls (.int (r 8) :: s2.map (mv_val r ba b))) := k3
      rw [h8] at k4
      exact k4
    · refine mv_bi_ok hg h3 (fun a d n s2 hf k H locs ls hH hS hl hn => ?_) kk
      refine lv_iand hexec hb hd ?_
      have e1 : nI n = nI a &&& nI d := by
        rw [← Option.some.inj hf, mv_nI_m]
        apply Int32.toBitVec_inj.mp
        show (Int32.ofNat (a &&& d)).toBitVec = (Int32.ofNat a).toBitVec &&& (Int32.ofNat d).toBitVec
        rw [Int32.toBitVec_ofNat', Int32.toBitVec_ofNat', Int32.toBitVec_ofNat', BitVec.ofNat_and]
      rw [← e1]
      exact k H locs ls hH hS hl hn
  · cases h1
theorem mv_ushi (hexec : p.tables.exec = Jvm.exec) (hb : c.code = cc) (hg : mv_in g r) (hd : decode cc pc = .ok (.iushr, 1)) (h1 : mv_bi g loc st h nc ns (fun a c => some (mv_co (((nI a).toUInt32 >>> ((nI c).toUInt32 &&& Int32.toUInt32 31)).toInt32))) = some (.inr x))
    (kk : mv_Wx p l e R s m args below meth c Q D cs r ba b nL x (pc + 1)) : mv_W p l e R s m args below meth c Q D cs r ba b nL loc st h nc ns pc := by
  refine mv_bi_ok hg h1 (fun a d n s2 hf k H locs ls hH hS hl hn => ?_) kk
  refine lv_iushr (v := nI n) hexec hb hd (by rw [← Option.some.inj hf, mv_nI_co]) ?_
  exact k H locs ls hH hS hl hn
theorem mv_ush_ok (hexec : p.tables.exec = Jvm.exec) (hb : c.code = cc) (hg : mv_in g r) (hd : decode cc pc = .ok (.iushr, 1)) (h1 : mv_ush g loc st h nc ns = some (.inr x))
    (kk : mv_Wx p l e R s m args below meth c Q D cs r ba b nL x (pc + 1)) : mv_W p l e R s m args below meth c Q D cs r ba b nL loc st h nc ns pc := by
  unfold mv_ush at h1
  split at h1
  · rename_i y z s2
    rcases mv_cnd h1 with ⟨h2, h3⟩ | ⟨-, h3⟩
    · simp only [Bool.and_eq_true] at h2
      rcases mv_cnd h3 with ⟨-, h4⟩ | ⟨-, h4⟩
      · rcases mv_cnd h4 with ⟨-, h5⟩ | ⟨-, h5⟩
        · obtain ⟨z1, z2⟩ := z
          obtain ⟨y1, y2⟩ := y
          obtain ⟨e1, e2, e3, e4⟩ := h2
          have f1 : y1 = 0 := mv_beq e1
          have f2 : z1 = 5 := mv_beq e2
          have f4 : z2 < 16 := mv_blt e4
          subst f1; subst f2
          have k2 := mv_go_ok h5 kk
          intro H locs ls hH hS hl hn
          refine lv_iushr (v := mv_ii r (6, z2 + 16 * y2)) hexec hb hd ?_ (k2 H locs ls hH hS hl hn)
          show _ = ((r ((z2 + 16 * y2) % 16)).toUInt32 >>> ((nI ((z2 + 16 * y2) / 16)).toUInt32 &&& Int32.toUInt32 31)).toInt32
          rw [show (z2 + 16 * y2) % 16 = z2 by omega, show (z2 + 16 * y2) / 16 = y2 by omega]
          rfl
        · rcases mv_cnd h5 with ⟨-, h6⟩ | ⟨-, h6⟩
          · exact mv_ushi hexec hb hg hd h6 kk
          · cases h6
      · cases h4
    · exact mv_ushi hexec hb hg hd h3 kk
  · cases h1
theorem mv_iald_ok (hexec : p.tables.exec = Jvm.exec) (hb : c.code = cc) (hg : mv_in g r) (hK : va_K D vwCl (mv_tys cs) s) (hsc : mv_sc r ba b s) (hd : decode cc pc = .ok (.iaload, 1)) (h1 : mv_iald g loc st h nc ns = some (.inr x))
    (kk : mv_Wx p l e R s m args below meth c Q D cs r ba b nL x (pc + 1)) : mv_W p l e R s m args below meth c Q D cs r ba b nL loc st h nc ns pc := by
  unfold mv_iald at h1
  split at h1
  · rename_i y z s2
    rcases mv_cnd h1 with ⟨h2, h3⟩ | ⟨-, h3⟩
    · split at h3
      · rename_i a ha
        obtain ⟨h4, h5⟩ := mv_cndn h3
        simp only [Bool.and_eq_true] at h4
        have e1 := mv_blt h4.1
        have e2 := mv_ble h4.2.1
        have e3 := mv_blt h4.2.2
        have k2 := mv_go_ok h5 kk
        obtain ⟨i1, i2⟩ := mv_cI_ok hg ha
        obtain ⟨L, xs, hX, hbl, hbA, hr, hrL, hL⟩ := hsc
        have h10 := hg 10
        rw [hrL, mv_cd_nI] at h10
        have e4 : a < L := by omega
        intro H locs ls hH hS hl hn
        show W p l e R s m args below meth c H locs nc ns Q (F0 m pc ls (mv_val r ba b y :: mv_val r ba b z :: s2.map (mv_val r ba b)))
        rw [mv_val_I i1, i2, mv_val_S h2]
        refine va_sld hexec hb hX hbl (Nat.not_le.mpr hbA) hS (vp_in_nI e4 (by omega)) hd ?_
        rw [nI_clamp (by omega), ← hr a e1 e4]
        exact k2 H locs ls hH hS hl hn
      · cases h3
      · cases h3
    · exact mv_aldi_ok hexec hb hg hK hd h3 kk
  · cases h1
theorem mv_alen_ok (hexec : p.tables.exec = Jvm.exec) (hb : c.code = cc) (hK : va_K D vwCl (mv_tys cs) s) (hsc : mv_sc r ba b s) (hd : decode cc pc = .ok (.arraylength, 1)) (h1 : mv_alen loc st h nc ns = some (.inr x))
    (kk : mv_Wx p l e R s m args below meth c Q D cs r ba b nL x (pc + 1)) : mv_W p l e R s m args below meth c Q D cs r ba b nL loc st h nc ns pc := by
  unfold mv_alen at h1
  split at h1
  · rename_i z s2
    rcases mv_cnd h1 with ⟨h2, h3⟩ | ⟨-, h3⟩
    · have k2 := mv_go_ok h3 kk
      obtain ⟨L, xs, hX, hbl, hbA, hr, hrL, hL⟩ := hsc
      intro H locs ls hH hS hl hn
      show W p l e R s m args below meth c H locs nc ns Q (F0 m pc ls (mv_val r ba b z :: s2.map (mv_val r ba b)))
      rw [mv_val_S h2]
      refine va_slen hexec hb hX hbl (Nat.not_le.mpr hbA) hS hd ?_
      have k3 : W p l e R s m args below meth c H locs nc ns Q (F0 m (pc + 1) ls (.int (r 10) :: s2.map (mv_val r ba b))) := k2 H locs ls hH hS hl hn
      rw [hrL] at k3
      exact k3
    · exact mv_len_ok hexec hb hK hd h3 kk
  · cases h1
theorem mv_tgt {o : Int} (h : decide (0 ≤ (pc : Int) + o) = true) : (pc : Int) + o = ((((pc : Int) + o).toNat : Nat) : Int) := (Int.toNat_of_nonneg (of_decide_eq_true h)).symm
theorem mv_tsw_ok (hexec : p.tables.exec = Jvm.exec) (hb : c.code = cc) (hg : mv_in g r) {d lo hi : Int} {offs : Array Int} {len : Nat} (hd : decode cc pc = .ok (.tableswitch d lo hi offs, len)) (h1 : mv_tsw g loc st h nc ns pc d lo hi offs = some (.inr x))
    (kk : mv_Wx p l e R s m args below meth c Q D cs r ba b nL x pc2) : mv_W p l e R s m args below meth c Q D cs r ba b nL loc st h nc ns pc := by
  unfold mv_tsw at h1
  split at h1
  · rename_i z s2
    split at h1
    · rename_i a ha
      obtain ⟨i1, i2⟩ := mv_cI_ok hg ha
      rcases mv_cnd h1 with ⟨h2, h3⟩ | ⟨h2, h3⟩
      · obtain ⟨h4, h5⟩ := mv_cndn h3
        rw [mv_fo_eq] at h5
        rw [← mv_inr h5] at kk
        intro H locs ls hH hS hl hn
        show W p l e R s m args below meth c H locs nc ns Q (F0 m pc ls (mv_val r ba b z :: s2.map (mv_val r ba b)))
        rw [mv_val_I i1, i2]
        simp only [Bool.or_eq_true, decide_eq_true_eq] at h2
        exact lv_tableOut hexec hb hd h2 (mv_tgt h4) (kk H locs ls hH hS hl hn)
      · split at h3
        · rename_i o ho
          obtain ⟨h4, h5⟩ := mv_cndn h3
          rw [mv_fo_eq] at h5
          rw [← mv_inr h5] at kk
          intro H locs ls hH hS hl hn
          show W p l e R s m args below meth c H locs nc ns Q (F0 m pc ls (mv_val r ba b z :: s2.map (mv_val r ba b)))
          rw [mv_val_I i1, i2]
          simp only [Bool.or_eq_false_iff, decide_eq_false_iff_not] at h2
          exact lv_tableIn hexec hb hd h2.1 h2.2 ho (mv_tgt h4) (kk H locs ls hH hS hl hn)
        · cases h3
    · cases h1
    · cases h1
  · cases h1
theorem mv_lsw_ok (hexec : p.tables.exec = Jvm.exec) (hb : c.code = cc) (hg : mv_in g r) {d : Int} {ps : Array (Int × Int)} {len : Nat} (hd : decode cc pc = .ok (.lookupswitch d ps, len)) (h1 : mv_lsw g loc st h nc ns pc d ps = some (.inr x))
    (kk : mv_Wx p l e R s m args below meth c Q D cs r ba b nL x pc2) : mv_W p l e R s m args below meth c Q D cs r ba b nL loc st h nc ns pc := by
  unfold mv_lsw at h1
  split at h1
  · rename_i z s2
    split at h1
    · rename_i a ha
      obtain ⟨i1, i2⟩ := mv_cI_ok hg ha
      obtain ⟨h4, h5⟩ := mv_cndn h1
      simp only [Bool.and_eq_true] at h4
      rw [mv_fo_eq] at h5
      rw [← mv_inr h5] at kk
      intro H locs ls hH hS hl hn
      show W p l e R s m args below meth c H locs nc ns Q (F0 m pc ls (mv_val r ba b z :: s2.map (mv_val r ba b)))
      rw [mv_val_I i1, i2]
      exact lv_lookup hexec hb hd h4.1 rfl (mv_tgt h4.2) (kk H locs ls hH hS hl hn)
    · cases h1
    · cases h1
  · cases h1
/-- what a table's row owes, but its place in the code -/
def mv_okB (cand : List Cond) (own name : String) (pc : Nat) (i : Instr) (len a b : Nat) : Bool := match i with
  | .iconst n => Nat.beq len 1 && decide (Int32.ofInt n = nI a)
  | .bipush n => Nat.beq len 2 && decide ((Int8.ofInt n).toInt32 = nI a)
  | .sipush n => Nat.beq len 3 && decide ((Int16.ofInt n).toInt32 = nI a)
  | .ldc k => Nat.beq len 2 && decide (Cond.constant own k (nI a) ∈ cand)
  | .ldc_w k => Nat.beq len 3 && decide (Cond.constant own k (nI a) ∈ cand)
  | .lconst n => Nat.beq len 1 && decide (Int64.ofNat (n : Nat) = lN a)
  | .ldc2_w k => Nat.beq len 3 && decide (Cond.constantLong own k (lN a) ∈ cand)
  | .dconst n => Nat.beq len 1 && (decide (n = 0) && decide (FP.dconst0 = UInt64.ofNat a))
  | .iload_n k => Nat.beq len 1 && Nat.beq k a
  | .iload k => Nat.beq len 2 && Nat.beq k a
  | .lload_n k => Nat.beq len 1 && Nat.beq k a
  | .lload k => Nat.beq len 2 && Nat.beq k a
  | .dload_n k => Nat.beq len 1 && Nat.beq k a
  | .dload k => Nat.beq len 2 && Nat.beq k a
  | .aload_n k => Nat.beq len 1 && Nat.beq k a
  | .aload k => Nat.beq len 2 && Nat.beq k a
  | .istore_n k => Nat.beq len 1 && Nat.beq k a
  | .istore k => Nat.beq len 2 && Nat.beq k a
  | .astore_n k => Nat.beq len 1 && Nat.beq k a
  | .astore k => Nat.beq len 2 && Nat.beq k a
  | .lstore_n k => Nat.beq len 1 && Nat.beq k a
  | .lstore k => Nat.beq len 2 && Nat.beq k a
  | .dstore_n k => Nat.beq len 1 && Nat.beq k a
  | .dstore k => Nat.beq len 2 && Nat.beq k a
  | .iinc k n => Nat.beq len 3 && (Nat.beq k a && decide (Int32.ofInt n = nI b))
  | .ifCond _ off => Nat.beq len 3 && decide ((pc : Int) + off = (a : Int))
  | .if_icmp _ off => Nat.beq len 3 && decide ((pc : Int) + off = (a : Int))
  | .goto off => Nat.beq len 3 && decide ((pc : Int) + off = (a : Int))
  | .tableswitch _ _ _ _ => true
  | .lookupswitch _ _ => true
  | .getfield k => Nat.beq len 3 && match vwCl[a]? with
    | some q => Nat.blt b q.2.2 && decide (Cond.fieldLink own k (q.2.1 b).1 (q.2.1 b).2.1 (q.2.1 b).2.2.1 ∈ cand)
    | none => false
  | .putfield k => Nat.beq len 3 && match vwCl[a]? with
    | some q => Nat.blt (b / 4) q.2.2 && (decide (Cond.fieldLink own k (q.2.1 (b / 4)).1 (q.2.1 (b / 4)).2.1 (q.2.1 (b / 4)).2.2.1 ∈ cand) && (match parseFieldDescriptor (q.2.1 (b / 4)).2.2.1 with
      | some ty => mv_ft (b % 4) ty
      | none => false) && (!(q.2.1 (b / 4)).2.2.2 || (decide (name = "<init>") && decide ((q.2.1 (b / 4)).1 = own))))
    | none => false
  | .newarray t => Nat.beq len 2 && (match t with
    | .int => Nat.beq a 0
    | .long => Nat.beq a 1
    | .boolean => Nat.beq a 2
    | _ => false) && decide (Cond.arrayClass (newarray.typeOf t) ∈ cand)
  | .new k => Nat.beq len 3 && match vwCl[a]? with
    | some q => decide (Cond.classLink own k q.1 ∈ cand) && (decide (Cond.instantiable q.1 q.2.2 ∈ cand) && decide (Cond.initialized q.1 ∈ cand))
    | none => false
  | _ => Nat.beq len 1
theorem mv_dd_ok (hexec : p.tables.exec = Jvm.exec) (hb : c.code = cc) (hd : decode cc pc = .ok (.ddiv, 1)) (h1 : mv_dd loc st h nc ns = some (.inr x))
    (kk : mv_Wx p l e R s m args below meth c Q D cs r ba b nL x (pc + 1)) : mv_W p l e R s m args below meth c Q D cs r ba b nL loc st h nc ns pc := by
  unfold mv_dd at h1
  split at h1
  · rename_i y z s2
    obtain ⟨h2, h3⟩ := mv_cndn h1
    simp only [Bool.and_eq_true] at h2
    rw [mv_fo_eq] at h3
    have k2 := mv_go_ok h3 kk
    intro H locs ls hH hS hl hn
    show W p l e R s m args below meth c H locs nc ns Q (F0 m pc ls (mv_val r ba b y :: mv_val r ba b z :: s2.map (mv_val r ba b)))
    rw [mv_val_D h2.1, mv_val_D h2.2.1]
    refine lv_ddiv hexec hb hd (show _ ≤ _ from of_decide_eq_true h2.2.2) ?_
    have k3 : W p l e R s m args below meth c H locs nc ns Q (F0 m (pc + 1) ls (.double (UInt64.ofNat (FP.ddiv (UInt64.ofNat z.2) (UInt64.ofNat y.2)).toNat) :: s2.map (mv_val r ba b))) := k2 H locs ls hH hS hl hn
    rw [mv_u64] at k3
    exact k3
  · cases h1
theorem mv_a2 {q w : Bool} (h : (q && w) = true) : q = true ∧ w = true := by simpa using h
set_option maxHeartbeats 4000000 in
/-- every step -/
theorem mv_s1_ok {cand : List Cond} {own : String} {i : Instr} {len a k : Nat} (hexec : p.tables.exec = Jvm.exec) (hb : c.code = cc) (hts : ∀ w ∈ mv_big, w.before args s = true) (hown : s.vm.findClass own = some m.cls) (hK : va_K D vwCl (mv_tys cs) s) (hsc : mv_sc r ba b s) (h8 : r 8 = r 0 &&& nI 31) (hg : mv_in g r) (hcand : ∀ w ∈ cand, w ∈ mv_big)
    (hd : decode cc pc = .ok (i, len)) (hk : mv_okB cand own meth.name pc i len a k = true) (h1 : mv_s1 g loc st h nc ns mv_dv nL i pc a k = some (.inr x)) (hR1 : x.2.2.2.2.1 ≤ R.cells) (hR2 : x.2.2.2.2.2 ≤ R.slots)
    (kk : mv_Wx p l e R s m args below meth c Q D cs r ba b nL x (pc + len)) : mv_W p l e R s m args below meth c Q D cs r ba b nL loc st h nc ns pc := by
  cases i with
  | iconst n =>
    obtain ⟨e1, e2⟩ := mv_a2 hk
    cases mv_beq e1
    have k2 := mv_go_ok h1 kk
    intro H locs ls hH hS hl hn
    exact lv_iconst hexec hb hd (of_decide_eq_true e2) (k2 H locs ls hH hS hl hn)
  | bipush n =>
    obtain ⟨e1, e2⟩ := mv_a2 hk
    cases mv_beq e1
    have k2 := mv_go_ok h1 kk
    intro H locs ls hH hS hl hn
    exact lv_bipush hexec hb hd (of_decide_eq_true e2) (k2 H locs ls hH hS hl hn)
  | sipush n =>
    obtain ⟨e1, e2⟩ := mv_a2 hk
    cases mv_beq e1
    have k2 := mv_go_ok h1 kk
    intro H locs ls hH hS hl hn
    exact lv_sipush hexec hb hd (of_decide_eq_true e2) (k2 H locs ls hH hS hl hn)
  | ldc n =>
    obtain ⟨e1, e2⟩ := mv_a2 hk
    cases mv_beq e1
    have k2 := mv_go_ok h1 kk
    intro H locs ls hH hS hl hn
    exact lv_ldc hexec hb hown (hts _ (hcand _ (of_decide_eq_true e2))) hd (k2 H locs ls hH hS hl hn)
  | ldc_w n =>
    obtain ⟨e1, e2⟩ := mv_a2 hk
    cases mv_beq e1
    have k2 := mv_go_ok h1 kk
    intro H locs ls hH hS hl hn
    exact lv_ldcw hexec hb hown (hts _ (hcand _ (of_decide_eq_true e2))) hd (k2 H locs ls hH hS hl hn)
  | lconst n =>
    obtain ⟨e1, e2⟩ := mv_a2 hk
    cases mv_beq e1
    have k2 := mv_go_ok h1 kk
    intro H locs ls hH hS hl hn
    exact lv_lconst hexec hb hd (of_decide_eq_true e2) (k2 H locs ls hH hS hl hn)
  | ldc2_w n =>
    obtain ⟨e1, e2⟩ := mv_a2 hk
    cases mv_beq e1
    have k2 := mv_go_ok h1 kk
    intro H locs ls hH hS hl hn
    exact lv_ldc2 hexec hb hown (hts _ (hcand _ (of_decide_eq_true e2))) hd (k2 H locs ls hH hS hl hn)
  | dconst n =>
    obtain ⟨e1, e2⟩ := mv_a2 hk
    obtain ⟨e2, e3⟩ := mv_a2 e2
    cases mv_beq e1
    have e2 : n = 0 := of_decide_eq_true e2
    subst e2
    have k2 := mv_go_ok h1 kk
    intro H locs ls hH hS hl hn
    refine lv_dconst0 hexec hb hd ?_
    have k3 : W p l e R s m args below meth c H locs nc ns Q (F0 m (pc + 1) ls (.double (UInt64.ofNat a) :: st.map (mv_val r ba b))) := k2 H locs ls hH hS hl hn
    rw [← (of_decide_eq_true e3 : FP.dconst0 = UInt64.ofNat a)] at k3
    exact k3
  | iload_n n =>
    obtain ⟨e1, e2⟩ := mv_a2 hk
    cases mv_beq e1
    exact mv_ld_ok h1 (fun v H locs ls hf hl k => by rw [mv_val_I hf] at hl k; exact lv_iload_n hexec hb hd (mv_beq e2) hl k) kk
  | iload n =>
    obtain ⟨e1, e2⟩ := mv_a2 hk
    cases mv_beq e1
    cases mv_beq e2
    exact mv_ld_ok h1 (fun v H locs ls hf hl k => by rw [mv_val_I hf] at hl k; exact lv_iload hexec hb hd hl k) kk
  | lload_n n =>
    obtain ⟨e1, e2⟩ := mv_a2 hk
    cases mv_beq e1
    exact mv_ld_ok h1 (fun v H locs ls hf hl k => by rw [mv_val_J hf] at hl k; exact lv_lload_n hexec hb hd (mv_beq e2) hl k) kk
  | lload n =>
    obtain ⟨e1, e2⟩ := mv_a2 hk
    cases mv_beq e1
    cases mv_beq e2
    exact mv_ld_ok h1 (fun v H locs ls hf hl k => by rw [mv_val_J hf] at hl k; exact lv_lload hexec hb hd hl k) kk
  | dload_n n =>
    obtain ⟨e1, e2⟩ := mv_a2 hk
    cases mv_beq e1
    exact mv_ld_ok h1 (fun v H locs ls hf hl k => by rw [mv_val_D hf] at hl k; exact lv_dload_n hexec hb hd (mv_beq e2) hl k) kk
  | dload n =>
    obtain ⟨e1, e2⟩ := mv_a2 hk
    cases mv_beq e1
    cases mv_beq e2
    exact mv_ld_ok h1 (fun v H locs ls hf hl k => by rw [mv_val_D hf] at hl k; exact lv_dload hexec hb hd hl k) kk
  | aload_n n =>
    obtain ⟨e1, e2⟩ := mv_a2 hk
    cases mv_beq e1
    exact mv_ld_ok h1 (fun v H locs ls hf hl k => by obtain ⟨y, hy⟩ := mv_val_A (r := r) (ba := ba) (b := b) hf; rw [hy] at hl k; exact lv_aload_n hexec hb hd (mv_beq e2) hl k) kk
  | aload n =>
    obtain ⟨e1, e2⟩ := mv_a2 hk
    cases mv_beq e1
    cases mv_beq e2
    exact mv_ld_ok h1 (fun v H locs ls hf hl k => by obtain ⟨y, hy⟩ := mv_val_A (r := r) (ba := ba) (b := b) hf; rw [hy] at hl k; exact lv_aload hexec hb hd hl k) kk
  | istore_n n =>
    obtain ⟨e1, e2⟩ := mv_a2 hk
    cases mv_beq e1
    exact mv_sto_ok h1 (fun v s2 H locs ls hf hi hl k => by rw [mv_val_I hf]; exact lv_istore_n hexec hb hd (mv_beq e2) hl hi (by rw [mv_flt1, ← mv_val_I hf]; rfl) k) kk
  | istore n =>
    obtain ⟨e1, e2⟩ := mv_a2 hk
    cases mv_beq e1
    cases mv_beq e2
    exact mv_sto_ok h1 (fun v s2 H locs ls hf hi hl k => by rw [mv_val_I hf]; exact lv_istore hexec hb hd hl hi (by rw [mv_flt1, ← mv_val_I hf]; rfl) k) kk
  | astore_n n =>
    obtain ⟨e1, e2⟩ := mv_a2 hk
    cases mv_beq e1
    exact mv_sto_ok h1 (fun v s2 H locs ls hf hi hl k => by obtain ⟨y, hy⟩ := mv_val_A (r := r) (ba := ba) (b := b) hf; rw [hy]; exact lv_astore_n hexec hb hd (mv_beq e2) hl hi (by rw [mv_flt1, ← hy]; rfl) k) kk
  | astore n =>
    obtain ⟨e1, e2⟩ := mv_a2 hk
    cases mv_beq e1
    cases mv_beq e2
    exact mv_sto_ok h1 (fun v s2 H locs ls hf hi hl k => by obtain ⟨y, hy⟩ := mv_val_A (r := r) (ba := ba) (b := b) hf; rw [hy]; exact lv_astore hexec hb hd hl hi (by rw [mv_flt1, ← hy]; rfl) k) kk
  | lstore_n n =>
    obtain ⟨e1, e2⟩ := mv_a2 hk
    cases mv_beq e1
    exact mv_sto2_ok h1 (fun v s2 H locs ls hf hi hl k => by rw [mv_val_J hf]; exact lv_lstore_n hexec hb hd (mv_beq e2) hl hi (by rw [mv_flt2, ← mv_val_J hf]; rfl) k) kk
  | lstore n =>
    obtain ⟨e1, e2⟩ := mv_a2 hk
    cases mv_beq e1
    cases mv_beq e2
    exact mv_sto2_ok h1 (fun v s2 H locs ls hf hi hl k => by rw [mv_val_J hf]; exact lv_lstore hexec hb hd hl hi (by rw [mv_flt2, ← mv_val_J hf]; rfl) k) kk
  | dstore_n n =>
    obtain ⟨e1, e2⟩ := mv_a2 hk
    cases mv_beq e1
    exact mv_sto2_ok h1 (fun v s2 H locs ls hf hi hl k => by rw [mv_val_D hf]; exact lv_dstore_n hexec hb hd (mv_beq e2) hl hi (by rw [mv_flt2, ← mv_val_D hf]; rfl) k) kk
  | dstore n =>
    obtain ⟨e1, e2⟩ := mv_a2 hk
    cases mv_beq e1
    cases mv_beq e2
    exact mv_sto2_ok h1 (fun v s2 H locs ls hf hi hl k => by rw [mv_val_D hf]; exact lv_dstore hexec hb hd hl hi (by rw [mv_flt2, ← mv_val_D hf]; rfl) k) kk
  | iinc n z =>
    obtain ⟨e1, e2⟩ := mv_a2 hk
    obtain ⟨e2, e3⟩ := mv_a2 e2
    cases mv_beq e1
    cases mv_beq e2
    exact mv_inc_ok hexec hb hg hd (of_decide_eq_true e3) h1 kk
  | ifCond o off =>
    obtain ⟨e1, e2⟩ := mv_a2 hk
    cases mv_beq e1
    exact mv_if_ok hexec hb hg hd (of_decide_eq_true e2) h1 kk
  | if_icmp o off =>
    obtain ⟨e1, e2⟩ := mv_a2 hk
    cases mv_beq e1
    exact mv_ic_ok hexec hb hg hd (of_decide_eq_true e2) h1 kk
  | goto off =>
    obtain ⟨e1, e2⟩ := mv_a2 hk
    cases mv_beq e1
    rw [← mv_inr h1] at kk
    intro H locs ls hH hS hl hn
    exact lv_goto hexec hb hd (of_decide_eq_true e2) (kk H locs ls hH hS hl hn)
  | tableswitch d lo hi offs => exact mv_tsw_ok hexec hb hg hd h1 kk
  | lookupswitch d ps => exact mv_lsw_ok hexec hb hg hd h1 kk
  | getfield n =>
    obtain ⟨e1, e2⟩ := mv_a2 hk
    cases mv_beq e1
    split at e2
    · rename_i q hq
      obtain ⟨e2, e3⟩ := mv_a2 e2
      obtain ⟨C, T, N⟩ := q
      exact mv_gf_ok hexec hb hts hown hK hq (mv_blt e2) (hcand _ (of_decide_eq_true e3)) hd h1 kk
    · cases e2
  | putfield n =>
    obtain ⟨e1, e2⟩ := mv_a2 hk
    cases mv_beq e1
    split at e2
    · rename_i q hq
      obtain ⟨e2, e3⟩ := mv_a2 e2
      obtain ⟨e3, e5⟩ := mv_a2 e3
      obtain ⟨e3, e4⟩ := mv_a2 e3
      obtain ⟨C, T, N⟩ := q
      split at e4
      · rename_i ty hty
        refine mv_pf_ok hexec hb hts hown hK hq (mv_blt e2) (hcand _ (of_decide_eq_true e3)) hd ?_ hty e4 h1 kk
        simp only [Bool.or_eq_true, Bool.and_eq_true, Bool.not_eq_true', decide_eq_true_eq] at e5
        rcases e5 with e5 | ⟨e5, e6⟩
        · exact Or.inl e5
        · cases e7 : (T (k / 4)).2.2.2
          · exact Or.inl rfl
          · exact Or.inr ⟨rfl, e5, e6⟩
      · cases e4
    · cases e2
  | newarray t =>
    obtain ⟨e1, e2⟩ := mv_a2 hk
    obtain ⟨e1, e3⟩ := mv_a2 e1
    cases mv_beq e1
    refine mv_na_ok hexec hb hg hts hK (hcand _ (of_decide_eq_true e2)) ?_ hd h1 hR1 hR2 kk
    cases t with
    | int => exact Or.inl ⟨rfl, mv_beq e3⟩
    | long => exact Or.inr (Or.inl ⟨rfl, mv_beq e3⟩)
    | boolean => exact Or.inr (Or.inr ⟨rfl, mv_beq e3⟩)
    | _ => cases e3
  | new n =>
    obtain ⟨e1, e2⟩ := mv_a2 hk
    cases mv_beq e1
    split at e2
    · rename_i q hq
      obtain ⟨e2, e3⟩ := mv_a2 e2
      obtain ⟨e3, e4⟩ := mv_a2 e3
      obtain ⟨C, T, N⟩ := q
      exact mv_nw_ok hexec hb hts hown hK hq (hcand _ (of_decide_eq_true e2)) (hcand _ (of_decide_eq_true e3)) (hcand _ (of_decide_eq_true e4)) hd h1 hR1 hR2 kk
    · cases e2
  | iadd =>
    cases mv_beq hk
    refine mv_bi_ok (f := fun x y => some ((x + y) % 4294967296)) hg h1 (fun a d n s2 hf k H locs ls hH hS hl hn => ?_) kk
    refine lv_iadd hexec hb hd ?_
    have e1 : nI n = nI a + nI d := by rw [← Option.some.inj hf, mv_nI_m, nI_add]
    rw [← e1]
    exact k H locs ls hH hS hl hn
  | isub =>
    cases mv_beq hk
    refine mv_bi_ok (f := fun x y => some ((x + (4294967296 - y % 4294967296)) % 4294967296)) hg h1 (fun a d n s2 hf k H locs ls hH hS hl hn => ?_) kk
    refine lv_isub hexec hb hd ?_
    have e1 : nI n = nI a - nI d := by
      rw [← Option.some.inj hf, mv_nI_m]
      have e2 : nI d + nI (a + (4294967296 - d % 4294967296)) = nI a := by
        rw [nI_add]
        exact mv_nI_mod (by omega)
      rw [← e2, Int32.add_comm, Int32.add_sub_cancel]
    rw [← e1]
    exact k H locs ls hH hS hl hn
  | imul =>
    cases mv_beq hk
    refine mv_bi_ok (f := fun x y => some (x * y % 4294967296)) hg h1 (fun a d n s2 hf k H locs ls hH hS hl hn => ?_) kk
    refine lv_imul hexec hb hd ?_
    have e1 : nI n = nI a * nI d := by
      rw [← Option.some.inj hf, mv_nI_m]
      exact Int32.ofNat_mul a d
    rw [← e1]
    exact k H locs ls hH hS hl hn
  | iand =>
    cases mv_beq hk
    exact mv_and_ok hexec hb hg h8 hd h1 kk
  | ior =>
    cases mv_beq hk
    refine mv_bi_ok (f := fun x y => some (Nat.lor x y % 4294967296)) hg h1 (fun a d n s2 hf k H locs ls hH hS hl hn => ?_) kk
    refine lv_ior hexec hb hd ?_
    have e1 : nI n = nI a ||| nI d := by
      rw [← Option.some.inj hf, mv_nI_m]
      apply Int32.toBitVec_inj.mp
      show (Int32.ofNat (a ||| d)).toBitVec = (Int32.ofNat a).toBitVec ||| (Int32.ofNat d).toBitVec
      rw [Int32.toBitVec_ofNat', Int32.toBitVec_ofNat', Int32.toBitVec_ofNat', BitVec.ofNat_or]
    rw [← e1]
    exact k H locs ls hH hS hl hn
  | ixor =>
    cases mv_beq hk
    refine mv_bi_ok (f := fun x y => some (Nat.xor x y % 4294967296)) hg h1 (fun a d n s2 hf k H locs ls hH hS hl hn => ?_) kk
    refine lv_ixor hexec hb hd ?_
    have e1 : nI n = nI a ^^^ nI d := by
      rw [← Option.some.inj hf, mv_nI_m]
      apply Int32.toBitVec_inj.mp
      show (Int32.ofNat (a ^^^ d)).toBitVec = (Int32.ofNat a).toBitVec ^^^ (Int32.ofNat d).toBitVec
      rw [Int32.toBitVec_ofNat', Int32.toBitVec_ofNat', Int32.toBitVec_ofNat', BitVec.ofNat_xor]
    rw [← e1]
    exact k H locs ls hH hS hl hn
  | idiv =>
    cases mv_beq hk
    refine mv_bi_ok (f := fun x y => bif decide (nI y = 0) then none else some (mv_co (nI x / nI y))) hg h1 (fun a d n s2 hf k H locs ls hH hS hl hn => ?_) kk
    obtain ⟨hz, hf⟩ := mv_cnn hf
    refine lv_idiv hexec hb hd (of_decide_eq_false hz) ?_
    have e1 : nI n = nI a / nI d := by rw [← Option.some.inj hf, mv_nI_co]
    rw [← e1]
    exact k H locs ls hH hS hl hn
  | irem =>
    cases mv_beq hk
    refine mv_bi_ok (f := fun x y => bif decide (nI y = 0) then none else some (mv_co (nI x - (nI x / nI y) * nI y))) hg h1 (fun a d n s2 hf k H locs ls hH hS hl hn => ?_) kk
    obtain ⟨hz, hf⟩ := mv_cnn hf
    refine lv_irem hexec hb hd (of_decide_eq_false hz) ?_
    have e1 : nI n = nI a - nI a / nI d * nI d := by rw [← Option.some.inj hf, mv_nI_co]
    rw [← e1]
    exact k H locs ls hH hS hl hn
  | ishl =>
    cases mv_beq hk
    refine mv_bi_ok (f := fun x y => some (mv_co (nI x <<< (nI y &&& 31)))) hg h1 (fun a d n s2 hf k H locs ls hH hS hl hn => ?_) kk
    refine lv_ishl hexec hb hd ?_
    have e1 : nI n = nI a <<< (nI d &&& 31) := by rw [← Option.some.inj hf, mv_nI_co]
    rw [← e1]
    exact k H locs ls hH hS hl hn
  | ishr =>
    cases mv_beq hk
    refine mv_bi_ok (f := fun x y => some (mv_co (nI x >>> (nI y &&& 31)))) hg h1 (fun a d n s2 hf k H locs ls hH hS hl hn => ?_) kk
    refine lv_ishr hexec hb hd ?_
    have e1 : nI n = nI a >>> (nI d &&& 31) := by rw [← Option.some.inj hf, mv_nI_co]
    rw [← e1]
    exact k H locs ls hH hS hl hn
  | iushr =>
    cases mv_beq hk
    exact mv_ush_ok hexec hb hg hd h1 kk
  | i2l =>
    cases mv_beq hk
    refine mv_un_ok (f := fun x => (3, mv_cl (nI x).toInt64)) hg h1 (fun a s2 H locs ls k => ?_) kk
    exact lv_i2l (v := lN (mv_cl (nI a).toInt64)) hexec hb hd (mv_lN_cl _).symm k
  | i2d =>
    cases mv_beq hk
    refine mv_un_ok (f := fun x => (4, (FP.i2d (nI x)).toNat)) hg h1 (fun a s2 H locs ls k => ?_) kk
    refine lv_i2d hexec hb hd ?_
    have k3 : W p l e R s m args below meth c H locs nc ns Q (F0 m (pc + 1) ls (.double (UInt64.ofNat (FP.i2d (nI a)).toNat) :: s2.map (mv_val r ba b))) := k
    rw [mv_u64] at k3
    exact k3
  | ladd =>
    cases mv_beq hk
    refine mv_bl_ok (f := fun x y => (3, mv_cl (lN x + lN y))) h1 (fun a d s2 H locs ls k => ?_) kk
    refine lv_ladd hexec hb hd ?_
    have k3 : W p l e R s m args below meth c H locs nc ns Q (F0 m (pc + 1) ls (.long (lN (mv_cl (lN a + lN d))) :: s2.map (mv_val r ba b))) := k
    rw [mv_lN_cl] at k3
    exact k3
  | lmul =>
    cases mv_beq hk
    refine mv_bl_ok (f := fun x y => (3, mv_cl (lN x * lN y))) h1 (fun a d s2 H locs ls k => ?_) kk
    refine lv_lmul hexec hb hd ?_
    have k3 : W p l e R s m args below meth c H locs nc ns Q (F0 m (pc + 1) ls (.long (lN (mv_cl (lN a * lN d))) :: s2.map (mv_val r ba b))) := k
    rw [mv_lN_cl] at k3
    exact k3
  | lcmp =>
    cases mv_beq hk
    refine mv_bl_ok (f := fun x y => (0, mv_co (lg_cmp (lN x) (lN y)))) h1 (fun a d s2 H locs ls k => ?_) kk
    refine W.lcmp hexec hb hd ?_
    have k3 : W p l e R s m args below meth c H locs nc ns Q (F0 m (pc + 1) ls (.int (nI (mv_co (lg_cmp (lN a) (lN d)))) :: s2.map (mv_val r ba b))) := k
    rw [mv_nI_co] at k3
    exact k3
  | ddiv =>
    cases mv_beq hk
    exact mv_dd_ok hexec hb hd h1 kk
  | dcmp o =>
    cases mv_beq hk
    refine mv_b4_ok (f := fun x y => (0, mv_co (Op.cmpValue (FP.dcmp (UInt64.ofNat x) (UInt64.ofNat y)) o))) h1 (fun a d s2 H locs ls k => ?_) kk
    refine lv_dcmp hexec hb hd ?_
    have k3 : W p l e R s m args below meth c H locs nc ns Q (F0 m (pc + 1) ls (.int (nI (mv_co (Op.cmpValue (FP.dcmp (UInt64.ofNat a) (UInt64.ofNat d)) o))) :: s2.map (mv_val r ba b))) := k
    rw [mv_nI_co] at k3
    exact k3
  | dup => cases mv_beq hk; exact mv_dup_ok hexec hb hd h1 kk
  | pop => cases mv_beq hk; exact mv_pop_ok hexec hb hd h1 kk
  | dup_x1 => cases mv_beq hk; exact mv_dupx_ok hexec hb hd h1 kk
  | dup2 => cases mv_beq hk; exact mv_dup2_ok hexec hb hd h1 kk
  | iaload => cases mv_beq hk; exact mv_iald_ok hexec hb hg hK hsc hd h1 kk
  | laload => cases mv_beq hk; exact mv_aldl_ok hexec hb hg hK hd h1 kk
  | baload => cases mv_beq hk; exact mv_aldz_ok hexec hb hg hK hd h1 kk
  | iastore => cases mv_beq hk; exact mv_asti_ok hexec hb hg hK hd h1 kk
  | lastore => cases mv_beq hk; exact mv_astl_ok hexec hb hg hK hd h1 kk
  | bastore => cases mv_beq hk; exact mv_zst_ok hexec hb hg hK hd h1 kk
  | arraylength => cases mv_beq hk; exact mv_alen_ok hexec hb hK hsc hd h1 kk
  | _ => cases h1
end MVX
end
section
/-! ===== what a step makes is counted; an unknown parted ===== -/
section MVY
variable {g : mv_B} {loc : mv_L} {st : List mv_V} {h : List mv_C} {nc ns nL : Nat} {x : Option Nat × mv_L × List mv_V × List mv_C × Nat × Nat}
def mv_mn (h : List mv_C) (nc ns : Nat) (x : Option Nat × mv_L × List mv_V × List mv_C × Nat × Nat) : Prop := nc ≤ x.2.2.2.2.1 ∧ ns ≤ x.2.2.2.2.2 ∧ h.length + x.2.2.2.2.1 = x.2.2.2.1.length + nc
theorem mv_mn_eq {j : Option Nat} {l2 : mv_L} {s2 : List mv_V} (h1 : (some (.inr (j, l2, s2, h, nc, ns)) : mv_S) = some (.inr x)) : mv_mn h nc ns x := by
  rw [← mv_inr h1]
  exact ⟨Nat.le_refl _, Nat.le_refl _, rfl⟩
theorem mv_mn_set {l2 : mv_L} {s2 : List mv_V} {k : Nat} {c : mv_C} (h1 : mv_go l2 (h.set k c) nc ns s2 = some (.inr x)) : mv_mn h nc ns x := by
  rw [← mv_inr h1]
  exact ⟨Nat.le_refl _, Nat.le_refl _, by show h.length + nc = (h.set k c).length + nc; rw [List.length_set]⟩
theorem mv_mn_ld {f : mv_V → Bool} {i : Nat} (h1 : mv_ld loc st h nc ns f i = some (.inr x)) : mv_mn h nc ns x := by
  unfold mv_ld at h1
  split at h1
  · exact mv_mn_eq (mv_cndn h1).2
  · cases h1
theorem mv_mn_sto {f : mv_V → Bool} {i : Nat} (h1 : mv_sto loc st h nc ns f nL i = some (.inr x)) : mv_mn h nc ns x := by
  unfold mv_sto at h1
  split at h1
  · have h2 := (mv_cndn h1).2
    rw [mv_fi_eq] at h2
    exact mv_mn_eq h2
  · cases h1
theorem mv_mn_sto2 {f : mv_V → Bool} {i : Nat} (h1 : mv_sto2 loc st h nc ns f nL i = some (.inr x)) : mv_mn h nc ns x := by
  unfold mv_sto2 at h1
  split at h1
  · have h2 := (mv_cndn h1).2
    rw [mv_fi_eq] at h2
    exact mv_mn_eq h2
  · cases h1
theorem mv_mn_un {f : Nat → mv_V} (h1 : mv_un g loc st h nc ns f = some (.inr x)) : mv_mn h nc ns x := by
  unfold mv_un at h1
  split at h1
  · split at h1
    · rw [mv_fo_eq] at h1; exact mv_mn_eq h1
    · cases h1
    · cases h1
  · cases h1
theorem mv_mn_bi {f : Nat → Nat → Option Nat} (h1 : mv_bi g loc st h nc ns f = some (.inr x)) : mv_mn h nc ns x := by
  unfold mv_bi at h1
  split at h1
  · split at h1
    · split at h1
      · split at h1
        · rw [mv_fo_eq] at h1; exact mv_mn_eq h1
        · cases h1
      · cases h1
      · cases h1
    · cases h1
    · cases h1
  · cases h1
theorem mv_mn_bl {f : Nat → Nat → mv_V} (h1 : mv_bl loc st h nc ns f = some (.inr x)) : mv_mn h nc ns x := by
  unfold mv_bl at h1
  split at h1
  · have h2 := (mv_cndn h1).2
    rw [mv_fo_eq] at h2
    exact mv_mn_eq h2
  · cases h1
theorem mv_mn_b4 {f : Nat → Nat → mv_V} (h1 : mv_b4 loc st h nc ns f = some (.inr x)) : mv_mn h nc ns x := by
  unfold mv_b4 at h1
  split at h1
  · have h2 := (mv_cndn h1).2
    rw [mv_fo_eq] at h2
    exact mv_mn_eq h2
  · cases h1
theorem mv_mn_dd (h1 : mv_dd loc st h nc ns = some (.inr x)) : mv_mn h nc ns x := by
  unfold mv_dd at h1
  split at h1
  · have h2 := (mv_cndn h1).2
    rw [mv_fo_eq] at h2
    exact mv_mn_eq h2
  · cases h1
theorem mv_mn_br {o : ClassFile.Cond} {v w : mv_V} {s2 : List mv_V} {t : Nat} (h1 : mv_br g loc h nc ns o v w s2 t = some (.inr x)) : mv_mn h nc ns x := by
  unfold mv_br at h1
  split at h1
  · exact mv_mn_eq h1
  · exact mv_mn_eq h1
  · cases h1
  · cases h1
theorem mv_mn_ic {o : ClassFile.Cond} {t : Nat} (h1 : mv_ic g loc st h nc ns o t = some (.inr x)) : mv_mn h nc ns x := by
  unfold mv_ic at h1
  split at h1
  · exact mv_mn_br h1
  · cases h1
theorem mv_mn_if {o : ClassFile.Cond} {t : Nat} (h1 : mv_if g loc st h nc ns o t = some (.inr x)) : mv_mn h nc ns x := by
  unfold mv_if at h1
  split at h1
  · exact mv_mn_br h1
  · cases h1
theorem mv_mn_inc {i n : Nat} (h1 : mv_inc g loc st h nc ns nL i n = some (.inr x)) : mv_mn h nc ns x := by
  unfold mv_inc at h1
  split at h1
  · split at h1
    · have h2 := (mv_cndn h1).2
      rw [mv_fo_eq, mv_fi_eq] at h2
      exact mv_mn_eq h2
    · cases h1
    · cases h1
  · cases h1
theorem mv_mn_ar {t : Nat} {y z : mv_V} {k : Nat → List mv_V → Nat → mv_S} (h1 : mv_ar g h t y z k = some (.inr x)) (hk : ∀ q l a, k q l a = some (.inr x) → mv_mn h nc ns x) : mv_mn h nc ns x := by
  unfold mv_ar at h1
  have h2 := (mv_cndn h1).2
  split at h2
  · split at h2
    · exact hk _ _ _ (mv_cndn h2).2
    · cases h2
  · cases h2
  · cases h2
theorem mv_mn_ald {t : Nat} {f : mv_V → Bool} (h1 : mv_ald g loc st h nc ns t f = some (.inr x)) : mv_mn h nc ns x := by
  unfold mv_ald at h1
  split at h1
  · refine mv_mn_ar h1 (fun q l a h2 => ?_)
    split at h2
    · exact mv_mn_eq (mv_cndn h2).2
    · cases h2
  · cases h1
theorem mv_mn_ast {t : Nat} {f : mv_V → Bool} (h1 : mv_ast g loc st h nc ns t f = some (.inr x)) : mv_mn h nc ns x := by
  unfold mv_ast at h1
  split at h1
  · refine mv_mn_ar (mv_cndn h1).2 (fun q l a h2 => ?_)
    rw [mv_ls_eq, mv_ls_eq] at h2
    exact mv_mn_set h2
  · cases h1
theorem mv_mn_zst (h1 : mv_zst g loc st h nc ns = some (.inr x)) : mv_mn h nc ns x := by
  unfold mv_zst at h1
  split at h1
  · split at h1
    · refine mv_mn_ar (mv_cndn h1).2 (fun q l a h2 => ?_)
      rw [mv_ls_eq, mv_ls_eq] at h2
      exact mv_mn_set h2
    · cases h1
    · cases h1
  · cases h1
theorem mv_mn_len (h1 : mv_len loc st h nc ns = some (.inr x)) : mv_mn h nc ns x := by
  unfold mv_len at h1
  split at h1
  · have h2 := (mv_cndn h1).2
    split at h2
    · have h3 := (mv_cndn h2).2
      rw [mv_fo_eq] at h3
      exact mv_mn_eq h3
    · cases h2
  · cases h1
theorem mv_mn_gf {ci k : Nat} (h1 : mv_gf loc st h nc ns ci k = some (.inr x)) : mv_mn h nc ns x := by
  unfold mv_gf at h1
  split at h1
  · have h2 := (mv_cndn h1).2
    split at h2
    · have h3 := (mv_cndn h2).2
      split at h3
      · exact mv_mn_eq h3
      · cases h3
    · cases h2
  · cases h1
theorem mv_mn_pf {ci k t : Nat} (h1 : mv_pf loc st h nc ns ci k t = some (.inr x)) : mv_mn h nc ns x := by
  unfold mv_pf at h1
  split at h1
  · have h2 := (mv_cndn h1).2
    split at h2
    · have h3 := (mv_cndn h2).2
      rw [mv_ls_eq, mv_ls_eq] at h3
      exact mv_mn_set h3
    · cases h2
  · cases h1
theorem mv_mn_na {t : Nat} (h1 : mv_na g loc st h nc ns t = some (.inr x)) : mv_mn h nc ns x := by
  unfold mv_na at h1
  split at h1
  · split at h1
    · have h2 := (mv_cndn h1).2
      rw [mv_fo_eq, mv_sn_eq] at h2
      rw [← mv_inr h2]
      exact ⟨Nat.le_add_right _ _, Nat.le_add_right _ _, by show h.length + (nc + 1) = (h ++ [_]).length + nc; rw [List.length_append]; show h.length + (nc + 1) = h.length + 1 + nc; omega⟩
    · cases h1
    · cases h1
  · cases h1
theorem mv_mn_nw {ci : Nat} {l : List mv_V} (h1 : mv_nw loc st h nc ns ci l = some (.inr x)) : mv_mn h nc ns x := by
  unfold mv_nw at h1
  rw [mv_fo_eq, mv_sn_eq] at h1
  rw [← mv_inr h1]
  exact ⟨Nat.le_add_right _ _, Nat.le_add_right _ _, by show h.length + (nc + 1) = (h ++ [_]).length + nc; rw [List.length_append]; show h.length + (nc + 1) = h.length + 1 + nc; omega⟩
theorem mv_mn_and (h1 : mv_and g loc st h nc ns = some (.inr x)) : mv_mn h nc ns x := by
  unfold mv_and at h1
  split at h1
  · rcases mv_cnd h1 with ⟨-, h2⟩ | ⟨-, h2⟩
    · exact mv_mn_eq h2
    · exact mv_mn_bi h2
  · cases h1
theorem mv_mn_ush (h1 : mv_ush g loc st h nc ns = some (.inr x)) : mv_mn h nc ns x := by
  unfold mv_ush at h1
  split at h1
  · rcases mv_cnd h1 with ⟨-, h2⟩ | ⟨-, h2⟩
    · rcases mv_cnd h2 with ⟨-, h3⟩ | ⟨-, h3⟩
      · rcases mv_cnd h3 with ⟨-, h4⟩ | ⟨-, h4⟩
        · exact mv_mn_eq h4
        · rcases mv_cnd h4 with ⟨-, h5⟩ | ⟨-, h5⟩
          · exact mv_mn_bi h5
          · cases h5
      · cases h3
    · exact mv_mn_bi h2
  · cases h1
theorem mv_mn_iald (h1 : mv_iald g loc st h nc ns = some (.inr x)) : mv_mn h nc ns x := by
  unfold mv_iald at h1
  split at h1
  · rcases mv_cnd h1 with ⟨-, h2⟩ | ⟨-, h2⟩
    · split at h2
      · exact mv_mn_eq (mv_cndn h2).2
      · cases h2
      · cases h2
    · exact mv_mn_ald h2
  · cases h1
theorem mv_mn_alen (h1 : mv_alen loc st h nc ns = some (.inr x)) : mv_mn h nc ns x := by
  unfold mv_alen at h1
  split at h1
  · rcases mv_cnd h1 with ⟨-, h2⟩ | ⟨-, h2⟩
    · exact mv_mn_eq h2
    · exact mv_mn_len h2
  · cases h1
theorem mv_mn_tsw {pc : Nat} {d lo hi : Int} {offs : Array Int} (h1 : mv_tsw g loc st h nc ns pc d lo hi offs = some (.inr x)) : mv_mn h nc ns x := by
  unfold mv_tsw at h1
  split at h1
  · split at h1
    · rcases mv_cnd h1 with ⟨-, h2⟩ | ⟨-, h2⟩
      · have h3 := (mv_cndn h2).2
        rw [mv_fo_eq] at h3
        exact mv_mn_eq h3
      · split at h2
        · have h3 := (mv_cndn h2).2
          rw [mv_fo_eq] at h3
          exact mv_mn_eq h3
        · cases h2
    · cases h1
    · cases h1
  · cases h1
theorem mv_mn_lsw {pc : Nat} {d : Int} {ps : Array (Int × Int)} (h1 : mv_lsw g loc st h nc ns pc d ps = some (.inr x)) : mv_mn h nc ns x := by
  unfold mv_lsw at h1
  split at h1
  · split at h1
    · have h3 := (mv_cndn h1).2
      rw [mv_fo_eq] at h3
      exact mv_mn_eq h3
    · cases h1
    · cases h1
  · cases h1
theorem mv_mn_dup (h1 : mv_dup loc st h nc ns = some (.inr x)) : mv_mn h nc ns x := by
  unfold mv_dup at h1
  split at h1
  · exact mv_mn_eq (mv_cnn h1).2
  · cases h1
theorem mv_mn_pop (h1 : mv_pop loc st h nc ns = some (.inr x)) : mv_mn h nc ns x := by
  unfold mv_pop at h1
  split at h1
  · exact mv_mn_eq (mv_cnn h1).2
  · cases h1
theorem mv_mn_dupx (h1 : mv_dupx loc st h nc ns = some (.inr x)) : mv_mn h nc ns x := by
  unfold mv_dupx at h1
  split at h1
  · exact mv_mn_eq (mv_cnn h1).2
  · cases h1
theorem mv_mn_dup2 (h1 : mv_dup2 loc st h nc ns = some (.inr x)) : mv_mn h nc ns x := by
  unfold mv_dup2 at h1
  split at h1
  · rcases mv_cnd h1 with ⟨-, h2⟩ | ⟨-, h2⟩
    · exact mv_mn_eq h2
    · split at h2
      · exact mv_mn_eq (mv_cnn h2).2
      · cases h2
  · cases h1
theorem mv_mn_s1 {dv : Nat → List mv_V} {i : Instr} {pc a k : Nat} (h1 : mv_s1 g loc st h nc ns dv nL i pc a k = some (.inr x)) : mv_mn h nc ns x := by
  cases i with
  | iconst n => exact mv_mn_eq h1
  | bipush n => exact mv_mn_eq h1
  | sipush n => exact mv_mn_eq h1
  | ldc n => exact mv_mn_eq h1
  | ldc_w n => exact mv_mn_eq h1
  | lconst n => exact mv_mn_eq h1
  | ldc2_w n => exact mv_mn_eq h1
  | dconst n => exact mv_mn_eq h1
  | iload_n n => exact mv_mn_ld h1
  | iload n => exact mv_mn_ld h1
  | lload_n n => exact mv_mn_ld h1
  | lload n => exact mv_mn_ld h1
  | dload_n n => exact mv_mn_ld h1
  | dload n => exact mv_mn_ld h1
  | aload_n n => exact mv_mn_ld h1
  | aload n => exact mv_mn_ld h1
  | istore_n n => exact mv_mn_sto h1
  | istore n => exact mv_mn_sto h1
  | astore_n n => exact mv_mn_sto h1
  | astore n => exact mv_mn_sto h1
  | lstore_n n => exact mv_mn_sto2 h1
  | lstore n => exact mv_mn_sto2 h1
  | dstore_n n => exact mv_mn_sto2 h1
  | dstore n => exact mv_mn_sto2 h1
  | iinc n z => exact mv_mn_inc h1
  | ifCond o off => exact mv_mn_if h1
  | if_icmp o off => exact mv_mn_ic h1
  | goto off => exact mv_mn_eq h1
  | tableswitch d lo hi offs => exact mv_mn_tsw h1
  | lookupswitch d ps => exact mv_mn_lsw h1
  | getfield n => exact mv_mn_gf h1
  | putfield n => exact mv_mn_pf h1
  | newarray t => exact mv_mn_na h1
  | new n => exact mv_mn_nw h1
  | iadd => exact mv_mn_bi (f := fun x y => some ((x + y) % 4294967296)) h1
  | isub => exact mv_mn_bi (f := fun x y => some ((x + (4294967296 - y % 4294967296)) % 4294967296)) h1
  | imul => exact mv_mn_bi (f := fun x y => some (x * y % 4294967296)) h1
  | iand => exact mv_mn_and h1
  | ior => exact mv_mn_bi (f := fun x y => some (Nat.lor x y % 4294967296)) h1
  | ixor => exact mv_mn_bi (f := fun x y => some (Nat.xor x y % 4294967296)) h1
  | idiv => exact mv_mn_bi (f := fun x y => bif decide (nI y = 0) then none else some (mv_co (nI x / nI y))) h1
  | irem => exact mv_mn_bi (f := fun x y => bif decide (nI y = 0) then none else some (mv_co (nI x - (nI x / nI y) * nI y))) h1
  | ishl => exact mv_mn_bi (f := fun x y => some (mv_co (nI x <<< (nI y &&& 31)))) h1
  | ishr => exact mv_mn_bi (f := fun x y => some (mv_co (nI x >>> (nI y &&& 31)))) h1
  | iushr => exact mv_mn_ush h1
  | i2l => exact mv_mn_un (f := fun x => (3, mv_cl (nI x).toInt64)) h1
  | i2d => exact mv_mn_un (f := fun x => (4, (FP.i2d (nI x)).toNat)) h1
  | ladd => exact mv_mn_bl (f := fun x y => (3, mv_cl (lN x + lN y))) h1
  | lmul => exact mv_mn_bl (f := fun x y => (3, mv_cl (lN x * lN y))) h1
  | lcmp => exact mv_mn_bl (f := fun x y => (0, mv_co (lg_cmp (lN x) (lN y)))) h1
  | ddiv => exact mv_mn_dd h1
  | dcmp o => exact mv_mn_b4 (f := fun x y => (0, mv_co (Op.cmpValue (FP.dcmp (UInt64.ofNat x) (UInt64.ofNat y)) o))) h1
  | dup => exact mv_mn_dup h1
  | pop => exact mv_mn_pop h1
  | dup_x1 => exact mv_mn_dupx h1
  | dup2 => exact mv_mn_dup2 h1
  | iaload => exact mv_mn_iald h1
  | laload => exact mv_mn_ald h1
  | baload => exact mv_mn_ald h1
  | iastore => exact mv_mn_ast h1
  | lastore => exact mv_mn_ast h1
  | bastore => exact mv_mn_zst h1
  | arraylength => exact mv_mn_alen h1
  | _ => cases h1
theorem mv_bds {g : mv_B} {i j : Nat} {q : Nat × Nat} (hi : i < g.length) : mv_bd (g.set i q) j = if j = i then q else mv_bd g j := by
  unfold mv_bd
  rw [List.getElem?_set]
  by_cases hj : i = j
  · subst hj; simp [hi]
  · rw [if_neg hj, if_neg (fun z => hj z.symm)]
theorem mv_pt3_ok {r : Nat → Int32} {q : Nat × Nat} {f : mv_B → Bool} (hg : mv_in g r) (h1 : mv_pt3 g q f = true) : ∃ g2 : mv_B, mv_in g2 r ∧ f g2 = true := by
  unfold mv_pt3 at h1
  rcases mv_cnd h1 with ⟨hl, h1⟩ | ⟨-, h1⟩
  · have hl := mv_blt hl
    simp only [Bool.and_eq_true] at h1
    obtain ⟨h2, h3, h4⟩ := h1
    have key : ∀ a b : Nat, a ≤ mv_cd (r q.1) → mv_cd (r q.1) ≤ b → mv_in (g.set q.1 (a, b)) r := fun a b ha hb j => by
      rw [mv_bds hl]
      by_cases hj : j = q.1
      · rw [if_pos hj, hj]; exact ⟨ha, hb⟩
      · rw [if_neg hj]; exact hg j
    have hq := hg q.1
    rcases Nat.lt_trichotomy (mv_cd (r q.1)) q.2 with z | z | z
    · rcases mv_cnd h2 with ⟨-, h5⟩ | ⟨h5, -⟩
      · rw [mv_fo_eq, mv_fo_eq, mv_ls_eq] at h5
        exact ⟨_, key _ _ hq.1 (by omega), h5⟩
      · have := mv_nblt h5
        omega
    · rw [mv_fo_eq, mv_ls_eq] at h3
      exact ⟨_, key _ _ (by omega) (by omega), h3⟩
    · rcases mv_cnd h4 with ⟨-, h5⟩ | ⟨h5, -⟩
      · rw [mv_fo_eq, mv_fo_eq, mv_ls_eq] at h5
        exact ⟨_, key _ _ (by omega) hq.2, h5⟩
      · have := mv_nblt h5
        omega
  · cases h1
theorem mv_pt2_ok {r : Nat → Int32} {q : Nat × Nat} {f : mv_B → Bool} (hg : mv_in g r) (h1 : mv_pt2 g q f = true) : ∃ g2 : mv_B, mv_in g2 r ∧ f g2 = true := by
  unfold mv_pt2 at h1
  rcases mv_cnd h1 with ⟨hl, h1⟩ | ⟨-, h1⟩
  · have hl := mv_blt hl
    simp only [Bool.and_eq_true] at h1
    obtain ⟨h2, h4⟩ := h1
    have key : ∀ a b : Nat, a ≤ mv_cd (r q.1) → mv_cd (r q.1) ≤ b → mv_in (g.set q.1 (a, b)) r := fun a b ha hb j => by
      rw [mv_bds hl]
      by_cases hj : j = q.1
      · rw [if_pos hj, hj]; exact ⟨ha, hb⟩
      · rw [if_neg hj]; exact hg j
    have hq := hg q.1
    by_cases z : mv_cd (r q.1) < q.2
    · rcases mv_cnd h2 with ⟨-, h5⟩ | ⟨h5, -⟩
      · rw [mv_fo_eq, mv_fo_eq, mv_ls_eq] at h5
        exact ⟨_, key _ _ hq.1 (by omega), h5⟩
      · have := mv_nblt h5
        omega
    · rcases mv_cnd h4 with ⟨-, h5⟩ | ⟨h5, -⟩
      · rw [mv_fo_eq, mv_fo_eq, mv_ls_eq] at h5
        exact ⟨_, key _ _ (by omega) hq.2, h5⟩
      · have := mv_nble h5
        omega
  · cases h1
theorem mv_pt_ok {r : Nat → Int32} {q : Nat × Nat} {f : mv_B → Bool} (hg : mv_in g r) (h1 : mv_pt g q f = true) : ∃ g2 : mv_B, mv_in g2 r ∧ f g2 = true := by
  unfold mv_pt at h1
  rcases mv_cnd h1 with ⟨-, h1⟩ | ⟨-, h1⟩
  · exact mv_pt2_ok hg h1
  · exact mv_pt3_ok hg h1
end MVY
end
section
/-! ===== what every method's start brings along; a throw; a method called ===== -/
def mv_nst : List Cond := [.methodLinkNest "BoundWright" 36 ⟨"BoundWright$Routines", "<init>", "()V"⟩ "BoundWright",
  .methodLinkNest "BoundWright" 368 ⟨"BoundWright$Order", "isKeeping", "(II)Z"⟩ "BoundWright",
  .methodLinkNest "BoundWright$Order" 108 ⟨"BoundWright$Forms", "put", "(IIIII)I"⟩ "BoundWright",
  .methodLinkNest "BoundWright" 207 ⟨"BoundWright$Order", "joined", "(IIZI)I"⟩ "BoundWright",
  .methodLinkNest "BoundWright$Review" 141 ⟨"BoundWright$Forms", "put", "(IIIII)I"⟩ "BoundWright",
  .methodLinkNest "BoundWright$Review" 148 ⟨"BoundWright$Order", "isKeeping", "(II)Z"⟩ "BoundWright",
  .methodLinkNest "BoundWright$Review" 195 ⟨"BoundWright$Order", "isUnder", "(III)Z"⟩ "BoundWright",
  .methodLinkNest "BoundWright" 203 ⟨"BoundWright$Order", "isUnder", "(III)Z"⟩ "BoundWright",
  .methodLinkNest "BoundWright$Caller" 68 ⟨"BoundWright$Forms", "put", "(IIIII)I"⟩ "BoundWright",
  .methodLinkNest "BoundWright$Caller" 126 ⟨"BoundWright$Order", "joined", "(IIZI)I"⟩ "BoundWright",
  .methodLinkNest "BoundWright$Caller" 118 ⟨"BoundWright$Order", "isUnder", "(III)Z"⟩ "BoundWright",
  .declares ⟨"java/lang/RuntimeException", "<init>", "()V"⟩,
  .declares ⟨"java/lang/RuntimeException", "<init>", "(Ljava/lang/String;)V"⟩,
  .declares ⟨"java/lang/Exception", "<init>", "()V"⟩,
  .declares ⟨"java/lang/Exception", "<init>", "(Ljava/lang/String;)V"⟩,
  .declares ⟨"java/lang/Throwable", "<init>", "()V"⟩,
  .declares ⟨"java/lang/Throwable", "<init>", "(Ljava/lang/String;)V"⟩,
  .castable "java/lang/IllegalArgumentException" "java/lang/IllegalArgumentException",
  .castable "java/lang/IndexOutOfBoundsException" "java/lang/IndexOutOfBoundsException",
  .castable "java/lang/IllegalStateException" "java/lang/IllegalStateException"]
def mv_str : List (String × Nat × String) := [("BoundWright", 349, "not asked so"), ("BoundWright", 220, "no such class"), ("BoundWright", 347, "no such type"), ("BoundWright", 237, "no such method"), ("BoundWright", 74, "no such variance"), ("BoundWright", 85, "too many classes"), ("BoundWright", 345, "no such parameter"), ("BoundWright", 114, "no bound for this class"), ("BoundWright", 125, "nothing to extend for this class"), ("BoundWright", 133, "extends too many, or one of that class"), ("BoundWright", 179, "no such argument, or too deep"), ("BoundWright", 366, "too many types"), ("BoundWright", 185, "no array of that"), ("BoundWright", 239, "many of no array"), ("BoundWright", 242, "too many methods"), ("BoundWright", 253, "no bound of a variable"), ("BoundWright", 273, "no such call"), ("BoundWright", 288, "no such name"), ("BoundWright", 293, "no such fault")]
def mv_ex : Nat → String
  | 0 => "java/lang/IllegalArgumentException"
  | 1 => "java/lang/IndexOutOfBoundsException"
  | _ => "java/lang/IllegalStateException"
def mv_ncs : List (String × String) := [(mv_ex 0, mv_ex 1), (mv_ex 0, mv_ex 2), (mv_ex 1, mv_ex 0), (mv_ex 1, mv_ex 2), (mv_ex 2, mv_ex 0), (mv_ex 2, mv_ex 1)]
def mv_tk2 : Nat → Nat
  | 0 => 72
  | 1 => 291
  | _ => 83
def mv_tc2 : Nat → Nat
  | 0 => 76
  | 1 => 295
  | _ => 87
def mv_xnm : List String := ["java/lang/RuntimeException", "java/lang/Exception"]
theorem mv_tw0 : (∀ w ∈ Cond.classLink RX7 (mv_tk2 0) (mv_ex 0) :: Cond.initialized (mv_ex 0) :: vx_atS RX7 (mv_tc2 0) (mv_ex 0) mv_xnm, (w ∈ mv_big ∨ (w ∈ mv_nst ∧ w.onTables = true)) ∧ vx_ot w = true) ∧ Bundle.fit (mv_ex 0) = true := by decide +kernel
theorem mv_tw1 : (∀ w ∈ Cond.classLink RX7 (mv_tk2 1) (mv_ex 1) :: Cond.initialized (mv_ex 1) :: vx_atS RX7 (mv_tc2 1) (mv_ex 1) mv_xnm, (w ∈ mv_big ∨ (w ∈ mv_nst ∧ w.onTables = true)) ∧ vx_ot w = true) ∧ Bundle.fit (mv_ex 1) = true := by decide +kernel
theorem mv_tw2 : (∀ w ∈ Cond.classLink RX7 (mv_tk2 2) (mv_ex 2) :: Cond.initialized (mv_ex 2) :: vx_atS RX7 (mv_tc2 2) (mv_ex 2) mv_xnm, (w ∈ mv_big ∨ (w ∈ mv_nst ∧ w.onTables = true)) ∧ vx_ot w = true) ∧ Bundle.fit (mv_ex 2) = true := by decide +kernel
theorem mv_xfit : ∀ n ∈ mv_xnm, Bundle.fit n = true := by decide +kernel
def mv_nwk : Cond → Bool
  | .methodLinkNest _ _ _ _ => true
  | .declares _ => true
  | .castable _ _ => true
  | _ => false
theorem mv_nw_k : ∀ w ∈ mv_nst, mv_nwk w = true := by decide +kernel
theorem mv_nw_t {w : Cond} (h : mv_nwk w = true) : w.onTables = true := by cases w <;> first | rfl | cases h
theorem mv_nw_w {w : Cond} {s U : State} (h : mv_nwk w = true) (hW : s.WarmedH U.vm) (hZ : va_Nw w s) : va_Nw w U := by
  cases w with
  | methodLinkNest a i x y => exact va_Nw.warmM hW hZ
  | declares x => exact va_Nw.warmD hW hZ
  | castable x y => exact va_Nw.warmC hW hZ
  | _ => cases h
abbrev mv_ZU (ba : Nat) (U : State) (H : Heap) : Prop := vx_Zq Bundle.tN "UNASSIGNED_STACK" Bundle.steD (fun q => ba ≤ q) U H
abbrev mv_ZN (ba : Nat) (U : State) (H : Heap) : Prop := vx_Zq Bundle.tN "SUPPRESSED_SENTINEL" Bundle.listD (fun q => ba ≤ q) U H
/-- what holds at every method's start, beside its own code -/
def mv_en (D : va_G) (cs : ClassId × ClassId × ClassId) (r : Nat → Int32) (ba b : Nat) (U : State) : Prop :=
  va_K D vwCl (mv_tys cs) U ∧ mv_sc r ba b U ∧ mv_ZU ba U U.heap ∧ mv_ZN ba U U.heap ∧ (∀ w ∈ mv_nst, va_Nw w U) ∧ (∀ q ∈ mv_str, ∃ a : Nat, vk_R q.1 q.2.1 q.2.2 a U) ∧ (∀ q ∈ mv_ncs, va_Nc q.1 q.2 U) ∧ ba ≤ U.heap.size
theorem mv_en.go {D : va_G} {cs : ClassId × ClassId × ClassId} {r : Nat → Int32} {ba b : Nat} {s U : State} {H : Heap} {locs : List Loc} (h : mv_en D cs r ba b s) (hW : s.WarmedH U.vm) (hU : U.heap = H) (hS : va_S (fun q => ba ≤ q) s.heap H locs) : mv_en D cs r ba b U := by
  obtain ⟨h1, ⟨L, xs, hX, hbl, hbA, hr, hrL, hL⟩, h3, h4, h5, h6, h7, h8⟩ := h
  subst hU
  refine ⟨va_K.moved hW.alike h1, ⟨L, xs, (hX.moved hW.alike).kept (hS.2.1 b hbl (Nat.not_le.mpr hbA)), Nat.lt_of_lt_of_le hbl hS.1, hbA, hr, hrL, hL⟩, (vx_Zq.moved hW.alike h3).kept hS.2.1, (vx_Zq.moved hW.alike h4).kept hS.2.1, fun w hw => mv_nw_w (mv_nw_k w hw) hW (h5 w hw), fun q hq => ?_, fun q hq => va_Nc.moved hW.alike (h7 q hq), Nat.le_trans h8 hS.1⟩
  obtain ⟨a, ha⟩ := h6 q hq
  exact ⟨a, vk_R.warm hW ha⟩
def mv_Pc (D : va_G) (cs : ClassId × ClassId × ClassId) (r : Nat → Int32) (ba b : Nat) (as : List mv_V) (h : List mv_C) : Array Value → State → Prop := fun v U => v = (as.map (mv_val r ba b)).toArray ∧ mv_en D cs r ba b U ∧ mv_hok D cs r ba b h U.heap
theorem mv_blind (D : va_G) (cs : ClassId × ClassId × ClassId) (r : Nat → Int32) (ba b : Nat) (as : List mv_V) (h : List mv_C) : FrameBlind (mv_Pc D cs r ba b as h) := by
  intro a U g mk hP
  obtain ⟨h1, h2, h3⟩ := hP
  exact ⟨h1, h2.go (U := U.calling g mk a) (H := U.heap) (locs := []) (State.WarmedH.refl U) rfl va_S.rf, h3⟩
def mv_rv (r : Nat → Int32) (ba b : Nat) (res : Nat × mv_V) : Option Value := bif Nat.beq res.1 0 then none else some (mv_val r ba b res.2)
def mv_Qc (D : va_G) (cs : ClassId × ClassId × ClassId) (r : Nat → Int32) (ba b : Nat) (res : Nat × mv_V) (h2 : List mv_C) : Array Value → State → Outcome → State → Prop := fun _ st o t =>
  res.1 < 2 ∧ o = .returned (mv_rv r ba b res) ∧ mv_hok D cs r ba b h2 t.heap ∧ va_F (fun q => ba ≤ q) st t
def mv_XC (D : va_G) (cs : ClassId × ClassId × ClassId) (r : Nat → Int32) (ba b : Nat) (res : Nat × mv_V) (h2 : List mv_C) : String → State → State → Prop := fun E st t =>
  2 ≤ res.1 ∧ E = mv_ex (res.1 - 2) ∧ ba + h2.length ≤ t.heap.size ∧ (∀ (k : Nat) (c : mv_C), h2[k]? = some c → mv_cok D cs r ba b (ba + k) c t.heap) ∧ va_F (fun q => ba ≤ q) st t
def mv_rm (dep mc ms : Nat) : Room := { frames := dep, cells := mc, slots := ms, locals := 100 * dep }
/-- a method's own facts -/
def mv_fr (x : mv_I) (p : Program) (s : State) (m : MethodId) (args : Array Value) (meth : Method) (c : Code) : Prop :=
  p.tables.exec = Jvm.exec ∧ c.code = x.2.1 ∧ c.maxLocals = x.2.2.1 ∧ s.vm.findClass x.1.cls = some m.cls ∧ (∀ w ∈ mv_big, w.before args s = true) ∧ meth.sig.returnType = x.2.2.2.1 ∧ meth.locks = false ∧ meth.name = x.1.name ∧ c.exceptionTable.toList = tableOf x.2.2.2.2.2.2.2
/-- from this place of the method its end is this -/
def mv_run (l : Launch) (D : va_G) (cs : ClassId × ClassId × ClassId) (r : Nat → Int32) (ba b : Nat) (x : mv_I) (dep : Nat) (loc : mv_L) (st : List mv_V) (h : List mv_C) (nc ns pc : Nat) (res : Nat × mv_V) (h2 : List mv_C) (c2 n2 : Nat) : Prop :=
  nc ≤ c2 ∧ ns ≤ n2 ∧ h.length + c2 = h2.length + nc ∧ ∀ (p : Program) (e : Env) (R : Room) (s : State) (m : MethodId) (args : Array Value) (below : List Frame) (meth : Method) (c : Code), mv_fr x p s m args meth c → mv_en D cs r ba b s → dep ≤ R.frames → 100 * dep ≤ R.locals → c2 ≤ R.cells → n2 ≤ R.slots →
    mv_W p l e R s m args below meth c (vx_MQ below (mv_Qc D cs r ba b res h2) (mv_XC D cs r ba b res h2) args s c2 n2 (fun q => ba ≤ q)) D cs r ba b x.2.2.1 loc st h nc ns pc
theorem mv_args (r : Nat → Int32) (ba b : Nat) : ∀ (i : Nat) (as : List mv_V), lv_args i (as.map (mv_val r ba b)) = (mv_ag i as).map (mv_lv r ba b)
  | _, [] => rfl
  | i, v :: t => by
    show (i, mv_val r ba b v) :: lv_args (if (mv_val r ba b v).category = 2 then i + 2 else i + 1) (t.map (mv_val r ba b)) = (i, mv_val r ba b v) :: (mv_ag (bif mv_w2 v then i + 2 else i + 1) t).map (mv_lv r ba b)
    rw [← mv_args r ba b _ t, (mv_cat r ba b v).2]
    cases mv_w2 v <;> rfl
theorem mv_lgs (r : Nat → Int32) (ba b : Nat) : ∀ (as : List mv_V), (lg_sl (as.map (mv_val r ba b))).length = mv_cs as
  | [] => rfl
  | v :: t => by
    have ih := mv_lgs r ba b t
    unfold lg_sl at ih ⊢
    rw [List.map_cons, List.flatMap_cons, List.length_append, ih]
    show _ = (bif mv_w2 v then 2 else 1) + mv_cs t
    rw [(mv_cat r ba b v).2]
    cases mv_w2 v <;> rfl
theorem mv_csum (r : Nat → Int32) (ba b : Nat) : ∀ (as : List mv_V), ((as.map (mv_val r ba b)).map fun v => v.category).sum = mv_cs as
  | [] => rfl
  | v :: t => by
    have ih := mv_csum r ba b t
    rw [List.map_cons, List.map_cons, List.sum_cons, ih, (mv_cat r ba b v).2]
    rfl
section MVTH
variable {p : Program} {l : Launch} {e : Env} {R : Room} {s : State} {m : MethodId} {args : Array Value} {below : List Frame} {meth : Method} {c : Code} {H : Heap} {locs : List Loc} {cells slots : Nat} {Q : State → Prop}
variable {mc ms : Nat} {free : Addr → Prop} {A0 A1 : Nat → Prop} {H0 : Heap} {a : Array Value} {ls : Array Slot} {st0 rest : List Value}
variable {Qc : Array Value → State → Outcome → State → Prop} {XC : String → State → State → Prop}
/-! as vx_throwS and vx_throwSW of the pasted laws, with one more fact: the heap has grown -/
theorem mv_throwS {cc : ByteArray} {pc : Nat} (hexec : p.tables.exec = Jvm.exec) (hb : c.code = cc) (hl : l.stackTraces = false) {own cls text : String} {names : List String} {ik is ic mc ms sa : Nat} {A : Nat → Prop}
    (hown : s.vm.findClass own = some m.cls) (hcls : Bundle.fit cls = true) (hnames : ∀ n ∈ names, Bundle.fit n = true)
    (hk : (Cond.classLink own ik cls).before args s = true) (hini : (Cond.initialized cls).before args s = true) (hstr : vk_R own is text sa s) (hat : ∀ w ∈ vx_atS own ic cls names, w.before args s = true)
    (hgood : ∀ w ∈ Cond.classLink own ik cls :: Cond.initialized cls :: vx_atS own ic cls names, vx_ot w = true)
    (hU : vx_Zq Bundle.tN "UNASSIGNED_STACK" Bundle.steD A s s.heap) (hN : vx_Zq Bundle.tN "SUPPRESSED_SENTINEL" Bundle.listD A s s.heap) (hS : va_S A s.heap H locs) (hsize : ls.size = c.maxLocals)
    (d0 : decode cc pc = .ok (.new ik, 3)) (d3 : decode cc (pc + 3) = .ok (.dup, 1)) (d4 : decode cc (pc + 4) = .ok (.ldc is, 2)) (d6 : decode cc (pc + 6) = .ok (.invokespecial ic, 3)) (d9 : decode cc (pc + 9) = .ok (.athrow, 1))
    (hout : ∀ x ∈ c.exceptionTable.toList, covers x (pc + 9) = false)
    (hRframes : names.length + 3 < R.frames) (hRlocals : (rest.map fun v => v.category).sum + (13 * (names.length + 1) + 43) ≤ R.locals) (hRcells : cells + 1 ≤ R.cells) (hRslots : slots + 6 ≤ R.slots) (hlocks : meth.locks = false)
    (hx : ∀ t : State, s.vm.Alike t.vm → H.size < t.heap.size → (∀ q : Nat, q < H.size → t.heap[q]? = H[q]?) → XC cls s t)
    (hf : ∀ z ∈ locs, free z.base) (hc : cells + 1 ≤ mc) (hs : slots + 6 ≤ ms) :
    W p l e R s m args below meth c H locs cells slots (vx_MQ below Qc XC args s mc ms free) (F0 m pc ls rest) := by
  intro T hT X
  have htr : e.platform.stackTraces = false := (show e.platform.stackTraces = l.stackTraces by rw [X.admits.platform]).trans hl
  have Y := vx_rebase X (R' := { frames := R.frames, locals := R.locals, cells := 1, slots := 6 }) (Nat.le_refl _) (Nat.le_refl _) hRcells hRslots
  obtain ⟨s', hA⟩ : ∃ z, z = (T.setVm s.vm).setFrames (.invoking m args :: below) := ⟨_, rfl⟩
  rw [← hA] at Y
  have hvm : s'.vm = s.vm := by rw [hA]; rfl
  have hhp : s'.heap = H := by rw [hA]; exact hT
  have hW0 : s.WarmedH s'.vm := by rw [hvm]; exact State.WarmedH.refl s
  have hat' : ∀ w ∈ vx_atS own ic cls names, w.before args s' = true := fun w hw => vx_ot_at hW0 hvm.symm (hgood w (List.mem_cons_of_mem _ (List.mem_cons_of_mem _ hw))) (hat w hw)
  have hk' : (Cond.classLink own ik cls).before args s' = true := vx_ot_at hW0 hvm.symm (hgood _ List.mem_cons_self) hk
  have hini' : (Cond.initialized cls).before args s' = true := vx_ot_at hW0 hvm.symm (hgood _ (List.mem_cons_of_mem _ List.mem_cons_self)) hini
  have hU' : vx_Zq Bundle.tN "UNASSIGNED_STACK" Bundle.steD A s' s'.heap := by rw [hhp]; exact vx_Zq.moved hW0.alike (hU.kept hS.2.1)
  have hN' : vx_Zq Bundle.tN "SUPPRESSED_SENTINEL" Bundle.listD A s' s'.heap := by rw [hhp]; exact vx_Zq.moved hW0.alike (hN.kept hS.2.1)
  have h : ∀ w ∈ Bundle.ownAtoms own ic cls names, w.before args s' = true := vx_own hat' (vx_isRefq hU'.1) (vx_isRefq hN'.1) hU'.2.word hN'.2.word
  have hown' : s'.vm.findClass own = some m.cls := by rw [hvm]; exact hown
  have hins : (Cond.instantiable cls 6).before args s' = true := h _ (by simp [Bundle.ownAtoms])
  obtain ⟨vm₁, cX, kX, hfX, hkX, -, -, X₁, st1⟩ := Y.newCold hexec (own := own) (C := cls) (index := ik) (n := 6) hown' hk' hins hini'
    (g := F0 m pc ls rest) rfl (by rw [hb]; exact d0) (Nat.le_refl _) (Nat.le_refl _)
  generalize hT1 : (T.setVm vm₁).pushCell { cls := cX, slots := kX.instanceTypes.map defaultValue, vm := .none } = T1 at X₁ st1
  have hcat : (Value.ref T.heap.size).category = 1 := rfl
  have hcellA : T1.heap[T.heap.size]? = some (freshCell cX kX) := by rw [← hT1]; exact State.heap_pushCell_size _ _
  have d3' : decode c.code (pc + 3) = .ok (.dup, 1) := by rw [hb]; exact d3
  have d4' : decode c.code (pc + 4) = .ok (.ldc is, 2) := by rw [hb]; exact d4
  have hstr' : vk_R own is text sa s' := vk_R.warm hW0 hstr
  obtain ⟨U, hsteps, hrun, hend, hW, hsame, ce, hce, hO⟩ := X₁.ctorThrowS hexec htr (own := own) (cls := cls) (names := names) (ic := ic) hown' hcls hnames h (fun x hx => nomatch hx) hfX hkX hcellA (by rw [hhp, hT]; exact Nat.le_refl _) (msg := .ref sa) rfl
    (g := { method := m, pc := pc + 6, locals := ls, stack := .ref sa :: .ref T.heap.size :: .ref T.heap.size :: rest, locked := none }) rfl hsize rfl rfl (rest := rest) rfl
    (by rw [hb]; exact d6) (by rw [hb]; exact d9) hout hRframes (by simp only [List.map_cons, List.sum_cons, hcat]; omega) hlocks
  obtain ⟨f1, f2⟩ := vx_frame hsame
  rw [hhp] at f1 f2
  have hWs : s.WarmedH U.vm := State.WarmedH.trans hW0 hW
  have hcl : s.vm.findClass cls = some ce.cls := by
    have h9 := hO.cls
    rw [hvm] at h9
    exact h9
  have hall : s.sameButNew ({ U with vm := s.vm } : State) locs mc ms := by
    subst hA
    obtain ⟨e1, e2⟩ := hsame
    rw [State.setFrames_setFrames] at e1
    have h2 : (T.setVm s.vm).sameButNew ({ U with vm := s.vm } : State) [] (0 + 1) (0 + 6) := ⟨e1, e2⟩
    have h3 := X.same.trans h2
    rw [List.append_nil] at h3
    exact h3.mono hc hs
  refine ⟨U, ?_, .threw T.heap.size, hrun, hend, Or.inr ⟨T.heap.size, rfl, cls, ce, locs, hx U hWs.alike (by have h7 := (Array.getElem?_eq_some_iff.mp hce).1; rw [hT] at h7; exact h7) (fun q hq => f2 q hq (fun z hz => nomatch hz)), hce, hO.vm, hcl, hWs, hall, hf⟩⟩
  refine st1 _ ?_
  show Steps p.tables e below (T1.setTop { method := m, pc := pc + 3, locals := ls, stack := .ref T.heap.size :: rest, locked := none }) _
  jvm_step X₁.here [X₁.here.top, hexec, d3', Value.category]
  exact X₁.ldcString hexec (own := own) (text := text) (index := is) (a := sa) hown' hstr'.1 hstr'.2
    (g := { method := m, pc := pc + 4, locals := ls, stack := .ref T.heap.size :: .ref T.heap.size :: rest, locked := none }) rfl d4' _ hsteps
theorem mv_throwSW {cc : ByteArray} {pc : Nat} (hexec : p.tables.exec = Jvm.exec) (hb : c.code = cc) (hl : l.stackTraces = false) {own cls text : String} {names : List String} {ik is ic mc ms sa : Nat} {A : Nat → Prop}
    (hown : s.vm.findClass own = some m.cls) (hcls : Bundle.fit cls = true) (hnames : ∀ n ∈ names, Bundle.fit n = true)
    (hk : (Cond.classLink own ik cls).before args s = true) (hini : (Cond.initialized cls).before args s = true) (hstr : vk_R own is text sa s) (hat : ∀ w ∈ vx_atS own ic cls names, w.before args s = true)
    (hgood : ∀ w ∈ Cond.classLink own ik cls :: Cond.initialized cls :: vx_atS own ic cls names, vx_ot w = true)
    (hU : vx_Zq Bundle.tN "UNASSIGNED_STACK" Bundle.steD A s s.heap) (hN : vx_Zq Bundle.tN "SUPPRESSED_SENTINEL" Bundle.listD A s s.heap) (hS : va_S A s.heap H locs) (hsize : ls.size = c.maxLocals)
    (d0 : decode cc pc = .ok (.new ik, 3)) (d3 : decode cc (pc + 3) = .ok (.dup, 1)) (d4 : decode cc (pc + 4) = .ok (.ldc_w is, 3)) (d7 : decode cc (pc + 7) = .ok (.invokespecial ic, 3)) (d10 : decode cc (pc + 10) = .ok (.athrow, 1))
    (hout : ∀ x ∈ c.exceptionTable.toList, covers x (pc + 10) = false)
    (hRframes : names.length + 3 < R.frames) (hRlocals : (rest.map fun v => v.category).sum + (13 * (names.length + 1) + 43) ≤ R.locals) (hRcells : cells + 1 ≤ R.cells) (hRslots : slots + 6 ≤ R.slots) (hlocks : meth.locks = false)
    (hx : ∀ t : State, s.vm.Alike t.vm → H.size < t.heap.size → (∀ q : Nat, q < H.size → t.heap[q]? = H[q]?) → XC cls s t)
    (hf : ∀ z ∈ locs, free z.base) (hc : cells + 1 ≤ mc) (hs : slots + 6 ≤ ms) :
    W p l e R s m args below meth c H locs cells slots (vx_MQ below Qc XC args s mc ms free) (F0 m pc ls rest) := by
  intro T hT X
  have htr : e.platform.stackTraces = false := (show e.platform.stackTraces = l.stackTraces by rw [X.admits.platform]).trans hl
  have Y := vx_rebase X (R' := { frames := R.frames, locals := R.locals, cells := 1, slots := 6 }) (Nat.le_refl _) (Nat.le_refl _) hRcells hRslots
  obtain ⟨s', hA⟩ : ∃ z, z = (T.setVm s.vm).setFrames (.invoking m args :: below) := ⟨_, rfl⟩
  rw [← hA] at Y
  have hvm : s'.vm = s.vm := by rw [hA]; rfl
  have hhp : s'.heap = H := by rw [hA]; exact hT
  have hW0 : s.WarmedH s'.vm := by rw [hvm]; exact State.WarmedH.refl s
  have hat' : ∀ w ∈ vx_atS own ic cls names, w.before args s' = true := fun w hw => vx_ot_at hW0 hvm.symm (hgood w (List.mem_cons_of_mem _ (List.mem_cons_of_mem _ hw))) (hat w hw)
  have hk' : (Cond.classLink own ik cls).before args s' = true := vx_ot_at hW0 hvm.symm (hgood _ List.mem_cons_self) hk
  have hini' : (Cond.initialized cls).before args s' = true := vx_ot_at hW0 hvm.symm (hgood _ (List.mem_cons_of_mem _ List.mem_cons_self)) hini
  have hU' : vx_Zq Bundle.tN "UNASSIGNED_STACK" Bundle.steD A s' s'.heap := by rw [hhp]; exact vx_Zq.moved hW0.alike (hU.kept hS.2.1)
  have hN' : vx_Zq Bundle.tN "SUPPRESSED_SENTINEL" Bundle.listD A s' s'.heap := by rw [hhp]; exact vx_Zq.moved hW0.alike (hN.kept hS.2.1)
  have h : ∀ w ∈ Bundle.ownAtoms own ic cls names, w.before args s' = true := vx_own hat' (vx_isRefq hU'.1) (vx_isRefq hN'.1) hU'.2.word hN'.2.word
  have hown' : s'.vm.findClass own = some m.cls := by rw [hvm]; exact hown
  have hins : (Cond.instantiable cls 6).before args s' = true := h _ (by simp [Bundle.ownAtoms])
  obtain ⟨vm₁, cX, kX, hfX, hkX, -, -, X₁, st1⟩ := Y.newCold hexec (own := own) (C := cls) (index := ik) (n := 6) hown' hk' hins hini'
    (g := F0 m pc ls rest) rfl (by rw [hb]; exact d0) (Nat.le_refl _) (Nat.le_refl _)
  generalize hT1 : (T.setVm vm₁).pushCell { cls := cX, slots := kX.instanceTypes.map defaultValue, vm := .none } = T1 at X₁ st1
  have hcat : (Value.ref T.heap.size).category = 1 := rfl
  have hcellA : T1.heap[T.heap.size]? = some (freshCell cX kX) := by rw [← hT1]; exact State.heap_pushCell_size _ _
  have d3' : decode c.code (pc + 3) = .ok (.dup, 1) := by rw [hb]; exact d3
  have d4' : decode c.code (pc + 4) = .ok (.ldc_w is, 3) := by rw [hb]; exact d4
  have hstr' : vk_R own is text sa s' := vk_R.warm hW0 hstr
  obtain ⟨U, hsteps, hrun, hend, hW, hsame, ce, hce, hO⟩ := X₁.ctorThrowS hexec htr (own := own) (cls := cls) (names := names) (ic := ic) hown' hcls hnames h (fun x hx => nomatch hx) hfX hkX hcellA (by rw [hhp, hT]; exact Nat.le_refl _) (msg := .ref sa) rfl
    (g := { method := m, pc := pc + 7, locals := ls, stack := .ref sa :: .ref T.heap.size :: .ref T.heap.size :: rest, locked := none }) rfl hsize rfl rfl (rest := rest) rfl
    (by rw [hb]; exact d7) (by rw [hb]; exact d10) hout hRframes (by simp only [List.map_cons, List.sum_cons, hcat]; omega) hlocks
  obtain ⟨f1, f2⟩ := vx_frame hsame
  rw [hhp] at f1 f2
  have hWs : s.WarmedH U.vm := State.WarmedH.trans hW0 hW
  have hcl : s.vm.findClass cls = some ce.cls := by
    have h9 := hO.cls
    rw [hvm] at h9
    exact h9
  have hall : s.sameButNew ({ U with vm := s.vm } : State) locs mc ms := by
    subst hA
    obtain ⟨e1, e2⟩ := hsame
    rw [State.setFrames_setFrames] at e1
    have h2 : (T.setVm s.vm).sameButNew ({ U with vm := s.vm } : State) [] (0 + 1) (0 + 6) := ⟨e1, e2⟩
    have h3 := X.same.trans h2
    rw [List.append_nil] at h3
    exact h3.mono hc hs
  refine ⟨U, ?_, .threw T.heap.size, hrun, hend, Or.inr ⟨T.heap.size, rfl, cls, ce, locs, hx U hWs.alike (by have h7 := (Array.getElem?_eq_some_iff.mp hce).1; rw [hT] at h7; exact h7) (fun q hq => f2 q hq (fun z hz => nomatch hz)), hce, hO.vm, hcl, hWs, hall, hf⟩⟩
  refine st1 _ ?_
  show Steps p.tables e below (T1.setTop { method := m, pc := pc + 3, locals := ls, stack := .ref T.heap.size :: rest, locked := none }) _
  jvm_step X₁.here [X₁.here.top, hexec, d3', Value.category]
  exact X₁.ldcStringW hexec (own := own) (text := text) (index := is) (a := sa) hown' hstr'.1 hstr'.2
    (g := { method := m, pc := pc + 4, locals := ls, stack := .ref T.heap.size :: .ref T.heap.size :: rest, locked := none }) rfl d4' _ hsteps
end MVTH
end
section
/-! ===== a row of ints copied to another's begin; the interpreter with that kind too ===== -/
noncomputable def mv_cp (g : mv_B) (loc : mv_L) (st : List mv_V) (h : List mv_C) (nc ns : Nat) : mv_S := match st with
  | z :: y :: x :: w :: v :: s2 => bif (Nat.beq v.1 2 && Nat.beq x.1 2) && ((Nat.beq w.1 0 && Nat.beq w.2 0) && ((Nat.beq y.1 0 && Nat.beq y.2 0) && Nat.ble (mv_cs s2) 8)) then
      match mv_cI g z with
      | some (.inr n) => match mv_gt h v.2 with
        | some c0 => match mv_gt h x.2 with
          | some c1 => bif (Nat.beq c0.1 0 && Nat.beq c1.1 0) && (Nat.ble n c0.2.length && (Nat.ble n c1.2.length && Nat.blt c1.2.length 65536)) then
              mv_fl (c0.2.take n ++ c1.2.drop n) (fun l2 => mv_ls h x.2 (0, l2) (fun h2 => mv_go loc h2 nc ns s2)) else none
          | none => none
        | none => none
      | some (.inl q) => some (.inl q)
      | none => none
    else none
  | _ => none
noncomputable def mv_x9 (bk : Nat → Nat → Option (List mv_E)) (mi : Nat → mv_I) (xn : Nat → Nat) (ih : mv_J) (dep mid pc : Nat) (e : mv_E) (t : List mv_E) (loc : mv_L) (st : List mv_V) (h : List mv_C) (nc ns : Nat) (g : mv_B) (K : mv_K) : Bool :=
  bif Nat.beq e.2.2.2.1 11 then (bif Nat.blt 0 dep then mv_x0 ih (mv_cp g loc st h nc ns) dep mid pc e t loc st h nc ns g K else false) else mv_x8 bk mi xn ih dep mid pc e t loc st h nc ns g K
/-- a run to the method's end: every end is one that K takes -/
noncomputable def mv_eu (bk : Nat → Nat → Option (List mv_E)) (mi : Nat → mv_I) (dv : Nat → List mv_V) (xn : Nat → Nat) (n : Nat) : mv_J :=
  Nat.rec (motive := fun _ => mv_J)
    (fun _ _ _ _ _ _ _ _ _ _ _ => false)
    (fun _ ih dep mid pc L loc st h nc ns g K => match L with
      | [] => match bk mid pc with
        | some (e :: t) => ih dep mid pc (e :: t) loc st h nc ns g K
        | _ => false
      | e :: t => bif Nat.ble 40 e.2.2.2.1 then mv_x0 ih (mv_sf g loc st h nc ns dv (mi mid).2.2.1 e.1 e.2.1 e.2.2.2.2.1 e.2.2.2.2.2 e.2.2.2.1) dep mid pc e t loc st h nc ns g K
        else mv_x9 bk mi xn ih dep mid pc e t loc st h nc ns g K) n
theorem mv_cpD {α : Type} {c0 c1 : List α} {n j : Nat} {d : α} (h0 : n ≤ c0.length) : (c0.take n ++ c1.drop n).getD j d = if j < n then c0.getD j d else c1.getD j d := by
  rw [List.getD_eq_getElem?_getD, List.getD_eq_getElem?_getD, List.getD_eq_getElem?_getD, List.getElem?_append, List.length_take]
  have e : min n c0.length = n := by omega
  rw [e]
  by_cases hj : j < n
  · rw [if_pos hj, if_pos hj, List.getElem?_take, if_pos hj]
  · rw [if_neg hj, if_neg hj, List.getElem?_drop]
    have e2 : n + (j - n) = j := by omega
    rw [e2]
section MVZ
variable {p : Program} {l : Launch} {e : Env} {R : Room} {s : State} {m : MethodId} {args : Array Value} {below : List Frame} {meth : Method} {c : Code} {Q : State → Prop}
variable {D : va_G} {cs : ClassId × ClassId × ClassId} {r : Nat → Int32} {ba b nL : Nat} {g : mv_B} {loc : mv_L} {st : List mv_V} {h : List mv_C} {nc ns : Nat} {x : Option Nat × mv_L × List mv_V × List mv_C × Nat × Nat} {cc : ByteArray} {pc : Nat}
theorem mv_mn_cp (h1 : mv_cp g loc st h nc ns = some (.inr x)) : mv_mn h nc ns x := by
  unfold mv_cp at h1
  split at h1
  · obtain ⟨-, h1⟩ := mv_cndn h1
    split at h1
    · split at h1
      · split at h1
        · obtain ⟨-, h1⟩ := mv_cndn h1
          rw [mv_fl_eq, mv_ls_eq] at h1
          exact mv_mn_set h1
        · cases h1
      · cases h1
    · cases h1
    · cases h1
  · cases h1
theorem mv_cp_ok {own : String} {index : Nat} (hexec : p.tables.exec = Jvm.exec) (hb : c.code = cc) (hml : c.maxLocals = nL) (hg : mv_in g r) (hown : s.vm.findClass own = some m.cls) (hlink : (Cond.methodLink own index arraycopyName).before args s = true) (hnat : (Cond.native arraycopyName).before args s = true) (hstat : (Cond.static arraycopyName).before args s = true) (hini : (Cond.initialized "java/lang/System").before args s = true)
    (hK : va_K D vwCl (mv_tys cs) s) (hRf : 1 ≤ R.frames) (hRl : 100 ≤ R.locals) (hd : decode cc pc = .ok (.invokestatic index, 3)) (h1 : mv_cp g loc st h nc ns = some (.inr x))
    (kk : mv_Wx p l e R s m args below meth c Q D cs r ba b nL x (pc + 3)) : mv_W p l e R s m args below meth c Q D cs r ba b nL loc st h nc ns pc := by
  unfold mv_cp at h1
  split at h1
  · rename_i z y u w v s2
    obtain ⟨h0, h1⟩ := mv_cndn h1
    simp only [Bool.and_eq_true] at h0
    obtain ⟨⟨v1, u1⟩, ⟨w1, w2⟩, ⟨y1, y2⟩, hr⟩ := h0
    split at h1
    · rename_i n hn9
      split at h1
      · rename_i c0 hc0
        split at h1
        · rename_i c1 hc1
          obtain ⟨h2, h1⟩ := mv_cndn h1
          simp only [Bool.and_eq_true] at h2
          obtain ⟨⟨t0, t1⟩, n0, n1, n2⟩ := h2
          have n0 := mv_ble n0
          have n1 := mv_ble n1
          have n2 := mv_blt n2
          rw [mv_fl_eq, mv_ls_eq] at h1
          have k2 := mv_go_ok h1 kk
          rw [mv_gt_eq] at hc0 hc1
          obtain ⟨i1, i2⟩ := mv_cI_ok hg hn9
          intro H locs ls hH hS hl hn
          show W p l e R s m args below meth c H locs nc ns Q (F0 m pc ls (mv_val r ba b z :: mv_val r ba b y :: mv_val r ba b u :: mv_val r ba b w :: mv_val r ba b v :: s2.map (mv_val r ba b)))
          have ew : mv_val r ba b w = .int (nI 0) := by
            have e1 := mv_beq w1
            have e2 := mv_beq w2
            obtain ⟨w3, w4⟩ := w
            cases e1
            cases e2
            rfl
          have ey : mv_val r ba b y = .int (nI 0) := by
            have e1 := mv_beq y1
            have e2 := mv_beq y2
            obtain ⟨w3, w4⟩ := y
            cases e1
            cases e2
            rfl
          rw [mv_val_I i1, i2, mv_val_R u1, mv_val_R v1, ew, ey]
          obtain ⟨a0, l0⟩ := c0
          obtain ⟨a1, l1⟩ := c1
          cases mv_beq t0
          cases mv_beq t1
          have n0 : n ≤ l0.length := n0
          have n1 : n ≤ l1.length := n1
          have n2 : l1.length < 65536 := n2
          have q0 : H[ba + v.2]? = some (arrV cs.1 l0.length (fun j => .int (mv_ii r (l0.getD j (0, 0))))) := mv_look hH hc0
          have q1 : H[ba + u.2]? = some (arrV cs.1 l1.length (fun j => .int (mv_ii r (l1.getD j (0, 0))))) := mv_look hH hc1
          obtain ⟨-, k1, hk1, cm1, hkk1⟩ := (hK.2 0 _ (show (mv_tys cs)[0]? = some (cs.1, .int) from rfl)).1 l1.length (fun j => .int (mv_ii r (l1.getD j (0, 0))))
          obtain ⟨-, k0, hk0, cm0, hkk0⟩ := (hK.2 0 _ (show (mv_tys cs)[0]? = some (cs.1, .int) from rfl)).1 l0.length (fun j => .int (mv_ii r (l0.getD j (0, 0))))
          have e0 : (nI 0).toInt = 0 := rfl
          have en : (nI n).toInt = (n : Int) := nI_toInt (by omega)
          have ec : (nI n).toNatClampNeg = n := nI_clamp (by omega)
          have ez : (nI 0).toNatClampNeg = 0 := rfl
          intro T hT X
          obtain ⟨vm', X', step⟩ := X.arraycopy hexec hown hlink hnat hstat hini (src := ba + v.2) (dst := ba + u.2) (cs := arrV cs.1 l0.length (fun j => .int (mv_ii r (l0.getD j (0, 0))))) (cd := arrV cs.1 l1.length (fun j => .int (mv_ii r (l1.getD j (0, 0))))) (srcPos := nI 0) (destPos := nI 0) (n := nI n) (by rw [hT]; exact q0) (by rw [hT]; exact q1)
            (fun _ h => by cases h) (fun _ h => by cases h) (fun h => by cases h) (fun h => by cases h) hk0 hk1 hkk0 hkk1 (show ((refKind FieldType.int != refKind FieldType.int) || (!refKind FieldType.int && FieldType.int != FieldType.int)) = false by decide) (by decide) (by decide) (fun q => nI_in (Nat.lt_succ_self n) (by omega) (Or.inl q))
            (by rw [e0, en, arrV_size]; omega)
            (by rw [e0, en, arrV_size]; omega)
            (fun vm₁ _ i hi => by
              rw [ec] at hi
              have e : (arrV cs.1 l0.length (fun j => .int (mv_ii r (l0.getD j (0, 0))))).slots.getD ((nI 0).toNatClampNeg + i) .null = .int (mv_ii r (l0.getD i (0, 0))) := by
                rw [ez, Nat.zero_add, Array.getD_eq_getD_getElem?, arrV_read _ _ (by omega)]
                rfl
              rw [e]
              exact ⟨rfl, trivial⟩)
            (g := F0 m pc ls (.int (nI n) :: .int (nI 0) :: .ref (ba + u.2) :: .int (nI 0) :: .ref (ba + v.2) :: s2.map (mv_val r ba b))) rfl (by rw [hml]; exact hl.1) (rest := s2.map (mv_val r ba b)) rfl (by rw [hb]; exact hd) hRf (by
              have e9 : ((s2.map (mv_val r ba b)).map fun v => v.category).sum ≤ 8 := by
                rw [show ((s2.map (mv_val r ba b)).map fun v => v.category).sum = mv_cs s2 from mv_csum r ba b s2]
                exact mv_ble hr
              have e8 : nativeFrameWords "java/lang/System" "arraycopy" 5 = 7 := by decide
              rw [e8]
              show 2 * 0 + _ + _ ≤ _
              omega)
          have e1 : copied (arrV cs.1 l0.length (fun j => .int (mv_ii r (l0.getD j (0, 0))))) (arrV cs.1 l1.length (fun j => .int (mv_ii r (l1.getD j (0, 0))))) (nI 0) (nI 0) (nI n) = arrV cs.1 (l0.take n ++ l1.drop n).length (fun j => .int (mv_ii r ((l0.take n ++ l1.drop n).getD j (0, 0)))) := by
            have e2 : copied (arrV cs.1 l0.length (fun j => .int (mv_ii r (l0.getD j (0, 0))))) (arrV cs.1 l1.length (fun j => .int (mv_ii r (l1.getD j (0, 0))))) (nI 0) (nI 0) (nI n) = arrV cs.1 l1.length (fun j => .int (va_cpy (fun j => mv_ii r (l0.getD j (0, 0))) (fun j => mv_ii r (l1.getD j (0, 0))) (nI 0).toNatClampNeg (nI 0).toNatClampNeg (nI n).toNatClampNeg j)) := va_copied (fun z => .int z) cs.1 cs.1 _ _ (by rw [ec, ez]; omega)
            rw [e2, ec, ez, List.length_append, List.length_take, List.length_drop]
            have e3 : min n l0.length + (l1.length - n) = l1.length := by omega
            rw [e3]
            congr 1
            funext j
            rw [mv_cpD n0]
            unfold va_cpy
            by_cases hj : j < n
            · rw [if_pos ⟨by omega, by omega⟩, if_pos hj, Nat.sub_zero, Nat.zero_add]
            · rw [if_neg (by omega), if_neg hj]
          rw [e1] at X' step
          have hlt : ba + u.2 < H.size := (Array.getElem?_eq_some_iff.mp q1).1
          have hheap : ((T.setVm vm').setCell (ba + u.2) (arrV cs.1 (l0.take n ++ l1.drop n).length (fun j => .int (mv_ii r ((l0.take n ++ l1.drop n).getD j (0, 0)))))).heap = H.setIfInBounds (ba + u.2) (arrV cs.1 (l0.take n ++ l1.drop n).length (fun j => .int (mv_ii r ((l0.take n ++ l1.drop n).getD j (0, 0))))) := by rw [← hT]; rfl
          have oq : ∀ q : Nat, q ≠ ba + u.2 → (H.setIfInBounds (ba + u.2) (arrV cs.1 (l0.take n ++ l1.drop n).length (fun j => .int (mv_ii r ((l0.take n ++ l1.drop n).getD j (0, 0))))))[q]? = H[q]? := fun q hq => by simp [Array.getElem?_setIfInBounds, Ne.symm hq]
          have hz : (H.setIfInBounds (ba + u.2) (arrV cs.1 (l0.take n ++ l1.drop n).length (fun j => .int (mv_ii r ((l0.take n ++ l1.drop n).getD j (0, 0)))))).size = H.size := by simp
          have hm : (H.setIfInBounds (ba + u.2) (arrV cs.1 (l0.take n ++ l1.drop n).length (fun j => .int (mv_ii r ((l0.take n ++ l1.drop n).getD j (0, 0))))))[ba + u.2]? = some (arrV cs.1 (l0.take n ++ l1.drop n).length (fun j => .int (mv_ii r ((l0.take n ++ l1.drop n).getD j (0, 0))))) := by simp [Array.getElem?_setIfInBounds, hlt]
          obtain ⟨t, b1, b2⟩ := k2 _ _ ls (hH.set (c := (0, l0.take n ++ l1.drop n)) hz oq hm) (⟨by rw [hz]; exact hS.1, fun q g1 g2 => by
              rw [oq q (fun e => g2 (by rw [e]; exact Nat.le_add_right _ _))]
              exact hS.2.1 q g1 g2, fun q hq => by
              rcases List.mem_append.mp hq with h | h
              · exact hS.2.2 q h
              · obtain ⟨z, -, hz⟩ := List.mem_map.mp h
                rw [← hz]
                exact Nat.le_add_right _ _⟩) hl (by rw [hz]; exact hn) _ hheap X'
          exact ⟨t, step t b1, b2⟩
        · cases h1
      · cases h1
    · cases h1
    · cases h1
  · cases h1
end MVZ
end
section
/-! ===== what is asked of a table's entry, of a method; ends ===== -/
def mv_rets (i : Instr) (a : Nat) (ret : Option FieldType) : Bool := match i with
  | .return_ => Nat.beq a 0 && decide (ret = none)
  | .ireturn => (Nat.beq a 1 && decide (ret = some .int)) || (Nat.beq a 2 && decide (ret = some .boolean))
  | .lreturn => Nat.beq a 3 && decide (ret = some .long)
  | .dreturn => Nat.beq a 4 && decide (ret = some .double)
  | .areturn => Nat.beq a 5 && (match ret with
    | some (.object _) => true
    | some (.array _) => true
    | _ => false)
  | _ => false
def mv_thr (cc : ByteArray) (pc : Nat) (i : Instr) (own : String) (a k is ic : Nat) (hd : List (Nat × Nat × Nat × Nat)) : Bool :=
  (decide (i = .new k) && decide (own = RX7)) && ((Nat.blt a 3 && (Nat.beq k (mv_tk2 a) && Nat.beq ic (mv_tc2 a))) && ((mv_str.any (fun q => decide (q.1 = own) && Nat.beq q.2.1 is) && hd.isEmpty) &&
  (decide (decode cc (pc + 3) = .ok (.dup, 1)) &&
  ((decide (decode cc (pc + 4) = .ok (.ldc is, 2)) && (decide (decode cc (pc + 6) = .ok (.invokespecial ic, 3)) && decide (decode cc (pc + 9) = .ok (.athrow, 1)))) ||
  (decide (decode cc (pc + 4) = .ok (.ldc_w is, 3)) && (decide (decode cc (pc + 7) = .ok (.invokespecial ic, 3)) && decide (decode cc (pc + 10) = .ok (.athrow, 1))))))))
def mv_nk (i : Instr) : Nat := match i with
  | .new k => k
  | _ => 0
def mv_c3 (cand : List Cond) (own : String) (i : Instr) : Bool := match i with
  | .invokespecial k => decide (Cond.methodLink own k Lib.objectInit ∈ cand) && (decide (Cond.instanceMethod Lib.objectInit ∈ cand) && decide (Cond.code Lib.objectInit ⟨#[0xb1]⟩ 1 none ∈ cand))
  | _ => false
def mv_c4 (cand : List Cond) (own : String) (y : MethodName) (i : Instr) : Bool := match i with
  | .invokevirtual k => decide (Cond.methodLink own k y ∈ cand)
  | _ => false
def mv_c5 (own : String) (y : MethodName) (i : Instr) : Bool := match i with
  | .invokevirtual k => decide (Cond.methodLinkNest own k y "BoundWright" ∈ mv_nst)
  | _ => false
def mv_c6 (cand : List Cond) (own : String) (y : MethodName) (i : Instr) : Bool := match i with
  | .invokestatic k => decide (Cond.methodLink own k y ∈ cand)
  | _ => false
def mv_c7 (cand : List Cond) (own : String) (y : MethodName) (i : Instr) : Bool := match i with
  | .invokespecial k => decide (Cond.methodLink own k y ∈ cand)
  | _ => false
def mv_c8 (own : String) (y : MethodName) (i : Instr) : Bool := match i with
  | .invokespecial k => decide (Cond.methodLinkNest own k y "BoundWright" ∈ mv_nst)
  | _ => false
def mv_c11 (cand : List Cond) (own : String) (i : Instr) : Bool := match i with
  | .invokestatic k => decide (Cond.methodLink own k arraycopyName ∈ cand) && (decide (Cond.native arraycopyName ∈ cand) && (decide (Cond.static arraycopyName ∈ cand) && decide (Cond.initialized "java/lang/System" ∈ cand)))
  | _ => false
def mv_c20 (nL len a : Nat) (i : Instr) : Bool := match i with
  | .astore k => Nat.beq len 2 && (Nat.beq k a && Nat.blt a nL)
  | .astore_n k => Nat.beq len 1 && (Nat.beq k a && Nat.blt a nL)
  | _ => false
def mv_vk (cand : List Cond) (mi : Nat → mv_I) (x : mv_I) (i : Instr) (pc len k a b : Nat) : Bool := match k with
  | 0 => true
  | 1 => Nat.beq len 1 && mv_rets i a x.2.2.2.1
  | 2 => Nat.beq len 3 && mv_thr x.2.1 pc i x.1.cls a (mv_nk i) (b % 65536) (b / 65536) x.2.2.2.2.2.2.2
  | 3 => Nat.beq len 3 && mv_c3 cand x.1.cls i
  | 4 => Nat.beq len 3 && (Nat.beq (mi a).2.2.2.2.2.1 0 && mv_c4 cand x.1.cls (mi a).1 i)
  | 5 => Nat.beq len 3 && (Nat.beq (mi a).2.2.2.2.2.1 0 && mv_c5 x.1.cls (mi a).1 i)
  | 6 => Nat.beq len 3 && (Nat.beq (mi a).2.2.2.2.2.1 1 && mv_c6 cand x.1.cls (mi a).1 i)
  | 7 => Nat.beq len 3 && (Nat.beq (mi a).2.2.2.2.2.1 2 && mv_c7 cand x.1.cls (mi a).1 i)
  | 8 => Nat.beq len 3 && (Nat.beq (mi a).2.2.2.2.2.1 2 && mv_c8 x.1.cls (mi a).1 i)
  | 9 => Nat.beq len 3 && (Nat.beq (mi a).2.2.2.2.2.1 3 && mv_c6 cand x.1.cls (mi a).1 i)
  | 11 => Nat.beq len 3 && mv_c11 cand x.1.cls i
  | 12 => Nat.beq len 3 && (Nat.beq (mi a).2.2.2.2.2.1 0 && mv_c4 cand x.1.cls (mi a).1 i)
  | 13 => Nat.beq len 3 && (Nat.beq (mi a).2.2.2.2.2.1 0 && mv_c5 x.1.cls (mi a).1 i)
  | 14 => Nat.beq len 3 && (Nat.beq (mi a).2.2.2.2.2.1 1 && mv_c6 cand x.1.cls (mi a).1 i)
  | 20 => mv_c20 x.2.2.1 len a i
  | _ => true
def mv_vo (cand : List Cond) (mi : Nat → mv_I) (x : mv_I) (i : Instr) (pc len k a b : Nat) : Bool :=
  decide (decode x.2.1 pc = .ok (i, len)) && (bif Nat.ble 40 k then Nat.beq k (mv_oc i) && mv_okB cand x.1.cls x.1.name pc i len a b else mv_vk cand mi x i pc len k a b)
def mv_vL (cand : List Cond) (mi : Nat → mv_I) (x : mv_I) : Nat → List mv_E → Bool
  | _, [] => true
  | pc, e :: t => Nat.beq e.2.1 pc && (mv_vo cand mi x e.1 e.2.1 e.2.2.1 e.2.2.2.1 e.2.2.2.2.1 e.2.2.2.2.2 && mv_vL cand mi x (e.2.1 + e.2.2.1) t)
def mv_vq (cand : List Cond) (x : mv_I) : Bool := match x.2.2.2.2.2.1 with
  | 0 => x.2.2.2.2.2.2.2.isEmpty && (decide (Cond.instanceMethod x.1 ∈ cand) && (decide (Cond.selects x.1.cls x.1 x.1 ∈ cand) && (match vwCl[x.2.2.2.2.2.2.1]? with
    | some q => decide (q.1 = x.1.cls)
    | none => false)))
  | 1 => x.2.2.2.2.2.2.2.isEmpty && decide (Cond.static x.1 ∈ cand)
  | 2 => x.2.2.2.2.2.2.2.isEmpty && (decide (Cond.instanceMethod x.1 ∈ cand) && (decide (x.1.name = "<init>") && decide (x.2.2.2.1 = none)))
  | 3 => decide (Cond.static x.1 ∈ cand)
  | _ => false
/-- the word of a method's code -/
def mv_hw (x : mv_I) : Cond := bif Nat.beq x.2.2.2.2.2.1 3 then Cond.codeWith x.1 x.2.1 x.2.2.1 x.2.2.2.1 x.2.2.2.2.2.2.2 else Cond.code x.1 x.2.1 x.2.2.1 x.2.2.2.1
def mv_vp (cand : List Cond) (x : mv_I) : Bool :=
  ((plainName x.1.cls && decide (x.1.cls ≠ "java/lang/invoke/MethodHandle")) && (decide (x.1.cls ≠ "java/lang/invoke/VarHandle") && Nat.ble x.2.2.1 80)) &&
  (decide ((parseMethodDescriptor x.1.desc).map (fun d => d.parameters.length) = some x.2.2.2.2.1) && decide (Cond.initialized x.1.cls ∈ cand))
def mv_vh (cand : List Cond) (xn : Nat → Nat) (x : mv_I) : Bool :=
  x.2.2.2.2.2.2.2.all fun q => !(Nat.beq q.2.2.2 0) && (Nat.blt (xn q.2.2.2) 3 && decide (Cond.classLink x.1.cls q.2.2.2 (mv_ex (xn q.2.2.2)) ∈ cand))
def mv_vm (cand : List Cond) (xn : Nat → Nat) (x : mv_I) : Bool := mv_vh cand xn x && (bif Nat.beq x.2.2.2.2.2.1 9 then true else mv_vp cand x && mv_vq cand x)
/-- the tables are true -/
def mv_tb (bk : Nat → Nat → Option (List mv_E)) (mi : Nat → mv_I) (xn : Nat → Nat) (cand : Nat → List Cond) : Prop :=
  ∀ mid : Nat, (∀ w ∈ cand mid, w ∈ mv_big) ∧ mv_vm (cand mid) xn (mi mid) = true ∧ (∀ (pc : Nat) (L : List mv_E), bk mid pc = some L → mv_vL (cand mid) mi (mi mid) pc L = true) ∧ ((mi mid).2.2.2.2.2.1 ≠ 9 → mv_hw (mi mid) ∈ mv_big)
/-- some end that K takes is the machine's -/
def mv_ends (l : Launch) (D : va_G) (cs : ClassId × ClassId × ClassId) (r : Nat → Int32) (ba b : Nat) (x : mv_I) (dep : Nat) (loc : mv_L) (st : List mv_V) (h : List mv_C) (nc ns pc : Nat) (K : mv_K) : Prop :=
  ∃ (g2 : mv_B) (res : Nat × mv_V) (h2 : List mv_C) (c2 n2 : Nat), mv_in g2 r ∧ res.1 < 5 ∧ K g2 res h2 c2 n2 = true ∧ mv_run l D cs r ba b x dep loc st h nc ns pc res h2 c2 n2
def mv_good (l : Launch) (D : va_G) (cs : ClassId × ClassId × ClassId) (r : Nat → Int32) (ba b : Nat) (mi : Nat → mv_I) (cand : Nat → List Cond) (J : mv_J) : Prop :=
  ∀ (dep mid pc : Nat) (L : List mv_E) (loc : mv_L) (st : List mv_V) (h : List mv_C) (nc ns : Nat) (g : mv_B) (K : mv_K), J dep mid pc L loc st h nc ns g K = true → mv_vL (cand mid) mi (mi mid) pc L = true → mv_in g r → mv_ends l D cs r ba b (mi mid) dep loc st h nc ns pc K
theorem mv_tk_ok : ∀ (n : Nat) (st acc as rest : List mv_V), mv_tk n st acc = some (as, rest) → ∃ u : List mv_V, u.length = n ∧ st = u ++ rest ∧ as = u.reverse ++ acc
  | 0, st, acc, as, rest, h => by
    have h : some (acc, st) = some (as, rest) := h
    cases h
    exact ⟨[], rfl, rfl, rfl⟩
  | n + 1, [], acc, as, rest, h => by cases h
  | n + 1, v :: s, acc, as, rest, h => by
    obtain ⟨u, h1, h2, h3⟩ := mv_tk_ok n s (v :: acc) as rest h
    exact ⟨v :: u, by rw [List.length_cons, h1], by rw [h2]; rfl, by rw [h3, List.reverse_cons, List.append_assoc]; rfl⟩
theorem mv_hd_none {xn : Nat → Nat} {pc x : Nat} : ∀ {hh : List (Nat × Nat × Nat × Nat)}, mv_hd xn hh pc x = none → ∀ q ∈ hh, (Nat.ble q.1 pc && Nat.blt pc q.2.1) = false ∨ xn q.2.2.2 ≠ x
  | [], _, q, hq => by cases hq
  | y :: t, h, q, hq => by
    have h : (bif Nat.ble y.1 pc && Nat.blt pc y.2.1 && Nat.beq (xn y.2.2.2) x then some y.2.2.1 else mv_hd xn t pc x) = none := h
    rcases mv_cnd h with ⟨-, h1⟩ | ⟨h0, h1⟩
    · cases h1
    · rcases List.mem_cons.mp hq with rfl | hq
      · cases h2 : Nat.ble q.1 pc && Nat.blt pc q.2.1
        · exact Or.inl rfl
        · rw [h2, Bool.true_and] at h0
          exact Or.inr (mv_nbeq h0)
      · exact mv_hd_none h1 q hq
theorem mv_hd_some {xn : Nat → Nat} {pc x hp : Nat} : ∀ {hh : List (Nat × Nat × Nat × Nat)}, mv_hd xn hh pc x = some hp → ∃ (pre : List (Nat × Nat × Nat × Nat)) (q : Nat × Nat × Nat × Nat) (suf : List (Nat × Nat × Nat × Nat)), hh = pre ++ q :: suf ∧ (∀ z ∈ pre, (Nat.ble z.1 pc && Nat.blt pc z.2.1) = false ∨ xn z.2.2.2 ≠ x) ∧ (Nat.ble q.1 pc && Nat.blt pc q.2.1) = true ∧ xn q.2.2.2 = x ∧ q.2.2.1 = hp
  | [], h => by cases h
  | y :: t, h => by
    have h : (bif Nat.ble y.1 pc && Nat.blt pc y.2.1 && Nat.beq (xn y.2.2.2) x then some y.2.2.1 else mv_hd xn t pc x) = some hp := h
    rcases mv_cnd h with ⟨h0, h1⟩ | ⟨h0, h1⟩
    · rw [Bool.and_eq_true] at h0
      exact ⟨[], y, t, rfl, (fun z hz => by cases hz), h0.1, mv_beq h0.2, Option.some.inj h1⟩
    · obtain ⟨pre, q, suf, e1, e2, e3⟩ := mv_hd_some h1
      refine ⟨y :: pre, q, suf, by rw [e1]; rfl, fun z hz => ?_, e3⟩
      rcases List.mem_cons.mp hz with rfl | hz
      · cases h2 : Nat.ble z.1 pc && Nat.blt pc z.2.1
        · exact Or.inl rfl
        · rw [h2, Bool.true_and] at h0
          exact Or.inr (mv_nbeq h0)
      · exact e2 z hz
theorem mv_cov {q : Nat × Nat × Nat × Nat} {pc : Nat} {v : Bool} (h : (Nat.ble q.1 pc && Nat.blt pc q.2.1) = v) : covers ⟨q.1, q.2.1, q.2.2.1, q.2.2.2⟩ pc = v := by
  have e1 : Nat.ble q.1 pc = decide (q.1 ≤ pc) := by
    cases hq : Nat.ble q.1 pc
    · exact (decide_eq_false (Nat.not_le.mpr (mv_nble hq))).symm
    · exact (decide_eq_true (mv_ble hq)).symm
  have e2 : Nat.blt pc q.2.1 = decide (pc < q.2.1) := by
    cases hq : Nat.blt pc q.2.1
    · exact (decide_eq_false (Nat.not_lt.mpr (mv_nblt hq))).symm
    · exact (decide_eq_true (mv_blt hq)).symm
  rw [e1, e2] at h
  exact h
theorem mv_ncs_ok {x y : Nat} (hx : x < 3) (hy : y < 3) (h : y ≠ x) : (mv_ex x, mv_ex y) ∈ mv_ncs := by
  have h1 : x = 0 ∨ x = 1 ∨ x = 2 := by omega
  have h2 : y = 0 ∨ y = 1 ∨ y = 2 := by omega
  unfold mv_ncs
  rcases h1 with rfl | rfl | rfl <;> rcases h2 with rfl | rfl | rfl <;> first | exact absurd rfl h | simp
theorem mv_cst_ok {x : Nat} (hx : x < 3) : Cond.castable (mv_ex x) (mv_ex x) ∈ mv_nst := by
  have h1 : x = 0 ∨ x = 1 ∨ x = 2 := by omega
  unfold mv_nst
  rcases h1 with rfl | rfl | rfl <;> simp [mv_ex]
theorem mv_tw {a : Nat} (ha : a < 3) : (∀ w ∈ Cond.classLink RX7 (mv_tk2 a) (mv_ex a) :: Cond.initialized (mv_ex a) :: vx_atS RX7 (mv_tc2 a) (mv_ex a) mv_xnm, (w ∈ mv_big ∨ (w ∈ mv_nst ∧ w.onTables = true)) ∧ vx_ot w = true) ∧ Bundle.fit (mv_ex a) = true := by
  have h1 : a = 0 ∨ a = 1 ∨ a = 2 := by omega
  rcases h1 with rfl | rfl | rfl
  · exact mv_tw0
  · exact mv_tw1
  · exact mv_tw2
end
section
/-! ===== ends: a step more; a return; a throw; a method as a contract; behind a call ===== -/
theorem mv_run_of {l : Launch} {D : va_G} {cs : ClassId × ClassId × ClassId} {r : Nat → Int32} {ba b dep : Nat} {X : mv_I} {loc : mv_L} {st : List mv_V} {h : List mv_C} {nc ns pc pc2 : Nat} {res : Nat × mv_V} {h2 : List mv_C} {c2 n2 : Nat} {x : Option Nat × mv_L × List mv_V × List mv_C × Nat × Nat}
    (hm : mv_mn h nc ns x) (hr : mv_run l D cs r ba b X dep x.2.1 x.2.2.1 x.2.2.2.1 x.2.2.2.2.1 x.2.2.2.2.2 pc2 res h2 c2 n2)
    (hW : ∀ (p : Program) (e : Env) (R : Room) (s : State) (m : MethodId) (args : Array Value) (below : List Frame) (meth : Method) (c : Code) (Q : State → Prop), mv_fr X p s m args meth c → mv_en D cs r ba b s → dep ≤ R.frames → 100 * dep ≤ R.locals → x.2.2.2.2.1 ≤ R.cells → x.2.2.2.2.2 ≤ R.slots →
      mv_W p l e R s m args below meth c Q D cs r ba b X.2.2.1 x.2.1 x.2.2.1 x.2.2.2.1 x.2.2.2.2.1 x.2.2.2.2.2 pc2 → mv_W p l e R s m args below meth c Q D cs r ba b X.2.2.1 loc st h nc ns pc) :
    mv_run l D cs r ba b X dep loc st h nc ns pc res h2 c2 n2 := by
  obtain ⟨m1, m2, m3⟩ := hm
  obtain ⟨r1, r2, r3, r4⟩ := hr
  refine ⟨Nat.le_trans m1 r1, Nat.le_trans m2 r2, by omega, fun p e R s m args below meth c hf he h1 h2 h3 h4 => ?_⟩
  exact hW p e R s m args below meth c _ hf he h1 h2 (Nat.le_trans r1 h3) (Nat.le_trans r2 h4) (r4 p e R s m args below meth c hf he h1 h2 h3 h4)
theorem mv_x0_ok {l : Launch} {D : va_G} {cs : ClassId × ClassId × ClassId} {r : Nat → Int32} {ba b : Nat} {mi : Nat → mv_I} {cand : Nat → List Cond} {J : mv_J} (hJ : mv_good l D cs r ba b mi cand J) {S : mv_S} {dep mid pc : Nat} {e : mv_E} {t : List mv_E} {loc : mv_L} {st : List mv_V} {h : List mv_C} {nc ns : Nat} {g : mv_B} {K : mv_K} (h1 : mv_x0 J S dep mid pc e t loc st h nc ns g K = true)
    (hv : mv_vL (cand mid) mi (mi mid) pc (e :: t) = true) (hv2 : mv_vL (cand mid) mi (mi mid) (e.2.1 + e.2.2.1) t = true) (hg : mv_in g r)
    (hS : ∀ x, S = some (.inr x) → mv_mn h nc ns x ∧ ∀ (p : Program) (en : Env) (R : Room) (s : State) (m : MethodId) (args : Array Value) (below : List Frame) (meth : Method) (c : Code) (Q : State → Prop), mv_fr (mi mid) p s m args meth c → mv_en D cs r ba b s → dep ≤ R.frames → 100 * dep ≤ R.locals → x.2.2.2.2.1 ≤ R.cells → x.2.2.2.2.2 ≤ R.slots →
      mv_Wx p l en R s m args below meth c Q D cs r ba b (mi mid).2.2.1 x (e.2.1 + e.2.2.1) → mv_W p l en R s m args below meth c Q D cs r ba b (mi mid).2.2.1 loc st h nc ns pc) :
    mv_ends l D cs r ba b (mi mid) dep loc st h nc ns pc K := by
  unfold mv_x0 at h1
  split at h1
  · obtain ⟨g2, res, h2, c2, n2, q1, q2, q3, q4⟩ := hJ _ _ _ _ _ _ _ _ _ _ _ h1 hv2 hg
    obtain ⟨s1, s2⟩ := hS _ rfl
    exact ⟨g2, res, h2, c2, n2, q1, q2, q3, mv_run_of s1 q4 s2⟩
  · obtain ⟨g2, res, h2, c2, n2, q1, q2, q3, q4⟩ := hJ _ _ _ _ _ _ _ _ _ _ _ h1 rfl hg
    obtain ⟨s1, s2⟩ := hS _ rfl
    exact ⟨g2, res, h2, c2, n2, q1, q2, q3, mv_run_of s1 q4 s2⟩
  · obtain ⟨g2, q1, q2⟩ := mv_pt_ok hg h1
    exact hJ _ _ _ _ _ _ _ _ _ _ _ q2 hv q1
  · cases h1
theorem mv_Sf {l : List Loc} {ba : Nat} {H0 H : Heap} (hS : va_S (fun q => ba ≤ q) H0 H l) : ∀ q ∈ l, ba ≤ q.base := hS.2.2
/-- an end by a return -/
theorem mv_ret0 {l : Launch} {D : va_G} {cs : ClassId × ClassId × ClassId} {r : Nat → Int32} {ba b dep : Nat} {X : mv_I} {loc : mv_L} {st : List mv_V} {h : List mv_C} {nc ns pc : Nat} {res : Nat × mv_V} (h2 : res.1 < 2)
    (hW : ∀ (p : Program) (e : Env) (R : Room) (s : State) (m : MethodId) (args : Array Value) (below : List Frame) (meth : Method) (c : Code) (H : Heap) (locs : List Loc) (ls : Array Slot), mv_fr X p s m args meth c → (∀ t : State, t.heap = H → s.WarmedH t.vm → mv_Qc D cs r ba b res h args s (.returned (mv_rv r ba b res)) t) → (∀ q ∈ locs, ba ≤ q.base) →
      W p l e R s m args below meth c H locs nc ns (MQ below (mv_Qc D cs r ba b res h) args s nc ns (fun q => ba ≤ q)) (F0 m pc ls (st.map (mv_val r ba b)))) :
    mv_run l D cs r ba b X dep loc st h nc ns pc res h nc ns := by
  refine ⟨Nat.le_refl _, Nat.le_refl _, rfl, fun p e R s m args below meth c hf he _ _ _ _ H locs ls hH hS hl hn => vx_ret (hW p e R s m args below meth c H locs ls hf (fun t ht _ => ?_) hS.2.2)⟩
  exact ⟨h2, rfl, by rw [ht]; exact hH, by rw [ht]; exact hS.1, fun q q1 q2 => by rw [ht]; exact hS.2.1 q q1 q2⟩
theorem mv_rets1 {i : Instr} {ret : Option FieldType} (h : mv_rets i 1 ret = true) : i = .ireturn ∧ ret = some .int := by
  unfold mv_rets at h
  split at h <;> simp_all
theorem mv_rets2 {i : Instr} {ret : Option FieldType} (h : mv_rets i 2 ret = true) : i = .ireturn ∧ ret = some .boolean := by
  unfold mv_rets at h
  split at h <;> simp_all
theorem mv_rets3 {i : Instr} {ret : Option FieldType} (h : mv_rets i 3 ret = true) : i = .lreturn ∧ ret = some .long := by
  unfold mv_rets at h
  split at h <;> simp_all
theorem mv_rets4 {i : Instr} {ret : Option FieldType} (h : mv_rets i 4 ret = true) : i = .dreturn ∧ ret = some .double := by
  unfold mv_rets at h
  split at h <;> simp_all
theorem mv_rets0 {i : Instr} {ret : Option FieldType} (h : mv_rets i 0 ret = true) : i = .return_ ∧ ret = none := by
  unfold mv_rets at h
  split at h <;> simp_all
theorem mv_rets5 {i : Instr} {ret : Option FieldType} (h : mv_rets i 5 ret = true) : i = .areturn ∧ ∃ rt, ret = some rt ∧ ((∃ n, rt = .object n) ∨ ∃ t, rt = .array t) := by
  unfold mv_rets at h
  split at h
  · simp at h
  · simp at h
  · simp at h
  · simp at h
  · refine ⟨rfl, ?_⟩
    split at h
    · exact ⟨_, rfl, Or.inl ⟨_, rfl⟩⟩
    · exact ⟨_, rfl, Or.inr ⟨_, rfl⟩⟩
    · simp at h
  · cases h
theorem mv_nar {z : Nat} (h : z < 2) : narrow .boolean (.int (nI z)) = .int (nI z) := by
  have h1 : z = 0 ∨ z = 1 := by omega
  rcases h1 with rfl | rfl <;> rfl
theorem mv_x1_ok {l : Launch} {D : va_G} {cs : ClassId × ClassId × ClassId} {r : Nat → Int32} {ba b : Nat} {mi : Nat → mv_I} {cand : Nat → List Cond} {J : mv_J} (hJ : mv_good l D cs r ba b mi cand J) {dep mid pc len a k : Nat} {i : Instr} {t : List mv_E} {loc : mv_L} {st : List mv_V} {h : List mv_C} {nc ns : Nat} {g : mv_B} {K : mv_K} (h1 : mv_x1 J dep mid pc (i, pc, len, 1, a, k) t loc st h nc ns g K = true)
    (hv : mv_vL (cand mid) mi (mi mid) pc ((i, pc, len, 1, a, k) :: t) = true) (hd : decode (mi mid).2.1 pc = .ok (i, len)) (hk : (Nat.beq len 1 && mv_rets i a (mi mid).2.2.2.1) = true) (hg : mv_in g r) :
    mv_ends l D cs r ba b (mi mid) dep loc st h nc ns pc K := by
  obtain ⟨hlen, hk⟩ := mv_a2 hk
  cases mv_beq hlen
  unfold mv_x1 at h1
  split at h1
  · obtain ⟨h2, h3⟩ := (mv_cndn (α := Unit) (x := some ()) (z := ()) (c := Nat.beq a 0 && K g (0, (0, 0)) h nc ns) (by
      have h1 : (bif Nat.beq a 0 then K g (0, (0, 0)) h nc ns else false) = true := h1
      cases hq : Nat.beq a 0
      · rw [hq] at h1; cases h1
      · rw [hq] at h1
        have h1 : K g (0, (0, 0)) h nc ns = true := h1
        rw [h1]; rfl))
    obtain ⟨h2, h4⟩ := mv_a2 h2
    cases mv_beq h2
    obtain ⟨rfl, hr⟩ := mv_rets0 hk
    refine ⟨g, (0, (0, 0)), h, nc, ns, hg, (by show (0 : Nat) < 5; omega), h4, mv_ret0 (by show (0 : Nat) < 2; omega) fun p e R s m args below meth c H locs ls hf hq hl => ?_⟩
    exact W.vret hf.1 hf.2.1 (hf.2.2.2.2.2.1.trans hr) hq hl hd hf.2.2.2.2.2.2.1
  · rename_i v
    unfold mv_x1v at h1
    split at h1
    · rename_i ea
      cases (show a = 1 from ea)
      obtain ⟨rfl, hr⟩ := mv_rets1 hk
      rcases mv_cnd h1 with ⟨hi, h1⟩ | ⟨-, h1⟩
      · refine ⟨g, (1, v), h, nc, ns, hg, (by show (1 : Nat) < 5; omega), h1, mv_ret0 (by show (1 : Nat) < 2; omega) fun p e R s m args below meth c H locs ls hf hq hl => ?_⟩
        have hq : ∀ t : State, t.heap = H → s.WarmedH t.vm → mv_Qc D cs r ba b (1, v) h args s (.returned (some (mv_val r ba b v))) t := hq
        show W p l e R s m args below meth c H locs nc ns _ (F0 m pc ls [mv_val r ba b v])
        rw [mv_val_I hi] at hq ⊢
        exact W.iret hf.1 hf.2.1 (hf.2.2.2.2.2.1.trans hr) hq hl hd hf.2.2.2.2.2.2.1
      · cases h1
    · rename_i ea
      cases (show a = 2 from ea)
      obtain ⟨rfl, hr⟩ := mv_rets2 hk
      split at h1
      · rename_i z hz
        rcases mv_cnd h1 with ⟨h2, h1⟩ | ⟨-, h1⟩
        · rw [mv_fo_eq] at h1
          obtain ⟨i1, i2⟩ := mv_cI_ok hg hz
          refine ⟨g, (1, (0, z)), h, nc, ns, hg, (by show (1 : Nat) < 5; omega), h1, mv_ret0 (by show (1 : Nat) < 2; omega) fun p e R s m args below meth c H locs ls hf hq hl => ?_⟩
          have hq : ∀ t : State, t.heap = H → s.WarmedH t.vm → mv_Qc D cs r ba b (1, (0, z)) h args s (.returned (some (.int (nI z)))) t := hq
          show W p l e R s m args below meth c H locs nc ns _ (F0 m pc ls [mv_val r ba b v])
          rw [mv_val_I i1, i2]
          exact W.zret hf.1 hf.2.1 (hf.2.2.2.2.2.1.trans hr) (mv_nar (mv_blt h2)) hq hl hd hf.2.2.2.2.2.2.1
        · cases h1
      · obtain ⟨g2, q1, q2⟩ := mv_pt_ok hg h1
        exact hJ _ _ _ _ _ _ _ _ _ _ _ q2 hv q1
      · cases h1
    · rename_i ea
      cases (show a = 3 from ea)
      obtain ⟨rfl, hr⟩ := mv_rets3 hk
      rcases mv_cnd h1 with ⟨hi, h1⟩ | ⟨-, h1⟩
      · refine ⟨g, (1, v), h, nc, ns, hg, (by show (1 : Nat) < 5; omega), h1, mv_ret0 (by show (1 : Nat) < 2; omega) fun p e R s m args below meth c H locs ls hf hq hl => ?_⟩
        have hq : ∀ t : State, t.heap = H → s.WarmedH t.vm → mv_Qc D cs r ba b (1, v) h args s (.returned (some (mv_val r ba b v))) t := hq
        show W p l e R s m args below meth c H locs nc ns _ (F0 m pc ls [mv_val r ba b v])
        rw [mv_val_J hi] at hq ⊢
        exact W.lret hf.1 hf.2.1 (hf.2.2.2.2.2.1.trans hr) hq hl hd hf.2.2.2.2.2.2.1
      · cases h1
    · rename_i ea
      cases (show a = 4 from ea)
      obtain ⟨rfl, hr⟩ := mv_rets4 hk
      rcases mv_cnd h1 with ⟨hi, h1⟩ | ⟨-, h1⟩
      · refine ⟨g, (1, v), h, nc, ns, hg, (by show (1 : Nat) < 5; omega), h1, mv_ret0 (by show (1 : Nat) < 2; omega) fun p e R s m args below meth c H locs ls hf hq hl => ?_⟩
        have hq : ∀ t : State, t.heap = H → s.WarmedH t.vm → mv_Qc D cs r ba b (1, v) h args s (.returned (some (mv_val r ba b v))) t := hq
        show W p l e R s m args below meth c H locs nc ns _ (F0 m pc ls [mv_val r ba b v])
        rw [mv_val_D hi] at hq ⊢
        exact W.dret hf.1 hf.2.1 (hf.2.2.2.2.2.1.trans hr) hq hl hd hf.2.2.2.2.2.2.1
      · cases h1
    · rename_i ea
      cases (show a = 5 from ea)
      obtain ⟨rfl, rt, hr, hrt⟩ := mv_rets5 hk
      rcases mv_cnd h1 with ⟨hi, h1⟩ | ⟨-, h1⟩
      · refine ⟨g, (1, v), h, nc, ns, hg, (by show (1 : Nat) < 5; omega), h1, mv_ret0 (by show (1 : Nat) < 2; omega) fun p e R s m args below meth c H locs ls hf hq hl => ?_⟩
        have hq : ∀ t : State, t.heap = H → s.WarmedH t.vm → mv_Qc D cs r ba b (1, v) h args s (.returned (some (mv_val r ba b v))) t := hq
        show W p l e R s m args below meth c H locs nc ns _ (F0 m pc ls [mv_val r ba b v])
        rw [mv_val_R hi] at hq ⊢
        exact W.aret hf.1 hf.2.1 (hf.2.2.2.2.2.1.trans hr) hrt (Or.inr ⟨_, rfl⟩) hq hl hd hf.2.2.2.2.2.2.1
      · cases h1
    · cases h1
  · cases h1
end
section
/-! ===== a throw; a method as a contract; behind a call; a handler ===== -/
theorem mv_hat {D : va_G} {cs : ClassId × ClassId × ClassId} {r : Nat → Int32} {ba b : Nat} {s : State} {args : Array Value} {L : List Cond} (hts : ∀ w ∈ mv_big, w.before args s = true) (he : ∀ w ∈ mv_nst, va_Nw w s) (h : ∀ w ∈ L, (w ∈ mv_big ∨ (w ∈ mv_nst ∧ w.onTables = true)) ∧ vx_ot w = true) : ∀ w ∈ L, w.before args s = true := by
  intro w hw
  rcases (h w hw).1 with h1 | ⟨h1, h2⟩
  · exact hts w h1
  · exact va_Nw.use h2 (he w h1)
theorem mv_any {own : String} {is : Nat} (h : mv_str.any (fun q => decide (q.1 = own) && Nat.beq q.2.1 is) = true) : ∃ tx : String, (own, is, tx) ∈ mv_str := by
  obtain ⟨q, hq, h1⟩ := List.any_eq_true.mp h
  obtain ⟨h1, h2⟩ := mv_a2 h1
  have e1 : q.1 = own := of_decide_eq_true h1
  have e2 : q.2.1 = is := mv_beq h2
  refine ⟨q.2.2, ?_⟩
  rw [← e1, ← e2]
  exact hq
theorem mv_x2_ok {l : Launch} (hst : l.stackTraces = false) {D : va_G} {cs : ClassId × ClassId × ClassId} {r : Nat → Int32} {ba b : Nat} {X : mv_I} {dep pc len a k : Nat} {i : Instr} {loc : mv_L} {st : List mv_V} {h : List mv_C} {nc ns : Nat} {g : mv_B} {K : mv_K} (h1 : mv_x2 dep (i, pc, len, 2, a, k) st h nc ns g K = true)
    (hd : decode X.2.1 pc = .ok (i, len)) (hk0 : (Nat.beq len 3 && mv_thr X.2.1 pc i X.1.cls a (mv_nk i) (k % 65536) (k / 65536) X.2.2.2.2.2.2.2) = true) (hg : mv_in g r) :
    mv_ends l D cs r ba b X dep loc st h nc ns pc K := by
  obtain ⟨hlen, hk⟩ := mv_a2 hk0
  clear hk0
  cases mv_beq hlen
  unfold mv_x2 at h1
  rcases mv_cnd h1 with ⟨h2, h1⟩ | ⟨-, h1⟩
  · obtain ⟨h2, h3⟩ := mv_a2 h2
    have h2 := mv_blt h2
    have h3 := mv_ble h3
    rw [mv_fo_eq, mv_fo_eq, mv_sn_eq] at h1
    have h1 : K g (a + 2, (0, 0)) (h ++ [(3, [])]) (nc + 1) (ns + 6) = true := h1
    unfold mv_thr at hk
    generalize hik : mv_nk i = ik at hk
    simp only [Bool.and_eq_true, Bool.or_eq_true, decide_eq_true_eq] at hk
    obtain ⟨⟨hi, hown⟩, ⟨ha, ⟨hk1, hk2⟩⟩, ⟨hs, hem⟩, d3, hdd⟩ := hk
    have ha := mv_blt ha
    have hk1 := mv_beq hk1
    have hk2 := mv_beq hk2
    subst hi
    rw [hk1] at hd
    rw [hk2] at hdd
    obtain ⟨tx, htx⟩ := mv_any hs
    have hh : X.2.2.2.2.2.2.2 = [] := List.isEmpty_iff.mp hem
    refine ⟨g, (a + 2, (0, 0)), h ++ [(3, [])], nc + 1, ns + 6, hg, (by show a + 2 < 5; omega), h1, Nat.le_succ _, Nat.le_add_right _ _, by rw [List.length_append]; show h.length + (nc + 1) = h.length + 1 + nc; omega, fun p e R s m args below meth c hf he hr1 hr2 hr3 hr4 H locs ls hH hS hl hn => ?_⟩
    obtain ⟨f1, f2, f3, f4, f5, f6, f7, f8, f9⟩ := hf
    obtain ⟨e1, e2, e3, e4, e5, e6, e7, e8⟩ := he
    obtain ⟨sa, hsa⟩ := e6 _ htx
    obtain ⟨t1, t2⟩ := mv_tw ha
    rw [hown] at f4 hsa
    have ht := mv_hat (D := D) (cs := cs) (r := r) (ba := ba) (b := b) f5 e5 t1
    have hcs : ((st.map (mv_val r ba b)).map fun v => v.category).sum ≤ 8 := by
      rw [mv_csum r ba b st]; exact h3
    have hx : ∀ t : State, s.vm.Alike t.vm → H.size < t.heap.size → (∀ q : Nat, q < H.size → t.heap[q]? = H[q]?) → mv_XC D cs r ba b (a + 2, (0, 0)) (h ++ [(3, [])]) (mv_ex a) s t := by
      intro t _ z1 z2
      refine ⟨Nat.le_add_left _ _, rfl, ?_, ?_, ?_, ?_⟩
      · rw [List.length_append]
        have := hH.1
        show ba + (h.length + 1) ≤ _
        omega
      · intro k c hc
        by_cases hlt : k < h.length
        · rw [List.getElem?_append_left hlt] at hc
          exact (hH.2 k c hc).kept (z2 _ (by rw [hH.1]; omega))
        · rw [List.getElem?_append_right (by omega)] at hc
          have hz : k - h.length < 1 := (List.getElem?_eq_some_iff.mp hc).1
          have hz0 : k - h.length = 0 := by omega
          rw [hz0] at hc
          cases hc
          exact trivial
      · exact Nat.le_trans hS.1 (Nat.le_of_lt z1)
      · intro q q1 q2
        rw [z2 q (Nat.lt_of_lt_of_le q1 hS.1)]
        exact hS.2.1 q q1 q2
    have hno : ∀ y ∈ c.exceptionTable.toList, False := by
      intro y hy
      rw [f9, hh] at hy
      cases hy
    rcases hdd with ⟨d4, d6, d9⟩ | ⟨d4, d6, d9⟩
    · exact mv_throwS (names := mv_xnm) f1 f2 hst f4 t2 mv_xfit (ht _ List.mem_cons_self) (ht _ (List.mem_cons_of_mem _ List.mem_cons_self)) hsa (fun w hw => ht _ (List.mem_cons_of_mem _ (List.mem_cons_of_mem _ hw))) (fun w hw => (t1 w hw).2) e3 e4 hS (hl.1.trans f3.symm) hd d3 d4 d6 d9 (fun y hy => absurd (hno y hy) id) (by show 2 + 3 < R.frames; omega) (by show _ + (13 * (2 + 1) + 43) ≤ R.locals; omega) hr3 hr4 f7 hx hS.2.2 (Nat.le_refl _) (Nat.le_refl _)
    · exact mv_throwSW (names := mv_xnm) f1 f2 hst f4 t2 mv_xfit (ht _ List.mem_cons_self) (ht _ (List.mem_cons_of_mem _ List.mem_cons_self)) hsa (fun w hw => ht _ (List.mem_cons_of_mem _ (List.mem_cons_of_mem _ hw))) (fun w hw => (t1 w hw).2) e3 e4 hS (hl.1.trans f3.symm) hd d3 d4 d6 d9 (fun y hy => absurd (hno y hy) id) (by show 2 + 3 < R.frames; omega) (by show _ + (13 * (2 + 1) + 43) ≤ R.locals; omega) hr3 hr4 f7 hx hS.2.2 (Nat.le_refl _) (Nat.le_refl _)
  · cases h1
theorem mv_x3_ok {l : Launch} {D : va_G} {cs : ClassId × ClassId × ClassId} {r : Nat → Int32} {ba b : Nat} {mi : Nat → mv_I} {cand : Nat → List Cond} {J : mv_J} (hJ : mv_good l D cs r ba b mi cand J) {mid : Nat} (hc : ∀ w ∈ cand mid, w ∈ mv_big) {dep pc len a k : Nat} {i : Instr} {t : List mv_E} {loc : mv_L} {st : List mv_V} {h : List mv_C} {nc ns : Nat} {g : mv_B} {K : mv_K} (h1 : mv_x3 J dep mid (i, pc, len, 3, a, k) t loc st h nc ns g K = true)
    (hv : mv_vL (cand mid) mi (mi mid) (pc + len) t = true) (hd : decode (mi mid).2.1 pc = .ok (i, len)) (hk0 : (Nat.beq len 3 && mv_c3 (cand mid) (mi mid).1.cls i) = true) (hg : mv_in g r) :
    mv_ends l D cs r ba b (mi mid) dep loc st h nc ns pc K := by
  obtain ⟨hlen, hk⟩ := mv_a2 hk0
  clear hk0
  cases mv_beq hlen
  unfold mv_c3 at hk
  split at hk
  · rename_i idx
    simp only [Bool.and_eq_true, decide_eq_true_eq] at hk
    obtain ⟨k1, k2, k3⟩ := hk
    unfold mv_x3 at h1
    split at h1
    · rename_i v s2
      rcases mv_cnd h1 with ⟨h2, h1⟩ | ⟨-, h1⟩
      · simp only [Bool.and_eq_true] at h2
        obtain ⟨h2, h3, h4⟩ := h2
        obtain ⟨g2, res, h2', c2, n2, q1, q2, q3, q4⟩ := hJ _ _ _ _ _ _ _ _ _ _ _ h1 hv hg
        refine ⟨g2, res, h2', c2, n2, q1, q2, q3, mv_run_of (x := (none, loc, s2, h, nc, ns)) ⟨Nat.le_refl _, Nat.le_refl _, rfl⟩ q4 fun p e R s m args below meth c Q hf he r1 r2 _ _ kk H locs ls hH hS hl hn => ?_⟩
        show W p l e R s m args below meth c H locs nc ns Q (F0 m pc ls (mv_val r ba b v :: s2.map (mv_val r ba b)))
        rw [mv_val_R h2]
        have hcs : ((s2.map (mv_val r ba b)).map fun v => v.category).sum ≤ 8 := by
          rw [mv_csum r ba b s2]; exact mv_ble h3
        have h4 := mv_blt h4
        exact W.objInit hf.1 hf.2.1 hf.2.2.2.1 (hf.2.2.2.2.1 _ (hc _ k1)) (hf.2.2.2.2.1 _ (hc _ k2)) (hf.2.2.2.2.1 _ (hc _ k3)) rfl (hl.1.trans hf.2.2.1.symm) rfl hd (by omega) (by show 2 * 0 + _ + 12 ≤ _; omega) (kk H locs ls hH hS hl hn)
      · cases h1
    · cases h1
  · cases hk
/-- from the entry on -/
theorem mv_ent {l : Launch} {D : va_G} {cs : ClassId × ClassId × ClassId} {r : Nat → Int32} {ba b d : Nat} {x : mv_I} {as : List mv_V} {h : List mv_C} {res : Nat × mv_V} {h2 : List mv_C} {c2 n2 : Nat} (hR : mv_run l D cs r ba b x d (mv_ag 0 as) [] h 0 0 0 res h2 c2 n2) (hcs : mv_cs as ≤ x.2.2.1)
    {p : Program} {e : Env} {s : State} {m : MethodId} {args : Array Value} {below : List Frame} {meth : Method} {c : Code} (hf : mv_fr x p s m args meth c) (hP : mv_Pc D cs r ba b as h args s) :
    W p l e (mv_rm d c2 n2) s m args below meth c s.heap [] 0 0 (vx_MQ below (mv_Qc D cs r ba b res h2) (mv_XC D cs r ba b res h2) args s c2 n2 (fun q => ba ≤ q)) (entryFrame m args x.2.2.1) := by
  obtain ⟨ha, hen, hok⟩ := hP
  subst ha
  rw [lg_entry_eq]
  have hl := lv_entry (as.map (mv_val r ba b)) (n := x.2.2.1) (by rw [mv_lgs r ba b as]; exact hcs)
  rw [mv_args r ba b 0 as] at hl
  exact hR.2.2.2 p e (mv_rm d c2 n2) s m _ below meth c hf hen (Nat.le_refl _) (Nat.le_refl _) (Nat.le_refl _) (Nat.le_refl _) s.heap [] _ hok va_S.rf hl rfl
theorem mv_metC {l : Launch} {D : va_G} {cs : ClassId × ClassId × ClassId} {r : Nat → Int32} {ba b d : Nat} {x : mv_I} {as : List mv_V} {h : List mv_C} {res : Nat × mv_V} {h2 : List mv_C} {c2 n2 : Nat} (hR : mv_run l D cs r ba b x d (mv_ag 0 as) [] h 0 0 0 res h2 c2 n2) (hcs : mv_cs as ≤ x.2.2.1)
    (hy : plainName x.1.cls = true) (hh : x.2.2.2.2.2.2.2 = []) : vx_Met l x.1 (Cond.code x.1 x.2.1 x.2.2.1 x.2.2.2.1 :: mv_big) (mv_rm d c2 n2) (mv_Pc D cs r ba b as h) (mv_Qc D cs r ba b res h2) (mv_XC D cs r ba b res h2) c2 n2 (fun q => ba ≤ q) := by
  refine vx_ofW hy rfl fun p e s m args below meth c s₁ B hml ht hP => ?_
  have hts : ∀ w ∈ Cond.code x.1 x.2.1 x.2.2.1 x.2.2.2.1 :: mv_big, w.before args s = true := atoms_spec (ws := Cond.code x.1 x.2.1 x.2.2.1 x.2.2.2.1 :: mv_big) B.pre
  refine mv_ent hR hcs ⟨B.exec, B.bytes, hml, findClass_of_methodNamed B.named, fun w hw => hts w (List.mem_cons_of_mem _ hw), B.returns, B.notSynchronized, (name_of_methodNamed B.named B.method).1, ?_⟩ hP
  rw [hh]
  cases hq : c.exceptionTable.toList with
  | nil => rfl
  | cons y t => exact absurd (ht y (by rw [hq]; exact List.mem_cons_self)) id
theorem mv_metW {l : Launch} {D : va_G} {cs : ClassId × ClassId × ClassId} {r : Nat → Int32} {ba b d : Nat} {x : mv_I} {as : List mv_V} {h : List mv_C} {res : Nat × mv_V} {h2 : List mv_C} {c2 n2 : Nat} (hR : mv_run l D cs r ba b x d (mv_ag 0 as) [] h 0 0 0 res h2 c2 n2) (hcs : mv_cs as ≤ x.2.2.1)
    (hy : plainName x.1.cls = true) : vx_Met l x.1 (Cond.codeWith x.1 x.2.1 x.2.2.1 x.2.2.2.1 x.2.2.2.2.2.2.2 :: mv_big) (mv_rm d c2 n2) (mv_Pc D cs r ba b as h) (mv_Qc D cs r ba b res h2) (mv_XC D cs r ba b res h2) c2 n2 (fun q => ba ≤ q) := by
  refine vx_ofWH hy rfl fun p e s m args below meth c s₁ B hml hP => ?_
  have hts : ∀ w ∈ Cond.codeWith x.1 x.2.1 x.2.2.1 x.2.2.2.1 x.2.2.2.2.2.2.2 :: mv_big, w.before args s = true := atoms_spec (ws := Cond.codeWith x.1 x.2.1 x.2.2.1 x.2.2.2.1 x.2.2.2.2.2.2.2 :: mv_big) B.pre
  exact mv_ent hR hcs ⟨B.exec, B.bytes, hml, findClass_of_methodNamed B.named, fun w hw => hts w (List.mem_cons_of_mem _ hw), B.returns, B.notSynchronized, (name_of_methodNamed B.named B.method).1, vx_table (x := x.1) B (hts _ List.mem_cons_self)⟩ hP
end
section
/-! ===== behind a call; a handler ===== -/
section MVAF
variable {p : Program} {l : Launch} {e : Env} {R : Room} {s : State} {m : MethodId} {args : Array Value} {below : List Frame} {meth : Method} {c : Code} {H : Heap} {locs : List Loc} {nc ns : Nat} {Q : State → Prop}
variable {D : va_G} {cs : ClassId × ClassId × ClassId} {r : Nat → Int32} {ba b : Nat}
theorem mv_after {res : Nat × mv_V} {h h2 : List mv_C} {c2 n2 pc : Nat} {ls : Array Slot} {av : Array Value} {stv restv : List Value} (hr : vx_Run p l e R s m args below meth c H locs nc ns c2 n2 (F0 m pc ls stv) restv (mv_Qc D cs r ba b res h2 av) (mv_XC D cs r ba b res h2) (fun q => ba ≤ q))
    (hH : mv_hok D cs r ba b h H) (hS : va_S (fun q => ba ≤ q) s.heap H locs) (hn : s.heap.size + nc = H.size) (hc : h.length + c2 = h2.length)
    (kk : res.1 < 2 → ∀ (H1 : Heap) (locs1 : List Loc), mv_hok D cs r ba b h2 H1 → va_S (fun q => ba ≤ q) s.heap H1 locs1 → s.heap.size + (nc + c2) = H1.size → W p l e R s m args below meth c H1 locs1 (nc + c2) (ns + n2) Q (F0 m (pc + 3) ls ((mv_rv r ba b res).toList ++ restv)))
    (kx : 2 ≤ res.1 → ∀ (H1 : Heap) (locs1 : List Loc) (q9 : Addr) (ce : Cell), mv_hok D cs r ba b h2 H1 → va_S (fun q => ba ≤ q) s.heap H1 locs1 → s.heap.size + (nc + c2) = H1.size → H1[q9]? = some ce → ce.vm = .none → s.vm.findClass (mv_ex (res.1 - 2)) = some ce.cls → vx_W p l e R s m args below meth c H1 locs1 (nc + c2) (ns + n2) Q (F0 m pc ls restv) q9) :
    W p l e R s m args below meth c H locs nc ns Q (F0 m pc ls stv) := by
  intro T hT X
  rcases hr T hT X with ⟨v, st₀, t, T', L, h0, X', hL, e1, e2, ⟨q1, q2, q3, q4⟩, st⟩ | ⟨q, st₀, t, T', L, E, ce, h0, X', hL, e1, e2, ⟨x1, x2, x3, x4, x5⟩, hce, hcv, hcl, st⟩
  · obtain ⟨k1, k2, k3⟩ := vx_keep h0 e1 hS (fun _ _ z => z) (fun _ z => z) hL q4
    have hv : v = mv_rv r ba b res := Outcome.returned.inj q2
    have hk : mv_hok D cs r ba b h2 T'.heap := by rw [e1]; exact q3
    obtain ⟨t2, a1, b1⟩ := kk q1 T'.heap (locs ++ L) hk k3 (by rw [hk.1, ← hc]; have := hH.1; omega) T' rfl X'
    rw [← hv] at a1
    exact ⟨t2, st t2 a1, b1⟩
  · obtain ⟨k1, k2, k3⟩ := vx_keep h0 e1 hS (fun _ _ z => z) (fun _ z => z) hL x5
    have hz : T'.heap.size = ba + h2.length := by
      have y1 : T'.heap.size ≤ s.heap.size + (nc + c2) := X'.heapSize
      rw [← e1] at x3
      have := hH.1
      omega
    have hk : mv_hok D cs r ba b h2 T'.heap := ⟨hz, fun k c9 hk9 => by rw [e1]; exact x4 k c9 hk9⟩
    obtain ⟨t2, a1, b1⟩ := kx x1 T'.heap (locs ++ L) q ce hk k3 (by rw [hz, ← hc]; have := hH.1; omega) (by rw [e1]; exact hce) hcv (by rw [← x2]; exact hcl) T' rfl X'
    exact ⟨t2, st.trans a1, b1⟩
end MVAF
theorem mv_vL_cons {cand : List Cond} {mi : Nat → mv_I} {x : mv_I} {pc : Nat} {e : mv_E} {t : List mv_E} (h : mv_vL cand mi x pc (e :: t) = true) : e.2.1 = pc ∧ mv_vo cand mi x e.1 e.2.1 e.2.2.1 e.2.2.2.1 e.2.2.2.2.1 e.2.2.2.2.2 = true ∧ mv_vL cand mi x (e.2.1 + e.2.2.1) t = true := by
  obtain ⟨h1, h2⟩ := mv_a2 (show (Nat.beq e.2.1 pc && (mv_vo cand mi x e.1 e.2.1 e.2.2.1 e.2.2.2.1 e.2.2.2.2.1 e.2.2.2.2.2 && mv_vL cand mi x (e.2.1 + e.2.2.1) t)) = true from h)
  obtain ⟨h2, h3⟩ := mv_a2 h2
  exact ⟨mv_beq h1, h2, h3⟩
theorem mv_vh_ok {cand : List Cond} {xn : Nat → Nat} {x : mv_I} (h : mv_vm cand xn x = true) : ∀ q ∈ x.2.2.2.2.2.2.2, q.2.2.2 ≠ 0 ∧ xn q.2.2.2 < 3 ∧ Cond.classLink x.1.cls q.2.2.2 (mv_ex (xn q.2.2.2)) ∈ cand := by
  intro q hq
  have h1 := List.all_eq_true.mp (mv_a2 h).1 q hq
  simp only [Bool.and_eq_true, decide_eq_true_eq] at h1
  refine ⟨?_, mv_blt h1.2.1, h1.2.2⟩
  have h2 := h1.1
  cases hb : Nat.beq q.2.2.2 0
  · exact mv_nbeq hb
  · rw [hb] at h2; cases h2
/-- what an exception's way on is -/
def mv_onx (l : Launch) (D : va_G) (cs : ClassId × ClassId × ClassId) (r : Nat → Int32) (ba b : Nat) (X : mv_I) (dep pc x : Nat) (loc : mv_L) (h2 : List mv_C) (nc2 ns2 : Nat) (res3 : Nat × mv_V) (h3 : List mv_C) (c3 n3 : Nat) : Prop :=
  ∀ (p : Program) (e : Env) (R : Room) (s : State) (m : MethodId) (args : Array Value) (below : List Frame) (meth : Method) (c : Code), mv_fr X p s m args meth c → mv_en D cs r ba b s → dep ≤ R.frames → 100 * dep ≤ R.locals → c3 ≤ R.cells → n3 ≤ R.slots →
    ∀ (H1 : Heap) (locs1 : List Loc) (ls : Array Slot) (q9 : Addr) (ce : Cell) (restv : List Value), mv_hok D cs r ba b h2 H1 → va_S (fun q => ba ≤ q) s.heap H1 locs1 → lv_has ls X.2.2.1 (loc.map (mv_lv r ba b)) → s.heap.size + nc2 = H1.size → H1[q9]? = some ce → ce.vm = .none → s.vm.findClass (mv_ex x) = some ce.cls →
      vx_W p l e R s m args below meth c H1 locs1 nc2 ns2 (vx_MQ below (mv_Qc D cs r ba b res3 h3) (mv_XC D cs r ba b res3 h3) args s c3 n3 (fun q => ba ≤ q)) (F0 m pc ls restv) q9
theorem mv_tab (hh : List (Nat × Nat × Nat × Nat)) {y : ExceptionTableEntry} (h : y ∈ tableOf hh) : ∃ q ∈ hh, y = ⟨q.1, q.2.1, q.2.2.1, q.2.2.2⟩ := by
  obtain ⟨q, h1, h2⟩ := List.mem_map.mp h
  exact ⟨q, h1, h2.symm⟩
theorem mv_pas {D : va_G} {cs : ClassId × ClassId × ClassId} {r : Nat → Int32} {ba b : Nat} {cand : List Cond} {xn : Nat → Nat} {X : mv_I} {pc x : Nat} {p : Program} {s : State} {m : MethodId} {args : Array Value} {meth : Method} {c : Code} (hc : ∀ w ∈ cand, w ∈ mv_big) (hx : x < 3) (hvm : mv_vm cand xn X = true) (hf : mv_fr X p s m args meth c) (he : mv_en D cs r ba b s) {q : Nat × Nat × Nat × Nat} (hq : q ∈ X.2.2.2.2.2.2.2) (h : (Nat.ble q.1 pc && Nat.blt pc q.2.1) = false ∨ xn q.2.2.2 ≠ x) :
    covers ⟨q.1, q.2.1, q.2.2.1, q.2.2.2⟩ pc = false ∨ ((⟨q.1, q.2.1, q.2.2.1, q.2.2.2⟩ : ExceptionTableEntry).catchType ≠ 0 ∧ ∃ nm : String, (Cond.classLink X.1.cls (⟨q.1, q.2.1, q.2.2.1, q.2.2.2⟩ : ExceptionTableEntry).catchType nm).before args s = true ∧ va_Nc (mv_ex x) nm s) := by
  rcases h with h | h
  · exact Or.inl (mv_cov h)
  · obtain ⟨h1, h2, h3⟩ := mv_vh_ok hvm q hq
    exact Or.inr ⟨h1, _, hf.2.2.2.2.1 _ (hc _ h3), he.2.2.2.2.2.2.1 _ (mv_ncs_ok hx h2 h)⟩
theorem mv_x6_ok {l : Launch} {D : va_G} {cs : ClassId × ClassId × ClassId} {r : Nat → Int32} {ba b : Nat} {bk : Nat → Nat → Option (List mv_E)} {mi : Nat → mv_I} {xn : Nat → Nat} {cand : Nat → List Cond} {J : mv_J} (hJ : mv_good l D cs r ba b mi cand J) (htb : mv_tb bk mi xn cand) {x dep mid : Nat} {e : mv_E} {loc : mv_L} {K : mv_K} {g2 : mv_B} {h2 : List mv_C} {nc2 ns2 : Nat} (hx : x < 3) (hg : mv_in g2 r)
    (h1 : mv_x6 bk mi xn J x dep mid e loc K g2 h2 nc2 ns2 = true) :
    ∃ (g3 : mv_B) (res3 : Nat × mv_V) (h3 : List mv_C) (c3 n3 : Nat), mv_in g3 r ∧ res3.1 < 5 ∧ K g3 res3 h3 c3 n3 = true ∧ nc2 ≤ c3 ∧ ns2 ≤ n3 ∧ h2.length + c3 = h3.length + nc2 ∧ mv_onx l D cs r ba b (mi mid) dep e.2.1 x loc h2 nc2 ns2 res3 h3 c3 n3 := by
  obtain ⟨t1, t2, t3, -⟩ := htb mid
  unfold mv_x6 at h1
  split at h1
  · rename_i hno
    refine ⟨g2, (x + 2, (0, 0)), h2, nc2, ns2, hg, (by show x + 2 < 5; omega), h1, Nat.le_refl _, Nat.le_refl _, rfl, fun p en R s m args below meth c hf he _ _ _ _ H1 locs1 ls q9 ce restv hH hS hl hn q1 q2 q3 => ?_⟩
    refine vx_outP hf.2.2.2.1 hf.2.2.2.2.2.2.1 (fun z hz => ?_) q1 q2 q3 (fun t ht _ => ?_) hS.2.2 (Nat.le_refl _) (Nat.le_refl _)
    · rw [hf.2.2.2.2.2.2.2.2] at hz
      obtain ⟨q, hq, rfl⟩ := mv_tab _ hz
      exact mv_pas t1 hx t2 hf he hq (mv_hd_none hno q hq)
    · exact ⟨Nat.le_add_left _ _, rfl, by rw [ht, hH.1]; exact Nat.le_refl _, fun k c9 hk => by rw [ht]; exact hH.2 k c9 hk, by rw [ht]; exact hS.1, fun q z1 z2 => by rw [ht]; exact hS.2.1 q z1 z2⟩
  · rename_i hp hso
    split at h1
    · rename_i e2 t9 hbk
      rcases mv_cnd h1 with ⟨h20, h1⟩ | ⟨-, h1⟩
      · rw [mv_fi_eq] at h1
        obtain ⟨v1, v2, v3⟩ := mv_vL_cons (t3 _ _ hbk)
        have h20 := mv_beq h20
        obtain ⟨i, pc2, len2, k2, a2, b2⟩ := e2
        have v1 : pc2 = hp := v1
        have h20 : k2 = 20 := h20
        subst v1
        subst h20
        obtain ⟨w1, w2⟩ := mv_a2 v2
        have hd : decode (mi mid).2.1 pc2 = .ok (i, len2) := of_decide_eq_true w1
        have w2 : mv_c20 (mi mid).2.2.1 len2 a2 i = true := w2
        obtain ⟨g3, res3, h3, c3, n3, y1, y2, y3, y4, y5, y6, y7⟩ := hJ _ _ _ _ _ _ _ _ _ _ _ h1 v3 hg
        refine ⟨g3, res3, h3, c3, n3, y1, y2, y3, y4, y5, y6, fun p en R s m args below meth c hf he hr1 hr2 hr3 hr4 H1 locs1 ls q9 ce restv hH hS hl hn q1 q2 q3 => ?_⟩
        obtain ⟨pre, q, suf, e1, e3, e4, e5, e6⟩ := mv_hd_some hso
        have hmem : ∀ z ∈ pre, z ∈ (mi mid).2.2.2.2.2.2.2 := fun z hz => by rw [e1]; exact List.mem_append_left _ hz
        obtain ⟨u1, u2, u3⟩ := mv_vh_ok t2 q (by rw [e1]; exact List.mem_append_right _ List.mem_cons_self)
        rw [e5] at u3
        refine vx_catch (E := mv_ex x) (name := mv_ex x) hf.2.2.2.1 (tableOf pre) ⟨q.1, q.2.1, q.2.2.1, q.2.2.2⟩ (tableOf suf) (by rw [hf.2.2.2.2.2.2.2.2, e1]; unfold tableOf; rw [List.map_append, List.map_cons]) (fun z hz => ?_) (mv_cov e4) u1 (hf.2.2.2.2.1 _ (t1 _ u3)) (va_Nw.use rfl (he.2.2.2.2.1 _ (mv_cst_ok hx))) q1 q2 q3 ?_
        · obtain ⟨z2, hz2, rfl⟩ := mv_tab _ hz
          exact mv_pas t1 hx t2 hf he (hmem _ hz2) (e3 _ hz2)
        · show W p l en R s m args below meth c H1 locs1 nc2 ns2 _ (F0 m q.2.2.1 ls [.ref q9])
          rw [e6]
          have kk : ∀ ls' : Array Slot, lv_has ls' (mi mid).2.2.1 ((a2, Value.ref q9) :: (loc.map (mv_lv r ba b)).filter (fun q => !(q.1 == a2) && !(q.1 + 1 == a2 && q.2.category == 2))) → W p l en R s m args below meth c H1 locs1 nc2 ns2 (vx_MQ below (mv_Qc D cs r ba b res3 h3) (mv_XC D cs r ba b res3 h3) args s c3 n3 (fun q => ba ≤ q)) (F0 m (pc2 + len2) ls' []) := by
            intro ls' hl'
            refine y7 p en R s m args below meth c hf he hr1 hr2 hr3 hr4 H1 locs1 ls' hH hS ?_ hn
            rw [mv_flt1] at hl'
            exact ⟨hl'.1, hl'.2.1, fun z hz => hl'.2.2 z (List.mem_cons_of_mem _ hz)⟩
          unfold mv_c20 at w2
          split at w2
          · rename_i kq
            simp only [Bool.and_eq_true] at w2
            obtain ⟨z1, z2, z3⟩ := w2
            cases mv_beq z1
            cases mv_beq z2
            exact lv_astore hf.1 hf.2.1 hd hl (mv_blt z3) rfl kk
          · rename_i kq
            simp only [Bool.and_eq_true] at w2
            obtain ⟨z1, z2, z3⟩ := w2
            cases mv_beq z1
            exact lv_astore_n hf.1 hf.2.1 hd (mv_beq z2) hl (mv_blt z3) rfl kk
          · cases w2
      · cases h1
    · cases h1
/-- behind a call: the rest of the way -/
theorem mv_x5_ok {l : Launch} {D : va_G} {cs : ClassId × ClassId × ClassId} {r : Nat → Int32} {ba b : Nat} {bk : Nat → Nat → Option (List mv_E)} {mi : Nat → mv_I} {xn : Nat → Nat} {cand : Nat → List Cond} {J : mv_J} (hJ : mv_good l D cs r ba b mi cand J) (htb : mv_tb bk mi xn cand) {dep mid : Nat} {e : mv_E} {t : List mv_E} {loc : mv_L} {rest : List mv_V} {nc ns : Nat} {K : mv_K} {g2 : mv_B} {res : Nat × mv_V} {h h2 : List mv_C} {c2 n2 : Nat} (hres : res.1 < 5) (hg : mv_in g2 r) (hlen : e.2.2.1 = 3) (hv : mv_vL (cand mid) mi (mi mid) (e.2.1 + e.2.2.1) t = true) (hc : h.length + c2 = h2.length)
    (h1 : mv_x5 bk mi xn J dep mid e t loc rest nc ns K g2 res h2 c2 n2 = true) :
    ∃ (g3 : mv_B) (res3 : Nat × mv_V) (h3 : List mv_C) (c3 n3 : Nat), mv_in g3 r ∧ res3.1 < 5 ∧ K g3 res3 h3 c3 n3 = true ∧ nc + c2 ≤ c3 ∧ ns + n2 ≤ n3 ∧ h2.length + c3 = h3.length + (nc + c2) ∧
      ∀ (p : Program) (en : Env) (R : Room) (s : State) (m : MethodId) (args : Array Value) (below : List Frame) (meth : Method) (c : Code), mv_fr (mi mid) p s m args meth c → mv_en D cs r ba b s → dep ≤ R.frames → 100 * dep ≤ R.locals → c3 ≤ R.cells → n3 ≤ R.slots →
        ∀ (H : Heap) (locs : List Loc) (ls : Array Slot) (av : Array Value) (stv : List Value), mv_hok D cs r ba b h H → va_S (fun q => ba ≤ q) s.heap H locs → lv_has ls (mi mid).2.2.1 (loc.map (mv_lv r ba b)) → s.heap.size + nc = H.size →
          vx_Run p l en R s m args below meth c H locs nc ns c2 n2 (F0 m e.2.1 ls stv) (rest.map (mv_val r ba b)) (mv_Qc D cs r ba b res h2 av) (mv_XC D cs r ba b res h2) (fun q => ba ≤ q) →
          W p l en R s m args below meth c H locs nc ns (vx_MQ below (mv_Qc D cs r ba b res3 h3) (mv_XC D cs r ba b res3 h3) args s c3 n3 (fun q => ba ≤ q)) (F0 m e.2.1 ls stv) := by
  unfold mv_x5 at h1
  rw [mv_fo_eq, mv_fo_eq] at h1
  obtain ⟨rk, rv⟩ := res
  split at h1
  · rename_i hrk
    have hrk : rk = 0 := hrk
    subst hrk
    obtain ⟨g3, res3, h3, c3, n3, y1, y2, y3, y4, y5, y6, y7⟩ := hJ _ _ _ _ _ _ _ _ _ _ _ h1 hv hg
    refine ⟨g3, res3, h3, c3, n3, y1, y2, y3, y4, y5, y6, fun p en R s m args below meth c hf he hr1 hr2 hr3 hr4 H locs ls av stv hH hS hl hn hr => ?_⟩
    refine mv_after hr hH hS hn hc (fun _ H1 locs1 z1 z2 z3 => ?_) (fun z => absurd z (by show ¬ 2 ≤ 0; omega))
    rw [hlen] at y7
    exact y7 p en R s m args below meth c hf he hr1 hr2 hr3 hr4 H1 locs1 ls z1 z2 hl z3
  · rename_i hrk
    have hrk : rk = 1 := hrk
    subst hrk
    obtain ⟨g3, res3, h3, c3, n3, y1, y2, y3, y4, y5, y6, y7⟩ := hJ _ _ _ _ _ _ _ _ _ _ _ h1 hv hg
    refine ⟨g3, res3, h3, c3, n3, y1, y2, y3, y4, y5, y6, fun p en R s m args below meth c hf he hr1 hr2 hr3 hr4 H locs ls av stv hH hS hl hn hr => ?_⟩
    refine mv_after hr hH hS hn hc (fun _ H1 locs1 z1 z2 z3 => ?_) (fun z => absurd z (by show ¬ 2 ≤ 1; omega))
    rw [hlen] at y7
    exact y7 p en R s m args below meth c hf he hr1 hr2 hr3 hr4 H1 locs1 ls z1 z2 hl z3
  · rename_i x hrk
    have hrk : rk = x + 2 := hrk
    subst hrk
    have hres : x + 2 < 5 := hres
    obtain ⟨g3, res3, h3, c3, n3, y1, y2, y3, y4, y5, y6, y7⟩ := mv_x6_ok hJ htb (by omega) hg h1
    refine ⟨g3, res3, h3, c3, n3, y1, y2, y3, y4, y5, y6, fun p en R s m args below meth c hf he hr1 hr2 hr3 hr4 H locs ls av stv hH hS hl hn hr => ?_⟩
    refine mv_after hr hH hS hn hc (fun z => absurd z (by show ¬ x + 2 < 2; omega)) (fun _ H1 locs1 q9 ce z1 z2 z3 z4 z5 z6 => ?_)
    exact y7 p en R s m args below meth c hf he hr1 hr2 hr3 hr4 H1 locs1 ls q9 ce _ z1 z2 hl z3 z4 z5 z6
end
section
/-! ===== calls of each kind; the interpreter's word ===== -/
theorem mv_rc_ok {h : List mv_C} {ci : Nat} {as : List mv_V} (h1 : mv_rc h ci as = true) : ∃ (k : Nat) (as2 : List mv_V) (cl : List mv_V), as = (2, k) :: as2 ∧ h[k]? = some (ci + 4, cl) := by
  unfold mv_rc at h1
  split at h1
  · rename_i v as2
    obtain ⟨h2, h3⟩ := mv_a2 h1
    split at h3
    · rename_i c hc
      obtain ⟨v1, v2⟩ := v
      obtain ⟨c1, cl⟩ := c
      cases mv_beq h2
      rw [mv_gt_eq] at hc
      have e1 : c1 = ci + 4 := mv_beq h3
      subst e1
      exact ⟨v2, as2, cl, rfl, hc⟩
    · cases h3
  · cases h1
theorem mv_vp_ok {cand : List Cond} {xn : Nat → Nat} {x : mv_I} (h : mv_vm cand xn x = true) (hk : x.2.2.2.2.2.1 ≠ 9) : plainName x.1.cls = true ∧ (x.1.cls ≠ "java/lang/invoke/MethodHandle" ∧ x.1.cls ≠ "java/lang/invoke/VarHandle") ∧ x.2.2.1 ≤ 80 ∧ (∀ sig, parseMethodDescriptor x.1.desc = some sig → x.2.2.2.2.1 = sig.parameters.length) ∧ Cond.initialized x.1.cls ∈ cand ∧ mv_vq cand x = true := by
  have h1 := (mv_a2 h).2
  rcases mv_cnd h1 with ⟨h2, -⟩ | ⟨-, h2⟩
  · exact absurd (mv_beq h2) hk
  · obtain ⟨h3, h4⟩ := mv_a2 h2
    unfold mv_vp at h3
    simp only [Bool.and_eq_true, decide_eq_true_eq] at h3
    obtain ⟨⟨⟨a1, a2⟩, a3, a4⟩, a5, a6⟩ := h3
    refine ⟨a1, ⟨a2, a3⟩, mv_ble a4, fun sig hs => ?_, a6, h4⟩
    rw [hs] at a5
    exact (Option.some.inj a5).symm
theorem mv_vq0 {cand : List Cond} {x : mv_I} (h : mv_vq cand x = true) (hk : x.2.2.2.2.2.1 = 0) : x.2.2.2.2.2.2.2 = [] ∧ Cond.instanceMethod x.1 ∈ cand ∧ Cond.selects x.1.cls x.1 x.1 ∈ cand ∧ ∃ q : vw_C, vwCl[x.2.2.2.2.2.2.1]? = some q ∧ q.1 = x.1.cls := by
  unfold mv_vq at h
  rw [hk] at h
  simp only [Bool.and_eq_true, decide_eq_true_eq] at h
  obtain ⟨a1, a3, a4, a5⟩ := h
  refine ⟨List.isEmpty_iff.mp a1, a3, a4, ?_⟩
  split at a5
  · rename_i q hq
    exact ⟨q, hq, of_decide_eq_true a5⟩
  · cases a5
theorem mv_vq1 {cand : List Cond} {x : mv_I} (h : mv_vq cand x = true) (hk : x.2.2.2.2.2.1 = 1) : x.2.2.2.2.2.2.2 = [] ∧ Cond.static x.1 ∈ cand := by
  unfold mv_vq at h
  rw [hk] at h
  simp only [Bool.and_eq_true, decide_eq_true_eq] at h
  obtain ⟨a1, a3⟩ := h
  exact ⟨List.isEmpty_iff.mp a1, a3⟩
theorem mv_vq2 {cand : List Cond} {x : mv_I} (h : mv_vq cand x = true) (hk : x.2.2.2.2.2.1 = 2) : x.2.2.2.2.2.2.2 = [] ∧ Cond.instanceMethod x.1 ∈ cand ∧ x.1.name = "<init>" ∧ x.2.2.2.1 = none := by
  unfold mv_vq at h
  rw [hk] at h
  simp only [Bool.and_eq_true, decide_eq_true_eq] at h
  obtain ⟨a1, a3, a4, a5⟩ := h
  exact ⟨List.isEmpty_iff.mp a1, a3, a4, a5⟩
theorem mv_vq3 {cand : List Cond} {x : mv_I} (h : mv_vq cand x = true) (hk : x.2.2.2.2.2.1 = 3) : Cond.static x.1 ∈ cand := by
  unfold mv_vq at h
  rw [hk] at h
  simp only [Bool.and_eq_true, decide_eq_true_eq] at h
  exact h
theorem mv_gc {w : Cond} (h : w ∈ mv_big) : GoodIn mv_big (w :: mv_big) := fun v hv => (List.mem_cons.mp hv).elim (fun e => by rw [e]; exact mv_big_good w h) (mv_big_good v)
theorem mv_hwc {x : mv_I} (h : mv_hw x ∈ mv_big) (hk : x.2.2.2.2.2.1 ≠ 3) : Cond.code x.1 x.2.1 x.2.2.1 x.2.2.2.1 ∈ mv_big := by
  unfold mv_hw at h
  rw [mv_nb hk] at h
  exact h
theorem mv_hww {x : mv_I} (h : mv_hw x ∈ mv_big) (hk : x.2.2.2.2.2.1 = 3) : Cond.codeWith x.1 x.2.1 x.2.2.1 x.2.2.2.1 x.2.2.2.2.2.2.2 ∈ mv_big := by
  unfold mv_hw at h
  rw [hk] at h
  exact h
/-- what a call has at its place -/
def mv_at (l : Launch) (D : va_G) (cs : ClassId × ClassId × ClassId) (r : Nat → Int32) (ba b : Nat) (X y : mv_I) (pc : Nat) (loc : mv_L) (st : List mv_V) (h : List mv_C) (nc ns d : Nat) (as rest : List mv_V) : Prop :=
  ∀ (res : Nat × mv_V) (h2 : List mv_C) (c2 n2 : Nat), mv_run l D cs r ba b y d (mv_ag 0 as) [] h 0 0 0 res h2 c2 n2 →
    ∀ (p : Program) (en : Env) (R : Room) (s : State) (m : MethodId) (args : Array Value) (below : List Frame) (meth : Method) (c : Code), mv_fr X p s m args meth c → mv_en D cs r ba b s → d + 1 ≤ R.frames → 100 * (d + 1) ≤ R.locals → nc + c2 ≤ R.cells → ns + n2 ≤ R.slots →
      ∀ (H : Heap) (locs : List Loc) (ls : Array Slot), mv_hok D cs r ba b h H → va_S (fun q => ba ≤ q) s.heap H locs → lv_has ls X.2.2.1 (loc.map (mv_lv r ba b)) →
        vx_Run p l en R s m args below meth c H locs nc ns c2 n2 (F0 m pc ls (st.map (mv_val r ba b))) (rest.map (mv_val r ba b)) (mv_Qc D cs r ba b res h2 (as.map (mv_val r ba b)).toArray) (mv_XC D cs r ba b res h2) (fun q => ba ≤ q)
theorem mv_x4_ok {l : Launch} {D : va_G} {cs : ClassId × ClassId × ClassId} {r : Nat → Int32} {ba b : Nat} {bk : Nat → Nat → Option (List mv_E)} {mi : Nat → mv_I} {xn : Nat → Nat} {cand : Nat → List Cond} {J : mv_J} (hJ : mv_good l D cs r ba b mi cand J) (htb : mv_tb bk mi xn cand) {k dep mid pc len a a2 k2 : Nat} {i : Instr} {t : List mv_E} {loc : mv_L} {st : List mv_V} {h : List mv_C} {nc ns : Nat} {g : mv_B} {K : mv_K}
    (h1 : mv_x4 bk mi xn J k dep mid (i, pc, len, k2, a, a2) t loc st h nc ns g K = true) (hlen : len = 3) (hv : mv_vL (cand mid) mi (mi mid) (pc + len) t = true) (hg : mv_in g r)
    (hat : ∀ (d : Nat) (as rest : List mv_V), as.length = (mi a).2.2.2.2.1 + (bif Nat.beq k 6 || Nat.beq k 9 then 0 else 1) → st = as.reverse ++ rest → mv_cs rest ≤ 8 → mv_cs as ≤ (mi a).2.2.1 → (Nat.beq k 6 || (Nat.beq k 9 || mv_rc h (mi a).2.2.2.2.2.2.1 as)) = true → mv_at l D cs r ba b (mi mid) (mi a) pc loc st h nc ns d as rest) :
    mv_ends l D cs r ba b (mi mid) dep loc st h nc ns pc K := by
  unfold mv_x4 at h1
  split at h1
  · cases h1
  · rename_i d
    split at h1
    · rename_i as rest htk
      rcases mv_cnd h1 with ⟨h2, h1⟩ | ⟨-, h1⟩
      · simp only [Bool.and_eq_true] at h2
        obtain ⟨⟨h2, h3⟩, h4⟩ := h2
        obtain ⟨u, u1, u2, u3⟩ := mv_tk_ok _ _ _ _ _ htk
        rw [List.append_nil] at u3
        have hA := hat d as rest (by rw [u3, List.length_reverse]; exact u1) (by rw [u3, List.reverse_reverse]; exact u2) (mv_ble h2) (mv_ble h3) h4
        obtain ⟨g2, res, hh2, c2, n2, q1, q2, q3, q4⟩ := hJ _ _ _ _ _ _ _ _ _ _ _ h1 rfl hg
        obtain ⟨m1, m2, m3, m4⟩ := q4
        have hc : h.length + c2 = hh2.length := m3
        obtain ⟨g3, res3, h3', c3, n3, y1, y2, y3, y4, y5, y6, y7⟩ := mv_x5_ok hJ htb q2 q1 hlen hv hc q3
        refine ⟨g3, res3, h3', c3, n3, y1, y2, y3, Nat.le_trans (Nat.le_add_right _ _) y4, Nat.le_trans (Nat.le_add_right _ _) y5, by omega, fun p en R s m args below meth c hf he r1 r2 r3 r4 H locs ls hH hS hl hn => ?_⟩
        exact y7 p en R s m args below meth c hf he r1 r2 r3 r4 H locs ls _ _ hH hS hl hn (hA res hh2 c2 n2 ⟨m1, m2, m3, m4⟩ p en R s m args below meth c hf he r1 r2 (Nat.le_trans y4 r3) (Nat.le_trans y5 r4) H locs ls hH hS hl)
      · cases h1
    · cases h1
section MVKI
variable {l : Launch} {D : va_G} {cs : ClassId × ClassId × ClassId} {r : Nat → Int32} {ba b : Nat} {mi : Nat → mv_I} {xn : Nat → Nat} {X y : mv_I} {cX cy : List Cond} {pc idx d nc ns : Nat} {loc : mv_L} {st : List mv_V} {h : List mv_C} {as rest : List mv_V}
theorem mv_cB {R : Room} {s : State} {args : Array Value} {c2 n2 : Nat} (hts : ∀ w ∈ mv_big, w.before args s = true) (hcy : ∀ w ∈ cy, w ∈ mv_big) (hvm : mv_vm cy xn y = true) (hk : y.2.2.2.2.2.1 ≠ 9) (hcode : Cond.code y.1 y.2.1 y.2.2.1 y.2.2.2.1 ∈ mv_big) (hlink : (Cond.methodLink X.1.cls idx y.1).before args s = true) (r1 : d + 1 ≤ R.frames) (r2 : 100 * (d + 1) ≤ R.locals) :
    CallB R s args X.1.cls idx y.1 y.2.1 y.2.2.1 y.2.2.2.1 (Cond.code y.1 y.2.1 y.2.2.1 y.2.2.2.1 :: mv_big) (mv_rm d c2 n2) c2 n2 y.2.2.2.2.1 := by
  obtain ⟨a1, a2, a3, a4, a5, -⟩ := mv_vp_ok hvm hk
  refine ⟨rfl, rfl, r1, ?_, pay_in hts (mv_gc hcode), List.mem_cons_self, hts _ hcode, hts _ (hcy _ a5), a2, a4, hlink⟩
  show 8 + (y.2.2.1 + 11) + 100 * d ≤ R.locals
  omega
theorem mv_cN {R : Room} {s : State} {args : Array Value} {c2 n2 : Nat} {host : String} (hts : ∀ w ∈ mv_big, w.before args s = true) (hcy : ∀ w ∈ cy, w ∈ mv_big) (hvm : mv_vm cy xn y = true) (hk : y.2.2.2.2.2.1 ≠ 9) (hcode : Cond.code y.1 y.2.1 y.2.2.1 y.2.2.2.1 ∈ mv_big) (hlink : (Cond.methodLinkNest X.1.cls idx y.1 host).before args s = true) (r1 : d + 1 ≤ R.frames) (r2 : 100 * (d + 1) ≤ R.locals) :
    va_CN R s args X.1.cls idx y.1 host y.2.1 y.2.2.1 y.2.2.2.1 (Cond.code y.1 y.2.1 y.2.2.1 y.2.2.2.1 :: mv_big) (mv_rm d c2 n2) c2 n2 y.2.2.2.2.1 := by
  obtain ⟨a1, a2, a3, a4, a5, -⟩ := mv_vp_ok hvm hk
  refine ⟨⟨rfl, rfl, r1, ?_, pay_in hts (mv_gc hcode), List.mem_cons_self⟩, hts _ hcode, hts _ (hcy _ a5), a2, a4, hlink⟩
  show 8 + (y.2.2.1 + 11) + 100 * d ≤ R.locals
  omega
theorem mv_pS {s : State} {H : Heap} {locs : List Loc} (he : mv_en D cs r ba b s) (hH : mv_hok D cs r ba b h H) (hS : va_S (fun q => ba ≤ q) s.heap H locs) : PreS s H (mv_Pc D cs r ba b as h) (as.map (mv_val r ba b)) :=
  ⟨mv_blind D cs r ba b as h, fun U hU hW => ⟨rfl, he.go hW hU hS, by rw [hU]; exact hH⟩⟩
theorem mv_pV {s : State} {H : Heap} {locs : List Loc} {k ci : Nat} {as2 cl : List mv_V} {q : vw_C} (he : mv_en D cs r ba b s) (hH : mv_hok D cs r ba b h H) (hS : va_S (fun q => ba ≤ q) s.heap H locs) (has : as = (2, k) :: as2) (hk : h[k]? = some (ci + 4, cl)) (hq : vwCl[ci]? = some q) :
    PreV s H q.1 (ba + k) (mv_Pc D cs r ba b as h) (as2.map (mv_val r ba b)) := by
  refine ⟨mv_blind D cs r ba b as h, ?_, fun U hU hW => ⟨by rw [has]; rfl, he.go hW hU hS, by rw [hU]; exact hH⟩⟩
  obtain ⟨q2, e1, cell, e2, e3, e4, -⟩ := hH.2 k _ hk
  have hC := (he.1.1 ci q hq).2.1
  exact ⟨cell, e2, by rw [e4]; rfl, by rw [e3]; exact hC⟩
theorem mv_rs {as2 : List mv_V} {k : Nat} (has : as = (2, k) :: as2) (hst : st = as.reverse ++ rest) : st.map (mv_val r ba b) = (as2.map (mv_val r ba b)).reverse ++ .ref (ba + k) :: rest.map (mv_val r ba b) := by
  rw [hst, has, List.reverse_cons, List.append_assoc, List.map_append, ← List.map_reverse]
  rfl
theorem mv_k4 (hcX : ∀ w ∈ cX, w ∈ mv_big) (hcy : ∀ w ∈ cy, w ∈ mv_big) (hvm : mv_vm cy xn y = true) (hhw : y.2.2.2.2.2.1 ≠ 9 → mv_hw y ∈ mv_big) (hk : y.2.2.2.2.2.1 = 0) (hl : Cond.methodLink X.1.cls idx y.1 ∈ cX) (hd : decode X.2.1 pc = .ok (.invokevirtual idx, 3)) (hlen : as.length = y.2.2.2.2.1 + 1) (hst : st = as.reverse ++ rest) (hr : mv_cs rest ≤ 8) (hm : mv_cs as ≤ y.2.2.1) (hrc : mv_rc h y.2.2.2.2.2.2.1 as = true) :
    mv_at l D cs r ba b X y pc loc st h nc ns d as rest := by
  intro res h2 c2 n2 hR p en R s m args below meth c hf he r1 r2 r3 r4 H locs ls hH hS hl2
  have hk9 : y.2.2.2.2.2.1 ≠ 9 := by rw [hk]; omega
  obtain ⟨a1, a2, a3, a4, a5, a6⟩ := mv_vp_ok hvm hk9
  obtain ⟨b1, b3, b4, q, b5, b6⟩ := mv_vq0 a6 hk
  have b2 := mv_hwc (hhw hk9) (by rw [hk]; omega)
  obtain ⟨k, as2, cl, has, hcl⟩ := mv_rc_ok hrc
  have hts := hf.2.2.2.2.1
  have hp := mv_pV he hH hS has hcl b5
  rw [b6] at hp
  have h9 := vx_runV (l := l) (e := en) (R := R) (below := below) (meth := meth) (locs := locs) (cells := nc) (slots := ns) (g := F0 m pc ls (st.map (mv_val r ba b))) (rest := rest.map (mv_val r ba b)) (Ts := mv_big) ⟨hf.1, hf.2.1, hf.2.2.1, hf.2.2.2.1, hts⟩ (mv_metC hR hm a1 b1) ⟨mv_cB hts hcy hvm hk9 b2 (hts _ (hcX _ hl)) r1 r2, hts _ (hcy _ b3), hts _ (hcy _ b4)⟩ hp rfl (by rw [List.length_map]; rw [has] at hlen; exact Nat.succ.inj hlen) hl2.1 (mv_rs has hst) (by
    rw [mv_csum r ba b rest]
    show 2 * 0 + _ ≤ 8
    omega) hd ⟨r3, r4⟩
  rw [has]
  exact h9
theorem mv_k5 {host : String} (hcX : ∀ w ∈ cX, w ∈ mv_big) (hcy : ∀ w ∈ cy, w ∈ mv_big) (hvm : mv_vm cy xn y = true) (hhw : y.2.2.2.2.2.1 ≠ 9 → mv_hw y ∈ mv_big) (hk : y.2.2.2.2.2.1 = 0) (hl : Cond.methodLinkNest X.1.cls idx y.1 host ∈ mv_nst) (hd : decode X.2.1 pc = .ok (.invokevirtual idx, 3)) (hlen : as.length = y.2.2.2.2.1 + 1) (hst : st = as.reverse ++ rest) (hr : mv_cs rest ≤ 8) (hm : mv_cs as ≤ y.2.2.1) (hrc : mv_rc h y.2.2.2.2.2.2.1 as = true) :
    mv_at l D cs r ba b X y pc loc st h nc ns d as rest := by
  intro res h2 c2 n2 hR p en R s m args below meth c hf he r1 r2 r3 r4 H locs ls hH hS hl2
  have hk9 : y.2.2.2.2.2.1 ≠ 9 := by rw [hk]; omega
  obtain ⟨a1, a2, a3, a4, a5, a6⟩ := mv_vp_ok hvm hk9
  obtain ⟨b1, b3, b4, q, b5, b6⟩ := mv_vq0 a6 hk
  have b2 := mv_hwc (hhw hk9) (by rw [hk]; omega)
  obtain ⟨k, as2, cl, has, hcl⟩ := mv_rc_ok hrc
  have hts := hf.2.2.2.2.1
  have hp := mv_pV he hH hS has hcl b5
  rw [b6] at hp
  have h9 := vx_runVN (l := l) (e := en) (R := R) (below := below) (meth := meth) (locs := locs) (cells := nc) (slots := ns) (g := F0 m pc ls (st.map (mv_val r ba b))) (rest := rest.map (mv_val r ba b)) (Ts := mv_big) ⟨hf.1, hf.2.1, hf.2.2.1, hf.2.2.2.1, hts⟩ (mv_metC hR hm a1 b1) ⟨mv_cN hts hcy hvm hk9 b2 (va_Nw.use (mv_nw_t (mv_nw_k _ hl)) (he.2.2.2.2.1 _ hl)) r1 r2, hts _ (hcy _ b3), hts _ (hcy _ b4)⟩ hp rfl (by rw [List.length_map]; rw [has] at hlen; exact Nat.succ.inj hlen) hl2.1 (mv_rs has hst) (by
    rw [mv_csum r ba b rest]
    show 2 * 0 + _ ≤ 8
    omega) hd ⟨r3, r4⟩
  rw [has]
  exact h9
theorem mv_k6 (hcX : ∀ w ∈ cX, w ∈ mv_big) (hcy : ∀ w ∈ cy, w ∈ mv_big) (hvm : mv_vm cy xn y = true) (hhw : y.2.2.2.2.2.1 ≠ 9 → mv_hw y ∈ mv_big) (hk : y.2.2.2.2.2.1 = 1) (hl : Cond.methodLink X.1.cls idx y.1 ∈ cX) (hd : decode X.2.1 pc = .ok (.invokestatic idx, 3)) (hlen : as.length = y.2.2.2.2.1) (hst : st = as.reverse ++ rest) (hr : mv_cs rest ≤ 8) (hm : mv_cs as ≤ y.2.2.1) :
    mv_at l D cs r ba b X y pc loc st h nc ns d as rest := by
  intro res h2 c2 n2 hR p en R s m args below meth c hf he r1 r2 r3 r4 H locs ls hH hS hl2
  have hk9 : y.2.2.2.2.2.1 ≠ 9 := by rw [hk]; omega
  obtain ⟨a1, a2, a3, a4, a5, a6⟩ := mv_vp_ok hvm hk9
  obtain ⟨b1, b3⟩ := mv_vq1 a6 hk
  have b2 := mv_hwc (hhw hk9) (by rw [hk]; omega)
  have hts := hf.2.2.2.2.1
  exact vx_runS (l := l) (e := en) (R := R) (below := below) (meth := meth) (locs := locs) (cells := nc) (slots := ns) (g := F0 m pc ls (st.map (mv_val r ba b))) (rest := rest.map (mv_val r ba b)) (Ts := mv_big) ⟨hf.1, hf.2.1, hf.2.2.1, hf.2.2.2.1, hts⟩ (mv_metC hR hm a1 b1) ⟨mv_cB hts hcy hvm hk9 b2 (hts _ (hcX _ hl)) r1 r2, hts _ (hcy _ b3)⟩ (mv_pS he hH hS) rfl (by rw [List.length_map]; exact hlen) hl2.1 (by show st.map _ = _; rw [hst, List.map_append, ← List.map_reverse]) (by
    rw [mv_csum r ba b rest]
    show 2 * 0 + _ ≤ 8
    omega) hd ⟨r3, r4⟩
theorem mv_k9 (hcX : ∀ w ∈ cX, w ∈ mv_big) (hcy : ∀ w ∈ cy, w ∈ mv_big) (hvm : mv_vm cy xn y = true) (hhw : y.2.2.2.2.2.1 ≠ 9 → mv_hw y ∈ mv_big) (hk : y.2.2.2.2.2.1 = 3) (hl : Cond.methodLink X.1.cls idx y.1 ∈ cX) (hd : decode X.2.1 pc = .ok (.invokestatic idx, 3)) (hlen : as.length = y.2.2.2.2.1) (hst : st = as.reverse ++ rest) (hr : mv_cs rest ≤ 8) (hm : mv_cs as ≤ y.2.2.1) :
    mv_at l D cs r ba b X y pc loc st h nc ns d as rest := by
  intro res h2 c2 n2 hR p en R s m args below meth c hf he r1 r2 r3 r4 H locs ls hH hS hl2
  have hk9 : y.2.2.2.2.2.1 ≠ 9 := by rw [hk]; omega
  obtain ⟨a1, a2, a3, a4, a5, a6⟩ := mv_vp_ok hvm hk9
  have b3 := mv_vq3 a6 hk
  have b2 := mv_hww (hhw hk9) hk
  have hts := hf.2.2.2.2.1
  exact vx_runSX (l := l) (e := en) (R := R) (below := below) (meth := meth) (locs := locs) (cells := nc) (slots := ns) (g := F0 m pc ls (st.map (mv_val r ba b))) (rest := rest.map (mv_val r ba b)) (Ts := mv_big) (n := y.2.2.2.2.1) ⟨hf.1, hf.2.1, hf.2.2.1, hf.2.2.2.1, hts⟩ (mv_metW hR hm a1) ⟨⟨rfl, rfl, r1, by show 8 + (y.2.2.1 + 11) + 100 * d ≤ R.locals; omega, pay_in hts (mv_gc b2), List.mem_cons_self⟩, hts _ b2, hts _ (hcy _ a5), a2, a4, hts _ (hcX _ hl), hts _ (hcy _ b3)⟩ (mv_pS he hH hS) rfl (by rw [List.length_map]; exact hlen) hl2.1 (by show st.map _ = _; rw [hst, List.map_append, ← List.map_reverse]) (by
    rw [mv_csum r ba b rest]
    show 2 * 0 + _ ≤ 8
    omega) hd ⟨r3, r4⟩
theorem mv_k7 (hcX : ∀ w ∈ cX, w ∈ mv_big) (hcy : ∀ w ∈ cy, w ∈ mv_big) (hvm : mv_vm cy xn y = true) (hhw : y.2.2.2.2.2.1 ≠ 9 → mv_hw y ∈ mv_big) (hk : y.2.2.2.2.2.1 = 2) (hl : Cond.methodLink X.1.cls idx y.1 ∈ cX) (hd : decode X.2.1 pc = .ok (.invokespecial idx, 3)) (hlen : as.length = y.2.2.2.2.1 + 1) (hst : st = as.reverse ++ rest) (hr : mv_cs rest ≤ 8) (hm : mv_cs as ≤ y.2.2.1) (hrc : mv_rc h y.2.2.2.2.2.2.1 as = true) :
    mv_at l D cs r ba b X y pc loc st h nc ns d as rest := by
  intro res h2 c2 n2 hR p en R s m args below meth c hf he r1 r2 r3 r4 H locs ls hH hS hl2
  have hk9 : y.2.2.2.2.2.1 ≠ 9 := by rw [hk]; omega
  obtain ⟨a1, a2, a3, a4, a5, a6⟩ := mv_vp_ok hvm hk9
  obtain ⟨b1, b3, b4, b5⟩ := mv_vq2 a6 hk
  have b2 := mv_hwc (hhw hk9) (by rw [hk]; omega)
  obtain ⟨k, as2, cl, has, hcl⟩ := mv_rc_ok hrc
  have hts := hf.2.2.2.2.1
  have hp := mv_pS (as := as) he hH hS
  have hB := mv_cB (X := X) (idx := idx) (c2 := c2) (n2 := n2) hts hcy hvm hk9 b2 (hts _ (hcX _ hl)) r1 r2
  have hM := mv_metC hR hm a1 b1
  rw [b5] at hB hM
  rw [has] at hp hM
  have h9 := vx_runI (l := l) (e := en) (R := R) (below := below) (meth := meth) (locs := locs) (cells := nc) (slots := ns) (b := ba + k) (As := as2.map (mv_val r ba b)) (g := F0 m pc ls (st.map (mv_val r ba b))) (rest := rest.map (mv_val r ba b)) (Ts := mv_big) ⟨hf.1, hf.2.1, hf.2.2.1, hf.2.2.2.1, hts⟩ hM ⟨hB, b4, hts _ (hcy _ b3)⟩ hp rfl (by rw [List.length_map]; rw [has] at hlen; exact Nat.succ.inj hlen) hl2.1 (mv_rs has hst) (by
    rw [mv_csum r ba b rest]
    show 2 * 0 + _ ≤ 8
    omega) hd ⟨r3, r4⟩
  rw [has]
  exact h9
theorem mv_k8 {host : String} (hcX : ∀ w ∈ cX, w ∈ mv_big) (hcy : ∀ w ∈ cy, w ∈ mv_big) (hvm : mv_vm cy xn y = true) (hhw : y.2.2.2.2.2.1 ≠ 9 → mv_hw y ∈ mv_big) (hk : y.2.2.2.2.2.1 = 2) (hl : Cond.methodLinkNest X.1.cls idx y.1 host ∈ mv_nst) (hd : decode X.2.1 pc = .ok (.invokespecial idx, 3)) (hlen : as.length = y.2.2.2.2.1 + 1) (hst : st = as.reverse ++ rest) (hr : mv_cs rest ≤ 8) (hm : mv_cs as ≤ y.2.2.1) (hrc : mv_rc h y.2.2.2.2.2.2.1 as = true) :
    mv_at l D cs r ba b X y pc loc st h nc ns d as rest := by
  intro res h2 c2 n2 hR p en R s m args below meth c hf he r1 r2 r3 r4 H locs ls hH hS hl2
  have hk9 : y.2.2.2.2.2.1 ≠ 9 := by rw [hk]; omega
  obtain ⟨a1, a2, a3, a4, a5, a6⟩ := mv_vp_ok hvm hk9
  obtain ⟨b1, b3, b4, b5⟩ := mv_vq2 a6 hk
  have b2 := mv_hwc (hhw hk9) (by rw [hk]; omega)
  obtain ⟨k, as2, cl, has, hcl⟩ := mv_rc_ok hrc
  have hts := hf.2.2.2.2.1
  have hp := mv_pS (as := as) he hH hS
  have hB := mv_cN (X := X) (idx := idx) (c2 := c2) (n2 := n2) (host := host) hts hcy hvm hk9 b2 (va_Nw.use (mv_nw_t (mv_nw_k _ hl)) (he.2.2.2.2.1 _ hl)) r1 r2
  have hM := mv_metC hR hm a1 b1
  rw [b5] at hB hM
  rw [has] at hp hM
  have h9 := vx_runIN (l := l) (e := en) (R := R) (below := below) (meth := meth) (locs := locs) (cells := nc) (slots := ns) (b := ba + k) (As := as2.map (mv_val r ba b)) (g := F0 m pc ls (st.map (mv_val r ba b))) (rest := rest.map (mv_val r ba b)) (Ts := mv_big) ⟨hf.1, hf.2.1, hf.2.2.1, hf.2.2.2.1, hts⟩ hM ⟨hB, b4, hts _ (hcy _ b3)⟩ hp rfl (by rw [List.length_map]; rw [has] at hlen; exact Nat.succ.inj hlen) hl2.1 (mv_rs has hst) (by
    rw [mv_csum r ba b rest]
    show 2 * 0 + _ ≤ 8
    omega) hd ⟨r3, r4⟩
  rw [has]
  exact h9
end MVKI
end
section
/-! ===== what the interpreter says is so ===== -/
noncomputable def mv_su (bk : Nat → Nat → Option (List mv_E)) (mi : Nat → mv_I) (dv : Nat → List mv_V) (xn : Nat → Nat) (ih : mv_J) : mv_J := fun dep mid pc L loc st h nc ns g K => match L with
      | [] => match bk mid pc with
        | some (e :: t) => ih dep mid pc (e :: t) loc st h nc ns g K
        | _ => false
      | e :: t => bif Nat.ble 40 e.2.2.2.1 then mv_x0 ih (mv_sf g loc st h nc ns dv (mi mid).2.2.1 e.1 e.2.1 e.2.2.2.2.1 e.2.2.2.2.2 e.2.2.2.1) dep mid pc e t loc st h nc ns g K
        else mv_x9 bk mi xn ih dep mid pc e t loc st h nc ns g K
theorem mv_eu_s (bk : Nat → Nat → Option (List mv_E)) (mi : Nat → mv_I) (dv : Nat → List mv_V) (xn : Nat → Nat) (n : Nat) : mv_eu bk mi dv xn (n + 1) = mv_su bk mi dv xn (mv_eu bk mi dv xn n) := rfl
section MVSO
variable {l : Launch} {D : va_G} {cs : ClassId × ClassId × ClassId} {r : Nat → Int32} {ba b : Nat} {bk : Nat → Nat → Option (List mv_E)} {mi : Nat → mv_I} {xn : Nat → Nat} {cand : Nat → List Cond} {J : mv_J}
theorem mv_x8_ok (hst : l.stackTraces = false) (hJ : mv_good l D cs r ba b mi cand J) (htb : mv_tb bk mi xn cand) {dep mid pc len k a b2 : Nat} {i : Instr} {t : List mv_E} {loc : mv_L} {st : List mv_V} {h : List mv_C} {nc ns : Nat} {g : mv_B} {K : mv_K} (h1 : mv_x8 bk mi xn J dep mid pc (i, pc, len, k, a, b2) t loc st h nc ns g K = true)
    (hv : mv_vL (cand mid) mi (mi mid) pc ((i, pc, len, k, a, b2) :: t) = true) (hv2 : mv_vL (cand mid) mi (mi mid) (pc + len) t = true) (hd : decode (mi mid).2.1 pc = .ok (i, len)) (hk : mv_vk (cand mid) mi (mi mid) i pc len k a b2 = true) (hg : mv_in g r) :
    mv_ends l D cs r ba b (mi mid) dep loc st h nc ns pc K := by
  have t1 := (htb mid).1
  have u1 := (htb a).1
  have u2 := (htb a).2.1
  have u3 := (htb a).2.2.2
  unfold mv_x8 at h1
  split at h1
  · cases h1
  · rename_i e1
    have e1 : k = 1 := e1
    subst e1
    exact mv_x1_ok hJ h1 hv hd hk hg
  · rename_i e1
    have e1 : k = 2 := e1
    subst e1
    exact mv_x2_ok hst h1 hd hk hg
  · rename_i e1
    have e1 : k = 3 := e1
    subst e1
    exact mv_x3_ok hJ t1 h1 hv2 hd hk hg
  · rename_i k5 e1
    have e1 : k = k5 + 4 := e1
    subst e1
    rcases mv_cnd h1 with ⟨h2, h1⟩ | ⟨-, h1⟩
    · have h2 := mv_ble h2
      have h3 : k5 = 0 ∨ k5 = 1 ∨ k5 = 2 ∨ k5 = 3 ∨ k5 = 4 ∨ k5 = 5 := by omega
      rcases h3 with rfl | rfl | rfl | rfl | rfl | rfl
      · obtain ⟨z1, z2⟩ := mv_a2 (show (Nat.beq len 3 && (Nat.beq (mi a).2.2.2.2.2.1 0 && mv_c4 (cand mid) (mi mid).1.cls (mi a).1 i)) = true from hk)
        obtain ⟨z4, z3⟩ := mv_a2 z2
        have z1 := mv_beq z1
        unfold mv_c4 at z3
        split at z3
        · exact mv_x4_ok hJ htb h1 z1 hv2 hg fun d as rest q1 q2 q3 q4 q5 => mv_k4 t1 u1 u2 u3 (mv_beq z4) (of_decide_eq_true z3) (by rw [z1] at hd; exact hd) q1 q2 q3 q4 q5
        · cases z3
      · obtain ⟨z1, z2⟩ := mv_a2 (show (Nat.beq len 3 && (Nat.beq (mi a).2.2.2.2.2.1 0 && mv_c5 (mi mid).1.cls (mi a).1 i)) = true from hk)
        obtain ⟨z4, z3⟩ := mv_a2 z2
        have z1 := mv_beq z1
        unfold mv_c5 at z3
        split at z3
        · exact mv_x4_ok hJ htb h1 z1 hv2 hg fun d as rest q1 q2 q3 q4 q5 => mv_k5 t1 u1 u2 u3 (mv_beq z4) (of_decide_eq_true z3) (by rw [z1] at hd; exact hd) q1 q2 q3 q4 q5
        · cases z3
      · obtain ⟨z1, z2⟩ := mv_a2 (show (Nat.beq len 3 && (Nat.beq (mi a).2.2.2.2.2.1 1 && mv_c6 (cand mid) (mi mid).1.cls (mi a).1 i)) = true from hk)
        obtain ⟨z4, z3⟩ := mv_a2 z2
        have z1 := mv_beq z1
        unfold mv_c6 at z3
        split at z3
        · exact mv_x4_ok hJ htb h1 z1 hv2 hg fun d as rest q1 q2 q3 q4 q5 => mv_k6 t1 u1 u2 u3 (mv_beq z4) (of_decide_eq_true z3) (by rw [z1] at hd; exact hd) q1 q2 q3 q4
        · cases z3
      · obtain ⟨z1, z2⟩ := mv_a2 (show (Nat.beq len 3 && (Nat.beq (mi a).2.2.2.2.2.1 2 && mv_c7 (cand mid) (mi mid).1.cls (mi a).1 i)) = true from hk)
        obtain ⟨z4, z3⟩ := mv_a2 z2
        have z1 := mv_beq z1
        unfold mv_c7 at z3
        split at z3
        · exact mv_x4_ok hJ htb h1 z1 hv2 hg fun d as rest q1 q2 q3 q4 q5 => mv_k7 t1 u1 u2 u3 (mv_beq z4) (of_decide_eq_true z3) (by rw [z1] at hd; exact hd) q1 q2 q3 q4 q5
        · cases z3
      · obtain ⟨z1, z2⟩ := mv_a2 (show (Nat.beq len 3 && (Nat.beq (mi a).2.2.2.2.2.1 2 && mv_c8 (mi mid).1.cls (mi a).1 i)) = true from hk)
        obtain ⟨z4, z3⟩ := mv_a2 z2
        have z1 := mv_beq z1
        unfold mv_c8 at z3
        split at z3
        · exact mv_x4_ok hJ htb h1 z1 hv2 hg fun d as rest q1 q2 q3 q4 q5 => mv_k8 t1 u1 u2 u3 (mv_beq z4) (of_decide_eq_true z3) (by rw [z1] at hd; exact hd) q1 q2 q3 q4 q5
        · cases z3
      · obtain ⟨z1, z2⟩ := mv_a2 (show (Nat.beq len 3 && (Nat.beq (mi a).2.2.2.2.2.1 3 && mv_c6 (cand mid) (mi mid).1.cls (mi a).1 i)) = true from hk)
        obtain ⟨z4, z3⟩ := mv_a2 z2
        have z1 := mv_beq z1
        unfold mv_c6 at z3
        split at z3
        · exact mv_x4_ok hJ htb h1 z1 hv2 hg fun d as rest q1 q2 q3 q4 q5 => mv_k9 t1 u1 u2 u3 (mv_beq z4) (of_decide_eq_true z3) (by rw [z1] at hd; exact hd) q1 q2 q3 q4
        · cases z3
    · cases h1
theorem mv_sp_ok (hst : l.stackTraces = false) (h8 : r 8 = r 0 &&& nI 31) (hJ : mv_good l D cs r ba b mi cand J) (htb : mv_tb bk mi xn cand) : mv_good l D cs r ba b mi cand (mv_su bk mi mv_dv xn J) := by
  intro dep mid pc L loc st h nc ns g K h1 hv hg
  unfold mv_su at h1
  split at h1
  · split at h1
    · rename_i hbk
      exact hJ _ _ _ _ _ _ _ _ _ _ _ h1 ((htb mid).2.2.1 _ _ hbk) hg
    · cases h1
  · rename_i e t
    obtain ⟨w1, w2, w3⟩ := mv_vL_cons hv
    obtain ⟨i, pc2, len, k, a, b2⟩ := e
    have w1 : pc2 = pc := w1
    subst w1
    obtain ⟨v1, v2⟩ := mv_a2 w2
    have hd : decode (mi mid).2.1 pc2 = .ok (i, len) := of_decide_eq_true v1
    have t1 := (htb mid).1
    rcases mv_cnd h1 with ⟨h40, h1⟩ | ⟨h40, h1⟩
    · have h40 : Nat.ble 40 k = true := h40
      have v2 : (bif Nat.ble 40 k then Nat.beq k (mv_oc i) && mv_okB (cand mid) (mi mid).1.cls (mi mid).1.name pc2 i len a b2 else mv_vk (cand mid) mi (mi mid) i pc2 len k a b2) = true := v2
      rw [h40] at v2
      obtain ⟨v3, v4⟩ := mv_a2 v2
      have e3 : k = mv_oc i := mv_beq v3
      refine mv_x0_ok hJ h1 hv w3 hg fun x hx => ?_
      have hx : mv_sf g loc st h nc ns mv_dv (mi mid).2.2.1 i pc2 a b2 k = some (.inr x) := hx
      rw [e3, mv_sf_eq] at hx
      refine ⟨mv_mn_s1 hx, fun p en R s m args below meth c Q hf he r1 r2 r3 r4 kk => ?_⟩
      exact mv_s1_ok hf.1 hf.2.1 hf.2.2.2.2.1 hf.2.2.2.1 he.1 he.2.1 h8 hg t1 hd (by rw [hf.2.2.2.2.2.2.2.1]; exact v4) hx r3 r4 kk
    · have h40 : Nat.ble 40 k = false := h40
      have v2 : (bif Nat.ble 40 k then Nat.beq k (mv_oc i) && mv_okB (cand mid) (mi mid).1.cls (mi mid).1.name pc2 i len a b2 else mv_vk (cand mid) mi (mi mid) i pc2 len k a b2) = true := v2
      rw [h40] at v2
      have v2 : mv_vk (cand mid) mi (mi mid) i pc2 len k a b2 = true := v2
      unfold mv_x9 at h1
      rcases mv_cnd h1 with ⟨h11, h1⟩ | ⟨-, h1⟩
      · have h11 : k = 11 := mv_beq h11
        subst h11
        rcases mv_cnd h1 with ⟨h0, h1⟩ | ⟨-, h1⟩
        · have h0 := mv_blt h0
          obtain ⟨z1, z3⟩ := mv_a2 (show (Nat.beq len 3 && mv_c11 (cand mid) (mi mid).1.cls i) = true from v2)
          have z1 := mv_beq z1
          unfold mv_c11 at z3
          split at z3
          · simp only [Bool.and_eq_true, decide_eq_true_eq] at z3
            obtain ⟨y1, y2, y3, y4⟩ := z3
            subst z1
            refine mv_x0_ok hJ h1 hv w3 hg fun x hx => ⟨mv_mn_cp hx, fun p en R s m args below meth c Q hf he r1 r2 r3 r4 kk => ?_⟩
            exact mv_cp_ok hf.1 hf.2.1 hf.2.2.1 hg hf.2.2.2.1 (hf.2.2.2.2.1 _ (t1 _ y1)) (hf.2.2.2.2.1 _ (t1 _ y2)) (hf.2.2.2.2.1 _ (t1 _ y3)) (hf.2.2.2.2.1 _ (t1 _ y4)) he.1 (by omega) (by omega) hd hx kk
          · cases z3
        · cases h1
      · exact mv_x8_ok hst hJ htb h1 hv w3 hd v2 hg
theorem mv_eu_ok (hst : l.stackTraces = false) (h8 : r 8 = r 0 &&& nI 31) (htb : mv_tb bk mi xn cand) : ∀ n : Nat, mv_good l D cs r ba b mi cand (mv_eu bk mi mv_dv xn n)
  | 0 => fun dep mid pc L loc st h nc ns g K h1 _ _ => by cases h1
  | n + 1 => by
    rw [mv_eu_s]
    exact mv_sp_ok hst h8 (mv_eu_ok hst h8 htb n) htb
end MVSO
end
section
/-! ===== methods that write nothing: what is kept of them ===== -/
def mv_pu (i : Instr) : Bool := match i with
  | .putfield _ => false
  | .newarray _ => false
  | .new _ => false
  | .iastore => false
  | .lastore => false
  | .bastore => false
  | _ => true
section MVPU
variable {g : mv_B} {loc : mv_L} {st : List mv_V} {h : List mv_C} {nc ns nL : Nat} {x : Option Nat × mv_L × List mv_V × List mv_C × Nat × Nat}
def mv_sm (h : List mv_C) (x : Option Nat × mv_L × List mv_V × List mv_C × Nat × Nat) : Prop := x.2.2.2.1 = h
theorem mv_sm_eq {j : Option Nat} {l2 : mv_L} {s2 : List mv_V} (h1 : (some (.inr (j, l2, s2, h, nc, ns)) : mv_S) = some (.inr x)) : mv_sm h x := by
  rw [← mv_inr h1]
  rfl
theorem mv_sm_ld {f : mv_V → Bool} {i : Nat} (h1 : mv_ld loc st h nc ns f i = some (.inr x)) : mv_sm h x := by
  unfold mv_ld at h1
  split at h1
  · exact mv_sm_eq (mv_cndn h1).2
  · cases h1
theorem mv_sm_sto {f : mv_V → Bool} {i : Nat} (h1 : mv_sto loc st h nc ns f nL i = some (.inr x)) : mv_sm h x := by
  unfold mv_sto at h1
  split at h1
  · have h2 := (mv_cndn h1).2
    rw [mv_fi_eq] at h2
    exact mv_sm_eq h2
  · cases h1
theorem mv_sm_sto2 {f : mv_V → Bool} {i : Nat} (h1 : mv_sto2 loc st h nc ns f nL i = some (.inr x)) : mv_sm h x := by
  unfold mv_sto2 at h1
  split at h1
  · have h2 := (mv_cndn h1).2
    rw [mv_fi_eq] at h2
    exact mv_sm_eq h2
  · cases h1
theorem mv_sm_un {f : Nat → mv_V} (h1 : mv_un g loc st h nc ns f = some (.inr x)) : mv_sm h x := by
  unfold mv_un at h1
  split at h1
  · split at h1
    · rw [mv_fo_eq] at h1; exact mv_sm_eq h1
    · cases h1
    · cases h1
  · cases h1
theorem mv_sm_bi {f : Nat → Nat → Option Nat} (h1 : mv_bi g loc st h nc ns f = some (.inr x)) : mv_sm h x := by
  unfold mv_bi at h1
  split at h1
  · split at h1
    · split at h1
      · split at h1
        · rw [mv_fo_eq] at h1; exact mv_sm_eq h1
        · cases h1
      · cases h1
      · cases h1
    · cases h1
    · cases h1
  · cases h1
theorem mv_sm_bl {f : Nat → Nat → mv_V} (h1 : mv_bl loc st h nc ns f = some (.inr x)) : mv_sm h x := by
  unfold mv_bl at h1
  split at h1
  · have h2 := (mv_cndn h1).2
    rw [mv_fo_eq] at h2
    exact mv_sm_eq h2
  · cases h1
theorem mv_sm_b4 {f : Nat → Nat → mv_V} (h1 : mv_b4 loc st h nc ns f = some (.inr x)) : mv_sm h x := by
  unfold mv_b4 at h1
  split at h1
  · have h2 := (mv_cndn h1).2
    rw [mv_fo_eq] at h2
    exact mv_sm_eq h2
  · cases h1
theorem mv_sm_dd (h1 : mv_dd loc st h nc ns = some (.inr x)) : mv_sm h x := by
  unfold mv_dd at h1
  split at h1
  · have h2 := (mv_cndn h1).2
    rw [mv_fo_eq] at h2
    exact mv_sm_eq h2
  · cases h1
theorem mv_sm_br {o : ClassFile.Cond} {v w : mv_V} {s2 : List mv_V} {t : Nat} (h1 : mv_br g loc h nc ns o v w s2 t = some (.inr x)) : mv_sm h x := by
  unfold mv_br at h1
  split at h1
  · exact mv_sm_eq h1
  · exact mv_sm_eq h1
  · cases h1
  · cases h1
theorem mv_sm_ic {o : ClassFile.Cond} {t : Nat} (h1 : mv_ic g loc st h nc ns o t = some (.inr x)) : mv_sm h x := by
  unfold mv_ic at h1
  split at h1
  · exact mv_sm_br h1
  · cases h1
theorem mv_sm_if {o : ClassFile.Cond} {t : Nat} (h1 : mv_if g loc st h nc ns o t = some (.inr x)) : mv_sm h x := by
  unfold mv_if at h1
  split at h1
  · exact mv_sm_br h1
  · cases h1
theorem mv_sm_inc {i n : Nat} (h1 : mv_inc g loc st h nc ns nL i n = some (.inr x)) : mv_sm h x := by
  unfold mv_inc at h1
  split at h1
  · split at h1
    · have h2 := (mv_cndn h1).2
      rw [mv_fo_eq, mv_fi_eq] at h2
      exact mv_sm_eq h2
    · cases h1
    · cases h1
  · cases h1
theorem mv_sm_ar {t : Nat} {y z : mv_V} {k : Nat → List mv_V → Nat → mv_S} (h1 : mv_ar g h t y z k = some (.inr x)) (hk : ∀ q l a, k q l a = some (.inr x) → mv_sm h x) : mv_sm h x := by
  unfold mv_ar at h1
  have h2 := (mv_cndn h1).2
  split at h2
  · split at h2
    · exact hk _ _ _ (mv_cndn h2).2
    · cases h2
  · cases h2
  · cases h2
theorem mv_sm_ald {t : Nat} {f : mv_V → Bool} (h1 : mv_ald g loc st h nc ns t f = some (.inr x)) : mv_sm h x := by
  unfold mv_ald at h1
  split at h1
  · refine mv_sm_ar h1 (fun q l a h2 => ?_)
    split at h2
    · exact mv_sm_eq (mv_cndn h2).2
    · cases h2
  · cases h1
theorem mv_sm_len (h1 : mv_len loc st h nc ns = some (.inr x)) : mv_sm h x := by
  unfold mv_len at h1
  split at h1
  · have h2 := (mv_cndn h1).2
    split at h2
    · have h3 := (mv_cndn h2).2
      rw [mv_fo_eq] at h3
      exact mv_sm_eq h3
    · cases h2
  · cases h1
theorem mv_sm_gf {ci k : Nat} (h1 : mv_gf loc st h nc ns ci k = some (.inr x)) : mv_sm h x := by
  unfold mv_gf at h1
  split at h1
  · have h2 := (mv_cndn h1).2
    split at h2
    · have h3 := (mv_cndn h2).2
      split at h3
      · exact mv_sm_eq h3
      · cases h3
    · cases h2
  · cases h1
theorem mv_sm_and (h1 : mv_and g loc st h nc ns = some (.inr x)) : mv_sm h x := by
  unfold mv_and at h1
  split at h1
  · rcases mv_cnd h1 with ⟨-, h2⟩ | ⟨-, h2⟩
    · exact mv_sm_eq h2
    · exact mv_sm_bi h2
  · cases h1
theorem mv_sm_ush (h1 : mv_ush g loc st h nc ns = some (.inr x)) : mv_sm h x := by
  unfold mv_ush at h1
  split at h1
  · rcases mv_cnd h1 with ⟨-, h2⟩ | ⟨-, h2⟩
    · rcases mv_cnd h2 with ⟨-, h3⟩ | ⟨-, h3⟩
      · rcases mv_cnd h3 with ⟨-, h4⟩ | ⟨-, h4⟩
        · exact mv_sm_eq h4
        · rcases mv_cnd h4 with ⟨-, h5⟩ | ⟨-, h5⟩
          · exact mv_sm_bi h5
          · cases h5
      · cases h3
    · exact mv_sm_bi h2
  · cases h1
theorem mv_sm_iald (h1 : mv_iald g loc st h nc ns = some (.inr x)) : mv_sm h x := by
  unfold mv_iald at h1
  split at h1
  · rcases mv_cnd h1 with ⟨-, h2⟩ | ⟨-, h2⟩
    · split at h2
      · exact mv_sm_eq (mv_cndn h2).2
      · cases h2
      · cases h2
    · exact mv_sm_ald h2
  · cases h1
theorem mv_sm_alen (h1 : mv_alen loc st h nc ns = some (.inr x)) : mv_sm h x := by
  unfold mv_alen at h1
  split at h1
  · rcases mv_cnd h1 with ⟨-, h2⟩ | ⟨-, h2⟩
    · exact mv_sm_eq h2
    · exact mv_sm_len h2
  · cases h1
theorem mv_sm_tsw {pc : Nat} {d lo hi : Int} {offs : Array Int} (h1 : mv_tsw g loc st h nc ns pc d lo hi offs = some (.inr x)) : mv_sm h x := by
  unfold mv_tsw at h1
  split at h1
  · split at h1
    · rcases mv_cnd h1 with ⟨-, h2⟩ | ⟨-, h2⟩
      · have h3 := (mv_cndn h2).2
        rw [mv_fo_eq] at h3
        exact mv_sm_eq h3
      · split at h2
        · have h3 := (mv_cndn h2).2
          rw [mv_fo_eq] at h3
          exact mv_sm_eq h3
        · cases h2
    · cases h1
    · cases h1
  · cases h1
theorem mv_sm_lsw {pc : Nat} {d : Int} {ps : Array (Int × Int)} (h1 : mv_lsw g loc st h nc ns pc d ps = some (.inr x)) : mv_sm h x := by
  unfold mv_lsw at h1
  split at h1
  · split at h1
    · have h3 := (mv_cndn h1).2
      rw [mv_fo_eq] at h3
      exact mv_sm_eq h3
    · cases h1
    · cases h1
  · cases h1
theorem mv_sm_dup (h1 : mv_dup loc st h nc ns = some (.inr x)) : mv_sm h x := by
  unfold mv_dup at h1
  split at h1
  · exact mv_sm_eq (mv_cnn h1).2
  · cases h1
theorem mv_sm_pop (h1 : mv_pop loc st h nc ns = some (.inr x)) : mv_sm h x := by
  unfold mv_pop at h1
  split at h1
  · exact mv_sm_eq (mv_cnn h1).2
  · cases h1
theorem mv_sm_dupx (h1 : mv_dupx loc st h nc ns = some (.inr x)) : mv_sm h x := by
  unfold mv_dupx at h1
  split at h1
  · exact mv_sm_eq (mv_cnn h1).2
  · cases h1
theorem mv_sm_dup2 (h1 : mv_dup2 loc st h nc ns = some (.inr x)) : mv_sm h x := by
  unfold mv_dup2 at h1
  split at h1
  · rcases mv_cnd h1 with ⟨-, h2⟩ | ⟨-, h2⟩
    · exact mv_sm_eq h2
    · split at h2
      · exact mv_sm_eq (mv_cnn h2).2
      · cases h2
  · cases h1
theorem mv_sm_s1 {dv : Nat → List mv_V} {i : Instr} {pc a k : Nat} (hp : mv_pu i = true) (h1 : mv_s1 g loc st h nc ns dv nL i pc a k = some (.inr x)) : mv_sm h x := by
  cases i with
  | iconst n => exact mv_sm_eq h1
  | bipush n => exact mv_sm_eq h1
  | sipush n => exact mv_sm_eq h1
  | ldc n => exact mv_sm_eq h1
  | ldc_w n => exact mv_sm_eq h1
  | lconst n => exact mv_sm_eq h1
  | ldc2_w n => exact mv_sm_eq h1
  | dconst n => exact mv_sm_eq h1
  | iload_n n => exact mv_sm_ld h1
  | iload n => exact mv_sm_ld h1
  | lload_n n => exact mv_sm_ld h1
  | lload n => exact mv_sm_ld h1
  | dload_n n => exact mv_sm_ld h1
  | dload n => exact mv_sm_ld h1
  | aload_n n => exact mv_sm_ld h1
  | aload n => exact mv_sm_ld h1
  | istore_n n => exact mv_sm_sto h1
  | istore n => exact mv_sm_sto h1
  | astore_n n => exact mv_sm_sto h1
  | astore n => exact mv_sm_sto h1
  | lstore_n n => exact mv_sm_sto2 h1
  | lstore n => exact mv_sm_sto2 h1
  | dstore_n n => exact mv_sm_sto2 h1
  | dstore n => exact mv_sm_sto2 h1
  | iinc n z => exact mv_sm_inc h1
  | ifCond o off => exact mv_sm_if h1
  | if_icmp o off => exact mv_sm_ic h1
  | goto off => exact mv_sm_eq h1
  | tableswitch d lo hi offs => exact mv_sm_tsw h1
  | lookupswitch d ps => exact mv_sm_lsw h1
  | getfield n => exact mv_sm_gf h1
  | putfield n => cases hp
  | newarray t => cases hp
  | new n => cases hp
  | iadd => exact mv_sm_bi (f := fun x y => some ((x + y) % 4294967296)) h1
  | isub => exact mv_sm_bi (f := fun x y => some ((x + (4294967296 - y % 4294967296)) % 4294967296)) h1
  | imul => exact mv_sm_bi (f := fun x y => some (x * y % 4294967296)) h1
  | iand => exact mv_sm_and h1
  | ior => exact mv_sm_bi (f := fun x y => some (Nat.lor x y % 4294967296)) h1
  | ixor => exact mv_sm_bi (f := fun x y => some (Nat.xor x y % 4294967296)) h1
  | idiv => exact mv_sm_bi (f := fun x y => bif decide (nI y = 0) then none else some (mv_co (nI x / nI y))) h1
  | irem => exact mv_sm_bi (f := fun x y => bif decide (nI y = 0) then none else some (mv_co (nI x - (nI x / nI y) * nI y))) h1
  | ishl => exact mv_sm_bi (f := fun x y => some (mv_co (nI x <<< (nI y &&& 31)))) h1
  | ishr => exact mv_sm_bi (f := fun x y => some (mv_co (nI x >>> (nI y &&& 31)))) h1
  | iushr => exact mv_sm_ush h1
  | i2l => exact mv_sm_un (f := fun x => (3, mv_cl (nI x).toInt64)) h1
  | i2d => exact mv_sm_un (f := fun x => (4, (FP.i2d (nI x)).toNat)) h1
  | ladd => exact mv_sm_bl (f := fun x y => (3, mv_cl (lN x + lN y))) h1
  | lmul => exact mv_sm_bl (f := fun x y => (3, mv_cl (lN x * lN y))) h1
  | lcmp => exact mv_sm_bl (f := fun x y => (0, mv_co (lg_cmp (lN x) (lN y)))) h1
  | ddiv => exact mv_sm_dd h1
  | dcmp o => exact mv_sm_b4 (f := fun x y => (0, mv_co (Op.cmpValue (FP.dcmp (UInt64.ofNat x) (UInt64.ofNat y)) o))) h1
  | dup => exact mv_sm_dup h1
  | pop => exact mv_sm_pop h1
  | dup_x1 => exact mv_sm_dupx h1
  | dup2 => exact mv_sm_dup2 h1
  | iaload => exact mv_sm_iald h1
  | laload => exact mv_sm_ald h1
  | baload => exact mv_sm_ald h1
  | iastore => cases hp
  | lastore => cases hp
  | bastore => cases hp
  | arraylength => exact mv_sm_alen h1
  | _ => cases h1
end MVPU
end
section
/-! ===== a call of a method that writes nothing, whose answer is the same for all that the bounds allow: nothing is parted. What writes nothing asks K of the same things alone ===== -/
theorem mv_pt3_mono {g : mv_B} {q : Nat × Nat} {f f2 : mv_B → Bool} (h1 : mv_pt3 g q f = true) (h : ∀ g2, f g2 = true → f2 g2 = true) : mv_pt3 g q f2 = true := by
  unfold mv_pt3 at h1 ⊢
  rcases mv_cnd h1 with ⟨hl, h1⟩ | ⟨-, h1⟩
  · rw [hl]
    simp only [Bool.and_eq_true, mv_fo_eq, mv_ls_eq] at h1
    obtain ⟨h2, h3, h4⟩ := h1
    show (_ && (_ && _)) = true
    simp only [Bool.and_eq_true, mv_fo_eq, mv_ls_eq]
    refine ⟨?_, h _ h3, ?_⟩
    · cases hb : Nat.blt (mv_bd g q.1).1 q.2
      · rfl
      · rw [hb] at h2; exact h _ h2
    · cases hb : Nat.blt q.2 (mv_bd g q.1).2
      · rfl
      · rw [hb] at h4; exact h _ h4
  · cases h1
theorem mv_pt2_mono {g : mv_B} {q : Nat × Nat} {f f2 : mv_B → Bool} (h1 : mv_pt2 g q f = true) (h : ∀ g2, f g2 = true → f2 g2 = true) : mv_pt2 g q f2 = true := by
  unfold mv_pt2 at h1 ⊢
  rcases mv_cnd h1 with ⟨hl, h1⟩ | ⟨-, h1⟩
  · rw [hl]
    simp only [Bool.and_eq_true, mv_fo_eq, mv_ls_eq] at h1
    obtain ⟨h2, h4⟩ := h1
    show (_ && _) = true
    simp only [Bool.and_eq_true, mv_fo_eq, mv_ls_eq]
    refine ⟨?_, ?_⟩
    · cases hb : Nat.blt (mv_bd g q.1).1 q.2
      · rfl
      · rw [hb] at h2; exact h _ h2
    · cases hb : Nat.ble q.2 (mv_bd g q.1).2
      · rfl
      · rw [hb] at h4; exact h _ h4
  · cases h1
theorem mv_pt_mono {g : mv_B} {q : Nat × Nat} {f f2 : mv_B → Bool} (h1 : mv_pt g q f = true) (h : ∀ g2, f g2 = true → f2 g2 = true) : mv_pt g q f2 = true := by
  unfold mv_pt at h1 ⊢
  rcases mv_cnd h1 with ⟨hl, h1⟩ | ⟨hl, h1⟩
  · rw [hl]; exact mv_pt2_mono h1 h
  · rw [hl]; exact mv_pt3_mono h1 h
def mv_pk (i : Instr) (k : Nat) : Bool := bif Nat.ble 40 k then Nat.beq k (mv_oc i) && mv_pu i else Nat.beq k 1 || (Nat.beq k 4 || (Nat.beq k 5 || Nat.beq k 6))
def mv_pL (L : List mv_E) : Bool := L.all (fun e => mv_pk e.1 e.2.2.2.1)
def mv_pj (J : mv_J) : Prop := ∀ (dep mid pc : Nat) (L : List mv_E) (loc : mv_L) (st : List mv_V) (h : List mv_C) (nc ns : Nat) (g : mv_B) (K K2 : mv_K), mv_pL L = true → (∀ g2 res c2 n2, K g2 res h c2 n2 = true → K2 g2 res h c2 n2 = true) → J dep mid pc L loc st h nc ns g K = true → J dep mid pc L loc st h nc ns g K2 = true
section MVME
variable {bk : Nat → Nat → Option (List mv_E)} {mi : Nat → mv_I} {dv : Nat → List mv_V} {xn : Nat → Nat} {J : mv_J}
theorem mv_x0_pj (hJ : mv_pj J) {S : mv_S} {dep mid pc : Nat} {e : mv_E} {t : List mv_E} {loc : mv_L} {st : List mv_V} {h : List mv_C} {nc ns : Nat} {g : mv_B} {K K2 : mv_K} (hS : ∀ x, S = some (.inr x) → mv_sm h x) (hL : mv_pL (e :: t) = true) (hK : ∀ g2 res c2 n2, K g2 res h c2 n2 = true → K2 g2 res h c2 n2 = true) (h1 : mv_x0 J S dep mid pc e t loc st h nc ns g K = true) : mv_x0 J S dep mid pc e t loc st h nc ns g K2 = true := by
  have ht : mv_pL t = true := (mv_a2 hL).2
  unfold mv_x0 at h1 ⊢
  match S, hS, h1 with
  | some (.inr (none, l2, s2, h2, c2, n2)), hS, h1 =>
    have e1 : h2 = h := hS _ rfl
    subst e1
    exact hJ _ _ _ _ _ _ _ _ _ _ _ _ ht hK h1
  | some (.inr (some q, l2, s2, h2, c2, n2)), hS, h1 =>
    have e1 : h2 = h := hS _ rfl
    subst e1
    exact hJ _ _ _ _ _ _ _ _ _ _ _ _ rfl hK h1
  | some (.inl q), hS, h1 => exact mv_pt_mono h1 (fun g2 h2 => hJ _ _ _ _ _ _ _ _ _ _ _ _ hL hK h2)
  | none, hS, h1 => cases h1
theorem mv_x1_pj (hJ : mv_pj J) {dep mid pc : Nat} {e : mv_E} {t : List mv_E} {loc : mv_L} {st : List mv_V} {h : List mv_C} {nc ns : Nat} {g : mv_B} {K K2 : mv_K} (hL : mv_pL (e :: t) = true) (hK : ∀ g2 res c2 n2, K g2 res h c2 n2 = true → K2 g2 res h c2 n2 = true) (h1 : mv_x1 J dep mid pc e t loc st h nc ns g K = true) : mv_x1 J dep mid pc e t loc st h nc ns g K2 = true := by
  unfold mv_x1 at h1 ⊢
  match st, h1 with
  | [], h1 =>
    rcases mv_cnd h1 with ⟨h2, h1⟩ | ⟨-, h1⟩
    · show (bif _ then _ else _) = true
      rw [h2]; exact hK _ _ _ _ h1
    · cases h1
  | [v], h1 =>
    have h1 : mv_x1v J v dep mid pc e t loc [v] h nc ns g K = true := h1
    show mv_x1v J v dep mid pc e t loc [v] h nc ns g K2 = true
    unfold mv_x1v at h1 ⊢
    generalize e.2.2.2.2.1 = a at h1 ⊢
    match a, h1 with
    | 0, h1 => cases h1
    | 1, h1 =>
      rcases mv_cnd h1 with ⟨h2, h1⟩ | ⟨-, h1⟩
      · show (bif _ then _ else _) = true
        rw [h2]; exact hK _ _ _ _ h1
      · cases h1
    | 2, h1 =>
      generalize mv_cI g v = z at h1 ⊢
      match z, h1 with
      | some (.inr z), h1 =>
        have h1 : (bif Nat.blt z 2 then mv_fo z (fun z => K g (1, (0, z)) h nc ns) else false) = true := h1
        rcases mv_cnd h1 with ⟨h2, h1⟩ | ⟨-, h1⟩
        · show (bif Nat.blt z 2 then mv_fo z (fun z => K2 g (1, (0, z)) h nc ns) else false) = true
          rw [h2]
          rw [mv_fo_eq] at h1
          show mv_fo z (fun z => K2 g (1, (0, z)) h nc ns) = true
          rw [mv_fo_eq]
          exact hK _ _ _ _ h1
        · cases h1
      | some (.inl q), h1 => exact mv_pt_mono h1 (fun g2 h2 => hJ _ _ _ _ _ _ _ _ _ _ _ _ hL hK h2)
      | none, h1 => cases h1
    | 3, h1 =>
      rcases mv_cnd h1 with ⟨h2, h1⟩ | ⟨-, h1⟩
      · show (bif _ then _ else _) = true
        rw [h2]; exact hK _ _ _ _ h1
      · cases h1
    | 4, h1 =>
      rcases mv_cnd h1 with ⟨h2, h1⟩ | ⟨-, h1⟩
      · show (bif _ then _ else _) = true
        rw [h2]; exact hK _ _ _ _ h1
      · cases h1
    | 5, h1 =>
      rcases mv_cnd h1 with ⟨h2, h1⟩ | ⟨-, h1⟩
      · show (bif _ then _ else _) = true
        rw [h2]; exact hK _ _ _ _ h1
      · cases h1
    | a + 6, h1 => cases h1
  | v :: w :: s2, h1 => cases h1
theorem mv_x5_pj (hJ : mv_pj J) (hb : ∀ mid pc L, bk mid pc = some L → mv_pL L = true) {dep mid : Nat} {e : mv_E} {t : List mv_E} {loc : mv_L} {rest : List mv_V} {h : List mv_C} {nc ns : Nat} {K K2 : mv_K} (ht : mv_pL t = true) (hK : ∀ g2 res c2 n2, K g2 res h c2 n2 = true → K2 g2 res h c2 n2 = true) (g2 : mv_B) (res : Nat × mv_V) (c2 n2 : Nat) (h1 : mv_x5 bk mi xn J dep mid e t loc rest nc ns K g2 res h c2 n2 = true) : mv_x5 bk mi xn J dep mid e t loc rest nc ns K2 g2 res h c2 n2 = true := by
  unfold mv_x5 at h1 ⊢
  rw [mv_fo_eq, mv_fo_eq] at h1 ⊢
  obtain ⟨rk, rv⟩ := res
  match rk, h1 with
  | 0, h1 => exact hJ _ _ _ _ _ _ _ _ _ _ _ _ ht hK h1
  | 1, h1 => exact hJ _ _ _ _ _ _ _ _ _ _ _ _ ht hK h1
  | x + 2, h1 =>
    have h1 : mv_x6 bk mi xn J x dep mid e loc K g2 h (nc + c2) (ns + n2) = true := h1
    show mv_x6 bk mi xn J x dep mid e loc K2 g2 h (nc + c2) (ns + n2) = true
    unfold mv_x6 at h1 ⊢
    generalize mv_hd xn (mi mid).2.2.2.2.2.2.2 e.2.1 x = z at h1 ⊢
    match z, h1 with
    | none, h1 => exact hK _ _ _ _ h1
    | some hp, h1 =>
      cases hq : bk mid hp with
      | none =>
        have h1 : (match bk mid hp with
          | some (e2 :: t2) => bif Nat.beq e2.2.2.2.1 20 then mv_fi (mv_d1 e2.2.2.2.2.1) loc (fun l2 => J dep mid (e2.2.1 + e2.2.2.1) t2 l2 [] h (nc + c2) (ns + n2) g2 K) else false
          | _ => false) = true := h1
        rw [hq] at h1
        cases h1
      | some L =>
        have hpl := hb _ _ _ hq
        have h1 : (match bk mid hp with
          | some (e2 :: t2) => bif Nat.beq e2.2.2.2.1 20 then mv_fi (mv_d1 e2.2.2.2.2.1) loc (fun l2 => J dep mid (e2.2.1 + e2.2.2.1) t2 l2 [] h (nc + c2) (ns + n2) g2 K) else false
          | _ => false) = true := h1
        show (match bk mid hp with
          | some (e2 :: t2) => bif Nat.beq e2.2.2.2.1 20 then mv_fi (mv_d1 e2.2.2.2.2.1) loc (fun l2 => J dep mid (e2.2.1 + e2.2.2.1) t2 l2 [] h (nc + c2) (ns + n2) g2 K2) else false
          | _ => false) = true
        rw [hq] at h1 ⊢
        match L, hpl, h1 with
        | [], hpl, h1 => cases h1
        | e2 :: t2, hpl, h1 =>
          have h1 : (bif Nat.beq e2.2.2.2.1 20 then mv_fi (mv_d1 e2.2.2.2.2.1) loc (fun l2 => J dep mid (e2.2.1 + e2.2.2.1) t2 l2 [] h (nc + c2) (ns + n2) g2 K) else false) = true := h1
          show (bif Nat.beq e2.2.2.2.1 20 then mv_fi (mv_d1 e2.2.2.2.2.1) loc (fun l2 => J dep mid (e2.2.1 + e2.2.2.1) t2 l2 [] h (nc + c2) (ns + n2) g2 K2) else false) = true
          rcases mv_cnd h1 with ⟨h2, h1⟩ | ⟨-, h1⟩
          · rw [h2]
            show mv_fi _ _ _ = true
            rw [mv_fi_eq] at h1 ⊢
            exact hJ _ _ _ _ _ _ _ _ _ _ _ _ (mv_a2 hpl).2 hK h1
          · cases h1
theorem mv_x4_pj (hJ : mv_pj J) (hb : ∀ mid pc L, bk mid pc = some L → mv_pL L = true) {k dep mid : Nat} {e : mv_E} {t : List mv_E} {loc : mv_L} {st : List mv_V} {h : List mv_C} {nc ns : Nat} {g : mv_B} {K K2 : mv_K} (ht : mv_pL t = true) (hK : ∀ g2 res c2 n2, K g2 res h c2 n2 = true → K2 g2 res h c2 n2 = true) (h1 : mv_x4 bk mi xn J k dep mid e t loc st h nc ns g K = true) : mv_x4 bk mi xn J k dep mid e t loc st h nc ns g K2 = true := by
  unfold mv_x4 at h1 ⊢
  match dep, h1 with
  | 0, h1 => cases h1
  | d + 1, h1 =>
    generalize mv_tk ((mi e.2.2.2.2.1).2.2.2.2.1 + (bif Nat.beq k 6 || Nat.beq k 9 then 0 else 1)) st [] = z at h1 ⊢
    match z, h1 with
    | none, h1 => cases h1
    | some (as, rest), h1 =>
      have h1 : (bif Nat.ble (mv_cs rest) 8 && Nat.ble (mv_cs as) (mi e.2.2.2.2.1).2.2.1 && (Nat.beq k 6 || (Nat.beq k 9 || mv_rc h (mi e.2.2.2.2.1).2.2.2.2.2.2.1 as)) then J d e.2.2.2.2.1 0 [] (mv_ag 0 as) [] h 0 0 g (mv_x5 bk mi xn J (d + 1) mid e t loc rest nc ns K) else false) = true := h1
      show (bif Nat.ble (mv_cs rest) 8 && Nat.ble (mv_cs as) (mi e.2.2.2.2.1).2.2.1 && (Nat.beq k 6 || (Nat.beq k 9 || mv_rc h (mi e.2.2.2.2.1).2.2.2.2.2.2.1 as)) then J d e.2.2.2.2.1 0 [] (mv_ag 0 as) [] h 0 0 g (mv_x5 bk mi xn J (d + 1) mid e t loc rest nc ns K2) else false) = true
      rcases mv_cnd h1 with ⟨h2, h1⟩ | ⟨-, h1⟩
      · rw [h2]
        exact hJ _ _ _ _ _ _ _ _ _ _ _ _ rfl (fun g2 res c2 n2 h3 => mv_x5_pj hJ hb ht hK g2 res c2 n2 h3) h1
      · cases h1
theorem mv_su_pj (hJ : mv_pj J) (hb : ∀ mid pc L, bk mid pc = some L → mv_pL L = true) : mv_pj (mv_su bk mi dv xn J) := by
  intro dep mid pc L loc st h nc ns g K K2 hL hK h1
  unfold mv_su at h1 ⊢
  match L, hL, h1 with
  | [], hL, h1 =>
    cases hq : bk mid pc with
    | none =>
      have h1 : (match bk mid pc with
        | some (e :: t) => J dep mid pc (e :: t) loc st h nc ns g K
        | _ => false) = true := h1
      rw [hq] at h1
      cases h1
    | some L =>
      have hpl := hb _ _ _ hq
      have h1 : (match bk mid pc with
        | some (e :: t) => J dep mid pc (e :: t) loc st h nc ns g K
        | _ => false) = true := h1
      show (match (some L : Option (List mv_E)) with
        | some (e :: t) => J dep mid pc (e :: t) loc st h nc ns g K2
        | _ => false) = true
      rw [hq] at h1
      match L, hpl, h1 with
      | [], hpl, h1 => cases h1
      | e :: t, hpl, h1 => exact hJ _ _ _ _ _ _ _ _ _ _ _ _ hpl hK h1
  | e :: t, hL, h1 =>
    obtain ⟨hp, ht⟩ := mv_a2 (show (mv_pk e.1 e.2.2.2.1 && mv_pL t) = true from hL)
    have h1 : (bif Nat.ble 40 e.2.2.2.1 then mv_x0 J (mv_sf g loc st h nc ns dv (mi mid).2.2.1 e.1 e.2.1 e.2.2.2.2.1 e.2.2.2.2.2 e.2.2.2.1) dep mid pc e t loc st h nc ns g K else mv_x9 bk mi xn J dep mid pc e t loc st h nc ns g K) = true := h1
    show (bif Nat.ble 40 e.2.2.2.1 then mv_x0 J (mv_sf g loc st h nc ns dv (mi mid).2.2.1 e.1 e.2.1 e.2.2.2.2.1 e.2.2.2.2.2 e.2.2.2.1) dep mid pc e t loc st h nc ns g K2 else mv_x9 bk mi xn J dep mid pc e t loc st h nc ns g K2) = true
    unfold mv_pk at hp
    rcases mv_cnd h1 with ⟨h2, h1⟩ | ⟨h2, h1⟩
    · rw [h2] at hp ⊢
      obtain ⟨h3, h4⟩ := mv_a2 hp
      refine mv_x0_pj hJ (fun x hx => ?_) hL hK h1
      rw [mv_beq h3, mv_sf_eq] at hx
      exact mv_sm_s1 h4 hx
    · rw [h2] at hp ⊢
      obtain ⟨i, pc2, len, k, a, b2⟩ := e
      have hp : (Nat.beq k 1 || (Nat.beq k 4 || (Nat.beq k 5 || Nat.beq k 6))) = true := hp
      simp only [Bool.or_eq_true] at hp
      rcases hp with hp | hp | hp | hp
      · cases mv_beq hp
        exact mv_x1_pj hJ hL hK h1
      · cases mv_beq hp
        exact mv_x4_pj (k := 4) hJ hb ht hK h1
      · cases mv_beq hp
        exact mv_x4_pj (k := 5) hJ hb ht hK h1
      · cases mv_beq hp
        exact mv_x4_pj (k := 6) hJ hb ht hK h1
theorem mv_eu_pj (hb : ∀ mid pc L, bk mid pc = some L → mv_pL L = true) : ∀ n : Nat, mv_pj (mv_eu bk mi dv xn n)
  | 0 => fun dep mid pc L loc st h nc ns g K K2 _ _ h1 => by cases h1
  | n + 1 => by
    rw [mv_eu_s]
    exact mv_su_pj (mv_eu_pj hb n) hb
end MVME
end
section
/-! ===== the interpreter with calls that are not parted ===== -/
noncomputable def mv_mg (bkp : Nat → Nat → Option (List mv_E)) (mi : Nat → mv_I) (dv : Nat → List mv_V) (xn : Nat → Nat) (pn d a : Nat) (as : List mv_V) (h : List mv_C) (g : mv_B) (R : Nat) : Bool :=
  mv_eu bkp mi dv xn pn d a 0 [] (mv_ag 0 as) [] h 0 0 g (fun _ res _ c2 n2 => Nat.beq res.1 1 && (Nat.beq res.2.1 0 && (Nat.beq res.2.2 R && (Nat.beq c2 0 && Nat.beq n2 0))))
noncomputable def mv_xm (bk bkp : Nat → Nat → Option (List mv_E)) (mi : Nat → mv_I) (dv : Nat → List mv_V) (xn : Nat → Nat) (pn : Nat) (ih : mv_J) (k dep mid : Nat) (e : mv_E) (t : List mv_E) (loc : mv_L) (st : List mv_V) (h : List mv_C) (nc ns : Nat) (g : mv_B) (K : mv_K) : Bool := match dep with
  | 0 => false
  | d + 1 => match mv_tk ((mi e.2.2.2.2.1).2.2.2.2.1 + (bif Nat.beq k 6 || Nat.beq k 9 then 0 else 1)) st [] with
    | some (as, rest) => bif Nat.ble (mv_cs rest) 8 && Nat.ble (mv_cs as) (mi e.2.2.2.2.1).2.2.1 && (Nat.beq k 6 || (Nat.beq k 9 || mv_rc h (mi e.2.2.2.2.1).2.2.2.2.2.2.1 as)) then
        bif mv_mg bkp mi dv xn pn d e.2.2.2.2.1 as h g 1 then mv_x5 bk mi xn ih (d + 1) mid e t loc rest nc ns K g (1, (0, 1)) h 0 0
        else bif mv_mg bkp mi dv xn pn d e.2.2.2.2.1 as h g 0 then mv_x5 bk mi xn ih (d + 1) mid e t loc rest nc ns K g (1, (0, 0)) h 0 0
        else ih d e.2.2.2.2.1 0 [] (mv_ag 0 as) [] h 0 0 g (mv_x5 bk mi xn ih (d + 1) mid e t loc rest nc ns K)
      else false
    | none => false
noncomputable def mv_sw (bk bkp : Nat → Nat → Option (List mv_E)) (mi : Nat → mv_I) (dv : Nat → List mv_V) (xn : Nat → Nat) (pn : Nat) (ih : mv_J) : mv_J := fun dep mid pc L loc st h nc ns g K => match L with
      | [] => match bk mid pc with
        | some (e :: t) => ih dep mid pc (e :: t) loc st h nc ns g K
        | _ => false
      | e :: t => bif Nat.ble 40 e.2.2.2.1 then mv_x0 ih (mv_sf g loc st h nc ns dv (mi mid).2.2.1 e.1 e.2.1 e.2.2.2.2.1 e.2.2.2.2.2 e.2.2.2.1) dep mid pc e t loc st h nc ns g K
        else bif Nat.ble 12 e.2.2.2.1 && Nat.ble e.2.2.2.1 14 then mv_xm bk bkp mi dv xn pn ih (e.2.2.2.1 - 8) dep mid e t loc st h nc ns g K
        else mv_x9 bk mi xn ih dep mid pc e t loc st h nc ns g K
/-- a run to the method's end: every end is one that K takes -/
noncomputable def mv_ew (bk bkp : Nat → Nat → Option (List mv_E)) (mi : Nat → mv_I) (dv : Nat → List mv_V) (xn : Nat → Nat) (pn n : Nat) : mv_J :=
  Nat.rec (motive := fun _ => mv_J)
    (fun _ _ _ _ _ _ _ _ _ _ _ => false)
    (fun _ ih dep mid pc L loc st h nc ns g K => match L with
      | [] => match bk mid pc with
        | some (e :: t) => ih dep mid pc (e :: t) loc st h nc ns g K
        | _ => false
      | e :: t => bif Nat.ble 40 e.2.2.2.1 then mv_x0 ih (mv_sf g loc st h nc ns dv (mi mid).2.2.1 e.1 e.2.1 e.2.2.2.2.1 e.2.2.2.2.2 e.2.2.2.1) dep mid pc e t loc st h nc ns g K
        else bif Nat.ble 12 e.2.2.2.1 && Nat.ble e.2.2.2.1 14 then mv_xm bk bkp mi dv xn pn ih (e.2.2.2.1 - 8) dep mid e t loc st h nc ns g K
        else mv_x9 bk mi xn ih dep mid pc e t loc st h nc ns g K) n
theorem mv_ew_s (bk bkp : Nat → Nat → Option (List mv_E)) (mi : Nat → mv_I) (dv : Nat → List mv_V) (xn : Nat → Nat) (pn n : Nat) : mv_ew bk bkp mi dv xn pn (n + 1) = mv_sw bk bkp mi dv xn pn (mv_ew bk bkp mi dv xn pn n) := rfl
section MVMW
variable {l : Launch} {D : va_G} {cs : ClassId × ClassId × ClassId} {r : Nat → Int32} {ba b : Nat} {bk bkp : Nat → Nat → Option (List mv_E)} {mi : Nat → mv_I} {xn : Nat → Nat} {cand : Nat → List Cond} {J : mv_J} {pn : Nat}
theorem mv_x4_fin (hJ : mv_good l D cs r ba b mi cand J) (htb : mv_tb bk mi xn cand) {d mid pc len a a2 k2 : Nat} {i : Instr} {t : List mv_E} {loc : mv_L} {st : List mv_V} {h : List mv_C} {nc ns : Nat} {g : mv_B} {K : mv_K} {as rest : List mv_V} {res : Nat × mv_V} {hh2 : List mv_C} {c2 n2 : Nat}
    (hlen : len = 3) (hv : mv_vL (cand mid) mi (mi mid) (pc + len) t = true) (hg : mv_in g r) (hA : mv_at l D cs r ba b (mi mid) (mi a) pc loc st h nc ns d as rest) (q2 : res.1 < 5) (q4 : mv_run l D cs r ba b (mi a) d (mv_ag 0 as) [] h 0 0 0 res hh2 c2 n2) (q3 : mv_x5 bk mi xn J (d + 1) mid (i, pc, len, k2, a, a2) t loc rest nc ns K g res hh2 c2 n2 = true) :
    mv_ends l D cs r ba b (mi mid) (d + 1) loc st h nc ns pc K := by
  obtain ⟨m1, m2, m3, m4⟩ := q4
  have hc : h.length + c2 = hh2.length := m3
  obtain ⟨g3, res3, h3', c3, n3, y1, y2, y3, y4, y5, y6, y7⟩ := mv_x5_ok hJ htb q2 hg hlen hv hc q3
  refine ⟨g3, res3, h3', c3, n3, y1, y2, y3, Nat.le_trans (Nat.le_add_right _ _) y4, Nat.le_trans (Nat.le_add_right _ _) y5, by omega, fun p en R s m args below meth c hf he r1 r2 r3 r4 H locs ls hH hS hl hn => ?_⟩
  exact y7 p en R s m args below meth c hf he r1 r2 r3 r4 H locs ls _ _ hH hS hl hn (hA res hh2 c2 n2 ⟨m1, m2, m3, m4⟩ p en R s m args below meth c hf he r1 r2 (Nat.le_trans y4 r3) (Nat.le_trans y5 r4) H locs ls hH hS hl)
theorem mv_mg_ok (hst : l.stackTraces = false) (h8 : r 8 = r 0 &&& nI 31) (htp : mv_tb bkp mi xn cand) (hbp : ∀ mid pc L, bkp mid pc = some L → mv_pL L = true) {d a R : Nat} {as : List mv_V} {h : List mv_C} {g : mv_B} (hg : mv_in g r) (h1 : mv_mg bkp mi mv_dv xn pn d a as h g R = true) : mv_run l D cs r ba b (mi a) d (mv_ag 0 as) [] h 0 0 0 (1, (0, R)) h 0 0 := by
  unfold mv_mg at h1
  have h2 := mv_eu_pj (mi := mi) (dv := mv_dv) (xn := xn) hbp pn d a 0 [] (mv_ag 0 as) [] h 0 0 g _ (fun _ res h2 c2 n2 => (Nat.beq res.1 1 && (Nat.beq res.2.1 0 && (Nat.beq res.2.2 R && (Nat.beq c2 0 && Nat.beq n2 0)))) && decide (h2 = h)) rfl (fun g2 res c2 n2 h3 => by
    show (_ && decide (h = h)) = true
    rw [decide_eq_true rfl, Bool.and_true]
    exact h3) h1
  obtain ⟨g2, res, hh2, c2, n2, -, -, q3, q4⟩ := mv_eu_ok hst h8 htp pn d a 0 [] (mv_ag 0 as) [] h 0 0 g _ h2 rfl hg
  simp only [Bool.and_eq_true, decide_eq_true_eq] at q3
  obtain ⟨⟨k1, k2, k3, k4, k5⟩, k6⟩ := q3
  obtain ⟨ra, rb, rc⟩ := res
  cases mv_beq k1
  cases mv_beq k2
  cases mv_beq k3
  cases mv_beq k4
  cases mv_beq k5
  cases k6
  exact q4
theorem mv_xm_ok (hst : l.stackTraces = false) (h8 : r 8 = r 0 &&& nI 31) (hJ : mv_good l D cs r ba b mi cand J) (htb : mv_tb bk mi xn cand) (htp : mv_tb bkp mi xn cand) (hbp : ∀ mid pc L, bkp mid pc = some L → mv_pL L = true) {k dep mid pc len a a2 k2 : Nat} {i : Instr} {t : List mv_E} {loc : mv_L} {st : List mv_V} {h : List mv_C} {nc ns : Nat} {g : mv_B} {K : mv_K}
    (h1 : mv_xm bk bkp mi mv_dv xn pn J k dep mid (i, pc, len, k2, a, a2) t loc st h nc ns g K = true) (hlen : len = 3) (hv : mv_vL (cand mid) mi (mi mid) (pc + len) t = true) (hg : mv_in g r)
    (hat : ∀ (d : Nat) (as rest : List mv_V), as.length = (mi a).2.2.2.2.1 + (bif Nat.beq k 6 || Nat.beq k 9 then 0 else 1) → st = as.reverse ++ rest → mv_cs rest ≤ 8 → mv_cs as ≤ (mi a).2.2.1 → (Nat.beq k 6 || (Nat.beq k 9 || mv_rc h (mi a).2.2.2.2.2.2.1 as)) = true → mv_at l D cs r ba b (mi mid) (mi a) pc loc st h nc ns d as rest) :
    mv_ends l D cs r ba b (mi mid) dep loc st h nc ns pc K := by
  unfold mv_xm at h1
  split at h1
  · cases h1
  · rename_i d
    split at h1
    · rename_i as rest htk
      rcases mv_cnd h1 with ⟨h2, h1⟩ | ⟨-, h1⟩
      · simp only [Bool.and_eq_true] at h2
        obtain ⟨⟨h2, h3⟩, h4⟩ := h2
        obtain ⟨u, u1, u2, u3⟩ := mv_tk_ok _ _ _ _ _ htk
        rw [List.append_nil] at u3
        have hA := hat d as rest (by rw [u3, List.length_reverse]; exact u1) (by rw [u3, List.reverse_reverse]; exact u2) (mv_ble h2) (mv_ble h3) h4
        rcases mv_cnd h1 with ⟨hm, h1⟩ | ⟨-, h1⟩
        · exact mv_x4_fin hJ htb hlen hv hg hA (by show (1 : Nat) < 5; omega) (mv_mg_ok hst h8 htp hbp hg hm) h1
        rcases mv_cnd h1 with ⟨hm, h1⟩ | ⟨-, h1⟩
        · exact mv_x4_fin hJ htb hlen hv hg hA (by show (1 : Nat) < 5; omega) (mv_mg_ok hst h8 htp hbp hg hm) h1
        obtain ⟨g2, res, hh2, c2, n2, q1, q2, q3, q4⟩ := hJ _ _ _ _ _ _ _ _ _ _ _ h1 rfl hg
        exact mv_x4_fin hJ htb hlen hv q1 hA q2 q4 q3
      · cases h1
    · cases h1
theorem mv_sw_ok (hst : l.stackTraces = false) (h8 : r 8 = r 0 &&& nI 31) (hJ : mv_good l D cs r ba b mi cand J) (htb : mv_tb bk mi xn cand) (htp : mv_tb bkp mi xn cand) (hbp : ∀ mid pc L, bkp mid pc = some L → mv_pL L = true) : mv_good l D cs r ba b mi cand (mv_sw bk bkp mi mv_dv xn pn J) := by
  intro dep mid pc L loc st h nc ns g K h1 hv hg
  have hu := mv_sp_ok hst h8 hJ htb dep mid pc L loc st h nc ns g K
  match L, hv, hu, h1 with
  | [], hv, hu, h1 => exact hu h1 hv hg
  | e :: t, hv, hu, h1 =>
    have h1 : (bif Nat.ble 40 e.2.2.2.1 then mv_x0 J (mv_sf g loc st h nc ns mv_dv (mi mid).2.2.1 e.1 e.2.1 e.2.2.2.2.1 e.2.2.2.2.2 e.2.2.2.1) dep mid pc e t loc st h nc ns g K
        else bif Nat.ble 12 e.2.2.2.1 && Nat.ble e.2.2.2.1 14 then mv_xm bk bkp mi mv_dv xn pn J (e.2.2.2.1 - 8) dep mid e t loc st h nc ns g K
        else mv_x9 bk mi xn J dep mid pc e t loc st h nc ns g K) = true := h1
    have hu : (bif Nat.ble 40 e.2.2.2.1 then mv_x0 J (mv_sf g loc st h nc ns mv_dv (mi mid).2.2.1 e.1 e.2.1 e.2.2.2.2.1 e.2.2.2.2.2 e.2.2.2.1) dep mid pc e t loc st h nc ns g K
        else mv_x9 bk mi xn J dep mid pc e t loc st h nc ns g K) = true → mv_vL (cand mid) mi (mi mid) pc (e :: t) = true → mv_in g r → mv_ends l D cs r ba b (mi mid) dep loc st h nc ns pc K := hu
    rcases mv_cnd h1 with ⟨h40, h1⟩ | ⟨h40, h1⟩
    · refine hu ?_ hv hg
      rw [h40]
      exact h1
    · rcases mv_cnd h1 with ⟨h12, h1⟩ | ⟨-, h1⟩
      · obtain ⟨w1, w2, w3⟩ := mv_vL_cons hv
        obtain ⟨i, pc2, len, k, a, b2⟩ := e
        have w1 : pc2 = pc := w1
        subst w1
        obtain ⟨v1, v2⟩ := mv_a2 w2
        have hd : decode (mi mid).2.1 pc2 = .ok (i, len) := of_decide_eq_true v1
        have h40 : Nat.ble 40 k = false := h40
        have v2 : (bif Nat.ble 40 k then Nat.beq k (mv_oc i) && mv_okB (cand mid) (mi mid).1.cls (mi mid).1.name pc2 i len a b2 else mv_vk (cand mid) mi (mi mid) i pc2 len k a b2) = true := v2
        rw [h40] at v2
        have v2 : mv_vk (cand mid) mi (mi mid) i pc2 len k a b2 = true := v2
        obtain ⟨g1, g2⟩ := mv_a2 h12
        have g1 : 12 ≤ k := mv_ble g1
        have g2 : k ≤ 14 := mv_ble g2
        have t1 := (htb mid).1
        have u1 := (htb a).1
        have u2 := (htb a).2.1
        have u3 := (htb a).2.2.2
        have h3 : k = 12 ∨ k = 13 ∨ k = 14 := by omega
        rcases h3 with rfl | rfl | rfl
        · obtain ⟨z1, z2⟩ := mv_a2 (show (Nat.beq len 3 && (Nat.beq (mi a).2.2.2.2.2.1 0 && mv_c4 (cand mid) (mi mid).1.cls (mi a).1 i)) = true from v2)
          obtain ⟨z4, z3⟩ := mv_a2 z2
          have z1 := mv_beq z1
          unfold mv_c4 at z3
          split at z3
          · exact mv_xm_ok (k := 4) hst h8 hJ htb htp hbp h1 z1 w3 hg fun d as rest q1 q2 q3 q4 q5 => mv_k4 t1 u1 u2 u3 (mv_beq z4) (of_decide_eq_true z3) (by rw [z1] at hd; exact hd) q1 q2 q3 q4 q5
          · cases z3
        · obtain ⟨z1, z2⟩ := mv_a2 (show (Nat.beq len 3 && (Nat.beq (mi a).2.2.2.2.2.1 0 && mv_c5 (mi mid).1.cls (mi a).1 i)) = true from v2)
          obtain ⟨z4, z3⟩ := mv_a2 z2
          have z1 := mv_beq z1
          unfold mv_c5 at z3
          split at z3
          · exact mv_xm_ok (k := 5) hst h8 hJ htb htp hbp h1 z1 w3 hg fun d as rest q1 q2 q3 q4 q5 => mv_k5 t1 u1 u2 u3 (mv_beq z4) (of_decide_eq_true z3) (by rw [z1] at hd; exact hd) q1 q2 q3 q4 q5
          · cases z3
        · obtain ⟨z1, z2⟩ := mv_a2 (show (Nat.beq len 3 && (Nat.beq (mi a).2.2.2.2.2.1 1 && mv_c6 (cand mid) (mi mid).1.cls (mi a).1 i)) = true from v2)
          obtain ⟨z4, z3⟩ := mv_a2 z2
          have z1 := mv_beq z1
          unfold mv_c6 at z3
          split at z3
          · exact mv_xm_ok (k := 6) hst h8 hJ htb htp hbp h1 z1 w3 hg fun d as rest q1 q2 q3 q4 q5 => mv_k6 t1 u1 u2 u3 (mv_beq z4) (of_decide_eq_true z3) (by rw [z1] at hd; exact hd) q1 q2 q3 q4
          · cases z3
      · refine hu ?_ hv hg
        rw [h40]
        exact h1
theorem mv_ew_ok (hst : l.stackTraces = false) (h8 : r 8 = r 0 &&& nI 31) (htb : mv_tb bk mi xn cand) (htp : mv_tb bkp mi xn cand) (hbp : ∀ mid pc L, bkp mid pc = some L → mv_pL L = true) : ∀ n : Nat, mv_good l D cs r ba b mi cand (mv_ew bk bkp mi mv_dv xn pn n)
  | 0 => fun dep mid pc L loc st h nc ns g K h1 _ _ => by cases h1
  | n + 1 => by
    rw [mv_ew_s]
    exact mv_sw_ok hst h8 (mv_ew_ok hst h8 htb htp hbp n) htb htp hbp
end MVMW
end
section
/-! ===== the code, the methods, the classes as tables: printed by a program out of the names ===== -/
def kb_0 : List (Nat × List mv_E) := [(0, [(.new 8, 0, 3, 87, 7, 0), (.dup, 3, 1, 77, 0, 0), (.invokespecial 85, 4, 3, 7, 96, 0), (.astore_n 1, 7, 1, 74, 1, 0), (.new 86, 8, 3, 87, 8, 0), (.dup, 11, 1, 77, 0, 0), (.invokespecial 88, 12, 3, 7, 139, 0), (.astore_n 2, 15, 1, 74, 2, 0), (.iconst 1, 16, 1, 42, 1, 0), (.newarray .long, 17, 2, 86, 1, 0), (.astore_n 3, 19, 1, 74, 3, 0), (.iconst 0, 20, 1, 42, 0, 0), (.istore 4, 21, 2, 46, 4, 0)]),
  (23, [(.iload 4, 23, 2, 40, 4, 0), (.aload_n 0, 25, 1, 41, 0, 0), (.arraylength, 26, 1, 85, 0, 0), (.bipush 8, 27, 2, 42, 8, 0), (.isub, 29, 1, 67, 0, 0), (.if_icmp .gt 1779, 30, 3, 52, 1809, 0), (.aload_n 0, 33, 1, 41, 0, 0), (.iload 4, 34, 2, 40, 4, 0), (.iaload, 36, 1, 44, 0, 0), (.bipush 31, 37, 2, 42, 31, 0), (.iand, 39, 1, 64, 0, 0), (.tableswitch 1763 0 22 #[108, 204, 284, 352, 420, 500, 568, 624, 692, 767, 835, 903, 978, 1126, 1194, 1262, 1380, 1448, 1516, 1572, 1613, 1693, 1749], 40, 108, 97, 0, 0)]),
  (148, [(.aload_n 1, 148, 1, 41, 1, 0), (.aload_n 0, 149, 1, 41, 0, 0), (.iload 4, 150, 2, 40, 4, 0), (.iconst 1, 152, 1, 42, 1, 0), (.iadd, 153, 1, 54, 0, 0), (.iaload, 154, 1, 44, 0, 0), (.aload_n 0, 155, 1, 41, 0, 0), (.iload 4, 156, 2, 40, 4, 0), (.iconst 2, 158, 1, 42, 2, 0), (.iadd, 159, 1, 54, 0, 0), (.iaload, 160, 1, 44, 0, 0), (.aload_n 0, 161, 1, 41, 0, 0), (.iload 4, 162, 2, 40, 4, 0), (.iconst 3, 164, 1, 42, 3, 0), (.iadd, 165, 1, 54, 0, 0), (.iaload, 166, 1, 44, 0, 0), (.ifCond .eq 7, 167, 3, 56, 174, 0), (.iconst 1, 170, 1, 42, 1, 0), (.goto 4, 171, 3, 45, 175, 0)]),
  (174, [(.iconst 0, 174, 1, 42, 0, 0)]),
  (175, [(.aload_n 3, 175, 1, 41, 3, 0), (.invokestatic 89, 176, 3, 9, 247, 0), (.istore 5, 179, 2, 46, 5, 0), (.aload_n 2, 181, 1, 41, 2, 0), (.aload_n 0, 182, 1, 41, 0, 0), (.iload 4, 183, 2, 40, 4, 0), (.iconst 1, 185, 1, 42, 1, 0), (.iadd, 186, 1, 54, 0, 0), (.iaload, 187, 1, 44, 0, 0), (.aload_n 0, 188, 1, 41, 0, 0), (.iload 4, 189, 2, 40, 4, 0), (.iconst 2, 191, 1, 42, 2, 0), (.iadd, 192, 1, 54, 0, 0), (.iaload, 193, 1, 44, 0, 0), (.aload_n 0, 194, 1, 41, 0, 0), (.iload 4, 195, 2, 40, 4, 0), (.iconst 3, 197, 1, 42, 3, 0), (.iadd, 198, 1, 54, 0, 0), (.iaload, 199, 1, 44, 0, 0), (.ifCond .eq 7, 200, 3, 56, 207, 0), (.iconst 1, 203, 1, 42, 1, 0), (.goto 4, 204, 3, 45, 208, 0)]),
  (207, [(.iconst 0, 207, 1, 42, 0, 0)]),
  (208, [(.invokevirtual 94, 208, 3, 4, 183, 0), (.istore 6, 211, 2, 46, 6, 0), (.aload_n 2, 213, 1, 41, 2, 0), (.invokevirtual 95, 214, 3, 4, 140, 0), (.iload 5, 217, 2, 40, 5, 0), (.if_icmp .eq 5, 219, 3, 48, 224, 0), (.iconst 0, 222, 1, 42, 0, 0), (.ireturn, 223, 1, 1, 2, 0)]),
  (224, [(.iload 5, 224, 2, 40, 5, 0), (.ifCond .ne 15, 226, 3, 57, 241, 0), (.aload_n 3, 229, 1, 41, 3, 0), (.iconst 0, 230, 1, 42, 0, 0), (.laload, 231, 1, 81, 0, 0), (.iload 6, 232, 2, 40, 6, 0), (.i2l, 234, 1, 90, 0, 0), (.lcmp, 235, 1, 94, 0, 0), (.ifCond .eq 5, 236, 3, 56, 241, 0), (.iconst 0, 239, 1, 42, 0, 0), (.ireturn, 240, 1, 1, 2, 0)]),
  (241, [(.goto 1562, 241, 3, 45, 1803, 0)]),
  (244, [(.aload_n 1, 244, 1, 41, 1, 0), (.aload_n 0, 245, 1, 41, 0, 0), (.iload 4, 246, 2, 40, 4, 0), (.iconst 1, 248, 1, 42, 1, 0), (.iadd, 249, 1, 54, 0, 0), (.iaload, 250, 1, 44, 0, 0), (.aload_n 0, 251, 1, 41, 0, 0), (.iload 4, 252, 2, 40, 4, 0), (.iconst 2, 254, 1, 42, 2, 0), (.iadd, 255, 1, 54, 0, 0), (.iaload, 256, 1, 44, 0, 0), (.aload_n 0, 257, 1, 41, 0, 0), (.iload 4, 258, 2, 40, 4, 0), (.iconst 3, 260, 1, 42, 3, 0), (.iadd, 261, 1, 54, 0, 0), (.iaload, 262, 1, 44, 0, 0), (.aload_n 3, 263, 1, 41, 3, 0), (.invokestatic 99, 264, 3, 9, 248, 0), (.istore 5, 267, 2, 46, 5, 0), (.aload_n 2, 269, 1, 41, 2, 0), (.aload_n 0, 270, 1, 41, 0, 0), (.iload 4, 271, 2, 40, 4, 0), (.iconst 1, 273, 1, 42, 1, 0), (.iadd, 274, 1, 54, 0, 0), (.iaload, 275, 1, 44, 0, 0), (.aload_n 0, 276, 1, 41, 0, 0), (.iload 4, 277, 2, 40, 4, 0), (.iconst 2, 279, 1, 42, 2, 0), (.iadd, 280, 1, 54, 0, 0), (.iaload, 281, 1, 44, 0, 0), (.aload_n 0, 282, 1, 41, 0, 0), (.iload 4, 283, 2, 40, 4, 0), (.iconst 3, 285, 1, 42, 3, 0), (.iadd, 286, 1, 54, 0, 0), (.iaload, 287, 1, 44, 0, 0), (.invokevirtual 102, 288, 3, 4, 184, 0), (.istore 6, 291, 2, 46, 6, 0), (.aload_n 2, 293, 1, 41, 2, 0), (.invokevirtual 95, 294, 3, 4, 140, 0), (.iload 5, 297, 2, 40, 5, 0), (.if_icmp .eq 5, 299, 3, 48, 304, 0), (.iconst 0, 302, 1, 42, 0, 0), (.ireturn, 303, 1, 1, 2, 0)]),
  (304, [(.iload 5, 304, 2, 40, 5, 0), (.ifCond .ne 15, 306, 3, 57, 321, 0), (.aload_n 3, 309, 1, 41, 3, 0), (.iconst 0, 310, 1, 42, 0, 0), (.laload, 311, 1, 81, 0, 0), (.iload 6, 312, 2, 40, 6, 0), (.i2l, 314, 1, 90, 0, 0), (.lcmp, 315, 1, 94, 0, 0), (.ifCond .eq 5, 316, 3, 56, 321, 0), (.iconst 0, 319, 1, 42, 0, 0), (.ireturn, 320, 1, 1, 2, 0)]),
  (321, [(.goto 1482, 321, 3, 45, 1803, 0)]),
  (324, [(.aload_n 1, 324, 1, 41, 1, 0), (.aload_n 0, 325, 1, 41, 0, 0), (.iload 4, 326, 2, 40, 4, 0), (.iconst 1, 328, 1, 42, 1, 0), (.iadd, 329, 1, 54, 0, 0), (.iaload, 330, 1, 44, 0, 0), (.aload_n 0, 331, 1, 41, 0, 0), (.iload 4, 332, 2, 40, 4, 0), (.iconst 2, 334, 1, 42, 2, 0), (.iadd, 335, 1, 54, 0, 0), (.iaload, 336, 1, 44, 0, 0), (.aload_n 3, 337, 1, 41, 3, 0), (.invokestatic 103, 338, 3, 9, 249, 0), (.istore 5, 341, 2, 46, 5, 0), (.aload_n 2, 343, 1, 41, 2, 0), (.aload_n 0, 344, 1, 41, 0, 0), (.iload 4, 345, 2, 40, 4, 0), (.iconst 1, 347, 1, 42, 1, 0), (.iadd, 348, 1, 54, 0, 0), (.iaload, 349, 1, 44, 0, 0), (.aload_n 0, 350, 1, 41, 0, 0), (.iload 4, 351, 2, 40, 4, 0), (.iconst 2, 353, 1, 42, 2, 0), (.iadd, 354, 1, 54, 0, 0), (.iaload, 355, 1, 44, 0, 0), (.invokevirtual 106, 356, 3, 4, 185, 0), (.istore 6, 359, 2, 46, 6, 0), (.aload_n 2, 361, 1, 41, 2, 0), (.invokevirtual 95, 362, 3, 4, 140, 0), (.iload 5, 365, 2, 40, 5, 0), (.if_icmp .eq 5, 367, 3, 48, 372, 0), (.iconst 0, 370, 1, 42, 0, 0), (.ireturn, 371, 1, 1, 2, 0)]),
  (372, [(.iload 5, 372, 2, 40, 5, 0), (.ifCond .ne 15, 374, 3, 57, 389, 0), (.aload_n 3, 377, 1, 41, 3, 0), (.iconst 0, 378, 1, 42, 0, 0), (.laload, 379, 1, 81, 0, 0), (.iload 6, 380, 2, 40, 6, 0), (.i2l, 382, 1, 90, 0, 0), (.lcmp, 383, 1, 94, 0, 0), (.ifCond .eq 5, 384, 3, 56, 389, 0), (.iconst 0, 387, 1, 42, 0, 0), (.ireturn, 388, 1, 1, 2, 0)]),
  (389, [(.goto 1414, 389, 3, 45, 1803, 0)]),
  (392, [(.aload_n 1, 392, 1, 41, 1, 0), (.aload_n 0, 393, 1, 41, 0, 0), (.iload 4, 394, 2, 40, 4, 0), (.iconst 1, 396, 1, 42, 1, 0), (.iadd, 397, 1, 54, 0, 0), (.iaload, 398, 1, 44, 0, 0), (.aload_n 0, 399, 1, 41, 0, 0), (.iload 4, 400, 2, 40, 4, 0), (.iconst 2, 402, 1, 42, 2, 0), (.iadd, 403, 1, 54, 0, 0), (.iaload, 404, 1, 44, 0, 0), (.aload_n 3, 405, 1, 41, 3, 0), (.invokestatic 107, 406, 3, 9, 250, 0), (.istore 5, 409, 2, 46, 5, 0), (.aload_n 2, 411, 1, 41, 2, 0), (.aload_n 0, 412, 1, 41, 0, 0), (.iload 4, 413, 2, 40, 4, 0), (.iconst 1, 415, 1, 42, 1, 0), (.iadd, 416, 1, 54, 0, 0), (.iaload, 417, 1, 44, 0, 0), (.aload_n 0, 418, 1, 41, 0, 0), (.iload 4, 419, 2, 40, 4, 0), (.iconst 2, 421, 1, 42, 2, 0), (.iadd, 422, 1, 54, 0, 0), (.iaload, 423, 1, 44, 0, 0), (.invokevirtual 109, 424, 3, 4, 188, 0), (.istore 6, 427, 2, 46, 6, 0), (.aload_n 2, 429, 1, 41, 2, 0), (.invokevirtual 95, 430, 3, 4, 140, 0), (.iload 5, 433, 2, 40, 5, 0), (.if_icmp .eq 5, 435, 3, 48, 440, 0), (.iconst 0, 438, 1, 42, 0, 0), (.ireturn, 439, 1, 1, 2, 0)]),
  (440, [(.iload 5, 440, 2, 40, 5, 0), (.ifCond .ne 15, 442, 3, 57, 457, 0), (.aload_n 3, 445, 1, 41, 3, 0), (.iconst 0, 446, 1, 42, 0, 0), (.laload, 447, 1, 81, 0, 0), (.iload 6, 448, 2, 40, 6, 0), (.i2l, 450, 1, 90, 0, 0), (.lcmp, 451, 1, 94, 0, 0), (.ifCond .eq 5, 452, 3, 56, 457, 0), (.iconst 0, 455, 1, 42, 0, 0), (.ireturn, 456, 1, 1, 2, 0)]),
  (457, [(.goto 1346, 457, 3, 45, 1803, 0)]),
  (460, [(.aload_n 1, 460, 1, 41, 1, 0), (.aload_n 0, 461, 1, 41, 0, 0), (.iload 4, 462, 2, 40, 4, 0), (.iconst 1, 464, 1, 42, 1, 0), (.iadd, 465, 1, 54, 0, 0), (.iaload, 466, 1, 44, 0, 0), (.aload_n 0, 467, 1, 41, 0, 0), (.iload 4, 468, 2, 40, 4, 0), (.iconst 2, 470, 1, 42, 2, 0), (.iadd, 471, 1, 54, 0, 0), (.iaload, 472, 1, 44, 0, 0), (.aload_n 0, 473, 1, 41, 0, 0), (.iload 4, 474, 2, 40, 4, 0), (.iconst 3, 476, 1, 42, 3, 0), (.iadd, 477, 1, 54, 0, 0), (.iaload, 478, 1, 44, 0, 0), (.aload_n 3, 479, 1, 41, 3, 0), (.invokestatic 110, 480, 3, 9, 251, 0), (.istore 5, 483, 2, 46, 5, 0), (.aload_n 2, 485, 1, 41, 2, 0), (.aload_n 0, 486, 1, 41, 0, 0), (.iload 4, 487, 2, 40, 4, 0), (.iconst 1, 489, 1, 42, 1, 0), (.iadd, 490, 1, 54, 0, 0), (.iaload, 491, 1, 44, 0, 0), (.aload_n 0, 492, 1, 41, 0, 0), (.iload 4, 493, 2, 40, 4, 0), (.iconst 2, 495, 1, 42, 2, 0), (.iadd, 496, 1, 54, 0, 0), (.iaload, 497, 1, 44, 0, 0), (.aload_n 0, 498, 1, 41, 0, 0), (.iload 4, 499, 2, 40, 4, 0), (.iconst 3, 501, 1, 42, 3, 0), (.iadd, 502, 1, 54, 0, 0), (.iaload, 503, 1, 44, 0, 0), (.invokevirtual 112, 504, 3, 4, 191, 0), (.istore 6, 507, 2, 46, 6, 0), (.aload_n 2, 509, 1, 41, 2, 0), (.invokevirtual 95, 510, 3, 4, 140, 0), (.iload 5, 513, 2, 40, 5, 0), (.if_icmp .eq 5, 515, 3, 48, 520, 0), (.iconst 0, 518, 1, 42, 0, 0), (.ireturn, 519, 1, 1, 2, 0)]),
  (520, [(.iload 5, 520, 2, 40, 5, 0), (.ifCond .ne 15, 522, 3, 57, 537, 0), (.aload_n 3, 525, 1, 41, 3, 0), (.iconst 0, 526, 1, 42, 0, 0), (.laload, 527, 1, 81, 0, 0), (.iload 6, 528, 2, 40, 6, 0), (.i2l, 530, 1, 90, 0, 0), (.lcmp, 531, 1, 94, 0, 0), (.ifCond .eq 5, 532, 3, 56, 537, 0), (.iconst 0, 535, 1, 42, 0, 0), (.ireturn, 536, 1, 1, 2, 0)]),
  (537, [(.goto 1266, 537, 3, 45, 1803, 0)]),
  (540, [(.aload_n 1, 540, 1, 41, 1, 0), (.aload_n 0, 541, 1, 41, 0, 0), (.iload 4, 542, 2, 40, 4, 0), (.iconst 1, 544, 1, 42, 1, 0), (.iadd, 545, 1, 54, 0, 0), (.iaload, 546, 1, 44, 0, 0), (.aload_n 0, 547, 1, 41, 0, 0), (.iload 4, 548, 2, 40, 4, 0), (.iconst 2, 550, 1, 42, 2, 0), (.iadd, 551, 1, 54, 0, 0), (.iaload, 552, 1, 44, 0, 0), (.aload_n 3, 553, 1, 41, 3, 0), (.invokestatic 113, 554, 3, 9, 252, 0), (.istore 5, 557, 2, 46, 5, 0), (.aload_n 2, 559, 1, 41, 2, 0), (.aload_n 0, 560, 1, 41, 0, 0), (.iload 4, 561, 2, 40, 4, 0), (.iconst 1, 563, 1, 42, 1, 0), (.iadd, 564, 1, 54, 0, 0), (.iaload, 565, 1, 44, 0, 0), (.aload_n 0, 566, 1, 41, 0, 0), (.iload 4, 567, 2, 40, 4, 0), (.iconst 2, 569, 1, 42, 2, 0), (.iadd, 570, 1, 54, 0, 0), (.iaload, 571, 1, 44, 0, 0), (.invokevirtual 115, 572, 3, 4, 192, 0), (.istore 6, 575, 2, 46, 6, 0), (.aload_n 2, 577, 1, 41, 2, 0), (.invokevirtual 95, 578, 3, 4, 140, 0), (.iload 5, 581, 2, 40, 5, 0), (.if_icmp .eq 5, 583, 3, 48, 588, 0), (.iconst 0, 586, 1, 42, 0, 0), (.ireturn, 587, 1, 1, 2, 0)]),
  (588, [(.iload 5, 588, 2, 40, 5, 0), (.ifCond .ne 15, 590, 3, 57, 605, 0), (.aload_n 3, 593, 1, 41, 3, 0), (.iconst 0, 594, 1, 42, 0, 0), (.laload, 595, 1, 81, 0, 0), (.iload 6, 596, 2, 40, 6, 0), (.i2l, 598, 1, 90, 0, 0), (.lcmp, 599, 1, 94, 0, 0), (.ifCond .eq 5, 600, 3, 56, 605, 0), (.iconst 0, 603, 1, 42, 0, 0), (.ireturn, 604, 1, 1, 2, 0)]),
  (605, [(.goto 1198, 605, 3, 45, 1803, 0)]),
  (608, [(.aload_n 1, 608, 1, 41, 1, 0), (.aload_n 0, 609, 1, 41, 0, 0), (.iload 4, 610, 2, 40, 4, 0), (.iconst 1, 612, 1, 42, 1, 0), (.iadd, 613, 1, 54, 0, 0), (.iaload, 614, 1, 44, 0, 0), (.aload_n 3, 615, 1, 41, 3, 0), (.invokestatic 116, 616, 3, 9, 253, 0), (.istore 5, 619, 2, 46, 5, 0), (.aload_n 2, 621, 1, 41, 2, 0), (.aload_n 0, 622, 1, 41, 0, 0), (.iload 4, 623, 2, 40, 4, 0), (.iconst 1, 625, 1, 42, 1, 0), (.iadd, 626, 1, 54, 0, 0), (.iaload, 627, 1, 44, 0, 0), (.invokevirtual 119, 628, 3, 4, 193, 0), (.istore 6, 631, 2, 46, 6, 0), (.aload_n 2, 633, 1, 41, 2, 0), (.invokevirtual 95, 634, 3, 4, 140, 0), (.iload 5, 637, 2, 40, 5, 0), (.if_icmp .eq 5, 639, 3, 48, 644, 0), (.iconst 0, 642, 1, 42, 0, 0), (.ireturn, 643, 1, 1, 2, 0)]),
  (644, [(.iload 5, 644, 2, 40, 5, 0), (.ifCond .ne 15, 646, 3, 57, 661, 0), (.aload_n 3, 649, 1, 41, 3, 0), (.iconst 0, 650, 1, 42, 0, 0), (.laload, 651, 1, 81, 0, 0), (.iload 6, 652, 2, 40, 6, 0), (.i2l, 654, 1, 90, 0, 0), (.lcmp, 655, 1, 94, 0, 0), (.ifCond .eq 5, 656, 3, 56, 661, 0), (.iconst 0, 659, 1, 42, 0, 0), (.ireturn, 660, 1, 1, 2, 0)]),
  (661, [(.goto 1142, 661, 3, 45, 1803, 0)]),
  (664, [(.aload_n 1, 664, 1, 41, 1, 0), (.aload_n 0, 665, 1, 41, 0, 0), (.iload 4, 666, 2, 40, 4, 0), (.iconst 1, 668, 1, 42, 1, 0), (.iadd, 669, 1, 54, 0, 0), (.iaload, 670, 1, 44, 0, 0), (.aload_n 0, 671, 1, 41, 0, 0), (.iload 4, 672, 2, 40, 4, 0), (.iconst 2, 674, 1, 42, 2, 0), (.iadd, 675, 1, 54, 0, 0), (.iaload, 676, 1, 44, 0, 0), (.aload_n 3, 677, 1, 41, 3, 0), (.invokestatic 120, 678, 3, 9, 254, 0), (.istore 5, 681, 2, 46, 5, 0), (.aload_n 2, 683, 1, 41, 2, 0), (.aload_n 0, 684, 1, 41, 0, 0), (.iload 4, 685, 2, 40, 4, 0), (.iconst 1, 687, 1, 42, 1, 0), (.iadd, 688, 1, 54, 0, 0), (.iaload, 689, 1, 44, 0, 0), (.aload_n 0, 690, 1, 41, 0, 0), (.iload 4, 691, 2, 40, 4, 0), (.iconst 2, 693, 1, 42, 2, 0), (.iadd, 694, 1, 54, 0, 0), (.iaload, 695, 1, 44, 0, 0), (.invokevirtual 122, 696, 3, 4, 197, 0), (.istore 6, 699, 2, 46, 6, 0), (.aload_n 2, 701, 1, 41, 2, 0), (.invokevirtual 95, 702, 3, 4, 140, 0), (.iload 5, 705, 2, 40, 5, 0), (.if_icmp .eq 5, 707, 3, 48, 712, 0), (.iconst 0, 710, 1, 42, 0, 0), (.ireturn, 711, 1, 1, 2, 0)]),
  (712, [(.iload 5, 712, 2, 40, 5, 0), (.ifCond .ne 15, 714, 3, 57, 729, 0), (.aload_n 3, 717, 1, 41, 3, 0), (.iconst 0, 718, 1, 42, 0, 0), (.laload, 719, 1, 81, 0, 0), (.iload 6, 720, 2, 40, 6, 0), (.i2l, 722, 1, 90, 0, 0), (.lcmp, 723, 1, 94, 0, 0), (.ifCond .eq 5, 724, 3, 56, 729, 0), (.iconst 0, 727, 1, 42, 0, 0), (.ireturn, 728, 1, 1, 2, 0)]),
  (729, [(.goto 1074, 729, 3, 45, 1803, 0)]),
  (732, [(.aload_n 1, 732, 1, 41, 1, 0), (.aload_n 0, 733, 1, 41, 0, 0), (.iload 4, 734, 2, 40, 4, 0), (.iconst 1, 736, 1, 42, 1, 0), (.iadd, 737, 1, 54, 0, 0), (.iaload, 738, 1, 44, 0, 0), (.aload_n 0, 739, 1, 41, 0, 0), (.iload 4, 740, 2, 40, 4, 0), (.iconst 2, 742, 1, 42, 2, 0), (.iadd, 743, 1, 54, 0, 0), (.iaload, 744, 1, 44, 0, 0), (.aload_n 3, 745, 1, 41, 3, 0), (.invokestatic 123, 746, 3, 9, 255, 0), (.istore 5, 749, 2, 46, 5, 0), (.aload_n 2, 751, 1, 41, 2, 0), (.aload_n 0, 752, 1, 41, 0, 0), (.iload 4, 753, 2, 40, 4, 0), (.iconst 1, 755, 1, 42, 1, 0), (.iadd, 756, 1, 54, 0, 0), (.iaload, 757, 1, 44, 0, 0), (.aload_n 0, 758, 1, 41, 0, 0), (.iload 4, 759, 2, 40, 4, 0), (.iconst 2, 761, 1, 42, 2, 0), (.iadd, 762, 1, 54, 0, 0), (.iaload, 763, 1, 44, 0, 0), (.invokevirtual 125, 764, 3, 4, 198, 0), (.istore 6, 767, 2, 46, 6, 0), (.aload_n 2, 769, 1, 41, 2, 0), (.invokevirtual 95, 770, 3, 4, 140, 0), (.iload 5, 773, 2, 40, 5, 0), (.if_icmp .eq 5, 775, 3, 48, 780, 0), (.iconst 0, 778, 1, 42, 0, 0), (.ireturn, 779, 1, 1, 2, 0)]),
  (780, [(.iload 5, 780, 2, 40, 5, 0), (.ifCond .ne 22, 782, 3, 57, 804, 0), (.aload_n 3, 785, 1, 41, 3, 0), (.iconst 0, 786, 1, 42, 0, 0), (.laload, 787, 1, 81, 0, 0), (.iload 6, 788, 2, 40, 6, 0), (.ifCond .eq 7, 790, 3, 56, 797, 0), (.lconst 1, 793, 1, 88, 1, 0), (.goto 4, 794, 3, 45, 798, 0)]),
  (797, [(.lconst 0, 797, 1, 88, 0, 0)]),
  (798, [(.lcmp, 798, 1, 94, 0, 0), (.ifCond .eq 5, 799, 3, 56, 804, 0), (.iconst 0, 802, 1, 42, 0, 0), (.ireturn, 803, 1, 1, 2, 0)]),
  (804, [(.goto 999, 804, 3, 45, 1803, 0)]),
  (807, [(.aload_n 1, 807, 1, 41, 1, 0), (.aload_n 0, 808, 1, 41, 0, 0), (.iload 4, 809, 2, 40, 4, 0), (.iconst 1, 811, 1, 42, 1, 0), (.iadd, 812, 1, 54, 0, 0), (.iaload, 813, 1, 44, 0, 0), (.aload_n 0, 814, 1, 41, 0, 0), (.iload 4, 815, 2, 40, 4, 0), (.iconst 2, 817, 1, 42, 2, 0), (.iadd, 818, 1, 54, 0, 0), (.iaload, 819, 1, 44, 0, 0), (.aload_n 3, 820, 1, 41, 3, 0), (.invokestatic 126, 821, 3, 9, 256, 0), (.istore 5, 824, 2, 46, 5, 0), (.aload_n 2, 826, 1, 41, 2, 0), (.aload_n 0, 827, 1, 41, 0, 0), (.iload 4, 828, 2, 40, 4, 0), (.iconst 1, 830, 1, 42, 1, 0), (.iadd, 831, 1, 54, 0, 0), (.iaload, 832, 1, 44, 0, 0), (.aload_n 0, 833, 1, 41, 0, 0), (.iload 4, 834, 2, 40, 4, 0), (.iconst 2, 836, 1, 42, 2, 0), (.iadd, 837, 1, 54, 0, 0), (.iaload, 838, 1, 44, 0, 0), (.invokevirtual 128, 839, 3, 4, 199, 0), (.istore 6, 842, 2, 46, 6, 0), (.aload_n 2, 844, 1, 41, 2, 0), (.invokevirtual 95, 845, 3, 4, 140, 0), (.iload 5, 848, 2, 40, 5, 0), (.if_icmp .eq 5, 850, 3, 48, 855, 0), (.iconst 0, 853, 1, 42, 0, 0), (.ireturn, 854, 1, 1, 2, 0)]),
  (855, [(.iload 5, 855, 2, 40, 5, 0), (.ifCond .ne 15, 857, 3, 57, 872, 0), (.aload_n 3, 860, 1, 41, 3, 0), (.iconst 0, 861, 1, 42, 0, 0), (.laload, 862, 1, 81, 0, 0), (.iload 6, 863, 2, 40, 6, 0), (.i2l, 865, 1, 90, 0, 0), (.lcmp, 866, 1, 94, 0, 0), (.ifCond .eq 5, 867, 3, 56, 872, 0), (.iconst 0, 870, 1, 42, 0, 0), (.ireturn, 871, 1, 1, 2, 0)]),
  (872, [(.goto 931, 872, 3, 45, 1803, 0)]),
  (875, [(.aload_n 1, 875, 1, 41, 1, 0), (.aload_n 0, 876, 1, 41, 0, 0), (.iload 4, 877, 2, 40, 4, 0), (.iconst 1, 879, 1, 42, 1, 0), (.iadd, 880, 1, 54, 0, 0), (.iaload, 881, 1, 44, 0, 0), (.aload_n 0, 882, 1, 41, 0, 0), (.iload 4, 883, 2, 40, 4, 0), (.iconst 2, 885, 1, 42, 2, 0), (.iadd, 886, 1, 54, 0, 0), (.iaload, 887, 1, 44, 0, 0), (.aload_n 3, 888, 1, 41, 3, 0), (.invokestatic 129, 889, 3, 9, 257, 0), (.istore 5, 892, 2, 46, 5, 0), (.aload_n 2, 894, 1, 41, 2, 0), (.aload_n 0, 895, 1, 41, 0, 0), (.iload 4, 896, 2, 40, 4, 0), (.iconst 1, 898, 1, 42, 1, 0), (.iadd, 899, 1, 54, 0, 0), (.iaload, 900, 1, 44, 0, 0), (.aload_n 0, 901, 1, 41, 0, 0), (.iload 4, 902, 2, 40, 4, 0), (.iconst 2, 904, 1, 42, 2, 0), (.iadd, 905, 1, 54, 0, 0), (.iaload, 906, 1, 44, 0, 0), (.invokevirtual 131, 907, 3, 4, 200, 0), (.istore 6, 910, 2, 46, 6, 0), (.aload_n 2, 912, 1, 41, 2, 0), (.invokevirtual 95, 913, 3, 4, 140, 0), (.iload 5, 916, 2, 40, 5, 0), (.if_icmp .eq 5, 918, 3, 48, 923, 0), (.iconst 0, 921, 1, 42, 0, 0), (.ireturn, 922, 1, 1, 2, 0)]),
  (923, [(.iload 5, 923, 2, 40, 5, 0), (.ifCond .ne 15, 925, 3, 57, 940, 0), (.aload_n 3, 928, 1, 41, 3, 0), (.iconst 0, 929, 1, 42, 0, 0), (.laload, 930, 1, 81, 0, 0), (.iload 6, 931, 2, 40, 6, 0), (.i2l, 933, 1, 90, 0, 0), (.lcmp, 934, 1, 94, 0, 0), (.ifCond .eq 5, 935, 3, 56, 940, 0), (.iconst 0, 938, 1, 42, 0, 0), (.ireturn, 939, 1, 1, 2, 0)]),
  (940, [(.goto 863, 940, 3, 45, 1803, 0)]),
  (943, [(.aload_n 1, 943, 1, 41, 1, 0), (.aload_n 0, 944, 1, 41, 0, 0), (.iload 4, 945, 2, 40, 4, 0), (.iconst 1, 947, 1, 42, 1, 0), (.iadd, 948, 1, 54, 0, 0), (.iaload, 949, 1, 44, 0, 0), (.aload_n 0, 950, 1, 41, 0, 0), (.iload 4, 951, 2, 40, 4, 0), (.iconst 2, 953, 1, 42, 2, 0), (.iadd, 954, 1, 54, 0, 0), (.iaload, 955, 1, 44, 0, 0), (.aload_n 3, 956, 1, 41, 3, 0), (.invokestatic 132, 957, 3, 9, 258, 0), (.istore 5, 960, 2, 46, 5, 0), (.aload_n 2, 962, 1, 41, 2, 0), (.aload_n 0, 963, 1, 41, 0, 0), (.iload 4, 964, 2, 40, 4, 0), (.iconst 1, 966, 1, 42, 1, 0), (.iadd, 967, 1, 54, 0, 0), (.iaload, 968, 1, 44, 0, 0), (.aload_n 0, 969, 1, 41, 0, 0), (.iload 4, 970, 2, 40, 4, 0), (.iconst 2, 972, 1, 42, 2, 0), (.iadd, 973, 1, 54, 0, 0), (.iaload, 974, 1, 44, 0, 0), (.invokevirtual 134, 975, 3, 4, 205, 0), (.istore 6, 978, 2, 46, 6, 0), (.aload_n 2, 980, 1, 41, 2, 0), (.invokevirtual 95, 981, 3, 4, 140, 0), (.iload 5, 984, 2, 40, 5, 0), (.if_icmp .eq 5, 986, 3, 48, 991, 0), (.iconst 0, 989, 1, 42, 0, 0), (.ireturn, 990, 1, 1, 2, 0)]),
  (991, [(.iload 5, 991, 2, 40, 5, 0), (.ifCond .ne 22, 993, 3, 57, 1015, 0), (.aload_n 3, 996, 1, 41, 3, 0), (.iconst 0, 997, 1, 42, 0, 0), (.laload, 998, 1, 81, 0, 0), (.iload 6, 999, 2, 40, 6, 0), (.ifCond .eq 7, 1001, 3, 56, 1008, 0), (.lconst 1, 1004, 1, 88, 1, 0), (.goto 4, 1005, 3, 45, 1009, 0)]),
  (1008, [(.lconst 0, 1008, 1, 88, 0, 0)]),
  (1009, [(.lcmp, 1009, 1, 94, 0, 0), (.ifCond .eq 5, 1010, 3, 56, 1015, 0), (.iconst 0, 1013, 1, 42, 0, 0), (.ireturn, 1014, 1, 1, 2, 0)]),
  (1015, [(.goto 788, 1015, 3, 45, 1803, 0)]),
  (1018, [(.aload_n 1, 1018, 1, 41, 1, 0), (.aload_n 0, 1019, 1, 41, 0, 0), (.iload 4, 1020, 2, 40, 4, 0), (.iconst 1, 1022, 1, 42, 1, 0), (.iadd, 1023, 1, 54, 0, 0), (.iaload, 1024, 1, 44, 0, 0), (.aload_n 0, 1025, 1, 41, 0, 0), (.iload 4, 1026, 2, 40, 4, 0), (.iconst 2, 1028, 1, 42, 2, 0), (.iadd, 1029, 1, 54, 0, 0), (.iaload, 1030, 1, 44, 0, 0), (.aload_n 0, 1031, 1, 41, 0, 0), (.iload 4, 1032, 2, 40, 4, 0), (.iconst 3, 1034, 1, 42, 3, 0), (.iadd, 1035, 1, 54, 0, 0), (.iaload, 1036, 1, 44, 0, 0), (.aload_n 0, 1037, 1, 41, 0, 0), (.iload 4, 1038, 2, 40, 4, 0), (.iconst 4, 1040, 1, 42, 4, 0), (.iadd, 1041, 1, 54, 0, 0), (.iaload, 1042, 1, 44, 0, 0), (.aload_n 0, 1043, 1, 41, 0, 0), (.iload 4, 1044, 2, 40, 4, 0), (.iconst 5, 1046, 1, 42, 5, 0), (.iadd, 1047, 1, 54, 0, 0), (.iaload, 1048, 1, 44, 0, 0), (.aload_n 0, 1049, 1, 41, 0, 0), (.iload 4, 1050, 2, 40, 4, 0), (.bipush 6, 1052, 2, 42, 6, 0), (.iadd, 1054, 1, 54, 0, 0), (.iaload, 1055, 1, 44, 0, 0), (.aload_n 0, 1056, 1, 41, 0, 0), (.iload 4, 1057, 2, 40, 4, 0), (.bipush 7, 1059, 2, 42, 7, 0), (.iadd, 1061, 1, 54, 0, 0), (.iaload, 1062, 1, 44, 0, 0), (.ifCond .eq 7, 1063, 3, 56, 1070, 0), (.iconst 1, 1066, 1, 42, 1, 0), (.goto 4, 1067, 3, 45, 1071, 0)]),
  (1070, [(.iconst 0, 1070, 1, 42, 0, 0)]),
  (1071, [(.aload_n 3, 1071, 1, 41, 3, 0), (.invokestatic 135, 1072, 3, 9, 259, 0), (.istore 5, 1075, 2, 46, 5, 0), (.aload_n 2, 1077, 1, 41, 2, 0), (.aload_n 0, 1078, 1, 41, 0, 0), (.iload 4, 1079, 2, 40, 4, 0), (.iconst 1, 1081, 1, 42, 1, 0), (.iadd, 1082, 1, 54, 0, 0), (.iaload, 1083, 1, 44, 0, 0), (.aload_n 0, 1084, 1, 41, 0, 0), (.iload 4, 1085, 2, 40, 4, 0), (.iconst 2, 1087, 1, 42, 2, 0), (.iadd, 1088, 1, 54, 0, 0), (.iaload, 1089, 1, 44, 0, 0), (.aload_n 0, 1090, 1, 41, 0, 0), (.iload 4, 1091, 2, 40, 4, 0), (.iconst 3, 1093, 1, 42, 3, 0), (.iadd, 1094, 1, 54, 0, 0), (.iaload, 1095, 1, 44, 0, 0), (.aload_n 0, 1096, 1, 41, 0, 0), (.iload 4, 1097, 2, 40, 4, 0), (.iconst 4, 1099, 1, 42, 4, 0), (.iadd, 1100, 1, 54, 0, 0), (.iaload, 1101, 1, 44, 0, 0), (.aload_n 0, 1102, 1, 41, 0, 0), (.iload 4, 1103, 2, 40, 4, 0), (.iconst 5, 1105, 1, 42, 5, 0), (.iadd, 1106, 1, 54, 0, 0), (.iaload, 1107, 1, 44, 0, 0), (.aload_n 0, 1108, 1, 41, 0, 0), (.iload 4, 1109, 2, 40, 4, 0), (.bipush 6, 1111, 2, 42, 6, 0), (.iadd, 1113, 1, 54, 0, 0), (.iaload, 1114, 1, 44, 0, 0), (.aload_n 0, 1115, 1, 41, 0, 0), (.iload 4, 1116, 2, 40, 4, 0), (.bipush 7, 1118, 2, 42, 7, 0), (.iadd, 1120, 1, 54, 0, 0), (.iaload, 1121, 1, 44, 0, 0), (.ifCond .eq 7, 1122, 3, 56, 1129, 0), (.iconst 1, 1125, 1, 42, 1, 0), (.goto 4, 1126, 3, 45, 1130, 0)]),
  (1129, [(.iconst 0, 1129, 1, 42, 0, 0)]),
  (1130, [(.invokevirtual 138, 1130, 3, 4, 208, 0), (.istore 6, 1133, 2, 46, 6, 0), (.aload_n 2, 1135, 1, 41, 2, 0), (.invokevirtual 95, 1136, 3, 4, 140, 0), (.iload 5, 1139, 2, 40, 5, 0), (.if_icmp .eq 5, 1141, 3, 48, 1146, 0), (.iconst 0, 1144, 1, 42, 0, 0), (.ireturn, 1145, 1, 1, 2, 0)]),
  (1146, [(.iload 5, 1146, 2, 40, 5, 0), (.ifCond .ne 15, 1148, 3, 57, 1163, 0), (.aload_n 3, 1151, 1, 41, 3, 0), (.iconst 0, 1152, 1, 42, 0, 0), (.laload, 1153, 1, 81, 0, 0), (.iload 6, 1154, 2, 40, 6, 0), (.i2l, 1156, 1, 90, 0, 0), (.lcmp, 1157, 1, 94, 0, 0), (.ifCond .eq 5, 1158, 3, 56, 1163, 0), (.iconst 0, 1161, 1, 42, 0, 0), (.ireturn, 1162, 1, 1, 2, 0)]),
  (1163, [(.goto 640, 1163, 3, 45, 1803, 0)]),
  (1166, [(.aload_n 1, 1166, 1, 41, 1, 0), (.aload_n 0, 1167, 1, 41, 0, 0), (.iload 4, 1168, 2, 40, 4, 0), (.iconst 1, 1170, 1, 42, 1, 0), (.iadd, 1171, 1, 54, 0, 0), (.iaload, 1172, 1, 44, 0, 0), (.aload_n 0, 1173, 1, 41, 0, 0), (.iload 4, 1174, 2, 40, 4, 0), (.iconst 2, 1176, 1, 42, 2, 0), (.iadd, 1177, 1, 54, 0, 0), (.iaload, 1178, 1, 44, 0, 0), (.aload_n 3, 1179, 1, 41, 3, 0), (.invokestatic 139, 1180, 3, 9, 260, 0), (.istore 5, 1183, 2, 46, 5, 0), (.aload_n 2, 1185, 1, 41, 2, 0), (.aload_n 0, 1186, 1, 41, 0, 0), (.iload 4, 1187, 2, 40, 4, 0), (.iconst 1, 1189, 1, 42, 1, 0), (.iadd, 1190, 1, 54, 0, 0), (.iaload, 1191, 1, 44, 0, 0), (.aload_n 0, 1192, 1, 41, 0, 0), (.iload 4, 1193, 2, 40, 4, 0), (.iconst 2, 1195, 1, 42, 2, 0), (.iadd, 1196, 1, 54, 0, 0), (.iaload, 1197, 1, 44, 0, 0), (.invokevirtual 141, 1198, 3, 4, 209, 0), (.istore 6, 1201, 2, 46, 6, 0), (.aload_n 2, 1203, 1, 41, 2, 0), (.invokevirtual 95, 1204, 3, 4, 140, 0), (.iload 5, 1207, 2, 40, 5, 0), (.if_icmp .eq 5, 1209, 3, 48, 1214, 0), (.iconst 0, 1212, 1, 42, 0, 0), (.ireturn, 1213, 1, 1, 2, 0)]),
  (1214, [(.iload 5, 1214, 2, 40, 5, 0), (.ifCond .ne 15, 1216, 3, 57, 1231, 0), (.aload_n 3, 1219, 1, 41, 3, 0), (.iconst 0, 1220, 1, 42, 0, 0), (.laload, 1221, 1, 81, 0, 0), (.iload 6, 1222, 2, 40, 6, 0), (.i2l, 1224, 1, 90, 0, 0), (.lcmp, 1225, 1, 94, 0, 0), (.ifCond .eq 5, 1226, 3, 56, 1231, 0), (.iconst 0, 1229, 1, 42, 0, 0), (.ireturn, 1230, 1, 1, 2, 0)]),
  (1231, [(.goto 572, 1231, 3, 45, 1803, 0)]),
  (1234, [(.aload_n 1, 1234, 1, 41, 1, 0), (.aload_n 0, 1235, 1, 41, 0, 0), (.iload 4, 1236, 2, 40, 4, 0), (.iconst 1, 1238, 1, 42, 1, 0), (.iadd, 1239, 1, 54, 0, 0), (.iaload, 1240, 1, 44, 0, 0), (.aload_n 0, 1241, 1, 41, 0, 0), (.iload 4, 1242, 2, 40, 4, 0), (.iconst 2, 1244, 1, 42, 2, 0), (.iadd, 1245, 1, 54, 0, 0), (.iaload, 1246, 1, 44, 0, 0), (.aload_n 3, 1247, 1, 41, 3, 0), (.invokestatic 142, 1248, 3, 9, 261, 0), (.istore 5, 1251, 2, 46, 5, 0), (.aload_n 2, 1253, 1, 41, 2, 0), (.aload_n 0, 1254, 1, 41, 0, 0), (.iload 4, 1255, 2, 40, 4, 0), (.iconst 1, 1257, 1, 42, 1, 0), (.iadd, 1258, 1, 54, 0, 0), (.iaload, 1259, 1, 44, 0, 0), (.aload_n 0, 1260, 1, 41, 0, 0), (.iload 4, 1261, 2, 40, 4, 0), (.iconst 2, 1263, 1, 42, 2, 0), (.iadd, 1264, 1, 54, 0, 0), (.iaload, 1265, 1, 44, 0, 0), (.invokevirtual 144, 1266, 3, 4, 219, 0), (.istore 6, 1269, 2, 46, 6, 0), (.aload_n 2, 1271, 1, 41, 2, 0), (.invokevirtual 95, 1272, 3, 4, 140, 0), (.iload 5, 1275, 2, 40, 5, 0), (.if_icmp .eq 5, 1277, 3, 48, 1282, 0), (.iconst 0, 1280, 1, 42, 0, 0), (.ireturn, 1281, 1, 1, 2, 0)]),
  (1282, [(.iload 5, 1282, 2, 40, 5, 0), (.ifCond .ne 15, 1284, 3, 57, 1299, 0), (.aload_n 3, 1287, 1, 41, 3, 0), (.iconst 0, 1288, 1, 42, 0, 0), (.laload, 1289, 1, 81, 0, 0), (.iload 6, 1290, 2, 40, 6, 0), (.i2l, 1292, 1, 90, 0, 0), (.lcmp, 1293, 1, 94, 0, 0), (.ifCond .eq 5, 1294, 3, 56, 1299, 0), (.iconst 0, 1297, 1, 42, 0, 0), (.ireturn, 1298, 1, 1, 2, 0)]),
  (1299, [(.goto 504, 1299, 3, 45, 1803, 0)]),
  (1302, [(.aload_n 1, 1302, 1, 41, 1, 0), (.aload_n 0, 1303, 1, 41, 0, 0), (.iload 4, 1304, 2, 40, 4, 0), (.iconst 1, 1306, 1, 42, 1, 0), (.iadd, 1307, 1, 54, 0, 0), (.iaload, 1308, 1, 44, 0, 0), (.aload_n 0, 1309, 1, 41, 0, 0), (.iload 4, 1310, 2, 40, 4, 0), (.iconst 2, 1312, 1, 42, 2, 0), (.iadd, 1313, 1, 54, 0, 0), (.iaload, 1314, 1, 44, 0, 0), (.aload_n 0, 1315, 1, 41, 0, 0), (.iload 4, 1316, 2, 40, 4, 0), (.iconst 3, 1318, 1, 42, 3, 0), (.iadd, 1319, 1, 54, 0, 0), (.iaload, 1320, 1, 44, 0, 0), (.aload_n 0, 1321, 1, 41, 0, 0), (.iload 4, 1322, 2, 40, 4, 0), (.iconst 4, 1324, 1, 42, 4, 0), (.iadd, 1325, 1, 54, 0, 0), (.iaload, 1326, 1, 44, 0, 0), (.aload_n 0, 1327, 1, 41, 0, 0), (.iload 4, 1328, 2, 40, 4, 0), (.iconst 5, 1330, 1, 42, 5, 0), (.iadd, 1331, 1, 54, 0, 0), (.iaload, 1332, 1, 44, 0, 0), (.aload_n 0, 1333, 1, 41, 0, 0), (.iload 4, 1334, 2, 40, 4, 0), (.bipush 6, 1336, 2, 42, 6, 0), (.iadd, 1338, 1, 54, 0, 0), (.iaload, 1339, 1, 44, 0, 0), (.aload_n 3, 1340, 1, 41, 3, 0), (.invokestatic 145, 1341, 3, 9, 262, 0), (.istore 5, 1344, 2, 46, 5, 0), (.aload_n 2, 1346, 1, 41, 2, 0), (.aload_n 0, 1347, 1, 41, 0, 0), (.iload 4, 1348, 2, 40, 4, 0), (.iconst 1, 1350, 1, 42, 1, 0), (.iadd, 1351, 1, 54, 0, 0), (.iaload, 1352, 1, 44, 0, 0), (.aload_n 0, 1353, 1, 41, 0, 0), (.iload 4, 1354, 2, 40, 4, 0), (.iconst 2, 1356, 1, 42, 2, 0), (.iadd, 1357, 1, 54, 0, 0), (.iaload, 1358, 1, 44, 0, 0), (.aload_n 0, 1359, 1, 41, 0, 0), (.iload 4, 1360, 2, 40, 4, 0), (.iconst 3, 1362, 1, 42, 3, 0), (.iadd, 1363, 1, 54, 0, 0), (.iaload, 1364, 1, 44, 0, 0), (.aload_n 0, 1365, 1, 41, 0, 0), (.iload 4, 1366, 2, 40, 4, 0), (.iconst 4, 1368, 1, 42, 4, 0), (.iadd, 1369, 1, 54, 0, 0), (.iaload, 1370, 1, 44, 0, 0), (.aload_n 0, 1371, 1, 41, 0, 0), (.iload 4, 1372, 2, 40, 4, 0), (.iconst 5, 1374, 1, 42, 5, 0), (.iadd, 1375, 1, 54, 0, 0), (.iaload, 1376, 1, 44, 0, 0), (.aload_n 0, 1377, 1, 41, 0, 0), (.iload 4, 1378, 2, 40, 4, 0), (.bipush 6, 1380, 2, 42, 6, 0), (.iadd, 1382, 1, 54, 0, 0), (.iaload, 1383, 1, 44, 0, 0), (.invokevirtual 148, 1384, 3, 4, 227, 0), (.istore 6, 1387, 2, 46, 6, 0), (.aload_n 2, 1389, 1, 41, 2, 0), (.invokevirtual 95, 1390, 3, 4, 140, 0), (.iload 5, 1393, 2, 40, 5, 0), (.if_icmp .eq 5, 1395, 3, 48, 1400, 0), (.iconst 0, 1398, 1, 42, 0, 0), (.ireturn, 1399, 1, 1, 2, 0)]),
  (1400, [(.iload 5, 1400, 2, 40, 5, 0), (.ifCond .ne 15, 1402, 3, 57, 1417, 0), (.aload_n 3, 1405, 1, 41, 3, 0), (.iconst 0, 1406, 1, 42, 0, 0), (.laload, 1407, 1, 81, 0, 0), (.iload 6, 1408, 2, 40, 6, 0), (.i2l, 1410, 1, 90, 0, 0), (.lcmp, 1411, 1, 94, 0, 0), (.ifCond .eq 5, 1412, 3, 56, 1417, 0), (.iconst 0, 1415, 1, 42, 0, 0), (.ireturn, 1416, 1, 1, 2, 0)]),
  (1417, [(.goto 386, 1417, 3, 45, 1803, 0)]),
  (1420, [(.aload_n 1, 1420, 1, 41, 1, 0), (.aload_n 0, 1421, 1, 41, 0, 0), (.iload 4, 1422, 2, 40, 4, 0), (.iconst 1, 1424, 1, 42, 1, 0), (.iadd, 1425, 1, 54, 0, 0), (.iaload, 1426, 1, 44, 0, 0), (.aload_n 0, 1427, 1, 41, 0, 0), (.iload 4, 1428, 2, 40, 4, 0), (.iconst 2, 1430, 1, 42, 2, 0), (.iadd, 1431, 1, 54, 0, 0), (.iaload, 1432, 1, 44, 0, 0), (.aload_n 3, 1433, 1, 41, 3, 0), (.invokestatic 149, 1434, 3, 9, 263, 0), (.istore 5, 1437, 2, 46, 5, 0), (.aload_n 2, 1439, 1, 41, 2, 0), (.aload_n 0, 1440, 1, 41, 0, 0), (.iload 4, 1441, 2, 40, 4, 0), (.iconst 1, 1443, 1, 42, 1, 0), (.iadd, 1444, 1, 54, 0, 0), (.iaload, 1445, 1, 44, 0, 0), (.aload_n 0, 1446, 1, 41, 0, 0), (.iload 4, 1447, 2, 40, 4, 0), (.iconst 2, 1449, 1, 42, 2, 0), (.iadd, 1450, 1, 54, 0, 0), (.iaload, 1451, 1, 44, 0, 0), (.invokevirtual 151, 1452, 3, 4, 221, 0), (.istore 6, 1455, 2, 46, 6, 0), (.aload_n 2, 1457, 1, 41, 2, 0), (.invokevirtual 95, 1458, 3, 4, 140, 0), (.iload 5, 1461, 2, 40, 5, 0), (.if_icmp .eq 5, 1463, 3, 48, 1468, 0), (.iconst 0, 1466, 1, 42, 0, 0), (.ireturn, 1467, 1, 1, 2, 0)]),
  (1468, [(.iload 5, 1468, 2, 40, 5, 0), (.ifCond .ne 15, 1470, 3, 57, 1485, 0), (.aload_n 3, 1473, 1, 41, 3, 0), (.iconst 0, 1474, 1, 42, 0, 0), (.laload, 1475, 1, 81, 0, 0), (.iload 6, 1476, 2, 40, 6, 0), (.i2l, 1478, 1, 90, 0, 0), (.lcmp, 1479, 1, 94, 0, 0), (.ifCond .eq 5, 1480, 3, 56, 1485, 0), (.iconst 0, 1483, 1, 42, 0, 0), (.ireturn, 1484, 1, 1, 2, 0)]),
  (1485, [(.goto 318, 1485, 3, 45, 1803, 0)]),
  (1488, [(.aload_n 1, 1488, 1, 41, 1, 0), (.aload_n 0, 1489, 1, 41, 0, 0), (.iload 4, 1490, 2, 40, 4, 0), (.iconst 1, 1492, 1, 42, 1, 0), (.iadd, 1493, 1, 54, 0, 0), (.iaload, 1494, 1, 44, 0, 0), (.aload_n 0, 1495, 1, 41, 0, 0), (.iload 4, 1496, 2, 40, 4, 0), (.iconst 2, 1498, 1, 42, 2, 0), (.iadd, 1499, 1, 54, 0, 0), (.iaload, 1500, 1, 44, 0, 0), (.aload_n 3, 1501, 1, 41, 3, 0), (.invokestatic 152, 1502, 3, 9, 264, 0), (.istore 5, 1505, 2, 46, 5, 0), (.aload_n 2, 1507, 1, 41, 2, 0), (.aload_n 0, 1508, 1, 41, 0, 0), (.iload 4, 1509, 2, 40, 4, 0), (.iconst 1, 1511, 1, 42, 1, 0), (.iadd, 1512, 1, 54, 0, 0), (.iaload, 1513, 1, 44, 0, 0), (.aload_n 0, 1514, 1, 41, 0, 0), (.iload 4, 1515, 2, 40, 4, 0), (.iconst 2, 1517, 1, 42, 2, 0), (.iadd, 1518, 1, 54, 0, 0), (.iaload, 1519, 1, 44, 0, 0), (.invokevirtual 154, 1520, 3, 4, 235, 0), (.istore 6, 1523, 2, 46, 6, 0), (.aload_n 2, 1525, 1, 41, 2, 0), (.invokevirtual 95, 1526, 3, 4, 140, 0), (.iload 5, 1529, 2, 40, 5, 0), (.if_icmp .eq 5, 1531, 3, 48, 1536, 0), (.iconst 0, 1534, 1, 42, 0, 0), (.ireturn, 1535, 1, 1, 2, 0)]),
  (1536, [(.iload 5, 1536, 2, 40, 5, 0), (.ifCond .ne 15, 1538, 3, 57, 1553, 0), (.aload_n 3, 1541, 1, 41, 3, 0), (.iconst 0, 1542, 1, 42, 0, 0), (.laload, 1543, 1, 81, 0, 0), (.iload 6, 1544, 2, 40, 6, 0), (.i2l, 1546, 1, 90, 0, 0), (.lcmp, 1547, 1, 94, 0, 0), (.ifCond .eq 5, 1548, 3, 56, 1553, 0), (.iconst 0, 1551, 1, 42, 0, 0), (.ireturn, 1552, 1, 1, 2, 0)]),
  (1553, [(.goto 250, 1553, 3, 45, 1803, 0)]),
  (1556, [(.aload_n 1, 1556, 1, 41, 1, 0), (.aload_n 0, 1557, 1, 41, 0, 0), (.iload 4, 1558, 2, 40, 4, 0), (.iconst 1, 1560, 1, 42, 1, 0), (.iadd, 1561, 1, 54, 0, 0), (.iaload, 1562, 1, 44, 0, 0), (.aload_n 3, 1563, 1, 41, 3, 0), (.invokestatic 155, 1564, 3, 9, 265, 0), (.istore 5, 1567, 2, 46, 5, 0), (.aload_n 2, 1569, 1, 41, 2, 0), (.aload_n 0, 1570, 1, 41, 0, 0), (.iload 4, 1571, 2, 40, 4, 0), (.iconst 1, 1573, 1, 42, 1, 0), (.iadd, 1574, 1, 54, 0, 0), (.iaload, 1575, 1, 44, 0, 0), (.invokevirtual 157, 1576, 3, 4, 238, 0), (.istore 6, 1579, 2, 46, 6, 0), (.aload_n 2, 1581, 1, 41, 2, 0), (.invokevirtual 95, 1582, 3, 4, 140, 0), (.iload 5, 1585, 2, 40, 5, 0), (.if_icmp .eq 5, 1587, 3, 48, 1592, 0), (.iconst 0, 1590, 1, 42, 0, 0), (.ireturn, 1591, 1, 1, 2, 0)]),
  (1592, [(.iload 5, 1592, 2, 40, 5, 0), (.ifCond .ne 15, 1594, 3, 57, 1609, 0), (.aload_n 3, 1597, 1, 41, 3, 0), (.iconst 0, 1598, 1, 42, 0, 0), (.laload, 1599, 1, 81, 0, 0), (.iload 6, 1600, 2, 40, 6, 0), (.i2l, 1602, 1, 90, 0, 0), (.lcmp, 1603, 1, 94, 0, 0), (.ifCond .eq 5, 1604, 3, 56, 1609, 0), (.iconst 0, 1607, 1, 42, 0, 0), (.ireturn, 1608, 1, 1, 2, 0)]),
  (1609, [(.goto 194, 1609, 3, 45, 1803, 0)]),
  (1612, [(.aload_n 1, 1612, 1, 41, 1, 0), (.invokevirtual 158, 1613, 3, 4, 116, 0), (.dstore 5, 1616, 2, 76, 5, 0), (.aload_n 2, 1618, 1, 41, 2, 0), (.invokevirtual 162, 1619, 3, 4, 239, 0), (.dstore 7, 1622, 2, 76, 7, 0), (.dload 5, 1624, 2, 73, 5, 0), (.dload 7, 1626, 2, 73, 7, 0), (.dcmp .l, 1628, 1, 97, 0, 0), (.ifCond .eq 21, 1629, 3, 56, 1650, 0), (.dload 5, 1632, 2, 73, 5, 0), (.dload 5, 1634, 2, 73, 5, 0), (.dcmp .l, 1636, 1, 97, 0, 0), (.ifCond .eq 11, 1637, 3, 56, 1648, 0), (.dload 7, 1640, 2, 73, 7, 0), (.dload 7, 1642, 2, 73, 7, 0), (.dcmp .l, 1644, 1, 97, 0, 0), (.ifCond .ne 5, 1645, 3, 57, 1650, 0)]),
  (1648, [(.iconst 0, 1648, 1, 42, 0, 0), (.ireturn, 1649, 1, 1, 2, 0)]),
  (1650, [(.goto 153, 1650, 3, 45, 1803, 0)]),
  (1653, [(.aload_n 1, 1653, 1, 41, 1, 0), (.aload_n 0, 1654, 1, 41, 0, 0), (.iload 4, 1655, 2, 40, 4, 0), (.iconst 1, 1657, 1, 42, 1, 0), (.iadd, 1658, 1, 54, 0, 0), (.iaload, 1659, 1, 44, 0, 0), (.aload_n 0, 1660, 1, 41, 0, 0), (.iload 4, 1661, 2, 40, 4, 0), (.iconst 2, 1663, 1, 42, 2, 0), (.iadd, 1664, 1, 54, 0, 0), (.iaload, 1665, 1, 44, 0, 0), (.aload_n 0, 1666, 1, 41, 0, 0), (.iload 4, 1667, 2, 40, 4, 0), (.iconst 3, 1669, 1, 42, 3, 0), (.iadd, 1670, 1, 54, 0, 0), (.iaload, 1671, 1, 44, 0, 0), (.aload_n 3, 1672, 1, 41, 3, 0), (.invokestatic 163, 1673, 3, 9, 266, 0), (.istore 5, 1676, 2, 46, 5, 0), (.aload_n 2, 1678, 1, 41, 2, 0), (.aload_n 0, 1679, 1, 41, 0, 0), (.iload 4, 1680, 2, 40, 4, 0), (.iconst 1, 1682, 1, 42, 1, 0), (.iadd, 1683, 1, 54, 0, 0), (.iaload, 1684, 1, 44, 0, 0), (.aload_n 0, 1685, 1, 41, 0, 0), (.iload 4, 1686, 2, 40, 4, 0), (.iconst 2, 1688, 1, 42, 2, 0), (.iadd, 1689, 1, 54, 0, 0), (.iaload, 1690, 1, 44, 0, 0), (.aload_n 0, 1691, 1, 41, 0, 0), (.iload 4, 1692, 2, 40, 4, 0), (.iconst 3, 1694, 1, 42, 3, 0), (.iadd, 1695, 1, 54, 0, 0), (.iaload, 1696, 1, 44, 0, 0), (.invokevirtual 165, 1697, 3, 4, 240, 0), (.istore 6, 1700, 2, 46, 6, 0), (.aload_n 2, 1702, 1, 41, 2, 0), (.invokevirtual 95, 1703, 3, 4, 140, 0), (.iload 5, 1706, 2, 40, 5, 0), (.if_icmp .eq 5, 1708, 3, 48, 1713, 0), (.iconst 0, 1711, 1, 42, 0, 0), (.ireturn, 1712, 1, 1, 2, 0)]),
  (1713, [(.iload 5, 1713, 2, 40, 5, 0), (.ifCond .ne 15, 1715, 3, 57, 1730, 0), (.aload_n 3, 1718, 1, 41, 3, 0), (.iconst 0, 1719, 1, 42, 0, 0), (.laload, 1720, 1, 81, 0, 0), (.iload 6, 1721, 2, 40, 6, 0), (.i2l, 1723, 1, 90, 0, 0), (.lcmp, 1724, 1, 94, 0, 0), (.ifCond .eq 5, 1725, 3, 56, 1730, 0), (.iconst 0, 1728, 1, 42, 0, 0), (.ireturn, 1729, 1, 1, 2, 0)]),
  (1730, [(.goto 73, 1730, 3, 45, 1803, 0)]),
  (1733, [(.aload_n 1, 1733, 1, 41, 1, 0), (.aload_n 0, 1734, 1, 41, 0, 0), (.iload 4, 1735, 2, 40, 4, 0), (.iconst 1, 1737, 1, 42, 1, 0), (.iadd, 1738, 1, 54, 0, 0), (.iaload, 1739, 1, 44, 0, 0), (.aload_n 3, 1740, 1, 41, 3, 0), (.invokestatic 166, 1741, 3, 9, 267, 0), (.istore 5, 1744, 2, 46, 5, 0), (.aload_n 2, 1746, 1, 41, 2, 0), (.aload_n 0, 1747, 1, 41, 0, 0), (.iload 4, 1748, 2, 40, 4, 0), (.iconst 1, 1750, 1, 42, 1, 0), (.iadd, 1751, 1, 54, 0, 0), (.iaload, 1752, 1, 44, 0, 0), (.invokevirtual 168, 1753, 3, 4, 242, 0), (.istore 6, 1756, 2, 46, 6, 0), (.aload_n 2, 1758, 1, 41, 2, 0), (.invokevirtual 95, 1759, 3, 4, 140, 0), (.iload 5, 1762, 2, 40, 5, 0), (.if_icmp .eq 5, 1764, 3, 48, 1769, 0), (.iconst 0, 1767, 1, 42, 0, 0), (.ireturn, 1768, 1, 1, 2, 0)]),
  (1769, [(.iload 5, 1769, 2, 40, 5, 0), (.ifCond .ne 15, 1771, 3, 57, 1786, 0), (.aload_n 3, 1774, 1, 41, 3, 0), (.iconst 0, 1775, 1, 42, 0, 0), (.laload, 1776, 1, 81, 0, 0), (.iload 6, 1777, 2, 40, 6, 0), (.i2l, 1779, 1, 90, 0, 0), (.lcmp, 1780, 1, 94, 0, 0), (.ifCond .eq 5, 1781, 3, 56, 1786, 0), (.iconst 0, 1784, 1, 42, 0, 0), (.ireturn, 1785, 1, 1, 2, 0)]),
  (1786, [(.goto 17, 1786, 3, 45, 1803, 0)]),
  (1789, [(.aload_n 1, 1789, 1, 41, 1, 0), (.invokevirtual 169, 1790, 3, 4, 119, 0), (.aload_n 2, 1793, 1, 41, 2, 0), (.invokevirtual 173, 1794, 3, 4, 243, 0), (.lcmp, 1797, 1, 94, 0, 0), (.ifCond .eq 5, 1798, 3, 56, 1803, 0), (.iconst 0, 1801, 1, 42, 0, 0), (.ireturn, 1802, 1, 1, 2, 0)]),
  (1803, [(.iinc 4 8, 1803, 3, 47, 4, 8), (.goto (-1783), 1806, 3, 45, 23, 0)]),
  (1809, [(.iconst 1, 1809, 1, 42, 1, 0), (.ireturn, 1810, 1, 1, 2, 0)])]
def km_0 : mv_I := (yL_law, cL_law, 9, (some .boolean), 1, 9, 99, [])
def kb_1 : List (Nat × List mv_E) := [(0, [(.aload_n 0, 0, 1, 41, 0, 0), (.invokespecial 3, 1, 3, 3, 0, 0), (.aload_n 0, 4, 1, 41, 0, 0), (.iconst 3, 5, 1, 42, 3, 0), (.newarray .int, 6, 2, 86, 0, 0), (.putfield 9, 8, 3, 55, 0, 18), (.aload_n 0, 11, 1, 41, 0, 0), (.bipush 60, 12, 2, 42, 60, 0), (.newarray .int, 14, 2, 86, 0, 0), (.putfield 15, 16, 3, 55, 0, 22), (.aload_n 0, 19, 1, 41, 0, 0), (.aload_n 1, 20, 1, 41, 1, 0), (.putfield 18, 21, 3, 55, 0, 2), (.aload_n 0, 24, 1, 41, 0, 0), (.aload_n 2, 25, 1, 41, 2, 0), (.putfield 22, 26, 3, 55, 0, 6), (.aload_n 0, 29, 1, 41, 0, 0), (.aload_n 3, 30, 1, 41, 3, 0), (.putfield 26, 31, 3, 55, 0, 10), (.aload_n 0, 34, 1, 41, 0, 0), (.aload 4, 35, 2, 41, 4, 0), (.putfield 30, 37, 3, 55, 0, 14), (.return_, 40, 1, 1, 0, 0)])]
def km_1 : mv_I := (yX0_init, cX0_init, 5, none, 4, 2, 0, [])
def kb_2 : List (Nat × List mv_E) := [(0, [(.aload_n 0, 0, 1, 41, 0, 0), (.iload_n 1, 1, 1, 40, 1, 0), (.putfield 34, 2, 3, 55, 0, 28), (.aload_n 0, 5, 1, 41, 0, 0), (.getfield 9, 6, 3, 43, 0, 4), (.iconst 0, 9, 1, 42, 0, 0), (.iload_n 2, 10, 1, 40, 2, 0), (.iastore, 11, 1, 63, 0, 0), (.aload_n 0, 12, 1, 41, 0, 0), (.getfield 9, 13, 3, 43, 0, 4), (.iconst 1, 16, 1, 42, 1, 0), (.iload_n 3, 17, 1, 40, 3, 0), (.iastore, 18, 1, 63, 0, 0), (.aload_n 0, 19, 1, 41, 0, 0), (.getfield 9, 20, 3, 43, 0, 4), (.iconst 2, 23, 1, 42, 2, 0), (.iload 4, 24, 2, 40, 4, 0), (.iastore, 26, 1, 63, 0, 0), (.aload_n 0, 27, 1, 41, 0, 0), (.iload_n 2, 28, 1, 40, 2, 0), (.iconst (-1), 29, 1, 42, 4294967295, 0), (.if_icmp .ne 7, 30, 3, 49, 37, 0), (.iconst 0, 33, 1, 42, 0, 0), (.goto 23, 34, 3, 45, 57, 0)]),
  (37, [(.iload_n 3, 37, 1, 40, 3, 0), (.iconst (-1), 38, 1, 42, 4294967295, 0), (.if_icmp .ne 7, 39, 3, 49, 46, 0), (.iconst 1, 42, 1, 42, 1, 0), (.goto 14, 43, 3, 45, 57, 0)]),
  (46, [(.iload 4, 46, 2, 40, 4, 0), (.iconst (-1), 48, 1, 42, 4294967295, 0), (.if_icmp .ne 7, 49, 3, 49, 56, 0), (.iconst 2, 52, 1, 42, 2, 0), (.goto 4, 53, 3, 45, 57, 0)]),
  (56, [(.iconst 3, 56, 1, 42, 3, 0)]),
  (57, [(.putfield 38, 57, 3, 55, 0, 24), (.return_, 60, 1, 1, 0, 0)])]
def km_2 : mv_I := (yX0_take, cX0_take, 5, none, 4, 0, 0, [])
def kb_3 : List (Nat × List mv_E) := [(0, [(.aload_n 0, 0, 1, 41, 0, 0), (.iconst 1, 1, 1, 42, 1, 0), (.putfield 41, 2, 3, 55, 0, 32)]),
  (5, [(.aload_n 0, 5, 1, 41, 0, 0), (.getfield 41, 6, 3, 43, 0, 8), (.iconst 3, 9, 1, 42, 3, 0), (.if_icmp .gt 32, 10, 3, 52, 42, 0), (.aload_n 0, 13, 1, 41, 0, 0), (.iload_n 1, 14, 1, 40, 1, 0), (.invokevirtual 44, 15, 3, 4, 5, 0), (.istore_n 2, 18, 1, 46, 2, 0), (.iload_n 2, 19, 1, 40, 2, 0), (.ifCond .eq 9, 20, 3, 56, 29, 0), (.aload_n 0, 23, 1, 41, 0, 0), (.iload_n 2, 24, 1, 40, 2, 0), (.invokevirtual 48, 25, 3, 4, 12, 0), (.ireturn, 28, 1, 1, 1, 0)]),
  (29, [(.aload_n 0, 29, 1, 41, 0, 0), (.dup, 30, 1, 77, 0, 0), (.getfield 41, 31, 3, 43, 0, 8), (.iconst 1, 34, 1, 42, 1, 0), (.iadd, 35, 1, 54, 0, 0), (.putfield 41, 36, 3, 55, 0, 32), (.goto (-34), 39, 3, 45, 5, 0)]),
  (42, [(.iconst (-1), 42, 1, 42, 4294967295, 0), (.ireturn, 43, 1, 1, 1, 0)])]
def km_3 : mv_I := (yX0_choose, cX0_choose, 3, (some .int), 1, 0, 0, [])
def kb_4 : List (Nat × List mv_E) := [(0, [(.iload_n 2, 0, 1, 40, 2, 0), (.iconst 1, 1, 1, 42, 1, 0), (.if_icmp .ne 8, 2, 3, 49, 10, 0), (.aload_n 0, 5, 1, 41, 0, 0), (.getfield 41, 6, 3, 43, 0, 8), (.ireturn, 9, 1, 1, 1, 0)]),
  (10, [(.aload_n 0, 10, 1, 41, 0, 0), (.iload_n 1, 11, 1, 40, 1, 0), (.invokevirtual 51, 12, 3, 4, 10, 0), (.istore_n 3, 15, 1, 46, 3, 0), (.iload_n 2, 16, 1, 40, 2, 0), (.iconst 3, 17, 1, 42, 3, 0), (.if_icmp .ne 13, 18, 3, 49, 31, 0), (.aload_n 0, 21, 1, 41, 0, 0), (.getfield 18, 22, 3, 43, 0, 0), (.getfield 54, 25, 3, 43, 2, 5), (.iload_n 3, 28, 1, 40, 3, 0), (.iaload, 29, 1, 44, 0, 0), (.ireturn, 30, 1, 1, 1, 0)]),
  (31, [(.aload_n 0, 31, 1, 41, 0, 0), (.getfield 30, 32, 3, 43, 0, 3), (.getfield 59, 35, 3, 43, 6, 4), (.iload_n 1, 38, 1, 40, 1, 0), (.iaload, 39, 1, 44, 0, 0), (.istore 4, 40, 2, 46, 4, 0), (.aload_n 0, 42, 1, 41, 0, 0), (.getfield 18, 43, 3, 43, 0, 0), (.aload_n 0, 46, 1, 41, 0, 0), (.iload_n 1, 47, 1, 40, 1, 0), (.iload 4, 48, 2, 40, 4, 0), (.invokevirtual 64, 50, 3, 4, 8, 0), (.bipush 14, 53, 2, 42, 14, 0), (.iconst 3, 55, 1, 42, 3, 0), (.iload_n 3, 56, 1, 40, 3, 0), (.imul, 57, 1, 62, 0, 0), (.iconst 0, 58, 1, 42, 0, 0), (.iconst 0, 59, 1, 42, 0, 0), (.invokevirtual 68, 60, 3, 5, 29, 0), (.istore 5, 63, 2, 46, 5, 0), (.iload_n 2, 65, 1, 40, 2, 0), (.iconst 2, 66, 1, 42, 2, 0), (.if_icmp .ne 14, 67, 3, 49, 81, 0), (.aload_n 0, 70, 1, 41, 0, 0), (.getfield 18, 71, 3, 43, 0, 0), (.getfield 54, 74, 3, 43, 2, 5), (.iload 5, 77, 2, 40, 5, 0), (.iaload, 79, 1, 44, 0, 0), (.ireturn, 80, 1, 1, 1, 0)]),
  (81, [(.aload_n 0, 81, 1, 41, 0, 0), (.getfield 26, 82, 3, 43, 0, 2), (.iload 5, 85, 2, 40, 5, 0), (.aload_n 0, 87, 1, 41, 0, 0), (.getfield 30, 88, 3, 43, 0, 3), (.getfield 72, 91, 3, 43, 6, 5), (.iload_n 1, 94, 1, 40, 1, 0), (.iaload, 95, 1, 44, 0, 0), (.invokevirtual 75, 96, 3, 4, 60, 0), (.istore 6, 99, 2, 46, 6, 0), (.iload 6, 101, 2, 40, 6, 0), (.aload_n 0, 103, 1, 41, 0, 0), (.getfield 26, 104, 3, 43, 0, 2), (.iload 4, 107, 2, 40, 4, 0), (.aload_n 0, 109, 1, 41, 0, 0), (.getfield 30, 110, 3, 43, 0, 3), (.getfield 72, 113, 3, 43, 6, 5), (.iload_n 1, 116, 1, 40, 1, 0), (.iaload, 117, 1, 44, 0, 0), (.invokevirtual 75, 118, 3, 4, 60, 0), (.if_icmp .ne 7, 121, 3, 49, 128, 0), (.iconst (-1), 124, 1, 42, 4294967295, 0), (.goto 5, 125, 3, 45, 130, 0)]),
  (128, [(.iload 6, 128, 2, 40, 6, 0)]),
  (130, [(.ireturn, 130, 1, 1, 1, 0)])]
def km_4 : mv_I := (yX0_answer, cX0_answer, 7, (some .int), 2, 0, 0, [])
def kb_5 : List (Nat × List mv_E) := [(0, [(.iconst 0, 0, 1, 42, 0, 0), (.istore_n 2, 1, 1, 46, 2, 0), (.iconst 0, 2, 1, 42, 0, 0), (.istore_n 3, 3, 1, 46, 3, 0)]),
  (4, [(.iload_n 3, 4, 1, 40, 3, 0), (.aload_n 0, 5, 1, 41, 0, 0), (.getfield 30, 6, 3, 43, 0, 3), (.getfield 80, 9, 3, 43, 6, 7), (.if_icmp .ge 66, 12, 3, 51, 78, 0), (.iload_n 1, 15, 1, 40, 1, 0), (.iload_n 3, 16, 1, 40, 3, 0), (.ishr, 17, 1, 71, 0, 0), (.iconst 1, 18, 1, 42, 1, 0), (.iand, 19, 1, 64, 0, 0), (.ifCond .eq 52, 20, 3, 56, 72, 0), (.aload_n 0, 23, 1, 41, 0, 0), (.iload_n 3, 24, 1, 40, 3, 0), (.invokevirtual 83, 25, 3, 4, 6, 0), (.ifCond .eq 44, 28, 3, 56, 72, 0), (.aload_n 0, 31, 1, 41, 0, 0), (.iload_n 3, 32, 1, 40, 3, 0), (.invokevirtual 87, 33, 3, 4, 7, 0), (.aload_n 0, 36, 1, 41, 0, 0), (.getfield 18, 37, 3, 43, 0, 0), (.getfield 91, 40, 3, 43, 2, 9), (.istore 4, 43, 2, 46, 4, 0), (.iload_n 2, 45, 1, 40, 2, 0), (.aload_n 0, 46, 1, 41, 0, 0), (.iload_n 3, 47, 1, 40, 3, 0), (.invokevirtual 92, 48, 3, 4, 9, 0), (.ifCond .eq 9, 51, 3, 56, 60, 0), (.iconst 1, 54, 1, 42, 1, 0), (.iload_n 3, 55, 1, 40, 3, 0), (.ishl, 56, 1, 70, 0, 0), (.goto 4, 57, 3, 45, 61, 0)]),
  (60, [(.iconst 0, 60, 1, 42, 0, 0)]),
  (61, [(.ior, 61, 1, 65, 0, 0), (.istore_n 2, 62, 1, 46, 2, 0), (.aload_n 0, 63, 1, 41, 0, 0), (.getfield 18, 64, 3, 43, 0, 0), (.iload 4, 67, 2, 40, 4, 0), (.invokevirtual 95, 69, 3, 4, 24, 0)]),
  (72, [(.iinc 3 1, 72, 3, 47, 3, 1), (.goto (-71), 75, 3, 45, 4, 0)]),
  (78, [(.iload_n 2, 78, 1, 40, 2, 0), (.ireturn, 79, 1, 1, 1, 0)])]
def km_5 : mv_I := (yX0_suitingOf, cX0_suitingOf, 5, (some .int), 1, 0, 0, [])
def kb_6 : List (Nat × List mv_E) := [(0, [(.aload_n 0, 0, 1, 41, 0, 0), (.getfield 30, 1, 3, 43, 0, 3), (.getfield 98, 4, 3, 43, 6, 3), (.iload_n 1, 7, 1, 40, 1, 0), (.iaload, 8, 1, 44, 0, 0), (.istore_n 2, 9, 1, 46, 2, 0), (.aload_n 0, 10, 1, 41, 0, 0), (.getfield 41, 11, 3, 43, 0, 8), (.iconst 3, 14, 1, 42, 3, 0), (.if_icmp .ne 34, 15, 3, 49, 49, 0), (.aload_n 0, 18, 1, 41, 0, 0), (.getfield 30, 19, 3, 43, 0, 3), (.iload_n 1, 22, 1, 40, 1, 0), (.invokevirtual 101, 23, 3, 4, 92, 0), (.ifCond .eq 21, 26, 3, 56, 47, 0), (.iload_n 2, 29, 1, 40, 2, 0), (.ifCond .le 17, 30, 3, 61, 47, 0), (.aload_n 0, 33, 1, 41, 0, 0), (.getfield 38, 34, 3, 43, 0, 6), (.iload_n 2, 37, 1, 40, 2, 0), (.iconst 1, 38, 1, 42, 1, 0), (.isub, 39, 1, 67, 0, 0), (.if_icmp .lt 7, 40, 3, 50, 47, 0), (.iconst 1, 43, 1, 42, 1, 0), (.goto 4, 44, 3, 45, 48, 0)]),
  (47, [(.iconst 0, 47, 1, 42, 0, 0)]),
  (48, [(.ireturn, 48, 1, 1, 2, 0)]),
  (49, [(.iload_n 2, 49, 1, 40, 2, 0), (.aload_n 0, 50, 1, 41, 0, 0), (.getfield 38, 51, 3, 43, 0, 6), (.if_icmp .ne 7, 54, 3, 49, 61, 0), (.iconst 1, 57, 1, 42, 1, 0), (.goto 4, 58, 3, 45, 62, 0)]),
  (61, [(.iconst 0, 61, 1, 42, 0, 0)]),
  (62, [(.ireturn, 62, 1, 1, 2, 0)])]
def km_6 : mv_I := (yX0_isCountRight, cX0_isCountRight, 3, (some .boolean), 1, 0, 0, [])
def kb_7 : List (Nat × List mv_E) := [(0, [(.aload_n 0, 0, 1, 41, 0, 0), (.getfield 30, 1, 3, 43, 0, 3), (.getfield 98, 4, 3, 43, 6, 3), (.iload_n 1, 7, 1, 40, 1, 0), (.iaload, 8, 1, 44, 0, 0), (.iconst 1, 9, 1, 42, 1, 0), (.isub, 10, 1, 67, 0, 0), (.istore_n 2, 11, 1, 46, 2, 0), (.iconst 0, 12, 1, 42, 0, 0), (.istore_n 3, 13, 1, 46, 3, 0)]),
  (14, [(.iload_n 3, 14, 1, 40, 3, 0), (.aload_n 0, 15, 1, 41, 0, 0), (.getfield 38, 16, 3, 43, 0, 6), (.if_icmp .ge 82, 19, 3, 51, 101, 0), (.aload_n 0, 22, 1, 41, 0, 0), (.getfield 41, 23, 3, 43, 0, 8), (.iconst 3, 26, 1, 42, 3, 0), (.if_icmp .ne 12, 27, 3, 49, 39, 0), (.iload_n 3, 30, 1, 40, 3, 0), (.iload_n 2, 31, 1, 40, 2, 0), (.if_icmp .lt 7, 32, 3, 50, 39, 0), (.iconst 1, 35, 1, 42, 1, 0), (.goto 4, 36, 3, 45, 40, 0)]),
  (39, [(.iconst 0, 39, 1, 42, 0, 0)]),
  (40, [(.istore 4, 40, 2, 46, 4, 0), (.iload 4, 42, 2, 40, 4, 0), (.ifCond .eq 23, 44, 3, 56, 67, 0), (.aload_n 0, 47, 1, 41, 0, 0), (.getfield 18, 48, 3, 43, 0, 0), (.getfield 104, 51, 3, 43, 2, 2), (.aload_n 0, 54, 1, 41, 0, 0), (.getfield 30, 55, 3, 43, 0, 3), (.iload_n 1, 58, 1, 40, 1, 0), (.iload_n 2, 59, 1, 40, 2, 0), (.invokevirtual 107, 60, 3, 4, 91, 0), (.iaload, 63, 1, 44, 0, 0), (.goto 12, 64, 3, 45, 76, 0)]),
  (67, [(.aload_n 0, 67, 1, 41, 0, 0), (.getfield 30, 68, 3, 43, 0, 3), (.iload_n 1, 71, 1, 40, 1, 0), (.iload_n 3, 72, 1, 40, 3, 0), (.invokevirtual 107, 73, 3, 4, 91, 0)]),
  (76, [(.istore 5, 76, 2, 46, 5, 0), (.aload_n 0, 78, 1, 41, 0, 0), (.getfield 15, 79, 3, 43, 0, 5), (.iconst 3, 82, 1, 42, 3, 0), (.iload_n 1, 83, 1, 40, 1, 0), (.imul, 84, 1, 62, 0, 0), (.iload_n 3, 85, 1, 40, 3, 0), (.iadd, 86, 1, 54, 0, 0), (.aload_n 0, 87, 1, 41, 0, 0), (.iload_n 1, 88, 1, 40, 1, 0), (.iload 5, 89, 2, 40, 5, 0), (.invokevirtual 64, 91, 3, 4, 8, 0), (.iastore, 94, 1, 63, 0, 0), (.iinc 3 1, 95, 3, 47, 3, 1), (.goto (-84), 98, 3, 45, 14, 0)]),
  (101, [(.return_, 101, 1, 1, 0, 0)])]
def km_7 : mv_I := (yX0_layOutFormals, cX0_layOutFormals, 6, none, 1, 0, 0, [])
def kb_8 : List (Nat × List mv_E) := [(0, [(.aload_n 0, 0, 1, 41, 0, 0), (.getfield 30, 1, 3, 43, 0, 3), (.getfield 110, 4, 3, 43, 6, 0), (.iload_n 1, 7, 1, 40, 1, 0), (.iaload, 8, 1, 44, 0, 0), (.istore_n 3, 9, 1, 46, 3, 0), (.aload_n 0, 10, 1, 41, 0, 0), (.getfield 18, 11, 3, 43, 0, 0), (.iload_n 2, 14, 1, 40, 2, 0), (.iload_n 3, 15, 1, 40, 3, 0), (.aload_n 0, 16, 1, 41, 0, 0), (.getfield 22, 17, 3, 43, 0, 1), (.aload_n 0, 20, 1, 41, 0, 0), (.getfield 34, 21, 3, 43, 0, 7), (.iload_n 3, 24, 1, 40, 3, 0), (.iconst 0, 25, 1, 42, 0, 0), (.invokevirtual 112, 26, 3, 4, 42, 0), (.aload_n 0, 29, 1, 41, 0, 0), (.getfield 22, 30, 3, 43, 0, 1), (.aload_n 0, 33, 1, 41, 0, 0), (.getfield 34, 34, 3, 43, 0, 7), (.iload_n 3, 37, 1, 40, 3, 0), (.iconst 1, 38, 1, 42, 1, 0), (.invokevirtual 112, 39, 3, 4, 42, 0), (.iconst 0, 42, 1, 42, 0, 0), (.invokevirtual 68, 43, 3, 5, 29, 0), (.ireturn, 46, 1, 1, 1, 0)])]
def km_8 : mv_I := (yX0_seen, cX0_seen, 4, (some .int), 2, 0, 0, [])
def kb_9 : List (Nat × List mv_E) := [(0, [(.aload_n 0, 0, 1, 41, 0, 0), (.iload_n 1, 1, 1, 40, 1, 0), (.invokevirtual 51, 2, 3, 4, 10, 0), (.istore_n 2, 5, 1, 46, 2, 0), (.iload_n 2, 6, 1, 40, 2, 0), (.ifCond .eq 24, 7, 3, 56, 31, 0), (.aload_n 0, 10, 1, 41, 0, 0), (.getfield 26, 11, 3, 43, 0, 2), (.iload_n 2, 14, 1, 40, 2, 0), (.aload_n 0, 15, 1, 41, 0, 0), (.getfield 30, 16, 3, 43, 0, 3), (.getfield 72, 19, 3, 43, 6, 5), (.iload_n 1, 22, 1, 40, 1, 0), (.iaload, 23, 1, 44, 0, 0), (.iconst 0, 24, 1, 42, 0, 0), (.invokevirtual 118, 25, 3, 5, 48, 0), (.ifCond .ne 5, 28, 3, 57, 33, 0)]),
  (31, [(.iconst 0, 31, 1, 42, 0, 0), (.ireturn, 32, 1, 1, 2, 0)]),
  (33, [(.iconst 0, 33, 1, 42, 0, 0), (.istore_n 3, 34, 1, 46, 3, 0)]),
  (35, [(.iload_n 3, 35, 1, 40, 3, 0), (.aload_n 0, 36, 1, 41, 0, 0), (.getfield 38, 37, 3, 43, 0, 6), (.if_icmp .ge 52, 40, 3, 51, 92, 0), (.aload_n 0, 43, 1, 41, 0, 0), (.getfield 18, 44, 3, 43, 0, 0), (.aload_n 0, 47, 1, 41, 0, 0), (.getfield 15, 48, 3, 43, 0, 5), (.iconst 3, 51, 1, 42, 3, 0), (.iload_n 1, 52, 1, 40, 1, 0), (.imul, 53, 1, 62, 0, 0), (.iload_n 3, 54, 1, 40, 3, 0), (.iadd, 55, 1, 54, 0, 0), (.iaload, 56, 1, 44, 0, 0), (.bipush 14, 57, 2, 42, 14, 0), (.iconst 3, 59, 1, 42, 3, 0), (.iload_n 2, 60, 1, 40, 2, 0), (.imul, 61, 1, 62, 0, 0), (.iconst 0, 62, 1, 42, 0, 0), (.iconst 0, 63, 1, 42, 0, 0), (.invokevirtual 68, 64, 3, 5, 29, 0), (.istore 4, 67, 2, 46, 4, 0), (.aload_n 0, 69, 1, 41, 0, 0), (.aload_n 0, 70, 1, 41, 0, 0), (.getfield 9, 71, 3, 43, 0, 4), (.iload_n 3, 74, 1, 40, 3, 0), (.iaload, 75, 1, 44, 0, 0), (.iload 4, 76, 2, 40, 4, 0), (.invokevirtual 122, 78, 3, 4, 11, 0), (.ifCond .ne 5, 81, 3, 57, 86, 0), (.iconst 0, 84, 1, 42, 0, 0), (.ireturn, 85, 1, 1, 2, 0)]),
  (86, [(.iinc 3 1, 86, 3, 47, 3, 1), (.goto (-54), 89, 3, 45, 35, 0)]),
  (92, [(.iconst 1, 92, 1, 42, 1, 0), (.ireturn, 93, 1, 1, 2, 0)])]
def km_9 : mv_I := (yX0_isSuiting, cX0_isSuiting, 5, (some .boolean), 1, 0, 0, [])
def kb_10 : List (Nat × List mv_E) := [(0, [(.iconst (-1), 0, 1, 42, 4294967295, 0), (.istore_n 2, 1, 1, 46, 2, 0), (.iconst 0, 2, 1, 42, 0, 0), (.istore_n 3, 3, 1, 46, 3, 0)]),
  (4, [(.iload_n 3, 4, 1, 40, 3, 0), (.aload_n 0, 5, 1, 41, 0, 0), (.getfield 38, 6, 3, 43, 0, 6), (.if_icmp .ge 89, 9, 3, 51, 98, 0), (.aload_n 0, 12, 1, 41, 0, 0), (.getfield 15, 13, 3, 43, 0, 5), (.iconst 3, 16, 1, 42, 3, 0), (.iload_n 1, 17, 1, 40, 1, 0), (.imul, 18, 1, 62, 0, 0), (.iload_n 3, 19, 1, 40, 3, 0), (.iadd, 20, 1, 54, 0, 0), (.iaload, 21, 1, 44, 0, 0), (.iconst 4, 22, 1, 42, 4, 0), (.if_icmp .eq 6, 23, 3, 48, 29, 0), (.goto 66, 26, 3, 45, 92, 0)]),
  (29, [(.aload_n 0, 29, 1, 41, 0, 0), (.getfield 9, 30, 3, 43, 0, 4), (.iload_n 3, 33, 1, 40, 3, 0), (.iaload, 34, 1, 44, 0, 0), (.ifCond .ne 13, 35, 3, 57, 48, 0), (.aload_n 0, 38, 1, 41, 0, 0), (.getfield 41, 39, 3, 43, 0, 8), (.iconst 1, 42, 1, 42, 1, 0), (.if_icmp .ne 5, 43, 3, 49, 48, 0), (.iconst 0, 46, 1, 42, 0, 0), (.ireturn, 47, 1, 1, 1, 0)]),
  (48, [(.aload_n 0, 48, 1, 41, 0, 0), (.getfield 9, 49, 3, 43, 0, 4), (.iload_n 3, 52, 1, 40, 3, 0), (.iaload, 53, 1, 44, 0, 0), (.ifCond .ne 7, 54, 3, 57, 61, 0), (.iconst 3, 57, 1, 42, 3, 0), (.goto 9, 58, 3, 45, 67, 0)]),
  (61, [(.aload_n 0, 61, 1, 41, 0, 0), (.getfield 9, 62, 3, 43, 0, 4), (.iload_n 3, 65, 1, 40, 3, 0), (.iaload, 66, 1, 44, 0, 0)]),
  (67, [(.istore 4, 67, 2, 46, 4, 0), (.iload_n 2, 69, 1, 40, 2, 0), (.iconst (-1), 70, 1, 42, 4294967295, 0), (.if_icmp .ne 8, 71, 3, 49, 79, 0), (.iload 4, 74, 2, 40, 4, 0), (.goto 15, 76, 3, 45, 91, 0)]),
  (79, [(.aload_n 0, 79, 1, 41, 0, 0), (.getfield 26, 80, 3, 43, 0, 2), (.iload_n 2, 83, 1, 40, 2, 0), (.iload 4, 84, 2, 40, 4, 0), (.iconst 0, 86, 1, 42, 0, 0), (.iconst 0, 87, 1, 42, 0, 0), (.invokevirtual 126, 88, 3, 5, 54, 0)]),
  (91, [(.istore_n 2, 91, 1, 46, 2, 0)]),
  (92, [(.iinc 3 1, 92, 3, 47, 3, 1), (.goto (-91), 95, 3, 45, 4, 0)]),
  (98, [(.iload_n 2, 98, 1, 40, 2, 0), (.iconst (-1), 99, 1, 42, 4294967295, 0), (.if_icmp .ne 7, 100, 3, 49, 107, 0), (.iconst 2, 103, 1, 42, 2, 0), (.goto 4, 104, 3, 45, 108, 0)]),
  (107, [(.iload_n 2, 107, 1, 40, 2, 0)]),
  (108, [(.ireturn, 108, 1, 1, 1, 0)])]
def km_10 : mv_I := (yX0_standIn, cX0_standIn, 5, (some .int), 1, 0, 0, [])
def kb_11 : List (Nat × List mv_E) := [(0, [(.aload_n 0, 0, 1, 41, 0, 0), (.getfield 26, 1, 3, 43, 0, 2), (.iload_n 1, 4, 1, 40, 1, 0), (.iload_n 2, 5, 1, 40, 2, 0), (.iconst 0, 6, 1, 42, 0, 0), (.invokevirtual 118, 7, 3, 5, 48, 0), (.ifCond .eq 5, 10, 3, 56, 15, 0), (.iconst 1, 13, 1, 42, 1, 0), (.ireturn, 14, 1, 1, 2, 0)]),
  (15, [(.aload_n 0, 15, 1, 41, 0, 0), (.getfield 41, 16, 3, 43, 0, 8), (.iconst 1, 19, 1, 42, 1, 0), (.if_icmp .ne 5, 20, 3, 49, 25, 0), (.iconst 0, 23, 1, 42, 0, 0), (.ireturn, 24, 1, 1, 2, 0)]),
  (25, [(.iload_n 1, 25, 1, 40, 1, 0), (.ifCond .ne 14, 26, 3, 57, 40, 0), (.aload_n 0, 29, 1, 41, 0, 0), (.getfield 26, 30, 3, 43, 0, 2), (.iconst 3, 33, 1, 42, 3, 0), (.iload_n 2, 34, 1, 40, 2, 0), (.iconst 0, 35, 1, 42, 0, 0), (.invokevirtual 118, 36, 3, 5, 48, 0), (.ireturn, 39, 1, 1, 2, 0)]),
  (40, [(.iload_n 2, 40, 1, 40, 2, 0), (.ifCond .ne 25, 41, 3, 57, 66, 0), (.iload_n 1, 44, 1, 40, 1, 0), (.iconst 1, 45, 1, 42, 1, 0), (.if_icmp .eq 20, 46, 3, 48, 66, 0), (.aload_n 0, 49, 1, 41, 0, 0), (.getfield 26, 50, 3, 43, 0, 2), (.iload_n 1, 53, 1, 40, 1, 0), (.iconst 3, 54, 1, 42, 3, 0), (.iconst 0, 55, 1, 42, 0, 0), (.invokevirtual 118, 56, 3, 5, 48, 0), (.ifCond .eq 7, 59, 3, 56, 66, 0), (.iconst 1, 62, 1, 42, 1, 0), (.goto 4, 63, 3, 45, 67, 0)]),
  (66, [(.iconst 0, 66, 1, 42, 0, 0)]),
  (67, [(.ireturn, 67, 1, 1, 2, 0)])]
def km_11 : mv_I := (yX0_isFitting, cX0_isFitting, 3, (some .boolean), 2, 0, 0, [])
def kb_12 : List (Nat × List mv_E) := [(0, [(.bipush (-2), 0, 2, 42, 4294967294, 0), (.istore_n 2, 2, 1, 46, 2, 0), (.iconst 0, 3, 1, 42, 0, 0), (.istore_n 3, 4, 1, 46, 3, 0)]),
  (5, [(.iload_n 3, 5, 1, 40, 3, 0), (.aload_n 0, 6, 1, 41, 0, 0), (.getfield 30, 7, 3, 43, 0, 3), (.getfield 80, 10, 3, 43, 6, 7), (.if_icmp .ge 43, 13, 3, 51, 56, 0), (.iload_n 1, 16, 1, 40, 1, 0), (.iload_n 3, 17, 1, 40, 3, 0), (.ishr, 18, 1, 71, 0, 0), (.iconst 1, 19, 1, 42, 1, 0), (.iand, 20, 1, 64, 0, 0), (.ifCond .eq 29, 21, 3, 56, 50, 0), (.aload_n 0, 24, 1, 41, 0, 0), (.iload_n 3, 25, 1, 40, 3, 0), (.iload_n 1, 26, 1, 40, 1, 0), (.iconst 1, 27, 1, 42, 1, 0), (.iload_n 3, 28, 1, 40, 3, 0), (.ishl, 29, 1, 70, 0, 0), (.iconst (-1), 30, 1, 42, 4294967295, 0), (.ixor, 31, 1, 66, 0, 0), (.iand, 32, 1, 64, 0, 0), (.invokevirtual 130, 33, 3, 4, 13, 0), (.ifCond .eq 14, 36, 3, 56, 50, 0), (.iload_n 2, 39, 1, 40, 2, 0), (.bipush (-2), 40, 2, 42, 4294967294, 0), (.if_icmp .eq 6, 42, 3, 48, 48, 0), (.bipush (-2), 45, 2, 42, 4294967294, 0), (.ireturn, 47, 1, 1, 1, 0)]),
  (48, [(.iload_n 3, 48, 1, 40, 3, 0), (.istore_n 2, 49, 1, 46, 2, 0)]),
  (50, [(.iinc 3 1, 50, 3, 47, 3, 1), (.goto (-48), 53, 3, 45, 5, 0)]),
  (56, [(.iload_n 2, 56, 1, 40, 2, 0), (.ireturn, 57, 1, 1, 1, 0)])]
def km_12 : mv_I := (yX0_mostSpecialOf, cX0_mostSpecialOf, 4, (some .int), 1, 0, 0, [])
def kb_13 : List (Nat × List mv_E) := [(0, [(.iconst 0, 0, 1, 42, 0, 0), (.istore_n 3, 1, 1, 46, 3, 0)]),
  (2, [(.iload_n 3, 2, 1, 40, 3, 0), (.aload_n 0, 3, 1, 41, 0, 0), (.getfield 30, 4, 3, 43, 0, 3), (.getfield 80, 7, 3, 43, 6, 7), (.if_icmp .ge 28, 10, 3, 51, 38, 0), (.iload_n 2, 13, 1, 40, 2, 0), (.iload_n 3, 14, 1, 40, 3, 0), (.ishr, 15, 1, 71, 0, 0), (.iconst 1, 16, 1, 42, 1, 0), (.iand, 17, 1, 64, 0, 0), (.ifCond .eq 14, 18, 3, 56, 32, 0), (.aload_n 0, 21, 1, 41, 0, 0), (.iload_n 1, 22, 1, 40, 1, 0), (.iload_n 3, 23, 1, 40, 3, 0), (.invokevirtual 133, 24, 3, 4, 14, 0), (.ifCond .ne 5, 27, 3, 57, 32, 0), (.iconst 0, 30, 1, 42, 0, 0), (.ireturn, 31, 1, 1, 2, 0)]),
  (32, [(.iinc 3 1, 32, 3, 47, 3, 1), (.goto (-33), 35, 3, 45, 2, 0)]),
  (38, [(.iconst 1, 38, 1, 42, 1, 0), (.ireturn, 39, 1, 1, 2, 0)])]
def km_13 : mv_I := (yX0_isMoreSpecialThanAll, cX0_isMoreSpecialThanAll, 4, (some .boolean), 2, 0, 0, [])
def kb_14 : List (Nat × List mv_E) := [(0, [(.aload_n 0, 0, 1, 41, 0, 0), (.getfield 18, 1, 3, 43, 0, 0), (.getfield 91, 4, 3, 43, 2, 9), (.istore_n 3, 7, 1, 46, 3, 0), (.iconst 1, 8, 1, 42, 1, 0), (.istore 4, 9, 2, 46, 4, 0), (.iconst 0, 11, 1, 42, 0, 0), (.istore 5, 12, 2, 46, 5, 0)]),
  (14, [(.iload 5, 14, 2, 40, 5, 0), (.aload_n 0, 16, 1, 41, 0, 0), (.getfield 38, 17, 3, 43, 0, 6), (.if_icmp .ge 106, 20, 3, 51, 126, 0), (.iload 4, 23, 2, 40, 4, 0), (.ifCond .eq 101, 25, 3, 56, 126, 0), (.aload_n 0, 28, 1, 41, 0, 0), (.getfield 15, 29, 3, 43, 0, 5), (.iconst 3, 32, 1, 42, 3, 0), (.iload_n 1, 33, 1, 40, 1, 0), (.imul, 34, 1, 62, 0, 0), (.iload 5, 35, 2, 40, 5, 0), (.iadd, 37, 1, 54, 0, 0), (.iaload, 38, 1, 44, 0, 0), (.istore 6, 39, 2, 46, 6, 0), (.aload_n 0, 41, 1, 41, 0, 0), (.getfield 15, 42, 3, 43, 0, 5), (.iconst 3, 45, 1, 42, 3, 0), (.iload_n 2, 46, 1, 40, 2, 0), (.imul, 47, 1, 62, 0, 0), (.iload 5, 48, 2, 40, 5, 0), (.iadd, 50, 1, 54, 0, 0), (.iaload, 51, 1, 44, 0, 0), (.istore 7, 52, 2, 46, 7, 0), (.aload_n 0, 54, 1, 41, 0, 0), (.getfield 18, 55, 3, 43, 0, 0), (.iload 6, 58, 2, 40, 6, 0), (.bipush 14, 60, 2, 42, 14, 0), (.iconst 3, 62, 1, 42, 3, 0), (.aload_n 0, 63, 1, 41, 0, 0), (.getfield 30, 64, 3, 43, 0, 3), (.getfield 72, 67, 3, 43, 6, 5), (.iload_n 1, 70, 1, 40, 1, 0), (.iaload, 71, 1, 44, 0, 0), (.imul, 72, 1, 62, 0, 0), (.iconst 0, 73, 1, 42, 0, 0), (.iconst 0, 74, 1, 42, 0, 0), (.invokevirtual 68, 75, 3, 5, 29, 0), (.istore 6, 78, 2, 46, 6, 0), (.aload_n 0, 80, 1, 41, 0, 0), (.getfield 18, 81, 3, 43, 0, 0), (.iload 7, 84, 2, 40, 7, 0), (.bipush 14, 86, 2, 42, 14, 0), (.iconst 3, 88, 1, 42, 3, 0), (.aload_n 0, 89, 1, 41, 0, 0), (.getfield 30, 90, 3, 43, 0, 3), (.getfield 72, 93, 3, 43, 6, 5), (.iload_n 2, 96, 1, 40, 2, 0), (.iaload, 97, 1, 44, 0, 0), (.imul, 98, 1, 62, 0, 0), (.iconst 0, 99, 1, 42, 0, 0), (.iconst 0, 100, 1, 42, 0, 0), (.invokevirtual 68, 101, 3, 5, 29, 0), (.istore 7, 104, 2, 46, 7, 0), (.aload_n 0, 106, 1, 41, 0, 0), (.getfield 26, 107, 3, 43, 0, 2), (.iload 6, 110, 2, 40, 6, 0), (.iload 7, 112, 2, 40, 7, 0), (.iconst 0, 114, 1, 42, 0, 0), (.invokevirtual 118, 115, 3, 5, 48, 0), (.istore 4, 118, 2, 46, 4, 0), (.iinc 5 1, 120, 3, 47, 5, 1), (.goto (-109), 123, 3, 45, 14, 0)]),
  (126, [(.aload_n 0, 126, 1, 41, 0, 0), (.getfield 18, 127, 3, 43, 0, 0), (.iload_n 3, 130, 1, 40, 3, 0), (.invokevirtual 95, 131, 3, 4, 24, 0), (.iload 4, 134, 2, 40, 4, 0), (.ireturn, 136, 1, 1, 2, 0)])]
def km_14 : mv_I := (yX0_isMoreSpecial, cX0_isMoreSpecial, 8, (some .boolean), 2, 0, 0, [])
def kb_15 : List (Nat × List mv_E) := [(0, [(.aload_n 0, 0, 1, 41, 0, 0), (.invokespecial 3, 1, 3, 3, 0, 0), (.aload_n 0, 4, 1, 41, 0, 0), (.sipush 136, 5, 3, 42, 136, 0), (.newarray .int, 8, 2, 86, 0, 0), (.putfield 11, 10, 3, 55, 1, 10), (.aload_n 0, 13, 1, 41, 0, 0), (.sipush 136, 14, 3, 42, 136, 0), (.newarray .int, 17, 2, 86, 0, 0), (.putfield 15, 19, 3, 55, 1, 14), (.aload_n 0, 22, 1, 41, 0, 0), (.sipush 136, 23, 3, 42, 136, 0), (.newarray .int, 26, 2, 86, 0, 0), (.putfield 18, 28, 3, 55, 1, 18), (.aload_n 0, 31, 1, 41, 0, 0), (.aload_n 1, 32, 1, 41, 1, 0), (.putfield 21, 33, 3, 55, 1, 2), (.aload_n 0, 36, 1, 41, 0, 0), (.aload_n 2, 37, 1, 41, 2, 0), (.putfield 25, 38, 3, 55, 1, 6), (.return_, 41, 1, 1, 0, 0)])]
def km_15 : mv_I := (yX1_init, cX1_init, 3, none, 2, 2, 1, [])
def kb_16 : List (Nat × List mv_E) := [(0, [(.aload_n 0, 0, 1, 41, 0, 0), (.iconst 0, 1, 1, 42, 0, 0), (.putfield 29, 2, 3, 55, 1, 20), (.iconst 0, 5, 1, 42, 0, 0), (.istore_n 2, 6, 1, 46, 2, 0)]),
  (7, [(.iload_n 2, 7, 1, 40, 2, 0), (.aload_n 0, 8, 1, 41, 0, 0), (.getfield 21, 9, 3, 43, 1, 0), (.getfield 33, 12, 3, 43, 3, 9), (.if_icmp .ge 54, 15, 3, 51, 69, 0), (.aload_n 0, 18, 1, 41, 0, 0), (.aload_n 1, 19, 1, 41, 1, 0), (.getfield 36, 20, 3, 43, 5, 11), (.iload_n 2, 23, 1, 40, 2, 0), (.baload, 24, 1, 82, 0, 0), (.iconst 1, 25, 1, 42, 1, 0), (.iload_n 2, 26, 1, 40, 2, 0), (.iconst (-1), 27, 1, 42, 4294967295, 0), (.invokevirtual 42, 28, 3, 4, 18, 0), (.iconst 0, 31, 1, 42, 0, 0), (.istore_n 3, 32, 1, 46, 3, 0)]),
  (33, [(.iload_n 3, 33, 1, 40, 3, 0), (.aload_n 1, 34, 1, 41, 1, 0), (.getfield 46, 35, 3, 43, 5, 12), (.iload_n 2, 38, 1, 40, 2, 0), (.iaload, 39, 1, 44, 0, 0), (.if_icmp .ge 17, 40, 3, 51, 57, 0), (.aload_n 0, 43, 1, 41, 0, 0), (.iconst 1, 44, 1, 42, 1, 0), (.iconst 2, 45, 1, 42, 2, 0), (.iload_n 2, 46, 1, 40, 2, 0), (.iconst (-1), 47, 1, 42, 4294967295, 0), (.invokevirtual 42, 48, 3, 4, 18, 0), (.iinc 3 1, 51, 3, 47, 3, 1), (.goto (-21), 54, 3, 45, 33, 0)]),
  (57, [(.aload_n 0, 57, 1, 41, 0, 0), (.iload_n 2, 58, 1, 40, 2, 0), (.aload_n 1, 59, 1, 41, 1, 0), (.invokevirtual 49, 60, 3, 4, 17, 0), (.iinc 2 1, 63, 3, 47, 2, 1), (.goto (-59), 66, 3, 45, 7, 0)]),
  (69, [(.return_, 69, 1, 1, 0, 0)])]
def km_16 : mv_I := (yX1_list, cX1_list, 4, none, 1, 0, 1, [])
def kb_17 : List (Nat × List mv_E) := [(0, [(.iconst 0, 0, 1, 42, 0, 0), (.istore_n 3, 1, 1, 46, 3, 0)]),
  (2, [(.iload_n 3, 2, 1, 40, 3, 0), (.aload_n 0, 3, 1, 41, 0, 0), (.getfield 25, 4, 3, 43, 1, 1), (.getfield 53, 7, 3, 43, 6, 7), (.if_icmp .ge 91, 10, 3, 51, 101, 0), (.aload_n 0, 13, 1, 41, 0, 0), (.getfield 25, 14, 3, 43, 1, 1), (.getfield 56, 17, 3, 43, 6, 0), (.iload_n 3, 20, 1, 40, 3, 0), (.iaload, 21, 1, 44, 0, 0), (.iload_n 1, 22, 1, 40, 1, 0), (.if_icmp .ne 72, 23, 3, 49, 95, 0), (.aload_n 0, 26, 1, 41, 0, 0), (.aload_n 2, 27, 1, 41, 2, 0), (.getfield 57, 28, 3, 43, 5, 9), (.iload_n 3, 31, 1, 40, 3, 0), (.baload, 32, 1, 82, 0, 0), (.iconst 3, 33, 1, 42, 3, 0), (.iload_n 1, 34, 1, 40, 1, 0), (.iload_n 3, 35, 1, 40, 3, 0), (.invokevirtual 42, 36, 3, 4, 18, 0), (.aload_n 0, 39, 1, 41, 0, 0), (.aload_n 2, 40, 1, 41, 2, 0), (.getfield 60, 41, 3, 43, 5, 10), (.iload_n 3, 44, 1, 40, 3, 0), (.baload, 45, 1, 82, 0, 0), (.bipush 6, 46, 2, 42, 6, 0), (.iload_n 1, 48, 1, 40, 1, 0), (.iload_n 3, 49, 1, 40, 3, 0), (.invokevirtual 42, 50, 3, 4, 18, 0), (.aload_n 0, 53, 1, 41, 0, 0), (.aload_n 2, 54, 1, 41, 2, 0), (.getfield 63, 55, 3, 43, 5, 6), (.iload_n 3, 58, 1, 40, 3, 0), (.iaload, 59, 1, 44, 0, 0), (.ifCond .eq 7, 60, 3, 56, 67, 0), (.iconst 1, 63, 1, 42, 1, 0), (.goto 4, 64, 3, 45, 68, 0)]),
  (67, [(.iconst 0, 67, 1, 42, 0, 0)]),
  (68, [(.iconst 4, 68, 1, 42, 4, 0), (.iload_n 1, 69, 1, 40, 1, 0), (.iload_n 3, 70, 1, 40, 3, 0), (.invokevirtual 42, 71, 3, 4, 18, 0), (.aload_n 0, 74, 1, 41, 0, 0), (.aload_n 2, 75, 1, 41, 2, 0), (.getfield 66, 76, 3, 43, 5, 7), (.iload_n 3, 79, 1, 40, 3, 0), (.iaload, 80, 1, 44, 0, 0), (.ifCond .eq 7, 81, 3, 56, 88, 0), (.iconst 1, 84, 1, 42, 1, 0), (.goto 4, 85, 3, 45, 89, 0)]),
  (88, [(.iconst 0, 88, 1, 42, 0, 0)]),
  (89, [(.iconst 5, 89, 1, 42, 5, 0), (.iload_n 1, 90, 1, 40, 1, 0), (.iload_n 3, 91, 1, 40, 3, 0), (.invokevirtual 42, 92, 3, 4, 18, 0)]),
  (95, [(.iinc 3 1, 95, 3, 47, 3, 1), (.goto (-96), 98, 3, 45, 2, 0)]),
  (101, [(.return_, 101, 1, 1, 0, 0)])]
def km_17 : mv_I := (yX1_listMethods, cX1_listMethods, 4, none, 2, 0, 1, [])
def kb_18 : List (Nat × List mv_E) := [(0, [(.iload_n 1, 0, 1, 40, 1, 0), (.ifCond .eq 54, 1, 3, 56, 55, 0), (.aload_n 0, 4, 1, 41, 0, 0), (.getfield 29, 5, 3, 43, 1, 5), (.sipush 136, 8, 3, 42, 136, 0), (.if_icmp .ge 44, 11, 3, 51, 55, 0), (.aload_n 0, 14, 1, 41, 0, 0), (.getfield 11, 15, 3, 43, 1, 2), (.aload_n 0, 18, 1, 41, 0, 0), (.getfield 29, 19, 3, 43, 1, 5), (.iload_n 2, 22, 1, 40, 2, 0), (.iastore, 23, 1, 63, 0, 0), (.aload_n 0, 24, 1, 41, 0, 0), (.getfield 15, 25, 3, 43, 1, 3), (.aload_n 0, 28, 1, 41, 0, 0), (.getfield 29, 29, 3, 43, 1, 5), (.iload_n 3, 32, 1, 40, 3, 0), (.iastore, 33, 1, 63, 0, 0), (.aload_n 0, 34, 1, 41, 0, 0), (.getfield 18, 35, 3, 43, 1, 4), (.aload_n 0, 38, 1, 41, 0, 0), (.getfield 29, 39, 3, 43, 1, 5), (.iload 4, 42, 2, 40, 4, 0), (.iastore, 44, 1, 63, 0, 0), (.aload_n 0, 45, 1, 41, 0, 0), (.dup, 46, 1, 77, 0, 0), (.getfield 29, 47, 3, 43, 1, 5), (.iconst 1, 50, 1, 42, 1, 0), (.iadd, 51, 1, 54, 0, 0), (.putfield 29, 52, 3, 55, 1, 20)]),
  (55, [(.return_, 55, 1, 1, 0, 0)])]
def km_18 : mv_I := (yX1_addIf, cX1_addIf, 5, none, 4, 0, 1, [])
def kb_19 : List (Nat × List mv_E) := [(0, [(.iconst 0, 0, 1, 42, 0, 0), (.istore_n 2, 1, 1, 46, 2, 0), (.iconst 0, 2, 1, 42, 0, 0), (.istore_n 3, 3, 1, 46, 3, 0)]),
  (4, [(.iload_n 3, 4, 1, 40, 3, 0), (.aload_n 0, 5, 1, 41, 0, 0), (.getfield 29, 6, 3, 43, 1, 5), (.if_icmp .ge 22, 9, 3, 51, 31, 0), (.aload_n 0, 12, 1, 41, 0, 0), (.getfield 15, 13, 3, 43, 1, 3), (.iload_n 3, 16, 1, 40, 3, 0), (.iaload, 17, 1, 44, 0, 0), (.iload_n 1, 18, 1, 40, 1, 0), (.if_icmp .ne 6, 19, 3, 49, 25, 0), (.iinc 2 1, 22, 3, 47, 2, 1)]),
  (25, [(.iinc 3 1, 25, 3, 47, 3, 1), (.goto (-24), 28, 3, 45, 4, 0)]),
  (31, [(.iload_n 2, 31, 1, 40, 2, 0), (.ireturn, 32, 1, 1, 1, 0)])]
def km_19 : mv_I := (yX1_countOfKind, cX1_countOfKind, 4, (some .int), 1, 0, 1, [])
def kb_20 : List (Nat × List mv_E) := [(0, [(.iconst 0, 0, 1, 42, 0, 0), (.istore_n 3, 1, 1, 46, 3, 0), (.iconst 0, 2, 1, 42, 0, 0), (.istore 4, 3, 2, 46, 4, 0)]),
  (5, [(.iload 4, 5, 2, 40, 4, 0), (.aload_n 0, 7, 1, 41, 0, 0), (.getfield 29, 8, 3, 43, 1, 5), (.if_icmp .ge 34, 11, 3, 51, 45, 0), (.aload_n 0, 14, 1, 41, 0, 0), (.getfield 18, 15, 3, 43, 1, 4), (.iload 4, 18, 2, 40, 4, 0), (.iaload, 20, 1, 44, 0, 0), (.iload_n 1, 21, 1, 40, 1, 0), (.if_icmp .eq 17, 22, 3, 48, 39, 0), (.aload_n 0, 25, 1, 41, 0, 0), (.iload_n 1, 26, 1, 40, 1, 0), (.iload 4, 27, 2, 40, 4, 0), (.aload_n 2, 29, 1, 41, 2, 0), (.invokevirtual 69, 30, 3, 4, 21, 0), (.ifCond .ne 6, 33, 3, 57, 39, 0), (.iinc 3 1, 36, 3, 47, 3, 1)]),
  (39, [(.iinc 4 1, 39, 3, 47, 4, 1), (.goto (-37), 42, 3, 45, 5, 0)]),
  (45, [(.iload_n 3, 45, 1, 40, 3, 0), (.ireturn, 46, 1, 1, 1, 0)])]
def km_20 : mv_I := (yX1_countWithout, cX1_countWithout, 5, (some .int), 2, 0, 1, [])
def kb_21 : List (Nat × List mv_E) := [(0, [(.aload_n 0, 0, 1, 41, 0, 0), (.getfield 11, 1, 3, 43, 1, 2), (.iload_n 2, 4, 1, 40, 2, 0), (.iaload, 5, 1, 44, 0, 0), (.iconst 4, 6, 1, 42, 4, 0), (.if_icmp .ne 26, 7, 3, 49, 33, 0), (.aload_n 3, 10, 1, 41, 3, 0), (.getfield 63, 11, 3, 43, 5, 6), (.aload_n 0, 14, 1, 41, 0, 0), (.getfield 18, 15, 3, 43, 1, 4), (.iload_n 2, 18, 1, 40, 2, 0), (.iaload, 19, 1, 44, 0, 0), (.iaload, 20, 1, 44, 0, 0), (.iconst 1, 21, 1, 42, 1, 0), (.iload_n 1, 22, 1, 40, 1, 0), (.ishl, 23, 1, 70, 0, 0), (.if_icmp .ne 7, 24, 3, 49, 31, 0), (.iconst 1, 27, 1, 42, 1, 0), (.goto 4, 28, 3, 45, 32, 0)]),
  (31, [(.iconst 0, 31, 1, 42, 0, 0)]),
  (32, [(.ireturn, 32, 1, 1, 2, 0)]),
  (33, [(.aload_n 0, 33, 1, 41, 0, 0), (.getfield 11, 34, 3, 43, 1, 2), (.iload_n 2, 37, 1, 40, 2, 0), (.iaload, 38, 1, 44, 0, 0), (.iconst 5, 39, 1, 42, 5, 0), (.if_icmp .ne 24, 40, 3, 49, 64, 0), (.aload_n 3, 43, 1, 41, 3, 0), (.getfield 66, 44, 3, 43, 5, 7), (.aload_n 0, 47, 1, 41, 0, 0), (.getfield 18, 48, 3, 43, 1, 4), (.iload_n 2, 51, 1, 40, 2, 0), (.iaload, 52, 1, 44, 0, 0), (.iaload, 53, 1, 44, 0, 0), (.iconst 1, 54, 1, 42, 1, 0), (.iload_n 1, 55, 1, 40, 1, 0), (.ishl, 56, 1, 70, 0, 0), (.if_icmp .ne 7, 57, 3, 49, 64, 0), (.iconst 1, 60, 1, 42, 1, 0), (.goto 4, 61, 3, 45, 65, 0)]),
  (64, [(.iconst 0, 64, 1, 42, 0, 0)]),
  (65, [(.ireturn, 65, 1, 1, 2, 0)])]
def km_21 : mv_I := (yX1_isOnlyBecauseOf, cX1_isOnlyBecauseOf, 4, (some .boolean), 3, 0, 1, [])
def kb_22 : List (Nat × List mv_E) := [(0, [(.aload_n 0, 0, 1, 41, 0, 0), (.invokespecial 3, 1, 3, 3, 0, 0), (.aload_n 0, 4, 1, 41, 0, 0), (.sipush 256, 5, 3, 42, 256, 0), (.newarray .int, 8, 2, 86, 0, 0), (.putfield 11, 10, 3, 55, 2, 2), (.aload_n 0, 13, 1, 41, 0, 0), (.sipush 256, 14, 3, 42, 256, 0), (.newarray .int, 17, 2, 86, 0, 0), (.putfield 15, 19, 3, 55, 2, 6), (.aload_n 0, 22, 1, 41, 0, 0), (.sipush 256, 23, 3, 42, 256, 0), (.newarray .int, 26, 2, 86, 0, 0), (.putfield 18, 28, 3, 55, 2, 10), (.aload_n 0, 31, 1, 41, 0, 0), (.sipush 256, 32, 3, 42, 256, 0), (.newarray .int, 35, 2, 86, 0, 0), (.putfield 21, 37, 3, 55, 2, 14), (.aload_n 0, 40, 1, 41, 0, 0), (.sipush 256, 41, 3, 42, 256, 0), (.newarray .int, 44, 2, 86, 0, 0), (.putfield 24, 46, 3, 55, 2, 18), (.aload_n 0, 49, 1, 41, 0, 0), (.sipush 256, 50, 3, 42, 256, 0), (.newarray .int, 53, 2, 86, 0, 0), (.putfield 27, 55, 3, 55, 2, 22), (.aload_n 0, 58, 1, 41, 0, 0), (.sipush 256, 59, 3, 42, 256, 0), (.newarray .int, 62, 2, 86, 0, 0), (.putfield 30, 64, 3, 55, 2, 26), (.aload_n 0, 67, 1, 41, 0, 0), (.sipush 256, 68, 3, 42, 256, 0), (.newarray .int, 71, 2, 86, 0, 0), (.putfield 33, 73, 3, 55, 2, 30), (.aload_n 0, 76, 1, 41, 0, 0), (.bipush 64, 77, 2, 42, 64, 0), (.newarray .int, 79, 2, 86, 0, 0), (.putfield 36, 81, 3, 55, 2, 34), (.aload_n 0, 84, 1, 41, 0, 0), (.getfield 36, 85, 3, 43, 2, 8), (.iconst (-1), 88, 1, 42, 4294967295, 0), (.invokestatic 39, 89, 3, 6, 246, 0), (.aload_n 0, 92, 1, 41, 0, 0), (.iconst 0, 93, 1, 42, 0, 0), (.iconst 0, 94, 1, 42, 0, 0), (.iconst 0, 95, 1, 42, 0, 0), (.iconst 0, 96, 1, 42, 0, 0), (.invokevirtual 45, 97, 3, 4, 23, 0), (.pop, 100, 1, 78, 0, 0), (.aload_n 0, 101, 1, 41, 0, 0), (.iconst 1, 102, 1, 42, 1, 0), (.iconst 0, 103, 1, 42, 0, 0), (.iconst 0, 104, 1, 42, 0, 0), (.iconst 0, 105, 1, 42, 0, 0), (.invokevirtual 45, 106, 3, 4, 23, 0), (.pop, 109, 1, 78, 0, 0), (.aload_n 0, 110, 1, 41, 0, 0), (.iconst 2, 111, 1, 42, 2, 0), (.iconst 0, 112, 1, 42, 0, 0), (.iconst 0, 113, 1, 42, 0, 0), (.iconst 0, 114, 1, 42, 0, 0), (.invokevirtual 45, 115, 3, 4, 23, 0), (.pop, 118, 1, 78, 0, 0), (.aload_n 0, 119, 1, 41, 0, 0), (.iconst 2, 120, 1, 42, 2, 0), (.iconst 1, 121, 1, 42, 1, 0), (.iconst 0, 122, 1, 42, 0, 0), (.iconst 0, 123, 1, 42, 0, 0), (.invokevirtual 45, 124, 3, 4, 23, 0), (.pop, 127, 1, 78, 0, 0), (.aload_n 0, 128, 1, 41, 0, 0), (.iconst 3, 129, 1, 42, 3, 0), (.bipush 14, 130, 2, 42, 14, 0), (.iconst 0, 132, 1, 42, 0, 0), (.iconst 0, 133, 1, 42, 0, 0), (.invokevirtual 45, 134, 3, 4, 23, 0), (.pop, 137, 1, 78, 0, 0), (.return_, 138, 1, 1, 0, 0)])]
def km_22 : mv_I := (yX2_init, cX2_init, 1, none, 0, 2, 2, [])
def kb_23 : List (Nat × List mv_E) := [(0, [(.iload_n 1, 0, 1, 40, 1, 0), (.iload_n 2, 1, 1, 40, 2, 0), (.iload_n 3, 2, 1, 40, 3, 0), (.iload 4, 3, 2, 40, 4, 0), (.invokestatic 49, 5, 3, 6, 25, 0), (.istore 5, 8, 2, 46, 5, 0), (.aload_n 0, 10, 1, 41, 0, 0), (.getfield 36, 11, 3, 43, 2, 8), (.iload 5, 14, 2, 40, 5, 0), (.iaload, 16, 1, 44, 0, 0), (.istore 6, 17, 2, 46, 6, 0)]),
  (19, [(.iload 6, 19, 2, 40, 6, 0), (.ifCond .lt 63, 21, 3, 58, 84, 0), (.aload_n 0, 24, 1, 41, 0, 0), (.getfield 11, 25, 3, 43, 2, 0), (.iload 6, 28, 2, 40, 6, 0), (.iaload, 30, 1, 44, 0, 0), (.iload_n 1, 31, 1, 40, 1, 0), (.if_icmp .ne 40, 32, 3, 49, 72, 0), (.aload_n 0, 35, 1, 41, 0, 0), (.getfield 15, 36, 3, 43, 2, 1), (.iload 6, 39, 2, 40, 6, 0), (.iaload, 41, 1, 44, 0, 0), (.iload_n 2, 42, 1, 40, 2, 0), (.if_icmp .ne 29, 43, 3, 49, 72, 0), (.aload_n 0, 46, 1, 41, 0, 0), (.getfield 18, 47, 3, 43, 2, 2), (.iload 6, 50, 2, 40, 6, 0), (.iaload, 52, 1, 44, 0, 0), (.iload_n 3, 53, 1, 40, 3, 0), (.if_icmp .ne 18, 54, 3, 49, 72, 0), (.aload_n 0, 57, 1, 41, 0, 0), (.getfield 21, 58, 3, 43, 2, 3), (.iload 6, 61, 2, 40, 6, 0), (.iaload, 63, 1, 44, 0, 0), (.iload 4, 64, 2, 40, 4, 0), (.if_icmp .ne 6, 66, 3, 49, 72, 0), (.iload 6, 69, 2, 40, 6, 0), (.ireturn, 71, 1, 1, 1, 0)]),
  (72, [(.aload_n 0, 72, 1, 41, 0, 0), (.getfield 33, 73, 3, 43, 2, 7), (.iload 6, 76, 2, 40, 6, 0), (.iaload, 78, 1, 44, 0, 0), (.istore 6, 79, 2, 46, 6, 0), (.goto (-62), 81, 3, 45, 19, 0)]),
  (84, [(.aload_n 0, 84, 1, 41, 0, 0), (.iload_n 1, 85, 1, 40, 1, 0), (.iload_n 3, 86, 1, 40, 3, 0), (.iload 4, 87, 2, 40, 4, 0), (.invokevirtual 52, 89, 3, 4, 26, 0), (.istore 6, 92, 2, 46, 6, 0), (.aload_n 0, 94, 1, 41, 0, 0), (.getfield 56, 95, 3, 43, 2, 9), (.sipush 256, 98, 3, 42, 256, 0), (.if_icmp .ge 10, 101, 3, 51, 111, 0), (.iload 6, 104, 2, 40, 6, 0), (.bipush 30, 106, 2, 42, 30, 0), (.if_icmp .le 5, 108, 3, 53, 113, 0)]),
  (111, [(.iconst 2, 111, 1, 42, 2, 0), (.ireturn, 112, 1, 1, 1, 0)]),
  (113, [(.aload_n 0, 113, 1, 41, 0, 0), (.dup, 114, 1, 77, 0, 0), (.getfield 56, 115, 3, 43, 2, 9), (.dup_x1, 118, 1, 79, 0, 0), (.iconst 1, 119, 1, 42, 1, 0), (.iadd, 120, 1, 54, 0, 0), (.putfield 56, 121, 3, 55, 2, 36), (.istore 7, 124, 2, 46, 7, 0), (.aload_n 0, 126, 1, 41, 0, 0), (.getfield 11, 127, 3, 43, 2, 0), (.iload 7, 130, 2, 40, 7, 0), (.iload_n 1, 132, 1, 40, 1, 0), (.iastore, 133, 1, 63, 0, 0), (.aload_n 0, 134, 1, 41, 0, 0), (.getfield 15, 135, 3, 43, 2, 1), (.iload 7, 138, 2, 40, 7, 0), (.iload_n 2, 140, 1, 40, 2, 0), (.iastore, 141, 1, 63, 0, 0), (.aload_n 0, 142, 1, 41, 0, 0), (.getfield 18, 143, 3, 43, 2, 2), (.iload 7, 146, 2, 40, 7, 0), (.iload_n 3, 148, 1, 40, 3, 0), (.iastore, 149, 1, 63, 0, 0), (.aload_n 0, 150, 1, 41, 0, 0), (.getfield 21, 151, 3, 43, 2, 3), (.iload 7, 154, 2, 40, 7, 0), (.iload 4, 156, 2, 40, 4, 0), (.iastore, 158, 1, 63, 0, 0), (.aload_n 0, 159, 1, 41, 0, 0), (.getfield 24, 160, 3, 43, 2, 4), (.iload 7, 163, 2, 40, 7, 0), (.iload 6, 165, 2, 40, 6, 0), (.iastore, 167, 1, 63, 0, 0), (.aload_n 0, 168, 1, 41, 0, 0), (.getfield 27, 169, 3, 43, 2, 5), (.iload 7, 172, 2, 40, 7, 0), (.aload_n 0, 174, 1, 41, 0, 0), (.iload_n 1, 175, 1, 40, 1, 0), (.iload_n 2, 176, 1, 40, 2, 0), (.iload_n 3, 177, 1, 40, 3, 0), (.iload 4, 178, 2, 40, 4, 0), (.invokevirtual 60, 180, 3, 4, 27, 0), (.iastore, 183, 1, 63, 0, 0), (.aload_n 0, 184, 1, 41, 0, 0), (.getfield 30, 185, 3, 43, 2, 6), (.iload 7, 188, 2, 40, 7, 0), (.aload_n 0, 190, 1, 41, 0, 0), (.iload_n 1, 191, 1, 40, 1, 0), (.iload_n 2, 192, 1, 40, 2, 0), (.iload_n 3, 193, 1, 40, 3, 0), (.iload 4, 194, 2, 40, 4, 0), (.invokevirtual 63, 196, 3, 4, 28, 0), (.iastore, 199, 1, 63, 0, 0), (.aload_n 0, 200, 1, 41, 0, 0), (.getfield 33, 201, 3, 43, 2, 7), (.iload 7, 204, 2, 40, 7, 0), (.aload_n 0, 206, 1, 41, 0, 0), (.getfield 36, 207, 3, 43, 2, 8), (.iload 5, 210, 2, 40, 5, 0), (.iaload, 212, 1, 44, 0, 0), (.iastore, 213, 1, 63, 0, 0), (.aload_n 0, 214, 1, 41, 0, 0), (.getfield 36, 215, 3, 43, 2, 8), (.iload 5, 218, 2, 40, 5, 0), (.iload 7, 220, 2, 40, 7, 0), (.iastore, 222, 1, 63, 0, 0), (.iload 7, 223, 2, 40, 7, 0), (.ireturn, 225, 1, 1, 1, 0)])]
def km_23 : mv_I := (yX2_make, cX2_make, 8, (some .int), 4, 0, 2, [])
def kb_24 : List (Nat × List mv_E) := [(0, [(.aload_n 0, 0, 1, 41, 0, 0), (.getfield 56, 1, 3, 43, 2, 9), (.iload_n 1, 4, 1, 40, 1, 0), (.if_icmp .le 76, 5, 3, 53, 81, 0), (.aload_n 0, 8, 1, 41, 0, 0), (.getfield 56, 9, 3, 43, 2, 9), (.ifCond .le 69, 12, 3, 61, 81, 0), (.aload_n 0, 15, 1, 41, 0, 0), (.dup, 16, 1, 77, 0, 0), (.getfield 56, 17, 3, 43, 2, 9), (.iconst 1, 20, 1, 42, 1, 0), (.isub, 21, 1, 67, 0, 0), (.putfield 56, 22, 3, 55, 2, 36), (.aload_n 0, 25, 1, 41, 0, 0), (.getfield 36, 26, 3, 43, 2, 8), (.aload_n 0, 29, 1, 41, 0, 0), (.getfield 11, 30, 3, 43, 2, 0), (.aload_n 0, 33, 1, 41, 0, 0), (.getfield 56, 34, 3, 43, 2, 9), (.iaload, 37, 1, 44, 0, 0), (.aload_n 0, 38, 1, 41, 0, 0), (.getfield 15, 39, 3, 43, 2, 1), (.aload_n 0, 42, 1, 41, 0, 0), (.getfield 56, 43, 3, 43, 2, 9), (.iaload, 46, 1, 44, 0, 0), (.aload_n 0, 47, 1, 41, 0, 0), (.getfield 18, 48, 3, 43, 2, 2), (.aload_n 0, 51, 1, 41, 0, 0), (.getfield 56, 52, 3, 43, 2, 9), (.iaload, 55, 1, 44, 0, 0), (.aload_n 0, 56, 1, 41, 0, 0), (.getfield 21, 57, 3, 43, 2, 3), (.aload_n 0, 60, 1, 41, 0, 0), (.getfield 56, 61, 3, 43, 2, 9), (.iaload, 64, 1, 44, 0, 0), (.invokestatic 49, 65, 3, 6, 25, 0), (.aload_n 0, 68, 1, 41, 0, 0), (.getfield 33, 69, 3, 43, 2, 7), (.aload_n 0, 72, 1, 41, 0, 0), (.getfield 56, 73, 3, 43, 2, 9), (.iaload, 76, 1, 44, 0, 0), (.iastore, 77, 1, 63, 0, 0), (.goto (-78), 78, 3, 45, 0, 0)]),
  (81, [(.return_, 81, 1, 1, 0, 0)])]
def km_24 : mv_I := (yX2_release, cX2_release, 2, none, 1, 0, 2, [])
def kb_25 : List (Nat × List mv_E) := [(0, [(.iload_n 0, 0, 1, 40, 0, 0), (.bipush 31, 1, 2, 42, 31, 0), (.imul, 3, 1, 62, 0, 0), (.iload_n 1, 4, 1, 40, 1, 0), (.iadd, 5, 1, 54, 0, 0), (.bipush 31, 6, 2, 42, 31, 0), (.imul, 8, 1, 62, 0, 0), (.iload_n 2, 9, 1, 40, 2, 0), (.iadd, 10, 1, 54, 0, 0), (.bipush 31, 11, 2, 42, 31, 0), (.imul, 13, 1, 62, 0, 0), (.iload_n 3, 14, 1, 40, 3, 0), (.iadd, 15, 1, 54, 0, 0), (.bipush 63, 16, 2, 42, 63, 0), (.iand, 18, 1, 64, 0, 0), (.ireturn, 19, 1, 1, 1, 0)])]
def km_25 : mv_I := (yX2_chain, cX2_chain, 4, (some .int), 4, 1, 2, [])
def kb_26 : List (Nat × List mv_E) := [(0, [(.iload_n 1, 0, 1, 40, 1, 0), (.iconst 5, 1, 1, 42, 5, 0), (.if_icmp .ne 12, 2, 3, 49, 14, 0), (.iconst 1, 5, 1, 42, 1, 0), (.aload_n 0, 6, 1, 41, 0, 0), (.getfield 24, 7, 3, 43, 2, 4), (.iload_n 2, 10, 1, 40, 2, 0), (.iaload, 11, 1, 44, 0, 0), (.iadd, 12, 1, 54, 0, 0), (.ireturn, 13, 1, 1, 1, 0)]),
  (14, [(.iconst 0, 14, 1, 42, 0, 0), (.istore 4, 15, 2, 46, 4, 0), (.iload_n 1, 17, 1, 40, 1, 0), (.iconst 2, 18, 1, 42, 2, 0), (.if_icmp .ne 17, 19, 3, 49, 36, 0), (.iload_n 2, 22, 1, 40, 2, 0), (.ifCond .le 13, 23, 3, 61, 36, 0), (.aload_n 0, 26, 1, 41, 0, 0), (.getfield 24, 27, 3, 43, 2, 4), (.iload_n 2, 30, 1, 40, 2, 0), (.iconst 3, 31, 1, 42, 3, 0), (.idiv, 32, 1, 68, 0, 0), (.iaload, 33, 1, 44, 0, 0), (.istore 4, 34, 2, 46, 4, 0)]),
  (36, [(.iload_n 1, 36, 1, 40, 1, 0), (.iconst 2, 37, 1, 42, 2, 0), (.if_icmp .ne 30, 38, 3, 49, 68, 0), (.iload_n 3, 41, 1, 40, 3, 0), (.ifCond .le 26, 42, 3, 61, 68, 0), (.aload_n 0, 45, 1, 41, 0, 0), (.getfield 24, 46, 3, 43, 2, 4), (.iload_n 3, 49, 1, 40, 3, 0), (.iconst 3, 50, 1, 42, 3, 0), (.idiv, 51, 1, 68, 0, 0), (.iaload, 52, 1, 44, 0, 0), (.iload 4, 53, 2, 40, 4, 0), (.if_icmp .le 13, 55, 3, 53, 68, 0), (.aload_n 0, 58, 1, 41, 0, 0), (.getfield 24, 59, 3, 43, 2, 4), (.iload_n 3, 62, 1, 40, 3, 0), (.iconst 3, 63, 1, 42, 3, 0), (.idiv, 64, 1, 68, 0, 0), (.iaload, 65, 1, 44, 0, 0), (.istore 4, 66, 2, 46, 4, 0)]),
  (68, [(.iconst 1, 68, 1, 42, 1, 0), (.iload 4, 69, 2, 40, 4, 0), (.iadd, 71, 1, 54, 0, 0), (.ireturn, 72, 1, 1, 1, 0)])]
def km_26 : mv_I := (yX2_deepOf, cX2_deepOf, 5, (some .int), 3, 0, 2, [])
def kb_27 : List (Nat × List mv_E) := [(0, [(.iload_n 1, 0, 1, 40, 1, 0), (.tableswitch 69 0 5 #[39, 41, 69, 43, 45, 54], 1, 39, 97, 0, 0)]),
  (40, [(.iconst 1, 40, 1, 42, 1, 0), (.ireturn, 41, 1, 1, 1, 0)]),
  (42, [(.iconst 2, 42, 1, 42, 2, 0), (.ireturn, 43, 1, 1, 1, 0)]),
  (44, [(.iconst 3, 44, 1, 42, 3, 0), (.ireturn, 45, 1, 1, 1, 0)]),
  (46, [(.bipush 10, 46, 2, 42, 10, 0), (.iconst 2, 48, 1, 42, 2, 0), (.iload_n 2, 49, 1, 40, 2, 0), (.imul, 50, 1, 62, 0, 0), (.iadd, 51, 1, 54, 0, 0), (.iload_n 3, 52, 1, 40, 3, 0), (.iadd, 53, 1, 54, 0, 0), (.ireturn, 54, 1, 1, 1, 0)]),
  (55, [(.bipush 17, 55, 2, 42, 17, 0), (.aload_n 0, 57, 1, 41, 0, 0), (.getfield 27, 58, 3, 43, 2, 5), (.iload_n 3, 61, 1, 40, 3, 0), (.iaload, 62, 1, 44, 0, 0), (.imul, 63, 1, 62, 0, 0), (.iconst 5, 64, 1, 42, 5, 0), (.iadd, 65, 1, 54, 0, 0), (.ldc 66, 66, 2, 42, 99991, 0), (.irem, 68, 1, 69, 0, 0), (.ireturn, 69, 1, 1, 1, 0)]),
  (70, [(.bipush 50, 70, 2, 42, 50, 0), (.iload_n 2, 72, 1, 40, 2, 0), (.iadd, 73, 1, 54, 0, 0), (.istore 5, 74, 2, 46, 5, 0), (.iconst 0, 76, 1, 42, 0, 0), (.istore 6, 77, 2, 46, 6, 0)]),
  (79, [(.iload 6, 79, 2, 40, 6, 0), (.iconst 2, 81, 1, 42, 2, 0), (.if_icmp .ge 72, 82, 3, 51, 154, 0), (.iload 6, 85, 2, 40, 6, 0), (.ifCond .ne 7, 87, 3, 57, 94, 0), (.iload_n 3, 90, 1, 40, 3, 0), (.goto 5, 91, 3, 45, 96, 0)]),
  (94, [(.iload 4, 94, 2, 40, 4, 0)]),
  (96, [(.istore 7, 96, 2, 46, 7, 0), (.iload 7, 98, 2, 40, 7, 0), (.ifCond .eq 48, 100, 3, 56, 148, 0), (.iload 7, 103, 2, 40, 7, 0), (.iconst (-1), 105, 1, 42, 4294967295, 0), (.if_icmp .ne 8, 106, 3, 49, 114, 0), (.bipush 7, 109, 2, 42, 7, 0), (.goto 22, 111, 3, 45, 133, 0)]),
  (114, [(.bipush 8, 114, 2, 42, 8, 0), (.iconst 3, 116, 1, 42, 3, 0), (.aload_n 0, 117, 1, 41, 0, 0), (.getfield 27, 118, 3, 43, 2, 5), (.iload 7, 121, 2, 40, 7, 0), (.iconst 3, 123, 1, 42, 3, 0), (.idiv, 124, 1, 68, 0, 0), (.iaload, 125, 1, 44, 0, 0), (.imul, 126, 1, 62, 0, 0), (.iadd, 127, 1, 54, 0, 0), (.iload 7, 128, 2, 40, 7, 0), (.iconst 3, 130, 1, 42, 3, 0), (.irem, 131, 1, 69, 0, 0), (.iadd, 132, 1, 54, 0, 0)]),
  (133, [(.istore 8, 133, 2, 46, 8, 0), (.bipush 31, 135, 2, 42, 31, 0), (.iload 5, 137, 2, 40, 5, 0), (.imul, 139, 1, 62, 0, 0), (.iload 8, 140, 2, 40, 8, 0), (.iadd, 142, 1, 54, 0, 0), (.ldc 66, 143, 2, 42, 99991, 0), (.irem, 145, 1, 69, 0, 0), (.istore 5, 146, 2, 46, 5, 0)]),
  (148, [(.iinc 6 1, 148, 3, 47, 6, 1), (.goto (-72), 151, 3, 45, 79, 0)]),
  (154, [(.iload 5, 154, 2, 40, 5, 0), (.ireturn, 156, 1, 1, 1, 0)])]
def km_27 : mv_I := (yX2_codeOf, cX2_codeOf, 9, (some .int), 4, 0, 2, [])
def kb_28 : List (Nat × List mv_E) := [(0, [(.iload_n 1, 0, 1, 40, 1, 0), (.tableswitch 78 2 5 #[35, 31, 31, 71], 1, 31, 97, 0, 0)]),
  (32, [(.iconst 1, 32, 1, 42, 1, 0), (.iload_n 2, 33, 1, 40, 2, 0), (.ishl, 34, 1, 70, 0, 0), (.ireturn, 35, 1, 1, 1, 0)]),
  (36, [(.iload_n 3, 36, 1, 40, 3, 0), (.ifCond .le 14, 37, 3, 61, 51, 0), (.aload_n 0, 40, 1, 41, 0, 0), (.getfield 30, 41, 3, 43, 2, 6), (.iload_n 3, 44, 1, 40, 3, 0), (.iconst 3, 45, 1, 42, 3, 0), (.idiv, 46, 1, 68, 0, 0), (.iaload, 47, 1, 44, 0, 0), (.goto 4, 48, 3, 45, 52, 0)]),
  (51, [(.iconst 0, 51, 1, 42, 0, 0)]),
  (52, [(.iload 4, 52, 2, 40, 4, 0), (.ifCond .le 15, 54, 3, 61, 69, 0), (.aload_n 0, 57, 1, 41, 0, 0), (.getfield 30, 58, 3, 43, 2, 6), (.iload 4, 61, 2, 40, 4, 0), (.iconst 3, 63, 1, 42, 3, 0), (.idiv, 64, 1, 68, 0, 0), (.iaload, 65, 1, 44, 0, 0), (.goto 4, 66, 3, 45, 70, 0)]),
  (69, [(.iconst 0, 69, 1, 42, 0, 0)]),
  (70, [(.ior, 70, 1, 65, 0, 0), (.ireturn, 71, 1, 1, 1, 0)]),
  (72, [(.aload_n 0, 72, 1, 41, 0, 0), (.getfield 30, 73, 3, 43, 2, 6), (.iload_n 3, 76, 1, 40, 3, 0), (.iaload, 77, 1, 44, 0, 0), (.ireturn, 78, 1, 1, 1, 0)]),
  (79, [(.iconst 0, 79, 1, 42, 0, 0), (.ireturn, 80, 1, 1, 1, 0)])]
def km_28 : mv_I := (yX2_ownersOf, cX2_ownersOf, 5, (some .int), 4, 0, 2, [])
def kb_29 : List (Nat × List mv_E) := [(0, [(.aload_n 0, 0, 1, 41, 0, 0), (.getfield 30, 1, 3, 43, 2, 6), (.iload_n 1, 4, 1, 40, 1, 0), (.iaload, 5, 1, 44, 0, 0), (.iload_n 2, 6, 1, 40, 2, 0), (.ishr, 7, 1, 71, 0, 0), (.iconst 1, 8, 1, 42, 1, 0), (.iand, 9, 1, 64, 0, 0), (.ifCond .eq 10, 10, 3, 56, 20, 0), (.iload 5, 13, 2, 40, 5, 0), (.bipush 30, 15, 2, 42, 30, 0), (.if_icmp .le 5, 17, 3, 53, 22, 0)]),
  (20, [(.iload_n 1, 20, 1, 40, 1, 0), (.ireturn, 21, 1, 1, 1, 0)]),
  (22, [(.aload_n 0, 22, 1, 41, 0, 0), (.getfield 11, 23, 3, 43, 2, 0), (.iload_n 1, 26, 1, 40, 1, 0), (.iaload, 27, 1, 44, 0, 0), (.lookupswitch 98 #[(2, 28), (5, 72)], 28, 28, 97, 0, 0)]),
  (56, [(.aload_n 0, 56, 1, 41, 0, 0), (.iconst 2, 57, 1, 42, 2, 0), (.aload_n 0, 58, 1, 41, 0, 0), (.getfield 15, 59, 3, 43, 2, 1), (.iload_n 1, 62, 1, 40, 1, 0), (.iaload, 63, 1, 44, 0, 0), (.aload_n 0, 64, 1, 41, 0, 0), (.aload_n 0, 65, 1, 41, 0, 0), (.getfield 18, 66, 3, 43, 2, 2), (.iload_n 1, 69, 1, 40, 1, 0), (.iaload, 70, 1, 44, 0, 0), (.iload_n 2, 71, 1, 40, 2, 0), (.iload_n 3, 72, 1, 40, 3, 0), (.iload 4, 73, 2, 40, 4, 0), (.iload 5, 75, 2, 40, 5, 0), (.invokevirtual 67, 77, 3, 4, 30, 0), (.aload_n 0, 80, 1, 41, 0, 0), (.aload_n 0, 81, 1, 41, 0, 0), (.getfield 21, 82, 3, 43, 2, 3), (.iload_n 1, 85, 1, 40, 1, 0), (.iaload, 86, 1, 44, 0, 0), (.iload_n 2, 87, 1, 40, 2, 0), (.iload_n 3, 88, 1, 40, 3, 0), (.iload 4, 89, 2, 40, 4, 0), (.iload 5, 91, 2, 40, 5, 0), (.invokevirtual 67, 93, 3, 4, 30, 0), (.invokevirtual 45, 96, 3, 4, 23, 0), (.ireturn, 99, 1, 1, 1, 0)]),
  (100, [(.aload_n 0, 100, 1, 41, 0, 0), (.iconst 5, 101, 1, 42, 5, 0), (.iconst 0, 102, 1, 42, 0, 0), (.aload_n 0, 103, 1, 41, 0, 0), (.aload_n 0, 104, 1, 41, 0, 0), (.getfield 18, 105, 3, 43, 2, 2), (.iload_n 1, 108, 1, 40, 1, 0), (.iaload, 109, 1, 44, 0, 0), (.iload_n 2, 110, 1, 40, 2, 0), (.iload_n 3, 111, 1, 40, 3, 0), (.iload 4, 112, 2, 40, 4, 0), (.iload 5, 114, 2, 40, 5, 0), (.iconst 1, 116, 1, 42, 1, 0), (.iadd, 117, 1, 54, 0, 0), (.invokevirtual 71, 118, 3, 4, 29, 0), (.iconst 0, 121, 1, 42, 0, 0), (.invokevirtual 45, 122, 3, 4, 23, 0), (.ireturn, 125, 1, 1, 1, 0)]),
  (126, [(.aload_n 0, 126, 1, 41, 0, 0), (.getfield 18, 127, 3, 43, 2, 2), (.iload_n 1, 130, 1, 40, 1, 0), (.iaload, 131, 1, 44, 0, 0), (.ifCond .ne 7, 132, 3, 57, 139, 0), (.iload_n 3, 135, 1, 40, 3, 0), (.goto 5, 136, 3, 45, 141, 0)]),
  (139, [(.iload 4, 139, 2, 40, 4, 0)]),
  (141, [(.istore 6, 141, 2, 46, 6, 0), (.iload 6, 143, 2, 40, 6, 0), (.ifCond .le 18, 145, 3, 61, 163, 0), (.iload 6, 148, 2, 40, 6, 0), (.iconst 3, 150, 1, 42, 3, 0), (.irem, 151, 1, 69, 0, 0), (.iconst 2, 152, 1, 42, 2, 0), (.if_icmp .eq 10, 153, 3, 48, 163, 0), (.iload 6, 156, 2, 40, 6, 0), (.iconst 3, 158, 1, 42, 3, 0), (.idiv, 159, 1, 68, 0, 0), (.goto 4, 160, 3, 45, 164, 0)]),
  (163, [(.iconst 2, 163, 1, 42, 2, 0)]),
  (164, [(.ireturn, 164, 1, 1, 1, 0)])]
def km_29 : mv_I := (yX2_put, cX2_put, 7, (some .int), 5, 0, 2, [])
def kb_30 : List (Nat × List mv_E) := [(0, [(.iload_n 1, 0, 1, 40, 1, 0), (.ifCond .gt 5, 1, 3, 60, 6, 0), (.iload_n 1, 4, 1, 40, 1, 0), (.ireturn, 5, 1, 1, 1, 0)]),
  (6, [(.iload_n 1, 6, 1, 40, 1, 0), (.iconst 3, 7, 1, 42, 3, 0), (.idiv, 8, 1, 68, 0, 0), (.istore 6, 9, 2, 46, 6, 0), (.iload_n 1, 11, 1, 40, 1, 0), (.iconst 3, 12, 1, 42, 3, 0), (.irem, 13, 1, 69, 0, 0), (.istore 7, 14, 2, 46, 7, 0), (.aload_n 0, 16, 1, 41, 0, 0), (.getfield 11, 17, 3, 43, 2, 0), (.iload 6, 20, 2, 40, 6, 0), (.iaload, 22, 1, 44, 0, 0), (.iconst 4, 23, 1, 42, 4, 0), (.if_icmp .eq 14, 24, 3, 48, 38, 0), (.aload_n 0, 27, 1, 41, 0, 0), (.getfield 11, 28, 3, 43, 2, 0), (.iload 6, 31, 2, 40, 6, 0), (.iaload, 33, 1, 44, 0, 0), (.iconst 3, 34, 1, 42, 3, 0), (.if_icmp .ne 7, 35, 3, 49, 42, 0)]),
  (38, [(.iconst 1, 38, 1, 42, 1, 0), (.goto 4, 39, 3, 45, 43, 0)]),
  (42, [(.iconst 0, 42, 1, 42, 0, 0)]),
  (43, [(.istore 8, 43, 2, 46, 8, 0), (.iload 8, 45, 2, 40, 8, 0), (.ifCond .eq 36, 47, 3, 56, 83, 0), (.aload_n 0, 50, 1, 41, 0, 0), (.getfield 15, 51, 3, 43, 2, 1), (.iload 6, 54, 2, 40, 6, 0), (.iaload, 56, 1, 44, 0, 0), (.iload_n 2, 57, 1, 40, 2, 0), (.if_icmp .ne 25, 58, 3, 49, 83, 0), (.iload 7, 61, 2, 40, 7, 0), (.ifCond .ne 20, 63, 3, 57, 83, 0), (.aload_n 0, 66, 1, 41, 0, 0), (.getfield 18, 67, 3, 43, 2, 2), (.iload 6, 70, 2, 40, 6, 0), (.iaload, 72, 1, 44, 0, 0), (.ifCond .ne 7, 73, 3, 57, 80, 0), (.iload_n 3, 76, 1, 40, 3, 0), (.goto 5, 77, 3, 45, 82, 0)]),
  (80, [(.iload 4, 80, 2, 40, 4, 0)]),
  (82, [(.ireturn, 82, 1, 1, 1, 0)]),
  (83, [(.iconst 3, 83, 1, 42, 3, 0), (.aload_n 0, 84, 1, 41, 0, 0), (.iload 6, 85, 2, 40, 6, 0), (.iload_n 2, 87, 1, 40, 2, 0), (.iload_n 3, 88, 1, 40, 3, 0), (.iload 4, 89, 2, 40, 4, 0), (.iload 5, 91, 2, 40, 5, 0), (.iconst 1, 93, 1, 42, 1, 0), (.iadd, 94, 1, 54, 0, 0), (.invokevirtual 71, 95, 3, 4, 29, 0), (.imul, 98, 1, 62, 0, 0), (.iload 7, 99, 2, 40, 7, 0), (.iadd, 101, 1, 54, 0, 0), (.ireturn, 102, 1, 1, 1, 0)])]
def km_30 : mv_I := (yX2_putIntoArgument, cX2_putIntoArgument, 9, (some .int), 5, 0, 2, [])
def kb_31 : List (Nat × List mv_E) := [(0, [(.aload_n 0, 0, 1, 41, 0, 0), (.invokespecial 3, 1, 3, 3, 0, 0), (.aload_n 0, 4, 1, 41, 0, 0), (.bipush 14, 5, 2, 42, 14, 0), (.newarray .int, 7, 2, 86, 0, 0), (.putfield 9, 9, 3, 55, 3, 6), (.aload_n 0, 12, 1, 41, 0, 0), (.bipush 28, 13, 2, 42, 28, 0), (.newarray .int, 15, 2, 86, 0, 0), (.putfield 15, 17, 3, 55, 3, 10), (.aload_n 0, 20, 1, 41, 0, 0), (.bipush 28, 21, 2, 42, 28, 0), (.newarray .int, 23, 2, 86, 0, 0), (.putfield 18, 25, 3, 55, 3, 14), (.aload_n 0, 28, 1, 41, 0, 0), (.bipush 14, 29, 2, 42, 14, 0), (.newarray .int, 31, 2, 86, 0, 0), (.putfield 21, 33, 3, 55, 3, 18), (.aload_n 0, 36, 1, 41, 0, 0), (.bipush 42, 37, 2, 42, 42, 0), (.newarray .int, 39, 2, 86, 0, 0), (.putfield 24, 41, 3, 55, 3, 22), (.aload_n 0, 44, 1, 41, 0, 0), (.bipush 14, 45, 2, 42, 14, 0), (.newarray .int, 47, 2, 86, 0, 0), (.putfield 27, 49, 3, 55, 3, 26), (.aload_n 0, 52, 1, 41, 0, 0), (.sipush 392, 53, 3, 42, 392, 0), (.newarray .int, 56, 2, 86, 0, 0), (.putfield 30, 58, 3, 55, 3, 30), (.aload_n 0, 61, 1, 41, 0, 0), (.aload_n 1, 62, 1, 41, 1, 0), (.putfield 33, 63, 3, 55, 3, 2), (.aload_n 0, 66, 1, 41, 0, 0), (.getfield 18, 67, 3, 43, 3, 3), (.iconst 2, 70, 1, 42, 2, 0), (.invokestatic 37, 71, 3, 6, 246, 0), (.aload_n 0, 74, 1, 41, 0, 0), (.getfield 24, 75, 3, 43, 3, 5), (.iconst 2, 78, 1, 42, 2, 0), (.invokestatic 37, 79, 3, 6, 246, 0), (.aload_n 0, 82, 1, 41, 0, 0), (.iconst (-1), 83, 1, 42, 4294967295, 0), (.iconst (-1), 84, 1, 42, 4294967295, 0), (.iconst 0, 85, 1, 42, 0, 0), (.invokevirtual 43, 86, 3, 4, 32, 0), (.pop, 89, 1, 78, 0, 0), (.aload_n 0, 90, 1, 41, 0, 0), (.iconst (-1), 91, 1, 42, 4294967295, 0), (.iconst (-1), 92, 1, 42, 4294967295, 0), (.iconst 0, 93, 1, 42, 0, 0), (.invokevirtual 43, 94, 3, 4, 32, 0), (.pop, 97, 1, 78, 0, 0), (.return_, 98, 1, 1, 0, 0)])]
def km_31 : mv_I := (yX3_init, cX3_init, 2, none, 1, 2, 3, [])
def kb_32 : List (Nat × List mv_E) := [(0, [(.aload_n 0, 0, 1, 41, 0, 0), (.dup, 1, 1, 77, 0, 0), (.getfield 47, 2, 3, 43, 3, 9), (.dup_x1, 5, 1, 79, 0, 0), (.iconst 1, 6, 1, 42, 1, 0), (.iadd, 7, 1, 54, 0, 0), (.putfield 47, 8, 3, 55, 3, 36), (.istore 4, 11, 2, 46, 4, 0), (.aload_n 0, 13, 1, 41, 0, 0), (.getfield 9, 14, 3, 43, 3, 1), (.iload 4, 17, 2, 40, 4, 0), (.iload_n 1, 19, 1, 40, 1, 0), (.iconst (-1), 20, 1, 42, 4294967295, 0), (.if_icmp .ne 7, 21, 3, 49, 28, 0), (.iconst 0, 24, 1, 42, 0, 0), (.goto 13, 25, 3, 45, 38, 0)]),
  (28, [(.iload_n 2, 28, 1, 40, 2, 0), (.iconst (-1), 29, 1, 42, 4294967295, 0), (.if_icmp .ne 7, 30, 3, 49, 37, 0), (.iconst 1, 33, 1, 42, 1, 0), (.goto 4, 34, 3, 45, 38, 0)]),
  (37, [(.iconst 2, 37, 1, 42, 2, 0)]),
  (38, [(.iastore, 38, 1, 63, 0, 0), (.aload_n 0, 39, 1, 41, 0, 0), (.getfield 15, 40, 3, 43, 3, 2), (.iconst 2, 43, 1, 42, 2, 0), (.iload 4, 44, 2, 40, 4, 0), (.imul, 46, 1, 62, 0, 0), (.iload_n 1, 47, 1, 40, 1, 0), (.iconst 0, 48, 1, 42, 0, 0), (.invokestatic 51, 49, 3, 6, 245, 0), (.iastore, 52, 1, 63, 0, 0), (.aload_n 0, 53, 1, 41, 0, 0), (.getfield 15, 54, 3, 43, 3, 2), (.iconst 2, 57, 1, 42, 2, 0), (.iload 4, 58, 2, 40, 4, 0), (.imul, 60, 1, 62, 0, 0), (.iconst 1, 61, 1, 42, 1, 0), (.iadd, 62, 1, 54, 0, 0), (.iload_n 2, 63, 1, 40, 2, 0), (.iconst 0, 64, 1, 42, 0, 0), (.invokestatic 51, 65, 3, 6, 245, 0), (.iastore, 68, 1, 63, 0, 0), (.iload_n 3, 69, 1, 40, 3, 0), (.ifCond .eq 16, 70, 3, 56, 86, 0), (.aload_n 0, 73, 1, 41, 0, 0), (.dup, 74, 1, 77, 0, 0), (.getfield 57, 75, 3, 43, 3, 8), (.iconst 1, 78, 1, 42, 1, 0), (.iload 4, 79, 2, 40, 4, 0), (.ishl, 81, 1, 70, 0, 0), (.ior, 82, 1, 65, 0, 0), (.putfield 57, 83, 3, 55, 3, 32)]),
  (86, [(.aload_n 0, 86, 1, 41, 0, 0), (.iload 4, 87, 2, 40, 4, 0), (.invokevirtual 60, 89, 3, 4, 39, 0), (.iload 4, 92, 2, 40, 4, 0), (.ireturn, 94, 1, 1, 1, 0)])]
def km_32 : mv_I := (yX3_add, cX3_add, 5, (some .int), 3, 0, 3, [])
def kb_33 : List (Nat × List mv_E) := [(0, [(.aload_n 0, 0, 1, 41, 0, 0), (.getfield 24, 1, 3, 43, 3, 5), (.iconst 3, 4, 1, 42, 3, 0), (.iload_n 1, 5, 1, 40, 1, 0), (.imul, 6, 1, 62, 0, 0), (.aload_n 0, 7, 1, 41, 0, 0), (.getfield 21, 8, 3, 43, 3, 4), (.iload_n 1, 11, 1, 40, 1, 0), (.iaload, 12, 1, 44, 0, 0), (.iadd, 13, 1, 54, 0, 0), (.iload_n 2, 14, 1, 40, 2, 0), (.iastore, 15, 1, 63, 0, 0), (.aload_n 0, 16, 1, 41, 0, 0), (.getfield 21, 17, 3, 43, 3, 4), (.iload_n 1, 20, 1, 40, 1, 0), (.dup2, 21, 1, 80, 0, 0), (.iaload, 22, 1, 44, 0, 0), (.iconst 1, 23, 1, 42, 1, 0), (.iadd, 24, 1, 54, 0, 0), (.iastore, 25, 1, 63, 0, 0), (.iload_n 1, 26, 1, 40, 1, 0), (.istore_n 3, 27, 1, 46, 3, 0)]),
  (28, [(.iload_n 3, 28, 1, 40, 3, 0), (.aload_n 0, 29, 1, 41, 0, 0), (.getfield 47, 30, 3, 43, 3, 9), (.if_icmp .ge 14, 33, 3, 51, 47, 0), (.aload_n 0, 36, 1, 41, 0, 0), (.iload_n 3, 37, 1, 40, 3, 0), (.invokevirtual 60, 38, 3, 4, 39, 0), (.iinc 3 1, 41, 3, 47, 3, 1), (.goto (-16), 44, 3, 45, 28, 0)]),
  (47, [(.return_, 47, 1, 1, 0, 0)])]
def km_33 : mv_I := (yX3_lengthen, cX3_lengthen, 4, none, 2, 0, 3, [])
def kb_34 : List (Nat × List mv_E) := [(0, [(.iload_n 1, 0, 1, 40, 1, 0), (.ifCond .ne 7, 1, 3, 57, 8, 0), (.iconst 0, 4, 1, 42, 0, 0), (.goto 13, 5, 3, 45, 18, 0)]),
  (8, [(.aload_n 0, 8, 1, 41, 0, 0), (.getfield 21, 9, 3, 43, 3, 4), (.iload_n 1, 12, 1, 40, 1, 0), (.iaload, 13, 1, 44, 0, 0), (.iconst 1, 14, 1, 42, 1, 0), (.invokestatic 51, 15, 3, 6, 245, 0)]),
  (18, [(.ireturn, 18, 1, 1, 1, 0)])]
def km_34 : mv_I := (yX3_extendedCount, cX3_extendedCount, 2, (some .int), 1, 0, 3, [])
def kb_35 : List (Nat × List mv_E) := [(0, [(.aload_n 0, 0, 1, 41, 0, 0), (.getfield 24, 1, 3, 43, 3, 5), (.iconst 3, 4, 1, 42, 3, 0), (.iload_n 1, 5, 1, 40, 1, 0), (.imul, 6, 1, 62, 0, 0), (.iload_n 2, 7, 1, 40, 2, 0), (.iadd, 8, 1, 54, 0, 0), (.iaload, 9, 1, 44, 0, 0), (.ireturn, 10, 1, 1, 1, 0)])]
def km_35 : mv_I := (yX3_extendedAt, cX3_extendedAt, 3, (some .int), 2, 0, 3, [])
def kb_36 : List (Nat × List mv_E) := [(0, [(.iconst 0, 0, 1, 42, 0, 0), (.istore_n 3, 1, 1, 46, 3, 0)]),
  (2, [(.iload_n 3, 2, 1, 40, 3, 0), (.aload_n 0, 3, 1, 41, 0, 0), (.getfield 21, 4, 3, 43, 3, 4), (.iload_n 1, 7, 1, 40, 1, 0), (.iaload, 8, 1, 44, 0, 0), (.if_icmp .ge 29, 9, 3, 51, 38, 0), (.aload_n 0, 12, 1, 41, 0, 0), (.getfield 33, 13, 3, 43, 3, 0), (.getfield 64, 16, 3, 43, 2, 1), (.aload_n 0, 19, 1, 41, 0, 0), (.iload_n 1, 20, 1, 40, 1, 0), (.iload_n 3, 21, 1, 40, 3, 0), (.invokevirtual 69, 22, 3, 4, 35, 0), (.iaload, 25, 1, 44, 0, 0), (.iload_n 2, 26, 1, 40, 2, 0), (.if_icmp .ne 5, 27, 3, 49, 32, 0), (.iconst 1, 30, 1, 42, 1, 0), (.ireturn, 31, 1, 1, 2, 0)]),
  (32, [(.iinc 3 1, 32, 3, 47, 3, 1), (.goto (-33), 35, 3, 45, 2, 0)]),
  (38, [(.iconst 0, 38, 1, 42, 0, 0), (.ireturn, 39, 1, 1, 2, 0)])]
def km_36 : mv_I := (yX3_isToldOf, cX3_isToldOf, 4, (some .boolean), 2, 0, 3, [])
def kb_37 : List (Nat × List mv_E) := [(0, [(.iconst 1, 0, 1, 42, 1, 0), (.iload_n 1, 1, 1, 40, 1, 0), (.ishl, 2, 1, 70, 0, 0), (.aload_n 0, 3, 1, 41, 0, 0), (.getfield 27, 4, 3, 43, 3, 6), (.iload_n 1, 7, 1, 40, 1, 0), (.iaload, 8, 1, 44, 0, 0), (.ior, 9, 1, 65, 0, 0), (.iload_n 2, 10, 1, 40, 2, 0), (.ishr, 11, 1, 71, 0, 0), (.iconst 1, 12, 1, 42, 1, 0), (.iand, 13, 1, 64, 0, 0), (.ifCond .eq 7, 14, 3, 56, 21, 0), (.iconst 1, 17, 1, 42, 1, 0), (.goto 4, 18, 3, 45, 22, 0)]),
  (21, [(.iconst 0, 21, 1, 42, 0, 0)]),
  (22, [(.ireturn, 22, 1, 1, 2, 0)])]
def km_37 : mv_I := (yX3_isOrHasAbove, cX3_isOrHasAbove, 3, (some .boolean), 2, 0, 3, [])
def kb_38 : List (Nat × List mv_E) := [(0, [(.iconst 0, 0, 1, 42, 0, 0), (.istore_n 2, 1, 1, 46, 2, 0), (.iload_n 1, 2, 1, 40, 1, 0), (.iconst 1, 3, 1, 42, 1, 0), (.iadd, 4, 1, 54, 0, 0), (.istore_n 3, 5, 1, 46, 3, 0)]),
  (6, [(.iload_n 3, 6, 1, 40, 3, 0), (.aload_n 0, 7, 1, 41, 0, 0), (.getfield 47, 8, 3, 43, 3, 9), (.if_icmp .ge 53, 11, 3, 51, 64, 0), (.iconst 0, 14, 1, 42, 0, 0), (.istore 4, 15, 2, 46, 4, 0)]),
  (17, [(.iload 4, 17, 2, 40, 4, 0), (.aload_n 0, 19, 1, 41, 0, 0), (.iload_n 3, 20, 1, 40, 3, 0), (.invokevirtual 72, 21, 3, 4, 34, 0), (.if_icmp .ge 34, 24, 3, 51, 58, 0), (.aload_n 0, 27, 1, 41, 0, 0), (.getfield 33, 28, 3, 43, 3, 0), (.getfield 64, 31, 3, 43, 2, 1), (.aload_n 0, 34, 1, 41, 0, 0), (.iload_n 3, 35, 1, 40, 3, 0), (.iload 4, 36, 2, 40, 4, 0), (.invokevirtual 69, 38, 3, 4, 35, 0), (.iaload, 41, 1, 44, 0, 0), (.iload_n 1, 42, 1, 40, 1, 0), (.if_icmp .ne 9, 43, 3, 49, 52, 0), (.iload_n 2, 46, 1, 40, 2, 0), (.iconst 1, 47, 1, 42, 1, 0), (.iload_n 3, 48, 1, 40, 3, 0), (.ishl, 49, 1, 70, 0, 0), (.ior, 50, 1, 65, 0, 0), (.istore_n 2, 51, 1, 46, 2, 0)]),
  (52, [(.iinc 4 1, 52, 3, 47, 4, 1), (.goto (-38), 55, 3, 45, 17, 0)]),
  (58, [(.iinc 3 1, 58, 3, 47, 3, 1), (.goto (-55), 61, 3, 45, 6, 0)]),
  (64, [(.iload_n 2, 64, 1, 40, 2, 0), (.ireturn, 65, 1, 1, 1, 0)])]
def km_38 : mv_I := (yX3_directlyBelow, cX3_directlyBelow, 5, (some .int), 1, 0, 3, [])
def kb_39 : List (Nat × List mv_E) := [(0, [(.aload_n 0, 0, 1, 41, 0, 0), (.getfield 27, 1, 3, 43, 3, 6), (.iload_n 1, 4, 1, 40, 1, 0), (.iconst 0, 5, 1, 42, 0, 0), (.iastore, 6, 1, 63, 0, 0), (.iconst 0, 7, 1, 42, 0, 0), (.istore_n 2, 8, 1, 46, 2, 0)]),
  (9, [(.iload_n 2, 9, 1, 40, 2, 0), (.aload_n 0, 10, 1, 41, 0, 0), (.iload_n 1, 11, 1, 40, 1, 0), (.invokevirtual 72, 12, 3, 4, 34, 0), (.if_icmp .ge 43, 15, 3, 51, 58, 0), (.aload_n 0, 18, 1, 41, 0, 0), (.getfield 33, 19, 3, 43, 3, 0), (.getfield 64, 22, 3, 43, 2, 1), (.aload_n 0, 25, 1, 41, 0, 0), (.iload_n 1, 26, 1, 40, 1, 0), (.iload_n 2, 27, 1, 40, 2, 0), (.invokevirtual 69, 28, 3, 4, 35, 0), (.iaload, 31, 1, 44, 0, 0), (.istore_n 3, 32, 1, 46, 3, 0), (.aload_n 0, 33, 1, 41, 0, 0), (.getfield 27, 34, 3, 43, 3, 6), (.iload_n 1, 37, 1, 40, 1, 0), (.dup2, 38, 1, 80, 0, 0), (.iaload, 39, 1, 44, 0, 0), (.iconst 1, 40, 1, 42, 1, 0), (.iload_n 3, 41, 1, 40, 3, 0), (.ishl, 42, 1, 70, 0, 0), (.aload_n 0, 43, 1, 41, 0, 0), (.getfield 27, 44, 3, 43, 3, 6), (.iload_n 3, 47, 1, 40, 3, 0), (.iaload, 48, 1, 44, 0, 0), (.ior, 49, 1, 65, 0, 0), (.ior, 50, 1, 65, 0, 0), (.iastore, 51, 1, 63, 0, 0), (.iinc 2 1, 52, 3, 47, 2, 1), (.goto (-46), 55, 3, 45, 9, 0)]),
  (58, [(.iconst 0, 58, 1, 42, 0, 0), (.istore_n 2, 59, 1, 46, 2, 0)]),
  (60, [(.iload_n 2, 60, 1, 40, 2, 0), (.iload_n 1, 61, 1, 40, 1, 0), (.if_icmp .gt 49, 62, 3, 52, 111, 0), (.iconst 0, 65, 1, 42, 0, 0), (.istore_n 3, 66, 1, 46, 3, 0)]),
  (67, [(.iload_n 3, 67, 1, 40, 3, 0), (.aload_n 0, 68, 1, 41, 0, 0), (.getfield 9, 69, 3, 43, 3, 1), (.iload_n 2, 72, 1, 40, 2, 0), (.iaload, 73, 1, 44, 0, 0), (.if_icmp .ge 31, 74, 3, 51, 105, 0), (.aload_n 0, 77, 1, 41, 0, 0), (.getfield 30, 78, 3, 43, 3, 7), (.iconst 2, 81, 1, 42, 2, 0), (.bipush 14, 82, 2, 42, 14, 0), (.iload_n 1, 84, 1, 40, 1, 0), (.imul, 85, 1, 62, 0, 0), (.iload_n 2, 86, 1, 40, 2, 0), (.iadd, 87, 1, 54, 0, 0), (.imul, 88, 1, 62, 0, 0), (.iload_n 3, 89, 1, 40, 3, 0), (.iadd, 90, 1, 54, 0, 0), (.aload_n 0, 91, 1, 41, 0, 0), (.iload_n 1, 92, 1, 40, 1, 0), (.iload_n 2, 93, 1, 40, 2, 0), (.iload_n 3, 94, 1, 40, 3, 0), (.invokevirtual 76, 95, 3, 4, 40, 0), (.iastore, 98, 1, 63, 0, 0), (.iinc 3 1, 99, 3, 47, 3, 1), (.goto (-35), 102, 3, 45, 67, 0)]),
  (105, [(.iinc 2 1, 105, 3, 47, 2, 1), (.goto (-48), 108, 3, 45, 60, 0)]),
  (111, [(.return_, 111, 1, 1, 0, 0)])]
def km_39 : mv_I := (yX3_settle, cX3_settle, 4, none, 1, 0, 3, [])
def kb_40 : List (Nat × List mv_E) := [(0, [(.iload_n 1, 0, 1, 40, 1, 0), (.iload_n 2, 1, 1, 40, 2, 0), (.if_icmp .ne 8, 2, 3, 49, 10, 0), (.bipush (-2), 5, 2, 42, 4294967294, 0), (.iload_n 3, 7, 1, 40, 3, 0), (.isub, 8, 1, 67, 0, 0), (.ireturn, 9, 1, 1, 1, 0)]),
  (10, [(.iconst 0, 10, 1, 42, 0, 0), (.istore 4, 11, 2, 46, 4, 0)]),
  (13, [(.iload 4, 13, 2, 40, 4, 0), (.aload_n 0, 15, 1, 41, 0, 0), (.iload_n 1, 16, 1, 40, 1, 0), (.invokevirtual 72, 17, 3, 4, 34, 0), (.if_icmp .ge 49, 20, 3, 51, 69, 0), (.aload_n 0, 23, 1, 41, 0, 0), (.iload_n 1, 24, 1, 40, 1, 0), (.iload 4, 25, 2, 40, 4, 0), (.invokevirtual 69, 27, 3, 4, 35, 0), (.istore 5, 30, 2, 46, 5, 0), (.aload_n 0, 32, 1, 41, 0, 0), (.aload_n 0, 33, 1, 41, 0, 0), (.getfield 33, 34, 3, 43, 3, 0), (.getfield 64, 37, 3, 43, 2, 1), (.iload 5, 40, 2, 40, 5, 0), (.iaload, 42, 1, 44, 0, 0), (.iload_n 2, 43, 1, 40, 2, 0), (.invokevirtual 80, 44, 3, 4, 37, 0), (.ifCond .eq 16, 47, 3, 56, 63, 0), (.aload_n 0, 50, 1, 41, 0, 0), (.aload_n 0, 51, 1, 41, 0, 0), (.iload 5, 52, 2, 40, 5, 0), (.iload_n 2, 54, 1, 40, 2, 0), (.iload_n 3, 55, 1, 40, 3, 0), (.invokevirtual 84, 56, 3, 4, 42, 0), (.invokevirtual 87, 59, 3, 4, 41, 0), (.ireturn, 62, 1, 1, 1, 0)]),
  (63, [(.iinc 4 1, 63, 3, 47, 4, 1), (.goto (-53), 66, 3, 45, 13, 0)]),
  (69, [(.iconst (-1), 69, 1, 42, 4294967295, 0), (.ireturn, 70, 1, 1, 1, 0)])]
def km_40 : mv_I := (yX3_view, cX3_view, 6, (some .int), 3, 0, 3, [])
def kb_41 : List (Nat × List mv_E) := [(0, [(.iload_n 1, 0, 1, 40, 1, 0), (.ifCond .le 33, 1, 3, 61, 34, 0), (.aload_n 0, 4, 1, 41, 0, 0), (.getfield 33, 5, 3, 43, 3, 0), (.getfield 90, 8, 3, 43, 2, 0), (.iload_n 1, 11, 1, 40, 1, 0), (.iconst 3, 12, 1, 42, 3, 0), (.idiv, 13, 1, 68, 0, 0), (.iaload, 14, 1, 44, 0, 0), (.iconst 4, 15, 1, 42, 4, 0), (.if_icmp .ne 18, 16, 3, 49, 34, 0), (.bipush (-2), 19, 2, 42, 4294967294, 0), (.aload_n 0, 21, 1, 41, 0, 0), (.getfield 33, 22, 3, 43, 3, 0), (.getfield 93, 25, 3, 43, 2, 2), (.iload_n 1, 28, 1, 40, 1, 0), (.iconst 3, 29, 1, 42, 3, 0), (.idiv, 30, 1, 68, 0, 0), (.iaload, 31, 1, 44, 0, 0), (.isub, 32, 1, 67, 0, 0), (.ireturn, 33, 1, 1, 1, 0)]),
  (34, [(.iload_n 1, 34, 1, 40, 1, 0), (.ireturn, 35, 1, 1, 1, 0)])]
def km_41 : mv_I := (yX3_marked, cX3_marked, 2, (some .int), 1, 0, 3, [])
def kb_42 : List (Nat × List mv_E) := [(0, [(.aload_n 0, 0, 1, 41, 0, 0), (.getfield 30, 1, 3, 43, 3, 7), (.iconst 2, 4, 1, 42, 2, 0), (.bipush 14, 5, 2, 42, 14, 0), (.aload_n 0, 7, 1, 41, 0, 0), (.getfield 33, 8, 3, 43, 3, 0), (.getfield 64, 11, 3, 43, 2, 1), (.iload_n 1, 14, 1, 40, 1, 0), (.iaload, 15, 1, 44, 0, 0), (.imul, 16, 1, 62, 0, 0), (.iload_n 2, 17, 1, 40, 2, 0), (.iadd, 18, 1, 54, 0, 0), (.imul, 19, 1, 62, 0, 0), (.iload_n 3, 20, 1, 40, 3, 0), (.iadd, 21, 1, 54, 0, 0), (.iaload, 22, 1, 44, 0, 0), (.istore 4, 23, 2, 46, 4, 0), (.iload 4, 25, 2, 40, 4, 0), (.iconst (-1), 27, 1, 42, 4294967295, 0), (.if_icmp .lt 6, 28, 3, 50, 34, 0), (.iload 4, 31, 2, 40, 4, 0), (.ireturn, 33, 1, 1, 1, 0)]),
  (34, [(.iload 4, 34, 2, 40, 4, 0), (.bipush (-2), 36, 2, 42, 4294967294, 0), (.if_icmp .ne 15, 38, 3, 49, 53, 0), (.aload_n 0, 41, 1, 41, 0, 0), (.getfield 33, 42, 3, 43, 3, 0), (.getfield 93, 45, 3, 43, 2, 2), (.iload_n 1, 48, 1, 40, 1, 0), (.iaload, 49, 1, 44, 0, 0), (.goto 12, 50, 3, 45, 62, 0)]),
  (53, [(.aload_n 0, 53, 1, 41, 0, 0), (.getfield 33, 54, 3, 43, 3, 0), (.getfield 96, 57, 3, 43, 2, 3), (.iload_n 1, 60, 1, 40, 1, 0), (.iaload, 61, 1, 44, 0, 0)]),
  (62, [(.ireturn, 62, 1, 1, 1, 0)])]
def km_42 : mv_I := (yX3_argumentAs, cX3_argumentAs, 5, (some .int), 3, 0, 3, [])
def kb_43 : List (Nat × List mv_E) := [(0, [(.aload_n 0, 0, 1, 41, 0, 0), (.getfield 33, 1, 3, 43, 3, 0), (.iconst 2, 4, 1, 42, 2, 0), (.iload_n 2, 5, 1, 40, 2, 0), (.aload_n 0, 6, 1, 41, 0, 0), (.iload_n 1, 7, 1, 40, 1, 0), (.iload_n 2, 8, 1, 40, 2, 0), (.iconst 0, 9, 1, 42, 0, 0), (.invokevirtual 84, 10, 3, 4, 42, 0), (.aload_n 0, 13, 1, 41, 0, 0), (.iload_n 1, 14, 1, 40, 1, 0), (.iload_n 2, 15, 1, 40, 2, 0), (.iconst 1, 16, 1, 42, 1, 0), (.invokevirtual 84, 17, 3, 4, 42, 0), (.invokevirtual 99, 20, 3, 4, 23, 0), (.ireturn, 23, 1, 1, 1, 0)])]
def km_43 : mv_I := (yX3_formAs, cX3_formAs, 3, (some .int), 2, 0, 3, [])
def kb_44 : List (Nat × List mv_E) := [(0, [(.aload_n 0, 0, 1, 41, 0, 0), (.getfield 9, 1, 3, 43, 3, 1), (.iload_n 1, 4, 1, 40, 1, 0), (.iaload, 5, 1, 44, 0, 0), (.ifCond .le 21, 6, 3, 61, 27, 0), (.iconst 3, 9, 1, 42, 3, 0), (.aload_n 0, 10, 1, 41, 0, 0), (.getfield 33, 11, 3, 43, 3, 0), (.iconst 4, 14, 1, 42, 4, 0), (.iload_n 1, 15, 1, 40, 1, 0), (.iconst 0, 16, 1, 42, 0, 0), (.iconst 0, 17, 1, 42, 0, 0), (.invokevirtual 99, 18, 3, 4, 23, 0), (.imul, 21, 1, 62, 0, 0), (.iconst 0, 22, 1, 42, 0, 0), (.iadd, 23, 1, 54, 0, 0), (.goto 4, 24, 3, 45, 28, 0)]),
  (27, [(.iconst 0, 27, 1, 42, 0, 0)]),
  (28, [(.istore_n 2, 28, 1, 46, 2, 0), (.aload_n 0, 29, 1, 41, 0, 0), (.getfield 9, 30, 3, 43, 3, 1), (.iload_n 1, 33, 1, 40, 1, 0), (.iaload, 34, 1, 44, 0, 0), (.iconst 1, 35, 1, 42, 1, 0), (.if_icmp .le 21, 36, 3, 53, 57, 0), (.iconst 3, 39, 1, 42, 3, 0), (.aload_n 0, 40, 1, 41, 0, 0), (.getfield 33, 41, 3, 43, 3, 0), (.iconst 4, 44, 1, 42, 4, 0), (.iload_n 1, 45, 1, 40, 1, 0), (.iconst 1, 46, 1, 42, 1, 0), (.iconst 0, 47, 1, 42, 0, 0), (.invokevirtual 99, 48, 3, 4, 23, 0), (.imul, 51, 1, 62, 0, 0), (.iconst 0, 52, 1, 42, 0, 0), (.iadd, 53, 1, 54, 0, 0), (.goto 4, 54, 3, 45, 58, 0)]),
  (57, [(.iconst 0, 57, 1, 42, 0, 0)]),
  (58, [(.istore_n 3, 58, 1, 46, 3, 0), (.aload_n 0, 59, 1, 41, 0, 0), (.getfield 33, 60, 3, 43, 3, 0), (.iconst 2, 63, 1, 42, 2, 0), (.iload_n 1, 64, 1, 40, 1, 0), (.iload_n 2, 65, 1, 40, 2, 0), (.iload_n 3, 66, 1, 40, 3, 0), (.invokevirtual 99, 67, 3, 4, 23, 0), (.ireturn, 70, 1, 1, 1, 0)])]
def km_44 : mv_I := (yX3_selfForm, cX3_selfForm, 4, (some .int), 1, 0, 3, [])
def kb_45 : List (Nat × List mv_E) := [(0, [(.aload_n 0, 0, 1, 41, 0, 0), (.getfield 18, 1, 3, 43, 3, 3), (.iconst 2, 4, 1, 42, 2, 0), (.aload_n 0, 5, 1, 41, 0, 0), (.getfield 33, 6, 3, 43, 3, 0), (.getfield 64, 9, 3, 43, 2, 1), (.iload_n 1, 12, 1, 40, 1, 0), (.iaload, 13, 1, 44, 0, 0), (.imul, 14, 1, 62, 0, 0), (.aload_n 0, 15, 1, 41, 0, 0), (.getfield 33, 16, 3, 43, 3, 0), (.getfield 93, 19, 3, 43, 2, 2), (.iload_n 1, 22, 1, 40, 1, 0), (.iaload, 23, 1, 44, 0, 0), (.iadd, 24, 1, 54, 0, 0), (.iaload, 25, 1, 44, 0, 0), (.ireturn, 26, 1, 1, 1, 0)])]
def km_45 : mv_I := (yX3_limitOf, cX3_limitOf, 2, (some .int), 1, 0, 3, [])
def kb_46 : List (Nat × List mv_E) := [(0, [(.aload_n 0, 0, 1, 41, 0, 0), (.getfield 33, 1, 3, 43, 3, 0), (.getfield 90, 4, 3, 43, 2, 0), (.iload_n 1, 7, 1, 40, 1, 0), (.iaload, 8, 1, 44, 0, 0), (.iconst 2, 9, 1, 42, 2, 0), (.if_icmp .ne 5, 10, 3, 49, 15, 0), (.iload_n 1, 13, 1, 40, 1, 0), (.ireturn, 14, 1, 1, 1, 0)]),
  (15, [(.aload_n 0, 15, 1, 41, 0, 0), (.getfield 33, 16, 3, 43, 3, 0), (.getfield 90, 19, 3, 43, 2, 0), (.iload_n 1, 22, 1, 40, 1, 0), (.iaload, 23, 1, 44, 0, 0), (.iconst 4, 24, 1, 42, 4, 0), (.if_icmp .ne 11, 25, 3, 49, 36, 0), (.aload_n 0, 28, 1, 41, 0, 0), (.iload_n 1, 29, 1, 40, 1, 0), (.invokevirtual 103, 30, 3, 4, 45, 0), (.goto 4, 33, 3, 45, 37, 0)]),
  (36, [(.iconst 2, 36, 1, 42, 2, 0)]),
  (37, [(.ireturn, 37, 1, 1, 1, 0)])]
def km_46 : mv_I := (yX3_receiver, cX3_receiver, 2, (some .int), 1, 0, 3, [])
def kb_47 : List (Nat × List mv_E) := [(0, [(.aload_n 0, 0, 1, 41, 0, 0), (.invokespecial 3, 1, 3, 3, 0, 0), (.aload_n 0, 4, 1, 41, 0, 0), (.aload_n 1, 5, 1, 41, 1, 0), (.putfield 9, 6, 3, 55, 4, 2), (.aload_n 0, 9, 1, 41, 0, 0), (.aload_n 2, 10, 1, 41, 2, 0), (.putfield 15, 11, 3, 55, 4, 6), (.return_, 14, 1, 1, 0, 0)])]
def km_47 : mv_I := (yX4_init, cX4_init, 3, none, 2, 2, 4, [])
def kb_48 : List (Nat × List mv_E) := [(0, [(.iload_n 3, 0, 1, 40, 3, 0), (.bipush 8, 1, 2, 42, 8, 0), (.if_icmp .lt 5, 3, 3, 50, 8, 0), (.iconst 0, 6, 1, 42, 0, 0), (.ireturn, 7, 1, 1, 2, 0)]),
  (8, [(.iload_n 1, 8, 1, 40, 1, 0), (.iload_n 2, 9, 1, 40, 2, 0), (.if_icmp .ne 5, 10, 3, 49, 15, 0), (.iconst 1, 13, 1, 42, 1, 0), (.ireturn, 14, 1, 1, 2, 0)]),
  (15, [(.iload_n 1, 15, 1, 40, 1, 0), (.ifCond .eq 7, 16, 3, 56, 23, 0), (.iload_n 2, 19, 1, 40, 2, 0), (.ifCond .ne 5, 20, 3, 57, 25, 0)]),
  (23, [(.iconst 0, 23, 1, 42, 0, 0), (.ireturn, 24, 1, 1, 2, 0)]),
  (25, [(.iload_n 1, 25, 1, 40, 1, 0), (.iconst 1, 26, 1, 42, 1, 0), (.if_icmp .eq 8, 27, 3, 48, 35, 0), (.iload_n 2, 30, 1, 40, 2, 0), (.iconst 2, 31, 1, 42, 2, 0), (.if_icmp .ne 5, 32, 3, 49, 37, 0)]),
  (35, [(.iconst 1, 35, 1, 42, 1, 0), (.ireturn, 36, 1, 1, 2, 0)]),
  (37, [(.aload_n 0, 37, 1, 41, 0, 0), (.getfield 9, 38, 3, 43, 4, 0), (.getfield 19, 41, 3, 43, 2, 0), (.iload_n 1, 44, 1, 40, 1, 0), (.iaload, 45, 1, 44, 0, 0), (.tableswitch 119 2 5 #[90, 119, 30, 47], 46, 30, 97, 0, 0)]),
  (76, [(.aload_n 0, 76, 1, 41, 0, 0), (.aload_n 0, 77, 1, 41, 0, 0), (.getfield 15, 78, 3, 43, 4, 1), (.iload_n 1, 81, 1, 40, 1, 0), (.invokevirtual 25, 82, 3, 4, 45, 0), (.iload_n 2, 85, 1, 40, 2, 0), (.iload_n 3, 86, 1, 40, 3, 0), (.iconst 1, 87, 1, 42, 1, 0), (.iadd, 88, 1, 54, 0, 0), (.invokevirtual 31, 89, 3, 4, 48, 0), (.ireturn, 92, 1, 1, 2, 0)]),
  (93, [(.aload_n 0, 93, 1, 41, 0, 0), (.iload_n 1, 94, 1, 40, 1, 0), (.iload_n 2, 95, 1, 40, 2, 0), (.invokevirtual 35, 96, 3, 4, 49, 0), (.ifCond .eq 35, 99, 3, 56, 134, 0), (.aload_n 0, 102, 1, 41, 0, 0), (.aload_n 0, 103, 1, 41, 0, 0), (.getfield 9, 104, 3, 43, 4, 0), (.getfield 39, 107, 3, 43, 2, 2), (.iload_n 1, 110, 1, 40, 1, 0), (.iaload, 111, 1, 44, 0, 0), (.aload_n 0, 112, 1, 41, 0, 0), (.getfield 9, 113, 3, 43, 4, 0), (.getfield 39, 116, 3, 43, 2, 2), (.iload_n 2, 119, 1, 40, 2, 0), (.iaload, 120, 1, 44, 0, 0), (.iload_n 3, 121, 1, 40, 3, 0), (.iconst 1, 122, 1, 42, 1, 0), (.iadd, 123, 1, 54, 0, 0), (.invokevirtual 31, 124, 3, 4, 48, 0), (.ifCond .eq 7, 127, 3, 56, 134, 0), (.iconst 1, 130, 1, 42, 1, 0), (.goto 4, 131, 3, 45, 135, 0)]),
  (134, [(.iconst 0, 134, 1, 42, 0, 0)]),
  (135, [(.ireturn, 135, 1, 1, 2, 0)]),
  (136, [(.aload_n 0, 136, 1, 41, 0, 0), (.getfield 9, 137, 3, 43, 4, 0), (.getfield 19, 140, 3, 43, 2, 0), (.iload_n 2, 143, 1, 40, 2, 0), (.iaload, 144, 1, 44, 0, 0), (.iconst 2, 145, 1, 42, 2, 0), (.if_icmp .ne 17, 146, 3, 49, 163, 0), (.aload_n 0, 149, 1, 41, 0, 0), (.iload_n 1, 150, 1, 40, 1, 0), (.iload_n 2, 151, 1, 40, 2, 0), (.iload_n 3, 152, 1, 40, 3, 0), (.invokevirtual 42, 153, 3, 4, 50, 0), (.ifCond .eq 7, 156, 3, 56, 163, 0), (.iconst 1, 159, 1, 42, 1, 0), (.goto 4, 160, 3, 45, 164, 0)]),
  (163, [(.iconst 0, 163, 1, 42, 0, 0)]),
  (164, [(.ireturn, 164, 1, 1, 2, 0)]),
  (165, [(.iconst 0, 165, 1, 42, 0, 0), (.ireturn, 166, 1, 1, 2, 0)])]
def km_48 : mv_I := (yX4_isUnder, cX4_isUnder, 4, (some .boolean), 3, 0, 4, [])
def kb_49 : List (Nat × List mv_E) := [(0, [(.aload_n 0, 0, 1, 41, 0, 0), (.getfield 9, 1, 3, 43, 4, 0), (.getfield 19, 4, 3, 43, 2, 0), (.iload_n 1, 7, 1, 40, 1, 0), (.iaload, 8, 1, 44, 0, 0), (.iconst 5, 9, 1, 42, 5, 0), (.if_icmp .ne 44, 10, 3, 49, 54, 0), (.aload_n 0, 13, 1, 41, 0, 0), (.getfield 9, 14, 3, 43, 4, 0), (.getfield 19, 17, 3, 43, 2, 0), (.iload_n 2, 20, 1, 40, 2, 0), (.iaload, 21, 1, 44, 0, 0), (.iconst 5, 22, 1, 42, 5, 0), (.if_icmp .ne 31, 23, 3, 49, 54, 0), (.aload_n 0, 26, 1, 41, 0, 0), (.getfield 9, 27, 3, 43, 4, 0), (.getfield 39, 30, 3, 43, 2, 2), (.iload_n 1, 33, 1, 40, 1, 0), (.iaload, 34, 1, 44, 0, 0), (.ifCond .eq 19, 35, 3, 56, 54, 0), (.aload_n 0, 38, 1, 41, 0, 0), (.getfield 9, 39, 3, 43, 4, 0), (.getfield 39, 42, 3, 43, 2, 2), (.iload_n 2, 45, 1, 40, 2, 0), (.iaload, 46, 1, 44, 0, 0), (.ifCond .eq 7, 47, 3, 56, 54, 0), (.iconst 1, 50, 1, 42, 1, 0), (.goto 4, 51, 3, 45, 55, 0)]),
  (54, [(.iconst 0, 54, 1, 42, 0, 0)]),
  (55, [(.ireturn, 55, 1, 1, 2, 0)])]
def km_49 : mv_I := (yX4_areArraysOfReferences, cX4_areArraysOfReferences, 3, (some .boolean), 2, 0, 4, [])
def kb_50 : List (Nat × List mv_E) := [(0, [(.aload_n 0, 0, 1, 41, 0, 0), (.getfield 9, 1, 3, 43, 4, 0), (.getfield 45, 4, 3, 43, 2, 1), (.iload_n 2, 7, 1, 40, 2, 0), (.iaload, 8, 1, 44, 0, 0), (.istore 4, 9, 2, 46, 4, 0), (.aload_n 0, 11, 1, 41, 0, 0), (.getfield 15, 12, 3, 43, 4, 1), (.aload_n 0, 15, 1, 41, 0, 0), (.getfield 9, 16, 3, 43, 4, 0), (.getfield 45, 19, 3, 43, 2, 1), (.iload_n 1, 22, 1, 40, 1, 0), (.iaload, 23, 1, 44, 0, 0), (.iload 4, 24, 2, 40, 4, 0), (.invokevirtual 48, 26, 3, 4, 37, 0), (.ifCond .ne 5, 29, 3, 57, 34, 0), (.iconst 0, 32, 1, 42, 0, 0), (.ireturn, 33, 1, 1, 2, 0)]),
  (34, [(.iconst 0, 34, 1, 42, 0, 0), (.istore 5, 35, 2, 46, 5, 0)]),
  (37, [(.iload 5, 37, 2, 40, 5, 0), (.aload_n 0, 39, 1, 41, 0, 0), (.getfield 15, 40, 3, 43, 4, 1), (.getfield 51, 43, 3, 43, 3, 1), (.iload 4, 46, 2, 40, 4, 0), (.iaload, 48, 1, 44, 0, 0), (.if_icmp .ge 80, 49, 3, 51, 129, 0), (.aload_n 0, 52, 1, 41, 0, 0), (.getfield 15, 53, 3, 43, 4, 1), (.iload_n 1, 56, 1, 40, 1, 0), (.iload 4, 57, 2, 40, 4, 0), (.iload 5, 59, 2, 40, 5, 0), (.invokevirtual 54, 61, 3, 4, 42, 0), (.istore 6, 64, 2, 46, 6, 0), (.iload 5, 66, 2, 40, 5, 0), (.ifCond .ne 15, 68, 3, 57, 83, 0), (.aload_n 0, 71, 1, 41, 0, 0), (.getfield 9, 72, 3, 43, 4, 0), (.getfield 39, 75, 3, 43, 2, 2), (.iload_n 2, 78, 1, 40, 2, 0), (.iaload, 79, 1, 44, 0, 0), (.goto 12, 80, 3, 45, 92, 0)]),
  (83, [(.aload_n 0, 83, 1, 41, 0, 0), (.getfield 9, 84, 3, 43, 4, 0), (.getfield 58, 87, 3, 43, 2, 3), (.iload_n 2, 90, 1, 40, 2, 0), (.iaload, 91, 1, 44, 0, 0)]),
  (92, [(.istore 7, 92, 2, 46, 7, 0), (.aload_n 0, 94, 1, 41, 0, 0), (.iload 6, 95, 2, 40, 6, 0), (.iload 7, 97, 2, 40, 7, 0), (.aload_n 0, 99, 1, 41, 0, 0), (.getfield 15, 100, 3, 43, 4, 1), (.getfield 61, 103, 3, 43, 3, 2), (.iconst 2, 106, 1, 42, 2, 0), (.iload 4, 107, 2, 40, 4, 0), (.imul, 109, 1, 62, 0, 0), (.iload 5, 110, 2, 40, 5, 0), (.iadd, 112, 1, 54, 0, 0), (.iaload, 113, 1, 44, 0, 0), (.iload_n 3, 114, 1, 40, 3, 0), (.invokevirtual 64, 115, 3, 4, 51, 0), (.ifCond .ne 5, 118, 3, 57, 123, 0), (.iconst 0, 121, 1, 42, 0, 0), (.ireturn, 122, 1, 1, 2, 0)]),
  (123, [(.iinc 5 1, 123, 3, 47, 5, 1), (.goto (-89), 126, 3, 45, 37, 0)]),
  (129, [(.iconst 1, 129, 1, 42, 1, 0), (.ireturn, 130, 1, 1, 2, 0)])]
def km_50 : mv_I := (yX4_isClassUnder, cX4_isClassUnder, 8, (some .boolean), 3, 0, 4, [])
def kb_51 : List (Nat × List mv_E) := [(0, [(.iload_n 1, 0, 1, 40, 1, 0), (.iload_n 3, 1, 1, 40, 3, 0), (.invokestatic 68, 2, 3, 6, 52, 0), (.istore 5, 5, 2, 46, 5, 0), (.iload_n 2, 7, 1, 40, 2, 0), (.iload_n 3, 8, 1, 40, 3, 0), (.invokestatic 68, 9, 3, 6, 52, 0), (.istore 6, 12, 2, 46, 6, 0), (.iload 6, 14, 2, 40, 6, 0), (.iconst (-1), 16, 1, 42, 4294967295, 0), (.if_icmp .ne 5, 17, 3, 49, 22, 0), (.iconst 1, 20, 1, 42, 1, 0), (.ireturn, 21, 1, 1, 2, 0)]),
  (22, [(.iload 6, 22, 2, 40, 6, 0), (.iconst 3, 24, 1, 42, 3, 0), (.idiv, 25, 1, 68, 0, 0), (.istore 7, 26, 2, 46, 7, 0), (.iload 6, 28, 2, 40, 6, 0), (.iconst 3, 30, 1, 42, 3, 0), (.irem, 31, 1, 69, 0, 0), (.istore 8, 32, 2, 46, 8, 0), (.iload 8, 34, 2, 40, 8, 0), (.iconst 1, 36, 1, 42, 1, 0), (.if_icmp .ne 11, 37, 3, 49, 48, 0), (.iload 7, 40, 2, 40, 7, 0), (.iconst 2, 42, 1, 42, 2, 0), (.if_icmp .ne 5, 43, 3, 49, 48, 0), (.iconst 1, 46, 1, 42, 1, 0), (.ireturn, 47, 1, 1, 2, 0)]),
  (48, [(.iload 5, 48, 2, 40, 5, 0), (.iconst (-1), 50, 1, 42, 4294967295, 0), (.if_icmp .ne 5, 51, 3, 49, 56, 0), (.iconst 0, 54, 1, 42, 0, 0), (.ireturn, 55, 1, 1, 2, 0)]),
  (56, [(.iload 8, 56, 2, 40, 8, 0), (.ifCond .ne 16, 58, 3, 57, 74, 0), (.iload 5, 61, 2, 40, 5, 0), (.iload 6, 63, 2, 40, 6, 0), (.if_icmp .ne 7, 65, 3, 49, 72, 0), (.iconst 1, 68, 1, 42, 1, 0), (.goto 4, 69, 3, 45, 73, 0)]),
  (72, [(.iconst 0, 72, 1, 42, 0, 0)]),
  (73, [(.ireturn, 73, 1, 1, 2, 0)]),
  (74, [(.iload 5, 74, 2, 40, 5, 0), (.iconst 3, 76, 1, 42, 3, 0), (.irem, 77, 1, 69, 0, 0), (.ifCond .eq 14, 78, 3, 56, 92, 0), (.iload 5, 81, 2, 40, 5, 0), (.iconst 3, 83, 1, 42, 3, 0), (.irem, 84, 1, 69, 0, 0), (.iload 8, 85, 2, 40, 8, 0), (.if_icmp .eq 5, 87, 3, 48, 92, 0), (.iconst 0, 90, 1, 42, 0, 0), (.ireturn, 91, 1, 1, 2, 0)]),
  (92, [(.iload 8, 92, 2, 40, 8, 0), (.iconst 1, 94, 1, 42, 1, 0), (.if_icmp .ne 20, 95, 3, 49, 115, 0), (.aload_n 0, 98, 1, 41, 0, 0), (.iload 5, 99, 2, 40, 5, 0), (.iconst 3, 101, 1, 42, 3, 0), (.idiv, 102, 1, 68, 0, 0), (.iload 7, 103, 2, 40, 7, 0), (.iload 4, 105, 2, 40, 4, 0), (.iconst 1, 107, 1, 42, 1, 0), (.iadd, 108, 1, 54, 0, 0), (.invokevirtual 31, 109, 3, 4, 48, 0), (.goto 17, 112, 3, 45, 129, 0)]),
  (115, [(.aload_n 0, 115, 1, 41, 0, 0), (.iload 7, 116, 2, 40, 7, 0), (.iload 5, 118, 2, 40, 5, 0), (.iconst 3, 120, 1, 42, 3, 0), (.idiv, 121, 1, 68, 0, 0), (.iload 4, 122, 2, 40, 4, 0), (.iconst 1, 124, 1, 42, 1, 0), (.iadd, 125, 1, 54, 0, 0), (.invokevirtual 31, 126, 3, 4, 48, 0)]),
  (129, [(.ireturn, 129, 1, 1, 2, 0)])]
def km_51 : mv_I := (yX4_isWithin, cX4_isWithin, 9, (some .boolean), 4, 0, 4, [])
def kb_52 : List (Nat × List mv_E) := [(0, [(.iload_n 0, 0, 1, 40, 0, 0), (.ifCond .le 15, 1, 3, 61, 16, 0), (.iload_n 0, 4, 1, 40, 0, 0), (.iconst 3, 5, 1, 42, 3, 0), (.irem, 6, 1, 69, 0, 0), (.ifCond .ne 9, 7, 3, 57, 16, 0), (.iload_n 0, 10, 1, 40, 0, 0), (.iload_n 1, 11, 1, 40, 1, 0), (.iadd, 12, 1, 54, 0, 0), (.goto 4, 13, 3, 45, 17, 0)]),
  (16, [(.iload_n 0, 16, 1, 40, 0, 0)]),
  (17, [(.ireturn, 17, 1, 1, 1, 0)])]
def km_52 : mv_I := (yX4_varied, cX4_varied, 2, (some .int), 2, 1, 4, [])
def kb_53 : List (Nat × List mv_E) := [(0, [(.iconst 0, 0, 1, 42, 0, 0), (.istore_n 1, 1, 1, 46, 1, 0), (.iconst 0, 2, 1, 42, 0, 0), (.istore_n 2, 3, 1, 46, 2, 0)]),
  (4, [(.iload_n 2, 4, 1, 40, 2, 0), (.aload_n 0, 5, 1, 41, 0, 0), (.getfield 9, 6, 3, 43, 4, 0), (.getfield 72, 9, 3, 43, 2, 9), (.if_icmp .ge 46, 12, 3, 51, 58, 0), (.iconst 0, 15, 1, 42, 0, 0), (.istore_n 3, 16, 1, 46, 3, 0)]),
  (17, [(.iload_n 3, 17, 1, 40, 3, 0), (.aload_n 0, 18, 1, 41, 0, 0), (.getfield 9, 19, 3, 43, 4, 0), (.getfield 72, 22, 3, 43, 2, 9), (.if_icmp .ge 27, 25, 3, 51, 52, 0), (.iload_n 2, 28, 1, 40, 2, 0), (.iload_n 3, 29, 1, 40, 3, 0), (.if_icmp .eq 16, 30, 3, 48, 46, 0), (.aload_n 0, 33, 1, 41, 0, 0), (.iload_n 2, 34, 1, 40, 2, 0), (.iload_n 3, 35, 1, 40, 3, 0), (.iconst 0, 36, 1, 42, 0, 0), (.invokevirtual 31, 37, 3, 4, 48, 0), (.ifCond .eq 6, 40, 3, 56, 46, 0), (.iinc 1 1, 43, 3, 47, 1, 1)]),
  (46, [(.iinc 3 1, 46, 3, 47, 3, 1), (.goto (-32), 49, 3, 45, 17, 0)]),
  (52, [(.iinc 2 1, 52, 3, 47, 2, 1), (.goto (-51), 55, 3, 45, 4, 0)]),
  (58, [(.iload_n 1, 58, 1, 40, 1, 0), (.ireturn, 59, 1, 1, 1, 0)])]
def km_53 : mv_I := (yX4_pairs, cX4_pairs, 4, (some .int), 0, 0, 4, [])
def kb_54 : List (Nat × List mv_E) := [(0, [(.aload_n 0, 0, 1, 41, 0, 0), (.iload_n 1, 1, 1, 40, 1, 0), (.iload_n 2, 2, 1, 40, 2, 0), (.iconst 0, 3, 1, 42, 0, 0), (.invokevirtual 31, 4, 3, 4, 48, 0), (.ifCond .eq 5, 7, 3, 56, 12, 0), (.iload_n 2, 10, 1, 40, 2, 0), (.ireturn, 11, 1, 1, 1, 0)]),
  (12, [(.aload_n 0, 12, 1, 41, 0, 0), (.iload_n 2, 13, 1, 40, 2, 0), (.iload_n 1, 14, 1, 40, 1, 0), (.iconst 0, 15, 1, 42, 0, 0), (.invokevirtual 31, 16, 3, 4, 48, 0), (.ifCond .eq 5, 19, 3, 56, 24, 0), (.iload_n 1, 22, 1, 40, 1, 0), (.ireturn, 23, 1, 1, 1, 0)]),
  (24, [(.iload 4, 24, 2, 40, 4, 0), (.bipush 40, 26, 2, 42, 40, 0), (.if_icmp .le 5, 28, 3, 53, 33, 0), (.iconst 2, 31, 1, 42, 2, 0), (.ireturn, 32, 1, 1, 1, 0)]),
  (33, [(.iload_n 1, 33, 1, 40, 1, 0), (.ifCond .eq 16, 34, 3, 56, 50, 0), (.aload_n 0, 37, 1, 41, 0, 0), (.getfield 9, 38, 3, 43, 4, 0), (.getfield 19, 41, 3, 43, 2, 0), (.iload_n 1, 44, 1, 40, 1, 0), (.iaload, 45, 1, 44, 0, 0), (.iconst 4, 46, 1, 42, 4, 0), (.if_icmp .ne 30, 47, 3, 49, 77, 0)]),
  (50, [(.aload_n 0, 50, 1, 41, 0, 0), (.iload_n 1, 51, 1, 40, 1, 0), (.ifCond .ne 7, 52, 3, 57, 59, 0), (.iconst 3, 55, 1, 42, 3, 0), (.goto 11, 56, 3, 45, 67, 0)]),
  (59, [(.aload_n 0, 59, 1, 41, 0, 0), (.getfield 15, 60, 3, 43, 4, 1), (.iload_n 1, 63, 1, 40, 1, 0), (.invokevirtual 25, 64, 3, 4, 45, 0)]),
  (67, [(.iload_n 2, 67, 1, 40, 2, 0), (.iload_n 3, 68, 1, 40, 3, 0), (.iload 4, 69, 2, 40, 4, 0), (.iconst 1, 71, 1, 42, 1, 0), (.iadd, 72, 1, 54, 0, 0), (.invokevirtual 76, 73, 3, 4, 54, 0), (.ireturn, 76, 1, 1, 1, 0)]),
  (77, [(.iload_n 2, 77, 1, 40, 2, 0), (.ifCond .eq 16, 78, 3, 56, 94, 0), (.aload_n 0, 81, 1, 41, 0, 0), (.getfield 9, 82, 3, 43, 4, 0), (.getfield 19, 85, 3, 43, 2, 0), (.iload_n 2, 88, 1, 40, 2, 0), (.iaload, 89, 1, 44, 0, 0), (.iconst 4, 90, 1, 42, 4, 0), (.if_icmp .ne 30, 91, 3, 49, 121, 0)]),
  (94, [(.aload_n 0, 94, 1, 41, 0, 0), (.iload_n 1, 95, 1, 40, 1, 0), (.iload_n 2, 96, 1, 40, 2, 0), (.ifCond .ne 7, 97, 3, 57, 104, 0), (.iconst 3, 100, 1, 42, 3, 0), (.goto 11, 101, 3, 45, 112, 0)]),
  (104, [(.aload_n 0, 104, 1, 41, 0, 0), (.getfield 15, 105, 3, 43, 4, 1), (.iload_n 2, 108, 1, 40, 2, 0), (.invokevirtual 25, 109, 3, 4, 45, 0)]),
  (112, [(.iload_n 3, 112, 1, 40, 3, 0), (.iload 4, 113, 2, 40, 4, 0), (.iconst 1, 115, 1, 42, 1, 0), (.iadd, 116, 1, 54, 0, 0), (.invokevirtual 76, 117, 3, 4, 54, 0), (.ireturn, 120, 1, 1, 1, 0)]),
  (121, [(.aload_n 0, 121, 1, 41, 0, 0), (.iload_n 1, 122, 1, 40, 1, 0), (.iload_n 2, 123, 1, 40, 2, 0), (.invokevirtual 35, 124, 3, 4, 49, 0), (.ifCond .eq 41, 127, 3, 56, 168, 0), (.aload_n 0, 130, 1, 41, 0, 0), (.getfield 9, 131, 3, 43, 4, 0), (.iconst 5, 134, 1, 42, 5, 0), (.iconst 0, 135, 1, 42, 0, 0), (.aload_n 0, 136, 1, 41, 0, 0), (.aload_n 0, 137, 1, 41, 0, 0), (.getfield 9, 138, 3, 43, 4, 0), (.getfield 39, 141, 3, 43, 2, 2), (.iload_n 1, 144, 1, 40, 1, 0), (.iaload, 145, 1, 44, 0, 0), (.aload_n 0, 146, 1, 41, 0, 0), (.getfield 9, 147, 3, 43, 4, 0), (.getfield 39, 150, 3, 43, 2, 2), (.iload_n 2, 153, 1, 40, 2, 0), (.iaload, 154, 1, 44, 0, 0), (.iload_n 3, 155, 1, 40, 3, 0), (.iload 4, 156, 2, 40, 4, 0), (.iconst 1, 158, 1, 42, 1, 0), (.iadd, 159, 1, 54, 0, 0), (.invokevirtual 76, 160, 3, 4, 54, 0), (.iconst 0, 163, 1, 42, 0, 0), (.invokevirtual 80, 164, 3, 4, 23, 0), (.ireturn, 167, 1, 1, 1, 0)]),
  (168, [(.aload_n 0, 168, 1, 41, 0, 0), (.getfield 9, 169, 3, 43, 4, 0), (.getfield 19, 172, 3, 43, 2, 0), (.iload_n 1, 175, 1, 40, 1, 0), (.iaload, 176, 1, 44, 0, 0), (.iconst 2, 177, 1, 42, 2, 0), (.if_icmp .ne 75, 178, 3, 49, 253, 0), (.aload_n 0, 181, 1, 41, 0, 0), (.getfield 9, 182, 3, 43, 4, 0), (.getfield 19, 185, 3, 43, 2, 0), (.iload_n 2, 188, 1, 40, 2, 0), (.iaload, 189, 1, 44, 0, 0), (.iconst 2, 190, 1, 42, 2, 0), (.if_icmp .ne 62, 191, 3, 49, 253, 0), (.aload_n 0, 194, 1, 41, 0, 0), (.aload_n 0, 195, 1, 41, 0, 0), (.getfield 9, 196, 3, 43, 4, 0), (.getfield 45, 199, 3, 43, 2, 1), (.iload_n 1, 202, 1, 40, 1, 0), (.iaload, 203, 1, 44, 0, 0), (.aload_n 0, 204, 1, 41, 0, 0), (.getfield 9, 205, 3, 43, 4, 0), (.getfield 45, 208, 3, 43, 2, 1), (.iload_n 2, 211, 1, 40, 2, 0), (.iaload, 212, 1, 44, 0, 0), (.invokevirtual 84, 213, 3, 4, 55, 0), (.istore 5, 216, 2, 46, 5, 0), (.aload_n 0, 218, 1, 41, 0, 0), (.getfield 9, 219, 3, 43, 4, 0), (.iconst 2, 222, 1, 42, 2, 0), (.iload 5, 223, 2, 40, 5, 0), (.aload_n 0, 225, 1, 41, 0, 0), (.iload_n 1, 226, 1, 40, 1, 0), (.iload_n 2, 227, 1, 40, 2, 0), (.iload 5, 228, 2, 40, 5, 0), (.iconst 0, 230, 1, 42, 0, 0), (.iload_n 3, 231, 1, 40, 3, 0), (.iload 4, 232, 2, 40, 4, 0), (.invokevirtual 87, 234, 3, 4, 56, 0), (.aload_n 0, 237, 1, 41, 0, 0), (.iload_n 1, 238, 1, 40, 1, 0), (.iload_n 2, 239, 1, 40, 2, 0), (.iload 5, 240, 2, 40, 5, 0), (.iconst 1, 242, 1, 42, 1, 0), (.iload_n 3, 243, 1, 40, 3, 0), (.iload 4, 244, 2, 40, 4, 0), (.invokevirtual 87, 246, 3, 4, 56, 0), (.invokevirtual 80, 249, 3, 4, 23, 0), (.ireturn, 252, 1, 1, 1, 0)]),
  (253, [(.iconst 2, 253, 1, 42, 2, 0), (.ireturn, 254, 1, 1, 1, 0)])]
def km_54 : mv_I := (yX4_joined, cX4_joined, 6, (some .int), 4, 0, 4, [])
def kb_55 : List (Nat × List mv_E) := [(0, [(.iconst 1, 0, 1, 42, 1, 0), (.iload_n 1, 1, 1, 40, 1, 0), (.ishl, 2, 1, 70, 0, 0), (.aload_n 0, 3, 1, 41, 0, 0), (.getfield 15, 4, 3, 43, 4, 1), (.getfield 91, 7, 3, 43, 3, 6), (.iload_n 1, 10, 1, 40, 1, 0), (.iaload, 11, 1, 44, 0, 0), (.ior, 12, 1, 65, 0, 0), (.iconst 1, 13, 1, 42, 1, 0), (.iload_n 2, 14, 1, 40, 2, 0), (.ishl, 15, 1, 70, 0, 0), (.aload_n 0, 16, 1, 41, 0, 0), (.getfield 15, 17, 3, 43, 4, 1), (.getfield 91, 20, 3, 43, 3, 6), (.iload_n 2, 23, 1, 40, 2, 0), (.iaload, 24, 1, 44, 0, 0), (.ior, 25, 1, 65, 0, 0), (.iand, 26, 1, 64, 0, 0), (.istore_n 3, 27, 1, 46, 3, 0), (.iconst 0, 28, 1, 42, 0, 0), (.istore 4, 29, 2, 46, 4, 0), (.iconst 0, 31, 1, 42, 0, 0), (.istore 5, 32, 2, 46, 5, 0)]),
  (34, [(.iload 5, 34, 2, 40, 5, 0), (.aload_n 0, 36, 1, 41, 0, 0), (.getfield 15, 37, 3, 43, 4, 1), (.getfield 94, 40, 3, 43, 3, 9), (.if_icmp .ge 33, 43, 3, 51, 76, 0), (.iload_n 3, 46, 1, 40, 3, 0), (.iload 5, 47, 2, 40, 5, 0), (.ishr, 49, 1, 71, 0, 0), (.iconst 1, 50, 1, 42, 1, 0), (.iand, 51, 1, 64, 0, 0), (.ifCond .eq 18, 52, 3, 56, 70, 0), (.iload 4, 55, 2, 40, 4, 0), (.aload_n 0, 57, 1, 41, 0, 0), (.getfield 15, 58, 3, 43, 4, 1), (.getfield 91, 61, 3, 43, 3, 6), (.iload 5, 64, 2, 40, 5, 0), (.iaload, 66, 1, 44, 0, 0), (.ior, 67, 1, 65, 0, 0), (.istore 4, 68, 2, 46, 4, 0)]),
  (70, [(.iinc 5 1, 70, 3, 47, 5, 1), (.goto (-39), 73, 3, 45, 34, 0)]),
  (76, [(.iconst 0, 76, 1, 42, 0, 0), (.istore 5, 77, 2, 46, 5, 0)]),
  (79, [(.iload 5, 79, 2, 40, 5, 0), (.aload_n 0, 81, 1, 41, 0, 0), (.getfield 15, 82, 3, 43, 4, 1), (.getfield 94, 85, 3, 43, 3, 9), (.if_icmp .ge 26, 88, 3, 51, 114, 0), (.iload_n 3, 91, 1, 40, 3, 0), (.iload 4, 92, 2, 40, 4, 0), (.iconst (-1), 94, 1, 42, 4294967295, 0), (.ixor, 95, 1, 66, 0, 0), (.iand, 96, 1, 64, 0, 0), (.iload 5, 97, 2, 40, 5, 0), (.ishr, 99, 1, 71, 0, 0), (.iconst 1, 100, 1, 42, 1, 0), (.iand, 101, 1, 64, 0, 0), (.ifCond .eq 6, 102, 3, 56, 108, 0), (.iload 5, 105, 2, 40, 5, 0), (.ireturn, 107, 1, 1, 1, 0)]),
  (108, [(.iinc 5 1, 108, 3, 47, 5, 1), (.goto (-32), 111, 3, 45, 79, 0)]),
  (114, [(.iconst 0, 114, 1, 42, 0, 0), (.ireturn, 115, 1, 1, 1, 0)])]
def km_55 : mv_I := (yX4_lowestShared, cX4_lowestShared, 6, (some .int), 2, 0, 4, [])
def kb_56 : List (Nat × List mv_E) := [(0, [(.aload_n 0, 0, 1, 41, 0, 0), (.getfield 15, 1, 3, 43, 4, 1), (.iload_n 1, 4, 1, 40, 1, 0), (.iload_n 3, 5, 1, 40, 3, 0), (.iload 4, 6, 2, 40, 4, 0), (.invokevirtual 54, 8, 3, 4, 42, 0), (.istore 7, 11, 2, 46, 7, 0), (.aload_n 0, 13, 1, 41, 0, 0), (.getfield 15, 14, 3, 43, 4, 1), (.iload_n 2, 17, 1, 40, 2, 0), (.iload_n 3, 18, 1, 40, 3, 0), (.iload 4, 19, 2, 40, 4, 0), (.invokevirtual 54, 21, 3, 4, 42, 0), (.istore 8, 24, 2, 46, 8, 0), (.iload 7, 26, 2, 40, 7, 0), (.iload 8, 28, 2, 40, 8, 0), (.if_icmp .ne 6, 30, 3, 49, 36, 0), (.iload 7, 33, 2, 40, 7, 0), (.ireturn, 35, 1, 1, 1, 0)]),
  (36, [(.aload_n 0, 36, 1, 41, 0, 0), (.getfield 15, 37, 3, 43, 4, 1), (.getfield 61, 40, 3, 43, 3, 2), (.iconst 2, 43, 1, 42, 2, 0), (.iload_n 3, 44, 1, 40, 3, 0), (.imul, 45, 1, 62, 0, 0), (.iload 4, 46, 2, 40, 4, 0), (.iadd, 48, 1, 54, 0, 0), (.iaload, 49, 1, 44, 0, 0), (.iconst 2, 50, 1, 42, 2, 0), (.if_icmp .ne 7, 51, 3, 49, 58, 0), (.iconst 1, 54, 1, 42, 1, 0), (.goto 4, 55, 3, 45, 59, 0)]),
  (58, [(.iconst 0, 58, 1, 42, 0, 0)]),
  (59, [(.istore 9, 59, 2, 46, 9, 0), (.iload 5, 61, 2, 40, 5, 0), (.ifCond .ne 24, 63, 3, 57, 87, 0), (.iload 9, 66, 2, 40, 9, 0), (.ifCond .ne 19, 68, 3, 57, 87, 0), (.iload 7, 71, 2, 40, 7, 0), (.invokestatic 95, 73, 3, 6, 57, 0), (.ifCond .eq 11, 76, 3, 56, 87, 0), (.iload 8, 79, 2, 40, 8, 0), (.invokestatic 95, 81, 3, 6, 57, 0), (.ifCond .ne 5, 84, 3, 57, 89, 0)]),
  (87, [(.iconst (-1), 87, 1, 42, 4294967295, 0), (.ireturn, 88, 1, 1, 1, 0)]),
  (89, [(.iconst 3, 89, 1, 42, 3, 0), (.aload_n 0, 90, 1, 41, 0, 0), (.iload 7, 91, 2, 40, 7, 0), (.iconst 3, 93, 1, 42, 3, 0), (.idiv, 94, 1, 68, 0, 0), (.iload 8, 95, 2, 40, 8, 0), (.iconst 3, 97, 1, 42, 3, 0), (.idiv, 98, 1, 68, 0, 0), (.iconst 1, 99, 1, 42, 1, 0), (.iload 6, 100, 2, 40, 6, 0), (.iconst 1, 102, 1, 42, 1, 0), (.iadd, 103, 1, 54, 0, 0), (.invokevirtual 76, 104, 3, 4, 54, 0), (.imul, 107, 1, 62, 0, 0), (.iconst 1, 108, 1, 42, 1, 0), (.iadd, 109, 1, 54, 0, 0), (.ireturn, 110, 1, 1, 1, 0)])]
def km_56 : mv_I := (yX4_joinedArgument, cX4_joinedArgument, 10, (some .int), 6, 0, 4, [])
def kb_57 : List (Nat × List mv_E) := [(0, [(.iload_n 0, 0, 1, 40, 0, 0), (.ifCond .le 14, 1, 3, 61, 15, 0), (.iload_n 0, 4, 1, 40, 0, 0), (.iconst 3, 5, 1, 42, 3, 0), (.irem, 6, 1, 69, 0, 0), (.iconst 2, 7, 1, 42, 2, 0), (.if_icmp .eq 7, 8, 3, 48, 15, 0), (.iconst 1, 11, 1, 42, 1, 0), (.goto 4, 12, 3, 45, 16, 0)]),
  (15, [(.iconst 0, 15, 1, 42, 0, 0)]),
  (16, [(.ireturn, 16, 1, 1, 2, 0)])]
def km_57 : mv_I := (yX4_isExactOrOut, cX4_isExactOrOut, 1, (some .boolean), 1, 1, 4, [])
def kb_58 : List (Nat × List mv_E) := [(0, [(.iload_n 2, 0, 1, 40, 2, 0), (.iconst 4, 1, 1, 42, 4, 0), (.if_icmp .le 5, 2, 3, 53, 7, 0), (.iconst 0, 5, 1, 42, 0, 0), (.ireturn, 6, 1, 1, 2, 0)]),
  (7, [(.aload_n 0, 7, 1, 41, 0, 0), (.getfield 9, 8, 3, 43, 4, 0), (.getfield 19, 11, 3, 43, 2, 0), (.iload_n 1, 14, 1, 40, 1, 0), (.iaload, 15, 1, 44, 0, 0), (.iconst 5, 16, 1, 42, 5, 0), (.if_icmp .ne 20, 17, 3, 49, 37, 0), (.aload_n 0, 20, 1, 41, 0, 0), (.aload_n 0, 21, 1, 41, 0, 0), (.getfield 9, 22, 3, 43, 4, 0), (.getfield 39, 25, 3, 43, 2, 2), (.iload_n 1, 28, 1, 40, 1, 0), (.iaload, 29, 1, 44, 0, 0), (.iload_n 2, 30, 1, 40, 2, 0), (.iconst 1, 31, 1, 42, 1, 0), (.iadd, 32, 1, 54, 0, 0), (.invokevirtual 99, 33, 3, 4, 58, 0), (.ireturn, 36, 1, 1, 2, 0)]),
  (37, [(.aload_n 0, 37, 1, 41, 0, 0), (.getfield 9, 38, 3, 43, 4, 0), (.getfield 19, 41, 3, 43, 2, 0), (.iload_n 1, 44, 1, 40, 1, 0), (.iaload, 45, 1, 44, 0, 0), (.iconst 2, 46, 1, 42, 2, 0), (.if_icmp .ne 23, 47, 3, 49, 70, 0), (.aload_n 0, 50, 1, 41, 0, 0), (.iload_n 1, 51, 1, 40, 1, 0), (.iconst 0, 52, 1, 42, 0, 0), (.iload_n 2, 53, 1, 40, 2, 0), (.invokevirtual 102, 54, 3, 4, 59, 0), (.ifCond .eq 17, 57, 3, 56, 74, 0), (.aload_n 0, 60, 1, 41, 0, 0), (.iload_n 1, 61, 1, 40, 1, 0), (.iconst 1, 62, 1, 42, 1, 0), (.iload_n 2, 63, 1, 40, 2, 0), (.invokevirtual 102, 64, 3, 4, 59, 0), (.ifCond .eq 7, 67, 3, 56, 74, 0)]),
  (70, [(.iconst 1, 70, 1, 42, 1, 0), (.goto 4, 71, 3, 45, 75, 0)]),
  (74, [(.iconst 0, 74, 1, 42, 0, 0)]),
  (75, [(.ireturn, 75, 1, 1, 2, 0)])]
def km_58 : mv_I := (yX4_isKeeping, cX4_isKeeping, 3, (some .boolean), 2, 0, 4, [])
def kb_59 : List (Nat × List mv_E) := [(0, [(.iload_n 2, 0, 1, 40, 2, 0), (.ifCond .ne 15, 1, 3, 57, 16, 0), (.aload_n 0, 4, 1, 41, 0, 0), (.getfield 9, 5, 3, 43, 4, 0), (.getfield 39, 8, 3, 43, 2, 2), (.iload_n 1, 11, 1, 40, 1, 0), (.iaload, 12, 1, 44, 0, 0), (.goto 12, 13, 3, 45, 25, 0)]),
  (16, [(.aload_n 0, 16, 1, 41, 0, 0), (.getfield 9, 17, 3, 43, 4, 0), (.getfield 58, 20, 3, 43, 2, 3), (.iload_n 1, 23, 1, 40, 1, 0), (.iaload, 24, 1, 44, 0, 0)]),
  (25, [(.istore 4, 25, 2, 46, 4, 0), (.iload 4, 27, 2, 40, 4, 0), (.ifCond .gt 5, 29, 3, 60, 34, 0), (.iconst 1, 32, 1, 42, 1, 0), (.ireturn, 33, 1, 1, 2, 0)]),
  (34, [(.aload_n 0, 34, 1, 41, 0, 0), (.iload 4, 35, 2, 40, 4, 0), (.iconst 3, 37, 1, 42, 3, 0), (.idiv, 38, 1, 68, 0, 0), (.iload_n 3, 39, 1, 40, 3, 0), (.iconst 1, 40, 1, 42, 1, 0), (.iadd, 41, 1, 54, 0, 0), (.invokevirtual 99, 42, 3, 4, 58, 0), (.ifCond .ne 5, 45, 3, 57, 50, 0), (.iconst 0, 48, 1, 42, 0, 0), (.ireturn, 49, 1, 1, 2, 0)]),
  (50, [(.iload 4, 50, 2, 40, 4, 0), (.iconst 3, 52, 1, 42, 3, 0), (.irem, 53, 1, 69, 0, 0), (.iconst 2, 54, 1, 42, 2, 0), (.if_icmp .ne 5, 55, 3, 49, 60, 0), (.iconst 1, 58, 1, 42, 1, 0), (.ireturn, 59, 1, 1, 2, 0)]),
  (60, [(.aload_n 0, 60, 1, 41, 0, 0), (.getfield 9, 61, 3, 43, 4, 0), (.getfield 45, 64, 3, 43, 2, 1), (.iload_n 1, 67, 1, 40, 1, 0), (.iaload, 68, 1, 44, 0, 0), (.istore 5, 69, 2, 46, 5, 0), (.aload_n 0, 71, 1, 41, 0, 0), (.getfield 9, 72, 3, 43, 4, 0), (.aload_n 0, 75, 1, 41, 0, 0), (.getfield 15, 76, 3, 43, 4, 1), (.getfield 105, 79, 3, 43, 3, 3), (.iconst 2, 82, 1, 42, 2, 0), (.iload 5, 83, 2, 40, 5, 0), (.imul, 85, 1, 62, 0, 0), (.iload_n 2, 86, 1, 40, 2, 0), (.iadd, 87, 1, 54, 0, 0), (.iaload, 88, 1, 44, 0, 0), (.iload 5, 89, 2, 40, 5, 0), (.aload_n 0, 91, 1, 41, 0, 0), (.getfield 9, 92, 3, 43, 4, 0), (.getfield 39, 95, 3, 43, 2, 2), (.iload_n 1, 98, 1, 40, 1, 0), (.iaload, 99, 1, 44, 0, 0), (.aload_n 0, 100, 1, 41, 0, 0), (.getfield 9, 101, 3, 43, 4, 0), (.getfield 58, 104, 3, 43, 2, 3), (.iload_n 1, 107, 1, 40, 1, 0), (.iaload, 108, 1, 44, 0, 0), (.iconst 0, 109, 1, 42, 0, 0), (.invokevirtual 108, 110, 3, 5, 29, 0), (.istore 6, 113, 2, 46, 6, 0), (.aload_n 0, 115, 1, 41, 0, 0), (.iload 4, 116, 2, 40, 4, 0), (.iconst 3, 118, 1, 42, 3, 0), (.idiv, 119, 1, 68, 0, 0), (.iload 6, 120, 2, 40, 6, 0), (.iconst 0, 122, 1, 42, 0, 0), (.invokevirtual 31, 123, 3, 4, 48, 0), (.ireturn, 126, 1, 1, 2, 0)])]
def km_59 : mv_I := (yX4_isArgumentKeeping, cX4_isArgumentKeeping, 7, (some .boolean), 3, 0, 4, [])
def kb_60 : List (Nat × List mv_E) := [(0, [(.iconst 0, 0, 1, 42, 0, 0), (.istore_n 3, 1, 1, 46, 3, 0), (.iload_n 1, 2, 1, 40, 1, 0), (.istore 4, 3, 2, 46, 4, 0)]),
  (5, [(.aload_n 0, 5, 1, 41, 0, 0), (.getfield 9, 6, 3, 43, 4, 0), (.getfield 19, 9, 3, 43, 2, 0), (.iload 4, 12, 2, 40, 4, 0), (.iaload, 14, 1, 44, 0, 0), (.iconst 5, 15, 1, 42, 5, 0), (.if_icmp .ne 27, 16, 3, 49, 43, 0), (.iload_n 3, 19, 1, 40, 3, 0), (.bipush 40, 20, 2, 42, 40, 0), (.if_icmp .ge 21, 22, 3, 51, 43, 0), (.aload_n 0, 25, 1, 41, 0, 0), (.getfield 9, 26, 3, 43, 4, 0), (.getfield 39, 29, 3, 43, 2, 2), (.iload 4, 32, 2, 40, 4, 0), (.iaload, 34, 1, 44, 0, 0), (.istore 4, 35, 2, 46, 4, 0), (.iinc 3 1, 37, 3, 47, 3, 1), (.goto (-35), 40, 3, 45, 5, 0)]),
  (43, [(.sipush 1000, 43, 3, 42, 1000, 0), (.iload_n 3, 46, 1, 40, 3, 0), (.imul, 47, 1, 62, 0, 0), (.aload_n 0, 48, 1, 41, 0, 0), (.iload 4, 49, 2, 40, 4, 0), (.iload_n 2, 51, 1, 40, 2, 0), (.invokevirtual 112, 52, 3, 4, 61, 0), (.iadd, 55, 1, 54, 0, 0), (.ireturn, 56, 1, 1, 1, 0)])]
def km_60 : mv_I := (yX4_erased, cX4_erased, 5, (some .int), 2, 0, 4, [])
def kb_61 : List (Nat × List mv_E) := [(0, [(.aload_n 0, 0, 1, 41, 0, 0), (.getfield 9, 1, 3, 43, 4, 0), (.getfield 19, 4, 3, 43, 2, 0), (.iload_n 1, 7, 1, 40, 1, 0), (.iaload, 8, 1, 44, 0, 0), (.tableswitch 68 0 4 #[35, 38, 41, 68, 51], 9, 35, 97, 0, 0)]),
  (44, [(.bipush 100, 44, 2, 42, 100, 0), (.ireturn, 46, 1, 1, 1, 0)]),
  (47, [(.bipush 101, 47, 2, 42, 101, 0), (.ireturn, 49, 1, 1, 1, 0)]),
  (50, [(.aload_n 0, 50, 1, 41, 0, 0), (.getfield 9, 51, 3, 43, 4, 0), (.getfield 45, 54, 3, 43, 2, 1), (.iload_n 1, 57, 1, 40, 1, 0), (.iaload, 58, 1, 44, 0, 0), (.ireturn, 59, 1, 1, 1, 0)]),
  (60, [(.aload_n 0, 60, 1, 41, 0, 0), (.getfield 9, 61, 3, 43, 4, 0), (.getfield 45, 64, 3, 43, 2, 1), (.aload_n 0, 67, 1, 41, 0, 0), (.getfield 15, 68, 3, 43, 4, 1), (.iload_n 1, 71, 1, 40, 1, 0), (.invokevirtual 25, 72, 3, 4, 45, 0), (.iaload, 75, 1, 44, 0, 0), (.ireturn, 76, 1, 1, 1, 0)]),
  (77, [(.aload_n 0, 77, 1, 41, 0, 0), (.getfield 9, 78, 3, 43, 4, 0), (.getfield 45, 81, 3, 43, 2, 1), (.iload_n 2, 84, 1, 40, 2, 0), (.iaload, 85, 1, 44, 0, 0), (.ireturn, 86, 1, 1, 1, 0)])]
def km_61 : mv_I := (yX4_erasedInmost, cX4_erasedInmost, 3, (some .int), 2, 0, 4, [])
def kb_62 : List (Nat × List mv_E) := [(0, [(.aload_n 0, 0, 1, 41, 0, 0), (.getfield 9, 1, 3, 43, 4, 0), (.getfield 19, 4, 3, 43, 2, 0), (.iload_n 1, 7, 1, 40, 1, 0), (.iaload, 8, 1, 44, 0, 0), (.iconst 2, 9, 1, 42, 2, 0), (.if_icmp .eq 5, 10, 3, 48, 15, 0), (.iconst 0, 13, 1, 42, 0, 0), (.ireturn, 14, 1, 1, 2, 0)]),
  (15, [(.aload_n 0, 15, 1, 41, 0, 0), (.getfield 9, 16, 3, 43, 4, 0), (.getfield 45, 19, 3, 43, 2, 1), (.iload_n 1, 22, 1, 40, 1, 0), (.iaload, 23, 1, 44, 0, 0), (.istore_n 3, 24, 1, 46, 3, 0), (.aload_n 0, 25, 1, 41, 0, 0), (.iload_n 3, 26, 1, 40, 3, 0), (.iload_n 2, 27, 1, 40, 2, 0), (.invokevirtual 115, 28, 3, 4, 63, 0), (.ifCond .eq 5, 31, 3, 56, 36, 0), (.iconst 1, 34, 1, 42, 1, 0), (.ireturn, 35, 1, 1, 2, 0)]),
  (36, [(.aload_n 0, 36, 1, 41, 0, 0), (.getfield 15, 37, 3, 43, 4, 1), (.getfield 118, 40, 3, 43, 3, 8), (.iload_n 3, 43, 1, 40, 3, 0), (.ishr, 44, 1, 71, 0, 0), (.iconst 1, 45, 1, 42, 1, 0), (.iand, 46, 1, 64, 0, 0), (.ifCond .ne 5, 47, 3, 57, 52, 0), (.iconst 0, 50, 1, 42, 0, 0), (.ireturn, 51, 1, 1, 2, 0)]),
  (52, [(.aload_n 0, 52, 1, 41, 0, 0), (.getfield 15, 53, 3, 43, 4, 1), (.iload_n 3, 56, 1, 40, 3, 0), (.invokevirtual 121, 57, 3, 4, 38, 0), (.aload_n 0, 60, 1, 41, 0, 0), (.iload_n 3, 61, 1, 40, 3, 0), (.iload_n 2, 62, 1, 40, 2, 0), (.invokevirtual 124, 63, 3, 4, 64, 0), (.iconst (-1), 66, 1, 42, 4294967295, 0), (.ixor, 67, 1, 66, 0, 0), (.iand, 68, 1, 64, 0, 0), (.istore 4, 69, 2, 46, 4, 0), (.iload_n 3, 71, 1, 40, 3, 0), (.iconst 1, 72, 1, 42, 1, 0), (.iadd, 73, 1, 54, 0, 0), (.istore 5, 74, 2, 46, 5, 0)]),
  (76, [(.iload 5, 76, 2, 40, 5, 0), (.aload_n 0, 78, 1, 41, 0, 0), (.getfield 15, 79, 3, 43, 4, 1), (.getfield 94, 82, 3, 43, 3, 9), (.if_icmp .ge 31, 85, 3, 51, 116, 0), (.iload 4, 88, 2, 40, 4, 0), (.iload 5, 90, 2, 40, 5, 0), (.ishr, 92, 1, 71, 0, 0), (.iconst 1, 93, 1, 42, 1, 0), (.iand, 94, 1, 64, 0, 0), (.ifCond .eq 15, 95, 3, 56, 110, 0), (.aload_n 0, 98, 1, 41, 0, 0), (.iload 5, 99, 2, 40, 5, 0), (.iload_n 1, 101, 1, 40, 1, 0), (.invokevirtual 127, 102, 3, 4, 65, 0), (.ifCond .ne 5, 105, 3, 57, 110, 0), (.iconst 0, 108, 1, 42, 0, 0), (.ireturn, 109, 1, 1, 2, 0)]),
  (110, [(.iinc 5 1, 110, 3, 47, 5, 1), (.goto (-37), 113, 3, 45, 76, 0)]),
  (116, [(.iconst 1, 116, 1, 42, 1, 0), (.ireturn, 117, 1, 1, 2, 0)])]
def km_62 : mv_I := (yX4_isCovered, cX4_isCovered, 6, (some .boolean), 2, 0, 4, [])
def kb_63 : List (Nat × List mv_E) := [(0, [(.iconst 1, 0, 1, 42, 1, 0), (.iload_n 1, 1, 1, 40, 1, 0), (.ishl, 2, 1, 70, 0, 0), (.aload_n 0, 3, 1, 41, 0, 0), (.getfield 15, 4, 3, 43, 4, 1), (.getfield 91, 7, 3, 43, 3, 6), (.iload_n 1, 10, 1, 40, 1, 0), (.iaload, 11, 1, 44, 0, 0), (.ior, 12, 1, 65, 0, 0), (.iload_n 2, 13, 1, 40, 2, 0), (.iand, 14, 1, 64, 0, 0), (.ifCond .eq 7, 15, 3, 56, 22, 0), (.iconst 1, 18, 1, 42, 1, 0), (.goto 4, 19, 3, 45, 23, 0)]),
  (22, [(.iconst 0, 22, 1, 42, 0, 0)]),
  (23, [(.ireturn, 23, 1, 1, 2, 0)])]
def km_63 : mv_I := (yX4_isNamed, cX4_isNamed, 3, (some .boolean), 2, 0, 4, [])
def kb_64 : List (Nat × List mv_E) := [(0, [(.iconst 0, 0, 1, 42, 0, 0), (.istore_n 3, 1, 1, 46, 3, 0), (.aload_n 0, 2, 1, 41, 0, 0), (.getfield 15, 3, 3, 43, 4, 1), (.getfield 94, 6, 3, 43, 3, 9), (.iconst 1, 9, 1, 42, 1, 0), (.isub, 10, 1, 67, 0, 0), (.istore 4, 11, 2, 46, 4, 0)]),
  (13, [(.iload 4, 13, 2, 40, 4, 0), (.iload_n 1, 15, 1, 40, 1, 0), (.if_icmp .le 69, 16, 3, 53, 85, 0), (.aload_n 0, 19, 1, 41, 0, 0), (.getfield 15, 20, 3, 43, 4, 1), (.getfield 118, 23, 3, 43, 3, 8), (.iload 4, 26, 2, 40, 4, 0), (.ishr, 28, 1, 71, 0, 0), (.iconst 1, 29, 1, 42, 1, 0), (.iand, 30, 1, 64, 0, 0), (.ifCond .eq 7, 31, 3, 56, 38, 0), (.iconst 1, 34, 1, 42, 1, 0), (.goto 4, 35, 3, 45, 39, 0)]),
  (38, [(.iconst 0, 38, 1, 42, 0, 0)]),
  (39, [(.istore 5, 39, 2, 46, 5, 0), (.aload_n 0, 41, 1, 41, 0, 0), (.iload 4, 42, 2, 40, 4, 0), (.iload_n 2, 44, 1, 40, 2, 0), (.invokevirtual 115, 45, 3, 4, 63, 0), (.ifCond .ne 24, 48, 3, 57, 72, 0), (.iload 5, 51, 2, 40, 5, 0), (.ifCond .eq 26, 53, 3, 56, 79, 0), (.aload_n 0, 56, 1, 41, 0, 0), (.getfield 15, 57, 3, 43, 4, 1), (.iload 4, 60, 2, 40, 4, 0), (.invokevirtual 121, 62, 3, 4, 38, 0), (.iload_n 3, 65, 1, 40, 3, 0), (.iconst (-1), 66, 1, 42, 4294967295, 0), (.ixor, 67, 1, 66, 0, 0), (.iand, 68, 1, 64, 0, 0), (.ifCond .ne 10, 69, 3, 57, 79, 0)]),
  (72, [(.iload_n 3, 72, 1, 40, 3, 0), (.iconst 1, 73, 1, 42, 1, 0), (.iload 4, 74, 2, 40, 4, 0), (.ishl, 76, 1, 70, 0, 0), (.ior, 77, 1, 65, 0, 0), (.istore_n 3, 78, 1, 46, 3, 0)]),
  (79, [(.iinc 4 (-1), 79, 3, 47, 4, 4294967295), (.goto (-69), 82, 3, 45, 13, 0)]),
  (85, [(.iload_n 3, 85, 1, 40, 3, 0), (.ireturn, 86, 1, 1, 1, 0)])]
def km_64 : mv_I := (yX4_coveredBelow, cX4_coveredBelow, 6, (some .int), 2, 0, 4, [])
def kb_65 : List (Nat × List mv_E) := [(0, [(.aload_n 0, 0, 1, 41, 0, 0), (.getfield 9, 1, 3, 43, 4, 0), (.getfield 45, 4, 3, 43, 2, 1), (.iload_n 2, 7, 1, 40, 2, 0), (.iaload, 8, 1, 44, 0, 0), (.istore_n 3, 9, 1, 46, 3, 0), (.iconst 0, 10, 1, 42, 0, 0), (.istore 4, 11, 2, 46, 4, 0)]),
  (13, [(.iload 4, 13, 2, 40, 4, 0), (.aload_n 0, 15, 1, 41, 0, 0), (.getfield 15, 16, 3, 43, 4, 1), (.iload_n 1, 19, 1, 40, 1, 0), (.invokevirtual 130, 20, 3, 4, 34, 0), (.if_icmp .ge 113, 23, 3, 51, 136, 0), (.aload_n 0, 26, 1, 41, 0, 0), (.getfield 15, 27, 3, 43, 4, 1), (.iload_n 1, 30, 1, 40, 1, 0), (.iload 4, 31, 2, 40, 4, 0), (.invokevirtual 133, 33, 3, 4, 35, 0), (.istore 5, 36, 2, 46, 5, 0), (.aload_n 0, 38, 1, 41, 0, 0), (.getfield 9, 39, 3, 43, 4, 0), (.getfield 45, 42, 3, 43, 2, 1), (.iload 5, 45, 2, 40, 5, 0), (.iaload, 47, 1, 44, 0, 0), (.iload_n 3, 48, 1, 40, 3, 0), (.if_icmp .ne 81, 49, 3, 49, 130, 0), (.aload_n 0, 52, 1, 41, 0, 0), (.aload_n 0, 53, 1, 41, 0, 0), (.getfield 9, 54, 3, 43, 4, 0), (.getfield 39, 57, 3, 43, 2, 2), (.iload 5, 60, 2, 40, 5, 0), (.iaload, 62, 1, 44, 0, 0), (.aload_n 0, 63, 1, 41, 0, 0), (.getfield 9, 64, 3, 43, 4, 0), (.getfield 39, 67, 3, 43, 2, 2), (.iload_n 2, 70, 1, 40, 2, 0), (.iaload, 71, 1, 44, 0, 0), (.aload_n 0, 72, 1, 41, 0, 0), (.getfield 15, 73, 3, 43, 4, 1), (.getfield 61, 76, 3, 43, 3, 2), (.iconst 2, 79, 1, 42, 2, 0), (.iload_n 3, 80, 1, 40, 3, 0), (.imul, 81, 1, 62, 0, 0), (.iaload, 82, 1, 44, 0, 0), (.invokevirtual 136, 83, 3, 4, 66, 0), (.ifCond .ne 42, 86, 3, 57, 128, 0), (.aload_n 0, 89, 1, 41, 0, 0), (.aload_n 0, 90, 1, 41, 0, 0), (.getfield 9, 91, 3, 43, 4, 0), (.getfield 58, 94, 3, 43, 2, 3), (.iload 5, 97, 2, 40, 5, 0), (.iaload, 99, 1, 44, 0, 0), (.aload_n 0, 100, 1, 41, 0, 0), (.getfield 9, 101, 3, 43, 4, 0), (.getfield 58, 104, 3, 43, 2, 3), (.iload_n 2, 107, 1, 40, 2, 0), (.iaload, 108, 1, 44, 0, 0), (.aload_n 0, 109, 1, 41, 0, 0), (.getfield 15, 110, 3, 43, 4, 1), (.getfield 61, 113, 3, 43, 3, 2), (.iconst 2, 116, 1, 42, 2, 0), (.iload_n 3, 117, 1, 40, 3, 0), (.imul, 118, 1, 62, 0, 0), (.iconst 1, 119, 1, 42, 1, 0), (.iadd, 120, 1, 54, 0, 0), (.iaload, 121, 1, 44, 0, 0), (.invokevirtual 136, 122, 3, 4, 66, 0), (.ifCond .eq 5, 125, 3, 56, 130, 0)]),
  (128, [(.iconst 1, 128, 1, 42, 1, 0), (.ireturn, 129, 1, 1, 2, 0)]),
  (130, [(.iinc 4 1, 130, 3, 47, 4, 1), (.goto (-120), 133, 3, 45, 13, 0)]),
  (136, [(.iconst 0, 136, 1, 42, 0, 0), (.ireturn, 137, 1, 1, 2, 0)])]
def km_65 : mv_I := (yX4_isImpossible, cX4_isImpossible, 6, (some .boolean), 2, 0, 4, [])
def kb_66 : List (Nat × List mv_E) := [(0, [(.iload_n 1, 0, 1, 40, 1, 0), (.ifCond .ne 5, 1, 3, 57, 6, 0), (.iconst 0, 4, 1, 42, 0, 0), (.ireturn, 5, 1, 1, 2, 0)]),
  (6, [(.iload_n 1, 6, 1, 40, 1, 0), (.iconst (-1), 7, 1, 42, 4294967295, 0), (.if_icmp .eq 17, 8, 3, 48, 25, 0), (.aload_n 0, 11, 1, 41, 0, 0), (.getfield 9, 12, 3, 43, 4, 0), (.getfield 139, 15, 3, 43, 2, 6), (.iload_n 1, 18, 1, 40, 1, 0), (.iconst 3, 19, 1, 42, 3, 0), (.idiv, 20, 1, 68, 0, 0), (.iaload, 21, 1, 44, 0, 0), (.ifCond .ne 7, 22, 3, 57, 29, 0)]),
  (25, [(.iconst 1, 25, 1, 42, 1, 0), (.goto 4, 26, 3, 45, 30, 0)]),
  (29, [(.iconst 0, 29, 1, 42, 0, 0)]),
  (30, [(.istore 4, 30, 2, 46, 4, 0), (.iload 4, 32, 2, 40, 4, 0), (.ifCond .eq 18, 34, 3, 56, 52, 0), (.aload_n 0, 37, 1, 41, 0, 0), (.iload_n 1, 38, 1, 40, 1, 0), (.iload_n 2, 39, 1, 40, 2, 0), (.iload_n 3, 40, 1, 40, 3, 0), (.iconst 0, 41, 1, 42, 0, 0), (.invokevirtual 64, 42, 3, 4, 51, 0), (.ifCond .ne 7, 45, 3, 57, 52, 0), (.iconst 1, 48, 1, 42, 1, 0), (.goto 4, 49, 3, 45, 53, 0)]),
  (52, [(.iconst 0, 52, 1, 42, 0, 0)]),
  (53, [(.ireturn, 53, 1, 1, 2, 0)])]
def km_66 : mv_I := (yX4_isAgainst, cX4_isAgainst, 5, (some .boolean), 3, 0, 4, [])
def kb_67 : List (Nat × List mv_E) := [(0, [(.aload_n 0, 0, 1, 41, 0, 0), (.invokespecial 3, 1, 3, 3, 0, 0), (.aload_n 0, 4, 1, 41, 0, 0), (.bipush 20, 5, 2, 42, 20, 0), (.newarray .int, 7, 2, 86, 0, 0), (.putfield 9, 9, 3, 55, 5, 22), (.aload_n 0, 12, 1, 41, 0, 0), (.bipush 20, 13, 2, 42, 20, 0), (.newarray .int, 15, 2, 86, 0, 0), (.putfield 15, 17, 3, 55, 5, 26), (.aload_n 0, 20, 1, 41, 0, 0), (.bipush 20, 21, 2, 42, 20, 0), (.newarray .int, 23, 2, 86, 0, 0), (.putfield 18, 25, 3, 55, 5, 30), (.aload_n 0, 28, 1, 41, 0, 0), (.bipush 20, 29, 2, 42, 20, 0), (.newarray .int, 31, 2, 86, 0, 0), (.putfield 21, 33, 3, 55, 5, 34), (.aload_n 0, 36, 1, 41, 0, 0), (.bipush 20, 37, 2, 42, 20, 0), (.newarray .boolean, 39, 2, 86, 2, 0), (.putfield 24, 41, 3, 55, 5, 38), (.aload_n 0, 44, 1, 41, 0, 0), (.bipush 20, 45, 2, 42, 20, 0), (.newarray .boolean, 47, 2, 86, 2, 0), (.putfield 28, 49, 3, 55, 5, 42), (.aload_n 0, 52, 1, 41, 0, 0), (.bipush 14, 53, 2, 42, 14, 0), (.newarray .boolean, 55, 2, 86, 2, 0), (.putfield 31, 57, 3, 55, 5, 46), (.aload_n 0, 60, 1, 41, 0, 0), (.bipush 14, 61, 2, 42, 14, 0), (.newarray .int, 63, 2, 86, 0, 0), (.putfield 34, 65, 3, 55, 5, 50), (.aload_n 0, 68, 1, 41, 0, 0), (.bipush 14, 69, 2, 42, 14, 0), (.newarray .int, 71, 2, 86, 0, 0), (.putfield 37, 73, 3, 55, 5, 54), (.aload_n 0, 76, 1, 41, 0, 0), (.bipush 60, 77, 2, 42, 60, 0), (.newarray .int, 79, 2, 86, 0, 0), (.putfield 40, 81, 3, 55, 5, 58), (.aload_n 0, 84, 1, 41, 0, 0), (.bipush 20, 85, 2, 42, 20, 0), (.newarray .int, 87, 2, 86, 0, 0), (.putfield 43, 89, 3, 55, 5, 62), (.aload_n 0, 92, 1, 41, 0, 0), (.aload_n 1, 93, 1, 41, 1, 0), (.putfield 46, 94, 3, 55, 5, 2), (.aload_n 0, 97, 1, 41, 0, 0), (.aload_n 2, 98, 1, 41, 2, 0), (.putfield 50, 99, 3, 55, 5, 6), (.aload_n 0, 102, 1, 41, 0, 0), (.aload_n 3, 103, 1, 41, 3, 0), (.putfield 54, 104, 3, 55, 5, 10), (.aload_n 0, 107, 1, 41, 0, 0), (.aload 4, 108, 2, 41, 4, 0), (.putfield 58, 110, 3, 55, 5, 14), (.aload_n 0, 113, 1, 41, 0, 0), (.aload 5, 114, 2, 41, 5, 0), (.putfield 62, 116, 3, 55, 5, 18), (.return_, 119, 1, 1, 0, 0)])]
def km_67 : mv_I := (yX5_init, cX5_init, 6, none, 5, 2, 5, [])
def kb_68 : List (Nat × List mv_E) := [(0, [(.aload_n 0, 0, 1, 41, 0, 0), (.getfield 46, 1, 3, 43, 5, 0), (.getfield 66, 4, 3, 43, 2, 9), (.istore_n 1, 7, 1, 46, 1, 0), (.iconst 0, 8, 1, 42, 0, 0), (.istore_n 2, 9, 1, 46, 2, 0)]),
  (10, [(.iload_n 2, 10, 1, 40, 2, 0), (.aload_n 0, 11, 1, 41, 0, 0), (.getfield 50, 12, 3, 43, 5, 1), (.getfield 72, 15, 3, 43, 3, 9), (.if_icmp .ge 39, 18, 3, 51, 57, 0), (.aload_n 0, 21, 1, 41, 0, 0), (.getfield 31, 22, 3, 43, 5, 11), (.iload_n 2, 25, 1, 40, 2, 0), (.aload_n 0, 26, 1, 41, 0, 0), (.iload_n 2, 27, 1, 40, 2, 0), (.invokevirtual 75, 28, 3, 4, 72, 0), (.bastore, 31, 1, 84, 0, 0), (.aload_n 0, 32, 1, 41, 0, 0), (.getfield 34, 33, 3, 43, 5, 12), (.iload_n 2, 36, 1, 40, 2, 0), (.aload_n 0, 37, 1, 41, 0, 0), (.iload_n 2, 38, 1, 40, 2, 0), (.invokevirtual 79, 39, 3, 4, 73, 0), (.iastore, 42, 1, 63, 0, 0), (.aload_n 0, 43, 1, 41, 0, 0), (.getfield 46, 44, 3, 43, 5, 0), (.iload_n 1, 47, 1, 40, 1, 0), (.invokevirtual 83, 48, 3, 4, 24, 0), (.iinc 2 1, 51, 3, 47, 2, 1), (.goto (-44), 54, 3, 45, 10, 0)]),
  (57, [(.iconst 0, 57, 1, 42, 0, 0), (.istore_n 2, 58, 1, 46, 2, 0)]),
  (59, [(.iload_n 2, 59, 1, 40, 2, 0), (.aload_n 0, 60, 1, 41, 0, 0), (.getfield 58, 61, 3, 43, 5, 3), (.getfield 87, 64, 3, 43, 6, 7), (.if_icmp .ge 44, 67, 3, 51, 111, 0), (.aload_n 0, 70, 1, 41, 0, 0), (.iload_n 2, 71, 1, 40, 2, 0), (.invokevirtual 90, 72, 3, 4, 82, 0), (.aload_n 0, 75, 1, 41, 0, 0), (.getfield 24, 76, 3, 43, 5, 9), (.iload_n 2, 79, 1, 40, 2, 0), (.aload_n 0, 80, 1, 41, 0, 0), (.iload_n 2, 81, 1, 40, 2, 0), (.invokevirtual 93, 82, 3, 4, 74, 0), (.bastore, 85, 1, 84, 0, 0), (.aload_n 0, 86, 1, 41, 0, 0), (.getfield 28, 87, 3, 43, 5, 10), (.iload_n 2, 90, 1, 40, 2, 0), (.aload_n 0, 91, 1, 41, 0, 0), (.iload_n 2, 92, 1, 40, 2, 0), (.invokevirtual 96, 93, 3, 4, 76, 0), (.bastore, 96, 1, 84, 0, 0), (.aload_n 0, 97, 1, 41, 0, 0), (.getfield 46, 98, 3, 43, 5, 0), (.iload_n 1, 101, 1, 40, 1, 0), (.invokevirtual 83, 102, 3, 4, 24, 0), (.iinc 2 1, 105, 3, 47, 2, 1), (.goto (-49), 108, 3, 45, 59, 0)]),
  (111, [(.iconst 0, 111, 1, 42, 0, 0), (.istore_n 2, 112, 1, 46, 2, 0)]),
  (113, [(.iload_n 2, 113, 1, 40, 2, 0), (.aload_n 0, 114, 1, 41, 0, 0), (.getfield 58, 115, 3, 43, 5, 3), (.getfield 87, 118, 3, 43, 6, 7), (.if_icmp .ge 33, 121, 3, 51, 154, 0), (.aload_n 0, 124, 1, 41, 0, 0), (.iload_n 2, 125, 1, 40, 2, 0), (.invokevirtual 99, 126, 3, 4, 77, 0), (.aload_n 0, 129, 1, 41, 0, 0), (.getfield 21, 130, 3, 43, 5, 8), (.iload_n 2, 133, 1, 40, 2, 0), (.aload_n 0, 134, 1, 41, 0, 0), (.iload_n 2, 135, 1, 40, 2, 0), (.invokevirtual 102, 136, 3, 4, 85, 0), (.iastore, 139, 1, 63, 0, 0), (.aload_n 0, 140, 1, 41, 0, 0), (.getfield 46, 141, 3, 43, 5, 0), (.iload_n 1, 144, 1, 40, 1, 0), (.invokevirtual 83, 145, 3, 4, 24, 0), (.iinc 2 1, 148, 3, 47, 2, 1), (.goto (-38), 151, 3, 45, 113, 0)]),
  (154, [(.aload_n 0, 154, 1, 41, 0, 0), (.getfield 62, 155, 3, 43, 5, 4), (.aload_n 0, 158, 1, 41, 0, 0), (.invokevirtual 105, 159, 3, 4, 16, 0), (.return_, 162, 1, 1, 0, 0)])]
def km_68 : mv_I := (yX5_refresh, cX5_refresh, 3, none, 0, 0, 5, [])
def kb_69 : List (Nat × List mv_E) := [(0, [(.aload_n 0, 0, 1, 41, 0, 0), (.getfield 58, 1, 3, 43, 5, 3), (.iconst 1, 4, 1, 42, 1, 0), (.iload_n 1, 5, 1, 40, 1, 0), (.ishl, 6, 1, 70, 0, 0), (.aload_n 0, 7, 1, 41, 0, 0), (.getfield 50, 8, 3, 43, 5, 1), (.getfield 111, 11, 3, 43, 3, 6), (.iload_n 1, 14, 1, 40, 1, 0), (.iaload, 15, 1, 44, 0, 0), (.ior, 16, 1, 65, 0, 0), (.invokevirtual 114, 17, 3, 4, 94, 0), (.istore_n 2, 20, 1, 46, 2, 0), (.iconst 0, 21, 1, 42, 0, 0), (.istore_n 3, 22, 1, 46, 3, 0), (.iconst 0, 23, 1, 42, 0, 0), (.istore 4, 24, 2, 46, 4, 0)]),
  (26, [(.iload 4, 26, 2, 40, 4, 0), (.aload_n 0, 28, 1, 41, 0, 0), (.getfield 58, 29, 3, 43, 5, 3), (.getfield 87, 32, 3, 43, 6, 7), (.if_icmp .ge 28, 35, 3, 51, 63, 0), (.iload_n 2, 38, 1, 40, 2, 0), (.iload 4, 39, 2, 40, 4, 0), (.ishr, 41, 1, 71, 0, 0), (.iconst 1, 42, 1, 42, 1, 0), (.iand, 43, 1, 64, 0, 0), (.ifCond .eq 13, 44, 3, 56, 57, 0), (.iload_n 3, 47, 1, 40, 3, 0), (.aload_n 0, 48, 1, 41, 0, 0), (.getfield 9, 49, 3, 43, 5, 5), (.iload 4, 52, 2, 40, 4, 0), (.iaload, 54, 1, 44, 0, 0), (.ior, 55, 1, 65, 0, 0), (.istore_n 3, 56, 1, 46, 3, 0)]),
  (57, [(.iinc 4 1, 57, 3, 47, 4, 1), (.goto (-34), 60, 3, 45, 26, 0)]),
  (63, [(.iload_n 2, 63, 1, 40, 2, 0), (.iload_n 3, 64, 1, 40, 3, 0), (.iconst (-1), 65, 1, 42, 4294967295, 0), (.ixor, 66, 1, 66, 0, 0), (.iand, 67, 1, 64, 0, 0), (.ireturn, 68, 1, 1, 1, 0)])]
def km_69 : mv_I := (yX5_membersOf, cX5_membersOf, 5, (some .int), 1, 0, 5, [])
def kb_70 : List (Nat × List mv_E) := [(0, [(.iconst 0, 0, 1, 42, 0, 0), (.istore_n 2, 1, 1, 46, 2, 0), (.iconst 0, 2, 1, 42, 0, 0), (.istore_n 3, 3, 1, 46, 3, 0)]),
  (4, [(.iload_n 3, 4, 1, 40, 3, 0), (.aload_n 0, 5, 1, 41, 0, 0), (.getfield 58, 6, 3, 43, 5, 3), (.getfield 87, 9, 3, 43, 6, 7), (.if_icmp .ge 31, 12, 3, 51, 43, 0), (.aload_n 0, 15, 1, 41, 0, 0), (.getfield 58, 16, 3, 43, 5, 3), (.getfield 117, 19, 3, 43, 6, 0), (.iload_n 3, 22, 1, 40, 3, 0), (.iaload, 23, 1, 44, 0, 0), (.iload_n 1, 24, 1, 40, 1, 0), (.if_icmp .ne 12, 25, 3, 49, 37, 0), (.iload_n 2, 28, 1, 40, 2, 0), (.aload_n 0, 29, 1, 41, 0, 0), (.getfield 21, 30, 3, 43, 5, 8), (.iload_n 3, 33, 1, 40, 3, 0), (.iaload, 34, 1, 44, 0, 0), (.iadd, 35, 1, 54, 0, 0), (.istore_n 2, 36, 1, 46, 2, 0)]),
  (37, [(.iinc 3 1, 37, 3, 47, 3, 1), (.goto (-36), 40, 3, 45, 4, 0)]),
  (43, [(.iload_n 2, 43, 1, 40, 2, 0), (.ireturn, 44, 1, 1, 1, 0)])]
def km_70 : mv_I := (yX5_bridgesOfKind, cX5_bridgesOfKind, 4, (some .int), 1, 0, 5, [])
def kb_71 : List (Nat × List mv_E) := [(0, [(.iconst 0, 0, 1, 42, 0, 0), (.istore_n 1, 1, 1, 46, 1, 0), (.iconst 0, 2, 1, 42, 0, 0), (.istore_n 2, 3, 1, 46, 2, 0)]),
  (4, [(.iload_n 2, 4, 1, 40, 2, 0), (.aload_n 0, 5, 1, 41, 0, 0), (.getfield 58, 6, 3, 43, 5, 3), (.getfield 87, 9, 3, 43, 6, 7), (.if_icmp .ge 18, 12, 3, 51, 30, 0), (.iload_n 1, 15, 1, 40, 1, 0), (.aload_n 0, 16, 1, 41, 0, 0), (.getfield 21, 17, 3, 43, 5, 8), (.iload_n 2, 20, 1, 40, 2, 0), (.iaload, 21, 1, 44, 0, 0), (.iadd, 22, 1, 54, 0, 0), (.istore_n 1, 23, 1, 46, 1, 0), (.iinc 2 1, 24, 3, 47, 2, 1), (.goto (-23), 27, 3, 45, 4, 0)]),
  (30, [(.iload_n 1, 30, 1, 40, 1, 0), (.ireturn, 31, 1, 1, 1, 0)])]
def km_71 : mv_I := (yX5_allBridges, cX5_allBridges, 3, (some .int), 0, 0, 5, [])
def kb_72 : List (Nat × List mv_E) := [(0, [(.aload_n 0, 0, 1, 41, 0, 0), (.getfield 37, 1, 3, 43, 5, 13), (.iconst (-1), 4, 1, 42, 4294967295, 0), (.invokestatic 119, 5, 3, 6, 246, 0), (.aload_n 0, 8, 1, 41, 0, 0), (.getfield 37, 9, 3, 43, 5, 13), (.iload_n 1, 12, 1, 40, 1, 0), (.aload_n 0, 13, 1, 41, 0, 0), (.getfield 50, 14, 3, 43, 5, 1), (.iload_n 1, 17, 1, 40, 1, 0), (.invokevirtual 125, 18, 3, 4, 44, 0), (.iastore, 21, 1, 63, 0, 0), (.iload_n 1, 22, 1, 40, 1, 0), (.istore_n 2, 23, 1, 46, 2, 0)]),
  (24, [(.iload_n 2, 24, 1, 40, 2, 0), (.ifCond .le 128, 25, 3, 61, 153, 0), (.aload_n 0, 28, 1, 41, 0, 0), (.getfield 37, 29, 3, 43, 5, 13), (.iload_n 2, 32, 1, 40, 2, 0), (.iaload, 33, 1, 44, 0, 0), (.istore_n 3, 34, 1, 46, 3, 0), (.iconst 0, 35, 1, 42, 0, 0), (.istore 4, 36, 2, 46, 4, 0)]),
  (38, [(.iload_n 3, 38, 1, 40, 3, 0), (.iconst (-1), 39, 1, 42, 4294967295, 0), (.if_icmp .eq 107, 40, 3, 48, 147, 0), (.iload 4, 43, 2, 40, 4, 0), (.aload_n 0, 45, 1, 41, 0, 0), (.getfield 50, 46, 3, 43, 5, 1), (.iload_n 2, 49, 1, 40, 2, 0), (.invokevirtual 128, 50, 3, 4, 34, 0), (.if_icmp .ge 94, 53, 3, 51, 147, 0), (.aload_n 0, 56, 1, 41, 0, 0), (.getfield 46, 57, 3, 43, 5, 0), (.aload_n 0, 60, 1, 41, 0, 0), (.getfield 50, 61, 3, 43, 5, 1), (.iload_n 2, 64, 1, 40, 2, 0), (.iload 4, 65, 2, 40, 4, 0), (.invokevirtual 131, 67, 3, 4, 35, 0), (.iload_n 2, 70, 1, 40, 2, 0), (.aload_n 0, 71, 1, 41, 0, 0), (.getfield 46, 72, 3, 43, 5, 0), (.getfield 135, 75, 3, 43, 2, 2), (.iload_n 3, 78, 1, 40, 3, 0), (.iaload, 79, 1, 44, 0, 0), (.aload_n 0, 80, 1, 41, 0, 0), (.getfield 46, 81, 3, 43, 5, 0), (.getfield 138, 84, 3, 43, 2, 3), (.iload_n 3, 87, 1, 40, 3, 0), (.iaload, 88, 1, 44, 0, 0), (.iconst 0, 89, 1, 42, 0, 0), (.invokevirtual 141, 90, 3, 5, 29, 0), (.istore 5, 93, 2, 46, 5, 0), (.aload_n 0, 95, 1, 41, 0, 0), (.getfield 46, 96, 3, 43, 5, 0), (.getfield 145, 99, 3, 43, 2, 1), (.iload 5, 102, 2, 40, 5, 0), (.iaload, 104, 1, 44, 0, 0), (.istore 6, 105, 2, 46, 6, 0), (.aload_n 0, 107, 1, 41, 0, 0), (.getfield 37, 108, 3, 43, 5, 13), (.iload 6, 111, 2, 40, 6, 0), (.iaload, 113, 1, 44, 0, 0), (.iconst (-1), 114, 1, 42, 4294967295, 0), (.if_icmp .eq 17, 115, 3, 48, 132, 0), (.aload_n 0, 118, 1, 41, 0, 0), (.getfield 37, 119, 3, 43, 5, 13), (.iload 6, 122, 2, 40, 6, 0), (.iaload, 124, 1, 44, 0, 0), (.iload 5, 125, 2, 40, 5, 0), (.if_icmp .eq 5, 127, 3, 48, 132, 0), (.iconst 1, 130, 1, 42, 1, 0), (.ireturn, 131, 1, 1, 2, 0)]),
  (132, [(.aload_n 0, 132, 1, 41, 0, 0), (.getfield 37, 133, 3, 43, 5, 13), (.iload 6, 136, 2, 40, 6, 0), (.iload 5, 138, 2, 40, 5, 0), (.iastore, 140, 1, 63, 0, 0), (.iinc 4 1, 141, 3, 47, 4, 1), (.goto (-106), 144, 3, 45, 38, 0)]),
  (147, [(.iinc 2 (-1), 147, 3, 47, 2, 4294967295), (.goto (-126), 150, 3, 45, 24, 0)]),
  (153, [(.iconst 0, 153, 1, 42, 0, 0), (.ireturn, 154, 1, 1, 2, 0)])]
def km_72 : mv_I := (yX5_isReachedTwofold, cX5_isReachedTwofold, 7, (some .boolean), 1, 0, 5, [])
def kb_73 : List (Nat × List mv_E) := [(0, [(.iconst 0, 0, 1, 42, 0, 0), (.istore_n 2, 1, 1, 46, 2, 0), (.iconst 0, 2, 1, 42, 0, 0), (.istore_n 3, 3, 1, 46, 3, 0)]),
  (4, [(.iload_n 3, 4, 1, 40, 3, 0), (.aload_n 0, 5, 1, 41, 0, 0), (.getfield 50, 6, 3, 43, 5, 1), (.iload_n 1, 9, 1, 40, 1, 0), (.invokevirtual 128, 10, 3, 4, 34, 0), (.if_icmp .ge 32, 13, 3, 51, 45, 0), (.aload_n 0, 16, 1, 41, 0, 0), (.getfield 54, 17, 3, 43, 5, 2), (.aload_n 0, 20, 1, 41, 0, 0), (.getfield 50, 21, 3, 43, 5, 1), (.iload_n 1, 24, 1, 40, 1, 0), (.iload_n 3, 25, 1, 40, 3, 0), (.invokevirtual 131, 26, 3, 4, 35, 0), (.iconst 0, 29, 1, 42, 0, 0), (.invokevirtual 148, 30, 3, 5, 58, 0), (.ifCond .ne 6, 33, 3, 57, 39, 0), (.iinc 2 1, 36, 3, 47, 2, 1)]),
  (39, [(.iinc 3 1, 39, 3, 47, 3, 1), (.goto (-38), 42, 3, 45, 4, 0)]),
  (45, [(.iload_n 2, 45, 1, 40, 2, 0), (.ireturn, 46, 1, 1, 1, 0)])]
def km_73 : mv_I := (yX5_countLooseExtended, cX5_countLooseExtended, 4, (some .int), 1, 0, 5, [])
def kb_74 : List (Nat × List mv_E) := [(0, [(.iconst 0, 0, 1, 42, 0, 0), (.istore_n 2, 1, 1, 46, 2, 0)]),
  (2, [(.iload_n 2, 2, 1, 40, 2, 0), (.aload_n 0, 3, 1, 41, 0, 0), (.getfield 58, 4, 3, 43, 5, 3), (.getfield 154, 7, 3, 43, 6, 3), (.iload_n 1, 10, 1, 40, 1, 0), (.iaload, 11, 1, 44, 0, 0), (.if_icmp .ge 28, 12, 3, 51, 40, 0), (.aload_n 0, 15, 1, 41, 0, 0), (.aload_n 0, 16, 1, 41, 0, 0), (.getfield 58, 17, 3, 43, 5, 3), (.iload_n 1, 20, 1, 40, 1, 0), (.iload_n 2, 21, 1, 40, 2, 0), (.invokevirtual 157, 22, 3, 4, 91, 0), (.iconst 1, 25, 1, 42, 1, 0), (.invokevirtual 160, 26, 3, 4, 75, 0), (.ifCond .eq 5, 29, 3, 56, 34, 0), (.iconst 1, 32, 1, 42, 1, 0), (.ireturn, 33, 1, 1, 2, 0)]),
  (34, [(.iinc 2 1, 34, 3, 47, 2, 1), (.goto (-35), 37, 3, 45, 2, 0)]),
  (40, [(.aload_n 0, 40, 1, 41, 0, 0), (.aload_n 0, 41, 1, 41, 0, 0), (.getfield 58, 42, 3, 43, 5, 3), (.getfield 163, 45, 3, 43, 6, 4), (.iload_n 1, 48, 1, 40, 1, 0), (.iaload, 49, 1, 44, 0, 0), (.iconst 2, 50, 1, 42, 2, 0), (.invokevirtual 160, 51, 3, 4, 75, 0), (.ireturn, 54, 1, 1, 2, 0)])]
def km_74 : mv_I := (yX5_isOneMisplaced, cX5_isOneMisplaced, 3, (some .boolean), 1, 0, 5, [])
def kb_75 : List (Nat × List mv_E) := [(0, [(.aload_n 0, 0, 1, 41, 0, 0), (.getfield 46, 1, 3, 43, 5, 0), (.getfield 166, 4, 3, 43, 2, 0), (.iload_n 1, 7, 1, 40, 1, 0), (.iaload, 8, 1, 44, 0, 0), (.iconst 4, 9, 1, 42, 4, 0), (.if_icmp .ne 40, 10, 3, 49, 50, 0), (.aload_n 0, 13, 1, 41, 0, 0), (.getfield 50, 14, 3, 43, 5, 1), (.getfield 169, 17, 3, 43, 3, 2), (.iconst 2, 20, 1, 42, 2, 0), (.aload_n 0, 21, 1, 41, 0, 0), (.getfield 46, 22, 3, 43, 5, 0), (.getfield 145, 25, 3, 43, 2, 1), (.iload_n 1, 28, 1, 40, 1, 0), (.iaload, 29, 1, 44, 0, 0), (.imul, 30, 1, 62, 0, 0), (.aload_n 0, 31, 1, 41, 0, 0), (.getfield 46, 32, 3, 43, 5, 0), (.getfield 135, 35, 3, 43, 2, 2), (.iload_n 1, 38, 1, 40, 1, 0), (.iaload, 39, 1, 44, 0, 0), (.iadd, 40, 1, 54, 0, 0), (.iaload, 41, 1, 44, 0, 0), (.iload_n 2, 42, 1, 40, 2, 0), (.if_icmp .ne 7, 43, 3, 49, 50, 0), (.iconst 1, 46, 1, 42, 1, 0), (.goto 4, 47, 3, 45, 51, 0)]),
  (50, [(.iconst 0, 50, 1, 42, 0, 0)]),
  (51, [(.ireturn, 51, 1, 1, 2, 0)])]
def km_75 : mv_I := (yX5_isParameterWith, cX5_isParameterWith, 3, (some .boolean), 2, 0, 5, [])
def kb_76 : List (Nat × List mv_E) := [(0, [(.iconst 0, 0, 1, 42, 0, 0), (.istore_n 2, 1, 1, 46, 2, 0)]),
  (2, [(.iload_n 2, 2, 1, 40, 2, 0), (.aload_n 0, 3, 1, 41, 0, 0), (.getfield 58, 4, 3, 43, 5, 3), (.getfield 154, 7, 3, 43, 6, 3), (.iload_n 1, 10, 1, 40, 1, 0), (.iaload, 11, 1, 44, 0, 0), (.if_icmp .ge 31, 12, 3, 51, 43, 0), (.aload_n 0, 15, 1, 41, 0, 0), (.getfield 54, 16, 3, 43, 5, 2), (.aload_n 0, 19, 1, 41, 0, 0), (.getfield 58, 20, 3, 43, 5, 3), (.iload_n 1, 23, 1, 40, 1, 0), (.iload_n 2, 24, 1, 40, 2, 0), (.invokevirtual 157, 25, 3, 4, 91, 0), (.iconst 0, 28, 1, 42, 0, 0), (.invokevirtual 148, 29, 3, 5, 58, 0), (.ifCond .ne 5, 32, 3, 57, 37, 0), (.iconst 1, 35, 1, 42, 1, 0), (.ireturn, 36, 1, 1, 2, 0)]),
  (37, [(.iinc 2 1, 37, 3, 47, 2, 1), (.goto (-38), 40, 3, 45, 2, 0)]),
  (43, [(.aload_n 0, 43, 1, 41, 0, 0), (.getfield 54, 44, 3, 43, 5, 2), (.aload_n 0, 47, 1, 41, 0, 0), (.getfield 58, 48, 3, 43, 5, 3), (.getfield 163, 51, 3, 43, 6, 4), (.iload_n 1, 54, 1, 40, 1, 0), (.iaload, 55, 1, 44, 0, 0), (.iconst 0, 56, 1, 42, 0, 0), (.invokevirtual 148, 57, 3, 5, 58, 0), (.ifCond .ne 7, 60, 3, 57, 67, 0), (.iconst 1, 63, 1, 42, 1, 0), (.goto 4, 64, 3, 45, 68, 0)]),
  (67, [(.iconst 0, 67, 1, 42, 0, 0)]),
  (68, [(.ireturn, 68, 1, 1, 2, 0)])]
def km_76 : mv_I := (yX5_isOneLoose, cX5_isOneLoose, 3, (some .boolean), 1, 0, 5, [])
def kb_77 : List (Nat × List mv_E) := [(0, [(.aload_n 0, 0, 1, 41, 0, 0), (.getfield 9, 1, 3, 43, 5, 5), (.iload_n 1, 4, 1, 40, 1, 0), (.iconst 0, 5, 1, 42, 0, 0), (.iastore, 6, 1, 63, 0, 0), (.aload_n 0, 7, 1, 41, 0, 0), (.getfield 15, 8, 3, 43, 5, 6), (.iload_n 1, 11, 1, 40, 1, 0), (.iconst 0, 12, 1, 42, 0, 0), (.iastore, 13, 1, 63, 0, 0), (.aload_n 0, 14, 1, 41, 0, 0), (.getfield 18, 15, 3, 43, 5, 7), (.iload_n 1, 18, 1, 40, 1, 0), (.iconst 0, 19, 1, 42, 0, 0), (.iastore, 20, 1, 63, 0, 0), (.aload_n 0, 21, 1, 41, 0, 0), (.getfield 50, 22, 3, 43, 5, 1), (.aload_n 0, 25, 1, 41, 0, 0), (.getfield 58, 26, 3, 43, 5, 3), (.getfield 117, 29, 3, 43, 6, 0), (.iload_n 1, 32, 1, 40, 1, 0), (.iaload, 33, 1, 44, 0, 0), (.invokevirtual 125, 34, 3, 4, 44, 0), (.istore_n 2, 37, 1, 46, 2, 0), (.iconst 0, 38, 1, 42, 0, 0), (.istore_n 3, 39, 1, 46, 3, 0)]),
  (40, [(.iload_n 3, 40, 1, 40, 3, 0), (.aload_n 0, 41, 1, 41, 0, 0), (.getfield 58, 42, 3, 43, 5, 3), (.getfield 87, 45, 3, 43, 6, 7), (.if_icmp .ge 123, 48, 3, 51, 171, 0), (.iload_n 3, 51, 1, 40, 3, 0), (.iload_n 1, 52, 1, 40, 1, 0), (.if_icmp .eq 112, 53, 3, 48, 165, 0), (.aload_n 0, 56, 1, 41, 0, 0), (.getfield 58, 57, 3, 43, 5, 3), (.iload_n 1, 60, 1, 40, 1, 0), (.iload_n 3, 61, 1, 40, 3, 0), (.invokevirtual 172, 62, 3, 4, 93, 0), (.ifCond .ne 6, 65, 3, 57, 71, 0), (.goto 97, 68, 3, 45, 165, 0)]),
  (71, [(.aload_n 0, 71, 1, 41, 0, 0), (.iload_n 1, 72, 1, 40, 1, 0), (.iload_n 3, 73, 1, 40, 3, 0), (.iload_n 2, 74, 1, 40, 2, 0), (.invokevirtual 175, 75, 3, 4, 80, 0), (.ifCond .eq 44, 78, 3, 56, 122, 0), (.aload_n 0, 81, 1, 41, 0, 0), (.getfield 9, 82, 3, 43, 5, 5), (.iload_n 1, 85, 1, 40, 1, 0), (.dup2, 86, 1, 80, 0, 0), (.iaload, 87, 1, 44, 0, 0), (.iconst 1, 88, 1, 42, 1, 0), (.iload_n 3, 89, 1, 40, 3, 0), (.ishl, 90, 1, 70, 0, 0), (.ior, 91, 1, 65, 0, 0), (.iastore, 92, 1, 63, 0, 0), (.aload_n 0, 93, 1, 41, 0, 0), (.getfield 18, 94, 3, 43, 5, 7), (.iload_n 1, 97, 1, 40, 1, 0), (.dup2, 98, 1, 80, 0, 0), (.iaload, 99, 1, 44, 0, 0), (.aload_n 0, 100, 1, 41, 0, 0), (.iload_n 1, 101, 1, 40, 1, 0), (.iload_n 3, 102, 1, 40, 3, 0), (.iload_n 2, 103, 1, 40, 2, 0), (.invokevirtual 179, 104, 3, 4, 81, 0), (.ifCond .eq 9, 107, 3, 56, 116, 0), (.iconst 1, 110, 1, 42, 1, 0), (.iload_n 3, 111, 1, 40, 3, 0), (.ishl, 112, 1, 70, 0, 0), (.goto 4, 113, 3, 45, 117, 0)]),
  (116, [(.iconst 0, 116, 1, 42, 0, 0)]),
  (117, [(.ior, 117, 1, 65, 0, 0), (.iastore, 118, 1, 63, 0, 0), (.goto 46, 119, 3, 45, 165, 0)]),
  (122, [(.aload_n 0, 122, 1, 41, 0, 0), (.iload_n 1, 123, 1, 40, 1, 0), (.iload_n 3, 124, 1, 40, 3, 0), (.invokevirtual 182, 125, 3, 4, 78, 0), (.ifCond .ne 12, 128, 3, 57, 140, 0), (.aload_n 0, 131, 1, 41, 0, 0), (.iload_n 1, 132, 1, 40, 1, 0), (.iload_n 3, 133, 1, 40, 3, 0), (.invokevirtual 185, 134, 3, 4, 79, 0), (.ifCond .eq 28, 137, 3, 56, 165, 0)]),
  (140, [(.aload_n 0, 140, 1, 41, 0, 0), (.getfield 15, 141, 3, 43, 5, 6), (.iload_n 1, 144, 1, 40, 1, 0), (.dup2, 145, 1, 80, 0, 0), (.iaload, 146, 1, 44, 0, 0), (.aload_n 0, 147, 1, 41, 0, 0), (.iload_n 1, 148, 1, 40, 1, 0), (.iload_n 3, 149, 1, 40, 3, 0), (.invokevirtual 188, 150, 3, 4, 83, 0), (.ifCond .eq 9, 153, 3, 56, 162, 0), (.iconst 1, 156, 1, 42, 1, 0), (.iload_n 3, 157, 1, 40, 3, 0), (.ishl, 158, 1, 70, 0, 0), (.goto 4, 159, 3, 45, 163, 0)]),
  (162, [(.iconst 0, 162, 1, 42, 0, 0)]),
  (163, [(.ior, 163, 1, 65, 0, 0), (.iastore, 164, 1, 63, 0, 0)]),
  (165, [(.iinc 3 1, 165, 3, 47, 3, 1), (.goto (-128), 168, 3, 45, 40, 0)]),
  (171, [(.return_, 171, 1, 1, 0, 0)])]
def km_77 : mv_I := (yX5_lookAtOthers, cX5_lookAtOthers, 4, none, 1, 0, 5, [])
def kb_78 : List (Nat × List mv_E) := [(0, [(.aload_n 0, 0, 1, 41, 0, 0), (.getfield 50, 1, 3, 43, 5, 1), (.getfield 111, 4, 3, 43, 3, 6), (.aload_n 0, 7, 1, 41, 0, 0), (.getfield 58, 8, 3, 43, 5, 3), (.getfield 117, 11, 3, 43, 6, 0), (.iload_n 1, 14, 1, 40, 1, 0), (.iaload, 15, 1, 44, 0, 0), (.iaload, 16, 1, 44, 0, 0), (.aload_n 0, 17, 1, 41, 0, 0), (.getfield 58, 18, 3, 43, 5, 3), (.getfield 117, 21, 3, 43, 6, 0), (.iload_n 2, 24, 1, 40, 2, 0), (.iaload, 25, 1, 44, 0, 0), (.ishr, 26, 1, 71, 0, 0), (.iconst 1, 27, 1, 42, 1, 0), (.iand, 28, 1, 64, 0, 0), (.ifCond .eq 7, 29, 3, 56, 36, 0), (.iconst 1, 32, 1, 42, 1, 0), (.goto 4, 33, 3, 45, 37, 0)]),
  (36, [(.iconst 0, 36, 1, 42, 0, 0)]),
  (37, [(.ireturn, 37, 1, 1, 2, 0)])]
def km_78 : mv_I := (yX5_isAbove, cX5_isAbove, 3, (some .boolean), 2, 0, 5, [])
def kb_79 : List (Nat × List mv_E) := [(0, [(.aload_n 0, 0, 1, 41, 0, 0), (.getfield 58, 1, 3, 43, 5, 3), (.getfield 117, 4, 3, 43, 6, 0), (.iload_n 1, 7, 1, 40, 1, 0), (.iaload, 8, 1, 44, 0, 0), (.aload_n 0, 9, 1, 41, 0, 0), (.getfield 58, 10, 3, 43, 5, 3), (.getfield 117, 13, 3, 43, 6, 0), (.iload_n 2, 16, 1, 40, 2, 0), (.iaload, 17, 1, 44, 0, 0), (.if_icmp .ne 12, 18, 3, 49, 30, 0), (.iload_n 2, 21, 1, 40, 2, 0), (.iload_n 1, 22, 1, 40, 1, 0), (.if_icmp .ge 7, 23, 3, 51, 30, 0), (.iconst 1, 26, 1, 42, 1, 0), (.goto 4, 27, 3, 45, 31, 0)]),
  (30, [(.iconst 0, 30, 1, 42, 0, 0)]),
  (31, [(.ireturn, 31, 1, 1, 2, 0)])]
def km_79 : mv_I := (yX5_isBeforeInClass, cX5_isBeforeInClass, 3, (some .boolean), 2, 0, 5, [])
def kb_80 : List (Nat × List mv_E) := [(0, [(.aload_n 0, 0, 1, 41, 0, 0), (.iload_n 1, 1, 1, 40, 1, 0), (.iload_n 2, 2, 1, 40, 2, 0), (.invokevirtual 182, 3, 3, 4, 78, 0), (.ifCond .ne 5, 6, 3, 57, 11, 0), (.iconst 0, 9, 1, 42, 0, 0), (.ireturn, 10, 1, 1, 2, 0)]),
  (11, [(.aload_n 0, 11, 1, 41, 0, 0), (.getfield 58, 12, 3, 43, 5, 3), (.getfield 117, 15, 3, 43, 6, 0), (.iload_n 2, 18, 1, 40, 2, 0), (.iaload, 19, 1, 44, 0, 0), (.istore 4, 20, 2, 46, 4, 0), (.aload_n 0, 22, 1, 41, 0, 0), (.getfield 50, 23, 3, 43, 5, 1), (.iload_n 3, 26, 1, 40, 3, 0), (.iload 4, 27, 2, 40, 4, 0), (.iconst 0, 29, 1, 42, 0, 0), (.invokevirtual 191, 30, 3, 4, 42, 0), (.istore 5, 33, 2, 46, 5, 0), (.aload_n 0, 35, 1, 41, 0, 0), (.getfield 50, 36, 3, 43, 5, 1), (.iload_n 3, 39, 1, 40, 3, 0), (.iload 4, 40, 2, 40, 4, 0), (.iconst 1, 42, 1, 42, 1, 0), (.invokevirtual 191, 43, 3, 4, 42, 0), (.istore 6, 46, 2, 46, 6, 0), (.iconst 0, 48, 1, 42, 0, 0), (.istore 7, 49, 2, 46, 7, 0)]),
  (51, [(.iload 7, 51, 2, 40, 7, 0), (.aload_n 0, 53, 1, 41, 0, 0), (.getfield 58, 54, 3, 43, 5, 3), (.getfield 154, 57, 3, 43, 6, 3), (.iload_n 1, 60, 1, 40, 1, 0), (.iaload, 61, 1, 44, 0, 0), (.if_icmp .ge 52, 62, 3, 51, 114, 0), (.aload_n 0, 65, 1, 41, 0, 0), (.getfield 46, 66, 3, 43, 5, 0), (.aload_n 0, 69, 1, 41, 0, 0), (.getfield 58, 70, 3, 43, 5, 3), (.iload_n 2, 73, 1, 40, 2, 0), (.iload 7, 74, 2, 40, 7, 0), (.invokevirtual 157, 76, 3, 4, 91, 0), (.iload 4, 79, 2, 40, 4, 0), (.iload 5, 81, 2, 40, 5, 0), (.iload 6, 83, 2, 40, 6, 0), (.iconst 0, 85, 1, 42, 0, 0), (.invokevirtual 141, 86, 3, 5, 29, 0), (.istore 8, 89, 2, 46, 8, 0), (.iload 8, 91, 2, 40, 8, 0), (.aload_n 0, 93, 1, 41, 0, 0), (.getfield 58, 94, 3, 43, 5, 3), (.iload_n 1, 97, 1, 40, 1, 0), (.iload 7, 98, 2, 40, 7, 0), (.invokevirtual 157, 100, 3, 4, 91, 0), (.if_icmp .eq 5, 103, 3, 48, 108, 0), (.iconst 0, 106, 1, 42, 0, 0), (.ireturn, 107, 1, 1, 2, 0)]),
  (108, [(.iinc 7 1, 108, 3, 47, 7, 1), (.goto (-60), 111, 3, 45, 51, 0)]),
  (114, [(.iconst 1, 114, 1, 42, 1, 0), (.ireturn, 115, 1, 1, 2, 0)])]
def km_80 : mv_I := (yX5_isOverriding, cX5_isOverriding, 9, (some .boolean), 3, 0, 5, [])
def kb_81 : List (Nat × List mv_E) := [(0, [(.aload_n 0, 0, 1, 41, 0, 0), (.getfield 58, 1, 3, 43, 5, 3), (.getfield 117, 4, 3, 43, 6, 0), (.iload_n 2, 7, 1, 40, 2, 0), (.iaload, 8, 1, 44, 0, 0), (.istore 4, 9, 2, 46, 4, 0), (.aload_n 0, 11, 1, 41, 0, 0), (.getfield 50, 12, 3, 43, 5, 1), (.iload_n 3, 15, 1, 40, 3, 0), (.iload 4, 16, 2, 40, 4, 0), (.iconst 0, 18, 1, 42, 0, 0), (.invokevirtual 191, 19, 3, 4, 42, 0), (.istore 5, 22, 2, 46, 5, 0), (.aload_n 0, 24, 1, 41, 0, 0), (.getfield 50, 25, 3, 43, 5, 1), (.iload_n 3, 28, 1, 40, 3, 0), (.iload 4, 29, 2, 40, 4, 0), (.iconst 1, 31, 1, 42, 1, 0), (.invokevirtual 191, 32, 3, 4, 42, 0), (.istore 6, 35, 2, 46, 6, 0), (.aload_n 0, 37, 1, 41, 0, 0), (.getfield 46, 38, 3, 43, 5, 0), (.aload_n 0, 41, 1, 41, 0, 0), (.getfield 58, 42, 3, 43, 5, 3), (.getfield 163, 45, 3, 43, 6, 4), (.iload_n 2, 48, 1, 40, 2, 0), (.iaload, 49, 1, 44, 0, 0), (.iload 4, 50, 2, 40, 4, 0), (.iload 5, 52, 2, 40, 5, 0), (.iload 6, 54, 2, 40, 6, 0), (.iconst 0, 56, 1, 42, 0, 0), (.invokevirtual 141, 57, 3, 5, 29, 0), (.istore 7, 60, 2, 46, 7, 0), (.aload_n 0, 62, 1, 41, 0, 0), (.getfield 54, 63, 3, 43, 5, 2), (.aload_n 0, 66, 1, 41, 0, 0), (.getfield 58, 67, 3, 43, 5, 3), (.getfield 163, 70, 3, 43, 6, 4), (.iload_n 1, 73, 1, 40, 1, 0), (.iaload, 74, 1, 44, 0, 0), (.iload 7, 75, 2, 40, 7, 0), (.iconst 0, 77, 1, 42, 0, 0), (.invokevirtual 195, 78, 3, 5, 48, 0), (.ifCond .ne 7, 81, 3, 57, 88, 0), (.iconst 1, 84, 1, 42, 1, 0), (.goto 4, 85, 3, 45, 89, 0)]),
  (88, [(.iconst 0, 88, 1, 42, 0, 0)]),
  (89, [(.ireturn, 89, 1, 1, 2, 0)])]
def km_81 : mv_I := (yX5_isWorse, cX5_isWorse, 8, (some .boolean), 3, 0, 5, [])
def kb_82 : List (Nat × List mv_E) := [(0, [(.aload_n 0, 0, 1, 41, 0, 0), (.getfield 58, 1, 3, 43, 5, 3), (.getfield 198, 4, 3, 43, 6, 5), (.iload_n 1, 7, 1, 40, 1, 0), (.iaload, 8, 1, 44, 0, 0), (.istore_n 2, 9, 1, 46, 2, 0), (.aload_n 0, 10, 1, 41, 0, 0), (.getfield 43, 11, 3, 43, 5, 15), (.iload_n 1, 14, 1, 40, 1, 0), (.aload_n 0, 15, 1, 41, 0, 0), (.getfield 54, 16, 3, 43, 5, 2), (.aload_n 0, 19, 1, 41, 0, 0), (.getfield 58, 20, 3, 43, 5, 3), (.getfield 163, 23, 3, 43, 6, 4), (.iload_n 1, 26, 1, 40, 1, 0), (.iaload, 27, 1, 44, 0, 0), (.iload_n 2, 28, 1, 40, 2, 0), (.invokevirtual 201, 29, 3, 4, 60, 0), (.iastore, 32, 1, 63, 0, 0), (.iconst 0, 33, 1, 42, 0, 0), (.istore_n 3, 34, 1, 46, 3, 0)]),
  (35, [(.iload_n 3, 35, 1, 40, 3, 0), (.aload_n 0, 36, 1, 41, 0, 0), (.getfield 58, 37, 3, 43, 5, 3), (.getfield 154, 40, 3, 43, 6, 3), (.iload_n 1, 43, 1, 40, 1, 0), (.iaload, 44, 1, 44, 0, 0), (.if_icmp .ge 40, 45, 3, 51, 85, 0), (.aload_n 0, 48, 1, 41, 0, 0), (.getfield 58, 49, 3, 43, 5, 3), (.iload_n 1, 52, 1, 40, 1, 0), (.iload_n 3, 53, 1, 40, 3, 0), (.invokevirtual 157, 54, 3, 4, 91, 0), (.istore 4, 57, 2, 46, 4, 0), (.aload_n 0, 59, 1, 41, 0, 0), (.getfield 40, 60, 3, 43, 5, 14), (.iconst 3, 63, 1, 42, 3, 0), (.iload_n 1, 64, 1, 40, 1, 0), (.imul, 65, 1, 62, 0, 0), (.iload_n 3, 66, 1, 40, 3, 0), (.iadd, 67, 1, 54, 0, 0), (.aload_n 0, 68, 1, 41, 0, 0), (.getfield 54, 69, 3, 43, 5, 2), (.iload 4, 72, 2, 40, 4, 0), (.iload_n 2, 74, 1, 40, 2, 0), (.invokevirtual 201, 75, 3, 4, 60, 0), (.iastore, 78, 1, 63, 0, 0), (.iinc 3 1, 79, 3, 47, 3, 1), (.goto (-47), 82, 3, 45, 35, 0)]),
  (85, [(.return_, 85, 1, 1, 0, 0)])]
def km_82 : mv_I := (yX5_erase, cX5_erase, 5, none, 1, 0, 5, [])
def kb_83 : List (Nat × List mv_E) := [(0, [(.iconst 0, 0, 1, 42, 0, 0), (.istore_n 3, 1, 1, 46, 3, 0)]),
  (2, [(.iload_n 3, 2, 1, 40, 3, 0), (.aload_n 0, 3, 1, 41, 0, 0), (.getfield 58, 4, 3, 43, 5, 3), (.getfield 154, 7, 3, 43, 6, 3), (.iload_n 1, 10, 1, 40, 1, 0), (.iaload, 11, 1, 44, 0, 0), (.if_icmp .ge 34, 12, 3, 51, 46, 0), (.aload_n 0, 15, 1, 41, 0, 0), (.getfield 40, 16, 3, 43, 5, 14), (.iconst 3, 19, 1, 42, 3, 0), (.iload_n 1, 20, 1, 40, 1, 0), (.imul, 21, 1, 62, 0, 0), (.iload_n 3, 22, 1, 40, 3, 0), (.iadd, 23, 1, 54, 0, 0), (.iaload, 24, 1, 44, 0, 0), (.aload_n 0, 25, 1, 41, 0, 0), (.getfield 40, 26, 3, 43, 5, 14), (.iconst 3, 29, 1, 42, 3, 0), (.iload_n 2, 30, 1, 40, 2, 0), (.imul, 31, 1, 62, 0, 0), (.iload_n 3, 32, 1, 40, 3, 0), (.iadd, 33, 1, 54, 0, 0), (.iaload, 34, 1, 44, 0, 0), (.if_icmp .eq 5, 35, 3, 48, 40, 0), (.iconst 0, 38, 1, 42, 0, 0), (.ireturn, 39, 1, 1, 2, 0)]),
  (40, [(.iinc 3 1, 40, 3, 47, 3, 1), (.goto (-41), 43, 3, 45, 2, 0)]),
  (46, [(.iconst 1, 46, 1, 42, 1, 0), (.ireturn, 47, 1, 1, 2, 0)])]
def km_83 : mv_I := (yX5_areFormalsErasedAlike, cX5_areFormalsErasedAlike, 4, (some .boolean), 2, 0, 5, [])
def kb_84 : List (Nat × List mv_E) := [(0, [(.aload_n 0, 0, 1, 41, 0, 0), (.getfield 43, 1, 3, 43, 5, 15), (.iload_n 1, 4, 1, 40, 1, 0), (.iaload, 5, 1, 44, 0, 0), (.aload_n 0, 6, 1, 41, 0, 0), (.getfield 43, 7, 3, 43, 5, 15), (.iload_n 2, 10, 1, 40, 2, 0), (.iaload, 11, 1, 44, 0, 0), (.if_icmp .ne 16, 12, 3, 49, 28, 0), (.aload_n 0, 15, 1, 41, 0, 0), (.iload_n 1, 16, 1, 40, 1, 0), (.iload_n 2, 17, 1, 40, 2, 0), (.invokevirtual 188, 18, 3, 4, 83, 0), (.ifCond .eq 7, 21, 3, 56, 28, 0), (.iconst 1, 24, 1, 42, 1, 0), (.goto 4, 25, 3, 45, 29, 0)]),
  (28, [(.iconst 0, 28, 1, 42, 0, 0)]),
  (29, [(.ireturn, 29, 1, 1, 2, 0)])]
def km_84 : mv_I := (yX5_areErasedAlike, cX5_areErasedAlike, 3, (some .boolean), 2, 0, 5, [])
def kb_85 : List (Nat × List mv_E) := [(0, [(.iconst 0, 0, 1, 42, 0, 0), (.istore_n 2, 1, 1, 46, 2, 0), (.iconst 0, 2, 1, 42, 0, 0), (.istore_n 3, 3, 1, 46, 3, 0)]),
  (4, [(.iload_n 3, 4, 1, 40, 3, 0), (.aload_n 0, 5, 1, 41, 0, 0), (.getfield 58, 6, 3, 43, 5, 3), (.getfield 87, 9, 3, 43, 6, 7), (.if_icmp .ge 39, 12, 3, 51, 51, 0), (.aload_n 0, 15, 1, 41, 0, 0), (.iload_n 1, 16, 1, 40, 1, 0), (.iload_n 3, 17, 1, 40, 3, 0), (.invokevirtual 204, 18, 3, 4, 87, 0), (.ifCond .eq 24, 21, 3, 56, 45, 0), (.aload_n 0, 24, 1, 41, 0, 0), (.iload_n 1, 25, 1, 40, 1, 0), (.iload_n 3, 26, 1, 40, 3, 0), (.invokevirtual 207, 27, 3, 4, 84, 0), (.ifCond .ne 15, 30, 3, 57, 45, 0), (.aload_n 0, 33, 1, 41, 0, 0), (.iload_n 1, 34, 1, 40, 1, 0), (.iload_n 3, 35, 1, 40, 3, 0), (.invokevirtual 210, 36, 3, 4, 86, 0), (.ifCond .ne 6, 39, 3, 57, 45, 0), (.iinc 2 1, 42, 3, 47, 2, 1)]),
  (45, [(.iinc 3 1, 45, 3, 47, 3, 1), (.goto (-44), 48, 3, 45, 4, 0)]),
  (51, [(.iload_n 2, 51, 1, 40, 2, 0), (.ireturn, 52, 1, 1, 1, 0)])]
def km_85 : mv_I := (yX5_countBridges, cX5_countBridges, 4, (some .int), 1, 0, 5, [])
def kb_86 : List (Nat × List mv_E) := [(0, [(.iconst 0, 0, 1, 42, 0, 0), (.istore_n 3, 1, 1, 46, 3, 0)]),
  (2, [(.iload_n 3, 2, 1, 40, 3, 0), (.iload_n 2, 3, 1, 40, 2, 0), (.if_icmp .ge 29, 4, 3, 51, 33, 0), (.aload_n 0, 7, 1, 41, 0, 0), (.iload_n 1, 8, 1, 40, 1, 0), (.iload_n 3, 9, 1, 40, 3, 0), (.invokevirtual 204, 10, 3, 4, 87, 0), (.ifCond .eq 14, 13, 3, 56, 27, 0), (.aload_n 0, 16, 1, 41, 0, 0), (.iload_n 3, 17, 1, 40, 3, 0), (.iload_n 2, 18, 1, 40, 2, 0), (.invokevirtual 207, 19, 3, 4, 84, 0), (.ifCond .eq 5, 22, 3, 56, 27, 0), (.iconst 1, 25, 1, 42, 1, 0), (.ireturn, 26, 1, 1, 2, 0)]),
  (27, [(.iinc 3 1, 27, 3, 47, 3, 1), (.goto (-28), 30, 3, 45, 2, 0)]),
  (33, [(.iconst 0, 33, 1, 42, 0, 0), (.ireturn, 34, 1, 1, 2, 0)])]
def km_86 : mv_I := (yX5_isCountedBefore, cX5_isCountedBefore, 4, (some .boolean), 2, 0, 5, [])
def kb_87 : List (Nat × List mv_E) := [(0, [(.aload_n 0, 0, 1, 41, 0, 0), (.getfield 9, 1, 3, 43, 5, 5), (.iload_n 1, 4, 1, 40, 1, 0), (.iaload, 5, 1, 44, 0, 0), (.iload_n 2, 6, 1, 40, 2, 0), (.ishr, 7, 1, 71, 0, 0), (.iconst 1, 8, 1, 42, 1, 0), (.iand, 9, 1, 64, 0, 0), (.ifCond .eq 7, 10, 3, 56, 17, 0), (.iconst 1, 13, 1, 42, 1, 0), (.goto 4, 14, 3, 45, 18, 0)]),
  (17, [(.iconst 0, 17, 1, 42, 0, 0)]),
  (18, [(.ireturn, 18, 1, 1, 2, 0)])]
def km_87 : mv_I := (yX5_isOverridden, cX5_isOverridden, 3, (some .boolean), 2, 0, 5, [])
def kb_88 : List (Nat × List mv_E) := [(0, [(.aload_n 0, 0, 1, 41, 0, 0), (.invokespecial 3, 1, 3, 3, 0, 0), (.aload_n 0, 4, 1, 41, 0, 0), (.bipush 20, 5, 2, 42, 20, 0), (.newarray .int, 7, 2, 86, 0, 0), (.putfield 9, 9, 3, 55, 6, 2), (.aload_n 0, 12, 1, 41, 0, 0), (.bipush 20, 13, 2, 42, 20, 0), (.newarray .int, 15, 2, 86, 0, 0), (.putfield 15, 17, 3, 55, 6, 6), (.aload_n 0, 20, 1, 41, 0, 0), (.bipush 60, 21, 2, 42, 60, 0), (.newarray .int, 23, 2, 86, 0, 0), (.putfield 18, 25, 3, 55, 6, 10), (.aload_n 0, 28, 1, 41, 0, 0), (.bipush 20, 29, 2, 42, 20, 0), (.newarray .int, 31, 2, 86, 0, 0), (.putfield 21, 33, 3, 55, 6, 14), (.aload_n 0, 36, 1, 41, 0, 0), (.bipush 20, 37, 2, 42, 20, 0), (.newarray .int, 39, 2, 86, 0, 0), (.putfield 24, 41, 3, 55, 6, 18), (.aload_n 0, 44, 1, 41, 0, 0), (.bipush 20, 45, 2, 42, 20, 0), (.newarray .int, 47, 2, 86, 0, 0), (.putfield 27, 49, 3, 55, 6, 22), (.return_, 52, 1, 1, 0, 0)])]
def km_88 : mv_I := (yX6_init, cX6_init, 1, none, 0, 2, 6, [])
def kb_89 : List (Nat × List mv_E) := [(0, [(.aload_n 0, 0, 1, 41, 0, 0), (.dup, 1, 1, 77, 0, 0), (.getfield 30, 2, 3, 43, 6, 7), (.dup_x1, 5, 1, 79, 0, 0), (.iconst 1, 6, 1, 42, 1, 0), (.iadd, 7, 1, 54, 0, 0), (.putfield 30, 8, 3, 55, 6, 28), (.istore 5, 11, 2, 46, 5, 0), (.aload_n 0, 13, 1, 41, 0, 0), (.getfield 9, 14, 3, 43, 6, 0), (.iload 5, 17, 2, 40, 5, 0), (.iload_n 1, 19, 1, 40, 1, 0), (.iastore, 20, 1, 63, 0, 0), (.aload_n 0, 21, 1, 41, 0, 0), (.getfield 15, 22, 3, 43, 6, 1), (.iload 5, 25, 2, 40, 5, 0), (.iload_n 2, 27, 1, 40, 2, 0), (.iastore, 28, 1, 63, 0, 0), (.aload_n 0, 29, 1, 41, 0, 0), (.getfield 24, 30, 3, 43, 6, 4), (.iload 5, 33, 2, 40, 5, 0), (.iload_n 3, 35, 1, 40, 3, 0), (.iastore, 36, 1, 63, 0, 0), (.aload_n 0, 37, 1, 41, 0, 0), (.getfield 27, 38, 3, 43, 6, 5), (.iload 5, 41, 2, 40, 5, 0), (.iconst 2, 43, 1, 42, 2, 0), (.iastore, 44, 1, 63, 0, 0), (.iload 4, 45, 2, 40, 4, 0), (.ifCond .eq 16, 47, 3, 56, 63, 0), (.aload_n 0, 50, 1, 41, 0, 0), (.dup, 51, 1, 77, 0, 0), (.getfield 34, 52, 3, 43, 6, 6), (.iconst 1, 55, 1, 42, 1, 0), (.iload 5, 56, 2, 40, 5, 0), (.ishl, 58, 1, 70, 0, 0), (.ior, 59, 1, 65, 0, 0), (.putfield 34, 60, 3, 55, 6, 24)]),
  (63, [(.return_, 63, 1, 1, 0, 0)])]
def km_89 : mv_I := (yX6_add, cX6_add, 6, none, 4, 0, 6, [])
def kb_90 : List (Nat × List mv_E) := [(0, [(.aload_n 0, 0, 1, 41, 0, 0), (.getfield 30, 1, 3, 43, 6, 7), (.iconst 1, 4, 1, 42, 1, 0), (.isub, 5, 1, 67, 0, 0), (.istore_n 2, 6, 1, 46, 2, 0), (.iload_n 1, 7, 1, 40, 1, 0), (.iconst (-1), 8, 1, 42, 4294967295, 0), (.if_icmp .eq 43, 9, 3, 48, 52, 0), (.iload_n 2, 12, 1, 40, 2, 0), (.ifCond .lt 39, 13, 3, 58, 52, 0), (.aload_n 0, 16, 1, 41, 0, 0), (.getfield 21, 17, 3, 43, 6, 3), (.iload_n 2, 20, 1, 40, 2, 0), (.iaload, 21, 1, 44, 0, 0), (.iconst 3, 22, 1, 42, 3, 0), (.if_icmp .ge 29, 23, 3, 51, 52, 0), (.aload_n 0, 26, 1, 41, 0, 0), (.getfield 18, 27, 3, 43, 6, 2), (.iconst 3, 30, 1, 42, 3, 0), (.iload_n 2, 31, 1, 40, 2, 0), (.imul, 32, 1, 62, 0, 0), (.aload_n 0, 33, 1, 41, 0, 0), (.getfield 21, 34, 3, 43, 6, 3), (.iload_n 2, 37, 1, 40, 2, 0), (.iaload, 38, 1, 44, 0, 0), (.iadd, 39, 1, 54, 0, 0), (.iload_n 1, 40, 1, 40, 1, 0), (.iastore, 41, 1, 63, 0, 0), (.aload_n 0, 42, 1, 41, 0, 0), (.getfield 21, 43, 3, 43, 6, 3), (.iload_n 2, 46, 1, 40, 2, 0), (.dup2, 47, 1, 80, 0, 0), (.iaload, 48, 1, 44, 0, 0), (.iconst 1, 49, 1, 42, 1, 0), (.iadd, 50, 1, 54, 0, 0), (.iastore, 51, 1, 63, 0, 0)]),
  (52, [(.return_, 52, 1, 1, 0, 0)])]
def km_90 : mv_I := (yX6_addFormal, cX6_addFormal, 3, none, 1, 0, 6, [])
def kb_91 : List (Nat × List mv_E) := [(0, [(.aload_n 0, 0, 1, 41, 0, 0), (.getfield 18, 1, 3, 43, 6, 2), (.iconst 3, 4, 1, 42, 3, 0), (.iload_n 1, 5, 1, 40, 1, 0), (.imul, 6, 1, 62, 0, 0), (.iload_n 2, 7, 1, 40, 2, 0), (.iadd, 8, 1, 54, 0, 0), (.iaload, 9, 1, 44, 0, 0), (.ireturn, 10, 1, 1, 1, 0)])]
def km_91 : mv_I := (yX6_formalAt, cX6_formalAt, 3, (some .int), 2, 0, 6, [])
def kb_92 : List (Nat × List mv_E) := [(0, [(.aload_n 0, 0, 1, 41, 0, 0), (.getfield 34, 1, 3, 43, 6, 6), (.iload_n 1, 4, 1, 40, 1, 0), (.ishr, 5, 1, 71, 0, 0), (.iconst 1, 6, 1, 42, 1, 0), (.iand, 7, 1, 64, 0, 0), (.ifCond .eq 7, 8, 3, 56, 15, 0), (.iconst 1, 11, 1, 42, 1, 0), (.goto 4, 12, 3, 45, 16, 0)]),
  (15, [(.iconst 0, 15, 1, 42, 0, 0)]),
  (16, [(.ireturn, 16, 1, 1, 2, 0)])]
def km_92 : mv_I := (yX6_isMany, cX6_isMany, 2, (some .boolean), 1, 0, 6, [])
def kb_93 : List (Nat × List mv_E) := [(0, [(.aload_n 0, 0, 1, 41, 0, 0), (.getfield 15, 1, 3, 43, 6, 1), (.iload_n 1, 4, 1, 40, 1, 0), (.iaload, 5, 1, 44, 0, 0), (.aload_n 0, 6, 1, 41, 0, 0), (.getfield 15, 7, 3, 43, 6, 1), (.iload_n 2, 10, 1, 40, 2, 0), (.iaload, 11, 1, 44, 0, 0), (.if_icmp .ne 22, 12, 3, 49, 34, 0), (.aload_n 0, 15, 1, 41, 0, 0), (.getfield 21, 16, 3, 43, 6, 3), (.iload_n 1, 19, 1, 40, 1, 0), (.iaload, 20, 1, 44, 0, 0), (.aload_n 0, 21, 1, 41, 0, 0), (.getfield 21, 22, 3, 43, 6, 3), (.iload_n 2, 25, 1, 40, 2, 0), (.iaload, 26, 1, 44, 0, 0), (.if_icmp .ne 7, 27, 3, 49, 34, 0), (.iconst 1, 30, 1, 42, 1, 0), (.goto 4, 31, 3, 45, 35, 0)]),
  (34, [(.iconst 0, 34, 1, 42, 0, 0)]),
  (35, [(.ireturn, 35, 1, 1, 2, 0)])]
def km_93 : mv_I := (yX6_areAlike, cX6_areAlike, 3, (some .boolean), 2, 0, 6, [])
def kb_94 : List (Nat × List mv_E) := [(0, [(.iconst 0, 0, 1, 42, 0, 0), (.istore_n 2, 1, 1, 46, 2, 0), (.iconst 0, 2, 1, 42, 0, 0), (.istore_n 3, 3, 1, 46, 3, 0)]),
  (4, [(.iload_n 3, 4, 1, 40, 3, 0), (.aload_n 0, 5, 1, 41, 0, 0), (.getfield 30, 6, 3, 43, 6, 7), (.if_icmp .ge 28, 9, 3, 51, 37, 0), (.iload_n 1, 12, 1, 40, 1, 0), (.aload_n 0, 13, 1, 41, 0, 0), (.getfield 9, 14, 3, 43, 6, 0), (.iload_n 3, 17, 1, 40, 3, 0), (.iaload, 18, 1, 44, 0, 0), (.ishr, 19, 1, 71, 0, 0), (.iconst 1, 20, 1, 42, 1, 0), (.iand, 21, 1, 64, 0, 0), (.ifCond .eq 9, 22, 3, 56, 31, 0), (.iload_n 2, 25, 1, 40, 2, 0), (.iconst 1, 26, 1, 42, 1, 0), (.iload_n 3, 27, 1, 40, 3, 0), (.ishl, 28, 1, 70, 0, 0), (.ior, 29, 1, 65, 0, 0), (.istore_n 2, 30, 1, 46, 2, 0)]),
  (31, [(.iinc 3 1, 31, 3, 47, 3, 1), (.goto (-30), 34, 3, 45, 4, 0)]),
  (37, [(.iload_n 2, 37, 1, 40, 2, 0), (.ireturn, 38, 1, 1, 1, 0)])]
def km_94 : mv_I := (yX6_setOf, cX6_setOf, 4, (some .int), 1, 0, 6, [])
def kb_95 : List (Nat × List mv_E) := [(0, [(.iconst 0, 0, 1, 42, 0, 0), (.istore_n 2, 1, 1, 46, 2, 0), (.iconst 0, 2, 1, 42, 0, 0), (.istore_n 3, 3, 1, 46, 3, 0)]),
  (4, [(.iload_n 3, 4, 1, 40, 3, 0), (.aload_n 0, 5, 1, 41, 0, 0), (.getfield 30, 6, 3, 43, 6, 7), (.if_icmp .ge 25, 9, 3, 51, 34, 0), (.aload_n 0, 12, 1, 41, 0, 0), (.getfield 15, 13, 3, 43, 6, 1), (.iload_n 3, 16, 1, 40, 3, 0), (.iaload, 17, 1, 44, 0, 0), (.iload_n 1, 18, 1, 40, 1, 0), (.if_icmp .ne 9, 19, 3, 49, 28, 0), (.iload_n 2, 22, 1, 40, 2, 0), (.iconst 1, 23, 1, 42, 1, 0), (.iload_n 3, 24, 1, 40, 3, 0), (.ishl, 25, 1, 70, 0, 0), (.ior, 26, 1, 65, 0, 0), (.istore_n 2, 27, 1, 46, 2, 0)]),
  (28, [(.iinc 3 1, 28, 3, 47, 3, 1), (.goto (-27), 31, 3, 45, 4, 0)]),
  (34, [(.iload_n 2, 34, 1, 40, 2, 0), (.ireturn, 35, 1, 1, 1, 0)])]
def km_95 : mv_I := (yX6_setNamed, cX6_setNamed, 4, (some .int), 1, 0, 6, [])
def kb_96 : List (Nat × List mv_E) := [(0, [(.aload_n 0, 0, 1, 41, 0, 0), (.invokespecial 3, 1, 3, 3, 0, 0), (.aload_n 0, 4, 1, 41, 0, 0), (.new 9, 5, 3, 87, 2, 0), (.dup, 8, 1, 77, 0, 0), (.invokespecial 11, 9, 3, 7, 22, 0), (.putfield 12, 12, 3, 55, 7, 2), (.aload_n 0, 15, 1, 41, 0, 0), (.new 16, 16, 3, 87, 3, 0), (.dup, 19, 1, 77, 0, 0), (.aload_n 0, 20, 1, 41, 0, 0), (.getfield 12, 21, 3, 43, 7, 0), (.invokespecial 18, 24, 3, 7, 31, 0), (.putfield 21, 27, 3, 55, 7, 6), (.aload_n 0, 30, 1, 41, 0, 0), (.new 25, 31, 3, 87, 4, 0), (.dup, 34, 1, 77, 0, 0), (.aload_n 0, 35, 1, 41, 0, 0), (.getfield 12, 36, 3, 43, 7, 0), (.aload_n 0, 39, 1, 41, 0, 0), (.getfield 21, 40, 3, 43, 7, 1), (.invokespecial 27, 43, 3, 7, 47, 0), (.putfield 30, 46, 3, 55, 7, 10), (.aload_n 0, 49, 1, 41, 0, 0), (.new 34, 50, 3, 87, 6, 0), (.dup, 53, 1, 77, 0, 0), (.invokespecial 36, 54, 3, 8, 88, 0), (.putfield 37, 57, 3, 55, 7, 14), (.aload_n 0, 60, 1, 41, 0, 0), (.new 41, 61, 3, 87, 1, 0), (.dup, 64, 1, 77, 0, 0), (.aload_n 0, 65, 1, 41, 0, 0), (.getfield 21, 66, 3, 43, 7, 1), (.aload_n 0, 69, 1, 41, 0, 0), (.getfield 37, 70, 3, 43, 7, 3), (.invokespecial 43, 73, 3, 7, 15, 0), (.putfield 46, 76, 3, 55, 7, 18), (.aload_n 0, 79, 1, 41, 0, 0), (.new 50, 80, 3, 87, 5, 0), (.dup, 83, 1, 77, 0, 0), (.aload_n 0, 84, 1, 41, 0, 0), (.getfield 12, 85, 3, 43, 7, 0), (.aload_n 0, 88, 1, 41, 0, 0), (.getfield 21, 89, 3, 43, 7, 1), (.aload_n 0, 92, 1, 41, 0, 0), (.getfield 30, 93, 3, 43, 7, 2), (.aload_n 0, 96, 1, 41, 0, 0), (.getfield 37, 97, 3, 43, 7, 3), (.aload_n 0, 100, 1, 41, 0, 0), (.getfield 46, 101, 3, 43, 7, 4), (.invokespecial 52, 104, 3, 7, 67, 0), (.putfield 55, 107, 3, 55, 7, 22), (.aload_n 0, 110, 1, 41, 0, 0), (.new 59, 111, 3, 87, 0, 0), (.dup, 114, 1, 77, 0, 0), (.aload_n 0, 115, 1, 41, 0, 0), (.getfield 12, 116, 3, 43, 7, 0), (.aload_n 0, 119, 1, 41, 0, 0), (.getfield 21, 120, 3, 43, 7, 1), (.aload_n 0, 123, 1, 41, 0, 0), (.getfield 30, 124, 3, 43, 7, 2), (.aload_n 0, 127, 1, 41, 0, 0), (.getfield 37, 128, 3, 43, 7, 3), (.invokespecial 61, 131, 3, 7, 1, 0), (.putfield 64, 134, 3, 55, 7, 26), (.return_, 137, 1, 1, 0, 0)])]
def km_96 : mv_I := (yX7_init, cX7_init, 1, none, 0, 2, 7, [])
def kb_97 : List (Nat × List mv_E) := [(0, [(.iload_n 1, 0, 1, 40, 1, 0), (.invokestatic 68, 1, 3, 6, 126, 0), (.ifCond .eq 20, 4, 3, 56, 24, 0), (.iload_n 2, 7, 1, 40, 2, 0), (.invokestatic 68, 8, 3, 6, 126, 0), (.ifCond .eq 13, 11, 3, 56, 24, 0), (.iload_n 1, 14, 1, 40, 1, 0), (.iconst (-1), 15, 1, 42, 4294967295, 0), (.if_icmp .ne 18, 16, 3, 49, 34, 0), (.iload_n 2, 19, 1, 40, 2, 0), (.iconst (-1), 20, 1, 42, 4294967295, 0), (.if_icmp .eq 13, 21, 3, 48, 34, 0)]),
  (24, [(.new 72, 24, 3, 2, 0, 4980810)]),
  (34, [(.aload_n 0, 34, 1, 41, 0, 0), (.getfield 21, 35, 3, 43, 7, 1), (.getfield 79, 38, 3, 43, 3, 9), (.bipush 14, 41, 2, 42, 14, 0), (.if_icmp .lt 13, 43, 3, 50, 56, 0), (.new 83, 46, 3, 2, 2, 5701717)]),
  (56, [(.aload_n 0, 56, 1, 41, 0, 0), (.getfield 21, 57, 3, 43, 7, 1), (.iload_n 1, 60, 1, 40, 1, 0), (.iload_n 2, 61, 1, 40, 2, 0), (.iload_n 3, 62, 1, 40, 3, 0), (.invokevirtual 88, 63, 3, 4, 32, 0), (.istore 4, 66, 2, 46, 4, 0), (.aload_n 0, 68, 1, 41, 0, 0), (.getfield 55, 69, 3, 43, 7, 5), (.invokevirtual 92, 72, 3, 4, 68, 0), (.iload 4, 75, 2, 40, 4, 0), (.ireturn, 77, 1, 1, 1, 0)])]
def km_97 : mv_I := (yX7_kind, cX7_kind, 5, (some .int), 3, 0, 7, [])
def kb_98 : List (Nat × List mv_E) := [(0, [(.aload_n 0, 0, 1, 41, 0, 0), (.iload_n 1, 1, 1, 40, 1, 0), (.iload_n 2, 2, 1, 40, 2, 0), (.invokevirtual 95, 3, 3, 4, 121, 0), (.aload_n 0, 6, 1, 41, 0, 0), (.iload_n 3, 7, 1, 40, 3, 0), (.invokevirtual 99, 8, 3, 4, 122, 0), (.aload_n 0, 11, 1, 41, 0, 0), (.getfield 12, 12, 3, 43, 7, 0), (.getfield 103, 15, 3, 43, 2, 0), (.iload_n 3, 18, 1, 40, 3, 0), (.iaload, 19, 1, 44, 0, 0), (.iconst 2, 20, 1, 42, 2, 0), (.if_icmp .ne 25, 21, 3, 49, 46, 0), (.aload_n 0, 24, 1, 41, 0, 0), (.getfield 12, 25, 3, 43, 7, 0), (.getfield 107, 28, 3, 43, 2, 1), (.iload_n 3, 31, 1, 40, 3, 0), (.iaload, 32, 1, 44, 0, 0), (.iload_n 1, 33, 1, 40, 1, 0), (.if_icmp .gt 12, 34, 3, 52, 46, 0), (.aload_n 0, 37, 1, 41, 0, 0), (.iload_n 3, 38, 1, 40, 3, 0), (.iload_n 1, 39, 1, 40, 1, 0), (.invokevirtual 110, 40, 3, 4, 133, 0), (.ifCond .ne 13, 43, 3, 57, 56, 0)]),
  (46, [(.new 72, 46, 3, 2, 0, 4980850)]),
  (56, [(.aload_n 0, 56, 1, 41, 0, 0), (.getfield 21, 57, 3, 43, 7, 1), (.getfield 116, 60, 3, 43, 3, 3), (.iconst 2, 63, 1, 42, 2, 0), (.iload_n 1, 64, 1, 40, 1, 0), (.imul, 65, 1, 62, 0, 0), (.iload_n 2, 66, 1, 40, 2, 0), (.iadd, 67, 1, 54, 0, 0), (.iaload, 68, 1, 44, 0, 0), (.istore 4, 69, 2, 46, 4, 0), (.aload_n 0, 71, 1, 41, 0, 0), (.getfield 21, 72, 3, 43, 7, 1), (.getfield 116, 75, 3, 43, 3, 3), (.iconst 2, 78, 1, 42, 2, 0), (.iload_n 1, 79, 1, 40, 1, 0), (.imul, 80, 1, 62, 0, 0), (.iload_n 2, 81, 1, 40, 2, 0), (.iadd, 82, 1, 54, 0, 0), (.iload_n 3, 83, 1, 40, 3, 0), (.iastore, 84, 1, 63, 0, 0), (.aload_n 0, 85, 1, 41, 0, 0), (.getfield 55, 86, 3, 43, 7, 5), (.invokevirtual 92, 89, 3, 4, 68, 0), (.iload 4, 92, 2, 40, 4, 0), (.ireturn, 94, 1, 1, 1, 0)])]
def km_98 : mv_I := (yX7_bound, cX7_bound, 5, (some .int), 3, 0, 7, [])
def kb_99 : List (Nat × List mv_E) := [(0, [(.aload_n 0, 0, 1, 41, 0, 0), (.iload_n 1, 1, 1, 40, 1, 0), (.invokevirtual 119, 2, 3, 4, 120, 0), (.aload_n 0, 5, 1, 41, 0, 0), (.iload_n 2, 6, 1, 40, 2, 0), (.invokevirtual 99, 7, 3, 4, 122, 0), (.iload_n 1, 10, 1, 40, 1, 0), (.ifCond .eq 17, 11, 3, 56, 28, 0), (.iload_n 1, 14, 1, 40, 1, 0), (.iconst 1, 15, 1, 42, 1, 0), (.if_icmp .eq 12, 16, 3, 48, 28, 0), (.aload_n 0, 19, 1, 41, 0, 0), (.iload_n 2, 20, 1, 40, 2, 0), (.iload_n 1, 21, 1, 40, 1, 0), (.invokevirtual 122, 22, 3, 4, 132, 0), (.ifCond .ne 13, 25, 3, 57, 38, 0)]),
  (28, [(.new 72, 28, 3, 2, 0, 4980861)]),
  (38, [(.aload_n 0, 38, 1, 41, 0, 0), (.getfield 21, 39, 3, 43, 7, 1), (.getfield 127, 42, 3, 43, 3, 4), (.iload_n 1, 45, 1, 40, 1, 0), (.iaload, 46, 1, 44, 0, 0), (.iconst 3, 47, 1, 42, 3, 0), (.if_icmp .ge 23, 48, 3, 51, 71, 0), (.aload_n 0, 51, 1, 41, 0, 0), (.getfield 21, 52, 3, 43, 7, 1), (.iload_n 1, 55, 1, 40, 1, 0), (.aload_n 0, 56, 1, 41, 0, 0), (.getfield 12, 57, 3, 43, 7, 0), (.getfield 107, 60, 3, 43, 2, 1), (.iload_n 2, 63, 1, 40, 2, 0), (.iaload, 64, 1, 44, 0, 0), (.invokevirtual 130, 65, 3, 4, 36, 0), (.ifCond .eq 13, 68, 3, 56, 81, 0)]),
  (71, [(.new 83, 71, 3, 2, 2, 5701765)]),
  (81, [(.aload_n 0, 81, 1, 41, 0, 0), (.getfield 21, 82, 3, 43, 7, 1), (.iload_n 1, 85, 1, 40, 1, 0), (.iload_n 2, 86, 1, 40, 2, 0), (.invokevirtual 135, 87, 3, 4, 33, 0), (.aload_n 0, 90, 1, 41, 0, 0), (.getfield 55, 91, 3, 43, 7, 5), (.invokevirtual 92, 94, 3, 4, 68, 0), (.aload_n 0, 97, 1, 41, 0, 0), (.getfield 21, 98, 3, 43, 7, 1), (.getfield 127, 101, 3, 43, 3, 4), (.iload_n 1, 104, 1, 40, 1, 0), (.iaload, 105, 1, 44, 0, 0), (.ireturn, 106, 1, 1, 1, 0)])]
def km_99 : mv_I := (yX7_extend, cX7_extend, 3, (some .int), 2, 0, 7, [])
def kb_100 : List (Nat × List mv_E) := [(0, [(.aload_n 0, 0, 1, 41, 0, 0), (.iload_n 1, 1, 1, 40, 1, 0), (.invokevirtual 119, 2, 3, 4, 120, 0), (.iload_n 2, 5, 1, 40, 2, 0), (.bipush 7, 6, 2, 42, 7, 0), (.invokestatic 138, 8, 3, 6, 125, 0), (.iload_n 2, 11, 1, 40, 2, 0), (.tableswitch 111 0 6 #[44, 54, 63, 73, 82, 96, 102], 12, 44, 97, 0, 0)]),
  (56, [(.aload_n 0, 56, 1, 41, 0, 0), (.getfield 21, 57, 3, 43, 7, 1), (.getfield 141, 60, 3, 43, 3, 1), (.iload_n 1, 63, 1, 40, 1, 0), (.iaload, 64, 1, 44, 0, 0), (.ireturn, 65, 1, 1, 1, 0)]),
  (66, [(.aload_n 0, 66, 1, 41, 0, 0), (.getfield 21, 67, 3, 43, 7, 1), (.iload_n 1, 70, 1, 40, 1, 0), (.invokevirtual 144, 71, 3, 4, 34, 0), (.ireturn, 74, 1, 1, 1, 0)]),
  (75, [(.aload_n 0, 75, 1, 41, 0, 0), (.getfield 21, 76, 3, 43, 7, 1), (.getfield 148, 79, 3, 43, 3, 6), (.iload_n 1, 82, 1, 40, 1, 0), (.iaload, 83, 1, 44, 0, 0), (.ireturn, 84, 1, 1, 1, 0)]),
  (85, [(.aload_n 0, 85, 1, 41, 0, 0), (.getfield 21, 86, 3, 43, 7, 1), (.iload_n 1, 89, 1, 40, 1, 0), (.invokevirtual 151, 90, 3, 4, 38, 0), (.ireturn, 93, 1, 1, 1, 0)]),
  (94, [(.aload_n 0, 94, 1, 41, 0, 0), (.getfield 37, 95, 3, 43, 7, 3), (.iconst 1, 98, 1, 42, 1, 0), (.iload_n 1, 99, 1, 40, 1, 0), (.ishl, 100, 1, 70, 0, 0), (.invokevirtual 154, 101, 3, 4, 94, 0), (.invokestatic 157, 104, 3, 6, 244, 0), (.ireturn, 107, 1, 1, 1, 0)]),
  (108, [(.aload_n 0, 108, 1, 41, 0, 0), (.iload_n 1, 109, 1, 40, 1, 0), (.invokevirtual 162, 110, 3, 4, 137, 0), (.ireturn, 113, 1, 1, 1, 0)]),
  (114, [(.aload_n 0, 114, 1, 41, 0, 0), (.getfield 55, 115, 3, 43, 7, 5), (.iload_n 1, 118, 1, 40, 1, 0), (.invokevirtual 165, 119, 3, 4, 70, 0), (.ireturn, 122, 1, 1, 1, 0)]),
  (123, [(.aload_n 0, 123, 1, 41, 0, 0), (.getfield 46, 124, 3, 43, 7, 4), (.iload_n 1, 127, 1, 40, 1, 0), (.invokevirtual 168, 128, 3, 4, 19, 0), (.ireturn, 131, 1, 1, 1, 0)])]
def km_100 : mv_I := (yX7_ofKind, cX7_ofKind, 3, (some .int), 2, 0, 7, [])
def kb_101 : List (Nat × List mv_E) := [(0, [(.aload_n 0, 0, 1, 41, 0, 0), (.iload_n 1, 1, 1, 40, 1, 0), (.invokevirtual 119, 2, 3, 4, 120, 0), (.aload_n 0, 5, 1, 41, 0, 0), (.iload_n 1, 6, 1, 40, 1, 0), (.iconst 0, 7, 1, 42, 0, 0), (.iload_n 2, 8, 1, 40, 2, 0), (.invokevirtual 171, 9, 3, 4, 129, 0), (.ifCond .eq 27, 12, 3, 56, 39, 0), (.aload_n 0, 15, 1, 41, 0, 0), (.iload_n 1, 16, 1, 40, 1, 0), (.iconst 1, 17, 1, 42, 1, 0), (.iload_n 3, 18, 1, 40, 3, 0), (.invokevirtual 171, 19, 3, 4, 129, 0), (.ifCond .eq 17, 22, 3, 56, 39, 0), (.aload_n 0, 25, 1, 41, 0, 0), (.getfield 12, 26, 3, 43, 7, 0), (.iconst 2, 29, 1, 42, 2, 0), (.iload_n 2, 30, 1, 40, 2, 0), (.iload_n 3, 31, 1, 40, 3, 0), (.invokevirtual 175, 32, 3, 4, 26, 0), (.iconst 4, 35, 1, 42, 4, 0), (.if_icmp .le 13, 36, 3, 53, 49, 0)]),
  (39, [(.new 72, 39, 3, 2, 0, 4980915)]),
  (49, [(.aload_n 0, 49, 1, 41, 0, 0), (.iconst 2, 50, 1, 42, 2, 0), (.iload_n 1, 51, 1, 40, 1, 0), (.iload_n 2, 52, 1, 40, 2, 0), (.iload_n 3, 53, 1, 40, 3, 0), (.invokevirtual 181, 54, 3, 4, 135, 0), (.ireturn, 57, 1, 1, 1, 0)])]
def km_101 : mv_I := (yX7_of, cX7_of, 4, (some .int), 3, 0, 7, [])
def kb_102 : List (Nat × List mv_E) := [(0, [(.aload_n 0, 0, 1, 41, 0, 0), (.iload_n 1, 1, 1, 40, 1, 0), (.iload_n 2, 2, 1, 40, 2, 0), (.invokevirtual 95, 3, 3, 4, 121, 0), (.aload_n 0, 6, 1, 41, 0, 0), (.iconst 4, 7, 1, 42, 4, 0), (.iload_n 1, 8, 1, 40, 1, 0), (.iload_n 2, 9, 1, 40, 2, 0), (.iconst 0, 10, 1, 42, 0, 0), (.invokevirtual 181, 11, 3, 4, 135, 0), (.ireturn, 14, 1, 1, 1, 0)])]
def km_102 : mv_I := (yX7_parameter, cX7_parameter, 3, (some .int), 2, 0, 7, [])
def kb_103 : List (Nat × List mv_E) := [(0, [(.aload_n 0, 0, 1, 41, 0, 0), (.iload_n 1, 1, 1, 40, 1, 0), (.invokevirtual 99, 2, 3, 4, 122, 0), (.iload_n 1, 5, 1, 40, 1, 0), (.iconst 1, 6, 1, 42, 1, 0), (.if_icmp .eq 17, 7, 3, 48, 24, 0), (.aload_n 0, 10, 1, 41, 0, 0), (.getfield 12, 11, 3, 43, 7, 0), (.iconst 5, 14, 1, 42, 5, 0), (.iload_n 1, 15, 1, 40, 1, 0), (.iconst 0, 16, 1, 42, 0, 0), (.invokevirtual 175, 17, 3, 4, 26, 0), (.iconst 4, 20, 1, 42, 4, 0), (.if_icmp .le 13, 21, 3, 53, 34, 0)]),
  (24, [(.new 72, 24, 3, 2, 0, 4980921)]),
  (34, [(.aload_n 0, 34, 1, 41, 0, 0), (.iconst 5, 35, 1, 42, 5, 0), (.iconst 0, 36, 1, 42, 0, 0), (.iload_n 1, 37, 1, 40, 1, 0), (.iconst 0, 38, 1, 42, 0, 0), (.invokevirtual 181, 39, 3, 4, 135, 0), (.ireturn, 42, 1, 1, 1, 0)])]
def km_103 : mv_I := (yX7_array, cX7_array, 2, (some .int), 1, 0, 7, [])
def kb_104 : List (Nat × List mv_E) := [(0, [(.aload_n 0, 0, 1, 41, 0, 0), (.iload_n 1, 1, 1, 40, 1, 0), (.invokevirtual 99, 2, 3, 4, 122, 0), (.iload_n 2, 5, 1, 40, 2, 0), (.iconst 5, 6, 1, 42, 5, 0), (.invokestatic 138, 7, 3, 6, 125, 0), (.iload_n 2, 10, 1, 40, 2, 0), (.tableswitch 95 0 4 #[33, 43, 53, 63, 81], 11, 33, 97, 0, 0)]),
  (44, [(.aload_n 0, 44, 1, 41, 0, 0), (.getfield 12, 45, 3, 43, 7, 0), (.getfield 103, 48, 3, 43, 2, 0), (.iload_n 1, 51, 1, 40, 1, 0), (.iaload, 52, 1, 44, 0, 0), (.ireturn, 53, 1, 1, 1, 0)]),
  (54, [(.aload_n 0, 54, 1, 41, 0, 0), (.getfield 30, 55, 3, 43, 7, 2), (.iload_n 1, 58, 1, 40, 1, 0), (.iconst 2, 59, 1, 42, 2, 0), (.invokevirtual 187, 60, 3, 4, 60, 0), (.ireturn, 63, 1, 1, 1, 0)]),
  (64, [(.aload_n 0, 64, 1, 41, 0, 0), (.getfield 12, 65, 3, 43, 7, 0), (.getfield 191, 68, 3, 43, 2, 5), (.iload_n 1, 71, 1, 40, 1, 0), (.iaload, 72, 1, 44, 0, 0), (.ireturn, 73, 1, 1, 1, 0)]),
  (74, [(.aload_n 0, 74, 1, 41, 0, 0), (.getfield 12, 75, 3, 43, 7, 0), (.getfield 194, 78, 3, 43, 2, 6), (.iload_n 1, 81, 1, 40, 1, 0), (.iaload, 82, 1, 44, 0, 0), (.ifCond .ne 7, 83, 3, 57, 90, 0), (.iconst 1, 86, 1, 42, 1, 0), (.goto 4, 87, 3, 45, 91, 0)]),
  (90, [(.iconst 0, 90, 1, 42, 0, 0)]),
  (91, [(.ireturn, 91, 1, 1, 1, 0)]),
  (92, [(.aload_n 0, 92, 1, 41, 0, 0), (.iload_n 1, 93, 1, 40, 1, 0), (.invokevirtual 197, 94, 3, 4, 136, 0), (.ifCond .eq 7, 97, 3, 56, 104, 0), (.iconst 1, 100, 1, 42, 1, 0), (.goto 4, 101, 3, 45, 105, 0)]),
  (104, [(.iconst 0, 104, 1, 42, 0, 0)]),
  (105, [(.ireturn, 105, 1, 1, 1, 0)]),
  (106, [(.aload_n 0, 106, 1, 41, 0, 0), (.aload_n 0, 107, 1, 41, 0, 0), (.getfield 12, 108, 3, 43, 7, 0), (.getfield 107, 111, 3, 43, 2, 1), (.aload_n 0, 114, 1, 41, 0, 0), (.getfield 21, 115, 3, 43, 7, 1), (.iload_n 1, 118, 1, 40, 1, 0), (.invokevirtual 200, 119, 3, 4, 46, 0), (.iaload, 122, 1, 44, 0, 0), (.invokevirtual 162, 123, 3, 4, 137, 0), (.ireturn, 126, 1, 1, 1, 0)])]
def km_104 : mv_I := (yX7_ofType, cX7_ofType, 3, (some .int), 2, 0, 7, [])
def kb_105 : List (Nat × List mv_E) := [(0, [(.aload_n 0, 0, 1, 41, 0, 0), (.iload_n 1, 1, 1, 40, 1, 0), (.invokevirtual 99, 2, 3, 4, 122, 0), (.aload_n 0, 5, 1, 41, 0, 0), (.iload_n 2, 6, 1, 40, 2, 0), (.invokevirtual 99, 7, 3, 4, 122, 0), (.aload_n 0, 10, 1, 41, 0, 0), (.getfield 30, 11, 3, 43, 7, 2), (.iload_n 1, 14, 1, 40, 1, 0), (.iload_n 2, 15, 1, 40, 2, 0), (.iconst 0, 16, 1, 42, 0, 0), (.invokevirtual 203, 17, 3, 5, 48, 0), (.ireturn, 20, 1, 1, 2, 0)])]
def km_105 : mv_I := (yX7_isBelow, cX7_isBelow, 3, (some .boolean), 2, 0, 7, [])
def kb_106 : List (Nat × List mv_E) := [(0, [(.aload_n 0, 0, 1, 41, 0, 0), (.iload_n 1, 1, 1, 40, 1, 0), (.invokevirtual 99, 2, 3, 4, 122, 0), (.aload_n 0, 5, 1, 41, 0, 0), (.iload_n 2, 6, 1, 40, 2, 0), (.invokevirtual 99, 7, 3, 4, 122, 0), (.aload_n 0, 10, 1, 41, 0, 0), (.getfield 12, 11, 3, 43, 7, 0), (.getfield 206, 14, 3, 43, 2, 9), (.istore_n 3, 17, 1, 46, 3, 0), (.aload_n 0, 18, 1, 41, 0, 0), (.getfield 12, 19, 3, 43, 7, 0), (.getfield 191, 22, 3, 43, 2, 5), (.aload_n 0, 25, 1, 41, 0, 0), (.getfield 30, 26, 3, 43, 7, 2), (.iload_n 1, 29, 1, 40, 1, 0), (.iload_n 2, 30, 1, 40, 2, 0), (.iconst 0, 31, 1, 42, 0, 0), (.iconst 0, 32, 1, 42, 0, 0), (.invokevirtual 207, 33, 3, 5, 54, 0), (.iaload, 36, 1, 44, 0, 0), (.istore 4, 37, 2, 46, 4, 0), (.aload_n 0, 39, 1, 41, 0, 0), (.getfield 12, 40, 3, 43, 7, 0), (.iload_n 3, 43, 1, 40, 3, 0), (.invokevirtual 211, 44, 3, 4, 24, 0), (.iload 4, 47, 2, 40, 4, 0), (.ireturn, 49, 1, 1, 1, 0)])]
def km_106 : mv_I := (yX7_join, cX7_join, 5, (some .int), 2, 0, 7, [])
def kb_107 : List (Nat × List mv_E) := [(0, [(.aload_n 0, 0, 1, 41, 0, 0), (.iload_n 1, 1, 1, 40, 1, 0), (.invokevirtual 99, 2, 3, 4, 122, 0), (.aload_n 0, 5, 1, 41, 0, 0), (.iload_n 2, 6, 1, 40, 2, 0), (.invokevirtual 119, 7, 3, 4, 120, 0), (.aload_n 0, 10, 1, 41, 0, 0), (.getfield 12, 11, 3, 43, 7, 0), (.getfield 103, 14, 3, 43, 2, 0), (.iload_n 1, 17, 1, 40, 1, 0), (.iaload, 18, 1, 44, 0, 0), (.iconst 2, 19, 1, 42, 2, 0), (.if_icmp .ne 23, 20, 3, 49, 43, 0), (.aload_n 0, 23, 1, 41, 0, 0), (.getfield 21, 24, 3, 43, 7, 1), (.aload_n 0, 27, 1, 41, 0, 0), (.getfield 12, 28, 3, 43, 7, 0), (.getfield 107, 31, 3, 43, 2, 1), (.iload_n 1, 34, 1, 40, 1, 0), (.iaload, 35, 1, 44, 0, 0), (.iload_n 2, 36, 1, 40, 2, 0), (.invokevirtual 214, 37, 3, 4, 37, 0), (.ifCond .ne 5, 40, 3, 57, 45, 0)]),
  (43, [(.iconst (-1), 43, 1, 42, 4294967295, 0), (.ireturn, 44, 1, 1, 1, 0)]),
  (45, [(.aload_n 0, 45, 1, 41, 0, 0), (.getfield 12, 46, 3, 43, 7, 0), (.getfield 206, 49, 3, 43, 2, 9), (.istore_n 3, 52, 1, 46, 3, 0), (.aload_n 0, 53, 1, 41, 0, 0), (.getfield 12, 54, 3, 43, 7, 0), (.getfield 191, 57, 3, 43, 2, 5), (.aload_n 0, 60, 1, 41, 0, 0), (.getfield 21, 61, 3, 43, 7, 1), (.iload_n 1, 64, 1, 40, 1, 0), (.iload_n 2, 65, 1, 40, 2, 0), (.invokevirtual 217, 66, 3, 4, 43, 0), (.iaload, 69, 1, 44, 0, 0), (.istore 4, 70, 2, 46, 4, 0), (.aload_n 0, 72, 1, 41, 0, 0), (.getfield 12, 73, 3, 43, 7, 0), (.iload_n 3, 76, 1, 40, 3, 0), (.invokevirtual 211, 77, 3, 4, 24, 0), (.iload 4, 80, 2, 40, 4, 0), (.ireturn, 82, 1, 1, 1, 0)])]
def km_107 : mv_I := (yX7_as, cX7_as, 5, (some .int), 2, 0, 7, [])
def kb_108 : List (Nat × List mv_E) := [(0, [(.aload_n 0, 0, 1, 41, 0, 0), (.iload_n 1, 1, 1, 40, 1, 0), (.invokevirtual 99, 2, 3, 4, 122, 0), (.iload_n 2, 5, 1, 40, 2, 0), (.ifCond .lt 15, 6, 3, 58, 21, 0), (.iload_n 2, 9, 1, 40, 2, 0), (.aload_n 0, 10, 1, 41, 0, 0), (.getfield 21, 11, 3, 43, 7, 1), (.getfield 79, 14, 3, 43, 3, 9), (.iushr, 17, 1, 96, 0, 0), (.ifCond .eq 13, 18, 3, 56, 31, 0)]),
  (21, [(.new 72, 21, 3, 2, 0, 4980956)]),
  (31, [(.aload_n 0, 31, 1, 41, 0, 0), (.getfield 30, 32, 3, 43, 7, 2), (.iload_n 1, 35, 1, 40, 1, 0), (.iload_n 2, 36, 1, 40, 2, 0), (.invokevirtual 222, 37, 3, 4, 62, 0), (.ireturn, 40, 1, 1, 2, 0)])]
def km_108 : mv_I := (yX7_areAll, cX7_areAll, 3, (some .boolean), 2, 0, 7, [])
def kb_109 : List (Nat × List mv_E) := [(0, [(.aload_n 0, 0, 1, 41, 0, 0), (.iload_n 1, 1, 1, 40, 1, 0), (.invokevirtual 119, 2, 3, 4, 120, 0), (.aload_n 0, 5, 1, 41, 0, 0), (.iload_n 3, 6, 1, 40, 3, 0), (.invokevirtual 225, 7, 3, 4, 123, 0), (.aload_n 0, 10, 1, 41, 0, 0), (.iload 4, 11, 2, 40, 4, 0), (.invokevirtual 225, 13, 3, 4, 123, 0), (.aload_n 0, 16, 1, 41, 0, 0), (.iload 5, 17, 2, 40, 5, 0), (.invokevirtual 225, 19, 3, 4, 123, 0), (.aload_n 0, 22, 1, 41, 0, 0), (.iload 6, 23, 2, 40, 6, 0), (.invokevirtual 99, 25, 3, 4, 122, 0), (.iload_n 2, 28, 1, 40, 2, 0), (.invokestatic 228, 29, 3, 6, 127, 0), (.ifCond .eq 53, 32, 3, 56, 85, 0), (.iload_n 3, 35, 1, 40, 3, 0), (.iload 4, 36, 2, 40, 4, 0), (.iload 5, 38, 2, 40, 5, 0), (.invokestatic 231, 40, 3, 6, 128, 0), (.ifCond .ne 42, 43, 3, 57, 85, 0), (.aload_n 0, 46, 1, 41, 0, 0), (.iload_n 3, 47, 1, 40, 3, 0), (.iload_n 1, 48, 1, 40, 1, 0), (.invokevirtual 234, 49, 3, 4, 130, 0), (.ifCond .eq 33, 52, 3, 56, 85, 0), (.aload_n 0, 55, 1, 41, 0, 0), (.iload 4, 56, 2, 40, 4, 0), (.iload_n 1, 58, 1, 40, 1, 0), (.invokevirtual 234, 59, 3, 4, 130, 0), (.ifCond .eq 23, 62, 3, 56, 85, 0), (.aload_n 0, 65, 1, 41, 0, 0), (.iload 5, 66, 2, 40, 5, 0), (.iload_n 1, 68, 1, 40, 1, 0), (.invokevirtual 234, 69, 3, 4, 130, 0), (.ifCond .eq 13, 72, 3, 56, 85, 0), (.aload_n 0, 75, 1, 41, 0, 0), (.iload 6, 76, 2, 40, 6, 0), (.iload_n 1, 78, 1, 40, 1, 0), (.invokevirtual 234, 79, 3, 4, 130, 0), (.ifCond .ne 13, 82, 3, 57, 95, 0)]),
  (85, [(.new 72, 85, 3, 2, 0, 4980973)]),
  (95, [(.iload 5, 95, 2, 40, 5, 0), (.iconst (-1), 97, 1, 42, 4294967295, 0), (.if_icmp .eq 8, 98, 3, 48, 106, 0), (.iload 5, 101, 2, 40, 5, 0), (.goto 15, 103, 3, 45, 118, 0)]),
  (106, [(.iload 4, 106, 2, 40, 4, 0), (.iconst (-1), 108, 1, 42, 4294967295, 0), (.if_icmp .eq 8, 109, 3, 48, 117, 0), (.iload 4, 112, 2, 40, 4, 0), (.goto 4, 114, 3, 45, 118, 0)]),
  (117, [(.iload_n 3, 117, 1, 40, 3, 0)]),
  (118, [(.istore 8, 118, 2, 46, 8, 0), (.iload 7, 120, 2, 40, 7, 0), (.ifCond .eq 33, 122, 3, 56, 155, 0), (.iload 8, 125, 2, 40, 8, 0), (.iconst (-1), 127, 1, 42, 4294967295, 0), (.if_icmp .eq 17, 128, 3, 48, 145, 0), (.aload_n 0, 131, 1, 41, 0, 0), (.getfield 12, 132, 3, 43, 7, 0), (.getfield 103, 135, 3, 43, 2, 0), (.iload 8, 138, 2, 40, 8, 0), (.iaload, 140, 1, 44, 0, 0), (.iconst 5, 141, 1, 42, 5, 0), (.if_icmp .eq 13, 142, 3, 48, 155, 0)]),
  (145, [(.new 72, 145, 3, 2, 0, 4980975)]),
  (155, [(.aload_n 0, 155, 1, 41, 0, 0), (.getfield 37, 156, 3, 43, 7, 3), (.getfield 241, 159, 3, 43, 6, 7), (.bipush 20, 162, 2, 42, 20, 0), (.if_icmp .lt 13, 164, 3, 50, 177, 0), (.new 83, 167, 3, 2, 2, 5701874)]),
  (177, [(.aload_n 0, 177, 1, 41, 0, 0), (.getfield 37, 178, 3, 43, 7, 3), (.iload_n 1, 181, 1, 40, 1, 0), (.iload_n 2, 182, 1, 40, 2, 0), (.iload 6, 183, 2, 40, 6, 0), (.iload 7, 185, 2, 40, 7, 0), (.invokevirtual 244, 187, 3, 4, 89, 0), (.aload_n 0, 190, 1, 41, 0, 0), (.getfield 37, 191, 3, 43, 7, 3), (.iload_n 3, 194, 1, 40, 3, 0), (.invokevirtual 247, 195, 3, 4, 90, 0), (.aload_n 0, 198, 1, 41, 0, 0), (.getfield 37, 199, 3, 43, 7, 3), (.iload 4, 202, 2, 40, 4, 0), (.invokevirtual 247, 204, 3, 4, 90, 0), (.aload_n 0, 207, 1, 41, 0, 0), (.getfield 37, 208, 3, 43, 7, 3), (.iload 5, 211, 2, 40, 5, 0), (.invokevirtual 247, 213, 3, 4, 90, 0), (.aload_n 0, 216, 1, 41, 0, 0), (.getfield 55, 217, 3, 43, 7, 5), (.invokevirtual 92, 220, 3, 4, 68, 0), (.aload_n 0, 223, 1, 41, 0, 0), (.getfield 37, 224, 3, 43, 7, 3), (.getfield 241, 227, 3, 43, 6, 7), (.iconst 1, 230, 1, 42, 1, 0), (.isub, 231, 1, 67, 0, 0), (.ireturn, 232, 1, 1, 1, 0)])]
def km_109 : mv_I := (yX7_method, cX7_method, 9, (some .int), 7, 0, 7, [])
def kb_110 : List (Nat × List mv_E) := [(0, [(.aload_n 0, 0, 1, 41, 0, 0), (.iload_n 1, 1, 1, 40, 1, 0), (.invokevirtual 250, 2, 3, 4, 124, 0), (.aload_n 0, 5, 1, 41, 0, 0), (.iload_n 2, 6, 1, 40, 2, 0), (.invokevirtual 99, 7, 3, 4, 122, 0), (.aload_n 0, 10, 1, 41, 0, 0), (.getfield 12, 11, 3, 43, 7, 0), (.getfield 103, 14, 3, 43, 2, 0), (.iload_n 2, 17, 1, 40, 2, 0), (.iaload, 18, 1, 44, 0, 0), (.iconst 2, 19, 1, 42, 2, 0), (.if_icmp .ne 15, 20, 3, 49, 35, 0), (.aload_n 0, 23, 1, 41, 0, 0), (.getfield 12, 24, 3, 43, 7, 0), (.getfield 194, 27, 3, 43, 2, 6), (.iload_n 2, 30, 1, 40, 2, 0), (.iaload, 31, 1, 44, 0, 0), (.ifCond .eq 13, 32, 3, 56, 45, 0)]),
  (35, [(.new 72, 35, 3, 2, 0, 4980989)]),
  (45, [(.aload_n 0, 45, 1, 41, 0, 0), (.getfield 37, 46, 3, 43, 7, 3), (.getfield 255, 49, 3, 43, 6, 5), (.iload_n 1, 52, 1, 40, 1, 0), (.iaload, 53, 1, 44, 0, 0), (.istore_n 3, 54, 1, 46, 3, 0), (.aload_n 0, 55, 1, 41, 0, 0), (.getfield 37, 56, 3, 43, 7, 3), (.getfield 255, 59, 3, 43, 6, 5), (.iload_n 1, 62, 1, 40, 1, 0), (.iload_n 2, 63, 1, 40, 2, 0), (.iastore, 64, 1, 63, 0, 0), (.aload_n 0, 65, 1, 41, 0, 0), (.getfield 55, 66, 3, 43, 7, 5), (.invokevirtual 92, 69, 3, 4, 68, 0), (.iload_n 3, 72, 1, 40, 3, 0), (.ireturn, 73, 1, 1, 1, 0)])]
def km_110 : mv_I := (yX7_variable, cX7_variable, 4, (some .int), 2, 0, 7, [])
def kb_111 : List (Nat × List mv_E) := [(0, [(.aload_n 0, 0, 1, 41, 0, 0), (.iload_n 1, 1, 1, 40, 1, 0), (.invokevirtual 250, 2, 3, 4, 124, 0), (.iload_n 2, 5, 1, 40, 2, 0), (.iconst 5, 6, 1, 42, 5, 0), (.invokestatic 138, 7, 3, 6, 125, 0), (.iload_n 2, 10, 1, 40, 2, 0), (.tableswitch 83 0 4 #[33, 43, 53, 63, 73], 11, 33, 97, 0, 0)]),
  (44, [(.aload_n 0, 44, 1, 41, 0, 0), (.getfield 37, 45, 3, 43, 7, 3), (.getfield 256, 48, 3, 43, 6, 0), (.iload_n 1, 51, 1, 40, 1, 0), (.iaload, 52, 1, 44, 0, 0), (.ireturn, 53, 1, 1, 1, 0)]),
  (54, [(.aload_n 0, 54, 1, 41, 0, 0), (.getfield 37, 55, 3, 43, 7, 3), (.getfield 258, 58, 3, 43, 6, 1), (.iload_n 1, 61, 1, 40, 1, 0), (.iaload, 62, 1, 44, 0, 0), (.ireturn, 63, 1, 1, 1, 0)]),
  (64, [(.aload_n 0, 64, 1, 41, 0, 0), (.getfield 37, 65, 3, 43, 7, 3), (.getfield 261, 68, 3, 43, 6, 3), (.iload_n 1, 71, 1, 40, 1, 0), (.iaload, 72, 1, 44, 0, 0), (.ireturn, 73, 1, 1, 1, 0)]),
  (74, [(.aload_n 0, 74, 1, 41, 0, 0), (.getfield 55, 75, 3, 43, 7, 5), (.getfield 264, 78, 3, 43, 5, 5), (.iload_n 1, 81, 1, 40, 1, 0), (.iaload, 82, 1, 44, 0, 0), (.ireturn, 83, 1, 1, 1, 0)]),
  (84, [(.aload_n 0, 84, 1, 41, 0, 0), (.getfield 55, 85, 3, 43, 7, 5), (.getfield 267, 88, 3, 43, 5, 15), (.iload_n 1, 91, 1, 40, 1, 0), (.iaload, 92, 1, 44, 0, 0), (.ireturn, 93, 1, 1, 1, 0)]),
  (94, [(.aload_n 0, 94, 1, 41, 0, 0), (.getfield 55, 95, 3, 43, 7, 5), (.getfield 270, 98, 3, 43, 5, 8), (.iload_n 1, 101, 1, 40, 1, 0), (.iaload, 102, 1, 44, 0, 0), (.ireturn, 103, 1, 1, 1, 0)])]
def km_111 : mv_I := (yX7_ofMethod, cX7_ofMethod, 3, (some .int), 2, 0, 7, [])
def kb_112 : List (Nat × List mv_E) := [(0, [(.aload_n 0, 0, 1, 41, 0, 0), (.iload_n 1, 1, 1, 40, 1, 0), (.invokevirtual 99, 2, 3, 4, 122, 0), (.aload_n 0, 5, 1, 41, 0, 0), (.iload_n 3, 6, 1, 40, 3, 0), (.invokevirtual 225, 7, 3, 4, 123, 0), (.aload_n 0, 10, 1, 41, 0, 0), (.iload 4, 11, 2, 40, 4, 0), (.invokevirtual 225, 13, 3, 4, 123, 0), (.aload_n 0, 16, 1, 41, 0, 0), (.iload 5, 17, 2, 40, 5, 0), (.invokevirtual 225, 19, 3, 4, 123, 0), (.iload_n 2, 22, 1, 40, 2, 0), (.invokestatic 228, 23, 3, 6, 127, 0), (.ifCond .eq 14, 26, 3, 56, 40, 0), (.iload_n 3, 29, 1, 40, 3, 0), (.iload 4, 30, 2, 40, 4, 0), (.iload 5, 32, 2, 40, 5, 0), (.invokestatic 231, 34, 3, 6, 128, 0), (.ifCond .eq 14, 37, 3, 56, 51, 0)]),
  (40, [(.new 72, 40, 3, 2, 0, 4981009)]),
  (51, [(.iload 6, 51, 2, 40, 6, 0), (.iconst 4, 53, 1, 42, 4, 0), (.invokestatic 138, 54, 3, 6, 125, 0), (.aload_n 0, 57, 1, 41, 0, 0), (.getfield 64, 58, 3, 43, 7, 6), (.aload_n 0, 61, 1, 41, 0, 0), (.getfield 21, 62, 3, 43, 7, 1), (.iload_n 1, 65, 1, 40, 1, 0), (.invokevirtual 200, 66, 3, 4, 46, 0), (.iload_n 3, 69, 1, 40, 3, 0), (.iload 4, 70, 2, 40, 4, 0), (.iload 5, 72, 2, 40, 5, 0), (.invokevirtual 275, 74, 3, 4, 2, 0), (.aload_n 0, 77, 1, 41, 0, 0), (.getfield 12, 78, 3, 43, 7, 0), (.getfield 206, 81, 3, 43, 2, 9), (.istore 7, 84, 2, 46, 7, 0), (.aload_n 0, 86, 1, 41, 0, 0), (.getfield 64, 87, 3, 43, 7, 6), (.aload_n 0, 90, 1, 41, 0, 0), (.iload_n 1, 91, 1, 40, 1, 0), (.iload_n 2, 92, 1, 40, 2, 0), (.invokevirtual 279, 93, 3, 4, 138, 0), (.invokevirtual 282, 96, 3, 4, 3, 0), (.istore 8, 99, 2, 46, 8, 0), (.iload 6, 101, 2, 40, 6, 0), (.ifCond .eq 25, 103, 3, 56, 128, 0), (.iload 8, 106, 2, 40, 8, 0), (.ifCond .ge 7, 108, 3, 59, 115, 0), (.iconst (-1), 111, 1, 42, 4294967295, 0), (.goto 14, 112, 3, 45, 126, 0)]),
  (115, [(.aload_n 0, 115, 1, 41, 0, 0), (.getfield 64, 116, 3, 43, 7, 6), (.iload 8, 119, 2, 40, 8, 0), (.iload 6, 121, 2, 40, 6, 0), (.invokevirtual 285, 123, 3, 4, 4, 0)]),
  (126, [(.istore 8, 126, 2, 46, 8, 0)]),
  (128, [(.aload_n 0, 128, 1, 41, 0, 0), (.getfield 12, 129, 3, 43, 7, 0), (.iload 7, 132, 2, 40, 7, 0), (.invokevirtual 211, 134, 3, 4, 24, 0), (.iload 8, 137, 2, 40, 8, 0), (.ireturn, 139, 1, 1, 1, 0)])]
def km_112 : mv_I := (yX7_call, cX7_call, 9, (some .int), 6, 0, 7, [])
def kb_113 : List (Nat × List mv_E) := [(0, [(.aload_n 0, 0, 1, 41, 0, 0), (.iload_n 1, 1, 1, 40, 1, 0), (.invokevirtual 99, 2, 3, 4, 122, 0), (.iload_n 2, 5, 1, 40, 2, 0), (.invokestatic 228, 6, 3, 6, 127, 0), (.ifCond .ne 14, 9, 3, 57, 23, 0), (.new 72, 12, 3, 2, 0, 4981024)]),
  (23, [(.aload_n 0, 23, 1, 41, 0, 0), (.iload_n 1, 24, 1, 40, 1, 0), (.iload_n 2, 25, 1, 40, 2, 0), (.invokevirtual 279, 26, 3, 4, 138, 0), (.ireturn, 29, 1, 1, 1, 0)])]
def km_113 : mv_I := (yX7_members, cX7_members, 3, (some .int), 2, 0, 7, [])
def kb_114 : List (Nat × List mv_E) := [(0, [(.iload_n 1, 0, 1, 40, 1, 0), (.ifCond .lt 14, 1, 3, 58, 15, 0), (.iload_n 1, 4, 1, 40, 1, 0), (.aload_n 0, 5, 1, 41, 0, 0), (.getfield 46, 6, 3, 43, 7, 4), (.getfield 290, 9, 3, 43, 1, 5), (.if_icmp .lt 14, 12, 3, 50, 26, 0)]),
  (15, [(.new 291, 15, 3, 2, 1, 19333413)]),
  (26, [(.iload_n 2, 26, 1, 40, 2, 0), (.iconst 2, 27, 1, 42, 2, 0), (.invokestatic 138, 28, 3, 6, 125, 0), (.iload_n 2, 31, 1, 40, 2, 0), (.lookupswitch 48 #[(0, 28), (1, 38)], 32, 28, 97, 0, 0)]),
  (60, [(.aload_n 0, 60, 1, 41, 0, 0), (.getfield 46, 61, 3, 43, 7, 4), (.getfield 296, 64, 3, 43, 1, 2), (.iload_n 1, 67, 1, 40, 1, 0), (.iaload, 68, 1, 44, 0, 0), (.ireturn, 69, 1, 1, 1, 0)]),
  (70, [(.aload_n 0, 70, 1, 41, 0, 0), (.getfield 46, 71, 3, 43, 7, 4), (.getfield 299, 74, 3, 43, 1, 3), (.iload_n 1, 77, 1, 40, 1, 0), (.iaload, 78, 1, 44, 0, 0), (.ireturn, 79, 1, 1, 1, 0)]),
  (80, [(.aload_n 0, 80, 1, 41, 0, 0), (.getfield 46, 81, 3, 43, 7, 4), (.getfield 300, 84, 3, 43, 1, 4), (.iload_n 1, 87, 1, 40, 1, 0), (.iaload, 88, 1, 44, 0, 0), (.ireturn, 89, 1, 1, 1, 0)])]
def km_114 : mv_I := (yX7_fault, cX7_fault, 3, (some .int), 2, 0, 7, [])
def kb_115 : List (Nat × List mv_E) := [(0, [(.iload_n 1, 0, 1, 40, 1, 0), (.bipush 6, 1, 2, 42, 6, 0), (.invokestatic 138, 3, 3, 6, 125, 0), (.iload_n 1, 6, 1, 40, 1, 0), (.tableswitch 88 0 5 #[37, 45, 53, 61, 69, 77], 7, 37, 97, 0, 0)]),
  (44, [(.aload_n 0, 44, 1, 41, 0, 0), (.getfield 21, 45, 3, 43, 7, 1), (.getfield 79, 48, 3, 43, 3, 9), (.ireturn, 51, 1, 1, 1, 0)]),
  (52, [(.aload_n 0, 52, 1, 41, 0, 0), (.getfield 12, 53, 3, 43, 7, 0), (.getfield 206, 56, 3, 43, 2, 9), (.ireturn, 59, 1, 1, 1, 0)]),
  (60, [(.aload_n 0, 60, 1, 41, 0, 0), (.getfield 37, 61, 3, 43, 7, 3), (.getfield 241, 64, 3, 43, 6, 7), (.ireturn, 67, 1, 1, 1, 0)]),
  (68, [(.aload_n 0, 68, 1, 41, 0, 0), (.getfield 46, 69, 3, 43, 7, 4), (.getfield 290, 72, 3, 43, 1, 5), (.ireturn, 75, 1, 1, 1, 0)]),
  (76, [(.aload_n 0, 76, 1, 41, 0, 0), (.getfield 55, 77, 3, 43, 7, 5), (.invokevirtual 303, 80, 3, 4, 71, 0), (.ireturn, 83, 1, 1, 1, 0)]),
  (84, [(.aload_n 0, 84, 1, 41, 0, 0), (.getfield 21, 85, 3, 43, 7, 1), (.getfield 307, 88, 3, 43, 3, 8), (.invokestatic 157, 91, 3, 6, 244, 0), (.ireturn, 94, 1, 1, 1, 0)]),
  (95, [(.aload_n 0, 95, 1, 41, 0, 0), (.getfield 30, 96, 3, 43, 7, 2), (.invokevirtual 310, 99, 3, 4, 53, 0), (.ireturn, 102, 1, 1, 1, 0)])]
def km_115 : mv_I := (yX7_many, cX7_many, 2, (some .int), 1, 0, 7, [])
def kb_116 : List (Nat × List mv_E) := [(0, [(.iconst 0, 0, 1, 42, 0, 0), (.istore_n 1, 1, 1, 46, 1, 0), (.iconst 0, 2, 1, 42, 0, 0), (.istore_n 2, 3, 1, 46, 2, 0)]),
  (4, [(.iload_n 2, 4, 1, 40, 2, 0), (.aload_n 0, 5, 1, 41, 0, 0), (.getfield 21, 6, 3, 43, 7, 1), (.getfield 79, 9, 3, 43, 3, 9), (.if_icmp .ge 17, 12, 3, 51, 29, 0), (.iload_n 1, 15, 1, 40, 1, 0), (.aload_n 0, 16, 1, 41, 0, 0), (.iload_n 2, 17, 1, 40, 2, 0), (.invokevirtual 162, 18, 3, 4, 137, 0), (.iadd, 21, 1, 54, 0, 0), (.istore_n 1, 22, 1, 46, 1, 0), (.iinc 2 1, 23, 3, 47, 2, 1), (.goto (-22), 26, 3, 45, 4, 0)]),
  (29, [(.aload_n 0, 29, 1, 41, 0, 0), (.getfield 21, 30, 3, 43, 7, 1), (.getfield 79, 33, 3, 43, 3, 9), (.ifCond .ne 7, 36, 3, 57, 43, 0), (.dconst 0, 39, 1, 89, 0, 0), (.goto 14, 40, 3, 45, 54, 0)]),
  (43, [(.iload_n 1, 43, 1, 40, 1, 0), (.i2d, 44, 1, 91, 0, 0), (.aload_n 0, 45, 1, 41, 0, 0), (.getfield 21, 46, 3, 43, 7, 1), (.getfield 79, 49, 3, 43, 3, 9), (.i2d, 52, 1, 91, 0, 0), (.ddiv, 53, 1, 95, 0, 0)]),
  (54, [(.dreturn, 54, 1, 1, 4, 0)])]
def km_116 : mv_I := (yX7_meanMembers, cX7_meanMembers, 3, (some .double), 0, 0, 7, [])
def kb_117 : List (Nat × List mv_E) := [(0, [(.aload_n 0, 0, 1, 41, 0, 0), (.iload_n 1, 1, 1, 40, 1, 0), (.iload_n 2, 2, 1, 40, 2, 0), (.invokevirtual 95, 3, 3, 4, 121, 0), (.iload_n 3, 6, 1, 40, 3, 0), (.iconst 2, 7, 1, 42, 2, 0), (.invokestatic 138, 8, 3, 6, 125, 0), (.aload_n 0, 11, 1, 41, 0, 0), (.getfield 21, 12, 3, 43, 7, 1), (.getfield 313, 15, 3, 43, 3, 2), (.iconst 2, 18, 1, 42, 2, 0), (.iload_n 1, 19, 1, 40, 1, 0), (.imul, 20, 1, 62, 0, 0), (.iload_n 2, 21, 1, 40, 2, 0), (.iadd, 22, 1, 54, 0, 0), (.iaload, 23, 1, 44, 0, 0), (.istore 4, 24, 2, 46, 4, 0), (.aload_n 0, 26, 1, 41, 0, 0), (.getfield 21, 27, 3, 43, 7, 1), (.getfield 313, 30, 3, 43, 3, 2), (.iconst 2, 33, 1, 42, 2, 0), (.iload_n 1, 34, 1, 40, 1, 0), (.imul, 35, 1, 62, 0, 0), (.iload_n 2, 36, 1, 40, 2, 0), (.iadd, 37, 1, 54, 0, 0), (.iload_n 3, 38, 1, 40, 3, 0), (.iastore, 39, 1, 63, 0, 0), (.aload_n 0, 40, 1, 41, 0, 0), (.getfield 30, 41, 3, 43, 7, 2), (.invokevirtual 310, 44, 3, 4, 53, 0), (.istore 5, 47, 2, 46, 5, 0), (.aload_n 0, 49, 1, 41, 0, 0), (.getfield 21, 50, 3, 43, 7, 1), (.getfield 313, 53, 3, 43, 3, 2), (.iconst 2, 56, 1, 42, 2, 0), (.iload_n 1, 57, 1, 40, 1, 0), (.imul, 58, 1, 62, 0, 0), (.iload_n 2, 59, 1, 40, 2, 0), (.iadd, 60, 1, 54, 0, 0), (.iload 4, 61, 2, 40, 4, 0), (.iastore, 63, 1, 63, 0, 0), (.iload 5, 64, 2, 40, 5, 0), (.ireturn, 66, 1, 1, 1, 0)])]
def km_117 : mv_I := (yX7_pairsWith, cX7_pairsWith, 6, (some .int), 3, 0, 7, [])
def kb_118 : List (Nat × List mv_E) := [(0, [(.aload_n 0, 0, 1, 41, 0, 0), (.iload_n 1, 1, 1, 40, 1, 0), (.invokevirtual 250, 2, 3, 4, 124, 0), (.aload_n 0, 5, 1, 41, 0, 0), (.getfield 46, 6, 3, 43, 7, 4), (.iload_n 1, 9, 1, 40, 1, 0), (.aload_n 0, 10, 1, 41, 0, 0), (.getfield 55, 11, 3, 43, 7, 5), (.invokevirtual 316, 14, 3, 4, 20, 0), (.ireturn, 17, 1, 1, 1, 0)])]
def km_118 : mv_I := (yX7_faultsWithout, cX7_faultsWithout, 2, (some .int), 1, 0, 7, [])
def kb_119 : List (Nat × List mv_E) := [(0, [(.ldc2_w 320, 0, 3, 88, 58134, 0), (.lstore_n 1, 3, 1, 75, 1, 0), (.iconst 0, 4, 1, 42, 0, 0), (.istore_n 3, 5, 1, 46, 3, 0)]),
  (6, [(.iload_n 3, 6, 1, 40, 3, 0), (.bipush 6, 7, 2, 42, 6, 0), (.if_icmp .gt 22, 9, 3, 52, 31, 0), (.lload_n 1, 12, 1, 72, 1, 0), (.ldc2_w 322, 13, 3, 88, 31, 0), (.lmul, 16, 1, 93, 0, 0), (.aload_n 0, 17, 1, 41, 0, 0), (.iload_n 3, 18, 1, 40, 3, 0), (.invokevirtual 324, 19, 3, 4, 115, 0), (.i2l, 22, 1, 90, 0, 0), (.ladd, 23, 1, 92, 0, 0), (.lstore_n 1, 24, 1, 75, 1, 0), (.iinc 3 1, 25, 3, 47, 3, 1), (.goto (-22), 28, 3, 45, 6, 0)]),
  (31, [(.iconst 0, 31, 1, 42, 0, 0), (.istore_n 3, 32, 1, 46, 3, 0)]),
  (33, [(.iload_n 3, 33, 1, 40, 3, 0), (.aload_n 0, 34, 1, 41, 0, 0), (.getfield 21, 35, 3, 43, 7, 1), (.getfield 79, 38, 3, 43, 3, 9), (.if_icmp .ge 64, 41, 3, 51, 105, 0), (.iconst 0, 44, 1, 42, 0, 0), (.istore 4, 45, 2, 46, 4, 0)]),
  (47, [(.iload 4, 47, 2, 40, 4, 0), (.bipush 7, 49, 2, 42, 7, 0), (.if_icmp .gt 24, 51, 3, 52, 75, 0), (.lload_n 1, 54, 1, 72, 1, 0), (.ldc2_w 322, 55, 3, 88, 31, 0), (.lmul, 58, 1, 93, 0, 0), (.aload_n 0, 59, 1, 41, 0, 0), (.iload_n 3, 60, 1, 40, 3, 0), (.iload 4, 61, 2, 40, 4, 0), (.invokevirtual 327, 63, 3, 4, 100, 0), (.i2l, 66, 1, 90, 0, 0), (.ladd, 67, 1, 92, 0, 0), (.lstore_n 1, 68, 1, 75, 1, 0), (.iinc 4 1, 69, 3, 47, 4, 1), (.goto (-25), 72, 3, 45, 47, 0)]),
  (75, [(.lload_n 1, 75, 1, 72, 1, 0), (.ldc2_w 322, 76, 3, 88, 31, 0), (.lmul, 79, 1, 93, 0, 0), (.aload_n 0, 80, 1, 41, 0, 0), (.iconst 2, 81, 1, 42, 2, 0), (.iconst 1, 82, 1, 42, 1, 0), (.iload_n 3, 83, 1, 40, 3, 0), (.ishl, 84, 1, 70, 0, 0), (.invokevirtual 330, 85, 3, 4, 108, 0), (.ifCond .eq 7, 88, 3, 56, 95, 0), (.iconst 1, 91, 1, 42, 1, 0), (.goto 4, 92, 3, 45, 96, 0)]),
  (95, [(.iconst 0, 95, 1, 42, 0, 0)]),
  (96, [(.i2l, 96, 1, 90, 0, 0), (.ladd, 97, 1, 92, 0, 0), (.lstore_n 1, 98, 1, 75, 1, 0), (.iinc 3 1, 99, 3, 47, 3, 1), (.goto (-69), 102, 3, 45, 33, 0)]),
  (105, [(.iconst 0, 105, 1, 42, 0, 0), (.istore_n 3, 106, 1, 46, 3, 0)]),
  (107, [(.iload_n 3, 107, 1, 40, 3, 0), (.aload_n 0, 108, 1, 41, 0, 0), (.getfield 12, 109, 3, 43, 7, 0), (.getfield 206, 112, 3, 43, 2, 9), (.if_icmp .ge 69, 115, 3, 51, 184, 0), (.iconst 0, 118, 1, 42, 0, 0), (.istore 4, 119, 2, 46, 4, 0)]),
  (121, [(.iload 4, 121, 2, 40, 4, 0), (.iconst 5, 123, 1, 42, 5, 0), (.if_icmp .gt 24, 124, 3, 52, 148, 0), (.lload_n 1, 127, 1, 72, 1, 0), (.ldc2_w 322, 128, 3, 88, 31, 0), (.lmul, 131, 1, 93, 0, 0), (.aload_n 0, 132, 1, 41, 0, 0), (.iload_n 3, 133, 1, 40, 3, 0), (.iload 4, 134, 2, 40, 4, 0), (.invokevirtual 333, 136, 3, 4, 104, 0), (.i2l, 139, 1, 90, 0, 0), (.ladd, 140, 1, 92, 0, 0), (.lstore_n 1, 141, 1, 75, 1, 0), (.iinc 4 1, 142, 3, 47, 4, 1), (.goto (-24), 145, 3, 45, 121, 0)]),
  (148, [(.iconst 0, 148, 1, 42, 0, 0), (.istore 4, 149, 2, 46, 4, 0)]),
  (151, [(.iload 4, 151, 2, 40, 4, 0), (.iload_n 3, 153, 1, 40, 3, 0), (.if_icmp .ge 24, 154, 3, 51, 178, 0), (.lload_n 1, 157, 1, 72, 1, 0), (.ldc2_w 322, 158, 3, 88, 31, 0), (.lmul, 161, 1, 93, 0, 0), (.aload_n 0, 162, 1, 41, 0, 0), (.iload_n 3, 163, 1, 40, 3, 0), (.iload 4, 164, 2, 40, 4, 0), (.invokevirtual 336, 166, 3, 4, 106, 0), (.i2l, 169, 1, 90, 0, 0), (.ladd, 170, 1, 92, 0, 0), (.lstore_n 1, 171, 1, 75, 1, 0), (.iinc 4 1, 172, 3, 47, 4, 1), (.goto (-24), 175, 3, 45, 151, 0)]),
  (178, [(.iinc 3 1, 178, 3, 47, 3, 1), (.goto (-74), 181, 3, 45, 107, 0)]),
  (184, [(.iconst 0, 184, 1, 42, 0, 0), (.istore_n 3, 185, 1, 46, 3, 0)]),
  (186, [(.iload_n 3, 186, 1, 40, 3, 0), (.aload_n 0, 187, 1, 41, 0, 0), (.getfield 37, 188, 3, 43, 7, 3), (.getfield 241, 191, 3, 43, 6, 7), (.if_icmp .ge 52, 194, 3, 51, 246, 0), (.iconst 0, 197, 1, 42, 0, 0), (.istore 4, 198, 2, 46, 4, 0)]),
  (200, [(.iload 4, 200, 2, 40, 4, 0), (.iconst 5, 202, 1, 42, 5, 0), (.if_icmp .gt 24, 203, 3, 52, 227, 0), (.lload_n 1, 206, 1, 72, 1, 0), (.ldc2_w 322, 207, 3, 88, 31, 0), (.lmul, 210, 1, 93, 0, 0), (.aload_n 0, 211, 1, 41, 0, 0), (.iload_n 3, 212, 1, 40, 3, 0), (.iload 4, 213, 2, 40, 4, 0), (.invokevirtual 339, 215, 3, 4, 111, 0), (.i2l, 218, 1, 90, 0, 0), (.ladd, 219, 1, 92, 0, 0), (.lstore_n 1, 220, 1, 75, 1, 0), (.iinc 4 1, 221, 3, 47, 4, 1), (.goto (-24), 224, 3, 45, 200, 0)]),
  (227, [(.lload_n 1, 227, 1, 72, 1, 0), (.ldc2_w 322, 228, 3, 88, 31, 0), (.lmul, 231, 1, 93, 0, 0), (.aload_n 0, 232, 1, 41, 0, 0), (.iload_n 3, 233, 1, 40, 3, 0), (.invokevirtual 342, 234, 3, 4, 118, 0), (.i2l, 237, 1, 90, 0, 0), (.ladd, 238, 1, 92, 0, 0), (.lstore_n 1, 239, 1, 75, 1, 0), (.iinc 3 1, 240, 3, 47, 3, 1), (.goto (-57), 243, 3, 45, 186, 0)]),
  (246, [(.iconst 0, 246, 1, 42, 0, 0), (.istore_n 3, 247, 1, 46, 3, 0)]),
  (248, [(.iload_n 3, 248, 1, 40, 3, 0), (.aload_n 0, 249, 1, 41, 0, 0), (.getfield 46, 250, 3, 43, 7, 4), (.getfield 290, 253, 3, 43, 1, 5), (.if_icmp .ge 60, 256, 3, 51, 316, 0), (.lload_n 1, 259, 1, 72, 1, 0), (.ldc2_w 322, 260, 3, 88, 31, 0), (.lmul, 263, 1, 93, 0, 0), (.aload_n 0, 264, 1, 41, 0, 0), (.getfield 46, 265, 3, 43, 7, 4), (.getfield 296, 268, 3, 43, 1, 2), (.iload_n 3, 271, 1, 40, 3, 0), (.iaload, 272, 1, 44, 0, 0), (.i2l, 273, 1, 90, 0, 0), (.ladd, 274, 1, 92, 0, 0), (.lstore_n 1, 275, 1, 75, 1, 0), (.lload_n 1, 276, 1, 72, 1, 0), (.ldc2_w 322, 277, 3, 88, 31, 0), (.lmul, 280, 1, 93, 0, 0), (.aload_n 0, 281, 1, 41, 0, 0), (.getfield 46, 282, 3, 43, 7, 4), (.getfield 299, 285, 3, 43, 1, 3), (.iload_n 3, 288, 1, 40, 3, 0), (.iaload, 289, 1, 44, 0, 0), (.i2l, 290, 1, 90, 0, 0), (.ladd, 291, 1, 92, 0, 0), (.lstore_n 1, 292, 1, 75, 1, 0), (.lload_n 1, 293, 1, 72, 1, 0), (.ldc2_w 322, 294, 3, 88, 31, 0), (.lmul, 297, 1, 93, 0, 0), (.aload_n 0, 298, 1, 41, 0, 0), (.getfield 46, 299, 3, 43, 7, 4), (.getfield 300, 302, 3, 43, 1, 4), (.iload_n 3, 305, 1, 40, 3, 0), (.iaload, 306, 1, 44, 0, 0), (.i2l, 307, 1, 90, 0, 0), (.ladd, 308, 1, 92, 0, 0), (.lstore_n 1, 309, 1, 75, 1, 0), (.iinc 3 1, 310, 3, 47, 3, 1), (.goto (-65), 313, 3, 45, 248, 0)]),
  (316, [(.lload_n 1, 316, 1, 72, 1, 0), (.lreturn, 317, 1, 1, 3, 0)])]
def km_119 : mv_I := (yX7_digest, cX7_digest, 5, (some .long), 0, 0, 7, [])
def kb_120 : List (Nat × List mv_E) := [(0, [(.iload_n 1, 0, 1, 40, 1, 0), (.ifCond .lt 14, 1, 3, 58, 15, 0), (.iload_n 1, 4, 1, 40, 1, 0), (.aload_n 0, 5, 1, 41, 0, 0), (.getfield 21, 6, 3, 43, 7, 1), (.getfield 79, 9, 3, 43, 3, 9), (.if_icmp .lt 13, 12, 3, 50, 25, 0)]),
  (15, [(.new 291, 15, 3, 2, 1, 19333340)]),
  (25, [(.return_, 25, 1, 1, 0, 0)])]
def km_120 : mv_I := (yX7_needKind, cX7_needKind, 2, none, 1, 0, 7, [])
def kb_121 : List (Nat × List mv_E) := [(0, [(.aload_n 0, 0, 1, 41, 0, 0), (.iload_n 1, 1, 1, 40, 1, 0), (.invokevirtual 119, 2, 3, 4, 120, 0), (.iload_n 2, 5, 1, 40, 2, 0), (.ifCond .lt 16, 6, 3, 58, 22, 0), (.iload_n 2, 9, 1, 40, 2, 0), (.aload_n 0, 10, 1, 41, 0, 0), (.getfield 21, 11, 3, 43, 7, 1), (.getfield 141, 14, 3, 43, 3, 1), (.iload_n 1, 17, 1, 40, 1, 0), (.iaload, 18, 1, 44, 0, 0), (.if_icmp .lt 14, 19, 3, 50, 33, 0)]),
  (22, [(.new 291, 22, 3, 2, 1, 19333465)]),
  (33, [(.return_, 33, 1, 1, 0, 0)])]
def km_121 : mv_I := (yX7_needParameter, cX7_needParameter, 3, none, 2, 0, 7, [])
def kb_122 : List (Nat × List mv_E) := [(0, [(.iload_n 1, 0, 1, 40, 1, 0), (.ifCond .lt 14, 1, 3, 58, 15, 0), (.iload_n 1, 4, 1, 40, 1, 0), (.aload_n 0, 5, 1, 41, 0, 0), (.getfield 12, 6, 3, 43, 7, 0), (.getfield 206, 9, 3, 43, 2, 9), (.if_icmp .lt 14, 12, 3, 50, 26, 0)]),
  (15, [(.new 291, 15, 3, 2, 1, 19333467)]),
  (26, [(.return_, 26, 1, 1, 0, 0)])]
def km_122 : mv_I := (yX7_needType, cX7_needType, 2, none, 1, 0, 7, [])
def kb_123 : List (Nat × List mv_E) := [(0, [(.iload_n 1, 0, 1, 40, 1, 0), (.iconst (-1), 1, 1, 42, 4294967295, 0), (.if_icmp .eq 8, 2, 3, 48, 10, 0), (.aload_n 0, 5, 1, 41, 0, 0), (.iload_n 1, 6, 1, 40, 1, 0), (.invokevirtual 99, 7, 3, 4, 122, 0)]),
  (10, [(.return_, 10, 1, 1, 0, 0)])]
def km_123 : mv_I := (yX7_needTypeOrNone, cX7_needTypeOrNone, 2, none, 1, 0, 7, [])
def kb_124 : List (Nat × List mv_E) := [(0, [(.iload_n 1, 0, 1, 40, 1, 0), (.ifCond .lt 14, 1, 3, 58, 15, 0), (.iload_n 1, 4, 1, 40, 1, 0), (.aload_n 0, 5, 1, 41, 0, 0), (.getfield 37, 6, 3, 43, 7, 3), (.getfield 241, 9, 3, 43, 6, 7), (.if_icmp .lt 13, 12, 3, 50, 25, 0)]),
  (15, [(.new 291, 15, 3, 2, 1, 19333357)]),
  (25, [(.return_, 25, 1, 1, 0, 0)])]
def km_124 : mv_I := (yX7_needMethod, cX7_needMethod, 2, none, 1, 0, 7, [])
def kb_125 : List (Nat × List mv_E) := [(0, [(.iload_n 0, 0, 1, 40, 0, 0), (.ifCond .lt 8, 1, 3, 58, 9, 0), (.iload_n 0, 4, 1, 40, 0, 0), (.iload_n 1, 5, 1, 40, 1, 0), (.if_icmp .le 14, 6, 3, 53, 20, 0)]),
  (9, [(.new 72, 9, 3, 2, 0, 4981085)]),
  (20, [(.return_, 20, 1, 1, 0, 0)])]
def km_125 : mv_I := (yX7_needWithin, cX7_needWithin, 2, none, 2, 1, 7, [])
def kb_126 : List (Nat × List mv_E) := [(0, [(.iload_n 0, 0, 1, 40, 0, 0), (.iconst (-1), 1, 1, 42, 4294967295, 0), (.if_icmp .lt 12, 2, 3, 50, 14, 0), (.iload_n 0, 5, 1, 40, 0, 0), (.iconst 2, 6, 1, 42, 2, 0), (.if_icmp .gt 7, 7, 3, 52, 14, 0), (.iconst 1, 10, 1, 42, 1, 0), (.goto 4, 11, 3, 45, 15, 0)]),
  (14, [(.iconst 0, 14, 1, 42, 0, 0)]),
  (15, [(.ireturn, 15, 1, 1, 2, 0)])]
def km_126 : mv_I := (yX7_isVarianceOrNone, cX7_isVarianceOrNone, 1, (some .boolean), 1, 1, 7, [])
def kb_127 : List (Nat × List mv_E) := [(0, [(.iload_n 0, 0, 1, 40, 0, 0), (.ifCond .lt 13, 1, 3, 58, 14, 0), (.iload_n 0, 4, 1, 40, 0, 0), (.bipush 8, 5, 2, 42, 8, 0), (.if_icmp .ge 7, 7, 3, 51, 14, 0), (.iconst 1, 10, 1, 42, 1, 0), (.goto 4, 11, 3, 45, 15, 0)]),
  (14, [(.iconst 0, 14, 1, 42, 0, 0)]),
  (15, [(.ireturn, 15, 1, 1, 2, 0)])]
def km_127 : mv_I := (yX7_isName, cX7_isName, 1, (some .boolean), 1, 1, 7, [])
def kb_128 : List (Nat × List mv_E) := [(0, [(.iload_n 0, 0, 1, 40, 0, 0), (.iconst (-1), 1, 1, 42, 4294967295, 0), (.if_icmp .ne 8, 2, 3, 49, 10, 0), (.iload_n 1, 5, 1, 40, 1, 0), (.iconst (-1), 6, 1, 42, 4294967295, 0), (.if_icmp .ne 13, 7, 3, 49, 20, 0)]),
  (10, [(.iload_n 1, 10, 1, 40, 1, 0), (.iconst (-1), 11, 1, 42, 4294967295, 0), (.if_icmp .ne 12, 12, 3, 49, 24, 0), (.iload_n 2, 15, 1, 40, 2, 0), (.iconst (-1), 16, 1, 42, 4294967295, 0), (.if_icmp .eq 7, 17, 3, 48, 24, 0)]),
  (20, [(.iconst 1, 20, 1, 42, 1, 0), (.goto 4, 21, 3, 45, 25, 0)]),
  (24, [(.iconst 0, 24, 1, 42, 0, 0)]),
  (25, [(.ireturn, 25, 1, 1, 2, 0)])]
def km_128 : mv_I := (yX7_isGap, cX7_isGap, 3, (some .boolean), 3, 1, 7, [])
def kb_129 : List (Nat × List mv_E) := [(0, [(.iload_n 2, 0, 1, 40, 2, 0), (.aload_n 0, 1, 1, 41, 0, 0), (.getfield 21, 2, 3, 43, 7, 1), (.getfield 141, 5, 3, 43, 3, 1), (.iload_n 1, 8, 1, 40, 1, 0), (.iaload, 9, 1, 44, 0, 0), (.if_icmp .lt 13, 10, 3, 50, 23, 0), (.iload_n 3, 13, 1, 40, 3, 0), (.ifCond .ne 7, 14, 3, 57, 21, 0), (.iconst 1, 17, 1, 42, 1, 0), (.goto 4, 18, 3, 45, 22, 0)]),
  (21, [(.iconst 0, 21, 1, 42, 0, 0)]),
  (22, [(.ireturn, 22, 1, 1, 2, 0)]),
  (23, [(.iload_n 3, 23, 1, 40, 3, 0), (.iconst (-1), 24, 1, 42, 4294967295, 0), (.if_icmp .eq 22, 25, 3, 48, 47, 0), (.iload_n 3, 28, 1, 40, 3, 0), (.bipush 6, 29, 2, 42, 6, 0), (.if_icmp .lt 20, 31, 3, 50, 51, 0), (.iload_n 3, 34, 1, 40, 3, 0), (.iconst 3, 35, 1, 42, 3, 0), (.idiv, 36, 1, 68, 0, 0), (.aload_n 0, 37, 1, 41, 0, 0), (.getfield 12, 38, 3, 43, 7, 0), (.getfield 206, 41, 3, 43, 2, 9), (.if_icmp .ge 7, 44, 3, 51, 51, 0)]),
  (47, [(.iconst 1, 47, 1, 42, 1, 0), (.goto 4, 48, 3, 45, 52, 0)]),
  (51, [(.iconst 0, 51, 1, 42, 0, 0)]),
  (52, [(.ireturn, 52, 1, 1, 2, 0)])]
def km_129 : mv_I := (yX7_isArgument, cX7_isArgument, 4, (some .boolean), 3, 0, 7, [])
def kb_130 : List (Nat × List mv_E) := [(0, [(.iload_n 1, 0, 1, 40, 1, 0), (.iconst (-1), 1, 1, 42, 4294967295, 0), (.if_icmp .eq 17, 2, 3, 48, 19, 0), (.iload_n 1, 5, 1, 40, 1, 0), (.iconst 1, 6, 1, 42, 1, 0), (.if_icmp .eq 16, 7, 3, 48, 23, 0), (.aload_n 0, 10, 1, 41, 0, 0), (.iload_n 1, 11, 1, 40, 1, 0), (.iload_n 2, 12, 1, 40, 2, 0), (.invokevirtual 351, 13, 3, 12, 131, 0), (.ifCond .eq 7, 16, 3, 56, 23, 0)]),
  (19, [(.iconst 1, 19, 1, 42, 1, 0), (.goto 4, 20, 3, 45, 24, 0)]),
  (23, [(.iconst 0, 23, 1, 42, 0, 0)]),
  (24, [(.ireturn, 24, 1, 1, 2, 0)])]
def km_130 : mv_I := (yX7_isUsable, cX7_isUsable, 3, (some .boolean), 2, 0, 7, [])
def kb_131 : List (Nat × List mv_E) := [(0, [(.aload_n 0, 0, 1, 41, 0, 0), (.getfield 12, 1, 3, 43, 7, 0), (.getfield 194, 4, 3, 43, 2, 6), (.iload_n 1, 7, 1, 40, 1, 0), (.iaload, 8, 1, 44, 0, 0), (.iconst 1, 9, 1, 42, 1, 0), (.iload_n 2, 10, 1, 40, 2, 0), (.ishl, 11, 1, 70, 0, 0), (.iconst (-1), 12, 1, 42, 4294967295, 0), (.ixor, 13, 1, 66, 0, 0), (.iand, 14, 1, 64, 0, 0), (.sipush (-16385), 15, 3, 42, 4294950911, 0), (.iand, 18, 1, 64, 0, 0), (.ifCond .ne 7, 19, 3, 57, 26, 0), (.iconst 1, 22, 1, 42, 1, 0), (.goto 4, 23, 3, 45, 27, 0)]),
  (26, [(.iconst 0, 26, 1, 42, 0, 0)]),
  (27, [(.ireturn, 27, 1, 1, 2, 0)])]
def km_131 : mv_I := (yX7_isOwnedBy, cX7_isOwnedBy, 3, (some .boolean), 2, 0, 7, [])
def kb_132 : List (Nat × List mv_E) := [(0, [(.aload_n 0, 0, 1, 41, 0, 0), (.getfield 12, 1, 3, 43, 7, 0), (.getfield 103, 4, 3, 43, 2, 0), (.iload_n 1, 7, 1, 40, 1, 0), (.iaload, 8, 1, 44, 0, 0), (.iconst 2, 9, 1, 42, 2, 0), (.if_icmp .ne 34, 10, 3, 49, 44, 0), (.aload_n 0, 13, 1, 41, 0, 0), (.getfield 12, 14, 3, 43, 7, 0), (.getfield 107, 17, 3, 43, 2, 1), (.iload_n 1, 20, 1, 40, 1, 0), (.iaload, 21, 1, 44, 0, 0), (.iload_n 2, 22, 1, 40, 2, 0), (.if_icmp .ge 21, 23, 3, 51, 44, 0), (.iload_n 1, 26, 1, 40, 1, 0), (.iconst 3, 27, 1, 42, 3, 0), (.if_icmp .eq 16, 28, 3, 48, 44, 0), (.aload_n 0, 31, 1, 41, 0, 0), (.iload_n 1, 32, 1, 40, 1, 0), (.iload_n 2, 33, 1, 40, 2, 0), (.invokevirtual 110, 34, 3, 4, 133, 0), (.ifCond .eq 7, 37, 3, 56, 44, 0), (.iconst 1, 40, 1, 42, 1, 0), (.goto 4, 41, 3, 45, 45, 0)]),
  (44, [(.iconst 0, 44, 1, 42, 0, 0)]),
  (45, [(.ireturn, 45, 1, 1, 2, 0)])]
def km_132 : mv_I := (yX7_isExtendable, cX7_isExtendable, 3, (some .boolean), 2, 0, 7, [])
def kb_133 : List (Nat × List mv_E) := [(0, [(.aload_n 0, 0, 1, 41, 0, 0), (.iload_n 1, 1, 1, 40, 1, 0), (.iload_n 2, 2, 1, 40, 2, 0), (.invokevirtual 351, 3, 3, 12, 131, 0), (.ifCond .eq 39, 6, 3, 56, 45, 0), (.aload_n 0, 9, 1, 41, 0, 0), (.aload_n 0, 10, 1, 41, 0, 0), (.getfield 12, 11, 3, 43, 7, 0), (.getfield 354, 14, 3, 43, 2, 2), (.iload_n 1, 17, 1, 40, 1, 0), (.iaload, 18, 1, 44, 0, 0), (.invokevirtual 357, 19, 3, 4, 134, 0), (.ifCond .eq 23, 22, 3, 56, 45, 0), (.aload_n 0, 25, 1, 41, 0, 0), (.aload_n 0, 26, 1, 41, 0, 0), (.getfield 12, 27, 3, 43, 7, 0), (.getfield 360, 30, 3, 43, 2, 3), (.iload_n 1, 33, 1, 40, 1, 0), (.iaload, 34, 1, 44, 0, 0), (.invokevirtual 357, 35, 3, 4, 134, 0), (.ifCond .eq 7, 38, 3, 56, 45, 0), (.iconst 1, 41, 1, 42, 1, 0), (.goto 4, 42, 3, 45, 46, 0)]),
  (45, [(.iconst 0, 45, 1, 42, 0, 0)]),
  (46, [(.ireturn, 46, 1, 1, 2, 0)])]
def km_133 : mv_I := (yX7_isSimpleOf, cX7_isSimpleOf, 3, (some .boolean), 2, 0, 7, [])
def kb_134 : List (Nat × List mv_E) := [(0, [(.iload_n 1, 0, 1, 40, 1, 0), (.ifCond .gt 5, 1, 3, 60, 6, 0), (.iconst 1, 4, 1, 42, 1, 0), (.ireturn, 5, 1, 1, 2, 0)]),
  (6, [(.iload_n 1, 6, 1, 40, 1, 0), (.iconst 3, 7, 1, 42, 3, 0), (.idiv, 8, 1, 68, 0, 0), (.istore_n 2, 9, 1, 46, 2, 0), (.aload_n 0, 10, 1, 41, 0, 0), (.getfield 12, 11, 3, 43, 7, 0), (.getfield 194, 14, 3, 43, 2, 6), (.iload_n 2, 17, 1, 40, 2, 0), (.iaload, 18, 1, 44, 0, 0), (.ifCond .eq 22, 19, 3, 56, 41, 0), (.aload_n 0, 22, 1, 41, 0, 0), (.getfield 12, 23, 3, 43, 7, 0), (.getfield 103, 26, 3, 43, 2, 0), (.iload_n 2, 29, 1, 40, 2, 0), (.iaload, 30, 1, 44, 0, 0), (.iconst 4, 31, 1, 42, 4, 0), (.if_icmp .ne 13, 32, 3, 49, 45, 0), (.iload_n 1, 35, 1, 40, 1, 0), (.iconst 3, 36, 1, 42, 3, 0), (.irem, 37, 1, 69, 0, 0), (.ifCond .ne 7, 38, 3, 57, 45, 0)]),
  (41, [(.iconst 1, 41, 1, 42, 1, 0), (.goto 4, 42, 3, 45, 46, 0)]),
  (45, [(.iconst 0, 45, 1, 42, 0, 0)]),
  (46, [(.ireturn, 46, 1, 1, 2, 0)])]
def km_134 : mv_I := (yX7_isSimpleArgument, cX7_isSimpleArgument, 3, (some .boolean), 1, 0, 7, [])
def kb_135 : List (Nat × List mv_E) := [(0, [(.aload_n 0, 0, 1, 41, 0, 0), (.getfield 12, 1, 3, 43, 7, 0), (.iload_n 1, 4, 1, 40, 1, 0), (.iload_n 2, 5, 1, 40, 2, 0), (.iload_n 3, 6, 1, 40, 3, 0), (.iload 4, 7, 2, 40, 4, 0), (.invokevirtual 363, 9, 3, 4, 23, 0), (.istore 5, 12, 2, 46, 5, 0), (.aload_n 0, 14, 1, 41, 0, 0), (.getfield 12, 15, 3, 43, 7, 0), (.getfield 206, 18, 3, 43, 2, 9), (.bipush 33, 21, 2, 42, 33, 0), (.if_icmp .le 23, 23, 3, 53, 46, 0), (.aload_n 0, 26, 1, 41, 0, 0), (.getfield 12, 27, 3, 43, 7, 0), (.bipush 33, 30, 2, 42, 33, 0), (.invokevirtual 211, 32, 3, 4, 24, 0), (.new 83, 35, 3, 2, 2, 5701998)]),
  (46, [(.iload 5, 46, 2, 40, 5, 0), (.ireturn, 48, 1, 1, 1, 0)])]
def km_135 : mv_I := (yX7_tell, cX7_tell, 6, (some .int), 4, 0, 7, [])
def kb_136 : List (Nat × List mv_E) := [(0, [(.aload_n 0, 0, 1, 41, 0, 0), (.getfield 12, 1, 3, 43, 7, 0), (.getfield 206, 4, 3, 43, 2, 9), (.istore_n 2, 7, 1, 46, 2, 0), (.aload_n 0, 8, 1, 41, 0, 0), (.getfield 30, 9, 3, 43, 7, 2), (.iload_n 1, 12, 1, 40, 1, 0), (.iconst 0, 13, 1, 42, 0, 0), (.invokevirtual 368, 14, 3, 5, 58, 0), (.istore_n 3, 17, 1, 46, 3, 0), (.aload_n 0, 18, 1, 41, 0, 0), (.getfield 12, 19, 3, 43, 7, 0), (.iload_n 2, 22, 1, 40, 2, 0), (.invokevirtual 211, 23, 3, 4, 24, 0), (.iload_n 3, 26, 1, 40, 3, 0), (.ireturn, 27, 1, 1, 2, 0)])]
def km_136 : mv_I := (yX7_isKeeping, cX7_isKeeping, 4, (some .boolean), 1, 0, 7, [])
def kb_137 : List (Nat × List mv_E) := [(0, [(.aload_n 0, 0, 1, 41, 0, 0), (.getfield 55, 1, 3, 43, 7, 5), (.iload_n 1, 4, 1, 40, 1, 0), (.invokevirtual 370, 5, 3, 4, 69, 0), (.invokestatic 157, 8, 3, 6, 244, 0), (.ireturn, 11, 1, 1, 1, 0)])]
def km_137 : mv_I := (yX7_membersOfKind, cX7_membersOfKind, 2, (some .int), 1, 0, 7, [])
def kb_138 : List (Nat × List mv_E) := [(0, [(.aload_n 0, 0, 1, 41, 0, 0), (.getfield 55, 1, 3, 43, 7, 5), (.aload_n 0, 4, 1, 41, 0, 0), (.getfield 12, 5, 3, 43, 7, 0), (.getfield 107, 8, 3, 43, 2, 1), (.aload_n 0, 11, 1, 41, 0, 0), (.getfield 21, 12, 3, 43, 7, 1), (.iload_n 1, 15, 1, 40, 1, 0), (.invokevirtual 200, 16, 3, 4, 46, 0), (.iaload, 19, 1, 44, 0, 0), (.invokevirtual 370, 20, 3, 4, 69, 0), (.aload_n 0, 23, 1, 41, 0, 0), (.getfield 37, 24, 3, 43, 7, 3), (.iload_n 2, 27, 1, 40, 2, 0), (.invokevirtual 373, 28, 3, 4, 95, 0), (.iand, 31, 1, 64, 0, 0), (.ireturn, 32, 1, 1, 1, 0)])]
def km_138 : mv_I := (yX7_membersNamed, cX7_membersNamed, 3, (some .int), 2, 0, 7, [])
def kb_139 : List (Nat × List mv_E) := [(0, [(.aload_n 0, 0, 1, 41, 0, 0), (.invokespecial 1, 1, 3, 3, 0, 0), (.aload_n 0, 4, 1, 41, 0, 0), (.iconst 2, 5, 1, 42, 2, 0), (.putfield 7, 6, 3, 55, 8, 4), (.aload_n 0, 9, 1, 41, 0, 0), (.bipush 14, 10, 2, 42, 14, 0), (.newarray .int, 12, 2, 86, 0, 0), (.putfield 13, 14, 3, 55, 8, 10), (.aload_n 0, 17, 1, 41, 0, 0), (.bipush 28, 18, 2, 42, 28, 0), (.newarray .int, 20, 2, 86, 0, 0), (.putfield 17, 22, 3, 55, 8, 14), (.aload_n 0, 25, 1, 41, 0, 0), (.bipush 28, 26, 2, 42, 28, 0), (.newarray .int, 28, 2, 86, 0, 0), (.putfield 20, 30, 3, 55, 8, 18), (.aload_n 0, 33, 1, 41, 0, 0), (.bipush 42, 34, 2, 42, 42, 0), (.newarray .int, 36, 2, 86, 0, 0), (.putfield 23, 38, 3, 55, 8, 22), (.aload_n 0, 41, 1, 41, 0, 0), (.bipush 14, 42, 2, 42, 14, 0), (.newarray .int, 44, 2, 86, 0, 0), (.putfield 26, 46, 3, 55, 8, 26), (.aload_n 0, 49, 1, 41, 0, 0), (.bipush 14, 50, 2, 42, 14, 0), (.newarray .int, 52, 2, 86, 0, 0), (.putfield 29, 54, 3, 55, 8, 30), (.aload_n 0, 57, 1, 41, 0, 0), (.bipush 14, 58, 2, 42, 14, 0), (.newarray .boolean, 60, 2, 86, 2, 0), (.putfield 32, 62, 3, 55, 8, 34), (.aload_n 0, 65, 1, 41, 0, 0), (.iconst 5, 66, 1, 42, 5, 0), (.putfield 36, 67, 3, 55, 8, 36), (.aload_n 0, 70, 1, 41, 0, 0), (.iconst 5, 71, 1, 42, 5, 0), (.putfield 39, 72, 3, 55, 8, 40), (.aload_n 0, 75, 1, 41, 0, 0), (.bipush 64, 76, 2, 42, 64, 0), (.newarray .int, 78, 2, 86, 0, 0), (.putfield 42, 80, 3, 55, 8, 46), (.aload_n 0, 83, 1, 41, 0, 0), (.bipush 64, 84, 2, 42, 64, 0), (.newarray .int, 86, 2, 86, 0, 0), (.putfield 45, 88, 3, 55, 8, 50), (.aload_n 0, 91, 1, 41, 0, 0), (.bipush 64, 92, 2, 42, 64, 0), (.newarray .int, 94, 2, 86, 0, 0), (.putfield 48, 96, 3, 55, 8, 54), (.aload_n 0, 99, 1, 41, 0, 0), (.bipush 64, 100, 2, 42, 64, 0), (.newarray .int, 102, 2, 86, 0, 0), (.putfield 51, 104, 3, 55, 8, 58), (.aload_n 0, 107, 1, 41, 0, 0), (.bipush 64, 108, 2, 42, 64, 0), (.newarray .int, 110, 2, 86, 0, 0), (.putfield 54, 112, 3, 55, 8, 62), (.aload_n 0, 115, 1, 41, 0, 0), (.bipush 20, 116, 2, 42, 20, 0), (.newarray .int, 118, 2, 86, 0, 0), (.putfield 57, 120, 3, 55, 8, 70), (.aload_n 0, 123, 1, 41, 0, 0), (.bipush 20, 124, 2, 42, 20, 0), (.newarray .int, 126, 2, 86, 0, 0), (.putfield 60, 128, 3, 55, 8, 74), (.aload_n 0, 131, 1, 41, 0, 0), (.bipush 60, 132, 2, 42, 60, 0), (.newarray .int, 134, 2, 86, 0, 0), (.putfield 63, 136, 3, 55, 8, 78), (.aload_n 0, 139, 1, 41, 0, 0), (.bipush 20, 140, 2, 42, 20, 0), (.newarray .int, 142, 2, 86, 0, 0), (.putfield 66, 144, 3, 55, 8, 82), (.aload_n 0, 147, 1, 41, 0, 0), (.bipush 20, 148, 2, 42, 20, 0), (.newarray .int, 150, 2, 86, 0, 0), (.putfield 69, 152, 3, 55, 8, 86), (.aload_n 0, 155, 1, 41, 0, 0), (.bipush 20, 156, 2, 42, 20, 0), (.newarray .int, 158, 2, 86, 0, 0), (.putfield 72, 160, 3, 55, 8, 90), (.aload_n 0, 163, 1, 41, 0, 0), (.bipush 20, 164, 2, 42, 20, 0), (.newarray .boolean, 166, 2, 86, 2, 0), (.putfield 75, 168, 3, 55, 8, 94), (.aload_n 0, 171, 1, 41, 0, 0), (.iconst (-1), 172, 1, 42, 4294967295, 0), (.putfield 78, 173, 3, 55, 8, 96), (.aload_n 0, 176, 1, 41, 0, 0), (.iconst 0, 177, 1, 42, 0, 0), (.newarray .int, 178, 2, 86, 0, 0), (.putfield 81, 180, 3, 55, 8, 102), (.aload_n 0, 183, 1, 41, 0, 0), (.iconst 0, 184, 1, 42, 0, 0), (.iconst 0, 185, 1, 42, 0, 0), (.iconst 0, 186, 1, 42, 0, 0), (.iconst 0, 187, 1, 42, 0, 0), (.bipush (-2), 188, 2, 42, 4294967294, 0), (.bipush (-2), 190, 2, 42, 4294967294, 0), (.invokevirtual 84, 192, 3, 4, 148, 0), (.aload_n 0, 195, 1, 41, 0, 0), (.iconst 1, 196, 1, 42, 1, 0), (.iconst 1, 197, 1, 42, 1, 0), (.iconst 0, 198, 1, 42, 0, 0), (.iconst 0, 199, 1, 42, 0, 0), (.bipush (-2), 200, 2, 42, 4294967294, 0), (.bipush (-2), 202, 2, 42, 4294967294, 0), (.invokevirtual 84, 204, 3, 4, 148, 0), (.aload_n 0, 207, 1, 41, 0, 0), (.iconst 2, 208, 1, 42, 2, 0), (.iconst 2, 209, 1, 42, 2, 0), (.iconst 0, 210, 1, 42, 0, 0), (.iconst 0, 211, 1, 42, 0, 0), (.bipush (-2), 212, 2, 42, 4294967294, 0), (.bipush (-2), 214, 2, 42, 4294967294, 0), (.invokevirtual 84, 216, 3, 4, 148, 0), (.aload_n 0, 219, 1, 41, 0, 0), (.iconst 3, 220, 1, 42, 3, 0), (.iconst 2, 221, 1, 42, 2, 0), (.iconst 1, 222, 1, 42, 1, 0), (.iconst 0, 223, 1, 42, 0, 0), (.bipush (-2), 224, 2, 42, 4294967294, 0), (.bipush (-2), 226, 2, 42, 4294967294, 0), (.invokevirtual 84, 228, 3, 4, 148, 0), (.aload_n 0, 231, 1, 41, 0, 0), (.iconst 4, 232, 1, 42, 4, 0), (.iconst 3, 233, 1, 42, 3, 0), (.iconst 0, 234, 1, 42, 0, 0), (.iconst 0, 235, 1, 42, 0, 0), (.bipush (-2), 236, 2, 42, 4294967294, 0), (.bipush (-2), 238, 2, 42, 4294967294, 0), (.invokevirtual 84, 240, 3, 4, 148, 0), (.iconst 0, 243, 1, 42, 0, 0), (.istore_n 1, 244, 1, 46, 1, 0)]),
  (245, [(.iload_n 1, 245, 1, 40, 1, 0), (.bipush 28, 246, 2, 42, 28, 0), (.if_icmp .ge 16, 248, 3, 51, 264, 0), (.aload_n 0, 251, 1, 41, 0, 0), (.getfield 20, 252, 3, 43, 8, 4), (.iload_n 1, 255, 1, 40, 1, 0), (.iconst 2, 256, 1, 42, 2, 0), (.iastore, 257, 1, 63, 0, 0), (.iinc 1 1, 258, 3, 47, 1, 1), (.goto (-16), 261, 3, 45, 245, 0)]),
  (264, [(.iconst 0, 264, 1, 42, 0, 0), (.istore_n 1, 265, 1, 46, 1, 0)]),
  (266, [(.iload_n 1, 266, 1, 40, 1, 0), (.bipush 20, 267, 2, 42, 20, 0), (.if_icmp .ge 16, 269, 3, 51, 285, 0), (.aload_n 0, 272, 1, 41, 0, 0), (.getfield 72, 273, 3, 43, 8, 22), (.iload_n 1, 276, 1, 40, 1, 0), (.iconst 2, 277, 1, 42, 2, 0), (.iastore, 278, 1, 63, 0, 0), (.iinc 1 1, 279, 3, 47, 1, 1), (.goto (-16), 282, 3, 45, 266, 0)]),
  (285, [(.aload_n 0, 285, 1, 41, 0, 0), (.invokevirtual 88, 286, 3, 4, 170, 0), (.return_, 289, 1, 1, 0, 0)])]
def km_139 : mv_I := (yX8_init, cX8_init, 2, none, 0, 2, 8, [])
def kb_140 : List (Nat × List mv_E) := [(0, [(.aload_n 0, 0, 1, 41, 0, 0), (.getfield 91, 1, 3, 43, 8, 0), (.ireturn, 4, 1, 1, 1, 0)])]
def km_140 : mv_I := (yX8_thrown, cX8_thrown, 1, (some .int), 0, 0, 8, [])
def kb_141 : List (Nat × List mv_E) := [(0, [(.aload_n 0, 0, 1, 41, 0, 0), (.iload_n 1, 1, 1, 40, 1, 0), (.putfield 91, 2, 3, 55, 8, 0), (.iconst 0, 5, 1, 42, 0, 0), (.ireturn, 6, 1, 1, 1, 0)])]
def km_141 : mv_I := (yX8_no, cX8_no, 2, (some .int), 1, 0, 8, [])
def kb_142 : List (Nat × List mv_E) := [(0, [(.aload_n 0, 0, 1, 41, 0, 0), (.iconst 0, 1, 1, 42, 0, 0), (.putfield 91, 2, 3, 55, 8, 0), (.aload_n 0, 5, 1, 41, 0, 0), (.aload_n 0, 6, 1, 41, 0, 0), (.getfield 36, 7, 3, 43, 8, 9), (.putfield 39, 10, 3, 55, 8, 40), (.return_, 13, 1, 1, 0, 0)])]
def km_142 : mv_I := (yX8_begin, cX8_begin, 1, none, 0, 0, 8, [])
def kb_143 : List (Nat × List mv_E) := [(0, [(.iload_n 0, 0, 1, 40, 0, 0), (.iload_n 1, 1, 1, 40, 1, 0), (.if_icmp .lt 12, 2, 3, 50, 14, 0), (.iload_n 0, 5, 1, 40, 0, 0), (.iload_n 2, 6, 1, 40, 2, 0), (.if_icmp .gt 7, 7, 3, 52, 14, 0), (.iconst 1, 10, 1, 42, 1, 0), (.goto 4, 11, 3, 45, 15, 0)]),
  (14, [(.iconst 0, 14, 1, 42, 0, 0)]),
  (15, [(.ireturn, 15, 1, 1, 2, 0)])]
def km_143 : mv_I := (yX8_isIn, cX8_isIn, 3, (some .boolean), 3, 1, 8, [])
def kb_144 : List (Nat × List mv_E) := [(0, [(.iload_n 0, 0, 1, 40, 0, 0), (.iload_n 1, 1, 1, 40, 1, 0), (.ishr, 2, 1, 71, 0, 0), (.iconst 1, 3, 1, 42, 1, 0), (.iand, 4, 1, 64, 0, 0), (.iconst 1, 5, 1, 42, 1, 0), (.if_icmp .ne 7, 6, 3, 49, 13, 0), (.iconst 1, 9, 1, 42, 1, 0), (.goto 4, 10, 3, 45, 14, 0)]),
  (13, [(.iconst 0, 13, 1, 42, 0, 0)]),
  (14, [(.ireturn, 14, 1, 1, 2, 0)])]
def km_144 : mv_I := (yX8_has, cX8_has, 2, (some .boolean), 2, 1, 8, [])
def kb_145 : List (Nat × List mv_E) := [(0, [(.iload_n 1, 0, 1, 40, 1, 0), (.iconst 0, 1, 1, 42, 0, 0), (.aload_n 0, 2, 1, 41, 0, 0), (.getfield 7, 3, 3, 43, 8, 1), (.iconst 1, 6, 1, 42, 1, 0), (.isub, 7, 1, 67, 0, 0), (.invokestatic 94, 8, 3, 6, 143, 0), (.ireturn, 11, 1, 1, 2, 0)])]
def km_145 : mv_I := (yX8_isClass, cX8_isClass, 2, (some .boolean), 1, 0, 8, [])
def kb_146 : List (Nat × List mv_E) := [(0, [(.iload_n 1, 0, 1, 40, 1, 0), (.iconst 0, 1, 1, 42, 0, 0), (.aload_n 0, 2, 1, 41, 0, 0), (.getfield 36, 3, 3, 43, 8, 9), (.iconst 1, 6, 1, 42, 1, 0), (.isub, 7, 1, 67, 0, 0), (.invokestatic 94, 8, 3, 6, 143, 0), (.ireturn, 11, 1, 1, 2, 0)])]
def km_146 : mv_I := (yX8_isType, cX8_isType, 2, (some .boolean), 1, 0, 8, [])
def kb_147 : List (Nat × List mv_E) := [(0, [(.aload_n 0, 0, 1, 41, 0, 0), (.iload_n 1, 1, 1, 40, 1, 0), (.invokevirtual 98, 2, 3, 4, 145, 0), (.ifCond .eq 23, 5, 3, 56, 28, 0), (.iload_n 2, 8, 1, 40, 2, 0), (.iconst 0, 9, 1, 42, 0, 0), (.aload_n 0, 10, 1, 41, 0, 0), (.getfield 13, 11, 3, 43, 8, 2), (.iload_n 1, 14, 1, 40, 1, 0), (.iaload, 15, 1, 44, 0, 0), (.iconst 1, 16, 1, 42, 1, 0), (.isub, 17, 1, 67, 0, 0), (.invokestatic 94, 18, 3, 6, 143, 0), (.ifCond .eq 7, 21, 3, 56, 28, 0), (.iconst 1, 24, 1, 42, 1, 0), (.goto 4, 25, 3, 45, 29, 0)]),
  (28, [(.iconst 0, 28, 1, 42, 0, 0)]),
  (29, [(.ireturn, 29, 1, 1, 2, 0)])]
def km_147 : mv_I := (yX8_isParameter, cX8_isParameter, 3, (some .boolean), 2, 0, 8, [])
def kb_148 : List (Nat × List mv_E) := [(0, [(.aload_n 0, 0, 1, 41, 0, 0), (.getfield 42, 1, 3, 43, 8, 11), (.iload_n 1, 4, 1, 40, 1, 0), (.iload_n 2, 5, 1, 40, 2, 0), (.iastore, 6, 1, 63, 0, 0), (.aload_n 0, 7, 1, 41, 0, 0), (.getfield 45, 8, 3, 43, 8, 12), (.iload_n 1, 11, 1, 40, 1, 0), (.iload_n 3, 12, 1, 40, 3, 0), (.iastore, 13, 1, 63, 0, 0), (.aload_n 0, 14, 1, 41, 0, 0), (.getfield 48, 15, 3, 43, 8, 13), (.iload_n 1, 18, 1, 40, 1, 0), (.iload 4, 19, 2, 40, 4, 0), (.iastore, 21, 1, 63, 0, 0), (.aload_n 0, 22, 1, 41, 0, 0), (.getfield 51, 23, 3, 43, 8, 14), (.iload_n 1, 26, 1, 40, 1, 0), (.iload 5, 27, 2, 40, 5, 0), (.iastore, 29, 1, 63, 0, 0), (.aload_n 0, 30, 1, 41, 0, 0), (.getfield 54, 31, 3, 43, 8, 15), (.iload_n 1, 34, 1, 40, 1, 0), (.iload 6, 35, 2, 40, 6, 0), (.iastore, 37, 1, 63, 0, 0), (.return_, 38, 1, 1, 0, 0)])]
def km_148 : mv_I := (yX8_write, cX8_write, 7, none, 6, 0, 8, [])
def kb_149 : List (Nat × List mv_E) := [(0, [(.iconst 2, 0, 1, 42, 2, 0), (.aload_n 0, 1, 1, 41, 0, 0), (.arraylength, 2, 1, 85, 0, 0), (.imul, 3, 1, 62, 0, 0), (.newarray .int, 4, 2, 86, 0, 0), (.astore_n 1, 6, 1, 74, 1, 0), (.aload_n 0, 7, 1, 41, 0, 0), (.iconst 0, 8, 1, 42, 0, 0), (.aload_n 1, 9, 1, 41, 1, 0), (.iconst 0, 10, 1, 42, 0, 0), (.aload_n 0, 11, 1, 41, 0, 0), (.arraylength, 12, 1, 85, 0, 0), (.invokestatic 102, 13, 3, 11, 0, 0), (.aload_n 1, 16, 1, 41, 1, 0), (.areturn, 17, 1, 1, 5, 0)])]
def km_149 : mv_I := (yX8_more, cX8_more, 2, (some (.array .int)), 1, 1, 8, [])
def kb_150 : List (Nat × List mv_E) := [(0, [(.iconst 0, 0, 1, 42, 0, 0), (.istore 6, 1, 2, 46, 6, 0)]),
  (3, [(.iload 6, 3, 2, 40, 6, 0), (.aload_n 0, 5, 1, 41, 0, 0), (.getfield 39, 6, 3, 43, 8, 10), (.if_icmp .ge 69, 9, 3, 51, 78, 0), (.aload_n 0, 12, 1, 41, 0, 0), (.getfield 42, 13, 3, 43, 8, 11), (.iload 6, 16, 2, 40, 6, 0), (.iaload, 18, 1, 44, 0, 0), (.iload_n 1, 19, 1, 40, 1, 0), (.if_icmp .ne 52, 20, 3, 49, 72, 0), (.aload_n 0, 23, 1, 41, 0, 0), (.getfield 45, 24, 3, 43, 8, 12), (.iload 6, 27, 2, 40, 6, 0), (.iaload, 29, 1, 44, 0, 0), (.iload_n 2, 30, 1, 40, 2, 0), (.if_icmp .ne 41, 31, 3, 49, 72, 0), (.aload_n 0, 34, 1, 41, 0, 0), (.getfield 48, 35, 3, 43, 8, 13), (.iload 6, 38, 2, 40, 6, 0), (.iaload, 40, 1, 44, 0, 0), (.iload_n 3, 41, 1, 40, 3, 0), (.if_icmp .ne 30, 42, 3, 49, 72, 0), (.aload_n 0, 45, 1, 41, 0, 0), (.getfield 51, 46, 3, 43, 8, 14), (.iload 6, 49, 2, 40, 6, 0), (.iaload, 51, 1, 44, 0, 0), (.iload 4, 52, 2, 40, 4, 0), (.if_icmp .ne 18, 54, 3, 49, 72, 0), (.aload_n 0, 57, 1, 41, 0, 0), (.getfield 54, 58, 3, 43, 8, 15), (.iload 6, 61, 2, 40, 6, 0), (.iaload, 63, 1, 44, 0, 0), (.iload 5, 64, 2, 40, 5, 0), (.if_icmp .ne 6, 66, 3, 49, 72, 0), (.iload 6, 69, 2, 40, 6, 0), (.ireturn, 71, 1, 1, 1, 0)]),
  (72, [(.iinc 6 1, 72, 3, 47, 6, 1), (.goto (-72), 75, 3, 45, 3, 0)]),
  (78, [(.iconst (-1), 78, 1, 42, 4294967295, 0), (.ireturn, 79, 1, 1, 1, 0)])]
def km_150 : mv_I := (yX8_find, cX8_find, 7, (some .int), 5, 0, 8, [])
def kb_151 : List (Nat × List mv_E) := [(0, [(.aload_n 0, 0, 1, 41, 0, 0), (.iload_n 1, 1, 1, 40, 1, 0), (.iload_n 2, 2, 1, 40, 2, 0), (.iload_n 3, 3, 1, 40, 3, 0), (.iload 4, 4, 2, 40, 4, 0), (.iload 5, 6, 2, 40, 5, 0), (.invokevirtual 108, 8, 3, 4, 150, 0), (.istore 6, 11, 2, 46, 6, 0), (.iload 6, 13, 2, 40, 6, 0), (.iconst (-1), 15, 1, 42, 4294967295, 0), (.if_icmp .eq 6, 16, 3, 48, 22, 0), (.iload 6, 19, 2, 40, 6, 0), (.ireturn, 21, 1, 1, 1, 0)]),
  (22, [(.aload_n 0, 22, 1, 41, 0, 0), (.getfield 39, 23, 3, 43, 8, 10), (.aload_n 0, 26, 1, 41, 0, 0), (.getfield 42, 27, 3, 43, 8, 11), (.arraylength, 30, 1, 85, 0, 0), (.if_icmp .ne 58, 31, 3, 49, 89, 0), (.aload_n 0, 34, 1, 41, 0, 0), (.aload_n 0, 35, 1, 41, 0, 0), (.getfield 42, 36, 3, 43, 8, 11), (.invokestatic 112, 39, 3, 6, 149, 0), (.putfield 42, 42, 3, 55, 8, 46), (.aload_n 0, 45, 1, 41, 0, 0), (.aload_n 0, 46, 1, 41, 0, 0), (.getfield 45, 47, 3, 43, 8, 12), (.invokestatic 112, 50, 3, 6, 149, 0), (.putfield 45, 53, 3, 55, 8, 50), (.aload_n 0, 56, 1, 41, 0, 0), (.aload_n 0, 57, 1, 41, 0, 0), (.getfield 48, 58, 3, 43, 8, 13), (.invokestatic 112, 61, 3, 6, 149, 0), (.putfield 48, 64, 3, 55, 8, 54), (.aload_n 0, 67, 1, 41, 0, 0), (.aload_n 0, 68, 1, 41, 0, 0), (.getfield 51, 69, 3, 43, 8, 14), (.invokestatic 112, 72, 3, 6, 149, 0), (.putfield 51, 75, 3, 55, 8, 58), (.aload_n 0, 78, 1, 41, 0, 0), (.aload_n 0, 79, 1, 41, 0, 0), (.getfield 54, 80, 3, 43, 8, 15), (.invokestatic 112, 83, 3, 6, 149, 0), (.putfield 54, 86, 3, 55, 8, 62)]),
  (89, [(.aload_n 0, 89, 1, 41, 0, 0), (.aload_n 0, 90, 1, 41, 0, 0), (.getfield 39, 91, 3, 43, 8, 10), (.iload_n 1, 94, 1, 40, 1, 0), (.iload_n 2, 95, 1, 40, 2, 0), (.iload_n 3, 96, 1, 40, 3, 0), (.iload 4, 97, 2, 40, 4, 0), (.iload 5, 99, 2, 40, 5, 0), (.invokevirtual 84, 101, 3, 4, 148, 0), (.aload_n 0, 104, 1, 41, 0, 0), (.dup, 105, 1, 77, 0, 0), (.getfield 39, 106, 3, 43, 8, 10), (.dup_x1, 109, 1, 79, 0, 0), (.iconst 1, 110, 1, 42, 1, 0), (.iadd, 111, 1, 54, 0, 0), (.putfield 39, 112, 3, 55, 8, 40), (.ireturn, 115, 1, 1, 1, 0)])]
def km_151 : mv_I := (yX8_type, cX8_type, 7, (some .int), 5, 0, 8, [])
def kb_152 : List (Nat × List mv_E) := [(0, [(.aload_n 0, 0, 1, 41, 0, 0), (.iconst 5, 1, 1, 42, 5, 0), (.iload_n 1, 2, 1, 40, 1, 0), (.iconst 0, 3, 1, 42, 0, 0), (.bipush (-2), 4, 2, 42, 4294967294, 0), (.bipush (-2), 6, 2, 42, 4294967294, 0), (.invokevirtual 116, 8, 3, 4, 151, 0), (.ireturn, 11, 1, 1, 1, 0)])]
def km_152 : mv_I := (yX8_arrayOf, cX8_arrayOf, 2, (some .int), 1, 0, 8, [])
def kb_153 : List (Nat × List mv_E) := [(0, [(.aload_n 0, 0, 1, 41, 0, 0), (.iconst 2, 1, 1, 42, 2, 0), (.iload_n 1, 2, 1, 40, 1, 0), (.iconst 0, 3, 1, 42, 0, 0), (.iload_n 2, 4, 1, 40, 2, 0), (.iload_n 3, 5, 1, 40, 3, 0), (.invokevirtual 116, 6, 3, 4, 151, 0), (.ireturn, 9, 1, 1, 1, 0)])]
def km_153 : mv_I := (yX8_classOf, cX8_classOf, 4, (some .int), 3, 0, 8, [])
def kb_154 : List (Nat × List mv_E) := [(0, [(.aload_n 0, 0, 1, 41, 0, 0), (.getfield 42, 1, 3, 43, 8, 11), (.iload_n 1, 4, 1, 40, 1, 0), (.iaload, 5, 1, 44, 0, 0), (.iconst 2, 6, 1, 42, 2, 0), (.if_icmp .ne 7, 7, 3, 49, 14, 0), (.iconst 1, 10, 1, 42, 1, 0), (.goto 4, 11, 3, 45, 15, 0)]),
  (14, [(.iconst 0, 14, 1, 42, 0, 0)]),
  (15, [(.ireturn, 15, 1, 1, 2, 0)])]
def km_154 : mv_I := (yX8_isOfClass, cX8_isOfClass, 2, (some .boolean), 1, 0, 8, [])
def kb_155 : List (Nat × List mv_E) := [(0, [(.iload_n 2, 0, 1, 40, 2, 0), (.ifCond .ne 12, 1, 3, 57, 13, 0), (.aload_n 0, 4, 1, 41, 0, 0), (.getfield 51, 5, 3, 43, 8, 14), (.iload_n 1, 8, 1, 40, 1, 0), (.iaload, 9, 1, 44, 0, 0), (.goto 9, 10, 3, 45, 19, 0)]),
  (13, [(.aload_n 0, 13, 1, 41, 0, 0), (.getfield 54, 14, 3, 43, 8, 15), (.iload_n 1, 17, 1, 40, 1, 0), (.iaload, 18, 1, 44, 0, 0)]),
  (19, [(.ireturn, 19, 1, 1, 1, 0)])]
def km_155 : mv_I := (yX8_argument, cX8_argument, 3, (some .int), 2, 0, 8, [])
def kb_156 : List (Nat × List mv_E) := [(0, [(.iload_n 0, 0, 1, 40, 0, 0), (.iconst 3, 1, 1, 42, 3, 0), (.idiv, 2, 1, 68, 0, 0), (.ireturn, 3, 1, 1, 1, 0)])]
def km_156 : mv_I := (yX8_typeOf, cX8_typeOf, 1, (some .int), 1, 1, 8, [])
def kb_157 : List (Nat × List mv_E) := [(0, [(.iload_n 0, 0, 1, 40, 0, 0), (.iconst 3, 1, 1, 42, 3, 0), (.irem, 2, 1, 69, 0, 0), (.ireturn, 3, 1, 1, 1, 0)])]
def km_157 : mv_I := (yX8_modeOf, cX8_modeOf, 1, (some .int), 1, 1, 8, [])
def kb_158 : List (Nat × List mv_E) := [(0, [(.iload_n 0, 0, 1, 40, 0, 0), (.ifCond .lt 7, 1, 3, 58, 8, 0), (.iconst 1, 4, 1, 42, 1, 0), (.goto 4, 5, 3, 45, 9, 0)]),
  (8, [(.iconst 0, 8, 1, 42, 0, 0)]),
  (9, [(.ireturn, 9, 1, 1, 2, 0)])]
def km_158 : mv_I := (yX8_hasType, cX8_hasType, 1, (some .boolean), 1, 1, 8, [])
def kb_159 : List (Nat × List mv_E) := [(0, [(.aload_n 0, 0, 1, 41, 0, 0), (.getfield 20, 1, 3, 43, 8, 4), (.iconst 2, 4, 1, 42, 2, 0), (.aload_n 0, 5, 1, 41, 0, 0), (.getfield 45, 6, 3, 43, 8, 12), (.iload_n 1, 9, 1, 40, 1, 0), (.iaload, 10, 1, 44, 0, 0), (.imul, 11, 1, 62, 0, 0), (.aload_n 0, 12, 1, 41, 0, 0), (.getfield 48, 13, 3, 43, 8, 13), (.iload_n 1, 16, 1, 40, 1, 0), (.iaload, 17, 1, 44, 0, 0), (.iadd, 18, 1, 54, 0, 0), (.iaload, 19, 1, 44, 0, 0), (.ireturn, 20, 1, 1, 1, 0)])]
def km_159 : mv_I := (yX8_boundOf, cX8_boundOf, 2, (some .int), 1, 0, 8, [])
def kb_160 : List (Nat × List mv_E) := [(0, [(.aload_n 0, 0, 1, 41, 0, 0), (.getfield 42, 1, 3, 43, 8, 11), (.iload_n 1, 4, 1, 40, 1, 0), (.iaload, 5, 1, 44, 0, 0), (.iconst 5, 6, 1, 42, 5, 0), (.if_icmp .ne 16, 7, 3, 49, 23, 0), (.iconst 1, 10, 1, 42, 1, 0), (.aload_n 0, 11, 1, 41, 0, 0), (.aload_n 0, 12, 1, 41, 0, 0), (.getfield 45, 13, 3, 43, 8, 12), (.iload_n 1, 16, 1, 40, 1, 0), (.iaload, 17, 1, 44, 0, 0), (.invokevirtual 119, 18, 3, 4, 160, 0), (.iadd, 21, 1, 54, 0, 0), (.ireturn, 22, 1, 1, 1, 0)]),
  (23, [(.aload_n 0, 23, 1, 41, 0, 0), (.iload_n 1, 24, 1, 40, 1, 0), (.invokevirtual 123, 25, 3, 4, 154, 0), (.ifCond .ne 5, 28, 3, 57, 33, 0), (.iconst 1, 31, 1, 42, 1, 0), (.ireturn, 32, 1, 1, 1, 0)]),
  (33, [(.iconst 0, 33, 1, 42, 0, 0), (.istore_n 2, 34, 1, 46, 2, 0), (.iconst 0, 35, 1, 42, 0, 0), (.istore_n 3, 36, 1, 46, 3, 0)]),
  (37, [(.iload_n 3, 37, 1, 40, 3, 0), (.iconst 2, 38, 1, 42, 2, 0), (.if_icmp .ge 39, 39, 3, 51, 78, 0), (.aload_n 0, 42, 1, 41, 0, 0), (.iload_n 1, 43, 1, 40, 1, 0), (.iload_n 3, 44, 1, 40, 3, 0), (.invokevirtual 126, 45, 3, 4, 155, 0), (.invokestatic 130, 48, 3, 6, 158, 0), (.ifCond .eq 21, 51, 3, 56, 72, 0), (.iload_n 2, 54, 1, 40, 2, 0), (.aload_n 0, 55, 1, 41, 0, 0), (.aload_n 0, 56, 1, 41, 0, 0), (.iload_n 1, 57, 1, 40, 1, 0), (.iload_n 3, 58, 1, 40, 3, 0), (.invokevirtual 126, 59, 3, 4, 155, 0), (.invokestatic 133, 62, 3, 6, 156, 0), (.invokevirtual 119, 65, 3, 4, 160, 0), (.invokestatic 136, 68, 3, 6, 245, 0), (.istore_n 2, 71, 1, 46, 2, 0)]),
  (72, [(.iinc 3 1, 72, 3, 47, 3, 1), (.goto (-38), 75, 3, 45, 37, 0)]),
  (78, [(.iconst 1, 78, 1, 42, 1, 0), (.iload_n 2, 79, 1, 40, 2, 0), (.iadd, 80, 1, 54, 0, 0), (.ireturn, 81, 1, 1, 1, 0)])]
def km_160 : mv_I := (yX8_deepOf, cX8_deepOf, 4, (some .int), 1, 0, 8, [])
def kb_161 : List (Nat × List mv_E) := [(0, [(.aload_n 0, 0, 1, 41, 0, 0), (.getfield 42, 1, 3, 43, 8, 11), (.iload_n 1, 4, 1, 40, 1, 0), (.iaload, 5, 1, 44, 0, 0), (.iconst 4, 6, 1, 42, 4, 0), (.if_icmp .ne 19, 7, 3, 49, 26, 0), (.aload_n 0, 10, 1, 41, 0, 0), (.getfield 45, 11, 3, 43, 8, 12), (.iload_n 1, 14, 1, 40, 1, 0), (.iaload, 15, 1, 44, 0, 0), (.iload_n 2, 16, 1, 40, 2, 0), (.if_icmp .ne 7, 17, 3, 49, 24, 0), (.iconst 1, 20, 1, 42, 1, 0), (.goto 4, 21, 3, 45, 25, 0)]),
  (24, [(.iconst 0, 24, 1, 42, 0, 0)]),
  (25, [(.ireturn, 25, 1, 1, 2, 0)]),
  (26, [(.aload_n 0, 26, 1, 41, 0, 0), (.getfield 42, 27, 3, 43, 8, 11), (.iload_n 1, 30, 1, 40, 1, 0), (.iaload, 31, 1, 44, 0, 0), (.iconst 3, 32, 1, 42, 3, 0), (.if_icmp .ne 14, 33, 3, 49, 47, 0), (.iload_n 2, 36, 1, 40, 2, 0), (.iconst (-1), 37, 1, 42, 4294967295, 0), (.if_icmp .eq 7, 38, 3, 48, 45, 0), (.iconst 1, 41, 1, 42, 1, 0), (.goto 4, 42, 3, 45, 46, 0)]),
  (45, [(.iconst 0, 45, 1, 42, 0, 0)]),
  (46, [(.ireturn, 46, 1, 1, 2, 0)]),
  (47, [(.aload_n 0, 47, 1, 41, 0, 0), (.getfield 42, 48, 3, 43, 8, 11), (.iload_n 1, 51, 1, 40, 1, 0), (.iaload, 52, 1, 44, 0, 0), (.iconst 5, 53, 1, 42, 5, 0), (.if_icmp .ne 15, 54, 3, 49, 69, 0), (.aload_n 0, 57, 1, 41, 0, 0), (.aload_n 0, 58, 1, 41, 0, 0), (.getfield 45, 59, 3, 43, 8, 12), (.iload_n 1, 62, 1, 40, 1, 0), (.iaload, 63, 1, 44, 0, 0), (.iload_n 2, 64, 1, 40, 2, 0), (.invokevirtual 141, 65, 3, 4, 161, 0), (.ireturn, 68, 1, 1, 2, 0)]),
  (69, [(.iconst 0, 69, 1, 42, 0, 0), (.istore_n 3, 70, 1, 46, 3, 0)]),
  (71, [(.iload_n 3, 71, 1, 40, 3, 0), (.iconst 2, 72, 1, 42, 2, 0), (.if_icmp .ge 40, 73, 3, 51, 113, 0), (.aload_n 0, 76, 1, 41, 0, 0), (.iload_n 1, 77, 1, 40, 1, 0), (.iload_n 3, 78, 1, 40, 3, 0), (.invokevirtual 126, 79, 3, 4, 155, 0), (.invokestatic 130, 82, 3, 6, 158, 0), (.ifCond .eq 22, 85, 3, 56, 107, 0), (.aload_n 0, 88, 1, 41, 0, 0), (.aload_n 0, 89, 1, 41, 0, 0), (.iload_n 1, 90, 1, 40, 1, 0), (.iload_n 3, 91, 1, 40, 3, 0), (.invokevirtual 126, 92, 3, 4, 155, 0), (.invokestatic 133, 95, 3, 6, 156, 0), (.iload_n 2, 98, 1, 40, 2, 0), (.invokevirtual 141, 99, 3, 4, 161, 0), (.ifCond .ne 5, 102, 3, 57, 107, 0), (.iconst 0, 105, 1, 42, 0, 0), (.ireturn, 106, 1, 1, 2, 0)]),
  (107, [(.iinc 3 1, 107, 3, 47, 3, 1), (.goto (-39), 110, 3, 45, 71, 0)]),
  (113, [(.iconst 1, 113, 1, 42, 1, 0), (.ireturn, 114, 1, 1, 2, 0)])]
def km_161 : mv_I := (yX8_hasOnly, cX8_hasOnly, 4, (some .boolean), 2, 0, 8, [])
def kb_162 : List (Nat × List mv_E) := [(0, [(.aload_n 0, 0, 1, 41, 0, 0), (.iload_n 1, 1, 1, 40, 1, 0), (.iconst (-1), 2, 1, 42, 4294967295, 0), (.invokevirtual 141, 3, 3, 12, 161, 0), (.ireturn, 6, 1, 1, 2, 0)])]
def km_162 : mv_I := (yX8_isClosed, cX8_isClosed, 2, (some .boolean), 1, 0, 8, [])
def kb_163 : List (Nat × List mv_E) := [(0, [(.aload_n 0, 0, 1, 41, 0, 0), (.iload_n 1, 1, 1, 40, 1, 0), (.invokevirtual 123, 2, 3, 4, 154, 0), (.ifCond .ne 5, 5, 3, 57, 10, 0), (.iconst 0, 8, 1, 42, 0, 0), (.ireturn, 9, 1, 1, 2, 0)]),
  (10, [(.iconst 0, 10, 1, 42, 0, 0), (.istore_n 2, 11, 1, 46, 2, 0)]),
  (12, [(.iload_n 2, 12, 1, 40, 2, 0), (.iconst 2, 13, 1, 42, 2, 0), (.if_icmp .ge 56, 14, 3, 51, 70, 0), (.aload_n 0, 17, 1, 41, 0, 0), (.iload_n 1, 18, 1, 40, 1, 0), (.iload_n 2, 19, 1, 40, 2, 0), (.invokevirtual 126, 20, 3, 4, 155, 0), (.istore_n 3, 23, 1, 46, 3, 0), (.iload_n 3, 24, 1, 40, 3, 0), (.invokestatic 130, 25, 3, 6, 158, 0), (.ifCond .eq 36, 28, 3, 56, 64, 0), (.aload_n 0, 31, 1, 41, 0, 0), (.iload_n 3, 32, 1, 40, 3, 0), (.invokestatic 133, 33, 3, 6, 156, 0), (.invokevirtual 145, 36, 3, 4, 162, 0), (.ifCond .ne 25, 39, 3, 57, 64, 0), (.iload_n 3, 42, 1, 40, 3, 0), (.invokestatic 148, 43, 3, 6, 157, 0), (.ifCond .ne 16, 46, 3, 57, 62, 0), (.aload_n 0, 49, 1, 41, 0, 0), (.getfield 42, 50, 3, 43, 8, 11), (.iload_n 3, 53, 1, 40, 3, 0), (.invokestatic 133, 54, 3, 6, 156, 0), (.iaload, 57, 1, 44, 0, 0), (.iconst 4, 58, 1, 42, 4, 0), (.if_icmp .eq 5, 59, 3, 48, 64, 0)]),
  (62, [(.iconst 0, 62, 1, 42, 0, 0), (.ireturn, 63, 1, 1, 2, 0)]),
  (64, [(.iinc 2 1, 64, 3, 47, 2, 1), (.goto (-55), 67, 3, 45, 12, 0)]),
  (70, [(.iconst 1, 70, 1, 42, 1, 0), (.ireturn, 71, 1, 1, 2, 0)])]
def km_163 : mv_I := (yX8_isSimple, cX8_isSimple, 4, (some .boolean), 1, 0, 8, [])
def kb_164 : List (Nat × List mv_E) := [(0, [(.aload_n 0, 0, 1, 41, 0, 0), (.getfield 42, 1, 3, 43, 8, 11), (.iload_n 1, 4, 1, 40, 1, 0), (.iaload, 5, 1, 44, 0, 0), (.iconst 5, 6, 1, 42, 5, 0), (.if_icmp .ne 19, 7, 3, 49, 26, 0), (.aload_n 0, 10, 1, 41, 0, 0), (.aload_n 0, 11, 1, 41, 0, 0), (.aload_n 0, 12, 1, 41, 0, 0), (.getfield 45, 13, 3, 43, 8, 12), (.iload_n 1, 16, 1, 40, 1, 0), (.iaload, 17, 1, 44, 0, 0), (.iload_n 2, 18, 1, 40, 2, 0), (.invokevirtual 151, 19, 3, 4, 164, 0), (.invokevirtual 154, 22, 3, 4, 152, 0), (.ireturn, 25, 1, 1, 1, 0)]),
  (26, [(.aload_n 0, 26, 1, 41, 0, 0), (.getfield 42, 27, 3, 43, 8, 11), (.iload_n 1, 30, 1, 40, 1, 0), (.iaload, 31, 1, 44, 0, 0), (.iconst 4, 32, 1, 42, 4, 0), (.if_icmp .ne 54, 33, 3, 49, 87, 0), (.aload_n 0, 36, 1, 41, 0, 0), (.getfield 45, 37, 3, 43, 8, 12), (.iload_n 1, 40, 1, 40, 1, 0), (.iaload, 41, 1, 44, 0, 0), (.aload_n 0, 42, 1, 41, 0, 0), (.getfield 45, 43, 3, 43, 8, 12), (.iload_n 2, 46, 1, 40, 2, 0), (.iaload, 47, 1, 44, 0, 0), (.if_icmp .ne 39, 48, 3, 49, 87, 0), (.aload_n 0, 51, 1, 41, 0, 0), (.iload_n 2, 52, 1, 40, 2, 0), (.aload_n 0, 53, 1, 41, 0, 0), (.getfield 48, 54, 3, 43, 8, 13), (.iload_n 1, 57, 1, 40, 1, 0), (.iaload, 58, 1, 44, 0, 0), (.invokevirtual 126, 59, 3, 4, 155, 0), (.istore_n 3, 62, 1, 46, 3, 0), (.iload_n 3, 63, 1, 40, 3, 0), (.invokestatic 130, 64, 3, 6, 158, 0), (.ifCond .eq 18, 67, 3, 56, 85, 0), (.iload_n 3, 70, 1, 40, 3, 0), (.invokestatic 148, 71, 3, 6, 157, 0), (.iconst 2, 74, 1, 42, 2, 0), (.if_icmp .eq 10, 75, 3, 48, 85, 0), (.iload_n 3, 78, 1, 40, 3, 0), (.invokestatic 133, 79, 3, 6, 156, 0), (.goto 4, 82, 3, 45, 86, 0)]),
  (85, [(.iconst 2, 85, 1, 42, 2, 0)]),
  (86, [(.ireturn, 86, 1, 1, 1, 0)]),
  (87, [(.aload_n 0, 87, 1, 41, 0, 0), (.iload_n 1, 88, 1, 40, 1, 0), (.invokevirtual 123, 89, 3, 4, 154, 0), (.ifCond .eq 38, 92, 3, 56, 130, 0), (.aload_n 0, 95, 1, 41, 0, 0), (.aload_n 0, 96, 1, 41, 0, 0), (.getfield 45, 97, 3, 43, 8, 12), (.iload_n 1, 100, 1, 40, 1, 0), (.iaload, 101, 1, 44, 0, 0), (.aload_n 0, 102, 1, 41, 0, 0), (.aload_n 0, 103, 1, 41, 0, 0), (.getfield 51, 104, 3, 43, 8, 14), (.iload_n 1, 107, 1, 40, 1, 0), (.iaload, 108, 1, 44, 0, 0), (.iload_n 2, 109, 1, 40, 2, 0), (.invokevirtual 157, 110, 3, 4, 165, 0), (.aload_n 0, 113, 1, 41, 0, 0), (.aload_n 0, 114, 1, 41, 0, 0), (.getfield 54, 115, 3, 43, 8, 15), (.iload_n 1, 118, 1, 40, 1, 0), (.iaload, 119, 1, 44, 0, 0), (.iload_n 2, 120, 1, 40, 2, 0), (.invokevirtual 157, 121, 3, 4, 165, 0), (.invokevirtual 160, 124, 3, 4, 153, 0), (.goto 4, 127, 3, 45, 131, 0)]),
  (130, [(.iload_n 1, 130, 1, 40, 1, 0)]),
  (131, [(.ireturn, 131, 1, 1, 1, 0)])]
def km_164 : mv_I := (yX8_put, cX8_put, 4, (some .int), 2, 0, 8, [])
def kb_165 : List (Nat × List mv_E) := [(0, [(.iload_n 1, 0, 1, 40, 1, 0), (.invokestatic 130, 1, 3, 6, 158, 0), (.ifCond .ne 5, 4, 3, 57, 9, 0), (.iload_n 1, 7, 1, 40, 1, 0), (.ireturn, 8, 1, 1, 1, 0)]),
  (9, [(.iload_n 1, 9, 1, 40, 1, 0), (.invokestatic 133, 10, 3, 6, 156, 0), (.istore_n 3, 13, 1, 46, 3, 0), (.aload_n 0, 14, 1, 41, 0, 0), (.getfield 42, 15, 3, 43, 8, 11), (.iload_n 3, 18, 1, 40, 3, 0), (.iaload, 19, 1, 44, 0, 0), (.iconst 4, 20, 1, 42, 4, 0), (.if_icmp .ne 22, 21, 3, 49, 43, 0), (.aload_n 0, 24, 1, 41, 0, 0), (.getfield 45, 25, 3, 43, 8, 12), (.iload_n 3, 28, 1, 40, 3, 0), (.iaload, 29, 1, 44, 0, 0), (.aload_n 0, 30, 1, 41, 0, 0), (.getfield 45, 31, 3, 43, 8, 12), (.iload_n 2, 34, 1, 40, 2, 0), (.iaload, 35, 1, 44, 0, 0), (.if_icmp .ne 7, 36, 3, 49, 43, 0), (.iconst 1, 39, 1, 42, 1, 0), (.goto 4, 40, 3, 45, 44, 0)]),
  (43, [(.iconst 0, 43, 1, 42, 0, 0)]),
  (44, [(.istore 4, 44, 2, 46, 4, 0), (.iload 4, 46, 2, 40, 4, 0), (.ifCond .eq 24, 48, 3, 56, 72, 0), (.iload_n 1, 51, 1, 40, 1, 0), (.invokestatic 148, 52, 3, 6, 157, 0), (.ifCond .ne 17, 55, 3, 57, 72, 0), (.aload_n 0, 58, 1, 41, 0, 0), (.iload_n 2, 59, 1, 40, 2, 0), (.aload_n 0, 60, 1, 41, 0, 0), (.getfield 48, 61, 3, 43, 8, 13), (.iload_n 3, 64, 1, 40, 3, 0), (.iaload, 65, 1, 44, 0, 0), (.invokevirtual 126, 66, 3, 4, 155, 0), (.goto 16, 69, 3, 45, 85, 0)]),
  (72, [(.iconst 3, 72, 1, 42, 3, 0), (.aload_n 0, 73, 1, 41, 0, 0), (.iload_n 3, 74, 1, 40, 3, 0), (.iload_n 2, 75, 1, 40, 2, 0), (.invokevirtual 151, 76, 3, 4, 164, 0), (.imul, 79, 1, 62, 0, 0), (.iload_n 1, 80, 1, 40, 1, 0), (.invokestatic 148, 81, 3, 6, 157, 0), (.iadd, 84, 1, 54, 0, 0)]),
  (85, [(.ireturn, 85, 1, 1, 1, 0)])]
def km_165 : mv_I := (yX8_putArgument, cX8_putArgument, 5, (some .int), 2, 0, 8, [])
def kb_166 : List (Nat × List mv_E) := [(0, [(.aload_n 0, 0, 1, 41, 0, 0), (.getfield 42, 1, 3, 43, 8, 11), (.iload_n 1, 4, 1, 40, 1, 0), (.iaload, 5, 1, 44, 0, 0), (.iconst 3, 6, 1, 42, 3, 0), (.if_icmp .ne 5, 7, 3, 49, 12, 0), (.iload_n 2, 10, 1, 40, 2, 0), (.ireturn, 11, 1, 1, 1, 0)]),
  (12, [(.aload_n 0, 12, 1, 41, 0, 0), (.getfield 42, 13, 3, 43, 8, 11), (.iload_n 1, 16, 1, 40, 1, 0), (.iaload, 17, 1, 44, 0, 0), (.iconst 5, 18, 1, 42, 5, 0), (.if_icmp .ne 19, 19, 3, 49, 38, 0), (.aload_n 0, 22, 1, 41, 0, 0), (.aload_n 0, 23, 1, 41, 0, 0), (.aload_n 0, 24, 1, 41, 0, 0), (.getfield 45, 25, 3, 43, 8, 12), (.iload_n 1, 28, 1, 40, 1, 0), (.iaload, 29, 1, 44, 0, 0), (.iload_n 2, 30, 1, 40, 2, 0), (.invokevirtual 164, 31, 3, 4, 166, 0), (.invokevirtual 154, 34, 3, 4, 152, 0), (.ireturn, 37, 1, 1, 1, 0)]),
  (38, [(.aload_n 0, 38, 1, 41, 0, 0), (.iload_n 1, 39, 1, 40, 1, 0), (.invokevirtual 123, 40, 3, 4, 154, 0), (.ifCond .ne 5, 43, 3, 57, 48, 0), (.iload_n 1, 46, 1, 40, 1, 0), (.ireturn, 47, 1, 1, 1, 0)]),
  (48, [(.aload_n 0, 48, 1, 41, 0, 0), (.getfield 51, 49, 3, 43, 8, 14), (.iload_n 1, 52, 1, 40, 1, 0), (.iaload, 53, 1, 44, 0, 0), (.invokestatic 130, 54, 3, 6, 158, 0), (.ifCond .eq 32, 57, 3, 56, 89, 0), (.iconst 3, 60, 1, 42, 3, 0), (.aload_n 0, 61, 1, 41, 0, 0), (.aload_n 0, 62, 1, 41, 0, 0), (.getfield 51, 63, 3, 43, 8, 14), (.iload_n 1, 66, 1, 40, 1, 0), (.iaload, 67, 1, 44, 0, 0), (.invokestatic 133, 68, 3, 6, 156, 0), (.iload_n 2, 71, 1, 40, 2, 0), (.invokevirtual 164, 72, 3, 4, 166, 0), (.imul, 75, 1, 62, 0, 0), (.aload_n 0, 76, 1, 41, 0, 0), (.getfield 51, 77, 3, 43, 8, 14), (.iload_n 1, 80, 1, 40, 1, 0), (.iaload, 81, 1, 44, 0, 0), (.invokestatic 148, 82, 3, 6, 157, 0), (.iadd, 85, 1, 54, 0, 0), (.goto 9, 86, 3, 45, 95, 0)]),
  (89, [(.aload_n 0, 89, 1, 41, 0, 0), (.getfield 51, 90, 3, 43, 8, 14), (.iload_n 1, 93, 1, 40, 1, 0), (.iaload, 94, 1, 44, 0, 0)]),
  (95, [(.istore_n 3, 95, 1, 46, 3, 0), (.aload_n 0, 96, 1, 41, 0, 0), (.getfield 54, 97, 3, 43, 8, 15), (.iload_n 1, 100, 1, 40, 1, 0), (.iaload, 101, 1, 44, 0, 0), (.invokestatic 130, 102, 3, 6, 158, 0), (.ifCond .eq 32, 105, 3, 56, 137, 0), (.iconst 3, 108, 1, 42, 3, 0), (.aload_n 0, 109, 1, 41, 0, 0), (.aload_n 0, 110, 1, 41, 0, 0), (.getfield 54, 111, 3, 43, 8, 15), (.iload_n 1, 114, 1, 40, 1, 0), (.iaload, 115, 1, 44, 0, 0), (.invokestatic 133, 116, 3, 6, 156, 0), (.iload_n 2, 119, 1, 40, 2, 0), (.invokevirtual 164, 120, 3, 4, 166, 0), (.imul, 123, 1, 62, 0, 0), (.aload_n 0, 124, 1, 41, 0, 0), (.getfield 54, 125, 3, 43, 8, 15), (.iload_n 1, 128, 1, 40, 1, 0), (.iaload, 129, 1, 44, 0, 0), (.invokestatic 148, 130, 3, 6, 157, 0), (.iadd, 133, 1, 54, 0, 0), (.goto 9, 134, 3, 45, 143, 0)]),
  (137, [(.aload_n 0, 137, 1, 41, 0, 0), (.getfield 54, 138, 3, 43, 8, 15), (.iload_n 1, 141, 1, 40, 1, 0), (.iaload, 142, 1, 44, 0, 0)]),
  (143, [(.istore 4, 143, 2, 46, 4, 0), (.aload_n 0, 145, 1, 41, 0, 0), (.aload_n 0, 146, 1, 41, 0, 0), (.getfield 45, 147, 3, 43, 8, 12), (.iload_n 1, 150, 1, 40, 1, 0), (.iaload, 151, 1, 44, 0, 0), (.iload_n 3, 152, 1, 40, 3, 0), (.iload 4, 153, 2, 40, 4, 0), (.invokevirtual 160, 155, 3, 4, 153, 0), (.ireturn, 158, 1, 1, 1, 0)])]
def km_166 : mv_I := (yX8_stand, cX8_stand, 5, (some .int), 2, 0, 8, [])
def kb_167 : List (Nat × List mv_E) := [(0, [(.iconst 2, 0, 1, 42, 2, 0), (.newarray .int, 1, 2, 86, 0, 0), (.dup, 3, 1, 77, 0, 0), (.iconst 0, 4, 1, 42, 0, 0), (.bipush (-2), 5, 2, 42, 4294967294, 0), (.iastore, 7, 1, 63, 0, 0), (.dup, 8, 1, 77, 0, 0), (.iconst 1, 9, 1, 42, 1, 0), (.bipush (-2), 10, 2, 42, 4294967294, 0), (.iastore, 12, 1, 63, 0, 0), (.astore_n 2, 13, 1, 74, 2, 0), (.iconst 0, 14, 1, 42, 0, 0), (.istore_n 3, 15, 1, 46, 3, 0)]),
  (16, [(.iload_n 3, 16, 1, 40, 3, 0), (.aload_n 0, 17, 1, 41, 0, 0), (.getfield 13, 18, 3, 43, 8, 2), (.iload_n 1, 21, 1, 40, 1, 0), (.iaload, 22, 1, 44, 0, 0), (.if_icmp .ge 25, 23, 3, 51, 48, 0), (.aload_n 2, 26, 1, 41, 2, 0), (.iload_n 3, 27, 1, 40, 3, 0), (.iconst 3, 28, 1, 42, 3, 0), (.aload_n 0, 29, 1, 41, 0, 0), (.iconst 4, 30, 1, 42, 4, 0), (.iload_n 1, 31, 1, 40, 1, 0), (.iload_n 3, 32, 1, 40, 3, 0), (.bipush (-2), 33, 2, 42, 4294967294, 0), (.bipush (-2), 35, 2, 42, 4294967294, 0), (.invokevirtual 116, 37, 3, 4, 151, 0), (.imul, 40, 1, 62, 0, 0), (.iastore, 41, 1, 63, 0, 0), (.iinc 3 1, 42, 3, 47, 3, 1), (.goto (-29), 45, 3, 45, 16, 0)]),
  (48, [(.aload_n 0, 48, 1, 41, 0, 0), (.iload_n 1, 49, 1, 40, 1, 0), (.aload_n 2, 50, 1, 41, 2, 0), (.iconst 0, 51, 1, 42, 0, 0), (.iaload, 52, 1, 44, 0, 0), (.aload_n 2, 53, 1, 41, 2, 0), (.iconst 1, 54, 1, 42, 1, 0), (.iaload, 55, 1, 44, 0, 0), (.invokevirtual 160, 56, 3, 4, 153, 0), (.ireturn, 59, 1, 1, 1, 0)])]
def km_167 : mv_I := (yX8_own, cX8_own, 4, (some .int), 1, 0, 8, [])
def kb_168 : List (Nat × List mv_E) := [(0, [(.iload_n 1, 0, 1, 40, 1, 0), (.ifCond .ne 7, 1, 3, 57, 8, 0), (.iconst 0, 4, 1, 42, 0, 0), (.goto 13, 5, 3, 45, 18, 0)]),
  (8, [(.iconst 1, 8, 1, 42, 1, 0), (.aload_n 0, 9, 1, 41, 0, 0), (.getfield 26, 10, 3, 43, 8, 6), (.iload_n 1, 13, 1, 40, 1, 0), (.iaload, 14, 1, 44, 0, 0), (.invokestatic 136, 15, 3, 6, 245, 0)]),
  (18, [(.ireturn, 18, 1, 1, 1, 0)])]
def km_168 : mv_I := (yX8_extendsMany, cX8_extendsMany, 2, (some .int), 1, 0, 8, [])
def kb_169 : List (Nat × List mv_E) := [(0, [(.aload_n 0, 0, 1, 41, 0, 0), (.getfield 26, 1, 3, 43, 8, 6), (.iload_n 1, 4, 1, 40, 1, 0), (.iaload, 5, 1, 44, 0, 0), (.ifCond .ne 7, 6, 3, 57, 13, 0), (.iconst 2, 9, 1, 42, 2, 0), (.goto 13, 10, 3, 45, 23, 0)]),
  (13, [(.aload_n 0, 13, 1, 41, 0, 0), (.getfield 23, 14, 3, 43, 8, 5), (.iconst 3, 17, 1, 42, 3, 0), (.iload_n 1, 18, 1, 40, 1, 0), (.imul, 19, 1, 62, 0, 0), (.iload_n 2, 20, 1, 40, 2, 0), (.iadd, 21, 1, 54, 0, 0), (.iaload, 22, 1, 44, 0, 0)]),
  (23, [(.ireturn, 23, 1, 1, 1, 0)])]
def km_169 : mv_I := (yX8_extendedBy, cX8_extendedBy, 3, (some .int), 2, 0, 8, [])
def kb_170 : List (Nat × List mv_E) := [(0, [(.iconst 0, 0, 1, 42, 0, 0), (.istore_n 1, 1, 1, 46, 1, 0)]),
  (2, [(.iload_n 1, 2, 1, 40, 1, 0), (.aload_n 0, 3, 1, 41, 0, 0), (.getfield 7, 4, 3, 43, 8, 1), (.if_icmp .ge 72, 7, 3, 51, 79, 0), (.aload_n 0, 10, 1, 41, 0, 0), (.getfield 29, 11, 3, 43, 8, 7), (.iload_n 1, 14, 1, 40, 1, 0), (.iconst 0, 15, 1, 42, 0, 0), (.iastore, 16, 1, 63, 0, 0), (.iconst 0, 17, 1, 42, 0, 0), (.istore_n 2, 18, 1, 46, 2, 0)]),
  (19, [(.iload_n 2, 19, 1, 40, 2, 0), (.aload_n 0, 20, 1, 41, 0, 0), (.iload_n 1, 21, 1, 40, 1, 0), (.invokevirtual 167, 22, 3, 4, 168, 0), (.if_icmp .ge 48, 25, 3, 51, 73, 0), (.aload_n 0, 28, 1, 41, 0, 0), (.getfield 29, 29, 3, 43, 8, 7), (.iload_n 1, 32, 1, 40, 1, 0), (.dup2, 33, 1, 80, 0, 0), (.iaload, 34, 1, 44, 0, 0), (.iconst 1, 35, 1, 42, 1, 0), (.aload_n 0, 36, 1, 41, 0, 0), (.getfield 45, 37, 3, 43, 8, 12), (.aload_n 0, 40, 1, 41, 0, 0), (.iload_n 1, 41, 1, 40, 1, 0), (.iload_n 2, 42, 1, 40, 2, 0), (.invokevirtual 170, 43, 3, 4, 169, 0), (.iaload, 46, 1, 44, 0, 0), (.ishl, 47, 1, 70, 0, 0), (.aload_n 0, 48, 1, 41, 0, 0), (.getfield 29, 49, 3, 43, 8, 7), (.aload_n 0, 52, 1, 41, 0, 0), (.getfield 45, 53, 3, 43, 8, 12), (.aload_n 0, 56, 1, 41, 0, 0), (.iload_n 1, 57, 1, 40, 1, 0), (.iload_n 2, 58, 1, 40, 2, 0), (.invokevirtual 170, 59, 3, 4, 169, 0), (.iaload, 62, 1, 44, 0, 0), (.iaload, 63, 1, 44, 0, 0), (.ior, 64, 1, 65, 0, 0), (.ior, 65, 1, 65, 0, 0), (.iastore, 66, 1, 63, 0, 0), (.iinc 2 1, 67, 3, 47, 2, 1), (.goto (-51), 70, 3, 45, 19, 0)]),
  (73, [(.iinc 1 1, 73, 3, 47, 1, 1), (.goto (-74), 76, 3, 45, 2, 0)]),
  (79, [(.return_, 79, 1, 1, 0, 0)])]
def km_170 : mv_I := (yX8_raise, cX8_raise, 3, none, 0, 0, 8, [])
def kb_171 : List (Nat × List mv_E) := [(0, [(.aload_n 0, 0, 1, 41, 0, 0), (.getfield 29, 1, 3, 43, 8, 7), (.iload_n 2, 4, 1, 40, 2, 0), (.iaload, 5, 1, 44, 0, 0), (.iload_n 1, 6, 1, 40, 1, 0), (.invokestatic 173, 7, 3, 6, 144, 0), (.ireturn, 10, 1, 1, 2, 0)])]
def km_171 : mv_I := (yX8_isAbove, cX8_isAbove, 3, (some .boolean), 2, 0, 8, [])
def kb_172 : List (Nat × List mv_E) := [(0, [(.iload_n 1, 0, 1, 40, 1, 0), (.iload_n 2, 1, 1, 40, 2, 0), (.if_icmp .eq 12, 2, 3, 48, 14, 0), (.aload_n 0, 5, 1, 41, 0, 0), (.iload_n 1, 6, 1, 40, 1, 0), (.iload_n 2, 7, 1, 40, 2, 0), (.invokevirtual 176, 8, 3, 4, 171, 0), (.ifCond .eq 7, 11, 3, 56, 18, 0)]),
  (14, [(.iconst 1, 14, 1, 42, 1, 0), (.goto 4, 15, 3, 45, 19, 0)]),
  (18, [(.iconst 0, 18, 1, 42, 0, 0)]),
  (19, [(.ireturn, 19, 1, 1, 2, 0)])]
def km_172 : mv_I := (yX8_isOrAbove, cX8_isOrAbove, 3, (some .boolean), 2, 0, 8, [])
def kb_173 : List (Nat × List mv_E) := [(0, [(.aload_n 0, 0, 1, 41, 0, 0), (.getfield 45, 1, 3, 43, 8, 12), (.iload_n 1, 4, 1, 40, 1, 0), (.iaload, 5, 1, 44, 0, 0), (.iload_n 2, 6, 1, 40, 2, 0), (.if_icmp .ne 5, 7, 3, 49, 12, 0), (.iload_n 1, 10, 1, 40, 1, 0), (.ireturn, 11, 1, 1, 1, 0)]),
  (12, [(.iconst 0, 12, 1, 42, 0, 0), (.istore_n 3, 13, 1, 46, 3, 0)]),
  (14, [(.aload_n 0, 14, 1, 41, 0, 0), (.iload_n 2, 15, 1, 40, 2, 0), (.aload_n 0, 16, 1, 41, 0, 0), (.getfield 45, 17, 3, 43, 8, 12), (.aload_n 0, 20, 1, 41, 0, 0), (.aload_n 0, 21, 1, 41, 0, 0), (.getfield 45, 22, 3, 43, 8, 12), (.iload_n 1, 25, 1, 40, 1, 0), (.iaload, 26, 1, 44, 0, 0), (.iload_n 3, 27, 1, 40, 3, 0), (.invokevirtual 170, 28, 3, 4, 169, 0), (.iaload, 31, 1, 44, 0, 0), (.invokevirtual 179, 32, 3, 4, 172, 0), (.ifCond .ne 9, 35, 3, 57, 44, 0), (.iinc 3 1, 38, 3, 47, 3, 1), (.goto (-27), 41, 3, 45, 14, 0)]),
  (44, [(.aload_n 0, 44, 1, 41, 0, 0), (.aload_n 0, 45, 1, 41, 0, 0), (.aload_n 0, 46, 1, 41, 0, 0), (.aload_n 0, 47, 1, 41, 0, 0), (.getfield 45, 48, 3, 43, 8, 12), (.iload_n 1, 51, 1, 40, 1, 0), (.iaload, 52, 1, 44, 0, 0), (.iload_n 3, 53, 1, 40, 3, 0), (.invokevirtual 170, 54, 3, 4, 169, 0), (.iload_n 1, 57, 1, 40, 1, 0), (.invokevirtual 151, 58, 3, 4, 164, 0), (.iload_n 2, 61, 1, 40, 2, 0), (.invokevirtual 182, 62, 3, 4, 173, 0), (.ireturn, 65, 1, 1, 1, 0)])]
def km_173 : mv_I := (yX8_asNow, cX8_asNow, 4, (some .int), 2, 0, 8, [])
def kb_174 : List (Nat × List mv_E) := [(0, [(.iload_n 3, 0, 1, 40, 3, 0), (.bipush 8, 1, 2, 42, 8, 0), (.if_icmp .ne 5, 3, 3, 49, 8, 0), (.iconst 0, 6, 1, 42, 0, 0), (.ireturn, 7, 1, 1, 2, 0)]),
  (8, [(.iload_n 1, 8, 1, 40, 1, 0), (.iload_n 2, 9, 1, 40, 2, 0), (.if_icmp .eq 21, 10, 3, 48, 31, 0), (.iload_n 1, 13, 1, 40, 1, 0), (.iconst 1, 14, 1, 42, 1, 0), (.if_icmp .ne 7, 15, 3, 49, 22, 0), (.iload_n 2, 18, 1, 40, 2, 0), (.ifCond .ne 12, 19, 3, 57, 31, 0)]),
  (22, [(.iload_n 2, 22, 1, 40, 2, 0), (.iconst 2, 23, 1, 42, 2, 0), (.if_icmp .ne 9, 24, 3, 49, 33, 0), (.iload_n 1, 27, 1, 40, 1, 0), (.ifCond .eq 5, 28, 3, 56, 33, 0)]),
  (31, [(.iconst 1, 31, 1, 42, 1, 0), (.ireturn, 32, 1, 1, 2, 0)]),
  (33, [(.aload_n 0, 33, 1, 41, 0, 0), (.getfield 42, 34, 3, 43, 8, 11), (.iload_n 1, 37, 1, 40, 1, 0), (.iaload, 38, 1, 44, 0, 0), (.iconst 4, 39, 1, 42, 4, 0), (.if_icmp .ne 17, 40, 3, 49, 57, 0), (.aload_n 0, 43, 1, 41, 0, 0), (.aload_n 0, 44, 1, 41, 0, 0), (.iload_n 1, 45, 1, 40, 1, 0), (.invokevirtual 185, 46, 3, 4, 159, 0), (.iload_n 2, 49, 1, 40, 2, 0), (.iload_n 3, 50, 1, 40, 3, 0), (.iconst 1, 51, 1, 42, 1, 0), (.iadd, 52, 1, 54, 0, 0), (.invokevirtual 187, 53, 3, 4, 174, 0), (.ireturn, 56, 1, 1, 2, 0)]),
  (57, [(.aload_n 0, 57, 1, 41, 0, 0), (.getfield 42, 58, 3, 43, 8, 11), (.iload_n 1, 61, 1, 40, 1, 0), (.iaload, 62, 1, 44, 0, 0), (.iconst 5, 63, 1, 42, 5, 0), (.if_icmp .ne 59, 64, 3, 49, 123, 0), (.aload_n 0, 67, 1, 41, 0, 0), (.getfield 42, 68, 3, 43, 8, 11), (.iload_n 2, 71, 1, 40, 2, 0), (.iaload, 72, 1, 44, 0, 0), (.iconst 5, 73, 1, 42, 5, 0), (.if_icmp .ne 47, 74, 3, 49, 121, 0), (.aload_n 0, 77, 1, 41, 0, 0), (.getfield 45, 78, 3, 43, 8, 12), (.iload_n 1, 81, 1, 40, 1, 0), (.iaload, 82, 1, 44, 0, 0), (.ifCond .eq 38, 83, 3, 56, 121, 0), (.aload_n 0, 86, 1, 41, 0, 0), (.getfield 45, 87, 3, 43, 8, 12), (.iload_n 2, 90, 1, 40, 2, 0), (.iaload, 91, 1, 44, 0, 0), (.ifCond .eq 29, 92, 3, 56, 121, 0), (.aload_n 0, 95, 1, 41, 0, 0), (.aload_n 0, 96, 1, 41, 0, 0), (.getfield 45, 97, 3, 43, 8, 12), (.iload_n 1, 100, 1, 40, 1, 0), (.iaload, 101, 1, 44, 0, 0), (.aload_n 0, 102, 1, 41, 0, 0), (.getfield 45, 103, 3, 43, 8, 12), (.iload_n 2, 106, 1, 40, 2, 0), (.iaload, 107, 1, 44, 0, 0), (.iload_n 3, 108, 1, 40, 3, 0), (.iconst 1, 109, 1, 42, 1, 0), (.iadd, 110, 1, 54, 0, 0), (.invokevirtual 187, 111, 3, 4, 174, 0), (.ifCond .eq 7, 114, 3, 56, 121, 0), (.iconst 1, 117, 1, 42, 1, 0), (.goto 4, 118, 3, 45, 122, 0)]),
  (121, [(.iconst 0, 121, 1, 42, 0, 0)]),
  (122, [(.ireturn, 122, 1, 1, 2, 0)]),
  (123, [(.aload_n 0, 123, 1, 41, 0, 0), (.iload_n 1, 124, 1, 40, 1, 0), (.invokevirtual 123, 125, 3, 4, 154, 0), (.ifCond .eq 30, 128, 3, 56, 158, 0), (.aload_n 0, 131, 1, 41, 0, 0), (.iload_n 2, 132, 1, 40, 2, 0), (.invokevirtual 123, 133, 3, 4, 154, 0), (.ifCond .eq 22, 136, 3, 56, 158, 0), (.aload_n 0, 139, 1, 41, 0, 0), (.aload_n 0, 140, 1, 41, 0, 0), (.getfield 45, 141, 3, 43, 8, 12), (.iload_n 2, 144, 1, 40, 2, 0), (.iaload, 145, 1, 44, 0, 0), (.aload_n 0, 146, 1, 41, 0, 0), (.getfield 45, 147, 3, 43, 8, 12), (.iload_n 1, 150, 1, 40, 1, 0), (.iaload, 151, 1, 44, 0, 0), (.invokevirtual 179, 152, 3, 4, 172, 0), (.ifCond .ne 5, 155, 3, 57, 160, 0)]),
  (158, [(.iconst 0, 158, 1, 42, 0, 0), (.ireturn, 159, 1, 1, 2, 0)]),
  (160, [(.aload_n 0, 160, 1, 41, 0, 0), (.iload_n 1, 161, 1, 40, 1, 0), (.aload_n 0, 162, 1, 41, 0, 0), (.getfield 45, 163, 3, 43, 8, 12), (.iload_n 2, 166, 1, 40, 2, 0), (.iaload, 167, 1, 44, 0, 0), (.invokevirtual 182, 168, 3, 4, 173, 0), (.istore 4, 171, 2, 46, 4, 0), (.iconst 0, 173, 1, 42, 0, 0), (.istore 5, 174, 2, 46, 5, 0)]),
  (176, [(.iload 5, 176, 2, 40, 5, 0), (.aload_n 0, 178, 1, 41, 0, 0), (.getfield 13, 179, 3, 43, 8, 2), (.aload_n 0, 182, 1, 41, 0, 0), (.getfield 45, 183, 3, 43, 8, 12), (.iload_n 2, 186, 1, 40, 2, 0), (.iaload, 187, 1, 44, 0, 0), (.iaload, 188, 1, 44, 0, 0), (.if_icmp .ge 52, 189, 3, 51, 241, 0), (.aload_n 0, 192, 1, 41, 0, 0), (.aload_n 0, 193, 1, 41, 0, 0), (.iload 4, 194, 2, 40, 4, 0), (.iload 5, 196, 2, 40, 5, 0), (.invokevirtual 126, 198, 3, 4, 155, 0), (.aload_n 0, 201, 1, 41, 0, 0), (.iload_n 2, 202, 1, 40, 2, 0), (.iload 5, 203, 2, 40, 5, 0), (.invokevirtual 126, 205, 3, 4, 155, 0), (.aload_n 0, 208, 1, 41, 0, 0), (.getfield 17, 209, 3, 43, 8, 3), (.iconst 2, 212, 1, 42, 2, 0), (.aload_n 0, 213, 1, 41, 0, 0), (.getfield 45, 214, 3, 43, 8, 12), (.iload_n 2, 217, 1, 40, 2, 0), (.iaload, 218, 1, 44, 0, 0), (.imul, 219, 1, 62, 0, 0), (.iload 5, 220, 2, 40, 5, 0), (.iadd, 222, 1, 54, 0, 0), (.iaload, 223, 1, 44, 0, 0), (.iload_n 3, 224, 1, 40, 3, 0), (.iconst 1, 225, 1, 42, 1, 0), (.iadd, 226, 1, 54, 0, 0), (.invokevirtual 190, 227, 3, 4, 176, 0), (.ifCond .ne 5, 230, 3, 57, 235, 0), (.iconst 0, 233, 1, 42, 0, 0), (.ireturn, 234, 1, 1, 2, 0)]),
  (235, [(.iinc 5 1, 235, 3, 47, 5, 1), (.goto (-62), 238, 3, 45, 176, 0)]),
  (241, [(.iconst 1, 241, 1, 42, 1, 0), (.ireturn, 242, 1, 1, 2, 0)])]
def km_174 : mv_I := (yX8_isUnder, cX8_isUnder, 6, (some .boolean), 3, 0, 8, [])
def kb_175 : List (Nat × List mv_E) := [(0, [(.iload_n 0, 0, 1, 40, 0, 0), (.invokestatic 148, 1, 3, 6, 157, 0), (.ifCond .ne 7, 4, 3, 57, 11, 0), (.iload_n 1, 7, 1, 40, 1, 0), (.goto 7, 8, 3, 45, 15, 0)]),
  (11, [(.iload_n 0, 11, 1, 40, 0, 0), (.invokestatic 148, 12, 3, 6, 157, 0)]),
  (15, [(.ireturn, 15, 1, 1, 1, 0)])]
def km_175 : mv_I := (yX8_modeBy, cX8_modeBy, 2, (some .int), 2, 1, 8, [])
def kb_176 : List (Nat × List mv_E) := [(0, [(.iload_n 2, 0, 1, 40, 2, 0), (.invokestatic 130, 1, 3, 6, 158, 0), (.ifCond .ne 5, 4, 3, 57, 9, 0), (.iconst 1, 7, 1, 42, 1, 0), (.ireturn, 8, 1, 1, 2, 0)]),
  (9, [(.iload_n 2, 9, 1, 40, 2, 0), (.iload_n 3, 10, 1, 40, 3, 0), (.invokestatic 194, 11, 3, 6, 175, 0), (.istore 5, 14, 2, 46, 5, 0), (.iload 5, 16, 2, 40, 5, 0), (.iconst 1, 18, 1, 42, 1, 0), (.if_icmp .ne 13, 19, 3, 49, 32, 0), (.iload_n 2, 22, 1, 40, 2, 0), (.invokestatic 133, 23, 3, 6, 156, 0), (.iconst 2, 26, 1, 42, 2, 0), (.if_icmp .ne 5, 27, 3, 49, 32, 0), (.iconst 1, 30, 1, 42, 1, 0), (.ireturn, 31, 1, 1, 2, 0)]),
  (32, [(.iload_n 1, 32, 1, 40, 1, 0), (.invokestatic 130, 33, 3, 6, 158, 0), (.ifCond .ne 5, 36, 3, 57, 41, 0), (.iconst 0, 39, 1, 42, 0, 0), (.ireturn, 40, 1, 1, 2, 0)]),
  (41, [(.iload_n 1, 41, 1, 40, 1, 0), (.iload_n 3, 42, 1, 40, 3, 0), (.invokestatic 194, 43, 3, 6, 175, 0), (.istore 6, 46, 2, 46, 6, 0), (.iload 5, 48, 2, 40, 5, 0), (.ifCond .ne 25, 50, 3, 57, 75, 0), (.iload 6, 53, 2, 40, 6, 0), (.ifCond .ne 18, 55, 3, 57, 73, 0), (.iload_n 1, 58, 1, 40, 1, 0), (.invokestatic 133, 59, 3, 6, 156, 0), (.iload_n 2, 62, 1, 40, 2, 0), (.invokestatic 133, 63, 3, 6, 156, 0), (.if_icmp .ne 7, 66, 3, 49, 73, 0), (.iconst 1, 69, 1, 42, 1, 0), (.goto 4, 70, 3, 45, 74, 0)]),
  (73, [(.iconst 0, 73, 1, 42, 0, 0)]),
  (74, [(.ireturn, 74, 1, 1, 2, 0)]),
  (75, [(.iload 6, 75, 2, 40, 6, 0), (.ifCond .eq 12, 77, 3, 56, 89, 0), (.iload 6, 80, 2, 40, 6, 0), (.iload 5, 82, 2, 40, 5, 0), (.if_icmp .eq 5, 84, 3, 48, 89, 0), (.iconst 0, 87, 1, 42, 0, 0), (.ireturn, 88, 1, 1, 2, 0)]),
  (89, [(.iload 5, 89, 2, 40, 5, 0), (.iconst 1, 91, 1, 42, 1, 0), (.if_icmp .ne 20, 92, 3, 49, 112, 0), (.aload_n 0, 95, 1, 41, 0, 0), (.iload_n 1, 96, 1, 40, 1, 0), (.invokestatic 133, 97, 3, 6, 156, 0), (.iload_n 2, 100, 1, 40, 2, 0), (.invokestatic 133, 101, 3, 6, 156, 0), (.iload 4, 104, 2, 40, 4, 0), (.invokevirtual 187, 106, 3, 4, 174, 0), (.goto 17, 109, 3, 45, 126, 0)]),
  (112, [(.aload_n 0, 112, 1, 41, 0, 0), (.iload_n 2, 113, 1, 40, 2, 0), (.invokestatic 133, 114, 3, 6, 156, 0), (.iload_n 1, 117, 1, 40, 1, 0), (.invokestatic 133, 118, 3, 6, 156, 0), (.iload 4, 121, 2, 40, 4, 0), (.invokevirtual 187, 123, 3, 4, 174, 0)]),
  (126, [(.ireturn, 126, 1, 1, 2, 0)])]
def km_176 : mv_I := (yX8_isWithin, cX8_isWithin, 7, (some .boolean), 4, 0, 8, [])
def kb_177 : List (Nat × List mv_E) := [(0, [(.aload_n 0, 0, 1, 41, 0, 0), (.iload_n 1, 1, 1, 40, 1, 0), (.iload_n 2, 2, 1, 40, 2, 0), (.iconst 0, 3, 1, 42, 0, 0), (.invokevirtual 187, 4, 3, 4, 174, 0), (.ireturn, 7, 1, 1, 2, 0)])]
def km_177 : mv_I := (yX8_isUnder_, cX8_isUnder_, 3, (some .boolean), 2, 0, 8, [])
def kb_178 : List (Nat × List mv_E) := [(0, [(.aload_n 0, 0, 1, 41, 0, 0), (.iload_n 1, 1, 1, 40, 1, 0), (.iload_n 2, 2, 1, 40, 2, 0), (.invokevirtual 197, 3, 3, 4, 177, 0), (.ifCond .eq 5, 6, 3, 56, 11, 0), (.iload_n 2, 9, 1, 40, 2, 0), (.ireturn, 10, 1, 1, 1, 0)]),
  (11, [(.aload_n 0, 11, 1, 41, 0, 0), (.iload_n 2, 12, 1, 40, 2, 0), (.iload_n 1, 13, 1, 40, 1, 0), (.invokevirtual 197, 14, 3, 4, 177, 0), (.ifCond .eq 5, 17, 3, 56, 22, 0), (.iload_n 1, 20, 1, 40, 1, 0), (.ireturn, 21, 1, 1, 1, 0)]),
  (22, [(.iload_n 1, 22, 1, 40, 1, 0), (.ifCond .ne 11, 23, 3, 57, 34, 0), (.aload_n 0, 26, 1, 41, 0, 0), (.iconst 3, 27, 1, 42, 3, 0), (.iload_n 2, 28, 1, 40, 2, 0), (.iload_n 3, 29, 1, 40, 3, 0), (.invokevirtual 199, 30, 3, 4, 178, 0), (.ireturn, 33, 1, 1, 1, 0)]),
  (34, [(.iload_n 2, 34, 1, 40, 2, 0), (.ifCond .ne 11, 35, 3, 57, 46, 0), (.aload_n 0, 38, 1, 41, 0, 0), (.iload_n 1, 39, 1, 40, 1, 0), (.iconst 3, 40, 1, 42, 3, 0), (.iload_n 3, 41, 1, 40, 3, 0), (.invokevirtual 199, 42, 3, 4, 178, 0), (.ireturn, 45, 1, 1, 1, 0)]),
  (46, [(.aload_n 0, 46, 1, 41, 0, 0), (.getfield 42, 47, 3, 43, 8, 11), (.iload_n 1, 50, 1, 40, 1, 0), (.iaload, 51, 1, 44, 0, 0), (.iconst 4, 52, 1, 42, 4, 0), (.if_icmp .ne 15, 53, 3, 49, 68, 0), (.aload_n 0, 56, 1, 41, 0, 0), (.aload_n 0, 57, 1, 41, 0, 0), (.iload_n 1, 58, 1, 40, 1, 0), (.invokevirtual 185, 59, 3, 4, 159, 0), (.iload_n 2, 62, 1, 40, 2, 0), (.iload_n 3, 63, 1, 40, 3, 0), (.invokevirtual 199, 64, 3, 4, 178, 0), (.ireturn, 67, 1, 1, 1, 0)]),
  (68, [(.aload_n 0, 68, 1, 41, 0, 0), (.getfield 42, 69, 3, 43, 8, 11), (.iload_n 2, 72, 1, 40, 2, 0), (.iaload, 73, 1, 44, 0, 0), (.iconst 4, 74, 1, 42, 4, 0), (.if_icmp .ne 15, 75, 3, 49, 90, 0), (.aload_n 0, 78, 1, 41, 0, 0), (.iload_n 1, 79, 1, 40, 1, 0), (.aload_n 0, 80, 1, 41, 0, 0), (.iload_n 2, 81, 1, 40, 2, 0), (.invokevirtual 185, 82, 3, 4, 159, 0), (.iload_n 3, 85, 1, 40, 3, 0), (.invokevirtual 199, 86, 3, 4, 178, 0), (.ireturn, 89, 1, 1, 1, 0)]),
  (90, [(.aload_n 0, 90, 1, 41, 0, 0), (.getfield 42, 91, 3, 43, 8, 11), (.iload_n 1, 94, 1, 40, 1, 0), (.iaload, 95, 1, 44, 0, 0), (.iconst 5, 96, 1, 42, 5, 0), (.if_icmp .ne 53, 97, 3, 49, 150, 0), (.aload_n 0, 100, 1, 41, 0, 0), (.getfield 42, 101, 3, 43, 8, 11), (.iload_n 2, 104, 1, 40, 2, 0), (.iaload, 105, 1, 44, 0, 0), (.iconst 5, 106, 1, 42, 5, 0), (.if_icmp .ne 43, 107, 3, 49, 150, 0), (.aload_n 0, 110, 1, 41, 0, 0), (.getfield 45, 111, 3, 43, 8, 12), (.iload_n 1, 114, 1, 40, 1, 0), (.iaload, 115, 1, 44, 0, 0), (.ifCond .eq 34, 116, 3, 56, 150, 0), (.aload_n 0, 119, 1, 41, 0, 0), (.getfield 45, 120, 3, 43, 8, 12), (.iload_n 2, 123, 1, 40, 2, 0), (.iaload, 124, 1, 44, 0, 0), (.ifCond .eq 25, 125, 3, 56, 150, 0), (.aload_n 0, 128, 1, 41, 0, 0), (.aload_n 0, 129, 1, 41, 0, 0), (.aload_n 0, 130, 1, 41, 0, 0), (.getfield 45, 131, 3, 43, 8, 12), (.iload_n 1, 134, 1, 40, 1, 0), (.iaload, 135, 1, 44, 0, 0), (.aload_n 0, 136, 1, 41, 0, 0), (.getfield 45, 137, 3, 43, 8, 12), (.iload_n 2, 140, 1, 40, 2, 0), (.iaload, 141, 1, 44, 0, 0), (.iload_n 3, 142, 1, 40, 3, 0), (.invokevirtual 199, 143, 3, 4, 178, 0), (.invokevirtual 154, 146, 3, 4, 152, 0), (.ireturn, 149, 1, 1, 1, 0)]),
  (150, [(.aload_n 0, 150, 1, 41, 0, 0), (.iload_n 1, 151, 1, 40, 1, 0), (.invokevirtual 123, 152, 3, 4, 154, 0), (.ifCond .eq 21, 155, 3, 56, 176, 0), (.aload_n 0, 158, 1, 41, 0, 0), (.iload_n 2, 159, 1, 40, 2, 0), (.invokevirtual 123, 160, 3, 4, 154, 0), (.ifCond .eq 13, 163, 3, 56, 176, 0), (.aload_n 0, 166, 1, 41, 0, 0), (.iload_n 1, 167, 1, 40, 1, 0), (.iload_n 2, 168, 1, 40, 2, 0), (.iload_n 3, 169, 1, 40, 3, 0), (.invokevirtual 203, 170, 3, 4, 180, 0), (.goto 4, 173, 3, 45, 177, 0)]),
  (176, [(.iconst 2, 176, 1, 42, 2, 0)]),
  (177, [(.ireturn, 177, 1, 1, 1, 0)])]
def km_178 : mv_I := (yX8_joinNow, cX8_joinNow, 4, (some .int), 3, 0, 8, [])
def kb_179 : List (Nat × List mv_E) := [(0, [(.aload_n 0, 0, 1, 41, 0, 0), (.iload_n 1, 1, 1, 40, 1, 0), (.aload_n 0, 2, 1, 41, 0, 0), (.getfield 45, 3, 3, 43, 8, 12), (.iload_n 2, 6, 1, 40, 2, 0), (.iaload, 7, 1, 44, 0, 0), (.invokevirtual 179, 8, 3, 4, 172, 0), (.ifCond .eq 21, 11, 3, 56, 32, 0), (.aload_n 0, 14, 1, 41, 0, 0), (.iload_n 1, 15, 1, 40, 1, 0), (.aload_n 0, 16, 1, 41, 0, 0), (.getfield 45, 17, 3, 43, 8, 12), (.iload_n 3, 20, 1, 40, 3, 0), (.iaload, 21, 1, 44, 0, 0), (.invokevirtual 179, 22, 3, 4, 172, 0), (.ifCond .eq 7, 25, 3, 56, 32, 0), (.iconst 1, 28, 1, 42, 1, 0), (.goto 4, 29, 3, 45, 33, 0)]),
  (32, [(.iconst 0, 32, 1, 42, 0, 0)]),
  (33, [(.ireturn, 33, 1, 1, 2, 0)])]
def km_179 : mv_I := (yX8_isOfBoth, cX8_isOfBoth, 4, (some .boolean), 3, 0, 8, [])
def kb_180 : List (Nat × List mv_E) := [(0, [(.iconst 0, 0, 1, 42, 0, 0), (.istore 4, 1, 2, 46, 4, 0), (.iconst 0, 3, 1, 42, 0, 0), (.istore 5, 4, 2, 46, 5, 0)]),
  (6, [(.iload 5, 6, 2, 40, 5, 0), (.ifCond .ne 76, 8, 3, 57, 84, 0), (.aload_n 0, 11, 1, 41, 0, 0), (.iload 4, 12, 2, 40, 4, 0), (.iload_n 1, 14, 1, 40, 1, 0), (.iload_n 2, 15, 1, 40, 2, 0), (.invokevirtual 206, 16, 3, 4, 179, 0), (.istore 5, 19, 2, 46, 5, 0), (.iconst 0, 21, 1, 42, 0, 0), (.istore 6, 22, 2, 46, 6, 0)]),
  (24, [(.iload 6, 24, 2, 40, 6, 0), (.aload_n 0, 26, 1, 41, 0, 0), (.getfield 7, 27, 3, 43, 8, 1), (.if_icmp .ge 43, 30, 3, 51, 73, 0), (.iload 5, 33, 2, 40, 5, 0), (.ifCond .eq 38, 35, 3, 56, 73, 0), (.aload_n 0, 38, 1, 41, 0, 0), (.iload 6, 39, 2, 40, 6, 0), (.iload_n 1, 41, 1, 40, 1, 0), (.iload_n 2, 42, 1, 40, 2, 0), (.invokevirtual 206, 43, 3, 4, 179, 0), (.ifCond .eq 14, 46, 3, 56, 60, 0), (.aload_n 0, 49, 1, 41, 0, 0), (.iload 4, 50, 2, 40, 4, 0), (.iload 6, 52, 2, 40, 6, 0), (.invokevirtual 176, 54, 3, 4, 171, 0), (.ifCond .ne 7, 57, 3, 57, 64, 0)]),
  (60, [(.iconst 1, 60, 1, 42, 1, 0), (.goto 4, 61, 3, 45, 65, 0)]),
  (64, [(.iconst 0, 64, 1, 42, 0, 0)]),
  (65, [(.istore 5, 65, 2, 46, 5, 0), (.iinc 6 1, 67, 3, 47, 6, 1), (.goto (-46), 70, 3, 45, 24, 0)]),
  (73, [(.iload 5, 73, 2, 40, 5, 0), (.ifCond .ne (-69), 75, 3, 57, 6, 0), (.iinc 4 1, 78, 3, 47, 4, 1), (.goto (-75), 81, 3, 45, 6, 0)]),
  (84, [(.iconst 2, 84, 1, 42, 2, 0), (.newarray .int, 85, 2, 86, 0, 0), (.dup, 87, 1, 77, 0, 0), (.iconst 0, 88, 1, 42, 0, 0), (.bipush (-2), 89, 2, 42, 4294967294, 0), (.iastore, 91, 1, 63, 0, 0), (.dup, 92, 1, 77, 0, 0), (.iconst 1, 93, 1, 42, 1, 0), (.bipush (-2), 94, 2, 42, 4294967294, 0), (.iastore, 96, 1, 63, 0, 0), (.astore 6, 97, 2, 74, 6, 0), (.aload_n 0, 99, 1, 41, 0, 0), (.iload_n 1, 100, 1, 40, 1, 0), (.iload 4, 101, 2, 40, 4, 0), (.invokevirtual 182, 103, 3, 4, 173, 0), (.istore 7, 106, 2, 46, 7, 0), (.aload_n 0, 108, 1, 41, 0, 0), (.iload_n 2, 109, 1, 40, 2, 0), (.iload 4, 110, 2, 40, 4, 0), (.invokevirtual 182, 112, 3, 4, 173, 0), (.istore 8, 115, 2, 46, 8, 0), (.iconst 0, 117, 1, 42, 0, 0), (.istore 9, 118, 2, 46, 9, 0)]),
  (120, [(.iload 9, 120, 2, 40, 9, 0), (.aload_n 0, 122, 1, 41, 0, 0), (.getfield 13, 123, 3, 43, 8, 2), (.iload 4, 126, 2, 40, 4, 0), (.iaload, 128, 1, 44, 0, 0), (.if_icmp .ge 47, 129, 3, 51, 176, 0), (.aload 6, 132, 2, 41, 6, 0), (.iload 9, 134, 2, 40, 9, 0), (.aload_n 0, 136, 1, 41, 0, 0), (.aload_n 0, 137, 1, 41, 0, 0), (.iload 7, 138, 2, 40, 7, 0), (.iload 9, 140, 2, 40, 9, 0), (.invokevirtual 126, 142, 3, 4, 155, 0), (.aload_n 0, 145, 1, 41, 0, 0), (.iload 8, 146, 2, 40, 8, 0), (.iload 9, 148, 2, 40, 9, 0), (.invokevirtual 126, 150, 3, 4, 155, 0), (.aload_n 0, 153, 1, 41, 0, 0), (.getfield 17, 154, 3, 43, 8, 3), (.iconst 2, 157, 1, 42, 2, 0), (.iload 4, 158, 2, 40, 4, 0), (.imul, 160, 1, 62, 0, 0), (.iload 9, 161, 2, 40, 9, 0), (.iadd, 163, 1, 54, 0, 0), (.iaload, 164, 1, 44, 0, 0), (.iload_n 3, 165, 1, 40, 3, 0), (.invokevirtual 209, 166, 3, 4, 181, 0), (.iastore, 169, 1, 63, 0, 0), (.iinc 9 1, 170, 3, 47, 9, 1), (.goto (-53), 173, 3, 45, 120, 0)]),
  (176, [(.aload_n 0, 176, 1, 41, 0, 0), (.iload 4, 177, 2, 40, 4, 0), (.aload 6, 179, 2, 41, 6, 0), (.iconst 0, 181, 1, 42, 0, 0), (.iaload, 182, 1, 44, 0, 0), (.aload 6, 183, 2, 41, 6, 0), (.iconst 1, 185, 1, 42, 1, 0), (.iaload, 186, 1, 44, 0, 0), (.invokevirtual 160, 187, 3, 4, 153, 0), (.ireturn, 190, 1, 1, 1, 0)])]
def km_180 : mv_I := (yX8_joinClasses, cX8_joinClasses, 10, (some .int), 3, 0, 8, [])
def kb_181 : List (Nat × List mv_E) := [(0, [(.iload_n 1, 0, 1, 40, 1, 0), (.iload_n 2, 1, 1, 40, 2, 0), (.if_icmp .ne 5, 2, 3, 49, 7, 0), (.iload_n 1, 5, 1, 40, 1, 0), (.ireturn, 6, 1, 1, 1, 0)]),
  (7, [(.iload_n 1, 7, 1, 40, 1, 0), (.invokestatic 130, 8, 3, 6, 158, 0), (.ifCond .eq 36, 11, 3, 56, 47, 0), (.iload_n 2, 14, 1, 40, 2, 0), (.invokestatic 130, 15, 3, 6, 158, 0), (.ifCond .eq 29, 18, 3, 56, 47, 0), (.iload_n 1, 21, 1, 40, 1, 0), (.invokestatic 148, 22, 3, 6, 157, 0), (.iconst 2, 25, 1, 42, 2, 0), (.if_icmp .eq 21, 26, 3, 48, 47, 0), (.iload_n 2, 29, 1, 40, 2, 0), (.invokestatic 148, 30, 3, 6, 157, 0), (.iconst 2, 33, 1, 42, 2, 0), (.if_icmp .eq 13, 34, 3, 48, 47, 0), (.iload_n 3, 37, 1, 40, 3, 0), (.iconst 2, 38, 1, 42, 2, 0), (.if_icmp .eq 8, 39, 3, 48, 47, 0), (.iload 4, 42, 2, 40, 4, 0), (.ifCond .eq 5, 44, 3, 56, 49, 0)]),
  (47, [(.iconst (-1), 47, 1, 42, 4294967295, 0), (.ireturn, 48, 1, 1, 1, 0)]),
  (49, [(.iconst 3, 49, 1, 42, 3, 0), (.aload_n 0, 50, 1, 41, 0, 0), (.iload_n 1, 51, 1, 40, 1, 0), (.invokestatic 133, 52, 3, 6, 156, 0), (.iload_n 2, 55, 1, 40, 2, 0), (.invokestatic 133, 56, 3, 6, 156, 0), (.iconst 1, 59, 1, 42, 1, 0), (.invokevirtual 199, 60, 3, 4, 178, 0), (.imul, 63, 1, 62, 0, 0), (.iconst 1, 64, 1, 42, 1, 0), (.iadd, 65, 1, 54, 0, 0), (.ireturn, 66, 1, 1, 1, 0)])]
def km_181 : mv_I := (yX8_joinArguments, cX8_joinArguments, 5, (some .int), 4, 0, 8, [])
def kb_182 : List (Nat × List mv_E) := [(0, [(.aload_n 0, 0, 1, 41, 0, 0), (.getfield 42, 1, 3, 43, 8, 11), (.iload_n 1, 4, 1, 40, 1, 0), (.iaload, 5, 1, 44, 0, 0), (.iconst 5, 6, 1, 42, 5, 0), (.if_icmp .ne 14, 7, 3, 49, 21, 0), (.aload_n 0, 10, 1, 41, 0, 0), (.aload_n 0, 11, 1, 41, 0, 0), (.getfield 45, 12, 3, 43, 8, 12), (.iload_n 1, 15, 1, 40, 1, 0), (.iaload, 16, 1, 44, 0, 0), (.invokevirtual 213, 17, 3, 4, 182, 0), (.ireturn, 20, 1, 1, 2, 0)]),
  (21, [(.aload_n 0, 21, 1, 41, 0, 0), (.iload_n 1, 22, 1, 40, 1, 0), (.invokevirtual 123, 23, 3, 4, 154, 0), (.ifCond .ne 5, 26, 3, 57, 31, 0), (.iconst 1, 29, 1, 42, 1, 0), (.ireturn, 30, 1, 1, 2, 0)]),
  (31, [(.iconst 0, 31, 1, 42, 0, 0), (.istore_n 2, 32, 1, 46, 2, 0)]),
  (33, [(.iload_n 2, 33, 1, 40, 2, 0), (.aload_n 0, 34, 1, 41, 0, 0), (.getfield 13, 35, 3, 43, 8, 2), (.aload_n 0, 38, 1, 41, 0, 0), (.getfield 45, 39, 3, 43, 8, 12), (.iload_n 1, 42, 1, 40, 1, 0), (.iaload, 43, 1, 44, 0, 0), (.iaload, 44, 1, 44, 0, 0), (.if_icmp .ge 78, 45, 3, 51, 123, 0), (.aload_n 0, 48, 1, 41, 0, 0), (.iload_n 1, 49, 1, 40, 1, 0), (.iload_n 2, 50, 1, 40, 2, 0), (.invokevirtual 126, 51, 3, 4, 155, 0), (.istore_n 3, 54, 1, 46, 3, 0), (.iload_n 3, 55, 1, 40, 3, 0), (.invokestatic 130, 56, 3, 6, 158, 0), (.ifCond .ne 6, 59, 3, 57, 65, 0), (.goto 55, 62, 3, 45, 117, 0)]),
  (65, [(.aload_n 0, 65, 1, 41, 0, 0), (.iload_n 3, 66, 1, 40, 3, 0), (.invokestatic 133, 67, 3, 6, 156, 0), (.invokevirtual 213, 70, 3, 4, 182, 0), (.ifCond .eq 42, 73, 3, 56, 115, 0), (.iload_n 3, 76, 1, 40, 3, 0), (.invokestatic 148, 77, 3, 6, 157, 0), (.iconst 2, 80, 1, 42, 2, 0), (.if_icmp .eq 36, 81, 3, 48, 117, 0), (.aload_n 0, 84, 1, 41, 0, 0), (.iload_n 3, 85, 1, 40, 3, 0), (.invokestatic 133, 86, 3, 6, 156, 0), (.aload_n 0, 89, 1, 41, 0, 0), (.aload_n 0, 90, 1, 41, 0, 0), (.getfield 20, 91, 3, 43, 8, 4), (.iconst 2, 94, 1, 42, 2, 0), (.aload_n 0, 95, 1, 41, 0, 0), (.getfield 45, 96, 3, 43, 8, 12), (.iload_n 1, 99, 1, 40, 1, 0), (.iaload, 100, 1, 44, 0, 0), (.imul, 101, 1, 62, 0, 0), (.iload_n 2, 102, 1, 40, 2, 0), (.iadd, 103, 1, 54, 0, 0), (.iaload, 104, 1, 44, 0, 0), (.iload_n 1, 105, 1, 40, 1, 0), (.invokevirtual 151, 106, 3, 4, 164, 0), (.invokevirtual 197, 109, 3, 4, 177, 0), (.ifCond .ne 5, 112, 3, 57, 117, 0)]),
  (115, [(.iconst 0, 115, 1, 42, 0, 0), (.ireturn, 116, 1, 1, 2, 0)]),
  (117, [(.iinc 2 1, 117, 3, 47, 2, 1), (.goto (-87), 120, 3, 45, 33, 0)]),
  (123, [(.iconst 1, 123, 1, 42, 1, 0), (.ireturn, 124, 1, 1, 2, 0)])]
def km_182 : mv_I := (yX8_keeps, cX8_keeps, 4, (some .boolean), 1, 0, 8, [])
def kb_183 : List (Nat × List mv_E) := [(0, [(.aload_n 0, 0, 1, 41, 0, 0), (.invokevirtual 216, 1, 3, 4, 142, 0), (.iload_n 1, 4, 1, 40, 1, 0), (.iconst (-1), 5, 1, 42, 4294967295, 0), (.iconst 2, 6, 1, 42, 2, 0), (.invokestatic 94, 7, 3, 6, 143, 0), (.ifCond .eq 22, 10, 3, 56, 32, 0), (.iload_n 2, 13, 1, 40, 2, 0), (.iconst (-1), 14, 1, 42, 4294967295, 0), (.iconst 2, 15, 1, 42, 2, 0), (.invokestatic 94, 16, 3, 6, 143, 0), (.ifCond .eq 13, 19, 3, 56, 32, 0), (.iload_n 1, 22, 1, 40, 1, 0), (.iconst (-1), 23, 1, 42, 4294967295, 0), (.if_icmp .ne 14, 24, 3, 49, 38, 0), (.iload_n 2, 27, 1, 40, 2, 0), (.iconst (-1), 28, 1, 42, 4294967295, 0), (.if_icmp .eq 9, 29, 3, 48, 38, 0)]),
  (32, [(.aload_n 0, 32, 1, 41, 0, 0), (.iconst 1, 33, 1, 42, 1, 0), (.invokevirtual 219, 34, 3, 4, 141, 0), (.ireturn, 37, 1, 1, 1, 0)]),
  (38, [(.aload_n 0, 38, 1, 41, 0, 0), (.getfield 7, 39, 3, 43, 8, 1), (.bipush 14, 42, 2, 42, 14, 0), (.if_icmp .ne 9, 44, 3, 49, 53, 0), (.aload_n 0, 47, 1, 41, 0, 0), (.iconst 2, 48, 1, 42, 2, 0), (.invokevirtual 219, 49, 3, 4, 141, 0), (.ireturn, 52, 1, 1, 1, 0)]),
  (53, [(.aload_n 0, 53, 1, 41, 0, 0), (.getfield 13, 54, 3, 43, 8, 2), (.aload_n 0, 57, 1, 41, 0, 0), (.getfield 7, 58, 3, 43, 8, 1), (.iload_n 1, 61, 1, 40, 1, 0), (.iconst (-1), 62, 1, 42, 4294967295, 0), (.if_icmp .ne 7, 63, 3, 49, 70, 0), (.iconst 0, 66, 1, 42, 0, 0), (.goto 13, 67, 3, 45, 80, 0)]),
  (70, [(.iload_n 2, 70, 1, 40, 2, 0), (.iconst (-1), 71, 1, 42, 4294967295, 0), (.if_icmp .ne 7, 72, 3, 49, 79, 0), (.iconst 1, 75, 1, 42, 1, 0), (.goto 4, 76, 3, 45, 80, 0)]),
  (79, [(.iconst 2, 79, 1, 42, 2, 0)]),
  (80, [(.iastore, 80, 1, 63, 0, 0), (.aload_n 0, 81, 1, 41, 0, 0), (.getfield 17, 82, 3, 43, 8, 3), (.iconst 2, 85, 1, 42, 2, 0), (.aload_n 0, 86, 1, 41, 0, 0), (.getfield 7, 87, 3, 43, 8, 1), (.imul, 90, 1, 62, 0, 0), (.iconst 0, 91, 1, 42, 0, 0), (.iload_n 1, 92, 1, 40, 1, 0), (.invokestatic 136, 93, 3, 6, 245, 0), (.iastore, 96, 1, 63, 0, 0), (.aload_n 0, 97, 1, 41, 0, 0), (.getfield 17, 98, 3, 43, 8, 3), (.iconst 2, 101, 1, 42, 2, 0), (.aload_n 0, 102, 1, 41, 0, 0), (.getfield 7, 103, 3, 43, 8, 1), (.imul, 106, 1, 62, 0, 0), (.iconst 1, 107, 1, 42, 1, 0), (.iadd, 108, 1, 54, 0, 0), (.iconst 0, 109, 1, 42, 0, 0), (.iload_n 2, 110, 1, 40, 2, 0), (.invokestatic 136, 111, 3, 6, 245, 0), (.iastore, 114, 1, 63, 0, 0), (.aload_n 0, 115, 1, 41, 0, 0), (.getfield 32, 116, 3, 43, 8, 8), (.aload_n 0, 119, 1, 41, 0, 0), (.getfield 7, 120, 3, 43, 8, 1), (.iload_n 3, 123, 1, 40, 3, 0), (.bastore, 124, 1, 84, 0, 0), (.aload_n 0, 125, 1, 41, 0, 0), (.dup, 126, 1, 77, 0, 0), (.getfield 7, 127, 3, 43, 8, 1), (.iconst 1, 130, 1, 42, 1, 0), (.iadd, 131, 1, 54, 0, 0), (.putfield 7, 132, 3, 55, 8, 4), (.aload_n 0, 135, 1, 41, 0, 0), (.invokevirtual 88, 136, 3, 4, 170, 0), (.aload_n 0, 139, 1, 41, 0, 0), (.getfield 7, 140, 3, 43, 8, 1), (.iconst 1, 143, 1, 42, 1, 0), (.isub, 144, 1, 67, 0, 0), (.ireturn, 145, 1, 1, 1, 0)])]
def km_183 : mv_I := (yX8_kind, cX8_kind, 4, (some .int), 3, 0, 8, [])
def kb_184 : List (Nat × List mv_E) := [(0, [(.aload_n 0, 0, 1, 41, 0, 0), (.invokevirtual 216, 1, 3, 4, 142, 0), (.aload_n 0, 4, 1, 41, 0, 0), (.iload_n 1, 5, 1, 40, 1, 0), (.iload_n 2, 6, 1, 40, 2, 0), (.invokevirtual 222, 7, 3, 4, 147, 0), (.ifCond .eq 11, 10, 3, 56, 21, 0), (.aload_n 0, 13, 1, 41, 0, 0), (.iload_n 3, 14, 1, 40, 3, 0), (.invokevirtual 225, 15, 3, 4, 146, 0), (.ifCond .ne 9, 18, 3, 57, 27, 0)]),
  (21, [(.aload_n 0, 21, 1, 41, 0, 0), (.iconst 1, 22, 1, 42, 1, 0), (.invokevirtual 219, 23, 3, 4, 141, 0), (.ireturn, 26, 1, 1, 1, 0)]),
  (27, [(.aload_n 0, 27, 1, 41, 0, 0), (.iload_n 3, 28, 1, 40, 3, 0), (.invokevirtual 228, 29, 3, 4, 163, 0), (.ifCond .eq 22, 32, 3, 56, 54, 0), (.aload_n 0, 35, 1, 41, 0, 0), (.getfield 45, 36, 3, 43, 8, 12), (.iload_n 3, 39, 1, 40, 3, 0), (.iaload, 40, 1, 44, 0, 0), (.iload_n 1, 41, 1, 40, 1, 0), (.if_icmp .gt 12, 42, 3, 52, 54, 0), (.aload_n 0, 45, 1, 41, 0, 0), (.iload_n 3, 46, 1, 40, 3, 0), (.iload_n 1, 47, 1, 40, 1, 0), (.invokevirtual 141, 48, 3, 12, 161, 0), (.ifCond .ne 9, 51, 3, 57, 60, 0)]),
  (54, [(.aload_n 0, 54, 1, 41, 0, 0), (.iconst 2, 55, 1, 42, 2, 0), (.invokevirtual 219, 56, 3, 4, 141, 0), (.ireturn, 59, 1, 1, 1, 0)]),
  (60, [(.aload_n 0, 60, 1, 41, 0, 0), (.getfield 20, 61, 3, 43, 8, 4), (.iconst 2, 64, 1, 42, 2, 0), (.iload_n 1, 65, 1, 40, 1, 0), (.imul, 66, 1, 62, 0, 0), (.iload_n 2, 67, 1, 40, 2, 0), (.iadd, 68, 1, 54, 0, 0), (.iaload, 69, 1, 44, 0, 0), (.istore 4, 70, 2, 46, 4, 0), (.aload_n 0, 72, 1, 41, 0, 0), (.getfield 20, 73, 3, 43, 8, 4), (.iconst 2, 76, 1, 42, 2, 0), (.iload_n 1, 77, 1, 40, 1, 0), (.imul, 78, 1, 62, 0, 0), (.iload_n 2, 79, 1, 40, 2, 0), (.iadd, 80, 1, 54, 0, 0), (.iload_n 3, 81, 1, 40, 3, 0), (.iastore, 82, 1, 63, 0, 0), (.iload 4, 83, 2, 40, 4, 0), (.ireturn, 85, 1, 1, 1, 0)])]
def km_184 : mv_I := (yX8_bound, cX8_bound, 5, (some .int), 3, 0, 8, [])
def kb_185 : List (Nat × List mv_E) := [(0, [(.aload_n 0, 0, 1, 41, 0, 0), (.invokevirtual 216, 1, 3, 4, 142, 0), (.aload_n 0, 4, 1, 41, 0, 0), (.iload_n 1, 5, 1, 40, 1, 0), (.invokevirtual 98, 6, 3, 4, 145, 0), (.ifCond .eq 11, 9, 3, 56, 20, 0), (.aload_n 0, 12, 1, 41, 0, 0), (.iload_n 2, 13, 1, 40, 2, 0), (.invokevirtual 225, 14, 3, 4, 146, 0), (.ifCond .ne 9, 17, 3, 57, 26, 0)]),
  (20, [(.aload_n 0, 20, 1, 41, 0, 0), (.iconst 1, 21, 1, 42, 1, 0), (.invokevirtual 219, 22, 3, 4, 141, 0), (.ireturn, 25, 1, 1, 1, 0)]),
  (26, [(.iload_n 1, 26, 1, 40, 1, 0), (.iconst 2, 27, 1, 42, 2, 0), (.if_icmp .lt 35, 28, 3, 50, 63, 0), (.iload_n 2, 31, 1, 40, 2, 0), (.iconst 3, 32, 1, 42, 3, 0), (.if_icmp .eq 30, 33, 3, 48, 63, 0), (.aload_n 0, 36, 1, 41, 0, 0), (.iload_n 2, 37, 1, 40, 2, 0), (.invokevirtual 228, 38, 3, 4, 163, 0), (.ifCond .eq 22, 41, 3, 56, 63, 0), (.aload_n 0, 44, 1, 41, 0, 0), (.getfield 45, 45, 3, 43, 8, 12), (.iload_n 2, 48, 1, 40, 2, 0), (.iaload, 49, 1, 44, 0, 0), (.iload_n 1, 50, 1, 40, 1, 0), (.if_icmp .ge 12, 51, 3, 51, 63, 0), (.aload_n 0, 54, 1, 41, 0, 0), (.iload_n 2, 55, 1, 40, 2, 0), (.iload_n 1, 56, 1, 40, 1, 0), (.invokevirtual 141, 57, 3, 12, 161, 0), (.ifCond .ne 9, 60, 3, 57, 69, 0)]),
  (63, [(.aload_n 0, 63, 1, 41, 0, 0), (.iconst 2, 64, 1, 42, 2, 0), (.invokevirtual 219, 65, 3, 4, 141, 0), (.ireturn, 68, 1, 1, 1, 0)]),
  (69, [(.iconst 0, 69, 1, 42, 0, 0), (.istore_n 3, 70, 1, 46, 3, 0)]),
  (71, [(.iload_n 3, 71, 1, 40, 3, 0), (.aload_n 0, 72, 1, 41, 0, 0), (.getfield 26, 73, 3, 43, 8, 6), (.iload_n 1, 76, 1, 40, 1, 0), (.iaload, 77, 1, 44, 0, 0), (.if_icmp .ge 39, 78, 3, 51, 117, 0), (.aload_n 0, 81, 1, 41, 0, 0), (.getfield 45, 82, 3, 43, 8, 12), (.aload_n 0, 85, 1, 41, 0, 0), (.getfield 23, 86, 3, 43, 8, 5), (.iconst 3, 89, 1, 42, 3, 0), (.iload_n 1, 90, 1, 40, 1, 0), (.imul, 91, 1, 62, 0, 0), (.iload_n 3, 92, 1, 40, 3, 0), (.iadd, 93, 1, 54, 0, 0), (.iaload, 94, 1, 44, 0, 0), (.iaload, 95, 1, 44, 0, 0), (.aload_n 0, 96, 1, 41, 0, 0), (.getfield 45, 97, 3, 43, 8, 12), (.iload_n 2, 100, 1, 40, 2, 0), (.iaload, 101, 1, 44, 0, 0), (.if_icmp .ne 9, 102, 3, 49, 111, 0), (.aload_n 0, 105, 1, 41, 0, 0), (.iconst 3, 106, 1, 42, 3, 0), (.invokevirtual 219, 107, 3, 4, 141, 0), (.ireturn, 110, 1, 1, 1, 0)]),
  (111, [(.iinc 3 1, 111, 3, 47, 3, 1), (.goto (-43), 114, 3, 45, 71, 0)]),
  (117, [(.aload_n 0, 117, 1, 41, 0, 0), (.getfield 26, 118, 3, 43, 8, 6), (.iload_n 1, 121, 1, 40, 1, 0), (.iaload, 122, 1, 44, 0, 0), (.iconst 3, 123, 1, 42, 3, 0), (.if_icmp .ne 9, 124, 3, 49, 133, 0), (.aload_n 0, 127, 1, 41, 0, 0), (.iconst 3, 128, 1, 42, 3, 0), (.invokevirtual 219, 129, 3, 4, 141, 0), (.ireturn, 132, 1, 1, 1, 0)]),
  (133, [(.aload_n 0, 133, 1, 41, 0, 0), (.getfield 23, 134, 3, 43, 8, 5), (.iconst 3, 137, 1, 42, 3, 0), (.iload_n 1, 138, 1, 40, 1, 0), (.imul, 139, 1, 62, 0, 0), (.aload_n 0, 140, 1, 41, 0, 0), (.getfield 26, 141, 3, 43, 8, 6), (.iload_n 1, 144, 1, 40, 1, 0), (.iaload, 145, 1, 44, 0, 0), (.iadd, 146, 1, 54, 0, 0), (.iload_n 2, 147, 1, 40, 2, 0), (.iastore, 148, 1, 63, 0, 0), (.aload_n 0, 149, 1, 41, 0, 0), (.getfield 26, 150, 3, 43, 8, 6), (.iload_n 1, 153, 1, 40, 1, 0), (.dup2, 154, 1, 80, 0, 0), (.iaload, 155, 1, 44, 0, 0), (.iconst 1, 156, 1, 42, 1, 0), (.iadd, 157, 1, 54, 0, 0), (.iastore, 158, 1, 63, 0, 0), (.aload_n 0, 159, 1, 41, 0, 0), (.invokevirtual 88, 160, 3, 4, 170, 0), (.aload_n 0, 163, 1, 41, 0, 0), (.getfield 26, 164, 3, 43, 8, 6), (.iload_n 1, 167, 1, 40, 1, 0), (.iaload, 168, 1, 44, 0, 0), (.ireturn, 169, 1, 1, 1, 0)])]
def km_185 : mv_I := (yX8_extend, cX8_extend, 4, (some .int), 2, 0, 8, [])
def kb_186 : List (Nat × List mv_E) := [(0, [(.iconst 0, 0, 1, 42, 0, 0), (.istore_n 2, 1, 1, 46, 2, 0), (.iconst 1, 2, 1, 42, 1, 0), (.istore_n 3, 3, 1, 46, 3, 0)]),
  (4, [(.iload_n 3, 4, 1, 40, 3, 0), (.aload_n 0, 5, 1, 41, 0, 0), (.getfield 7, 6, 3, 43, 8, 1), (.if_icmp .ge 50, 9, 3, 51, 59, 0), (.iconst 0, 12, 1, 42, 0, 0), (.istore 4, 13, 2, 46, 4, 0)]),
  (15, [(.iload 4, 15, 2, 40, 4, 0), (.aload_n 0, 17, 1, 41, 0, 0), (.iload_n 3, 18, 1, 40, 3, 0), (.invokevirtual 167, 19, 3, 4, 168, 0), (.if_icmp .ge 31, 22, 3, 51, 53, 0), (.aload_n 0, 25, 1, 41, 0, 0), (.getfield 45, 26, 3, 43, 8, 12), (.aload_n 0, 29, 1, 41, 0, 0), (.iload_n 3, 30, 1, 40, 3, 0), (.iload 4, 31, 2, 40, 4, 0), (.invokevirtual 170, 33, 3, 4, 169, 0), (.iaload, 36, 1, 44, 0, 0), (.iload_n 1, 37, 1, 40, 1, 0), (.if_icmp .ne 9, 38, 3, 49, 47, 0), (.iload_n 2, 41, 1, 40, 2, 0), (.iconst 1, 42, 1, 42, 1, 0), (.iload_n 3, 43, 1, 40, 3, 0), (.ishl, 44, 1, 70, 0, 0), (.ior, 45, 1, 65, 0, 0), (.istore_n 2, 46, 1, 46, 2, 0)]),
  (47, [(.iinc 4 1, 47, 3, 47, 4, 1), (.goto (-35), 50, 3, 45, 15, 0)]),
  (53, [(.iinc 3 1, 53, 3, 47, 3, 1), (.goto (-52), 56, 3, 45, 4, 0)]),
  (59, [(.iload_n 2, 59, 1, 40, 2, 0), (.ireturn, 60, 1, 1, 1, 0)])]
def km_186 : mv_I := (yX8_childrenOf, cX8_childrenOf, 5, (some .int), 1, 0, 8, [])
def kb_187 : List (Nat × List mv_E) := [(0, [(.iconst 0, 0, 1, 42, 0, 0), (.istore_n 3, 1, 1, 46, 3, 0), (.iload_n 2, 2, 1, 40, 2, 0), (.tableswitch 168 0 6 #[41, 48, 54, 61, 67, 115, 124], 3, 41, 97, 0, 0)]),
  (44, [(.aload_n 0, 44, 1, 41, 0, 0), (.getfield 13, 45, 3, 43, 8, 2), (.iload_n 1, 48, 1, 40, 1, 0), (.iaload, 49, 1, 44, 0, 0), (.ireturn, 50, 1, 1, 1, 0)]),
  (51, [(.aload_n 0, 51, 1, 41, 0, 0), (.iload_n 1, 52, 1, 40, 1, 0), (.invokevirtual 167, 53, 3, 4, 168, 0), (.ireturn, 56, 1, 1, 1, 0)]),
  (57, [(.aload_n 0, 57, 1, 41, 0, 0), (.getfield 29, 58, 3, 43, 8, 7), (.iload_n 1, 61, 1, 40, 1, 0), (.iaload, 62, 1, 44, 0, 0), (.ireturn, 63, 1, 1, 1, 0)]),
  (64, [(.aload_n 0, 64, 1, 41, 0, 0), (.iload_n 1, 65, 1, 40, 1, 0), (.invokevirtual 231, 66, 3, 4, 186, 0), (.ireturn, 69, 1, 1, 1, 0)]),
  (70, [(.iconst 0, 70, 1, 42, 0, 0), (.istore 4, 71, 2, 46, 4, 0)]),
  (73, [(.iload 4, 73, 2, 40, 4, 0), (.aload_n 0, 75, 1, 41, 0, 0), (.getfield 234, 76, 3, 43, 8, 16), (.if_icmp .ge 37, 79, 3, 51, 116, 0), (.iload_n 3, 82, 1, 40, 3, 0), (.aload_n 0, 83, 1, 41, 0, 0), (.getfield 57, 84, 3, 43, 8, 17), (.iload 4, 87, 2, 40, 4, 0), (.iaload, 89, 1, 44, 0, 0), (.iload_n 1, 90, 1, 40, 1, 0), (.if_icmp .ne 16, 91, 3, 49, 107, 0), (.iload 4, 94, 2, 40, 4, 0), (.aload_n 0, 96, 1, 41, 0, 0), (.getfield 78, 97, 3, 43, 8, 24), (.if_icmp .eq 7, 100, 3, 48, 107, 0), (.iconst 1, 103, 1, 42, 1, 0), (.goto 4, 104, 3, 45, 108, 0)]),
  (107, [(.iconst 0, 107, 1, 42, 0, 0)]),
  (108, [(.iadd, 108, 1, 54, 0, 0), (.istore_n 3, 109, 1, 46, 3, 0), (.iinc 4 1, 110, 3, 47, 4, 1), (.goto (-40), 113, 3, 45, 73, 0)]),
  (116, [(.iload_n 3, 116, 1, 40, 3, 0), (.ireturn, 117, 1, 1, 1, 0)]),
  (118, [(.aload_n 0, 118, 1, 41, 0, 0), (.iload_n 1, 119, 1, 40, 1, 0), (.invokevirtual 237, 120, 3, 4, 213, 0), (.invokestatic 240, 123, 3, 6, 212, 0), (.ireturn, 126, 1, 1, 1, 0)]),
  (127, [(.iconst 0, 127, 1, 42, 0, 0), (.istore 4, 128, 2, 46, 4, 0)]),
  (130, [(.iload 4, 130, 2, 40, 4, 0), (.aload_n 0, 132, 1, 41, 0, 0), (.getfield 234, 133, 3, 43, 8, 16), (.if_icmp .ge 33, 136, 3, 51, 169, 0), (.iload_n 3, 139, 1, 40, 3, 0), (.aload_n 0, 140, 1, 41, 0, 0), (.getfield 57, 141, 3, 43, 8, 17), (.iload 4, 144, 2, 40, 4, 0), (.iaload, 146, 1, 44, 0, 0), (.iload_n 1, 147, 1, 40, 1, 0), (.if_icmp .ne 12, 148, 3, 49, 160, 0), (.aload_n 0, 151, 1, 41, 0, 0), (.iload 4, 152, 2, 40, 4, 0), (.invokevirtual 243, 154, 3, 4, 217, 0), (.goto 4, 157, 3, 45, 161, 0)]),
  (160, [(.iconst 0, 160, 1, 42, 0, 0)]),
  (161, [(.iadd, 161, 1, 54, 0, 0), (.istore_n 3, 162, 1, 46, 3, 0), (.iinc 4 1, 163, 3, 47, 4, 1), (.goto (-36), 166, 3, 45, 130, 0)]),
  (169, [(.iload_n 3, 169, 1, 40, 3, 0), (.ireturn, 170, 1, 1, 1, 0)]),
  (171, [(.aload_n 0, 171, 1, 41, 0, 0), (.iconst (-1), 172, 1, 42, 4294967295, 0), (.iconst 0, 173, 1, 42, 0, 0), (.iload_n 1, 174, 1, 40, 1, 0), (.invokevirtual 246, 175, 3, 4, 234, 0), (.ireturn, 178, 1, 1, 1, 0)])]
def km_187 : mv_I := (yX8_ofKindNow, cX8_ofKindNow, 5, (some .int), 2, 0, 8, [])
def kb_188 : List (Nat × List mv_E) := [(0, [(.aload_n 0, 0, 1, 41, 0, 0), (.invokevirtual 216, 1, 3, 4, 142, 0), (.aload_n 0, 4, 1, 41, 0, 0), (.iload_n 1, 5, 1, 40, 1, 0), (.invokevirtual 98, 6, 3, 4, 145, 0), (.ifCond .ne 9, 9, 3, 57, 18, 0), (.aload_n 0, 12, 1, 41, 0, 0), (.iconst 1, 13, 1, 42, 1, 0), (.invokevirtual 219, 14, 3, 4, 141, 0), (.ireturn, 17, 1, 1, 1, 0)]),
  (18, [(.iload_n 2, 18, 1, 40, 2, 0), (.iconst 0, 19, 1, 42, 0, 0), (.bipush 7, 20, 2, 42, 7, 0), (.invokestatic 94, 22, 3, 6, 143, 0), (.ifCond .eq 12, 25, 3, 56, 37, 0), (.aload_n 0, 28, 1, 41, 0, 0), (.iload_n 1, 29, 1, 40, 1, 0), (.iload_n 2, 30, 1, 40, 2, 0), (.invokevirtual 249, 31, 3, 4, 187, 0), (.goto 8, 34, 3, 45, 42, 0)]),
  (37, [(.aload_n 0, 37, 1, 41, 0, 0), (.iconst 2, 38, 1, 42, 2, 0), (.invokevirtual 219, 39, 3, 4, 141, 0)]),
  (42, [(.ireturn, 42, 1, 1, 1, 0)])]
def km_188 : mv_I := (yX8_ofKind, cX8_ofKind, 3, (some .int), 2, 0, 8, [])
def kb_189 : List (Nat × List mv_E) := [(0, [(.iload_n 2, 0, 1, 40, 2, 0), (.aload_n 0, 1, 1, 41, 0, 0), (.getfield 13, 2, 3, 43, 8, 2), (.iload_n 1, 5, 1, 40, 1, 0), (.iaload, 6, 1, 44, 0, 0), (.if_icmp .lt 13, 7, 3, 50, 20, 0), (.iload_n 3, 10, 1, 40, 3, 0), (.ifCond .ne 7, 11, 3, 57, 18, 0), (.iconst 1, 14, 1, 42, 1, 0), (.goto 4, 15, 3, 45, 19, 0)]),
  (18, [(.iconst 0, 18, 1, 42, 0, 0)]),
  (19, [(.ireturn, 19, 1, 1, 2, 0)]),
  (20, [(.iload_n 3, 20, 1, 40, 3, 0), (.iconst (-1), 21, 1, 42, 4294967295, 0), (.if_icmp .eq 20, 22, 3, 48, 42, 0), (.iload_n 3, 25, 1, 40, 3, 0), (.bipush 6, 26, 2, 42, 6, 0), (.if_icmp .lt 18, 28, 3, 50, 46, 0), (.aload_n 0, 31, 1, 41, 0, 0), (.iload_n 3, 32, 1, 40, 3, 0), (.invokestatic 133, 33, 3, 6, 156, 0), (.invokevirtual 225, 36, 3, 4, 146, 0), (.ifCond .eq 7, 39, 3, 56, 46, 0)]),
  (42, [(.iconst 1, 42, 1, 42, 1, 0), (.goto 4, 43, 3, 45, 47, 0)]),
  (46, [(.iconst 0, 46, 1, 42, 0, 0)]),
  (47, [(.ireturn, 47, 1, 1, 2, 0)])]
def km_189 : mv_I := (yX8_isArgument, cX8_isArgument, 4, (some .boolean), 3, 0, 8, [])
def kb_190 : List (Nat × List mv_E) := [(0, [(.iload_n 1, 0, 1, 40, 1, 0), (.aload_n 0, 1, 1, 41, 0, 0), (.getfield 36, 2, 3, 43, 8, 9), (.if_icmp .ge 5, 5, 3, 51, 10, 0), (.iload_n 1, 8, 1, 40, 1, 0), (.ireturn, 9, 1, 1, 1, 0)]),
  (10, [(.aload_n 0, 10, 1, 41, 0, 0), (.iload_n 1, 11, 1, 40, 1, 0), (.invokevirtual 119, 12, 3, 4, 160, 0), (.iconst 4, 15, 1, 42, 4, 0), (.if_icmp .le 17, 16, 3, 53, 33, 0), (.aload_n 0, 19, 1, 41, 0, 0), (.aload_n 0, 20, 1, 41, 0, 0), (.getfield 36, 21, 3, 43, 8, 9), (.putfield 39, 24, 3, 55, 8, 40), (.aload_n 0, 27, 1, 41, 0, 0), (.iconst 2, 28, 1, 42, 2, 0), (.invokevirtual 219, 29, 3, 4, 141, 0), (.ireturn, 32, 1, 1, 1, 0)]),
  (33, [(.aload_n 0, 33, 1, 41, 0, 0), (.getfield 36, 34, 3, 43, 8, 9), (.bipush 33, 37, 2, 42, 33, 0), (.if_icmp .ne 17, 39, 3, 49, 56, 0), (.aload_n 0, 42, 1, 41, 0, 0), (.aload_n 0, 43, 1, 41, 0, 0), (.getfield 36, 44, 3, 43, 8, 9), (.putfield 39, 47, 3, 55, 8, 40), (.aload_n 0, 50, 1, 41, 0, 0), (.iconst 3, 51, 1, 42, 3, 0), (.invokevirtual 219, 52, 3, 4, 141, 0), (.ireturn, 55, 1, 1, 1, 0)]),
  (56, [(.aload_n 0, 56, 1, 41, 0, 0), (.dup, 57, 1, 77, 0, 0), (.getfield 36, 58, 3, 43, 8, 9), (.iconst 1, 61, 1, 42, 1, 0), (.iadd, 62, 1, 54, 0, 0), (.putfield 36, 63, 3, 55, 8, 36), (.iload_n 1, 66, 1, 40, 1, 0), (.ireturn, 67, 1, 1, 1, 0)])]
def km_190 : mv_I := (yX8_tell, cX8_tell, 2, (some .int), 1, 0, 8, [])
def kb_191 : List (Nat × List mv_E) := [(0, [(.aload_n 0, 0, 1, 41, 0, 0), (.invokevirtual 216, 1, 3, 4, 142, 0), (.aload_n 0, 4, 1, 41, 0, 0), (.iload_n 1, 5, 1, 40, 1, 0), (.invokevirtual 98, 6, 3, 4, 145, 0), (.ifCond .ne 9, 9, 3, 57, 18, 0), (.aload_n 0, 12, 1, 41, 0, 0), (.iconst 1, 13, 1, 42, 1, 0), (.invokevirtual 219, 14, 3, 4, 141, 0), (.ireturn, 17, 1, 1, 1, 0)]),
  (18, [(.aload_n 0, 18, 1, 41, 0, 0), (.iload_n 1, 19, 1, 40, 1, 0), (.iconst 0, 20, 1, 42, 0, 0), (.iload_n 2, 21, 1, 40, 2, 0), (.invokevirtual 252, 22, 3, 4, 189, 0), (.ifCond .eq 13, 25, 3, 56, 38, 0), (.aload_n 0, 28, 1, 41, 0, 0), (.iload_n 1, 29, 1, 40, 1, 0), (.iconst 1, 30, 1, 42, 1, 0), (.iload_n 3, 31, 1, 40, 3, 0), (.invokevirtual 252, 32, 3, 4, 189, 0), (.ifCond .ne 9, 35, 3, 57, 44, 0)]),
  (38, [(.aload_n 0, 38, 1, 41, 0, 0), (.iconst 2, 39, 1, 42, 2, 0), (.invokevirtual 219, 40, 3, 4, 141, 0), (.ireturn, 43, 1, 1, 1, 0)]),
  (44, [(.aload_n 0, 44, 1, 41, 0, 0), (.aload_n 0, 45, 1, 41, 0, 0), (.iload_n 1, 46, 1, 40, 1, 0), (.aload_n 0, 47, 1, 41, 0, 0), (.getfield 13, 48, 3, 43, 8, 2), (.iload_n 1, 51, 1, 40, 1, 0), (.iaload, 52, 1, 44, 0, 0), (.ifCond .le 7, 53, 3, 61, 60, 0), (.iload_n 2, 56, 1, 40, 2, 0), (.goto 5, 57, 3, 45, 62, 0)]),
  (60, [(.bipush (-2), 60, 2, 42, 4294967294, 0)]),
  (62, [(.aload_n 0, 62, 1, 41, 0, 0), (.getfield 13, 63, 3, 43, 8, 2), (.iload_n 1, 66, 1, 40, 1, 0), (.iaload, 67, 1, 44, 0, 0), (.iconst 1, 68, 1, 42, 1, 0), (.if_icmp .le 7, 69, 3, 53, 76, 0), (.iload_n 3, 72, 1, 40, 3, 0), (.goto 5, 73, 3, 45, 78, 0)]),
  (76, [(.bipush (-2), 76, 2, 42, 4294967294, 0)]),
  (78, [(.invokevirtual 160, 78, 3, 4, 153, 0), (.invokevirtual 255, 81, 3, 4, 190, 0), (.ireturn, 84, 1, 1, 1, 0)])]
def km_191 : mv_I := (yX8_of, cX8_of, 4, (some .int), 3, 0, 8, [])
def kb_192 : List (Nat × List mv_E) := [(0, [(.aload_n 0, 0, 1, 41, 0, 0), (.invokevirtual 216, 1, 3, 4, 142, 0), (.aload_n 0, 4, 1, 41, 0, 0), (.iload_n 1, 5, 1, 40, 1, 0), (.iload_n 2, 6, 1, 40, 2, 0), (.invokevirtual 222, 7, 3, 4, 147, 0), (.ifCond .ne 9, 10, 3, 57, 19, 0), (.aload_n 0, 13, 1, 41, 0, 0), (.iconst 1, 14, 1, 42, 1, 0), (.invokevirtual 219, 15, 3, 4, 141, 0), (.ireturn, 18, 1, 1, 1, 0)]),
  (19, [(.aload_n 0, 19, 1, 41, 0, 0), (.aload_n 0, 20, 1, 41, 0, 0), (.iconst 4, 21, 1, 42, 4, 0), (.iload_n 1, 22, 1, 40, 1, 0), (.iload_n 2, 23, 1, 40, 2, 0), (.bipush (-2), 24, 2, 42, 4294967294, 0), (.bipush (-2), 26, 2, 42, 4294967294, 0), (.invokevirtual 116, 28, 3, 4, 151, 0), (.invokevirtual 255, 31, 3, 4, 190, 0), (.istore_n 3, 34, 1, 46, 3, 0), (.aload_n 0, 35, 1, 41, 0, 0), (.getfield 91, 36, 3, 43, 8, 0), (.ifCond .le 11, 39, 3, 61, 50, 0), (.aload_n 0, 42, 1, 41, 0, 0), (.iconst 2, 43, 1, 42, 2, 0), (.invokevirtual 219, 44, 3, 4, 141, 0), (.goto 4, 47, 3, 45, 51, 0)]),
  (50, [(.iload_n 3, 50, 1, 40, 3, 0)]),
  (51, [(.ireturn, 51, 1, 1, 1, 0)])]
def km_192 : mv_I := (yX8_parameter, cX8_parameter, 4, (some .int), 2, 0, 8, [])
def kb_193 : List (Nat × List mv_E) := [(0, [(.aload_n 0, 0, 1, 41, 0, 0), (.invokevirtual 216, 1, 3, 4, 142, 0), (.aload_n 0, 4, 1, 41, 0, 0), (.iload_n 1, 5, 1, 40, 1, 0), (.invokevirtual 225, 6, 3, 4, 146, 0), (.ifCond .ne 9, 9, 3, 57, 18, 0), (.aload_n 0, 12, 1, 41, 0, 0), (.iconst 1, 13, 1, 42, 1, 0), (.invokevirtual 219, 14, 3, 4, 141, 0), (.ireturn, 17, 1, 1, 1, 0)]),
  (18, [(.iload_n 1, 18, 1, 40, 1, 0), (.iconst 1, 19, 1, 42, 1, 0), (.if_icmp .ne 11, 20, 3, 49, 31, 0), (.aload_n 0, 23, 1, 41, 0, 0), (.iconst 2, 24, 1, 42, 2, 0), (.invokevirtual 219, 25, 3, 4, 141, 0), (.goto 12, 28, 3, 45, 40, 0)]),
  (31, [(.aload_n 0, 31, 1, 41, 0, 0), (.aload_n 0, 32, 1, 41, 0, 0), (.iload_n 1, 33, 1, 40, 1, 0), (.invokevirtual 154, 34, 3, 4, 152, 0), (.invokevirtual 255, 37, 3, 4, 190, 0)]),
  (40, [(.ireturn, 40, 1, 1, 1, 0)])]
def km_193 : mv_I := (yX8_array, cX8_array, 2, (some .int), 1, 0, 8, [])
def kb_194 : List (Nat × List mv_E) := [(0, [(.aload_n 0, 0, 1, 41, 0, 0), (.getfield 42, 1, 3, 43, 8, 11), (.iload_n 1, 4, 1, 40, 1, 0), (.iaload, 5, 1, 44, 0, 0), (.tableswitch 79 0 4 #[34, 37, 40, 47, 68], 6, 34, 97, 0, 0)]),
  (40, [(.bipush 100, 40, 2, 42, 100, 0), (.ireturn, 42, 1, 1, 1, 0)]),
  (43, [(.bipush 101, 43, 2, 42, 101, 0), (.ireturn, 45, 1, 1, 1, 0)]),
  (46, [(.aload_n 0, 46, 1, 41, 0, 0), (.getfield 45, 47, 3, 43, 8, 12), (.iload_n 1, 50, 1, 40, 1, 0), (.iaload, 51, 1, 44, 0, 0), (.ireturn, 52, 1, 1, 1, 0)]),
  (53, [(.iload_n 2, 53, 1, 40, 2, 0), (.iconst (-1), 54, 1, 42, 4294967295, 0), (.if_icmp .ne 7, 55, 3, 49, 62, 0), (.iconst 0, 58, 1, 42, 0, 0), (.goto 14, 59, 3, 45, 73, 0)]),
  (62, [(.aload_n 0, 62, 1, 41, 0, 0), (.getfield 45, 63, 3, 43, 8, 12), (.aload_n 0, 66, 1, 41, 0, 0), (.getfield 72, 67, 3, 43, 8, 22), (.iload_n 2, 70, 1, 40, 2, 0), (.iaload, 71, 1, 44, 0, 0), (.iaload, 72, 1, 44, 0, 0)]),
  (73, [(.ireturn, 73, 1, 1, 1, 0)]),
  (74, [(.aload_n 0, 74, 1, 41, 0, 0), (.getfield 45, 75, 3, 43, 8, 12), (.aload_n 0, 78, 1, 41, 0, 0), (.iload_n 1, 79, 1, 40, 1, 0), (.invokevirtual 185, 80, 3, 4, 159, 0), (.iaload, 83, 1, 44, 0, 0), (.ireturn, 84, 1, 1, 1, 0)]),
  (85, [(.sipush 1000, 85, 3, 42, 1000, 0), (.aload_n 0, 88, 1, 41, 0, 0), (.aload_n 0, 89, 1, 41, 0, 0), (.getfield 45, 90, 3, 43, 8, 12), (.iload_n 1, 93, 1, 40, 1, 0), (.iaload, 94, 1, 44, 0, 0), (.iload_n 2, 95, 1, 40, 2, 0), (.invokevirtual 258, 96, 3, 4, 194, 0), (.iadd, 99, 1, 54, 0, 0), (.ireturn, 100, 1, 1, 1, 0)])]
def km_194 : mv_I := (yX8_erased, cX8_erased, 3, (some .int), 2, 0, 8, [])
def kb_195 : List (Nat × List mv_E) := [(0, [(.aload_n 0, 0, 1, 41, 0, 0), (.getfield 42, 1, 3, 43, 8, 11), (.iload_n 1, 4, 1, 40, 1, 0), (.iaload, 5, 1, 44, 0, 0), (.tableswitch 83 0 5 #[38, 40, 83, 42, 44, 63], 6, 38, 97, 0, 0)]),
  (44, [(.iconst 1, 44, 1, 42, 1, 0), (.ireturn, 45, 1, 1, 1, 0)]),
  (46, [(.iconst 2, 46, 1, 42, 2, 0), (.ireturn, 47, 1, 1, 1, 0)]),
  (48, [(.iconst 3, 48, 1, 42, 3, 0), (.ireturn, 49, 1, 1, 1, 0)]),
  (50, [(.bipush 10, 50, 2, 42, 10, 0), (.iconst 2, 52, 1, 42, 2, 0), (.aload_n 0, 53, 1, 41, 0, 0), (.getfield 45, 54, 3, 43, 8, 12), (.iload_n 1, 57, 1, 40, 1, 0), (.iaload, 58, 1, 44, 0, 0), (.imul, 59, 1, 62, 0, 0), (.iadd, 60, 1, 54, 0, 0), (.aload_n 0, 61, 1, 41, 0, 0), (.getfield 48, 62, 3, 43, 8, 13), (.iload_n 1, 65, 1, 40, 1, 0), (.iaload, 66, 1, 44, 0, 0), (.iadd, 67, 1, 54, 0, 0), (.ireturn, 68, 1, 1, 1, 0)]),
  (69, [(.bipush 17, 69, 2, 42, 17, 0), (.aload_n 0, 71, 1, 41, 0, 0), (.aload_n 0, 72, 1, 41, 0, 0), (.getfield 45, 73, 3, 43, 8, 12), (.iload_n 1, 76, 1, 40, 1, 0), (.iaload, 77, 1, 44, 0, 0), (.invokevirtual 261, 78, 3, 4, 195, 0), (.imul, 81, 1, 62, 0, 0), (.iconst 5, 82, 1, 42, 5, 0), (.iadd, 83, 1, 54, 0, 0), (.ldc_w 264, 84, 3, 42, 99991, 0), (.irem, 87, 1, 69, 0, 0), (.ireturn, 88, 1, 1, 1, 0)]),
  (89, [(.bipush 50, 89, 2, 42, 50, 0), (.aload_n 0, 91, 1, 41, 0, 0), (.getfield 45, 92, 3, 43, 8, 12), (.iload_n 1, 95, 1, 40, 1, 0), (.iaload, 96, 1, 44, 0, 0), (.iadd, 97, 1, 54, 0, 0), (.istore_n 2, 98, 1, 46, 2, 0), (.iconst 0, 99, 1, 42, 0, 0), (.istore_n 3, 100, 1, 46, 3, 0)]),
  (101, [(.iload_n 3, 101, 1, 40, 3, 0), (.aload_n 0, 102, 1, 41, 0, 0), (.getfield 13, 103, 3, 43, 8, 2), (.aload_n 0, 106, 1, 41, 0, 0), (.getfield 45, 107, 3, 43, 8, 12), (.iload_n 1, 110, 1, 40, 1, 0), (.iaload, 111, 1, 44, 0, 0), (.iaload, 112, 1, 44, 0, 0), (.if_icmp .ge 60, 113, 3, 51, 173, 0), (.aload_n 0, 116, 1, 41, 0, 0), (.iload_n 1, 117, 1, 40, 1, 0), (.iload_n 3, 118, 1, 40, 3, 0), (.invokevirtual 126, 119, 3, 4, 155, 0), (.istore 4, 122, 2, 46, 4, 0), (.bipush 31, 124, 2, 42, 31, 0), (.iload_n 2, 126, 1, 40, 2, 0), (.imul, 127, 1, 62, 0, 0), (.iload 4, 128, 2, 40, 4, 0), (.invokestatic 130, 130, 3, 6, 158, 0), (.ifCond .eq 26, 133, 3, 56, 159, 0), (.bipush 8, 136, 2, 42, 8, 0), (.iconst 3, 138, 1, 42, 3, 0), (.aload_n 0, 139, 1, 41, 0, 0), (.iload 4, 140, 2, 40, 4, 0), (.invokestatic 133, 142, 3, 6, 156, 0), (.invokevirtual 261, 145, 3, 4, 195, 0), (.imul, 148, 1, 62, 0, 0), (.iadd, 149, 1, 54, 0, 0), (.iload 4, 150, 2, 40, 4, 0), (.invokestatic 148, 152, 3, 6, 157, 0), (.iadd, 155, 1, 54, 0, 0), (.goto 5, 156, 3, 45, 161, 0)]),
  (159, [(.bipush 7, 159, 2, 42, 7, 0)]),
  (161, [(.iadd, 161, 1, 54, 0, 0), (.ldc_w 264, 162, 3, 42, 99991, 0), (.irem, 165, 1, 69, 0, 0), (.istore_n 2, 166, 1, 46, 2, 0), (.iinc 3 1, 167, 3, 47, 3, 1), (.goto (-69), 170, 3, 45, 101, 0)]),
  (173, [(.iload_n 2, 173, 1, 40, 2, 0), (.ireturn, 174, 1, 1, 1, 0)])]
def km_195 : mv_I := (yX8_code, cX8_code, 5, (some .int), 1, 0, 8, [])
def kb_196 : List (Nat × List mv_E) := [(0, [(.iload_n 2, 0, 1, 40, 2, 0), (.tableswitch 83 0 4 #[35, 42, 49, 55, 69], 1, 35, 97, 0, 0)]),
  (36, [(.aload_n 0, 36, 1, 41, 0, 0), (.getfield 42, 37, 3, 43, 8, 11), (.iload_n 1, 40, 1, 40, 1, 0), (.iaload, 41, 1, 44, 0, 0), (.ireturn, 42, 1, 1, 1, 0)]),
  (43, [(.aload_n 0, 43, 1, 41, 0, 0), (.iload_n 1, 44, 1, 40, 1, 0), (.iconst (-1), 45, 1, 42, 4294967295, 0), (.invokevirtual 258, 46, 3, 4, 194, 0), (.ireturn, 49, 1, 1, 1, 0)]),
  (50, [(.aload_n 0, 50, 1, 41, 0, 0), (.iload_n 1, 51, 1, 40, 1, 0), (.invokevirtual 261, 52, 3, 4, 195, 0), (.ireturn, 55, 1, 1, 1, 0)]),
  (56, [(.aload_n 0, 56, 1, 41, 0, 0), (.iload_n 1, 57, 1, 40, 1, 0), (.invokevirtual 145, 58, 3, 4, 162, 0), (.ifCond .eq 7, 61, 3, 56, 68, 0), (.iconst 1, 64, 1, 42, 1, 0), (.goto 4, 65, 3, 45, 69, 0)]),
  (68, [(.iconst 0, 68, 1, 42, 0, 0)]),
  (69, [(.ireturn, 69, 1, 1, 1, 0)]),
  (70, [(.aload_n 0, 70, 1, 41, 0, 0), (.iload_n 1, 71, 1, 40, 1, 0), (.invokevirtual 213, 72, 3, 4, 182, 0), (.ifCond .eq 7, 75, 3, 56, 82, 0), (.iconst 1, 78, 1, 42, 1, 0), (.goto 4, 79, 3, 45, 83, 0)]),
  (82, [(.iconst 0, 82, 1, 42, 0, 0)]),
  (83, [(.ireturn, 83, 1, 1, 1, 0)]),
  (84, [(.aload_n 0, 84, 1, 41, 0, 0), (.iload_n 1, 85, 1, 40, 1, 0), (.invokevirtual 265, 86, 3, 4, 215, 0), (.invokestatic 240, 89, 3, 6, 212, 0), (.ireturn, 92, 1, 1, 1, 0)])]
def km_196 : mv_I := (yX8_ofTypeNow, cX8_ofTypeNow, 3, (some .int), 2, 0, 8, [])
def kb_197 : List (Nat × List mv_E) := [(0, [(.aload_n 0, 0, 1, 41, 0, 0), (.invokevirtual 216, 1, 3, 4, 142, 0), (.aload_n 0, 4, 1, 41, 0, 0), (.iload_n 1, 5, 1, 40, 1, 0), (.invokevirtual 225, 6, 3, 4, 146, 0), (.ifCond .ne 9, 9, 3, 57, 18, 0), (.aload_n 0, 12, 1, 41, 0, 0), (.iconst 1, 13, 1, 42, 1, 0), (.invokevirtual 219, 14, 3, 4, 141, 0), (.ireturn, 17, 1, 1, 1, 0)]),
  (18, [(.iload_n 2, 18, 1, 40, 2, 0), (.iconst 0, 19, 1, 42, 0, 0), (.iconst 5, 20, 1, 42, 5, 0), (.invokestatic 94, 21, 3, 6, 143, 0), (.ifCond .eq 12, 24, 3, 56, 36, 0), (.aload_n 0, 27, 1, 41, 0, 0), (.iload_n 1, 28, 1, 40, 1, 0), (.iload_n 2, 29, 1, 40, 2, 0), (.invokevirtual 268, 30, 3, 4, 196, 0), (.goto 8, 33, 3, 45, 41, 0)]),
  (36, [(.aload_n 0, 36, 1, 41, 0, 0), (.iconst 2, 37, 1, 42, 2, 0), (.invokevirtual 219, 38, 3, 4, 141, 0)]),
  (41, [(.ireturn, 41, 1, 1, 1, 0)])]
def km_197 : mv_I := (yX8_ofType, cX8_ofType, 3, (some .int), 2, 0, 8, [])
def kb_198 : List (Nat × List mv_E) := [(0, [(.aload_n 0, 0, 1, 41, 0, 0), (.invokevirtual 216, 1, 3, 4, 142, 0), (.aload_n 0, 4, 1, 41, 0, 0), (.aload_n 0, 5, 1, 41, 0, 0), (.iload_n 1, 6, 1, 40, 1, 0), (.invokevirtual 225, 7, 3, 4, 146, 0), (.ifCond .eq 15, 10, 3, 56, 25, 0), (.aload_n 0, 13, 1, 41, 0, 0), (.iload_n 2, 14, 1, 40, 2, 0), (.invokevirtual 225, 15, 3, 4, 146, 0), (.ifCond .eq 7, 18, 3, 56, 25, 0), (.iconst 0, 21, 1, 42, 0, 0), (.goto 4, 22, 3, 45, 26, 0)]),
  (25, [(.iconst 1, 25, 1, 42, 1, 0)]),
  (26, [(.putfield 91, 26, 3, 55, 8, 0), (.aload_n 0, 29, 1, 41, 0, 0), (.getfield 91, 30, 3, 43, 8, 0), (.ifCond .ne 16, 33, 3, 57, 49, 0), (.aload_n 0, 36, 1, 41, 0, 0), (.iload_n 1, 37, 1, 40, 1, 0), (.iload_n 2, 38, 1, 40, 2, 0), (.invokevirtual 197, 39, 3, 4, 177, 0), (.ifCond .eq 7, 42, 3, 56, 49, 0), (.iconst 1, 45, 1, 42, 1, 0), (.goto 4, 46, 3, 45, 50, 0)]),
  (49, [(.iconst 0, 49, 1, 42, 0, 0)]),
  (50, [(.ireturn, 50, 1, 1, 2, 0)])]
def km_198 : mv_I := (yX8_isBelow, cX8_isBelow, 3, (some .boolean), 2, 0, 8, [])
def kb_199 : List (Nat × List mv_E) := [(0, [(.aload_n 0, 0, 1, 41, 0, 0), (.invokevirtual 216, 1, 3, 4, 142, 0), (.aload_n 0, 4, 1, 41, 0, 0), (.iload_n 1, 5, 1, 40, 1, 0), (.invokevirtual 225, 6, 3, 4, 146, 0), (.ifCond .eq 25, 9, 3, 56, 34, 0), (.aload_n 0, 12, 1, 41, 0, 0), (.iload_n 2, 13, 1, 40, 2, 0), (.invokevirtual 225, 14, 3, 4, 146, 0), (.ifCond .eq 17, 17, 3, 56, 34, 0), (.aload_n 0, 20, 1, 41, 0, 0), (.aload_n 0, 21, 1, 41, 0, 0), (.iload_n 1, 22, 1, 40, 1, 0), (.iload_n 2, 23, 1, 40, 2, 0), (.iconst 0, 24, 1, 42, 0, 0), (.invokevirtual 199, 25, 3, 4, 178, 0), (.invokevirtual 261, 28, 3, 4, 195, 0), (.goto 8, 31, 3, 45, 39, 0)]),
  (34, [(.aload_n 0, 34, 1, 41, 0, 0), (.iconst 1, 35, 1, 42, 1, 0), (.invokevirtual 219, 36, 3, 4, 141, 0)]),
  (39, [(.ireturn, 39, 1, 1, 1, 0)])]
def km_199 : mv_I := (yX8_join, cX8_join, 3, (some .int), 2, 0, 8, [])
def kb_200 : List (Nat × List mv_E) := [(0, [(.aload_n 0, 0, 1, 41, 0, 0), (.invokevirtual 216, 1, 3, 4, 142, 0), (.aload_n 0, 4, 1, 41, 0, 0), (.iload_n 1, 5, 1, 40, 1, 0), (.invokevirtual 225, 6, 3, 4, 146, 0), (.ifCond .eq 11, 9, 3, 56, 20, 0), (.aload_n 0, 12, 1, 41, 0, 0), (.iload_n 2, 13, 1, 40, 2, 0), (.invokevirtual 98, 14, 3, 4, 145, 0), (.ifCond .ne 9, 17, 3, 57, 26, 0)]),
  (20, [(.aload_n 0, 20, 1, 41, 0, 0), (.iconst 1, 21, 1, 42, 1, 0), (.invokevirtual 219, 22, 3, 4, 141, 0), (.ireturn, 25, 1, 1, 1, 0)]),
  (26, [(.aload_n 0, 26, 1, 41, 0, 0), (.iload_n 1, 27, 1, 40, 1, 0), (.invokevirtual 123, 28, 3, 4, 154, 0), (.ifCond .eq 30, 31, 3, 56, 61, 0), (.aload_n 0, 34, 1, 41, 0, 0), (.iload_n 2, 35, 1, 40, 2, 0), (.aload_n 0, 36, 1, 41, 0, 0), (.getfield 45, 37, 3, 43, 8, 12), (.iload_n 1, 40, 1, 40, 1, 0), (.iaload, 41, 1, 44, 0, 0), (.invokevirtual 179, 42, 3, 4, 172, 0), (.ifCond .eq 16, 45, 3, 56, 61, 0), (.aload_n 0, 48, 1, 41, 0, 0), (.aload_n 0, 49, 1, 41, 0, 0), (.iload_n 1, 50, 1, 40, 1, 0), (.iload_n 2, 51, 1, 40, 2, 0), (.invokevirtual 182, 52, 3, 4, 173, 0), (.invokevirtual 261, 55, 3, 4, 195, 0), (.goto 4, 58, 3, 45, 62, 0)]),
  (61, [(.iconst (-1), 61, 1, 42, 4294967295, 0)]),
  (62, [(.ireturn, 62, 1, 1, 1, 0)])]
def km_200 : mv_I := (yX8_as, cX8_as, 3, (some .int), 2, 0, 8, [])
def kb_201 : List (Nat × List mv_E) := [(0, [(.iconst 0, 0, 1, 42, 0, 0), (.istore 4, 1, 2, 46, 4, 0)]),
  (3, [(.iload 4, 3, 2, 40, 4, 0), (.aload_n 0, 5, 1, 41, 0, 0), (.getfield 7, 6, 3, 43, 8, 1), (.if_icmp .ge 30, 9, 3, 51, 39, 0), (.iload_n 2, 12, 1, 40, 2, 0), (.iload 4, 13, 2, 40, 4, 0), (.invokestatic 173, 15, 3, 6, 144, 0), (.ifCond .eq 15, 18, 3, 56, 33, 0), (.aload_n 0, 21, 1, 41, 0, 0), (.iload 4, 22, 2, 40, 4, 0), (.iload_n 1, 24, 1, 40, 1, 0), (.invokevirtual 179, 25, 3, 4, 172, 0), (.ifCond .eq 5, 28, 3, 56, 33, 0), (.iconst 1, 31, 1, 42, 1, 0), (.ireturn, 32, 1, 1, 2, 0)]),
  (33, [(.iinc 4 1, 33, 3, 47, 4, 1), (.goto (-33), 36, 3, 45, 3, 0)]),
  (39, [(.aload_n 0, 39, 1, 41, 0, 0), (.getfield 32, 40, 3, 43, 8, 8), (.iload_n 1, 43, 1, 40, 1, 0), (.baload, 44, 1, 82, 0, 0), (.ifCond .ne 5, 45, 3, 57, 50, 0), (.iconst 0, 48, 1, 42, 0, 0), (.ireturn, 49, 1, 1, 2, 0)]),
  (50, [(.iconst 1, 50, 1, 42, 1, 0), (.istore 4, 51, 2, 46, 4, 0)]),
  (53, [(.iload 4, 53, 2, 40, 4, 0), (.aload_n 0, 55, 1, 41, 0, 0), (.getfield 7, 56, 3, 43, 8, 1), (.if_icmp .ge 78, 59, 3, 51, 137, 0), (.iconst 0, 62, 1, 42, 0, 0), (.istore 5, 63, 2, 46, 5, 0)]),
  (65, [(.iload 5, 65, 2, 40, 5, 0), (.aload_n 0, 67, 1, 41, 0, 0), (.iload 4, 68, 2, 40, 4, 0), (.invokevirtual 167, 70, 3, 4, 168, 0), (.if_icmp .ge 58, 73, 3, 51, 131, 0), (.aload_n 0, 76, 1, 41, 0, 0), (.iload 4, 77, 2, 40, 4, 0), (.iload 5, 79, 2, 40, 5, 0), (.invokevirtual 170, 81, 3, 4, 169, 0), (.istore 6, 84, 2, 46, 6, 0), (.aload_n 0, 86, 1, 41, 0, 0), (.getfield 45, 87, 3, 43, 8, 12), (.iload 6, 90, 2, 40, 6, 0), (.iaload, 92, 1, 44, 0, 0), (.iload_n 1, 93, 1, 40, 1, 0), (.if_icmp .ne 31, 94, 3, 49, 125, 0), (.iload_n 3, 97, 1, 40, 3, 0), (.iconst (-1), 98, 1, 42, 4294967295, 0), (.if_icmp .eq 13, 99, 3, 48, 112, 0), (.aload_n 0, 102, 1, 41, 0, 0), (.iload 6, 103, 2, 40, 6, 0), (.iload_n 3, 105, 1, 40, 3, 0), (.invokevirtual 271, 106, 3, 4, 203, 0), (.ifCond .ne 16, 109, 3, 57, 125, 0)]),
  (112, [(.aload_n 0, 112, 1, 41, 0, 0), (.iload 4, 113, 2, 40, 4, 0), (.iload_n 2, 115, 1, 40, 2, 0), (.iconst (-1), 116, 1, 42, 4294967295, 0), (.invokevirtual 274, 117, 3, 4, 201, 0), (.ifCond .ne 5, 120, 3, 57, 125, 0), (.iconst 0, 123, 1, 42, 0, 0), (.ireturn, 124, 1, 1, 2, 0)]),
  (125, [(.iinc 5 1, 125, 3, 47, 5, 1), (.goto (-63), 128, 3, 45, 65, 0)]),
  (131, [(.iinc 4 1, 131, 3, 47, 4, 1), (.goto (-81), 134, 3, 45, 53, 0)]),
  (137, [(.iconst 1, 137, 1, 42, 1, 0), (.ireturn, 138, 1, 1, 2, 0)])]
def km_201 : mv_I := (yX8_isCovered, cX8_isCovered, 7, (some .boolean), 3, 0, 8, [])
def kb_202 : List (Nat × List mv_E) := [(0, [(.iload_n 1, 0, 1, 40, 1, 0), (.invokestatic 130, 1, 3, 6, 158, 0), (.ifCond .eq 14, 4, 3, 56, 18, 0), (.aload_n 0, 7, 1, 41, 0, 0), (.iload_n 1, 8, 1, 40, 1, 0), (.invokestatic 133, 9, 3, 6, 156, 0), (.invokevirtual 145, 12, 3, 4, 162, 0), (.ifCond .eq 7, 15, 3, 56, 22, 0)]),
  (18, [(.iconst 1, 18, 1, 42, 1, 0), (.goto 4, 19, 3, 45, 23, 0)]),
  (22, [(.iconst 0, 22, 1, 42, 0, 0)]),
  (23, [(.ireturn, 23, 1, 1, 2, 0)])]
def km_202 : mv_I := (yX8_isClosedArgument, cX8_isClosedArgument, 2, (some .boolean), 1, 0, 8, [])
def kb_203 : List (Nat × List mv_E) := [(0, [(.iconst 0, 0, 1, 42, 0, 0), (.istore_n 3, 1, 1, 46, 3, 0)]),
  (2, [(.iload_n 3, 2, 1, 40, 3, 0), (.aload_n 0, 3, 1, 41, 0, 0), (.getfield 13, 4, 3, 43, 8, 2), (.aload_n 0, 7, 1, 41, 0, 0), (.getfield 45, 8, 3, 43, 8, 12), (.iload_n 2, 11, 1, 40, 2, 0), (.iaload, 12, 1, 44, 0, 0), (.iaload, 13, 1, 44, 0, 0), (.if_icmp .ge 59, 14, 3, 51, 73, 0), (.aload_n 0, 17, 1, 41, 0, 0), (.aload_n 0, 18, 1, 41, 0, 0), (.iload_n 1, 19, 1, 40, 1, 0), (.iload_n 3, 20, 1, 40, 3, 0), (.invokevirtual 126, 21, 3, 4, 155, 0), (.invokevirtual 277, 24, 3, 4, 202, 0), (.ifCond .eq 40, 27, 3, 56, 67, 0), (.aload_n 0, 30, 1, 41, 0, 0), (.aload_n 0, 31, 1, 41, 0, 0), (.iload_n 1, 32, 1, 40, 1, 0), (.iload_n 3, 33, 1, 40, 3, 0), (.invokevirtual 126, 34, 3, 4, 155, 0), (.aload_n 0, 37, 1, 41, 0, 0), (.iload_n 2, 38, 1, 40, 2, 0), (.iload_n 3, 39, 1, 40, 3, 0), (.invokevirtual 126, 40, 3, 4, 155, 0), (.aload_n 0, 43, 1, 41, 0, 0), (.getfield 17, 44, 3, 43, 8, 3), (.iconst 2, 47, 1, 42, 2, 0), (.aload_n 0, 48, 1, 41, 0, 0), (.getfield 45, 49, 3, 43, 8, 12), (.iload_n 2, 52, 1, 40, 2, 0), (.iaload, 53, 1, 44, 0, 0), (.imul, 54, 1, 62, 0, 0), (.iload_n 3, 55, 1, 40, 3, 0), (.iadd, 56, 1, 54, 0, 0), (.iaload, 57, 1, 44, 0, 0), (.iconst 1, 58, 1, 42, 1, 0), (.invokevirtual 190, 59, 3, 4, 176, 0), (.ifCond .ne 5, 62, 3, 57, 67, 0), (.iconst 1, 65, 1, 42, 1, 0), (.ireturn, 66, 1, 1, 2, 0)]),
  (67, [(.iinc 3 1, 67, 3, 47, 3, 1), (.goto (-68), 70, 3, 45, 2, 0)]),
  (73, [(.iconst 0, 73, 1, 42, 0, 0), (.ireturn, 74, 1, 1, 2, 0)])]
def km_203 : mv_I := (yX8_cannotBe, cX8_cannotBe, 4, (some .boolean), 2, 0, 8, [])
def kb_204 : List (Nat × List mv_E) := [(0, [(.aload_n 0, 0, 1, 41, 0, 0), (.iload_n 1, 1, 1, 40, 1, 0), (.invokevirtual 123, 2, 3, 4, 154, 0), (.ifCond .eq 22, 5, 3, 56, 27, 0), (.aload_n 0, 8, 1, 41, 0, 0), (.aload_n 0, 9, 1, 41, 0, 0), (.getfield 45, 10, 3, 43, 8, 12), (.iload_n 1, 13, 1, 40, 1, 0), (.iaload, 14, 1, 44, 0, 0), (.iload_n 2, 15, 1, 40, 2, 0), (.iload_n 1, 16, 1, 40, 1, 0), (.invokevirtual 274, 17, 3, 4, 201, 0), (.ifCond .eq 7, 20, 3, 56, 27, 0), (.iconst 1, 23, 1, 42, 1, 0), (.goto 4, 24, 3, 45, 28, 0)]),
  (27, [(.iconst 0, 27, 1, 42, 0, 0)]),
  (28, [(.ireturn, 28, 1, 1, 2, 0)])]
def km_204 : mv_I := (yX8_areAllNow, cX8_areAllNow, 3, (some .boolean), 2, 0, 8, [])
def kb_205 : List (Nat × List mv_E) := [(0, [(.aload_n 0, 0, 1, 41, 0, 0), (.invokevirtual 216, 1, 3, 4, 142, 0), (.aload_n 0, 4, 1, 41, 0, 0), (.aload_n 0, 5, 1, 41, 0, 0), (.iload_n 1, 6, 1, 40, 1, 0), (.invokevirtual 225, 7, 3, 4, 146, 0), (.ifCond .ne 7, 10, 3, 57, 17, 0), (.iconst 1, 13, 1, 42, 1, 0), (.goto 24, 14, 3, 45, 38, 0)]),
  (17, [(.iload_n 2, 17, 1, 40, 2, 0), (.iconst 0, 18, 1, 42, 0, 0), (.iconst 1, 19, 1, 42, 1, 0), (.aload_n 0, 20, 1, 41, 0, 0), (.getfield 7, 21, 3, 43, 8, 1), (.ishl, 24, 1, 70, 0, 0), (.iconst 1, 25, 1, 42, 1, 0), (.isub, 26, 1, 67, 0, 0), (.invokestatic 94, 27, 3, 6, 143, 0), (.ifCond .ne 7, 30, 3, 57, 37, 0), (.iconst 2, 33, 1, 42, 2, 0), (.goto 4, 34, 3, 45, 38, 0)]),
  (37, [(.iconst 0, 37, 1, 42, 0, 0)]),
  (38, [(.putfield 91, 38, 3, 55, 8, 0), (.aload_n 0, 41, 1, 41, 0, 0), (.getfield 91, 42, 3, 43, 8, 0), (.ifCond .ne 16, 45, 3, 57, 61, 0), (.aload_n 0, 48, 1, 41, 0, 0), (.iload_n 1, 49, 1, 40, 1, 0), (.iload_n 2, 50, 1, 40, 2, 0), (.invokevirtual 280, 51, 3, 4, 204, 0), (.ifCond .eq 7, 54, 3, 56, 61, 0), (.iconst 1, 57, 1, 42, 1, 0), (.goto 4, 58, 3, 45, 62, 0)]),
  (61, [(.iconst 0, 61, 1, 42, 0, 0)]),
  (62, [(.ireturn, 62, 1, 1, 2, 0)])]
def km_205 : mv_I := (yX8_areAll, cX8_areAll, 3, (some .boolean), 2, 0, 8, [])
def kb_206 : List (Nat × List mv_E) := [(0, [(.iload_n 1, 0, 1, 40, 1, 0), (.iconst (-1), 1, 1, 42, 4294967295, 0), (.if_icmp .eq 11, 2, 3, 48, 13, 0), (.aload_n 0, 5, 1, 41, 0, 0), (.iload_n 1, 6, 1, 40, 1, 0), (.invokevirtual 225, 7, 3, 4, 146, 0), (.ifCond .eq 7, 10, 3, 56, 17, 0)]),
  (13, [(.iconst 1, 13, 1, 42, 1, 0), (.goto 4, 14, 3, 45, 18, 0)]),
  (17, [(.iconst 0, 17, 1, 42, 0, 0)]),
  (18, [(.ireturn, 18, 1, 1, 2, 0)])]
def km_206 : mv_I := (yX8_isFormal, cX8_isFormal, 2, (some .boolean), 1, 0, 8, [])
def kb_207 : List (Nat × List mv_E) := [(0, [(.iload_n 2, 0, 1, 40, 2, 0), (.iconst 1, 1, 1, 42, 1, 0), (.if_icmp .eq 16, 2, 3, 48, 18, 0), (.aload_n 0, 5, 1, 41, 0, 0), (.iload_n 2, 6, 1, 40, 2, 0), (.iload_n 1, 7, 1, 40, 1, 0), (.invokevirtual 141, 8, 3, 12, 161, 0), (.ifCond .eq 7, 11, 3, 56, 18, 0), (.iconst 1, 14, 1, 42, 1, 0), (.goto 4, 15, 3, 45, 19, 0)]),
  (18, [(.iconst 0, 18, 1, 42, 0, 0)]),
  (19, [(.ireturn, 19, 1, 1, 2, 0)])]
def km_207 : mv_I := (yX8_canBe, cX8_canBe, 3, (some .boolean), 2, 0, 8, [])
def kb_208 : List (Nat × List mv_E) := [(0, [(.aload_n 0, 0, 1, 41, 0, 0), (.invokevirtual 216, 1, 3, 4, 142, 0), (.iconst 3, 4, 1, 42, 3, 0), (.newarray .int, 5, 2, 86, 0, 0), (.dup, 7, 1, 77, 0, 0), (.iconst 0, 8, 1, 42, 0, 0), (.iload_n 3, 9, 1, 40, 3, 0), (.iastore, 10, 1, 63, 0, 0), (.dup, 11, 1, 77, 0, 0), (.iconst 1, 12, 1, 42, 1, 0), (.iload 4, 13, 2, 40, 4, 0), (.iastore, 15, 1, 63, 0, 0), (.dup, 16, 1, 77, 0, 0), (.iconst 2, 17, 1, 42, 2, 0), (.iload 5, 18, 2, 40, 5, 0), (.iastore, 20, 1, 63, 0, 0), (.astore 8, 21, 2, 74, 8, 0), (.aload_n 0, 23, 1, 41, 0, 0), (.iload_n 1, 24, 1, 40, 1, 0), (.invokevirtual 98, 25, 3, 4, 145, 0), (.ifCond .eq 38, 28, 3, 56, 66, 0), (.aload_n 0, 31, 1, 41, 0, 0), (.iload_n 3, 32, 1, 40, 3, 0), (.invokevirtual 283, 33, 3, 4, 206, 0), (.ifCond .eq 30, 36, 3, 56, 66, 0), (.aload_n 0, 39, 1, 41, 0, 0), (.iload 4, 40, 2, 40, 4, 0), (.invokevirtual 283, 42, 3, 4, 206, 0), (.ifCond .eq 21, 45, 3, 56, 66, 0), (.aload_n 0, 48, 1, 41, 0, 0), (.iload 5, 49, 2, 40, 5, 0), (.invokevirtual 283, 51, 3, 4, 206, 0), (.ifCond .eq 12, 54, 3, 56, 66, 0), (.aload_n 0, 57, 1, 41, 0, 0), (.iload 6, 58, 2, 40, 6, 0), (.invokevirtual 225, 60, 3, 4, 146, 0), (.ifCond .ne 9, 63, 3, 57, 72, 0)]),
  (66, [(.aload_n 0, 66, 1, 41, 0, 0), (.iconst 1, 67, 1, 42, 1, 0), (.invokevirtual 219, 68, 3, 4, 141, 0), (.ireturn, 71, 1, 1, 1, 0)]),
  (72, [(.iconst 0, 72, 1, 42, 0, 0), (.istore 9, 73, 2, 46, 9, 0), (.iload_n 2, 75, 1, 40, 2, 0), (.iconst 0, 76, 1, 42, 0, 0), (.bipush 7, 77, 2, 42, 7, 0), (.invokestatic 94, 79, 3, 6, 143, 0), (.ifCond .eq 17, 82, 3, 56, 99, 0), (.aload_n 0, 85, 1, 41, 0, 0), (.iload_n 1, 86, 1, 40, 1, 0), (.iload 6, 87, 2, 40, 6, 0), (.invokevirtual 286, 89, 3, 4, 207, 0), (.ifCond .eq 7, 92, 3, 56, 99, 0), (.iconst 1, 95, 1, 42, 1, 0), (.goto 4, 96, 3, 45, 100, 0)]),
  (99, [(.iconst 0, 99, 1, 42, 0, 0)]),
  (100, [(.istore 10, 100, 2, 46, 10, 0), (.iconst 0, 102, 1, 42, 0, 0), (.istore 11, 103, 2, 46, 11, 0)]),
  (105, [(.iload 11, 105, 2, 40, 11, 0), (.iconst 3, 107, 1, 42, 3, 0), (.if_icmp .ge 67, 108, 3, 51, 175, 0), (.iload 10, 111, 2, 40, 10, 0), (.aload 8, 113, 2, 41, 8, 0), (.iload 11, 115, 2, 40, 11, 0), (.iaload, 117, 1, 44, 0, 0), (.iconst (-1), 118, 1, 42, 4294967295, 0), (.if_icmp .eq 23, 119, 3, 48, 142, 0), (.iload 9, 122, 2, 40, 9, 0), (.iload 11, 124, 2, 40, 11, 0), (.if_icmp .ne 20, 126, 3, 49, 146, 0), (.aload_n 0, 129, 1, 41, 0, 0), (.iload_n 1, 130, 1, 40, 1, 0), (.aload 8, 131, 2, 41, 8, 0), (.iload 11, 133, 2, 40, 11, 0), (.iaload, 135, 1, 44, 0, 0), (.invokevirtual 286, 136, 3, 4, 207, 0), (.ifCond .eq 7, 139, 3, 56, 146, 0)]),
  (142, [(.iconst 1, 142, 1, 42, 1, 0), (.goto 4, 143, 3, 45, 147, 0)]),
  (146, [(.iconst 0, 146, 1, 42, 0, 0)]),
  (147, [(.iand, 147, 1, 64, 0, 0), (.istore 10, 148, 2, 46, 10, 0), (.iload 9, 150, 2, 40, 9, 0), (.aload 8, 152, 2, 41, 8, 0), (.iload 11, 154, 2, 40, 11, 0), (.iaload, 156, 1, 44, 0, 0), (.iconst (-1), 157, 1, 42, 4294967295, 0), (.if_icmp .ne 7, 158, 3, 49, 165, 0), (.iconst 0, 161, 1, 42, 0, 0), (.goto 4, 162, 3, 45, 166, 0)]),
  (165, [(.iconst 1, 165, 1, 42, 1, 0)]),
  (166, [(.iadd, 166, 1, 54, 0, 0), (.istore 9, 167, 2, 46, 9, 0), (.iinc 11 1, 169, 3, 47, 11, 1), (.goto (-67), 172, 3, 45, 105, 0)]),
  (175, [(.iload 10, 175, 2, 40, 10, 0), (.ifCond .eq 29, 177, 3, 56, 206, 0), (.iload 7, 180, 2, 40, 7, 0), (.ifCond .eq 30, 182, 3, 56, 212, 0), (.iload 9, 185, 2, 40, 9, 0), (.ifCond .eq 19, 187, 3, 56, 206, 0), (.aload_n 0, 190, 1, 41, 0, 0), (.getfield 42, 191, 3, 43, 8, 11), (.aload 8, 194, 2, 41, 8, 0), (.iload 9, 196, 2, 40, 9, 0), (.iconst 1, 198, 1, 42, 1, 0), (.isub, 199, 1, 67, 0, 0), (.iaload, 200, 1, 44, 0, 0), (.iaload, 201, 1, 44, 0, 0), (.iconst 5, 202, 1, 42, 5, 0), (.if_icmp .eq 9, 203, 3, 48, 212, 0)]),
  (206, [(.aload_n 0, 206, 1, 41, 0, 0), (.iconst 2, 207, 1, 42, 2, 0), (.invokevirtual 219, 208, 3, 4, 141, 0), (.ireturn, 211, 1, 1, 1, 0)]),
  (212, [(.aload_n 0, 212, 1, 41, 0, 0), (.getfield 234, 213, 3, 43, 8, 16), (.bipush 20, 216, 2, 42, 20, 0), (.if_icmp .ne 9, 218, 3, 49, 227, 0), (.aload_n 0, 221, 1, 41, 0, 0), (.iconst 3, 222, 1, 42, 3, 0), (.invokevirtual 219, 223, 3, 4, 141, 0), (.ireturn, 226, 1, 1, 1, 0)]),
  (227, [(.aload_n 0, 227, 1, 41, 0, 0), (.getfield 57, 228, 3, 43, 8, 17), (.aload_n 0, 231, 1, 41, 0, 0), (.getfield 234, 232, 3, 43, 8, 16), (.iload_n 1, 235, 1, 40, 1, 0), (.iastore, 236, 1, 63, 0, 0), (.aload_n 0, 237, 1, 41, 0, 0), (.getfield 60, 238, 3, 43, 8, 18), (.aload_n 0, 241, 1, 41, 0, 0), (.getfield 234, 242, 3, 43, 8, 16), (.iload_n 2, 245, 1, 40, 2, 0), (.iastore, 246, 1, 63, 0, 0), (.iconst 0, 247, 1, 42, 0, 0), (.istore 11, 248, 2, 46, 11, 0)]),
  (250, [(.iload 11, 250, 2, 40, 11, 0), (.iload 9, 252, 2, 40, 9, 0), (.if_icmp .ge 28, 254, 3, 51, 282, 0), (.aload_n 0, 257, 1, 41, 0, 0), (.getfield 63, 258, 3, 43, 8, 19), (.iconst 3, 261, 1, 42, 3, 0), (.aload_n 0, 262, 1, 41, 0, 0), (.getfield 234, 263, 3, 43, 8, 16), (.imul, 266, 1, 62, 0, 0), (.iload 11, 267, 2, 40, 11, 0), (.iadd, 269, 1, 54, 0, 0), (.aload 8, 270, 2, 41, 8, 0), (.iload 11, 272, 2, 40, 11, 0), (.iaload, 274, 1, 44, 0, 0), (.iastore, 275, 1, 63, 0, 0), (.iinc 11 1, 276, 3, 47, 11, 1), (.goto (-29), 279, 3, 45, 250, 0)]),
  (282, [(.aload_n 0, 282, 1, 41, 0, 0), (.getfield 66, 283, 3, 43, 8, 20), (.aload_n 0, 286, 1, 41, 0, 0), (.getfield 234, 287, 3, 43, 8, 16), (.iload 9, 290, 2, 40, 9, 0), (.iastore, 292, 1, 63, 0, 0), (.aload_n 0, 293, 1, 41, 0, 0), (.getfield 69, 294, 3, 43, 8, 21), (.aload_n 0, 297, 1, 41, 0, 0), (.getfield 234, 298, 3, 43, 8, 16), (.iload 6, 301, 2, 40, 6, 0), (.iastore, 303, 1, 63, 0, 0), (.aload_n 0, 304, 1, 41, 0, 0), (.getfield 75, 305, 3, 43, 8, 23), (.aload_n 0, 308, 1, 41, 0, 0), (.getfield 234, 309, 3, 43, 8, 16), (.iload 7, 312, 2, 40, 7, 0), (.bastore, 314, 1, 84, 0, 0), (.aload_n 0, 315, 1, 41, 0, 0), (.dup, 316, 1, 77, 0, 0), (.getfield 234, 317, 3, 43, 8, 16), (.dup_x1, 320, 1, 79, 0, 0), (.iconst 1, 321, 1, 42, 1, 0), (.iadd, 322, 1, 54, 0, 0), (.putfield 234, 323, 3, 55, 8, 64), (.ireturn, 326, 1, 1, 1, 0)])]
def km_208 : mv_I := (yX8_method, cX8_method, 12, (some .int), 7, 0, 8, [])
def kb_209 : List (Nat × List mv_E) := [(0, [(.aload_n 0, 0, 1, 41, 0, 0), (.invokevirtual 216, 1, 3, 4, 142, 0), (.iload_n 1, 4, 1, 40, 1, 0), (.iconst 0, 5, 1, 42, 0, 0), (.aload_n 0, 6, 1, 41, 0, 0), (.getfield 234, 7, 3, 43, 8, 16), (.iconst 1, 10, 1, 42, 1, 0), (.isub, 11, 1, 67, 0, 0), (.invokestatic 94, 12, 3, 6, 143, 0), (.ifCond .eq 11, 15, 3, 56, 26, 0), (.aload_n 0, 18, 1, 41, 0, 0), (.iload_n 2, 19, 1, 40, 2, 0), (.invokevirtual 225, 20, 3, 4, 146, 0), (.ifCond .ne 9, 23, 3, 57, 32, 0)]),
  (26, [(.aload_n 0, 26, 1, 41, 0, 0), (.iconst 1, 27, 1, 42, 1, 0), (.invokevirtual 219, 28, 3, 4, 141, 0), (.ireturn, 31, 1, 1, 1, 0)]),
  (32, [(.aload_n 0, 32, 1, 41, 0, 0), (.iload_n 2, 33, 1, 40, 2, 0), (.invokevirtual 123, 34, 3, 4, 154, 0), (.ifCond .eq 11, 37, 3, 56, 48, 0), (.aload_n 0, 40, 1, 41, 0, 0), (.iload_n 2, 41, 1, 40, 2, 0), (.invokevirtual 145, 42, 3, 4, 162, 0), (.ifCond .ne 9, 45, 3, 57, 54, 0)]),
  (48, [(.aload_n 0, 48, 1, 41, 0, 0), (.iconst 2, 49, 1, 42, 2, 0), (.invokevirtual 219, 50, 3, 4, 141, 0), (.ireturn, 53, 1, 1, 1, 0)]),
  (54, [(.aload_n 0, 54, 1, 41, 0, 0), (.getfield 72, 55, 3, 43, 8, 22), (.iload_n 1, 58, 1, 40, 1, 0), (.iaload, 59, 1, 44, 0, 0), (.istore_n 3, 60, 1, 46, 3, 0), (.aload_n 0, 61, 1, 41, 0, 0), (.getfield 72, 62, 3, 43, 8, 22), (.iload_n 1, 65, 1, 40, 1, 0), (.iload_n 2, 66, 1, 40, 2, 0), (.iastore, 67, 1, 63, 0, 0), (.iload_n 3, 68, 1, 40, 3, 0), (.ireturn, 69, 1, 1, 1, 0)])]
def km_209 : mv_I := (yX8_variable, cX8_variable, 4, (some .int), 2, 0, 8, [])
def kb_210 : List (Nat × List mv_E) := [(0, [(.iload_n 2, 0, 1, 40, 2, 0), (.aload_n 0, 1, 1, 41, 0, 0), (.getfield 78, 2, 3, 43, 8, 24), (.if_icmp .eq 60, 5, 3, 48, 65, 0), (.iload_n 1, 8, 1, 40, 1, 0), (.aload_n 0, 9, 1, 41, 0, 0), (.getfield 78, 10, 3, 43, 8, 24), (.if_icmp .eq 52, 13, 3, 48, 65, 0), (.aload_n 0, 16, 1, 41, 0, 0), (.getfield 60, 17, 3, 43, 8, 18), (.iload_n 1, 20, 1, 40, 1, 0), (.iaload, 21, 1, 44, 0, 0), (.aload_n 0, 22, 1, 41, 0, 0), (.getfield 60, 23, 3, 43, 8, 18), (.iload_n 2, 26, 1, 40, 2, 0), (.iaload, 27, 1, 44, 0, 0), (.if_icmp .ne 37, 28, 3, 49, 65, 0), (.aload_n 0, 31, 1, 41, 0, 0), (.getfield 66, 32, 3, 43, 8, 20), (.iload_n 1, 35, 1, 40, 1, 0), (.iaload, 36, 1, 44, 0, 0), (.aload_n 0, 37, 1, 41, 0, 0), (.getfield 66, 38, 3, 43, 8, 20), (.iload_n 2, 41, 1, 40, 2, 0), (.iaload, 42, 1, 44, 0, 0), (.if_icmp .ne 22, 43, 3, 49, 65, 0), (.aload_n 0, 46, 1, 41, 0, 0), (.aload_n 0, 47, 1, 41, 0, 0), (.getfield 57, 48, 3, 43, 8, 17), (.iload_n 2, 51, 1, 40, 2, 0), (.iaload, 52, 1, 44, 0, 0), (.aload_n 0, 53, 1, 41, 0, 0), (.getfield 57, 54, 3, 43, 8, 17), (.iload_n 1, 57, 1, 40, 1, 0), (.iaload, 58, 1, 44, 0, 0), (.invokevirtual 176, 59, 3, 4, 171, 0), (.ifCond .ne 5, 62, 3, 57, 67, 0)]),
  (65, [(.iconst 0, 65, 1, 42, 0, 0), (.ireturn, 66, 1, 1, 2, 0)]),
  (67, [(.aload_n 0, 67, 1, 41, 0, 0), (.aload_n 0, 68, 1, 41, 0, 0), (.aload_n 0, 69, 1, 41, 0, 0), (.getfield 57, 70, 3, 43, 8, 17), (.iload_n 1, 73, 1, 40, 1, 0), (.iaload, 74, 1, 44, 0, 0), (.invokevirtual 289, 75, 3, 4, 167, 0), (.aload_n 0, 78, 1, 41, 0, 0), (.getfield 57, 79, 3, 43, 8, 17), (.iload_n 2, 82, 1, 40, 2, 0), (.iaload, 83, 1, 44, 0, 0), (.invokevirtual 182, 84, 3, 4, 173, 0), (.istore_n 3, 87, 1, 46, 3, 0), (.iconst 0, 88, 1, 42, 0, 0), (.istore 4, 89, 2, 46, 4, 0)]),
  (91, [(.iload 4, 91, 2, 40, 4, 0), (.aload_n 0, 93, 1, 41, 0, 0), (.getfield 66, 94, 3, 43, 8, 20), (.iload_n 1, 97, 1, 40, 1, 0), (.iaload, 98, 1, 44, 0, 0), (.if_icmp .ge 41, 99, 3, 51, 140, 0), (.aload_n 0, 102, 1, 41, 0, 0), (.getfield 63, 103, 3, 43, 8, 19), (.iconst 3, 106, 1, 42, 3, 0), (.iload_n 1, 107, 1, 40, 1, 0), (.imul, 108, 1, 62, 0, 0), (.iload 4, 109, 2, 40, 4, 0), (.iadd, 111, 1, 54, 0, 0), (.iaload, 112, 1, 44, 0, 0), (.aload_n 0, 113, 1, 41, 0, 0), (.aload_n 0, 114, 1, 41, 0, 0), (.getfield 63, 115, 3, 43, 8, 19), (.iconst 3, 118, 1, 42, 3, 0), (.iload_n 2, 119, 1, 40, 2, 0), (.imul, 120, 1, 62, 0, 0), (.iload 4, 121, 2, 40, 4, 0), (.iadd, 123, 1, 54, 0, 0), (.iaload, 124, 1, 44, 0, 0), (.iload_n 3, 125, 1, 40, 3, 0), (.invokevirtual 151, 126, 3, 4, 164, 0), (.if_icmp .eq 5, 129, 3, 48, 134, 0), (.iconst 0, 132, 1, 42, 0, 0), (.ireturn, 133, 1, 1, 2, 0)]),
  (134, [(.iinc 4 1, 134, 3, 47, 4, 1), (.goto (-46), 137, 3, 45, 91, 0)]),
  (140, [(.iconst 1, 140, 1, 42, 1, 0), (.ireturn, 141, 1, 1, 2, 0)])]
def km_210 : mv_I := (yX8_overrides, cX8_overrides, 5, (some .boolean), 2, 0, 8, [])
def kb_211 : List (Nat × List mv_E) := [(0, [(.iconst 0, 0, 1, 42, 0, 0), (.istore_n 2, 1, 1, 46, 2, 0), (.iconst 0, 2, 1, 42, 0, 0), (.istore_n 3, 3, 1, 46, 3, 0)]),
  (4, [(.iload_n 3, 4, 1, 40, 3, 0), (.aload_n 0, 5, 1, 41, 0, 0), (.getfield 234, 6, 3, 43, 8, 16), (.if_icmp .ge 28, 9, 3, 51, 37, 0), (.iload_n 2, 12, 1, 40, 2, 0), (.aload_n 0, 13, 1, 41, 0, 0), (.iload_n 1, 14, 1, 40, 1, 0), (.iload_n 3, 15, 1, 40, 3, 0), (.invokevirtual 292, 16, 3, 4, 210, 0), (.ifCond .eq 9, 19, 3, 56, 28, 0), (.iconst 1, 22, 1, 42, 1, 0), (.iload_n 3, 23, 1, 40, 3, 0), (.ishl, 24, 1, 70, 0, 0), (.goto 4, 25, 3, 45, 29, 0)]),
  (28, [(.iconst 0, 28, 1, 42, 0, 0)]),
  (29, [(.ior, 29, 1, 65, 0, 0), (.istore_n 2, 30, 1, 46, 2, 0), (.iinc 3 1, 31, 3, 47, 3, 1), (.goto (-30), 34, 3, 45, 4, 0)]),
  (37, [(.iload_n 2, 37, 1, 40, 2, 0), (.ireturn, 38, 1, 1, 1, 0)])]
def km_211 : mv_I := (yX8_overridden, cX8_overridden, 4, (some .int), 1, 0, 8, [])
def kb_212 : List (Nat × List mv_E) := [(0, [(.iconst 0, 0, 1, 42, 0, 0), (.istore_n 1, 1, 1, 46, 1, 0), (.iload_n 0, 2, 1, 40, 0, 0), (.istore_n 2, 3, 1, 46, 2, 0)]),
  (4, [(.iload_n 2, 4, 1, 40, 2, 0), (.ifCond .le 16, 5, 3, 61, 21, 0), (.iload_n 1, 8, 1, 40, 1, 0), (.iload_n 2, 9, 1, 40, 2, 0), (.iconst 2, 10, 1, 42, 2, 0), (.irem, 11, 1, 69, 0, 0), (.iadd, 12, 1, 54, 0, 0), (.istore_n 1, 13, 1, 46, 1, 0), (.iload_n 2, 14, 1, 40, 2, 0), (.iconst 2, 15, 1, 42, 2, 0), (.idiv, 16, 1, 68, 0, 0), (.istore_n 2, 17, 1, 46, 2, 0), (.goto (-14), 18, 3, 45, 4, 0)]),
  (21, [(.iload_n 1, 21, 1, 40, 1, 0), (.ireturn, 22, 1, 1, 1, 0)])]
def km_212 : mv_I := (yX8_bits, cX8_bits, 3, (some .int), 1, 1, 8, [])
def kb_213 : List (Nat × List mv_E) := [(0, [(.iconst 0, 0, 1, 42, 0, 0), (.istore_n 2, 1, 1, 46, 2, 0), (.iconst 0, 2, 1, 42, 0, 0), (.istore_n 3, 3, 1, 46, 3, 0), (.iconst 0, 4, 1, 42, 0, 0), (.istore 4, 5, 2, 46, 4, 0)]),
  (7, [(.iload 4, 7, 2, 40, 4, 0), (.aload_n 0, 9, 1, 41, 0, 0), (.getfield 234, 10, 3, 43, 8, 16), (.if_icmp .ge 52, 13, 3, 51, 65, 0), (.iload 4, 16, 2, 40, 4, 0), (.aload_n 0, 18, 1, 41, 0, 0), (.getfield 78, 19, 3, 43, 8, 24), (.if_icmp .eq 37, 22, 3, 48, 59, 0), (.aload_n 0, 25, 1, 41, 0, 0), (.aload_n 0, 26, 1, 41, 0, 0), (.getfield 57, 27, 3, 43, 8, 17), (.iload 4, 30, 2, 40, 4, 0), (.iaload, 32, 1, 44, 0, 0), (.iload_n 1, 33, 1, 40, 1, 0), (.invokevirtual 179, 34, 3, 4, 172, 0), (.ifCond .ne 6, 37, 3, 57, 43, 0), (.goto 19, 40, 3, 45, 59, 0)]),
  (43, [(.iload_n 2, 43, 1, 40, 2, 0), (.iconst 1, 44, 1, 42, 1, 0), (.iload 4, 45, 2, 40, 4, 0), (.ishl, 47, 1, 70, 0, 0), (.ior, 48, 1, 65, 0, 0), (.istore_n 2, 49, 1, 46, 2, 0), (.iload_n 3, 50, 1, 40, 3, 0), (.aload_n 0, 51, 1, 41, 0, 0), (.iload 4, 52, 2, 40, 4, 0), (.invokevirtual 295, 54, 3, 4, 211, 0), (.ior, 57, 1, 65, 0, 0), (.istore_n 3, 58, 1, 46, 3, 0)]),
  (59, [(.iinc 4 1, 59, 3, 47, 4, 1), (.goto (-55), 62, 3, 45, 7, 0)]),
  (65, [(.iload_n 2, 65, 1, 40, 2, 0), (.iload_n 3, 66, 1, 40, 3, 0), (.iconst (-1), 67, 1, 42, 4294967295, 0), (.ixor, 68, 1, 66, 0, 0), (.iand, 69, 1, 64, 0, 0), (.ireturn, 70, 1, 1, 1, 0)])]
def km_213 : mv_I := (yX8_membersOfClass, cX8_membersOfClass, 5, (some .int), 1, 0, 8, [])
def kb_214 : List (Nat × List mv_E) := [(0, [(.aload_n 0, 0, 1, 41, 0, 0), (.getfield 42, 1, 3, 43, 8, 11), (.iload_n 1, 4, 1, 40, 1, 0), (.iaload, 5, 1, 44, 0, 0), (.iconst 4, 6, 1, 42, 4, 0), (.if_icmp .ne 11, 7, 3, 49, 18, 0), (.aload_n 0, 10, 1, 41, 0, 0), (.iload_n 1, 11, 1, 40, 1, 0), (.invokevirtual 185, 12, 3, 4, 159, 0), (.goto 16, 15, 3, 45, 31, 0)]),
  (18, [(.aload_n 0, 18, 1, 41, 0, 0), (.iload_n 1, 19, 1, 40, 1, 0), (.invokevirtual 123, 20, 3, 4, 154, 0), (.ifCond .eq 7, 23, 3, 56, 30, 0), (.iload_n 1, 26, 1, 40, 1, 0), (.goto 4, 27, 3, 45, 31, 0)]),
  (30, [(.iconst 2, 30, 1, 42, 2, 0)]),
  (31, [(.ireturn, 31, 1, 1, 1, 0)])]
def km_214 : mv_I := (yX8_bearer, cX8_bearer, 2, (some .int), 1, 0, 8, [])
def kb_215 : List (Nat × List mv_E) := [(0, [(.aload_n 0, 0, 1, 41, 0, 0), (.aload_n 0, 1, 1, 41, 0, 0), (.getfield 45, 2, 3, 43, 8, 12), (.aload_n 0, 5, 1, 41, 0, 0), (.iload_n 1, 6, 1, 40, 1, 0), (.invokevirtual 298, 7, 3, 4, 214, 0), (.iaload, 10, 1, 44, 0, 0), (.invokevirtual 237, 11, 3, 4, 213, 0), (.ireturn, 14, 1, 1, 1, 0)])]
def km_215 : mv_I := (yX8_membersOf, cX8_membersOf, 2, (some .int), 1, 0, 8, [])
def kb_216 : List (Nat × List mv_E) := [(0, [(.iconst 0, 0, 1, 42, 0, 0), (.istore 4, 1, 2, 46, 4, 0)]),
  (3, [(.iload 4, 3, 2, 40, 4, 0), (.aload_n 0, 5, 1, 41, 0, 0), (.getfield 66, 6, 3, 43, 8, 20), (.iload_n 1, 9, 1, 40, 1, 0), (.iaload, 10, 1, 44, 0, 0), (.if_icmp .ge 46, 11, 3, 51, 57, 0), (.aload_n 0, 14, 1, 41, 0, 0), (.aload_n 0, 15, 1, 41, 0, 0), (.getfield 63, 16, 3, 43, 8, 19), (.iconst 3, 19, 1, 42, 3, 0), (.iload_n 1, 20, 1, 40, 1, 0), (.imul, 21, 1, 62, 0, 0), (.iload 4, 22, 2, 40, 4, 0), (.iadd, 24, 1, 54, 0, 0), (.iaload, 25, 1, 44, 0, 0), (.iload_n 1, 26, 1, 40, 1, 0), (.invokevirtual 258, 27, 3, 4, 194, 0), (.aload_n 0, 30, 1, 41, 0, 0), (.aload_n 0, 31, 1, 41, 0, 0), (.getfield 63, 32, 3, 43, 8, 19), (.iconst 3, 35, 1, 42, 3, 0), (.iload_n 2, 36, 1, 40, 2, 0), (.imul, 37, 1, 62, 0, 0), (.iload 4, 38, 2, 40, 4, 0), (.iadd, 40, 1, 54, 0, 0), (.iaload, 41, 1, 44, 0, 0), (.iload_n 2, 42, 1, 40, 2, 0), (.invokevirtual 258, 43, 3, 4, 194, 0), (.if_icmp .eq 5, 46, 3, 48, 51, 0), (.iconst 0, 49, 1, 42, 0, 0), (.ireturn, 50, 1, 1, 2, 0)]),
  (51, [(.iinc 4 1, 51, 3, 47, 4, 1), (.goto (-51), 54, 3, 45, 3, 0)]),
  (57, [(.iload_n 3, 57, 1, 40, 3, 0), (.ifCond .eq 28, 58, 3, 56, 86, 0), (.aload_n 0, 61, 1, 41, 0, 0), (.aload_n 0, 62, 1, 41, 0, 0), (.getfield 69, 63, 3, 43, 8, 21), (.iload_n 1, 66, 1, 40, 1, 0), (.iaload, 67, 1, 44, 0, 0), (.iload_n 1, 68, 1, 40, 1, 0), (.invokevirtual 258, 69, 3, 4, 194, 0), (.aload_n 0, 72, 1, 41, 0, 0), (.aload_n 0, 73, 1, 41, 0, 0), (.getfield 69, 74, 3, 43, 8, 21), (.iload_n 2, 77, 1, 40, 2, 0), (.iaload, 78, 1, 44, 0, 0), (.iload_n 2, 79, 1, 40, 2, 0), (.invokevirtual 258, 80, 3, 4, 194, 0), (.if_icmp .ne 7, 83, 3, 49, 90, 0)]),
  (86, [(.iconst 1, 86, 1, 42, 1, 0), (.goto 4, 87, 3, 45, 91, 0)]),
  (90, [(.iconst 0, 90, 1, 42, 0, 0)]),
  (91, [(.ireturn, 91, 1, 1, 2, 0)])]
def km_216 : mv_I := (yX8_areAlike, cX8_areAlike, 5, (some .boolean), 3, 0, 8, [])
def kb_217 : List (Nat × List mv_E) := [(0, [(.iload_n 1, 0, 1, 40, 1, 0), (.aload_n 0, 1, 1, 41, 0, 0), (.getfield 78, 2, 3, 43, 8, 24), (.if_icmp .ne 7, 5, 3, 49, 12, 0), (.iconst 0, 8, 1, 42, 0, 0), (.goto 8, 9, 3, 45, 17, 0)]),
  (12, [(.aload_n 0, 12, 1, 41, 0, 0), (.iload_n 1, 13, 1, 40, 1, 0), (.invokevirtual 295, 14, 3, 4, 211, 0)]),
  (17, [(.istore_n 2, 17, 1, 46, 2, 0), (.iconst 0, 18, 1, 42, 0, 0), (.istore_n 3, 19, 1, 46, 3, 0), (.iconst 0, 20, 1, 42, 0, 0), (.istore 4, 21, 2, 46, 4, 0)]),
  (23, [(.iload 4, 23, 2, 40, 4, 0), (.aload_n 0, 25, 1, 41, 0, 0), (.getfield 234, 26, 3, 43, 8, 16), (.if_icmp .ge 95, 29, 3, 51, 124, 0), (.iload_n 2, 32, 1, 40, 2, 0), (.iload 4, 33, 2, 40, 4, 0), (.invokestatic 173, 35, 3, 6, 144, 0), (.ifCond .eq 80, 38, 3, 56, 118, 0), (.aload_n 0, 41, 1, 41, 0, 0), (.iload_n 1, 42, 1, 40, 1, 0), (.iload 4, 43, 2, 40, 4, 0), (.iconst 1, 45, 1, 42, 1, 0), (.invokevirtual 301, 46, 3, 4, 216, 0), (.ifCond .eq 6, 49, 3, 56, 55, 0), (.goto 66, 52, 3, 45, 118, 0)]),
  (55, [(.iconst 1, 55, 1, 42, 1, 0), (.istore 5, 56, 2, 46, 5, 0), (.iconst 0, 58, 1, 42, 0, 0), (.istore 6, 59, 2, 46, 6, 0)]),
  (61, [(.iload 6, 61, 2, 40, 6, 0), (.iload 4, 63, 2, 40, 4, 0), (.if_icmp .ge 40, 65, 3, 51, 105, 0), (.iload 5, 68, 2, 40, 5, 0), (.iload_n 2, 70, 1, 40, 2, 0), (.iload 6, 71, 2, 40, 6, 0), (.invokestatic 173, 73, 3, 6, 144, 0), (.ifCond .eq 15, 76, 3, 56, 91, 0), (.aload_n 0, 79, 1, 41, 0, 0), (.iload 4, 80, 2, 40, 4, 0), (.iload 6, 82, 2, 40, 6, 0), (.iconst 1, 84, 1, 42, 1, 0), (.invokevirtual 301, 85, 3, 4, 216, 0), (.ifCond .ne 7, 88, 3, 57, 95, 0)]),
  (91, [(.iconst 1, 91, 1, 42, 1, 0), (.goto 4, 92, 3, 45, 96, 0)]),
  (95, [(.iconst 0, 95, 1, 42, 0, 0)]),
  (96, [(.iand, 96, 1, 64, 0, 0), (.istore 5, 97, 2, 46, 5, 0), (.iinc 6 1, 99, 3, 47, 6, 1), (.goto (-41), 102, 3, 45, 61, 0)]),
  (105, [(.iload_n 3, 105, 1, 40, 3, 0), (.iload 5, 106, 2, 40, 5, 0), (.ifCond .eq 7, 108, 3, 56, 115, 0), (.iconst 1, 111, 1, 42, 1, 0), (.goto 4, 112, 3, 45, 116, 0)]),
  (115, [(.iconst 0, 115, 1, 42, 0, 0)]),
  (116, [(.iadd, 116, 1, 54, 0, 0), (.istore_n 3, 117, 1, 46, 3, 0)]),
  (118, [(.iinc 4 1, 118, 3, 47, 4, 1), (.goto (-98), 121, 3, 45, 23, 0)]),
  (124, [(.iload_n 3, 124, 1, 40, 3, 0), (.ireturn, 125, 1, 1, 1, 0)])]
def km_217 : mv_I := (yX8_bridges, cX8_bridges, 7, (some .int), 1, 0, 8, [])
def kb_218 : List (Nat × List mv_E) := [(0, [(.iload_n 2, 0, 1, 40, 2, 0), (.tableswitch 74 0 4 #[35, 42, 49, 56, 62], 1, 35, 97, 0, 0)]),
  (36, [(.aload_n 0, 36, 1, 41, 0, 0), (.getfield 57, 37, 3, 43, 8, 17), (.iload_n 1, 40, 1, 40, 1, 0), (.iaload, 41, 1, 44, 0, 0), (.ireturn, 42, 1, 1, 1, 0)]),
  (43, [(.aload_n 0, 43, 1, 41, 0, 0), (.getfield 60, 44, 3, 43, 8, 18), (.iload_n 1, 47, 1, 40, 1, 0), (.iaload, 48, 1, 44, 0, 0), (.ireturn, 49, 1, 1, 1, 0)]),
  (50, [(.aload_n 0, 50, 1, 41, 0, 0), (.getfield 66, 51, 3, 43, 8, 20), (.iload_n 1, 54, 1, 40, 1, 0), (.iaload, 55, 1, 44, 0, 0), (.ireturn, 56, 1, 1, 1, 0)]),
  (57, [(.aload_n 0, 57, 1, 41, 0, 0), (.iload_n 1, 58, 1, 40, 1, 0), (.invokevirtual 295, 59, 3, 4, 211, 0), (.ireturn, 62, 1, 1, 1, 0)]),
  (63, [(.aload_n 0, 63, 1, 41, 0, 0), (.aload_n 0, 64, 1, 41, 0, 0), (.getfield 69, 65, 3, 43, 8, 21), (.iload_n 1, 68, 1, 40, 1, 0), (.iaload, 69, 1, 44, 0, 0), (.iload_n 1, 70, 1, 40, 1, 0), (.invokevirtual 258, 71, 3, 4, 194, 0), (.ireturn, 74, 1, 1, 1, 0)]),
  (75, [(.aload_n 0, 75, 1, 41, 0, 0), (.iload_n 1, 76, 1, 40, 1, 0), (.invokevirtual 243, 77, 3, 4, 217, 0), (.ireturn, 80, 1, 1, 1, 0)])]
def km_218 : mv_I := (yX8_ofMethodNow, cX8_ofMethodNow, 3, (some .int), 2, 0, 8, [])
def kb_219 : List (Nat × List mv_E) := [(0, [(.aload_n 0, 0, 1, 41, 0, 0), (.invokevirtual 216, 1, 3, 4, 142, 0), (.iload_n 1, 4, 1, 40, 1, 0), (.iconst 0, 5, 1, 42, 0, 0), (.aload_n 0, 6, 1, 41, 0, 0), (.getfield 234, 7, 3, 43, 8, 16), (.iconst 1, 10, 1, 42, 1, 0), (.isub, 11, 1, 67, 0, 0), (.invokestatic 94, 12, 3, 6, 143, 0), (.ifCond .ne 9, 15, 3, 57, 24, 0), (.aload_n 0, 18, 1, 41, 0, 0), (.iconst 1, 19, 1, 42, 1, 0), (.invokevirtual 219, 20, 3, 4, 141, 0), (.ireturn, 23, 1, 1, 1, 0)]),
  (24, [(.iload_n 2, 24, 1, 40, 2, 0), (.iconst 0, 25, 1, 42, 0, 0), (.iconst 5, 26, 1, 42, 5, 0), (.invokestatic 94, 27, 3, 6, 143, 0), (.ifCond .eq 12, 30, 3, 56, 42, 0), (.aload_n 0, 33, 1, 41, 0, 0), (.iload_n 1, 34, 1, 40, 1, 0), (.iload_n 2, 35, 1, 40, 2, 0), (.invokevirtual 305, 36, 3, 4, 218, 0), (.goto 8, 39, 3, 45, 47, 0)]),
  (42, [(.aload_n 0, 42, 1, 41, 0, 0), (.iconst 2, 43, 1, 42, 2, 0), (.invokevirtual 219, 44, 3, 4, 141, 0)]),
  (47, [(.ireturn, 47, 1, 1, 1, 0)])]
def km_219 : mv_I := (yX8_ofMethod, cX8_ofMethod, 3, (some .int), 2, 0, 8, [])
def kb_220 : List (Nat × List mv_E) := [(0, [(.iconst 0, 0, 1, 42, 0, 0), (.istore_n 3, 1, 1, 46, 3, 0), (.aload_n 0, 2, 1, 41, 0, 0), (.iload_n 1, 3, 1, 40, 1, 0), (.invokevirtual 265, 4, 3, 4, 215, 0), (.istore 4, 7, 2, 46, 4, 0), (.iconst 0, 9, 1, 42, 0, 0), (.istore 5, 10, 2, 46, 5, 0)]),
  (12, [(.iload 5, 12, 2, 40, 5, 0), (.aload_n 0, 14, 1, 41, 0, 0), (.getfield 234, 15, 3, 43, 8, 16), (.if_icmp .ge 41, 18, 3, 51, 59, 0), (.iload_n 3, 21, 1, 40, 3, 0), (.iload 4, 22, 2, 40, 4, 0), (.iload 5, 24, 2, 40, 5, 0), (.invokestatic 173, 26, 3, 6, 144, 0), (.ifCond .eq 21, 29, 3, 56, 50, 0), (.aload_n 0, 32, 1, 41, 0, 0), (.getfield 60, 33, 3, 43, 8, 18), (.iload 5, 36, 2, 40, 5, 0), (.iaload, 38, 1, 44, 0, 0), (.iload_n 2, 39, 1, 40, 2, 0), (.if_icmp .ne 10, 40, 3, 49, 50, 0), (.iconst 1, 43, 1, 42, 1, 0), (.iload 5, 44, 2, 40, 5, 0), (.ishl, 46, 1, 70, 0, 0), (.goto 4, 47, 3, 45, 51, 0)]),
  (50, [(.iconst 0, 50, 1, 42, 0, 0)]),
  (51, [(.ior, 51, 1, 65, 0, 0), (.istore_n 3, 52, 1, 46, 3, 0), (.iinc 5 1, 53, 3, 47, 5, 1), (.goto (-44), 56, 3, 45, 12, 0)]),
  (59, [(.iload_n 3, 59, 1, 40, 3, 0), (.ireturn, 60, 1, 1, 1, 0)])]
def km_220 : mv_I := (yX8_membersNow, cX8_membersNow, 6, (some .int), 2, 0, 8, [])
def kb_221 : List (Nat × List mv_E) := [(0, [(.aload_n 0, 0, 1, 41, 0, 0), (.invokevirtual 216, 1, 3, 4, 142, 0), (.aload_n 0, 4, 1, 41, 0, 0), (.iload_n 1, 5, 1, 40, 1, 0), (.invokevirtual 225, 6, 3, 4, 146, 0), (.ifCond .ne 9, 9, 3, 57, 18, 0), (.aload_n 0, 12, 1, 41, 0, 0), (.iconst 1, 13, 1, 42, 1, 0), (.invokevirtual 219, 14, 3, 4, 141, 0), (.ireturn, 17, 1, 1, 1, 0)]),
  (18, [(.iload_n 2, 18, 1, 40, 2, 0), (.iconst 0, 19, 1, 42, 0, 0), (.bipush 7, 20, 2, 42, 7, 0), (.invokestatic 94, 22, 3, 6, 143, 0), (.ifCond .eq 12, 25, 3, 56, 37, 0), (.aload_n 0, 28, 1, 41, 0, 0), (.iload_n 1, 29, 1, 40, 1, 0), (.iload_n 2, 30, 1, 40, 2, 0), (.invokevirtual 308, 31, 3, 4, 220, 0), (.goto 8, 34, 3, 45, 42, 0)]),
  (37, [(.aload_n 0, 37, 1, 41, 0, 0), (.iconst 2, 38, 1, 42, 2, 0), (.invokevirtual 219, 39, 3, 4, 141, 0)]),
  (42, [(.ireturn, 42, 1, 1, 1, 0)])]
def km_221 : mv_I := (yX8_members, cX8_members, 3, (some .int), 2, 0, 8, [])
def kb_222 : List (Nat × List mv_E) := [(0, [(.aload_n 0, 0, 1, 41, 0, 0), (.getfield 311, 1, 3, 43, 8, 27), (.iconst 3, 4, 1, 42, 3, 0), (.if_icmp .ne 19, 5, 3, 49, 24, 0), (.iload_n 2, 8, 1, 40, 2, 0), (.aload_n 0, 9, 1, 41, 0, 0), (.getfield 66, 10, 3, 43, 8, 20), (.iload_n 1, 13, 1, 40, 1, 0), (.iaload, 14, 1, 44, 0, 0), (.iconst 1, 15, 1, 42, 1, 0), (.isub, 16, 1, 67, 0, 0), (.if_icmp .lt 7, 17, 3, 50, 24, 0), (.iconst 1, 20, 1, 42, 1, 0), (.goto 4, 21, 3, 45, 25, 0)]),
  (24, [(.iconst 0, 24, 1, 42, 0, 0)]),
  (25, [(.istore_n 3, 25, 1, 46, 3, 0), (.aload_n 0, 26, 1, 41, 0, 0), (.aload_n 0, 27, 1, 41, 0, 0), (.getfield 63, 28, 3, 43, 8, 19), (.iconst 3, 31, 1, 42, 3, 0), (.iload_n 1, 32, 1, 40, 1, 0), (.imul, 33, 1, 62, 0, 0), (.iload_n 3, 34, 1, 40, 3, 0), (.ifCond .eq 14, 35, 3, 56, 49, 0), (.aload_n 0, 38, 1, 41, 0, 0), (.getfield 66, 39, 3, 43, 8, 20), (.iload_n 1, 42, 1, 40, 1, 0), (.iaload, 43, 1, 44, 0, 0), (.iconst 1, 44, 1, 42, 1, 0), (.isub, 45, 1, 67, 0, 0), (.goto 4, 46, 3, 45, 50, 0)]),
  (49, [(.iload_n 2, 49, 1, 40, 2, 0)]),
  (50, [(.iadd, 50, 1, 54, 0, 0), (.iaload, 51, 1, 44, 0, 0), (.aload_n 0, 52, 1, 41, 0, 0), (.aload_n 0, 53, 1, 41, 0, 0), (.getfield 314, 54, 3, 43, 8, 26), (.aload_n 0, 57, 1, 41, 0, 0), (.getfield 57, 58, 3, 43, 8, 17), (.iload_n 1, 61, 1, 40, 1, 0), (.iaload, 62, 1, 44, 0, 0), (.invokevirtual 182, 63, 3, 4, 173, 0), (.invokevirtual 151, 66, 3, 4, 164, 0), (.istore 4, 69, 2, 46, 4, 0), (.iload_n 3, 71, 1, 40, 3, 0), (.ifCond .eq 13, 72, 3, 56, 85, 0), (.aload_n 0, 75, 1, 41, 0, 0), (.getfield 45, 76, 3, 43, 8, 12), (.iload 4, 79, 2, 40, 4, 0), (.iaload, 81, 1, 44, 0, 0), (.goto 5, 82, 3, 45, 87, 0)]),
  (85, [(.iload 4, 85, 2, 40, 4, 0)]),
  (87, [(.ireturn, 87, 1, 1, 1, 0)])]
def km_222 : mv_I := (yX8_formalAt, cX8_formalAt, 5, (some .int), 2, 0, 8, [])
def kb_223 : List (Nat × List mv_E) := [(0, [(.aload_n 0, 0, 1, 41, 0, 0), (.getfield 311, 1, 3, 43, 8, 27), (.iconst 3, 4, 1, 42, 3, 0), (.if_icmp .ge 20, 5, 3, 51, 25, 0), (.aload_n 0, 8, 1, 41, 0, 0), (.getfield 66, 9, 3, 43, 8, 20), (.iload_n 1, 12, 1, 40, 1, 0), (.iaload, 13, 1, 44, 0, 0), (.aload_n 0, 14, 1, 41, 0, 0), (.getfield 81, 15, 3, 43, 8, 25), (.arraylength, 18, 1, 85, 0, 0), (.if_icmp .eq 33, 19, 3, 48, 52, 0), (.goto 28, 22, 3, 45, 50, 0)]),
  (25, [(.aload_n 0, 25, 1, 41, 0, 0), (.getfield 75, 26, 3, 43, 8, 23), (.iload_n 1, 29, 1, 40, 1, 0), (.baload, 30, 1, 82, 0, 0), (.ifCond .eq 19, 31, 3, 56, 50, 0), (.aload_n 0, 34, 1, 41, 0, 0), (.getfield 81, 35, 3, 43, 8, 25), (.arraylength, 38, 1, 85, 0, 0), (.aload_n 0, 39, 1, 41, 0, 0), (.getfield 66, 40, 3, 43, 8, 20), (.iload_n 1, 43, 1, 40, 1, 0), (.iaload, 44, 1, 44, 0, 0), (.iconst 1, 45, 1, 42, 1, 0), (.isub, 46, 1, 67, 0, 0), (.if_icmp .ge 5, 47, 3, 51, 52, 0)]),
  (50, [(.iconst (-1), 50, 1, 42, 4294967295, 0), (.ireturn, 51, 1, 1, 1, 0)]),
  (52, [(.iconst (-1), 52, 1, 42, 4294967295, 0), (.istore_n 2, 53, 1, 46, 2, 0), (.iconst 0, 54, 1, 42, 0, 0), (.istore_n 3, 55, 1, 46, 3, 0)]),
  (56, [(.iload_n 3, 56, 1, 40, 3, 0), (.aload_n 0, 57, 1, 41, 0, 0), (.getfield 81, 58, 3, 43, 8, 25), (.arraylength, 61, 1, 85, 0, 0), (.if_icmp .ge 81, 62, 3, 51, 143, 0), (.aload_n 0, 65, 1, 41, 0, 0), (.iload_n 1, 66, 1, 40, 1, 0), (.iload_n 3, 67, 1, 40, 3, 0), (.invokevirtual 317, 68, 3, 4, 222, 0), (.iconst 4, 71, 1, 42, 4, 0), (.if_icmp .eq 6, 72, 3, 48, 78, 0), (.goto 62, 75, 3, 45, 137, 0)]),
  (78, [(.aload_n 0, 78, 1, 41, 0, 0), (.getfield 81, 79, 3, 43, 8, 25), (.iload_n 3, 82, 1, 40, 3, 0), (.iaload, 83, 1, 44, 0, 0), (.ifCond .ne 13, 84, 3, 57, 97, 0), (.aload_n 0, 87, 1, 41, 0, 0), (.getfield 311, 88, 3, 43, 8, 27), (.iconst 1, 91, 1, 42, 1, 0), (.if_icmp .ne 5, 92, 3, 49, 97, 0), (.iconst (-1), 95, 1, 42, 4294967295, 0), (.ireturn, 96, 1, 1, 1, 0)]),
  (97, [(.aload_n 0, 97, 1, 41, 0, 0), (.getfield 81, 98, 3, 43, 8, 25), (.iload_n 3, 101, 1, 40, 3, 0), (.iaload, 102, 1, 44, 0, 0), (.ifCond .ne 7, 103, 3, 57, 110, 0), (.iconst 3, 106, 1, 42, 3, 0), (.goto 9, 107, 3, 45, 116, 0)]),
  (110, [(.aload_n 0, 110, 1, 41, 0, 0), (.getfield 81, 111, 3, 43, 8, 25), (.iload_n 3, 114, 1, 40, 3, 0), (.iaload, 115, 1, 44, 0, 0)]),
  (116, [(.istore 4, 116, 2, 46, 4, 0), (.iload_n 2, 118, 1, 40, 2, 0), (.iconst (-1), 119, 1, 42, 4294967295, 0), (.if_icmp .ne 8, 120, 3, 49, 128, 0), (.iload 4, 123, 2, 40, 4, 0), (.goto 11, 125, 3, 45, 136, 0)]),
  (128, [(.aload_n 0, 128, 1, 41, 0, 0), (.iload_n 2, 129, 1, 40, 2, 0), (.iload 4, 130, 2, 40, 4, 0), (.iconst 0, 132, 1, 42, 0, 0), (.invokevirtual 199, 133, 3, 4, 178, 0)]),
  (136, [(.istore_n 2, 136, 1, 46, 2, 0)]),
  (137, [(.iinc 3 1, 137, 3, 47, 3, 1), (.goto (-84), 140, 3, 45, 56, 0)]),
  (143, [(.iload_n 2, 143, 1, 40, 2, 0), (.iconst (-1), 144, 1, 42, 4294967295, 0), (.if_icmp .ne 5, 145, 3, 49, 150, 0), (.iconst 2, 148, 1, 42, 2, 0), (.istore_n 2, 149, 1, 46, 2, 0)]),
  (150, [(.aload_n 0, 150, 1, 41, 0, 0), (.iload_n 2, 151, 1, 40, 2, 0), (.aload_n 0, 152, 1, 41, 0, 0), (.getfield 72, 153, 3, 43, 8, 22), (.iload_n 1, 156, 1, 40, 1, 0), (.iaload, 157, 1, 44, 0, 0), (.invokevirtual 197, 158, 3, 4, 177, 0), (.ifCond .ne 5, 161, 3, 57, 166, 0), (.iconst (-1), 164, 1, 42, 4294967295, 0), (.ireturn, 165, 1, 1, 1, 0)]),
  (166, [(.iconst 0, 166, 1, 42, 0, 0), (.istore_n 3, 167, 1, 46, 3, 0)]),
  (168, [(.iload_n 3, 168, 1, 40, 3, 0), (.aload_n 0, 169, 1, 41, 0, 0), (.getfield 81, 170, 3, 43, 8, 25), (.arraylength, 173, 1, 85, 0, 0), (.if_icmp .ge 35, 174, 3, 51, 209, 0), (.aload_n 0, 177, 1, 41, 0, 0), (.aload_n 0, 178, 1, 41, 0, 0), (.getfield 81, 179, 3, 43, 8, 25), (.iload_n 3, 182, 1, 40, 3, 0), (.iaload, 183, 1, 44, 0, 0), (.aload_n 0, 184, 1, 41, 0, 0), (.aload_n 0, 185, 1, 41, 0, 0), (.iload_n 1, 186, 1, 40, 1, 0), (.iload_n 3, 187, 1, 40, 3, 0), (.invokevirtual 317, 188, 3, 4, 222, 0), (.iload_n 2, 191, 1, 40, 2, 0), (.invokevirtual 164, 192, 3, 4, 166, 0), (.invokevirtual 320, 195, 3, 4, 224, 0), (.ifCond .ne 5, 198, 3, 57, 203, 0), (.iconst (-1), 201, 1, 42, 4294967295, 0), (.ireturn, 202, 1, 1, 1, 0)]),
  (203, [(.iinc 3 1, 203, 3, 47, 3, 1), (.goto (-38), 206, 3, 45, 168, 0)]),
  (209, [(.iload_n 2, 209, 1, 40, 2, 0), (.ireturn, 210, 1, 1, 1, 0)])]
def km_223 : mv_I := (yX8_standing, cX8_standing, 5, (some .int), 1, 0, 8, [])
def kb_224 : List (Nat × List mv_E) := [(0, [(.aload_n 0, 0, 1, 41, 0, 0), (.iload_n 1, 1, 1, 40, 1, 0), (.iload_n 2, 2, 1, 40, 2, 0), (.invokevirtual 197, 3, 3, 4, 177, 0), (.ifCond .eq 5, 6, 3, 56, 11, 0), (.iconst 1, 9, 1, 42, 1, 0), (.ireturn, 10, 1, 1, 2, 0)]),
  (11, [(.aload_n 0, 11, 1, 41, 0, 0), (.getfield 311, 12, 3, 43, 8, 27), (.iconst 1, 15, 1, 42, 1, 0), (.if_icmp .le 38, 16, 3, 53, 54, 0), (.iload_n 1, 19, 1, 40, 1, 0), (.ifCond .ne 12, 20, 3, 57, 32, 0), (.aload_n 0, 23, 1, 41, 0, 0), (.iconst 3, 24, 1, 42, 3, 0), (.iload_n 2, 25, 1, 40, 2, 0), (.invokevirtual 197, 26, 3, 4, 177, 0), (.ifCond .ne 21, 29, 3, 57, 50, 0)]),
  (32, [(.iload_n 2, 32, 1, 40, 2, 0), (.ifCond .ne 21, 33, 3, 57, 54, 0), (.iload_n 1, 36, 1, 40, 1, 0), (.iconst 1, 37, 1, 42, 1, 0), (.if_icmp .eq 16, 38, 3, 48, 54, 0), (.aload_n 0, 41, 1, 41, 0, 0), (.iload_n 1, 42, 1, 40, 1, 0), (.iconst 3, 43, 1, 42, 3, 0), (.invokevirtual 197, 44, 3, 4, 177, 0), (.ifCond .eq 7, 47, 3, 56, 54, 0)]),
  (50, [(.iconst 1, 50, 1, 42, 1, 0), (.goto 4, 51, 3, 45, 55, 0)]),
  (54, [(.iconst 0, 54, 1, 42, 0, 0)]),
  (55, [(.ireturn, 55, 1, 1, 2, 0)])]
def km_224 : mv_I := (yX8_fits, cX8_fits, 3, (some .boolean), 2, 0, 8, [])
def kb_225 : List (Nat × List mv_E) := [(0, [(.iconst 0, 0, 1, 42, 0, 0), (.istore_n 3, 1, 1, 46, 3, 0)]),
  (2, [(.iload_n 3, 2, 1, 40, 3, 0), (.aload_n 0, 3, 1, 41, 0, 0), (.getfield 81, 4, 3, 43, 8, 25), (.arraylength, 7, 1, 85, 0, 0), (.if_icmp .ge 50, 8, 3, 51, 58, 0), (.aload_n 0, 11, 1, 41, 0, 0), (.aload_n 0, 12, 1, 41, 0, 0), (.aload_n 0, 13, 1, 41, 0, 0), (.iload_n 1, 14, 1, 40, 1, 0), (.iload_n 3, 15, 1, 40, 3, 0), (.invokevirtual 317, 16, 3, 4, 222, 0), (.aload_n 0, 19, 1, 41, 0, 0), (.getfield 72, 20, 3, 43, 8, 22), (.iload_n 1, 23, 1, 40, 1, 0), (.iaload, 24, 1, 44, 0, 0), (.invokevirtual 164, 25, 3, 4, 166, 0), (.aload_n 0, 28, 1, 41, 0, 0), (.aload_n 0, 29, 1, 41, 0, 0), (.iload_n 2, 30, 1, 40, 2, 0), (.iload_n 3, 31, 1, 40, 3, 0), (.invokevirtual 317, 32, 3, 4, 222, 0), (.aload_n 0, 35, 1, 41, 0, 0), (.getfield 72, 36, 3, 43, 8, 22), (.iload_n 2, 39, 1, 40, 2, 0), (.iaload, 40, 1, 44, 0, 0), (.invokevirtual 164, 41, 3, 4, 166, 0), (.invokevirtual 197, 44, 3, 4, 177, 0), (.ifCond .ne 5, 47, 3, 57, 52, 0), (.iconst 0, 50, 1, 42, 0, 0), (.ireturn, 51, 1, 1, 2, 0)]),
  (52, [(.iinc 3 1, 52, 3, 47, 3, 1), (.goto (-53), 55, 3, 45, 2, 0)]),
  (58, [(.iconst 1, 58, 1, 42, 1, 0), (.ireturn, 59, 1, 1, 2, 0)])]
def km_225 : mv_I := (yX8_isSpecial, cX8_isSpecial, 4, (some .boolean), 2, 0, 8, [])
def kb_226 : List (Nat × List mv_E) := [(0, [(.iconst 0, 0, 1, 42, 0, 0), (.istore_n 2, 1, 1, 46, 2, 0), (.aload_n 0, 2, 1, 41, 0, 0), (.iconst 1, 3, 1, 42, 1, 0), (.putfield 311, 4, 3, 55, 8, 108)]),
  (7, [(.aload_n 0, 7, 1, 41, 0, 0), (.getfield 311, 8, 3, 43, 8, 27), (.iconst 4, 11, 1, 42, 4, 0), (.if_icmp .ge 66, 12, 3, 51, 78, 0), (.iconst 0, 15, 1, 42, 0, 0), (.istore_n 3, 16, 1, 46, 3, 0)]),
  (17, [(.iload_n 3, 17, 1, 40, 3, 0), (.aload_n 0, 18, 1, 41, 0, 0), (.getfield 234, 19, 3, 43, 8, 16), (.if_icmp .ge 36, 22, 3, 51, 58, 0), (.iload_n 2, 25, 1, 40, 2, 0), (.iload_n 1, 26, 1, 40, 1, 0), (.iload_n 3, 27, 1, 40, 3, 0), (.invokestatic 173, 28, 3, 6, 144, 0), (.ifCond .eq 18, 31, 3, 56, 49, 0), (.aload_n 0, 34, 1, 41, 0, 0), (.iload_n 3, 35, 1, 40, 3, 0), (.invokevirtual 323, 36, 3, 4, 223, 0), (.iconst (-1), 39, 1, 42, 4294967295, 0), (.if_icmp .eq 9, 40, 3, 48, 49, 0), (.iconst 1, 43, 1, 42, 1, 0), (.iload_n 3, 44, 1, 40, 3, 0), (.ishl, 45, 1, 70, 0, 0), (.goto 4, 46, 3, 45, 50, 0)]),
  (49, [(.iconst 0, 49, 1, 42, 0, 0)]),
  (50, [(.ior, 50, 1, 65, 0, 0), (.istore_n 2, 51, 1, 46, 2, 0), (.iinc 3 1, 52, 3, 47, 3, 1), (.goto (-38), 55, 3, 45, 17, 0)]),
  (58, [(.iload_n 2, 58, 1, 40, 2, 0), (.ifCond .le 6, 59, 3, 61, 65, 0), (.goto 16, 62, 3, 45, 78, 0)]),
  (65, [(.aload_n 0, 65, 1, 41, 0, 0), (.dup, 66, 1, 77, 0, 0), (.getfield 311, 67, 3, 43, 8, 27), (.iconst 1, 70, 1, 42, 1, 0), (.iadd, 71, 1, 54, 0, 0), (.putfield 311, 72, 3, 55, 8, 108), (.goto (-68), 75, 3, 45, 7, 0)]),
  (78, [(.iconst (-1), 78, 1, 42, 4294967295, 0), (.istore_n 3, 79, 1, 46, 3, 0), (.iconst 0, 80, 1, 42, 0, 0), (.istore 4, 81, 2, 46, 4, 0), (.iconst 0, 83, 1, 42, 0, 0), (.istore 5, 84, 2, 46, 5, 0)]),
  (86, [(.iload 5, 86, 2, 40, 5, 0), (.aload_n 0, 88, 1, 41, 0, 0), (.getfield 234, 89, 3, 43, 8, 16), (.if_icmp .ge 101, 92, 3, 51, 193, 0), (.iload_n 2, 95, 1, 40, 2, 0), (.iload 5, 96, 2, 40, 5, 0), (.invokestatic 173, 98, 3, 6, 144, 0), (.istore 6, 101, 2, 46, 6, 0), (.iconst 0, 103, 1, 42, 0, 0), (.istore 7, 104, 2, 46, 7, 0)]),
  (106, [(.iload 7, 106, 2, 40, 7, 0), (.aload_n 0, 108, 1, 41, 0, 0), (.getfield 234, 109, 3, 43, 8, 16), (.if_icmp .ge 48, 112, 3, 51, 160, 0), (.iload 6, 115, 2, 40, 6, 0), (.ifCond .eq 43, 117, 3, 56, 160, 0), (.iload_n 2, 120, 1, 40, 2, 0), (.iload 7, 121, 2, 40, 7, 0), (.invokestatic 173, 123, 3, 6, 144, 0), (.ifCond .eq 21, 126, 3, 56, 147, 0), (.iload 7, 129, 2, 40, 7, 0), (.iload 5, 131, 2, 40, 5, 0), (.if_icmp .eq 14, 133, 3, 48, 147, 0), (.aload_n 0, 136, 1, 41, 0, 0), (.iload 5, 137, 2, 40, 5, 0), (.iload 7, 139, 2, 40, 7, 0), (.invokevirtual 326, 141, 3, 4, 225, 0), (.ifCond .eq 7, 144, 3, 56, 151, 0)]),
  (147, [(.iconst 1, 147, 1, 42, 1, 0), (.goto 4, 148, 3, 45, 152, 0)]),
  (151, [(.iconst 0, 151, 1, 42, 0, 0)]),
  (152, [(.istore 6, 152, 2, 46, 6, 0), (.iinc 7 1, 154, 3, 47, 7, 1), (.goto (-51), 157, 3, 45, 106, 0)]),
  (160, [(.iload 4, 160, 2, 40, 4, 0), (.iload 6, 162, 2, 40, 6, 0), (.ifCond .eq 7, 164, 3, 56, 171, 0), (.iconst 1, 167, 1, 42, 1, 0), (.goto 4, 168, 3, 45, 172, 0)]),
  (171, [(.iconst 0, 171, 1, 42, 0, 0)]),
  (172, [(.iadd, 172, 1, 54, 0, 0), (.istore 4, 173, 2, 46, 4, 0), (.iload 6, 175, 2, 40, 6, 0), (.ifCond .eq 8, 177, 3, 56, 185, 0), (.iload 5, 180, 2, 40, 5, 0), (.goto 4, 182, 3, 45, 186, 0)]),
  (185, [(.iload_n 3, 185, 1, 40, 3, 0)]),
  (186, [(.istore_n 3, 186, 1, 46, 3, 0), (.iinc 5 1, 187, 3, 47, 5, 1), (.goto (-104), 190, 3, 45, 86, 0)]),
  (193, [(.iload_n 2, 193, 1, 40, 2, 0), (.ifCond .ne 7, 194, 3, 57, 201, 0), (.iconst (-1), 197, 1, 42, 4294967295, 0), (.goto 15, 198, 3, 45, 213, 0)]),
  (201, [(.iload 4, 201, 2, 40, 4, 0), (.iconst 1, 203, 1, 42, 1, 0), (.if_icmp .ne 7, 204, 3, 49, 211, 0), (.iload_n 3, 207, 1, 40, 3, 0), (.goto 5, 208, 3, 45, 213, 0)]),
  (211, [(.bipush (-2), 211, 2, 42, 4294967294, 0)]),
  (213, [(.ireturn, 213, 1, 1, 1, 0)])]
def km_226 : mv_I := (yX8_choose, cX8_choose, 8, (some .int), 1, 0, 8, [])
def kb_227 : List (Nat × List mv_E) := [(0, [(.aload_n 0, 0, 1, 41, 0, 0), (.invokevirtual 216, 1, 3, 4, 142, 0), (.iconst 3, 4, 1, 42, 3, 0), (.newarray .int, 5, 2, 86, 0, 0), (.dup, 7, 1, 77, 0, 0), (.iconst 0, 8, 1, 42, 0, 0), (.iload_n 3, 9, 1, 40, 3, 0), (.iastore, 10, 1, 63, 0, 0), (.dup, 11, 1, 77, 0, 0), (.iconst 1, 12, 1, 42, 1, 0), (.iload 4, 13, 2, 40, 4, 0), (.iastore, 15, 1, 63, 0, 0), (.dup, 16, 1, 77, 0, 0), (.iconst 2, 17, 1, 42, 2, 0), (.iload 5, 18, 2, 40, 5, 0), (.iastore, 20, 1, 63, 0, 0), (.astore 7, 21, 2, 74, 7, 0), (.aload_n 0, 23, 1, 41, 0, 0), (.iload_n 1, 24, 1, 40, 1, 0), (.invokevirtual 225, 25, 3, 4, 146, 0), (.ifCond .eq 29, 28, 3, 56, 57, 0), (.aload_n 0, 31, 1, 41, 0, 0), (.iload_n 3, 32, 1, 40, 3, 0), (.invokevirtual 283, 33, 3, 4, 206, 0), (.ifCond .eq 21, 36, 3, 56, 57, 0), (.aload_n 0, 39, 1, 41, 0, 0), (.iload 4, 40, 2, 40, 4, 0), (.invokevirtual 283, 42, 3, 4, 206, 0), (.ifCond .eq 12, 45, 3, 56, 57, 0), (.aload_n 0, 48, 1, 41, 0, 0), (.iload 5, 49, 2, 40, 5, 0), (.invokevirtual 283, 51, 3, 4, 206, 0), (.ifCond .ne 9, 54, 3, 57, 63, 0)]),
  (57, [(.aload_n 0, 57, 1, 41, 0, 0), (.iconst 1, 58, 1, 42, 1, 0), (.invokevirtual 219, 59, 3, 4, 141, 0), (.ireturn, 62, 1, 1, 1, 0)]),
  (63, [(.iconst 0, 63, 1, 42, 0, 0), (.istore 8, 64, 2, 46, 8, 0), (.iconst 0, 66, 1, 42, 0, 0), (.istore 9, 67, 2, 46, 9, 0)]),
  (69, [(.iload 9, 69, 2, 40, 9, 0), (.iconst 3, 71, 1, 42, 3, 0), (.if_icmp .ge 50, 72, 3, 51, 122, 0), (.aload 7, 75, 2, 41, 7, 0), (.iload 9, 77, 2, 40, 9, 0), (.iaload, 79, 1, 44, 0, 0), (.iconst (-1), 80, 1, 42, 4294967295, 0), (.if_icmp .eq 16, 81, 3, 48, 97, 0), (.iload 8, 84, 2, 40, 8, 0), (.iload 9, 86, 2, 40, 9, 0), (.if_icmp .ge 9, 88, 3, 51, 97, 0), (.aload_n 0, 91, 1, 41, 0, 0), (.iconst 2, 92, 1, 42, 2, 0), (.invokevirtual 219, 93, 3, 4, 141, 0), (.ireturn, 96, 1, 1, 1, 0)]),
  (97, [(.iload 8, 97, 2, 40, 8, 0), (.aload 7, 99, 2, 41, 7, 0), (.iload 9, 101, 2, 40, 9, 0), (.iaload, 103, 1, 44, 0, 0), (.iconst (-1), 104, 1, 42, 4294967295, 0), (.if_icmp .ne 7, 105, 3, 49, 112, 0), (.iconst 0, 108, 1, 42, 0, 0), (.goto 4, 109, 3, 45, 113, 0)]),
  (112, [(.iconst 1, 112, 1, 42, 1, 0)]),
  (113, [(.iadd, 113, 1, 54, 0, 0), (.istore 8, 114, 2, 46, 8, 0), (.iinc 9 1, 116, 3, 47, 9, 1), (.goto (-50), 119, 3, 45, 69, 0)]),
  (122, [(.iload_n 2, 122, 1, 40, 2, 0), (.iconst 0, 123, 1, 42, 0, 0), (.bipush 7, 124, 2, 42, 7, 0), (.invokestatic 94, 126, 3, 6, 143, 0), (.ifCond .eq 13, 129, 3, 56, 142, 0), (.iload 6, 132, 2, 40, 6, 0), (.iconst 0, 134, 1, 42, 0, 0), (.iconst 4, 135, 1, 42, 4, 0), (.invokestatic 94, 136, 3, 6, 143, 0), (.ifCond .ne 9, 139, 3, 57, 148, 0)]),
  (142, [(.aload_n 0, 142, 1, 41, 0, 0), (.iconst 2, 143, 1, 42, 2, 0), (.invokevirtual 219, 144, 3, 4, 141, 0), (.ireturn, 147, 1, 1, 1, 0)]),
  (148, [(.aload_n 0, 148, 1, 41, 0, 0), (.iload 8, 149, 2, 40, 8, 0), (.newarray .int, 151, 2, 86, 0, 0), (.putfield 81, 153, 3, 55, 8, 102), (.aload 7, 156, 2, 41, 7, 0), (.iconst 0, 158, 1, 42, 0, 0), (.aload_n 0, 159, 1, 41, 0, 0), (.getfield 81, 160, 3, 43, 8, 25), (.iconst 0, 163, 1, 42, 0, 0), (.iload 8, 164, 2, 40, 8, 0), (.invokestatic 102, 166, 3, 11, 0, 0), (.aload_n 0, 169, 1, 41, 0, 0), (.aload_n 0, 170, 1, 41, 0, 0), (.iload_n 1, 171, 1, 40, 1, 0), (.invokevirtual 298, 172, 3, 4, 214, 0), (.putfield 314, 175, 3, 55, 8, 104), (.aload_n 0, 178, 1, 41, 0, 0), (.aload_n 0, 179, 1, 41, 0, 0), (.iload_n 1, 180, 1, 40, 1, 0), (.iload_n 2, 181, 1, 40, 2, 0), (.invokevirtual 308, 182, 3, 4, 220, 0), (.invokevirtual 329, 185, 3, 4, 226, 0), (.istore 9, 188, 2, 46, 9, 0), (.iload 6, 190, 2, 40, 6, 0), (.ifCond .eq 8, 192, 3, 56, 200, 0), (.iload 9, 195, 2, 40, 9, 0), (.ifCond .ge 15, 197, 3, 59, 212, 0)]),
  (200, [(.iload 6, 200, 2, 40, 6, 0), (.ifCond .ne 8, 202, 3, 57, 210, 0), (.iload 9, 205, 2, 40, 9, 0), (.goto 4, 207, 3, 45, 211, 0)]),
  (210, [(.iconst (-1), 210, 1, 42, 4294967295, 0)]),
  (211, [(.ireturn, 211, 1, 1, 1, 0)]),
  (212, [(.aload_n 0, 212, 1, 41, 0, 0), (.iload 9, 213, 2, 40, 9, 0), (.invokevirtual 323, 215, 3, 4, 223, 0), (.istore 10, 218, 2, 46, 10, 0), (.aload_n 0, 220, 1, 41, 0, 0), (.aload_n 0, 221, 1, 41, 0, 0), (.aload_n 0, 222, 1, 41, 0, 0), (.getfield 69, 223, 3, 43, 8, 21), (.iload 9, 226, 2, 40, 9, 0), (.iaload, 228, 1, 44, 0, 0), (.aload_n 0, 229, 1, 41, 0, 0), (.aload_n 0, 230, 1, 41, 0, 0), (.getfield 314, 231, 3, 43, 8, 26), (.aload_n 0, 234, 1, 41, 0, 0), (.getfield 57, 235, 3, 43, 8, 17), (.iload 9, 238, 2, 40, 9, 0), (.iaload, 240, 1, 44, 0, 0), (.invokevirtual 182, 241, 3, 4, 173, 0), (.invokevirtual 151, 244, 3, 4, 164, 0), (.iload 10, 247, 2, 40, 10, 0), (.invokevirtual 164, 249, 3, 4, 166, 0), (.istore 11, 252, 2, 46, 11, 0), (.iload 6, 254, 2, 40, 6, 0), (.tableswitch 47 1 3 #[28, 33, 40], 256, 28, 97, 0, 0)]),
  (284, [(.aload_n 0, 284, 1, 41, 0, 0), (.getfield 311, 285, 3, 43, 8, 27), (.ireturn, 288, 1, 1, 1, 0)]),
  (289, [(.aload_n 0, 289, 1, 41, 0, 0), (.iload 11, 290, 2, 40, 11, 0), (.invokevirtual 261, 292, 3, 4, 195, 0), (.ireturn, 295, 1, 1, 1, 0)]),
  (296, [(.aload_n 0, 296, 1, 41, 0, 0), (.iload 10, 297, 2, 40, 10, 0), (.invokevirtual 261, 299, 3, 4, 195, 0), (.ireturn, 302, 1, 1, 1, 0)]),
  (303, [(.aload_n 0, 303, 1, 41, 0, 0), (.iload 11, 304, 2, 40, 11, 0), (.iload 9, 306, 2, 40, 9, 0), (.invokevirtual 258, 308, 3, 4, 194, 0), (.aload_n 0, 311, 1, 41, 0, 0), (.aload_n 0, 312, 1, 41, 0, 0), (.getfield 69, 313, 3, 43, 8, 21), (.iload 9, 316, 2, 40, 9, 0), (.iaload, 318, 1, 44, 0, 0), (.iload 9, 319, 2, 40, 9, 0), (.invokevirtual 258, 321, 3, 4, 194, 0), (.if_icmp .ne 7, 324, 3, 49, 331, 0), (.iconst (-1), 327, 1, 42, 4294967295, 0), (.goto 11, 328, 3, 45, 339, 0)]),
  (331, [(.aload_n 0, 331, 1, 41, 0, 0), (.iload 11, 332, 2, 40, 11, 0), (.iload 9, 334, 2, 40, 9, 0), (.invokevirtual 258, 336, 3, 4, 194, 0)]),
  (339, [(.ireturn, 339, 1, 1, 1, 0)])]
def km_227 : mv_I := (yX8_call, cX8_call, 12, (some .int), 6, 0, 8, [])
def kb_228 : List (Nat × List mv_E) := [(0, [(.iconst 0, 0, 1, 42, 0, 0), (.istore_n 3, 1, 1, 46, 3, 0)]),
  (2, [(.iload_n 3, 2, 1, 40, 3, 0), (.aload_n 0, 3, 1, 41, 0, 0), (.aload_n 0, 4, 1, 41, 0, 0), (.getfield 45, 5, 3, 43, 8, 12), (.iload_n 1, 8, 1, 40, 1, 0), (.iaload, 9, 1, 44, 0, 0), (.invokevirtual 167, 10, 3, 4, 168, 0), (.if_icmp .ge 79, 13, 3, 51, 92, 0), (.aload_n 0, 16, 1, 41, 0, 0), (.aload_n 0, 17, 1, 41, 0, 0), (.aload_n 0, 18, 1, 41, 0, 0), (.getfield 45, 19, 3, 43, 8, 12), (.iload_n 1, 22, 1, 40, 1, 0), (.iaload, 23, 1, 44, 0, 0), (.iload_n 3, 24, 1, 40, 3, 0), (.invokevirtual 170, 25, 3, 4, 169, 0), (.iload_n 1, 28, 1, 40, 1, 0), (.invokevirtual 151, 29, 3, 4, 164, 0), (.istore 4, 32, 2, 46, 4, 0), (.aload_n 2, 34, 1, 41, 2, 0), (.aload_n 0, 35, 1, 41, 0, 0), (.getfield 45, 36, 3, 43, 8, 12), (.iload 4, 39, 2, 40, 4, 0), (.iaload, 41, 1, 44, 0, 0), (.iaload, 42, 1, 44, 0, 0), (.iconst (-1), 43, 1, 42, 4294967295, 0), (.if_icmp .eq 19, 44, 3, 48, 63, 0), (.aload_n 2, 47, 1, 41, 2, 0), (.aload_n 0, 48, 1, 41, 0, 0), (.getfield 45, 49, 3, 43, 8, 12), (.iload 4, 52, 2, 40, 4, 0), (.iaload, 54, 1, 44, 0, 0), (.iaload, 55, 1, 44, 0, 0), (.iload 4, 56, 2, 40, 4, 0), (.if_icmp .eq 5, 58, 3, 48, 63, 0), (.iconst 1, 61, 1, 42, 1, 0), (.ireturn, 62, 1, 1, 2, 0)]),
  (63, [(.aload_n 2, 63, 1, 41, 2, 0), (.aload_n 0, 64, 1, 41, 0, 0), (.getfield 45, 65, 3, 43, 8, 12), (.iload 4, 68, 2, 40, 4, 0), (.iaload, 70, 1, 44, 0, 0), (.iload 4, 71, 2, 40, 4, 0), (.iastore, 73, 1, 63, 0, 0), (.aload_n 0, 74, 1, 41, 0, 0), (.iload 4, 75, 2, 40, 4, 0), (.aload_n 2, 77, 1, 41, 2, 0), (.invokevirtual 332, 78, 3, 4, 228, 0), (.ifCond .eq 5, 81, 3, 56, 86, 0), (.iconst 1, 84, 1, 42, 1, 0), (.ireturn, 85, 1, 1, 2, 0)]),
  (86, [(.iinc 3 1, 86, 3, 47, 3, 1), (.goto (-87), 89, 3, 45, 2, 0)]),
  (92, [(.iconst 0, 92, 1, 42, 0, 0), (.ireturn, 93, 1, 1, 2, 0)])]
def km_228 : mv_I := (yX8_isTwice, cX8_isTwice, 5, (some .boolean), 2, 0, 8, [])
def kb_229 : List (Nat × List mv_E) := [(0, [(.bipush 14, 0, 2, 42, 14, 0), (.newarray .int, 2, 2, 86, 0, 0), (.astore_n 2, 4, 1, 74, 2, 0), (.iconst 0, 5, 1, 42, 0, 0), (.istore_n 3, 6, 1, 46, 3, 0)]),
  (7, [(.iload_n 3, 7, 1, 40, 3, 0), (.bipush 14, 8, 2, 42, 14, 0), (.if_icmp .ge 13, 10, 3, 51, 23, 0), (.aload_n 2, 13, 1, 41, 2, 0), (.iload_n 3, 14, 1, 40, 3, 0), (.iconst (-1), 15, 1, 42, 4294967295, 0), (.iastore, 16, 1, 63, 0, 0), (.iinc 3 1, 17, 3, 47, 3, 1), (.goto (-13), 20, 3, 45, 7, 0)]),
  (23, [(.aload_n 0, 23, 1, 41, 0, 0), (.aload_n 0, 24, 1, 41, 0, 0), (.iload_n 1, 25, 1, 40, 1, 0), (.invokevirtual 289, 26, 3, 4, 167, 0), (.aload_n 2, 29, 1, 41, 2, 0), (.invokevirtual 332, 30, 3, 4, 228, 0), (.ireturn, 33, 1, 1, 2, 0)])]
def km_229 : mv_I := (yX8_isReachedTwice, cX8_isReachedTwice, 4, (some .boolean), 1, 0, 8, [])
def kb_230 : List (Nat × List mv_E) := [(0, [(.aload_n 0, 0, 1, 41, 0, 0), (.getfield 42, 1, 3, 43, 8, 11), (.iload_n 1, 4, 1, 40, 1, 0), (.iaload, 5, 1, 44, 0, 0), (.iconst 4, 6, 1, 42, 4, 0), (.if_icmp .ne 36, 7, 3, 49, 43, 0), (.aload_n 0, 10, 1, 41, 0, 0), (.getfield 45, 11, 3, 43, 8, 12), (.iload_n 1, 14, 1, 40, 1, 0), (.iaload, 15, 1, 44, 0, 0), (.iload_n 2, 16, 1, 40, 2, 0), (.if_icmp .ne 26, 17, 3, 49, 43, 0), (.aload_n 0, 20, 1, 41, 0, 0), (.getfield 17, 21, 3, 43, 8, 3), (.iconst 2, 24, 1, 42, 2, 0), (.iload_n 2, 25, 1, 40, 2, 0), (.imul, 26, 1, 62, 0, 0), (.aload_n 0, 27, 1, 41, 0, 0), (.getfield 48, 28, 3, 43, 8, 13), (.iload_n 1, 31, 1, 40, 1, 0), (.iaload, 32, 1, 44, 0, 0), (.iadd, 33, 1, 54, 0, 0), (.iaload, 34, 1, 44, 0, 0), (.iload_n 3, 35, 1, 40, 3, 0), (.if_icmp .ne 7, 36, 3, 49, 43, 0), (.iconst 1, 39, 1, 42, 1, 0), (.goto 4, 40, 3, 45, 44, 0)]),
  (43, [(.iconst 0, 43, 1, 42, 0, 0)]),
  (44, [(.ireturn, 44, 1, 1, 2, 0)])]
def km_230 : mv_I := (yX8_isOwnWith, cX8_isOwnWith, 4, (some .boolean), 3, 0, 8, [])
def kb_231 : List (Nat × List mv_E) := [(0, [(.iconst 0, 0, 1, 42, 0, 0), (.istore_n 3, 1, 1, 46, 3, 0), (.iload_n 2, 2, 1, 40, 2, 0), (.tableswitch 220 3 6 #[29, 173, 220, 104], 3, 29, 97, 0, 0)]),
  (32, [(.iconst 0, 32, 1, 42, 0, 0), (.istore 4, 33, 2, 46, 4, 0)]),
  (35, [(.iload 4, 35, 2, 40, 4, 0), (.aload_n 0, 37, 1, 41, 0, 0), (.getfield 66, 38, 3, 43, 8, 20), (.iload_n 1, 41, 1, 40, 1, 0), (.iaload, 42, 1, 44, 0, 0), (.if_icmp .ge 34, 43, 3, 51, 77, 0), (.iload_n 3, 46, 1, 40, 3, 0), (.aload_n 0, 47, 1, 41, 0, 0), (.aload_n 0, 48, 1, 41, 0, 0), (.getfield 63, 49, 3, 43, 8, 19), (.iconst 3, 52, 1, 42, 3, 0), (.iload_n 1, 53, 1, 40, 1, 0), (.imul, 54, 1, 62, 0, 0), (.iload 4, 55, 2, 40, 4, 0), (.iadd, 57, 1, 54, 0, 0), (.iaload, 58, 1, 44, 0, 0), (.aload_n 0, 59, 1, 41, 0, 0), (.getfield 57, 60, 3, 43, 8, 17), (.iload_n 1, 63, 1, 40, 1, 0), (.iaload, 64, 1, 44, 0, 0), (.iconst 1, 65, 1, 42, 1, 0), (.invokevirtual 336, 66, 3, 4, 230, 0), (.ior, 69, 1, 65, 0, 0), (.istore_n 3, 70, 1, 46, 3, 0), (.iinc 4 1, 71, 3, 47, 4, 1), (.goto (-39), 74, 3, 45, 35, 0)]),
  (77, [(.iload_n 3, 77, 1, 40, 3, 0), (.ifCond .ne 23, 78, 3, 57, 101, 0), (.aload_n 0, 81, 1, 41, 0, 0), (.aload_n 0, 82, 1, 41, 0, 0), (.getfield 69, 83, 3, 43, 8, 21), (.iload_n 1, 86, 1, 40, 1, 0), (.iaload, 87, 1, 44, 0, 0), (.aload_n 0, 88, 1, 41, 0, 0), (.getfield 57, 89, 3, 43, 8, 17), (.iload_n 1, 92, 1, 40, 1, 0), (.iaload, 93, 1, 44, 0, 0), (.iconst 2, 94, 1, 42, 2, 0), (.invokevirtual 336, 95, 3, 4, 230, 0), (.ifCond .eq 7, 98, 3, 56, 105, 0)]),
  (101, [(.iconst 1, 101, 1, 42, 1, 0), (.goto 4, 102, 3, 45, 106, 0)]),
  (105, [(.iconst 0, 105, 1, 42, 0, 0)]),
  (106, [(.ireturn, 106, 1, 1, 2, 0)]),
  (107, [(.iconst 0, 107, 1, 42, 0, 0), (.istore 4, 108, 2, 46, 4, 0)]),
  (110, [(.iload 4, 110, 2, 40, 4, 0), (.aload_n 0, 112, 1, 41, 0, 0), (.getfield 66, 113, 3, 43, 8, 20), (.iload_n 1, 116, 1, 40, 1, 0), (.iaload, 117, 1, 44, 0, 0), (.if_icmp .ge 35, 118, 3, 51, 153, 0), (.iload_n 3, 121, 1, 40, 3, 0), (.aload_n 0, 122, 1, 41, 0, 0), (.aload_n 0, 123, 1, 41, 0, 0), (.getfield 63, 124, 3, 43, 8, 19), (.iconst 3, 127, 1, 42, 3, 0), (.iload_n 1, 128, 1, 40, 1, 0), (.imul, 129, 1, 62, 0, 0), (.iload 4, 130, 2, 40, 4, 0), (.iadd, 132, 1, 54, 0, 0), (.iaload, 133, 1, 44, 0, 0), (.invokevirtual 213, 134, 3, 4, 182, 0), (.ifCond .ne 7, 137, 3, 57, 144, 0), (.iconst 1, 140, 1, 42, 1, 0), (.goto 4, 141, 3, 45, 145, 0)]),
  (144, [(.iconst 0, 144, 1, 42, 0, 0)]),
  (145, [(.ior, 145, 1, 65, 0, 0), (.istore_n 3, 146, 1, 46, 3, 0), (.iinc 4 1, 147, 3, 47, 4, 1), (.goto (-40), 150, 3, 45, 110, 0)]),
  (153, [(.iload_n 3, 153, 1, 40, 3, 0), (.ifCond .ne 16, 154, 3, 57, 170, 0), (.aload_n 0, 157, 1, 41, 0, 0), (.aload_n 0, 158, 1, 41, 0, 0), (.getfield 69, 159, 3, 43, 8, 21), (.iload_n 1, 162, 1, 40, 1, 0), (.iaload, 163, 1, 44, 0, 0), (.invokevirtual 213, 164, 3, 4, 182, 0), (.ifCond .ne 7, 167, 3, 57, 174, 0)]),
  (170, [(.iconst 1, 170, 1, 42, 1, 0), (.goto 4, 171, 3, 45, 175, 0)]),
  (174, [(.iconst 0, 174, 1, 42, 0, 0)]),
  (175, [(.ireturn, 175, 1, 1, 2, 0)]),
  (176, [(.iconst 0, 176, 1, 42, 0, 0), (.istore 4, 177, 2, 46, 4, 0)]),
  (179, [(.iload 4, 179, 2, 40, 4, 0), (.aload_n 0, 181, 1, 41, 0, 0), (.getfield 234, 182, 3, 43, 8, 16), (.if_icmp .ge 36, 185, 3, 51, 221, 0), (.iload_n 3, 188, 1, 40, 3, 0), (.iload 4, 189, 2, 40, 4, 0), (.aload_n 0, 191, 1, 41, 0, 0), (.getfield 78, 192, 3, 43, 8, 24), (.if_icmp .eq 17, 195, 3, 48, 212, 0), (.aload_n 0, 198, 1, 41, 0, 0), (.iload_n 1, 199, 1, 40, 1, 0), (.iload 4, 200, 2, 40, 4, 0), (.invokevirtual 339, 202, 3, 4, 232, 0), (.ifCond .eq 7, 205, 3, 56, 212, 0), (.iconst 1, 208, 1, 42, 1, 0), (.goto 4, 209, 3, 45, 213, 0)]),
  (212, [(.iconst 0, 212, 1, 42, 0, 0)]),
  (213, [(.ior, 213, 1, 65, 0, 0), (.istore_n 3, 214, 1, 46, 3, 0), (.iinc 4 1, 215, 3, 47, 4, 1), (.goto (-39), 218, 3, 45, 179, 0)]),
  (221, [(.iload_n 3, 221, 1, 40, 3, 0), (.ireturn, 222, 1, 1, 2, 0)]),
  (223, [(.iconst 0, 223, 1, 42, 0, 0), (.istore 4, 224, 2, 46, 4, 0)]),
  (226, [(.iload 4, 226, 2, 40, 4, 0), (.aload_n 0, 228, 1, 41, 0, 0), (.getfield 234, 229, 3, 43, 8, 16), (.if_icmp .ge 72, 232, 3, 51, 304, 0), (.iload_n 3, 235, 1, 40, 3, 0), (.aload_n 0, 236, 1, 41, 0, 0), (.iload_n 1, 237, 1, 40, 1, 0), (.iload 4, 238, 2, 40, 4, 0), (.invokevirtual 292, 240, 3, 4, 210, 0), (.ifCond .eq 52, 243, 3, 56, 295, 0), (.aload_n 0, 246, 1, 41, 0, 0), (.aload_n 0, 247, 1, 41, 0, 0), (.getfield 69, 248, 3, 43, 8, 21), (.iload_n 1, 251, 1, 40, 1, 0), (.iaload, 252, 1, 44, 0, 0), (.aload_n 0, 253, 1, 41, 0, 0), (.aload_n 0, 254, 1, 41, 0, 0), (.getfield 69, 255, 3, 43, 8, 21), (.iload 4, 258, 2, 40, 4, 0), (.iaload, 260, 1, 44, 0, 0), (.aload_n 0, 261, 1, 41, 0, 0), (.aload_n 0, 262, 1, 41, 0, 0), (.aload_n 0, 263, 1, 41, 0, 0), (.getfield 57, 264, 3, 43, 8, 17), (.iload_n 1, 267, 1, 40, 1, 0), (.iaload, 268, 1, 44, 0, 0), (.invokevirtual 289, 269, 3, 4, 167, 0), (.aload_n 0, 272, 1, 41, 0, 0), (.getfield 57, 273, 3, 43, 8, 17), (.iload 4, 276, 2, 40, 4, 0), (.iaload, 278, 1, 44, 0, 0), (.invokevirtual 182, 279, 3, 4, 173, 0), (.invokevirtual 151, 282, 3, 4, 164, 0), (.invokevirtual 197, 285, 3, 4, 177, 0), (.ifCond .ne 7, 288, 3, 57, 295, 0), (.iconst 1, 291, 1, 42, 1, 0), (.goto 4, 292, 3, 45, 296, 0)]),
  (295, [(.iconst 0, 295, 1, 42, 0, 0)]),
  (296, [(.ior, 296, 1, 65, 0, 0), (.istore_n 3, 297, 1, 46, 3, 0), (.iinc 4 1, 298, 3, 47, 4, 1), (.goto (-75), 301, 3, 45, 226, 0)]),
  (304, [(.iload_n 3, 304, 1, 40, 3, 0), (.ireturn, 305, 1, 1, 2, 0)])]
def km_231 : mv_I := (yX8_isFault, cX8_isFault, 5, (some .boolean), 2, 0, 8, [])
def kb_232 : List (Nat × List mv_E) := [(0, [(.aload_n 0, 0, 1, 41, 0, 0), (.getfield 60, 1, 3, 43, 8, 18), (.iload_n 1, 4, 1, 40, 1, 0), (.iaload, 5, 1, 44, 0, 0), (.aload_n 0, 6, 1, 41, 0, 0), (.getfield 60, 7, 3, 43, 8, 18), (.iload_n 2, 10, 1, 40, 2, 0), (.iaload, 11, 1, 44, 0, 0), (.if_icmp .ne 18, 12, 3, 49, 30, 0), (.aload_n 0, 15, 1, 41, 0, 0), (.getfield 66, 16, 3, 43, 8, 20), (.iload_n 1, 19, 1, 40, 1, 0), (.iaload, 20, 1, 44, 0, 0), (.aload_n 0, 21, 1, 41, 0, 0), (.getfield 66, 22, 3, 43, 8, 20), (.iload_n 2, 25, 1, 40, 2, 0), (.iaload, 26, 1, 44, 0, 0), (.if_icmp .eq 5, 27, 3, 48, 32, 0)]),
  (30, [(.iconst 0, 30, 1, 42, 0, 0), (.ireturn, 31, 1, 1, 2, 0)]),
  (32, [(.aload_n 0, 32, 1, 41, 0, 0), (.getfield 57, 33, 3, 43, 8, 17), (.iload_n 2, 36, 1, 40, 2, 0), (.iaload, 37, 1, 44, 0, 0), (.aload_n 0, 38, 1, 41, 0, 0), (.getfield 57, 39, 3, 43, 8, 17), (.iload_n 1, 42, 1, 40, 1, 0), (.iaload, 43, 1, 44, 0, 0), (.if_icmp .ne 16, 44, 3, 49, 60, 0), (.iload_n 2, 47, 1, 40, 2, 0), (.iload_n 1, 48, 1, 40, 1, 0), (.if_icmp .ge 7, 49, 3, 51, 56, 0), (.iconst 1, 52, 1, 42, 1, 0), (.goto 40, 53, 3, 45, 93, 0)]),
  (56, [(.iconst 0, 56, 1, 42, 0, 0), (.goto 36, 57, 3, 45, 93, 0)]),
  (60, [(.aload_n 0, 60, 1, 41, 0, 0), (.aload_n 0, 61, 1, 41, 0, 0), (.getfield 57, 62, 3, 43, 8, 17), (.iload_n 2, 65, 1, 40, 2, 0), (.iaload, 66, 1, 44, 0, 0), (.aload_n 0, 67, 1, 41, 0, 0), (.getfield 57, 68, 3, 43, 8, 17), (.iload_n 1, 71, 1, 40, 1, 0), (.iaload, 72, 1, 44, 0, 0), (.invokevirtual 176, 73, 3, 4, 171, 0), (.ifCond .eq 16, 76, 3, 56, 92, 0), (.aload_n 0, 79, 1, 41, 0, 0), (.iload_n 1, 80, 1, 40, 1, 0), (.iload_n 2, 81, 1, 40, 2, 0), (.invokevirtual 292, 82, 3, 4, 210, 0), (.ifCond .ne 7, 85, 3, 57, 92, 0), (.iconst 1, 88, 1, 42, 1, 0), (.goto 4, 89, 3, 45, 93, 0)]),
  (92, [(.iconst 0, 92, 1, 42, 0, 0)]),
  (93, [(.istore_n 3, 93, 1, 46, 3, 0), (.iload_n 3, 94, 1, 40, 3, 0), (.ifCond .eq 17, 95, 3, 56, 112, 0), (.aload_n 0, 98, 1, 41, 0, 0), (.iload_n 1, 99, 1, 40, 1, 0), (.iload_n 2, 100, 1, 40, 2, 0), (.iconst 0, 101, 1, 42, 0, 0), (.invokevirtual 301, 102, 3, 4, 216, 0), (.ifCond .eq 7, 105, 3, 56, 112, 0), (.iconst 1, 108, 1, 42, 1, 0), (.goto 4, 109, 3, 45, 113, 0)]),
  (112, [(.iconst 0, 112, 1, 42, 0, 0)]),
  (113, [(.ireturn, 113, 1, 1, 2, 0)])]
def km_232 : mv_I := (yX8_clashes, cX8_clashes, 4, (some .boolean), 2, 0, 8, [])
def kb_233 : List (Nat × List mv_E) := [(0, [(.iload_n 1, 0, 1, 40, 1, 0), (.ifCond .ne 7, 1, 3, 57, 8, 0), (.iload_n 2, 4, 1, 40, 2, 0), (.goto 14, 5, 3, 45, 19, 0)]),
  (8, [(.iload_n 1, 8, 1, 40, 1, 0), (.iconst 1, 9, 1, 42, 1, 0), (.if_icmp .ne 7, 10, 3, 49, 17, 0), (.iload_n 3, 13, 1, 40, 3, 0), (.goto 5, 14, 3, 45, 19, 0)]),
  (17, [(.iload 4, 17, 2, 40, 4, 0)]),
  (19, [(.ireturn, 19, 1, 1, 1, 0)])]
def km_233 : mv_I := (yX8_numberOf, cX8_numberOf, 5, (some .int), 4, 0, 8, [])
def kb_234 : List (Nat × List mv_E) := [(0, [(.iconst 4, 0, 1, 42, 4, 0), (.newarray .int, 1, 2, 86, 0, 0), (.dup, 3, 1, 77, 0, 0), (.iconst 0, 4, 1, 42, 0, 0), (.iconst 3, 5, 1, 42, 3, 0), (.iastore, 6, 1, 63, 0, 0), (.dup, 7, 1, 77, 0, 0), (.iconst 1, 8, 1, 42, 1, 0), (.bipush 6, 9, 2, 42, 6, 0), (.iastore, 11, 1, 63, 0, 0), (.dup, 12, 1, 77, 0, 0), (.iconst 2, 13, 1, 42, 2, 0), (.iconst 4, 14, 1, 42, 4, 0), (.iastore, 15, 1, 63, 0, 0), (.dup, 16, 1, 77, 0, 0), (.iconst 3, 17, 1, 42, 3, 0), (.iconst 5, 18, 1, 42, 5, 0), (.iastore, 19, 1, 63, 0, 0), (.astore 4, 20, 2, 74, 4, 0), (.iconst 0, 22, 1, 42, 0, 0), (.istore 5, 23, 2, 46, 5, 0), (.iconst 0, 25, 1, 42, 0, 0), (.istore 6, 26, 2, 46, 6, 0)]),
  (28, [(.iload 6, 28, 2, 40, 6, 0), (.aload_n 0, 30, 1, 41, 0, 0), (.getfield 7, 31, 3, 43, 8, 1), (.if_icmp .ge 211, 34, 3, 51, 245, 0), (.iload_n 3, 37, 1, 40, 3, 0), (.iconst (-1), 38, 1, 42, 4294967295, 0), (.if_icmp .eq 12, 39, 3, 48, 51, 0), (.iload 6, 42, 2, 40, 6, 0), (.iload_n 3, 44, 1, 40, 3, 0), (.if_icmp .eq 6, 45, 3, 48, 51, 0), (.goto 191, 48, 3, 45, 239, 0)]),
  (51, [(.aload_n 0, 51, 1, 41, 0, 0), (.iload 6, 52, 2, 40, 6, 0), (.invokevirtual 342, 54, 3, 4, 229, 0), (.ifCond .eq 22, 57, 3, 56, 79, 0), (.iload 5, 60, 2, 40, 5, 0), (.iinc 5 1, 62, 3, 47, 5, 1), (.iload_n 1, 65, 1, 40, 1, 0), (.if_icmp .ne 13, 66, 3, 49, 79, 0), (.aload_n 0, 69, 1, 41, 0, 0), (.iload_n 2, 70, 1, 40, 2, 0), (.iconst 1, 71, 1, 42, 1, 0), (.iload 6, 72, 2, 40, 6, 0), (.iconst (-1), 74, 1, 42, 4294967295, 0), (.invokevirtual 345, 75, 3, 4, 233, 0), (.ireturn, 78, 1, 1, 1, 0)]),
  (79, [(.iconst 0, 79, 1, 42, 0, 0), (.istore 7, 80, 2, 46, 7, 0)]),
  (82, [(.iload 7, 82, 2, 40, 7, 0), (.aload_n 0, 84, 1, 41, 0, 0), (.iload 6, 85, 2, 40, 6, 0), (.invokevirtual 167, 87, 3, 4, 168, 0), (.if_icmp .ge 43, 90, 3, 51, 133, 0), (.aload_n 0, 93, 1, 41, 0, 0), (.aload_n 0, 94, 1, 41, 0, 0), (.iload 6, 95, 2, 40, 6, 0), (.iload 7, 97, 2, 40, 7, 0), (.invokevirtual 170, 99, 3, 4, 169, 0), (.invokevirtual 213, 102, 3, 4, 182, 0), (.ifCond .ne 22, 105, 3, 57, 127, 0), (.iload 5, 108, 2, 40, 5, 0), (.iinc 5 1, 110, 3, 47, 5, 1), (.iload_n 1, 113, 1, 40, 1, 0), (.if_icmp .ne 13, 114, 3, 49, 127, 0), (.aload_n 0, 117, 1, 41, 0, 0), (.iload_n 2, 118, 1, 40, 2, 0), (.iconst 2, 119, 1, 42, 2, 0), (.iload 6, 120, 2, 40, 6, 0), (.iconst (-1), 122, 1, 42, 4294967295, 0), (.invokevirtual 345, 123, 3, 4, 233, 0), (.ireturn, 126, 1, 1, 1, 0)]),
  (127, [(.iinc 7 1, 127, 3, 47, 7, 1), (.goto (-48), 130, 3, 45, 82, 0)]),
  (133, [(.iconst 0, 133, 1, 42, 0, 0), (.istore 7, 134, 2, 46, 7, 0)]),
  (136, [(.iload 7, 136, 2, 40, 7, 0), (.aload_n 0, 138, 1, 41, 0, 0), (.getfield 234, 139, 3, 43, 8, 16), (.if_icmp .ge 97, 142, 3, 51, 239, 0), (.aload_n 0, 145, 1, 41, 0, 0), (.getfield 57, 146, 3, 43, 8, 17), (.iload 7, 149, 2, 40, 7, 0), (.iaload, 151, 1, 44, 0, 0), (.iload 6, 152, 2, 40, 6, 0), (.if_icmp .ne 79, 154, 3, 49, 233, 0), (.iload 7, 157, 2, 40, 7, 0), (.aload_n 0, 159, 1, 41, 0, 0), (.getfield 78, 160, 3, 43, 8, 24), (.if_icmp .ne 6, 163, 3, 49, 169, 0), (.goto 67, 166, 3, 45, 233, 0)]),
  (169, [(.aload 4, 169, 2, 41, 4, 0), (.astore 8, 171, 2, 74, 8, 0), (.aload 8, 173, 2, 41, 8, 0), (.arraylength, 175, 1, 85, 0, 0), (.istore 9, 176, 2, 46, 9, 0), (.iconst 0, 178, 1, 42, 0, 0), (.istore 10, 179, 2, 46, 10, 0)]),
  (181, [(.iload 10, 181, 2, 40, 10, 0), (.iload 9, 183, 2, 40, 9, 0), (.if_icmp .ge 48, 185, 3, 51, 233, 0), (.aload 8, 188, 2, 41, 8, 0), (.iload 10, 190, 2, 40, 10, 0), (.iaload, 192, 1, 44, 0, 0), (.istore 11, 193, 2, 46, 11, 0), (.aload_n 0, 195, 1, 41, 0, 0), (.iload 7, 196, 2, 40, 7, 0), (.iload 11, 198, 2, 40, 11, 0), (.invokevirtual 349, 200, 3, 4, 231, 0), (.ifCond .eq 24, 203, 3, 56, 227, 0), (.iload 5, 206, 2, 40, 5, 0), (.iinc 5 1, 208, 3, 47, 5, 1), (.iload_n 1, 211, 1, 40, 1, 0), (.if_icmp .ne 15, 212, 3, 49, 227, 0), (.aload_n 0, 215, 1, 41, 0, 0), (.iload_n 2, 216, 1, 40, 2, 0), (.iload 11, 217, 2, 40, 11, 0), (.iload 6, 219, 2, 40, 6, 0), (.iload 7, 221, 2, 40, 7, 0), (.invokevirtual 345, 223, 3, 4, 233, 0), (.ireturn, 226, 1, 1, 1, 0)]),
  (227, [(.iinc 10 1, 227, 3, 47, 10, 1), (.goto (-49), 230, 3, 45, 181, 0)]),
  (233, [(.iinc 7 1, 233, 3, 47, 7, 1), (.goto (-100), 236, 3, 45, 136, 0)]),
  (239, [(.iinc 6 1, 239, 3, 47, 6, 1), (.goto (-214), 242, 3, 45, 28, 0)]),
  (245, [(.iload 5, 245, 2, 40, 5, 0), (.ireturn, 247, 1, 1, 1, 0)])]
def km_234 : mv_I := (yX8_lookFor, cX8_lookFor, 12, (some .int), 3, 0, 8, [])
def kb_235 : List (Nat × List mv_E) := [(0, [(.aload_n 0, 0, 1, 41, 0, 0), (.invokevirtual 216, 1, 3, 4, 142, 0), (.iload_n 1, 4, 1, 40, 1, 0), (.iconst 0, 5, 1, 42, 0, 0), (.aload_n 0, 6, 1, 41, 0, 0), (.iconst (-1), 7, 1, 42, 4294967295, 0), (.iconst 0, 8, 1, 42, 0, 0), (.iconst (-1), 9, 1, 42, 4294967295, 0), (.invokevirtual 246, 10, 3, 4, 234, 0), (.iconst 1, 13, 1, 42, 1, 0), (.isub, 14, 1, 67, 0, 0), (.invokestatic 94, 15, 3, 6, 143, 0), (.ifCond .ne 9, 18, 3, 57, 27, 0), (.aload_n 0, 21, 1, 41, 0, 0), (.iconst 1, 22, 1, 42, 1, 0), (.invokevirtual 219, 23, 3, 4, 141, 0), (.ireturn, 26, 1, 1, 1, 0)]),
  (27, [(.iload_n 2, 27, 1, 40, 2, 0), (.iconst 0, 28, 1, 42, 0, 0), (.iconst 2, 29, 1, 42, 2, 0), (.invokestatic 94, 30, 3, 6, 143, 0), (.ifCond .eq 13, 33, 3, 56, 46, 0), (.aload_n 0, 36, 1, 41, 0, 0), (.iload_n 1, 37, 1, 40, 1, 0), (.iload_n 2, 38, 1, 40, 2, 0), (.iconst (-1), 39, 1, 42, 4294967295, 0), (.invokevirtual 246, 40, 3, 4, 234, 0), (.goto 8, 43, 3, 45, 51, 0)]),
  (46, [(.aload_n 0, 46, 1, 41, 0, 0), (.iconst 2, 47, 1, 42, 2, 0), (.invokevirtual 219, 48, 3, 4, 141, 0)]),
  (51, [(.ireturn, 51, 1, 1, 1, 0)])]
def km_235 : mv_I := (yX8_fault, cX8_fault, 3, (some .int), 2, 0, 8, [])
def kb_236 : List (Nat × List mv_E) := [(0, [(.iconst 0, 0, 1, 42, 0, 0), (.istore_n 1, 1, 1, 46, 1, 0), (.iconst 0, 2, 1, 42, 0, 0), (.istore_n 2, 3, 1, 46, 2, 0)]),
  (4, [(.iload_n 2, 4, 1, 40, 2, 0), (.aload_n 0, 5, 1, 41, 0, 0), (.getfield 36, 6, 3, 43, 8, 9), (.if_icmp .ge 55, 9, 3, 51, 64, 0), (.iconst 0, 12, 1, 42, 0, 0), (.istore_n 3, 13, 1, 46, 3, 0)]),
  (14, [(.iload_n 3, 14, 1, 40, 3, 0), (.aload_n 0, 15, 1, 41, 0, 0), (.getfield 36, 16, 3, 43, 8, 9), (.if_icmp .ge 39, 19, 3, 51, 58, 0), (.aload_n 0, 22, 1, 41, 0, 0), (.aload_n 0, 23, 1, 41, 0, 0), (.getfield 36, 24, 3, 43, 8, 9), (.putfield 39, 27, 3, 55, 8, 40), (.iload_n 1, 30, 1, 40, 1, 0), (.iload_n 2, 31, 1, 40, 2, 0), (.iload_n 3, 32, 1, 40, 3, 0), (.if_icmp .eq 16, 33, 3, 48, 49, 0), (.aload_n 0, 36, 1, 41, 0, 0), (.iload_n 2, 37, 1, 40, 2, 0), (.iload_n 3, 38, 1, 40, 3, 0), (.invokevirtual 197, 39, 3, 4, 177, 0), (.ifCond .eq 7, 42, 3, 56, 49, 0), (.iconst 1, 45, 1, 42, 1, 0), (.goto 4, 46, 3, 45, 50, 0)]),
  (49, [(.iconst 0, 49, 1, 42, 0, 0)]),
  (50, [(.iadd, 50, 1, 54, 0, 0), (.istore_n 1, 51, 1, 46, 1, 0), (.iinc 3 1, 52, 3, 47, 3, 1), (.goto (-41), 55, 3, 45, 14, 0)]),
  (58, [(.iinc 2 1, 58, 3, 47, 2, 1), (.goto (-57), 61, 3, 45, 4, 0)]),
  (64, [(.iload_n 1, 64, 1, 40, 1, 0), (.ireturn, 65, 1, 1, 1, 0)])]
def km_236 : mv_I := (yX8_pairs, cX8_pairs, 4, (some .int), 0, 0, 8, [])
def kb_237 : List (Nat × List mv_E) := [(0, [(.iconst 0, 0, 1, 42, 0, 0), (.istore_n 2, 1, 1, 46, 2, 0), (.iload_n 1, 2, 1, 40, 1, 0), (.tableswitch 121 0 5 #[37, 42, 47, 52, 60, 86], 3, 37, 97, 0, 0)]),
  (40, [(.aload_n 0, 40, 1, 41, 0, 0), (.getfield 7, 41, 3, 43, 8, 1), (.ireturn, 44, 1, 1, 1, 0)]),
  (45, [(.aload_n 0, 45, 1, 41, 0, 0), (.getfield 36, 46, 3, 43, 8, 9), (.ireturn, 49, 1, 1, 1, 0)]),
  (50, [(.aload_n 0, 50, 1, 41, 0, 0), (.getfield 234, 51, 3, 43, 8, 16), (.ireturn, 54, 1, 1, 1, 0)]),
  (55, [(.aload_n 0, 55, 1, 41, 0, 0), (.iconst (-1), 56, 1, 42, 4294967295, 0), (.iconst 0, 57, 1, 42, 0, 0), (.iconst (-1), 58, 1, 42, 4294967295, 0), (.invokevirtual 246, 59, 3, 4, 234, 0), (.ireturn, 62, 1, 1, 1, 0)]),
  (63, [(.iconst 0, 63, 1, 42, 0, 0), (.istore_n 3, 64, 1, 46, 3, 0)]),
  (65, [(.iload_n 3, 65, 1, 40, 3, 0), (.aload_n 0, 66, 1, 41, 0, 0), (.getfield 234, 67, 3, 43, 8, 16), (.if_icmp .ge 17, 70, 3, 51, 87, 0), (.iload_n 2, 73, 1, 40, 2, 0), (.aload_n 0, 74, 1, 41, 0, 0), (.iload_n 3, 75, 1, 40, 3, 0), (.invokevirtual 243, 76, 3, 4, 217, 0), (.iadd, 79, 1, 54, 0, 0), (.istore_n 2, 80, 1, 46, 2, 0), (.iinc 3 1, 81, 3, 47, 3, 1), (.goto (-19), 84, 3, 45, 65, 0)]),
  (87, [(.iload_n 2, 87, 1, 40, 2, 0), (.ireturn, 88, 1, 1, 1, 0)]),
  (89, [(.iconst 0, 89, 1, 42, 0, 0), (.istore_n 3, 90, 1, 46, 3, 0)]),
  (91, [(.iload_n 3, 91, 1, 40, 3, 0), (.aload_n 0, 92, 1, 41, 0, 0), (.getfield 7, 93, 3, 43, 8, 1), (.if_icmp .ge 26, 96, 3, 51, 122, 0), (.iload_n 2, 99, 1, 40, 2, 0), (.aload_n 0, 100, 1, 41, 0, 0), (.getfield 32, 101, 3, 43, 8, 8), (.iload_n 3, 104, 1, 40, 3, 0), (.baload, 105, 1, 82, 0, 0), (.ifCond .eq 7, 106, 3, 56, 113, 0), (.iconst 1, 109, 1, 42, 1, 0), (.goto 4, 110, 3, 45, 114, 0)]),
  (113, [(.iconst 0, 113, 1, 42, 0, 0)]),
  (114, [(.iadd, 114, 1, 54, 0, 0), (.istore_n 2, 115, 1, 46, 2, 0), (.iinc 3 1, 116, 3, 47, 3, 1), (.goto (-28), 119, 3, 45, 91, 0)]),
  (122, [(.iload_n 2, 122, 1, 40, 2, 0), (.ireturn, 123, 1, 1, 1, 0)]),
  (124, [(.aload_n 0, 124, 1, 41, 0, 0), (.invokevirtual 352, 125, 3, 4, 236, 0), (.ireturn, 128, 1, 1, 1, 0)])]
def km_237 : mv_I := (yX8_manyNow, cX8_manyNow, 4, (some .int), 1, 0, 8, [])
def kb_238 : List (Nat × List mv_E) := [(0, [(.aload_n 0, 0, 1, 41, 0, 0), (.invokevirtual 216, 1, 3, 4, 142, 0), (.iload_n 1, 4, 1, 40, 1, 0), (.iconst 0, 5, 1, 42, 0, 0), (.bipush 6, 6, 2, 42, 6, 0), (.invokestatic 94, 8, 3, 6, 143, 0), (.ifCond .eq 11, 11, 3, 56, 22, 0), (.aload_n 0, 14, 1, 41, 0, 0), (.iload_n 1, 15, 1, 40, 1, 0), (.invokevirtual 356, 16, 3, 4, 237, 0), (.goto 8, 19, 3, 45, 27, 0)]),
  (22, [(.aload_n 0, 22, 1, 41, 0, 0), (.iconst 1, 23, 1, 42, 1, 0), (.invokevirtual 219, 24, 3, 4, 141, 0)]),
  (27, [(.ireturn, 27, 1, 1, 1, 0)])]
def km_238 : mv_I := (yX8_many, cX8_many, 2, (some .int), 1, 0, 8, [])
def kb_239 : List (Nat × List mv_E) := [(0, [(.aload_n 0, 0, 1, 41, 0, 0), (.invokevirtual 216, 1, 3, 4, 142, 0), (.iconst 0, 4, 1, 42, 0, 0), (.istore_n 1, 5, 1, 46, 1, 0), (.iconst 0, 6, 1, 42, 0, 0), (.istore_n 2, 7, 1, 46, 2, 0)]),
  (8, [(.iload_n 2, 8, 1, 40, 2, 0), (.aload_n 0, 9, 1, 41, 0, 0), (.getfield 7, 10, 3, 43, 8, 1), (.if_icmp .ge 20, 13, 3, 51, 33, 0), (.iload_n 1, 16, 1, 40, 1, 0), (.aload_n 0, 17, 1, 41, 0, 0), (.iload_n 2, 18, 1, 40, 2, 0), (.invokevirtual 237, 19, 3, 4, 213, 0), (.invokestatic 240, 22, 3, 6, 212, 0), (.iadd, 25, 1, 54, 0, 0), (.istore_n 1, 26, 1, 46, 1, 0), (.iinc 2 1, 27, 3, 47, 2, 1), (.goto (-22), 30, 3, 45, 8, 0)]),
  (33, [(.iload_n 1, 33, 1, 40, 1, 0), (.i2d, 34, 1, 91, 0, 0), (.aload_n 0, 35, 1, 41, 0, 0), (.getfield 7, 36, 3, 43, 8, 1), (.i2d, 39, 1, 91, 0, 0), (.ddiv, 40, 1, 95, 0, 0), (.dreturn, 41, 1, 1, 4, 0)])]
def km_239 : mv_I := (yX8_meanMembers, cX8_meanMembers, 3, (some .double), 0, 0, 8, [])
def kb_240 : List (Nat × List mv_E) := [(0, [(.aload_n 0, 0, 1, 41, 0, 0), (.invokevirtual 216, 1, 3, 4, 142, 0), (.aload_n 0, 4, 1, 41, 0, 0), (.iload_n 1, 5, 1, 40, 1, 0), (.iload_n 2, 6, 1, 40, 2, 0), (.invokevirtual 222, 7, 3, 4, 147, 0), (.ifCond .ne 9, 10, 3, 57, 19, 0), (.aload_n 0, 13, 1, 41, 0, 0), (.iconst 1, 14, 1, 42, 1, 0), (.invokevirtual 219, 15, 3, 4, 141, 0), (.ireturn, 18, 1, 1, 1, 0)]),
  (19, [(.iload_n 3, 19, 1, 40, 3, 0), (.iconst 0, 20, 1, 42, 0, 0), (.iconst 2, 21, 1, 42, 2, 0), (.invokestatic 94, 22, 3, 6, 143, 0), (.ifCond .ne 9, 25, 3, 57, 34, 0), (.aload_n 0, 28, 1, 41, 0, 0), (.iconst 2, 29, 1, 42, 2, 0), (.invokevirtual 219, 30, 3, 4, 141, 0), (.ireturn, 33, 1, 1, 1, 0)]),
  (34, [(.aload_n 0, 34, 1, 41, 0, 0), (.getfield 17, 35, 3, 43, 8, 3), (.iconst 2, 38, 1, 42, 2, 0), (.iload_n 1, 39, 1, 40, 1, 0), (.imul, 40, 1, 62, 0, 0), (.iload_n 2, 41, 1, 40, 2, 0), (.iadd, 42, 1, 54, 0, 0), (.iaload, 43, 1, 44, 0, 0), (.istore 4, 44, 2, 46, 4, 0), (.aload_n 0, 46, 1, 41, 0, 0), (.getfield 17, 47, 3, 43, 8, 3), (.iconst 2, 50, 1, 42, 2, 0), (.iload_n 1, 51, 1, 40, 1, 0), (.imul, 52, 1, 62, 0, 0), (.iload_n 2, 53, 1, 40, 2, 0), (.iadd, 54, 1, 54, 0, 0), (.iload_n 3, 55, 1, 40, 3, 0), (.iastore, 56, 1, 63, 0, 0), (.aload_n 0, 57, 1, 41, 0, 0), (.invokevirtual 352, 58, 3, 4, 236, 0), (.istore 5, 61, 2, 46, 5, 0), (.aload_n 0, 63, 1, 41, 0, 0), (.getfield 17, 64, 3, 43, 8, 3), (.iconst 2, 67, 1, 42, 2, 0), (.iload_n 1, 68, 1, 40, 1, 0), (.imul, 69, 1, 62, 0, 0), (.iload_n 2, 70, 1, 40, 2, 0), (.iadd, 71, 1, 54, 0, 0), (.iload 4, 72, 2, 40, 4, 0), (.iastore, 74, 1, 63, 0, 0), (.iload 5, 75, 2, 40, 5, 0), (.ireturn, 77, 1, 1, 1, 0)])]
def km_240 : mv_I := (yX8_pairsWith, cX8_pairsWith, 6, (some .int), 3, 0, 8, [])
def kb_241 : List (Nat × List mv_E) := [(0, [(.aload_n 0, 0, 1, 41, 0, 0), (.iload_n 1, 1, 1, 40, 1, 0), (.putfield 78, 2, 3, 55, 8, 96), (.aload_n 0, 5, 1, 41, 0, 0), (.iconst (-1), 6, 1, 42, 4294967295, 0), (.iconst 0, 7, 1, 42, 0, 0), (.iconst (-1), 8, 1, 42, 4294967295, 0), (.invokevirtual 246, 9, 3, 4, 234, 0), (.istore_n 2, 12, 1, 46, 2, 0), (.aload_n 0, 13, 1, 41, 0, 0), (.iconst (-1), 14, 1, 42, 4294967295, 0), (.putfield 78, 15, 3, 55, 8, 96), (.iload_n 2, 18, 1, 40, 2, 0), (.ireturn, 19, 1, 1, 1, 0)])]
def km_241 : mv_I := (yX8_withoutNow, cX8_withoutNow, 3, (some .int), 1, 0, 8, [])
def kb_242 : List (Nat × List mv_E) := [(0, [(.aload_n 0, 0, 1, 41, 0, 0), (.invokevirtual 216, 1, 3, 4, 142, 0), (.iload_n 1, 4, 1, 40, 1, 0), (.iconst 0, 5, 1, 42, 0, 0), (.aload_n 0, 6, 1, 41, 0, 0), (.getfield 234, 7, 3, 43, 8, 16), (.iconst 1, 10, 1, 42, 1, 0), (.isub, 11, 1, 67, 0, 0), (.invokestatic 94, 12, 3, 6, 143, 0), (.ifCond .eq 11, 15, 3, 56, 26, 0), (.aload_n 0, 18, 1, 41, 0, 0), (.iload_n 1, 19, 1, 40, 1, 0), (.invokevirtual 359, 20, 3, 4, 241, 0), (.goto 8, 23, 3, 45, 31, 0)]),
  (26, [(.aload_n 0, 26, 1, 41, 0, 0), (.iconst 1, 27, 1, 42, 1, 0), (.invokevirtual 219, 28, 3, 4, 141, 0)]),
  (31, [(.ireturn, 31, 1, 1, 1, 0)])]
def km_242 : mv_I := (yX8_faultsWithout, cX8_faultsWithout, 2, (some .int), 1, 0, 8, [])
def kb_243 : List (Nat × List mv_E) := [(0, [(.aload_n 0, 0, 1, 41, 0, 0), (.invokevirtual 216, 1, 3, 4, 142, 0), (.ldc2_w 362, 4, 3, 88, 58134, 0), (.lstore_n 1, 7, 1, 75, 1, 0), (.iconst 0, 8, 1, 42, 0, 0), (.istore_n 3, 9, 1, 46, 3, 0)]),
  (10, [(.iload_n 3, 10, 1, 40, 3, 0), (.bipush 7, 11, 2, 42, 7, 0), (.if_icmp .ge 22, 13, 3, 51, 35, 0), (.lload_n 1, 16, 1, 72, 1, 0), (.ldc2_w 364, 17, 3, 88, 31, 0), (.lmul, 20, 1, 93, 0, 0), (.aload_n 0, 21, 1, 41, 0, 0), (.iload_n 3, 22, 1, 40, 3, 0), (.invokevirtual 356, 23, 3, 4, 237, 0), (.i2l, 26, 1, 90, 0, 0), (.ladd, 27, 1, 92, 0, 0), (.lstore_n 1, 28, 1, 75, 1, 0), (.iinc 3 1, 29, 3, 47, 3, 1), (.goto (-22), 32, 3, 45, 10, 0)]),
  (35, [(.iconst 0, 35, 1, 42, 0, 0), (.istore_n 3, 36, 1, 46, 3, 0)]),
  (37, [(.iload_n 3, 37, 1, 40, 3, 0), (.aload_n 0, 38, 1, 41, 0, 0), (.getfield 7, 39, 3, 43, 8, 1), (.if_icmp .ge 72, 42, 3, 51, 114, 0), (.aload_n 0, 45, 1, 41, 0, 0), (.aload_n 0, 46, 1, 41, 0, 0), (.getfield 36, 47, 3, 43, 8, 9), (.putfield 39, 50, 3, 55, 8, 40), (.iconst 0, 53, 1, 42, 0, 0), (.istore 4, 54, 2, 46, 4, 0)]),
  (56, [(.iload 4, 56, 2, 40, 4, 0), (.bipush 8, 58, 2, 42, 8, 0), (.if_icmp .ge 24, 60, 3, 51, 84, 0), (.lload_n 1, 63, 1, 72, 1, 0), (.ldc2_w 364, 64, 3, 88, 31, 0), (.lmul, 67, 1, 93, 0, 0), (.aload_n 0, 68, 1, 41, 0, 0), (.iload_n 3, 69, 1, 40, 3, 0), (.iload 4, 70, 2, 40, 4, 0), (.invokevirtual 249, 72, 3, 4, 187, 0), (.i2l, 75, 1, 90, 0, 0), (.ladd, 76, 1, 92, 0, 0), (.lstore_n 1, 77, 1, 75, 1, 0), (.iinc 4 1, 78, 3, 47, 4, 1), (.goto (-25), 81, 3, 45, 56, 0)]),
  (84, [(.lload_n 1, 84, 1, 72, 1, 0), (.ldc2_w 364, 85, 3, 88, 31, 0), (.lmul, 88, 1, 93, 0, 0), (.aload_n 0, 89, 1, 41, 0, 0), (.iconst 2, 90, 1, 42, 2, 0), (.iconst 1, 91, 1, 42, 1, 0), (.iload_n 3, 92, 1, 40, 3, 0), (.ishl, 93, 1, 70, 0, 0), (.invokevirtual 280, 94, 3, 4, 204, 0), (.ifCond .eq 7, 97, 3, 56, 104, 0), (.iconst 1, 100, 1, 42, 1, 0), (.goto 4, 101, 3, 45, 105, 0)]),
  (104, [(.iconst 0, 104, 1, 42, 0, 0)]),
  (105, [(.i2l, 105, 1, 90, 0, 0), (.ladd, 106, 1, 92, 0, 0), (.lstore_n 1, 107, 1, 75, 1, 0), (.iinc 3 1, 108, 3, 47, 3, 1), (.goto (-74), 111, 3, 45, 37, 0)]),
  (114, [(.iconst 0, 114, 1, 42, 0, 0), (.istore_n 3, 115, 1, 46, 3, 0)]),
  (116, [(.iload_n 3, 116, 1, 40, 3, 0), (.aload_n 0, 117, 1, 41, 0, 0), (.getfield 36, 118, 3, 43, 8, 9), (.if_icmp .ge 91, 121, 3, 51, 212, 0), (.aload_n 0, 124, 1, 41, 0, 0), (.aload_n 0, 125, 1, 41, 0, 0), (.getfield 36, 126, 3, 43, 8, 9), (.putfield 39, 129, 3, 55, 8, 40), (.iconst 0, 132, 1, 42, 0, 0), (.istore 4, 133, 2, 46, 4, 0)]),
  (135, [(.iload 4, 135, 2, 40, 4, 0), (.bipush 6, 137, 2, 42, 6, 0), (.if_icmp .ge 24, 139, 3, 51, 163, 0), (.lload_n 1, 142, 1, 72, 1, 0), (.ldc2_w 364, 143, 3, 88, 31, 0), (.lmul, 146, 1, 93, 0, 0), (.aload_n 0, 147, 1, 41, 0, 0), (.iload_n 3, 148, 1, 40, 3, 0), (.iload 4, 149, 2, 40, 4, 0), (.invokevirtual 268, 151, 3, 4, 196, 0), (.i2l, 154, 1, 90, 0, 0), (.ladd, 155, 1, 92, 0, 0), (.lstore_n 1, 156, 1, 75, 1, 0), (.iinc 4 1, 157, 3, 47, 4, 1), (.goto (-25), 160, 3, 45, 135, 0)]),
  (163, [(.iconst 0, 163, 1, 42, 0, 0), (.istore 4, 164, 2, 46, 4, 0)]),
  (166, [(.iload 4, 166, 2, 40, 4, 0), (.iload_n 3, 168, 1, 40, 3, 0), (.if_icmp .ge 37, 169, 3, 51, 206, 0), (.aload_n 0, 172, 1, 41, 0, 0), (.aload_n 0, 173, 1, 41, 0, 0), (.getfield 36, 174, 3, 43, 8, 9), (.putfield 39, 177, 3, 55, 8, 40), (.lload_n 1, 180, 1, 72, 1, 0), (.ldc2_w 364, 181, 3, 88, 31, 0), (.lmul, 184, 1, 93, 0, 0), (.aload_n 0, 185, 1, 41, 0, 0), (.aload_n 0, 186, 1, 41, 0, 0), (.iload_n 3, 187, 1, 40, 3, 0), (.iload 4, 188, 2, 40, 4, 0), (.iconst 0, 190, 1, 42, 0, 0), (.invokevirtual 199, 191, 3, 4, 178, 0), (.invokevirtual 261, 194, 3, 4, 195, 0), (.i2l, 197, 1, 90, 0, 0), (.ladd, 198, 1, 92, 0, 0), (.lstore_n 1, 199, 1, 75, 1, 0), (.iinc 4 1, 200, 3, 47, 4, 1), (.goto (-37), 203, 3, 45, 166, 0)]),
  (206, [(.iinc 3 1, 206, 3, 47, 3, 1), (.goto (-93), 209, 3, 45, 116, 0)]),
  (212, [(.iconst 0, 212, 1, 42, 0, 0), (.istore_n 3, 213, 1, 46, 3, 0)]),
  (214, [(.iload_n 3, 214, 1, 40, 3, 0), (.aload_n 0, 215, 1, 41, 0, 0), (.getfield 234, 216, 3, 43, 8, 16), (.if_icmp .ge 61, 219, 3, 51, 280, 0), (.aload_n 0, 222, 1, 41, 0, 0), (.aload_n 0, 223, 1, 41, 0, 0), (.getfield 36, 224, 3, 43, 8, 9), (.putfield 39, 227, 3, 55, 8, 40), (.iconst 0, 230, 1, 42, 0, 0), (.istore 4, 231, 2, 46, 4, 0)]),
  (233, [(.iload 4, 233, 2, 40, 4, 0), (.bipush 6, 235, 2, 42, 6, 0), (.if_icmp .ge 24, 237, 3, 51, 261, 0), (.lload_n 1, 240, 1, 72, 1, 0), (.ldc2_w 364, 241, 3, 88, 31, 0), (.lmul, 244, 1, 93, 0, 0), (.aload_n 0, 245, 1, 41, 0, 0), (.iload_n 3, 246, 1, 40, 3, 0), (.iload 4, 247, 2, 40, 4, 0), (.invokevirtual 305, 249, 3, 4, 218, 0), (.i2l, 252, 1, 90, 0, 0), (.ladd, 253, 1, 92, 0, 0), (.lstore_n 1, 254, 1, 75, 1, 0), (.iinc 4 1, 255, 3, 47, 4, 1), (.goto (-25), 258, 3, 45, 233, 0)]),
  (261, [(.lload_n 1, 261, 1, 72, 1, 0), (.ldc2_w 364, 262, 3, 88, 31, 0), (.lmul, 265, 1, 93, 0, 0), (.aload_n 0, 266, 1, 41, 0, 0), (.iload_n 3, 267, 1, 40, 3, 0), (.invokevirtual 359, 268, 3, 4, 241, 0), (.i2l, 271, 1, 90, 0, 0), (.ladd, 272, 1, 92, 0, 0), (.lstore_n 1, 273, 1, 75, 1, 0), (.iinc 3 1, 274, 3, 47, 3, 1), (.goto (-63), 277, 3, 45, 214, 0)]),
  (280, [(.aload_n 0, 280, 1, 41, 0, 0), (.aload_n 0, 281, 1, 41, 0, 0), (.getfield 36, 282, 3, 43, 8, 9), (.putfield 39, 285, 3, 55, 8, 40), (.aload_n 0, 288, 1, 41, 0, 0), (.iconst (-1), 289, 1, 42, 4294967295, 0), (.iconst 0, 290, 1, 42, 0, 0), (.iconst (-1), 291, 1, 42, 4294967295, 0), (.invokevirtual 246, 292, 3, 4, 234, 0), (.istore_n 3, 295, 1, 46, 3, 0), (.iconst 0, 296, 1, 42, 0, 0), (.istore 4, 297, 2, 46, 4, 0)]),
  (299, [(.iload 4, 299, 2, 40, 4, 0), (.iload_n 3, 301, 1, 40, 3, 0), (.if_icmp .ge 41, 302, 3, 51, 343, 0), (.iconst 0, 305, 1, 42, 0, 0), (.istore 5, 306, 2, 46, 5, 0)]),
  (308, [(.iload 5, 308, 2, 40, 5, 0), (.iconst 3, 310, 1, 42, 3, 0), (.if_icmp .ge 26, 311, 3, 51, 337, 0), (.lload_n 1, 314, 1, 72, 1, 0), (.ldc2_w 364, 315, 3, 88, 31, 0), (.lmul, 318, 1, 93, 0, 0), (.aload_n 0, 319, 1, 41, 0, 0), (.iload 4, 320, 2, 40, 4, 0), (.iload 5, 322, 2, 40, 5, 0), (.iconst (-1), 324, 1, 42, 4294967295, 0), (.invokevirtual 246, 325, 3, 4, 234, 0), (.i2l, 328, 1, 90, 0, 0), (.ladd, 329, 1, 92, 0, 0), (.lstore_n 1, 330, 1, 75, 1, 0), (.iinc 5 1, 331, 3, 47, 5, 1), (.goto (-26), 334, 3, 45, 308, 0)]),
  (337, [(.iinc 4 1, 337, 3, 47, 4, 1), (.goto (-41), 340, 3, 45, 299, 0)]),
  (343, [(.lload_n 1, 343, 1, 72, 1, 0), (.lreturn, 344, 1, 1, 3, 0)])]
def km_243 : mv_I := (yX8_digest, cX8_digest, 6, (some .long), 0, 0, 8, [])
def kb_244 : List (Nat × List mv_E) := [(0, [(.iload_n 0, 0, 1, 40, 0, 0), (.iload_n 0, 1, 1, 40, 0, 0), (.iconst 1, 2, 1, 42, 1, 0), (.iushr, 3, 1, 96, 0, 0), (.ldc_w 265, 4, 3, 42, 1431655765, 0), (.iand, 7, 1, 64, 0, 0), (.isub, 8, 1, 67, 0, 0), (.istore_n 0, 9, 1, 46, 0, 0), (.iload_n 0, 10, 1, 40, 0, 0), (.ldc_w 266, 11, 3, 42, 858993459, 0), (.iand, 14, 1, 64, 0, 0), (.iload_n 0, 15, 1, 40, 0, 0), (.iconst 2, 16, 1, 42, 2, 0), (.iushr, 17, 1, 96, 0, 0), (.ldc_w 266, 18, 3, 42, 858993459, 0), (.iand, 21, 1, 64, 0, 0), (.iadd, 22, 1, 54, 0, 0), (.istore_n 0, 23, 1, 46, 0, 0), (.iload_n 0, 24, 1, 40, 0, 0), (.iload_n 0, 25, 1, 40, 0, 0), (.iconst 4, 26, 1, 42, 4, 0), (.iushr, 27, 1, 96, 0, 0), (.iadd, 28, 1, 54, 0, 0), (.ldc_w 267, 29, 3, 42, 252645135, 0), (.iand, 32, 1, 64, 0, 0), (.istore_n 0, 33, 1, 46, 0, 0), (.iload_n 0, 34, 1, 40, 0, 0), (.iload_n 0, 35, 1, 40, 0, 0), (.bipush 8, 36, 2, 42, 8, 0), (.iushr, 38, 1, 96, 0, 0), (.iadd, 39, 1, 54, 0, 0), (.istore_n 0, 40, 1, 46, 0, 0), (.iload_n 0, 41, 1, 40, 0, 0), (.iload_n 0, 42, 1, 40, 0, 0), (.bipush 16, 43, 2, 42, 16, 0), (.iushr, 45, 1, 96, 0, 0), (.iadd, 46, 1, 54, 0, 0), (.istore_n 0, 47, 1, 46, 0, 0), (.iload_n 0, 48, 1, 40, 0, 0), (.bipush 63, 49, 2, 42, 63, 0), (.iand, 51, 1, 64, 0, 0), (.ireturn, 52, 1, 1, 1, 0)])]
def km_244 : mv_I := (yJ6_bitCount_0f7a4, cJ6_bitCount_0f7a4, 1, (some .int), 1, 1, 99, [])
def kb_245 : List (Nat × List mv_E) := [(0, [(.iload_n 0, 0, 1, 40, 0, 0), (.iload_n 1, 1, 1, 40, 1, 0), (.if_icmp .lt 7, 2, 3, 50, 9, 0), (.iload_n 0, 5, 1, 40, 0, 0), (.goto 4, 6, 3, 45, 10, 0)]),
  (9, [(.iload_n 1, 9, 1, 40, 1, 0)]),
  (10, [(.ireturn, 10, 1, 1, 1, 0)])]
def km_245 : mv_I := (yJ9_max_7cf53, cJ9_max_7cf53, 2, (some .int), 2, 1, 99, [])
def kb_246 : List (Nat × List mv_E) := [(0, [(.iconst 0, 0, 1, 42, 0, 0), (.istore_n 2, 1, 1, 46, 2, 0), (.aload_n 0, 2, 1, 41, 0, 0), (.arraylength, 3, 1, 85, 0, 0), (.istore_n 3, 4, 1, 46, 3, 0)]),
  (5, [(.iload_n 2, 5, 1, 40, 2, 0), (.iload_n 3, 6, 1, 40, 3, 0), (.if_icmp .ge 13, 7, 3, 51, 20, 0), (.aload_n 0, 10, 1, 41, 0, 0), (.iload_n 2, 11, 1, 40, 2, 0), (.iload_n 1, 12, 1, 40, 1, 0), (.iastore, 13, 1, 63, 0, 0), (.iinc 2 1, 14, 3, 47, 2, 1), (.goto (-12), 17, 3, 45, 5, 0)]),
  (20, [(.return_, 20, 1, 1, 0, 0)])]
def km_246 : mv_I := (yJ7_fill_53178, cJ7_fill_53178, 4, none, 2, 1, 99, [])
def kb_247 : List (Nat × List mv_E) := [(0, [(.aload 4, 0, 2, 41, 4, 0), (.iconst 0, 2, 1, 42, 0, 0), (.aload_n 0, 3, 1, 41, 0, 0), (.iload_n 1, 4, 1, 40, 1, 0), (.iload_n 2, 5, 1, 40, 2, 0), (.iload_n 3, 6, 1, 40, 3, 0), (.invokevirtual 7, 7, 3, 4, 97, 0), (.i2l, 10, 1, 90, 0, 0), (.lastore, 11, 1, 83, 0, 0), (.goto 11, 12, 3, 45, 23, 0)]),
  (15, [(.astore 5, 15, 2, 20, 5, 0), (.iconst 1, 17, 1, 42, 1, 0), (.ireturn, 18, 1, 1, 1, 0)]),
  (19, [(.astore 5, 19, 2, 20, 5, 0), (.iconst 2, 21, 1, 42, 2, 0), (.ireturn, 22, 1, 1, 1, 0)]),
  (23, [(.iconst 0, 23, 1, 42, 0, 0), (.ireturn, 24, 1, 1, 1, 0)])]
def km_247 : mv_I := (yL_kind, cL_kind, 6, (some .int), 5, 3, 99, [(0, 12, 15, 13), (0, 12, 19, 15)])
def kb_248 : List (Nat × List mv_E) := [(0, [(.aload 4, 0, 2, 41, 4, 0), (.iconst 0, 2, 1, 42, 0, 0), (.aload_n 0, 3, 1, 41, 0, 0), (.iload_n 1, 4, 1, 40, 1, 0), (.iload_n 2, 5, 1, 40, 2, 0), (.iload_n 3, 6, 1, 40, 3, 0), (.invokevirtual 17, 7, 3, 4, 98, 0), (.i2l, 10, 1, 90, 0, 0), (.lastore, 11, 1, 83, 0, 0), (.goto 11, 12, 3, 45, 23, 0)]),
  (15, [(.astore 5, 15, 2, 20, 5, 0), (.iconst 1, 17, 1, 42, 1, 0), (.ireturn, 18, 1, 1, 1, 0)]),
  (19, [(.astore 5, 19, 2, 20, 5, 0), (.iconst 2, 21, 1, 42, 2, 0), (.ireturn, 22, 1, 1, 1, 0)]),
  (23, [(.iconst 0, 23, 1, 42, 0, 0), (.ireturn, 24, 1, 1, 1, 0)])]
def km_248 : mv_I := (yL_bound, cL_bound, 6, (some .int), 5, 3, 99, [(0, 12, 15, 21), (0, 12, 19, 13)])
def kb_249 : List (Nat × List mv_E) := [(0, [(.aload_n 3, 0, 1, 41, 3, 0), (.iconst 0, 1, 1, 42, 0, 0), (.aload_n 0, 2, 1, 41, 0, 0), (.iload_n 1, 3, 1, 40, 1, 0), (.iload_n 2, 4, 1, 40, 2, 0), (.invokevirtual 23, 5, 3, 4, 99, 0), (.i2l, 8, 1, 90, 0, 0), (.lastore, 9, 1, 83, 0, 0), (.goto 15, 10, 3, 45, 25, 0)]),
  (13, [(.astore 4, 13, 2, 20, 4, 0), (.iconst 1, 15, 1, 42, 1, 0), (.ireturn, 16, 1, 1, 1, 0)]),
  (17, [(.astore 4, 17, 2, 20, 4, 0), (.iconst 2, 19, 1, 42, 2, 0), (.ireturn, 20, 1, 1, 1, 0)]),
  (21, [(.astore 4, 21, 2, 20, 4, 0), (.iconst 3, 23, 1, 42, 3, 0), (.ireturn, 24, 1, 1, 1, 0)]),
  (25, [(.iconst 0, 25, 1, 42, 0, 0), (.ireturn, 26, 1, 1, 1, 0)])]
def km_249 : mv_I := (yL_extend, cL_extend, 5, (some .int), 4, 3, 99, [(0, 10, 13, 21), (0, 10, 17, 13), (0, 10, 21, 15)])
def kb_250 : List (Nat × List mv_E) := [(0, [(.aload_n 3, 0, 1, 41, 3, 0), (.iconst 0, 1, 1, 42, 0, 0), (.aload_n 0, 2, 1, 41, 0, 0), (.iload_n 1, 3, 1, 40, 1, 0), (.iload_n 2, 4, 1, 40, 2, 0), (.invokevirtual 27, 5, 3, 4, 100, 0), (.i2l, 8, 1, 90, 0, 0), (.lastore, 9, 1, 83, 0, 0), (.goto 11, 10, 3, 45, 21, 0)]),
  (13, [(.astore 4, 13, 2, 20, 4, 0), (.iconst 1, 15, 1, 42, 1, 0), (.ireturn, 16, 1, 1, 1, 0)]),
  (17, [(.astore 4, 17, 2, 20, 4, 0), (.iconst 2, 19, 1, 42, 2, 0), (.ireturn, 20, 1, 1, 1, 0)]),
  (21, [(.iconst 0, 21, 1, 42, 0, 0), (.ireturn, 22, 1, 1, 1, 0)])]
def km_250 : mv_I := (yL_ofKind, cL_ofKind, 5, (some .int), 4, 3, 99, [(0, 10, 13, 21), (0, 10, 17, 13)])
def kb_251 : List (Nat × List mv_E) := [(0, [(.aload 4, 0, 2, 41, 4, 0), (.iconst 0, 2, 1, 42, 0, 0), (.aload_n 0, 3, 1, 41, 0, 0), (.iload_n 1, 4, 1, 40, 1, 0), (.iload_n 2, 5, 1, 40, 2, 0), (.iload_n 3, 6, 1, 40, 3, 0), (.invokevirtual 30, 7, 3, 4, 101, 0), (.i2l, 10, 1, 90, 0, 0), (.lastore, 11, 1, 83, 0, 0), (.goto 15, 12, 3, 45, 27, 0)]),
  (15, [(.astore 5, 15, 2, 20, 5, 0), (.iconst 1, 17, 1, 42, 1, 0), (.ireturn, 18, 1, 1, 1, 0)]),
  (19, [(.astore 5, 19, 2, 20, 5, 0), (.iconst 2, 21, 1, 42, 2, 0), (.ireturn, 22, 1, 1, 1, 0)]),
  (23, [(.astore 5, 23, 2, 20, 5, 0), (.iconst 3, 25, 1, 42, 3, 0), (.ireturn, 26, 1, 1, 1, 0)]),
  (27, [(.iconst 0, 27, 1, 42, 0, 0), (.ireturn, 28, 1, 1, 1, 0)])]
def km_251 : mv_I := (yL_of, cL_of, 6, (some .int), 5, 3, 99, [(0, 12, 15, 21), (0, 12, 19, 13), (0, 12, 23, 15)])
def kb_252 : List (Nat × List mv_E) := [(0, [(.aload_n 3, 0, 1, 41, 3, 0), (.iconst 0, 1, 1, 42, 0, 0), (.aload_n 0, 2, 1, 41, 0, 0), (.iload_n 1, 3, 1, 40, 1, 0), (.iload_n 2, 4, 1, 40, 2, 0), (.invokevirtual 33, 5, 3, 4, 102, 0), (.i2l, 8, 1, 90, 0, 0), (.lastore, 9, 1, 83, 0, 0), (.goto 11, 10, 3, 45, 21, 0)]),
  (13, [(.astore 4, 13, 2, 20, 4, 0), (.iconst 1, 15, 1, 42, 1, 0), (.ireturn, 16, 1, 1, 1, 0)]),
  (17, [(.astore 4, 17, 2, 20, 4, 0), (.iconst 2, 19, 1, 42, 2, 0), (.ireturn, 20, 1, 1, 1, 0)]),
  (21, [(.iconst 0, 21, 1, 42, 0, 0), (.ireturn, 22, 1, 1, 1, 0)])]
def km_252 : mv_I := (yL_parameter, cL_parameter, 5, (some .int), 4, 3, 99, [(0, 10, 13, 21), (0, 10, 17, 15)])
def kb_253 : List (Nat × List mv_E) := [(0, [(.aload_n 2, 0, 1, 41, 2, 0), (.iconst 0, 1, 1, 42, 0, 0), (.aload_n 0, 2, 1, 41, 0, 0), (.iload_n 1, 3, 1, 40, 1, 0), (.invokevirtual 36, 4, 3, 4, 103, 0), (.i2l, 7, 1, 90, 0, 0), (.lastore, 8, 1, 83, 0, 0), (.goto 12, 9, 3, 45, 21, 0)]),
  (12, [(.astore_n 3, 12, 1, 20, 3, 0), (.iconst 1, 13, 1, 42, 1, 0), (.ireturn, 14, 1, 1, 1, 0)]),
  (15, [(.astore_n 3, 15, 1, 20, 3, 0), (.iconst 2, 16, 1, 42, 2, 0), (.ireturn, 17, 1, 1, 1, 0)]),
  (18, [(.astore_n 3, 18, 1, 20, 3, 0), (.iconst 3, 19, 1, 42, 3, 0), (.ireturn, 20, 1, 1, 1, 0)]),
  (21, [(.iconst 0, 21, 1, 42, 0, 0), (.ireturn, 22, 1, 1, 1, 0)])]
def km_253 : mv_I := (yL_array, cL_array, 4, (some .int), 3, 3, 99, [(0, 9, 12, 21), (0, 9, 15, 13), (0, 9, 18, 15)])
def kb_254 : List (Nat × List mv_E) := [(0, [(.aload_n 3, 0, 1, 41, 3, 0), (.iconst 0, 1, 1, 42, 0, 0), (.aload_n 0, 2, 1, 41, 0, 0), (.iload_n 1, 3, 1, 40, 1, 0), (.iload_n 2, 4, 1, 40, 2, 0), (.invokevirtual 40, 5, 3, 4, 104, 0), (.i2l, 8, 1, 90, 0, 0), (.lastore, 9, 1, 83, 0, 0), (.goto 11, 10, 3, 45, 21, 0)]),
  (13, [(.astore 4, 13, 2, 20, 4, 0), (.iconst 1, 15, 1, 42, 1, 0), (.ireturn, 16, 1, 1, 1, 0)]),
  (17, [(.astore 4, 17, 2, 20, 4, 0), (.iconst 2, 19, 1, 42, 2, 0), (.ireturn, 20, 1, 1, 1, 0)]),
  (21, [(.iconst 0, 21, 1, 42, 0, 0), (.ireturn, 22, 1, 1, 1, 0)])]
def km_254 : mv_I := (yL_ofType, cL_ofType, 5, (some .int), 4, 3, 99, [(0, 10, 13, 21), (0, 10, 17, 13)])
def kb_255 : List (Nat × List mv_E) := [(0, [(.aload_n 3, 0, 1, 41, 3, 0), (.iconst 0, 1, 1, 42, 0, 0), (.aload_n 0, 2, 1, 41, 0, 0), (.iload_n 1, 3, 1, 40, 1, 0), (.iload_n 2, 4, 1, 40, 2, 0), (.invokevirtual 43, 5, 3, 4, 105, 0), (.ifCond .eq 7, 8, 3, 56, 15, 0), (.lconst 1, 11, 1, 88, 1, 0), (.goto 4, 12, 3, 45, 16, 0)]),
  (15, [(.lconst 0, 15, 1, 88, 0, 0)]),
  (16, [(.lastore, 16, 1, 83, 0, 0), (.goto 7, 17, 3, 45, 24, 0)]),
  (20, [(.astore 4, 20, 2, 20, 4, 0), (.iconst 1, 22, 1, 42, 1, 0), (.ireturn, 23, 1, 1, 1, 0)]),
  (24, [(.iconst 0, 24, 1, 42, 0, 0), (.ireturn, 25, 1, 1, 1, 0)])]
def km_255 : mv_I := (yL_isBelow, cL_isBelow, 5, (some .int), 4, 3, 99, [(0, 17, 20, 21)])
def kb_256 : List (Nat × List mv_E) := [(0, [(.aload_n 3, 0, 1, 41, 3, 0), (.iconst 0, 1, 1, 42, 0, 0), (.aload_n 0, 2, 1, 41, 0, 0), (.iload_n 1, 3, 1, 40, 1, 0), (.iload_n 2, 4, 1, 40, 2, 0), (.invokevirtual 47, 5, 3, 4, 106, 0), (.i2l, 8, 1, 90, 0, 0), (.lastore, 9, 1, 83, 0, 0), (.goto 7, 10, 3, 45, 17, 0)]),
  (13, [(.astore 4, 13, 2, 20, 4, 0), (.iconst 1, 15, 1, 42, 1, 0), (.ireturn, 16, 1, 1, 1, 0)]),
  (17, [(.iconst 0, 17, 1, 42, 0, 0), (.ireturn, 18, 1, 1, 1, 0)])]
def km_256 : mv_I := (yL_join, cL_join, 5, (some .int), 4, 3, 99, [(0, 10, 13, 21)])
def kb_257 : List (Nat × List mv_E) := [(0, [(.aload_n 3, 0, 1, 41, 3, 0), (.iconst 0, 1, 1, 42, 0, 0), (.aload_n 0, 2, 1, 41, 0, 0), (.iload_n 1, 3, 1, 40, 1, 0), (.iload_n 2, 4, 1, 40, 2, 0), (.invokevirtual 50, 5, 3, 4, 107, 0), (.i2l, 8, 1, 90, 0, 0), (.lastore, 9, 1, 83, 0, 0), (.goto 7, 10, 3, 45, 17, 0)]),
  (13, [(.astore 4, 13, 2, 20, 4, 0), (.iconst 1, 15, 1, 42, 1, 0), (.ireturn, 16, 1, 1, 1, 0)]),
  (17, [(.iconst 0, 17, 1, 42, 0, 0), (.ireturn, 18, 1, 1, 1, 0)])]
def km_257 : mv_I := (yL_as, cL_as, 5, (some .int), 4, 3, 99, [(0, 10, 13, 21)])
def kb_258 : List (Nat × List mv_E) := [(0, [(.aload_n 3, 0, 1, 41, 3, 0), (.iconst 0, 1, 1, 42, 0, 0), (.aload_n 0, 2, 1, 41, 0, 0), (.iload_n 1, 3, 1, 40, 1, 0), (.iload_n 2, 4, 1, 40, 2, 0), (.invokevirtual 53, 5, 3, 4, 108, 0), (.ifCond .eq 7, 8, 3, 56, 15, 0), (.lconst 1, 11, 1, 88, 1, 0), (.goto 4, 12, 3, 45, 16, 0)]),
  (15, [(.lconst 0, 15, 1, 88, 0, 0)]),
  (16, [(.lastore, 16, 1, 83, 0, 0), (.goto 11, 17, 3, 45, 28, 0)]),
  (20, [(.astore 4, 20, 2, 20, 4, 0), (.iconst 1, 22, 1, 42, 1, 0), (.ireturn, 23, 1, 1, 1, 0)]),
  (24, [(.astore 4, 24, 2, 20, 4, 0), (.iconst 2, 26, 1, 42, 2, 0), (.ireturn, 27, 1, 1, 1, 0)]),
  (28, [(.iconst 0, 28, 1, 42, 0, 0), (.ireturn, 29, 1, 1, 1, 0)])]
def km_258 : mv_I := (yL_areAll, cL_areAll, 5, (some .int), 4, 3, 99, [(0, 17, 20, 21), (0, 17, 24, 13)])
def kb_259 : List (Nat × List mv_E) := [(0, [(.aload 8, 0, 2, 41, 8, 0), (.iconst 0, 2, 1, 42, 0, 0), (.aload_n 0, 3, 1, 41, 0, 0), (.iload_n 1, 4, 1, 40, 1, 0), (.iload_n 2, 5, 1, 40, 2, 0), (.iload_n 3, 6, 1, 40, 3, 0), (.iload 4, 7, 2, 40, 4, 0), (.iload 5, 9, 2, 40, 5, 0), (.iload 6, 11, 2, 40, 6, 0), (.iload 7, 13, 2, 40, 7, 0), (.invokevirtual 56, 15, 3, 4, 109, 0), (.i2l, 18, 1, 90, 0, 0), (.lastore, 19, 1, 83, 0, 0), (.goto 15, 20, 3, 45, 35, 0)]),
  (23, [(.astore 9, 23, 2, 20, 9, 0), (.iconst 1, 25, 1, 42, 1, 0), (.ireturn, 26, 1, 1, 1, 0)]),
  (27, [(.astore 9, 27, 2, 20, 9, 0), (.iconst 2, 29, 1, 42, 2, 0), (.ireturn, 30, 1, 1, 1, 0)]),
  (31, [(.astore 9, 31, 2, 20, 9, 0), (.iconst 3, 33, 1, 42, 3, 0), (.ireturn, 34, 1, 1, 1, 0)]),
  (35, [(.iconst 0, 35, 1, 42, 0, 0), (.ireturn, 36, 1, 1, 1, 0)])]
def km_259 : mv_I := (yL_method, cL_method, 10, (some .int), 9, 3, 99, [(0, 20, 23, 21), (0, 20, 27, 13), (0, 20, 31, 15)])
def kb_260 : List (Nat × List mv_E) := [(0, [(.aload_n 3, 0, 1, 41, 3, 0), (.iconst 0, 1, 1, 42, 0, 0), (.aload_n 0, 2, 1, 41, 0, 0), (.iload_n 1, 3, 1, 40, 1, 0), (.iload_n 2, 4, 1, 40, 2, 0), (.invokevirtual 60, 5, 3, 4, 110, 0), (.i2l, 8, 1, 90, 0, 0), (.lastore, 9, 1, 83, 0, 0), (.goto 11, 10, 3, 45, 21, 0)]),
  (13, [(.astore 4, 13, 2, 20, 4, 0), (.iconst 1, 15, 1, 42, 1, 0), (.ireturn, 16, 1, 1, 1, 0)]),
  (17, [(.astore 4, 17, 2, 20, 4, 0), (.iconst 2, 19, 1, 42, 2, 0), (.ireturn, 20, 1, 1, 1, 0)]),
  (21, [(.iconst 0, 21, 1, 42, 0, 0), (.ireturn, 22, 1, 1, 1, 0)])]
def km_260 : mv_I := (yL_variable, cL_variable, 5, (some .int), 4, 3, 99, [(0, 10, 13, 21), (0, 10, 17, 13)])
def kb_261 : List (Nat × List mv_E) := [(0, [(.aload_n 3, 0, 1, 41, 3, 0), (.iconst 0, 1, 1, 42, 0, 0), (.aload_n 0, 2, 1, 41, 0, 0), (.iload_n 1, 3, 1, 40, 1, 0), (.iload_n 2, 4, 1, 40, 2, 0), (.invokevirtual 63, 5, 3, 4, 111, 0), (.i2l, 8, 1, 90, 0, 0), (.lastore, 9, 1, 83, 0, 0), (.goto 11, 10, 3, 45, 21, 0)]),
  (13, [(.astore 4, 13, 2, 20, 4, 0), (.iconst 1, 15, 1, 42, 1, 0), (.ireturn, 16, 1, 1, 1, 0)]),
  (17, [(.astore 4, 17, 2, 20, 4, 0), (.iconst 2, 19, 1, 42, 2, 0), (.ireturn, 20, 1, 1, 1, 0)]),
  (21, [(.iconst 0, 21, 1, 42, 0, 0), (.ireturn, 22, 1, 1, 1, 0)])]
def km_261 : mv_I := (yL_ofMethod, cL_ofMethod, 5, (some .int), 4, 3, 99, [(0, 10, 13, 21), (0, 10, 17, 13)])
def kb_262 : List (Nat × List mv_E) := [(0, [(.aload 7, 0, 2, 41, 7, 0), (.iconst 0, 2, 1, 42, 0, 0), (.aload_n 0, 3, 1, 41, 0, 0), (.iload_n 1, 4, 1, 40, 1, 0), (.iload_n 2, 5, 1, 40, 2, 0), (.iload_n 3, 6, 1, 40, 3, 0), (.iload 4, 7, 2, 40, 4, 0), (.iload 5, 9, 2, 40, 5, 0), (.iload 6, 11, 2, 40, 6, 0), (.invokevirtual 66, 13, 3, 4, 112, 0), (.i2l, 16, 1, 90, 0, 0), (.lastore, 17, 1, 83, 0, 0), (.goto 11, 18, 3, 45, 29, 0)]),
  (21, [(.astore 8, 21, 2, 20, 8, 0), (.iconst 1, 23, 1, 42, 1, 0), (.ireturn, 24, 1, 1, 1, 0)]),
  (25, [(.astore 8, 25, 2, 20, 8, 0), (.iconst 2, 27, 1, 42, 2, 0), (.ireturn, 28, 1, 1, 1, 0)]),
  (29, [(.iconst 0, 29, 1, 42, 0, 0), (.ireturn, 30, 1, 1, 1, 0)])]
def km_262 : mv_I := (yL_call, cL_call, 9, (some .int), 8, 3, 99, [(0, 18, 21, 21), (0, 18, 25, 13)])
def kb_263 : List (Nat × List mv_E) := [(0, [(.aload_n 3, 0, 1, 41, 3, 0), (.iconst 0, 1, 1, 42, 0, 0), (.aload_n 0, 2, 1, 41, 0, 0), (.iload_n 1, 3, 1, 40, 1, 0), (.iload_n 2, 4, 1, 40, 2, 0), (.invokevirtual 70, 5, 3, 4, 113, 0), (.i2l, 8, 1, 90, 0, 0), (.lastore, 9, 1, 83, 0, 0), (.goto 11, 10, 3, 45, 21, 0)]),
  (13, [(.astore 4, 13, 2, 20, 4, 0), (.iconst 1, 15, 1, 42, 1, 0), (.ireturn, 16, 1, 1, 1, 0)]),
  (17, [(.astore 4, 17, 2, 20, 4, 0), (.iconst 2, 19, 1, 42, 2, 0), (.ireturn, 20, 1, 1, 1, 0)]),
  (21, [(.iconst 0, 21, 1, 42, 0, 0), (.ireturn, 22, 1, 1, 1, 0)])]
def km_263 : mv_I := (yL_members, cL_members, 5, (some .int), 4, 3, 99, [(0, 10, 13, 21), (0, 10, 17, 13)])
def kb_264 : List (Nat × List mv_E) := [(0, [(.aload_n 3, 0, 1, 41, 3, 0), (.iconst 0, 1, 1, 42, 0, 0), (.aload_n 0, 2, 1, 41, 0, 0), (.iload_n 1, 3, 1, 40, 1, 0), (.iload_n 2, 4, 1, 40, 2, 0), (.invokevirtual 73, 5, 3, 4, 114, 0), (.i2l, 8, 1, 90, 0, 0), (.lastore, 9, 1, 83, 0, 0), (.goto 11, 10, 3, 45, 21, 0)]),
  (13, [(.astore 4, 13, 2, 20, 4, 0), (.iconst 1, 15, 1, 42, 1, 0), (.ireturn, 16, 1, 1, 1, 0)]),
  (17, [(.astore 4, 17, 2, 20, 4, 0), (.iconst 2, 19, 1, 42, 2, 0), (.ireturn, 20, 1, 1, 1, 0)]),
  (21, [(.iconst 0, 21, 1, 42, 0, 0), (.ireturn, 22, 1, 1, 1, 0)])]
def km_264 : mv_I := (yL_fault, cL_fault, 5, (some .int), 4, 3, 99, [(0, 10, 13, 21), (0, 10, 17, 13)])
def kb_265 : List (Nat × List mv_E) := [(0, [(.aload_n 2, 0, 1, 41, 2, 0), (.iconst 0, 1, 1, 42, 0, 0), (.aload_n 0, 2, 1, 41, 0, 0), (.iload_n 1, 3, 1, 40, 1, 0), (.invokevirtual 76, 4, 3, 4, 115, 0), (.i2l, 7, 1, 90, 0, 0), (.lastore, 8, 1, 83, 0, 0), (.goto 6, 9, 3, 45, 15, 0)]),
  (12, [(.astore_n 3, 12, 1, 20, 3, 0), (.iconst 1, 13, 1, 42, 1, 0), (.ireturn, 14, 1, 1, 1, 0)]),
  (15, [(.iconst 0, 15, 1, 42, 0, 0), (.ireturn, 16, 1, 1, 1, 0)])]
def km_265 : mv_I := (yL_many, cL_many, 4, (some .int), 3, 3, 99, [(0, 9, 12, 13)])
def kb_266 : List (Nat × List mv_E) := [(0, [(.aload 4, 0, 2, 41, 4, 0), (.iconst 0, 2, 1, 42, 0, 0), (.aload_n 0, 3, 1, 41, 0, 0), (.iload_n 1, 4, 1, 40, 1, 0), (.iload_n 2, 5, 1, 40, 2, 0), (.iload_n 3, 6, 1, 40, 3, 0), (.invokevirtual 79, 7, 3, 4, 117, 0), (.i2l, 10, 1, 90, 0, 0), (.lastore, 11, 1, 83, 0, 0), (.goto 11, 12, 3, 45, 23, 0)]),
  (15, [(.astore 5, 15, 2, 20, 5, 0), (.iconst 1, 17, 1, 42, 1, 0), (.ireturn, 18, 1, 1, 1, 0)]),
  (19, [(.astore 5, 19, 2, 20, 5, 0), (.iconst 2, 21, 1, 42, 2, 0), (.ireturn, 22, 1, 1, 1, 0)]),
  (23, [(.iconst 0, 23, 1, 42, 0, 0), (.ireturn, 24, 1, 1, 1, 0)])]
def km_266 : mv_I := (yL_pairsWith, cL_pairsWith, 6, (some .int), 5, 3, 99, [(0, 12, 15, 21), (0, 12, 19, 13)])
def kb_267 : List (Nat × List mv_E) := [(0, [(.aload_n 2, 0, 1, 41, 2, 0), (.iconst 0, 1, 1, 42, 0, 0), (.aload_n 0, 2, 1, 41, 0, 0), (.iload_n 1, 3, 1, 40, 1, 0), (.invokevirtual 82, 4, 3, 4, 118, 0), (.i2l, 7, 1, 90, 0, 0), (.lastore, 8, 1, 83, 0, 0), (.goto 6, 9, 3, 45, 15, 0)]),
  (12, [(.astore_n 3, 12, 1, 20, 3, 0), (.iconst 1, 13, 1, 42, 1, 0), (.ireturn, 14, 1, 1, 1, 0)]),
  (15, [(.iconst 0, 15, 1, 42, 0, 0), (.ireturn, 16, 1, 1, 1, 0)])]
def km_267 : mv_I := (yL_faultsWithout, cL_faultsWithout, 4, (some .int), 3, 3, 99, [(0, 9, 12, 21)])
def mv_kbs : List (List (List (Nat × List mv_E))) := [[kb_0, kb_1, kb_2, kb_3, kb_4, kb_5, kb_6, kb_7, kb_8, kb_9, kb_10, kb_11, kb_12, kb_13, kb_14, kb_15],
  [kb_16, kb_17, kb_18, kb_19, kb_20, kb_21, kb_22, kb_23, kb_24, kb_25, kb_26, kb_27, kb_28, kb_29, kb_30, kb_31],
  [kb_32, kb_33, kb_34, kb_35, kb_36, kb_37, kb_38, kb_39, kb_40, kb_41, kb_42, kb_43, kb_44, kb_45, kb_46, kb_47],
  [kb_48, kb_49, kb_50, kb_51, kb_52, kb_53, kb_54, kb_55, kb_56, kb_57, kb_58, kb_59, kb_60, kb_61, kb_62, kb_63],
  [kb_64, kb_65, kb_66, kb_67, kb_68, kb_69, kb_70, kb_71, kb_72, kb_73, kb_74, kb_75, kb_76, kb_77, kb_78, kb_79],
  [kb_80, kb_81, kb_82, kb_83, kb_84, kb_85, kb_86, kb_87, kb_88, kb_89, kb_90, kb_91, kb_92, kb_93, kb_94, kb_95],
  [kb_96, kb_97, kb_98, kb_99, kb_100, kb_101, kb_102, kb_103, kb_104, kb_105, kb_106, kb_107, kb_108, kb_109, kb_110, kb_111],
  [kb_112, kb_113, kb_114, kb_115, kb_116, kb_117, kb_118, kb_119, kb_120, kb_121, kb_122, kb_123, kb_124, kb_125, kb_126, kb_127],
  [kb_128, kb_129, kb_130, kb_131, kb_132, kb_133, kb_134, kb_135, kb_136, kb_137, kb_138, kb_139, kb_140, kb_141, kb_142, kb_143],
  [kb_144, kb_145, kb_146, kb_147, kb_148, kb_149, kb_150, kb_151, kb_152, kb_153, kb_154, kb_155, kb_156, kb_157, kb_158, kb_159],
  [kb_160, kb_161, kb_162, kb_163, kb_164, kb_165, kb_166, kb_167, kb_168, kb_169, kb_170, kb_171, kb_172, kb_173, kb_174, kb_175],
  [kb_176, kb_177, kb_178, kb_179, kb_180, kb_181, kb_182, kb_183, kb_184, kb_185, kb_186, kb_187, kb_188, kb_189, kb_190, kb_191],
  [kb_192, kb_193, kb_194, kb_195, kb_196, kb_197, kb_198, kb_199, kb_200, kb_201, kb_202, kb_203, kb_204, kb_205, kb_206, kb_207],
  [kb_208, kb_209, kb_210, kb_211, kb_212, kb_213, kb_214, kb_215, kb_216, kb_217, kb_218, kb_219, kb_220, kb_221, kb_222, kb_223],
  [kb_224, kb_225, kb_226, kb_227, kb_228, kb_229, kb_230, kb_231, kb_232, kb_233, kb_234, kb_235, kb_236, kb_237, kb_238, kb_239],
  [kb_240, kb_241, kb_242, kb_243, kb_244, kb_245, kb_246, kb_247, kb_248, kb_249, kb_250, kb_251, kb_252, kb_253, kb_254, kb_255],
  [kb_256, kb_257, kb_258, kb_259, kb_260, kb_261, kb_262, kb_263, kb_264, kb_265, kb_266, kb_267]]
def mv_kms : List (List mv_I) := [[km_0, km_1, km_2, km_3, km_4, km_5, km_6, km_7, km_8, km_9, km_10, km_11, km_12, km_13, km_14, km_15],
  [km_16, km_17, km_18, km_19, km_20, km_21, km_22, km_23, km_24, km_25, km_26, km_27, km_28, km_29, km_30, km_31],
  [km_32, km_33, km_34, km_35, km_36, km_37, km_38, km_39, km_40, km_41, km_42, km_43, km_44, km_45, km_46, km_47],
  [km_48, km_49, km_50, km_51, km_52, km_53, km_54, km_55, km_56, km_57, km_58, km_59, km_60, km_61, km_62, km_63],
  [km_64, km_65, km_66, km_67, km_68, km_69, km_70, km_71, km_72, km_73, km_74, km_75, km_76, km_77, km_78, km_79],
  [km_80, km_81, km_82, km_83, km_84, km_85, km_86, km_87, km_88, km_89, km_90, km_91, km_92, km_93, km_94, km_95],
  [km_96, km_97, km_98, km_99, km_100, km_101, km_102, km_103, km_104, km_105, km_106, km_107, km_108, km_109, km_110, km_111],
  [km_112, km_113, km_114, km_115, km_116, km_117, km_118, km_119, km_120, km_121, km_122, km_123, km_124, km_125, km_126, km_127],
  [km_128, km_129, km_130, km_131, km_132, km_133, km_134, km_135, km_136, km_137, km_138, km_139, km_140, km_141, km_142, km_143],
  [km_144, km_145, km_146, km_147, km_148, km_149, km_150, km_151, km_152, km_153, km_154, km_155, km_156, km_157, km_158, km_159],
  [km_160, km_161, km_162, km_163, km_164, km_165, km_166, km_167, km_168, km_169, km_170, km_171, km_172, km_173, km_174, km_175],
  [km_176, km_177, km_178, km_179, km_180, km_181, km_182, km_183, km_184, km_185, km_186, km_187, km_188, km_189, km_190, km_191],
  [km_192, km_193, km_194, km_195, km_196, km_197, km_198, km_199, km_200, km_201, km_202, km_203, km_204, km_205, km_206, km_207],
  [km_208, km_209, km_210, km_211, km_212, km_213, km_214, km_215, km_216, km_217, km_218, km_219, km_220, km_221, km_222, km_223],
  [km_224, km_225, km_226, km_227, km_228, km_229, km_230, km_231, km_232, km_233, km_234, km_235, km_236, km_237, km_238, km_239],
  [km_240, km_241, km_242, km_243, km_244, km_245, km_246, km_247, km_248, km_249, km_250, km_251, km_252, km_253, km_254, km_255],
  [km_256, km_257, km_258, km_259, km_260, km_261, km_262, km_263, km_264, km_265, km_266, km_267]]
noncomputable def mv_fb (l : List (Nat × List mv_E)) (pc : Nat) : Option (List mv_E) := List.rec (motive := fun _ => Option (List mv_E)) none (fun x _ ih => bif Nat.beq x.1 pc then some x.2 else ih) l
noncomputable def mv_bk (mid pc : Nat) : Option (List mv_E) := match mv_gt mv_kbs (mid / 16) with
  | some r => match mv_gt r (mid % 16) with
    | some b => mv_fb b pc
    | none => none
  | none => none
noncomputable def mv_mi (mid : Nat) : mv_I := match mv_gt mv_kms (mid / 16) with
  | some r => match mv_gt r (mid % 16) with
    | some b => b
    | none => km_0
  | none => km_0
def mv_ck : List (List Cond) := [k2_sels lw_privs_1, k2_sels lw_privs_2, k2_sels lw_privs_3, k2_sels lw_privs_4, k2_sels lw_privs_5, k2_sels lw_privs_6, k2_sels lw_privs_7, k2_sels lw_privs_8, k2_sels lw_privs_9, tables_1_1, tables_1_2, tables_1_3, tables_1_4, tables_1_5, tables_1_6, tables_1_7]
def kp_0 : List (Nat × Nat) := [(9, 0), (9, 1), (9, 11), (9, 20), (9, 21), (9, 22), (10, 175), (10, 197), (11, 226), (12, 118), (12, 144), (12, 165), (12, 169), (12, 188), (12, 195), (12, 203), (12, 207), (12, 215), (12, 219), (12, 231), (12, 235), (13, 26), (13, 34), (13, 38), (13, 117), (13, 125), (13, 133), (13, 137), (13, 144), (13, 148), (13, 149), (13, 150), (14, 16), (14, 20), (14, 35), (14, 80), (14, 84), (14, 223), (14, 239), (15, 3), (15, 7), (15, 28), (15, 32), (15, 52), (15, 56), (15, 76), (15, 88), (15, 92), (15, 100), (15, 108), (15, 136), (15, 140), (15, 152), (15, 156), (15, 160), (15, 168), (15, 174)]
def kp_1 : List (Nat × Nat) := [(9, 10), (9, 26), (9, 27), (9, 113), (10, 122), (10, 123), (10, 124), (10, 125), (10, 126), (10, 127), (10, 128), (10, 129), (10, 130)]
def kp_2 : List (Nat × Nat) := [(9, 10), (10, 129), (10, 131), (10, 132), (13, 47), (13, 48), (13, 49)]
def kp_3 : List (Nat × Nat) := [(9, 10), (10, 133), (13, 59), (13, 60), (13, 61), (13, 62), (13, 100)]
def kp_4 : List (Nat × Nat) := [(9, 10), (9, 80), (9, 236), (9, 239), (10, 125), (10, 127), (10, 128), (10, 133), (13, 79), (13, 84), (13, 89), (13, 113), (13, 114), (13, 115), (13, 116)]
def kp_5 : List (Nat × Nat) := [(3, 8), (9, 10), (9, 89), (10, 6), (10, 125), (10, 128), (13, 64), (13, 65), (13, 66), (13, 74), (13, 85), (13, 99)]
def kp_6 : List (Nat × Nat) := [(3, 9), (9, 10), (9, 232), (10, 128), (10, 131), (10, 133), (13, 68), (13, 69), (13, 70)]
def kp_7 : List (Nat × Nat) := [(3, 10), (9, 10), (9, 70), (9, 232), (10, 125), (10, 128), (10, 130), (10, 131), (10, 133), (13, 76), (13, 77), (13, 78), (13, 79)]
def kp_8 : List (Nat × Nat) := [(3, 11), (9, 10), (9, 226), (10, 125), (10, 126), (10, 128), (10, 132), (13, 81), (13, 82), (13, 83), (13, 84)]
def kp_9 : List (Nat × Nat) := [(3, 12), (9, 10), (9, 239), (10, 125), (10, 127), (10, 128), (10, 129), (10, 130), (10, 131), (13, 84), (13, 87), (13, 88), (13, 89), (13, 94), (13, 95)]
def kp_10 : List (Nat × Nat) := [(3, 13), (9, 10), (10, 127), (10, 129), (10, 130), (10, 131), (10, 133), (13, 91), (13, 92), (13, 93)]
def kp_11 : List (Nat × Nat) := [(3, 14), (9, 10), (10, 127), (10, 133), (13, 94), (13, 97), (13, 98)]
def kp_12 : List (Nat × Nat) := [(3, 15), (9, 10), (10, 6), (10, 128), (13, 102), (13, 103), (13, 104)]
def kp_13 : List (Nat × Nat) := [(4, 0), (9, 10), (10, 6), (10, 128), (13, 106), (13, 107), (13, 108)]
def kp_14 : List (Nat × Nat) := [(4, 1), (9, 10), (9, 89), (9, 239), (10, 125), (10, 127), (10, 128), (10, 130), (10, 131), (13, 84), (13, 94), (13, 99), (13, 110), (13, 111)]
def kp_15 : List (Nat × Nat) := [(9, 8), (9, 26), (9, 27), (9, 113), (10, 28), (10, 29), (10, 30), (10, 31), (10, 32), (10, 33), (10, 35), (10, 37)]
def kp_16 : List (Nat × Nat) := [(9, 8), (9, 179), (10, 31), (10, 39), (10, 78), (10, 80), (12, 107), (12, 108), (12, 109), (12, 110), (12, 114)]
def kp_17 : List (Nat × Nat) := [(2, 13), (9, 8), (9, 224), (10, 5), (10, 32), (10, 68), (10, 70), (10, 74), (10, 76), (12, 110), (12, 116), (12, 117)]
def kp_18 : List (Nat × Nat) := [(2, 12), (9, 8), (10, 33), (10, 35), (10, 37), (10, 39), (12, 112), (12, 113)]
def kp_19 : List (Nat × Nat) := [(9, 8), (10, 35), (10, 39), (11, 106), (11, 107), (11, 108)]
def kp_20 : List (Nat × Nat) := [(9, 8), (10, 37), (10, 39), (11, 219), (11, 220), (11, 221), (11, 222)]
def kp_21 : List (Nat × Nat) := [(1, 11), (9, 8), (10, 33), (10, 37), (10, 68), (10, 70), (11, 224), (11, 225)]
def kp_22 : List (Nat × Nat) := [(9, 2), (9, 26), (9, 27), (9, 31), (9, 32), (9, 33), (9, 34), (9, 37), (9, 57), (9, 62), (9, 67), (9, 73), (9, 78), (9, 79), (9, 82), (9, 85), (9, 86), (9, 113)]
def kp_23 : List (Nat × Nat) := [(9, 2), (9, 38), (9, 39), (9, 40), (9, 41), (9, 44), (9, 48), (9, 53), (9, 57), (9, 62), (9, 67), (9, 73), (9, 78), (9, 79), (9, 82), (9, 85), (9, 86), (9, 88)]
def kp_24 : List (Nat × Nat) := [(9, 2), (9, 41), (9, 57), (9, 62), (9, 67), (9, 73), (9, 85), (9, 86), (9, 88), (11, 176), (11, 177), (11, 178)]
def kp_25 : List (Nat × Nat) := [(9, 2), (9, 42), (9, 43)]
def kp_26 : List (Nat × Nat) := [(9, 2), (9, 45), (9, 46), (9, 47), (9, 78)]
def kp_27 : List (Nat × Nat) := [(0, 0), (9, 2), (9, 50), (9, 51), (9, 52), (9, 79)]
def kp_28 : List (Nat × Nat) := [(0, 1), (9, 2), (9, 55), (9, 56), (9, 82)]
def kp_29 : List (Nat × Nat) := [(1, 5), (9, 2), (9, 37), (9, 57), (9, 62), (9, 67), (9, 73), (9, 82), (11, 168), (11, 169), (11, 170), (11, 174)]
def kp_30 : List (Nat × Nat) := [(1, 6), (9, 2), (9, 57), (9, 62), (9, 67), (11, 172), (11, 173), (11, 174)]
def kp_31 : List (Nat × Nat) := [(9, 4), (9, 26), (9, 27), (9, 113), (9, 117), (9, 118), (9, 119), (9, 120), (9, 121), (9, 156), (9, 157), (9, 160), (9, 164), (9, 167), (9, 169), (9, 170), (9, 174)]
def kp_32 : List (Nat × Nat) := [(9, 4), (9, 122), (9, 123), (9, 124), (9, 125), (9, 128), (9, 157), (9, 160), (9, 175), (9, 178)]
def kp_33 : List (Nat × Nat) := [(9, 4), (9, 128), (9, 167), (9, 169), (9, 178), (12, 162), (12, 163), (12, 164)]
def kp_34 : List (Nat × Nat) := [(9, 4), (9, 125), (9, 133), (9, 134), (9, 135), (9, 167)]
def kp_35 : List (Nat × Nat) := [(9, 4), (9, 137), (9, 138), (9, 139), (9, 169)]
def kp_36 : List (Nat × Nat) := [(9, 4), (9, 65), (9, 136), (9, 156), (9, 167), (12, 157), (12, 158), (12, 159)]
def kp_37 : List (Nat × Nat) := [(9, 4), (9, 145), (9, 146), (9, 147), (9, 170)]
def kp_38 : List (Nat × Nat) := [(9, 4), (9, 65), (9, 132), (9, 136), (9, 156), (9, 178), (11, 97), (11, 98), (11, 99)]
def kp_39 : List (Nat × Nat) := [(0, 2), (9, 4), (9, 65), (9, 130), (9, 131), (9, 132), (9, 136), (9, 140), (9, 156), (9, 157), (9, 170), (9, 174)]
def kp_40 : List (Nat × Nat) := [(0, 3), (9, 4), (9, 65), (9, 132), (9, 136), (9, 142), (9, 143), (9, 144), (9, 148), (9, 152), (9, 156)]
def kp_41 : List (Nat × Nat) := [(0, 4), (9, 4), (9, 61), (9, 71), (9, 154), (9, 155), (9, 156)]
def kp_42 : List (Nat × Nat) := [(9, 4), (9, 65), (9, 71), (9, 76), (9, 149), (9, 150), (9, 151), (9, 156), (9, 174)]
def kp_43 : List (Nat × Nat) := [(9, 4), (9, 148), (9, 156), (12, 29), (12, 228), (12, 229), (12, 230)]
def kp_44 : List (Nat × Nat) := [(9, 4), (9, 156), (9, 157), (12, 26), (12, 27), (12, 28), (12, 29)]
def kp_45 : List (Nat × Nat) := [(9, 4), (9, 65), (9, 71), (9, 156), (9, 164), (11, 51), (11, 52), (11, 53)]
def kp_46 : List (Nat × Nat) := [(9, 4), (9, 61), (9, 156), (11, 180), (11, 181), (11, 182), (11, 183)]
def kp_47 : List (Nat × Nat) := [(9, 6), (9, 26), (9, 27), (9, 207), (9, 208), (9, 209), (9, 210), (9, 211)]
def kp_48 : List (Nat × Nat) := [(0, 7), (9, 6), (9, 58), (9, 68), (9, 210), (9, 211), (11, 46), (11, 48), (11, 49), (11, 50), (11, 54), (11, 58)]
def kp_49 : List (Nat × Nat) := [(0, 8), (9, 6), (9, 58), (9, 68), (9, 210), (11, 56), (11, 57)]
def kp_50 : List (Nat × Nat) := [(0, 9), (9, 6), (9, 64), (9, 68), (9, 74), (9, 158), (9, 161), (9, 210), (9, 211), (11, 60), (11, 61), (11, 62), (11, 63), (11, 64)]
def kp_51 : List (Nat × Nat) := [(0, 10), (9, 6), (11, 46), (11, 66), (11, 67), (11, 68)]
def kp_52 : List (Nat × Nat) := [(9, 6), (11, 69), (11, 70)]
def kp_53 : List (Nat × Nat) := [(9, 6), (9, 90), (9, 210), (11, 43), (11, 44), (11, 45), (11, 46)]
def kp_54 : List (Nat × Nat) := [(1, 7), (9, 6), (9, 58), (9, 64), (9, 68), (9, 210), (9, 211), (11, 46), (11, 50), (11, 54), (11, 190), (11, 191), (11, 192), (11, 193), (11, 194), (11, 198)]
def kp_55 : List (Nat × Nat) := [(1, 8), (9, 6), (9, 173), (9, 182), (9, 211), (11, 196), (11, 197)]
def kp_56 : List (Nat × Nat) := [(1, 9), (9, 6), (9, 161), (9, 211), (11, 63), (11, 192), (11, 200), (11, 201), (11, 202)]
def kp_57 : List (Nat × Nat) := [(9, 6), (11, 203), (11, 204)]
def kp_58 : List (Nat × Nat) := [(1, 3), (9, 6), (9, 58), (9, 68), (9, 210), (11, 159), (11, 160), (11, 161), (11, 162)]
def kp_59 : List (Nat × Nat) := [(1, 4), (9, 6), (9, 64), (9, 68), (9, 74), (9, 166), (9, 210), (9, 211), (11, 46), (11, 161), (11, 164), (11, 165), (11, 166)]
def kp_60 : List (Nat × Nat) := [(9, 6), (9, 58), (9, 68), (9, 210), (11, 146), (11, 147), (11, 148), (11, 149)]
def kp_61 : List (Nat × Nat) := [(1, 1), (9, 6), (9, 58), (9, 64), (9, 210), (9, 211), (11, 50), (11, 151), (11, 152)]
def kp_62 : List (Nat × Nat) := [(9, 6), (9, 58), (9, 64), (9, 176), (9, 182), (9, 210), (9, 211), (11, 119), (11, 120), (11, 121), (11, 122), (11, 126), (11, 127), (11, 131)]
def kp_63 : List (Nat × Nat) := [(0, 13), (9, 6), (9, 173), (9, 211), (11, 124), (11, 125)]
def kp_64 : List (Nat × Nat) := [(0, 14), (9, 6), (9, 176), (9, 182), (9, 211), (11, 122), (11, 126), (11, 129), (11, 130)]
def kp_65 : List (Nat × Nat) := [(0, 15), (9, 6), (9, 64), (9, 68), (9, 74), (9, 161), (9, 210), (9, 211), (11, 133), (11, 134), (11, 135), (11, 136), (11, 137)]
def kp_66 : List (Nat × Nat) := [(1, 0), (9, 6), (9, 84), (9, 210), (11, 64), (11, 139), (11, 140)]
def kp_67 : List (Nat × Nat) := [(9, 9), (9, 26), (9, 27), (9, 113), (10, 57), (10, 58), (10, 59), (10, 60), (10, 61), (10, 62), (10, 63), (10, 64), (10, 65), (10, 67), (10, 69), (10, 71), (10, 73), (10, 75), (10, 77), (10, 79), (10, 81), (10, 82), (10, 83), (10, 118)]
def kp_68 : List (Nat × Nat) := [(9, 9), (9, 87), (9, 180), (10, 4), (10, 60), (10, 61), (10, 63), (10, 64), (10, 71), (10, 73), (10, 75), (10, 77), (10, 79), (12, 17), (12, 18), (12, 19), (12, 20), (12, 33), (12, 38), (12, 39), (12, 48), (12, 56), (12, 60), (12, 90), (12, 106)]
def kp_69 : List (Nat × Nat) := [(9, 9), (9, 171), (10, 4), (10, 61), (10, 63), (10, 65), (10, 184), (10, 185), (10, 186), (10, 187)]
def kp_70 : List (Nat × Nat) := [(9, 9), (9, 225), (10, 4), (10, 63), (10, 71), (11, 102), (11, 103), (11, 104)]
def kp_71 : List (Nat × Nat) := [(9, 9), (10, 4), (10, 63), (10, 71), (11, 39), (11, 40), (11, 41)]
def kp_72 : List (Nat × Nat) := [(1, 12), (9, 9), (9, 66), (9, 69), (9, 75), (10, 60), (10, 61), (10, 81), (12, 22), (12, 23), (12, 24), (12, 25), (12, 30), (12, 31), (12, 32)]
def kp_73 : List (Nat × Nat) := [(1, 13), (9, 9), (10, 61), (10, 62), (12, 30), (12, 31), (12, 35), (12, 36), (12, 37)]
def kp_74 : List (Nat × Nat) := [(1, 15), (9, 9), (9, 233), (9, 237), (10, 63), (12, 44), (12, 50), (12, 51), (12, 52)]
def kp_75 : List (Nat × Nat) := [(2, 0), (9, 9), (9, 60), (9, 66), (9, 69), (9, 162), (10, 60), (10, 61), (12, 54), (12, 55)]
def kp_76 : List (Nat × Nat) := [(2, 1), (9, 9), (9, 233), (9, 237), (10, 62), (10, 63), (12, 37), (12, 44), (12, 58), (12, 59)]
def kp_77 : List (Nat × Nat) := [(2, 2), (9, 9), (9, 225), (10, 4), (10, 61), (10, 63), (10, 65), (10, 67), (10, 69), (12, 25), (12, 62), (12, 63), (12, 64), (12, 68), (12, 72), (12, 77), (12, 82), (12, 86)]
def kp_78 : List (Nat × Nat) := [(2, 4), (9, 9), (9, 171), (9, 225), (10, 61), (10, 63), (12, 74), (12, 75)]
def kp_79 : List (Nat × Nat) := [(2, 6), (9, 9), (9, 225), (10, 63), (12, 84), (12, 85)]
def kp_80 : List (Nat × Nat) := [(2, 3), (9, 9), (9, 225), (9, 233), (10, 60), (10, 61), (10, 63), (12, 32), (12, 44), (12, 70), (12, 71), (12, 72), (12, 76)]
def kp_81 : List (Nat × Nat) := [(2, 5), (9, 9), (9, 225), (9, 237), (10, 60), (10, 61), (10, 62), (10, 63), (12, 32), (12, 76), (12, 79), (12, 80), (12, 81)]
def kp_82 : List (Nat × Nat) := [(1, 14), (9, 9), (9, 233), (9, 237), (10, 1), (10, 62), (10, 63), (10, 82), (10, 83), (12, 41), (12, 42), (12, 43), (12, 44)]
def kp_83 : List (Nat × Nat) := [(2, 7), (9, 9), (9, 233), (10, 63), (10, 82), (12, 88), (12, 89)]
def kp_84 : List (Nat × Nat) := [(2, 10), (9, 9), (10, 83), (12, 86), (12, 100), (12, 101)]
def kp_85 : List (Nat × Nat) := [(2, 8), (9, 9), (10, 4), (10, 63), (12, 92), (12, 93), (12, 94), (12, 98), (12, 102)]
def kp_86 : List (Nat × Nat) := [(2, 11), (9, 9), (12, 94), (12, 98), (12, 104), (12, 105)]
def kp_87 : List (Nat × Nat) := [(2, 9), (9, 9), (10, 65), (12, 96), (12, 97)]
def kp_88 : List (Nat × Nat) := [(9, 7), (9, 26), (9, 27), (9, 113), (9, 220), (9, 221), (9, 222), (9, 223), (9, 228), (9, 230), (9, 231), (9, 235), (9, 238)]
def kp_89 : List (Nat × Nat) := [(9, 7), (9, 223), (9, 228), (9, 235), (9, 238), (10, 2), (10, 3), (13, 19), (13, 20), (13, 21)]
def kp_90 : List (Nat × Nat) := [(9, 7), (9, 230), (9, 231), (10, 3), (13, 23), (13, 24), (13, 25)]
def kp_91 : List (Nat × Nat) := [(9, 7), (9, 230), (12, 45), (12, 46), (12, 47)]
def kp_92 : List (Nat × Nat) := [(9, 7), (10, 2), (13, 71), (13, 72), (13, 73)]
def kp_93 : List (Nat × Nat) := [(9, 7), (9, 228), (9, 231), (12, 65), (12, 66), (12, 67)]
def kp_94 : List (Nat × Nat) := [(9, 7), (9, 223), (10, 3), (10, 188), (10, 189), (10, 190)]
def kp_95 : List (Nat × Nat) := [(9, 7), (9, 228), (10, 3), (13, 55), (13, 56), (13, 57)]
def kp_96 : List (Nat × Nat) := [(9, 1), (9, 2), (9, 4), (9, 6), (9, 7), (9, 8), (9, 9), (9, 10), (9, 23), (9, 24), (9, 25), (9, 26), (9, 27), (9, 28), (9, 29), (9, 30), (9, 114), (9, 115), (9, 116), (9, 204), (9, 205), (9, 206), (9, 217), (9, 218), (9, 219), (10, 25), (10, 26), (10, 27), (10, 54), (10, 55), (10, 56), (10, 119), (10, 120), (10, 121), (10, 153), (10, 154), (10, 155), (10, 156), (10, 157), (10, 158), (10, 159)]
def kp_97 : List (Nat × Nat) := [(9, 1), (9, 181), (10, 154), (10, 158), (10, 210), (11, 12), (11, 232), (11, 233), (11, 234), (11, 235), (11, 239), (12, 9), (12, 15), (12, 16)]
def kp_98 : List (Nat × Nat) := [(9, 1), (9, 59), (9, 63), (9, 165), (10, 153), (10, 154), (10, 158), (10, 210), (11, 12), (11, 113), (12, 16), (12, 123), (12, 124), (12, 125), (12, 126), (12, 131)]
def kp_99 : List (Nat × Nat) := [(9, 1), (9, 63), (9, 168), (10, 153), (10, 154), (10, 158), (10, 210), (11, 12), (11, 75), (11, 113), (11, 239), (12, 9), (12, 16), (12, 148), (12, 149), (12, 150), (12, 151), (12, 156), (12, 161)]
def kp_100 : List (Nat × Nat) := [(9, 1), (9, 159), (9, 172), (10, 154), (10, 156), (10, 157), (10, 158), (10, 179), (10, 191), (10, 207), (11, 72), (11, 73), (11, 74), (11, 75), (11, 95), (11, 96), (11, 100), (11, 101), (11, 105)]
def kp_101 : List (Nat × Nat) := [(9, 1), (10, 153), (10, 210), (11, 12), (11, 75), (12, 173), (12, 174), (12, 175), (12, 176), (12, 180), (12, 182)]
def kp_102 : List (Nat × Nat) := [(9, 1), (12, 126), (12, 182), (12, 192), (12, 193), (12, 194)]
def kp_103 : List (Nat × Nat) := [(9, 1), (10, 153), (10, 210), (11, 12), (11, 113), (12, 180), (12, 182), (12, 199), (12, 200), (12, 201)]
def kp_104 : List (Nat × Nat) := [(9, 1), (9, 59), (9, 63), (9, 81), (9, 83), (10, 153), (10, 154), (10, 155), (10, 179), (10, 207), (11, 113), (11, 142), (11, 143), (11, 144), (11, 145), (11, 153), (11, 179)]
def kp_105 : List (Nat × Nat) := [(9, 1), (10, 155), (11, 113), (12, 211), (12, 212), (12, 213), (12, 214)]
def kp_106 : List (Nat × Nat) := [(9, 1), (9, 81), (9, 91), (10, 153), (10, 155), (11, 113), (11, 175), (11, 185), (11, 186), (11, 187), (11, 188)]
def kp_107 : List (Nat × Nat) := [(9, 1), (9, 59), (9, 63), (9, 81), (9, 91), (10, 153), (10, 154), (11, 75), (11, 113), (11, 175), (12, 223), (12, 224), (12, 225), (12, 226), (12, 227)]
def kp_108 : List (Nat × Nat) := [(9, 1), (9, 181), (10, 154), (10, 155), (10, 210), (11, 12), (11, 110), (11, 111), (11, 112), (11, 113), (11, 118)]
def kp_109 : List (Nat × Nat) := [(9, 1), (9, 59), (10, 7), (10, 153), (10, 156), (10, 158), (10, 210), (11, 12), (11, 75), (11, 113), (11, 239), (12, 9), (12, 16), (12, 239), (13, 0), (13, 1), (13, 2), (13, 6), (13, 9), (13, 12), (13, 18), (13, 22)]
def kp_110 : List (Nat × Nat) := [(9, 1), (9, 59), (9, 83), (10, 0), (10, 153), (10, 156), (10, 158), (10, 210), (11, 12), (11, 113), (11, 209), (12, 16), (13, 30), (13, 31), (13, 32)]
def kp_111 : List (Nat × Nat) := [(9, 1), (9, 227), (9, 229), (9, 234), (10, 66), (10, 72), (10, 84), (10, 156), (10, 158), (10, 207), (11, 206), (11, 207), (11, 208), (11, 209)]
def kp_112 : List (Nat × Nat) := [(9, 1), (9, 91), (10, 153), (10, 154), (10, 159), (10, 207), (10, 210), (11, 12), (11, 113), (11, 175), (11, 179), (13, 2), (13, 6), (13, 9), (13, 42), (13, 43), (13, 44), (13, 46), (13, 50), (13, 58), (13, 112)]
def kp_113 : List (Nat × Nat) := [(9, 1), (10, 210), (11, 12), (11, 113), (13, 6), (13, 50), (13, 121), (13, 122), (13, 123)]
def kp_114 : List (Nat × Nat) := [(9, 1), (10, 34), (10, 36), (10, 38), (10, 40), (10, 157), (10, 207), (11, 79), (11, 89), (13, 129), (13, 130), (13, 131)]
def kp_115 : List (Nat × Nat) := [(9, 1), (9, 91), (9, 177), (9, 181), (10, 7), (10, 40), (10, 153), (10, 154), (10, 155), (10, 156), (10, 157), (10, 158), (10, 191), (10, 204), (10, 205), (10, 206), (10, 207), (11, 38), (11, 42)]
def kp_116 : List (Nat × Nat) := [(9, 1), (9, 181), (10, 154), (10, 176), (10, 177), (10, 178), (10, 179)]
def kp_117 : List (Nat × Nat) := [(9, 1), (9, 163), (10, 154), (10, 155), (10, 207), (11, 42), (12, 126), (13, 141), (13, 142), (13, 143)]
def kp_118 : List (Nat × Nat) := [(9, 1), (10, 157), (10, 158), (11, 209), (11, 215), (11, 216), (11, 217), (11, 218)]
def kp_119 : List (Nat × Nat) := [(9, 1), (9, 91), (9, 181), (10, 7), (10, 34), (10, 36), (10, 38), (10, 40), (10, 153), (10, 154), (10, 156), (10, 157), (10, 198), (10, 199), (10, 200), (10, 201), (10, 202), (10, 203), (11, 71), (11, 109), (11, 141), (11, 184), (11, 205), (11, 214)]
def kp_120 : List (Nat × Nat) := [(0, 11), (9, 1), (9, 181), (10, 154), (11, 77), (11, 78), (11, 79), (11, 89)]
def kp_121 : List (Nat × Nat) := [(2, 14), (9, 1), (9, 159), (10, 154), (11, 75), (11, 79), (11, 89), (12, 128), (12, 129)]
def kp_122 : List (Nat × Nat) := [(0, 12), (9, 1), (9, 91), (10, 153), (11, 79), (11, 89), (11, 115), (11, 116)]
def kp_123 : List (Nat × Nat) := [(3, 5), (9, 1), (11, 113), (13, 4), (13, 5)]
def kp_124 : List (Nat × Nat) := [(1, 10), (9, 1), (10, 7), (10, 156), (11, 79), (11, 89), (11, 211), (11, 212)]
def kp_125 : List (Nat × Nat) := [(9, 1), (10, 208), (10, 209), (10, 210), (11, 12)]
def kp_126 : List (Nat × Nat) := [(9, 1), (11, 236), (11, 237)]
def kp_127 : List (Nat × Nat) := [(9, 1), (13, 7), (13, 8)]
def kp_128 : List (Nat × Nat) := [(9, 1), (13, 10), (13, 11)]
def kp_129 : List (Nat × Nat) := [(3, 3), (9, 1), (9, 91), (9, 159), (10, 153), (10, 154), (12, 178), (12, 179)]
def kp_130 : List (Nat × Nat) := [(3, 6), (9, 1), (12, 135), (13, 14), (13, 15)]
def kp_131 : List (Nat × Nat) := [(3, 0), (9, 1), (9, 83), (10, 153), (12, 137), (12, 138)]
def kp_132 : List (Nat × Nat) := [(3, 2), (9, 1), (9, 59), (9, 63), (10, 153), (12, 131), (12, 153), (12, 154)]
def kp_133 : List (Nat × Nat) := [(2, 15), (9, 1), (9, 72), (9, 77), (10, 153), (12, 133), (12, 134), (12, 135), (12, 139)]
def kp_134 : List (Nat × Nat) := [(3, 1), (9, 1), (9, 59), (9, 83), (10, 153), (12, 141), (12, 142)]
def kp_135 : List (Nat × Nat) := [(3, 4), (9, 1), (9, 91), (10, 153), (11, 175), (11, 239), (12, 9), (12, 184), (12, 185), (12, 186)]
def kp_136 : List (Nat × Nat) := [(1, 2), (9, 1), (9, 91), (10, 153), (10, 155), (11, 155), (11, 156), (11, 157), (11, 175)]
def kp_137 : List (Nat × Nat) := [(0, 5), (9, 1), (10, 158), (10, 181), (10, 182), (10, 183), (10, 191)]
def kp_138 : List (Nat × Nat) := [(3, 7), (9, 1), (9, 63), (10, 153), (10, 154), (10, 156), (10, 158), (10, 183), (11, 179), (13, 52), (13, 53), (13, 54)]
def kp_139 : List (Nat × Nat) := [(9, 11), (9, 26), (9, 27), (9, 113), (10, 118), (13, 151), (13, 152), (13, 153), (13, 154), (13, 158), (13, 172), (13, 173), (13, 174), (13, 175), (13, 176), (13, 177), (13, 178), (13, 179), (13, 180), (13, 181), (13, 182), (13, 183), (13, 184), (13, 185), (13, 186), (13, 188), (13, 189), (13, 190), (13, 191), (13, 192), (13, 193), (13, 194), (13, 195), (13, 196)]
def kp_140 : List (Nat × Nat) := [(9, 11), (13, 171), (14, 17), (14, 18), (14, 19)]
def kp_141 : List (Nat × Nat) := [(4, 7), (9, 11), (13, 171), (14, 33), (14, 34)]
def kp_142 : List (Nat × Nat) := [(4, 6), (9, 11), (13, 171), (13, 180), (13, 181), (14, 26), (14, 27)]
def kp_143 : List (Nat × Nat) := [(9, 11), (14, 29), (14, 30)]
def kp_144 : List (Nat × Nat) := [(9, 11), (14, 109), (14, 110)]
def kp_145 : List (Nat × Nat) := [(4, 9), (9, 11), (13, 172), (14, 28), (14, 45), (14, 46)]
def kp_146 : List (Nat × Nat) := [(4, 10), (9, 11), (13, 180), (14, 28), (14, 49), (14, 50)]
def kp_147 : List (Nat × Nat) := [(4, 8), (9, 11), (13, 173), (14, 28), (14, 41), (14, 42), (14, 43)]
def kp_148 : List (Nat × Nat) := [(4, 2), (9, 11), (13, 156), (13, 157), (13, 182), (13, 183), (13, 184), (13, 185), (13, 186)]
def kp_149 : List (Nat × Nat) := [(9, 11), (9, 19), (9, 113), (14, 132), (14, 133), (14, 134), (14, 135), (14, 136)]
def kp_150 : List (Nat × Nat) := [(5, 9), (9, 11), (13, 181), (13, 182), (13, 183), (13, 184), (13, 185), (13, 186), (14, 129), (14, 130)]
def kp_151 : List (Nat × Nat) := [(5, 8), (9, 11), (13, 154), (13, 181), (13, 182), (13, 183), (13, 184), (13, 185), (13, 186), (14, 125), (14, 126), (14, 127), (14, 131)]
def kp_152 : List (Nat × Nat) := [(5, 13), (9, 11), (14, 123), (14, 151), (14, 152)]
def kp_153 : List (Nat × Nat) := [(5, 10), (9, 11), (14, 123), (14, 139), (14, 140)]
def kp_154 : List (Nat × Nat) := [(4, 12), (9, 11), (13, 182), (14, 57), (14, 58)]
def kp_155 : List (Nat × Nat) := [(4, 13), (9, 11), (13, 185), (13, 186), (14, 61), (14, 62)]
def kp_156 : List (Nat × Nat) := [(9, 11), (14, 67), (14, 68)]
def kp_157 : List (Nat × Nat) := [(9, 11), (14, 78), (14, 79)]
def kp_158 : List (Nat × Nat) := [(9, 11), (14, 64), (14, 65)]
def kp_159 : List (Nat × Nat) := [(6, 2), (9, 11), (13, 175), (13, 183), (13, 184), (14, 174), (14, 175)]
def kp_160 : List (Nat × Nat) := [(7, 0), (9, 11), (13, 166), (13, 182), (13, 183), (14, 55), (14, 59), (14, 63), (14, 66), (14, 235), (14, 237), (14, 238)]
def kp_161 : List (Nat × Nat) := [(4, 15), (9, 11), (13, 182), (13, 183), (14, 59), (14, 63), (14, 66), (14, 73), (14, 75), (14, 76)]
def kp_162 : List (Nat × Nat) := [(4, 14), (9, 11), (14, 71), (14, 72), (14, 73)]
def kp_163 : List (Nat × Nat) := [(4, 11), (9, 11), (13, 182), (14, 53), (14, 54), (14, 55), (14, 59), (14, 63), (14, 66), (14, 69), (14, 77)]
def kp_164 : List (Nat × Nat) := [(5, 12), (9, 11), (13, 182), (13, 183), (13, 184), (13, 185), (13, 186), (14, 55), (14, 59), (14, 63), (14, 66), (14, 77), (14, 137), (14, 145), (14, 147), (14, 148), (14, 149), (14, 153)]
def kp_165 : List (Nat × Nat) := [(5, 14), (9, 11), (13, 182), (13, 183), (13, 184), (14, 59), (14, 63), (14, 66), (14, 77), (14, 145), (14, 155), (14, 156)]
def kp_166 : List (Nat × Nat) := [(8, 4), (9, 11), (13, 182), (13, 183), (13, 185), (13, 186), (14, 55), (14, 63), (14, 66), (14, 77), (14, 137), (14, 149), (15, 124), (15, 126), (15, 127)]
def kp_167 : List (Nat × Nat) := [(5, 7), (9, 11), (9, 113), (13, 173), (14, 121), (14, 122), (14, 123), (14, 137)]
def kp_168 : List (Nat × Nat) := [(4, 4), (9, 11), (13, 164), (13, 165), (13, 166), (13, 177)]
def kp_169 : List (Nat × Nat) := [(4, 5), (9, 11), (13, 169), (13, 170), (13, 176), (13, 177)]
def kp_170 : List (Nat × Nat) := [(4, 3), (9, 11), (13, 160), (13, 161), (13, 162), (13, 167), (13, 172), (13, 178), (13, 183)]
def kp_171 : List (Nat × Nat) := [(5, 4), (9, 11), (13, 178), (14, 106), (14, 107), (14, 108)]
def kp_172 : List (Nat × Nat) := [(5, 3), (9, 11), (14, 102), (14, 103), (14, 104)]
def kp_173 : List (Nat × Nat) := [(5, 11), (9, 11), (13, 167), (13, 183), (14, 100), (14, 141), (14, 143), (14, 144), (14, 145)]
def kp_174 : List (Nat × Nat) := [(6, 9), (9, 11), (13, 173), (13, 174), (13, 182), (13, 183), (14, 55), (14, 59), (14, 100), (14, 141), (14, 172), (14, 200), (14, 202), (14, 203), (14, 204)]
def kp_175 : List (Nat × Nat) := [(9, 11), (14, 77), (14, 209), (14, 210)]
def kp_176 : List (Nat × Nat) := [(6, 10), (9, 11), (14, 63), (14, 66), (14, 200), (14, 206), (14, 207), (14, 208)]
def kp_177 : List (Nat × Nat) := [(6, 8), (9, 11), (14, 198), (14, 199), (14, 200)]
def kp_178 : List (Nat × Nat) := [(7, 5), (9, 11), (13, 182), (13, 183), (14, 55), (14, 149), (14, 172), (14, 196), (15, 36), (15, 38), (15, 39), (15, 40)]
def kp_179 : List (Nat × Nat) := [(7, 7), (9, 11), (13, 183), (14, 100), (15, 46), (15, 47)]
def kp_180 : List (Nat × Nat) := [(7, 6), (9, 11), (9, 113), (13, 172), (13, 173), (13, 174), (14, 59), (14, 104), (14, 137), (14, 141), (15, 42), (15, 43), (15, 44), (15, 48)]
def kp_181 : List (Nat × Nat) := [(7, 8), (9, 11), (14, 63), (14, 66), (14, 77), (15, 36), (15, 50), (15, 51)]
def kp_182 : List (Nat × Nat) := [(6, 7), (9, 11), (13, 173), (13, 175), (13, 182), (13, 183), (14, 55), (14, 59), (14, 63), (14, 66), (14, 77), (14, 145), (14, 192), (14, 194), (14, 195), (14, 196)]
def kp_183 : List (Nat × Nat) := [(9, 11), (13, 158), (13, 166), (13, 172), (13, 173), (13, 174), (13, 179), (14, 21), (14, 22), (14, 23), (14, 24), (14, 28), (14, 31)]
def kp_184 : List (Nat × Nat) := [(9, 11), (13, 175), (13, 183), (14, 24), (14, 31), (14, 36), (14, 37), (14, 38), (14, 39), (14, 47), (14, 51), (14, 73)]
def kp_185 : List (Nat × Nat) := [(9, 11), (13, 158), (13, 176), (13, 177), (13, 183), (14, 24), (14, 31), (14, 43), (14, 47), (14, 51), (14, 73), (14, 81), (14, 82), (14, 83)]
def kp_186 : List (Nat × Nat) := [(5, 1), (9, 11), (13, 162), (13, 167), (13, 172), (13, 183), (14, 94), (14, 95)]
def kp_187 : List (Nat × Nat) := [(5, 0), (9, 11), (13, 162), (13, 173), (13, 178), (13, 187), (13, 188), (13, 195), (14, 90), (14, 91), (14, 92), (14, 96), (14, 157), (14, 160), (14, 176)]
def kp_188 : List (Nat × Nat) := [(9, 11), (14, 24), (14, 28), (14, 31), (14, 43), (14, 85), (14, 86), (14, 87), (14, 88)]
def kp_189 : List (Nat × Nat) := [(6, 14), (9, 11), (13, 173), (14, 47), (14, 66), (14, 229), (14, 230)]
def kp_190 : List (Nat × Nat) := [(6, 15), (9, 11), (13, 180), (13, 181), (14, 31), (14, 233), (14, 234), (14, 235)]
def kp_191 : List (Nat × Nat) := [(9, 11), (13, 173), (14, 24), (14, 31), (14, 43), (14, 137), (14, 224), (14, 225), (14, 226), (14, 227), (14, 231)]
def kp_192 : List (Nat × Nat) := [(9, 11), (13, 171), (14, 24), (14, 31), (14, 39), (14, 123), (14, 231), (15, 0), (15, 1), (15, 2)]
def kp_193 : List (Nat × Nat) := [(9, 11), (14, 24), (14, 31), (14, 47), (14, 149), (14, 231), (15, 4), (15, 5), (15, 6)]
def kp_194 : List (Nat × Nat) := [(6, 1), (9, 11), (13, 182), (13, 183), (13, 193), (14, 168), (14, 170), (14, 171), (14, 172)]
def kp_195 : List (Nat × Nat) := [(7, 2), (9, 11), (13, 173), (13, 182), (13, 183), (13, 184), (14, 59), (14, 63), (14, 66), (14, 77), (15, 15), (15, 17), (15, 18), (15, 19)]
def kp_196 : List (Nat × Nat) := [(7, 1), (9, 11), (13, 182), (14, 69), (14, 157), (14, 168), (14, 192), (15, 13), (15, 14), (15, 15), (15, 20)]
def kp_197 : List (Nat × Nat) := [(9, 11), (14, 24), (14, 28), (14, 31), (14, 47), (15, 8), (15, 9), (15, 10), (15, 11)]
def kp_198 : List (Nat × Nat) := [(9, 11), (13, 171), (14, 24), (14, 47), (14, 196), (15, 29), (15, 30), (15, 31)]
def kp_199 : List (Nat × Nat) := [(9, 11), (14, 24), (14, 31), (14, 47), (15, 15), (15, 33), (15, 34), (15, 35), (15, 36)]
def kp_200 : List (Nat × Nat) := [(9, 11), (13, 183), (14, 24), (14, 31), (14, 43), (14, 47), (14, 55), (14, 100), (14, 141), (15, 15), (15, 53), (15, 54), (15, 55)]
def kp_201 : List (Nat × Nat) := [(7, 10), (9, 11), (13, 162), (13, 167), (13, 172), (13, 179), (13, 183), (14, 100), (14, 108), (15, 64), (15, 66), (15, 67), (15, 68)]
def kp_202 : List (Nat × Nat) := [(7, 12), (9, 11), (14, 63), (14, 66), (14, 69), (15, 74), (15, 75)]
def kp_203 : List (Nat × Nat) := [(7, 11), (9, 11), (13, 173), (13, 174), (13, 183), (14, 59), (14, 204), (15, 70), (15, 71), (15, 72)]
def kp_204 : List (Nat × Nat) := [(7, 9), (9, 11), (13, 183), (14, 55), (15, 62), (15, 63), (15, 64)]
def kp_205 : List (Nat × Nat) := [(9, 11), (13, 171), (13, 172), (14, 24), (14, 28), (14, 47), (15, 57), (15, 58), (15, 59), (15, 60)]
def kp_206 : List (Nat × Nat) := [(7, 13), (9, 11), (14, 47), (15, 82), (15, 83)]
def kp_207 : List (Nat × Nat) := [(7, 14), (9, 11), (14, 73), (15, 86), (15, 87)]
def kp_208 : List (Nat × Nat) := [(9, 11), (9, 113), (13, 182), (13, 187), (13, 188), (13, 189), (13, 190), (13, 191), (13, 192), (13, 194), (14, 24), (14, 28), (14, 31), (14, 43), (14, 47), (15, 77), (15, 78), (15, 79), (15, 80), (15, 84)]
def kp_209 : List (Nat × Nat) := [(9, 11), (13, 187), (13, 193), (14, 24), (14, 28), (14, 31), (14, 47), (14, 55), (14, 69), (15, 89), (15, 90), (15, 91)]
def kp_210 : List (Nat × Nat) := [(5, 6), (9, 11), (13, 188), (13, 189), (13, 190), (13, 191), (13, 195), (14, 104), (14, 117), (14, 118), (14, 119), (14, 141), (14, 145)]
def kp_211 : List (Nat × Nat) := [(5, 5), (9, 11), (13, 187), (14, 113), (14, 114), (14, 115)]
def kp_212 : List (Nat × Nat) := [(9, 11), (14, 158), (14, 159)]
def kp_213 : List (Nat × Nat) := [(5, 2), (9, 11), (13, 187), (13, 188), (13, 195), (14, 98), (14, 99), (14, 100), (14, 111)]
def kp_214 : List (Nat × Nat) := [(7, 4), (9, 11), (13, 182), (14, 55), (14, 172), (15, 26), (15, 27)]
def kp_215 : List (Nat × Nat) := [(7, 3), (9, 11), (13, 183), (14, 96), (15, 22), (15, 23), (15, 24)]
def kp_216 : List (Nat × Nat) := [(6, 0), (9, 11), (13, 190), (13, 191), (13, 192), (14, 166), (14, 167), (14, 168)]
def kp_217 : List (Nat × Nat) := [(5, 15), (9, 11), (13, 187), (13, 195), (14, 108), (14, 111), (14, 162), (14, 163), (14, 164)]
def kp_218 : List (Nat × Nat) := [(7, 15), (9, 11), (13, 188), (13, 189), (13, 191), (13, 192), (14, 111), (14, 160), (14, 168), (15, 98), (15, 99)]
def kp_219 : List (Nat × Nat) := [(9, 11), (13, 187), (14, 24), (14, 28), (14, 31), (15, 93), (15, 94), (15, 95), (15, 96)]
def kp_220 : List (Nat × Nat) := [(8, 0), (9, 11), (13, 187), (13, 189), (14, 108), (15, 20), (15, 106), (15, 107)]
def kp_221 : List (Nat × Nat) := [(9, 11), (14, 24), (14, 28), (14, 31), (14, 47), (15, 101), (15, 102), (15, 103), (15, 104)]
def kp_222 : List (Nat × Nat) := [(8, 3), (9, 11), (13, 183), (13, 188), (13, 190), (13, 191), (13, 197), (13, 198), (14, 141), (14, 145), (15, 122), (15, 123)]
def kp_223 : List (Nat × Nat) := [(8, 2), (9, 11), (13, 191), (13, 193), (13, 194), (13, 196), (13, 198), (14, 196), (15, 36), (15, 118), (15, 119), (15, 120), (15, 124), (15, 128)]
def kp_224 : List (Nat × Nat) := [(8, 5), (9, 11), (13, 198), (14, 196), (15, 130), (15, 131)]
def kp_225 : List (Nat × Nat) := [(8, 6), (9, 11), (13, 193), (13, 196), (14, 196), (15, 120), (15, 124), (15, 134), (15, 135)]
def kp_226 : List (Nat × Nat) := [(8, 1), (9, 11), (13, 187), (13, 198), (14, 108), (15, 114), (15, 115), (15, 116), (15, 132)]
def kp_227 : List (Nat × Nat) := [(9, 11), (9, 19), (9, 113), (13, 188), (13, 192), (13, 196), (13, 197), (13, 198), (14, 24), (14, 28), (14, 31), (14, 47), (14, 134), (14, 135), (14, 136), (14, 141), (14, 145), (14, 168), (15, 15), (15, 24), (15, 80), (15, 104), (15, 109), (15, 110), (15, 111), (15, 112), (15, 116), (15, 124)]
def kp_228 : List (Nat × Nat) := [(6, 5), (9, 11), (13, 162), (13, 167), (13, 183), (14, 145), (14, 184), (14, 186), (14, 187)]
def kp_229 : List (Nat × Nat) := [(6, 4), (9, 11), (9, 113), (14, 119), (14, 182), (14, 183), (14, 184)]
def kp_230 : List (Nat × Nat) := [(6, 12), (9, 11), (13, 174), (13, 182), (13, 183), (13, 184), (14, 217), (14, 218)]
def kp_231 : List (Nat × Nat) := [(6, 11), (9, 11), (13, 187), (13, 188), (13, 190), (13, 191), (13, 192), (13, 195), (14, 115), (14, 119), (14, 141), (14, 145), (14, 192), (14, 196), (14, 213), (14, 214), (14, 215), (14, 219)]
def kp_232 : List (Nat × Nat) := [(6, 13), (9, 11), (13, 188), (13, 189), (13, 191), (14, 104), (14, 115), (14, 164), (14, 221), (14, 222)]
def kp_233 : List (Nat × Nat) := [(6, 6), (9, 11), (14, 190), (14, 191)]
def kp_234 : List (Nat × Nat) := [(6, 3), (9, 11), (9, 113), (13, 162), (13, 167), (13, 172), (13, 187), (13, 188), (13, 195), (14, 178), (14, 179), (14, 180), (14, 188), (14, 192), (14, 211)]
def kp_235 : List (Nat × Nat) := [(9, 11), (14, 24), (14, 28), (14, 31), (14, 176), (15, 137), (15, 138), (15, 139)]
def kp_236 : List (Nat × Nat) := [(8, 8), (9, 11), (13, 180), (13, 181), (14, 196), (15, 150), (15, 151)]
def kp_237 : List (Nat × Nat) := [(8, 7), (9, 11), (13, 172), (13, 179), (13, 180), (13, 187), (14, 160), (14, 176), (15, 146), (15, 147), (15, 148)]
def kp_238 : List (Nat × Nat) := [(9, 11), (14, 24), (14, 28), (14, 31), (15, 141), (15, 142), (15, 143), (15, 144)]
def kp_239 : List (Nat × Nat) := [(9, 11), (13, 172), (14, 24), (14, 96), (14, 157), (15, 153), (15, 154), (15, 155)]
def kp_240 : List (Nat × Nat) := [(9, 11), (13, 174), (14, 24), (14, 28), (14, 31), (14, 39), (15, 148), (15, 157), (15, 158), (15, 159)]
def kp_241 : List (Nat × Nat) := [(8, 9), (9, 11), (13, 195), (14, 176), (15, 166), (15, 167)]
def kp_242 : List (Nat × Nat) := [(9, 11), (13, 187), (14, 24), (14, 28), (14, 31), (15, 161), (15, 162), (15, 163), (15, 164)]
def kp_243 : List (Nat × Nat) := [(9, 11), (13, 172), (13, 180), (13, 181), (13, 187), (14, 24), (14, 88), (14, 176), (15, 11), (15, 15), (15, 36), (15, 60), (15, 96), (15, 144), (15, 164), (15, 169), (15, 170), (15, 171), (15, 172), (15, 173)]
def kp_244 : List (Nat × Nat) := [(9, 18), (10, 192), (10, 193), (10, 194), (10, 195), (10, 196)]
def kp_245 : List (Nat × Nat) := [(9, 5), (9, 126), (9, 127)]
def kp_246 : List (Nat × Nat) := [(9, 3), (9, 35), (9, 36)]
def kp_247 : List (Nat × Nat) := [(9, 0), (11, 227), (11, 228), (11, 231)]
def kp_248 : List (Nat × Nat) := [(9, 0), (12, 119), (12, 120), (12, 122)]
def kp_249 : List (Nat × Nat) := [(9, 0), (12, 145), (12, 146), (12, 147)]
def kp_250 : List (Nat × Nat) := [(9, 0), (12, 166), (12, 167), (12, 168)]
def kp_251 : List (Nat × Nat) := [(9, 0), (12, 170), (12, 171), (12, 172)]
def kp_252 : List (Nat × Nat) := [(9, 0), (12, 189), (12, 190), (12, 191)]
def kp_253 : List (Nat × Nat) := [(9, 0), (12, 196), (12, 197), (12, 198)]
def kp_254 : List (Nat × Nat) := [(9, 0), (12, 204), (12, 205), (12, 206)]
def kp_255 : List (Nat × Nat) := [(9, 0), (12, 208), (12, 209), (12, 210)]
def kp_256 : List (Nat × Nat) := [(9, 0), (12, 216), (12, 217), (12, 218)]
def kp_257 : List (Nat × Nat) := [(9, 0), (12, 220), (12, 221), (12, 222)]
def kp_258 : List (Nat × Nat) := [(9, 0), (12, 232), (12, 233), (12, 234)]
def kp_259 : List (Nat × Nat) := [(9, 0), (12, 236), (12, 237), (12, 238)]
def kp_260 : List (Nat × Nat) := [(9, 0), (13, 27), (13, 28), (13, 29)]
def kp_261 : List (Nat × Nat) := [(9, 0), (13, 35), (13, 36), (13, 37)]
def kp_262 : List (Nat × Nat) := [(9, 0), (13, 39), (13, 40), (13, 41)]
def kp_263 : List (Nat × Nat) := [(9, 0), (13, 118), (13, 119), (13, 120)]
def kp_264 : List (Nat × Nat) := [(9, 0), (13, 126), (13, 127), (13, 128)]
def kp_265 : List (Nat × Nat) := [(9, 0), (13, 134), (13, 135), (13, 136)]
def kp_266 : List (Nat × Nat) := [(9, 0), (13, 138), (13, 139), (13, 140)]
def kp_267 : List (Nat × Nat) := [(9, 0), (13, 145), (13, 146), (13, 147)]
def mv_kps : List (List (List (Nat × Nat))) := [[kp_0, kp_1, kp_2, kp_3, kp_4, kp_5, kp_6, kp_7, kp_8, kp_9, kp_10, kp_11, kp_12, kp_13, kp_14, kp_15],
  [kp_16, kp_17, kp_18, kp_19, kp_20, kp_21, kp_22, kp_23, kp_24, kp_25, kp_26, kp_27, kp_28, kp_29, kp_30, kp_31],
  [kp_32, kp_33, kp_34, kp_35, kp_36, kp_37, kp_38, kp_39, kp_40, kp_41, kp_42, kp_43, kp_44, kp_45, kp_46, kp_47],
  [kp_48, kp_49, kp_50, kp_51, kp_52, kp_53, kp_54, kp_55, kp_56, kp_57, kp_58, kp_59, kp_60, kp_61, kp_62, kp_63],
  [kp_64, kp_65, kp_66, kp_67, kp_68, kp_69, kp_70, kp_71, kp_72, kp_73, kp_74, kp_75, kp_76, kp_77, kp_78, kp_79],
  [kp_80, kp_81, kp_82, kp_83, kp_84, kp_85, kp_86, kp_87, kp_88, kp_89, kp_90, kp_91, kp_92, kp_93, kp_94, kp_95],
  [kp_96, kp_97, kp_98, kp_99, kp_100, kp_101, kp_102, kp_103, kp_104, kp_105, kp_106, kp_107, kp_108, kp_109, kp_110, kp_111],
  [kp_112, kp_113, kp_114, kp_115, kp_116, kp_117, kp_118, kp_119, kp_120, kp_121, kp_122, kp_123, kp_124, kp_125, kp_126, kp_127],
  [kp_128, kp_129, kp_130, kp_131, kp_132, kp_133, kp_134, kp_135, kp_136, kp_137, kp_138, kp_139, kp_140, kp_141, kp_142, kp_143],
  [kp_144, kp_145, kp_146, kp_147, kp_148, kp_149, kp_150, kp_151, kp_152, kp_153, kp_154, kp_155, kp_156, kp_157, kp_158, kp_159],
  [kp_160, kp_161, kp_162, kp_163, kp_164, kp_165, kp_166, kp_167, kp_168, kp_169, kp_170, kp_171, kp_172, kp_173, kp_174, kp_175],
  [kp_176, kp_177, kp_178, kp_179, kp_180, kp_181, kp_182, kp_183, kp_184, kp_185, kp_186, kp_187, kp_188, kp_189, kp_190, kp_191],
  [kp_192, kp_193, kp_194, kp_195, kp_196, kp_197, kp_198, kp_199, kp_200, kp_201, kp_202, kp_203, kp_204, kp_205, kp_206, kp_207],
  [kp_208, kp_209, kp_210, kp_211, kp_212, kp_213, kp_214, kp_215, kp_216, kp_217, kp_218, kp_219, kp_220, kp_221, kp_222, kp_223],
  [kp_224, kp_225, kp_226, kp_227, kp_228, kp_229, kp_230, kp_231, kp_232, kp_233, kp_234, kp_235, kp_236, kp_237, kp_238, kp_239],
  [kp_240, kp_241, kp_242, kp_243, kp_244, kp_245, kp_246, kp_247, kp_248, kp_249, kp_250, kp_251, kp_252, kp_253, kp_254, kp_255],
  [kp_256, kp_257, kp_258, kp_259, kp_260, kp_261, kp_262, kp_263, kp_264, kp_265, kp_266, kp_267]]
def mv_pms : List Nat := [131, 155, 156, 158, 161]
def mv_NR : Nat := 17
/-- the exception that the law's class names at a pool number -/
def mv_xn (i : Nat) : Nat := bif Nat.beq i 13 then 0 else bif Nat.beq i 15 then 2 else bif Nat.beq i 21 then 1 else 9
end
section
/-! ===== the tables are true ===== -/
noncomputable def mv_blk (mid : Nat) : List (Nat × List mv_E) := match mv_gt mv_kbs (mid / 16) with
  | some r => match mv_gt r (mid % 16) with
    | some b => b
    | none => []
  | none => []
noncomputable def mv_pl (mid : Nat) : List (Nat × Nat) := match mv_gt mv_kps (mid / 16) with
  | some r => match mv_gt r (mid % 16) with
    | some b => b
    | none => []
  | none => []
noncomputable def mv_wd (q : Nat × Nat) : Option Cond := match mv_gt mv_ck q.1 with
  | some r => mv_gt r q.2
  | none => none
noncomputable def mv_cand (mid : Nat) : List Cond := ((mv_pl mid).filterMap mv_wd).filter goodWord
noncomputable def mv_ckb (cd : List Cond) (x : mv_I) (bl : List (Nat × List mv_E)) : Bool := mv_fl cd (fun cd => mv_vm cd mv_xn x && bl.all (fun q => mv_vL cd mv_mi x q.1 q.2))
noncomputable def mv_ckm (mid : Nat) : Bool := mv_ckb (mv_cand mid) (mv_mi mid) (mv_blk mid)
noncomputable def mv_rw (j : Nat) : Bool := (List.range 16).all (fun i => mv_ckm (16 * j + i))
theorem mv_ck_in : ∀ r ∈ mv_ck, ∀ w ∈ r, w ∈ lw_tbl := by
  have hs : ∀ (a b : List (MethodName × Nat)), k2_sels (a ++ b) = k2_sels a ++ k2_sels b := fun a b => List.map_append
  have e : lw_tbl = (k2_sels lw_privs_1 ++ (k2_sels lw_privs_2 ++ (k2_sels lw_privs_3 ++ (k2_sels lw_privs_4 ++ (k2_sels lw_privs_5 ++ (k2_sels lw_privs_6 ++ (k2_sels lw_privs_7 ++ (k2_sels lw_privs_8 ++ k2_sels lw_privs_9)))))))) ++ (tables_1_1 ++ (tables_1_2 ++ (tables_1_3 ++ (tables_1_4 ++ (tables_1_5 ++ (tables_1_6 ++ tables_1_7)))))) := by
    unfold lw_tbl lw_privs tables_1
    rw [hs, hs, hs, hs, hs, hs, hs, hs]
  intro r hr w hw
  rw [e]
  simp only [List.mem_append]
  unfold mv_ck at hr
  simp only [List.mem_cons, List.not_mem_nil, or_false] at hr
  rcases hr with rfl | rfl | rfl | rfl | rfl | rfl | rfl | rfl | rfl | rfl | rfl | rfl | rfl | rfl | rfl | rfl
  all_goals simp only [hw, true_or, or_true]
theorem mv_cand_in (mid : Nat) : ∀ w ∈ mv_cand mid, w ∈ mv_big := by
  intro w hw
  obtain ⟨h1, h2⟩ := List.mem_filter.mp hw
  obtain ⟨q, -, h3⟩ := List.mem_filterMap.mp h1
  refine List.mem_filter.mpr ⟨?_, h2⟩
  unfold mv_wd at h3
  split at h3
  · rename_i r hr
    rw [mv_gt_eq] at hr h3
    exact mv_ck_in r (List.mem_of_getElem? hr) w (List.mem_of_getElem? h3)
  · cases h3
theorem mv_fb_in {pc : Nat} {L : List mv_E} : ∀ {l : List (Nat × List mv_E)}, mv_fb l pc = some L → (pc, L) ∈ l
  | [], h => by cases h
  | x :: t, h => by
    have h : (bif Nat.beq x.1 pc then some x.2 else mv_fb t pc) = some L := h
    rcases mv_cnd h with ⟨h1, h⟩ | ⟨-, h⟩
    · have e1 := mv_beq h1
      have e2 := Option.some.inj h
      rw [← e1, ← e2]
      exact List.mem_cons_self
    · exact List.mem_cons_of_mem _ (mv_fb_in h)
theorem mv_bk_in {mid pc : Nat} {L : List mv_E} (h : mv_bk mid pc = some L) : (pc, L) ∈ mv_blk mid := by
  unfold mv_bk at h
  unfold mv_blk
  split at h
  · rename_i r hr
    rw [hr]
    show (pc, L) ∈ (match mv_gt r (mid % 16) with
      | some b => b
      | none => [])
    split at h
    · rename_i b hb
      rw [hb]
      exact mv_fb_in h
    · cases h
  · cases h
theorem mv_bl_out {mid : Nat} (h : 272 ≤ mid) : mv_blk mid = [] ∧ mv_mi mid = km_0 := by
  have e1 : mv_gt mv_kbs (mid / 16) = none := by
    rw [mv_gt_eq, List.getElem?_eq_none]
    show 17 ≤ mid / 16
    omega
  have e2 : mv_gt mv_kms (mid / 16) = none := by
    rw [mv_gt_eq, List.getElem?_eq_none]
    show 17 ≤ mid / 16
    omega
  exact ⟨by unfold mv_blk; rw [e1], by unfold mv_mi; rw [e2]⟩
def mv_all : List mv_I → Prop
  | [] => True
  | x :: t => (x.2.2.2.2.2.1 ≠ 9 → mv_hw x ∈ mv_big) ∧ mv_all t
theorem mv_all_ok : ∀ {l : List mv_I} {i : Nat} {x : mv_I}, mv_all l → l[i]? = some x → x.2.2.2.2.2.1 ≠ 9 → mv_hw x ∈ mv_big
  | [], i, x, _, h => by simp at h
  | y :: t, 0, x, h1, h => by
    cases h
    exact h1.1
  | y :: t, i + 1, x, h1, h => mv_all_ok h1.2 (by simpa using h)
def mv_all2 : List (List mv_I) → Prop
  | [] => True
  | x :: t => mv_all x ∧ mv_all2 t
theorem mv_all2_ok : ∀ {l : List (List mv_I)} {i : Nat} {x : List mv_I}, mv_all2 l → l[i]? = some x → mv_all x
  | [], i, x, _, h => by simp at h
  | y :: t, 0, x, h1, h => by
    cases h
    exact h1.1
  | y :: t, i + 1, x, h1, h => mv_all2_ok h1.2 (by simpa using h)
theorem mv_kc (q : Nat × Nat) {w : Cond} (h : mv_wd q = some w) (h2 : goodWord w = true) : w ∈ mv_big := by
  unfold mv_wd at h
  split at h
  · rename_i r hr
    rw [mv_gt_eq] at hr h
    exact List.mem_filter.mpr ⟨mv_ck_in r (List.mem_of_getElem? hr) w (List.mem_of_getElem? h), h2⟩
  · cases h
theorem mv_hw_of (h : mv_all2 mv_kms) (mid : Nat) : (mv_mi mid).2.2.2.2.2.1 ≠ 9 → mv_hw (mv_mi mid) ∈ mv_big := by
  unfold mv_mi
  split
  · rename_i r hr
    rw [mv_gt_eq] at hr
    split
    · rename_i x hx
      rw [mv_gt_eq] at hx
      exact mv_all_ok (mv_all2_ok h hr) hx
    · exact fun h => absurd rfl h
  · exact fun h => absurd rfl h
theorem mv_tb_of (h : ∀ j, j < 17 → mv_rw j = true) (hh : mv_all2 mv_kms) : mv_tb mv_bk mv_mi mv_xn mv_cand := by
  intro mid
  refine ⟨mv_cand_in mid, ?_⟩
  by_cases hm : mid < 272
  · have h1 := h (mid / 16) (by omega)
    have h2 := List.all_eq_true.mp h1 (mid % 16) (List.mem_range.mpr (by omega))
    rw [show 16 * (mid / 16) + mid % 16 = mid by omega] at h2
    unfold mv_ckm mv_ckb at h2
    rw [mv_fl_eq] at h2
    obtain ⟨h3, h4⟩ := mv_a2 h2
    exact ⟨h3, fun pc L hb => List.all_eq_true.mp h4 _ (mv_bk_in hb), mv_hw_of hh mid⟩
  · obtain ⟨e1, e2⟩ := mv_bl_out (mid := mid) (by omega)
    refine ⟨?_, fun pc L hb => ?_, mv_hw_of hh mid⟩
    · rw [e2]
      rfl
    · have h9 := mv_bk_in hb
      rw [e1] at h9
      cases h9
theorem mv_r16 {f : Nat → Bool} (h0 : f 0 = true) (h1 : f 1 = true) (h2 : f 2 = true) (h3 : f 3 = true) (h4 : f 4 = true) (h5 : f 5 = true) (h6 : f 6 = true) (h7 : f 7 = true) (h8 : f 8 = true) (h9 : f 9 = true) (h10 : f 10 = true) (h11 : f 11 = true) (h12 : f 12 = true) (h13 : f 13 = true) (h14 : f 14 = true) (h15 : f 15 = true) : (List.range 16).all f = true := by
  refine List.all_eq_true.mpr fun i hi => ?_
  have hi := List.mem_range.mp hi
  have h : i = 0 ∨ i = 1 ∨ i = 2 ∨ i = 3 ∨ i = 4 ∨ i = 5 ∨ i = 6 ∨ i = 7 ∨ i = 8 ∨ i = 9 ∨ i = 10 ∨ i = 11 ∨ i = 12 ∨ i = 13 ∨ i = 14 ∨ i = 15 := by omega
  rcases h with rfl | rfl | rfl | rfl | rfl | rfl | rfl | rfl | rfl | rfl | rfl | rfl | rfl | rfl | rfl | rfl <;> assumption
theorem mv_td {α : Type} {f : α → Bool} {l : List α} (a n : Nat) (h1 : ((l.drop a).take n).all f = true) (h2 : (l.drop (a + n)).all f = true) : (l.drop a).all f = true := by
  have e : (l.drop a).drop n = l.drop (a + n) := by simp only [List.drop_drop]
  rw [← List.take_append_drop n (l.drop a), List.all_append, h1, e, h2]
  rfl
/-- the methods that write nothing, and what they call -/
noncomputable def mv_bkp (mid pc : Nat) : Option (List mv_E) := bif mv_pms.any (Nat.beq mid) then mv_bk mid pc else none
theorem mv_bkp_t (h : mv_tb mv_bk mv_mi mv_xn mv_cand) : mv_tb mv_bkp mv_mi mv_xn mv_cand := fun mid =>
  ⟨(h mid).1, (h mid).2.1, fun pc L hL => (h mid).2.2.1 pc L (mv_cndn hL).2, (h mid).2.2.2⟩
set_option maxRecDepth 1000000 in
theorem mv_pms_ok : mv_pms.all (fun mid => (mv_blk mid).all (fun q => mv_pL q.2)) = true := by decide +kernel
theorem mv_bkp_p : ∀ mid pc L, mv_bkp mid pc = some L → mv_pL L = true := by
  intro mid pc L hL
  obtain ⟨h1, h2⟩ := mv_cndn hL
  obtain ⟨m, hm, he⟩ := List.any_eq_true.mp h1
  have e : mid = m := mv_beq he
  subst e
  exact List.all_eq_true.mp (List.all_eq_true.mp mv_pms_ok mid hm) _ (mv_bk_in h2)
end
section
/-! ===== the tables' methods 0 to 45: printed by a program ===== -/
set_option maxRecDepth 1000000 in
theorem mv_cl_0 : mv_fl (mv_cand 0) (fun cd => ((kb_0.drop 0).take 10).all (fun q => mv_vL cd mv_mi km_0 q.1 q.2)) = true := sorry
set_option maxRecDepth 1000000 in
theorem mv_cl_1 : mv_fl (mv_cand 0) (fun cd => ((kb_0.drop 10).take 10).all (fun q => mv_vL cd mv_mi km_0 q.1 q.2)) = true := sorry
set_option maxRecDepth 1000000 in
theorem mv_cl_2 : mv_fl (mv_cand 0) (fun cd => ((kb_0.drop 20).take 10).all (fun q => mv_vL cd mv_mi km_0 q.1 q.2)) = true := sorry
set_option maxRecDepth 1000000 in
theorem mv_cl_3 : mv_fl (mv_cand 0) (fun cd => ((kb_0.drop 30).take 10).all (fun q => mv_vL cd mv_mi km_0 q.1 q.2)) = true := sorry
set_option maxRecDepth 1000000 in
theorem mv_cl_4 : mv_fl (mv_cand 0) (fun cd => ((kb_0.drop 40).take 10).all (fun q => mv_vL cd mv_mi km_0 q.1 q.2)) = true := sorry
set_option maxRecDepth 1000000 in
theorem mv_cl_5 : mv_fl (mv_cand 0) (fun cd => ((kb_0.drop 50).take 10).all (fun q => mv_vL cd mv_mi km_0 q.1 q.2)) = true := sorry
set_option maxRecDepth 1000000 in
theorem mv_cl_6 : mv_fl (mv_cand 0) (fun cd => ((kb_0.drop 60).take 10).all (fun q => mv_vL cd mv_mi km_0 q.1 q.2)) = true := sorry
set_option maxRecDepth 1000000 in
theorem mv_cl_7 : mv_fl (mv_cand 0) (fun cd => ((kb_0.drop 70).take 10).all (fun q => mv_vL cd mv_mi km_0 q.1 q.2)) = true := sorry
set_option maxRecDepth 1000000 in
theorem mv_cl_8 : mv_fl (mv_cand 0) (fun cd => ((kb_0.drop 80).take 10).all (fun q => mv_vL cd mv_mi km_0 q.1 q.2)) = true := sorry
set_option maxRecDepth 1000000 in
theorem mv_cl_m : mv_vm (mv_cand 0) mv_xn km_0 = true := by decide +kernel
noncomputable def mv_f0 (q : Nat × List mv_E) : Bool := mv_vL (mv_cand 0) mv_mi km_0 q.1 q.2
theorem mv_cj_0 : ((kb_0.drop 0).take 10).all mv_f0 = true := by
  have h := mv_cl_0
  rw [mv_fl_eq] at h
  exact h
theorem mv_cj_1 : ((kb_0.drop 10).take 10).all mv_f0 = true := by
  have h := mv_cl_1
  rw [mv_fl_eq] at h
  exact h
theorem mv_cj_2 : ((kb_0.drop 20).take 10).all mv_f0 = true := by
  have h := mv_cl_2
  rw [mv_fl_eq] at h
  exact h
theorem mv_cj_3 : ((kb_0.drop 30).take 10).all mv_f0 = true := by
  have h := mv_cl_3
  rw [mv_fl_eq] at h
  exact h
theorem mv_cj_4 : ((kb_0.drop 40).take 10).all mv_f0 = true := by
  have h := mv_cl_4
  rw [mv_fl_eq] at h
  exact h
theorem mv_cj_5 : ((kb_0.drop 50).take 10).all mv_f0 = true := by
  have h := mv_cl_5
  rw [mv_fl_eq] at h
  exact h
theorem mv_cj_6 : ((kb_0.drop 60).take 10).all mv_f0 = true := by
  have h := mv_cl_6
  rw [mv_fl_eq] at h
  exact h
theorem mv_cj_7 : ((kb_0.drop 70).take 10).all mv_f0 = true := by
  have h := mv_cl_7
  rw [mv_fl_eq] at h
  exact h
theorem mv_cj_8 : ((kb_0.drop 80).take 10).all mv_f0 = true := by
  have h := mv_cl_8
  rw [mv_fl_eq] at h
  exact h
set_option maxRecDepth 1000000 in
theorem mv_ce_9 : (kb_0.drop 90).all mv_f0 = true := by decide +kernel
theorem mv_ce_8 : (kb_0.drop 80).all mv_f0 = true := mv_td (f := mv_f0) (l := kb_0) 80 10 mv_cj_8 mv_ce_9
theorem mv_ce_7 : (kb_0.drop 70).all mv_f0 = true := mv_td (f := mv_f0) (l := kb_0) 70 10 mv_cj_7 mv_ce_8
theorem mv_ce_6 : (kb_0.drop 60).all mv_f0 = true := mv_td (f := mv_f0) (l := kb_0) 60 10 mv_cj_6 mv_ce_7
theorem mv_ce_5 : (kb_0.drop 50).all mv_f0 = true := mv_td (f := mv_f0) (l := kb_0) 50 10 mv_cj_5 mv_ce_6
theorem mv_ce_4 : (kb_0.drop 40).all mv_f0 = true := mv_td (f := mv_f0) (l := kb_0) 40 10 mv_cj_4 mv_ce_5
theorem mv_ce_3 : (kb_0.drop 30).all mv_f0 = true := mv_td (f := mv_f0) (l := kb_0) 30 10 mv_cj_3 mv_ce_4
theorem mv_ce_2 : (kb_0.drop 20).all mv_f0 = true := mv_td (f := mv_f0) (l := kb_0) 20 10 mv_cj_2 mv_ce_3
theorem mv_ce_1 : (kb_0.drop 10).all mv_f0 = true := mv_td (f := mv_f0) (l := kb_0) 10 10 mv_cj_1 mv_ce_2
theorem mv_ce_0 : (kb_0.drop 0).all mv_f0 = true := mv_td (f := mv_f0) (l := kb_0) 0 10 mv_cj_0 mv_ce_1
theorem mv_cm_0 : mv_ckm 0 = true := by
  have h2 : (mv_vm (mv_cand 0) mv_xn km_0 && kb_0.all mv_f0) = true := by
    have h3 : kb_0.all mv_f0 = true := by
      have h := mv_ce_0
      rw [List.drop_zero] at h
      exact h
    rw [mv_cl_m, h3]
    rfl
  unfold mv_ckm mv_ckb
  rw [mv_fl_eq]
  exact h2
set_option maxRecDepth 1000000 in
theorem mv_cm_1 : mv_ckm 1 = true := sorry
set_option maxRecDepth 1000000 in
theorem mv_cm_2 : mv_ckm 2 = true := sorry
set_option maxRecDepth 1000000 in
theorem mv_cm_3 : mv_ckm 3 = true := sorry
set_option maxRecDepth 1000000 in
theorem mv_cm_4 : mv_ckm 4 = true := sorry
set_option maxRecDepth 1000000 in
theorem mv_cm_5 : mv_ckm 5 = true := sorry
set_option maxRecDepth 1000000 in
theorem mv_cm_6 : mv_ckm 6 = true := sorry
set_option maxRecDepth 1000000 in
theorem mv_cm_7 : mv_ckm 7 = true := sorry
set_option maxRecDepth 1000000 in
theorem mv_cm_8 : mv_ckm 8 = true := sorry
set_option maxRecDepth 1000000 in
theorem mv_cm_9 : mv_ckm 9 = true := sorry
set_option maxRecDepth 1000000 in
theorem mv_cm_10 : mv_ckm 10 = true := sorry
set_option maxRecDepth 1000000 in
theorem mv_cm_11 : mv_ckm 11 = true := sorry
set_option maxRecDepth 1000000 in
theorem mv_cm_12 : mv_ckm 12 = true := sorry
set_option maxRecDepth 1000000 in
theorem mv_cm_13 : mv_ckm 13 = true := sorry
set_option maxRecDepth 1000000 in
theorem mv_cm_14 : mv_ckm 14 = true := sorry
set_option maxRecDepth 1000000 in
theorem mv_cm_15 : mv_ckm 15 = true := sorry
set_option maxRecDepth 1000000 in
theorem mv_cm_16 : mv_ckm 16 = true := sorry
set_option maxRecDepth 1000000 in
theorem mv_cm_17 : mv_ckm 17 = true := sorry
set_option maxRecDepth 1000000 in
theorem mv_cm_18 : mv_ckm 18 = true := sorry
set_option maxRecDepth 1000000 in
theorem mv_cm_19 : mv_ckm 19 = true := sorry
set_option maxRecDepth 1000000 in
theorem mv_cm_20 : mv_ckm 20 = true := sorry
set_option maxRecDepth 1000000 in
theorem mv_cm_21 : mv_ckm 21 = true := sorry
set_option maxRecDepth 1000000 in
theorem mv_cm_22 : mv_ckm 22 = true := sorry
set_option maxRecDepth 1000000 in
theorem mv_cm_23 : mv_ckm 23 = true := sorry
set_option maxRecDepth 1000000 in
theorem mv_cm_24 : mv_ckm 24 = true := sorry
set_option maxRecDepth 1000000 in
theorem mv_cm_25 : mv_ckm 25 = true := sorry
set_option maxRecDepth 1000000 in
theorem mv_cm_26 : mv_ckm 26 = true := sorry
set_option maxRecDepth 1000000 in
theorem mv_cm_27 : mv_ckm 27 = true := sorry
set_option maxRecDepth 1000000 in
theorem mv_cm_28 : mv_ckm 28 = true := sorry
set_option maxRecDepth 1000000 in
theorem mv_cm_29 : mv_ckm 29 = true := sorry
set_option maxRecDepth 1000000 in
theorem mv_cm_30 : mv_ckm 30 = true := sorry
set_option maxRecDepth 1000000 in
theorem mv_cm_31 : mv_ckm 31 = true := sorry
set_option maxRecDepth 1000000 in
theorem mv_cm_32 : mv_ckm 32 = true := sorry
set_option maxRecDepth 1000000 in
theorem mv_cm_33 : mv_ckm 33 = true := sorry
set_option maxRecDepth 1000000 in
theorem mv_cm_34 : mv_ckm 34 = true := sorry
set_option maxRecDepth 1000000 in
theorem mv_cm_35 : mv_ckm 35 = true := sorry
set_option maxRecDepth 1000000 in
theorem mv_cm_36 : mv_ckm 36 = true := sorry
set_option maxRecDepth 1000000 in
theorem mv_cm_37 : mv_ckm 37 = true := sorry
set_option maxRecDepth 1000000 in
theorem mv_cm_38 : mv_ckm 38 = true := sorry
set_option maxRecDepth 1000000 in
theorem mv_cm_39 : mv_ckm 39 = true := sorry
set_option maxRecDepth 1000000 in
theorem mv_cm_40 : mv_ckm 40 = true := sorry
set_option maxRecDepth 1000000 in
theorem mv_cm_41 : mv_ckm 41 = true := sorry
set_option maxRecDepth 1000000 in
theorem mv_cm_42 : mv_ckm 42 = true := sorry
set_option maxRecDepth 1000000 in
theorem mv_cm_43 : mv_ckm 43 = true := sorry
set_option maxRecDepth 1000000 in
theorem mv_cm_44 : mv_ckm 44 = true := sorry
set_option maxRecDepth 1000000 in
theorem mv_cm_45 : mv_ckm 45 = true := sorry
end
