section
-- begins with the skeleton's PART A; then the names out of the claim's printed list
/-- a private method of a class that the tables say can be made, by its rows of tables_1 -/
def lw_okq (q : MethodName × Nat) : Prop := (q.1.cls ≠ "java/lang/invoke/MethodHandle" ∧ q.1.cls ≠ "java/lang/invoke/VarHandle") ∧ Cond.instantiable q.1.cls q.2 ∈ tables_1 ∧ Cond.privateMethod q.1 ∈ tables_1 ∧ Cond.instanceMethod q.1 ∈ tables_1
theorem lw_p0 : lw_okq (⟨"ValuesGo$Hall", "clear", "(I)V"⟩, 12) := ⟨⟨by decide +kernel, by decide +kernel⟩, List.mem_of_getElem? (i := 121) (by decide +kernel), List.mem_of_getElem? (i := 127) (by decide +kernel), List.mem_of_getElem? (i := 128) (by decide +kernel)⟩
theorem lw_p1 : lw_okq (⟨"ValuesGo$Reader", "accept", "(I)Z"⟩, 14) := ⟨⟨by decide +kernel, by decide +kernel⟩, List.mem_of_getElem? (i := 69) (by decide +kernel), List.mem_of_getElem? (i := 339) (by decide +kernel), List.mem_of_getElem? (i := 340) (by decide +kernel)⟩
theorem lw_p2 : lw_okq (⟨"ValuesGo$Reader", "read", "()I"⟩, 14) := ⟨⟨by decide +kernel, by decide +kernel⟩, List.mem_of_getElem? (i := 69) (by decide +kernel), List.mem_of_getElem? (i := 347) (by decide +kernel), List.mem_of_getElem? (i := 348) (by decide +kernel)⟩
theorem lw_p3 : lw_okq (⟨"ValuesGo$Reader", "split", "()V"⟩, 14) := ⟨⟨by decide +kernel, by decide +kernel⟩, List.mem_of_getElem? (i := 69) (by decide +kernel), List.mem_of_getElem? (i := 351) (by decide +kernel), List.mem_of_getElem? (i := 352) (by decide +kernel)⟩
theorem lw_p4 : lw_okq (⟨"ValuesGo$Reader", "endOfToken", "(I)I"⟩, 14) := ⟨⟨by decide +kernel, by decide +kernel⟩, List.mem_of_getElem? (i := 69) (by decide +kernel), List.mem_of_getElem? (i := 355) (by decide +kernel), List.mem_of_getElem? (i := 356) (by decide +kernel)⟩
theorem lw_p5 : lw_okq (⟨"ValuesGo$Reader", "kindOfToken", "(II)I"⟩, 14) := ⟨⟨by decide +kernel, by decide +kernel⟩, List.mem_of_getElem? (i := 69) (by decide +kernel), List.mem_of_getElem? (i := 365) (by decide +kernel), List.mem_of_getElem? (i := 366) (by decide +kernel)⟩
theorem lw_p6 : lw_okq (⟨"ValuesGo$Reader", "numberAt", "(II)I"⟩, 14) := ⟨⟨by decide +kernel, by decide +kernel⟩, List.mem_of_getElem? (i := 69) (by decide +kernel), List.mem_of_getElem? (i := 369) (by decide +kernel), List.mem_of_getElem? (i := 370) (by decide +kernel)⟩
theorem lw_p7 : lw_okq (⟨"ValuesGo$Reader", "isDistinctAt", "(II)Z"⟩, 14) := ⟨⟨by decide +kernel, by decide +kernel⟩, List.mem_of_getElem? (i := 69) (by decide +kernel), List.mem_of_getElem? (i := 376) (by decide +kernel), List.mem_of_getElem? (i := 377) (by decide +kernel)⟩
theorem lw_p8 : lw_okq (⟨"ValuesGo$Reader", "addToken", "(II)V"⟩, 14) := ⟨⟨by decide +kernel, by decide +kernel⟩, List.mem_of_getElem? (i := 69) (by decide +kernel), List.mem_of_getElem? (i := 489) (by decide +kernel), List.mem_of_getElem? (i := 490) (by decide +kernel)⟩
theorem lw_p9 : lw_okq (⟨"ValuesGo$Reader", "token", "()I"⟩, 14) := ⟨⟨by decide +kernel, by decide +kernel⟩, List.mem_of_getElem? (i := 69) (by decide +kernel), List.mem_of_getElem? (i := 493) (by decide +kernel), List.mem_of_getElem? (i := 494) (by decide +kernel)⟩
theorem lw_p10 : lw_okq (⟨"ValuesGo$Reader", "distinct", "()Z"⟩, 14) := ⟨⟨by decide +kernel, by decide +kernel⟩, List.mem_of_getElem? (i := 69) (by decide +kernel), List.mem_of_getElem? (i := 497) (by decide +kernel), List.mem_of_getElem? (i := 498) (by decide +kernel)⟩
theorem lw_p11 : lw_okq (⟨"ValuesGo$Reader", "pass", "()V"⟩, 14) := ⟨⟨by decide +kernel, by decide +kernel⟩, List.mem_of_getElem? (i := 69) (by decide +kernel), List.mem_of_getElem? (i := 501) (by decide +kernel), List.mem_of_getElem? (i := 502) (by decide +kernel)⟩
theorem lw_p12 : lw_okq (⟨"ValuesGo$Reader", "tested", "()Z"⟩, 14) := ⟨⟨by decide +kernel, by decide +kernel⟩, List.mem_of_getElem? (i := 69) (by decide +kernel), List.mem_of_getElem? (i := 505) (by decide +kernel), List.mem_of_getElem? (i := 506) (by decide +kernel)⟩
theorem lw_p13 : lw_okq (⟨"ValuesGo$Reader", "sum", "(I)Z"⟩, 14) := ⟨⟨by decide +kernel, by decide +kernel⟩, List.mem_of_getElem? (i := 69) (by decide +kernel), List.mem_of_getElem? (i := 509) (by decide +kernel), List.mem_of_getElem? (i := 510) (by decide +kernel)⟩
theorem lw_p14 : lw_okq (⟨"ValuesGo$Reader", "term", "(I)Z"⟩, 14) := ⟨⟨by decide +kernel, by decide +kernel⟩, List.mem_of_getElem? (i := 69) (by decide +kernel), List.mem_of_getElem? (i := 513) (by decide +kernel), List.mem_of_getElem? (i := 514) (by decide +kernel)⟩
theorem lw_p15 : lw_okq (⟨"ValuesGo$Reader", "one", "(I)Z"⟩, 14) := ⟨⟨by decide +kernel, by decide +kernel⟩, List.mem_of_getElem? (i := 69) (by decide +kernel), List.mem_of_getElem? (i := 517) (by decide +kernel), List.mem_of_getElem? (i := 518) (by decide +kernel)⟩
def lw_privs_1 : List (MethodName × Nat) := [(⟨"ValuesGo$Hall", "clear", "(I)V"⟩, 12), (⟨"ValuesGo$Reader", "accept", "(I)Z"⟩, 14), (⟨"ValuesGo$Reader", "read", "()I"⟩, 14), (⟨"ValuesGo$Reader", "split", "()V"⟩, 14), (⟨"ValuesGo$Reader", "endOfToken", "(I)I"⟩, 14), (⟨"ValuesGo$Reader", "kindOfToken", "(II)I"⟩, 14), (⟨"ValuesGo$Reader", "numberAt", "(II)I"⟩, 14), (⟨"ValuesGo$Reader", "isDistinctAt", "(II)Z"⟩, 14), (⟨"ValuesGo$Reader", "addToken", "(II)V"⟩, 14), (⟨"ValuesGo$Reader", "token", "()I"⟩, 14), (⟨"ValuesGo$Reader", "distinct", "()Z"⟩, 14), (⟨"ValuesGo$Reader", "pass", "()V"⟩, 14), (⟨"ValuesGo$Reader", "tested", "()Z"⟩, 14), (⟨"ValuesGo$Reader", "sum", "(I)Z"⟩, 14), (⟨"ValuesGo$Reader", "term", "(I)Z"⟩, 14), (⟨"ValuesGo$Reader", "one", "(I)Z"⟩, 14)]
theorem lw_r1 : ∀ q ∈ lw_privs_1, lw_okq q := List.forall_mem_cons.mpr ⟨lw_p0, List.forall_mem_cons.mpr ⟨lw_p1, List.forall_mem_cons.mpr ⟨lw_p2, List.forall_mem_cons.mpr ⟨lw_p3, List.forall_mem_cons.mpr ⟨lw_p4, List.forall_mem_cons.mpr ⟨lw_p5, List.forall_mem_cons.mpr ⟨lw_p6, List.forall_mem_cons.mpr ⟨lw_p7, List.forall_mem_cons.mpr ⟨lw_p8, List.forall_mem_cons.mpr ⟨lw_p9, List.forall_mem_cons.mpr ⟨lw_p10, List.forall_mem_cons.mpr ⟨lw_p11, List.forall_mem_cons.mpr ⟨lw_p12, List.forall_mem_cons.mpr ⟨lw_p13, List.forall_mem_cons.mpr ⟨lw_p14, List.forall_mem_cons.mpr ⟨lw_p15, fun _ h => absurd h List.not_mem_nil⟩⟩⟩⟩⟩⟩⟩⟩⟩⟩⟩⟩⟩⟩⟩⟩
theorem lw_p16 : lw_okq (⟨"ValuesGo$Reader", "emit", "(I)V"⟩, 14) := ⟨⟨by decide +kernel, by decide +kernel⟩, List.mem_of_getElem? (i := 69) (by decide +kernel), List.mem_of_getElem? (i := 521) (by decide +kernel), List.mem_of_getElem? (i := 522) (by decide +kernel)⟩
theorem lw_p17 : lw_okq (⟨"ValuesGo$Reader", "named", "()Z"⟩, 14) := ⟨⟨by decide +kernel, by decide +kernel⟩, List.mem_of_getElem? (i := 69) (by decide +kernel), List.mem_of_getElem? (i := 525) (by decide +kernel), List.mem_of_getElem? (i := 526) (by decide +kernel)⟩
theorem lw_p18 : lw_okq (⟨"ValuesGo$Reader", "bracketed", "(I)Z"⟩, 14) := ⟨⟨by decide +kernel, by decide +kernel⟩, List.mem_of_getElem? (i := 69) (by decide +kernel), List.mem_of_getElem? (i := 535) (by decide +kernel), List.mem_of_getElem? (i := 536) (by decide +kernel)⟩
theorem lw_p19 : lw_okq (⟨"ValuesGo$Rules", "add", "(LValuesGo$Reader;)I"⟩, 9) := ⟨⟨by decide +kernel, by decide +kernel⟩, List.mem_of_getElem? (i := 26) (by decide +kernel), List.mem_of_getElem? (i := 539) (by decide +kernel), List.mem_of_getElem? (i := 540) (by decide +kernel)⟩
theorem lw_p20 : lw_okq (⟨"ValuesGo$Rules", "enter", "(III)V"⟩, 9) := ⟨⟨by decide +kernel, by decide +kernel⟩, List.mem_of_getElem? (i := 26) (by decide +kernel), List.mem_of_getElem? (i := 544) (by decide +kernel), List.mem_of_getElem? (i := 545) (by decide +kernel)⟩
theorem lw_p21 : lw_okq (⟨"ValuesGo$Rules", "fillSlots", "(I)V"⟩, 9) := ⟨⟨by decide +kernel, by decide +kernel⟩, List.mem_of_getElem? (i := 26) (by decide +kernel), List.mem_of_getElem? (i := 548) (by decide +kernel), List.mem_of_getElem? (i := 549) (by decide +kernel)⟩
theorem lw_p22 : lw_okq (⟨"ValuesGo$Rules", "howMany", "(I)I"⟩, 9) := ⟨⟨by decide +kernel, by decide +kernel⟩, List.mem_of_getElem? (i := 26) (by decide +kernel), List.mem_of_getElem? (i := 552) (by decide +kernel), List.mem_of_getElem? (i := 553) (by decide +kernel)⟩
theorem lw_p23 : lw_okq (⟨"ValuesGo$Rules", "fillWays", "(ILValuesGo$Reader;)V"⟩, 9) := ⟨⟨by decide +kernel, by decide +kernel⟩, List.mem_of_getElem? (i := 26) (by decide +kernel), List.mem_of_getElem? (i := 556) (by decide +kernel), List.mem_of_getElem? (i := 557) (by decide +kernel)⟩
theorem lw_p24 : lw_okq (⟨"ValuesGo$Rules", "lastValues", "(ILValuesGo$Reader;)I"⟩, 9) := ⟨⟨by decide +kernel, by decide +kernel⟩, List.mem_of_getElem? (i := 26) (by decide +kernel), List.mem_of_getElem? (i := 560) (by decide +kernel), List.mem_of_getElem? (i := 561) (by decide +kernel)⟩
theorem lw_p25 : lw_okq (⟨"ValuesGo$Reader", "holdsFor", "([I)Z"⟩, 14) := ⟨⟨by decide +kernel, by decide +kernel⟩, List.mem_of_getElem? (i := 69) (by decide +kernel), List.mem_of_getElem? (i := 564) (by decide +kernel), List.mem_of_getElem? (i := 565) (by decide +kernel)⟩
theorem lw_p26 : lw_okq (⟨"ValuesGo$Reader", "areUnlike", "([I)Z"⟩, 14) := ⟨⟨by decide +kernel, by decide +kernel⟩, List.mem_of_getElem? (i := 69) (by decide +kernel), List.mem_of_getElem? (i := 568) (by decide +kernel), List.mem_of_getElem? (i := 569) (by decide +kernel)⟩
theorem lw_p27 : lw_okq (⟨"ValuesGo$Reader", "testHolds", "([I)Z"⟩, 14) := ⟨⟨by decide +kernel, by decide +kernel⟩, List.mem_of_getElem? (i := 69) (by decide +kernel), List.mem_of_getElem? (i := 572) (by decide +kernel), List.mem_of_getElem? (i := 573) (by decide +kernel)⟩
theorem lw_p28 : lw_okq (⟨"ValuesGo$Reader", "isSo", "(II)Z"⟩, 14) := ⟨⟨by decide +kernel, by decide +kernel⟩, List.mem_of_getElem? (i := 69) (by decide +kernel), List.mem_of_getElem? (i := 579) (by decide +kernel), List.mem_of_getElem? (i := 580) (by decide +kernel)⟩
theorem lw_p29 : lw_okq (⟨"ValuesGo$Rules", "all", "()I"⟩, 9) := ⟨⟨by decide +kernel, by decide +kernel⟩, List.mem_of_getElem? (i := 26) (by decide +kernel), List.mem_of_getElem? (i := 583) (by decide +kernel), List.mem_of_getElem? (i := 584) (by decide +kernel)⟩
theorem lw_p30 : lw_okq (⟨"ValuesGo", "isRule", "(I)Z"⟩, 13) := ⟨⟨by decide +kernel, by decide +kernel⟩, List.mem_of_getElem? (i := 18) (by decide +kernel), List.mem_of_getElem? (i := 592) (by decide +kernel), List.mem_of_getElem? (i := 593) (by decide +kernel)⟩
theorem lw_p31 : lw_okq (⟨"ValuesGo", "isIdle", "(I)Z"⟩, 13) := ⟨⟨by decide +kernel, by decide +kernel⟩, List.mem_of_getElem? (i := 18) (by decide +kernel), List.mem_of_getElem? (i := 596) (by decide +kernel), List.mem_of_getElem? (i := 597) (by decide +kernel)⟩
def lw_privs_2 : List (MethodName × Nat) := [(⟨"ValuesGo$Reader", "emit", "(I)V"⟩, 14), (⟨"ValuesGo$Reader", "named", "()Z"⟩, 14), (⟨"ValuesGo$Reader", "bracketed", "(I)Z"⟩, 14), (⟨"ValuesGo$Rules", "add", "(LValuesGo$Reader;)I"⟩, 9), (⟨"ValuesGo$Rules", "enter", "(III)V"⟩, 9), (⟨"ValuesGo$Rules", "fillSlots", "(I)V"⟩, 9), (⟨"ValuesGo$Rules", "howMany", "(I)I"⟩, 9), (⟨"ValuesGo$Rules", "fillWays", "(ILValuesGo$Reader;)V"⟩, 9), (⟨"ValuesGo$Rules", "lastValues", "(ILValuesGo$Reader;)I"⟩, 9), (⟨"ValuesGo$Reader", "holdsFor", "([I)Z"⟩, 14), (⟨"ValuesGo$Reader", "areUnlike", "([I)Z"⟩, 14), (⟨"ValuesGo$Reader", "testHolds", "([I)Z"⟩, 14), (⟨"ValuesGo$Reader", "isSo", "(II)Z"⟩, 14), (⟨"ValuesGo$Rules", "all", "()I"⟩, 9), (⟨"ValuesGo", "isRule", "(I)Z"⟩, 13), (⟨"ValuesGo", "isIdle", "(I)Z"⟩, 13)]
theorem lw_r2 : ∀ q ∈ lw_privs_2, lw_okq q := List.forall_mem_cons.mpr ⟨lw_p16, List.forall_mem_cons.mpr ⟨lw_p17, List.forall_mem_cons.mpr ⟨lw_p18, List.forall_mem_cons.mpr ⟨lw_p19, List.forall_mem_cons.mpr ⟨lw_p20, List.forall_mem_cons.mpr ⟨lw_p21, List.forall_mem_cons.mpr ⟨lw_p22, List.forall_mem_cons.mpr ⟨lw_p23, List.forall_mem_cons.mpr ⟨lw_p24, List.forall_mem_cons.mpr ⟨lw_p25, List.forall_mem_cons.mpr ⟨lw_p26, List.forall_mem_cons.mpr ⟨lw_p27, List.forall_mem_cons.mpr ⟨lw_p28, List.forall_mem_cons.mpr ⟨lw_p29, List.forall_mem_cons.mpr ⟨lw_p30, List.forall_mem_cons.mpr ⟨lw_p31, fun _ h => absurd h List.not_mem_nil⟩⟩⟩⟩⟩⟩⟩⟩⟩⟩⟩⟩⟩⟩⟩⟩
theorem lw_p32 : lw_okq (⟨"ValuesGo$Past", "all", "()I"⟩, 7) := ⟨⟨by decide +kernel, by decide +kernel⟩, List.mem_of_getElem? (i := 180) (by decide +kernel), List.mem_of_getElem? (i := 600) (by decide +kernel), List.mem_of_getElem? (i := 601) (by decide +kernel)⟩
theorem lw_p33 : lw_okq (⟨"ValuesGo$Hall", "start", "(LValuesGo$Past;II)V"⟩, 12) := ⟨⟨by decide +kernel, by decide +kernel⟩, List.mem_of_getElem? (i := 121) (by decide +kernel), List.mem_of_getElem? (i := 604) (by decide +kernel), List.mem_of_getElem? (i := 605) (by decide +kernel)⟩
theorem lw_p34 : lw_okq (⟨"ValuesGo$Hall", "narrow", "(III)I"⟩, 12) := ⟨⟨by decide +kernel, by decide +kernel⟩, List.mem_of_getElem? (i := 121) (by decide +kernel), List.mem_of_getElem? (i := 608) (by decide +kernel), List.mem_of_getElem? (i := 609) (by decide +kernel)⟩
theorem lw_p35 : lw_okq (⟨"ValuesGo$Hall", "drop", "(III)V"⟩, 12) := ⟨⟨by decide +kernel, by decide +kernel⟩, List.mem_of_getElem? (i := 121) (by decide +kernel), List.mem_of_getElem? (i := 612) (by decide +kernel), List.mem_of_getElem? (i := 613) (by decide +kernel)⟩
theorem lw_p36 : lw_okq (⟨"ValuesGo$Hall", "wake", "(I)V"⟩, 12) := ⟨⟨by decide +kernel, by decide +kernel⟩, List.mem_of_getElem? (i := 121) (by decide +kernel), List.mem_of_getElem? (i := 616) (by decide +kernel), List.mem_of_getElem? (i := 617) (by decide +kernel)⟩
theorem lw_p37 : lw_okq (⟨"ValuesGo$Hall", "runAll", "()I"⟩, 12) := ⟨⟨by decide +kernel, by decide +kernel⟩, List.mem_of_getElem? (i := 121) (by decide +kernel), List.mem_of_getElem? (i := 620) (by decide +kernel), List.mem_of_getElem? (i := 621) (by decide +kernel)⟩
theorem lw_p38 : lw_okq (⟨"ValuesGo$Hall", "runOne", "()I"⟩, 12) := ⟨⟨by decide +kernel, by decide +kernel⟩, List.mem_of_getElem? (i := 121) (by decide +kernel), List.mem_of_getElem? (i := 625) (by decide +kernel), List.mem_of_getElem? (i := 626) (by decide +kernel)⟩
theorem lw_p39 : lw_okq (⟨"ValuesGo$Hall", "shuffledNext", "()I"⟩, 12) := ⟨⟨by decide +kernel, by decide +kernel⟩, List.mem_of_getElem? (i := 121) (by decide +kernel), List.mem_of_getElem? (i := 629) (by decide +kernel), List.mem_of_getElem? (i := 630) (by decide +kernel)⟩
theorem lw_p40 : lw_okq (⟨"ValuesGo$Hall", "orderedNext", "()I"⟩, 12) := ⟨⟨by decide +kernel, by decide +kernel⟩, List.mem_of_getElem? (i := 121) (by decide +kernel), List.mem_of_getElem? (i := 635) (by decide +kernel), List.mem_of_getElem? (i := 636) (by decide +kernel)⟩
theorem lw_p41 : lw_okq (⟨"ValuesGo$Rules", "sift", "(I[I[I)V"⟩, 9) := ⟨⟨by decide +kernel, by decide +kernel⟩, List.mem_of_getElem? (i := 26) (by decide +kernel), List.mem_of_getElem? (i := 639) (by decide +kernel), List.mem_of_getElem? (i := 640) (by decide +kernel)⟩
theorem lw_p42 : lw_okq (⟨"ValuesGo$Rules", "siftLearned", "(I[I[I)V"⟩, 9) := ⟨⟨by decide +kernel, by decide +kernel⟩, List.mem_of_getElem? (i := 26) (by decide +kernel), List.mem_of_getElem? (i := 643) (by decide +kernel), List.mem_of_getElem? (i := 644) (by decide +kernel)⟩
theorem lw_p43 : lw_okq (⟨"ValuesGo$Hall", "isLike", "(LValuesGo$Hall;)Z"⟩, 12) := ⟨⟨by decide +kernel, by decide +kernel⟩, List.mem_of_getElem? (i := 121) (by decide +kernel), List.mem_of_getElem? (i := 647) (by decide +kernel), List.mem_of_getElem? (i := 648) (by decide +kernel)⟩
theorem lw_p44 : lw_okq (⟨"ValuesGo$Rules", "countWays", "(I[I)I"⟩, 9) := ⟨⟨by decide +kernel, by decide +kernel⟩, List.mem_of_getElem? (i := 26) (by decide +kernel), List.mem_of_getElem? (i := 651) (by decide +kernel), List.mem_of_getElem? (i := 652) (by decide +kernel)⟩
theorem lw_p45 : lw_okq (⟨"ValuesGo$Hall", "wentBy", "(I)I"⟩, 12) := ⟨⟨by decide +kernel, by decide +kernel⟩, List.mem_of_getElem? (i := 121) (by decide +kernel), List.mem_of_getElem? (i := 655) (by decide +kernel), List.mem_of_getElem? (i := 656) (by decide +kernel)⟩
theorem lw_p46 : lw_okq (⟨"ValuesGo$Rules", "isWay", "(IIII)Z"⟩, 9) := ⟨⟨by decide +kernel, by decide +kernel⟩, List.mem_of_getElem? (i := 26) (by decide +kernel), List.mem_of_getElem? (i := 667) (by decide +kernel), List.mem_of_getElem? (i := 668) (by decide +kernel)⟩
theorem lw_p47 : lw_okq (⟨"ValuesGo$Past", "decide", "(II)I"⟩, 7) := ⟨⟨by decide +kernel, by decide +kernel⟩, List.mem_of_getElem? (i := 180) (by decide +kernel), List.mem_of_getElem? (i := 680) (by decide +kernel), List.mem_of_getElem? (i := 681) (by decide +kernel)⟩
def lw_privs_3 : List (MethodName × Nat) := [(⟨"ValuesGo$Past", "all", "()I"⟩, 7), (⟨"ValuesGo$Hall", "start", "(LValuesGo$Past;II)V"⟩, 12), (⟨"ValuesGo$Hall", "narrow", "(III)I"⟩, 12), (⟨"ValuesGo$Hall", "drop", "(III)V"⟩, 12), (⟨"ValuesGo$Hall", "wake", "(I)V"⟩, 12), (⟨"ValuesGo$Hall", "runAll", "()I"⟩, 12), (⟨"ValuesGo$Hall", "runOne", "()I"⟩, 12), (⟨"ValuesGo$Hall", "shuffledNext", "()I"⟩, 12), (⟨"ValuesGo$Hall", "orderedNext", "()I"⟩, 12), (⟨"ValuesGo$Rules", "sift", "(I[I[I)V"⟩, 9), (⟨"ValuesGo$Rules", "siftLearned", "(I[I[I)V"⟩, 9), (⟨"ValuesGo$Hall", "isLike", "(LValuesGo$Hall;)Z"⟩, 12), (⟨"ValuesGo$Rules", "countWays", "(I[I)I"⟩, 9), (⟨"ValuesGo$Hall", "wentBy", "(I)I"⟩, 12), (⟨"ValuesGo$Rules", "isWay", "(IIII)Z"⟩, 9), (⟨"ValuesGo$Past", "decide", "(II)I"⟩, 7)]
theorem lw_r3 : ∀ q ∈ lw_privs_3, lw_okq q := List.forall_mem_cons.mpr ⟨lw_p32, List.forall_mem_cons.mpr ⟨lw_p33, List.forall_mem_cons.mpr ⟨lw_p34, List.forall_mem_cons.mpr ⟨lw_p35, List.forall_mem_cons.mpr ⟨lw_p36, List.forall_mem_cons.mpr ⟨lw_p37, List.forall_mem_cons.mpr ⟨lw_p38, List.forall_mem_cons.mpr ⟨lw_p39, List.forall_mem_cons.mpr ⟨lw_p40, List.forall_mem_cons.mpr ⟨lw_p41, List.forall_mem_cons.mpr ⟨lw_p42, List.forall_mem_cons.mpr ⟨lw_p43, List.forall_mem_cons.mpr ⟨lw_p44, List.forall_mem_cons.mpr ⟨lw_p45, List.forall_mem_cons.mpr ⟨lw_p46, List.forall_mem_cons.mpr ⟨lw_p47, fun _ h => absurd h List.not_mem_nil⟩⟩⟩⟩⟩⟩⟩⟩⟩⟩⟩⟩⟩⟩⟩⟩
theorem lw_p48 : lw_okq (⟨"ValuesGo$Past", "open", "(II)I"⟩, 7) := ⟨⟨by decide +kernel, by decide +kernel⟩, List.mem_of_getElem? (i := 180) (by decide +kernel), List.mem_of_getElem? (i := 698) (by decide +kernel), List.mem_of_getElem? (i := 699) (by decide +kernel)⟩
theorem lw_p49 : lw_okq (⟨"ValuesGo$Past", "close", "()I"⟩, 7) := ⟨⟨by decide +kernel, by decide +kernel⟩, List.mem_of_getElem? (i := 180) (by decide +kernel), List.mem_of_getElem? (i := 706) (by decide +kernel), List.mem_of_getElem? (i := 707) (by decide +kernel)⟩
theorem lw_p50 : lw_okq (⟨"ValuesGo$Hall", "takeBack", "(I)V"⟩, 12) := ⟨⟨by decide +kernel, by decide +kernel⟩, List.mem_of_getElem? (i := 121) (by decide +kernel), List.mem_of_getElem? (i := 710) (by decide +kernel), List.mem_of_getElem? (i := 711) (by decide +kernel)⟩
theorem lw_p51 : lw_okq (⟨"ValuesGo$Hall", "placeOf", "(I)I"⟩, 12) := ⟨⟨by decide +kernel, by decide +kernel⟩, List.mem_of_getElem? (i := 121) (by decide +kernel), List.mem_of_getElem? (i := 722) (by decide +kernel), List.mem_of_getElem? (i := 723) (by decide +kernel)⟩
theorem lw_p52 : lw_okq (⟨"ValuesGo", "isGone", "(III)Z"⟩, 13) := ⟨⟨by decide +kernel, by decide +kernel⟩, List.mem_of_getElem? (i := 18) (by decide +kernel), List.mem_of_getElem? (i := 734) (by decide +kernel), List.mem_of_getElem? (i := 735) (by decide +kernel)⟩
theorem lw_p53 : lw_okq (⟨"ValuesGo$Hall", "shuffle", "(I)V"⟩, 12) := ⟨⟨by decide +kernel, by decide +kernel⟩, List.mem_of_getElem? (i := 121) (by decide +kernel), List.mem_of_getElem? (i := 742) (by decide +kernel), List.mem_of_getElem? (i := 743) (by decide +kernel)⟩
theorem lw_p54 : lw_okq (⟨"ValuesGo$Hall", "inOrder", "()V"⟩, 12) := ⟨⟨by decide +kernel, by decide +kernel⟩, List.mem_of_getElem? (i := 121) (by decide +kernel), List.mem_of_getElem? (i := 746) (by decide +kernel), List.mem_of_getElem? (i := 747) (by decide +kernel)⟩
theorem lw_p55 : lw_okq (⟨"ValuesGo$Hall", "become", "(LValuesGo$Hall;)V"⟩, 12) := ⟨⟨by decide +kernel, by decide +kernel⟩, List.mem_of_getElem? (i := 121) (by decide +kernel), List.mem_of_getElem? (i := 757) (by decide +kernel), List.mem_of_getElem? (i := 758) (by decide +kernel)⟩
theorem lw_p56 : lw_okq (⟨"ValuesGo$Search", "go", "(IIZIZ)V"⟩, 15) := ⟨⟨by decide +kernel, by decide +kernel⟩, List.mem_of_getElem? (i := 217) (by decide +kernel), List.mem_of_getElem? (i := 764) (by decide +kernel), List.mem_of_getElem? (i := 765) (by decide +kernel)⟩
theorem lw_p57 : lw_okq (⟨"ValuesGo$Search", "learnFromTries", "()I"⟩, 15) := ⟨⟨by decide +kernel, by decide +kernel⟩, List.mem_of_getElem? (i := 217) (by decide +kernel), List.mem_of_getElem? (i := 770) (by decide +kernel), List.mem_of_getElem? (i := 771) (by decide +kernel)⟩
theorem lw_p58 : lw_okq (⟨"ValuesGo$Search", "startTrial", "(I)V"⟩, 15) := ⟨⟨by decide +kernel, by decide +kernel⟩, List.mem_of_getElem? (i := 217) (by decide +kernel), List.mem_of_getElem? (i := 774) (by decide +kernel), List.mem_of_getElem? (i := 775) (by decide +kernel)⟩
theorem lw_p59 : lw_okq (⟨"ValuesGo$Search", "learn", "(I)I"⟩, 15) := ⟨⟨by decide +kernel, by decide +kernel⟩, List.mem_of_getElem? (i := 217) (by decide +kernel), List.mem_of_getElem? (i := 782) (by decide +kernel), List.mem_of_getElem? (i := 783) (by decide +kernel)⟩
theorem lw_p60 : lw_okq (⟨"ValuesGo$Rules", "learn", "(II[I)I"⟩, 9) := ⟨⟨by decide +kernel, by decide +kernel⟩, List.mem_of_getElem? (i := 26) (by decide +kernel), List.mem_of_getElem? (i := 786) (by decide +kernel), List.mem_of_getElem? (i := 787) (by decide +kernel)⟩
theorem lw_p61 : lw_okq (⟨"ValuesGo$Search", "turnBack", "(I)Z"⟩, 15) := ⟨⟨by decide +kernel, by decide +kernel⟩, List.mem_of_getElem? (i := 217) (by decide +kernel), List.mem_of_getElem? (i := 791) (by decide +kernel), List.mem_of_getElem? (i := 792) (by decide +kernel)⟩
theorem lw_p62 : lw_okq (⟨"ValuesGo$Hall", "howManySettled", "()I"⟩, 12) := ⟨⟨by decide +kernel, by decide +kernel⟩, List.mem_of_getElem? (i := 121) (by decide +kernel), List.mem_of_getElem? (i := 797) (by decide +kernel), List.mem_of_getElem? (i := 798) (by decide +kernel)⟩
theorem lw_p63 : lw_okq (⟨"ValuesGo$Hall", "isSettled", "(I)Z"⟩, 12) := ⟨⟨by decide +kernel, by decide +kernel⟩, List.mem_of_getElem? (i := 121) (by decide +kernel), List.mem_of_getElem? (i := 801) (by decide +kernel), List.mem_of_getElem? (i := 802) (by decide +kernel)⟩
def lw_privs_4 : List (MethodName × Nat) := [(⟨"ValuesGo$Past", "open", "(II)I"⟩, 7), (⟨"ValuesGo$Past", "close", "()I"⟩, 7), (⟨"ValuesGo$Hall", "takeBack", "(I)V"⟩, 12), (⟨"ValuesGo$Hall", "placeOf", "(I)I"⟩, 12), (⟨"ValuesGo", "isGone", "(III)Z"⟩, 13), (⟨"ValuesGo$Hall", "shuffle", "(I)V"⟩, 12), (⟨"ValuesGo$Hall", "inOrder", "()V"⟩, 12), (⟨"ValuesGo$Hall", "become", "(LValuesGo$Hall;)V"⟩, 12), (⟨"ValuesGo$Search", "go", "(IIZIZ)V"⟩, 15), (⟨"ValuesGo$Search", "learnFromTries", "()I"⟩, 15), (⟨"ValuesGo$Search", "startTrial", "(I)V"⟩, 15), (⟨"ValuesGo$Search", "learn", "(I)I"⟩, 15), (⟨"ValuesGo$Rules", "learn", "(II[I)I"⟩, 9), (⟨"ValuesGo$Search", "turnBack", "(I)Z"⟩, 15), (⟨"ValuesGo$Hall", "howManySettled", "()I"⟩, 12), (⟨"ValuesGo$Hall", "isSettled", "(I)Z"⟩, 12)]
theorem lw_r4 : ∀ q ∈ lw_privs_4, lw_okq q := List.forall_mem_cons.mpr ⟨lw_p48, List.forall_mem_cons.mpr ⟨lw_p49, List.forall_mem_cons.mpr ⟨lw_p50, List.forall_mem_cons.mpr ⟨lw_p51, List.forall_mem_cons.mpr ⟨lw_p52, List.forall_mem_cons.mpr ⟨lw_p53, List.forall_mem_cons.mpr ⟨lw_p54, List.forall_mem_cons.mpr ⟨lw_p55, List.forall_mem_cons.mpr ⟨lw_p56, List.forall_mem_cons.mpr ⟨lw_p57, List.forall_mem_cons.mpr ⟨lw_p58, List.forall_mem_cons.mpr ⟨lw_p59, List.forall_mem_cons.mpr ⟨lw_p60, List.forall_mem_cons.mpr ⟨lw_p61, List.forall_mem_cons.mpr ⟨lw_p62, List.forall_mem_cons.mpr ⟨lw_p63, fun _ h => absurd h List.not_mem_nil⟩⟩⟩⟩⟩⟩⟩⟩⟩⟩⟩⟩⟩⟩⟩⟩
theorem lw_p64 : lw_okq (⟨"ValuesGo$Search", "keepSolution", "()V"⟩, 15) := ⟨⟨by decide +kernel, by decide +kernel⟩, List.mem_of_getElem? (i := 217) (by decide +kernel), List.mem_of_getElem? (i := 805) (by decide +kernel), List.mem_of_getElem? (i := 806) (by decide +kernel)⟩
theorem lw_p65 : lw_okq (⟨"ValuesGo$Search", "tryOne", "(II)Z"⟩, 15) := ⟨⟨by decide +kernel, by decide +kernel⟩, List.mem_of_getElem? (i := 217) (by decide +kernel), List.mem_of_getElem? (i := 812) (by decide +kernel), List.mem_of_getElem? (i := 813) (by decide +kernel)⟩
theorem lw_p66 : lw_okq (⟨"ValuesGo$Search", "chosen", "(I)I"⟩, 15) := ⟨⟨by decide +kernel, by decide +kernel⟩, List.mem_of_getElem? (i := 217) (by decide +kernel), List.mem_of_getElem? (i := 816) (by decide +kernel), List.mem_of_getElem? (i := 817) (by decide +kernel)⟩
theorem lw_p67 : lw_okq (⟨"ValuesGo$Search", "worthOf", "(II)I"⟩, 15) := ⟨⟨by decide +kernel, by decide +kernel⟩, List.mem_of_getElem? (i := 217) (by decide +kernel), List.mem_of_getElem? (i := 821) (by decide +kernel), List.mem_of_getElem? (i := 822) (by decide +kernel)⟩
theorem lw_p68 : lw_okq (⟨"ValuesGo$Search", "digits", "()I"⟩, 15) := ⟨⟨by decide +kernel, by decide +kernel⟩, List.mem_of_getElem? (i := 217) (by decide +kernel), List.mem_of_getElem? (i := 829) (by decide +kernel), List.mem_of_getElem? (i := 830) (by decide +kernel)⟩
theorem lw_p69 : lw_okq (⟨"ValuesGo$Sheet", "isMissing", "()Z"⟩, 3) := ⟨⟨by decide +kernel, by decide +kernel⟩, List.mem_of_getElem? (i := 276) (by decide +kernel), List.mem_of_getElem? (i := 849) (by decide +kernel), List.mem_of_getElem? (i := 850) (by decide +kernel)⟩
theorem lw_p70 : lw_okq (⟨"ValuesGo", "readValues", "(LValuesGo$Sheet;)Z"⟩, 13) := ⟨⟨by decide +kernel, by decide +kernel⟩, List.mem_of_getElem? (i := 18) (by decide +kernel), List.mem_of_getElem? (i := 853) (by decide +kernel), List.mem_of_getElem? (i := 854) (by decide +kernel)⟩
theorem lw_p71 : lw_okq (⟨"ValuesGo", "choicesThatFind", "()I"⟩, 13) := ⟨⟨by decide +kernel, by decide +kernel⟩, List.mem_of_getElem? (i := 18) (by decide +kernel), List.mem_of_getElem? (i := 857) (by decide +kernel), List.mem_of_getElem? (i := 858) (by decide +kernel)⟩
theorem lw_p72 : lw_okq (⟨"ValuesGo$Hall", "howManyIn", "([I)I"⟩, 12) := ⟨⟨by decide +kernel, by decide +kernel⟩, List.mem_of_getElem? (i := 121) (by decide +kernel), List.mem_of_getElem? (i := 861) (by decide +kernel), List.mem_of_getElem? (i := 862) (by decide +kernel)⟩
theorem lw_p73 : lw_okq (⟨"ValuesGo$Search", "isSolution", "([I)Z"⟩, 15) := ⟨⟨by decide +kernel, by decide +kernel⟩, List.mem_of_getElem? (i := 217) (by decide +kernel), List.mem_of_getElem? (i := 865) (by decide +kernel), List.mem_of_getElem? (i := 866) (by decide +kernel)⟩
theorem lw_p74 : lw_okq (⟨"ValuesGo$Rules", "notHolding", "([I)I"⟩, 9) := ⟨⟨by decide +kernel, by decide +kernel⟩, List.mem_of_getElem? (i := 26) (by decide +kernel), List.mem_of_getElem? (i := 869) (by decide +kernel), List.mem_of_getElem? (i := 870) (by decide +kernel)⟩
theorem lw_p75 : lw_okq (⟨"ValuesGo$Sheet", "become", "(II)V"⟩, 3) := ⟨⟨by decide +kernel, by decide +kernel⟩, List.mem_of_getElem? (i := 276) (by decide +kernel), List.mem_of_getElem? (i := 878) (by decide +kernel), List.mem_of_getElem? (i := 879) (by decide +kernel)⟩
theorem lw_p76 : lw_okq (⟨"ValuesGo$Past", "become", "(LValuesGo$Past;)V"⟩, 7) := ⟨⟨by decide +kernel, by decide +kernel⟩, List.mem_of_getElem? (i := 180) (by decide +kernel), List.mem_of_getElem? (i := 886) (by decide +kernel), List.mem_of_getElem? (i := 887) (by decide +kernel)⟩
theorem lw_p77 : lw_okq (⟨"ValuesGo$Sheet", "has", "(I)Z"⟩, 3) := ⟨⟨by decide +kernel, by decide +kernel⟩, List.mem_of_getElem? (i := 276) (by decide +kernel), List.mem_of_getElem? (i := 909) (by decide +kernel), List.mem_of_getElem? (i := 910) (by decide +kernel)⟩
theorem lw_p78 : lw_okq (⟨"ValuesGo$Sheet", "cut", "(I)I"⟩, 3) := ⟨⟨by decide +kernel, by decide +kernel⟩, List.mem_of_getElem? (i := 276) (by decide +kernel), List.mem_of_getElem? (i := 913) (by decide +kernel), List.mem_of_getElem? (i := 914) (by decide +kernel)⟩
theorem lw_p79 : lw_okq (⟨"ValuesGo$Sheet", "hasRow", "(II)Z"⟩, 3) := ⟨⟨by decide +kernel, by decide +kernel⟩, List.mem_of_getElem? (i := 276) (by decide +kernel), List.mem_of_getElem? (i := 926) (by decide +kernel), List.mem_of_getElem? (i := 927) (by decide +kernel)⟩
def lw_privs_5 : List (MethodName × Nat) := [(⟨"ValuesGo$Search", "keepSolution", "()V"⟩, 15), (⟨"ValuesGo$Search", "tryOne", "(II)Z"⟩, 15), (⟨"ValuesGo$Search", "chosen", "(I)I"⟩, 15), (⟨"ValuesGo$Search", "worthOf", "(II)I"⟩, 15), (⟨"ValuesGo$Search", "digits", "()I"⟩, 15), (⟨"ValuesGo$Sheet", "isMissing", "()Z"⟩, 3), (⟨"ValuesGo", "readValues", "(LValuesGo$Sheet;)Z"⟩, 13), (⟨"ValuesGo", "choicesThatFind", "()I"⟩, 13), (⟨"ValuesGo$Hall", "howManyIn", "([I)I"⟩, 12), (⟨"ValuesGo$Search", "isSolution", "([I)Z"⟩, 15), (⟨"ValuesGo$Rules", "notHolding", "([I)I"⟩, 9), (⟨"ValuesGo$Sheet", "become", "(II)V"⟩, 3), (⟨"ValuesGo$Past", "become", "(LValuesGo$Past;)V"⟩, 7), (⟨"ValuesGo$Sheet", "has", "(I)Z"⟩, 3), (⟨"ValuesGo$Sheet", "cut", "(I)I"⟩, 3), (⟨"ValuesGo$Sheet", "hasRow", "(II)Z"⟩, 3)]
theorem lw_r5 : ∀ q ∈ lw_privs_5, lw_okq q := List.forall_mem_cons.mpr ⟨lw_p64, List.forall_mem_cons.mpr ⟨lw_p65, List.forall_mem_cons.mpr ⟨lw_p66, List.forall_mem_cons.mpr ⟨lw_p67, List.forall_mem_cons.mpr ⟨lw_p68, List.forall_mem_cons.mpr ⟨lw_p69, List.forall_mem_cons.mpr ⟨lw_p70, List.forall_mem_cons.mpr ⟨lw_p71, List.forall_mem_cons.mpr ⟨lw_p72, List.forall_mem_cons.mpr ⟨lw_p73, List.forall_mem_cons.mpr ⟨lw_p74, List.forall_mem_cons.mpr ⟨lw_p75, List.forall_mem_cons.mpr ⟨lw_p76, List.forall_mem_cons.mpr ⟨lw_p77, List.forall_mem_cons.mpr ⟨lw_p78, List.forall_mem_cons.mpr ⟨lw_p79, fun _ h => absurd h List.not_mem_nil⟩⟩⟩⟩⟩⟩⟩⟩⟩⟩⟩⟩⟩⟩⟩⟩
theorem lw_p80 : lw_okq (⟨"ValuesGoModel", "reads", "()Z"⟩, 81) := ⟨⟨by decide +kernel, by decide +kernel⟩, List.mem_of_getElem? (i := 936) (by decide +kernel), List.mem_of_getElem? (i := 1198) (by decide +kernel), List.mem_of_getElem? (i := 1199) (by decide +kernel)⟩
theorem lw_p81 : lw_okq (⟨"ValuesGoModel", "next", "()V"⟩, 81) := ⟨⟨by decide +kernel, by decide +kernel⟩, List.mem_of_getElem? (i := 936) (by decide +kernel), List.mem_of_getElem? (i := 1202) (by decide +kernel), List.mem_of_getElem? (i := 1203) (by decide +kernel)⟩
theorem lw_p82 : lw_okq (⟨"ValuesGoModel", "byteAt", "(I)I"⟩, 81) := ⟨⟨by decide +kernel, by decide +kernel⟩, List.mem_of_getElem? (i := 936) (by decide +kernel), List.mem_of_getElem? (i := 1206) (by decide +kernel), List.mem_of_getElem? (i := 1207) (by decide +kernel)⟩
theorem lw_p83 : lw_okq (⟨"ValuesGoModel", "isDistinct", "()Z"⟩, 81) := ⟨⟨by decide +kernel, by decide +kernel⟩, List.mem_of_getElem? (i := 936) (by decide +kernel), List.mem_of_getElem? (i := 1212) (by decide +kernel), List.mem_of_getElem? (i := 1213) (by decide +kernel)⟩
theorem lw_p84 : lw_okq (⟨"ValuesGoModel", "fresh", "()I"⟩, 81) := ⟨⟨by decide +kernel, by decide +kernel⟩, List.mem_of_getElem? (i := 936) (by decide +kernel), List.mem_of_getElem? (i := 1221) (by decide +kernel), List.mem_of_getElem? (i := 1222) (by decide +kernel)⟩
theorem lw_p85 : lw_okq (⟨"ValuesGoModel", "fail", "()V"⟩, 81) := ⟨⟨by decide +kernel, by decide +kernel⟩, List.mem_of_getElem? (i := 936) (by decide +kernel), List.mem_of_getElem? (i := 1225) (by decide +kernel), List.mem_of_getElem? (i := 1226) (by decide +kernel)⟩
theorem lw_p86 : lw_okq (⟨"ValuesGoModel", "name", "()I"⟩, 81) := ⟨⟨by decide +kernel, by decide +kernel⟩, List.mem_of_getElem? (i := 936) (by decide +kernel), List.mem_of_getElem? (i := 1229) (by decide +kernel), List.mem_of_getElem? (i := 1230) (by decide +kernel)⟩
theorem lw_p87 : lw_okq (⟨"ValuesGoModel", "test", "()Z"⟩, 81) := ⟨⟨by decide +kernel, by decide +kernel⟩, List.mem_of_getElem? (i := 936) (by decide +kernel), List.mem_of_getElem? (i := 1236) (by decide +kernel), List.mem_of_getElem? (i := 1237) (by decide +kernel)⟩
theorem lw_p88 : lw_okq (⟨"ValuesGoModel", "sum", "()I"⟩, 81) := ⟨⟨by decide +kernel, by decide +kernel⟩, List.mem_of_getElem? (i := 936) (by decide +kernel), List.mem_of_getElem? (i := 1240) (by decide +kernel), List.mem_of_getElem? (i := 1241) (by decide +kernel)⟩
theorem lw_p89 : lw_okq (⟨"ValuesGoModel", "term", "()I"⟩, 81) := ⟨⟨by decide +kernel, by decide +kernel⟩, List.mem_of_getElem? (i := 936) (by decide +kernel), List.mem_of_getElem? (i := 1244) (by decide +kernel), List.mem_of_getElem? (i := 1245) (by decide +kernel)⟩
theorem lw_p90 : lw_okq (⟨"ValuesGoModel", "one", "()I"⟩, 81) := ⟨⟨by decide +kernel, by decide +kernel⟩, List.mem_of_getElem? (i := 936) (by decide +kernel), List.mem_of_getElem? (i := 1248) (by decide +kernel), List.mem_of_getElem? (i := 1249) (by decide +kernel)⟩
theorem lw_p91 : lw_okq (⟨"ValuesGoModel", "isSign", "(I)Z"⟩, 81) := ⟨⟨by decide +kernel, by decide +kernel⟩, List.mem_of_getElem? (i := 936) (by decide +kernel), List.mem_of_getElem? (i := 1252) (by decide +kernel), List.mem_of_getElem? (i := 1253) (by decide +kernel)⟩
theorem lw_p92 : lw_okq (⟨"ValuesGoModel", "isHolding", "(IIII)Z"⟩, 81) := ⟨⟨by decide +kernel, by decide +kernel⟩, List.mem_of_getElem? (i := 936) (by decide +kernel), List.mem_of_getElem? (i := 1264) (by decide +kernel), List.mem_of_getElem? (i := 1265) (by decide +kernel)⟩
theorem lw_p93 : lw_okq (⟨"ValuesGoModel", "nextRule", "()I"⟩, 81) := ⟨⟨by decide +kernel, by decide +kernel⟩, List.mem_of_getElem? (i := 936) (by decide +kernel), List.mem_of_getElem? (i := 1277) (by decide +kernel), List.mem_of_getElem? (i := 1278) (by decide +kernel)⟩
theorem lw_p94 : lw_okq (⟨"ValuesGoModel", "allRules", "()I"⟩, 81) := ⟨⟨by decide +kernel, by decide +kernel⟩, List.mem_of_getElem? (i := 936) (by decide +kernel), List.mem_of_getElem? (i := 1281) (by decide +kernel), List.mem_of_getElem? (i := 1282) (by decide +kernel)⟩
theorem lw_p95 : lw_okq (⟨"ValuesGoModel", "ruleAt", "(I)I"⟩, 81) := ⟨⟨by decide +kernel, by decide +kernel⟩, List.mem_of_getElem? (i := 936) (by decide +kernel), List.mem_of_getElem? (i := 1285) (by decide +kernel), List.mem_of_getElem? (i := 1286) (by decide +kernel)⟩
def lw_privs_6 : List (MethodName × Nat) := [(⟨"ValuesGoModel", "reads", "()Z"⟩, 81), (⟨"ValuesGoModel", "next", "()V"⟩, 81), (⟨"ValuesGoModel", "byteAt", "(I)I"⟩, 81), (⟨"ValuesGoModel", "isDistinct", "()Z"⟩, 81), (⟨"ValuesGoModel", "fresh", "()I"⟩, 81), (⟨"ValuesGoModel", "fail", "()V"⟩, 81), (⟨"ValuesGoModel", "name", "()I"⟩, 81), (⟨"ValuesGoModel", "test", "()Z"⟩, 81), (⟨"ValuesGoModel", "sum", "()I"⟩, 81), (⟨"ValuesGoModel", "term", "()I"⟩, 81), (⟨"ValuesGoModel", "one", "()I"⟩, 81), (⟨"ValuesGoModel", "isSign", "(I)Z"⟩, 81), (⟨"ValuesGoModel", "isHolding", "(IIII)Z"⟩, 81), (⟨"ValuesGoModel", "nextRule", "()I"⟩, 81), (⟨"ValuesGoModel", "allRules", "()I"⟩, 81), (⟨"ValuesGoModel", "ruleAt", "(I)I"⟩, 81)]
theorem lw_r6 : ∀ q ∈ lw_privs_6, lw_okq q := List.forall_mem_cons.mpr ⟨lw_p80, List.forall_mem_cons.mpr ⟨lw_p81, List.forall_mem_cons.mpr ⟨lw_p82, List.forall_mem_cons.mpr ⟨lw_p83, List.forall_mem_cons.mpr ⟨lw_p84, List.forall_mem_cons.mpr ⟨lw_p85, List.forall_mem_cons.mpr ⟨lw_p86, List.forall_mem_cons.mpr ⟨lw_p87, List.forall_mem_cons.mpr ⟨lw_p88, List.forall_mem_cons.mpr ⟨lw_p89, List.forall_mem_cons.mpr ⟨lw_p90, List.forall_mem_cons.mpr ⟨lw_p91, List.forall_mem_cons.mpr ⟨lw_p92, List.forall_mem_cons.mpr ⟨lw_p93, List.forall_mem_cons.mpr ⟨lw_p94, List.forall_mem_cons.mpr ⟨lw_p95, fun _ h => absurd h List.not_mem_nil⟩⟩⟩⟩⟩⟩⟩⟩⟩⟩⟩⟩⟩⟩⟩⟩
theorem lw_p96 : lw_okq (⟨"ValuesGoModel", "priority", "(I)I"⟩, 81) := ⟨⟨by decide +kernel, by decide +kernel⟩, List.mem_of_getElem? (i := 936) (by decide +kernel), List.mem_of_getElem? (i := 1289) (by decide +kernel), List.mem_of_getElem? (i := 1290) (by decide +kernel)⟩
theorem lw_p97 : lw_okq (⟨"ValuesGoModel", "prunes", "(I)V"⟩, 81) := ⟨⟨by decide +kernel, by decide +kernel⟩, List.mem_of_getElem? (i := 936) (by decide +kernel), List.mem_of_getElem? (i := 1293) (by decide +kernel), List.mem_of_getElem? (i := 1294) (by decide +kernel)⟩
theorem lw_p98 : lw_okq (⟨"ValuesGoModel", "isAlone", "(II)Z"⟩, 81) := ⟨⟨by decide +kernel, by decide +kernel⟩, List.mem_of_getElem? (i := 936) (by decide +kernel), List.mem_of_getElem? (i := 1297) (by decide +kernel), List.mem_of_getElem? (i := 1298) (by decide +kernel)⟩
theorem lw_p99 : lw_okq (⟨"ValuesGoModel", "pairOf", "(II)I"⟩, 81) := ⟨⟨by decide +kernel, by decide +kernel⟩, List.mem_of_getElem? (i := 936) (by decide +kernel), List.mem_of_getElem? (i := 1301) (by decide +kernel), List.mem_of_getElem? (i := 1302) (by decide +kernel)⟩
theorem lw_p100 : lw_okq (⟨"ValuesGoModel", "keeps", "(III)V"⟩, 81) := ⟨⟨by decide +kernel, by decide +kernel⟩, List.mem_of_getElem? (i := 936) (by decide +kernel), List.mem_of_getElem? (i := 1305) (by decide +kernel), List.mem_of_getElem? (i := 1306) (by decide +kernel)⟩
theorem lw_p101 : lw_okq (⟨"ValuesGoModel", "goes", "(III)V"⟩, 81) := ⟨⟨by decide +kernel, by decide +kernel⟩, List.mem_of_getElem? (i := 936) (by decide +kernel), List.mem_of_getElem? (i := 1309) (by decide +kernel), List.mem_of_getElem? (i := 1310) (by decide +kernel)⟩
theorem lw_p102 : lw_okq (⟨"ValuesGoModel", "goesThrough", "(I)V"⟩, 81) := ⟨⟨by decide +kernel, by decide +kernel⟩, List.mem_of_getElem? (i := 936) (by decide +kernel), List.mem_of_getElem? (i := 1313) (by decide +kernel), List.mem_of_getElem? (i := 1314) (by decide +kernel)⟩
theorem lw_p103 : lw_okq (⟨"ValuesGoModel", "domainAt", "(II)I"⟩, 81) := ⟨⟨by decide +kernel, by decide +kernel⟩, List.mem_of_getElem? (i := 936) (by decide +kernel), List.mem_of_getElem? (i := 1317) (by decide +kernel), List.mem_of_getElem? (i := 1318) (by decide +kernel)⟩
theorem lw_p104 : lw_okq (⟨"ValuesGoModel", "queues", "(II)V"⟩, 81) := ⟨⟨by decide +kernel, by decide +kernel⟩, List.mem_of_getElem? (i := 936) (by decide +kernel), List.mem_of_getElem? (i := 1321) (by decide +kernel), List.mem_of_getElem? (i := 1322) (by decide +kernel)⟩
theorem lw_p105 : lw_okq (⟨"ValuesGoModel", "decides", "(III)V"⟩, 81) := ⟨⟨by decide +kernel, by decide +kernel⟩, List.mem_of_getElem? (i := 936) (by decide +kernel), List.mem_of_getElem? (i := 1336) (by decide +kernel), List.mem_of_getElem? (i := 1337) (by decide +kernel)⟩
theorem lw_p106 : lw_okq (⟨"ValuesGoModel", "queued", "()I"⟩, 81) := ⟨⟨by decide +kernel, by decide +kernel⟩, List.mem_of_getElem? (i := 936) (by decide +kernel), List.mem_of_getElem? (i := 1344) (by decide +kernel), List.mem_of_getElem? (i := 1345) (by decide +kernel)⟩
theorem lw_p107 : lw_okq (⟨"ValuesGoModel", "laysAside", "()V"⟩, 81) := ⟨⟨by decide +kernel, by decide +kernel⟩, List.mem_of_getElem? (i := 936) (by decide +kernel), List.mem_of_getElem? (i := 1371) (by decide +kernel), List.mem_of_getElem? (i := 1372) (by decide +kernel)⟩
theorem lw_p108 : lw_okq (⟨"ValuesGoModel", "starts", "(III)V"⟩, 81) := ⟨⟨by decide +kernel, by decide +kernel⟩, List.mem_of_getElem? (i := 936) (by decide +kernel), List.mem_of_getElem? (i := 1375) (by decide +kernel), List.mem_of_getElem? (i := 1376) (by decide +kernel)⟩
theorem lw_p109 : lw_okq (⟨"ValuesGoModel", "isGone", "(II)Z"⟩, 81) := ⟨⟨by decide +kernel, by decide +kernel⟩, List.mem_of_getElem? (i := 936) (by decide +kernel), List.mem_of_getElem? (i := 1379) (by decide +kernel), List.mem_of_getElem? (i := 1380) (by decide +kernel)⟩
theorem lw_p110 : lw_okq (⟨"ValuesGoModel", "laysBack", "()V"⟩, 81) := ⟨⟨by decide +kernel, by decide +kernel⟩, List.mem_of_getElem? (i := 936) (by decide +kernel), List.mem_of_getElem? (i := 1383) (by decide +kernel), List.mem_of_getElem? (i := 1384) (by decide +kernel)⟩
theorem lw_p111 : lw_okq (⟨"ValuesGoModel", "isIdle", "(I)Z"⟩, 81) := ⟨⟨by decide +kernel, by decide +kernel⟩, List.mem_of_getElem? (i := 936) (by decide +kernel), List.mem_of_getElem? (i := 1396) (by decide +kernel), List.mem_of_getElem? (i := 1397) (by decide +kernel)⟩
def lw_privs_7 : List (MethodName × Nat) := [(⟨"ValuesGoModel", "priority", "(I)I"⟩, 81), (⟨"ValuesGoModel", "prunes", "(I)V"⟩, 81), (⟨"ValuesGoModel", "isAlone", "(II)Z"⟩, 81), (⟨"ValuesGoModel", "pairOf", "(II)I"⟩, 81), (⟨"ValuesGoModel", "keeps", "(III)V"⟩, 81), (⟨"ValuesGoModel", "goes", "(III)V"⟩, 81), (⟨"ValuesGoModel", "goesThrough", "(I)V"⟩, 81), (⟨"ValuesGoModel", "domainAt", "(II)I"⟩, 81), (⟨"ValuesGoModel", "queues", "(II)V"⟩, 81), (⟨"ValuesGoModel", "decides", "(III)V"⟩, 81), (⟨"ValuesGoModel", "queued", "()I"⟩, 81), (⟨"ValuesGoModel", "laysAside", "()V"⟩, 81), (⟨"ValuesGoModel", "starts", "(III)V"⟩, 81), (⟨"ValuesGoModel", "isGone", "(II)Z"⟩, 81), (⟨"ValuesGoModel", "laysBack", "()V"⟩, 81), (⟨"ValuesGoModel", "isIdle", "(I)Z"⟩, 81)]
theorem lw_r7 : ∀ q ∈ lw_privs_7, lw_okq q := List.forall_mem_cons.mpr ⟨lw_p96, List.forall_mem_cons.mpr ⟨lw_p97, List.forall_mem_cons.mpr ⟨lw_p98, List.forall_mem_cons.mpr ⟨lw_p99, List.forall_mem_cons.mpr ⟨lw_p100, List.forall_mem_cons.mpr ⟨lw_p101, List.forall_mem_cons.mpr ⟨lw_p102, List.forall_mem_cons.mpr ⟨lw_p103, List.forall_mem_cons.mpr ⟨lw_p104, List.forall_mem_cons.mpr ⟨lw_p105, List.forall_mem_cons.mpr ⟨lw_p106, List.forall_mem_cons.mpr ⟨lw_p107, List.forall_mem_cons.mpr ⟨lw_p108, List.forall_mem_cons.mpr ⟨lw_p109, List.forall_mem_cons.mpr ⟨lw_p110, List.forall_mem_cons.mpr ⟨lw_p111, fun _ h => absurd h List.not_mem_nil⟩⟩⟩⟩⟩⟩⟩⟩⟩⟩⟩⟩⟩⟩⟩⟩
theorem lw_p112 : lw_okq (⟨"ValuesGoModel", "wentBy", "(I)I"⟩, 81) := ⟨⟨by decide +kernel, by decide +kernel⟩, List.mem_of_getElem? (i := 936) (by decide +kernel), List.mem_of_getElem? (i := 1400) (by decide +kernel), List.mem_of_getElem? (i := 1401) (by decide +kernel)⟩
theorem lw_p113 : lw_okq (⟨"ValuesGoModel", "laysAside2", "()V"⟩, 81) := ⟨⟨by decide +kernel, by decide +kernel⟩, List.mem_of_getElem? (i := 936) (by decide +kernel), List.mem_of_getElem? (i := 1409) (by decide +kernel), List.mem_of_getElem? (i := 1410) (by decide +kernel)⟩
theorem lw_p114 : lw_okq (⟨"ValuesGoModel", "searched", "(IIZZI)I"⟩, 81) := ⟨⟨by decide +kernel, by decide +kernel⟩, List.mem_of_getElem? (i := 936) (by decide +kernel), List.mem_of_getElem? (i := 1413) (by decide +kernel), List.mem_of_getElem? (i := 1414) (by decide +kernel)⟩
theorem lw_p115 : lw_okq (⟨"ValuesGoModel", "searches", "(II)I"⟩, 81) := ⟨⟨by decide +kernel, by decide +kernel⟩, List.mem_of_getElem? (i := 936) (by decide +kernel), List.mem_of_getElem? (i := 1417) (by decide +kernel), List.mem_of_getElem? (i := 1418) (by decide +kernel)⟩
theorem lw_p116 : lw_okq (⟨"ValuesGoModel", "runsAll", "()V"⟩, 81) := ⟨⟨by decide +kernel, by decide +kernel⟩, List.mem_of_getElem? (i := 936) (by decide +kernel), List.mem_of_getElem? (i := 1421) (by decide +kernel), List.mem_of_getElem? (i := 1422) (by decide +kernel)⟩
theorem lw_p117 : lw_okq (⟨"ValuesGoModel", "chosen", "()I"⟩, 81) := ⟨⟨by decide +kernel, by decide +kernel⟩, List.mem_of_getElem? (i := 936) (by decide +kernel), List.mem_of_getElem? (i := 1425) (by decide +kernel), List.mem_of_getElem? (i := 1426) (by decide +kernel)⟩
theorem lw_p118 : lw_okq (⟨"ValuesGoModel", "ruleCount", "(I)I"⟩, 81) := ⟨⟨by decide +kernel, by decide +kernel⟩, List.mem_of_getElem? (i := 936) (by decide +kernel), List.mem_of_getElem? (i := 1429) (by decide +kernel), List.mem_of_getElem? (i := 1430) (by decide +kernel)⟩
theorem lw_p119 : lw_okq (⟨"ValuesGoModel", "picked", "(I)I"⟩, 81) := ⟨⟨by decide +kernel, by decide +kernel⟩, List.mem_of_getElem? (i := 936) (by decide +kernel), List.mem_of_getElem? (i := 1436) (by decide +kernel), List.mem_of_getElem? (i := 1437) (by decide +kernel)⟩
theorem lw_p120 : lw_okq (⟨"ValuesGoModel", "learns", "(I)Z"⟩, 81) := ⟨⟨by decide +kernel, by decide +kernel⟩, List.mem_of_getElem? (i := 936) (by decide +kernel), List.mem_of_getElem? (i := 1440) (by decide +kernel), List.mem_of_getElem? (i := 1441) (by decide +kernel)⟩
theorem lw_p121 : lw_okq (⟨"ValuesGoModel", "clears", "()V"⟩, 81) := ⟨⟨by decide +kernel, by decide +kernel⟩, List.mem_of_getElem? (i := 936) (by decide +kernel), List.mem_of_getElem? (i := 1444) (by decide +kernel), List.mem_of_getElem? (i := 1445) (by decide +kernel)⟩
theorem lw_p122 : lw_okq (⟨"ValuesGoModel", "laysBack2", "()V"⟩, 81) := ⟨⟨by decide +kernel, by decide +kernel⟩, List.mem_of_getElem? (i := 936) (by decide +kernel), List.mem_of_getElem? (i := 1448) (by decide +kernel), List.mem_of_getElem? (i := 1449) (by decide +kernel)⟩
theorem lw_p123 : lw_okq (⟨"ValuesGoModel", "isFound", "(III)Z"⟩, 81) := ⟨⟨by decide +kernel, by decide +kernel⟩, List.mem_of_getElem? (i := 936) (by decide +kernel), List.mem_of_getElem? (i := 1468) (by decide +kernel), List.mem_of_getElem? (i := 1469) (by decide +kernel)⟩
theorem lw_p124 : lw_okq (⟨"ValuesGoModel", "isSo", "(II)Z"⟩, 81) := ⟨⟨by decide +kernel, by decide +kernel⟩, List.mem_of_getElem? (i := 936) (by decide +kernel), List.mem_of_getElem? (i := 1472) (by decide +kernel), List.mem_of_getElem? (i := 1473) (by decide +kernel)⟩
def lw_privs_8 : List (MethodName × Nat) := [(⟨"ValuesGoModel", "wentBy", "(I)I"⟩, 81), (⟨"ValuesGoModel", "laysAside2", "()V"⟩, 81), (⟨"ValuesGoModel", "searched", "(IIZZI)I"⟩, 81), (⟨"ValuesGoModel", "searches", "(II)I"⟩, 81), (⟨"ValuesGoModel", "runsAll", "()V"⟩, 81), (⟨"ValuesGoModel", "chosen", "()I"⟩, 81), (⟨"ValuesGoModel", "ruleCount", "(I)I"⟩, 81), (⟨"ValuesGoModel", "picked", "(I)I"⟩, 81), (⟨"ValuesGoModel", "learns", "(I)Z"⟩, 81), (⟨"ValuesGoModel", "clears", "()V"⟩, 81), (⟨"ValuesGoModel", "laysBack2", "()V"⟩, 81), (⟨"ValuesGoModel", "isFound", "(III)Z"⟩, 81), (⟨"ValuesGoModel", "isSo", "(II)Z"⟩, 81)]
theorem lw_r8 : ∀ q ∈ lw_privs_8, lw_okq q := List.forall_mem_cons.mpr ⟨lw_p112, List.forall_mem_cons.mpr ⟨lw_p113, List.forall_mem_cons.mpr ⟨lw_p114, List.forall_mem_cons.mpr ⟨lw_p115, List.forall_mem_cons.mpr ⟨lw_p116, List.forall_mem_cons.mpr ⟨lw_p117, List.forall_mem_cons.mpr ⟨lw_p118, List.forall_mem_cons.mpr ⟨lw_p119, List.forall_mem_cons.mpr ⟨lw_p120, List.forall_mem_cons.mpr ⟨lw_p121, List.forall_mem_cons.mpr ⟨lw_p122, List.forall_mem_cons.mpr ⟨lw_p123, List.forall_mem_cons.mpr ⟨lw_p124, fun _ h => absurd h List.not_mem_nil⟩⟩⟩⟩⟩⟩⟩⟩⟩⟩⟩⟩⟩
def lw_privs : List (MethodName × Nat) := lw_privs_1 ++ (lw_privs_2 ++ (lw_privs_3 ++ (lw_privs_4 ++ (lw_privs_5 ++ (lw_privs_6 ++ (lw_privs_7 ++ (lw_privs_8)))))))
def lw_tbl : List Cond := k2_sels lw_privs ++ tables_1
theorem lw_privs_ok : ∀ q ∈ lw_privs, lw_okq q := by
  show ∀ q ∈ lw_privs_1 ++ (lw_privs_2 ++ (lw_privs_3 ++ (lw_privs_4 ++ (lw_privs_5 ++ (lw_privs_6 ++ (lw_privs_7 ++ (lw_privs_8))))))), lw_okq q
  exact List.forall_mem_append.mpr ⟨lw_r1, List.forall_mem_append.mpr ⟨lw_r2, List.forall_mem_append.mpr ⟨lw_r3, List.forall_mem_append.mpr ⟨lw_r4, List.forall_mem_append.mpr ⟨lw_r5, List.forall_mem_append.mpr ⟨lw_r6, List.forall_mem_append.mpr ⟨lw_r7, lw_r8⟩⟩⟩⟩⟩⟩⟩
def RX0 : String := "ValuesGo$Hall"
def TX0 : u_T := fun k => match k with
  | 0 => ("ValuesGo$Hall", "rules", "LValuesGo$Rules;", true)
  | 1 => ("ValuesGo$Hall", "domains", "[I", true)
  | 2 => ("ValuesGo$Hall", "sifted", "[I", true)
  | 3 => ("ValuesGo$Hall", "wentValue", "[I", true)
  | 4 => ("ValuesGo$Hall", "wentReason", "[I", true)
  | 5 => ("ValuesGo$Hall", "went", "I", false)
  | 6 => ("ValuesGo$Hall", "taking", "I", false)
  | 7 => ("ValuesGo$Hall", "queue", "I", false)
  | 8 => ("ValuesGo$Hall", "runs", "I", false)
  | 9 => ("ValuesGo$Hall", "failed", "Z", false)
  | 10 => ("ValuesGo$Hall", "shuffled", "Z", false)
  | _ => ("ValuesGo$Hall", "seed", "I", false)
def tyX0 : Nat → FieldType := fun k => match k with
  | 0 => .object "ValuesGo$Rules"
  | 1 => .array .int
  | 2 => .array .int
  | 3 => .array .int
  | 4 => .array .int
  | 5 => .int
  | 6 => .int
  | 7 => .int
  | 8 => .int
  | 9 => .boolean
  | 10 => .boolean
  | _ => .int
abbrev wsX00 : List Cond := u_ws RX0 TX0 12
theorem nmX0 : ∀ a, a < 12 → ∀ b, b < 12 → a ≠ b → (TX0 a).2.1 ≠ (TX0 b).2.1 := by decide +kernel
theorem tyX0_ok : ∀ k, k < 12 → parseFieldDescriptor (TX0 k).2.2.1 = some (tyX0 k) := by decide +kernel
abbrev cX0_init : ByteArray := prog_2_method_1_code
def yX0_init : MethodName := ⟨RX0, "<init>", "(LValuesGo$Rules;)V"⟩
abbrev cX0_clear : ByteArray := prog_2_method_2_code
def yX0_clear : MethodName := ⟨RX0, "clear", "(I)V"⟩
abbrev cX0_become : ByteArray := prog_2_method_3_code
def yX0_become : MethodName := ⟨RX0, "become", "(LValuesGo$Hall;)V"⟩
abbrev cX0_narrow : ByteArray := prog_2_method_4_code
def yX0_narrow : MethodName := ⟨RX0, "narrow", "(III)I"⟩
abbrev cX0_drop : ByteArray := prog_2_method_5_code
def yX0_drop : MethodName := ⟨RX0, "drop", "(III)V"⟩
abbrev cX0_wake : ByteArray := prog_2_method_6_code
def yX0_wake : MethodName := ⟨RX0, "wake", "(I)V"⟩
abbrev cX0_runOne : ByteArray := prog_2_method_7_code
def yX0_runOne : MethodName := ⟨RX0, "runOne", "()I"⟩
abbrev cX0_orderedNext : ByteArray := prog_2_method_8_code
def yX0_orderedNext : MethodName := ⟨RX0, "orderedNext", "()I"⟩
abbrev cX0_shuffledNext : ByteArray := prog_2_method_9_code
def yX0_shuffledNext : MethodName := ⟨RX0, "shuffledNext", "()I"⟩
abbrev cX0_shuffle : ByteArray := prog_2_method_10_code
def yX0_shuffle : MethodName := ⟨RX0, "shuffle", "(I)V"⟩
abbrev cX0_inOrder : ByteArray := prog_2_method_11_code
def yX0_inOrder : MethodName := ⟨RX0, "inOrder", "()V"⟩
abbrev cX0_runAll : ByteArray := prog_2_method_12_code
def yX0_runAll : MethodName := ⟨RX0, "runAll", "()I"⟩
abbrev cX0_start : ByteArray := prog_2_method_13_code
def yX0_start : MethodName := ⟨RX0, "start", "(LValuesGo$Past;II)V"⟩
abbrev cX0_takeBack : ByteArray := prog_2_method_14_code
def yX0_takeBack : MethodName := ⟨RX0, "takeBack", "(I)V"⟩
abbrev cX0_isLike : ByteArray := prog_2_method_15_code
def yX0_isLike : MethodName := ⟨RX0, "isLike", "(LValuesGo$Hall;)Z"⟩
abbrev cX0_isSettled : ByteArray := prog_2_method_16_code
def yX0_isSettled : MethodName := ⟨RX0, "isSettled", "(I)Z"⟩
abbrev cX0_howManySettled : ByteArray := prog_2_method_17_code
def yX0_howManySettled : MethodName := ⟨RX0, "howManySettled", "()I"⟩
abbrev cX0_howManyIn : ByteArray := prog_2_method_18_code
def yX0_howManyIn : MethodName := ⟨RX0, "howManyIn", "([I)I"⟩
abbrev cX0_wentBy : ByteArray := prog_2_method_19_code
def yX0_wentBy : MethodName := ⟨RX0, "wentBy", "(I)I"⟩
abbrev cX0_placeOf : ByteArray := prog_2_method_20_code
def yX0_placeOf : MethodName := ⟨RX0, "placeOf", "(I)I"⟩
def RX1 : String := "ValuesGo$Past"
def TX1 : u_T := fun k => match k with
  | 0 => ("ValuesGo$Past", "variables", "[I", true)
  | 1 => ("ValuesGo$Past", "sets", "[I", true)
  | 2 => ("ValuesGo$Past", "wentAt", "[I", true)
  | 3 => ("ValuesGo$Past", "decisionsAt", "[I", true)
  | 4 => ("ValuesGo$Past", "rulesAt", "[I", true)
  | 5 => ("ValuesGo$Past", "decisions", "I", false)
  | _ => ("ValuesGo$Past", "levels", "I", false)
def tyX1 : Nat → FieldType := fun k => match k with
  | 0 => .array .int
  | 1 => .array .int
  | 2 => .array .int
  | 3 => .array .int
  | 4 => .array .int
  | 5 => .int
  | _ => .int
abbrev wsX10 : List Cond := u_ws RX1 TX1 7
theorem nmX1 : ∀ a, a < 7 → ∀ b, b < 7 → a ≠ b → (TX1 a).2.1 ≠ (TX1 b).2.1 := by decide +kernel
theorem tyX1_ok : ∀ k, k < 7 → parseFieldDescriptor (TX1 k).2.2.1 = some (tyX1 k) := by decide +kernel
abbrev cX1_init : ByteArray := prog_3_method_1_code
def yX1_init : MethodName := ⟨RX1, "<init>", "()V"⟩
abbrev cX1_all : ByteArray := prog_3_method_2_code
def yX1_all : MethodName := ⟨RX1, "all", "()I"⟩
abbrev cX1_decide : ByteArray := prog_3_method_3_code
def yX1_decide : MethodName := ⟨RX1, "decide", "(II)I"⟩
abbrev cX1_open : ByteArray := prog_3_method_4_code
def yX1_open : MethodName := ⟨RX1, "open", "(II)I"⟩
abbrev cX1_close : ByteArray := prog_3_method_5_code
def yX1_close : MethodName := ⟨RX1, "close", "()I"⟩
abbrev cX1_become : ByteArray := prog_3_method_6_code
def yX1_become : MethodName := ⟨RX1, "become", "(LValuesGo$Past;)V"⟩
def RX2 : String := "ValuesGo$Reader"
def TX2 : u_T := fun k => match k with
  | 0 => ("ValuesGo$Reader", "tape", "[I", true)
  | 1 => ("ValuesGo$Reader", "tokens", "[I", true)
  | 2 => ("ValuesGo$Reader", "places", "[I", true)
  | 3 => ("ValuesGo$Reader", "numbers", "[I", true)
  | 4 => ("ValuesGo$Reader", "steps", "[I", true)
  | 5 => ("ValuesGo$Reader", "stack", "[I", true)
  | 6 => ("ValuesGo$Reader", "size", "I", false)
  | 7 => ("ValuesGo$Reader", "tokensSize", "I", false)
  | 8 => ("ValuesGo$Reader", "at", "I", false)
  | 9 => ("ValuesGo$Reader", "stepsSize", "I", false)
  | 10 => ("ValuesGo$Reader", "kind", "I", false)
  | 11 => ("ValuesGo$Reader", "variables", "I", false)
  | 12 => ("ValuesGo$Reader", "name", "I", false)
  | _ => ("ValuesGo$Reader", "comparison", "I", false)
def tyX2 : Nat → FieldType := fun k => match k with
  | 0 => .array .int
  | 1 => .array .int
  | 2 => .array .int
  | 3 => .array .int
  | 4 => .array .int
  | 5 => .array .int
  | 6 => .int
  | 7 => .int
  | 8 => .int
  | 9 => .int
  | 10 => .int
  | 11 => .int
  | 12 => .int
  | _ => .int
abbrev wsX20 : List Cond := u_ws RX2 TX2 14
theorem nmX2 : ∀ a, a < 14 → ∀ b, b < 14 → a ≠ b → (TX2 a).2.1 ≠ (TX2 b).2.1 := by decide +kernel
theorem tyX2_ok : ∀ k, k < 14 → parseFieldDescriptor (TX2 k).2.2.1 = some (tyX2 k) := by decide +kernel
abbrev cX2_init : ByteArray := prog_4_method_1_code
def yX2_init : MethodName := ⟨RX2, "<init>", "()V"⟩
abbrev cX2_accept : ByteArray := prog_4_method_2_code
def yX2_accept : MethodName := ⟨RX2, "accept", "(I)Z"⟩
abbrev cX2_read : ByteArray := prog_4_method_3_code
def yX2_read : MethodName := ⟨RX2, "read", "()I"⟩
abbrev cX2_token : ByteArray := prog_4_method_4_code
def yX2_token : MethodName := ⟨RX2, "token", "()I"⟩
abbrev cX2_pass : ByteArray := prog_4_method_5_code
def yX2_pass : MethodName := ⟨RX2, "pass", "()V"⟩
abbrev cX2_split : ByteArray := prog_4_method_6_code
def yX2_split : MethodName := ⟨RX2, "split", "()V"⟩
abbrev cX2_addToken : ByteArray := prog_4_method_7_code
def yX2_addToken : MethodName := ⟨RX2, "addToken", "(II)V"⟩
abbrev cX2_endOfToken : ByteArray := prog_4_method_8_code
def yX2_endOfToken : MethodName := ⟨RX2, "endOfToken", "(I)I"⟩
abbrev cX2_kindOfToken : ByteArray := prog_4_method_9_code
def yX2_kindOfToken : MethodName := ⟨RX2, "kindOfToken", "(II)I"⟩
abbrev cX2_numberAt : ByteArray := prog_4_method_10_code
def yX2_numberAt : MethodName := ⟨RX2, "numberAt", "(II)I"⟩
abbrev cX2_isDistinctAt : ByteArray := prog_4_method_11_code
def yX2_isDistinctAt : MethodName := ⟨RX2, "isDistinctAt", "(II)Z"⟩
abbrev cX2_isDigit : ByteArray := prog_4_method_12_code
def yX2_isDigit : MethodName := ⟨RX2, "isDigit", "(I)Z"⟩
abbrev cX2_isSmall : ByteArray := prog_4_method_13_code
def yX2_isSmall : MethodName := ⟨RX2, "isSmall", "(I)Z"⟩
abbrev cX2_distinct : ByteArray := prog_4_method_14_code
def yX2_distinct : MethodName := ⟨RX2, "distinct", "()Z"⟩
abbrev cX2_tested : ByteArray := prog_4_method_15_code
def yX2_tested : MethodName := ⟨RX2, "tested", "()Z"⟩
abbrev cX2_sum : ByteArray := prog_4_method_16_code
def yX2_sum : MethodName := ⟨RX2, "sum", "(I)Z"⟩
abbrev cX2_term : ByteArray := prog_4_method_17_code
def yX2_term : MethodName := ⟨RX2, "term", "(I)Z"⟩
abbrev cX2_one : ByteArray := prog_4_method_18_code
def yX2_one : MethodName := ⟨RX2, "one", "(I)Z"⟩
abbrev cX2_bracketed : ByteArray := prog_4_method_19_code
def yX2_bracketed : MethodName := ⟨RX2, "bracketed", "(I)Z"⟩
abbrev cX2_named : ByteArray := prog_4_method_20_code
def yX2_named : MethodName := ⟨RX2, "named", "()Z"⟩
abbrev cX2_emit : ByteArray := prog_4_method_21_code
def yX2_emit : MethodName := ⟨RX2, "emit", "(I)V"⟩
abbrev cX2_holdsFor : ByteArray := prog_4_method_22_code
def yX2_holdsFor : MethodName := ⟨RX2, "holdsFor", "([I)Z"⟩
abbrev cX2_areUnlike : ByteArray := prog_4_method_23_code
def yX2_areUnlike : MethodName := ⟨RX2, "areUnlike", "([I)Z"⟩
abbrev cX2_testHolds : ByteArray := prog_4_method_24_code
def yX2_testHolds : MethodName := ⟨RX2, "testHolds", "([I)Z"⟩
abbrev cX2_joined : ByteArray := prog_4_method_25_code
def yX2_joined : MethodName := ⟨RX2, "joined", "(III)I"⟩
abbrev cX2_isSo : ByteArray := prog_4_method_26_code
def yX2_isSo : MethodName := ⟨RX2, "isSo", "(II)Z"⟩
def RX3 : String := "ValuesGo$Rules"
def TX3 : u_T := fun k => match k with
  | 0 => ("ValuesGo$Rules", "kinds", "[I", true)
  | 1 => ("ValuesGo$Rules", "variables", "[I", true)
  | 2 => ("ValuesGo$Rules", "priorities", "[I", true)
  | 3 => ("ValuesGo$Rules", "having", "[I", true)
  | 4 => ("ValuesGo$Rules", "slots", "[I", true)
  | 5 => ("ValuesGo$Rules", "ways", "[I", true)
  | 6 => ("ValuesGo$Rules", "pairs", "[I", true)
  | 7 => ("ValuesGo$Rules", "values", "[I", true)
  | _ => ("ValuesGo$Rules", "size", "I", false)
def tyX3 : Nat → FieldType := fun k => match k with
  | 0 => .array .int
  | 1 => .array .int
  | 2 => .array .int
  | 3 => .array .int
  | 4 => .array .int
  | 5 => .array .int
  | 6 => .array .int
  | 7 => .array .int
  | _ => .int
abbrev wsX30 : List Cond := u_ws RX3 TX3 9
theorem nmX3 : ∀ a, a < 9 → ∀ b, b < 9 → a ≠ b → (TX3 a).2.1 ≠ (TX3 b).2.1 := by decide +kernel
theorem tyX3_ok : ∀ k, k < 9 → parseFieldDescriptor (TX3 k).2.2.1 = some (tyX3 k) := by decide +kernel
abbrev cX3_init : ByteArray := prog_5_method_1_code
def yX3_init : MethodName := ⟨RX3, "<init>", "()V"⟩
abbrev cX3_all : ByteArray := prog_5_method_2_code
def yX3_all : MethodName := ⟨RX3, "all", "()I"⟩
abbrev cX3_howMany : ByteArray := prog_5_method_3_code
def yX3_howMany : MethodName := ⟨RX3, "howMany", "(I)I"⟩
abbrev cX3_add : ByteArray := prog_5_method_4_code
def yX3_add : MethodName := ⟨RX3, "add", "(LValuesGo$Reader;)I"⟩
abbrev cX3_enter : ByteArray := prog_5_method_5_code
def yX3_enter : MethodName := ⟨RX3, "enter", "(III)V"⟩
abbrev cX3_fillSlots : ByteArray := prog_5_method_6_code
def yX3_fillSlots : MethodName := ⟨RX3, "fillSlots", "(I)V"⟩
abbrev cX3_fillWays : ByteArray := prog_5_method_7_code
def yX3_fillWays : MethodName := ⟨RX3, "fillWays", "(ILValuesGo$Reader;)V"⟩
abbrev cX3_lastValues : ByteArray := prog_5_method_8_code
def yX3_lastValues : MethodName := ⟨RX3, "lastValues", "(ILValuesGo$Reader;)I"⟩
abbrev cX3_isWay : ByteArray := prog_5_method_9_code
def yX3_isWay : MethodName := ⟨RX3, "isWay", "(IIII)Z"⟩
abbrev cX3_countWays : ByteArray := prog_5_method_10_code
def yX3_countWays : MethodName := ⟨RX3, "countWays", "(I[I)I"⟩
abbrev cX3_notHolding : ByteArray := prog_5_method_11_code
def yX3_notHolding : MethodName := ⟨RX3, "notHolding", "([I)I"⟩
abbrev cX3_sift : ByteArray := prog_5_method_12_code
def yX3_sift : MethodName := ⟨RX3, "sift", "(I[I[I)V"⟩
abbrev cX3_siftLearned : ByteArray := prog_5_method_13_code
def yX3_siftLearned : MethodName := ⟨RX3, "siftLearned", "(I[I[I)V"⟩
abbrev cX3_learn : ByteArray := prog_5_method_14_code
def yX3_learn : MethodName := ⟨RX3, "learn", "(II[I)I"⟩
def RX4 : String := "ValuesGo$Search"
def TX4 : u_T := fun k => match k with
  | 0 => ("ValuesGo$Search", "rules", "LValuesGo$Rules;", true)
  | 1 => ("ValuesGo$Search", "past", "LValuesGo$Past;", true)
  | 2 => ("ValuesGo$Search", "thought", "LValuesGo$Hall;", true)
  | 3 => ("ValuesGo$Search", "trial", "LValuesGo$Hall;", true)
  | 4 => ("ValuesGo$Search", "triedVariable", "[I", true)
  | 5 => ("ValuesGo$Search", "triedSet", "[I", true)
  | 6 => ("ValuesGo$Search", "wentAt", "[I", true)
  | 7 => ("ValuesGo$Search", "pairSets", "[I", true)
  | 8 => ("ValuesGo$Search", "solution", "[I", true)
  | 9 => ("ValuesGo$Search", "open", "I", false)
  | 10 => ("ValuesGo$Search", "tries", "I", false)
  | 11 => ("ValuesGo$Search", "fails", "I", false)
  | 12 => ("ValuesGo$Search", "learned", "I", false)
  | 13 => ("ValuesGo$Search", "found", "I", false)
  | _ => ("ValuesGo$Search", "dear", "Z", false)
def tyX4 : Nat → FieldType := fun k => match k with
  | 0 => .object "ValuesGo$Rules"
  | 1 => .object "ValuesGo$Past"
  | 2 => .object "ValuesGo$Hall"
  | 3 => .object "ValuesGo$Hall"
  | 4 => .array .int
  | 5 => .array .int
  | 6 => .array .int
  | 7 => .array .int
  | 8 => .array .int
  | 9 => .int
  | 10 => .int
  | 11 => .int
  | 12 => .int
  | 13 => .int
  | _ => .boolean
abbrev wsX40 : List Cond := u_ws RX4 TX4 15
theorem nmX4 : ∀ a, a < 15 → ∀ b, b < 15 → a ≠ b → (TX4 a).2.1 ≠ (TX4 b).2.1 := by decide +kernel
theorem tyX4_ok : ∀ k, k < 15 → parseFieldDescriptor (TX4 k).2.2.1 = some (tyX4 k) := by decide +kernel
abbrev cX4_init : ByteArray := prog_6_method_1_code
def yX4_init : MethodName := ⟨RX4, "<init>", "(LValuesGo$Rules;LValuesGo$Past;LValuesGo$Hall;LValuesGo$Hall;)V"⟩
abbrev cX4_go : ByteArray := prog_6_method_2_code
def yX4_go : MethodName := ⟨RX4, "go", "(IIZIZ)V"⟩
abbrev cX4_keepSolution : ByteArray := prog_6_method_3_code
def yX4_keepSolution : MethodName := ⟨RX4, "keepSolution", "()V"⟩
abbrev cX4_tryOne : ByteArray := prog_6_method_4_code
def yX4_tryOne : MethodName := ⟨RX4, "tryOne", "(II)Z"⟩
abbrev cX4_turnBack : ByteArray := prog_6_method_5_code
def yX4_turnBack : MethodName := ⟨RX4, "turnBack", "(I)Z"⟩
abbrev cX4_chosen : ByteArray := prog_6_method_6_code
def yX4_chosen : MethodName := ⟨RX4, "chosen", "(I)I"⟩
abbrev cX4_worthOf : ByteArray := prog_6_method_7_code
def yX4_worthOf : MethodName := ⟨RX4, "worthOf", "(II)I"⟩
abbrev cX4_picked : ByteArray := prog_6_method_8_code
def yX4_picked : MethodName := ⟨RX4, "picked", "(II)I"⟩
abbrev cX4_least : ByteArray := prog_6_method_9_code
def yX4_least : MethodName := ⟨RX4, "least", "(II)I"⟩
abbrev cX4_learnFromTries : ByteArray := prog_6_method_10_code
def yX4_learnFromTries : MethodName := ⟨RX4, "learnFromTries", "()I"⟩
abbrev cX4_learn : ByteArray := prog_6_method_11_code
def yX4_learn : MethodName := ⟨RX4, "learn", "(I)I"⟩
abbrev cX4_startTrial : ByteArray := prog_6_method_12_code
def yX4_startTrial : MethodName := ⟨RX4, "startTrial", "(I)V"⟩
abbrev cX4_isSolution : ByteArray := prog_6_method_13_code
def yX4_isSolution : MethodName := ⟨RX4, "isSolution", "([I)Z"⟩
abbrev cX4_digits : ByteArray := prog_6_method_14_code
def yX4_digits : MethodName := ⟨RX4, "digits", "()I"⟩
def RX5 : String := "ValuesGo$Sheet"
def TX5 : u_T := fun k => match k with
  | 0 => ("ValuesGo$Sheet", "items", "[I", true)
  | 1 => ("ValuesGo$Sheet", "sort", "I", false)
  | _ => ("ValuesGo$Sheet", "size", "I", false)
def tyX5 : Nat → FieldType := fun k => match k with
  | 0 => .array .int
  | 1 => .int
  | _ => .int
abbrev wsX50 : List Cond := u_ws RX5 TX5 3
theorem nmX5 : ∀ a, a < 3 → ∀ b, b < 3 → a ≠ b → (TX5 a).2.1 ≠ (TX5 b).2.1 := by decide +kernel
theorem tyX5_ok : ∀ k, k < 3 → parseFieldDescriptor (TX5 k).2.2.1 = some (tyX5 k) := by decide +kernel
abbrev cX5_init : ByteArray := prog_7_method_1_code
def yX5_init : MethodName := ⟨RX5, "<init>", "()V"⟩
abbrev cX5_become : ByteArray := prog_7_method_2_code
def yX5_become : MethodName := ⟨RX5, "become", "(II)V"⟩
abbrev cX5_isMissing : ByteArray := prog_7_method_3_code
def yX5_isMissing : MethodName := ⟨RX5, "isMissing", "()Z"⟩
abbrev cX5_has : ByteArray := prog_7_method_4_code
def yX5_has : MethodName := ⟨RX5, "has", "(I)Z"⟩
abbrev cX5_hasRow : ByteArray := prog_7_method_5_code
def yX5_hasRow : MethodName := ⟨RX5, "hasRow", "(II)Z"⟩
abbrev cX5_cut : ByteArray := prog_7_method_6_code
def yX5_cut : MethodName := ⟨RX5, "cut", "(I)I"⟩
def RX6 : String := "ValuesGo"
def TX6 : u_T := fun k => match k with
  | 0 => ("ValuesGo", "rules", "LValuesGo$Rules;", true)
  | 1 => ("ValuesGo", "reader", "LValuesGo$Reader;", true)
  | 2 => ("ValuesGo", "hall", "LValuesGo$Hall;", true)
  | 3 => ("ValuesGo", "past", "LValuesGo$Past;", true)
  | 4 => ("ValuesGo", "thought", "LValuesGo$Hall;", true)
  | 5 => ("ValuesGo", "trial", "LValuesGo$Hall;", true)
  | 6 => ("ValuesGo", "search", "LValuesGo$Search;", true)
  | 7 => ("ValuesGo", "keptHall", "LValuesGo$Hall;", true)
  | 8 => ("ValuesGo", "keptPast", "LValuesGo$Past;", true)
  | 9 => ("ValuesGo", "sheets", "[LValuesGo$Sheet;", true)
  | 10 => ("ValuesGo", "toldValues", "[I", true)
  | 11 => ("ValuesGo", "keptRules", "I", false)
  | _ => ("ValuesGo", "imaged", "Z", false)
def tyX6 : Nat → FieldType := fun k => match k with
  | 0 => .object "ValuesGo$Rules"
  | 1 => .object "ValuesGo$Reader"
  | 2 => .object "ValuesGo$Hall"
  | 3 => .object "ValuesGo$Past"
  | 4 => .object "ValuesGo$Hall"
  | 5 => .object "ValuesGo$Hall"
  | 6 => .object "ValuesGo$Search"
  | 7 => .object "ValuesGo$Hall"
  | 8 => .object "ValuesGo$Past"
  | 9 => .array (.object "ValuesGo$Sheet")
  | 10 => .array .int
  | 11 => .int
  | _ => .boolean
abbrev wsX60 : List Cond := u_ws RX6 TX6 13
theorem nmX6 : ∀ a, a < 13 → ∀ b, b < 13 → a ≠ b → (TX6 a).2.1 ≠ (TX6 b).2.1 := by decide +kernel
theorem tyX6_ok : ∀ k, k < 13 → parseFieldDescriptor (TX6 k).2.2.1 = some (tyX6 k) := by decide +kernel
abbrev cX6_init : ByteArray := prog_1_method_1_code
def yX6_init : MethodName := ⟨RX6, "<init>", "()V"⟩
abbrev cX6_feed : ByteArray := prog_1_method_2_code
def yX6_feed : MethodName := ⟨RX6, "feed", "(I)I"⟩
abbrev cX6_rule : ByteArray := prog_1_method_3_code
def yX6_rule : MethodName := ⟨RX6, "rule", "()I"⟩
abbrev cX6_told : ByteArray := prog_1_method_4_code
def yX6_told : MethodName := ⟨RX6, "told", "(II)I"⟩
abbrev cX6_holds : ByteArray := prog_1_method_5_code
def yX6_holds : MethodName := ⟨RX6, "holds", "(IIII)I"⟩
abbrev cX6_taken : ByteArray := prog_1_method_6_code
def yX6_taken : MethodName := ⟨RX6, "taken", "(II)I"⟩
abbrev cX6_tell : ByteArray := prog_1_method_7_code
def yX6_tell : MethodName := ⟨RX6, "tell", "(II)I"⟩
abbrev cX6_step : ByteArray := prog_1_method_8_code
def yX6_step : MethodName := ⟨RX6, "step", "()I"⟩
abbrev cX6_run : ByteArray := prog_1_method_9_code
def yX6_run : MethodName := ⟨RX6, "run", "()I"⟩
abbrev cX6_level : ByteArray := prog_1_method_10_code
def yX6_level : MethodName := ⟨RX6, "level", "()I"⟩
abbrev cX6_undo : ByteArray := prog_1_method_11_code
def yX6_undo : MethodName := ⟨RX6, "undo", "()I"⟩
abbrev cX6_domain : ByteArray := prog_1_method_12_code
def yX6_domain : MethodName := ⟨RX6, "domain", "(I)I"⟩
abbrev cX6_trail : ByteArray := prog_1_method_13_code
def yX6_trail : MethodName := ⟨RX6, "trail", "(II)I"⟩
abbrev cX6_decision : ByteArray := prog_1_method_14_code
def yX6_decision : MethodName := ⟨RX6, "decision", "(II)I"⟩
abbrev cX6_why : ByteArray := prog_1_method_15_code
def yX6_why : MethodName := ⟨RX6, "why", "(II)I"⟩
abbrev cX6_mixed : ByteArray := prog_1_method_16_code
def yX6_mixed : MethodName := ⟨RX6, "mixed", "(II)I"⟩
abbrev cX6_search : ByteArray := prog_1_method_17_code
def yX6_search : MethodName := ⟨RX6, "search", "(IIII)I"⟩
abbrev cX6_solutions : ByteArray := prog_1_method_18_code
def yX6_solutions : MethodName := ⟨RX6, "solutions", "()J"⟩
abbrev cX6_reach : ByteArray := prog_1_method_19_code
def yX6_reach : MethodName := ⟨RX6, "reach", "(II)I"⟩
abbrev cX6_tells : ByteArray := prog_1_method_20_code
def yX6_tells : MethodName := ⟨RX6, "tells", "(II)I"⟩
abbrev cX6_film : ByteArray := prog_1_method_21_code
def yX6_film : MethodName := ⟨RX6, "film", "(III)I"⟩
abbrev cX6_image : ByteArray := prog_1_method_22_code
def yX6_image : MethodName := ⟨RX6, "image", "()I"⟩
abbrev cX6_back : ByteArray := prog_1_method_23_code
def yX6_back : MethodName := ⟨RX6, "back", "()I"⟩
abbrev cX6_count : ByteArray := prog_1_method_24_code
def yX6_count : MethodName := ⟨RX6, "count", "(I)I"⟩
abbrev cX6_sheet : ByteArray := prog_1_method_25_code
def yX6_sheet : MethodName := ⟨RX6, "sheet", "(III)I"⟩
abbrev cX6_put : ByteArray := prog_1_method_26_code
def yX6_put : MethodName := ⟨RX6, "put", "(III)I"⟩
abbrev cX6_item : ByteArray := prog_1_method_27_code
def yX6_item : MethodName := ⟨RX6, "item", "(II)I"⟩
abbrev cX6_copy : ByteArray := prog_1_method_28_code
def yX6_copy : MethodName := ⟨RX6, "copy", "(IIIII)I"⟩
abbrev cX6_load : ByteArray := prog_1_method_29_code
def yX6_load : MethodName := ⟨RX6, "load", "(IIII)I"⟩
abbrev cX6_isVariable : ByteArray := prog_1_method_30_code
def yX6_isVariable : MethodName := ⟨RX6, "isVariable", "(I)Z"⟩
abbrev cX6_isValue : ByteArray := prog_1_method_31_code
def yX6_isValue : MethodName := ⟨RX6, "isValue", "(I)Z"⟩
abbrev cX6_isSheet : ByteArray := prog_1_method_32_code
def yX6_isSheet : MethodName := ⟨RX6, "isSheet", "(I)Z"⟩
abbrev cX6_isChoice : ByteArray := prog_1_method_33_code
def yX6_isChoice : MethodName := ⟨RX6, "isChoice", "(II)Z"⟩
abbrev cX6_isRule : ByteArray := prog_1_method_34_code
def yX6_isRule : MethodName := ⟨RX6, "isRule", "(I)Z"⟩
abbrev cX6_isIdle : ByteArray := prog_1_method_35_code
def yX6_isIdle : MethodName := ⟨RX6, "isIdle", "(I)Z"⟩
abbrev cX6_isGone : ByteArray := prog_1_method_36_code
def yX6_isGone : MethodName := ⟨RX6, "isGone", "(III)Z"⟩
abbrev cX6_readValues : ByteArray := prog_1_method_37_code
def yX6_readValues : MethodName := ⟨RX6, "readValues", "(LValuesGo$Sheet;)Z"⟩
abbrev cX6_choicesThatFind : ByteArray := prog_1_method_38_code
def yX6_choicesThatFind : MethodName := ⟨RX6, "choicesThatFind", "()I"⟩
def RX7 : String := "ValuesGoModel"
def TX7 : u_T := fun k => match k with
  | 0 => ("ValuesGoModel", "thrown", "I", false)
  | 1 => ("ValuesGoModel", "domains", "[I", true)
  | 2 => ("ValuesGoModel", "isFailed", "Z", false)
  | 3 => ("ValuesGoModel", "kinds", "[I", true)
  | 4 => ("ValuesGoModel", "sets", "[I", true)
  | 5 => ("ValuesGoModel", "table", "[Z", true)
  | 6 => ("ValuesGoModel", "pairs", "[I", true)
  | 7 => ("ValuesGoModel", "isQueued", "[Z", true)
  | 8 => ("ValuesGoModel", "many", "I", false)
  | 9 => ("ValuesGoModel", "learned", "I", false)
  | 10 => ("ValuesGoModel", "told", "[I", true)
  | 11 => ("ValuesGoModel", "toldSets", "[I", true)
  | 12 => ("ValuesGoModel", "decided", "I", false)
  | 13 => ("ValuesGoModel", "gone", "[I", true)
  | 14 => ("ValuesGoModel", "reasons", "[I", true)
  | 15 => ("ValuesGoModel", "trailed", "I", false)
  | 16 => ("ValuesGoModel", "levelTrail", "[I", true)
  | 17 => ("ValuesGoModel", "levelDecided", "[I", true)
  | 18 => ("ValuesGoModel", "levelMany", "[I", true)
  | 19 => ("ValuesGoModel", "levels", "I", false)
  | 20 => ("ValuesGoModel", "runs", "I", false)
  | 21 => ("ValuesGoModel", "tape", "[I", true)
  | 22 => ("ValuesGoModel", "taped", "I", false)
  | 23 => ("ValuesGoModel", "values", "[I", true)
  | 24 => ("ValuesGoModel", "here", "I", false)
  | 25 => ("ValuesGoModel", "token", "I", false)
  | 26 => ("ValuesGoModel", "tokenAt", "I", false)
  | 27 => ("ValuesGoModel", "tokenWorth", "I", false)
  | 28 => ("ValuesGoModel", "open", "I", false)
  | 29 => ("ValuesGoModel", "bad", "Z", false)
  | 30 => ("ValuesGoModel", "fault", "I", false)
  | 31 => ("ValuesGoModel", "readSet", "I", false)
  | 32 => ("ValuesGoModel", "readKind", "I", false)
  | 33 => ("ValuesGoModel", "ways", "[I", true)
  | 34 => ("ValuesGoModel", "wayMany", "I", false)
  | 35 => ("ValuesGoModel", "changed", "I", false)
  | 36 => ("ValuesGoModel", "isThought", "Z", false)
  | 37 => ("ValuesGoModel", "domainsWere", "[I", true)
  | 38 => ("ValuesGoModel", "wasQueued", "[Z", true)
  | 39 => ("ValuesGoModel", "wasFailed", "Z", false)
  | 40 => ("ValuesGoModel", "runsWere", "I", false)
  | 41 => ("ValuesGoModel", "tryAt", "[I", true)
  | 42 => ("ValuesGoModel", "tryValue", "[I", true)
  | 43 => ("ValuesGoModel", "startDomains", "[I", true)
  | 44 => ("ValuesGoModel", "choose", "I", false)
  | 45 => ("ValuesGoModel", "pick", "I", false)
  | 46 => ("ValuesGoModel", "isLearning", "Z", false)
  | 47 => ("ValuesGoModel", "isAll", "Z", false)
  | 48 => ("ValuesGoModel", "tries", "I", false)
  | 49 => ("ValuesGoModel", "fails", "I", false)
  | 50 => ("ValuesGoModel", "solved", "I", false)
  | 51 => ("ValuesGoModel", "solution", "[I", true)
  | 52 => ("ValuesGoModel", "tryDomains", "[I", true)
  | 53 => ("ValuesGoModel", "isRight", "Z", false)
  | 54 => ("ValuesGoModel", "toldLearned", "I", false)
  | 55 => ("ValuesGoModel", "domainsHad", "[I", true)
  | 56 => ("ValuesGoModel", "hadQueued", "[Z", true)
  | 57 => ("ValuesGoModel", "hadFailed", "Z", false)
  | 58 => ("ValuesGoModel", "kindsKept", "[I", true)
  | 59 => ("ValuesGoModel", "setsKept", "[I", true)
  | 60 => ("ValuesGoModel", "tableKept", "[Z", true)
  | 61 => ("ValuesGoModel", "isQueuedKept", "[Z", true)
  | 62 => ("ValuesGoModel", "domainsKept", "[I", true)
  | 63 => ("ValuesGoModel", "toldKept", "[I", true)
  | 64 => ("ValuesGoModel", "toldSetsKept", "[I", true)
  | 65 => ("ValuesGoModel", "goneKept", "[I", true)
  | 66 => ("ValuesGoModel", "reasonsKept", "[I", true)
  | 67 => ("ValuesGoModel", "levelTrailKept", "[I", true)
  | 68 => ("ValuesGoModel", "levelDecidedKept", "[I", true)
  | 69 => ("ValuesGoModel", "levelManyKept", "[I", true)
  | 70 => ("ValuesGoModel", "isFailedKept", "Z", false)
  | 71 => ("ValuesGoModel", "manyKept", "I", false)
  | 72 => ("ValuesGoModel", "decidedKept", "I", false)
  | 73 => ("ValuesGoModel", "trailedKept", "I", false)
  | 74 => ("ValuesGoModel", "levelsKept", "I", false)
  | 75 => ("ValuesGoModel", "runsKept", "I", false)
  | 76 => ("ValuesGoModel", "isKept", "Z", false)
  | 77 => ("ValuesGoModel", "isThere", "[Z", true)
  | 78 => ("ValuesGoModel", "sorts", "[I", true)
  | 79 => ("ValuesGoModel", "sheetSize", "[I", true)
  | _ => ("ValuesGoModel", "items", "[I", true)
def tyX7 : Nat → FieldType := fun k => match k with
  | 0 => .int
  | 1 => .array .int
  | 2 => .boolean
  | 3 => .array .int
  | 4 => .array .int
  | 5 => .array .boolean
  | 6 => .array .int
  | 7 => .array .boolean
  | 8 => .int
  | 9 => .int
  | 10 => .array .int
  | 11 => .array .int
  | 12 => .int
  | 13 => .array .int
  | 14 => .array .int
  | 15 => .int
  | 16 => .array .int
  | 17 => .array .int
  | 18 => .array .int
  | 19 => .int
  | 20 => .int
  | 21 => .array .int
  | 22 => .int
  | 23 => .array .int
  | 24 => .int
  | 25 => .int
  | 26 => .int
  | 27 => .int
  | 28 => .int
  | 29 => .boolean
  | 30 => .int
  | 31 => .int
  | 32 => .int
  | 33 => .array .int
  | 34 => .int
  | 35 => .int
  | 36 => .boolean
  | 37 => .array .int
  | 38 => .array .boolean
  | 39 => .boolean
  | 40 => .int
  | 41 => .array .int
  | 42 => .array .int
  | 43 => .array .int
  | 44 => .int
  | 45 => .int
  | 46 => .boolean
  | 47 => .boolean
  | 48 => .int
  | 49 => .int
  | 50 => .int
  | 51 => .array .int
  | 52 => .array .int
  | 53 => .boolean
  | 54 => .int
  | 55 => .array .int
  | 56 => .array .boolean
  | 57 => .boolean
  | 58 => .array .int
  | 59 => .array .int
  | 60 => .array .boolean
  | 61 => .array .boolean
  | 62 => .array .int
  | 63 => .array .int
  | 64 => .array .int
  | 65 => .array .int
  | 66 => .array .int
  | 67 => .array .int
  | 68 => .array .int
  | 69 => .array .int
  | 70 => .boolean
  | 71 => .int
  | 72 => .int
  | 73 => .int
  | 74 => .int
  | 75 => .int
  | 76 => .boolean
  | 77 => .array .boolean
  | 78 => .array .int
  | 79 => .array .int
  | _ => .array .int
abbrev wsX70 : List Cond := u_ws RX7 TX7 81
theorem nmX7 : ∀ a, a < 81 → ∀ b, b < 81 → a ≠ b → (TX7 a).2.1 ≠ (TX7 b).2.1 := by decide +kernel
theorem tyX7_ok : ∀ k, k < 81 → parseFieldDescriptor (TX7 k).2.2.1 = some (tyX7 k) := by decide +kernel
abbrev cX7_in : ByteArray := prog_9_method_2_code
def yX7_in : MethodName := ⟨RX7, "in", "(JJJ)Z"⟩
abbrev cX7_bitsOf : ByteArray := prog_9_method_3_code
def yX7_bitsOf : MethodName := ⟨RX7, "bitsOf", "(I)I"⟩
abbrev cX7_init : ByteArray := prog_9_method_4_code
def yX7_init : MethodName := ⟨RX7, "<init>", "()V"⟩
abbrev cX7_feed : ByteArray := prog_9_method_5_code
def yX7_feed : MethodName := ⟨RX7, "feed", "(I)I"⟩
abbrev cX7_byteAt : ByteArray := prog_9_method_6_code
def yX7_byteAt : MethodName := ⟨RX7, "byteAt", "(I)I"⟩
abbrev cX7_isSignByte : ByteArray := prog_9_method_7_code
def yX7_isSignByte : MethodName := ⟨RX7, "isSignByte", "(I)Z"⟩
abbrev cX7_isDistinct : ByteArray := prog_9_method_8_code
def yX7_isDistinct : MethodName := ⟨RX7, "isDistinct", "()Z"⟩
abbrev cX7_next : ByteArray := prog_9_method_9_code
def yX7_next : MethodName := ⟨RX7, "next", "()V"⟩
abbrev cX7_fail : ByteArray := prog_9_method_10_code
def yX7_fail : MethodName := ⟨RX7, "fail", "()V"⟩
abbrev cX7_isSign : ByteArray := prog_9_method_11_code
def yX7_isSign : MethodName := ⟨RX7, "isSign", "(I)Z"⟩
abbrev cX7_name : ByteArray := prog_9_method_12_code
def yX7_name : MethodName := ⟨RX7, "name", "()I"⟩
abbrev cX7_one : ByteArray := prog_9_method_13_code
def yX7_one : MethodName := ⟨RX7, "one", "()I"⟩
abbrev cX7_term : ByteArray := prog_9_method_14_code
def yX7_term : MethodName := ⟨RX7, "term", "()I"⟩
abbrev cX7_sum : ByteArray := prog_9_method_15_code
def yX7_sum : MethodName := ⟨RX7, "sum", "()I"⟩
abbrev cX7_test : ByteArray := prog_9_method_16_code
def yX7_test : MethodName := ⟨RX7, "test", "()Z"⟩
abbrev cX7_fresh : ByteArray := prog_9_method_17_code
def yX7_fresh : MethodName := ⟨RX7, "fresh", "()I"⟩
abbrev cX7_reads : ByteArray := prog_9_method_18_code
def yX7_reads : MethodName := ⟨RX7, "reads", "()Z"⟩
abbrev cX7_variable : ByteArray := prog_9_method_19_code
def yX7_variable : MethodName := ⟨RX7, "variable", "(II)I"⟩
abbrev cX7_rule : ByteArray := prog_9_method_20_code
def yX7_rule : MethodName := ⟨RX7, "rule", "()I"⟩
abbrev cX7_allRules : ByteArray := prog_9_method_21_code
def yX7_allRules : MethodName := ⟨RX7, "allRules", "()I"⟩
abbrev cX7_pairOf : ByteArray := prog_9_method_22_code
def yX7_pairOf : MethodName := ⟨RX7, "pairOf", "(II)I"⟩
abbrev cX7_ruleAt : ByteArray := prog_9_method_23_code
def yX7_ruleAt : MethodName := ⟨RX7, "ruleAt", "(I)I"⟩
abbrev cX7_priority : ByteArray := prog_9_method_24_code
def yX7_priority : MethodName := ⟨RX7, "priority", "(I)I"⟩
abbrev cX7_isHolding : ByteArray := prog_9_method_25_code
def yX7_isHolding : MethodName := ⟨RX7, "isHolding", "(IIII)Z"⟩
abbrev cX7_holds : ByteArray := prog_9_method_26_code
def yX7_holds : MethodName := ⟨RX7, "holds", "(IIII)I"⟩
abbrev cX7_taken : ByteArray := prog_9_method_27_code
def yX7_taken : MethodName := ⟨RX7, "taken", "(II)I"⟩
abbrev cX7_domainAt : ByteArray := prog_9_method_28_code
def yX7_domainAt : MethodName := ⟨RX7, "domainAt", "(II)I"⟩
abbrev cX7_goesThrough : ByteArray := prog_9_method_29_code
def yX7_goesThrough : MethodName := ⟨RX7, "goesThrough", "(I)V"⟩
abbrev cX7_goes : ByteArray := prog_9_method_30_code
def yX7_goes : MethodName := ⟨RX7, "goes", "(III)V"⟩
abbrev cX7_keeps : ByteArray := prog_9_method_31_code
def yX7_keeps : MethodName := ⟨RX7, "keeps", "(III)V"⟩
abbrev cX7_prunes : ByteArray := prog_9_method_32_code
def yX7_prunes : MethodName := ⟨RX7, "prunes", "(I)V"⟩
abbrev cX7_isAlone : ByteArray := prog_9_method_33_code
def yX7_isAlone : MethodName := ⟨RX7, "isAlone", "(II)Z"⟩
abbrev cX7_queues : ByteArray := prog_9_method_34_code
def yX7_queues : MethodName := ⟨RX7, "queues", "(II)V"⟩
abbrev cX7_nextRule : ByteArray := prog_9_method_35_code
def yX7_nextRule : MethodName := ⟨RX7, "nextRule", "()I"⟩
abbrev cX7_step : ByteArray := prog_9_method_36_code
def yX7_step : MethodName := ⟨RX7, "step", "()I"⟩
abbrev cX7_run : ByteArray := prog_9_method_37_code
def yX7_run : MethodName := ⟨RX7, "run", "()I"⟩
abbrev cX7_decides : ByteArray := prog_9_method_38_code
def yX7_decides : MethodName := ⟨RX7, "decides", "(III)V"⟩
abbrev cX7_tell : ByteArray := prog_9_method_39_code
def yX7_tell : MethodName := ⟨RX7, "tell", "(II)I"⟩
abbrev cX7_level : ByteArray := prog_9_method_40_code
def yX7_level : MethodName := ⟨RX7, "level", "()I"⟩
abbrev cX7_undo : ByteArray := prog_9_method_41_code
def yX7_undo : MethodName := ⟨RX7, "undo", "()I"⟩
abbrev cX7_queued : ByteArray := prog_9_method_42_code
def yX7_queued : MethodName := ⟨RX7, "queued", "()I"⟩
abbrev cX7_domain : ByteArray := prog_9_method_43_code
def yX7_domain : MethodName := ⟨RX7, "domain", "(I)I"⟩
abbrev cX7_trail : ByteArray := prog_9_method_44_code
def yX7_trail : MethodName := ⟨RX7, "trail", "(II)I"⟩
abbrev cX7_decision : ByteArray := prog_9_method_45_code
def yX7_decision : MethodName := ⟨RX7, "decision", "(II)I"⟩
abbrev cX7_laysAside : ByteArray := prog_9_method_46_code
def yX7_laysAside : MethodName := ⟨RX7, "laysAside", "()V"⟩
abbrev cX7_laysBack : ByteArray := prog_9_method_47_code
def yX7_laysBack : MethodName := ⟨RX7, "laysBack", "()V"⟩
abbrev cX7_starts : ByteArray := prog_9_method_48_code
def yX7_starts : MethodName := ⟨RX7, "starts", "(III)V"⟩
abbrev cX7_isGone : ByteArray := prog_9_method_49_code
def yX7_isGone : MethodName := ⟨RX7, "isGone", "(II)Z"⟩
abbrev cX7_why : ByteArray := prog_9_method_50_code
def yX7_why : MethodName := ⟨RX7, "why", "(II)I"⟩
abbrev cX7_isIdle : ByteArray := prog_9_method_51_code
def yX7_isIdle : MethodName := ⟨RX7, "isIdle", "(I)Z"⟩
abbrev cX7_mixed : ByteArray := prog_9_method_52_code
def yX7_mixed : MethodName := ⟨RX7, "mixed", "(II)I"⟩
abbrev cX7_wentBy : ByteArray := prog_9_method_53_code
def yX7_wentBy : MethodName := ⟨RX7, "wentBy", "(I)I"⟩
abbrev cX7_told : ByteArray := prog_9_method_54_code
def yX7_told : MethodName := ⟨RX7, "told", "(II)I"⟩
abbrev cX7_ruleCount : ByteArray := prog_9_method_55_code
def yX7_ruleCount : MethodName := ⟨RX7, "ruleCount", "(I)I"⟩
abbrev cX7_chosen : ByteArray := prog_9_method_56_code
def yX7_chosen : MethodName := ⟨RX7, "chosen", "()I"⟩
abbrev cX7_picked : ByteArray := prog_9_method_57_code
def yX7_picked : MethodName := ⟨RX7, "picked", "(I)I"⟩
abbrev cX7_runsAll : ByteArray := prog_9_method_58_code
def yX7_runsAll : MethodName := ⟨RX7, "runsAll", "()V"⟩
abbrev cX7_lowest : ByteArray := prog_9_method_59_code
def yX7_lowest : MethodName := ⟨RX7, "lowest", "(I)I"⟩
abbrev cX7_clears : ByteArray := prog_9_method_60_code
def yX7_clears : MethodName := ⟨RX7, "clears", "()V"⟩
abbrev cX7_searches : ByteArray := prog_9_method_61_code
def yX7_searches : MethodName := ⟨RX7, "searches", "(II)I"⟩
abbrev cX7_learns : ByteArray := prog_9_method_62_code
def yX7_learns : MethodName := ⟨RX7, "learns", "(I)Z"⟩
abbrev cX7_searched : ByteArray := prog_9_method_63_code
def yX7_searched : MethodName := ⟨RX7, "searched", "(IIZZI)I"⟩
abbrev cX7_search : ByteArray := prog_9_method_64_code
def yX7_search : MethodName := ⟨RX7, "search", "(IIII)I"⟩
abbrev cX7_laysAside2 : ByteArray := prog_9_method_65_code
def yX7_laysAside2 : MethodName := ⟨RX7, "laysAside2", "()V"⟩
abbrev cX7_laysBack2 : ByteArray := prog_9_method_66_code
def yX7_laysBack2 : MethodName := ⟨RX7, "laysBack2", "()V"⟩
abbrev cX7_solutions : ByteArray := prog_9_method_67_code
def yX7_solutions : MethodName := ⟨RX7, "solutions", "()J"⟩
abbrev cX7_reach : ByteArray := prog_9_method_68_code
def yX7_reach : MethodName := ⟨RX7, "reach", "(II)I"⟩
abbrev cX7_isFound : ByteArray := prog_9_method_69_code
def yX7_isFound : MethodName := ⟨RX7, "isFound", "(III)Z"⟩
abbrev cX7_isSo : ByteArray := prog_9_method_70_code
def yX7_isSo : MethodName := ⟨RX7, "isSo", "(II)Z"⟩
abbrev cX7_tells : ByteArray := prog_9_method_71_code
def yX7_tells : MethodName := ⟨RX7, "tells", "(II)I"⟩
abbrev cX7_film : ByteArray := prog_9_method_72_code
def yX7_film : MethodName := ⟨RX7, "film", "(III)I"⟩
abbrev cX7_image : ByteArray := prog_9_method_73_code
def yX7_image : MethodName := ⟨RX7, "image", "()I"⟩
abbrev cX7_back : ByteArray := prog_9_method_74_code
def yX7_back : MethodName := ⟨RX7, "back", "()I"⟩
abbrev cX7_count : ByteArray := prog_9_method_75_code
def yX7_count : MethodName := ⟨RX7, "count", "(I)I"⟩
abbrev cX7_isSheet : ByteArray := prog_9_method_76_code
def yX7_isSheet : MethodName := ⟨RX7, "isSheet", "(I)Z"⟩
abbrev cX7_sheet : ByteArray := prog_9_method_77_code
def yX7_sheet : MethodName := ⟨RX7, "sheet", "(III)I"⟩
abbrev cX7_put : ByteArray := prog_9_method_78_code
def yX7_put : MethodName := ⟨RX7, "put", "(III)I"⟩
abbrev cX7_item : ByteArray := prog_9_method_79_code
def yX7_item : MethodName := ⟨RX7, "item", "(II)I"⟩
abbrev cX7_copy : ByteArray := prog_9_method_80_code
def yX7_copy : MethodName := ⟨RX7, "copy", "(IIIII)I"⟩
abbrev cX7_load : ByteArray := prog_9_method_81_code
def yX7_load : MethodName := ⟨RX7, "load", "(IIII)I"⟩
def RJ11 : String := "java/lang/Character"
def TJ11 : u_T := fun k => match k with
  | _ => ("", "", "", false)
def tyJ11 : Nat → FieldType := fun k => match k with
  | _ => .int
abbrev cJ11_isValidCodePoint_9a6ad : ByteArray := prog_10_method_11_code
def yJ11_isValidCodePoint_9a6ad : MethodName := ⟨RJ11, "isValidCodePoint", "(I)Z"⟩
abbrev cJ11_highSurrogate_5068e : ByteArray := prog_10_method_28_code
def yJ11_highSurrogate_5068e : MethodName := ⟨RJ11, "highSurrogate", "(I)C"⟩
abbrev cJ11_lowSurrogate_5068e : ByteArray := prog_10_method_29_code
def yJ11_lowSurrogate_5068e : MethodName := ⟨RJ11, "lowSurrogate", "(I)C"⟩
def RJ6 : String := "java/lang/Integer"
def TJ6 : u_T := fun k => match k with
  | _ => ("", "", "", false)
def tyJ6 : Nat → FieldType := fun k => match k with
  | _ => .int
abbrev cJ6_bitCount_0f7a4 : ByteArray := prog_11_method_49_code
def yJ6_bitCount_0f7a4 : MethodName := ⟨RJ6, "bitCount", "(I)I"⟩
def RJ9 : String := "java/lang/Math"
def TJ9 : u_T := fun k => match k with
  | _ => ("", "", "", false)
def tyJ9 : Nat → FieldType := fun k => match k with
  | _ => .int
abbrev cJ9_max_7cf53 : ByteArray := prog_12_method_65_code
def yJ9_max_7cf53 : MethodName := ⟨RJ9, "max", "(II)I"⟩
abbrev cJ9_min_7cf53 : ByteArray := prog_12_method_69_code
def yJ9_min_7cf53 : MethodName := ⟨RJ9, "min", "(II)I"⟩
def RJ0 : String := "java/lang/String"
def TJ0 : u_T := fun k => match k with
  | _ => ("", "", "", false)
def tyJ0 : Nat → FieldType := fun k => match k with
  | _ => .int
abbrev wsJ00 : List Cond := u_ws RJ0 TJ0 0
theorem nmJ0 : ∀ a, a < 0 → ∀ b, b < 0 → a ≠ b → (TJ0 a).2.1 ≠ (TJ0 b).2.1 := by decide +kernel
theorem tyJ0_ok : ∀ k, k < 0 → parseFieldDescriptor (TJ0 k).2.2.1 = some (tyJ0 k) := by decide +kernel
abbrev cJ0_length_8abf5 : ByteArray := prog_13_method_54_code
def yJ0_length_8abf5 : MethodName := ⟨RJ0, "length", "()I"⟩
abbrev cJ0_charAt_5068e : ByteArray := prog_13_method_56_code
def yJ0_charAt_5068e : MethodName := ⟨RJ0, "charAt", "(I)C"⟩
abbrev cJ0_indexOf_0f7a4 : ByteArray := prog_13_method_79_code
def yJ0_indexOf_0f7a4 : MethodName := ⟨RJ0, "indexOf", "(I)I"⟩
abbrev cJ0_indexOf_7cf53 : ByteArray := prog_13_method_80_code
def yJ0_indexOf_7cf53 : MethodName := ⟨RJ0, "indexOf", "(II)I"⟩
abbrev cJ0_coder_7d493 : ByteArray := prog_13_method_152_code
def yJ0_coder_7d493 : MethodName := ⟨RJ0, "coder", "()B"⟩
abbrev cJ0_isLatin1_aae02 : ByteArray := prog_13_method_154_code
def yJ0_isLatin1_aae02 : MethodName := ⟨RJ0, "isLatin1", "()Z"⟩
abbrev cJ0_checkIndex_df160 : ByteArray := prog_13_method_155_code
def yJ0_checkIndex_df160 : MethodName := ⟨RJ0, "checkIndex", "(II)V"⟩
abbrev cJ0_checkBoundsBeginEnd_23922 : ByteArray := prog_13_method_158_code
def yJ0_checkBoundsBeginEnd_23922 : MethodName := ⟨RJ0, "checkBoundsBeginEnd", "(III)V"⟩
def RJ1 : String := "java/lang/StringLatin1"
def TJ1 : u_T := fun k => match k with
  | _ => ("", "", "", false)
def tyJ1 : Nat → FieldType := fun k => match k with
  | _ => .int
abbrev cJ1_charAt_3b067 : ByteArray := prog_14_method_2_code
def yJ1_charAt_3b067 : MethodName := ⟨RJ1, "charAt", "([BI)C"⟩
abbrev cJ1_canEncode_9a6ad : ByteArray := prog_14_method_4_code
def yJ1_canEncode_9a6ad : MethodName := ⟨RJ1, "canEncode", "(I)Z"⟩
abbrev cJ1_indexOf_4cfef : ByteArray := prog_14_method_22_code
def yJ1_indexOf_4cfef : MethodName := ⟨RJ1, "indexOf", "([BIII)I"⟩
abbrev cJ1_indexOfChar_4cfef : ByteArray := prog_14_method_23_code
def yJ1_indexOfChar_4cfef : MethodName := ⟨RJ1, "indexOfChar", "([BIII)I"⟩
def RJ2 : String := "java/lang/StringUTF16"
def TJ2 : u_T := fun k => match k with
  | _ => ("", "", "", false)
def tyJ2 : Nat → FieldType := fun k => match k with
  | _ => .int
abbrev cJ2_getChar_3b067 : ByteArray := prog_15_method_5_code
def yJ2_getChar_3b067 : MethodName := ⟨RJ2, "getChar", "([BI)C"⟩
abbrev cJ2_length_9d52b : ByteArray := prog_15_method_6_code
def yJ2_length_9d52b : MethodName := ⟨RJ2, "length", "([B)I"⟩
abbrev cJ2_indexOf_4cfef : ByteArray := prog_15_method_40_code
def yJ2_indexOf_4cfef : MethodName := ⟨RJ2, "indexOf", "([BIII)I"⟩
abbrev cJ2_indexOfChar_4cfef : ByteArray := prog_15_method_47_code
def yJ2_indexOfChar_4cfef : MethodName := ⟨RJ2, "indexOfChar", "([BIII)I"⟩
abbrev cJ2_indexOfCharUnsafe_4cfef : ByteArray := prog_15_method_48_code
def yJ2_indexOfCharUnsafe_4cfef : MethodName := ⟨RJ2, "indexOfCharUnsafe", "([BIII)I"⟩
abbrev cJ2_indexOfSupplementary_4cfef : ByteArray := prog_15_method_49_code
def yJ2_indexOfSupplementary_4cfef : MethodName := ⟨RJ2, "indexOfSupplementary", "([BIII)I"⟩
abbrev cJ2_charAt_3b067 : ByteArray := prog_15_method_83_code
def yJ2_charAt_3b067 : MethodName := ⟨RJ2, "charAt", "([BI)C"⟩
abbrev cJ2_checkIndex_2214a : ByteArray := prog_15_method_91_code
def yJ2_checkIndex_2214a : MethodName := ⟨RJ2, "checkIndex", "(I[B)V"⟩
abbrev cJ2_checkBoundsBeginEnd_d044e : ByteArray := prog_15_method_93_code
def yJ2_checkBoundsBeginEnd_d044e : MethodName := ⟨RJ2, "checkBoundsBeginEnd", "(II[B)V"⟩
def RJ10 : String := "java/lang/System"
def TJ10 : u_T := fun k => match k with
  | _ => ("", "", "", false)
def tyJ10 : Nat → FieldType := fun k => match k with
  | _ => .int
def RJ3 : String := "jdk/internal/util/Preconditions"
def TJ3 : u_T := fun k => match k with
  | _ => ("", "", "", false)
def tyJ3 : Nat → FieldType := fun k => match k with
  | _ => .int
abbrev cJ3_checkIndex_8e157 : ByteArray := prog_17_method_11_code
def yJ3_checkIndex_8e157 : MethodName := ⟨RJ3, "checkIndex", "(IILjava/util/function/BiFunction;)I"⟩
abbrev cJ3_checkFromToIndex_8c36e : ByteArray := prog_17_method_12_code
def yJ3_checkFromToIndex_8c36e : MethodName := ⟨RJ3, "checkFromToIndex", "(IIILjava/util/function/BiFunction;)I"⟩
def RL : String := "ValuesGoLaw"
abbrev cL_law : ByteArray := code
def yL_law : MethodName := ⟨RL, "law", "([I)Z"⟩
end
section
def gchk (b : ByteArray) (t : List (Nat × Instr × Nat)) : Bool := t.all (fun q => decide (decode b q.1 = .ok (q.2.1, q.2.2)))
theorem gxd {b : ByteArray} {t : List (Nat × Instr × Nat)} (h : gchk b t = true) (i : Nat) {pc n : Nat} {x : Instr} (hi : t[i]? = some (pc, x, n)) : decode b pc = .ok (x, n) := by
  have h1 := List.all_eq_true.mp h (pc, x, n) (List.mem_of_getElem? hi)
  exact of_decide_eq_true h1
def tX0_init : List (Nat × Instr × Nat) := [(0, .aload_n 0, 1), (1, .invokespecial 3, 3), (4, .aload_n 0, 1), (5, .bipush 9, 2), (7, .newarray .int, 2), (9, .putfield 9, 3), (12, .aload_n 0, 1), (13, .bipush 9, 2), (15, .newarray .int, 2), (17, .putfield 15, 3), (20, .aload_n 0, 1), (21, .bipush 80, 2), (23, .newarray .int, 2), (25, .putfield 18, 3), (28, .aload_n 0, 1), (29, .bipush 80, 2), (31, .newarray .int, 2), (33, .putfield 21, 3), (36, .aload_n 0, 1), (37, .aload_n 1, 1), (38, .putfield 24, 3), (41, .aload_n 0, 1), (42, .getfield 9, 3), (45, .bipush 8, 2), (47, .iconst 1, 1), (48, .iastore, 1), (49, .aload_n 0, 1), (50, .iconst 0, 1), (51, .invokevirtual 28, 3), (54, .return_, 1)]
set_option maxRecDepth 100000 in
theorem kX0_init : gchk cX0_init tX0_init = true := by decide +kernel
def tX0_clear : List (Nat × Instr × Nat) := [(0, .iconst 0, 1), (1, .istore_n 2, 1), (2, .iload_n 2, 1), (3, .bipush 8, 2), (5, .if_icmp .ge 18, 3), (8, .aload_n 0, 1), (9, .getfield 9, 3), (12, .iload_n 2, 1), (13, .sipush 1023, 3), (16, .iastore, 1), (17, .iinc 2 1, 3), (20, .goto (-18), 3), (23, .aload_n 0, 1), (24, .iconst 0, 1), (25, .putfield 32, 3), (28, .aload_n 0, 1), (29, .iload_n 1, 1), (30, .putfield 36, 3), (33, .aload_n 0, 1), (34, .iconst 0, 1), (35, .putfield 39, 3), (38, .aload_n 0, 1), (39, .iconst 0, 1), (40, .putfield 42, 3), (43, .return_, 1)]
set_option maxRecDepth 100000 in
theorem kX0_clear : gchk cX0_clear tX0_clear = true := by decide +kernel
def tX0_become : List (Nat × Instr × Nat) := [(0, .aload_n 1, 1), (1, .getfield 9, 3), (4, .iconst 0, 1), (5, .aload_n 0, 1), (6, .getfield 9, 3), (9, .iconst 0, 1), (10, .bipush 8, 2), (12, .invokestatic 46, 3), (15, .aload_n 1, 1), (16, .getfield 18, 3), (19, .iconst 0, 1), (20, .aload_n 0, 1), (21, .getfield 18, 3), (24, .iconst 0, 1), (25, .bipush 80, 2), (27, .invokestatic 46, 3), (30, .aload_n 1, 1), (31, .getfield 21, 3), (34, .iconst 0, 1), (35, .aload_n 0, 1), (36, .getfield 21, 3), (39, .iconst 0, 1), (40, .bipush 80, 2), (42, .invokestatic 46, 3), (45, .aload_n 0, 1), (46, .aload_n 1, 1), (47, .getfield 32, 3), (50, .putfield 32, 3), (53, .aload_n 0, 1), (54, .aload_n 1, 1), (55, .getfield 36, 3), (58, .putfield 36, 3), (61, .aload_n 0, 1), (62, .aload_n 1, 1), (63, .getfield 39, 3), (66, .putfield 39, 3), (69, .aload_n 0, 1), (70, .aload_n 1, 1), (71, .getfield 52, 3), (74, .putfield 52, 3), (77, .aload_n 0, 1), (78, .aload_n 1, 1), (79, .getfield 42, 3), (82, .putfield 42, 3), (85, .return_, 1)]
set_option maxRecDepth 100000 in
theorem kX0_become : gchk cX0_become tX0_become = true := by decide +kernel
def tX0_narrow : List (Nat × Instr × Nat) := [(0, .aload_n 0, 1), (1, .getfield 32, 3), (4, .istore 4, 2), (6, .aload_n 0, 1), (7, .iload_n 1, 1), (8, .aload_n 0, 1), (9, .getfield 9, 3), (12, .iload_n 1, 1), (13, .iaload, 1), (14, .iload_n 2, 1), (15, .iconst (-1), 1), (16, .ixor, 1), (17, .iand, 1), (18, .iload_n 3, 1), (19, .invokevirtual 55, 3), (22, .aload_n 0, 1), (23, .getfield 32, 3), (26, .iload 4, 2), (28, .if_icmp .le 16, 3), (31, .aload_n 0, 1), (32, .aload_n 0, 1), (33, .getfield 24, 3), (36, .getfield 59, 3), (39, .iload_n 1, 1), (40, .iaload, 1), (41, .invokevirtual 64, 3), (44, .aload_n 0, 1), (45, .getfield 32, 3), (48, .iload 4, 2), (50, .isub, 1), (51, .ireturn, 1)]
set_option maxRecDepth 100000 in
theorem kX0_narrow : gchk cX0_narrow tX0_narrow = true := by decide +kernel
def tX0_drop : List (Nat × Instr × Nat) := [(0, .iconst 0, 1), (1, .istore 4, 2), (3, .iload 4, 2), (5, .bipush 10, 2), (7, .if_icmp .ge 79, 3), (10, .iload_n 2, 1), (11, .iload 4, 2), (13, .ishr, 1), (14, .iconst 1, 1), (15, .iand, 1), (16, .iconst 1, 1), (17, .if_icmp .ne 63, 3), (20, .aload_n 0, 1), (21, .getfield 32, 3), (24, .bipush 80, 2), (26, .if_icmp .ge 54, 3), (29, .aload_n 0, 1), (30, .getfield 9, 3), (33, .iload_n 1, 1), (34, .dup2, 1), (35, .iaload, 1), (36, .iconst 1, 1), (37, .iload 4, 2), (39, .ishl, 1), (40, .iconst (-1), 1), (41, .ixor, 1), (42, .iand, 1), (43, .iastore, 1), (44, .aload_n 0, 1), (45, .getfield 18, 3), (48, .aload_n 0, 1), (49, .getfield 32, 3), (52, .iload_n 1, 1), (53, .bipush 10, 2), (55, .imul, 1), (56, .iload 4, 2), (58, .iadd, 1), (59, .iastore, 1), (60, .aload_n 0, 1), (61, .getfield 21, 3), (64, .aload_n 0, 1), (65, .getfield 32, 3), (68, .iload_n 3, 1), (69, .iastore, 1), (70, .aload_n 0, 1), (71, .dup, 1), (72, .getfield 32, 3), (75, .iconst 1, 1), (76, .iadd, 1), (77, .putfield 32, 3), (80, .iinc 4 1, 3), (83, .goto (-80), 3), (86, .aload_n 0, 1), (87, .aload_n 0, 1), (88, .getfield 42, 3), (91, .ifCond .ne 12, 3), (94, .aload_n 0, 1), (95, .getfield 9, 3), (98, .iload_n 1, 1), (99, .iaload, 1), (100, .ifCond .ne 7, 3), (103, .iconst 1, 1), (104, .goto 4, 3), (107, .iconst 0, 1), (108, .putfield 42, 3), (111, .return_, 1)]
set_option maxRecDepth 100000 in
theorem kX0_drop : gchk cX0_drop tX0_drop = true := by decide +kernel
def tX0_wake : List (Nat × Instr × Nat) := [(0, .aload_n 0, 1), (1, .aload_n 0, 1), (2, .getfield 42, 3), (5, .ifCond .eq 7, 3), (8, .iconst 0, 1), (9, .goto 14, 3), (12, .aload_n 0, 1), (13, .getfield 39, 3), (16, .iload_n 1, 1), (17, .aload_n 0, 1), (18, .getfield 36, 3), (21, .iand, 1), (22, .ior, 1), (23, .putfield 39, 3), (26, .return_, 1)]
set_option maxRecDepth 100000 in
theorem kX0_wake : gchk cX0_wake tX0_wake = true := by decide +kernel
def tX0_runOne : List (Nat × Instr × Nat) := [(0, .aload_n 0, 1), (1, .getfield 67, 3), (4, .ifCond .eq 10, 3), (7, .aload_n 0, 1), (8, .invokevirtual 70, 3), (11, .goto 7, 3), (14, .aload_n 0, 1), (15, .invokevirtual 74, 3), (18, .istore_n 1, 1), (19, .iload_n 1, 1), (20, .iconst (-1), 1), (21, .if_icmp .ne 5, 3), (24, .iconst (-1), 1), (25, .ireturn, 1), (26, .aload_n 0, 1), (27, .dup, 1), (28, .getfield 39, 3), (31, .iconst 1, 1), (32, .iload_n 1, 1), (33, .ishl, 1), (34, .iconst (-1), 1), (35, .ixor, 1), (36, .iand, 1), (37, .putfield 39, 3), (40, .aload_n 0, 1), (41, .dup, 1), (42, .getfield 52, 3), (45, .iconst 1, 1), (46, .iadd, 1), (47, .putfield 52, 3), (50, .iload_n 1, 1), (51, .bipush 16, 2), (53, .if_icmp .ge 22, 3), (56, .aload_n 0, 1), (57, .getfield 24, 3), (60, .iload_n 1, 1), (61, .aload_n 0, 1), (62, .getfield 9, 3), (65, .aload_n 0, 1), (66, .getfield 15, 3), (69, .invokevirtual 77, 3), (72, .goto 19, 3), (75, .aload_n 0, 1), (76, .getfield 24, 3), (79, .iload_n 1, 1), (80, .aload_n 0, 1), (81, .getfield 9, 3), (84, .aload_n 0, 1), (85, .getfield 15, 3), (88, .invokevirtual 81, 3), (91, .iconst 0, 1), (92, .istore_n 2, 1), (93, .iconst 0, 1), (94, .istore_n 3, 1), (95, .iload_n 3, 1), (96, .bipush 8, 2), (98, .if_icmp .ge 81, 3), (101, .aload_n 0, 1), (102, .getfield 42, 3), (105, .ifCond .ne 74, 3), (108, .aload_n 0, 1), (109, .getfield 24, 3), (112, .getfield 84, 3), (115, .iload_n 1, 1), (116, .iaload, 1), (117, .iload_n 3, 1), (118, .ishr, 1), (119, .iconst 1, 1), (120, .iand, 1), (121, .iconst 1, 1), (122, .if_icmp .ne 51, 3), (125, .aload_n 0, 1), (126, .getfield 9, 3), (129, .iload_n 3, 1), (130, .iaload, 1), (131, .aload_n 0, 1), (132, .getfield 15, 3), (135, .iload_n 3, 1), (136, .iaload, 1), (137, .if_icmp .eq 36, 3), (140, .aload_n 0, 1), (141, .iload_n 3, 1), (142, .aload_n 0, 1), (143, .getfield 9, 3), (146, .iload_n 3, 1), (147, .iaload, 1), (148, .aload_n 0, 1), (149, .getfield 15, 3), (152, .iload_n 3, 1), (153, .iaload, 1), (154, .iconst (-1), 1), (155, .ixor, 1), (156, .iand, 1), (157, .iload_n 1, 1), (158, .invokevirtual 55, 3), (161, .iload_n 2, 1), (162, .aload_n 0, 1), (163, .getfield 24, 3), (166, .getfield 59, 3), (169, .iload_n 3, 1), (170, .iaload, 1), (171, .ior, 1), (172, .istore_n 2, 1), (173, .iinc 3 1, 3), (176, .goto (-81), 3), (179, .aload_n 0, 1), (180, .iload_n 2, 1), (181, .iconst 1, 1), (182, .iload_n 1, 1), (183, .ishl, 1), (184, .iconst (-1), 1), (185, .ixor, 1), (186, .iand, 1), (187, .invokevirtual 64, 3), (190, .iload_n 1, 1), (191, .ireturn, 1)]
set_option maxRecDepth 100000 in
theorem kX0_runOne : gchk cX0_runOne tX0_runOne = true := by decide +kernel
def tX0_orderedNext : List (Nat × Instr × Nat) := [(0, .iconst (-1), 1), (1, .istore_n 1, 1), (2, .iconst 0, 1), (3, .istore_n 2, 1), (4, .iload_n 2, 1), (5, .bipush 24, 2), (7, .if_icmp .ge 68, 3), (10, .aload_n 0, 1), (11, .getfield 39, 3), (14, .iload_n 2, 1), (15, .ishr, 1), (16, .ifCond .eq 59, 3), (19, .aload_n 0, 1), (20, .getfield 39, 3), (23, .iload_n 2, 1), (24, .ishr, 1), (25, .iconst 1, 1), (26, .iand, 1), (27, .iconst 1, 1), (28, .if_icmp .ne 7, 3), (31, .iconst 1, 1), (32, .goto 4, 3), (35, .iconst 0, 1), (36, .istore_n 3, 1), (37, .iload_n 3, 1), (38, .ifCond .eq 31, 3), (41, .iload_n 1, 1), (42, .iconst (-1), 1), (43, .if_icmp .eq 24, 3), (46, .aload_n 0, 1), (47, .getfield 24, 3), (50, .getfield 87, 3), (53, .iload_n 2, 1), (54, .iaload, 1), (55, .aload_n 0, 1), (56, .getfield 24, 3), (59, .getfield 87, 3), (62, .iload_n 1, 1), (63, .iaload, 1), (64, .if_icmp .ge 5, 3), (67, .iload_n 2, 1), (68, .istore_n 1, 1), (69, .iinc 2 1, 3), (72, .goto (-68), 3), (75, .iload_n 1, 1), (76, .ireturn, 1)]
set_option maxRecDepth 100000 in
theorem kX0_orderedNext : gchk cX0_orderedNext tX0_orderedNext = true := by decide +kernel
def tX0_shuffledNext : List (Nat × Instr × Nat) := [(0, .aload_n 0, 1), (1, .getfield 39, 3), (4, .invokestatic 90, 3), (7, .istore_n 1, 1), (8, .iload_n 1, 1), (9, .ifCond .ne 5, 3), (12, .iconst (-1), 1), (13, .ireturn, 1), (14, .aload_n 0, 1), (15, .aload_n 0, 1), (16, .getfield 96, 3), (19, .ldc 99, 2), (21, .imul, 1), (22, .sipush 12345, 3), (25, .iadd, 1), (26, .putfield 96, 3), (29, .aload_n 0, 1), (30, .getfield 96, 3), (33, .bipush 9, 2), (35, .iushr, 1), (36, .iload_n 1, 1), (37, .irem, 1), (38, .istore_n 2, 1), (39, .iconst 0, 1), (40, .istore_n 3, 1), (41, .iload_n 3, 1), (42, .bipush 24, 2), (44, .if_icmp .ge 26, 3), (47, .iload_n 2, 1), (48, .aload_n 0, 1), (49, .getfield 39, 3), (52, .iload_n 3, 1), (53, .ishr, 1), (54, .iconst 1, 1), (55, .iand, 1), (56, .isub, 1), (57, .istore_n 2, 1), (58, .iload_n 2, 1), (59, .ifCond .ge 5, 3), (62, .iload_n 3, 1), (63, .ireturn, 1), (64, .iinc 3 1, 3), (67, .goto (-26), 3), (70, .iconst (-1), 1), (71, .ireturn, 1)]
set_option maxRecDepth 100000 in
theorem kX0_shuffledNext : gchk cX0_shuffledNext tX0_shuffledNext = true := by decide +kernel
def tX0_shuffle : List (Nat × Instr × Nat) := [(0, .aload_n 0, 1), (1, .iconst 1, 1), (2, .putfield 67, 3), (5, .aload_n 0, 1), (6, .iload_n 1, 1), (7, .putfield 96, 3), (10, .return_, 1)]
set_option maxRecDepth 100000 in
theorem kX0_shuffle : gchk cX0_shuffle tX0_shuffle = true := by decide +kernel
def tX0_inOrder : List (Nat × Instr × Nat) := [(0, .aload_n 0, 1), (1, .iconst 0, 1), (2, .putfield 67, 3), (5, .return_, 1)]
set_option maxRecDepth 100000 in
theorem kX0_inOrder : gchk cX0_inOrder tX0_inOrder = true := by decide +kernel
def tX0_runAll : List (Nat × Instr × Nat) := [(0, .iconst 0, 1), (1, .istore_n 1, 1), (2, .iload_n 1, 1), (3, .ldc 100, 2), (5, .if_icmp .ge 21, 3), (8, .aload_n 0, 1), (9, .getfield 39, 3), (12, .ifCond .eq 14, 3), (15, .aload_n 0, 1), (16, .invokevirtual 101, 3), (19, .pop, 1), (20, .iinc 1 1, 3), (23, .goto (-21), 3), (26, .iload_n 1, 1), (27, .ireturn, 1)]
set_option maxRecDepth 100000 in
theorem kX0_runAll : gchk cX0_runAll tX0_runAll = true := by decide +kernel
def tX0_start : List (Nat × Instr × Nat) := [(0, .aload_n 0, 1), (1, .iload_n 3, 1), (2, .invokevirtual 28, 3), (5, .iconst 0, 1), (6, .istore 4, 2), (8, .iload 4, 2), (10, .aload_n 1, 1), (11, .getfield 104, 3), (14, .if_icmp .ge 50, 3), (17, .aload_n 0, 1), (18, .getfield 42, 3), (21, .ifCond .ne 43, 3), (24, .iload_n 2, 1), (25, .iload 4, 2), (27, .ishr, 1), (28, .iconst 1, 1), (29, .iand, 1), (30, .iconst 1, 1), (31, .if_icmp .ne 27, 3), (34, .aload_n 0, 1), (35, .aload_n 1, 1), (36, .getfield 109, 3), (39, .iload 4, 2), (41, .iaload, 1), (42, .aload_n 1, 1), (43, .getfield 110, 3), (46, .iload 4, 2), (48, .iaload, 1), (49, .bipush 100, 2), (51, .iload 4, 2), (53, .iadd, 1), (54, .invokevirtual 113, 3), (57, .pop, 1), (58, .iinc 4 1, 3), (61, .goto (-53), 3), (64, .aload_n 0, 1), (65, .aload_n 0, 1), (66, .getfield 36, 3), (69, .invokevirtual 64, 3), (72, .return_, 1)]
set_option maxRecDepth 100000 in
theorem kX0_start : gchk cX0_start tX0_start = true := by decide +kernel
def tX0_takeBack : List (Nat × Instr × Nat) := [(0, .aload_n 0, 1), (1, .getfield 32, 3), (4, .iconst 1, 1), (5, .isub, 1), (6, .istore_n 2, 1), (7, .iload_n 2, 1), (8, .iload_n 1, 1), (9, .if_icmp .lt 37, 3), (12, .aload_n 0, 1), (13, .getfield 9, 3), (16, .aload_n 0, 1), (17, .getfield 18, 3), (20, .iload_n 2, 1), (21, .iaload, 1), (22, .bipush 10, 2), (24, .idiv, 1), (25, .dup2, 1), (26, .iaload, 1), (27, .iconst 1, 1), (28, .aload_n 0, 1), (29, .getfield 18, 3), (32, .iload_n 2, 1), (33, .iaload, 1), (34, .bipush 10, 2), (36, .irem, 1), (37, .ishl, 1), (38, .ior, 1), (39, .iastore, 1), (40, .iinc 2 (-1), 3), (43, .goto (-36), 3), (46, .aload_n 0, 1), (47, .iload_n 1, 1), (48, .putfield 32, 3), (51, .aload_n 0, 1), (52, .iconst 0, 1), (53, .putfield 39, 3), (56, .aload_n 0, 1), (57, .iconst 0, 1), (58, .putfield 42, 3), (61, .return_, 1)]
set_option maxRecDepth 100000 in
theorem kX0_takeBack : gchk cX0_takeBack tX0_takeBack = true := by decide +kernel
def tX0_isLike : List (Nat × Instr × Nat) := [(0, .aload_n 0, 1), (1, .getfield 42, 3), (4, .ifCond .ne 10, 3), (7, .aload_n 1, 1), (8, .getfield 42, 3), (11, .ifCond .eq 23, 3), (14, .aload_n 0, 1), (15, .getfield 42, 3), (18, .ifCond .eq 14, 3), (21, .aload_n 1, 1), (22, .getfield 42, 3), (25, .ifCond .eq 7, 3), (28, .iconst 1, 1), (29, .goto 4, 3), (32, .iconst 0, 1), (33, .ireturn, 1), (34, .iconst 0, 1), (35, .istore_n 2, 1), (36, .iload_n 2, 1), (37, .bipush 8, 2), (39, .if_icmp .ge 26, 3), (42, .aload_n 0, 1), (43, .getfield 9, 3), (46, .iload_n 2, 1), (47, .iaload, 1), (48, .aload_n 1, 1), (49, .getfield 9, 3), (52, .iload_n 2, 1), (53, .iaload, 1), (54, .if_icmp .eq 5, 3), (57, .iconst 0, 1), (58, .ireturn, 1), (59, .iinc 2 1, 3), (62, .goto (-26), 3), (65, .iconst 1, 1), (66, .ireturn, 1)]
set_option maxRecDepth 100000 in
theorem kX0_isLike : gchk cX0_isLike tX0_isLike = true := by decide +kernel
def tX0_isSettled : List (Nat × Instr × Nat) := [(0, .aload_n 0, 1), (1, .getfield 9, 3), (4, .iload_n 1, 1), (5, .iaload, 1), (6, .invokestatic 90, 3), (9, .iconst 1, 1), (10, .if_icmp .ne 7, 3), (13, .iconst 1, 1), (14, .goto 4, 3), (17, .iconst 0, 1), (18, .ireturn, 1)]
set_option maxRecDepth 100000 in
theorem kX0_isSettled : gchk cX0_isSettled tX0_isSettled = true := by decide +kernel
def tX0_howManySettled : List (Nat × Instr × Nat) := [(0, .iconst 0, 1), (1, .istore_n 1, 1), (2, .iconst 0, 1), (3, .istore_n 2, 1), (4, .iload_n 2, 1), (5, .bipush 8, 2), (7, .if_icmp .ge 25, 3), (10, .iload_n 1, 1), (11, .aload_n 0, 1), (12, .iload_n 2, 1), (13, .invokevirtual 117, 3), (16, .ifCond .eq 7, 3), (19, .iconst 1, 1), (20, .goto 4, 3), (23, .iconst 0, 1), (24, .iadd, 1), (25, .istore_n 1, 1), (26, .iinc 2 1, 3), (29, .goto (-25), 3), (32, .iload_n 1, 1), (33, .ireturn, 1)]
set_option maxRecDepth 100000 in
theorem kX0_howManySettled : gchk cX0_howManySettled tX0_howManySettled = true := by decide +kernel
def tX0_howManyIn : List (Nat × Instr × Nat) := [(0, .iconst 0, 1), (1, .istore_n 2, 1), (2, .iconst 0, 1), (3, .istore_n 3, 1), (4, .iload_n 3, 1), (5, .bipush 8, 2), (7, .if_icmp .ge 24, 3), (10, .iload_n 2, 1), (11, .aload_n 0, 1), (12, .getfield 9, 3), (15, .iload_n 3, 1), (16, .iaload, 1), (17, .aload_n 1, 1), (18, .iload_n 3, 1), (19, .iaload, 1), (20, .ishr, 1), (21, .iconst 1, 1), (22, .iand, 1), (23, .iadd, 1), (24, .istore_n 2, 1), (25, .iinc 3 1, 3), (28, .goto (-24), 3), (31, .iload_n 2, 1), (32, .ireturn, 1)]
set_option maxRecDepth 100000 in
theorem kX0_howManyIn : gchk cX0_howManyIn tX0_howManyIn = true := by decide +kernel
def tX0_wentBy : List (Nat × Instr × Nat) := [(0, .iconst 0, 1), (1, .istore_n 2, 1), (2, .iconst 0, 1), (3, .istore_n 3, 1), (4, .iload_n 3, 1), (5, .aload_n 0, 1), (6, .getfield 32, 3), (9, .if_icmp .ge 27, 3), (12, .iload_n 2, 1), (13, .aload_n 0, 1), (14, .getfield 21, 3), (17, .iload_n 3, 1), (18, .iaload, 1), (19, .iload_n 1, 1), (20, .if_icmp .ne 7, 3), (23, .iconst 1, 1), (24, .goto 4, 3), (27, .iconst 0, 1), (28, .iadd, 1), (29, .istore_n 2, 1), (30, .iinc 3 1, 3), (33, .goto (-29), 3), (36, .iload_n 2, 1), (37, .ireturn, 1)]
set_option maxRecDepth 100000 in
theorem kX0_wentBy : gchk cX0_wentBy tX0_wentBy = true := by decide +kernel
def tX0_placeOf : List (Nat × Instr × Nat) := [(0, .iconst 0, 1), (1, .istore_n 2, 1), (2, .iload_n 2, 1), (3, .aload_n 0, 1), (4, .getfield 32, 3), (7, .if_icmp .ge 21, 3), (10, .aload_n 0, 1), (11, .getfield 18, 3), (14, .iload_n 2, 1), (15, .iaload, 1), (16, .iload_n 1, 1), (17, .if_icmp .ne 5, 3), (20, .iload_n 2, 1), (21, .ireturn, 1), (22, .iinc 2 1, 3), (25, .goto (-23), 3), (28, .iconst (-1), 1), (29, .ireturn, 1)]
set_option maxRecDepth 100000 in
theorem kX0_placeOf : gchk cX0_placeOf tX0_placeOf = true := by decide +kernel
def tX1_init : List (Nat × Instr × Nat) := [(0, .aload_n 0, 1), (1, .invokespecial 3, 3), (4, .aload_n 0, 1), (5, .bipush 12, 2), (7, .newarray .int, 2), (9, .putfield 9, 3), (12, .aload_n 0, 1), (13, .bipush 12, 2), (15, .newarray .int, 2), (17, .putfield 15, 3), (20, .aload_n 0, 1), (21, .bipush 8, 2), (23, .newarray .int, 2), (25, .putfield 18, 3), (28, .aload_n 0, 1), (29, .bipush 8, 2), (31, .newarray .int, 2), (33, .putfield 21, 3), (36, .aload_n 0, 1), (37, .bipush 8, 2), (39, .newarray .int, 2), (41, .putfield 24, 3), (44, .return_, 1)]
set_option maxRecDepth 100000 in
theorem kX1_init : gchk cX1_init tX1_init = true := by decide +kernel
def tX1_all : List (Nat × Instr × Nat) := [(0, .iconst 1, 1), (1, .aload_n 0, 1), (2, .getfield 27, 3), (5, .ishl, 1), (6, .iconst 1, 1), (7, .isub, 1), (8, .ireturn, 1)]
set_option maxRecDepth 100000 in
theorem kX1_all : gchk cX1_all tX1_all = true := by decide +kernel
def tX1_decide : List (Nat × Instr × Nat) := [(0, .aload_n 0, 1), (1, .getfield 9, 3), (4, .aload_n 0, 1), (5, .getfield 27, 3), (8, .iload_n 1, 1), (9, .iastore, 1), (10, .aload_n 0, 1), (11, .getfield 15, 3), (14, .aload_n 0, 1), (15, .getfield 27, 3), (18, .iload_n 2, 1), (19, .iastore, 1), (20, .aload_n 0, 1), (21, .dup, 1), (22, .getfield 27, 3), (25, .iconst 1, 1), (26, .iadd, 1), (27, .putfield 27, 3), (30, .aload_n 0, 1), (31, .getfield 27, 3), (34, .iconst 1, 1), (35, .isub, 1), (36, .ireturn, 1)]
set_option maxRecDepth 100000 in
theorem kX1_decide : gchk cX1_decide tX1_decide = true := by decide +kernel
def tX1_open : List (Nat × Instr × Nat) := [(0, .aload_n 0, 1), (1, .getfield 18, 3), (4, .aload_n 0, 1), (5, .getfield 31, 3), (8, .iload_n 1, 1), (9, .iastore, 1), (10, .aload_n 0, 1), (11, .getfield 21, 3), (14, .aload_n 0, 1), (15, .getfield 31, 3), (18, .aload_n 0, 1), (19, .getfield 27, 3), (22, .iastore, 1), (23, .aload_n 0, 1), (24, .getfield 24, 3), (27, .aload_n 0, 1), (28, .getfield 31, 3), (31, .iload_n 2, 1), (32, .iastore, 1), (33, .aload_n 0, 1), (34, .dup, 1), (35, .getfield 31, 3), (38, .iconst 1, 1), (39, .iadd, 1), (40, .putfield 31, 3), (43, .aload_n 0, 1), (44, .getfield 31, 3), (47, .ireturn, 1)]
set_option maxRecDepth 100000 in
theorem kX1_open : gchk cX1_open tX1_open = true := by decide +kernel
def tX1_close : List (Nat × Instr × Nat) := [(0, .aload_n 0, 1), (1, .dup, 1), (2, .getfield 31, 3), (5, .iconst 1, 1), (6, .isub, 1), (7, .putfield 31, 3), (10, .aload_n 0, 1), (11, .aload_n 0, 1), (12, .getfield 21, 3), (15, .aload_n 0, 1), (16, .getfield 31, 3), (19, .iaload, 1), (20, .putfield 27, 3), (23, .aload_n 0, 1), (24, .getfield 31, 3), (27, .ireturn, 1)]
set_option maxRecDepth 100000 in
theorem kX1_close : gchk cX1_close tX1_close = true := by decide +kernel
def tX1_become : List (Nat × Instr × Nat) := [(0, .aload_n 1, 1), (1, .getfield 9, 3), (4, .iconst 0, 1), (5, .aload_n 0, 1), (6, .getfield 9, 3), (9, .iconst 0, 1), (10, .bipush 12, 2), (12, .invokestatic 34, 3), (15, .aload_n 1, 1), (16, .getfield 15, 3), (19, .iconst 0, 1), (20, .aload_n 0, 1), (21, .getfield 15, 3), (24, .iconst 0, 1), (25, .bipush 12, 2), (27, .invokestatic 34, 3), (30, .aload_n 1, 1), (31, .getfield 18, 3), (34, .iconst 0, 1), (35, .aload_n 0, 1), (36, .getfield 18, 3), (39, .iconst 0, 1), (40, .bipush 8, 2), (42, .invokestatic 34, 3), (45, .aload_n 1, 1), (46, .getfield 21, 3), (49, .iconst 0, 1), (50, .aload_n 0, 1), (51, .getfield 21, 3), (54, .iconst 0, 1), (55, .bipush 8, 2), (57, .invokestatic 34, 3), (60, .aload_n 1, 1), (61, .getfield 24, 3), (64, .iconst 0, 1), (65, .aload_n 0, 1), (66, .getfield 24, 3), (69, .iconst 0, 1), (70, .bipush 8, 2), (72, .invokestatic 34, 3), (75, .aload_n 0, 1), (76, .aload_n 1, 1), (77, .getfield 27, 3), (80, .putfield 27, 3), (83, .aload_n 0, 1), (84, .aload_n 1, 1), (85, .getfield 31, 3), (88, .putfield 31, 3), (91, .return_, 1)]
set_option maxRecDepth 100000 in
theorem kX1_become : gchk cX1_become tX1_become = true := by decide +kernel
def tX2_init : List (Nat × Instr × Nat) := [(0, .aload_n 0, 1), (1, .invokespecial 5, 3), (4, .aload_n 0, 1), (5, .bipush 90, 2), (7, .newarray .int, 2), (9, .putfield 11, 3), (12, .aload_n 0, 1), (13, .bipush 91, 2), (15, .newarray .int, 2), (17, .putfield 15, 3), (20, .aload_n 0, 1), (21, .bipush 91, 2), (23, .newarray .int, 2), (25, .putfield 18, 3), (28, .aload_n 0, 1), (29, .bipush 91, 2), (31, .newarray .int, 2), (33, .putfield 21, 3), (36, .aload_n 0, 1), (37, .bipush 90, 2), (39, .newarray .int, 2), (41, .putfield 24, 3), (44, .aload_n 0, 1), (45, .bipush 90, 2), (47, .newarray .int, 2), (49, .putfield 27, 3), (52, .return_, 1)]
set_option maxRecDepth 100000 in
theorem kX2_init : gchk cX2_init tX2_init = true := by decide +kernel
def tX2_accept : List (Nat × Instr × Nat) := [(0, .aload_n 0, 1), (1, .getfield 30, 3), (4, .bipush 90, 2), (6, .if_icmp .lt 5, 3), (9, .iconst 0, 1), (10, .ireturn, 1), (11, .aload_n 0, 1), (12, .getfield 11, 3), (15, .aload_n 0, 1), (16, .getfield 30, 3), (19, .iload_n 1, 1), (20, .iastore, 1), (21, .aload_n 0, 1), (22, .dup, 1), (23, .getfield 30, 3), (26, .iconst 1, 1), (27, .iadd, 1), (28, .putfield 30, 3), (31, .iconst 1, 1), (32, .ireturn, 1)]
set_option maxRecDepth 100000 in
theorem kX2_accept : gchk cX2_accept tX2_accept = true := by decide +kernel
def tX2_read : List (Nat × Instr × Nat) := [(0, .aload_n 0, 1), (1, .invokevirtual 34, 3), (4, .aload_n 0, 1), (5, .iconst 0, 1), (6, .putfield 37, 3), (9, .aload_n 0, 1), (10, .iconst 0, 1), (11, .putfield 40, 3), (14, .aload_n 0, 1), (15, .iconst 0, 1), (16, .putfield 43, 3), (19, .aload_n 0, 1), (20, .invokevirtual 46, 3), (23, .iconst 3, 1), (24, .if_icmp .ne 10, 3), (27, .aload_n 0, 1), (28, .invokevirtual 50, 3), (31, .goto 7, 3), (34, .aload_n 0, 1), (35, .invokevirtual 54, 3), (38, .istore_n 1, 1), (39, .iload_n 1, 1), (40, .ifCond .eq 14, 3), (43, .aload_n 0, 1), (44, .invokevirtual 46, 3), (47, .ifCond .ne 7, 3), (50, .iconst (-1), 1), (51, .goto 12, 3), (54, .aload_n 0, 1), (55, .getfield 18, 3), (58, .aload_n 0, 1), (59, .getfield 37, 3), (62, .iaload, 1), (63, .ireturn, 1)]
set_option maxRecDepth 100000 in
theorem kX2_read : gchk cX2_read tX2_read = true := by decide +kernel
def tX2_token : List (Nat × Instr × Nat) := [(0, .aload_n 0, 1), (1, .getfield 15, 3), (4, .aload_n 0, 1), (5, .getfield 37, 3), (8, .iaload, 1), (9, .ireturn, 1)]
set_option maxRecDepth 100000 in
theorem kX2_token : gchk cX2_token tX2_token = true := by decide +kernel
def tX2_pass : List (Nat × Instr × Nat) := [(0, .aload_n 0, 1), (1, .getfield 37, 3), (4, .aload_n 0, 1), (5, .getfield 57, 3), (8, .iconst 1, 1), (9, .isub, 1), (10, .if_icmp .ge 13, 3), (13, .aload_n 0, 1), (14, .dup, 1), (15, .getfield 37, 3), (18, .iconst 1, 1), (19, .iadd, 1), (20, .putfield 37, 3), (23, .return_, 1)]
set_option maxRecDepth 100000 in
theorem kX2_pass : gchk cX2_pass tX2_pass = true := by decide +kernel
def tX2_split : List (Nat × Instr × Nat) := [(0, .aload_n 0, 1), (1, .iconst 0, 1), (2, .putfield 57, 3), (5, .iconst 0, 1), (6, .istore_n 1, 1), (7, .iconst 0, 1), (8, .istore_n 2, 1), (9, .iload_n 2, 1), (10, .bipush 90, 2), (12, .if_icmp .ge 64, 3), (15, .iload_n 1, 1), (16, .aload_n 0, 1), (17, .getfield 30, 3), (20, .if_icmp .ge 56, 3), (23, .aload_n 0, 1), (24, .getfield 11, 3), (27, .iload_n 1, 1), (28, .iaload, 1), (29, .bipush 32, 2), (31, .if_icmp .eq 14, 3), (34, .aload_n 0, 1), (35, .getfield 11, 3), (38, .iload_n 1, 1), (39, .iaload, 1), (40, .bipush 10, 2), (42, .if_icmp .ne 9, 3), (45, .iinc 1 1, 3), (48, .goto 22, 3), (51, .aload_n 0, 1), (52, .iload_n 1, 1), (53, .invokevirtual 60, 3), (56, .istore_n 3, 1), (57, .aload_n 0, 1), (58, .aload_n 0, 1), (59, .iload_n 1, 1), (60, .iload_n 3, 1), (61, .invokevirtual 64, 3), (64, .iload_n 1, 1), (65, .invokevirtual 68, 3), (68, .iload_n 3, 1), (69, .istore_n 1, 1), (70, .iinc 2 1, 3), (73, .goto (-64), 3), (76, .aload_n 0, 1), (77, .iconst 0, 1), (78, .aload_n 0, 1), (79, .getfield 30, 3), (82, .invokevirtual 68, 3), (85, .return_, 1)]
set_option maxRecDepth 100000 in
theorem kX2_split : gchk cX2_split tX2_split = true := by decide +kernel
def tX2_addToken : List (Nat × Instr × Nat) := [(0, .aload_n 0, 1), (1, .getfield 15, 3), (4, .aload_n 0, 1), (5, .getfield 57, 3), (8, .iload_n 1, 1), (9, .iastore, 1), (10, .aload_n 0, 1), (11, .getfield 18, 3), (14, .aload_n 0, 1), (15, .getfield 57, 3), (18, .iload_n 2, 1), (19, .iastore, 1), (20, .aload_n 0, 1), (21, .dup, 1), (22, .getfield 57, 3), (25, .iconst 1, 1), (26, .iadd, 1), (27, .putfield 57, 3), (30, .return_, 1)]
set_option maxRecDepth 100000 in
theorem kX2_addToken : gchk cX2_addToken tX2_addToken = true := by decide +kernel
def tX2_endOfToken : List (Nat × Instr × Nat) := [(0, .iload_n 1, 1), (1, .iconst 1, 1), (2, .iadd, 1), (3, .istore_n 2, 1), (4, .aload_n 0, 1), (5, .getfield 11, 3), (8, .iload_n 1, 1), (9, .iaload, 1), (10, .invokestatic 72, 3), (13, .ifCond .eq 29, 3), (16, .iload_n 2, 1), (17, .aload_n 0, 1), (18, .getfield 30, 3), (21, .if_icmp .ge 59, 3), (24, .aload_n 0, 1), (25, .getfield 11, 3), (28, .iload_n 2, 1), (29, .iaload, 1), (30, .invokestatic 72, 3), (33, .ifCond .eq 47, 3), (36, .iinc 2 1, 3), (39, .goto (-23), 3), (42, .aload_n 0, 1), (43, .getfield 11, 3), (46, .iload_n 1, 1), (47, .iaload, 1), (48, .invokestatic 76, 3), (51, .ifCond .eq 29, 3), (54, .iload_n 2, 1), (55, .aload_n 0, 1), (56, .getfield 30, 3), (59, .if_icmp .ge 21, 3), (62, .aload_n 0, 1), (63, .getfield 11, 3), (66, .iload_n 2, 1), (67, .iaload, 1), (68, .invokestatic 76, 3), (71, .ifCond .eq 9, 3), (74, .iinc 2 1, 3), (77, .goto (-23), 3), (80, .iload_n 2, 1), (81, .ireturn, 1)]
set_option maxRecDepth 100000 in
theorem kX2_endOfToken : gchk cX2_endOfToken tX2_endOfToken = true := by decide +kernel
def tX2_kindOfToken : List (Nat × Instr × Nat) := [(0, .aload_n 0, 1), (1, .getfield 11, 3), (4, .iload_n 1, 1), (5, .iaload, 1), (6, .istore_n 3, 1), (7, .iload_n 3, 1), (8, .invokestatic 72, 3), (11, .ifCond .eq 31, 3), (14, .aload_n 0, 1), (15, .getfield 21, 3), (18, .aload_n 0, 1), (19, .getfield 57, 3), (22, .aload_n 0, 1), (23, .iload_n 1, 1), (24, .iload_n 2, 1), (25, .invokevirtual 79, 3), (28, .iastore, 1), (29, .iload_n 2, 1), (30, .iload_n 1, 1), (31, .isub, 1), (32, .iconst 4, 1), (33, .if_icmp .gt 7, 3), (36, .iconst 1, 1), (37, .goto 4, 3), (40, .iconst 4, 1), (41, .ireturn, 1), (42, .iload_n 3, 1), (43, .invokestatic 76, 3), (46, .ifCond .eq 54, 3), (49, .aload_n 0, 1), (50, .getfield 21, 3), (53, .aload_n 0, 1), (54, .getfield 57, 3), (57, .iload_n 3, 1), (58, .bipush 97, 2), (60, .isub, 1), (61, .iastore, 1), (62, .iload_n 2, 1), (63, .iload_n 1, 1), (64, .isub, 1), (65, .iconst 1, 1), (66, .if_icmp .ne 19, 3), (69, .iload_n 3, 1), (70, .bipush 97, 2), (72, .isub, 1), (73, .invokestatic 82, 3), (76, .ifCond .eq 7, 3), (79, .iconst 2, 1), (80, .goto 4, 3), (83, .iconst 4, 1), (84, .ireturn, 1), (85, .aload_n 0, 1), (86, .iload_n 1, 1), (87, .iload_n 2, 1), (88, .invokevirtual 85, 3), (91, .ifCond .eq 7, 3), (94, .iconst 3, 1), (95, .goto 4, 3), (98, .iconst 4, 1), (99, .ireturn, 1), (100, .ldc 89, 2), (102, .iload_n 3, 1), (103, .i2c, 1), (104, .invokevirtual 91, 3), (107, .ifCond .lt 7, 3), (110, .iload_n 3, 1), (111, .goto 4, 3), (114, .iconst 4, 1), (115, .ireturn, 1)]
set_option maxRecDepth 100000 in
theorem kX2_kindOfToken : gchk cX2_kindOfToken tX2_kindOfToken = true := by decide +kernel
def tX2_numberAt : List (Nat × Instr × Nat) := [(0, .iconst 0, 1), (1, .istore_n 3, 1), (2, .iload_n 1, 1), (3, .istore 4, 2), (5, .iload 4, 2), (7, .iload_n 2, 1), (8, .if_icmp .ge 25, 3), (11, .iload_n 3, 1), (12, .bipush 10, 2), (14, .imul, 1), (15, .aload_n 0, 1), (16, .getfield 11, 3), (19, .iload 4, 2), (21, .iaload, 1), (22, .iadd, 1), (23, .bipush 48, 2), (25, .isub, 1), (26, .istore_n 3, 1), (27, .iinc 4 1, 3), (30, .goto (-25), 3), (33, .iload_n 3, 1), (34, .ireturn, 1)]
set_option maxRecDepth 100000 in
theorem kX2_numberAt : gchk cX2_numberAt tX2_numberAt = true := by decide +kernel
def tX2_isDistinctAt : List (Nat × Instr × Nat) := [(0, .iload_n 2, 1), (1, .iload_n 1, 1), (2, .isub, 1), (3, .ldc 96, 2), (5, .invokevirtual 97, 3), (8, .if_icmp .eq 5, 3), (11, .iconst 0, 1), (12, .ireturn, 1), (13, .iload_n 1, 1), (14, .istore_n 3, 1), (15, .iload_n 3, 1), (16, .iload_n 2, 1), (17, .if_icmp .ge 28, 3), (20, .aload_n 0, 1), (21, .getfield 11, 3), (24, .iload_n 3, 1), (25, .iaload, 1), (26, .ldc 96, 2), (28, .iload_n 3, 1), (29, .iload_n 1, 1), (30, .isub, 1), (31, .invokevirtual 100, 3), (34, .if_icmp .eq 5, 3), (37, .iconst 0, 1), (38, .ireturn, 1), (39, .iinc 3 1, 3), (42, .goto (-27), 3), (45, .iconst 1, 1), (46, .ireturn, 1)]
set_option maxRecDepth 100000 in
theorem kX2_isDistinctAt : gchk cX2_isDistinctAt tX2_isDistinctAt = true := by decide +kernel
def tX2_isDigit : List (Nat × Instr × Nat) := [(0, .iload_n 0, 1), (1, .bipush 48, 2), (3, .if_icmp .lt 13, 3), (6, .iload_n 0, 1), (7, .bipush 57, 2), (9, .if_icmp .gt 7, 3), (12, .iconst 1, 1), (13, .goto 4, 3), (16, .iconst 0, 1), (17, .ireturn, 1)]
set_option maxRecDepth 100000 in
theorem kX2_isDigit : gchk cX2_isDigit tX2_isDigit = true := by decide +kernel
def tX2_isSmall : List (Nat × Instr × Nat) := [(0, .iload_n 0, 1), (1, .bipush 97, 2), (3, .if_icmp .lt 13, 3), (6, .iload_n 0, 1), (7, .bipush 122, 2), (9, .if_icmp .gt 7, 3), (12, .iconst 1, 1), (13, .goto 4, 3), (16, .iconst 0, 1), (17, .ireturn, 1)]
set_option maxRecDepth 100000 in
theorem kX2_isSmall : gchk cX2_isSmall tX2_isSmall = true := by decide +kernel
def tX2_distinct : List (Nat × Instr × Nat) := [(0, .aload_n 0, 1), (1, .iconst 2, 1), (2, .putfield 104, 3), (5, .aload_n 0, 1), (6, .invokevirtual 107, 3), (9, .iconst 0, 1), (10, .istore_n 1, 1), (11, .iload_n 1, 1), (12, .iconst 3, 1), (13, .if_icmp .ge 79, 3), (16, .aload_n 0, 1), (17, .invokevirtual 46, 3), (20, .iconst 2, 1), (21, .if_icmp .ne 23, 3), (24, .aload_n 0, 1), (25, .getfield 43, 3), (28, .aload_n 0, 1), (29, .getfield 21, 3), (32, .aload_n 0, 1), (33, .getfield 37, 3), (36, .iaload, 1), (37, .ishr, 1), (38, .iconst 1, 1), (39, .iand, 1), (40, .iconst 1, 1), (41, .if_icmp .ne 21, 3), (44, .iload_n 1, 1), (45, .iconst 2, 1), (46, .if_icmp .ne 14, 3), (49, .aload_n 0, 1), (50, .invokevirtual 46, 3), (53, .ifCond .ne 7, 3), (56, .iconst 1, 1), (57, .goto 4, 3), (60, .iconst 0, 1), (61, .ireturn, 1), (62, .aload_n 0, 1), (63, .dup, 1), (64, .getfield 43, 3), (67, .iconst 1, 1), (68, .aload_n 0, 1), (69, .getfield 21, 3), (72, .aload_n 0, 1), (73, .getfield 37, 3), (76, .iaload, 1), (77, .ishl, 1), (78, .ior, 1), (79, .putfield 43, 3), (82, .aload_n 0, 1), (83, .invokevirtual 107, 3), (86, .iinc 1 1, 3), (89, .goto (-78), 3), (92, .iconst 1, 1), (93, .ireturn, 1)]
set_option maxRecDepth 100000 in
theorem kX2_distinct : gchk cX2_distinct tX2_distinct = true := by decide +kernel
def tX2_tested : List (Nat × Instr × Nat) := [(0, .aload_n 0, 1), (1, .iconst 0, 1), (2, .putfield 104, 3), (5, .aload_n 0, 1), (6, .invokevirtual 46, 3), (9, .iconst 2, 1), (10, .if_icmp .ne 55, 3), (13, .aload_n 0, 1), (14, .getfield 15, 3), (17, .aload_n 0, 1), (18, .getfield 37, 3), (21, .iconst 1, 1), (22, .iadd, 1), (23, .iaload, 1), (24, .bipush 58, 2), (26, .if_icmp .ne 39, 3), (29, .aload_n 0, 1), (30, .iconst 1, 1), (31, .putfield 104, 3), (34, .aload_n 0, 1), (35, .aload_n 0, 1), (36, .getfield 21, 3), (39, .aload_n 0, 1), (40, .getfield 37, 3), (43, .iaload, 1), (44, .putfield 110, 3), (47, .aload_n 0, 1), (48, .iconst 1, 1), (49, .aload_n 0, 1), (50, .getfield 110, 3), (53, .ishl, 1), (54, .putfield 43, 3), (57, .aload_n 0, 1), (58, .invokevirtual 107, 3), (61, .aload_n 0, 1), (62, .invokevirtual 107, 3), (65, .aload_n 0, 1), (66, .iconst 0, 1), (67, .invokevirtual 113, 3), (70, .ifCond .ne 5, 3), (73, .iconst 0, 1), (74, .ireturn, 1), (75, .aload_n 0, 1), (76, .aload_n 0, 1), (77, .invokevirtual 46, 3), (80, .putfield 116, 3), (83, .aload_n 0, 1), (84, .getfield 116, 3), (87, .bipush 60, 2), (89, .if_icmp .eq 32, 3), (92, .aload_n 0, 1), (93, .getfield 116, 3), (96, .bipush 61, 2), (98, .if_icmp .eq 23, 3), (101, .aload_n 0, 1), (102, .getfield 116, 3), (105, .bipush 62, 2), (107, .if_icmp .eq 14, 3), (110, .aload_n 0, 1), (111, .getfield 116, 3), (114, .bipush 33, 2), (116, .if_icmp .eq 5, 3), (119, .iconst 0, 1), (120, .ireturn, 1), (121, .aload_n 0, 1), (122, .invokevirtual 107, 3), (125, .aload_n 0, 1), (126, .iconst 0, 1), (127, .invokevirtual 113, 3), (130, .ireturn, 1)]
set_option maxRecDepth 100000 in
theorem kX2_tested : gchk cX2_tested tX2_tested = true := by decide +kernel
def tX2_sum : List (Nat × Instr × Nat) := [(0, .aload_n 0, 1), (1, .iload_n 1, 1), (2, .invokevirtual 119, 3), (5, .ifCond .ne 5, 3), (8, .iconst 0, 1), (9, .ireturn, 1), (10, .iconst 0, 1), (11, .istore_n 2, 1), (12, .iload_n 2, 1), (13, .bipush 90, 2), (15, .if_icmp .ge 55, 3), (18, .aload_n 0, 1), (19, .invokevirtual 46, 3), (22, .bipush 43, 2), (24, .if_icmp .eq 12, 3), (27, .aload_n 0, 1), (28, .invokevirtual 46, 3), (31, .bipush 45, 2), (33, .if_icmp .ne 37, 3), (36, .aload_n 0, 1), (37, .invokevirtual 46, 3), (40, .istore_n 3, 1), (41, .aload_n 0, 1), (42, .invokevirtual 107, 3), (45, .aload_n 0, 1), (46, .iload_n 1, 1), (47, .invokevirtual 119, 3), (50, .ifCond .ne 5, 3), (53, .iconst 0, 1), (54, .ireturn, 1), (55, .aload_n 0, 1), (56, .sipush 10100, 3), (59, .iload_n 3, 1), (60, .iadd, 1), (61, .invokevirtual 122, 3), (64, .iinc 2 1, 3), (67, .goto (-55), 3), (70, .iconst 1, 1), (71, .ireturn, 1)]
set_option maxRecDepth 100000 in
theorem kX2_sum : gchk cX2_sum tX2_sum = true := by decide +kernel
def tX2_term : List (Nat × Instr × Nat) := [(0, .aload_n 0, 1), (1, .iload_n 1, 1), (2, .invokevirtual 126, 3), (5, .ifCond .ne 5, 3), (8, .iconst 0, 1), (9, .ireturn, 1), (10, .iconst 0, 1), (11, .istore_n 2, 1), (12, .iload_n 2, 1), (13, .bipush 90, 2), (15, .if_icmp .ge 39, 3), (18, .aload_n 0, 1), (19, .invokevirtual 46, 3), (22, .bipush 42, 2), (24, .if_icmp .ne 30, 3), (27, .aload_n 0, 1), (28, .invokevirtual 107, 3), (31, .aload_n 0, 1), (32, .iload_n 1, 1), (33, .invokevirtual 126, 3), (36, .ifCond .ne 5, 3), (39, .iconst 0, 1), (40, .ireturn, 1), (41, .aload_n 0, 1), (42, .sipush 10142, 3), (45, .invokevirtual 122, 3), (48, .iinc 2 1, 3), (51, .goto (-39), 3), (54, .iconst 1, 1), (55, .ireturn, 1)]
set_option maxRecDepth 100000 in
theorem kX2_term : gchk cX2_term tX2_term = true := by decide +kernel
def tX2_one : List (Nat × Instr × Nat) := [(0, .aload_n 0, 1), (1, .invokevirtual 46, 3), (4, .iconst 1, 1), (5, .if_icmp .ne 22, 3), (8, .aload_n 0, 1), (9, .aload_n 0, 1), (10, .getfield 21, 3), (13, .aload_n 0, 1), (14, .getfield 37, 3), (17, .iaload, 1), (18, .invokevirtual 122, 3), (21, .aload_n 0, 1), (22, .invokevirtual 107, 3), (25, .iconst 1, 1), (26, .ireturn, 1), (27, .aload_n 0, 1), (28, .invokevirtual 46, 3), (31, .iconst 2, 1), (32, .if_icmp .ne 8, 3), (35, .aload_n 0, 1), (36, .invokevirtual 129, 3), (39, .ireturn, 1), (40, .iload_n 1, 1), (41, .iconst 5, 1), (42, .if_icmp .lt 5, 3), (45, .iconst 0, 1), (46, .ireturn, 1), (47, .aload_n 0, 1), (48, .invokevirtual 46, 3), (51, .bipush 45, 2), (53, .if_icmp .ne 24, 3), (56, .aload_n 0, 1), (57, .invokevirtual 107, 3), (60, .aload_n 0, 1), (61, .iload_n 1, 1), (62, .iconst 1, 1), (63, .iadd, 1), (64, .invokevirtual 126, 3), (67, .istore_n 2, 1), (68, .aload_n 0, 1), (69, .sipush 10008, 3), (72, .invokevirtual 122, 3), (75, .iload_n 2, 1), (76, .ireturn, 1), (77, .aload_n 0, 1), (78, .invokevirtual 46, 3), (81, .bipush 40, 2), (83, .if_icmp .ne 17, 3), (86, .aload_n 0, 1), (87, .iload_n 1, 1), (88, .iconst 1, 1), (89, .iadd, 1), (90, .invokevirtual 132, 3), (93, .ifCond .eq 7, 3), (96, .iconst 1, 1), (97, .goto 4, 3), (100, .iconst 0, 1), (101, .ireturn, 1)]
set_option maxRecDepth 100000 in
theorem kX2_one : gchk cX2_one tX2_one = true := by decide +kernel
def tX2_bracketed : List (Nat × Instr × Nat) := [(0, .aload_n 0, 1), (1, .invokevirtual 107, 3), (4, .aload_n 0, 1), (5, .iload_n 1, 1), (6, .invokevirtual 113, 3), (9, .ifCond .eq 12, 3), (12, .aload_n 0, 1), (13, .invokevirtual 46, 3), (16, .bipush 41, 2), (18, .if_icmp .eq 5, 3), (21, .iconst 0, 1), (22, .ireturn, 1), (23, .aload_n 0, 1), (24, .invokevirtual 107, 3), (27, .iconst 1, 1), (28, .ireturn, 1)]
set_option maxRecDepth 100000 in
theorem kX2_bracketed : gchk cX2_bracketed tX2_bracketed = true := by decide +kernel
def tX2_named : List (Nat × Instr × Nat) := [(0, .aload_n 0, 1), (1, .getfield 43, 3), (4, .iconst 1, 1), (5, .aload_n 0, 1), (6, .getfield 21, 3), (9, .aload_n 0, 1), (10, .getfield 37, 3), (13, .iaload, 1), (14, .ishl, 1), (15, .ior, 1), (16, .istore_n 1, 1), (17, .iload_n 1, 1), (18, .invokestatic 135, 3), (21, .iconst 3, 1), (22, .if_icmp .le 5, 3), (25, .iconst 0, 1), (26, .ireturn, 1), (27, .aload_n 0, 1), (28, .iload_n 1, 1), (29, .putfield 43, 3), (32, .aload_n 0, 1), (33, .sipush 10000, 3), (36, .aload_n 0, 1), (37, .getfield 21, 3), (40, .aload_n 0, 1), (41, .getfield 37, 3), (44, .iaload, 1), (45, .iadd, 1), (46, .invokevirtual 122, 3), (49, .aload_n 0, 1), (50, .invokevirtual 107, 3), (53, .iconst 1, 1), (54, .ireturn, 1)]
set_option maxRecDepth 100000 in
theorem kX2_named : gchk cX2_named tX2_named = true := by decide +kernel
def tX2_emit : List (Nat × Instr × Nat) := [(0, .aload_n 0, 1), (1, .getfield 40, 3), (4, .aload_n 0, 1), (5, .getfield 24, 3), (8, .arraylength, 1), (9, .if_icmp .ge 23, 3), (12, .aload_n 0, 1), (13, .getfield 24, 3), (16, .aload_n 0, 1), (17, .getfield 40, 3), (20, .iload_n 1, 1), (21, .iastore, 1), (22, .aload_n 0, 1), (23, .dup, 1), (24, .getfield 40, 3), (27, .iconst 1, 1), (28, .iadd, 1), (29, .putfield 40, 3), (32, .return_, 1)]
set_option maxRecDepth 100000 in
theorem kX2_emit : gchk cX2_emit tX2_emit = true := by decide +kernel
def tX2_holdsFor : List (Nat × Instr × Nat) := [(0, .aload_n 0, 1), (1, .getfield 104, 3), (4, .iconst 2, 1), (5, .if_icmp .ne 9, 3), (8, .aload_n 0, 1), (9, .aload_n 1, 1), (10, .invokevirtual 140, 3), (13, .ireturn, 1), (14, .aload_n 0, 1), (15, .aload_n 1, 1), (16, .invokevirtual 144, 3), (19, .istore_n 2, 1), (20, .aload_n 0, 1), (21, .getfield 104, 3), (24, .ifCond .ne 5, 3), (27, .iload_n 2, 1), (28, .ireturn, 1), (29, .aload_n 1, 1), (30, .aload_n 0, 1), (31, .getfield 110, 3), (34, .iaload, 1), (35, .iload_n 2, 1), (36, .ifCond .eq 7, 3), (39, .iconst 1, 1), (40, .goto 4, 3), (43, .iconst 0, 1), (44, .if_icmp .ne 7, 3), (47, .iconst 1, 1), (48, .goto 4, 3), (51, .iconst 0, 1), (52, .ireturn, 1)]
set_option maxRecDepth 100000 in
theorem kX2_holdsFor : gchk cX2_holdsFor tX2_holdsFor = true := by decide +kernel
def tX2_areUnlike : List (Nat × Instr × Nat) := [(0, .iconst 0, 1), (1, .istore_n 2, 1), (2, .iconst 0, 1), (3, .istore_n 3, 1), (4, .iload_n 3, 1), (5, .bipush 8, 2), (7, .if_icmp .ge 44, 3), (10, .aload_n 0, 1), (11, .getfield 43, 3), (14, .iload_n 3, 1), (15, .ishr, 1), (16, .iconst 1, 1), (17, .iand, 1), (18, .ifCond .ne 6, 3), (21, .goto 24, 3), (24, .iload_n 2, 1), (25, .aload_n 1, 1), (26, .iload_n 3, 1), (27, .iaload, 1), (28, .ishr, 1), (29, .iconst 1, 1), (30, .iand, 1), (31, .iconst 1, 1), (32, .if_icmp .ne 5, 3), (35, .iconst 0, 1), (36, .ireturn, 1), (37, .iload_n 2, 1), (38, .iconst 1, 1), (39, .aload_n 1, 1), (40, .iload_n 3, 1), (41, .iaload, 1), (42, .ishl, 1), (43, .ior, 1), (44, .istore_n 2, 1), (45, .iinc 3 1, 3), (48, .goto (-44), 3), (51, .iconst 1, 1), (52, .ireturn, 1)]
set_option maxRecDepth 100000 in
theorem kX2_areUnlike : gchk cX2_areUnlike tX2_areUnlike = true := by decide +kernel
def tX2_testHolds : List (Nat × Instr × Nat) := [(0, .iconst 0, 1), (1, .istore_n 2, 1), (2, .iconst 0, 1), (3, .istore_n 3, 1), (4, .iload_n 3, 1), (5, .aload_n 0, 1), (6, .getfield 40, 3), (9, .if_icmp .ge 146, 3), (12, .aload_n 0, 1), (13, .getfield 24, 3), (16, .iload_n 3, 1), (17, .iaload, 1), (18, .istore 4, 2), (20, .iload 4, 2), (22, .sipush 10008, 3), (25, .if_icmp .ge 45, 3), (28, .iload_n 2, 1), (29, .aload_n 0, 1), (30, .getfield 27, 3), (33, .arraylength, 1), (34, .if_icmp .ge 36, 3), (37, .aload_n 0, 1), (38, .getfield 27, 3), (41, .iload_n 2, 1), (42, .iload 4, 2), (44, .sipush 10000, 3), (47, .if_icmp .ge 8, 3), (50, .iload 4, 2), (52, .goto 11, 3), (55, .aload_n 1, 1), (56, .iload 4, 2), (58, .sipush 10000, 3), (61, .isub, 1), (62, .iaload, 1), (63, .iastore, 1), (64, .iinc 2 1, 3), (67, .goto 82, 3), (70, .iload 4, 2), (72, .sipush 10008, 3), (75, .if_icmp .ne 27, 3), (78, .iload_n 2, 1), (79, .ifCond .le 23, 3), (82, .aload_n 0, 1), (83, .getfield 27, 3), (86, .iload_n 2, 1), (87, .iconst 1, 1), (88, .isub, 1), (89, .aload_n 0, 1), (90, .getfield 27, 3), (93, .iload_n 2, 1), (94, .iconst 1, 1), (95, .isub, 1), (96, .iaload, 1), (97, .ineg, 1), (98, .iastore, 1), (99, .goto 50, 3), (102, .iload 4, 2), (104, .sipush 10008, 3), (107, .if_icmp .le 42, 3), (110, .iload_n 2, 1), (111, .iconst 1, 1), (112, .if_icmp .le 37, 3), (115, .iinc 2 (-1), 3), (118, .aload_n 0, 1), (119, .getfield 27, 3), (122, .iload_n 2, 1), (123, .iconst 1, 1), (124, .isub, 1), (125, .iload 4, 2), (127, .sipush 10100, 3), (130, .isub, 1), (131, .aload_n 0, 1), (132, .getfield 27, 3), (135, .iload_n 2, 1), (136, .iconst 1, 1), (137, .isub, 1), (138, .iaload, 1), (139, .aload_n 0, 1), (140, .getfield 27, 3), (143, .iload_n 2, 1), (144, .iaload, 1), (145, .invokestatic 147, 3), (148, .iastore, 1), (149, .iinc 3 1, 3), (152, .goto (-148), 3), (155, .iload_n 2, 1), (156, .iconst 2, 1), (157, .if_icmp .ne 26, 3), (160, .aload_n 0, 1), (161, .aload_n 0, 1), (162, .getfield 27, 3), (165, .iconst 0, 1), (166, .iaload, 1), (167, .aload_n 0, 1), (168, .getfield 27, 3), (171, .iconst 1, 1), (172, .iaload, 1), (173, .invokevirtual 151, 3), (176, .ifCond .eq 7, 3), (179, .iconst 1, 1), (180, .goto 4, 3), (183, .iconst 0, 1), (184, .ireturn, 1)]
set_option maxRecDepth 100000 in
theorem kX2_testHolds : gchk cX2_testHolds tX2_testHolds = true := by decide +kernel
def tX2_joined : List (Nat × Instr × Nat) := [(0, .iload_n 0, 1), (1, .lookupswitch 35 #[(43, 27), (45, 31)], 27), (28, .iload_n 1, 1), (29, .iload_n 2, 1), (30, .iadd, 1), (31, .ireturn, 1), (32, .iload_n 1, 1), (33, .iload_n 2, 1), (34, .isub, 1), (35, .ireturn, 1), (36, .iload_n 1, 1), (37, .iload_n 2, 1), (38, .imul, 1), (39, .ireturn, 1)]
set_option maxRecDepth 100000 in
theorem kX2_joined : gchk cX2_joined tX2_joined = true := by decide +kernel
def tX2_isSo : List (Nat × Instr × Nat) := [(0, .aload_n 0, 1), (1, .getfield 116, 3), (4, .tableswitch 61 60 62 #[28, 39, 50], 28), (32, .iload_n 1, 1), (33, .iload_n 2, 1), (34, .if_icmp .ge 7, 3), (37, .iconst 1, 1), (38, .goto 4, 3), (41, .iconst 0, 1), (42, .ireturn, 1), (43, .iload_n 1, 1), (44, .iload_n 2, 1), (45, .if_icmp .ne 7, 3), (48, .iconst 1, 1), (49, .goto 4, 3), (52, .iconst 0, 1), (53, .ireturn, 1), (54, .iload_n 1, 1), (55, .iload_n 2, 1), (56, .if_icmp .le 7, 3), (59, .iconst 1, 1), (60, .goto 4, 3), (63, .iconst 0, 1), (64, .ireturn, 1), (65, .iload_n 1, 1), (66, .iload_n 2, 1), (67, .if_icmp .eq 7, 3), (70, .iconst 1, 1), (71, .goto 4, 3), (74, .iconst 0, 1), (75, .ireturn, 1)]
set_option maxRecDepth 100000 in
theorem kX2_isSo : gchk cX2_isSo tX2_isSo = true := by decide +kernel
def tX3_init : List (Nat × Instr × Nat) := [(0, .aload_n 0, 1), (1, .invokespecial 3, 3), (4, .aload_n 0, 1), (5, .bipush 16, 2), (7, .newarray .int, 2), (9, .putfield 9, 3), (12, .aload_n 0, 1), (13, .bipush 24, 2), (15, .newarray .int, 2), (17, .putfield 15, 3), (20, .aload_n 0, 1), (21, .bipush 24, 2), (23, .newarray .int, 2), (25, .putfield 18, 3), (28, .aload_n 0, 1), (29, .bipush 8, 2), (31, .newarray .int, 2), (33, .putfield 21, 3), (36, .aload_n 0, 1), (37, .bipush 48, 2), (39, .newarray .int, 2), (41, .putfield 24, 3), (44, .aload_n 0, 1), (45, .sipush 1600, 3), (48, .newarray .int, 2), (50, .putfield 27, 3), (53, .aload_n 0, 1), (54, .bipush 64, 2), (56, .newarray .int, 2), (58, .putfield 30, 3), (61, .aload_n 0, 1), (62, .bipush 9, 2), (64, .newarray .int, 2), (66, .putfield 33, 3), (69, .return_, 1)]
set_option maxRecDepth 100000 in
theorem kX3_init : gchk cX3_init tX3_init = true := by decide +kernel
def tX3_all : List (Nat × Instr × Nat) := [(0, .iconst 1, 1), (1, .aload_n 0, 1), (2, .getfield 36, 3), (5, .ishl, 1), (6, .iconst 1, 1), (7, .isub, 1), (8, .ireturn, 1)]
set_option maxRecDepth 100000 in
theorem kX3_all : gchk cX3_all tX3_all = true := by decide +kernel
def tX3_howMany : List (Nat × Instr × Nat) := [(0, .aload_n 0, 1), (1, .getfield 15, 3), (4, .iload_n 1, 1), (5, .iaload, 1), (6, .invokestatic 40, 3), (9, .ireturn, 1)]
set_option maxRecDepth 100000 in
theorem kX3_howMany : gchk cX3_howMany tX3_howMany = true := by decide +kernel
def tX3_add : List (Nat × Instr × Nat) := [(0, .aload_n 0, 1), (1, .getfield 36, 3), (4, .istore_n 2, 1), (5, .aload_n 0, 1), (6, .dup, 1), (7, .getfield 36, 3), (10, .iconst 1, 1), (11, .iadd, 1), (12, .putfield 36, 3), (15, .aload_n 0, 1), (16, .getfield 9, 3), (19, .iload_n 2, 1), (20, .aload_n 1, 1), (21, .getfield 46, 3), (24, .iastore, 1), (25, .aload_n 0, 1), (26, .iload_n 2, 1), (27, .aload_n 1, 1), (28, .getfield 51, 3), (31, .aload_n 1, 1), (32, .getfield 51, 3), (35, .invokestatic 40, 3), (38, .aload_n 1, 1), (39, .getfield 46, 3), (42, .iadd, 1), (43, .invokevirtual 53, 3), (46, .aload_n 0, 1), (47, .iload_n 2, 1), (48, .invokevirtual 57, 3), (51, .aload_n 0, 1), (52, .iload_n 2, 1), (53, .aload_n 1, 1), (54, .invokevirtual 61, 3), (57, .iload_n 2, 1), (58, .ireturn, 1)]
set_option maxRecDepth 100000 in
theorem kX3_add : gchk cX3_add tX3_add = true := by decide +kernel
def tX3_enter : List (Nat × Instr × Nat) := [(0, .aload_n 0, 1), (1, .getfield 15, 3), (4, .iload_n 1, 1), (5, .iload_n 2, 1), (6, .iastore, 1), (7, .aload_n 0, 1), (8, .getfield 18, 3), (11, .iload_n 1, 1), (12, .iload_n 3, 1), (13, .iastore, 1), (14, .iconst 0, 1), (15, .istore 4, 2), (17, .iload 4, 2), (19, .bipush 8, 2), (21, .if_icmp .ge 38, 3), (24, .aload_n 0, 1), (25, .getfield 21, 3), (28, .iload 4, 2), (30, .aload_n 0, 1), (31, .getfield 21, 3), (34, .iload 4, 2), (36, .iaload, 1), (37, .iconst 1, 1), (38, .iload_n 1, 1), (39, .ishl, 1), (40, .iconst (-1), 1), (41, .ixor, 1), (42, .iand, 1), (43, .iload_n 2, 1), (44, .iload 4, 2), (46, .ishr, 1), (47, .iconst 1, 1), (48, .iand, 1), (49, .iload_n 1, 1), (50, .ishl, 1), (51, .ior, 1), (52, .iastore, 1), (53, .iinc 4 1, 3), (56, .goto (-39), 3), (59, .return_, 1)]
set_option maxRecDepth 100000 in
theorem kX3_enter : gchk cX3_enter tX3_enter = true := by decide +kernel
def tX3_fillSlots : List (Nat × Instr × Nat) := [(0, .iload_n 1, 1), (1, .iconst 3, 1), (2, .imul, 1), (3, .istore_n 2, 1), (4, .iload_n 2, 1), (5, .iconst 3, 1), (6, .iadd, 1), (7, .istore_n 3, 1), (8, .iconst 3, 1), (9, .aload_n 0, 1), (10, .iload_n 1, 1), (11, .invokevirtual 65, 3), (14, .isub, 1), (15, .istore 4, 2), (17, .iload 4, 2), (19, .ifCond .le 20, 3), (22, .aload_n 0, 1), (23, .getfield 24, 3), (26, .iload_n 2, 1), (27, .bipush 8, 2), (29, .iastore, 1), (30, .iinc 2 1, 3), (33, .iinc 4 (-1), 3), (36, .goto (-19), 3), (39, .iconst 0, 1), (40, .istore 4, 2), (42, .iload 4, 2), (44, .bipush 8, 2), (46, .if_icmp .ge 40, 3), (49, .iload_n 2, 1), (50, .iload_n 3, 1), (51, .if_icmp .ge 35, 3), (54, .aload_n 0, 1), (55, .getfield 15, 3), (58, .iload_n 1, 1), (59, .iaload, 1), (60, .iload 4, 2), (62, .ishr, 1), (63, .iconst 1, 1), (64, .iand, 1), (65, .iconst 1, 1), (66, .if_icmp .ne 14, 3), (69, .aload_n 0, 1), (70, .getfield 24, 3), (73, .iload_n 2, 1), (74, .iload 4, 2), (76, .iastore, 1), (77, .iinc 2 1, 3), (80, .iinc 4 1, 3), (83, .goto (-41), 3), (86, .return_, 1)]
set_option maxRecDepth 100000 in
theorem kX3_fillSlots : gchk cX3_fillSlots tX3_fillSlots = true := by decide +kernel
def tX3_fillWays : List (Nat × Instr × Nat) := [(0, .aload_n 0, 1), (1, .getfield 24, 3), (4, .iload_n 1, 1), (5, .iconst 3, 1), (6, .imul, 1), (7, .iaload, 1), (8, .istore_n 3, 1), (9, .aload_n 0, 1), (10, .getfield 24, 3), (13, .iload_n 1, 1), (14, .iconst 3, 1), (15, .imul, 1), (16, .iconst 1, 1), (17, .iadd, 1), (18, .iaload, 1), (19, .istore 4, 2), (21, .iconst 0, 1), (22, .istore 5, 2), (24, .iload 5, 2), (26, .bipush 100, 2), (28, .if_icmp .ge 94, 3), (31, .aload_n 0, 1), (32, .getfield 33, 3), (35, .iload_n 3, 1), (36, .iload 5, 2), (38, .bipush 10, 2), (40, .idiv, 1), (41, .iastore, 1), (42, .aload_n 0, 1), (43, .getfield 33, 3), (46, .iload 4, 2), (48, .iload 5, 2), (50, .bipush 10, 2), (52, .irem, 1), (53, .iastore, 1), (54, .iload_n 3, 1), (55, .bipush 8, 2), (57, .if_icmp .ne 10, 3), (60, .iload 5, 2), (62, .bipush 10, 2), (64, .if_icmp .ge 22, 3), (67, .iload 4, 2), (69, .bipush 8, 2), (71, .if_icmp .ne 11, 3), (74, .iload 5, 2), (76, .bipush 10, 2), (78, .irem, 1), (79, .ifCond .ne 7, 3), (82, .iconst 1, 1), (83, .goto 4, 3), (86, .iconst 0, 1), (87, .istore 6, 2), (89, .aload_n 0, 1), (90, .getfield 27, 3), (93, .iload_n 1, 1), (94, .bipush 100, 2), (96, .imul, 1), (97, .iload 5, 2), (99, .iadd, 1), (100, .iload 6, 2), (102, .ifCond .eq 12, 3), (105, .aload_n 0, 1), (106, .iload_n 1, 1), (107, .aload_n 2, 1), (108, .invokevirtual 68, 3), (111, .goto 4, 3), (114, .iconst 0, 1), (115, .iastore, 1), (116, .iinc 5 1, 3), (119, .goto (-95), 3), (122, .return_, 1)]
set_option maxRecDepth 100000 in
theorem kX3_fillWays : gchk cX3_fillWays tX3_fillWays = true := by decide +kernel
def tX3_lastValues : List (Nat × Instr × Nat) := [(0, .aload_n 0, 1), (1, .getfield 24, 3), (4, .iload_n 1, 1), (5, .iconst 3, 1), (6, .imul, 1), (7, .iconst 2, 1), (8, .iadd, 1), (9, .iaload, 1), (10, .istore_n 3, 1), (11, .iload_n 3, 1), (12, .bipush 8, 2), (14, .if_icmp .ne 7, 3), (17, .iconst 1, 1), (18, .goto 5, 3), (21, .bipush 10, 2), (23, .istore 4, 2), (25, .iconst 0, 1), (26, .istore 5, 2), (28, .iconst 0, 1), (29, .istore 6, 2), (31, .iload 6, 2), (33, .iload 4, 2), (35, .if_icmp .ge 37, 3), (38, .aload_n 0, 1), (39, .getfield 33, 3), (42, .iload_n 3, 1), (43, .iload 6, 2), (45, .iastore, 1), (46, .aload_n 2, 1), (47, .aload_n 0, 1), (48, .getfield 33, 3), (51, .invokevirtual 72, 3), (54, .ifCond .eq 12, 3), (57, .iload 5, 2), (59, .iconst 1, 1), (60, .iload 6, 2), (62, .ishl, 1), (63, .ior, 1), (64, .istore 5, 2), (66, .iinc 6 1, 3), (69, .goto (-38), 3), (72, .iload 5, 2), (74, .ireturn, 1)]
set_option maxRecDepth 100000 in
theorem kX3_lastValues : gchk cX3_lastValues tX3_lastValues = true := by decide +kernel
def tX3_isWay : List (Nat × Instr × Nat) := [(0, .aload_n 0, 1), (1, .getfield 27, 3), (4, .iload_n 1, 1), (5, .bipush 100, 2), (7, .imul, 1), (8, .iload_n 2, 1), (9, .bipush 10, 2), (11, .imul, 1), (12, .iadd, 1), (13, .iload_n 3, 1), (14, .iadd, 1), (15, .iaload, 1), (16, .iload 4, 2), (18, .ishr, 1), (19, .iconst 1, 1), (20, .iand, 1), (21, .iconst 1, 1), (22, .if_icmp .ne 7, 3), (25, .iconst 1, 1), (26, .goto 4, 3), (29, .iconst 0, 1), (30, .ireturn, 1)]
set_option maxRecDepth 100000 in
theorem kX3_isWay : gchk cX3_isWay tX3_isWay = true := by decide +kernel
def tX3_countWays : List (Nat × Instr × Nat) := [(0, .aload_n 2, 1), (1, .aload_n 0, 1), (2, .getfield 24, 3), (5, .iload_n 1, 1), (6, .iconst 3, 1), (7, .imul, 1), (8, .iaload, 1), (9, .iaload, 1), (10, .istore_n 3, 1), (11, .aload_n 2, 1), (12, .aload_n 0, 1), (13, .getfield 24, 3), (16, .iload_n 1, 1), (17, .iconst 3, 1), (18, .imul, 1), (19, .iconst 1, 1), (20, .iadd, 1), (21, .iaload, 1), (22, .iaload, 1), (23, .istore 4, 2), (25, .aload_n 2, 1), (26, .aload_n 0, 1), (27, .getfield 24, 3), (30, .iload_n 1, 1), (31, .iconst 3, 1), (32, .imul, 1), (33, .iconst 2, 1), (34, .iadd, 1), (35, .iaload, 1), (36, .iaload, 1), (37, .istore 5, 2), (39, .iconst 0, 1), (40, .istore 6, 2), (42, .iconst 0, 1), (43, .istore 7, 2), (45, .iload 7, 2), (47, .bipush 100, 2), (49, .if_icmp .ge 54, 3), (52, .iload_n 3, 1), (53, .iload 7, 2), (55, .bipush 10, 2), (57, .idiv, 1), (58, .ishr, 1), (59, .iload 4, 2), (61, .iload 7, 2), (63, .bipush 10, 2), (65, .irem, 1), (66, .ishr, 1), (67, .iand, 1), (68, .iconst 1, 1), (69, .iand, 1), (70, .iconst 1, 1), (71, .if_icmp .ne 26, 3), (74, .iload 6, 2), (76, .aload_n 0, 1), (77, .getfield 27, 3), (80, .iload_n 1, 1), (81, .bipush 100, 2), (83, .imul, 1), (84, .iload 7, 2), (86, .iadd, 1), (87, .iaload, 1), (88, .iload 5, 2), (90, .iand, 1), (91, .invokestatic 40, 3), (94, .iadd, 1), (95, .istore 6, 2), (97, .iinc 7 1, 3), (100, .goto (-55), 3), (103, .iload 6, 2), (105, .ireturn, 1)]
set_option maxRecDepth 100000 in
theorem kX3_countWays : gchk cX3_countWays tX3_countWays = true := by decide +kernel
def tX3_notHolding : List (Nat × Instr × Nat) := [(0, .iconst 0, 1), (1, .istore_n 2, 1), (2, .iconst 0, 1), (3, .istore_n 3, 1), (4, .iload_n 3, 1), (5, .aload_n 0, 1), (6, .getfield 36, 3), (9, .if_icmp .ge 59, 3), (12, .iload_n 3, 1), (13, .iconst 3, 1), (14, .imul, 1), (15, .istore 4, 2), (17, .aload_n 0, 1), (18, .iload_n 3, 1), (19, .aload_n 1, 1), (20, .aload_n 0, 1), (21, .getfield 24, 3), (24, .iload 4, 2), (26, .iaload, 1), (27, .iaload, 1), (28, .aload_n 1, 1), (29, .aload_n 0, 1), (30, .getfield 24, 3), (33, .iload 4, 2), (35, .iconst 1, 1), (36, .iadd, 1), (37, .iaload, 1), (38, .iaload, 1), (39, .aload_n 1, 1), (40, .aload_n 0, 1), (41, .getfield 24, 3), (44, .iload 4, 2), (46, .iconst 2, 1), (47, .iadd, 1), (48, .iaload, 1), (49, .iaload, 1), (50, .invokevirtual 76, 3), (53, .ifCond .ne 9, 3), (56, .iload_n 2, 1), (57, .iconst 1, 1), (58, .iload_n 3, 1), (59, .ishl, 1), (60, .ior, 1), (61, .istore_n 2, 1), (62, .iinc 3 1, 3), (65, .goto (-61), 3), (68, .iload_n 2, 1), (69, .ireturn, 1)]
set_option maxRecDepth 100000 in
theorem kX3_notHolding : gchk cX3_notHolding tX3_notHolding = true := by decide +kernel
def tX3_sift : List (Nat × Instr × Nat) := [(0, .iload_n 1, 1), (1, .iconst 3, 1), (2, .imul, 1), (3, .istore 4, 2), (5, .aload_n 2, 1), (6, .aload_n 0, 1), (7, .getfield 24, 3), (10, .iload 4, 2), (12, .iaload, 1), (13, .iaload, 1), (14, .istore 5, 2), (16, .aload_n 2, 1), (17, .aload_n 0, 1), (18, .getfield 24, 3), (21, .iload 4, 2), (23, .iconst 1, 1), (24, .iadd, 1), (25, .iaload, 1), (26, .iaload, 1), (27, .istore 6, 2), (29, .aload_n 2, 1), (30, .aload_n 0, 1), (31, .getfield 24, 3), (34, .iload 4, 2), (36, .iconst 2, 1), (37, .iadd, 1), (38, .iaload, 1), (39, .iaload, 1), (40, .istore 7, 2), (42, .iconst 0, 1), (43, .istore 8, 2), (45, .iconst 0, 1), (46, .istore 9, 2), (48, .iconst 0, 1), (49, .istore 10, 2), (51, .iconst 0, 1), (52, .istore 11, 2), (54, .iload 11, 2), (56, .bipush 10, 2), (58, .if_icmp .ge 109, 3), (61, .iload 5, 2), (63, .iload 11, 2), (65, .ishr, 1), (66, .iconst 1, 1), (67, .iand, 1), (68, .ifCond .ne 6, 3), (71, .goto 90, 3), (74, .iload_n 1, 1), (75, .bipush 100, 2), (77, .imul, 1), (78, .iload 11, 2), (80, .bipush 10, 2), (82, .imul, 1), (83, .iadd, 1), (84, .istore 12, 2), (86, .iconst 0, 1), (87, .istore 13, 2), (89, .iload 13, 2), (91, .bipush 10, 2), (93, .if_icmp .ge 68, 3), (96, .iload 6, 2), (98, .iload 13, 2), (100, .ishr, 1), (101, .iconst 1, 1), (102, .iand, 1), (103, .ifCond .ne 7, 3), (106, .iconst 0, 1), (107, .goto 16, 3), (110, .aload_n 0, 1), (111, .getfield 27, 3), (114, .iload 12, 2), (116, .iload 13, 2), (118, .iadd, 1), (119, .iaload, 1), (120, .iload 7, 2), (122, .iand, 1), (123, .istore 14, 2), (125, .iload 14, 2), (127, .ifCond .eq 28, 3), (130, .iload 8, 2), (132, .iconst 1, 1), (133, .iload 11, 2), (135, .ishl, 1), (136, .ior, 1), (137, .istore 8, 2), (139, .iload 9, 2), (141, .iconst 1, 1), (142, .iload 13, 2), (144, .ishl, 1), (145, .ior, 1), (146, .istore 9, 2), (148, .iload 10, 2), (150, .iload 14, 2), (152, .ior, 1), (153, .istore 10, 2), (155, .iinc 13 1, 3), (158, .goto (-69), 3), (161, .iinc 11 1, 3), (164, .goto (-110), 3), (167, .aload_n 3, 1), (168, .aload_n 0, 1), (169, .getfield 24, 3), (172, .iload 4, 2), (174, .iaload, 1), (175, .iload 8, 2), (177, .iastore, 1), (178, .aload_n 3, 1), (179, .aload_n 0, 1), (180, .getfield 24, 3), (183, .iload 4, 2), (185, .iconst 1, 1), (186, .iadd, 1), (187, .iaload, 1), (188, .iload 9, 2), (190, .iastore, 1), (191, .aload_n 3, 1), (192, .aload_n 0, 1), (193, .getfield 24, 3), (196, .iload 4, 2), (198, .iconst 2, 1), (199, .iadd, 1), (200, .iaload, 1), (201, .iload 10, 2), (203, .iastore, 1), (204, .return_, 1)]
set_option maxRecDepth 100000 in
theorem kX3_sift : gchk cX3_sift tX3_sift = true := by decide +kernel
def tX3_siftLearned : List (Nat × Instr × Nat) := [(0, .iload_n 1, 1), (1, .bipush 16, 2), (3, .isub, 1), (4, .bipush 8, 2), (6, .imul, 1), (7, .istore 4, 2), (9, .iconst 0, 1), (10, .istore 5, 2), (12, .iconst 0, 1), (13, .istore 6, 2), (15, .iload 6, 2), (17, .bipush 8, 2), (19, .if_icmp .ge 49, 3), (22, .iload 5, 2), (24, .aload_n 0, 1), (25, .getfield 30, 3), (28, .iload 4, 2), (30, .iload 6, 2), (32, .iadd, 1), (33, .iaload, 1), (34, .ifCond .eq 24, 3), (37, .aload_n 0, 1), (38, .getfield 30, 3), (41, .iload 4, 2), (43, .iload 6, 2), (45, .iadd, 1), (46, .iaload, 1), (47, .aload_n 2, 1), (48, .iload 6, 2), (50, .iaload, 1), (51, .if_icmp .eq 7, 3), (54, .iconst 1, 1), (55, .goto 4, 3), (58, .iconst 0, 1), (59, .iadd, 1), (60, .istore 5, 2), (62, .iinc 6 1, 3), (65, .goto (-50), 3), (68, .iconst 0, 1), (69, .istore 6, 2), (71, .iload 6, 2), (73, .bipush 8, 2), (75, .if_icmp .ge 70, 3), (78, .aload_n 0, 1), (79, .getfield 30, 3), (82, .iload 4, 2), (84, .iload 6, 2), (86, .iadd, 1), (87, .iaload, 1), (88, .aload_n 2, 1), (89, .iload 6, 2), (91, .iaload, 1), (92, .if_icmp .ne 8, 3), (95, .iload 5, 2), (97, .goto 7, 3), (100, .iload 5, 2), (102, .iconst 1, 1), (103, .isub, 1), (104, .istore 7, 2), (106, .aload_n 3, 1), (107, .iload 6, 2), (109, .iload 7, 2), (111, .ifCond .ne 23, 3), (114, .aload_n 2, 1), (115, .iload 6, 2), (117, .iaload, 1), (118, .aload_n 0, 1), (119, .getfield 30, 3), (122, .iload 4, 2), (124, .iload 6, 2), (126, .iadd, 1), (127, .iaload, 1), (128, .iconst (-1), 1), (129, .ixor, 1), (130, .iand, 1), (131, .goto 7, 3), (134, .aload_n 2, 1), (135, .iload 6, 2), (137, .iaload, 1), (138, .iastore, 1), (139, .iinc 6 1, 3), (142, .goto (-71), 3), (145, .return_, 1)]
set_option maxRecDepth 100000 in
theorem kX3_siftLearned : gchk cX3_siftLearned tX3_siftLearned = true := by decide +kernel
def tX3_learn : List (Nat × Instr × Nat) := [(0, .bipush 16, 2), (2, .iload_n 1, 1), (3, .iadd, 1), (4, .istore 4, 2), (6, .aload_n 0, 1), (7, .iload 4, 2), (9, .iload_n 2, 1), (10, .bipush 9, 2), (12, .invokevirtual 53, 3), (15, .aload_n 3, 1), (16, .iconst 0, 1), (17, .aload_n 0, 1), (18, .getfield 30, 3), (21, .iload_n 1, 1), (22, .bipush 8, 2), (24, .imul, 1), (25, .bipush 8, 2), (27, .invokestatic 80, 3), (30, .iload 4, 2), (32, .ireturn, 1)]
set_option maxRecDepth 100000 in
theorem kX3_learn : gchk cX3_learn tX3_learn = true := by decide +kernel
def tX4_init : List (Nat × Instr × Nat) := [(0, .aload_n 0, 1), (1, .invokespecial 3, 3), (4, .aload_n 0, 1), (5, .bipush 8, 2), (7, .newarray .int, 2), (9, .putfield 9, 3), (12, .aload_n 0, 1), (13, .bipush 8, 2), (15, .newarray .int, 2), (17, .putfield 15, 3), (20, .aload_n 0, 1), (21, .bipush 8, 2), (23, .newarray .int, 2), (25, .putfield 18, 3), (28, .aload_n 0, 1), (29, .bipush 8, 2), (31, .newarray .int, 2), (33, .putfield 21, 3), (36, .aload_n 0, 1), (37, .bipush 8, 2), (39, .newarray .int, 2), (41, .putfield 24, 3), (44, .aload_n 0, 1), (45, .aload_n 1, 1), (46, .putfield 27, 3), (49, .aload_n 0, 1), (50, .aload_n 2, 1), (51, .putfield 31, 3), (54, .aload_n 0, 1), (55, .aload_n 3, 1), (56, .putfield 35, 3), (59, .aload_n 0, 1), (60, .aload 4, 2), (62, .putfield 39, 3), (65, .return_, 1)]
set_option maxRecDepth 100000 in
theorem kX4_init : gchk cX4_init tX4_init = true := by decide +kernel
def tX4_go : List (Nat × Instr × Nat) := [(0, .aload_n 0, 1), (1, .iconst 0, 1), (2, .putfield 42, 3), (5, .aload_n 0, 1), (6, .iconst 0, 1), (7, .putfield 46, 3), (10, .aload_n 0, 1), (11, .iconst 0, 1), (12, .putfield 49, 3), (15, .aload_n 0, 1), (16, .iconst 0, 1), (17, .putfield 52, 3), (20, .aload_n 0, 1), (21, .iconst 0, 1), (22, .putfield 55, 3), (25, .aload_n 0, 1), (26, .iconst 0, 1), (27, .putfield 58, 3), (30, .iconst 0, 1), (31, .istore 6, 2), (33, .iconst 1, 1), (34, .istore 7, 2), (36, .iconst 0, 1), (37, .istore 8, 2), (39, .iload 8, 2), (41, .ldc 62, 2), (43, .if_icmp .ge 149, 3), (46, .iload 7, 2), (48, .ifCond .eq 144, 3), (51, .aload_n 0, 1), (52, .getfield 35, 3), (55, .invokevirtual 63, 3), (58, .pop, 1), (59, .aload_n 0, 1), (60, .getfield 35, 3), (63, .getfield 69, 3), (66, .ifCond .eq 46, 3), (69, .aload_n 0, 1), (70, .dup, 1), (71, .getfield 49, 3), (74, .iconst 1, 1), (75, .iadd, 1), (76, .putfield 49, 3), (79, .iload_n 3, 1), (80, .ifCond .eq 15, 3), (83, .iload 6, 2), (85, .ifCond .eq 10, 3), (88, .aload_n 0, 1), (89, .invokevirtual 72, 3), (92, .goto 4, 3), (95, .iconst (-1), 1), (96, .istore 9, 2), (98, .aload_n 0, 1), (99, .iload 9, 2), (101, .invokevirtual 75, 3), (104, .istore 7, 2), (106, .iconst 0, 1), (107, .istore 6, 2), (109, .goto 77, 3), (112, .aload_n 0, 1), (113, .getfield 35, 3), (116, .invokevirtual 79, 3), (119, .bipush 8, 2), (121, .if_icmp .ne 33, 3), (124, .aload_n 0, 1), (125, .invokevirtual 82, 3), (128, .iload 5, 2), (130, .ifCond .eq 15, 3), (133, .aload_n 0, 1), (134, .iconst (-1), 1), (135, .invokevirtual 75, 3), (138, .ifCond .eq 7, 3), (141, .iconst 1, 1), (142, .goto 4, 3), (145, .iconst 0, 1), (146, .istore 7, 2), (148, .iconst 0, 1), (149, .istore 6, 2), (151, .goto 35, 3), (154, .aload_n 0, 1), (155, .getfield 46, 3), (158, .iload 4, 2), (160, .if_icmp .lt 14, 3), (163, .aload_n 0, 1), (164, .iconst 1, 1), (165, .putfield 58, 3), (168, .iconst 0, 1), (169, .istore 7, 2), (171, .goto 15, 3), (174, .aload_n 0, 1), (175, .iload_n 1, 1), (176, .iload_n 2, 1), (177, .invokevirtual 85, 3), (180, .istore 6, 2), (182, .iload 6, 2), (184, .istore 7, 2), (186, .iinc 8 1, 3), (189, .goto (-150), 3), (192, .return_, 1)]
set_option maxRecDepth 100000 in
theorem kX4_go : gchk cX4_go tX4_go = true := by decide +kernel
def tX4_keepSolution : List (Nat × Instr × Nat) := [(0, .aload_n 0, 1), (1, .dup, 1), (2, .getfield 55, 3), (5, .iconst 1, 1), (6, .iadd, 1), (7, .putfield 55, 3), (10, .iconst 0, 1), (11, .istore_n 1, 1), (12, .iload_n 1, 1), (13, .bipush 8, 2), (15, .if_icmp .ge 28, 3), (18, .aload_n 0, 1), (19, .getfield 24, 3), (22, .iload_n 1, 1), (23, .aload_n 0, 1), (24, .getfield 35, 3), (27, .getfield 89, 3), (30, .iload_n 1, 1), (31, .iaload, 1), (32, .iconst 0, 1), (33, .invokestatic 92, 3), (36, .iastore, 1), (37, .iinc 1 1, 3), (40, .goto (-28), 3), (43, .return_, 1)]
set_option maxRecDepth 100000 in
theorem kX4_keepSolution : gchk cX4_keepSolution tX4_keepSolution = true := by decide +kernel
def tX4_tryOne : List (Nat × Instr × Nat) := [(0, .aload_n 0, 1), (1, .iload_n 1, 1), (2, .invokevirtual 96, 3), (5, .istore_n 3, 1), (6, .iload_n 3, 1), (7, .iconst (-1), 1), (8, .if_icmp .eq 12, 3), (11, .aload_n 0, 1), (12, .getfield 42, 3), (15, .bipush 8, 2), (17, .if_icmp .lt 5, 3), (20, .iconst 0, 1), (21, .ireturn, 1), (22, .iconst 1, 1), (23, .aload_n 0, 1), (24, .getfield 35, 3), (27, .getfield 89, 3), (30, .iload_n 3, 1), (31, .iaload, 1), (32, .iload_n 2, 1), (33, .invokestatic 100, 3), (36, .ishl, 1), (37, .istore 4, 2), (39, .aload_n 0, 1), (40, .getfield 9, 3), (43, .aload_n 0, 1), (44, .getfield 42, 3), (47, .iload_n 3, 1), (48, .iastore, 1), (49, .aload_n 0, 1), (50, .getfield 15, 3), (53, .aload_n 0, 1), (54, .getfield 42, 3), (57, .iload 4, 2), (59, .iastore, 1), (60, .aload_n 0, 1), (61, .getfield 18, 3), (64, .aload_n 0, 1), (65, .getfield 42, 3), (68, .aload_n 0, 1), (69, .getfield 35, 3), (72, .getfield 103, 3), (75, .iastore, 1), (76, .aload_n 0, 1), (77, .dup, 1), (78, .getfield 42, 3), (81, .iconst 1, 1), (82, .iadd, 1), (83, .putfield 42, 3), (86, .aload_n 0, 1), (87, .dup, 1), (88, .getfield 46, 3), (91, .iconst 1, 1), (92, .iadd, 1), (93, .putfield 46, 3), (96, .aload_n 0, 1), (97, .getfield 35, 3), (100, .iload_n 3, 1), (101, .iload 4, 2), (103, .bipush 100, 2), (105, .invokevirtual 106, 3), (108, .pop, 1), (109, .iconst 1, 1), (110, .ireturn, 1)]
set_option maxRecDepth 100000 in
theorem kX4_tryOne : gchk cX4_tryOne tX4_tryOne = true := by decide +kernel
def tX4_turnBack : List (Nat × Instr × Nat) := [(0, .aload_n 0, 1), (1, .getfield 42, 3), (4, .ifCond .gt 5, 3), (7, .iconst 0, 1), (8, .ireturn, 1), (9, .aload_n 0, 1), (10, .dup, 1), (11, .getfield 42, 3), (14, .iconst 1, 1), (15, .isub, 1), (16, .putfield 42, 3), (19, .aload_n 0, 1), (20, .getfield 35, 3), (23, .aload_n 0, 1), (24, .getfield 18, 3), (27, .aload_n 0, 1), (28, .getfield 42, 3), (31, .iaload, 1), (32, .invokevirtual 110, 3), (35, .aload_n 0, 1), (36, .getfield 9, 3), (39, .aload_n 0, 1), (40, .getfield 42, 3), (43, .iaload, 1), (44, .istore_n 2, 1), (45, .aload_n 0, 1), (46, .getfield 35, 3), (49, .iload_n 2, 1), (50, .aload_n 0, 1), (51, .getfield 35, 3), (54, .getfield 89, 3), (57, .iload_n 2, 1), (58, .iaload, 1), (59, .aload_n 0, 1), (60, .getfield 15, 3), (63, .aload_n 0, 1), (64, .getfield 42, 3), (67, .iaload, 1), (68, .iconst (-1), 1), (69, .ixor, 1), (70, .iand, 1), (71, .bipush 100, 2), (73, .invokevirtual 106, 3), (76, .pop, 1), (77, .iload_n 1, 1), (78, .iconst (-1), 1), (79, .if_icmp .eq 28, 3), (82, .aload_n 0, 1), (83, .getfield 35, 3), (86, .dup, 1), (87, .getfield 114, 3), (90, .iconst 1, 1), (91, .iload_n 1, 1), (92, .ishl, 1), (93, .ior, 1), (94, .putfield 114, 3), (97, .aload_n 0, 1), (98, .getfield 35, 3), (101, .iconst 1, 1), (102, .iload_n 1, 1), (103, .ishl, 1), (104, .invokevirtual 117, 3), (107, .iconst 1, 1), (108, .ireturn, 1)]
set_option maxRecDepth 100000 in
theorem kX4_turnBack : gchk cX4_turnBack tX4_turnBack = true := by decide +kernel
def tX4_chosen : List (Nat × Instr × Nat) := [(0, .iconst (-1), 1), (1, .istore_n 2, 1), (2, .iconst 0, 1), (3, .istore_n 3, 1), (4, .iconst 0, 1), (5, .istore 4, 2), (7, .iload 4, 2), (9, .bipush 8, 2), (11, .if_icmp .ge 50, 3), (14, .aload_n 0, 1), (15, .getfield 35, 3), (18, .iload 4, 2), (20, .invokevirtual 120, 3), (23, .ifCond .eq 6, 3), (26, .goto 29, 3), (29, .aload_n 0, 1), (30, .iload_n 1, 1), (31, .iload 4, 2), (33, .invokevirtual 123, 3), (36, .istore 5, 2), (38, .iload_n 2, 1), (39, .iconst (-1), 1), (40, .if_icmp .eq 9, 3), (43, .iload 5, 2), (45, .iload_n 3, 1), (46, .if_icmp .le 9, 3), (49, .iload 4, 2), (51, .istore_n 2, 1), (52, .iload 5, 2), (54, .istore_n 3, 1), (55, .iinc 4 1, 3), (58, .goto (-51), 3), (61, .iload_n 2, 1), (62, .ireturn, 1)]
set_option maxRecDepth 100000 in
theorem kX4_chosen : gchk cX4_chosen tX4_chosen = true := by decide +kernel
def tX4_worthOf : List (Nat × Instr × Nat) := [(0, .iload_n 1, 1), (1, .tableswitch 75 1 3 #[27, 41, 54], 27), (28, .aload_n 0, 1), (29, .getfield 35, 3), (32, .getfield 89, 3), (35, .iload_n 2, 1), (36, .iaload, 1), (37, .invokestatic 126, 3), (40, .ineg, 1), (41, .ireturn, 1), (42, .aload_n 0, 1), (43, .getfield 35, 3), (46, .getfield 89, 3), (49, .iload_n 2, 1), (50, .iaload, 1), (51, .invokestatic 126, 3), (54, .ireturn, 1), (55, .aload_n 0, 1), (56, .getfield 27, 3), (59, .getfield 131, 3), (62, .iload_n 2, 1), (63, .iaload, 1), (64, .aload_n 0, 1), (65, .getfield 27, 3), (68, .invokevirtual 136, 3), (71, .iand, 1), (72, .invokestatic 126, 3), (75, .ireturn, 1), (76, .iconst 0, 1), (77, .ireturn, 1)]
set_option maxRecDepth 100000 in
theorem kX4_worthOf : gchk cX4_worthOf tX4_worthOf = true := by decide +kernel
def tX4_picked : List (Nat × Instr × Nat) := [(0, .iload_n 0, 1), (1, .invokestatic 126, 3), (4, .istore_n 2, 1), (5, .iload_n 1, 1), (6, .lookupswitch 42 #[(1, 26), (2, 34)], 26), (32, .iload_n 0, 1), (33, .iload_n 2, 1), (34, .iconst 1, 1), (35, .isub, 1), (36, .invokestatic 92, 3), (39, .ireturn, 1), (40, .iload_n 0, 1), (41, .iload_n 2, 1), (42, .iconst 2, 1), (43, .idiv, 1), (44, .invokestatic 92, 3), (47, .ireturn, 1), (48, .iload_n 0, 1), (49, .iconst 0, 1), (50, .invokestatic 92, 3), (53, .ireturn, 1)]
set_option maxRecDepth 100000 in
theorem kX4_picked : gchk cX4_picked tX4_picked = true := by decide +kernel
def tX4_least : List (Nat × Instr × Nat) := [(0, .iload_n 1, 1), (1, .istore_n 2, 1), (2, .iconst 0, 1), (3, .istore_n 3, 1), (4, .iload_n 3, 1), (5, .bipush 10, 2), (7, .if_icmp .ge 23, 3), (10, .iload_n 2, 1), (11, .iload_n 0, 1), (12, .iload_n 3, 1), (13, .ishr, 1), (14, .iconst 1, 1), (15, .iand, 1), (16, .isub, 1), (17, .istore_n 2, 1), (18, .iload_n 2, 1), (19, .ifCond .ge 5, 3), (22, .iload_n 3, 1), (23, .ireturn, 1), (24, .iinc 3 1, 3), (27, .goto (-23), 3), (30, .iconst 0, 1), (31, .ireturn, 1)]
set_option maxRecDepth 100000 in
theorem kX4_least : gchk cX4_least tX4_least = true := by decide +kernel
def tX4_learnFromTries : List (Nat × Instr × Nat) := [(0, .aload_n 0, 1), (1, .getfield 52, 3), (4, .bipush 8, 2), (6, .if_icmp .lt 5, 3), (9, .iconst (-1), 1), (10, .ireturn, 1), (11, .iconst 1, 1), (12, .aload_n 0, 1), (13, .getfield 42, 3), (16, .ishl, 1), (17, .iconst 1, 1), (18, .isub, 1), (19, .istore_n 1, 1), (20, .aload_n 0, 1), (21, .iload_n 1, 1), (22, .invokevirtual 139, 3), (25, .aload_n 0, 1), (26, .getfield 39, 3), (29, .invokevirtual 63, 3), (32, .pop, 1), (33, .aload_n 0, 1), (34, .getfield 39, 3), (37, .getfield 69, 3), (40, .ifCond .ne 5, 3), (43, .iconst (-1), 1), (44, .ireturn, 1), (45, .iconst 0, 1), (46, .istore_n 2, 1), (47, .iload_n 2, 1), (48, .aload_n 0, 1), (49, .getfield 42, 3), (52, .if_icmp .ge 42, 3), (55, .iload_n 1, 1), (56, .iconst 1, 1), (57, .iload_n 2, 1), (58, .ishl, 1), (59, .iconst (-1), 1), (60, .ixor, 1), (61, .iand, 1), (62, .istore_n 3, 1), (63, .aload_n 0, 1), (64, .iload_n 3, 1), (65, .invokevirtual 139, 3), (68, .aload_n 0, 1), (69, .getfield 39, 3), (72, .invokevirtual 63, 3), (75, .pop, 1), (76, .aload_n 0, 1), (77, .getfield 39, 3), (80, .getfield 69, 3), (83, .ifCond .eq 5, 3), (86, .iload_n 3, 1), (87, .istore_n 1, 1), (88, .iinc 2 1, 3), (91, .goto (-44), 3), (94, .aload_n 0, 1), (95, .iload_n 1, 1), (96, .invokevirtual 142, 3), (99, .ireturn, 1)]
set_option maxRecDepth 100000 in
theorem kX4_learnFromTries : gchk cX4_learnFromTries tX4_learnFromTries = true := by decide +kernel
def tX4_learn : List (Nat × Instr × Nat) := [(0, .iconst 0, 1), (1, .istore_n 2, 1), (2, .iconst 0, 1), (3, .istore_n 3, 1), (4, .iload_n 3, 1), (5, .bipush 8, 2), (7, .if_icmp .ge 16, 3), (10, .aload_n 0, 1), (11, .getfield 21, 3), (14, .iload_n 3, 1), (15, .iconst 0, 1), (16, .iastore, 1), (17, .iinc 3 1, 3), (20, .goto (-16), 3), (23, .iconst 0, 1), (24, .istore_n 3, 1), (25, .iload_n 3, 1), (26, .aload_n 0, 1), (27, .getfield 42, 3), (30, .if_icmp .ge 46, 3), (33, .iload_n 1, 1), (34, .iload_n 3, 1), (35, .ishr, 1), (36, .iconst 1, 1), (37, .iand, 1), (38, .iconst 1, 1), (39, .if_icmp .ne 31, 3), (42, .iload_n 2, 1), (43, .iconst 1, 1), (44, .aload_n 0, 1), (45, .getfield 9, 3), (48, .iload_n 3, 1), (49, .iaload, 1), (50, .ishl, 1), (51, .ior, 1), (52, .istore_n 2, 1), (53, .aload_n 0, 1), (54, .getfield 21, 3), (57, .aload_n 0, 1), (58, .getfield 9, 3), (61, .iload_n 3, 1), (62, .iaload, 1), (63, .aload_n 0, 1), (64, .getfield 15, 3), (67, .iload_n 3, 1), (68, .iaload, 1), (69, .iastore, 1), (70, .iinc 3 1, 3), (73, .goto (-48), 3), (76, .aload_n 0, 1), (77, .dup, 1), (78, .getfield 52, 3), (81, .iconst 1, 1), (82, .iadd, 1), (83, .putfield 52, 3), (86, .aload_n 0, 1), (87, .getfield 27, 3), (90, .aload_n 0, 1), (91, .getfield 52, 3), (94, .iconst 1, 1), (95, .isub, 1), (96, .iload_n 2, 1), (97, .aload_n 0, 1), (98, .getfield 21, 3), (101, .invokevirtual 145, 3), (104, .ireturn, 1)]
set_option maxRecDepth 100000 in
theorem kX4_learn : gchk cX4_learn tX4_learn = true := by decide +kernel
def tX4_startTrial : List (Nat × Instr × Nat) := [(0, .aload_n 0, 1), (1, .getfield 39, 3), (4, .aload_n 0, 1), (5, .getfield 31, 3), (8, .aload_n 0, 1), (9, .getfield 31, 3), (12, .invokevirtual 148, 3), (15, .aload_n 0, 1), (16, .getfield 27, 3), (19, .invokevirtual 136, 3), (22, .invokevirtual 151, 3), (25, .iconst 0, 1), (26, .istore_n 2, 1), (27, .iload_n 2, 1), (28, .aload_n 0, 1), (29, .getfield 42, 3), (32, .if_icmp .ge 50, 3), (35, .aload_n 0, 1), (36, .getfield 39, 3), (39, .getfield 69, 3), (42, .ifCond .ne 40, 3), (45, .iload_n 1, 1), (46, .iload_n 2, 1), (47, .ishr, 1), (48, .iconst 1, 1), (49, .iand, 1), (50, .iconst 1, 1), (51, .if_icmp .ne 25, 3), (54, .aload_n 0, 1), (55, .getfield 39, 3), (58, .aload_n 0, 1), (59, .getfield 9, 3), (62, .iload_n 2, 1), (63, .iaload, 1), (64, .aload_n 0, 1), (65, .getfield 15, 3), (68, .iload_n 2, 1), (69, .iaload, 1), (70, .bipush 100, 2), (72, .invokevirtual 106, 3), (75, .pop, 1), (76, .iinc 2 1, 3), (79, .goto (-52), 3), (82, .return_, 1)]
set_option maxRecDepth 100000 in
theorem kX4_startTrial : gchk cX4_startTrial tX4_startTrial = true := by decide +kernel
def tX4_isSolution : List (Nat × Instr × Nat) := [(0, .iconst 0, 1), (1, .istore_n 2, 1), (2, .iload_n 2, 1), (3, .bipush 8, 2), (5, .if_icmp .ge 23, 3), (8, .aload_n 0, 1), (9, .getfield 24, 3), (12, .iload_n 2, 1), (13, .iaload, 1), (14, .aload_n 1, 1), (15, .iload_n 2, 1), (16, .iaload, 1), (17, .if_icmp .eq 5, 3), (20, .iconst 0, 1), (21, .ireturn, 1), (22, .iinc 2 1, 3), (25, .goto (-23), 3), (28, .iconst 1, 1), (29, .ireturn, 1)]
set_option maxRecDepth 100000 in
theorem kX4_isSolution : gchk cX4_isSolution tX4_isSolution = true := by decide +kernel
def tX4_digits : List (Nat × Instr × Nat) := [(0, .iconst 0, 1), (1, .istore_n 1, 1), (2, .iconst 0, 1), (3, .istore_n 2, 1), (4, .iload_n 2, 1), (5, .bipush 8, 2), (7, .if_icmp .ge 21, 3), (10, .iload_n 1, 1), (11, .bipush 10, 2), (13, .imul, 1), (14, .aload_n 0, 1), (15, .getfield 24, 3), (18, .iload_n 2, 1), (19, .iaload, 1), (20, .iadd, 1), (21, .istore_n 1, 1), (22, .iinc 2 1, 3), (25, .goto (-21), 3), (28, .iload_n 1, 1), (29, .ireturn, 1)]
set_option maxRecDepth 100000 in
theorem kX4_digits : gchk cX4_digits tX4_digits = true := by decide +kernel
def tX5_init : List (Nat × Instr × Nat) := [(0, .aload_n 0, 1), (1, .invokespecial 3, 3), (4, .aload_n 0, 1), (5, .bipush 40, 2), (7, .newarray .int, 2), (9, .putfield 9, 3), (12, .aload_n 0, 1), (13, .iconst (-1), 1), (14, .putfield 15, 3), (17, .return_, 1)]
set_option maxRecDepth 100000 in
theorem kX5_init : gchk cX5_init tX5_init = true := by decide +kernel
def tX5_become : List (Nat × Instr × Nat) := [(0, .aload_n 0, 1), (1, .iload_n 1, 1), (2, .putfield 15, 3), (5, .aload_n 0, 1), (6, .iload_n 1, 1), (7, .iconst (-1), 1), (8, .if_icmp .ne 7, 3), (11, .iconst 0, 1), (12, .goto 4, 3), (15, .iload_n 2, 1), (16, .putfield 19, 3), (19, .iconst 0, 1), (20, .istore_n 3, 1), (21, .iload_n 3, 1), (22, .bipush 40, 2), (24, .if_icmp .ge 16, 3), (27, .aload_n 0, 1), (28, .getfield 9, 3), (31, .iload_n 3, 1), (32, .iconst 0, 1), (33, .iastore, 1), (34, .iinc 3 1, 3), (37, .goto (-16), 3), (40, .return_, 1)]
set_option maxRecDepth 100000 in
theorem kX5_become : gchk cX5_become tX5_become = true := by decide +kernel
def tX5_isMissing : List (Nat × Instr × Nat) := [(0, .aload_n 0, 1), (1, .getfield 15, 3), (4, .iconst (-1), 1), (5, .if_icmp .ne 7, 3), (8, .iconst 1, 1), (9, .goto 4, 3), (12, .iconst 0, 1), (13, .ireturn, 1)]
set_option maxRecDepth 100000 in
theorem kX5_isMissing : gchk cX5_isMissing tX5_isMissing = true := by decide +kernel
def tX5_has : List (Nat × Instr × Nat) := [(0, .iload_n 1, 1), (1, .ifCond .lt 15, 3), (4, .iload_n 1, 1), (5, .aload_n 0, 1), (6, .getfield 19, 3), (9, .if_icmp .ge 7, 3), (12, .iconst 1, 1), (13, .goto 4, 3), (16, .iconst 0, 1), (17, .ireturn, 1)]
set_option maxRecDepth 100000 in
theorem kX5_has : gchk cX5_has tX5_has = true := by decide +kernel
def tX5_hasRow : List (Nat × Instr × Nat) := [(0, .iload_n 2, 1), (1, .ifCond .lt 29, 3), (4, .iload_n 2, 1), (5, .aload_n 0, 1), (6, .getfield 19, 3), (9, .if_icmp .gt 21, 3), (12, .iload_n 1, 1), (13, .ifCond .lt 17, 3), (16, .iload_n 1, 1), (17, .aload_n 0, 1), (18, .getfield 19, 3), (21, .iload_n 2, 1), (22, .isub, 1), (23, .if_icmp .gt 7, 3), (26, .iconst 1, 1), (27, .goto 4, 3), (30, .iconst 0, 1), (31, .ireturn, 1)]
set_option maxRecDepth 100000 in
theorem kX5_hasRow : gchk cX5_hasRow tX5_hasRow = true := by decide +kernel
def tX5_cut : List (Nat × Instr × Nat) := [(0, .aload_n 0, 1), (1, .getfield 15, 3), (4, .lookupswitch 34 #[(1, 28), (2, 31)], 28), (32, .iload_n 1, 1), (33, .i2s, 1), (34, .ireturn, 1), (35, .iload_n 1, 1), (36, .i2b, 1), (37, .ireturn, 1), (38, .iload_n 1, 1), (39, .ireturn, 1)]
set_option maxRecDepth 100000 in
theorem kX5_cut : gchk cX5_cut tX5_cut = true := by decide +kernel
def tJ6_bitCount_0f7a4 : List (Nat × Instr × Nat) := [(0, .iload_n 0, 1), (1, .iload_n 0, 1), (2, .iconst 1, 1), (3, .iushr, 1), (4, .ldc_w 265, 3), (7, .iand, 1), (8, .isub, 1), (9, .istore_n 0, 1), (10, .iload_n 0, 1), (11, .ldc_w 266, 3), (14, .iand, 1), (15, .iload_n 0, 1), (16, .iconst 2, 1), (17, .iushr, 1), (18, .ldc_w 266, 3), (21, .iand, 1), (22, .iadd, 1), (23, .istore_n 0, 1), (24, .iload_n 0, 1), (25, .iload_n 0, 1), (26, .iconst 4, 1), (27, .iushr, 1), (28, .iadd, 1), (29, .ldc_w 267, 3), (32, .iand, 1), (33, .istore_n 0, 1), (34, .iload_n 0, 1), (35, .iload_n 0, 1), (36, .bipush 8, 2), (38, .iushr, 1), (39, .iadd, 1), (40, .istore_n 0, 1), (41, .iload_n 0, 1), (42, .iload_n 0, 1), (43, .bipush 16, 2), (45, .iushr, 1), (46, .iadd, 1), (47, .istore_n 0, 1), (48, .iload_n 0, 1), (49, .bipush 63, 2), (51, .iand, 1), (52, .ireturn, 1)]
set_option maxRecDepth 100000 in
theorem kJ6_bitCount_0f7a4 : gchk cJ6_bitCount_0f7a4 tJ6_bitCount_0f7a4 = true := by decide +kernel
end
section
def tX6_init : List (Nat × Instr × Nat) := [(0, .aload_n 0, 1), (1, .invokespecial 3, 3), (4, .aload_n 0, 1), (5, .new 9, 3), (8, .dup, 1), (9, .invokespecial 11, 3), (12, .putfield 12, 3), (15, .aload_n 0, 1), (16, .new 16, 3), (19, .dup, 1), (20, .invokespecial 18, 3), (23, .putfield 19, 3), (26, .aload_n 0, 1), (27, .new 23, 3), (30, .dup, 1), (31, .aload_n 0, 1), (32, .getfield 12, 3), (35, .invokespecial 25, 3), (38, .putfield 28, 3), (41, .aload_n 0, 1), (42, .new 32, 3), (45, .dup, 1), (46, .invokespecial 34, 3), (49, .putfield 35, 3), (52, .aload_n 0, 1), (53, .new 23, 3), (56, .dup, 1), (57, .aload_n 0, 1), (58, .getfield 12, 3), (61, .invokespecial 25, 3), (64, .putfield 39, 3), (67, .aload_n 0, 1), (68, .new 23, 3), (71, .dup, 1), (72, .aload_n 0, 1), (73, .getfield 12, 3), (76, .invokespecial 25, 3), (79, .putfield 42, 3), (82, .aload_n 0, 1), (83, .new 45, 3), (86, .dup, 1), (87, .aload_n 0, 1), (88, .getfield 12, 3), (91, .aload_n 0, 1), (92, .getfield 35, 3), (95, .aload_n 0, 1), (96, .getfield 39, 3), (99, .aload_n 0, 1), (100, .getfield 42, 3), (103, .invokespecial 47, 3), (106, .putfield 50, 3), (109, .aload_n 0, 1), (110, .new 23, 3), (113, .dup, 1), (114, .aload_n 0, 1), (115, .getfield 12, 3), (118, .invokespecial 25, 3), (121, .putfield 54, 3), (124, .aload_n 0, 1), (125, .new 32, 3), (128, .dup, 1), (129, .invokespecial 34, 3), (132, .putfield 57, 3), (135, .aload_n 0, 1), (136, .iconst 4, 1), (137, .anewarray 60, 3), (140, .putfield 62, 3), (143, .iconst 0, 1), (144, .istore_n 1, 1), (145, .iload_n 1, 1), (146, .iconst 4, 1), (147, .if_icmp .ge 22, 3), (150, .aload_n 0, 1), (151, .getfield 62, 3), (154, .iload_n 1, 1), (155, .new 60, 3), (158, .dup, 1), (159, .invokespecial 66, 3), (162, .aastore, 1), (163, .iinc 1 1, 3), (166, .goto (-21), 3), (169, .aload_n 0, 1), (170, .bipush 9, 2), (172, .newarray .int, 2), (174, .putfield 67, 3), (177, .aload_n 0, 1), (178, .iconst 0, 1), (179, .putfield 71, 3), (182, .aload_n 0, 1), (183, .iconst 0, 1), (184, .putfield 75, 3), (187, .return_, 1)]
set_option maxRecDepth 100000 in
theorem kX6_init : gchk cX6_init tX6_init = true := by decide +kernel
def tX6_feed : List (Nat × Instr × Nat) := [(0, .iload_n 1, 1), (1, .ifCond .lt 10, 3), (4, .iload_n 1, 1), (5, .sipush 255, 3), (8, .if_icmp .le 6, 3), (11, .bipush (-2), 2), (13, .ireturn, 1), (14, .aload_n 0, 1), (15, .getfield 19, 3), (18, .iload_n 1, 1), (19, .invokevirtual 79, 3), (22, .ifCond .eq 13, 3), (25, .aload_n 0, 1), (26, .getfield 19, 3), (29, .getfield 83, 3), (32, .goto 5, 3), (35, .bipush (-4), 2), (37, .ireturn, 1)]
set_option maxRecDepth 100000 in
theorem kX6_feed : gchk cX6_feed tX6_feed = true := by decide +kernel
def tX6_rule : List (Nat × Instr × Nat) := [(0, .aload_n 0, 1), (1, .getfield 12, 3), (4, .getfield 86, 3), (7, .bipush 16, 2), (9, .if_icmp .lt 6, 3), (12, .bipush (-4), 2), (14, .ireturn, 1), (15, .aload_n 0, 1), (16, .getfield 28, 3), (19, .getfield 87, 3), (22, .ifCond .eq 6, 3), (25, .bipush (-3), 2), (27, .ireturn, 1), (28, .aload_n 0, 1), (29, .getfield 19, 3), (32, .invokevirtual 90, 3), (35, .istore_n 1, 1), (36, .aload_n 0, 1), (37, .getfield 19, 3), (40, .iconst 0, 1), (41, .putfield 83, 3), (44, .iload_n 1, 1), (45, .iconst (-1), 1), (46, .if_icmp .eq 8, 3), (49, .bipush (-100), 2), (51, .iload_n 1, 1), (52, .isub, 1), (53, .ireturn, 1), (54, .aload_n 0, 1), (55, .getfield 12, 3), (58, .aload_n 0, 1), (59, .getfield 19, 3), (62, .invokevirtual 94, 3), (65, .istore_n 2, 1), (66, .aload_n 0, 1), (67, .getfield 28, 3), (70, .aload_n 0, 1), (71, .getfield 12, 3), (74, .invokevirtual 98, 3), (77, .putfield 101, 3), (80, .aload_n 0, 1), (81, .getfield 28, 3), (84, .dup, 1), (85, .getfield 104, 3), (88, .iconst 1, 1), (89, .iload_n 2, 1), (90, .ishl, 1), (91, .ior, 1), (92, .putfield 104, 3), (95, .iload_n 2, 1), (96, .ireturn, 1)]
set_option maxRecDepth 100000 in
theorem kX6_rule : gchk cX6_rule tX6_rule = true := by decide +kernel
def tX6_told : List (Nat × Instr × Nat) := [(0, .aload_n 0, 1), (1, .iload_n 1, 1), (2, .invokevirtual 107, 3), (5, .ifCond .ne 6, 3), (8, .bipush (-2), 2), (10, .ireturn, 1), (11, .iload_n 2, 1), (12, .tableswitch 125 0 6 #[44, 54, 64, 74, 86, 100, 116], 44), (56, .aload_n 0, 1), (57, .getfield 12, 3), (60, .getfield 110, 3), (63, .iload_n 1, 1), (64, .iaload, 1), (65, .ireturn, 1), (66, .aload_n 0, 1), (67, .getfield 12, 3), (70, .getfield 113, 3), (73, .iload_n 1, 1), (74, .iaload, 1), (75, .ireturn, 1), (76, .aload_n 0, 1), (77, .getfield 12, 3), (80, .getfield 116, 3), (83, .iload_n 1, 1), (84, .iaload, 1), (85, .ireturn, 1), (86, .aload_n 0, 1), (87, .getfield 28, 3), (90, .getfield 104, 3), (93, .iload_n 1, 1), (94, .ishr, 1), (95, .iconst 1, 1), (96, .iand, 1), (97, .ireturn, 1), (98, .aload_n 0, 1), (99, .iload_n 1, 1), (100, .invokevirtual 119, 3), (103, .ifCond .eq 7, 3), (106, .iconst 1, 1), (107, .goto 4, 3), (110, .iconst 0, 1), (111, .ireturn, 1), (112, .aload_n 0, 1), (113, .getfield 12, 3), (116, .iload_n 1, 1), (117, .aload_n 0, 1), (118, .getfield 28, 3), (121, .getfield 122, 3), (124, .invokevirtual 125, 3), (127, .ireturn, 1), (128, .aload_n 0, 1), (129, .getfield 28, 3), (132, .iload_n 1, 1), (133, .invokevirtual 129, 3), (136, .ireturn, 1), (137, .bipush (-2), 2), (139, .ireturn, 1)]
set_option maxRecDepth 100000 in
theorem kX6_told : gchk cX6_told tX6_told = true := by decide +kernel
def tX6_holds : List (Nat × Instr × Nat) := [(0, .aload_n 0, 1), (1, .iload_n 1, 1), (2, .invokevirtual 107, 3), (5, .ifCond .ne 6, 3), (8, .bipush (-2), 2), (10, .ireturn, 1), (11, .aload_n 0, 1), (12, .getfield 12, 3), (15, .iload_n 1, 1), (16, .invokevirtual 133, 3), (19, .istore 5, 2), (21, .iload 5, 2), (23, .ifCond .le 10, 3), (26, .iload_n 2, 1), (27, .invokestatic 136, 3), (30, .ifCond .eq 30, 3), (33, .iload 5, 2), (35, .iconst 1, 1), (36, .if_icmp .le 10, 3), (39, .iload_n 3, 1), (40, .invokestatic 136, 3), (43, .ifCond .eq 17, 3), (46, .iload 5, 2), (48, .iconst 2, 1), (49, .if_icmp .le 14, 3), (52, .iload 4, 2), (54, .invokestatic 136, 3), (57, .ifCond .ne 6, 3), (60, .bipush (-2), 2), (62, .ireturn, 1), (63, .iload 5, 2), (65, .tableswitch 87 0 2 #[27, 47, 67], 27), (92, .aload_n 0, 1), (93, .getfield 12, 3), (96, .iload_n 1, 1), (97, .iconst 0, 1), (98, .iconst 0, 1), (99, .iconst 0, 1), (100, .invokevirtual 139, 3), (103, .ifCond .eq 7, 3), (106, .iconst 1, 1), (107, .goto 4, 3), (110, .iconst 0, 1), (111, .ireturn, 1), (112, .aload_n 0, 1), (113, .getfield 12, 3), (116, .iload_n 1, 1), (117, .iconst 0, 1), (118, .iconst 0, 1), (119, .iload_n 2, 1), (120, .invokevirtual 139, 3), (123, .ifCond .eq 7, 3), (126, .iconst 1, 1), (127, .goto 4, 3), (130, .iconst 0, 1), (131, .ireturn, 1), (132, .aload_n 0, 1), (133, .getfield 12, 3), (136, .iload_n 1, 1), (137, .iconst 0, 1), (138, .iload_n 2, 1), (139, .iload_n 3, 1), (140, .invokevirtual 139, 3), (143, .ifCond .eq 7, 3), (146, .iconst 1, 1), (147, .goto 4, 3), (150, .iconst 0, 1), (151, .ireturn, 1), (152, .aload_n 0, 1), (153, .getfield 12, 3), (156, .iload_n 1, 1), (157, .iload_n 2, 1), (158, .iload_n 3, 1), (159, .iload 4, 2), (161, .invokevirtual 139, 3), (164, .ifCond .eq 7, 3), (167, .iconst 1, 1), (168, .goto 4, 3), (171, .iconst 0, 1), (172, .ireturn, 1)]
set_option maxRecDepth 100000 in
theorem kX6_holds : gchk cX6_holds tX6_holds = true := by decide +kernel
def tX6_taken : List (Nat × Instr × Nat) := [(0, .iload_n 2, 1), (1, .ifCond .lt 8, 3), (4, .iload_n 2, 1), (5, .iconst 2, 1), (6, .if_icmp .le 6, 3), (9, .bipush (-2), 2), (11, .ireturn, 1), (12, .aload_n 0, 1), (13, .iload_n 1, 1), (14, .invokevirtual 107, 3), (17, .ifCond .ne 6, 3), (20, .bipush (-11), 2), (22, .ireturn, 1), (23, .aload_n 0, 1), (24, .getfield 12, 3), (27, .getfield 110, 3), (30, .iload_n 1, 1), (31, .iaload, 1), (32, .istore_n 3, 1), (33, .iload_n 3, 1), (34, .iload_n 2, 1), (35, .if_icmp .eq 15, 3), (38, .iload_n 3, 1), (39, .iconst 1, 1), (40, .if_icmp .ne 7, 3), (43, .iload_n 2, 1), (44, .ifCond .eq 6, 3), (47, .bipush (-13), 2), (49, .ireturn, 1), (50, .aload_n 0, 1), (51, .getfield 12, 3), (54, .iload_n 1, 1), (55, .invokevirtual 133, 3), (58, .ireturn, 1)]
set_option maxRecDepth 100000 in
theorem kX6_taken : gchk cX6_taken tX6_taken = true := by decide +kernel
def tX6_tell : List (Nat × Instr × Nat) := [(0, .iload_n 1, 1), (1, .invokestatic 143, 3), (4, .ifCond .eq 14, 3), (7, .iload_n 2, 1), (8, .ifCond .lt 10, 3), (11, .iload_n 2, 1), (12, .sipush 1023, 3), (15, .if_icmp .le 6, 3), (18, .bipush (-2), 2), (20, .ireturn, 1), (21, .aload_n 0, 1), (22, .getfield 28, 3), (25, .getfield 87, 3), (28, .ifCond .eq 6, 3), (31, .bipush (-3), 2), (33, .ireturn, 1), (34, .aload_n 0, 1), (35, .getfield 35, 3), (38, .getfield 146, 3), (41, .bipush 12, 2), (43, .if_icmp .lt 6, 3), (46, .bipush (-4), 2), (48, .ireturn, 1), (49, .aload_n 0, 1), (50, .getfield 35, 3), (53, .iload_n 1, 1), (54, .iload_n 2, 1), (55, .invokevirtual 149, 3), (58, .istore_n 3, 1), (59, .aload_n 0, 1), (60, .getfield 28, 3), (63, .iload_n 1, 1), (64, .iload_n 2, 1), (65, .bipush 100, 2), (67, .iload_n 3, 1), (68, .iadd, 1), (69, .invokevirtual 153, 3), (72, .ireturn, 1)]
set_option maxRecDepth 100000 in
theorem kX6_tell : gchk cX6_tell tX6_tell = true := by decide +kernel
def tX6_step : List (Nat × Instr × Nat) := [(0, .aload_n 0, 1), (1, .getfield 28, 3), (4, .invokevirtual 157, 3), (7, .ireturn, 1)]
set_option maxRecDepth 100000 in
theorem kX6_step : gchk cX6_step tX6_step = true := by decide +kernel
def tX6_run : List (Nat × Instr × Nat) := [(0, .aload_n 0, 1), (1, .getfield 28, 3), (4, .invokevirtual 160, 3), (7, .ireturn, 1)]
set_option maxRecDepth 100000 in
theorem kX6_run : gchk cX6_run tX6_run = true := by decide +kernel
def tX6_level : List (Nat × Instr × Nat) := [(0, .aload_n 0, 1), (1, .getfield 28, 3), (4, .getfield 87, 3), (7, .ifCond .ne 13, 3), (10, .aload_n 0, 1), (11, .getfield 28, 3), (14, .getfield 104, 3), (17, .ifCond .eq 6, 3), (20, .bipush (-3), 2), (22, .ireturn, 1), (23, .aload_n 0, 1), (24, .getfield 35, 3), (27, .getfield 163, 3), (30, .bipush 8, 2), (32, .if_icmp .lt 6, 3), (35, .bipush (-4), 2), (37, .ireturn, 1), (38, .aload_n 0, 1), (39, .getfield 35, 3), (42, .aload_n 0, 1), (43, .getfield 28, 3), (46, .getfield 166, 3), (49, .aload_n 0, 1), (50, .getfield 12, 3), (53, .getfield 86, 3), (56, .invokevirtual 169, 3), (59, .ireturn, 1)]
set_option maxRecDepth 100000 in
theorem kX6_level : gchk cX6_level tX6_level = true := by decide +kernel
def tX6_undo : List (Nat × Instr × Nat) := [(0, .aload_n 0, 1), (1, .getfield 35, 3), (4, .getfield 163, 3), (7, .ifCond .gt 6, 3), (10, .bipush (-3), 2), (12, .ireturn, 1), (13, .aload_n 0, 1), (14, .getfield 35, 3), (17, .invokevirtual 172, 3), (20, .istore_n 1, 1), (21, .aload_n 0, 1), (22, .getfield 28, 3), (25, .getfield 166, 3), (28, .istore_n 2, 1), (29, .aload_n 0, 1), (30, .getfield 28, 3), (33, .aload_n 0, 1), (34, .getfield 35, 3), (37, .getfield 175, 3), (40, .iload_n 1, 1), (41, .iaload, 1), (42, .invokevirtual 178, 3), (45, .aload_n 0, 1), (46, .getfield 28, 3), (49, .aload_n 0, 1), (50, .getfield 12, 3), (53, .invokevirtual 98, 3), (56, .iconst 1, 1), (57, .aload_n 0, 1), (58, .getfield 35, 3), (61, .getfield 182, 3), (64, .iload_n 1, 1), (65, .iaload, 1), (66, .ishl, 1), (67, .ineg, 1), (68, .iand, 1), (69, .putfield 104, 3), (72, .iload_n 2, 1), (73, .aload_n 0, 1), (74, .getfield 28, 3), (77, .getfield 166, 3), (80, .isub, 1), (81, .ireturn, 1)]
set_option maxRecDepth 100000 in
theorem kX6_undo : gchk cX6_undo tX6_undo = true := by decide +kernel
def tX6_domain : List (Nat × Instr × Nat) := [(0, .iload_n 1, 1), (1, .invokestatic 143, 3), (4, .ifCond .eq 15, 3), (7, .aload_n 0, 1), (8, .getfield 28, 3), (11, .getfield 122, 3), (14, .iload_n 1, 1), (15, .iaload, 1), (16, .goto 5, 3), (19, .bipush (-2), 2), (21, .ireturn, 1)]
set_option maxRecDepth 100000 in
theorem kX6_domain : gchk cX6_domain tX6_domain = true := by decide +kernel
def tX6_trail : List (Nat × Instr × Nat) := [(0, .iload_n 2, 1), (1, .sipush 1000, 3), (4, .if_icmp .lt 23, 3), (7, .iload_n 2, 1), (8, .sipush 1080, 3), (11, .if_icmp .ge 16, 3), (14, .aload_n 0, 1), (15, .getfield 28, 3), (18, .iload_n 2, 1), (19, .sipush 1000, 3), (22, .isub, 1), (23, .invokevirtual 185, 3), (26, .ireturn, 1), (27, .iload_n 2, 1), (28, .ifCond .lt 8, 3), (31, .iload_n 2, 1), (32, .iconst 1, 1), (33, .if_icmp .le 6, 3), (36, .bipush (-2), 2), (38, .ireturn, 1), (39, .iload_n 1, 1), (40, .ifCond .lt 14, 3), (43, .iload_n 1, 1), (44, .aload_n 0, 1), (45, .getfield 28, 3), (48, .getfield 166, 3), (51, .if_icmp .lt 6, 3), (54, .bipush (-12), 2), (56, .ireturn, 1), (57, .iload_n 2, 1), (58, .ifCond .ne 15, 3), (61, .aload_n 0, 1), (62, .getfield 28, 3), (65, .getfield 188, 3), (68, .iload_n 1, 1), (69, .iaload, 1), (70, .goto 12, 3), (73, .aload_n 0, 1), (74, .getfield 28, 3), (77, .getfield 191, 3), (80, .iload_n 1, 1), (81, .iaload, 1), (82, .ireturn, 1)]
set_option maxRecDepth 100000 in
theorem kX6_trail : gchk cX6_trail tX6_trail = true := by decide +kernel
def tX6_decision : List (Nat × Instr × Nat) := [(0, .iload_n 2, 1), (1, .ifCond .lt 8, 3), (4, .iload_n 2, 1), (5, .iconst 1, 1), (6, .if_icmp .le 6, 3), (9, .bipush (-2), 2), (11, .ireturn, 1), (12, .iload_n 1, 1), (13, .ifCond .lt 14, 3), (16, .iload_n 1, 1), (17, .aload_n 0, 1), (18, .getfield 35, 3), (21, .getfield 146, 3), (24, .if_icmp .lt 6, 3), (27, .bipush (-12), 2), (29, .ireturn, 1), (30, .iload_n 2, 1), (31, .ifCond .ne 15, 3), (34, .aload_n 0, 1), (35, .getfield 35, 3), (38, .getfield 194, 3), (41, .iload_n 1, 1), (42, .iaload, 1), (43, .goto 12, 3), (46, .aload_n 0, 1), (47, .getfield 35, 3), (50, .getfield 195, 3), (53, .iload_n 1, 1), (54, .iaload, 1), (55, .ireturn, 1)]
set_option maxRecDepth 100000 in
theorem kX6_decision : gchk cX6_decision tX6_decision = true := by decide +kernel
def tX6_why : List (Nat × Instr × Nat) := [(0, .iload_n 1, 1), (1, .iconst (-1), 1), (2, .if_icmp .ne 7, 3), (5, .iconst 1, 1), (6, .goto 4, 3), (9, .iconst 0, 1), (10, .istore_n 3, 1), (11, .iload_n 3, 1), (12, .ifCond .ne 20, 3), (15, .iload_n 1, 1), (16, .invokestatic 143, 3), (19, .ifCond .eq 10, 3), (22, .iload_n 2, 1), (23, .invokestatic 136, 3), (26, .ifCond .ne 6, 3), (29, .bipush (-2), 2), (31, .ireturn, 1), (32, .aload_n 0, 1), (33, .getfield 35, 3), (36, .invokevirtual 198, 3), (39, .istore 4, 2), (41, .aload_n 0, 1), (42, .iload 4, 2), (44, .iload_n 1, 1), (45, .iload_n 2, 1), (46, .invokevirtual 199, 3), (49, .ifCond .ne 5, 3), (52, .iconst (-1), 1), (53, .ireturn, 1), (54, .iconst 0, 1), (55, .istore 5, 2), (57, .iload 5, 2), (59, .aload_n 0, 1), (60, .getfield 35, 3), (63, .getfield 146, 3), (66, .if_icmp .ge 35, 3), (69, .iload 4, 2), (71, .iconst 1, 1), (72, .iload 5, 2), (74, .ishl, 1), (75, .iconst (-1), 1), (76, .ixor, 1), (77, .iand, 1), (78, .istore 6, 2), (80, .aload_n 0, 1), (81, .iload 6, 2), (83, .iload_n 1, 1), (84, .iload_n 2, 1), (85, .invokevirtual 199, 3), (88, .ifCond .eq 7, 3), (91, .iload 6, 2), (93, .istore 4, 2), (95, .iinc 5 1, 3), (98, .goto (-41), 3), (101, .iload 4, 2), (103, .ireturn, 1)]
set_option maxRecDepth 100000 in
theorem kX6_why : gchk cX6_why tX6_why = true := by decide +kernel
def tX6_mixed : List (Nat × Instr × Nat) := [(0, .iload_n 2, 1), (1, .invokestatic 143, 3), (4, .ifCond .ne 6, 3), (7, .bipush (-2), 2), (9, .ireturn, 1), (10, .aload_n 0, 1), (11, .getfield 39, 3), (14, .aload_n 0, 1), (15, .getfield 35, 3), (18, .aload_n 0, 1), (19, .getfield 35, 3), (22, .invokevirtual 198, 3), (25, .aload_n 0, 1), (26, .getfield 12, 3), (29, .invokevirtual 98, 3), (32, .invokevirtual 203, 3), (35, .aload_n 0, 1), (36, .getfield 39, 3), (39, .iload_n 1, 1), (40, .invokevirtual 207, 3), (43, .aload_n 0, 1), (44, .getfield 39, 3), (47, .invokevirtual 160, 3), (50, .pop, 1), (51, .aload_n 0, 1), (52, .getfield 39, 3), (55, .invokevirtual 210, 3), (58, .aload_n 0, 1), (59, .getfield 39, 3), (62, .getfield 87, 3), (65, .ifCond .eq 7, 3), (68, .iconst (-1), 1), (69, .goto 12, 3), (72, .aload_n 0, 1), (73, .getfield 39, 3), (76, .getfield 122, 3), (79, .iload_n 2, 1), (80, .iaload, 1), (81, .ireturn, 1)]
set_option maxRecDepth 100000 in
theorem kX6_mixed : gchk cX6_mixed tX6_mixed = true := by decide +kernel
def tX6_search : List (Nat × Instr × Nat) := [(0, .iload_n 1, 1), (1, .iload_n 2, 1), (2, .invokestatic 213, 3), (5, .ifCond .eq 23, 3), (8, .iload_n 3, 1), (9, .ifCond .lt 19, 3), (12, .iload_n 3, 1), (13, .iconst 1, 1), (14, .if_icmp .gt 14, 3), (17, .iload 4, 2), (19, .ifCond .lt 9, 3), (22, .iload 4, 2), (24, .iconst 3, 1), (25, .if_icmp .le 6, 3), (28, .bipush (-2), 2), (30, .ireturn, 1), (31, .aload_n 0, 1), (32, .getfield 39, 3), (35, .aload_n 0, 1), (36, .getfield 28, 3), (39, .invokevirtual 217, 3), (42, .aload_n 0, 1), (43, .getfield 50, 3), (46, .iload_n 1, 1), (47, .iload_n 2, 1), (48, .iload_n 3, 1), (49, .iconst 1, 1), (50, .if_icmp .ne 7, 3), (53, .iconst 1, 1), (54, .goto 4, 3), (57, .iconst 0, 1), (58, .bipush 100, 2), (60, .iconst 0, 1), (61, .invokevirtual 221, 3), (64, .aload_n 0, 1), (65, .getfield 50, 3), (68, .getfield 225, 3), (71, .ifCond .eq 6, 3), (74, .bipush (-6), 2), (76, .ireturn, 1), (77, .iload 4, 2), (79, .tableswitch 63 0 2 #[25, 47, 55], 25), (104, .aload_n 0, 1), (105, .getfield 50, 3), (108, .getfield 228, 3), (111, .ifCond .le 13, 3), (114, .aload_n 0, 1), (115, .getfield 50, 3), (118, .invokevirtual 231, 3), (121, .goto 4, 3), (124, .iconst (-1), 1), (125, .ireturn, 1), (126, .aload_n 0, 1), (127, .getfield 50, 3), (130, .getfield 234, 3), (133, .ireturn, 1), (134, .aload_n 0, 1), (135, .getfield 50, 3), (138, .getfield 237, 3), (141, .ireturn, 1), (142, .aload_n 0, 1), (143, .getfield 50, 3), (146, .getfield 240, 3), (149, .ireturn, 1)]
set_option maxRecDepth 100000 in
theorem kX6_search : gchk cX6_search tX6_search = true := by decide +kernel
def tX6_solutions : List (Nat × Instr × Nat) := [(0, .aload_n 0, 1), (1, .getfield 39, 3), (4, .aload_n 0, 1), (5, .getfield 28, 3), (8, .invokevirtual 217, 3), (11, .aload_n 0, 1), (12, .getfield 50, 3), (15, .iconst 0, 1), (16, .iconst 0, 1), (17, .iconst 0, 1), (18, .sipush 300, 3), (21, .iconst 1, 1), (22, .invokevirtual 221, 3), (25, .aload_n 0, 1), (26, .getfield 50, 3), (29, .getfield 225, 3), (32, .ifCond .eq 9, 3), (35, .ldc2_w 243, 3), (38, .goto 11, 3), (41, .aload_n 0, 1), (42, .getfield 50, 3), (45, .getfield 228, 3), (48, .i2l, 1), (49, .lreturn, 1)]
set_option maxRecDepth 100000 in
theorem kX6_solutions : gchk cX6_solutions tX6_solutions = true := by decide +kernel
def tX6_reach : List (Nat × Instr × Nat) := [(0, .iload_n 1, 1), (1, .invokestatic 143, 3), (4, .ifCond .eq 12, 3), (7, .iload_n 2, 1), (8, .ifCond .lt 8, 3), (11, .iload_n 2, 1), (12, .iconst 1, 1), (13, .if_icmp .le 6, 3), (16, .bipush (-2), 2), (18, .ireturn, 1), (19, .iconst 0, 1), (20, .istore_n 3, 1), (21, .iload_n 3, 1), (22, .bipush 10, 2), (24, .if_icmp .ge 118, 3), (27, .iload_n 2, 1), (28, .ifCond .ne 7, 3), (31, .iload_n 3, 1), (32, .goto 7, 3), (35, .bipush 9, 2), (37, .iload_n 3, 1), (38, .isub, 1), (39, .istore 4, 2), (41, .aload_n 0, 1), (42, .getfield 28, 3), (45, .getfield 87, 3), (48, .ifCond .ne 88, 3), (51, .aload_n 0, 1), (52, .getfield 28, 3), (55, .getfield 122, 3), (58, .iload_n 1, 1), (59, .iaload, 1), (60, .iload 4, 2), (62, .ishr, 1), (63, .iconst 1, 1), (64, .iand, 1), (65, .ifCond .ne 6, 3), (68, .goto 68, 3), (71, .aload_n 0, 1), (72, .getfield 39, 3), (75, .aload_n 0, 1), (76, .getfield 28, 3), (79, .invokevirtual 217, 3), (82, .aload_n 0, 1), (83, .getfield 39, 3), (86, .iload_n 1, 1), (87, .iconst 1, 1), (88, .iload 4, 2), (90, .ishl, 1), (91, .bipush 100, 2), (93, .invokevirtual 153, 3), (96, .pop, 1), (97, .aload_n 0, 1), (98, .getfield 50, 3), (101, .iconst 0, 1), (102, .iconst 0, 1), (103, .iconst 0, 1), (104, .bipush 100, 2), (106, .iconst 0, 1), (107, .invokevirtual 221, 3), (110, .aload_n 0, 1), (111, .getfield 50, 3), (114, .getfield 225, 3), (117, .ifCond .eq 6, 3), (120, .bipush (-6), 2), (122, .ireturn, 1), (123, .aload_n 0, 1), (124, .getfield 50, 3), (127, .getfield 228, 3), (130, .ifCond .le 6, 3), (133, .iload 4, 2), (135, .ireturn, 1), (136, .iinc 3 1, 3), (139, .goto (-118), 3), (142, .iconst (-1), 1), (143, .ireturn, 1)]
set_option maxRecDepth 100000 in
theorem kX6_reach : gchk cX6_reach tX6_reach = true := by decide +kernel
def tX6_tells : List (Nat × Instr × Nat) := [(0, .iload_n 1, 1), (1, .invokestatic 245, 3), (4, .ifCond .eq 12, 3), (7, .iload_n 2, 1), (8, .ifCond .lt 8, 3), (11, .iload_n 2, 1), (12, .iconst 2, 1), (13, .if_icmp .le 6, 3), (16, .bipush (-2), 2), (18, .ireturn, 1), (19, .aload_n 0, 1), (20, .getfield 62, 3), (23, .iload_n 1, 1), (24, .aaload, 1), (25, .astore_n 3, 1), (26, .aload_n 3, 1), (27, .invokevirtual 248, 3), (30, .ifCond .eq 6, 3), (33, .bipush (-11), 2), (35, .ireturn, 1), (36, .aload_n 0, 1), (37, .aload_n 3, 1), (38, .invokevirtual 252, 3), (41, .ifCond .ne 6, 3), (44, .bipush (-2), 2), (46, .ireturn, 1), (47, .iload_n 2, 1), (48, .lookupswitch 45 #[(0, 28), (1, 33)], 28), (76, .aload_n 0, 1), (77, .invokevirtual 256, 3), (80, .ireturn, 1), (81, .aload_n 0, 1), (82, .getfield 12, 3), (85, .aload_n 0, 1), (86, .getfield 67, 3), (89, .invokevirtual 259, 3), (92, .ireturn, 1), (93, .aload_n 0, 1), (94, .getfield 28, 3), (97, .aload_n 0, 1), (98, .getfield 67, 3), (101, .invokevirtual 263, 3), (104, .ireturn, 1)]
set_option maxRecDepth 100000 in
theorem kX6_tells : gchk cX6_tells tX6_tells = true := by decide +kernel
def tX6_film : List (Nat × Instr × Nat) := [(0, .iload_n 1, 1), (1, .invokestatic 245, 3), (4, .ifCond .eq 11, 3), (7, .iload_n 2, 1), (8, .iload_n 3, 1), (9, .invokestatic 213, 3), (12, .ifCond .ne 6, 3), (15, .bipush (-2), 2), (17, .ireturn, 1), (18, .aload_n 0, 1), (19, .getfield 39, 3), (22, .aload_n 0, 1), (23, .getfield 28, 3), (26, .invokevirtual 217, 3), (29, .aload_n 0, 1), (30, .getfield 50, 3), (33, .iload_n 2, 1), (34, .iload_n 3, 1), (35, .iconst 0, 1), (36, .bipush 100, 2), (38, .iconst 0, 1), (39, .invokevirtual 221, 3), (42, .aload_n 0, 1), (43, .getfield 50, 3), (46, .getfield 225, 3), (49, .ifCond .eq 6, 3), (52, .bipush (-6), 2), (54, .ireturn, 1), (55, .aload_n 0, 1), (56, .getfield 50, 3), (59, .getfield 228, 3), (62, .ifCond .ne 5, 3), (65, .iconst (-1), 1), (66, .ireturn, 1), (67, .aload_n 0, 1), (68, .getfield 62, 3), (71, .iload_n 1, 1), (72, .aaload, 1), (73, .astore 4, 2), (75, .aload 4, 2), (77, .iconst 0, 1), (78, .bipush 8, 2), (80, .invokevirtual 266, 3), (83, .iconst 0, 1), (84, .istore 5, 2), (86, .iload 5, 2), (88, .bipush 8, 2), (90, .if_icmp .ge 27, 3), (93, .aload 4, 2), (95, .getfield 269, 3), (98, .iload 5, 2), (100, .aload_n 0, 1), (101, .getfield 50, 3), (104, .getfield 272, 3), (107, .iload 5, 2), (109, .iaload, 1), (110, .iastore, 1), (111, .iinc 5 1, 3), (114, .goto (-28), 3), (117, .bipush 8, 2), (119, .ireturn, 1)]
set_option maxRecDepth 100000 in
theorem kX6_film : gchk cX6_film tX6_film = true := by decide +kernel
def tX6_image : List (Nat × Instr × Nat) := [(0, .aload_n 0, 1), (1, .getfield 54, 3), (4, .aload_n 0, 1), (5, .getfield 28, 3), (8, .invokevirtual 217, 3), (11, .aload_n 0, 1), (12, .getfield 57, 3), (15, .aload_n 0, 1), (16, .getfield 35, 3), (19, .invokevirtual 275, 3), (22, .aload_n 0, 1), (23, .aload_n 0, 1), (24, .getfield 12, 3), (27, .getfield 86, 3), (30, .putfield 71, 3), (33, .aload_n 0, 1), (34, .iconst 1, 1), (35, .putfield 75, 3), (38, .aload_n 0, 1), (39, .getfield 28, 3), (42, .getfield 166, 3), (45, .ireturn, 1)]
set_option maxRecDepth 100000 in
theorem kX6_image : gchk cX6_image tX6_image = true := by decide +kernel
def tX6_back : List (Nat × Instr × Nat) := [(0, .aload_n 0, 1), (1, .getfield 75, 3), (4, .ifCond .ne 6, 3), (7, .bipush (-3), 2), (9, .ireturn, 1), (10, .aload_n 0, 1), (11, .getfield 28, 3), (14, .aload_n 0, 1), (15, .getfield 54, 3), (18, .invokevirtual 217, 3), (21, .aload_n 0, 1), (22, .getfield 35, 3), (25, .aload_n 0, 1), (26, .getfield 57, 3), (29, .invokevirtual 275, 3), (32, .aload_n 0, 1), (33, .getfield 12, 3), (36, .aload_n 0, 1), (37, .getfield 71, 3), (40, .putfield 86, 3), (43, .aload_n 0, 1), (44, .getfield 28, 3), (47, .getfield 166, 3), (50, .ireturn, 1)]
set_option maxRecDepth 100000 in
theorem kX6_back : gchk cX6_back tX6_back = true := by decide +kernel
def tX6_count : List (Nat × Instr × Nat) := [(0, .iload_n 1, 1), (1, .tableswitch 134 0 8 #[51, 59, 67, 75, 83, 94, 102, 110, 118], 51), (52, .aload_n 0, 1), (53, .getfield 12, 3), (56, .getfield 86, 3), (59, .ireturn, 1), (60, .aload_n 0, 1), (61, .getfield 28, 3), (64, .getfield 166, 3), (67, .ireturn, 1), (68, .aload_n 0, 1), (69, .getfield 35, 3), (72, .getfield 146, 3), (75, .ireturn, 1), (76, .aload_n 0, 1), (77, .getfield 35, 3), (80, .getfield 163, 3), (83, .ireturn, 1), (84, .aload_n 0, 1), (85, .getfield 28, 3), (88, .getfield 104, 3), (91, .invokestatic 278, 3), (94, .ireturn, 1), (95, .aload_n 0, 1), (96, .getfield 28, 3), (99, .getfield 283, 3), (102, .ireturn, 1), (103, .aload_n 0, 1), (104, .getfield 28, 3), (107, .invokevirtual 286, 3), (110, .ireturn, 1), (111, .aload_n 0, 1), (112, .getfield 19, 3), (115, .getfield 83, 3), (118, .ireturn, 1), (119, .aload_n 0, 1), (120, .getfield 28, 3), (123, .getfield 87, 3), (126, .ifCond .eq 7, 3), (129, .iconst 1, 1), (130, .goto 4, 3), (133, .iconst 0, 1), (134, .ireturn, 1), (135, .bipush (-2), 2), (137, .ireturn, 1)]
set_option maxRecDepth 100000 in
theorem kX6_count : gchk cX6_count tX6_count = true := by decide +kernel
def tX6_sheet : List (Nat × Instr × Nat) := [(0, .iload_n 1, 1), (1, .invokestatic 245, 3), (4, .ifCond .eq 13, 3), (7, .iload_n 2, 1), (8, .iconst (-1), 1), (9, .if_icmp .lt 8, 3), (12, .iload_n 2, 1), (13, .iconst 2, 1), (14, .if_icmp .le 6, 3), (17, .bipush (-2), 2), (19, .ireturn, 1), (20, .iload_n 2, 1), (21, .iconst (-1), 1), (22, .if_icmp .eq 12, 3), (25, .iload_n 3, 1), (26, .bipush 40, 2), (28, .if_icmp .le 6, 3), (31, .bipush (-2), 2), (33, .ireturn, 1), (34, .iload_n 2, 1), (35, .iconst (-1), 1), (36, .if_icmp .eq 10, 3), (39, .iload_n 3, 1), (40, .ifCond .ge 6, 3), (43, .bipush (-14), 2), (45, .ireturn, 1), (46, .aload_n 0, 1), (47, .getfield 62, 3), (50, .iload_n 1, 1), (51, .aaload, 1), (52, .iload_n 2, 1), (53, .iload_n 3, 1), (54, .invokevirtual 266, 3), (57, .iconst 1, 1), (58, .ireturn, 1)]
set_option maxRecDepth 100000 in
theorem kX6_sheet : gchk cX6_sheet tX6_sheet = true := by decide +kernel
def tX6_put : List (Nat × Instr × Nat) := [(0, .iload_n 1, 1), (1, .invokestatic 245, 3), (4, .ifCond .ne 6, 3), (7, .bipush (-2), 2), (9, .ireturn, 1), (10, .aload_n 0, 1), (11, .getfield 62, 3), (14, .iload_n 1, 1), (15, .aaload, 1), (16, .astore 4, 2), (18, .aload 4, 2), (20, .invokevirtual 248, 3), (23, .ifCond .eq 6, 3), (26, .bipush (-11), 2), (28, .ireturn, 1), (29, .aload 4, 2), (31, .iload_n 2, 1), (32, .invokevirtual 289, 3), (35, .ifCond .ne 6, 3), (38, .bipush (-12), 2), (40, .ireturn, 1), (41, .aload 4, 2), (43, .getfield 269, 3), (46, .iload_n 2, 1), (47, .aload 4, 2), (49, .iload_n 3, 1), (50, .invokevirtual 292, 3), (53, .iastore, 1), (54, .iconst 1, 1), (55, .ireturn, 1)]
set_option maxRecDepth 100000 in
theorem kX6_put : gchk cX6_put tX6_put = true := by decide +kernel
def tX6_item : List (Nat × Instr × Nat) := [(0, .iload_n 1, 1), (1, .invokestatic 245, 3), (4, .ifCond .eq 16, 3), (7, .aload_n 0, 1), (8, .getfield 62, 3), (11, .iload_n 1, 1), (12, .aaload, 1), (13, .iload_n 2, 1), (14, .invokevirtual 289, 3), (17, .ifCond .ne 7, 3), (20, .ldc_w 295, 3), (23, .ireturn, 1), (24, .aload_n 0, 1), (25, .getfield 62, 3), (28, .iload_n 1, 1), (29, .aaload, 1), (30, .getfield 269, 3), (33, .iload_n 2, 1), (34, .iaload, 1), (35, .ireturn, 1)]
set_option maxRecDepth 100000 in
theorem kX6_item : gchk cX6_item tX6_item = true := by decide +kernel
def tX6_copy : List (Nat × Instr × Nat) := [(0, .iload_n 1, 1), (1, .invokestatic 245, 3), (4, .ifCond .eq 10, 3), (7, .iload_n 3, 1), (8, .invokestatic 245, 3), (11, .ifCond .ne 6, 3), (14, .bipush (-2), 2), (16, .ireturn, 1), (17, .aload_n 0, 1), (18, .getfield 62, 3), (21, .iload_n 1, 1), (22, .aaload, 1), (23, .astore 6, 2), (25, .aload_n 0, 1), (26, .getfield 62, 3), (29, .iload_n 3, 1), (30, .aaload, 1), (31, .astore 7, 2), (33, .aload 6, 2), (35, .invokevirtual 248, 3), (38, .ifCond .ne 11, 3), (41, .aload 7, 2), (43, .invokevirtual 248, 3), (46, .ifCond .eq 6, 3), (49, .bipush (-11), 2), (51, .ireturn, 1), (52, .aload 6, 2), (54, .getfield 296, 3), (57, .aload 7, 2), (59, .getfield 296, 3), (62, .if_icmp .eq 6, 3), (65, .bipush (-13), 2), (67, .ireturn, 1), (68, .aload 6, 2), (70, .iload_n 2, 1), (71, .iload 5, 2), (73, .invokevirtual 299, 3), (76, .ifCond .eq 15, 3), (79, .aload 7, 2), (81, .iload 4, 2), (83, .iload 5, 2), (85, .invokevirtual 299, 3), (88, .ifCond .ne 6, 3), (91, .bipush (-12), 2), (93, .ireturn, 1), (94, .aload 6, 2), (96, .getfield 269, 3), (99, .iload_n 2, 1), (100, .aload 7, 2), (102, .getfield 269, 3), (105, .iload 4, 2), (107, .iload 5, 2), (109, .invokestatic 302, 3), (112, .iload 5, 2), (114, .ireturn, 1)]
set_option maxRecDepth 100000 in
theorem kX6_copy : gchk cX6_copy tX6_copy = true := by decide +kernel
def tX6_load : List (Nat × Instr × Nat) := [(0, .iload_n 1, 1), (1, .invokestatic 245, 3), (4, .ifCond .eq 24, 3), (7, .iload_n 2, 1), (8, .ifCond .lt 20, 3), (11, .iload_n 2, 1), (12, .iconst 2, 1), (13, .if_icmp .gt 15, 3), (16, .iload 4, 2), (18, .ifCond .lt 10, 3), (21, .iload 4, 2), (23, .bipush 8, 2), (25, .if_icmp .le 6, 3), (28, .bipush (-2), 2), (30, .ireturn, 1), (31, .aload_n 0, 1), (32, .getfield 62, 3), (35, .iload_n 1, 1), (36, .aaload, 1), (37, .astore 5, 2), (39, .aload 5, 2), (41, .invokevirtual 248, 3), (44, .ifCond .eq 6, 3), (47, .bipush (-11), 2), (49, .ireturn, 1), (50, .aload 5, 2), (52, .getfield 296, 3), (55, .iload_n 2, 1), (56, .if_icmp .eq 6, 3), (59, .bipush (-13), 2), (61, .ireturn, 1), (62, .iconst 0, 1), (63, .istore 6, 2), (65, .iconst 0, 1), (66, .istore 7, 2), (68, .iload 7, 2), (70, .iload 4, 2), (72, .if_icmp .ge 70, 3), (75, .iload_n 3, 1), (76, .iconst 2, 1), (77, .iload 7, 2), (79, .imul, 1), (80, .iadd, 1), (81, .istore 8, 2), (83, .aload 5, 2), (85, .iload 8, 2), (87, .invokevirtual 289, 3), (90, .ifCond .eq 15, 3), (93, .aload 5, 2), (95, .iload 8, 2), (97, .iconst 1, 1), (98, .iadd, 1), (99, .invokevirtual 289, 3), (102, .ifCond .ne 6, 3), (105, .bipush (-12), 2), (107, .ireturn, 1), (108, .aload_n 0, 1), (109, .aload 5, 2), (111, .getfield 269, 3), (114, .iload 8, 2), (116, .iaload, 1), (117, .aload 5, 2), (119, .getfield 269, 3), (122, .iload 8, 2), (124, .iconst 1, 1), (125, .iadd, 1), (126, .iaload, 1), (127, .invokevirtual 308, 3), (130, .ifCond .lt 6, 3), (133, .iinc 6 1, 3), (136, .iinc 7 1, 3), (139, .goto (-71), 3), (142, .iload 6, 2), (144, .ireturn, 1)]
set_option maxRecDepth 100000 in
theorem kX6_load : gchk cX6_load tX6_load = true := by decide +kernel
def tX6_isVariable : List (Nat × Instr × Nat) := [(0, .iload_n 0, 1), (1, .ifCond .lt 13, 3), (4, .iload_n 0, 1), (5, .bipush 8, 2), (7, .if_icmp .ge 7, 3), (10, .iconst 1, 1), (11, .goto 4, 3), (14, .iconst 0, 1), (15, .ireturn, 1)]
set_option maxRecDepth 100000 in
theorem kX6_isVariable : gchk cX6_isVariable tX6_isVariable = true := by decide +kernel
def tX6_isValue : List (Nat × Instr × Nat) := [(0, .iload_n 0, 1), (1, .ifCond .lt 13, 3), (4, .iload_n 0, 1), (5, .bipush 10, 2), (7, .if_icmp .ge 7, 3), (10, .iconst 1, 1), (11, .goto 4, 3), (14, .iconst 0, 1), (15, .ireturn, 1)]
set_option maxRecDepth 100000 in
theorem kX6_isValue : gchk cX6_isValue tX6_isValue = true := by decide +kernel
def tX6_isSheet : List (Nat × Instr × Nat) := [(0, .iload_n 0, 1), (1, .ifCond .lt 12, 3), (4, .iload_n 0, 1), (5, .iconst 4, 1), (6, .if_icmp .ge 7, 3), (9, .iconst 1, 1), (10, .goto 4, 3), (13, .iconst 0, 1), (14, .ireturn, 1)]
set_option maxRecDepth 100000 in
theorem kX6_isSheet : gchk cX6_isSheet tX6_isSheet = true := by decide +kernel
def tX6_isChoice : List (Nat × Instr × Nat) := [(0, .iload_n 0, 1), (1, .ifCond .lt 21, 3), (4, .iload_n 0, 1), (5, .iconst 4, 1), (6, .if_icmp .ge 16, 3), (9, .iload_n 1, 1), (10, .ifCond .lt 12, 3), (13, .iload_n 1, 1), (14, .iconst 3, 1), (15, .if_icmp .ge 7, 3), (18, .iconst 1, 1), (19, .goto 4, 3), (22, .iconst 0, 1), (23, .ireturn, 1)]
set_option maxRecDepth 100000 in
theorem kX6_isChoice : gchk cX6_isChoice tX6_isChoice = true := by decide +kernel
def tX6_isRule : List (Nat × Instr × Nat) := [(0, .iload_n 1, 1), (1, .ifCond .lt 18, 3), (4, .iload_n 1, 1), (5, .aload_n 0, 1), (6, .getfield 12, 3), (9, .getfield 86, 3), (12, .if_icmp .ge 7, 3), (15, .iconst 1, 1), (16, .goto 4, 3), (19, .iconst 0, 1), (20, .ireturn, 1)]
set_option maxRecDepth 100000 in
theorem kX6_isRule : gchk cX6_isRule tX6_isRule = true := by decide +kernel
def tX6_isIdle : List (Nat × Instr × Nat) := [(0, .aload_n 0, 1), (1, .getfield 39, 3), (4, .aload_n 0, 1), (5, .getfield 35, 3), (8, .aload_n 0, 1), (9, .getfield 35, 3), (12, .invokevirtual 198, 3), (15, .aload_n 0, 1), (16, .getfield 12, 3), (19, .invokevirtual 98, 3), (22, .invokevirtual 203, 3), (25, .aload_n 0, 1), (26, .getfield 39, 3), (29, .invokevirtual 160, 3), (32, .pop, 1), (33, .aload_n 0, 1), (34, .getfield 42, 3), (37, .aload_n 0, 1), (38, .getfield 35, 3), (41, .aload_n 0, 1), (42, .getfield 35, 3), (45, .invokevirtual 198, 3), (48, .aload_n 0, 1), (49, .getfield 12, 3), (52, .invokevirtual 98, 3), (55, .iconst 1, 1), (56, .iload_n 1, 1), (57, .ishl, 1), (58, .iconst (-1), 1), (59, .ixor, 1), (60, .iand, 1), (61, .invokevirtual 203, 3), (64, .aload_n 0, 1), (65, .getfield 42, 3), (68, .invokevirtual 160, 3), (71, .pop, 1), (72, .aload_n 0, 1), (73, .getfield 39, 3), (76, .aload_n 0, 1), (77, .getfield 42, 3), (80, .invokevirtual 311, 3), (83, .ireturn, 1)]
set_option maxRecDepth 100000 in
theorem kX6_isIdle : gchk cX6_isIdle tX6_isIdle = true := by decide +kernel
def tX6_isGone : List (Nat × Instr × Nat) := [(0, .aload_n 0, 1), (1, .getfield 39, 3), (4, .aload_n 0, 1), (5, .getfield 35, 3), (8, .iload_n 1, 1), (9, .aload_n 0, 1), (10, .getfield 12, 3), (13, .invokevirtual 98, 3), (16, .invokevirtual 203, 3), (19, .aload_n 0, 1), (20, .getfield 39, 3), (23, .invokevirtual 160, 3), (26, .pop, 1), (27, .aload_n 0, 1), (28, .getfield 39, 3), (31, .getfield 87, 3), (34, .ifCond .ne 26, 3), (37, .iload_n 2, 1), (38, .invokestatic 143, 3), (41, .ifCond .eq 23, 3), (44, .aload_n 0, 1), (45, .getfield 39, 3), (48, .getfield 122, 3), (51, .iload_n 2, 1), (52, .iaload, 1), (53, .iload_n 3, 1), (54, .ishr, 1), (55, .iconst 1, 1), (56, .iand, 1), (57, .ifCond .ne 7, 3), (60, .iconst 1, 1), (61, .goto 4, 3), (64, .iconst 0, 1), (65, .ireturn, 1)]
set_option maxRecDepth 100000 in
theorem kX6_isGone : gchk cX6_isGone tX6_isGone = true := by decide +kernel
def tX6_readValues : List (Nat × Instr × Nat) := [(0, .aload_n 1, 1), (1, .getfield 315, 3), (4, .bipush 8, 2), (6, .if_icmp .eq 5, 3), (9, .iconst 0, 1), (10, .ireturn, 1), (11, .iconst 0, 1), (12, .istore_n 2, 1), (13, .iload_n 2, 1), (14, .bipush 8, 2), (16, .if_icmp .ge 35, 3), (19, .aload_n 0, 1), (20, .getfield 67, 3), (23, .iload_n 2, 1), (24, .aload_n 1, 1), (25, .getfield 269, 3), (28, .iload_n 2, 1), (29, .iaload, 1), (30, .iastore, 1), (31, .aload_n 0, 1), (32, .getfield 67, 3), (35, .iload_n 2, 1), (36, .iaload, 1), (37, .invokestatic 136, 3), (40, .ifCond .ne 5, 3), (43, .iconst 0, 1), (44, .ireturn, 1), (45, .iinc 2 1, 3), (48, .goto (-35), 3), (51, .iconst 1, 1), (52, .ireturn, 1)]
set_option maxRecDepth 100000 in
theorem kX6_readValues : gchk cX6_readValues tX6_readValues = true := by decide +kernel
def tX6_choicesThatFind : List (Nat × Instr × Nat) := [(0, .aload_n 0, 1), (1, .getfield 28, 3), (4, .aload_n 0, 1), (5, .getfield 67, 3), (8, .invokevirtual 263, 3), (11, .bipush 8, 2), (13, .if_icmp .ge 5, 3), (16, .iconst 0, 1), (17, .ireturn, 1), (18, .iconst 0, 1), (19, .istore_n 1, 1), (20, .iconst 0, 1), (21, .istore_n 2, 1), (22, .iload_n 2, 1), (23, .bipush 12, 2), (25, .if_icmp .ge 77, 3), (28, .aload_n 0, 1), (29, .getfield 39, 3), (32, .aload_n 0, 1), (33, .getfield 28, 3), (36, .invokevirtual 217, 3), (39, .aload_n 0, 1), (40, .getfield 50, 3), (43, .iload_n 2, 1), (44, .iconst 3, 1), (45, .idiv, 1), (46, .iload_n 2, 1), (47, .iconst 3, 1), (48, .irem, 1), (49, .iconst 0, 1), (50, .bipush 100, 2), (52, .iconst 0, 1), (53, .invokevirtual 221, 3), (56, .aload_n 0, 1), (57, .getfield 50, 3), (60, .getfield 225, 3), (63, .ifCond .ne 33, 3), (66, .aload_n 0, 1), (67, .getfield 50, 3), (70, .getfield 228, 3), (73, .ifCond .le 23, 3), (76, .aload_n 0, 1), (77, .getfield 50, 3), (80, .aload_n 0, 1), (81, .getfield 67, 3), (84, .invokevirtual 316, 3), (87, .ifCond .eq 9, 3), (90, .iload_n 1, 1), (91, .iconst 1, 1), (92, .iload_n 2, 1), (93, .ishl, 1), (94, .ior, 1), (95, .istore_n 1, 1), (96, .iinc 2 1, 3), (99, .goto (-77), 3), (102, .iload_n 1, 1), (103, .ireturn, 1)]
set_option maxRecDepth 100000 in
theorem kX6_choicesThatFind : gchk cX6_choicesThatFind tX6_choicesThatFind = true := by decide +kernel
end
section
def tX7_in : List (Nat × Instr × Nat) := [(0, .lload_n 0, 1), (1, .lload_n 2, 1), (2, .lcmp, 1), (3, .ifCond .lt 14, 3), (6, .lload_n 0, 1), (7, .lload 4, 2), (9, .lcmp, 1), (10, .ifCond .gt 7, 3), (13, .iconst 1, 1), (14, .goto 4, 3), (17, .iconst 0, 1), (18, .ireturn, 1)]
set_option maxRecDepth 100000 in
theorem kX7_in : gchk cX7_in tX7_in = true := by decide +kernel
def tX7_bitsOf : List (Nat × Instr × Nat) := [(0, .iconst 0, 1), (1, .istore_n 1, 1), (2, .iload_n 0, 1), (3, .istore_n 2, 1), (4, .iload_n 2, 1), (5, .ifCond .eq 15, 3), (8, .iinc 1 1, 3), (11, .iload_n 2, 1), (12, .iload_n 2, 1), (13, .iconst 1, 1), (14, .isub, 1), (15, .iand, 1), (16, .istore_n 2, 1), (17, .goto (-13), 3), (20, .iload_n 1, 1), (21, .ireturn, 1)]
set_option maxRecDepth 100000 in
theorem kX7_bitsOf : gchk cX7_bitsOf tX7_bitsOf = true := by decide +kernel
def tX7_init : List (Nat × Instr × Nat) := [(0, .aload_n 0, 1), (1, .invokespecial 7, 3), (4, .aload_n 0, 1), (5, .bipush 8, 2), (7, .newarray .int, 2), (9, .putfield 13, 3), (12, .aload_n 0, 1), (13, .bipush 24, 2), (15, .newarray .int, 2), (17, .putfield 17, 3), (20, .aload_n 0, 1), (21, .bipush 24, 2), (23, .newarray .int, 2), (25, .putfield 20, 3), (28, .aload_n 0, 1), (29, .sipush 16000, 3), (32, .newarray .boolean, 2), (34, .putfield 23, 3), (37, .aload_n 0, 1), (38, .bipush 64, 2), (40, .newarray .int, 2), (42, .putfield 27, 3), (45, .aload_n 0, 1), (46, .bipush 24, 2), (48, .newarray .boolean, 2), (50, .putfield 30, 3), (53, .aload_n 0, 1), (54, .bipush 12, 2), (56, .newarray .int, 2), (58, .putfield 33, 3), (61, .aload_n 0, 1), (62, .bipush 12, 2), (64, .newarray .int, 2), (66, .putfield 36, 3), (69, .aload_n 0, 1), (70, .bipush 80, 2), (72, .newarray .int, 2), (74, .putfield 39, 3), (77, .aload_n 0, 1), (78, .bipush 80, 2), (80, .newarray .int, 2), (82, .putfield 42, 3), (85, .aload_n 0, 1), (86, .bipush 8, 2), (88, .newarray .int, 2), (90, .putfield 45, 3), (93, .aload_n 0, 1), (94, .bipush 8, 2), (96, .newarray .int, 2), (98, .putfield 48, 3), (101, .aload_n 0, 1), (102, .bipush 8, 2), (104, .newarray .int, 2), (106, .putfield 51, 3), (109, .aload_n 0, 1), (110, .bipush 90, 2), (112, .newarray .int, 2), (114, .putfield 54, 3), (117, .aload_n 0, 1), (118, .bipush 8, 2), (120, .newarray .int, 2), (122, .putfield 57, 3), (125, .aload_n 0, 1), (126, .iconst 3, 1), (127, .newarray .int, 2), (129, .putfield 60, 3), (132, .aload_n 0, 1), (133, .bipush 8, 2), (135, .newarray .int, 2), (137, .putfield 63, 3), (140, .aload_n 0, 1), (141, .bipush 24, 2), (143, .newarray .boolean, 2), (145, .putfield 66, 3), (148, .aload_n 0, 1), (149, .bipush 16, 2), (151, .newarray .int, 2), (153, .putfield 69, 3), (156, .aload_n 0, 1), (157, .bipush 16, 2), (159, .newarray .int, 2), (161, .putfield 72, 3), (164, .aload_n 0, 1), (165, .bipush 8, 2), (167, .newarray .int, 2), (169, .putfield 75, 3), (172, .aload_n 0, 1), (173, .bipush 8, 2), (175, .newarray .int, 2), (177, .putfield 78, 3), (180, .aload_n 0, 1), (181, .sipush 128, 3), (184, .newarray .int, 2), (186, .putfield 81, 3), (189, .aload_n 0, 1), (190, .bipush 8, 2), (192, .newarray .int, 2), (194, .putfield 84, 3), (197, .aload_n 0, 1), (198, .bipush 24, 2), (200, .newarray .boolean, 2), (202, .putfield 87, 3), (205, .aload_n 0, 1), (206, .bipush 16, 2), (208, .newarray .int, 2), (210, .putfield 90, 3), (213, .aload_n 0, 1), (214, .bipush 16, 2), (216, .newarray .int, 2), (218, .putfield 93, 3), (221, .aload_n 0, 1), (222, .sipush 16000, 3), (225, .newarray .boolean, 2), (227, .putfield 96, 3), (230, .aload_n 0, 1), (231, .bipush 16, 2), (233, .newarray .boolean, 2), (235, .putfield 99, 3), (238, .aload_n 0, 1), (239, .bipush 8, 2), (241, .newarray .int, 2), (243, .putfield 102, 3), (246, .aload_n 0, 1), (247, .bipush 12, 2), (249, .newarray .int, 2), (251, .putfield 105, 3), (254, .aload_n 0, 1), (255, .bipush 12, 2), (257, .newarray .int, 2), (259, .putfield 108, 3), (262, .aload_n 0, 1), (263, .bipush 80, 2), (265, .newarray .int, 2), (267, .putfield 111, 3), (270, .aload_n 0, 1), (271, .bipush 80, 2), (273, .newarray .int, 2), (275, .putfield 114, 3), (278, .aload_n 0, 1), (279, .bipush 8, 2), (281, .newarray .int, 2), (283, .putfield 117, 3), (286, .aload_n 0, 1), (287, .bipush 8, 2), (289, .newarray .int, 2), (291, .putfield 120, 3), (294, .aload_n 0, 1), (295, .bipush 8, 2), (297, .newarray .int, 2), (299, .putfield 123, 3), (302, .aload_n 0, 1), (303, .iconst 4, 1), (304, .newarray .boolean, 2), (306, .putfield 126, 3), (309, .aload_n 0, 1), (310, .iconst 4, 1), (311, .newarray .int, 2), (313, .putfield 129, 3), (316, .aload_n 0, 1), (317, .iconst 4, 1), (318, .newarray .int, 2), (320, .putfield 132, 3), (323, .aload_n 0, 1), (324, .sipush 160, 3), (327, .newarray .int, 2), (329, .putfield 135, 3), (332, .iconst 0, 1), (333, .istore_n 1, 1), (334, .iload_n 1, 1), (335, .bipush 8, 2), (337, .if_icmp .ge 18, 3), (340, .aload_n 0, 1), (341, .getfield 13, 3), (344, .iload_n 1, 1), (345, .sipush 1023, 3), (348, .iastore, 1), (349, .iinc 1 1, 3), (352, .goto (-18), 3), (355, .return_, 1)]
set_option maxRecDepth 100000 in
theorem kX7_init : gchk cX7_init tX7_init = true := by decide +kernel
def tX7_feed : List (Nat × Instr × Nat) := [(0, .iload_n 1, 1), (1, .i2l, 1), (2, .lconst 0, 1), (3, .ldc2_w 138, 3), (6, .invokestatic 140, 3), (9, .ifCond .ne 6, 3), (12, .bipush (-2), 2), (14, .ireturn, 1), (15, .aload_n 0, 1), (16, .getfield 144, 3), (19, .bipush 90, 2), (21, .if_icmp .ne 6, 3), (24, .bipush (-4), 2), (26, .ireturn, 1), (27, .aload_n 0, 1), (28, .getfield 54, 3), (31, .aload_n 0, 1), (32, .getfield 144, 3), (35, .iload_n 1, 1), (36, .iastore, 1), (37, .aload_n 0, 1), (38, .dup, 1), (39, .getfield 144, 3), (42, .iconst 1, 1), (43, .iadd, 1), (44, .putfield 144, 3), (47, .aload_n 0, 1), (48, .getfield 144, 3), (51, .ireturn, 1)]
set_option maxRecDepth 100000 in
theorem kX7_feed : gchk cX7_feed tX7_feed = true := by decide +kernel
def tX7_byteAt : List (Nat × Instr × Nat) := [(0, .iload_n 1, 1), (1, .aload_n 0, 1), (2, .getfield 144, 3), (5, .if_icmp .ge 12, 3), (8, .aload_n 0, 1), (9, .getfield 54, 3), (12, .iload_n 1, 1), (13, .iaload, 1), (14, .goto 4, 3), (17, .iconst (-1), 1), (18, .ireturn, 1)]
set_option maxRecDepth 100000 in
theorem kX7_byteAt : gchk cX7_byteAt tX7_byteAt = true := by decide +kernel
def tX7_isSignByte : List (Nat × Instr × Nat) := [(0, .iload_n 0, 1), (1, .bipush 40, 2), (3, .if_icmp .eq 57, 3), (6, .iload_n 0, 1), (7, .bipush 41, 2), (9, .if_icmp .eq 51, 3), (12, .iload_n 0, 1), (13, .bipush 58, 2), (15, .if_icmp .eq 45, 3), (18, .iload_n 0, 1), (19, .bipush 43, 2), (21, .if_icmp .eq 39, 3), (24, .iload_n 0, 1), (25, .bipush 45, 2), (27, .if_icmp .eq 33, 3), (30, .iload_n 0, 1), (31, .bipush 42, 2), (33, .if_icmp .eq 27, 3), (36, .iload_n 0, 1), (37, .bipush 60, 2), (39, .if_icmp .eq 21, 3), (42, .iload_n 0, 1), (43, .bipush 61, 2), (45, .if_icmp .eq 15, 3), (48, .iload_n 0, 1), (49, .bipush 62, 2), (51, .if_icmp .eq 9, 3), (54, .iload_n 0, 1), (55, .bipush 33, 2), (57, .if_icmp .ne 7, 3), (60, .iconst 1, 1), (61, .goto 4, 3), (64, .iconst 0, 1), (65, .ireturn, 1)]
set_option maxRecDepth 100000 in
theorem kX7_isSignByte : gchk cX7_isSignByte tX7_isSignByte = true := by decide +kernel
def tX7_isDistinct : List (Nat × Instr × Nat) := [(0, .aload_n 0, 1), (1, .getfield 147, 3), (4, .aload_n 0, 1), (5, .getfield 150, 3), (8, .bipush 8, 2), (10, .iadd, 1), (11, .if_icmp .ne 127, 3), (14, .aload_n 0, 1), (15, .aload_n 0, 1), (16, .getfield 150, 3), (19, .invokevirtual 153, 3), (22, .bipush 100, 2), (24, .if_icmp .ne 114, 3), (27, .aload_n 0, 1), (28, .aload_n 0, 1), (29, .getfield 150, 3), (32, .iconst 1, 1), (33, .iadd, 1), (34, .invokevirtual 153, 3), (37, .bipush 105, 2), (39, .if_icmp .ne 99, 3), (42, .aload_n 0, 1), (43, .aload_n 0, 1), (44, .getfield 150, 3), (47, .iconst 2, 1), (48, .iadd, 1), (49, .invokevirtual 153, 3), (52, .bipush 115, 2), (54, .if_icmp .ne 84, 3), (57, .aload_n 0, 1), (58, .aload_n 0, 1), (59, .getfield 150, 3), (62, .iconst 3, 1), (63, .iadd, 1), (64, .invokevirtual 153, 3), (67, .bipush 116, 2), (69, .if_icmp .ne 69, 3), (72, .aload_n 0, 1), (73, .aload_n 0, 1), (74, .getfield 150, 3), (77, .iconst 4, 1), (78, .iadd, 1), (79, .invokevirtual 153, 3), (82, .bipush 105, 2), (84, .if_icmp .ne 54, 3), (87, .aload_n 0, 1), (88, .aload_n 0, 1), (89, .getfield 150, 3), (92, .iconst 5, 1), (93, .iadd, 1), (94, .invokevirtual 153, 3), (97, .bipush 110, 2), (99, .if_icmp .ne 39, 3), (102, .aload_n 0, 1), (103, .aload_n 0, 1), (104, .getfield 150, 3), (107, .bipush 6, 2), (109, .iadd, 1), (110, .invokevirtual 153, 3), (113, .bipush 99, 2), (115, .if_icmp .ne 23, 3), (118, .aload_n 0, 1), (119, .aload_n 0, 1), (120, .getfield 150, 3), (123, .bipush 7, 2), (125, .iadd, 1), (126, .invokevirtual 153, 3), (129, .bipush 116, 2), (131, .if_icmp .ne 7, 3), (134, .iconst 1, 1), (135, .goto 4, 3), (138, .iconst 0, 1), (139, .ireturn, 1)]
set_option maxRecDepth 100000 in
theorem kX7_isDistinct : gchk cX7_isDistinct tX7_isDistinct = true := by decide +kernel
def tX7_next : List (Nat × Instr × Nat) := [(0, .aload_n 0, 1), (1, .aload_n 0, 1), (2, .getfield 147, 3), (5, .invokevirtual 153, 3), (8, .bipush 32, 2), (10, .if_icmp .eq 16, 3), (13, .aload_n 0, 1), (14, .aload_n 0, 1), (15, .getfield 147, 3), (18, .invokevirtual 153, 3), (21, .bipush 10, 2), (23, .if_icmp .ne 16, 3), (26, .aload_n 0, 1), (27, .dup, 1), (28, .getfield 147, 3), (31, .iconst 1, 1), (32, .iadd, 1), (33, .putfield 147, 3), (36, .goto (-36), 3), (39, .aload_n 0, 1), (40, .aload_n 0, 1), (41, .getfield 147, 3), (44, .putfield 150, 3), (47, .aload_n 0, 1), (48, .aload_n 0, 1), (49, .getfield 147, 3), (52, .invokevirtual 153, 3), (55, .istore_n 1, 1), (56, .aload_n 0, 1), (57, .iconst 4, 1), (58, .putfield 157, 3), (61, .iload_n 1, 1), (62, .ifCond .ge 19, 3), (65, .aload_n 0, 1), (66, .iconst 0, 1), (67, .putfield 157, 3), (70, .aload_n 0, 1), (71, .aload_n 0, 1), (72, .getfield 144, 3), (75, .putfield 150, 3), (78, .goto 251, 3), (81, .iload_n 1, 1), (82, .i2l, 1), (83, .ldc2_w 160, 3), (86, .ldc2_w 162, 3), (89, .invokestatic 140, 3), (92, .ifCond .eq 100, 3), (95, .aload_n 0, 1), (96, .aload_n 0, 1), (97, .getfield 147, 3), (100, .invokevirtual 153, 3), (103, .i2l, 1), (104, .ldc2_w 160, 3), (107, .ldc2_w 162, 3), (110, .invokestatic 140, 3), (113, .ifCond .eq 16, 3), (116, .aload_n 0, 1), (117, .dup, 1), (118, .getfield 147, 3), (121, .iconst 1, 1), (122, .iadd, 1), (123, .putfield 147, 3), (126, .goto (-31), 3), (129, .aload_n 0, 1), (130, .aload_n 0, 1), (131, .getfield 147, 3), (134, .aload_n 0, 1), (135, .getfield 150, 3), (138, .iconst 1, 1), (139, .iadd, 1), (140, .if_icmp .ne 16, 3), (143, .iload_n 1, 1), (144, .bipush 104, 2), (146, .if_icmp .gt 10, 3), (149, .iload_n 1, 1), (150, .bipush 97, 2), (152, .isub, 1), (153, .goto 16, 3), (156, .aload_n 0, 1), (157, .invokevirtual 164, 3), (160, .ifCond .eq 8, 3), (163, .bipush 8, 2), (165, .goto 4, 3), (168, .iconst (-1), 1), (169, .putfield 168, 3), (172, .aload_n 0, 1), (173, .aload_n 0, 1), (174, .getfield 168, 3), (177, .iconst (-1), 1), (178, .if_icmp .ne 7, 3), (181, .iconst 4, 1), (182, .goto 4, 3), (185, .iconst 1, 1), (186, .putfield 157, 3), (189, .goto 140, 3), (192, .iload_n 1, 1), (193, .i2l, 1), (194, .ldc2_w 171, 3), (197, .ldc2_w 173, 3), (200, .invokestatic 140, 3), (203, .ifCond .eq 99, 3), (206, .iconst 0, 1), (207, .istore_n 2, 1), (208, .aload_n 0, 1), (209, .iconst 0, 1), (210, .putfield 168, 3), (213, .aload_n 0, 1), (214, .aload_n 0, 1), (215, .getfield 147, 3), (218, .invokevirtual 153, 3), (221, .i2l, 1), (222, .ldc2_w 171, 3), (225, .ldc2_w 173, 3), (228, .invokestatic 140, 3), (231, .ifCond .eq 54, 3), (234, .aload_n 0, 1), (235, .iload_n 2, 1), (236, .iconst 4, 1), (237, .if_icmp .ge 25, 3), (240, .bipush 10, 2), (242, .aload_n 0, 1), (243, .getfield 168, 3), (246, .imul, 1), (247, .aload_n 0, 1), (248, .aload_n 0, 1), (249, .getfield 147, 3), (252, .invokevirtual 153, 3), (255, .iadd, 1), (256, .bipush 48, 2), (258, .isub, 1), (259, .goto 7, 3), (262, .aload_n 0, 1), (263, .getfield 168, 3), (266, .putfield 168, 3), (269, .iinc 2 1, 3), (272, .aload_n 0, 1), (273, .dup, 1), (274, .getfield 147, 3), (277, .iconst 1, 1), (278, .iadd, 1), (279, .putfield 147, 3), (282, .goto (-69), 3), (285, .aload_n 0, 1), (286, .iload_n 2, 1), (287, .iconst 4, 1), (288, .if_icmp .le 7, 3), (291, .iconst 4, 1), (292, .goto 4, 3), (295, .iconst 2, 1), (296, .putfield 157, 3), (299, .goto 30, 3), (302, .iload_n 1, 1), (303, .invokestatic 175, 3), (306, .ifCond .eq 23, 3), (309, .aload_n 0, 1), (310, .iconst 3, 1), (311, .putfield 157, 3), (314, .aload_n 0, 1), (315, .iload_n 1, 1), (316, .putfield 168, 3), (319, .aload_n 0, 1), (320, .dup, 1), (321, .getfield 147, 3), (324, .iconst 1, 1), (325, .iadd, 1), (326, .putfield 147, 3), (329, .return_, 1)]
set_option maxRecDepth 100000 in
theorem kX7_next : gchk cX7_next tX7_next = true := by decide +kernel
def tX7_fail : List (Nat × Instr × Nat) := [(0, .aload_n 0, 1), (1, .getfield 179, 3), (4, .ifCond .ne 16, 3), (7, .aload_n 0, 1), (8, .iconst 1, 1), (9, .putfield 179, 3), (12, .aload_n 0, 1), (13, .aload_n 0, 1), (14, .getfield 150, 3), (17, .putfield 183, 3), (20, .return_, 1)]
set_option maxRecDepth 100000 in
theorem kX7_fail : gchk cX7_fail tX7_fail = true := by decide +kernel
def tX7_isSign : List (Nat × Instr × Nat) := [(0, .aload_n 0, 1), (1, .getfield 179, 3), (4, .ifCond .ne 23, 3), (7, .aload_n 0, 1), (8, .getfield 157, 3), (11, .iconst 3, 1), (12, .if_icmp .ne 15, 3), (15, .aload_n 0, 1), (16, .getfield 168, 3), (19, .iload_n 1, 1), (20, .if_icmp .ne 7, 3), (23, .iconst 1, 1), (24, .goto 4, 3), (27, .iconst 0, 1), (28, .ireturn, 1)]
set_option maxRecDepth 100000 in
theorem kX7_isSign : gchk cX7_isSign tX7_isSign = true := by decide +kernel
def tX7_name : List (Nat × Instr × Nat) := [(0, .aload_n 0, 1), (1, .getfield 179, 3), (4, .ifCond .ne 38, 3), (7, .aload_n 0, 1), (8, .getfield 157, 3), (11, .iconst 1, 1), (12, .if_icmp .ne 30, 3), (15, .aload_n 0, 1), (16, .getfield 168, 3), (19, .bipush 8, 2), (21, .if_icmp .eq 21, 3), (24, .aload_n 0, 1), (25, .getfield 186, 3), (28, .iconst 1, 1), (29, .aload_n 0, 1), (30, .getfield 168, 3), (33, .ishl, 1), (34, .ior, 1), (35, .invokestatic 189, 3), (38, .iconst 3, 1), (39, .if_icmp .le 9, 3), (42, .aload_n 0, 1), (43, .invokevirtual 192, 3), (46, .iconst 0, 1), (47, .ireturn, 1), (48, .aload_n 0, 1), (49, .getfield 168, 3), (52, .istore_n 1, 1), (53, .aload_n 0, 1), (54, .dup, 1), (55, .getfield 186, 3), (58, .iconst 1, 1), (59, .iload_n 1, 1), (60, .ishl, 1), (61, .ior, 1), (62, .putfield 186, 3), (65, .aload_n 0, 1), (66, .invokevirtual 195, 3), (69, .aload_n 0, 1), (70, .getfield 57, 3), (73, .iload_n 1, 1), (74, .iaload, 1), (75, .ireturn, 1)]
set_option maxRecDepth 100000 in
theorem kX7_name : gchk cX7_name tX7_name = true := by decide +kernel
def tX7_one : List (Nat × Instr × Nat) := [(0, .aload_n 0, 1), (1, .getfield 179, 3), (4, .ifCond .ne 22, 3), (7, .aload_n 0, 1), (8, .getfield 157, 3), (11, .iconst 2, 1), (12, .if_icmp .ne 14, 3), (15, .aload_n 0, 1), (16, .getfield 168, 3), (19, .istore_n 1, 1), (20, .aload_n 0, 1), (21, .invokevirtual 195, 3), (24, .iload_n 1, 1), (25, .ireturn, 1), (26, .aload_n 0, 1), (27, .bipush 45, 2), (29, .invokevirtual 198, 3), (32, .ifCond .ne 17, 3), (35, .aload_n 0, 1), (36, .bipush 40, 2), (38, .invokevirtual 198, 3), (41, .ifCond .ne 8, 3), (44, .aload_n 0, 1), (45, .invokevirtual 201, 3), (48, .ireturn, 1), (49, .aload_n 0, 1), (50, .getfield 205, 3), (53, .iconst 5, 1), (54, .if_icmp .ne 9, 3), (57, .aload_n 0, 1), (58, .invokevirtual 192, 3), (61, .iconst 0, 1), (62, .ireturn, 1), (63, .aload_n 0, 1), (64, .bipush 45, 2), (66, .invokevirtual 198, 3), (69, .istore_n 1, 1), (70, .aload_n 0, 1), (71, .dup, 1), (72, .getfield 205, 3), (75, .iconst 1, 1), (76, .iadd, 1), (77, .putfield 205, 3), (80, .aload_n 0, 1), (81, .invokevirtual 195, 3), (84, .iload_n 1, 1), (85, .ifCond .eq 11, 3), (88, .aload_n 0, 1), (89, .invokevirtual 208, 3), (92, .ineg, 1), (93, .goto 7, 3), (96, .aload_n 0, 1), (97, .invokevirtual 211, 3), (100, .istore_n 2, 1), (101, .iload_n 1, 1), (102, .ifCond .ne 16, 3), (105, .aload_n 0, 1), (106, .bipush 41, 2), (108, .invokevirtual 198, 3), (111, .ifCond .ne 7, 3), (114, .aload_n 0, 1), (115, .invokevirtual 192, 3), (118, .aload_n 0, 1), (119, .dup, 1), (120, .getfield 205, 3), (123, .iconst 1, 1), (124, .isub, 1), (125, .putfield 205, 3), (128, .iload_n 1, 1), (129, .ifCond .ne 14, 3), (132, .aload_n 0, 1), (133, .getfield 179, 3), (136, .ifCond .ne 7, 3), (139, .aload_n 0, 1), (140, .invokevirtual 195, 3), (143, .iload_n 2, 1), (144, .ireturn, 1)]
set_option maxRecDepth 100000 in
theorem kX7_one : gchk cX7_one tX7_one = true := by decide +kernel
def tX7_term : List (Nat × Instr × Nat) := [(0, .aload_n 0, 1), (1, .invokevirtual 208, 3), (4, .istore_n 1, 1), (5, .aload_n 0, 1), (6, .bipush 42, 2), (8, .invokevirtual 198, 3), (11, .ifCond .eq 17, 3), (14, .aload_n 0, 1), (15, .invokevirtual 195, 3), (18, .iload_n 1, 1), (19, .aload_n 0, 1), (20, .invokevirtual 208, 3), (23, .imul, 1), (24, .istore_n 1, 1), (25, .goto (-20), 3), (28, .iload_n 1, 1), (29, .ireturn, 1)]
set_option maxRecDepth 100000 in
theorem kX7_term : gchk cX7_term tX7_term = true := by decide +kernel
def tX7_sum : List (Nat × Instr × Nat) := [(0, .aload_n 0, 1), (1, .invokevirtual 214, 3), (4, .istore_n 1, 1), (5, .aload_n 0, 1), (6, .bipush 43, 2), (8, .invokevirtual 198, 3), (11, .ifCond .ne 12, 3), (14, .aload_n 0, 1), (15, .bipush 45, 2), (17, .invokevirtual 198, 3), (20, .ifCond .eq 36, 3), (23, .aload_n 0, 1), (24, .bipush 43, 2), (26, .invokevirtual 198, 3), (29, .istore_n 2, 1), (30, .aload_n 0, 1), (31, .invokevirtual 195, 3), (34, .aload_n 0, 1), (35, .invokevirtual 214, 3), (38, .istore_n 3, 1), (39, .iload_n 2, 1), (40, .ifCond .eq 9, 3), (43, .iload_n 1, 1), (44, .iload_n 3, 1), (45, .iadd, 1), (46, .goto 6, 3), (49, .iload_n 1, 1), (50, .iload_n 3, 1), (51, .isub, 1), (52, .istore_n 1, 1), (53, .goto (-48), 3), (56, .iload_n 1, 1), (57, .ireturn, 1)]
set_option maxRecDepth 100000 in
theorem kX7_sum : gchk cX7_sum tX7_sum = true := by decide +kernel
def tX7_test : List (Nat × Instr × Nat) := [(0, .aload_n 0, 1), (1, .invokevirtual 211, 3), (4, .istore_n 1, 1), (5, .aload_n 0, 1), (6, .bipush 60, 2), (8, .invokevirtual 198, 3), (11, .ifCond .ne 36, 3), (14, .aload_n 0, 1), (15, .bipush 61, 2), (17, .invokevirtual 198, 3), (20, .ifCond .ne 27, 3), (23, .aload_n 0, 1), (24, .bipush 62, 2), (26, .invokevirtual 198, 3), (29, .ifCond .ne 18, 3), (32, .aload_n 0, 1), (33, .bipush 33, 2), (35, .invokevirtual 198, 3), (38, .ifCond .ne 9, 3), (41, .aload_n 0, 1), (42, .invokevirtual 192, 3), (45, .iconst 0, 1), (46, .ireturn, 1), (47, .aload_n 0, 1), (48, .getfield 168, 3), (51, .istore_n 2, 1), (52, .aload_n 0, 1), (53, .invokevirtual 195, 3), (56, .aload_n 0, 1), (57, .invokevirtual 211, 3), (60, .istore_n 3, 1), (61, .iload_n 2, 1), (62, .bipush 60, 2), (64, .if_icmp .ne 16, 3), (67, .iload_n 1, 1), (68, .iload_n 3, 1), (69, .if_icmp .ge 7, 3), (72, .iconst 1, 1), (73, .goto 55, 3), (76, .iconst 0, 1), (77, .goto 51, 3), (80, .iload_n 2, 1), (81, .bipush 61, 2), (83, .if_icmp .ne 16, 3), (86, .iload_n 1, 1), (87, .iload_n 3, 1), (88, .if_icmp .ne 7, 3), (91, .iconst 1, 1), (92, .goto 36, 3), (95, .iconst 0, 1), (96, .goto 32, 3), (99, .iload_n 2, 1), (100, .bipush 62, 2), (102, .if_icmp .ne 16, 3), (105, .iload_n 1, 1), (106, .iload_n 3, 1), (107, .if_icmp .le 7, 3), (110, .iconst 1, 1), (111, .goto 17, 3), (114, .iconst 0, 1), (115, .goto 13, 3), (118, .iload_n 1, 1), (119, .iload_n 3, 1), (120, .if_icmp .eq 7, 3), (123, .iconst 1, 1), (124, .goto 4, 3), (127, .iconst 0, 1), (128, .ireturn, 1)]
set_option maxRecDepth 100000 in
theorem kX7_test : gchk cX7_test tX7_test = true := by decide +kernel
def tX7_fresh : List (Nat × Instr × Nat) := [(0, .aload_n 0, 1), (1, .getfield 179, 3), (4, .ifCond .ne 39, 3), (7, .aload_n 0, 1), (8, .getfield 157, 3), (11, .iconst 1, 1), (12, .if_icmp .ne 31, 3), (15, .aload_n 0, 1), (16, .getfield 168, 3), (19, .bipush 8, 2), (21, .if_icmp .ge 22, 3), (24, .aload_n 0, 1), (25, .getfield 186, 3), (28, .aload_n 0, 1), (29, .getfield 168, 3), (32, .ishr, 1), (33, .iconst 1, 1), (34, .iand, 1), (35, .iconst 1, 1), (36, .if_icmp .ne 7, 3), (39, .aload_n 0, 1), (40, .invokevirtual 192, 3), (43, .aload_n 0, 1), (44, .invokevirtual 201, 3), (47, .ireturn, 1)]
set_option maxRecDepth 100000 in
theorem kX7_fresh : gchk cX7_fresh tX7_fresh = true := by decide +kernel
def tX7_reads : List (Nat × Instr × Nat) := [(0, .aload_n 0, 1), (1, .iconst 0, 1), (2, .putfield 147, 3), (5, .aload_n 0, 1), (6, .iconst 0, 1), (7, .putfield 205, 3), (10, .aload_n 0, 1), (11, .iconst 0, 1), (12, .putfield 179, 3), (15, .aload_n 0, 1), (16, .iconst 0, 1), (17, .putfield 186, 3), (20, .aload_n 0, 1), (21, .iconst 0, 1), (22, .putfield 217, 3), (25, .aload_n 0, 1), (26, .invokevirtual 195, 3), (29, .iconst 0, 1), (30, .istore_n 1, 1), (31, .aload_n 0, 1), (32, .getfield 157, 3), (35, .iconst 1, 1), (36, .if_icmp .ne 87, 3), (39, .aload_n 0, 1), (40, .getfield 168, 3), (43, .bipush 8, 2), (45, .if_icmp .ne 78, 3), (48, .aload_n 0, 1), (49, .iconst 2, 1), (50, .putfield 217, 3), (53, .aload_n 0, 1), (54, .invokevirtual 195, 3), (57, .aload_n 0, 1), (58, .invokevirtual 220, 3), (61, .istore_n 2, 1), (62, .aload_n 0, 1), (63, .invokevirtual 220, 3), (66, .istore_n 3, 1), (67, .iload_n 2, 1), (68, .iload_n 3, 1), (69, .if_icmp .eq 7, 3), (72, .iconst 1, 1), (73, .goto 4, 3), (76, .iconst 0, 1), (77, .istore_n 1, 1), (78, .aload_n 0, 1), (79, .getfield 179, 3), (82, .ifCond .ne 38, 3), (85, .aload_n 0, 1), (86, .getfield 157, 3), (89, .ifCond .eq 31, 3), (92, .aload_n 0, 1), (93, .invokevirtual 220, 3), (96, .istore 4, 2), (98, .iload_n 1, 1), (99, .ifCond .eq 19, 3), (102, .iload_n 2, 1), (103, .iload 4, 2), (105, .if_icmp .eq 13, 3), (108, .iload_n 3, 1), (109, .iload 4, 2), (111, .if_icmp .eq 7, 3), (114, .iconst 1, 1), (115, .goto 4, 3), (118, .iconst 0, 1), (119, .istore_n 1, 1), (120, .goto 141, 3), (123, .aload_n 0, 1), (124, .getfield 157, 3), (127, .iconst 1, 1), (128, .if_icmp .ne 10, 3), (131, .aload_n 0, 1), (132, .getfield 168, 3), (135, .goto 4, 3), (138, .iconst (-1), 1), (139, .istore_n 2, 1), (140, .aload_n 0, 1), (141, .getfield 147, 3), (144, .istore_n 3, 1), (145, .aload_n 0, 1), (146, .getfield 150, 3), (149, .istore 4, 2), (151, .aload_n 0, 1), (152, .invokevirtual 195, 3), (155, .iload_n 2, 1), (156, .iconst (-1), 1), (157, .if_icmp .eq 24, 3), (160, .aload_n 0, 1), (161, .getfield 157, 3), (164, .iconst 3, 1), (165, .if_icmp .ne 16, 3), (168, .aload_n 0, 1), (169, .getfield 168, 3), (172, .bipush 58, 2), (174, .if_icmp .ne 7, 3), (177, .iconst 1, 1), (178, .goto 4, 3), (181, .iconst 0, 1), (182, .istore 5, 2), (184, .iload 5, 2), (186, .ifCond .eq 22, 3), (189, .aload_n 0, 1), (190, .iconst 1, 1), (191, .putfield 217, 3), (194, .aload_n 0, 1), (195, .iconst 1, 1), (196, .iload_n 2, 1), (197, .ishl, 1), (198, .putfield 186, 3), (201, .aload_n 0, 1), (202, .invokevirtual 195, 3), (205, .goto 13, 3), (208, .aload_n 0, 1), (209, .iload 4, 2), (211, .putfield 147, 3), (214, .aload_n 0, 1), (215, .invokevirtual 195, 3), (218, .aload_n 0, 1), (219, .invokevirtual 223, 3), (222, .istore_n 1, 1), (223, .iload 5, 2), (225, .ifCond .eq 36, 3), (228, .aload_n 0, 1), (229, .getfield 57, 3), (232, .iload_n 2, 1), (233, .iaload, 1), (234, .iconst 1, 1), (235, .if_icmp .ne 7, 3), (238, .iload_n 1, 1), (239, .ifCond .ne 16, 3), (242, .aload_n 0, 1), (243, .getfield 57, 3), (246, .iload_n 2, 1), (247, .iaload, 1), (248, .ifCond .ne 11, 3), (251, .iload_n 1, 1), (252, .ifCond .ne 7, 3), (255, .iconst 1, 1), (256, .goto 4, 3), (259, .iconst 0, 1), (260, .istore_n 1, 1), (261, .aload_n 0, 1), (262, .getfield 179, 3), (265, .ifCond .ne 14, 3), (268, .aload_n 0, 1), (269, .getfield 157, 3), (272, .ifCond .eq 7, 3), (275, .aload_n 0, 1), (276, .invokevirtual 192, 3), (279, .iload_n 1, 1), (280, .ireturn, 1)]
set_option maxRecDepth 100000 in
theorem kX7_reads : gchk cX7_reads tX7_reads = true := by decide +kernel
def tX7_variable : List (Nat × Instr × Nat) := [(0, .iconst 0, 1), (1, .istore_n 2, 1), (2, .iconst 0, 1), (3, .istore_n 3, 1), (4, .iload_n 3, 1), (5, .bipush 8, 2), (7, .if_icmp .ge 28, 3), (10, .iload_n 0, 1), (11, .iload_n 3, 1), (12, .ishr, 1), (13, .iconst 1, 1), (14, .iand, 1), (15, .iconst 1, 1), (16, .if_icmp .ne 13, 3), (19, .iload_n 2, 1), (20, .iload_n 1, 1), (21, .if_icmp .ne 5, 3), (24, .iload_n 3, 1), (25, .ireturn, 1), (26, .iinc 2 1, 3), (29, .iinc 3 1, 3), (32, .goto (-28), 3), (35, .iconst (-1), 1), (36, .ireturn, 1)]
set_option maxRecDepth 100000 in
theorem kX7_variable : gchk cX7_variable tX7_variable = true := by decide +kernel
def tX7_rule : List (Nat × Instr × Nat) := [(0, .aload_n 0, 1), (1, .getfield 226, 3), (4, .bipush 16, 2), (6, .if_icmp .ne 6, 3), (9, .bipush (-4), 2), (11, .ireturn, 1), (12, .aload_n 0, 1), (13, .getfield 229, 3), (16, .ifCond .eq 6, 3), (19, .bipush (-3), 2), (21, .ireturn, 1), (22, .aload_n 0, 1), (23, .invokevirtual 232, 3), (26, .istore_n 1, 1), (27, .aload_n 0, 1), (28, .getfield 179, 3), (31, .ifCond .eq 16, 3), (34, .aload_n 0, 1), (35, .iconst 0, 1), (36, .putfield 144, 3), (39, .bipush (-100), 2), (41, .aload_n 0, 1), (42, .getfield 183, 3), (45, .isub, 1), (46, .ireturn, 1), (47, .aload_n 0, 1), (48, .getfield 186, 3), (51, .istore_n 2, 1), (52, .iload_n 2, 1), (53, .invokestatic 189, 3), (56, .istore_n 3, 1), (57, .iconst 0, 1), (58, .istore 4, 2), (60, .iload 4, 2), (62, .bipush 10, 2), (64, .if_icmp .ge 152, 3), (67, .iconst 0, 1), (68, .istore 5, 2), (70, .iload 5, 2), (72, .bipush 10, 2), (74, .if_icmp .ge 136, 3), (77, .iconst 0, 1), (78, .istore 6, 2), (80, .iload 6, 2), (82, .bipush 10, 2), (84, .if_icmp .ge 120, 3), (87, .iload_n 3, 1), (88, .iconst 2, 1), (89, .if_icmp .gt 8, 3), (92, .iload 6, 2), (94, .ifCond .ne 104, 3), (97, .iload_n 3, 1), (98, .iconst 1, 1), (99, .if_icmp .gt 8, 3), (102, .iload 5, 2), (104, .ifCond .ne 94, 3), (107, .iload_n 3, 1), (108, .ifCond .gt 8, 3), (111, .iload 4, 2), (113, .ifCond .ne 85, 3), (116, .iload_n 3, 1), (117, .ifCond .le 15, 3), (120, .aload_n 0, 1), (121, .getfield 57, 3), (124, .iload_n 2, 1), (125, .iconst 0, 1), (126, .invokestatic 235, 3), (129, .iload 4, 2), (131, .iastore, 1), (132, .iload_n 3, 1), (133, .iconst 1, 1), (134, .if_icmp .le 15, 3), (137, .aload_n 0, 1), (138, .getfield 57, 3), (141, .iload_n 2, 1), (142, .iconst 1, 1), (143, .invokestatic 235, 3), (146, .iload 5, 2), (148, .iastore, 1), (149, .iload_n 3, 1), (150, .iconst 2, 1), (151, .if_icmp .le 15, 3), (154, .aload_n 0, 1), (155, .getfield 57, 3), (158, .iload_n 2, 1), (159, .iconst 2, 1), (160, .invokestatic 235, 3), (163, .iload 6, 2), (165, .iastore, 1), (166, .aload_n 0, 1), (167, .getfield 23, 3), (170, .sipush 1000, 3), (173, .aload_n 0, 1), (174, .getfield 226, 3), (177, .imul, 1), (178, .bipush 100, 2), (180, .iload 4, 2), (182, .imul, 1), (183, .iadd, 1), (184, .bipush 10, 2), (186, .iload 5, 2), (188, .imul, 1), (189, .iadd, 1), (190, .iload 6, 2), (192, .iadd, 1), (193, .aload_n 0, 1), (194, .invokevirtual 232, 3), (197, .bastore, 1), (198, .iinc 6 1, 3), (201, .goto (-121), 3), (204, .iinc 5 1, 3), (207, .goto (-137), 3), (210, .iinc 4 1, 3), (213, .goto (-153), 3), (216, .aload_n 0, 1), (217, .iconst 0, 1), (218, .putfield 144, 3), (221, .aload_n 0, 1), (222, .getfield 17, 3), (225, .aload_n 0, 1), (226, .getfield 226, 3), (229, .aload_n 0, 1), (230, .getfield 217, 3), (233, .iastore, 1), (234, .aload_n 0, 1), (235, .getfield 20, 3), (238, .aload_n 0, 1), (239, .getfield 226, 3), (242, .iload_n 2, 1), (243, .iastore, 1), (244, .aload_n 0, 1), (245, .getfield 30, 3), (248, .aload_n 0, 1), (249, .getfield 226, 3), (252, .iconst 1, 1), (253, .bastore, 1), (254, .aload_n 0, 1), (255, .dup, 1), (256, .getfield 226, 3), (259, .iconst 1, 1), (260, .iadd, 1), (261, .putfield 226, 3), (264, .aload_n 0, 1), (265, .getfield 226, 3), (268, .iconst 1, 1), (269, .isub, 1), (270, .ireturn, 1)]
set_option maxRecDepth 100000 in
theorem kX7_rule : gchk cX7_rule tX7_rule = true := by decide +kernel
def tX7_allRules : List (Nat × Instr × Nat) := [(0, .aload_n 0, 1), (1, .getfield 226, 3), (4, .aload_n 0, 1), (5, .getfield 239, 3), (8, .iadd, 1), (9, .ireturn, 1)]
set_option maxRecDepth 100000 in
theorem kX7_allRules : gchk cX7_allRules tX7_allRules = true := by decide +kernel
def tX7_pairOf : List (Nat × Instr × Nat) := [(0, .aload_n 0, 1), (1, .getfield 27, 3), (4, .bipush 8, 2), (6, .iload_n 1, 1), (7, .bipush 16, 2), (9, .isub, 1), (10, .imul, 1), (11, .iload_n 2, 1), (12, .iadd, 1), (13, .iaload, 1), (14, .ireturn, 1)]
set_option maxRecDepth 100000 in
theorem kX7_pairOf : gchk cX7_pairOf tX7_pairOf = true := by decide +kernel
def tX7_ruleAt : List (Nat × Instr × Nat) := [(0, .iload_n 1, 1), (1, .aload_n 0, 1), (2, .getfield 226, 3), (5, .if_icmp .ge 7, 3), (8, .iload_n 1, 1), (9, .goto 12, 3), (12, .bipush 16, 2), (14, .iload_n 1, 1), (15, .iadd, 1), (16, .aload_n 0, 1), (17, .getfield 226, 3), (20, .isub, 1), (21, .ireturn, 1)]
set_option maxRecDepth 100000 in
theorem kX7_ruleAt : gchk cX7_ruleAt tX7_ruleAt = true := by decide +kernel
def tX7_priority : List (Nat × Instr × Nat) := [(0, .aload_n 0, 1), (1, .getfield 17, 3), (4, .iload_n 1, 1), (5, .iaload, 1), (6, .iconst 3, 1), (7, .if_icmp .ne 8, 3), (10, .bipush 9, 2), (12, .goto 19, 3), (15, .aload_n 0, 1), (16, .getfield 20, 3), (19, .iload_n 1, 1), (20, .iaload, 1), (21, .invokestatic 189, 3), (24, .aload_n 0, 1), (25, .getfield 17, 3), (28, .iload_n 1, 1), (29, .iaload, 1), (30, .iadd, 1), (31, .ireturn, 1)]
set_option maxRecDepth 100000 in
theorem kX7_priority : gchk cX7_priority tX7_priority = true := by decide +kernel
def tX7_isHolding : List (Nat × Instr × Nat) := [(0, .aload_n 0, 1), (1, .getfield 20, 3), (4, .iload_n 1, 1), (5, .iaload, 1), (6, .invokestatic 189, 3), (9, .istore 5, 2), (11, .aload_n 0, 1), (12, .getfield 23, 3), (15, .sipush 1000, 3), (18, .iload_n 1, 1), (19, .imul, 1), (20, .iload 5, 2), (22, .ifCond .le 10, 3), (25, .bipush 100, 2), (27, .iload_n 2, 1), (28, .imul, 1), (29, .goto 4, 3), (32, .iconst 0, 1), (33, .iadd, 1), (34, .iload 5, 2), (36, .iconst 1, 1), (37, .if_icmp .le 10, 3), (40, .bipush 10, 2), (42, .iload_n 3, 1), (43, .imul, 1), (44, .goto 4, 3), (47, .iconst 0, 1), (48, .iadd, 1), (49, .iload 5, 2), (51, .iconst 2, 1), (52, .if_icmp .le 8, 3), (55, .iload 4, 2), (57, .goto 4, 3), (60, .iconst 0, 1), (61, .iadd, 1), (62, .baload, 1), (63, .ireturn, 1)]
set_option maxRecDepth 100000 in
theorem kX7_isHolding : gchk cX7_isHolding tX7_isHolding = true := by decide +kernel
def tX7_holds : List (Nat × Instr × Nat) := [(0, .iload_n 1, 1), (1, .i2l, 1), (2, .lconst 0, 1), (3, .aload_n 0, 1), (4, .getfield 226, 3), (7, .iconst 1, 1), (8, .isub, 1), (9, .i2l, 1), (10, .invokestatic 140, 3), (13, .ifCond .ne 6, 3), (16, .bipush (-2), 2), (18, .ireturn, 1), (19, .aload_n 0, 1), (20, .getfield 20, 3), (23, .iload_n 1, 1), (24, .iaload, 1), (25, .invokestatic 189, 3), (28, .istore 5, 2), (30, .iload 5, 2), (32, .ifCond .le 15, 3), (35, .iload_n 2, 1), (36, .i2l, 1), (37, .lconst 0, 1), (38, .ldc2_w 242, 3), (41, .invokestatic 140, 3), (44, .ifCond .eq 40, 3), (47, .iload 5, 2), (49, .iconst 1, 1), (50, .if_icmp .le 15, 3), (53, .iload_n 3, 1), (54, .i2l, 1), (55, .lconst 0, 1), (56, .ldc2_w 242, 3), (59, .invokestatic 140, 3), (62, .ifCond .eq 22, 3), (65, .iload 5, 2), (67, .iconst 2, 1), (68, .if_icmp .le 19, 3), (71, .iload 4, 2), (73, .i2l, 1), (74, .lconst 0, 1), (75, .ldc2_w 242, 3), (78, .invokestatic 140, 3), (81, .ifCond .ne 6, 3), (84, .bipush (-2), 2), (86, .ireturn, 1), (87, .aload_n 0, 1), (88, .iload_n 1, 1), (89, .iload_n 2, 1), (90, .iload_n 3, 1), (91, .iload 4, 2), (93, .invokevirtual 244, 3), (96, .ifCond .eq 7, 3), (99, .iconst 1, 1), (100, .goto 4, 3), (103, .iconst 0, 1), (104, .ireturn, 1)]
set_option maxRecDepth 100000 in
theorem kX7_holds : gchk cX7_holds tX7_holds = true := by decide +kernel
def tX7_taken : List (Nat × Instr × Nat) := [(0, .iload_n 2, 1), (1, .i2l, 1), (2, .lconst 0, 1), (3, .ldc2_w 248, 3), (6, .invokestatic 140, 3), (9, .ifCond .ne 6, 3), (12, .bipush (-2), 2), (14, .ireturn, 1), (15, .iload_n 1, 1), (16, .i2l, 1), (17, .lconst 0, 1), (18, .aload_n 0, 1), (19, .getfield 226, 3), (22, .iconst 1, 1), (23, .isub, 1), (24, .i2l, 1), (25, .invokestatic 140, 3), (28, .ifCond .ne 6, 3), (31, .bipush (-11), 2), (33, .ireturn, 1), (34, .aload_n 0, 1), (35, .getfield 17, 3), (38, .iload_n 1, 1), (39, .iaload, 1), (40, .iload_n 2, 1), (41, .if_icmp .eq 17, 3), (44, .aload_n 0, 1), (45, .getfield 17, 3), (48, .iload_n 1, 1), (49, .iaload, 1), (50, .iconst 1, 1), (51, .if_icmp .ne 19, 3), (54, .iload_n 2, 1), (55, .ifCond .ne 15, 3), (58, .aload_n 0, 1), (59, .getfield 20, 3), (62, .iload_n 1, 1), (63, .iaload, 1), (64, .invokestatic 189, 3), (67, .goto 5, 3), (70, .bipush (-13), 2), (72, .ireturn, 1)]
set_option maxRecDepth 100000 in
theorem kX7_taken : gchk cX7_taken tX7_taken = true := by decide +kernel
def tX7_domainAt : List (Nat × Instr × Nat) := [(0, .aload_n 0, 1), (1, .getfield 20, 3), (4, .iload_n 1, 1), (5, .iaload, 1), (6, .iload_n 2, 1), (7, .invokestatic 235, 3), (10, .istore_n 3, 1), (11, .iload_n 3, 1), (12, .iconst (-1), 1), (13, .if_icmp .ne 7, 3), (16, .iconst 1, 1), (17, .goto 9, 3), (20, .aload_n 0, 1), (21, .getfield 13, 3), (24, .iload_n 3, 1), (25, .iaload, 1), (26, .ireturn, 1)]
set_option maxRecDepth 100000 in
theorem kX7_domainAt : gchk cX7_domainAt tX7_domainAt = true := by decide +kernel
def tX7_goesThrough : List (Nat × Instr × Nat) := [(0, .aload_n 0, 1), (1, .iconst 0, 1), (2, .putfield 250, 3), (5, .iconst 0, 1), (6, .istore_n 2, 1), (7, .iload_n 2, 1), (8, .iconst 3, 1), (9, .if_icmp .ge 16, 3), (12, .aload_n 0, 1), (13, .getfield 60, 3), (16, .iload_n 2, 1), (17, .iconst 0, 1), (18, .iastore, 1), (19, .iinc 2 1, 3), (22, .goto (-15), 3), (25, .aload_n 0, 1), (26, .iload_n 1, 1), (27, .iconst 0, 1), (28, .invokevirtual 253, 3), (31, .istore_n 2, 1), (32, .aload_n 0, 1), (33, .iload_n 1, 1), (34, .iconst 1, 1), (35, .invokevirtual 253, 3), (38, .istore_n 3, 1), (39, .aload_n 0, 1), (40, .iload_n 1, 1), (41, .iconst 2, 1), (42, .invokevirtual 253, 3), (45, .istore 4, 2), (47, .iconst 0, 1), (48, .istore 5, 2), (50, .iload 5, 2), (52, .bipush 10, 2), (54, .if_icmp .ge 149, 3), (57, .iconst 0, 1), (58, .istore 6, 2), (60, .iload 6, 2), (62, .bipush 10, 2), (64, .if_icmp .ge 133, 3), (67, .iload_n 2, 1), (68, .iload 5, 2), (70, .ishr, 1), (71, .iconst 1, 1), (72, .iand, 1), (73, .iconst 1, 1), (74, .if_icmp .ne 123, 3), (77, .iconst 0, 1), (78, .istore 7, 2), (80, .iload 7, 2), (82, .bipush 10, 2), (84, .if_icmp .ge 107, 3), (87, .iload_n 3, 1), (88, .iload 6, 2), (90, .ishr, 1), (91, .iconst 1, 1), (92, .iand, 1), (93, .iconst 1, 1), (94, .if_icmp .ne 97, 3), (97, .iload 4, 2), (99, .iload 7, 2), (101, .ishr, 1), (102, .iconst 1, 1), (103, .iand, 1), (104, .iconst 1, 1), (105, .if_icmp .ne 80, 3), (108, .aload_n 0, 1), (109, .getfield 23, 3), (112, .sipush 1000, 3), (115, .iload_n 1, 1), (116, .imul, 1), (117, .bipush 100, 2), (119, .iload 5, 2), (121, .imul, 1), (122, .iadd, 1), (123, .bipush 10, 2), (125, .iload 6, 2), (127, .imul, 1), (128, .iadd, 1), (129, .iload 7, 2), (131, .iadd, 1), (132, .baload, 1), (133, .ifCond .eq 52, 3), (136, .aload_n 0, 1), (137, .dup, 1), (138, .getfield 250, 3), (141, .iconst 1, 1), (142, .iadd, 1), (143, .putfield 250, 3), (146, .aload_n 0, 1), (147, .getfield 60, 3), (150, .iconst 0, 1), (151, .dup2, 1), (152, .iaload, 1), (153, .iconst 1, 1), (154, .iload 5, 2), (156, .ishl, 1), (157, .ior, 1), (158, .iastore, 1), (159, .aload_n 0, 1), (160, .getfield 60, 3), (163, .iconst 1, 1), (164, .dup2, 1), (165, .iaload, 1), (166, .iconst 1, 1), (167, .iload 6, 2), (169, .ishl, 1), (170, .ior, 1), (171, .iastore, 1), (172, .aload_n 0, 1), (173, .getfield 60, 3), (176, .iconst 2, 1), (177, .dup2, 1), (178, .iaload, 1), (179, .iconst 1, 1), (180, .iload 7, 2), (182, .ishl, 1), (183, .ior, 1), (184, .iastore, 1), (185, .iinc 7 1, 3), (188, .goto (-108), 3), (191, .iinc 6 1, 3), (194, .goto (-134), 3), (197, .iinc 5 1, 3), (200, .goto (-150), 3), (203, .return_, 1)]
set_option maxRecDepth 100000 in
theorem kX7_goesThrough : gchk cX7_goesThrough tX7_goesThrough = true := by decide +kernel
def tX7_goes : List (Nat × Instr × Nat) := [(0, .aload_n 0, 1), (1, .getfield 13, 3), (4, .iload_n 1, 1), (5, .dup2, 1), (6, .iaload, 1), (7, .iconst 1, 1), (8, .iload_n 2, 1), (9, .ishl, 1), (10, .iconst (-1), 1), (11, .ixor, 1), (12, .iand, 1), (13, .iastore, 1), (14, .aload_n 0, 1), (15, .dup, 1), (16, .getfield 256, 3), (19, .iconst 1, 1), (20, .iload_n 1, 1), (21, .ishl, 1), (22, .ior, 1), (23, .putfield 256, 3), (26, .aload_n 0, 1), (27, .getfield 259, 3), (30, .ifCond .ne 38, 3), (33, .aload_n 0, 1), (34, .getfield 39, 3), (37, .aload_n 0, 1), (38, .getfield 262, 3), (41, .bipush 10, 2), (43, .iload_n 1, 1), (44, .imul, 1), (45, .iload_n 2, 1), (46, .iadd, 1), (47, .iastore, 1), (48, .aload_n 0, 1), (49, .getfield 42, 3), (52, .aload_n 0, 1), (53, .getfield 262, 3), (56, .iload_n 3, 1), (57, .iastore, 1), (58, .aload_n 0, 1), (59, .dup, 1), (60, .getfield 262, 3), (63, .iconst 1, 1), (64, .iadd, 1), (65, .putfield 262, 3), (68, .aload_n 0, 1), (69, .getfield 13, 3), (72, .iload_n 1, 1), (73, .iaload, 1), (74, .ifCond .ne 32, 3), (77, .aload_n 0, 1), (78, .iconst 1, 1), (79, .putfield 229, 3), (82, .iconst 0, 1), (83, .istore 4, 2), (85, .iload 4, 2), (87, .bipush 24, 2), (89, .if_icmp .ge 17, 3), (92, .aload_n 0, 1), (93, .getfield 30, 3), (96, .iload 4, 2), (98, .iconst 0, 1), (99, .bastore, 1), (100, .iinc 4 1, 3), (103, .goto (-18), 3), (106, .return_, 1)]
set_option maxRecDepth 100000 in
theorem kX7_goes : gchk cX7_goes tX7_goes = true := by decide +kernel
def tX7_keeps : List (Nat × Instr × Nat) := [(0, .aload_n 0, 1), (1, .getfield 13, 3), (4, .iload_n 1, 1), (5, .iaload, 1), (6, .iload_n 2, 1), (7, .iconst (-1), 1), (8, .ixor, 1), (9, .iand, 1), (10, .istore 4, 2), (12, .iconst 0, 1), (13, .istore 5, 2), (15, .iload 5, 2), (17, .bipush 10, 2), (19, .if_icmp .ge 35, 3), (22, .aload_n 0, 1), (23, .getfield 229, 3), (26, .ifCond .ne 28, 3), (29, .iload 4, 2), (31, .iload 5, 2), (33, .ishr, 1), (34, .iconst 1, 1), (35, .iand, 1), (36, .iconst 1, 1), (37, .if_icmp .ne 11, 3), (40, .aload_n 0, 1), (41, .iload_n 1, 1), (42, .iload 5, 2), (44, .iload_n 3, 1), (45, .invokevirtual 265, 3), (48, .iinc 5 1, 3), (51, .goto (-36), 3), (54, .return_, 1)]
set_option maxRecDepth 100000 in
theorem kX7_keeps : gchk cX7_keeps tX7_keeps = true := by decide +kernel
def tX7_prunes : List (Nat × Instr × Nat) := [(0, .aload_n 0, 1), (1, .iconst 0, 1), (2, .putfield 256, 3), (5, .aload_n 0, 1), (6, .getfield 17, 3), (9, .iload_n 1, 1), (10, .iaload, 1), (11, .iconst 3, 1), (12, .if_icmp .ne 101, 3), (15, .iconst 0, 1), (16, .istore_n 2, 1), (17, .iconst 0, 1), (18, .istore_n 3, 1), (19, .iload_n 3, 1), (20, .bipush 8, 2), (22, .if_icmp .ge 42, 3), (25, .iload_n 2, 1), (26, .aload_n 0, 1), (27, .getfield 20, 3), (30, .iload_n 1, 1), (31, .iaload, 1), (32, .iload_n 3, 1), (33, .ishr, 1), (34, .iconst 1, 1), (35, .iand, 1), (36, .iconst 1, 1), (37, .if_icmp .ne 16, 3), (40, .aload_n 0, 1), (41, .iload_n 1, 1), (42, .iload_n 3, 1), (43, .invokevirtual 269, 3), (46, .ifCond .eq 7, 3), (49, .iconst 1, 1), (50, .goto 4, 3), (53, .iconst 0, 1), (54, .iload_n 3, 1), (55, .ishl, 1), (56, .ior, 1), (57, .istore_n 2, 1), (58, .iinc 3 1, 3), (61, .goto (-42), 3), (64, .iconst 0, 1), (65, .istore_n 3, 1), (66, .iload_n 3, 1), (67, .bipush 8, 2), (69, .if_icmp .ge 41, 3), (72, .aload_n 0, 1), (73, .getfield 229, 3), (76, .ifCond .ne 34, 3), (79, .iload_n 2, 1), (80, .iload_n 3, 1), (81, .ishr, 1), (82, .iconst 1, 1), (83, .iand, 1), (84, .iconst 1, 1), (85, .if_icmp .ne 19, 3), (88, .aload_n 0, 1), (89, .iload_n 3, 1), (90, .iconst 1, 1), (91, .aload_n 0, 1), (92, .iload_n 1, 1), (93, .iload_n 3, 1), (94, .invokevirtual 273, 3), (97, .ishl, 1), (98, .iconst (-1), 1), (99, .ixor, 1), (100, .iload_n 1, 1), (101, .invokevirtual 276, 3), (104, .iinc 3 1, 3), (107, .goto (-41), 3), (110, .goto 121, 3), (113, .aload_n 0, 1), (114, .iload_n 1, 1), (115, .invokevirtual 279, 3), (118, .aload_n 0, 1), (119, .getfield 60, 3), (122, .iconst 0, 1), (123, .iaload, 1), (124, .istore_n 2, 1), (125, .aload_n 0, 1), (126, .getfield 60, 3), (129, .iconst 1, 1), (130, .iaload, 1), (131, .istore_n 3, 1), (132, .aload_n 0, 1), (133, .getfield 60, 3), (136, .iconst 2, 1), (137, .iaload, 1), (138, .istore 4, 2), (140, .aload_n 0, 1), (141, .getfield 20, 3), (144, .iload_n 1, 1), (145, .iaload, 1), (146, .invokestatic 189, 3), (149, .istore 5, 2), (151, .iload 5, 2), (153, .ifCond .le 19, 3), (156, .aload_n 0, 1), (157, .aload_n 0, 1), (158, .getfield 20, 3), (161, .iload_n 1, 1), (162, .iaload, 1), (163, .iconst 0, 1), (164, .invokestatic 235, 3), (167, .iload_n 2, 1), (168, .iload_n 1, 1), (169, .invokevirtual 276, 3), (172, .iload 5, 2), (174, .iconst 1, 1), (175, .if_icmp .le 26, 3), (178, .aload_n 0, 1), (179, .getfield 229, 3), (182, .ifCond .ne 19, 3), (185, .aload_n 0, 1), (186, .aload_n 0, 1), (187, .getfield 20, 3), (190, .iload_n 1, 1), (191, .iaload, 1), (192, .iconst 1, 1), (193, .invokestatic 235, 3), (196, .iload_n 3, 1), (197, .iload_n 1, 1), (198, .invokevirtual 276, 3), (201, .iload 5, 2), (203, .iconst 2, 1), (204, .if_icmp .le 27, 3), (207, .aload_n 0, 1), (208, .getfield 229, 3), (211, .ifCond .ne 20, 3), (214, .aload_n 0, 1), (215, .aload_n 0, 1), (216, .getfield 20, 3), (219, .iload_n 1, 1), (220, .iaload, 1), (221, .iconst 2, 1), (222, .invokestatic 235, 3), (225, .iload 4, 2), (227, .iload_n 1, 1), (228, .invokevirtual 276, 3), (231, .aload_n 0, 1), (232, .aload_n 0, 1), (233, .getfield 256, 3), (236, .iload_n 1, 1), (237, .invokevirtual 283, 3), (240, .return_, 1)]
set_option maxRecDepth 100000 in
theorem kX7_prunes : gchk cX7_prunes tX7_prunes = true := by decide +kernel
def tX7_isAlone : List (Nat × Instr × Nat) := [(0, .iconst 0, 1), (1, .istore_n 3, 1), (2, .iload_n 3, 1), (3, .bipush 8, 2), (5, .if_icmp .ge 47, 3), (8, .iload_n 3, 1), (9, .iload_n 2, 1), (10, .if_icmp .eq 36, 3), (13, .aload_n 0, 1), (14, .getfield 20, 3), (17, .iload_n 1, 1), (18, .iaload, 1), (19, .iload_n 3, 1), (20, .ishr, 1), (21, .iconst 1, 1), (22, .iand, 1), (23, .iconst 1, 1), (24, .if_icmp .ne 22, 3), (27, .aload_n 0, 1), (28, .getfield 13, 3), (31, .iload_n 3, 1), (32, .iaload, 1), (33, .iconst 1, 1), (34, .aload_n 0, 1), (35, .iload_n 1, 1), (36, .iload_n 3, 1), (37, .invokevirtual 273, 3), (40, .ishl, 1), (41, .if_icmp .eq 5, 3), (44, .iconst 0, 1), (45, .ireturn, 1), (46, .iinc 3 1, 3), (49, .goto (-47), 3), (52, .iconst 1, 1), (53, .ireturn, 1)]
set_option maxRecDepth 100000 in
theorem kX7_isAlone : gchk cX7_isAlone tX7_isAlone = true := by decide +kernel
def tX7_queues : List (Nat × Instr × Nat) := [(0, .iconst 0, 1), (1, .istore_n 3, 1), (2, .iload_n 3, 1), (3, .aload_n 0, 1), (4, .invokevirtual 287, 3), (7, .if_icmp .ge 49, 3), (10, .aload_n 0, 1), (11, .getfield 229, 3), (14, .ifCond .ne 42, 3), (17, .aload_n 0, 1), (18, .iload_n 3, 1), (19, .invokevirtual 290, 3), (22, .istore 4, 2), (24, .iload 4, 2), (26, .iload_n 2, 1), (27, .if_icmp .eq 23, 3), (30, .aload_n 0, 1), (31, .getfield 20, 3), (34, .iload 4, 2), (36, .iaload, 1), (37, .iload_n 1, 1), (38, .iand, 1), (39, .ifCond .eq 11, 3), (42, .aload_n 0, 1), (43, .getfield 30, 3), (46, .iload 4, 2), (48, .iconst 1, 1), (49, .bastore, 1), (50, .iinc 3 1, 3), (53, .goto (-51), 3), (56, .return_, 1)]
set_option maxRecDepth 100000 in
theorem kX7_queues : gchk cX7_queues tX7_queues = true := by decide +kernel
def tX7_nextRule : List (Nat × Instr × Nat) := [(0, .iconst (-1), 1), (1, .istore_n 1, 1), (2, .iconst 0, 1), (3, .istore_n 2, 1), (4, .iload_n 2, 1), (5, .aload_n 0, 1), (6, .invokevirtual 287, 3), (9, .if_icmp .ge 44, 3), (12, .aload_n 0, 1), (13, .iload_n 2, 1), (14, .invokevirtual 290, 3), (17, .istore_n 3, 1), (18, .aload_n 0, 1), (19, .getfield 30, 3), (22, .iload_n 3, 1), (23, .baload, 1), (24, .ifCond .eq 23, 3), (27, .iload_n 1, 1), (28, .iconst (-1), 1), (29, .if_icmp .eq 16, 3), (32, .aload_n 0, 1), (33, .iload_n 3, 1), (34, .invokevirtual 293, 3), (37, .aload_n 0, 1), (38, .iload_n 1, 1), (39, .invokevirtual 293, 3), (42, .if_icmp .ge 5, 3), (45, .iload_n 3, 1), (46, .istore_n 1, 1), (47, .iinc 2 1, 3), (50, .goto (-46), 3), (53, .iload_n 1, 1), (54, .ireturn, 1)]
set_option maxRecDepth 100000 in
theorem kX7_nextRule : gchk cX7_nextRule tX7_nextRule = true := by decide +kernel
def tX7_step : List (Nat × Instr × Nat) := [(0, .aload_n 0, 1), (1, .invokevirtual 296, 3), (4, .istore_n 1, 1), (5, .iload_n 1, 1), (6, .iconst (-1), 1), (7, .if_icmp .ne 5, 3), (10, .iconst (-1), 1), (11, .ireturn, 1), (12, .aload_n 0, 1), (13, .getfield 30, 3), (16, .iload_n 1, 1), (17, .iconst 0, 1), (18, .bastore, 1), (19, .aload_n 0, 1), (20, .dup, 1), (21, .getfield 299, 3), (24, .iconst 1, 1), (25, .iadd, 1), (26, .putfield 299, 3), (29, .aload_n 0, 1), (30, .iload_n 1, 1), (31, .invokevirtual 302, 3), (34, .iload_n 1, 1), (35, .ireturn, 1)]
set_option maxRecDepth 100000 in
theorem kX7_step : gchk cX7_step tX7_step = true := by decide +kernel
def tX7_run : List (Nat × Instr × Nat) := [(0, .iconst 0, 1), (1, .istore_n 1, 1), (2, .aload_n 0, 1), (3, .invokevirtual 305, 3), (6, .iconst (-1), 1), (7, .if_icmp .eq 9, 3), (10, .iinc 1 1, 3), (13, .goto (-11), 3), (16, .iload_n 1, 1), (17, .ireturn, 1)]
set_option maxRecDepth 100000 in
theorem kX7_run : gchk cX7_run tX7_run = true := by decide +kernel
def tX7_decides : List (Nat × Instr × Nat) := [(0, .aload_n 0, 1), (1, .iconst 0, 1), (2, .putfield 256, 3), (5, .aload_n 0, 1), (6, .iload_n 1, 1), (7, .iload_n 2, 1), (8, .iload_n 3, 1), (9, .invokevirtual 276, 3), (12, .aload_n 0, 1), (13, .aload_n 0, 1), (14, .getfield 256, 3), (17, .iconst (-1), 1), (18, .invokevirtual 283, 3), (21, .return_, 1)]
set_option maxRecDepth 100000 in
theorem kX7_decides : gchk cX7_decides tX7_decides = true := by decide +kernel
def tX7_tell : List (Nat × Instr × Nat) := [(0, .iload_n 1, 1), (1, .i2l, 1), (2, .lconst 0, 1), (3, .ldc2_w 308, 3), (6, .invokestatic 140, 3), (9, .ifCond .eq 15, 3), (12, .iload_n 2, 1), (13, .i2l, 1), (14, .lconst 0, 1), (15, .ldc2_w 310, 3), (18, .invokestatic 140, 3), (21, .ifCond .ne 6, 3), (24, .bipush (-2), 2), (26, .ireturn, 1), (27, .aload_n 0, 1), (28, .getfield 229, 3), (31, .ifCond .eq 6, 3), (34, .bipush (-3), 2), (36, .ireturn, 1), (37, .aload_n 0, 1), (38, .getfield 312, 3), (41, .bipush 12, 2), (43, .if_icmp .ne 6, 3), (46, .bipush (-4), 2), (48, .ireturn, 1), (49, .aload_n 0, 1), (50, .getfield 33, 3), (53, .aload_n 0, 1), (54, .getfield 312, 3), (57, .iload_n 1, 1), (58, .iastore, 1), (59, .aload_n 0, 1), (60, .getfield 36, 3), (63, .aload_n 0, 1), (64, .getfield 312, 3), (67, .iload_n 2, 1), (68, .iastore, 1), (69, .aload_n 0, 1), (70, .dup, 1), (71, .getfield 312, 3), (74, .iconst 1, 1), (75, .iadd, 1), (76, .putfield 312, 3), (79, .aload_n 0, 1), (80, .getfield 262, 3), (83, .istore_n 3, 1), (84, .aload_n 0, 1), (85, .iload_n 1, 1), (86, .iload_n 2, 1), (87, .bipush 99, 2), (89, .aload_n 0, 1), (90, .getfield 312, 3), (93, .iadd, 1), (94, .invokevirtual 315, 3), (97, .aload_n 0, 1), (98, .getfield 262, 3), (101, .iload_n 3, 1), (102, .isub, 1), (103, .ireturn, 1)]
set_option maxRecDepth 100000 in
theorem kX7_tell : gchk cX7_tell tX7_tell = true := by decide +kernel
def tX7_level : List (Nat × Instr × Nat) := [(0, .aload_n 0, 1), (1, .getfield 229, 3), (4, .ifCond .ne 10, 3), (7, .aload_n 0, 1), (8, .invokevirtual 318, 3), (11, .ifCond .le 6, 3), (14, .bipush (-3), 2), (16, .ireturn, 1), (17, .aload_n 0, 1), (18, .getfield 321, 3), (21, .bipush 8, 2), (23, .if_icmp .ne 6, 3), (26, .bipush (-4), 2), (28, .ireturn, 1), (29, .aload_n 0, 1), (30, .getfield 45, 3), (33, .aload_n 0, 1), (34, .getfield 321, 3), (37, .aload_n 0, 1), (38, .getfield 262, 3), (41, .iastore, 1), (42, .aload_n 0, 1), (43, .getfield 48, 3), (46, .aload_n 0, 1), (47, .getfield 321, 3), (50, .aload_n 0, 1), (51, .getfield 312, 3), (54, .iastore, 1), (55, .aload_n 0, 1), (56, .getfield 51, 3), (59, .aload_n 0, 1), (60, .getfield 321, 3), (63, .aload_n 0, 1), (64, .getfield 226, 3), (67, .iastore, 1), (68, .aload_n 0, 1), (69, .dup, 1), (70, .getfield 321, 3), (73, .iconst 1, 1), (74, .iadd, 1), (75, .putfield 321, 3), (78, .aload_n 0, 1), (79, .getfield 321, 3), (82, .ireturn, 1)]
set_option maxRecDepth 100000 in
theorem kX7_level : gchk cX7_level tX7_level = true := by decide +kernel
def tX7_undo : List (Nat × Instr × Nat) := [(0, .aload_n 0, 1), (1, .getfield 321, 3), (4, .ifCond .ne 6, 3), (7, .bipush (-3), 2), (9, .ireturn, 1), (10, .aload_n 0, 1), (11, .dup, 1), (12, .getfield 321, 3), (15, .iconst 1, 1), (16, .isub, 1), (17, .putfield 321, 3), (20, .aload_n 0, 1), (21, .getfield 262, 3), (24, .aload_n 0, 1), (25, .getfield 45, 3), (28, .aload_n 0, 1), (29, .getfield 321, 3), (32, .iaload, 1), (33, .isub, 1), (34, .istore_n 1, 1), (35, .aload_n 0, 1), (36, .getfield 262, 3), (39, .aload_n 0, 1), (40, .getfield 45, 3), (43, .aload_n 0, 1), (44, .getfield 321, 3), (47, .iaload, 1), (48, .if_icmp .le 50, 3), (51, .aload_n 0, 1), (52, .dup, 1), (53, .getfield 262, 3), (56, .iconst 1, 1), (57, .isub, 1), (58, .putfield 262, 3), (61, .aload_n 0, 1), (62, .getfield 13, 3), (65, .aload_n 0, 1), (66, .getfield 39, 3), (69, .aload_n 0, 1), (70, .getfield 262, 3), (73, .iaload, 1), (74, .bipush 10, 2), (76, .idiv, 1), (77, .dup2, 1), (78, .iaload, 1), (79, .iconst 1, 1), (80, .aload_n 0, 1), (81, .getfield 39, 3), (84, .aload_n 0, 1), (85, .getfield 262, 3), (88, .iaload, 1), (89, .bipush 10, 2), (91, .irem, 1), (92, .ishl, 1), (93, .ior, 1), (94, .iastore, 1), (95, .goto (-60), 3), (98, .aload_n 0, 1), (99, .aload_n 0, 1), (100, .getfield 48, 3), (103, .aload_n 0, 1), (104, .getfield 321, 3), (107, .iaload, 1), (108, .putfield 312, 3), (111, .aload_n 0, 1), (112, .iconst 0, 1), (113, .putfield 229, 3), (116, .iconst 0, 1), (117, .istore_n 2, 1), (118, .iload_n 2, 1), (119, .aload_n 0, 1), (120, .getfield 226, 3), (123, .if_icmp .ge 33, 3), (126, .aload_n 0, 1), (127, .getfield 30, 3), (130, .iload_n 2, 1), (131, .iload_n 2, 1), (132, .aload_n 0, 1), (133, .getfield 51, 3), (136, .aload_n 0, 1), (137, .getfield 321, 3), (140, .iaload, 1), (141, .if_icmp .lt 7, 3), (144, .iconst 1, 1), (145, .goto 4, 3), (148, .iconst 0, 1), (149, .bastore, 1), (150, .iinc 2 1, 3), (153, .goto (-35), 3), (156, .iload_n 1, 1), (157, .ireturn, 1)]
set_option maxRecDepth 100000 in
theorem kX7_undo : gchk cX7_undo tX7_undo = true := by decide +kernel
def tX7_queued : List (Nat × Instr × Nat) := [(0, .iconst 0, 1), (1, .istore_n 1, 1), (2, .iconst 0, 1), (3, .istore_n 2, 1), (4, .iload_n 2, 1), (5, .aload_n 0, 1), (6, .getfield 226, 3), (9, .if_icmp .ge 26, 3), (12, .iload_n 1, 1), (13, .aload_n 0, 1), (14, .getfield 30, 3), (17, .iload_n 2, 1), (18, .baload, 1), (19, .ifCond .eq 7, 3), (22, .iconst 1, 1), (23, .goto 4, 3), (26, .iconst 0, 1), (27, .iadd, 1), (28, .istore_n 1, 1), (29, .iinc 2 1, 3), (32, .goto (-28), 3), (35, .iload_n 1, 1), (36, .ireturn, 1)]
set_option maxRecDepth 100000 in
theorem kX7_queued : gchk cX7_queued tX7_queued = true := by decide +kernel
def tX7_domain : List (Nat × Instr × Nat) := [(0, .iload_n 1, 1), (1, .i2l, 1), (2, .lconst 0, 1), (3, .ldc2_w 308, 3), (6, .invokestatic 140, 3), (9, .ifCond .eq 12, 3), (12, .aload_n 0, 1), (13, .getfield 13, 3), (16, .iload_n 1, 1), (17, .iaload, 1), (18, .goto 5, 3), (21, .bipush (-2), 2), (23, .ireturn, 1)]
set_option maxRecDepth 100000 in
theorem kX7_domain : gchk cX7_domain tX7_domain = true := by decide +kernel
def tX7_trail : List (Nat × Instr × Nat) := [(0, .iload_n 2, 1), (1, .i2l, 1), (2, .ldc2_w 324, 3), (5, .ldc2_w 326, 3), (8, .invokestatic 140, 3), (11, .ifCond .eq 37, 3), (14, .iconst 0, 1), (15, .istore_n 3, 1), (16, .iload_n 3, 1), (17, .aload_n 0, 1), (18, .getfield 262, 3), (21, .if_icmp .ge 25, 3), (24, .aload_n 0, 1), (25, .getfield 39, 3), (28, .iload_n 3, 1), (29, .iaload, 1), (30, .iload_n 2, 1), (31, .sipush 1000, 3), (34, .isub, 1), (35, .if_icmp .ne 5, 3), (38, .iload_n 3, 1), (39, .ireturn, 1), (40, .iinc 3 1, 3), (43, .goto (-27), 3), (46, .iconst (-1), 1), (47, .ireturn, 1), (48, .iload_n 2, 1), (49, .i2l, 1), (50, .lconst 0, 1), (51, .lconst 1, 1), (52, .invokestatic 140, 3), (55, .ifCond .ne 6, 3), (58, .bipush (-2), 2), (60, .ireturn, 1), (61, .iload_n 1, 1), (62, .i2l, 1), (63, .lconst 0, 1), (64, .aload_n 0, 1), (65, .getfield 262, 3), (68, .iconst 1, 1), (69, .isub, 1), (70, .i2l, 1), (71, .invokestatic 140, 3), (74, .ifCond .ne 8, 3), (77, .bipush (-12), 2), (79, .goto 22, 3), (82, .iload_n 2, 1), (83, .ifCond .ne 12, 3), (86, .aload_n 0, 1), (87, .getfield 39, 3), (90, .iload_n 1, 1), (91, .iaload, 1), (92, .goto 9, 3), (95, .aload_n 0, 1), (96, .getfield 42, 3), (99, .iload_n 1, 1), (100, .iaload, 1), (101, .ireturn, 1)]
set_option maxRecDepth 100000 in
theorem kX7_trail : gchk cX7_trail tX7_trail = true := by decide +kernel
def tX7_decision : List (Nat × Instr × Nat) := [(0, .iload_n 2, 1), (1, .i2l, 1), (2, .lconst 0, 1), (3, .lconst 1, 1), (4, .invokestatic 140, 3), (7, .ifCond .ne 6, 3), (10, .bipush (-2), 2), (12, .ireturn, 1), (13, .iload_n 1, 1), (14, .i2l, 1), (15, .lconst 0, 1), (16, .aload_n 0, 1), (17, .getfield 312, 3), (20, .iconst 1, 1), (21, .isub, 1), (22, .i2l, 1), (23, .invokestatic 140, 3), (26, .ifCond .ne 8, 3), (29, .bipush (-12), 2), (31, .goto 22, 3), (34, .iload_n 2, 1), (35, .ifCond .ne 12, 3), (38, .aload_n 0, 1), (39, .getfield 33, 3), (42, .iload_n 1, 1), (43, .iaload, 1), (44, .goto 9, 3), (47, .aload_n 0, 1), (48, .getfield 36, 3), (51, .iload_n 1, 1), (52, .iaload, 1), (53, .ireturn, 1)]
set_option maxRecDepth 100000 in
theorem kX7_decision : gchk cX7_decision tX7_decision = true := by decide +kernel
def tX7_laysAside : List (Nat × Instr × Nat) := [(0, .iconst 0, 1), (1, .istore_n 1, 1), (2, .iload_n 1, 1), (3, .bipush 8, 2), (5, .if_icmp .ge 21, 3), (8, .aload_n 0, 1), (9, .getfield 63, 3), (12, .iload_n 1, 1), (13, .aload_n 0, 1), (14, .getfield 13, 3), (17, .iload_n 1, 1), (18, .iaload, 1), (19, .iastore, 1), (20, .iinc 1 1, 3), (23, .goto (-21), 3), (26, .iconst 0, 1), (27, .istore_n 1, 1), (28, .iload_n 1, 1), (29, .bipush 24, 2), (31, .if_icmp .ge 21, 3), (34, .aload_n 0, 1), (35, .getfield 66, 3), (38, .iload_n 1, 1), (39, .aload_n 0, 1), (40, .getfield 30, 3), (43, .iload_n 1, 1), (44, .baload, 1), (45, .bastore, 1), (46, .iinc 1 1, 3), (49, .goto (-21), 3), (52, .aload_n 0, 1), (53, .aload_n 0, 1), (54, .getfield 229, 3), (57, .putfield 328, 3), (60, .aload_n 0, 1), (61, .aload_n 0, 1), (62, .getfield 299, 3), (65, .putfield 331, 3), (68, .aload_n 0, 1), (69, .iconst 1, 1), (70, .putfield 259, 3), (73, .return_, 1)]
set_option maxRecDepth 100000 in
theorem kX7_laysAside : gchk cX7_laysAside tX7_laysAside = true := by decide +kernel
def tX7_laysBack : List (Nat × Instr × Nat) := [(0, .iconst 0, 1), (1, .istore_n 1, 1), (2, .iload_n 1, 1), (3, .bipush 8, 2), (5, .if_icmp .ge 21, 3), (8, .aload_n 0, 1), (9, .getfield 13, 3), (12, .iload_n 1, 1), (13, .aload_n 0, 1), (14, .getfield 63, 3), (17, .iload_n 1, 1), (18, .iaload, 1), (19, .iastore, 1), (20, .iinc 1 1, 3), (23, .goto (-21), 3), (26, .iconst 0, 1), (27, .istore_n 1, 1), (28, .iload_n 1, 1), (29, .bipush 24, 2), (31, .if_icmp .ge 21, 3), (34, .aload_n 0, 1), (35, .getfield 30, 3), (38, .iload_n 1, 1), (39, .aload_n 0, 1), (40, .getfield 66, 3), (43, .iload_n 1, 1), (44, .baload, 1), (45, .bastore, 1), (46, .iinc 1 1, 3), (49, .goto (-21), 3), (52, .aload_n 0, 1), (53, .aload_n 0, 1), (54, .getfield 328, 3), (57, .putfield 229, 3), (60, .aload_n 0, 1), (61, .aload_n 0, 1), (62, .getfield 331, 3), (65, .putfield 299, 3), (68, .aload_n 0, 1), (69, .iconst 0, 1), (70, .putfield 259, 3), (73, .return_, 1)]
set_option maxRecDepth 100000 in
theorem kX7_laysBack : gchk cX7_laysBack tX7_laysBack = true := by decide +kernel
def tX7_starts : List (Nat × Instr × Nat) := [(0, .iconst 0, 1), (1, .istore 4, 2), (3, .iload 4, 2), (5, .bipush 8, 2), (7, .if_icmp .ge 19, 3), (10, .aload_n 0, 1), (11, .getfield 13, 3), (14, .iload 4, 2), (16, .sipush 1023, 3), (19, .iastore, 1), (20, .iinc 4 1, 3), (23, .goto (-20), 3), (26, .iconst 0, 1), (27, .istore 4, 2), (29, .iload 4, 2), (31, .bipush 24, 2), (33, .if_icmp .ge 17, 3), (36, .aload_n 0, 1), (37, .getfield 30, 3), (40, .iload 4, 2), (42, .iconst 0, 1), (43, .bastore, 1), (44, .iinc 4 1, 3), (47, .goto (-18), 3), (50, .aload_n 0, 1), (51, .iconst 0, 1), (52, .putfield 229, 3), (55, .iconst 0, 1), (56, .istore 4, 2), (58, .iload 4, 2), (60, .aload_n 0, 1), (61, .getfield 312, 3), (64, .if_icmp .ge 45, 3), (67, .aload_n 0, 1), (68, .getfield 229, 3), (71, .ifCond .ne 38, 3), (74, .iload_n 1, 1), (75, .iload 4, 2), (77, .ishr, 1), (78, .iconst 1, 1), (79, .iand, 1), (80, .iconst 1, 1), (81, .if_icmp .ne 22, 3), (84, .aload_n 0, 1), (85, .aload_n 0, 1), (86, .getfield 33, 3), (89, .iload 4, 2), (91, .iaload, 1), (92, .aload_n 0, 1), (93, .getfield 36, 3), (96, .iload 4, 2), (98, .iaload, 1), (99, .iconst 0, 1), (100, .invokevirtual 315, 3), (103, .iinc 4 1, 3), (106, .goto (-48), 3), (109, .iconst 0, 1), (110, .istore 4, 2), (112, .iload 4, 2), (114, .bipush 16, 2), (116, .if_icmp .ge 47, 3), (119, .aload_n 0, 1), (120, .getfield 229, 3), (123, .ifCond .ne 40, 3), (126, .iload_n 2, 1), (127, .iload 4, 2), (129, .ishr, 1), (130, .iconst 1, 1), (131, .iand, 1), (132, .iconst 1, 1), (133, .if_icmp .ne 24, 3), (136, .aload_n 0, 1), (137, .aload_n 0, 1), (138, .getfield 69, 3), (141, .iload 4, 2), (143, .iaload, 1), (144, .iconst 1, 1), (145, .aload_n 0, 1), (146, .getfield 72, 3), (149, .iload 4, 2), (151, .iaload, 1), (152, .ishl, 1), (153, .iconst 0, 1), (154, .invokevirtual 315, 3), (157, .iinc 4 1, 3), (160, .goto (-48), 3), (163, .iconst 0, 1), (164, .istore 4, 2), (166, .iload 4, 2), (168, .aload_n 0, 1), (169, .getfield 226, 3), (172, .if_icmp .ge 34, 3), (175, .aload_n 0, 1), (176, .getfield 30, 3), (179, .iload 4, 2), (181, .iload 4, 2), (183, .iload_n 3, 1), (184, .if_icmp .eq 14, 3), (187, .aload_n 0, 1), (188, .getfield 229, 3), (191, .ifCond .ne 7, 3), (194, .iconst 1, 1), (195, .goto 4, 3), (198, .iconst 0, 1), (199, .bastore, 1), (200, .iinc 4 1, 3), (203, .goto (-37), 3), (206, .aload_n 0, 1), (207, .getfield 239, 3), (210, .istore 4, 2), (212, .aload_n 0, 1), (213, .iconst 0, 1), (214, .putfield 239, 3), (217, .aload_n 0, 1), (218, .invokevirtual 296, 3), (221, .istore 5, 2), (223, .iload 5, 2), (225, .iconst (-1), 1), (226, .if_icmp .eq 38, 3), (229, .aload_n 0, 1), (230, .getfield 30, 3), (233, .iload 5, 2), (235, .iconst 0, 1), (236, .bastore, 1), (237, .aload_n 0, 1), (238, .iload 5, 2), (240, .invokevirtual 302, 3), (243, .iload_n 3, 1), (244, .iconst (-1), 1), (245, .if_icmp .eq 10, 3), (248, .aload_n 0, 1), (249, .getfield 30, 3), (252, .iload_n 3, 1), (253, .iconst 0, 1), (254, .bastore, 1), (255, .aload_n 0, 1), (256, .invokevirtual 296, 3), (259, .istore 5, 2), (261, .goto (-38), 3), (264, .aload_n 0, 1), (265, .iload 4, 2), (267, .putfield 239, 3), (270, .return_, 1)]
set_option maxRecDepth 100000 in
theorem kX7_starts : gchk cX7_starts tX7_starts = true := by decide +kernel
def tX7_isGone : List (Nat × Instr × Nat) := [(0, .aload_n 0, 1), (1, .getfield 229, 3), (4, .ifCond .ne 21, 3), (7, .iload_n 1, 1), (8, .iconst (-1), 1), (9, .if_icmp .eq 20, 3), (12, .aload_n 0, 1), (13, .getfield 13, 3), (16, .iload_n 1, 1), (17, .iaload, 1), (18, .iload_n 2, 1), (19, .ishr, 1), (20, .iconst 1, 1), (21, .iand, 1), (22, .ifCond .ne 7, 3), (25, .iconst 1, 1), (26, .goto 4, 3), (29, .iconst 0, 1), (30, .ireturn, 1)]
set_option maxRecDepth 100000 in
theorem kX7_isGone : gchk cX7_isGone tX7_isGone = true := by decide +kernel
def tX7_why : List (Nat × Instr × Nat) := [(0, .iload_n 1, 1), (1, .i2l, 1), (2, .ldc2_w 334, 3), (5, .ldc2_w 308, 3), (8, .invokestatic 140, 3), (11, .ifCond .eq 20, 3), (14, .iload_n 1, 1), (15, .iconst (-1), 1), (16, .if_icmp .eq 18, 3), (19, .iload_n 2, 1), (20, .i2l, 1), (21, .lconst 0, 1), (22, .ldc2_w 242, 3), (25, .invokestatic 140, 3), (28, .ifCond .ne 6, 3), (31, .bipush (-2), 2), (33, .ireturn, 1), (34, .aload_n 0, 1), (35, .invokevirtual 336, 3), (38, .iconst 1, 1), (39, .aload_n 0, 1), (40, .getfield 312, 3), (43, .ishl, 1), (44, .iconst 1, 1), (45, .isub, 1), (46, .istore_n 3, 1), (47, .aload_n 0, 1), (48, .iload_n 3, 1), (49, .iconst 0, 1), (50, .iconst (-1), 1), (51, .invokevirtual 339, 3), (54, .aload_n 0, 1), (55, .iload_n 1, 1), (56, .iload_n 2, 1), (57, .invokevirtual 342, 3), (60, .istore 4, 2), (62, .iconst 0, 1), (63, .istore 5, 2), (65, .iload 5, 2), (67, .aload_n 0, 1), (68, .getfield 312, 3), (71, .if_icmp .ge 50, 3), (74, .iload 4, 2), (76, .ifCond .eq 45, 3), (79, .aload_n 0, 1), (80, .iload_n 3, 1), (81, .iconst 1, 1), (82, .iload 5, 2), (84, .ishl, 1), (85, .iconst (-1), 1), (86, .ixor, 1), (87, .iand, 1), (88, .iconst 0, 1), (89, .iconst (-1), 1), (90, .invokevirtual 339, 3), (93, .aload_n 0, 1), (94, .iload_n 1, 1), (95, .iload_n 2, 1), (96, .invokevirtual 342, 3), (99, .ifCond .eq 14, 3), (102, .iload_n 3, 1), (103, .iconst 1, 1), (104, .iload 5, 2), (106, .ishl, 1), (107, .iconst (-1), 1), (108, .ixor, 1), (109, .iand, 1), (110, .goto 4, 3), (113, .iload_n 3, 1), (114, .istore_n 3, 1), (115, .iinc 5 1, 3), (118, .goto (-53), 3), (121, .aload_n 0, 1), (122, .invokevirtual 345, 3), (125, .iload 4, 2), (127, .ifCond .eq 7, 3), (130, .iload_n 3, 1), (131, .goto 4, 3), (134, .iconst (-1), 1), (135, .ireturn, 1)]
set_option maxRecDepth 100000 in
theorem kX7_why : gchk cX7_why tX7_why = true := by decide +kernel
def tX7_isIdle : List (Nat × Instr × Nat) := [(0, .aload_n 0, 1), (1, .invokevirtual 336, 3), (4, .aload_n 0, 1), (5, .iconst 1, 1), (6, .aload_n 0, 1), (7, .getfield 312, 3), (10, .ishl, 1), (11, .iconst 1, 1), (12, .isub, 1), (13, .iconst 0, 1), (14, .iconst (-1), 1), (15, .invokevirtual 339, 3), (18, .aload_n 0, 1), (19, .getfield 229, 3), (22, .istore_n 2, 1), (23, .iconst 0, 1), (24, .istore_n 3, 1), (25, .iload_n 3, 1), (26, .bipush 8, 2), (28, .if_icmp .ge 21, 3), (31, .aload_n 0, 1), (32, .getfield 75, 3), (35, .iload_n 3, 1), (36, .aload_n 0, 1), (37, .getfield 13, 3), (40, .iload_n 3, 1), (41, .iaload, 1), (42, .iastore, 1), (43, .iinc 3 1, 3), (46, .goto (-21), 3), (49, .aload_n 0, 1), (50, .iconst 1, 1), (51, .aload_n 0, 1), (52, .getfield 312, 3), (55, .ishl, 1), (56, .iconst 1, 1), (57, .isub, 1), (58, .iconst 0, 1), (59, .iload_n 1, 1), (60, .invokevirtual 339, 3), (63, .aload_n 0, 1), (64, .getfield 229, 3), (67, .iload_n 2, 1), (68, .if_icmp .ne 7, 3), (71, .iconst 1, 1), (72, .goto 4, 3), (75, .iconst 0, 1), (76, .istore_n 3, 1), (77, .iconst 0, 1), (78, .istore 4, 2), (80, .iload 4, 2), (82, .bipush 8, 2), (84, .if_icmp .ge 40, 3), (87, .iload_n 2, 1), (88, .ifCond .ne 36, 3), (91, .iload_n 3, 1), (92, .ifCond .eq 24, 3), (95, .aload_n 0, 1), (96, .getfield 13, 3), (99, .iload 4, 2), (101, .iaload, 1), (102, .aload_n 0, 1), (103, .getfield 75, 3), (106, .iload 4, 2), (108, .iaload, 1), (109, .if_icmp .ne 7, 3), (112, .iconst 1, 1), (113, .goto 4, 3), (116, .iconst 0, 1), (117, .istore_n 3, 1), (118, .iinc 4 1, 3), (121, .goto (-41), 3), (124, .aload_n 0, 1), (125, .invokevirtual 345, 3), (128, .iload_n 3, 1), (129, .ireturn, 1)]
set_option maxRecDepth 100000 in
theorem kX7_isIdle : gchk cX7_isIdle tX7_isIdle = true := by decide +kernel
def tX7_mixed : List (Nat × Instr × Nat) := [(0, .iload_n 2, 1), (1, .i2l, 1), (2, .lconst 0, 1), (3, .ldc2_w 308, 3), (6, .invokestatic 140, 3), (9, .ifCond .ne 6, 3), (12, .bipush (-2), 2), (14, .ireturn, 1), (15, .aload_n 0, 1), (16, .invokevirtual 336, 3), (19, .aload_n 0, 1), (20, .iconst 1, 1), (21, .aload_n 0, 1), (22, .getfield 312, 3), (25, .ishl, 1), (26, .iconst 1, 1), (27, .isub, 1), (28, .iconst 0, 1), (29, .iconst (-1), 1), (30, .invokevirtual 339, 3), (33, .aload_n 0, 1), (34, .getfield 229, 3), (37, .ifCond .eq 7, 3), (40, .iconst (-1), 1), (41, .goto 9, 3), (44, .aload_n 0, 1), (45, .getfield 13, 3), (48, .iload_n 2, 1), (49, .iaload, 1), (50, .istore_n 3, 1), (51, .aload_n 0, 1), (52, .invokevirtual 345, 3), (55, .iload_n 3, 1), (56, .ireturn, 1)]
set_option maxRecDepth 100000 in
theorem kX7_mixed : gchk cX7_mixed tX7_mixed = true := by decide +kernel
def tX7_wentBy : List (Nat × Instr × Nat) := [(0, .iconst 0, 1), (1, .istore_n 2, 1), (2, .iconst 0, 1), (3, .istore_n 3, 1), (4, .iload_n 3, 1), (5, .aload_n 0, 1), (6, .getfield 262, 3), (9, .if_icmp .ge 27, 3), (12, .iload_n 2, 1), (13, .aload_n 0, 1), (14, .getfield 42, 3), (17, .iload_n 3, 1), (18, .iaload, 1), (19, .iload_n 1, 1), (20, .if_icmp .ne 7, 3), (23, .iconst 1, 1), (24, .goto 4, 3), (27, .iconst 0, 1), (28, .iadd, 1), (29, .istore_n 2, 1), (30, .iinc 3 1, 3), (33, .goto (-29), 3), (36, .iload_n 2, 1), (37, .ireturn, 1)]
set_option maxRecDepth 100000 in
theorem kX7_wentBy : gchk cX7_wentBy tX7_wentBy = true := by decide +kernel
def tX7_told : List (Nat × Instr × Nat) := [(0, .iload_n 1, 1), (1, .i2l, 1), (2, .lconst 0, 1), (3, .aload_n 0, 1), (4, .getfield 226, 3), (7, .iconst 1, 1), (8, .isub, 1), (9, .i2l, 1), (10, .invokestatic 140, 3), (13, .ifCond .eq 15, 3), (16, .iload_n 2, 1), (17, .i2l, 1), (18, .lconst 0, 1), (19, .ldc2_w 348, 3), (22, .invokestatic 140, 3), (25, .ifCond .ne 6, 3), (28, .bipush (-2), 2), (30, .ireturn, 1), (31, .iload_n 2, 1), (32, .iconst 5, 1), (33, .if_icmp .ne 13, 3), (36, .aload_n 0, 1), (37, .iload_n 1, 1), (38, .invokevirtual 279, 3), (41, .aload_n 0, 1), (42, .getfield 250, 3), (45, .ireturn, 1), (46, .iload_n 2, 1), (47, .ifCond .ne 12, 3), (50, .aload_n 0, 1), (51, .getfield 17, 3), (54, .iload_n 1, 1), (55, .iaload, 1), (56, .goto 78, 3), (59, .iload_n 2, 1), (60, .iconst 1, 1), (61, .if_icmp .ne 12, 3), (64, .aload_n 0, 1), (65, .getfield 20, 3), (68, .iload_n 1, 1), (69, .iaload, 1), (70, .goto 64, 3), (73, .iload_n 2, 1), (74, .iconst 2, 1), (75, .if_icmp .ne 11, 3), (78, .aload_n 0, 1), (79, .iload_n 1, 1), (80, .invokevirtual 293, 3), (83, .goto 51, 3), (86, .iload_n 2, 1), (87, .iconst 3, 1), (88, .if_icmp .ne 20, 3), (91, .aload_n 0, 1), (92, .getfield 30, 3), (95, .iload_n 1, 1), (96, .baload, 1), (97, .ifCond .eq 7, 3), (100, .iconst 1, 1), (101, .goto 33, 3), (104, .iconst 0, 1), (105, .goto 29, 3), (108, .iload_n 2, 1), (109, .iconst 4, 1), (110, .if_icmp .ne 19, 3), (113, .aload_n 0, 1), (114, .iload_n 1, 1), (115, .invokevirtual 350, 3), (118, .ifCond .eq 7, 3), (121, .iconst 1, 1), (122, .goto 12, 3), (125, .iconst 0, 1), (126, .goto 8, 3), (129, .aload_n 0, 1), (130, .iload_n 1, 1), (131, .invokevirtual 353, 3), (134, .ireturn, 1)]
set_option maxRecDepth 100000 in
theorem kX7_told : gchk cX7_told tX7_told = true := by decide +kernel
def tX7_ruleCount : List (Nat × Instr × Nat) := [(0, .iconst 0, 1), (1, .istore_n 2, 1), (2, .iconst 0, 1), (3, .istore_n 3, 1), (4, .iload_n 3, 1), (5, .aload_n 0, 1), (6, .getfield 226, 3), (9, .if_icmp .ge 22, 3), (12, .iload_n 2, 1), (13, .aload_n 0, 1), (14, .getfield 20, 3), (17, .iload_n 3, 1), (18, .iaload, 1), (19, .iload_n 1, 1), (20, .ishr, 1), (21, .iconst 1, 1), (22, .iand, 1), (23, .iadd, 1), (24, .istore_n 2, 1), (25, .iinc 3 1, 3), (28, .goto (-24), 3), (31, .iload_n 2, 1), (32, .ireturn, 1)]
set_option maxRecDepth 100000 in
theorem kX7_ruleCount : gchk cX7_ruleCount tX7_ruleCount = true := by decide +kernel
def tX7_chosen : List (Nat × Instr × Nat) := [(0, .iconst (-1), 1), (1, .istore_n 1, 1), (2, .iconst 0, 1), (3, .istore_n 2, 1), (4, .iconst 0, 1), (5, .istore_n 3, 1), (6, .iload_n 3, 1), (7, .bipush 8, 2), (9, .if_icmp .ge 87, 3), (12, .aload_n 0, 1), (13, .getfield 13, 3), (16, .iload_n 3, 1), (17, .iaload, 1), (18, .invokestatic 189, 3), (21, .istore 4, 2), (23, .aload_n 0, 1), (24, .getfield 356, 3), (27, .ifCond .ne 7, 3), (30, .iconst 0, 1), (31, .goto 35, 3), (34, .aload_n 0, 1), (35, .getfield 356, 3), (38, .iconst 1, 1), (39, .if_icmp .ne 9, 3), (42, .iload 4, 2), (44, .ineg, 1), (45, .goto 21, 3), (48, .aload_n 0, 1), (49, .getfield 356, 3), (52, .iconst 2, 1), (53, .if_icmp .ne 8, 3), (56, .iload 4, 2), (58, .goto 8, 3), (61, .aload_n 0, 1), (62, .iload_n 3, 1), (63, .invokevirtual 359, 3), (66, .istore 5, 2), (68, .iload 4, 2), (70, .iconst 1, 1), (71, .if_icmp .eq 19, 3), (74, .iload_n 1, 1), (75, .iconst (-1), 1), (76, .if_icmp .eq 9, 3), (79, .iload 5, 2), (81, .iload_n 2, 1), (82, .if_icmp .le 8, 3), (85, .iload_n 3, 1), (86, .istore_n 1, 1), (87, .iload 5, 2), (89, .istore_n 2, 1), (90, .iinc 3 1, 3), (93, .goto (-87), 3), (96, .iload_n 1, 1), (97, .ireturn, 1)]
set_option maxRecDepth 100000 in
theorem kX7_chosen : gchk cX7_chosen tX7_chosen = true := by decide +kernel
def tX7_picked : List (Nat × Instr × Nat) := [(0, .aload_n 0, 1), (1, .getfield 13, 3), (4, .iload_n 1, 1), (5, .iaload, 1), (6, .invokestatic 189, 3), (9, .istore_n 2, 1), (10, .aload_n 0, 1), (11, .getfield 362, 3), (14, .ifCond .ne 7, 3), (17, .iconst 0, 1), (18, .goto 20, 3), (21, .aload_n 0, 1), (22, .getfield 362, 3), (25, .iconst 1, 1), (26, .if_icmp .ne 9, 3), (29, .iload_n 2, 1), (30, .iconst 1, 1), (31, .isub, 1), (32, .goto 6, 3), (35, .iload_n 2, 1), (36, .iconst 2, 1), (37, .idiv, 1), (38, .istore_n 3, 1), (39, .iconst 0, 1), (40, .istore 4, 2), (42, .iload 4, 2), (44, .bipush 10, 2), (46, .if_icmp .ge 34, 3), (49, .aload_n 0, 1), (50, .getfield 13, 3), (53, .iload_n 1, 1), (54, .iaload, 1), (55, .iload 4, 2), (57, .ishr, 1), (58, .iconst 1, 1), (59, .iand, 1), (60, .iconst 1, 1), (61, .if_icmp .ne 13, 3), (64, .iload_n 3, 1), (65, .ifCond .ne 6, 3), (68, .iload 4, 2), (70, .ireturn, 1), (71, .iinc 3 (-1), 3), (74, .iinc 4 1, 3), (77, .goto (-35), 3), (80, .iconst (-1), 1), (81, .ireturn, 1)]
set_option maxRecDepth 100000 in
theorem kX7_picked : gchk cX7_picked tX7_picked = true := by decide +kernel
def tX7_runsAll : List (Nat × Instr × Nat) := [(0, .aload_n 0, 1), (1, .invokevirtual 296, 3), (4, .istore_n 1, 1), (5, .iload_n 1, 1), (6, .iconst (-1), 1), (7, .if_icmp .eq 23, 3), (10, .aload_n 0, 1), (11, .getfield 30, 3), (14, .iload_n 1, 1), (15, .iconst 0, 1), (16, .bastore, 1), (17, .aload_n 0, 1), (18, .iload_n 1, 1), (19, .invokevirtual 302, 3), (22, .aload_n 0, 1), (23, .invokevirtual 296, 3), (26, .istore_n 1, 1), (27, .goto (-22), 3), (30, .return_, 1)]
set_option maxRecDepth 100000 in
theorem kX7_runsAll : gchk cX7_runsAll tX7_runsAll = true := by decide +kernel
def tX7_lowest : List (Nat × Instr × Nat) := [(0, .iconst 0, 1), (1, .istore_n 1, 1), (2, .iload_n 0, 1), (3, .iload_n 1, 1), (4, .ishr, 1), (5, .iconst 1, 1), (6, .iand, 1), (7, .ifCond .ne 9, 3), (10, .iinc 1 1, 3), (13, .goto (-11), 3), (16, .iload_n 1, 1), (17, .ireturn, 1)]
set_option maxRecDepth 100000 in
theorem kX7_lowest : gchk cX7_lowest tX7_lowest = true := by decide +kernel
def tX7_clears : List (Nat × Instr × Nat) := [(0, .iconst 0, 1), (1, .istore_n 1, 1), (2, .iload_n 1, 1), (3, .bipush 24, 2), (5, .if_icmp .ge 16, 3), (8, .aload_n 0, 1), (9, .getfield 30, 3), (12, .iload_n 1, 1), (13, .iconst 0, 1), (14, .bastore, 1), (15, .iinc 1 1, 3), (18, .goto (-16), 3), (21, .aload_n 0, 1), (22, .iconst 0, 1), (23, .putfield 229, 3), (26, .return_, 1)]
set_option maxRecDepth 100000 in
theorem kX7_clears : gchk cX7_clears tX7_clears = true := by decide +kernel
def tX7_searches : List (Nat × Instr × Nat) := [(0, .iload_n 1, 1), (1, .ifCond .le 7, 3), (4, .iconst 1, 1), (5, .goto 4, 3), (8, .iconst 0, 1), (9, .istore_n 3, 1), (10, .aload_n 0, 1), (11, .invokevirtual 365, 3), (14, .aload_n 0, 1), (15, .getfield 229, 3), (18, .ifCond .eq 20, 3), (21, .aload_n 0, 1), (22, .dup, 1), (23, .getfield 368, 3), (26, .iconst 1, 1), (27, .iadd, 1), (28, .putfield 368, 3), (31, .aload_n 0, 1), (32, .iload_n 3, 1), (33, .putfield 371, 3), (36, .iconst 0, 1), (37, .ireturn, 1), (38, .iconst 0, 1), (39, .istore_n 3, 1), (40, .aload_n 0, 1), (41, .invokevirtual 374, 3), (44, .istore 4, 2), (46, .iload 4, 2), (48, .iconst (-1), 1), (49, .if_icmp .ne 62, 3), (52, .aload_n 0, 1), (53, .dup, 1), (54, .getfield 377, 3), (57, .iconst 1, 1), (58, .iadd, 1), (59, .putfield 377, 3), (62, .iconst 0, 1), (63, .istore 5, 2), (65, .iload 5, 2), (67, .bipush 8, 2), (69, .if_icmp .ge 26, 3), (72, .aload_n 0, 1), (73, .getfield 78, 3), (76, .iload 5, 2), (78, .aload_n 0, 1), (79, .getfield 13, 3), (82, .iload 5, 2), (84, .iaload, 1), (85, .invokestatic 380, 3), (88, .iastore, 1), (89, .iinc 5 1, 3), (92, .goto (-27), 3), (95, .aload_n 0, 1), (96, .iconst 0, 1), (97, .putfield 371, 3), (100, .aload_n 0, 1), (101, .getfield 383, 3), (104, .ifCond .ne 5, 3), (107, .iconst 1, 1), (108, .ireturn, 1), (109, .iconst 0, 1), (110, .ireturn, 1), (111, .aload_n 0, 1), (112, .getfield 386, 3), (115, .iload_n 2, 1), (116, .if_icmp .ne 6, 3), (119, .bipush (-6), 2), (121, .ireturn, 1), (122, .aload_n 0, 1), (123, .dup, 1), (124, .getfield 386, 3), (127, .iconst 1, 1), (128, .iadd, 1), (129, .putfield 386, 3), (132, .aload_n 0, 1), (133, .iload 4, 2), (135, .invokevirtual 389, 3), (138, .istore 5, 2), (140, .aload_n 0, 1), (141, .getfield 69, 3), (144, .iload_n 1, 1), (145, .iload 4, 2), (147, .iastore, 1), (148, .aload_n 0, 1), (149, .getfield 72, 3), (152, .iload_n 1, 1), (153, .iload 5, 2), (155, .iastore, 1), (156, .iconst 0, 1), (157, .istore 6, 2), (159, .iload 6, 2), (161, .bipush 8, 2), (163, .if_icmp .ge 28, 3), (166, .aload_n 0, 1), (167, .getfield 81, 3), (170, .bipush 8, 2), (172, .iload_n 1, 1), (173, .imul, 1), (174, .iload 6, 2), (176, .iadd, 1), (177, .aload_n 0, 1), (178, .getfield 13, 3), (181, .iload 6, 2), (183, .iaload, 1), (184, .iastore, 1), (185, .iinc 6 1, 3), (188, .goto (-29), 3), (191, .aload_n 0, 1), (192, .iload 4, 2), (194, .iconst 1, 1), (195, .iload 5, 2), (197, .ishl, 1), (198, .iconst 0, 1), (199, .invokevirtual 315, 3), (202, .aload_n 0, 1), (203, .iload_n 1, 1), (204, .iconst 1, 1), (205, .iadd, 1), (206, .iload_n 2, 1), (207, .invokevirtual 392, 3), (210, .istore 6, 2), (212, .iload 6, 2), (214, .ifCond .eq 6, 3), (217, .iload 6, 2), (219, .ireturn, 1), (220, .aload_n 0, 1), (221, .getfield 371, 3), (224, .ifCond .eq 33, 3), (227, .aload_n 0, 1), (228, .getfield 395, 3), (231, .ifCond .eq 26, 3), (234, .aload_n 0, 1), (235, .getfield 239, 3), (238, .bipush 8, 2), (240, .if_icmp .ge 17, 3), (243, .aload_n 0, 1), (244, .iload_n 1, 1), (245, .iconst 1, 1), (246, .iadd, 1), (247, .invokevirtual 398, 3), (250, .ifCond .eq 7, 3), (253, .iconst 1, 1), (254, .goto 4, 3), (257, .iconst 0, 1), (258, .istore 7, 2), (260, .aload_n 0, 1), (261, .iconst 0, 1), (262, .putfield 371, 3), (265, .aload_n 0, 1), (266, .invokevirtual 401, 3), (269, .iconst 0, 1), (270, .istore 8, 2), (272, .iload 8, 2), (274, .bipush 8, 2), (276, .if_icmp .ge 28, 3), (279, .aload_n 0, 1), (280, .getfield 13, 3), (283, .iload 8, 2), (285, .aload_n 0, 1), (286, .getfield 81, 3), (289, .bipush 8, 2), (291, .iload_n 1, 1), (292, .imul, 1), (293, .iload 8, 2), (295, .iadd, 1), (296, .iaload, 1), (297, .iastore, 1), (298, .iinc 8 1, 3), (301, .goto (-29), 3), (304, .aload_n 0, 1), (305, .iload 4, 2), (307, .iconst 1, 1), (308, .iload 5, 2), (310, .ishl, 1), (311, .iconst (-1), 1), (312, .ixor, 1), (313, .iconst 0, 1), (314, .invokevirtual 315, 3), (317, .iload 7, 2), (319, .ifCond .eq 18, 3), (322, .aload_n 0, 1), (323, .getfield 30, 3), (326, .bipush 16, 2), (328, .aload_n 0, 1), (329, .getfield 239, 3), (332, .iadd, 1), (333, .iconst 1, 1), (334, .isub, 1), (335, .iconst 1, 1), (336, .bastore, 1), (337, .goto (-327), 3)]
set_option maxRecDepth 100000 in
theorem kX7_searches : gchk cX7_searches tX7_searches = true := by decide +kernel
def tX7_learns : List (Nat × Instr × Nat) := [(0, .iconst 1, 1), (1, .iload_n 1, 1), (2, .ishl, 1), (3, .iconst 1, 1), (4, .isub, 1), (5, .istore_n 2, 1), (6, .iconst 1, 1), (7, .aload_n 0, 1), (8, .getfield 312, 3), (11, .ishl, 1), (12, .iconst 1, 1), (13, .isub, 1), (14, .istore_n 3, 1), (15, .aload_n 0, 1), (16, .iload_n 3, 1), (17, .iload_n 2, 1), (18, .iconst (-1), 1), (19, .invokevirtual 339, 3), (22, .aload_n 0, 1), (23, .getfield 229, 3), (26, .ifCond .ne 5, 3), (29, .iconst 0, 1), (30, .ireturn, 1), (31, .iconst 0, 1), (32, .istore 4, 2), (34, .iload 4, 2), (36, .iload_n 1, 1), (37, .if_icmp .ge 43, 3), (40, .aload_n 0, 1), (41, .iload_n 3, 1), (42, .iload_n 2, 1), (43, .iconst 1, 1), (44, .iload 4, 2), (46, .ishl, 1), (47, .iconst (-1), 1), (48, .ixor, 1), (49, .iand, 1), (50, .iconst (-1), 1), (51, .invokevirtual 339, 3), (54, .aload_n 0, 1), (55, .getfield 229, 3), (58, .ifCond .eq 14, 3), (61, .iload_n 2, 1), (62, .iconst 1, 1), (63, .iload 4, 2), (65, .ishl, 1), (66, .iconst (-1), 1), (67, .ixor, 1), (68, .iand, 1), (69, .goto 4, 3), (72, .iload_n 2, 1), (73, .istore_n 2, 1), (74, .iinc 4 1, 3), (77, .goto (-43), 3), (80, .bipush 16, 2), (82, .aload_n 0, 1), (83, .getfield 239, 3), (86, .iadd, 1), (87, .istore 4, 2), (89, .aload_n 0, 1), (90, .getfield 17, 3), (93, .iload 4, 2), (95, .iconst 3, 1), (96, .iastore, 1), (97, .aload_n 0, 1), (98, .getfield 20, 3), (101, .iload 4, 2), (103, .iconst 0, 1), (104, .iastore, 1), (105, .iconst 0, 1), (106, .istore 5, 2), (108, .iload 5, 2), (110, .iload_n 1, 1), (111, .if_icmp .ge 65, 3), (114, .iload_n 2, 1), (115, .iload 5, 2), (117, .ishr, 1), (118, .iconst 1, 1), (119, .iand, 1), (120, .iconst 1, 1), (121, .if_icmp .ne 49, 3), (124, .aload_n 0, 1), (125, .getfield 20, 3), (128, .iload 4, 2), (130, .dup2, 1), (131, .iaload, 1), (132, .iconst 1, 1), (133, .aload_n 0, 1), (134, .getfield 69, 3), (137, .iload 5, 2), (139, .iaload, 1), (140, .ishl, 1), (141, .ior, 1), (142, .iastore, 1), (143, .aload_n 0, 1), (144, .getfield 27, 3), (147, .bipush 8, 2), (149, .aload_n 0, 1), (150, .getfield 239, 3), (153, .imul, 1), (154, .aload_n 0, 1), (155, .getfield 69, 3), (158, .iload 5, 2), (160, .iaload, 1), (161, .iadd, 1), (162, .aload_n 0, 1), (163, .getfield 72, 3), (166, .iload 5, 2), (168, .iaload, 1), (169, .iastore, 1), (170, .iinc 5 1, 3), (173, .goto (-65), 3), (176, .aload_n 0, 1), (177, .dup, 1), (178, .getfield 239, 3), (181, .iconst 1, 1), (182, .iadd, 1), (183, .putfield 239, 3), (186, .iconst 1, 1), (187, .ireturn, 1)]
set_option maxRecDepth 100000 in
theorem kX7_learns : gchk cX7_learns tX7_learns = true := by decide +kernel
def tX7_searched : List (Nat × Instr × Nat) := [(0, .aload_n 0, 1), (1, .iload_n 1, 1), (2, .putfield 356, 3), (5, .aload_n 0, 1), (6, .iload_n 2, 1), (7, .putfield 362, 3), (10, .aload_n 0, 1), (11, .iload_n 3, 1), (12, .putfield 395, 3), (15, .aload_n 0, 1), (16, .iload 4, 2), (18, .putfield 383, 3), (21, .aload_n 0, 1), (22, .iconst 0, 1), (23, .putfield 386, 3), (26, .aload_n 0, 1), (27, .iconst 0, 1), (28, .putfield 368, 3), (31, .aload_n 0, 1), (32, .iconst 0, 1), (33, .putfield 377, 3), (36, .aload_n 0, 1), (37, .iconst 0, 1), (38, .putfield 239, 3), (41, .aload_n 0, 1), (42, .iconst 0, 1), (43, .putfield 371, 3), (46, .aload_n 0, 1), (47, .iconst 0, 1), (48, .iload 5, 2), (50, .invokevirtual 392, 3), (53, .istore 6, 2), (55, .aload_n 0, 1), (56, .aload_n 0, 1), (57, .getfield 239, 3), (60, .putfield 404, 3), (63, .aload_n 0, 1), (64, .iconst 0, 1), (65, .putfield 239, 3), (68, .iload 6, 2), (70, .ireturn, 1)]
set_option maxRecDepth 100000 in
theorem kX7_searched : gchk cX7_searched tX7_searched = true := by decide +kernel
def tX7_search : List (Nat × Instr × Nat) := [(0, .iload_n 1, 1), (1, .i2l, 1), (2, .lconst 0, 1), (3, .ldc2_w 407, 3), (6, .invokestatic 140, 3), (9, .ifCond .eq 38, 3), (12, .iload_n 2, 1), (13, .i2l, 1), (14, .lconst 0, 1), (15, .ldc2_w 248, 3), (18, .invokestatic 140, 3), (21, .ifCond .eq 26, 3), (24, .iload_n 3, 1), (25, .i2l, 1), (26, .lconst 0, 1), (27, .lconst 1, 1), (28, .invokestatic 140, 3), (31, .ifCond .eq 16, 3), (34, .iload 4, 2), (36, .i2l, 1), (37, .lconst 0, 1), (38, .ldc2_w 407, 3), (41, .invokestatic 140, 3), (44, .ifCond .ne 6, 3), (47, .bipush (-2), 2), (49, .ireturn, 1), (50, .aload_n 0, 1), (51, .invokevirtual 409, 3), (54, .aload_n 0, 1), (55, .iload_n 1, 1), (56, .iload_n 2, 1), (57, .iload_n 3, 1), (58, .iconst 1, 1), (59, .if_icmp .ne 7, 3), (62, .iconst 1, 1), (63, .goto 4, 3), (66, .iconst 0, 1), (67, .iconst 0, 1), (68, .bipush 100, 2), (70, .invokevirtual 412, 3), (73, .istore 5, 2), (75, .aload_n 0, 1), (76, .invokevirtual 416, 3), (79, .iload 5, 2), (81, .bipush (-6), 2), (83, .if_icmp .ne 6, 3), (86, .bipush (-6), 2), (88, .ireturn, 1), (89, .iload 4, 2), (91, .ifCond .le 34, 3), (94, .iload 4, 2), (96, .iconst 1, 1), (97, .if_icmp .ne 10, 3), (100, .aload_n 0, 1), (101, .getfield 386, 3), (104, .goto 20, 3), (107, .iload 4, 2), (109, .iconst 2, 1), (110, .if_icmp .ne 10, 3), (113, .aload_n 0, 1), (114, .getfield 368, 3), (117, .goto 7, 3), (120, .aload_n 0, 1), (121, .getfield 404, 3), (124, .ireturn, 1), (125, .iconst 0, 1), (126, .istore 6, 2), (128, .iconst 0, 1), (129, .istore 7, 2), (131, .iload 7, 2), (133, .bipush 8, 2), (135, .if_icmp .ge 24, 3), (138, .bipush 10, 2), (140, .iload 6, 2), (142, .imul, 1), (143, .aload_n 0, 1), (144, .getfield 78, 3), (147, .iload 7, 2), (149, .iaload, 1), (150, .iadd, 1), (151, .istore 6, 2), (153, .iinc 7 1, 3), (156, .goto (-25), 3), (159, .iload 5, 2), (161, .iconst 1, 1), (162, .if_icmp .ne 8, 3), (165, .iload 6, 2), (167, .goto 4, 3), (170, .iconst (-1), 1), (171, .ireturn, 1)]
set_option maxRecDepth 100000 in
theorem kX7_search : gchk cX7_search tX7_search = true := by decide +kernel
def tX7_laysAside2 : List (Nat × Instr × Nat) := [(0, .iconst 0, 1), (1, .istore_n 1, 1), (2, .iload_n 1, 1), (3, .bipush 8, 2), (5, .if_icmp .ge 21, 3), (8, .aload_n 0, 1), (9, .getfield 84, 3), (12, .iload_n 1, 1), (13, .aload_n 0, 1), (14, .getfield 13, 3), (17, .iload_n 1, 1), (18, .iaload, 1), (19, .iastore, 1), (20, .iinc 1 1, 3), (23, .goto (-21), 3), (26, .iconst 0, 1), (27, .istore_n 1, 1), (28, .iload_n 1, 1), (29, .bipush 24, 2), (31, .if_icmp .ge 21, 3), (34, .aload_n 0, 1), (35, .getfield 87, 3), (38, .iload_n 1, 1), (39, .aload_n 0, 1), (40, .getfield 30, 3), (43, .iload_n 1, 1), (44, .baload, 1), (45, .bastore, 1), (46, .iinc 1 1, 3), (49, .goto (-21), 3), (52, .aload_n 0, 1), (53, .aload_n 0, 1), (54, .getfield 229, 3), (57, .putfield 419, 3), (60, .aload_n 0, 1), (61, .iconst 1, 1), (62, .putfield 259, 3), (65, .return_, 1)]
set_option maxRecDepth 100000 in
theorem kX7_laysAside2 : gchk cX7_laysAside2 tX7_laysAside2 = true := by decide +kernel
def tX7_laysBack2 : List (Nat × Instr × Nat) := [(0, .iconst 0, 1), (1, .istore_n 1, 1), (2, .iload_n 1, 1), (3, .bipush 8, 2), (5, .if_icmp .ge 21, 3), (8, .aload_n 0, 1), (9, .getfield 13, 3), (12, .iload_n 1, 1), (13, .aload_n 0, 1), (14, .getfield 84, 3), (17, .iload_n 1, 1), (18, .iaload, 1), (19, .iastore, 1), (20, .iinc 1 1, 3), (23, .goto (-21), 3), (26, .iconst 0, 1), (27, .istore_n 1, 1), (28, .iload_n 1, 1), (29, .bipush 24, 2), (31, .if_icmp .ge 21, 3), (34, .aload_n 0, 1), (35, .getfield 30, 3), (38, .iload_n 1, 1), (39, .aload_n 0, 1), (40, .getfield 87, 3), (43, .iload_n 1, 1), (44, .baload, 1), (45, .bastore, 1), (46, .iinc 1 1, 3), (49, .goto (-21), 3), (52, .aload_n 0, 1), (53, .aload_n 0, 1), (54, .getfield 419, 3), (57, .putfield 229, 3), (60, .aload_n 0, 1), (61, .iconst 0, 1), (62, .putfield 259, 3), (65, .return_, 1)]
set_option maxRecDepth 100000 in
theorem kX7_laysBack2 : gchk cX7_laysBack2 tX7_laysBack2 = true := by decide +kernel
def tX7_solutions : List (Nat × Instr × Nat) := [(0, .aload_n 0, 1), (1, .invokevirtual 409, 3), (4, .aload_n 0, 1), (5, .iconst 0, 1), (6, .iconst 0, 1), (7, .iconst 0, 1), (8, .iconst 1, 1), (9, .sipush 300, 3), (12, .invokevirtual 412, 3), (15, .istore_n 1, 1), (16, .aload_n 0, 1), (17, .invokevirtual 416, 3), (20, .iload_n 1, 1), (21, .bipush (-6), 2), (23, .if_icmp .ne 9, 3), (26, .ldc2_w 422, 3), (29, .goto 8, 3), (32, .aload_n 0, 1), (33, .getfield 377, 3), (36, .i2l, 1), (37, .lreturn, 1)]
set_option maxRecDepth 100000 in
theorem kX7_solutions : gchk cX7_solutions tX7_solutions = true := by decide +kernel
def tX7_reach : List (Nat × Instr × Nat) := [(0, .iload_n 1, 1), (1, .i2l, 1), (2, .lconst 0, 1), (3, .ldc2_w 308, 3), (6, .invokestatic 140, 3), (9, .ifCond .eq 13, 3), (12, .iload_n 2, 1), (13, .i2l, 1), (14, .lconst 0, 1), (15, .lconst 1, 1), (16, .invokestatic 140, 3), (19, .ifCond .ne 6, 3), (22, .bipush (-2), 2), (24, .ireturn, 1), (25, .iconst (-1), 1), (26, .istore_n 3, 1), (27, .iconst 0, 1), (28, .istore 4, 2), (30, .iload 4, 2), (32, .bipush 10, 2), (34, .if_icmp .ge 124, 3), (37, .iload_n 3, 1), (38, .iconst (-1), 1), (39, .if_icmp .ne 119, 3), (42, .iload_n 2, 1), (43, .ifCond .ne 8, 3), (46, .iload 4, 2), (48, .goto 8, 3), (51, .bipush 9, 2), (53, .iload 4, 2), (55, .isub, 1), (56, .istore 5, 2), (58, .aload_n 0, 1), (59, .invokevirtual 409, 3), (62, .aload_n 0, 1), (63, .getfield 229, 3), (66, .ifCond .ne 22, 3), (69, .aload_n 0, 1), (70, .getfield 13, 3), (73, .iload_n 1, 1), (74, .iaload, 1), (75, .iload 5, 2), (77, .ishr, 1), (78, .iconst 1, 1), (79, .iand, 1), (80, .iconst 1, 1), (81, .if_icmp .ne 7, 3), (84, .iconst 1, 1), (85, .goto 4, 3), (88, .iconst 0, 1), (89, .istore 6, 2), (91, .iload 6, 2), (93, .ifCond .eq 13, 3), (96, .aload_n 0, 1), (97, .iload_n 1, 1), (98, .iconst 1, 1), (99, .iload 5, 2), (101, .ishl, 1), (102, .iconst 0, 1), (103, .invokevirtual 315, 3), (106, .iload 6, 2), (108, .ifCond .eq 16, 3), (111, .aload_n 0, 1), (112, .iconst 0, 1), (113, .iconst 0, 1), (114, .iconst 0, 1), (115, .iconst 0, 1), (116, .bipush 100, 2), (118, .invokevirtual 412, 3), (121, .goto 4, 3), (124, .iconst 0, 1), (125, .istore 7, 2), (127, .aload_n 0, 1), (128, .invokevirtual 416, 3), (131, .iload 7, 2), (133, .iconst 1, 1), (134, .if_icmp .ne 8, 3), (137, .iload 5, 2), (139, .goto 5, 3), (142, .iload 7, 2), (144, .istore_n 3, 1), (145, .iload 7, 2), (147, .ifCond .ne 5, 3), (150, .iconst (-1), 1), (151, .istore_n 3, 1), (152, .iinc 4 1, 3), (155, .goto (-125), 3), (158, .iload_n 3, 1), (159, .ireturn, 1)]
set_option maxRecDepth 100000 in
theorem kX7_reach : gchk cX7_reach tX7_reach = true := by decide +kernel
def tX7_isFound : List (Nat × Instr × Nat) := [(0, .aload_n 0, 1), (1, .invokevirtual 409, 3), (4, .aload_n 0, 1), (5, .iload_n 2, 1), (6, .iload_n 3, 1), (7, .iconst 0, 1), (8, .iconst 0, 1), (9, .bipush 100, 2), (11, .invokevirtual 412, 3), (14, .iconst 1, 1), (15, .if_icmp .ne 7, 3), (18, .iconst 1, 1), (19, .goto 4, 3), (22, .iconst 0, 1), (23, .istore 4, 2), (25, .aload_n 0, 1), (26, .invokevirtual 416, 3), (29, .iconst 0, 1), (30, .istore 5, 2), (32, .iload 5, 2), (34, .bipush 8, 2), (36, .if_icmp .ge 43, 3), (39, .iload 4, 2), (41, .ifCond .eq 29, 3), (44, .aload_n 0, 1), (45, .getfield 78, 3), (48, .iload 5, 2), (50, .iaload, 1), (51, .aload_n 0, 1), (52, .getfield 135, 3), (55, .bipush 40, 2), (57, .iload_n 1, 1), (58, .imul, 1), (59, .iload 5, 2), (61, .iadd, 1), (62, .iaload, 1), (63, .if_icmp .ne 7, 3), (66, .iconst 1, 1), (67, .goto 4, 3), (70, .iconst 0, 1), (71, .istore 4, 2), (73, .iinc 5 1, 3), (76, .goto (-44), 3), (79, .iload 4, 2), (81, .ireturn, 1)]
set_option maxRecDepth 100000 in
theorem kX7_isFound : gchk cX7_isFound tX7_isFound = true := by decide +kernel
def tX7_isSo : List (Nat × Instr × Nat) := [(0, .aload_n 0, 1), (1, .getfield 20, 3), (4, .iload_n 2, 1), (5, .iaload, 1), (6, .invokestatic 189, 3), (9, .istore_n 3, 1), (10, .iload_n 3, 1), (11, .ifCond .le 26, 3), (14, .aload_n 0, 1), (15, .getfield 135, 3), (18, .bipush 40, 2), (20, .iload_n 1, 1), (21, .imul, 1), (22, .aload_n 0, 1), (23, .getfield 20, 3), (26, .iload_n 2, 1), (27, .iaload, 1), (28, .iconst 0, 1), (29, .invokestatic 235, 3), (32, .iadd, 1), (33, .iaload, 1), (34, .goto 4, 3), (37, .iconst 0, 1), (38, .istore 4, 2), (40, .iload_n 3, 1), (41, .iconst 1, 1), (42, .if_icmp .le 26, 3), (45, .aload_n 0, 1), (46, .getfield 135, 3), (49, .bipush 40, 2), (51, .iload_n 1, 1), (52, .imul, 1), (53, .aload_n 0, 1), (54, .getfield 20, 3), (57, .iload_n 2, 1), (58, .iaload, 1), (59, .iconst 1, 1), (60, .invokestatic 235, 3), (63, .iadd, 1), (64, .iaload, 1), (65, .goto 4, 3), (68, .iconst 0, 1), (69, .istore 5, 2), (71, .iload_n 3, 1), (72, .iconst 2, 1), (73, .if_icmp .le 26, 3), (76, .aload_n 0, 1), (77, .getfield 135, 3), (80, .bipush 40, 2), (82, .iload_n 1, 1), (83, .imul, 1), (84, .aload_n 0, 1), (85, .getfield 20, 3), (88, .iload_n 2, 1), (89, .iaload, 1), (90, .iconst 2, 1), (91, .invokestatic 235, 3), (94, .iadd, 1), (95, .iaload, 1), (96, .goto 4, 3), (99, .iconst 0, 1), (100, .istore 6, 2), (102, .aload_n 0, 1), (103, .iload_n 2, 1), (104, .iload 4, 2), (106, .iload 5, 2), (108, .iload 6, 2), (110, .invokevirtual 244, 3), (113, .ireturn, 1)]
set_option maxRecDepth 100000 in
theorem kX7_isSo : gchk cX7_isSo tX7_isSo = true := by decide +kernel
def tX7_tells : List (Nat × Instr × Nat) := [(0, .iload_n 1, 1), (1, .invokestatic 424, 3), (4, .ifCond .eq 15, 3), (7, .iload_n 2, 1), (8, .i2l, 1), (9, .lconst 0, 1), (10, .ldc2_w 248, 3), (13, .invokestatic 140, 3), (16, .ifCond .ne 6, 3), (19, .bipush (-2), 2), (21, .ireturn, 1), (22, .aload_n 0, 1), (23, .getfield 126, 3), (26, .iload_n 1, 1), (27, .baload, 1), (28, .ifCond .ne 6, 3), (31, .bipush (-11), 2), (33, .ireturn, 1), (34, .aload_n 0, 1), (35, .getfield 132, 3), (38, .iload_n 1, 1), (39, .iaload, 1), (40, .bipush 8, 2), (42, .if_icmp .eq 6, 3), (45, .bipush (-2), 2), (47, .ireturn, 1), (48, .iconst 0, 1), (49, .istore_n 3, 1), (50, .iload_n 3, 1), (51, .bipush 8, 2), (53, .if_icmp .ge 34, 3), (56, .aload_n 0, 1), (57, .getfield 135, 3), (60, .bipush 40, 2), (62, .iload_n 1, 1), (63, .imul, 1), (64, .iload_n 3, 1), (65, .iadd, 1), (66, .iaload, 1), (67, .i2l, 1), (68, .lconst 0, 1), (69, .ldc2_w 242, 3), (72, .invokestatic 140, 3), (75, .ifCond .ne 6, 3), (78, .bipush (-2), 2), (80, .ireturn, 1), (81, .iinc 3 1, 3), (84, .goto (-34), 3), (87, .iconst 0, 1), (88, .istore_n 3, 1), (89, .iconst 0, 1), (90, .istore 4, 2), (92, .iload 4, 2), (94, .bipush 12, 2), (96, .if_icmp .ge 40, 3), (99, .iload_n 2, 1), (100, .ifCond .ne 36, 3), (103, .iload_n 3, 1), (104, .aload_n 0, 1), (105, .iload_n 1, 1), (106, .iload 4, 2), (108, .iconst 3, 1), (109, .idiv, 1), (110, .iload 4, 2), (112, .iconst 3, 1), (113, .irem, 1), (114, .invokevirtual 427, 3), (117, .ifCond .eq 7, 3), (120, .iconst 1, 1), (121, .goto 4, 3), (124, .iconst 0, 1), (125, .iload 4, 2), (127, .ishl, 1), (128, .ior, 1), (129, .istore_n 3, 1), (130, .iinc 4 1, 3), (133, .goto (-41), 3), (136, .iconst 0, 1), (137, .istore 4, 2), (139, .iload 4, 2), (141, .aload_n 0, 1), (142, .getfield 226, 3), (145, .if_icmp .ge 35, 3), (148, .iload_n 2, 1), (149, .iconst 1, 1), (150, .if_icmp .ne 30, 3), (153, .iload_n 3, 1), (154, .aload_n 0, 1), (155, .iload_n 1, 1), (156, .iload 4, 2), (158, .invokevirtual 431, 3), (161, .ifCond .eq 7, 3), (164, .iconst 0, 1), (165, .goto 4, 3), (168, .iconst 1, 1), (169, .iload 4, 2), (171, .ishl, 1), (172, .ior, 1), (173, .istore_n 3, 1), (174, .iinc 4 1, 3), (177, .goto (-38), 3), (180, .iconst 0, 1), (181, .istore 4, 2), (183, .iload 4, 2), (185, .bipush 8, 2), (187, .if_icmp .ge 39, 3), (190, .iload_n 2, 1), (191, .iconst 2, 1), (192, .if_icmp .ne 34, 3), (195, .iload_n 3, 1), (196, .aload_n 0, 1), (197, .getfield 13, 3), (200, .iload 4, 2), (202, .iaload, 1), (203, .aload_n 0, 1), (204, .getfield 135, 3), (207, .bipush 40, 2), (209, .iload_n 1, 1), (210, .imul, 1), (211, .iload 4, 2), (213, .iadd, 1), (214, .iaload, 1), (215, .ishr, 1), (216, .iconst 1, 1), (217, .iand, 1), (218, .iadd, 1), (219, .istore_n 3, 1), (220, .iinc 4 1, 3), (223, .goto (-40), 3), (226, .iload_n 3, 1), (227, .ireturn, 1)]
set_option maxRecDepth 100000 in
theorem kX7_tells : gchk cX7_tells tX7_tells = true := by decide +kernel
def tX7_film : List (Nat × Instr × Nat) := [(0, .iload_n 1, 1), (1, .invokestatic 424, 3), (4, .ifCond .eq 27, 3), (7, .iload_n 2, 1), (8, .i2l, 1), (9, .lconst 0, 1), (10, .ldc2_w 407, 3), (13, .invokestatic 140, 3), (16, .ifCond .eq 15, 3), (19, .iload_n 3, 1), (20, .i2l, 1), (21, .lconst 0, 1), (22, .ldc2_w 248, 3), (25, .invokestatic 140, 3), (28, .ifCond .ne 6, 3), (31, .bipush (-2), 2), (33, .ireturn, 1), (34, .aload_n 0, 1), (35, .invokevirtual 409, 3), (38, .aload_n 0, 1), (39, .iload_n 2, 1), (40, .iload_n 3, 1), (41, .iconst 0, 1), (42, .iconst 0, 1), (43, .bipush 100, 2), (45, .invokevirtual 412, 3), (48, .istore 4, 2), (50, .aload_n 0, 1), (51, .invokevirtual 416, 3), (54, .iload 4, 2), (56, .iconst 1, 1), (57, .if_icmp .eq 17, 3), (60, .iload 4, 2), (62, .bipush (-6), 2), (64, .if_icmp .ne 8, 3), (67, .bipush (-6), 2), (69, .goto 4, 3), (72, .iconst (-1), 1), (73, .ireturn, 1), (74, .aload_n 0, 1), (75, .iload_n 1, 1), (76, .iconst 0, 1), (77, .bipush 8, 2), (79, .invokevirtual 434, 3), (82, .pop, 1), (83, .iconst 0, 1), (84, .istore 5, 2), (86, .iload 5, 2), (88, .bipush 8, 2), (90, .if_icmp .ge 28, 3), (93, .aload_n 0, 1), (94, .getfield 135, 3), (97, .bipush 40, 2), (99, .iload_n 1, 1), (100, .imul, 1), (101, .iload 5, 2), (103, .iadd, 1), (104, .aload_n 0, 1), (105, .getfield 78, 3), (108, .iload 5, 2), (110, .iaload, 1), (111, .iastore, 1), (112, .iinc 5 1, 3), (115, .goto (-29), 3), (118, .bipush 8, 2), (120, .ireturn, 1)]
set_option maxRecDepth 100000 in
theorem kX7_film : gchk cX7_film tX7_film = true := by decide +kernel
def tX7_image : List (Nat × Instr × Nat) := [(0, .iconst 0, 1), (1, .istore_n 1, 1), (2, .iload_n 1, 1), (3, .sipush 16000, 3), (6, .if_icmp .ge 21, 3), (9, .aload_n 0, 1), (10, .getfield 96, 3), (13, .iload_n 1, 1), (14, .aload_n 0, 1), (15, .getfield 23, 3), (18, .iload_n 1, 1), (19, .baload, 1), (20, .bastore, 1), (21, .iinc 1 1, 3), (24, .goto (-22), 3), (27, .iconst 0, 1), (28, .istore_n 1, 1), (29, .iload_n 1, 1), (30, .bipush 16, 2), (32, .if_icmp .ge 45, 3), (35, .aload_n 0, 1), (36, .getfield 90, 3), (39, .iload_n 1, 1), (40, .aload_n 0, 1), (41, .getfield 17, 3), (44, .iload_n 1, 1), (45, .iaload, 1), (46, .iastore, 1), (47, .aload_n 0, 1), (48, .getfield 93, 3), (51, .iload_n 1, 1), (52, .aload_n 0, 1), (53, .getfield 20, 3), (56, .iload_n 1, 1), (57, .iaload, 1), (58, .iastore, 1), (59, .aload_n 0, 1), (60, .getfield 99, 3), (63, .iload_n 1, 1), (64, .aload_n 0, 1), (65, .getfield 30, 3), (68, .iload_n 1, 1), (69, .baload, 1), (70, .bastore, 1), (71, .iinc 1 1, 3), (74, .goto (-45), 3), (77, .iconst 0, 1), (78, .istore_n 1, 1), (79, .iload_n 1, 1), (80, .bipush 80, 2), (82, .if_icmp .ge 33, 3), (85, .aload_n 0, 1), (86, .getfield 111, 3), (89, .iload_n 1, 1), (90, .aload_n 0, 1), (91, .getfield 39, 3), (94, .iload_n 1, 1), (95, .iaload, 1), (96, .iastore, 1), (97, .aload_n 0, 1), (98, .getfield 114, 3), (101, .iload_n 1, 1), (102, .aload_n 0, 1), (103, .getfield 42, 3), (106, .iload_n 1, 1), (107, .iaload, 1), (108, .iastore, 1), (109, .iinc 1 1, 3), (112, .goto (-33), 3), (115, .iconst 0, 1), (116, .istore_n 1, 1), (117, .iload_n 1, 1), (118, .bipush 12, 2), (120, .if_icmp .ge 33, 3), (123, .aload_n 0, 1), (124, .getfield 105, 3), (127, .iload_n 1, 1), (128, .aload_n 0, 1), (129, .getfield 33, 3), (132, .iload_n 1, 1), (133, .iaload, 1), (134, .iastore, 1), (135, .aload_n 0, 1), (136, .getfield 108, 3), (139, .iload_n 1, 1), (140, .aload_n 0, 1), (141, .getfield 36, 3), (144, .iload_n 1, 1), (145, .iaload, 1), (146, .iastore, 1), (147, .iinc 1 1, 3), (150, .goto (-33), 3), (153, .iconst 0, 1), (154, .istore_n 1, 1), (155, .iload_n 1, 1), (156, .bipush 8, 2), (158, .if_icmp .ge 57, 3), (161, .aload_n 0, 1), (162, .getfield 102, 3), (165, .iload_n 1, 1), (166, .aload_n 0, 1), (167, .getfield 13, 3), (170, .iload_n 1, 1), (171, .iaload, 1), (172, .iastore, 1), (173, .aload_n 0, 1), (174, .getfield 117, 3), (177, .iload_n 1, 1), (178, .aload_n 0, 1), (179, .getfield 45, 3), (182, .iload_n 1, 1), (183, .iaload, 1), (184, .iastore, 1), (185, .aload_n 0, 1), (186, .getfield 120, 3), (189, .iload_n 1, 1), (190, .aload_n 0, 1), (191, .getfield 48, 3), (194, .iload_n 1, 1), (195, .iaload, 1), (196, .iastore, 1), (197, .aload_n 0, 1), (198, .getfield 123, 3), (201, .iload_n 1, 1), (202, .aload_n 0, 1), (203, .getfield 51, 3), (206, .iload_n 1, 1), (207, .iaload, 1), (208, .iastore, 1), (209, .iinc 1 1, 3), (212, .goto (-57), 3), (215, .aload_n 0, 1), (216, .aload_n 0, 1), (217, .getfield 229, 3), (220, .putfield 438, 3), (223, .aload_n 0, 1), (224, .aload_n 0, 1), (225, .getfield 226, 3), (228, .putfield 441, 3), (231, .aload_n 0, 1), (232, .aload_n 0, 1), (233, .getfield 312, 3), (236, .putfield 444, 3), (239, .aload_n 0, 1), (240, .aload_n 0, 1), (241, .getfield 262, 3), (244, .putfield 447, 3), (247, .aload_n 0, 1), (248, .aload_n 0, 1), (249, .getfield 321, 3), (252, .putfield 450, 3), (255, .aload_n 0, 1), (256, .aload_n 0, 1), (257, .getfield 299, 3), (260, .putfield 453, 3), (263, .aload_n 0, 1), (264, .iconst 1, 1), (265, .putfield 456, 3), (268, .aload_n 0, 1), (269, .getfield 262, 3), (272, .ireturn, 1)]
set_option maxRecDepth 100000 in
theorem kX7_image : gchk cX7_image tX7_image = true := by decide +kernel
def tX7_back : List (Nat × Instr × Nat) := [(0, .aload_n 0, 1), (1, .getfield 456, 3), (4, .ifCond .ne 6, 3), (7, .bipush (-3), 2), (9, .ireturn, 1), (10, .iconst 0, 1), (11, .istore_n 1, 1), (12, .iload_n 1, 1), (13, .sipush 16000, 3), (16, .if_icmp .ge 21, 3), (19, .aload_n 0, 1), (20, .getfield 23, 3), (23, .iload_n 1, 1), (24, .aload_n 0, 1), (25, .getfield 96, 3), (28, .iload_n 1, 1), (29, .baload, 1), (30, .bastore, 1), (31, .iinc 1 1, 3), (34, .goto (-22), 3), (37, .iconst 0, 1), (38, .istore_n 1, 1), (39, .iload_n 1, 1), (40, .bipush 16, 2), (42, .if_icmp .ge 45, 3), (45, .aload_n 0, 1), (46, .getfield 17, 3), (49, .iload_n 1, 1), (50, .aload_n 0, 1), (51, .getfield 90, 3), (54, .iload_n 1, 1), (55, .iaload, 1), (56, .iastore, 1), (57, .aload_n 0, 1), (58, .getfield 20, 3), (61, .iload_n 1, 1), (62, .aload_n 0, 1), (63, .getfield 93, 3), (66, .iload_n 1, 1), (67, .iaload, 1), (68, .iastore, 1), (69, .aload_n 0, 1), (70, .getfield 30, 3), (73, .iload_n 1, 1), (74, .aload_n 0, 1), (75, .getfield 99, 3), (78, .iload_n 1, 1), (79, .baload, 1), (80, .bastore, 1), (81, .iinc 1 1, 3), (84, .goto (-45), 3), (87, .iconst 0, 1), (88, .istore_n 1, 1), (89, .iload_n 1, 1), (90, .bipush 80, 2), (92, .if_icmp .ge 33, 3), (95, .aload_n 0, 1), (96, .getfield 39, 3), (99, .iload_n 1, 1), (100, .aload_n 0, 1), (101, .getfield 111, 3), (104, .iload_n 1, 1), (105, .iaload, 1), (106, .iastore, 1), (107, .aload_n 0, 1), (108, .getfield 42, 3), (111, .iload_n 1, 1), (112, .aload_n 0, 1), (113, .getfield 114, 3), (116, .iload_n 1, 1), (117, .iaload, 1), (118, .iastore, 1), (119, .iinc 1 1, 3), (122, .goto (-33), 3), (125, .iconst 0, 1), (126, .istore_n 1, 1), (127, .iload_n 1, 1), (128, .bipush 12, 2), (130, .if_icmp .ge 33, 3), (133, .aload_n 0, 1), (134, .getfield 33, 3), (137, .iload_n 1, 1), (138, .aload_n 0, 1), (139, .getfield 105, 3), (142, .iload_n 1, 1), (143, .iaload, 1), (144, .iastore, 1), (145, .aload_n 0, 1), (146, .getfield 36, 3), (149, .iload_n 1, 1), (150, .aload_n 0, 1), (151, .getfield 108, 3), (154, .iload_n 1, 1), (155, .iaload, 1), (156, .iastore, 1), (157, .iinc 1 1, 3), (160, .goto (-33), 3), (163, .iconst 0, 1), (164, .istore_n 1, 1), (165, .iload_n 1, 1), (166, .bipush 8, 2), (168, .if_icmp .ge 57, 3), (171, .aload_n 0, 1), (172, .getfield 13, 3), (175, .iload_n 1, 1), (176, .aload_n 0, 1), (177, .getfield 102, 3), (180, .iload_n 1, 1), (181, .iaload, 1), (182, .iastore, 1), (183, .aload_n 0, 1), (184, .getfield 45, 3), (187, .iload_n 1, 1), (188, .aload_n 0, 1), (189, .getfield 117, 3), (192, .iload_n 1, 1), (193, .iaload, 1), (194, .iastore, 1), (195, .aload_n 0, 1), (196, .getfield 48, 3), (199, .iload_n 1, 1), (200, .aload_n 0, 1), (201, .getfield 120, 3), (204, .iload_n 1, 1), (205, .iaload, 1), (206, .iastore, 1), (207, .aload_n 0, 1), (208, .getfield 51, 3), (211, .iload_n 1, 1), (212, .aload_n 0, 1), (213, .getfield 123, 3), (216, .iload_n 1, 1), (217, .iaload, 1), (218, .iastore, 1), (219, .iinc 1 1, 3), (222, .goto (-57), 3), (225, .aload_n 0, 1), (226, .aload_n 0, 1), (227, .getfield 438, 3), (230, .putfield 229, 3), (233, .aload_n 0, 1), (234, .aload_n 0, 1), (235, .getfield 441, 3), (238, .putfield 226, 3), (241, .aload_n 0, 1), (242, .aload_n 0, 1), (243, .getfield 444, 3), (246, .putfield 312, 3), (249, .aload_n 0, 1), (250, .aload_n 0, 1), (251, .getfield 447, 3), (254, .putfield 262, 3), (257, .aload_n 0, 1), (258, .aload_n 0, 1), (259, .getfield 450, 3), (262, .putfield 321, 3), (265, .aload_n 0, 1), (266, .aload_n 0, 1), (267, .getfield 453, 3), (270, .putfield 299, 3), (273, .aload_n 0, 1), (274, .getfield 262, 3), (277, .ireturn, 1)]
set_option maxRecDepth 100000 in
theorem kX7_back : gchk cX7_back tX7_back = true := by decide +kernel
def tX7_count : List (Nat × Instr × Nat) := [(0, .iload_n 1, 1), (1, .i2l, 1), (2, .lconst 0, 1), (3, .ldc2_w 459, 3), (6, .invokestatic 140, 3), (9, .ifCond .ne 6, 3), (12, .bipush (-2), 2), (14, .ireturn, 1), (15, .iconst 0, 1), (16, .istore_n 2, 1), (17, .iconst 0, 1), (18, .istore_n 3, 1), (19, .iload_n 3, 1), (20, .bipush 8, 2), (22, .if_icmp .ge 30, 3), (25, .iload_n 2, 1), (26, .aload_n 0, 1), (27, .getfield 13, 3), (30, .iload_n 3, 1), (31, .iaload, 1), (32, .invokestatic 189, 3), (35, .iconst 1, 1), (36, .if_icmp .ne 7, 3), (39, .iconst 1, 1), (40, .goto 4, 3), (43, .iconst 0, 1), (44, .iadd, 1), (45, .istore_n 2, 1), (46, .iinc 3 1, 3), (49, .goto (-30), 3), (52, .iload_n 1, 1), (53, .bipush 6, 2), (55, .if_icmp .eq 8, 3), (58, .iload_n 1, 1), (59, .iconst 4, 1), (60, .if_icmp .ne 18, 3), (63, .iload_n 1, 1), (64, .bipush 6, 2), (66, .if_icmp .ne 7, 3), (69, .iload_n 2, 1), (70, .goto 7, 3), (73, .aload_n 0, 1), (74, .invokevirtual 318, 3), (77, .ireturn, 1), (78, .iload_n 1, 1), (79, .ifCond .ne 10, 3), (82, .aload_n 0, 1), (83, .getfield 226, 3), (86, .goto 76, 3), (89, .iload_n 1, 1), (90, .iconst 1, 1), (91, .if_icmp .ne 10, 3), (94, .aload_n 0, 1), (95, .getfield 262, 3), (98, .goto 64, 3), (101, .iload_n 1, 1), (102, .iconst 2, 1), (103, .if_icmp .ne 10, 3), (106, .aload_n 0, 1), (107, .getfield 312, 3), (110, .goto 52, 3), (113, .iload_n 1, 1), (114, .iconst 3, 1), (115, .if_icmp .ne 10, 3), (118, .aload_n 0, 1), (119, .getfield 321, 3), (122, .goto 40, 3), (125, .iload_n 1, 1), (126, .iconst 5, 1), (127, .if_icmp .ne 10, 3), (130, .aload_n 0, 1), (131, .getfield 299, 3), (134, .goto 28, 3), (137, .iload_n 1, 1), (138, .bipush 7, 2), (140, .if_icmp .ne 10, 3), (143, .aload_n 0, 1), (144, .getfield 144, 3), (147, .goto 15, 3), (150, .aload_n 0, 1), (151, .getfield 229, 3), (154, .ifCond .eq 7, 3), (157, .iconst 1, 1), (158, .goto 4, 3), (161, .iconst 0, 1), (162, .ireturn, 1)]
set_option maxRecDepth 100000 in
theorem kX7_count : gchk cX7_count tX7_count = true := by decide +kernel
def tX7_isSheet : List (Nat × Instr × Nat) := [(0, .iload_n 0, 1), (1, .i2l, 1), (2, .lconst 0, 1), (3, .ldc2_w 407, 3), (6, .invokestatic 140, 3), (9, .ireturn, 1)]
set_option maxRecDepth 100000 in
theorem kX7_isSheet : gchk cX7_isSheet tX7_isSheet = true := by decide +kernel
def tX7_sheet : List (Nat × Instr × Nat) := [(0, .iload_n 1, 1), (1, .invokestatic 424, 3), (4, .ifCond .eq 27, 3), (7, .iload_n 2, 1), (8, .i2l, 1), (9, .ldc2_w 334, 3), (12, .ldc2_w 248, 3), (15, .invokestatic 140, 3), (18, .ifCond .eq 13, 3), (21, .iload_n 2, 1), (22, .ifCond .lt 12, 3), (25, .iload_n 3, 1), (26, .bipush 40, 2), (28, .if_icmp .le 6, 3), (31, .bipush (-2), 2), (33, .ireturn, 1), (34, .iload_n 2, 1), (35, .ifCond .lt 10, 3), (38, .iload_n 3, 1), (39, .ifCond .ge 6, 3), (42, .bipush (-14), 2), (44, .ireturn, 1), (45, .aload_n 0, 1), (46, .getfield 126, 3), (49, .iload_n 1, 1), (50, .iload_n 2, 1), (51, .ifCond .lt 7, 3), (54, .iconst 1, 1), (55, .goto 4, 3), (58, .iconst 0, 1), (59, .bastore, 1), (60, .aload_n 0, 1), (61, .getfield 129, 3), (64, .iload_n 1, 1), (65, .iload_n 2, 1), (66, .iastore, 1), (67, .aload_n 0, 1), (68, .getfield 132, 3), (71, .iload_n 1, 1), (72, .iload_n 3, 1), (73, .iastore, 1), (74, .iconst 0, 1), (75, .istore 4, 2), (77, .iload 4, 2), (79, .iload_n 3, 1), (80, .if_icmp .ge 26, 3), (83, .iload_n 2, 1), (84, .ifCond .lt 22, 3), (87, .aload_n 0, 1), (88, .getfield 135, 3), (91, .bipush 40, 2), (93, .iload_n 1, 1), (94, .imul, 1), (95, .iload 4, 2), (97, .iadd, 1), (98, .iconst 0, 1), (99, .iastore, 1), (100, .iinc 4 1, 3), (103, .goto (-26), 3), (106, .iconst 1, 1), (107, .ireturn, 1)]
set_option maxRecDepth 100000 in
theorem kX7_sheet : gchk cX7_sheet tX7_sheet = true := by decide +kernel
def tX7_put : List (Nat × Instr × Nat) := [(0, .iload_n 1, 1), (1, .invokestatic 424, 3), (4, .ifCond .ne 6, 3), (7, .bipush (-2), 2), (9, .ireturn, 1), (10, .aload_n 0, 1), (11, .getfield 126, 3), (14, .iload_n 1, 1), (15, .baload, 1), (16, .ifCond .ne 6, 3), (19, .bipush (-11), 2), (21, .ireturn, 1), (22, .iload_n 2, 1), (23, .i2l, 1), (24, .lconst 0, 1), (25, .aload_n 0, 1), (26, .getfield 132, 3), (29, .iload_n 1, 1), (30, .iaload, 1), (31, .iconst 1, 1), (32, .isub, 1), (33, .i2l, 1), (34, .invokestatic 140, 3), (37, .ifCond .ne 6, 3), (40, .bipush (-12), 2), (42, .ireturn, 1), (43, .aload_n 0, 1), (44, .getfield 135, 3), (47, .bipush 40, 2), (49, .iload_n 1, 1), (50, .imul, 1), (51, .iload_n 2, 1), (52, .iadd, 1), (53, .aload_n 0, 1), (54, .getfield 129, 3), (57, .iload_n 1, 1), (58, .iaload, 1), (59, .ifCond .ne 7, 3), (62, .iload_n 3, 1), (63, .goto 20, 3), (66, .aload_n 0, 1), (67, .getfield 129, 3), (70, .iload_n 1, 1), (71, .iaload, 1), (72, .iconst 1, 1), (73, .if_icmp .ne 8, 3), (76, .iload_n 3, 1), (77, .i2s, 1), (78, .goto 5, 3), (81, .iload_n 3, 1), (82, .i2b, 1), (83, .iastore, 1), (84, .iconst 1, 1), (85, .ireturn, 1)]
set_option maxRecDepth 100000 in
theorem kX7_put : gchk cX7_put tX7_put = true := by decide +kernel
def tX7_item : List (Nat × Instr × Nat) := [(0, .iload_n 1, 1), (1, .invokestatic 424, 3), (4, .ifCond .eq 44, 3), (7, .aload_n 0, 1), (8, .getfield 126, 3), (11, .iload_n 1, 1), (12, .baload, 1), (13, .ifCond .eq 35, 3), (16, .iload_n 2, 1), (17, .i2l, 1), (18, .lconst 0, 1), (19, .aload_n 0, 1), (20, .getfield 132, 3), (23, .iload_n 1, 1), (24, .iaload, 1), (25, .iconst 1, 1), (26, .isub, 1), (27, .i2l, 1), (28, .invokestatic 140, 3), (31, .ifCond .eq 17, 3), (34, .aload_n 0, 1), (35, .getfield 135, 3), (38, .bipush 40, 2), (40, .iload_n 1, 1), (41, .imul, 1), (42, .iload_n 2, 1), (43, .iadd, 1), (44, .iaload, 1), (45, .goto 6, 3), (48, .ldc_w 461, 3), (51, .ireturn, 1)]
set_option maxRecDepth 100000 in
theorem kX7_item : gchk cX7_item tX7_item = true := by decide +kernel
def tX7_copy : List (Nat × Instr × Nat) := [(0, .iload_n 1, 1), (1, .invokestatic 424, 3), (4, .ifCond .eq 10, 3), (7, .iload_n 3, 1), (8, .invokestatic 424, 3), (11, .ifCond .ne 6, 3), (14, .bipush (-2), 2), (16, .ireturn, 1), (17, .aload_n 0, 1), (18, .getfield 126, 3), (21, .iload_n 1, 1), (22, .baload, 1), (23, .ifCond .eq 12, 3), (26, .aload_n 0, 1), (27, .getfield 126, 3), (30, .iload_n 3, 1), (31, .baload, 1), (32, .ifCond .ne 6, 3), (35, .bipush (-11), 2), (37, .ireturn, 1), (38, .aload_n 0, 1), (39, .getfield 129, 3), (42, .iload_n 1, 1), (43, .iaload, 1), (44, .aload_n 0, 1), (45, .getfield 129, 3), (48, .iload_n 3, 1), (49, .iaload, 1), (50, .if_icmp .eq 6, 3), (53, .bipush (-13), 2), (55, .ireturn, 1), (56, .iload 5, 2), (58, .ifCond .lt 39, 3), (61, .iload_n 2, 1), (62, .ifCond .lt 35, 3), (65, .iload 4, 2), (67, .ifCond .lt 30, 3), (70, .iload_n 2, 1), (71, .aload_n 0, 1), (72, .getfield 132, 3), (75, .iload_n 1, 1), (76, .iaload, 1), (77, .iload 5, 2), (79, .isub, 1), (80, .if_icmp .gt 17, 3), (83, .iload 4, 2), (85, .aload_n 0, 1), (86, .getfield 132, 3), (89, .iload_n 3, 1), (90, .iaload, 1), (91, .iload 5, 2), (93, .isub, 1), (94, .if_icmp .le 6, 3), (97, .bipush (-12), 2), (99, .ireturn, 1), (100, .iload_n 1, 1), (101, .iload_n 3, 1), (102, .if_icmp .ne 13, 3), (105, .iload_n 2, 1), (106, .iload 4, 2), (108, .if_icmp .ge 7, 3), (111, .iconst 1, 1), (112, .goto 4, 3), (115, .iconst 0, 1), (116, .istore 6, 2), (118, .iconst 0, 1), (119, .istore 7, 2), (121, .iload 7, 2), (123, .iload 5, 2), (125, .if_icmp .ge 57, 3), (128, .iload 6, 2), (130, .ifCond .eq 13, 3), (133, .iload 5, 2), (135, .iconst 1, 1), (136, .isub, 1), (137, .iload 7, 2), (139, .isub, 1), (140, .goto 5, 3), (143, .iload 7, 2), (145, .istore 8, 2), (147, .aload_n 0, 1), (148, .getfield 135, 3), (151, .bipush 40, 2), (153, .iload_n 3, 1), (154, .imul, 1), (155, .iload 4, 2), (157, .iadd, 1), (158, .iload 8, 2), (160, .iadd, 1), (161, .aload_n 0, 1), (162, .getfield 135, 3), (165, .bipush 40, 2), (167, .iload_n 1, 1), (168, .imul, 1), (169, .iload_n 2, 1), (170, .iadd, 1), (171, .iload 8, 2), (173, .iadd, 1), (174, .iaload, 1), (175, .iastore, 1), (176, .iinc 7 1, 3), (179, .goto (-58), 3), (182, .iload 5, 2), (184, .ireturn, 1)]
set_option maxRecDepth 100000 in
theorem kX7_copy : gchk cX7_copy tX7_copy = true := by decide +kernel
def tX7_load : List (Nat × Instr × Nat) := [(0, .iload_n 1, 1), (1, .invokestatic 424, 3), (4, .ifCond .eq 28, 3), (7, .iload_n 2, 1), (8, .i2l, 1), (9, .lconst 0, 1), (10, .ldc2_w 248, 3), (13, .invokestatic 140, 3), (16, .ifCond .eq 16, 3), (19, .iload 4, 2), (21, .i2l, 1), (22, .lconst 0, 1), (23, .ldc2_w 459, 3), (26, .invokestatic 140, 3), (29, .ifCond .ne 6, 3), (32, .bipush (-2), 2), (34, .ireturn, 1), (35, .aload_n 0, 1), (36, .getfield 126, 3), (39, .iload_n 1, 1), (40, .baload, 1), (41, .ifCond .eq 16, 3), (44, .aload_n 0, 1), (45, .getfield 129, 3), (48, .iload_n 1, 1), (49, .iaload, 1), (50, .iload_n 2, 1), (51, .if_icmp .eq 6, 3), (54, .bipush (-13), 2), (56, .ireturn, 1), (57, .aload_n 0, 1), (58, .getfield 126, 3), (61, .iload_n 1, 1), (62, .baload, 1), (63, .ifCond .ne 6, 3), (66, .bipush (-11), 2), (68, .ireturn, 1), (69, .iconst 0, 1), (70, .istore 5, 2), (72, .iconst 0, 1), (73, .istore 6, 2), (75, .iload 6, 2), (77, .iload 4, 2), (79, .if_icmp .ge 79, 3), (82, .iload_n 3, 1), (83, .ifCond .lt 20, 3), (86, .iload_n 3, 1), (87, .aload_n 0, 1), (88, .getfield 132, 3), (91, .iload_n 1, 1), (92, .iaload, 1), (93, .iconst 2, 1), (94, .iload 6, 2), (96, .imul, 1), (97, .isub, 1), (98, .iconst 2, 1), (99, .isub, 1), (100, .if_icmp .le 6, 3), (103, .bipush (-12), 2), (105, .ireturn, 1), (106, .bipush 40, 2), (108, .iload_n 1, 1), (109, .imul, 1), (110, .iload_n 3, 1), (111, .iadd, 1), (112, .iconst 2, 1), (113, .iload 6, 2), (115, .imul, 1), (116, .iadd, 1), (117, .istore 7, 2), (119, .iload 5, 2), (121, .aload_n 0, 1), (122, .aload_n 0, 1), (123, .getfield 135, 3), (126, .iload 7, 2), (128, .iaload, 1), (129, .aload_n 0, 1), (130, .getfield 135, 3), (133, .iload 7, 2), (135, .iconst 1, 1), (136, .iadd, 1), (137, .iaload, 1), (138, .invokevirtual 462, 3), (141, .ifCond .lt 7, 3), (144, .iconst 1, 1), (145, .goto 4, 3), (148, .iconst 0, 1), (149, .iadd, 1), (150, .istore 5, 2), (152, .iinc 6 1, 3), (155, .goto (-80), 3), (158, .iload 5, 2), (160, .ireturn, 1)]
set_option maxRecDepth 100000 in
theorem kX7_load : gchk cX7_load tX7_load = true := by decide +kernel
end
section
abbrev gcl : List vw_C := [(RX0, TX0, 12), (RX1, TX1, 7), (RX2, TX2, 14), (RX3, TX3, 9), (RX4, TX4, 15), (RX5, TX5, 3), (RX6, TX6, 13), (RX7, TX7, 81)]
abbrev gS : Type := Nat × Nat × List (Option Nat)
def shL : List gS := [(9, 13, [some 1, some 10, some 17, some 22, some 28, some 33, some 38, some 44, some 49, some 55, some 64, none, none]), (6, 9, [some 2, some 3, some 4, some 5, some 6, some 7, some 8, some 9, none]), (0, 16, []), (0, 24, []), (0, 24, []), (0, 8, []), (0, 48, []), (0, 1600, []), (0, 64, []), (0, 9, []), (5, 14, [some 11, some 12, some 13, some 14, some 15, some 16, none, none, none, none, none, none, none, none]), (0, 90, []), (0, 91, []), (0, 91, []), (0, 91, []), (0, 90, []), (0, 90, []), (3, 12, [some 1, some 18, some 19, some 20, some 21, none, none, none, none, none, none, none]), (0, 9, []), (0, 9, []), (0, 80, []), (0, 80, []), (4, 7, [some 23, some 24, some 25, some 26, some 27, none, none]), (0, 12, []), (0, 12, []), (0, 8, []), (0, 8, []), (0, 8, []), (3, 12, [some 1, some 29, some 30, some 31, some 32, none, none, none, none, none, none, none]), (0, 9, []), (0, 9, []), (0, 80, []), (0, 80, []), (3, 12, [some 1, some 34, some 35, some 36, some 37, none, none, none, none, none, none, none]), (0, 9, []), (0, 9, []), (0, 80, []), (0, 80, []), (7, 15, [some 1, some 22, some 28, some 33, some 39, some 40, some 41, some 42, some 43, none, none, none, none, none, none]), (0, 8, []), (0, 8, []), (0, 8, []), (0, 8, []), (0, 8, []), (3, 12, [some 1, some 45, some 46, some 47, some 48, none, none, none, none, none, none, none]), (0, 9, []), (0, 9, []), (0, 80, []), (0, 80, []), (4, 7, [some 50, some 51, some 52, some 53, some 54, none, none]), (0, 12, []), (0, 12, []), (0, 8, []), (0, 8, []), (0, 8, []), (2, 4, [some 56, some 58, some 60, some 62]), (8, 3, [some 57, none, none]), (0, 40, []), (8, 3, [some 59, none, none]), (0, 40, []), (8, 3, [some 61, none, none]), (0, 40, []), (8, 3, [some 63, none, none]), (0, 40, []), (0, 9, []), (10, 81, [none, some 66, none, some 67, some 68, some 69, some 70, some 71, none, none, some 72, some 73, none, some 74, some 75, none, some 76, some 77, some 78, none, none, some 79, none, some 80, none, none, none, none, none, none, none, none, none, some 81, none, none, none, some 82, some 83, none, none, some 84, some 85, some 86, none, none, none, none, none, none, none, some 87, some 88, none, none, some 89, some 90, none, some 91, some 92, some 93, some 94, some 95, some 96, some 97, some 98, some 99, some 100, some 101, some 102, none, none, none, none, none, none, none, some 103, some 104, some 105, some 106]), (0, 8, []), (0, 24, []), (0, 24, []), (1, 16000, []), (0, 64, []), (1, 24, []), (0, 12, []), (0, 12, []), (0, 80, []), (0, 80, []), (0, 8, []), (0, 8, []), (0, 8, []), (0, 90, []), (0, 8, []), (0, 3, []), (0, 8, []), (1, 24, []), (0, 16, []), (0, 16, []), (0, 8, []), (0, 8, []), (0, 128, []), (0, 8, []), (1, 24, []), (0, 16, []), (0, 16, []), (1, 16000, []), (1, 16, []), (0, 8, []), (0, 12, []), (0, 12, []), (0, 80, []), (0, 80, []), (0, 8, []), (0, 8, []), (0, 8, []), (1, 4, []), (0, 4, []), (0, 4, []), (0, 160, [])]
abbrev gM : Nat := 107
theorem shL_len : shL.length = gM := by decide +kernel
def sh (o : Nat) : gS := shL.getD o (0, 0, [])
/-! words: those that a callee may be given, and the nest links -/
def gisN : Cond → Bool
  | .fieldLinkNest .. => true
  | .methodLinkNest .. => true
  | _ => false
def gW : List Cond := lw_tbl.filter goodWord
def gN : List Cond := lw_tbl.filter gisN
theorem gW_at (i : Nat) {w : Cond} (h : lw_tbl[i]? = some w) (g : goodWord w = true) : w ∈ gW := List.mem_filter.mpr ⟨List.mem_of_getElem? h, g⟩
theorem gN_at (i : Nat) {w : Cond} (h : lw_tbl[i]? = some w) (g : gisN w = true) : w ∈ gN := List.mem_filter.mpr ⟨List.mem_of_getElem? h, g⟩
theorem gW_good {w : Cond} (h : w ∈ gW) : (w.onTables && w.keeps) = true ∨ ∃ ty, w = .arrayClass ty := good_of_word (List.mem_filter.mp h).2
theorem gN_warm {z : Cond} (hz : z ∈ gN) {s U : State} (hW : s.WarmedH U.vm) (h : va_Nw z s) : va_Nw z U := by
  have hg := (List.mem_filter.mp hz).2
  cases z <;> first | (exact absurd hg (by decide)) | (exact va_Nw.warmF hW h) | (exact va_Nw.warmM hW h) | (simp [gisN] at hg)
theorem gN_same {z : Cond} (hz : z ∈ gN) {u U : State} (hv : u.vm = U.vm) (h : va_Nw z u) : va_Nw z U := by
  have hg := (List.mem_filter.mp hz).2
  cases z <;> first | (exact va_Nw.same rfl hv h) | (simp [gisN] at hg)
/-! the heap as numbers -/
abbrev gH : Type := Nat → Nat → Int32
def hu (h : gH) (o k : Nat) (v : Int32) : gH := fun a b => if a = o then (if b = k then v else h a b) else h a b
abbrev gw : Type := va_G × (ClassId × ClassId × ClassId) × (Nat → Nat)
def gcv (w : gw) : Value → Value := fun v => match v with
  | .ref o => .ref (w.2.2 o)
  | v => v
theorem gcv_cat (w : gw) (v : Value) : (gcv w v).category = v.category := by cases v <;> rfl
def gsl (w : gw) (f : Option Nat) (x : Int32) : Value := match f with
  | none => .int x
  | some o => .ref (w.2.2 o)
def gce (w : gw) (h : gH) (o : Nat) (q : gS) : va_E := match q.1 with
  | 0 => .inl (w.2.1.1, q.2.1, .inl (h o))
  | 1 => .inl (w.2.1.2.1, q.2.1, .inl (h o))
  | 2 => .inl (w.2.1.2.2, q.2.1, .inr (.inr (.inr (.inr (fun j => (q.2.2.getD j none).map w.2.2)))))
  | c + 3 => .inr (c, (List.range q.2.1).map (fun k => gsl w (q.2.2.getD k none) (h o k)))
def gws (w : gw) (h : gH) : va_W := (List.range gM).map (fun o => (w.2.2 o, gce w h o (sh o)))
def gK (o : Nat) (q : gS) : Prop := o < gM ∧ sh o = q
theorem gws_at (w : gw) (h : gH) {o : Nat} {q : gS} (k : gK o q) : (gws w h)[o]? = some (w.2.2 o, gce w h o q) := by
  obtain ⟨h1, rfl⟩ := k
  simp [gws, List.getElem?_map, List.getElem?_range h1]
theorem gws_len (w : gw) (h : gH) : (gws w h).length = gM := by simp [gws]
theorem gws_set (w : gw) {h h2 : gH} {o : Nat} {q : gS} {e : va_E} (k : gK o q) (he : gce w h2 o q = e) (ho : ∀ a, a ≠ o → h2 a = h a) : (gws w h).set o (w.2.2 o, e) = gws w h2 := by
  apply List.ext_getElem?
  intro i
  rw [List.getElem?_set]
  by_cases hi : o = i
  · subst hi
    rw [if_pos rfl, gws_len, if_pos k.1, gws_at w h2 k, he]
  · rw [if_neg hi]
    by_cases hm : i < gM
    · rw [gws_at w h ⟨hm, rfl⟩, gws_at w h2 ⟨hm, rfl⟩]
      have := ho i (fun e => hi e.symm)
      have h3 : gce w h i (sh i) = gce w h2 i (sh i) := by unfold gce; rw [this]
      rw [h3]
    · rw [List.getElem?_eq_none (by rw [gws_len]; omega), List.getElem?_eq_none (by rw [gws_len]; omega)]
def gD (w : gw) : Prop := ∀ i j : Nat, i < gM → j < gM → w.2.2 i = w.2.2 j → i = j
def gA (w : gw) : Nat → Prop := fun q => ∃ o, o < gM ∧ q = w.2.2 o
theorem gws_get {w : gw} {h : gH} {i : Nat} {p : Nat × va_E} (e : (gws w h)[i]? = some p) : i < gM ∧ p.1 = w.2.2 i := by
  have hl : i < gM := by have := (List.getElem?_eq_some_iff.mp e).1; rwa [gws_len] at this
  rw [gws_at w h ⟨hl, rfl⟩] at e
  exact ⟨hl, by rw [← Option.some.inj e]⟩
theorem gD_va {w : gw} {h : gH} (hd : gD w) : va_D (gA w) (gws w h) := by
  refine ⟨fun i j p q hp hq hpq => ?_, fun k q hq => ?_⟩
  · obtain ⟨h1, h2⟩ := gws_get hp
    obtain ⟨h3, h4⟩ := gws_get hq
    exact hd i j h1 h3 (by rw [← h2, ← h4, hpq])
  · obtain ⟨h1, h2⟩ := gws_get hq
    exact ⟨k, h1, h2⟩
def gty (w : gw) : List (ClassId × FieldType) := [(w.2.1.1, .int), (w.2.1.2.1, .boolean), (w.2.1.2.2, .object RX5)]
/-- the two texts and the JDK's switch, as they stand since before the law began: texts 107, 108 with their rows 109, 110 -/
def gSb : List (List Int32) := [[100, 105, 115, 116, 105, 110, 99, 116], [40, 41, 58, 43, 45, 42, 60, 61, 62, 33]]
def gXt (w : gw) (U : State) (H : Heap) : Prop := vk_S 2 [8, 10] gSb (fun i => w.2.2 (107 + i)) (fun i => w.2.2 (109 + i)) (gA w) U H ∧ vk_R RX2 96 "distinct" (w.2.2 107) U ∧ vk_R RX2 89 "():+-*<=>!" (w.2.2 108) U ∧ va_Z "java/lang/String" "COMPACT_STRINGS" "Z" (.int 1) (gA w) U H ∧ (va_Z "jdk/internal/util/Preconditions" "SIOOBE_FORMATTER" "Ljava/util/function/BiFunction;" .null (gA w) U H ∨ va_Z "jdk/internal/util/Preconditions" "SIOOBE_FORMATTER" "Ljava/util/function/BiFunction;" (.ref (w.2.2 111)) (gA w) U H)
theorem gXt_moved {w : gw} {s U : State} {H H1 : Heap} (hW : s.WarmedH U.vm) (hq : ∀ a : Nat, a < H.size → ¬ gA w a → H1[a]? = H[a]?) (h : gXt w s H) : gXt w U H1 :=
  ⟨(h.1.moved hW.alike).kept hq, vk_R.warm hW h.2.1, vk_R.warm hW h.2.2.1, (h.2.2.2.1.moved hW.alike).kept hq, h.2.2.2.2.imp (fun z => (z.moved hW.alike).kept hq) (fun z => (z.moved hW.alike).kept hq)⟩
theorem gXt_same {w : gw} {u U : State} {H : Heap} (hv : U.vm = u.vm) (h : gXt w u H) : gXt w U H :=
  ⟨h.1.moved (by rw [hv]; exact Vm.Alike.refl _), vk_R.same hv h.2.1, vk_R.same hv h.2.2.1, h.2.2.2.1.moved (by rw [hv]; exact Vm.Alike.refl _), h.2.2.2.2.imp (fun z => z.moved (by rw [hv]; exact Vm.Alike.refl _)) (fun z => z.moved (by rw [hv]; exact Vm.Alike.refl _))⟩
def gX (own : String) (cc : ByteArray) (nL : Nat) (ret : Option FieldType) (p : Program) (s : State) (m : MethodId) (args : Array Value) (meth : Method) (c : Code) (w : gw) : Prop :=
  p.tables.exec = Jvm.exec ∧ c.code = cc ∧ meth.sig.returnType = ret ∧ c.maxLocals = nL ∧ s.vm.findClass own = some m.cls ∧ (∀ t ∈ gW, t.before args s = true) ∧ meth.locks = false ∧ va_K w.1 gcl (gty w) s ∧ (∀ z ∈ gN, va_Nw z s) ∧ gD w ∧ gXt w s s.heap
def gL (w : gw) (lsA : Array Slot) (nL : Nat) (ls : List Value) : Prop := lsA.size = nL ∧ lv_wf lsA ∧ ls.length = nL ∧ ∀ (i : Nat) (v : Value), ls[i]? = some v → v ≠ .null → lsA[i]? = some (.val (gcv w v))
def grm (d : Nat) : Room := { frames := d, cells := 0, slots := 0, locals := 64 * d }
def gPre (w : gw) (h : gH) : State → Prop := fun U => va_P w.1 gcl (gws w h) U.heap ∧ va_K w.1 gcl (gty w) U ∧ (∀ z ∈ gN, va_Nw z U) ∧ gXt w U U.heap
def gQ (w : gw) (r : Option Value) (h' : gH) : Array Value → State → Outcome → State → Prop := fun _ st oc t => (oc = .returned (r.map (gcv w)) ∧ gPre w h' t) ∧ va_F (gA w) st t
/-- a method's contract: called with these, it returns r, and the heap is h' -/
def gC (y : MethodName) (cc : ByteArray) (nL : Nat) (ret : Option FieldType) (d : Nat) (av : List Value) (h : gH) (r : Option Value) (h' : gH) : Prop :=
  ∀ (l : Launch) (w : gw), gD w → Met l y (Cond.code y cc nL ret :: gW) (grm d) (va_Pc (av.map (gcv w)) (gPre w h)) (gQ w r h') 0 0 (gA w)
/-- from here on the method returns r, and the heap is h' -/
def gR (own : String) (cc : ByteArray) (nL : Nat) (ret : Option FieldType) (d pc : Nat) (ls st : List Value) (h : gH) (r : Option Value) (h' : gH) : Prop :=
  ∀ (p : Program) (l : Launch) (e : Env) (s : State) (m : MethodId) (args : Array Value) (below : List Frame) (meth : Method) (c : Code) (H : Heap) (locs : List Loc) (w : gw) (lsA : Array Slot),
    gX own cc nL ret p s m args meth c w → va_P w.1 gcl (gws w h) H → va_S (gA w) s.heap H locs → gL w lsA nL ls →
    W p l e (grm d) s m args below meth c H locs 0 0 (MQ below (gQ w r h') args s 0 0 (gA w)) (F0 m pc lsA (st.map (gcv w)))
theorem gnc {v : Value} (x : Int32) (h : v = .int x) : v ≠ .null := by rw [h]; exact fun q => by cases q
def gasc (w : gw) (ls : List Value) : List (Nat × Value) := (List.range ls.length).filterMap (fun i => match ls.getD i .null with
  | .null => none
  | v => some (i, gcv w v))
theorem gasc_mem {w : gw} {ls : List Value} {i : Nat} {v : Value} (h : ls[i]? = some v) (hn : v ≠ .null) : (i, gcv w v) ∈ gasc w ls := by
  refine List.mem_filterMap.mpr ⟨i, List.mem_range.mpr (List.getElem?_eq_some_iff.mp h).1, ?_⟩
  rw [show ls.getD i .null = v by simp [List.getD, h]]
  cases v <;> first | rfl | exact absurd rfl hn
theorem gasc_of {w : gw} {ls : List Value} {q : Nat × Value} (h : q ∈ gasc w ls) : ∃ v, ls[q.1]? = some v ∧ v ≠ .null ∧ q.2 = gcv w v := by
  obtain ⟨i, hi, e⟩ := List.mem_filterMap.mp h
  have hl := List.mem_range.mp hi
  have h1 : ls[i]? = some (ls.getD i .null) := by simp [List.getD, List.getElem?_eq_getElem hl]
  revert e
  generalize ls.getD i .null = v at h1 ⊢
  intro e
  cases v with
  | null => cases e
  | int x => cases e; exact ⟨Value.int x, h1, (by intro q; cases q), rfl⟩
  | long x => cases e; exact ⟨Value.long x, h1, (by intro q; cases q), rfl⟩
  | float x => cases e; exact ⟨Value.float x, h1, (by intro q; cases q), rfl⟩
  | double x => cases e; exact ⟨Value.double x, h1, (by intro q; cases q), rfl⟩
  | ref x => cases e; exact ⟨Value.ref x, h1, (by intro q; cases q), rfl⟩
  | retAddr x => cases e; exact ⟨Value.retAddr x, h1, (by intro q; cases q), rfl⟩
theorem gL_has {w : gw} {lsA : Array Slot} {nL : Nat} {ls : List Value} (h : gL w lsA nL ls) : lv_has lsA nL (gasc w ls) := by
  refine ⟨h.1, h.2.1, fun q hq => ?_⟩
  obtain ⟨v, h1, h2, h3⟩ := gasc_of hq
  rw [h3]
  exact h.2.2.2 _ _ h1 h2
def gn2 (ls : List Value) : Bool := ls.all (fun v => v.category == 1)
theorem gL_set {w : gw} {lsA : Array Slot} {nL : Nat} {ls : List Value} {i : Nat} {v : Value} (hl : ls.length = nL) (hc : gn2 ls = true)
    (h : lv_has lsA nL ((i, gcv w v) :: (gasc w ls).filter (fun q => !(q.1 == i) && !(q.1 + 1 == i && q.2.category == 2)))) : gL w lsA nL (ls.set i v) := by
  refine ⟨h.1, h.2.1, by rw [List.length_set]; exact hl, fun j u hj hu => ?_⟩
  rw [List.getElem?_set] at hj
  by_cases hij : i = j
  · subst hij
    rw [if_pos rfl] at hj
    split at hj
    · cases hj
      exact h.2.2 (i, gcv w v) List.mem_cons_self
    · cases hj
  · rw [if_neg hij] at hj
    refine h.2.2 (j, gcv w u) (List.mem_cons_of_mem _ (List.mem_filter.mpr ⟨gasc_mem hj hu, ?_⟩))
    have h1 := List.all_eq_true.mp hc u (List.mem_of_getElem? hj)
    have h2 : u.category = 1 := by simpa using h1
    have h3 : ¬ j = i := fun q => hij q.symm
    simp [h3, gcv_cat, h2]
def gspl : Nat → List Value → List Value → Option (List Value × List Value)
  | 0, acc, st => some (acc, st)
  | n + 1, acc, v :: st => gspl n (v :: acc) st
  | _ + 1, _, [] => none
theorem gspl_eq : ∀ (n : Nat) (acc st a rest : List Value), gspl n acc st = some (a, rest) → ∃ pre : List Value, pre.length = n ∧ st = pre ++ rest ∧ a = pre.reverse ++ acc := by
  intro n
  induction n with
  | zero => intro acc st a rest h; cases h; exact ⟨[], rfl, rfl, rfl⟩
  | succ n ih =>
    intro acc st a rest h
    cases st with
    | nil => cases h
    | cons v st =>
      obtain ⟨pre, h1, h2, h3⟩ := ih (v :: acc) st a rest h
      exact ⟨v :: pre, by simp [h1], by rw [h2]; rfl, by rw [h3]; simp⟩
def gpu (r : Option Value) (rest : List Value) : List Value := match r with
  | none => rest
  | some v => v :: rest
theorem gpu_eq (r : Option Value) (rest : List Value) (w : gw) : (gpu r rest).map (gcv w) = (r.map (gcv w)).toList ++ rest.map (gcv w) := by cases r <;> rfl
def gcat (st : List Value) : Nat := (st.map Value.category).sum
theorem gcat_eq (w : gw) (st : List Value) : ((st.map (gcv w)).map fun v => v.category).sum = gcat st := by
  unfold gcat
  rw [List.map_map]
  congr 1
  apply List.map_congr_left
  intro v _
  exact gcv_cat w v
end
section
section
variable {own : String} {cc : ByteArray} {nL : Nat} {ret : Option FieldType} {d pc : Nat} {ls st : List Value} {h : gH} {r : Option Value} {h2 : gH}
theorem R_iconst {n : Int} {v : Int32} (hd : decode cc pc = .ok (.iconst n, 1)) (hv : Int32.ofInt n = v) (k : gR own cc nL ret d (pc + 1) ls (.int v :: st) h r h2) : gR own cc nL ret d pc ls st h r h2 := by
  intro p l e s m args below meth c H locs w lsA X hP hS hL
  exact lv_iconst X.1 X.2.1 hd hv (k p l e s m args below meth c H locs w lsA X hP hS hL)
theorem R_bipush {n : Int} {v : Int32} (hd : decode cc pc = .ok (.bipush n, 2)) (hv : (Int8.ofInt n).toInt32 = v) (k : gR own cc nL ret d (pc + 2) ls (.int v :: st) h r h2) : gR own cc nL ret d pc ls st h r h2 := by
  intro p l e s m args below meth c H locs w lsA X hP hS hL
  exact lv_bipush X.1 X.2.1 hd hv (k p l e s m args below meth c H locs w lsA X hP hS hL)
theorem R_sipush {n : Int} {v : Int32} (hd : decode cc pc = .ok (.sipush n, 3)) (hv : (Int16.ofInt n).toInt32 = v) (k : gR own cc nL ret d (pc + 3) ls (.int v :: st) h r h2) : gR own cc nL ret d pc ls st h r h2 := by
  intro p l e s m args below meth c H locs w lsA X hP hS hL
  exact lv_sipush X.1 X.2.1 hd hv (k p l e s m args below meth c H locs w lsA X hP hS hL)
theorem R_lconst {n : Fin 2} {v : Int64} (hd : decode cc pc = .ok (.lconst n, 1)) (hv : Int64.ofNat (n : Nat) = v) (k : gR own cc nL ret d (pc + 1) ls (.long v :: st) h r h2) : gR own cc nL ret d pc ls st h r h2 := by
  intro p l e s m args below meth c H locs w lsA X hP hS hL
  exact lv_lconst X.1 X.2.1 hd hv (k p l e s m args below meth c H locs w lsA X hP hS hL)
def gKi (own : String) (index : Nat) (v : Int32) : Prop := Cond.constant own index v ∈ gW
def gKl (own : String) (index : Nat) (v : Int64) : Prop := Cond.constantLong own index v ∈ gW
theorem R_ldc {index : Nat} {v : Int32} (hd : decode cc pc = .ok (.ldc index, 2)) (hv : gKi own index v) (k : gR own cc nL ret d (pc + 2) ls (.int v :: st) h r h2) : gR own cc nL ret d pc ls st h r h2 := by
  intro p l e s m args below meth c H locs w lsA X hP hS hL
  exact lv_ldc X.1 X.2.1 X.2.2.2.2.1 (X.2.2.2.2.2.1 _ hv) hd (k p l e s m args below meth c H locs w lsA X hP hS hL)
theorem R_ldcw {index : Nat} {v : Int32} (hd : decode cc pc = .ok (.ldc_w index, 3)) (hv : gKi own index v) (k : gR own cc nL ret d (pc + 3) ls (.int v :: st) h r h2) : gR own cc nL ret d pc ls st h r h2 := by
  intro p l e s m args below meth c H locs w lsA X hP hS hL
  exact lv_ldcw X.1 X.2.1 X.2.2.2.2.1 (X.2.2.2.2.2.1 _ hv) hd (k p l e s m args below meth c H locs w lsA X hP hS hL)
theorem R_ldc2 {index : Nat} {v : Int64} (hd : decode cc pc = .ok (.ldc2_w index, 3)) (hv : gKl own index v) (k : gR own cc nL ret d (pc + 3) ls (.long v :: st) h r h2) : gR own cc nL ret d pc ls st h r h2 := by
  intro p l e s m args below meth c H locs w lsA X hP hS hL
  exact lv_ldc2 X.1 X.2.1 X.2.2.2.2.1 (X.2.2.2.2.2.1 _ hv) hd (k p l e s m args below meth c H locs w lsA X hP hS hL)
theorem gL_at {w : gw} {lsA : Array Slot} (hL : gL w lsA nL ls) {i : Nat} {v : Value} (h : ls[i]? = some v) (hn : v ≠ .null) : lsA[i]? = some (.val (gcv w v)) := hL.2.2.2 i v h hn
theorem R_iload_n {k0 : Fin 4} {i : Nat} {x : Int32} (hd : decode cc pc = .ok (.iload_n k0, 1)) (hi : (k0 : Nat) = i) (hx : ls[i]? = some (.int x)) (k : gR own cc nL ret d (pc + 1) ls (.int x :: st) h r h2) : gR own cc nL ret d pc ls st h r h2 := by
  intro p l e s m args below meth c H locs w lsA X hP hS hL
  exact lv_iload_n X.1 X.2.1 hd hi (gL_at hL hx (by intro q; cases q)) (k p l e s m args below meth c H locs w lsA X hP hS hL)
theorem R_iload {i : Nat} {x : Int32} (hd : decode cc pc = .ok (.iload i, 2)) (hx : ls[i]? = some (.int x)) (k : gR own cc nL ret d (pc + 2) ls (.int x :: st) h r h2) : gR own cc nL ret d pc ls st h r h2 := by
  intro p l e s m args below meth c H locs w lsA X hP hS hL
  exact lv_iload X.1 X.2.1 hd (gL_at hL hx (by intro q; cases q)) (k p l e s m args below meth c H locs w lsA X hP hS hL)
theorem R_aload_n {k0 : Fin 4} {i : Nat} {x : Nat} (hd : decode cc pc = .ok (.aload_n k0, 1)) (hi : (k0 : Nat) = i) (hx : ls[i]? = some (.ref x)) (k : gR own cc nL ret d (pc + 1) ls (.ref x :: st) h r h2) : gR own cc nL ret d pc ls st h r h2 := by
  intro p l e s m args below meth c H locs w lsA X hP hS hL
  exact lv_aload_n X.1 X.2.1 hd hi (gL_at hL hx (by intro q; cases q)) (k p l e s m args below meth c H locs w lsA X hP hS hL)
theorem R_aload {i : Nat} {x : Nat} (hd : decode cc pc = .ok (.aload i, 2)) (hx : ls[i]? = some (.ref x)) (k : gR own cc nL ret d (pc + 2) ls (.ref x :: st) h r h2) : gR own cc nL ret d pc ls st h r h2 := by
  intro p l e s m args below meth c H locs w lsA X hP hS hL
  exact lv_aload X.1 X.2.1 hd (gL_at hL hx (by intro q; cases q)) (k p l e s m args below meth c H locs w lsA X hP hS hL)
theorem R_lload_n {k0 : Fin 4} {i : Nat} {x : Int64} (hd : decode cc pc = .ok (.lload_n k0, 1)) (hi : (k0 : Nat) = i) (hx : ls[i]? = some (.long x)) (k : gR own cc nL ret d (pc + 1) ls (.long x :: st) h r h2) : gR own cc nL ret d pc ls st h r h2 := by
  intro p l e s m args below meth c H locs w lsA X hP hS hL
  exact lv_lload_n X.1 X.2.1 hd hi (gL_at hL hx (by intro q; cases q)) (k p l e s m args below meth c H locs w lsA X hP hS hL)
theorem R_lload {i : Nat} {x : Int64} (hd : decode cc pc = .ok (.lload i, 2)) (hx : ls[i]? = some (.long x)) (k : gR own cc nL ret d (pc + 2) ls (.long x :: st) h r h2) : gR own cc nL ret d pc ls st h r h2 := by
  intro p l e s m args below meth c H locs w lsA X hP hS hL
  exact lv_lload X.1 X.2.1 hd (gL_at hL hx (by intro q; cases q)) (k p l e s m args below meth c H locs w lsA X hP hS hL)
theorem gL_lt {w : gw} {lsA : Array Slot} {i : Nat} (hL : gL w lsA nL ls) (h : i < ls.length) : i < nL := by rw [hL.2.2.1] at h; exact h
theorem R_istore_n {k0 : Fin 4} {i : Nat} {x : Int32} {ls2 : List Value} (hd : decode cc pc = .ok (.istore_n k0, 1)) (hi : (k0 : Nat) = i) (hc : gn2 ls = true) (hb : i < ls.length) (hls : ls.set i (.int x) = ls2) (k : gR own cc nL ret d (pc + 1) ls2 st h r h2) : gR own cc nL ret d pc ls (.int x :: st) h r h2 := by
  intro p l e s m args below meth c H locs w lsA X hP hS hL
  exact lv_istore_n X.1 X.2.1 hd hi (gL_has hL) (gL_lt hL hb) rfl (fun lsB hB => k p l e s m args below meth c H locs w lsB X hP hS (hls ▸ gL_set hL.2.2.1 hc hB))
theorem R_istore {i : Nat} {x : Int32} {ls2 : List Value} (hd : decode cc pc = .ok (.istore i, 2)) (hc : gn2 ls = true) (hb : i < ls.length) (hls : ls.set i (.int x) = ls2) (k : gR own cc nL ret d (pc + 2) ls2 st h r h2) : gR own cc nL ret d pc ls (.int x :: st) h r h2 := by
  intro p l e s m args below meth c H locs w lsA X hP hS hL
  exact lv_istore X.1 X.2.1 hd (gL_has hL) (gL_lt hL hb) rfl (fun lsB hB => k p l e s m args below meth c H locs w lsB X hP hS (hls ▸ gL_set hL.2.2.1 hc hB))
theorem R_astore_n {k0 : Fin 4} {i : Nat} {x : Nat} {ls2 : List Value} (hd : decode cc pc = .ok (.astore_n k0, 1)) (hi : (k0 : Nat) = i) (hc : gn2 ls = true) (hb : i < ls.length) (hls : ls.set i (.ref x) = ls2) (k : gR own cc nL ret d (pc + 1) ls2 st h r h2) : gR own cc nL ret d pc ls (.ref x :: st) h r h2 := by
  intro p l e s m args below meth c H locs w lsA X hP hS hL
  exact lv_astore_n X.1 X.2.1 hd hi (gL_has hL) (gL_lt hL hb) rfl (fun lsB hB => k p l e s m args below meth c H locs w lsB X hP hS (hls ▸ gL_set hL.2.2.1 hc hB))
theorem R_astore {i : Nat} {x : Nat} {ls2 : List Value} (hd : decode cc pc = .ok (.astore i, 2)) (hc : gn2 ls = true) (hb : i < ls.length) (hls : ls.set i (.ref x) = ls2) (k : gR own cc nL ret d (pc + 2) ls2 st h r h2) : gR own cc nL ret d pc ls (.ref x :: st) h r h2 := by
  intro p l e s m args below meth c H locs w lsA X hP hS hL
  exact lv_astore X.1 X.2.1 hd (gL_has hL) (gL_lt hL hb) rfl (fun lsB hB => k p l e s m args below meth c H locs w lsB X hP hS (hls ▸ gL_set hL.2.2.1 hc hB))
theorem R_iinc {i : Nat} {n : Int} {x v : Int32} {ls2 : List Value} (hd : decode cc pc = .ok (.iinc i n, 3)) (hx : ls[i]? = some (.int x)) (hv : x + Int32.ofInt n = v) (hc : gn2 ls = true) (hb : i < ls.length) (hls : ls.set i (.int v) = ls2) (k : gR own cc nL ret d (pc + 3) ls2 st h r h2) : gR own cc nL ret d pc ls st h r h2 := by
  intro p l e s m args below meth c H locs w lsA X hP hS hL
  obtain ⟨kq, hkq⟩ := List.mem_iff_getElem?.mp (gasc_mem (w := w) hx (by intro q; cases q))
  exact lv_iinc X.1 X.2.1 hd (gL_has hL) hkq hv (gL_lt hL hb) rfl (fun lsB hB => k p l e s m args below meth c H locs w lsB X hP hS (hls ▸ gL_set hL.2.2.1 hc hB))
theorem R_iadd {x y : Int32} (hd : decode cc pc = .ok (.iadd, 1)) (k : gR own cc nL ret d (pc + 1) ls (.int (x + y) :: st) h r h2) : gR own cc nL ret d pc ls (.int y :: .int x :: st) h r h2 := by
  intro p l e s m args below meth c H locs w lsA X hP hS hL
  exact lv_iadd X.1 X.2.1 hd (k p l e s m args below meth c H locs w lsA X hP hS hL)
theorem R_isub {x y : Int32} (hd : decode cc pc = .ok (.isub, 1)) (k : gR own cc nL ret d (pc + 1) ls (.int (x - y) :: st) h r h2) : gR own cc nL ret d pc ls (.int y :: .int x :: st) h r h2 := by
  intro p l e s m args below meth c H locs w lsA X hP hS hL
  exact lv_isub X.1 X.2.1 hd (k p l e s m args below meth c H locs w lsA X hP hS hL)
theorem R_imul {x y : Int32} (hd : decode cc pc = .ok (.imul, 1)) (k : gR own cc nL ret d (pc + 1) ls (.int (x * y) :: st) h r h2) : gR own cc nL ret d pc ls (.int y :: .int x :: st) h r h2 := by
  intro p l e s m args below meth c H locs w lsA X hP hS hL
  exact lv_imul X.1 X.2.1 hd (k p l e s m args below meth c H locs w lsA X hP hS hL)
theorem R_iand {x y : Int32} (hd : decode cc pc = .ok (.iand, 1)) (k : gR own cc nL ret d (pc + 1) ls (.int (x &&& y) :: st) h r h2) : gR own cc nL ret d pc ls (.int y :: .int x :: st) h r h2 := by
  intro p l e s m args below meth c H locs w lsA X hP hS hL
  exact lv_iand X.1 X.2.1 hd (k p l e s m args below meth c H locs w lsA X hP hS hL)
theorem R_ior {x y : Int32} (hd : decode cc pc = .ok (.ior, 1)) (k : gR own cc nL ret d (pc + 1) ls (.int (x ||| y) :: st) h r h2) : gR own cc nL ret d pc ls (.int y :: .int x :: st) h r h2 := by
  intro p l e s m args below meth c H locs w lsA X hP hS hL
  exact lv_ior X.1 X.2.1 hd (k p l e s m args below meth c H locs w lsA X hP hS hL)
theorem R_ixor {x y : Int32} (hd : decode cc pc = .ok (.ixor, 1)) (k : gR own cc nL ret d (pc + 1) ls (.int (x ^^^ y) :: st) h r h2) : gR own cc nL ret d pc ls (.int y :: .int x :: st) h r h2 := by
  intro p l e s m args below meth c H locs w lsA X hP hS hL
  exact lv_ixor X.1 X.2.1 hd (k p l e s m args below meth c H locs w lsA X hP hS hL)
theorem R_ishl {x y : Int32} (hd : decode cc pc = .ok (.ishl, 1)) (k : gR own cc nL ret d (pc + 1) ls (.int (x <<< (y &&& 31)) :: st) h r h2) : gR own cc nL ret d pc ls (.int y :: .int x :: st) h r h2 := by
  intro p l e s m args below meth c H locs w lsA X hP hS hL
  exact lv_ishl X.1 X.2.1 hd (k p l e s m args below meth c H locs w lsA X hP hS hL)
theorem R_ishr {x y : Int32} (hd : decode cc pc = .ok (.ishr, 1)) (k : gR own cc nL ret d (pc + 1) ls (.int (x >>> (y &&& 31)) :: st) h r h2) : gR own cc nL ret d pc ls (.int y :: .int x :: st) h r h2 := by
  intro p l e s m args below meth c H locs w lsA X hP hS hL
  exact lv_ishr X.1 X.2.1 hd (k p l e s m args below meth c H locs w lsA X hP hS hL)
theorem R_idiv {x y : Int32} (hd : decode cc pc = .ok (.idiv, 1)) (hne : ¬ y = 0) (k : gR own cc nL ret d (pc + 1) ls (.int (x / y) :: st) h r h2) : gR own cc nL ret d pc ls (.int y :: .int x :: st) h r h2 := by
  intro p l e s m args below meth c H locs w lsA X hP hS hL
  exact lv_idiv X.1 X.2.1 hd hne (k p l e s m args below meth c H locs w lsA X hP hS hL)
theorem R_irem {x y : Int32} (hd : decode cc pc = .ok (.irem, 1)) (hne : ¬ y = 0) (k : gR own cc nL ret d (pc + 1) ls (.int (x - x / y * y) :: st) h r h2) : gR own cc nL ret d pc ls (.int y :: .int x :: st) h r h2 := by
  intro p l e s m args below meth c H locs w lsA X hP hS hL
  exact lv_irem X.1 X.2.1 hd hne (k p l e s m args below meth c H locs w lsA X hP hS hL)
theorem R_ineg {x : Int32} (hd : decode cc pc = .ok (.ineg, 1)) (k : gR own cc nL ret d (pc + 1) ls (.int (-x) :: st) h r h2) : gR own cc nL ret d pc ls (.int x :: st) h r h2 := by
  intro p l e s m args below meth c H locs w lsA X hP hS hL
  exact lv_ineg X.1 X.2.1 hd (k p l e s m args below meth c H locs w lsA X hP hS hL)
theorem R_iushr {x y : Int32} (hd : decode cc pc = .ok (.iushr, 1)) (k : gR own cc nL ret d (pc + 1) ls (.int ((x.toUInt32 >>> (y.toUInt32 &&& Int32.toUInt32 31)).toInt32) :: st) h r h2) : gR own cc nL ret d pc ls (.int y :: .int x :: st) h r h2 := by
  intro p l e s m args below meth c H locs w lsA X hP hS hL
  exact lv_iushr X.1 X.2.1 hd rfl (k p l e s m args below meth c H locs w lsA X hP hS hL)
theorem R_i2l {x : Int32} (hd : decode cc pc = .ok (.i2l, 1)) (k : gR own cc nL ret d (pc + 1) ls (.long x.toInt64 :: st) h r h2) : gR own cc nL ret d pc ls (.int x :: st) h r h2 := by
  intro p l e s m args below meth c H locs w lsA X hP hS hL
  exact lv_i2l X.1 X.2.1 hd rfl (k p l e s m args below meth c H locs w lsA X hP hS hL)
theorem R_i2b {x : Int32} (hd : decode cc pc = .ok (.i2b, 1)) (k : gR own cc nL ret d (pc + 1) ls (.int x.toInt8.toInt32 :: st) h r h2) : gR own cc nL ret d pc ls (.int x :: st) h r h2 := by
  intro p l e s m args below meth c H locs w lsA X hP hS hL
  exact lv_i2b X.1 X.2.1 hd rfl (k p l e s m args below meth c H locs w lsA X hP hS hL)
theorem R_i2s {x : Int32} (hd : decode cc pc = .ok (.i2s, 1)) (k : gR own cc nL ret d (pc + 1) ls (.int x.toInt16.toInt32 :: st) h r h2) : gR own cc nL ret d pc ls (.int x :: st) h r h2 := by
  intro p l e s m args below meth c H locs w lsA X hP hS hL
  exact lv_i2s X.1 X.2.1 hd rfl (k p l e s m args below meth c H locs w lsA X hP hS hL)
theorem R_i2c {x : Int32} (hd : decode cc pc = .ok (.i2c, 1)) (k : gR own cc nL ret d (pc + 1) ls (.int ((x.toUInt32 % 65536).toInt32) :: st) h r h2) : gR own cc nL ret d pc ls (.int x :: st) h r h2 := by
  intro p l e s m args below meth c H locs w lsA X hP hS hL
  exact lv_i2c X.1 X.2.1 hd rfl (k p l e s m args below meth c H locs w lsA X hP hS hL)
theorem R_lcmp {x y : Int64} (hd : decode cc pc = .ok (.lcmp, 1)) (k : gR own cc nL ret d (pc + 1) ls (.int (lg_cmp x y) :: st) h r h2) : gR own cc nL ret d pc ls (.long y :: .long x :: st) h r h2 := by
  intro p l e s m args below meth c H locs w lsA X hP hS hL
  exact W.lcmp X.1 X.2.1 hd (k p l e s m args below meth c H locs w lsA X hP hS hL)
theorem R_dup {v : Value} (hd : decode cc pc = .ok (.dup, 1)) (hv : v.category = 1) (k : gR own cc nL ret d (pc + 1) ls (v :: v :: st) h r h2) : gR own cc nL ret d pc ls (v :: st) h r h2 := by
  intro p l e s m args below meth c H locs w lsA X hP hS hL
  exact lv_dup X.1 X.2.1 hd (by rw [gcv_cat]; exact hv) (k p l e s m args below meth c H locs w lsA X hP hS hL)
theorem R_pop {v : Value} (hd : decode cc pc = .ok (.pop, 1)) (hv : v.category = 1) (k : gR own cc nL ret d (pc + 1) ls st h r h2) : gR own cc nL ret d pc ls (v :: st) h r h2 := by
  intro p l e s m args below meth c H locs w lsA X hP hS hL
  exact lv_pop X.1 X.2.1 hd (by rw [gcv_cat]; exact hv) (k p l e s m args below meth c H locs w lsA X hP hS hL)
theorem R_dup2 {u v : Value} (hd : decode cc pc = .ok (.dup2, 1)) (hu : u.category = 1) (hv : v.category = 1) (k : gR own cc nL ret d (pc + 1) ls (u :: v :: u :: v :: st) h r h2) : gR own cc nL ret d pc ls (u :: v :: st) h r h2 := by
  intro p l e s m args below meth c H locs w lsA X hP hS hL
  exact lv_dup2_11 X.1 X.2.1 hd (by rw [gcv_cat]; exact hu) (by rw [gcv_cat]; exact hv) (k p l e s m args below meth c H locs w lsA X hP hS hL)
theorem R_goto {off : Int} {tgt : Nat} (hd : decode cc pc = .ok (.goto off, 3)) (ht : (pc : Int) + off = (tgt : Int)) (k : gR own cc nL ret d tgt ls st h r h2) : gR own cc nL ret d pc ls st h r h2 := by
  intro p l e s m args below meth c H locs w lsA X hP hS hL
  exact lv_goto X.1 X.2.1 hd ht (k p l e s m args below meth c H locs w lsA X hP hS hL)
theorem R_if_eq {x : Int32} {off : Int} {tgt : Nat} (hd : decode cc pc = .ok (.ifCond .eq off, 3)) (ht : (pc : Int) + off = (tgt : Int)) (kt : (x = 0) → gR own cc nL ret d tgt ls st h r h2) (kf : (¬ x = 0) → gR own cc nL ret d (pc + 3) ls st h r h2) : gR own cc nL ret d pc ls (.int x :: st) h r h2 := by
  intro p l e s m args below meth c H locs w lsA X hP hS hL
  exact lv_if_eq X.1 X.2.1 hd ht (fun q => kt q p l e s m args below meth c H locs w lsA X hP hS hL) (fun q => kf q p l e s m args below meth c H locs w lsA X hP hS hL)
theorem R_if_ne {x : Int32} {off : Int} {tgt : Nat} (hd : decode cc pc = .ok (.ifCond .ne off, 3)) (ht : (pc : Int) + off = (tgt : Int)) (kt : (¬ x = 0) → gR own cc nL ret d tgt ls st h r h2) (kf : (x = 0) → gR own cc nL ret d (pc + 3) ls st h r h2) : gR own cc nL ret d pc ls (.int x :: st) h r h2 := by
  intro p l e s m args below meth c H locs w lsA X hP hS hL
  exact lv_if_ne X.1 X.2.1 hd ht (fun q => kt q p l e s m args below meth c H locs w lsA X hP hS hL) (fun q => kf q p l e s m args below meth c H locs w lsA X hP hS hL)
theorem R_if_lt {x : Int32} {off : Int} {tgt : Nat} (hd : decode cc pc = .ok (.ifCond .lt off, 3)) (ht : (pc : Int) + off = (tgt : Int)) (kt : (x < 0) → gR own cc nL ret d tgt ls st h r h2) (kf : (¬ x < 0) → gR own cc nL ret d (pc + 3) ls st h r h2) : gR own cc nL ret d pc ls (.int x :: st) h r h2 := by
  intro p l e s m args below meth c H locs w lsA X hP hS hL
  exact lv_if_lt X.1 X.2.1 hd ht (fun q => kt q p l e s m args below meth c H locs w lsA X hP hS hL) (fun q => kf q p l e s m args below meth c H locs w lsA X hP hS hL)
theorem R_if_gt {x : Int32} {off : Int} {tgt : Nat} (hd : decode cc pc = .ok (.ifCond .gt off, 3)) (ht : (pc : Int) + off = (tgt : Int)) (kt : (0 < x) → gR own cc nL ret d tgt ls st h r h2) (kf : (¬ 0 < x) → gR own cc nL ret d (pc + 3) ls st h r h2) : gR own cc nL ret d pc ls (.int x :: st) h r h2 := by
  intro p l e s m args below meth c H locs w lsA X hP hS hL
  exact lv_if_gt X.1 X.2.1 hd ht (fun q => kt q p l e s m args below meth c H locs w lsA X hP hS hL) (fun q => kf q p l e s m args below meth c H locs w lsA X hP hS hL)
theorem R_if_ge {x : Int32} {off : Int} {tgt : Nat} (hd : decode cc pc = .ok (.ifCond .ge off, 3)) (ht : (pc : Int) + off = (tgt : Int)) (kt : (¬ x < 0) → gR own cc nL ret d tgt ls st h r h2) (kf : (x < 0) → gR own cc nL ret d (pc + 3) ls st h r h2) : gR own cc nL ret d pc ls (.int x :: st) h r h2 := by
  intro p l e s m args below meth c H locs w lsA X hP hS hL
  exact lv_if_ge X.1 X.2.1 hd ht (fun q => kt (Int32.not_lt.mpr q) p l e s m args below meth c H locs w lsA X hP hS hL) (fun q => kf (Int32.not_le.mp q) p l e s m args below meth c H locs w lsA X hP hS hL)
theorem R_if_le {x : Int32} {off : Int} {tgt : Nat} (hd : decode cc pc = .ok (.ifCond .le off, 3)) (ht : (pc : Int) + off = (tgt : Int)) (kt : (¬ 0 < x) → gR own cc nL ret d tgt ls st h r h2) (kf : (0 < x) → gR own cc nL ret d (pc + 3) ls st h r h2) : gR own cc nL ret d pc ls (.int x :: st) h r h2 := by
  intro p l e s m args below meth c H locs w lsA X hP hS hL
  exact lv_if_le X.1 X.2.1 hd ht (fun q => kt (Int32.not_lt.mpr q) p l e s m args below meth c H locs w lsA X hP hS hL) (fun q => kf (Int32.not_le.mp q) p l e s m args below meth c H locs w lsA X hP hS hL)
theorem R_icmp_eq {x y : Int32} {off : Int} {tgt : Nat} (hd : decode cc pc = .ok (.if_icmp .eq off, 3)) (ht : (pc : Int) + off = (tgt : Int)) (kt : (x = y) → gR own cc nL ret d tgt ls st h r h2) (kf : (¬ x = y) → gR own cc nL ret d (pc + 3) ls st h r h2) : gR own cc nL ret d pc ls (.int y :: .int x :: st) h r h2 := by
  intro p l e s m args below meth c H locs w lsA X hP hS hL
  exact lv_icmp_eq X.1 X.2.1 hd ht (fun q => kt q p l e s m args below meth c H locs w lsA X hP hS hL) (fun q => kf q p l e s m args below meth c H locs w lsA X hP hS hL)
theorem R_icmp_ne {x y : Int32} {off : Int} {tgt : Nat} (hd : decode cc pc = .ok (.if_icmp .ne off, 3)) (ht : (pc : Int) + off = (tgt : Int)) (kt : (¬ x = y) → gR own cc nL ret d tgt ls st h r h2) (kf : (x = y) → gR own cc nL ret d (pc + 3) ls st h r h2) : gR own cc nL ret d pc ls (.int y :: .int x :: st) h r h2 := by
  intro p l e s m args below meth c H locs w lsA X hP hS hL
  exact lv_icmp_ne X.1 X.2.1 hd ht (fun q => kt q p l e s m args below meth c H locs w lsA X hP hS hL) (fun q => kf q p l e s m args below meth c H locs w lsA X hP hS hL)
theorem R_icmp_lt {x y : Int32} {off : Int} {tgt : Nat} (hd : decode cc pc = .ok (.if_icmp .lt off, 3)) (ht : (pc : Int) + off = (tgt : Int)) (kt : (x < y) → gR own cc nL ret d tgt ls st h r h2) (kf : (¬ x < y) → gR own cc nL ret d (pc + 3) ls st h r h2) : gR own cc nL ret d pc ls (.int y :: .int x :: st) h r h2 := by
  intro p l e s m args below meth c H locs w lsA X hP hS hL
  exact lv_icmp_lt X.1 X.2.1 hd ht (fun q => kt q p l e s m args below meth c H locs w lsA X hP hS hL) (fun q => kf q p l e s m args below meth c H locs w lsA X hP hS hL)
theorem R_icmp_gt {x y : Int32} {off : Int} {tgt : Nat} (hd : decode cc pc = .ok (.if_icmp .gt off, 3)) (ht : (pc : Int) + off = (tgt : Int)) (kt : (y < x) → gR own cc nL ret d tgt ls st h r h2) (kf : (¬ y < x) → gR own cc nL ret d (pc + 3) ls st h r h2) : gR own cc nL ret d pc ls (.int y :: .int x :: st) h r h2 := by
  intro p l e s m args below meth c H locs w lsA X hP hS hL
  exact lv_icmp_gt X.1 X.2.1 hd ht (fun q => kt q p l e s m args below meth c H locs w lsA X hP hS hL) (fun q => kf q p l e s m args below meth c H locs w lsA X hP hS hL)
theorem R_icmp_ge {x y : Int32} {off : Int} {tgt : Nat} (hd : decode cc pc = .ok (.if_icmp .ge off, 3)) (ht : (pc : Int) + off = (tgt : Int)) (kt : (¬ x < y) → gR own cc nL ret d tgt ls st h r h2) (kf : (x < y) → gR own cc nL ret d (pc + 3) ls st h r h2) : gR own cc nL ret d pc ls (.int y :: .int x :: st) h r h2 := by
  intro p l e s m args below meth c H locs w lsA X hP hS hL
  exact lv_icmp_ge X.1 X.2.1 hd ht (fun q => kt (Int32.not_lt.mpr q) p l e s m args below meth c H locs w lsA X hP hS hL) (fun q => kf (Int32.not_le.mp q) p l e s m args below meth c H locs w lsA X hP hS hL)
theorem R_icmp_le {x y : Int32} {off : Int} {tgt : Nat} (hd : decode cc pc = .ok (.if_icmp .le off, 3)) (ht : (pc : Int) + off = (tgt : Int)) (kt : (¬ y < x) → gR own cc nL ret d tgt ls st h r h2) (kf : (y < x) → gR own cc nL ret d (pc + 3) ls st h r h2) : gR own cc nL ret d pc ls (.int y :: .int x :: st) h r h2 := by
  intro p l e s m args below meth c H locs w lsA X hP hS hL
  exact lv_icmp_le X.1 X.2.1 hd ht (fun q => kt (Int32.not_lt.mpr q) p l e s m args below meth c H locs w lsA X hP hS hL) (fun q => kf (Int32.not_le.mp q) p l e s m args below meth c H locs w lsA X hP hS hL)
theorem R_lookup {dflt : Int} {ps : Array (Int × Int)} {len : Nat} {x : Int32} {off : Int} {tgt : Nat} (hd : decode cc pc = .ok (.lookupswitch dflt ps, len)) (hp : (ps.toList.zip (ps.toList.drop 1)).all (fun (a, next) => a.1 < next.1) = true) (ho : Op.lookupswitch.offset ps.toList dflt x.toInt = off) (ht : (pc : Int) + off = (tgt : Int)) (k : gR own cc nL ret d tgt ls st h r h2) : gR own cc nL ret d pc ls (.int x :: st) h r h2 := by
  intro p l e s m args below meth c H locs w lsA X hP hS hL
  exact lv_lookup X.1 X.2.1 hd hp ho ht (k p l e s m args below meth c H locs w lsA X hP hS hL)
theorem R_tableOut {dflt lo hi : Int} {offs : Array Int} {len : Nat} {x : Int32} {tgt : Nat} (hd : decode cc pc = .ok (.tableswitch dflt lo hi offs, len)) (hx : x.toInt < lo ∨ hi < x.toInt) (ht : (pc : Int) + dflt = (tgt : Int)) (k : gR own cc nL ret d tgt ls st h r h2) : gR own cc nL ret d pc ls (.int x :: st) h r h2 := by
  intro p l e s m args below meth c H locs w lsA X hP hS hL
  exact lv_tableOut X.1 X.2.1 hd hx ht (k p l e s m args below meth c H locs w lsA X hP hS hL)
theorem R_tableIn {dflt lo hi : Int} {offs : Array Int} {len : Nat} {x : Int32} {off : Int} {tgt : Nat} (hd : decode cc pc = .ok (.tableswitch dflt lo hi offs, len)) (g1 : ¬ x.toInt < lo) (g2 : ¬ hi < x.toInt) (ho : offs[(x.toInt - lo).toNat]? = some off) (ht : (pc : Int) + off = (tgt : Int)) (k : gR own cc nL ret d tgt ls st h r h2) : gR own cc nL ret d pc ls (.int x :: st) h r h2 := by
  intro p l e s m args below meth c H locs w lsA X hP hS hL
  exact lv_tableIn X.1 X.2.1 hd g1 g2 ho ht (k p l e s m args below meth c H locs w lsA X hP hS hL)
/-- a field's link: class ci's field k, by own's constant idx -/
def gF (own : String) (idx ci k : Nat) : Prop := ∃ (C : String) (T : u_T) (N : Nat), gcl[ci]? = some (C, T, N) ∧ k < N ∧ (∀ t ∈ u_ws C T N, t ∈ gW) ∧ (Cond.fieldLink own idx (T k).1 (T k).2.1 (T k).2.2.1 ∈ gW ∨ ∃ host, Cond.fieldLinkNest own idx (T k).1 (T k).2.1 (T k).2.2.1 host ∈ gN)
theorem gce_obj (w : gw) (h : gH) (o ci N : Nat) (rl : List (Option Nat)) : gce w h o (ci + 3, N, rl) = .inr (ci, (List.range N).map (fun k => gsl w (rl.getD k none) (h o k))) := rfl
theorem gfs_at (w : gw) (h : gH) (o N k : Nat) (rl : List (Option Nat)) (hk : k < N) : ((List.range N).map (fun k => gsl w (rl.getD k none) (h o k)))[k]? = some (gsl w (rl.getD k none) (h o k)) := by
  rw [List.getElem?_map, List.getElem?_range hk]; rfl
theorem R_getv {idx ci k o N : Nat} {rl : List (Option Nat)} {v : Value} (hd : decode cc pc = .ok (.getfield idx, 3)) (hF : gF own idx ci k) (hO : gK o (ci + 3, N, rl)) (hkN : k < N) (hv : ∀ w : gw, gsl w (rl.getD k none) (h o k) = gcv w v) (kk : gR own cc nL ret d (pc + 3) ls (v :: st) h r h2) : gR own cc nL ret d pc ls (.ref o :: st) h r h2 := by
  intro p l e s m args below meth c H locs w lsA X hP hS hL
  obtain ⟨C, T, N1, hc, hk, hin, hl⟩ := hF
  have he : (gws w h)[o]? = some (w.2.2 o, .inr (ci, (List.range N).map (fun k => gsl w (rl.getD k none) (h o k)))) := gws_at w h hO
  have hva := gfs_at w h o N k rl hkN
  rw [hv w] at hva
  have hk2 := kk p l e s m args below meth c H locs w lsA X hP hS hL
  rcases hl with hl | ⟨host, hl⟩
  · exact va_get X.1 X.2.1 X.2.2.2.2.2.1 hin X.2.2.2.2.1 X.2.2.2.2.2.2.2.1 hP o he hc k hk (X.2.2.2.2.2.1 _ hl) (fun _ q => q) hva hd hk2
  · exact va_getN X.1 X.2.1 X.2.2.2.2.2.1 hin X.2.2.2.2.1 X.2.2.2.2.2.2.2.1 hP o he hc k hk (X.2.2.2.2.2.2.2.2.1 _ hl) (fun _ q => q) hva hd hk2
theorem R_geti {idx ci k o N : Nat} {rl : List (Option Nat)} (hd : decode cc pc = .ok (.getfield idx, 3)) (hF : gF own idx ci k) (hO : gK o (ci + 3, N, rl)) (hkN : k < N) (hr : rl.getD k none = none) (kk : gR own cc nL ret d (pc + 3) ls (.int (h o k) :: st) h r h2) : gR own cc nL ret d pc ls (.ref o :: st) h r h2 :=
  R_getv hd hF hO hkN (fun w => by rw [hr]; rfl) kk
theorem R_getr {idx ci k o o2 N : Nat} {rl : List (Option Nat)} (hd : decode cc pc = .ok (.getfield idx, 3)) (hF : gF own idx ci k) (hO : gK o (ci + 3, N, rl)) (hkN : k < N) (hr : rl.getD k none = some o2) (kk : gR own cc nL ret d (pc + 3) ls (.ref o2 :: st) h r h2) : gR own cc nL ret d pc ls (.ref o :: st) h r h2 :=
  R_getv hd hF hO hkN (fun w => by rw [hr]; rfl) kk
/-- what a put needs besides: the field isn't final, its type -/
def gP (ci k : Nat) (ty : FieldType) : Prop := ∃ (C : String) (T : u_T) (N : Nat) (ty0 : Nat → FieldType), gcl[ci]? = some (C, T, N) ∧ (∀ k, k < N → parseFieldDescriptor (T k).2.2.1 = some (ty0 k)) ∧ (∀ a, a < N → ∀ b, b < N → a ≠ b → (T a).2.1 ≠ (T b).2.1) ∧ (T k).2.2.2 = false ∧ parseFieldDescriptor (T k).2.2.1 = some ty
theorem gce_hu (w : gw) (h : gH) (o ci N k : Nat) (rl : List (Option Nat)) (x : Int32) (hk : k < N) (hr : rl.getD k none = none) : gce w (hu h o k x) o (ci + 3, N, rl) = .inr (ci, ((List.range N).map (fun k => gsl w (rl.getD k none) (h o k))).set k (.int x)) := by
  rw [gce_obj]
  congr 2
  apply List.ext_getElem?
  intro i
  rw [List.getElem?_set, List.getElem?_map]
  by_cases hi : k = i
  · subst hi
    have e : gsl w (rl.getD k none) (hu h o k x o k) = .int x := by rw [hr]; simp [gsl, hu]
    rw [List.getElem?_range hk, if_pos rfl, if_pos (by simpa using hk)]
    exact congrArg some e
  · rw [if_neg hi, List.getElem?_map]
    by_cases hN : i < N
    · rw [List.getElem?_range hN]
      simp only [Option.map_some]
      have e : hu h o k x o i = h o i := by
        show (if o = o then (if i = k then x else h o i) else h o i) = h o i
        rw [if_pos rfl, if_neg (fun e => hi e.symm)]
      rw [e]
    · simp [List.getElem?_eq_none, hN]
theorem hu_ne {h : gH} {o k : Nat} {x : Int32} {a : Nat} (ha : a ≠ o) : hu h o k x a = h a := by
  funext b
  simp [hu, ha]
theorem R_put {idx ci k o N : Nat} {rl : List (Option Nat)} {ty : FieldType} {x : Int32} (hd : decode cc pc = .ok (.putfield idx, 3)) (hF : gF own idx ci k) (hp : gP ci k ty) (hn : narrow ty (.int x) = .int x) (hf : fits ty (.int x) = true) (hO : gK o (ci + 3, N, rl)) (hkN : k < N) (hr : rl.getD k none = none) (kk : gR own cc nL ret d (pc + 3) ls st (hu h o k x) r h2) : gR own cc nL ret d pc ls (.int x :: .ref o :: st) h r h2 := by
  intro p l e s m args below meth c H locs w lsA X hP hS hL
  obtain ⟨C, T, N1, hc, hk, hin, hl⟩ := hF
  obtain ⟨C2, T2, N2, ty0, hc2, hty, hnm, hfin, hty2⟩ := hp
  rw [hc] at hc2
  cases hc2
  have he : (gws w h)[o]? = some (w.2.2 o, .inr (ci, (List.range N).map (fun k => gsl w (rl.getD k none) (h o k)))) := gws_at w h hO
  have hlen : k < ((List.range N).map (fun k => gsl w (rl.getD k none) (h o k))).length := by simpa using hkN
  have hset := gws_set w (h := h) (h2 := hu h o k x) hO (gce_hu w h o ci N k rl x hkN hr) (fun a ha => hu_ne ha)
  have hDv := gD_va (h := h) X.2.2.2.2.2.2.2.2.2.1
  rcases hl with hl | ⟨host, hl⟩
  · exact va_put X.1 X.2.1 X.2.2.2.2.2.1 hin ty0 hty hnm X.2.2.2.2.1 X.2.2.2.2.2.2.2.1 hP hDv hS o he hc k hk (X.2.2.2.2.2.1 _ hl) (fun _ q => q) hfin hty2 hn hf hlen hd (fun H1 locs1 hP1 _ hS1 => kk p l e s m args below meth c H1 locs1 w lsA X (hset ▸ hP1) hS1 hL)
  · exact va_putN X.1 X.2.1 X.2.2.2.2.2.1 hin ty0 hty hnm X.2.2.2.2.1 X.2.2.2.2.2.2.2.1 hP hDv hS o he hc k hk (X.2.2.2.2.2.2.2.2.1 _ hl) (fun _ q => q) hfin hty2 hn hf hlen hd (fun H1 locs1 hP1 _ hS1 => kk p l e s m args below meth c H1 locs1 w lsA X (hset ▸ hP1) hS1 hL)
theorem R_puti {idx ci k o N : Nat} {rl : List (Option Nat)} {x : Int32} (hd : decode cc pc = .ok (.putfield idx, 3)) (hF : gF own idx ci k) (hp : gP ci k .int) (hO : gK o (ci + 3, N, rl)) (hkN : k < N) (hr : rl.getD k none = none) (kk : gR own cc nL ret d (pc + 3) ls st (hu h o k x) r h2) : gR own cc nL ret d pc ls (.int x :: .ref o :: st) h r h2 :=
  R_put hd hF hp rfl rfl hO hkN hr kk
theorem R_putz {idx ci k o N : Nat} {rl : List (Option Nat)} {x : Int32} (hd : decode cc pc = .ok (.putfield idx, 3)) (hF : gF own idx ci k) (hp : gP ci k .boolean) (hb : x = 0 ∨ x = 1) (hO : gK o (ci + 3, N, rl)) (hkN : k < N) (hr : rl.getD k none = none) (kk : gR own cc nL ret d (pc + 3) ls st (hu h o k x) r h2) : gR own cc nL ret d pc ls (.int x :: .ref o :: st) h r h2 :=
  R_put hd hF hp (by rcases hb with rfl | rfl <;> decide +kernel) (by rcases hb with rfl | rfl <;> decide +kernel) hO hkN hr kk
/-! arrays -/
theorem gty0 (w : gw) : (gty w)[0]? = some (w.2.1.1, .int) := rfl
theorem gty1 (w : gw) : (gty w)[1]? = some (w.2.1.2.1, .boolean) := rfl
theorem gty2 (w : gw) : (gty w)[2]? = some (w.2.1.2.2, .object RX5) := rfl
theorem R_iald {o n : Nat} {rl : List (Option Nat)} {i : Int32} (hd : decode cc pc = .ok (.iaload, 1)) (hO : gK o (0, n, rl)) (hi : vp_in i n) (kk : gR own cc nL ret d (pc + 1) ls (.int (h o i.toNatClampNeg) :: st) h r h2) : gR own cc nL ret d pc ls (.int i :: .ref o :: st) h r h2 := by
  intro p l e s m args below meth c H locs w lsA X hP hS hL
  exact va_iald X.1 X.2.1 X.2.2.2.2.2.2.2.1 hP o 0 (gws_at w h hO) (gty0 w) hi hd (kk p l e s m args below meth c H locs w lsA X hP hS hL)
theorem R_zald {o n : Nat} {rl : List (Option Nat)} {i : Int32} (hd : decode cc pc = .ok (.baload, 1)) (hO : gK o (1, n, rl)) (hi : vp_in i n) (kk : gR own cc nL ret d (pc + 1) ls (.int (h o i.toNatClampNeg) :: st) h r h2) : gR own cc nL ret d pc ls (.int i :: .ref o :: st) h r h2 := by
  intro p l e s m args below meth c H locs w lsA X hP hS hL
  exact va_zald X.1 X.2.1 X.2.2.2.2.2.2.2.1 hP o 1 (gws_at w h hO) (gty1 w) hi hd (kk p l e s m args below meth c H locs w lsA X hP hS hL)
theorem R_aald {o n o2 : Nat} {rl : List (Option Nat)} {i : Int32} (hd : decode cc pc = .ok (.aaload, 1)) (hO : gK o (2, n, rl)) (hi : vp_in i n) (hr : rl.getD i.toNatClampNeg none = some o2) (kk : gR own cc nL ret d (pc + 1) ls (.ref o2 :: st) h r h2) : gR own cc nL ret d pc ls (.int i :: .ref o :: st) h r h2 := by
  intro p l e s m args below meth c H locs w lsA X hP hS hL
  refine va_aldq X.1 X.2.1 X.2.2.2.2.2.2.2.1 hP o 2 (gws_at w h hO) (gty2 w) hi hd ?_
  have := kk p l e s m args below meth c H locs w lsA X hP hS hL
  dsimp only
  rw [hr]
  exact this
theorem gce_iast (w : gw) (h : gH) (o n : Nat) (rl : List (Option Nat)) (k : Nat) (x : Int32) : gce w (hu h o k x) o (0, n, rl) = .inl (w.2.1.1, n, .inl (upd (h o) k x)) := by
  show Sum.inl (w.2.1.1, n, Sum.inl (hu h o k x o)) = _
  have e : hu h o k x o = upd (h o) k x := by funext b; simp [hu, upd]
  rw [e]
theorem gce_zast (w : gw) (h : gH) (o n : Nat) (rl : List (Option Nat)) (k : Nat) (x : Int32) : gce w (hu h o k x) o (1, n, rl) = .inl (w.2.1.2.1, n, .inl (upd (h o) k x)) := by
  show Sum.inl (w.2.1.2.1, n, Sum.inl (hu h o k x o)) = _
  have e : hu h o k x o = upd (h o) k x := by funext b; simp [hu, upd]
  rw [e]
theorem R_iast {o n : Nat} {rl : List (Option Nat)} {i x : Int32} (hd : decode cc pc = .ok (.iastore, 1)) (hO : gK o (0, n, rl)) (hi : vp_in i n) (kk : gR own cc nL ret d (pc + 1) ls st (hu h o i.toNatClampNeg x) r h2) : gR own cc nL ret d pc ls (.int x :: .int i :: .ref o :: st) h r h2 := by
  intro p l e s m args below meth c H locs w lsA X hP hS hL
  exact va_iast X.1 X.2.1 X.2.2.2.2.2.2.2.1 hP (gD_va (h := h) X.2.2.2.2.2.2.2.2.2.1) hS o 0 (gws_at w h hO) (gty0 w) hi hd (fun H1 locs1 hP1 _ hS1 => kk p l e s m args below meth c H1 locs1 w lsA X ((gws_set w (h := h) hO (gce_iast w h o n rl i.toNatClampNeg x) (fun a ha => hu_ne ha)) ▸ hP1) hS1 hL)
theorem R_zast {o n : Nat} {rl : List (Option Nat)} {i x : Int32} (hd : decode cc pc = .ok (.bastore, 1)) (hO : gK o (1, n, rl)) (hi : vp_in i n) (hb : x = 0 ∨ x = 1) (kk : gR own cc nL ret d (pc + 1) ls st (hu h o i.toNatClampNeg x) r h2) : gR own cc nL ret d pc ls (.int x :: .int i :: .ref o :: st) h r h2 := by
  intro p l e s m args below meth c H locs w lsA X hP hS hL
  have hx : vp_nar .boolean x = x := by rcases hb with rfl | rfl <;> decide +kernel
  refine va_zast X.1 X.2.1 X.2.2.2.2.2.2.2.1 hP (gD_va (h := h) X.2.2.2.2.2.2.2.2.2.1) hS o 1 (gws_at w h hO) (gty1 w) hi hd (fun H1 locs1 hP1 _ hS1 => kk p l e s m args below meth c H1 locs1 w lsA X ((gws_set w (h := h) hO (gce_zast w h o n rl i.toNatClampNeg x) (fun a ha => hu_ne ha)) ▸ ?_) hS1 hL)
  rw [hx] at hP1
  exact hP1
theorem R_alen {o n : Nat} {rl : List (Option Nat)} (hd : decode cc pc = .ok (.arraylength, 1)) (hO : gK o (0, n, rl)) {v : Int32} (hv : Int32.ofNat n = v) (kk : gR own cc nL ret d (pc + 1) ls (.int v :: st) h r h2) : gR own cc nL ret d pc ls (.ref o :: st) h r h2 := by
  intro p l e s m args below meth c H locs w lsA X hP hS hL
  exact va_alen X.1 X.2.1 X.2.2.2.2.2.2.2.1 hP o 0 (gws_at w h hO) (gty0 w) hv hd (kk p l e s m args below meth c H locs w lsA X hP hS hL)
/-- System.arraycopy, between rows of ints -/
def gcp (h : gH) (a sp b dp n : Nat) : gH := fun o k => if o = b then va_cpy (h a) (h b) sp dp n k else h o k
theorem gcp_ne {h : gH} {a sp b dp n o : Nat} (ho : o ≠ b) : gcp h a sp b dp n o = h o := by
  funext k
  simp [gcp, ho]
theorem gce_cpy (w : gw) (h : gH) (a sp b dp n nb : Nat) (rl : List (Option Nat)) : gce w (gcp h a sp b dp n) b (0, nb, rl) = .inl (w.2.1.1, nb, .inl (va_cpy (h a) (h b) sp dp n)) := by
  show Sum.inl (w.2.1.1, nb, Sum.inl (gcp h a sp b dp n b)) = _
  have e : gcp h a sp b dp n b = va_cpy (h a) (h b) sp dp n := by funext k; simp [gcp]
  rw [e]
def gCy (own : String) (idx : Nat) : Prop := Cond.methodLink own idx arraycopyName ∈ gW ∧ Cond.native arraycopyName ∈ gW ∧ Cond.static arraycopyName ∈ gW ∧ Cond.initialized "java/lang/System" ∈ gW
theorem R_copy {idx a b na nb : Nat} {ra rb : List (Option Nat)} {sp dp n : Int32} (hd : decode cc pc = .ok (.invokestatic idx, 3)) (hc : gCy own idx) (hA : gK a (0, na, ra)) (hB : gK b (0, nb, rb)) (h1 : ¬ sp < 0) (h2' : ¬ dp < 0) (h3 : ¬ n < 0) (h4 : sp.toNatClampNeg + n.toNatClampNeg ≤ na) (h5 : dp.toNatClampNeg + n.toNatClampNeg ≤ nb) (hdd : 1 ≤ d) (hst : gcat st ≤ 8)
    (kk : gR own cc nL ret d (pc + 3) ls st (gcp h a sp.toNatClampNeg b dp.toNatClampNeg n.toNatClampNeg) r h2) : gR own cc nL ret d pc ls (.int n :: .int dp :: .ref b :: .int sp :: .ref a :: st) h r h2 := by
  intro p l e s m args below meth c H locs w lsA X hP hS hL
  refine va_copyi (rest := st.map (gcv w)) X.1 X.2.1 (X.2.2.2.1.trans hL.1.symm) X.2.2.2.2.1 (X.2.2.2.2.2.1 _ hc.1) (X.2.2.2.2.2.1 _ hc.2.1) (X.2.2.2.2.2.1 _ hc.2.2.1) (X.2.2.2.2.2.1 _ hc.2.2.2) X.2.2.2.2.2.2.2.1 hP (gD_va (h := h) X.2.2.2.2.2.2.2.2.2.1) hS a b 0 0 (gws_at w h hA) (gws_at w h hB) (gty0 w) (gty0 w) rfl h1 h2' h3 h4 h5 (fun _ _ => rfl) hdd ?_ hd (fun H1 locs1 hP1 _ hS1 => kk p l e s m args below meth c H1 locs1 w lsA X ((gws_set w (h := h) hB (gce_cpy w h a sp.toNatClampNeg b dp.toNatClampNeg n.toNatClampNeg nb rb) (fun o ho => gcp_ne ho)) ▸ hP1) hS1 hL)
  rw [gcat_eq]
  have e : nativeFrameWords "java/lang/System" "arraycopy" 5 = 7 := by decide +kernel
  rw [e]
  show _ ≤ 64 * d
  omega
/-! calls -/
def gLk (own : String) (idx : Nat) (y : MethodName) (n : Nat) : Prop := (Cond.methodLink own idx y ∈ gW ∨ ∃ host, Cond.methodLinkNest own idx y host ∈ gN) ∧ Cond.initialized y.cls ∈ gW ∧ (y.cls ≠ "java/lang/invoke/MethodHandle" ∧ y.cls ≠ "java/lang/invoke/VarHandle" ∧ (parseMethodDescriptor y.desc).map (fun d => d.parameters.length) = some n)
def gLV (own : String) (idx : Nat) (y : MethodName) (n : Nat) : Prop := gLk own idx y n ∧ Cond.instanceMethod y ∈ gW ∧ Cond.selects y.cls y y ∈ gW
def gLS (own : String) (idx : Nat) (y : MethodName) (n : Nat) : Prop := gLk own idx y n ∧ Cond.static y ∈ gW
theorem gPre_blind (w : gw) (h : gH) (av : List Value) : FrameBlind (va_Pc av (gPre w h)) := fun a U g mk q => ⟨q.1, q.2.1, va_K.moved (u := U) (U := U.calling g mk a) (Vm.Alike.refl U.vm) q.2.2.1, fun z hz => gN_same hz (u := U) (U := U.calling g mk a) rfl (q.2.2.2.1 z hz), gXt_same (u := U) (U := U.calling g mk a) rfl q.2.2.2.2⟩
theorem gPre_of {own : String} {cc : ByteArray} {nL : Nat} {ret : Option FieldType} {p : Program} {s : State} {m : MethodId} {args : Array Value} {meth : Method} {c : Code} {w : gw} {h : gH} {H : Heap} (X : gX own cc nL ret p s m args meth c w) {locs : List Loc} (hP : va_P w.1 gcl (gws w h) H) (hS : va_S (gA w) s.heap H locs) {U : State} (hU : U.heap = H) (hW : s.WarmedH U.vm) : gPre w h U :=
  ⟨by rw [hU]; exact hP, va_K.moved hW.alike X.2.2.2.2.2.2.2.1, fun z hz => gN_warm hz hW (X.2.2.2.2.2.2.2.2.1 z hz), gXt_moved hW (by rw [hU]; exact hS.2.1) X.2.2.2.2.2.2.2.2.2.2⟩
theorem gcall {p : Program} {l : Launch} {e : Env} {R : Room} {s : State} {m : MethodId} {args : Array Value} {below : List Frame} {meth : Method} {c : Code} {H H0 : Heap} {locs : List Loc} {Q : State → Prop} {w : gw} {lsA : Array Slot} {st0 rest : List Value} {a : Array Value} {r1 : Option Value} {h1 : gH} {pc : Nat}
    (hr : va_Run p l e R s m args below meth c H locs 0 0 0 0 (F0 m pc lsA st0) rest (gQ w r1 h1 a) (gA w)) (hS : va_S (gA w) H0 H locs)
    (kk : ∀ (H1 : Heap) (locs1 : List Loc), va_P w.1 gcl (gws w h1) H1 → va_S (gA w) H0 H1 locs1 → W p l e R s m args below meth c H1 locs1 0 0 Q (F0 m (pc + 3) lsA ((r1.map (gcv w)).toList ++ rest))) : W p l e R s m args below meth c H locs 0 0 Q (F0 m pc lsA st0) := by
  intro T hT X
  obtain ⟨v, st₀, t, T', L, h0, X', hL, e1, e2, ⟨⟨hv, hp⟩, hz, hk⟩, st⟩ := hr T hT X
  cases hv
  rw [h0] at hz hk
  obtain ⟨t2, a1, b1⟩ := kk T'.heap (locs ++ L) (by rw [e1]; exact hp.1)
    ⟨Nat.le_trans hS.1 (by rw [e1]; exact hz), fun q g1 g2 => by rw [e1, hk q (Nat.lt_of_lt_of_le g1 hS.1) g2]; exact hS.2.1 q g1 g2, fun q hq => by
      rcases List.mem_append.mp hq with g | g
      · exact hS.2.2 q g
      · exact hL q g⟩ T' rfl X'
  exact ⟨t2, st t2 a1, b1⟩
theorem gGood {y : MethodName} {bytes : ByteArray} {maxL : Nat} {ret : Option FieldType} (hc : Cond.code y bytes maxL ret ∈ gW) : GoodIn gW (Cond.code y bytes maxL ret :: gW) := fun w hw => by
  rcases List.mem_cons.mp hw with rfl | hw
  · exact ⟨hc, gW_good hc⟩
  · exact ⟨hw, gW_good hw⟩
theorem groom {d1 d maxL : Nat} (h1 : d1 + 1 ≤ d) (h2 : maxL ≤ 45) : (grm d1).frames + 1 ≤ (grm d).frames ∧ 8 + (maxL + 11) + (grm d1).locals ≤ (grm d).locals := by
  refine ⟨h1, ?_⟩
  show 8 + (maxL + 11) + 64 * d1 ≤ 64 * d
  omega
theorem gspl0 {n : Nat} {st as rest : List Value} (h : gspl n [] st = some (as, rest)) (w : gw) : (as.map (gcv w)).length = n ∧ st.map (gcv w) = (as.map (gcv w)).reverse ++ rest.map (gcv w) := by
  obtain ⟨pre, h1, h2, h3⟩ := gspl_eq n [] st as rest h
  rw [List.append_nil] at h3
  subst h3
  subst h2
  refine ⟨by simp [h1], by simp⟩
theorem R_callV {idx n d1 nL1 o ci N N1 : Nat} {T : u_T} {y : MethodName} {bytes : ByteArray} {ret1 : Option FieldType} {rl : List (Option Nat)} {as rest : List Value} {r1 : Option Value} {h1 : gH} (hd : decode cc pc = .ok (.invokevirtual idx, 3)) (hk : gLV own idx y n) (hco : Cond.code y bytes nL1 ret1 ∈ gW) (hnL : nL1 ≤ 45) (hO : gK o (ci + 3, N, rl)) (hci : gcl[ci]? = some (y.cls, T, N1)) (hsp : gspl n [] st = some (as, .ref o :: rest)) (hcat : gcat rest ≤ 8) (hdd : d1 + 1 ≤ d) (hC : gC y bytes nL1 ret1 d1 (.ref o :: as) h r1 h1) (kk : gR own cc nL ret d (pc + 3) ls (gpu r1 rest) h1 r h2) : gR own cc nL ret d pc ls st h r h2 := by
  intro p l e s m args below meth c H locs w lsA X hP hS hL
  obtain ⟨e1, e2⟩ := gspl0 hsp w
  rw [e2]
  have hfix : CallFix p m c cc nL s args gW own := ⟨X.1, X.2.1, X.2.2.2.1, X.2.2.2.2.1, X.2.2.2.2.2.1⟩
  have he : (gws w h)[o]? = some (w.2.2 o, .inr (ci, (List.range N).map (fun k => gsl w (rl.getD k none) (h o k)))) := gws_at w h hO
  have hrec := va_recv (s := s) X.2.2.2.2.2.2.2.1 hP hci he
  have hpv : PreV s H y.cls (w.2.2 o) (va_Pc ((Value.ref o :: as).map (gcv w)) (gPre w h)) (as.map (gcv w)) := ⟨gPre_blind w h _, hrec, fun U hU hW => ⟨rfl, gPre_of X hP hS hU hW⟩⟩
  refine gcall (w := w) (rest := rest.map (gcv w)) (r1 := r1) (h1 := h1) (a := (Value.ref (w.2.2 o) :: as.map (gcv w)).toArray) ?_ hS (fun H1 locs1 hP1 hS1 => ?_)
  · rcases hk.1.1 with hl | ⟨host, hl⟩
    · exact va_runV hfix (hC l w X.2.2.2.2.2.2.2.2.2.1) ⟨callB_of n X.2.2.2.2.2.1 (gGood hco) rfl rfl rfl (X.2.2.2.2.2.1 _ hk.1.2.1) (X.2.2.2.2.2.1 _ hl) hk.1.2.2 (groom hdd hnL), X.2.2.2.2.2.1 _ hk.2.1, X.2.2.2.2.2.1 _ hk.2.2⟩ hpv rfl e1 hL.1 rfl (lv_room (by rw [gcat_eq]; exact hcat)) hd ⟨Nat.le_refl _, Nat.le_refl _⟩
    · exact va_runVN hfix (hC l w X.2.2.2.2.2.2.2.2.2.1) ⟨va_cnB n X.2.2.2.2.2.1 (gGood hco) rfl rfl rfl (X.2.2.2.2.2.2.2.2.1 _ hl) (X.2.2.2.2.2.1 _ hk.1.2.1) hk.1.2.2 (groom hdd hnL), X.2.2.2.2.2.1 _ hk.2.1, X.2.2.2.2.2.1 _ hk.2.2⟩ hpv rfl e1 hL.1 rfl (lv_room (by rw [gcat_eq]; exact hcat)) hd ⟨Nat.le_refl _, Nat.le_refl _⟩
  · rw [← gpu_eq]
    exact kk p l e s m args below meth c H1 locs1 w lsA X hP1 hS1 hL
theorem R_callS {idx n d1 nL1 : Nat} {y : MethodName} {bytes : ByteArray} {ret1 : Option FieldType} {as rest : List Value} {r1 : Option Value} {h1 : gH} (hd : decode cc pc = .ok (.invokestatic idx, 3)) (hk : gLS own idx y n) (hco : Cond.code y bytes nL1 ret1 ∈ gW) (hnL : nL1 ≤ 45) (hsp : gspl n [] st = some (as, rest)) (hcat : gcat rest ≤ 8) (hdd : d1 + 1 ≤ d) (hC : gC y bytes nL1 ret1 d1 as h r1 h1) (kk : gR own cc nL ret d (pc + 3) ls (gpu r1 rest) h1 r h2) : gR own cc nL ret d pc ls st h r h2 := by
  intro p l e s m args below meth c H locs w lsA X hP hS hL
  obtain ⟨e1, e2⟩ := gspl0 hsp w
  rw [e2]
  have hfix : CallFix p m c cc nL s args gW own := ⟨X.1, X.2.1, X.2.2.2.1, X.2.2.2.2.1, X.2.2.2.2.2.1⟩
  have hpv : PreS s H (va_Pc (as.map (gcv w)) (gPre w h)) (as.map (gcv w)) := ⟨gPre_blind w h _, fun U hU hW => ⟨rfl, gPre_of X hP hS hU hW⟩⟩
  refine gcall (w := w) (rest := rest.map (gcv w)) (r1 := r1) (h1 := h1) (a := (as.map (gcv w)).toArray) ?_ hS (fun H1 locs1 hP1 hS1 => ?_)
  · rcases hk.1.1 with hl | ⟨host, hl⟩
    · exact va_runS hfix (hC l w X.2.2.2.2.2.2.2.2.2.1) ⟨callB_of n X.2.2.2.2.2.1 (gGood hco) rfl rfl rfl (X.2.2.2.2.2.1 _ hk.1.2.1) (X.2.2.2.2.2.1 _ hl) hk.1.2.2 (groom hdd hnL), X.2.2.2.2.2.1 _ hk.2⟩ hpv rfl e1 hL.1 rfl (lv_room (by rw [gcat_eq]; exact hcat)) hd ⟨Nat.le_refl _, Nat.le_refl _⟩
    · exact va_runSN hfix (hC l w X.2.2.2.2.2.2.2.2.2.1) ⟨va_cnB n X.2.2.2.2.2.1 (gGood hco) rfl rfl rfl (X.2.2.2.2.2.2.2.2.1 _ hl) (X.2.2.2.2.2.1 _ hk.1.2.1) hk.1.2.2 (groom hdd hnL), X.2.2.2.2.2.1 _ hk.2, trivial⟩ hpv rfl e1 hL.1 rfl (lv_room (by rw [gcat_eq]; exact hcat)) hd ⟨Nat.le_refl _, Nat.le_refl _⟩
  · rw [← gpu_eq]
    exact kk p l e s m args below meth c H1 locs1 w lsA X hP1 hS1 hL
/-! ends -/
theorem R_iret {v : Int32} (hd : decode cc pc = .ok (.ireturn, 1)) (hr : ret = some .int) : gR own cc nL ret d pc ls [.int v] h (some (.int v)) h := by
  intro p l e s m args below meth c H locs w lsA X hP hS hL
  have hlocks := X.2.2.2.2.2.2.1
  exact W.iret X.1 X.2.1 (X.2.2.1.trans hr) (fun t ht hW => ⟨⟨rfl, gPre_of X hP hS ht hW⟩, hS.F ht⟩) hS.2.2 hd
theorem R_zret {v : Int32} (hd : decode cc pc = .ok (.ireturn, 1)) (hr : ret = some .boolean) (hb : v = 0 ∨ v = 1) : gR own cc nL ret d pc ls [.int v] h (some (.int v)) h := by
  intro p l e s m args below meth c H locs w lsA X hP hS hL
  have hlocks := X.2.2.2.2.2.2.1
  exact W.zret X.1 X.2.1 (X.2.2.1.trans hr) (by rcases hb with rfl | rfl <;> decide +kernel) (fun t ht hW => ⟨⟨rfl, gPre_of X hP hS ht hW⟩, hS.F ht⟩) hS.2.2 hd
theorem R_lret {v : Int64} (hd : decode cc pc = .ok (.lreturn, 1)) (hr : ret = some .long) : gR own cc nL ret d pc ls [.long v] h (some (.long v)) h := by
  intro p l e s m args below meth c H locs w lsA X hP hS hL
  have hlocks := X.2.2.2.2.2.2.1
  exact W.lret X.1 X.2.1 (X.2.2.1.trans hr) (fun t ht hW => ⟨⟨rfl, gPre_of X hP hS ht hW⟩, hS.F ht⟩) hS.2.2 hd
theorem R_vret (hd : decode cc pc = .ok (.return_, 1)) (hr : ret = none) : gR own cc nL ret d pc ls [] h none h := by
  intro p l e s m args below meth c H locs w lsA X hP hS hL
  have hlocks := X.2.2.2.2.2.2.1
  exact W.vret X.1 X.2.1 (X.2.2.1.trans hr) (fun t ht hW => ⟨⟨rfl, gPre_of X hP hS ht hW⟩, hS.F ht⟩) hS.2.2 hd
/-! fewer locals known; the beginning of a method -/
def gle (a b : List Value) : Prop := a.length = b.length ∧ ∀ (i : Nat) (v : Value), a[i]? = some v → v ≠ .null → b[i]? = some v
theorem gle_nil : gle [] [] := ⟨rfl, fun _ _ h _ => h⟩
theorem gle_null {a b : List Value} {v : Value} (h : gle a b) : gle (.null :: a) (v :: b) := ⟨by simp [h.1], fun i u hi hu => by
  cases i with
  | zero => exact absurd (Option.some.inj hi).symm hu
  | succ i => exact h.2 i u hi hu⟩
theorem gle_same {a b : List Value} {v : Value} (h : gle a b) : gle (v :: a) (v :: b) := ⟨by simp [h.1], fun i u hi hu => by
  cases i with
  | zero => exact hi
  | succ i => exact h.2 i u hi hu⟩
theorem R_weak {ls1 : List Value} (hl : gle ls1 ls) (k : gR own cc nL ret d pc ls1 st h r h2) : gR own cc nL ret d pc ls st h r h2 := by
  intro p l e s m args below meth c H locs w lsA X hP hS hL
  exact k p l e s m args below meth c H locs w lsA X hP hS ⟨hL.1, hL.2.1, hl.1.trans hL.2.2.1, fun i v hi hv => hL.2.2.2 i v (hl.2 i v hi hv) hv⟩
def gent (av : List Value) : List Value := av.flatMap (fun v => if v.category = 2 then [v, .null] else [v])
theorem gent_at (w : gw) : ∀ (av : List Value) (i : Nat) (v : Value), (gent av)[i]? = some v → v ≠ .null → (lg_sl (av.map (gcv w)))[i]? = some (.val (gcv w v)) := by
  intro av
  induction av with
  | nil => intro i v h; simp [gent] at h
  | cons u av ih =>
    intro i v h hv
    by_cases hc : u.category = 2
    · have e1 : gent (u :: av) = u :: .null :: gent av := by simp [gent, hc]
      have e2 : lg_sl ((u :: av).map (gcv w)) = .val (gcv w u) :: .second :: lg_sl (av.map (gcv w)) := by simp [lg_sl, gcv_cat, hc]
      rw [e1] at h
      rw [e2]
      match i with
      | 0 => cases h; rfl
      | 1 => exact absurd (Option.some.inj h).symm hv
      | i + 2 => exact ih i v h hv
    · have e1 : gent (u :: av) = u :: gent av := by simp [gent, hc]
      have e2 : lg_sl ((u :: av).map (gcv w)) = .val (gcv w u) :: lg_sl (av.map (gcv w)) := by simp [lg_sl, gcv_cat, hc]
      rw [e1] at h
      rw [e2]
      match i with
      | 0 => cases h; rfl
      | i + 1 => exact ih i v h hv
theorem gent_len (w : gw) : ∀ (av : List Value), (lg_sl (av.map (gcv w))).length = (gent av).length := by
  intro av
  induction av with
  | nil => rfl
  | cons u av ih =>
    by_cases hc : u.category = 2
    · have e1 : gent (u :: av) = u :: .null :: gent av := by simp [gent, hc]
      have e2 : lg_sl ((u :: av).map (gcv w)) = .val (gcv w u) :: .second :: lg_sl (av.map (gcv w)) := by simp [lg_sl, gcv_cat, hc]
      rw [e1, e2]; simp [ih]
    · have e1 : gent (u :: av) = u :: gent av := by simp [gent, hc]
      have e2 : lg_sl ((u :: av).map (gcv w)) = .val (gcv w u) :: lg_sl (av.map (gcv w)) := by simp [lg_sl, gcv_cat, hc]
      rw [e1, e2]; simp [ih]
theorem gC_of {y : MethodName} {av : List Value} (hy : plainName y.cls = true) (hn : (gent av).length ≤ nL) (hls : gent av ++ List.replicate (nL - (gent av).length) Value.null = ls) (k : gR y.cls cc nL ret d 0 ls [] h r h2) : gC y cc nL ret d av h r h2 := by
  intro l w hDw
  refine Met.ofW (cc := cc) (maxL := nL) (ret := ret) hy rfl ?_
  intro p e s m args below meth c s₁ B hml hv
  obtain ⟨rfl, hP, hK, hZ, hXt⟩ := hv
  have hts := atoms_spec (ws := Cond.code y cc nL ret :: gW) B.pre
  rw [lg_entry_eq]
  have hlen := gent_len w av
  have hen := lv_entry (av.map (gcv w)) (n := nL) (by rw [hlen]; exact hn)
  refine k p l e s m _ below meth c s.heap [] w _ ⟨B.exec, B.bytes, B.returns, hml, findClass_of_methodNamed B.named, fun t ht => hts t (List.mem_cons_of_mem _ ht), B.notSynchronized, hK, hZ, hDw, hXt⟩ hP va_S.rf ⟨hen.1, hen.2.1, ?_, ?_⟩
  · rw [← hls]; simp; omega
  · intro i v hi hv
    rw [← hls] at hi
    rw [List.getElem?_toArray]
    by_cases hlt : i < (gent av).length
    · rw [List.getElem?_append_left hlt] at hi
      rw [List.getElem?_append_left (by rw [hlen]; exact hlt)]
      exact gent_at w av i v hi hv
    · rw [List.getElem?_append_right (by omega)] at hi
      exact absurd (List.mem_replicate.mp (List.mem_of_getElem? hi)).2 hv
/-! what a method's function says -/
theorem gif {α : Type} {c : Prop} [Decidable c] {t : Option α} {x : α} (h : (if c then t else none) = some x) : c ∧ t = some x := by
  by_cases hc : c
  · exact ⟨hc, by rwa [if_pos hc] at h⟩
  · rw [if_neg hc] at h; cases h
theorem gbi {α β : Type} {o : Option α} {f : α → Option β} {x : β} (h : o.bind f = some x) : ∃ a, o = some a ∧ f a = some x := by
  cases o with
  | none => cases h
  | some a => exact ⟨a, rfl, h⟩

end
end
section
def gfu : Nat := 10000000
def gdp : Nat := 40
def gg {α : Type} (c : Bool) (t : Option α) : Option α := if c = true then t else none
def glet {α β : Type} (a : α) (f : α → Option β) : Option β := f a
def gin (i : Int32) (n : Nat) : Bool := decide (¬ (i < 0 ∨ n ≤ i.toNatClampNeg))
def gbo (x : Int32) : Bool := decide (x = 0 ∨ x = 1)
def gcpo (sp dp n : Int32) (na nb : Nat) : Bool := decide (¬ sp < 0 ∧ ¬ dp < 0 ∧ ¬ n < 0 ∧ sp.toNatClampNeg + n.toNatClampNeg ≤ na ∧ dp.toNatClampNeg + n.toNatClampNeg ≤ nb)
theorem ggi {α : Type} {c : Bool} {t : Option α} {x : α} (h : gg c t = some x) : c = true ∧ t = some x := gif h
theorem gift {α : Type} {c : Prop} [Decidable c] {t e : Option α} {x : α} (q : c) (h : (if c then t else e) = some x) : t = some x := by rwa [if_pos q] at h
theorem giff {α : Type} {c : Prop} [Decidable c] {t e : Option α} {x : α} (q : ¬ c) (h : (if c then t else e) = some x) : e = some x := by rwa [if_neg q] at h
theorem gnif {α : Type} {c : Prop} [Decidable c] {e : Option α} {x : α} (h : (if c then none else e) = some x) : ¬ c ∧ e = some x := by
  by_cases q : c
  · rw [if_pos q] at h; cases h
  · exact ⟨q, by rwa [if_neg q] at h⟩
theorem glei {α β : Type} {a : α} {f : α → Option β} {x : β} (h : glet a f = some x) : ∃ b, a = b ∧ f b = some x := ⟨a, rfl, h⟩
theorem g0 {α : Type} {x : α} {c : Prop} (h : (none : Option α) = some x) : c := by cases h
theorem gin_in {i : Int32} {n : Nat} (h : gin i n = true) : vp_in i n := of_decide_eq_true (p := ¬ (i < 0 ∨ n ≤ i.toNatClampNeg)) h
theorem gbo_or {x : Int32} (h : gbo x = true) : x = 0 ∨ x = 1 := of_decide_eq_true h
theorem gcpo_ok {sp dp n : Int32} {na nb : Nat} (h : gcpo sp dp n na nb = true) : ¬ sp < 0 ∧ ¬ dp < 0 ∧ ¬ n < 0 ∧ sp.toNatClampNeg + n.toNatClampNeg ≤ na ∧ dp.toNatClampNeg + n.toNatClampNeg ≤ nb := of_decide_eq_true h
def gHall (o : Nat) : Prop := o = 17 ∨ o = 28 ∨ o = 33 ∨ o = 44
def gPast (o : Nat) : Prop := o = 22 ∨ o = 49
def gSheet (o : Nat) : Prop := o = 56 ∨ o = 58 ∨ o = 60 ∨ o = 62
theorem gH17 : gHall 17 := Or.inl rfl
theorem gH28 : gHall 28 := Or.inr (Or.inl rfl)
theorem gH33 : gHall 33 := Or.inr (Or.inr (Or.inl rfl))
theorem gH44 : gHall 44 := Or.inr (Or.inr (Or.inr rfl))
theorem gP22 : gPast 22 := Or.inl rfl
theorem gP49 : gPast 49 := Or.inr rfl
def gsh (i : Int32) : Nat := 56 + 2 * i.toNatClampNeg
theorem gsh_ok {i : Int32} (h : vp_in i 4) : gSheet (gsh i) ∧ ([some 56, some 58, some 60, some 62] : List (Option Nat)).getD i.toNatClampNeg none = some (gsh i) := by
  have h1 : i.toNatClampNeg < 4 := by
    by_cases q : i.toNatClampNeg < 4
    · exact q
    · exact absurd (Or.inr (by omega)) h
  unfold gsh gSheet
  generalize i.toNatClampNeg = k at h1 ⊢
  match k, h1 with
  | 0, _ => exact ⟨Or.inl rfl, rfl⟩
  | 1, _ => exact ⟨Or.inr (Or.inl rfl), rfl⟩
  | 2, _ => exact ⟨Or.inr (Or.inr (Or.inl rfl)), rfl⟩
  | 3, _ => exact ⟨Or.inr (Or.inr (Or.inr rfl)), rfl⟩
section
variable {own : String} {cc : ByteArray} {nL : Nat} {ret : Option FieldType} {d pc : Nat} {ls st : List Value} {h : gH} {r : Option Value} {h2 : gH}
theorem R_heq {h1 : gH} (e : h1 = h) (k : gR own cc nL ret d pc ls st h r h2) : gR own cc nL ret d pc ls st h1 r h2 := e ▸ k
theorem R_callVi {idx n d1 nL1 o ci N N1 : Nat} {T : u_T} {y : MethodName} {bytes : ByteArray} {ret1 : Option FieldType} {rl : List (Option Nat)} {as rest : List Value} {r1 : Int32} {h1 : gH} (hd : decode cc pc = .ok (.invokevirtual idx, 3)) (hk : gLV own idx y n) (hco : Cond.code y bytes nL1 ret1 ∈ gW) (hnL : nL1 ≤ 45) (hO : gK o (ci + 3, N, rl)) (hci : gcl[ci]? = some (y.cls, T, N1)) (hsp : gspl n [] st = some (as, .ref o :: rest)) (hcat : gcat rest ≤ 8) (hdd : d1 + 1 ≤ d) (hC : gC y bytes nL1 ret1 d1 (.ref o :: as) h (some (.int r1)) h1) (kk : gR own cc nL ret d (pc + 3) ls (.int r1 :: rest) h1 r h2) : gR own cc nL ret d pc ls st h r h2 := R_callV hd hk hco hnL hO hci hsp hcat hdd hC kk
theorem R_callVv {idx n d1 nL1 o ci N N1 : Nat} {T : u_T} {y : MethodName} {bytes : ByteArray} {ret1 : Option FieldType} {rl : List (Option Nat)} {as rest : List Value} {h1 : gH} (hd : decode cc pc = .ok (.invokevirtual idx, 3)) (hk : gLV own idx y n) (hco : Cond.code y bytes nL1 ret1 ∈ gW) (hnL : nL1 ≤ 45) (hO : gK o (ci + 3, N, rl)) (hci : gcl[ci]? = some (y.cls, T, N1)) (hsp : gspl n [] st = some (as, .ref o :: rest)) (hcat : gcat rest ≤ 8) (hdd : d1 + 1 ≤ d) (hC : gC y bytes nL1 ret1 d1 (.ref o :: as) h none h1) (kk : gR own cc nL ret d (pc + 3) ls rest h1 r h2) : gR own cc nL ret d pc ls st h r h2 := R_callV hd hk hco hnL hO hci hsp hcat hdd hC kk
theorem R_callSi {idx n d1 nL1 : Nat} {y : MethodName} {bytes : ByteArray} {ret1 : Option FieldType} {as rest : List Value} {r1 : Int32} {h1 : gH} (hd : decode cc pc = .ok (.invokestatic idx, 3)) (hk : gLS own idx y n) (hco : Cond.code y bytes nL1 ret1 ∈ gW) (hnL : nL1 ≤ 45) (hsp : gspl n [] st = some (as, rest)) (hcat : gcat rest ≤ 8) (hdd : d1 + 1 ≤ d) (hC : gC y bytes nL1 ret1 d1 as h (some (.int r1)) h1) (kk : gR own cc nL ret d (pc + 3) ls (.int r1 :: rest) h1 r h2) : gR own cc nL ret d pc ls st h r h2 := R_callS hd hk hco hnL hsp hcat hdd hC kk
end
theorem gW_ps {l : List Cond} (ps : List Nat) (h1 : l = ps.filterMap (fun i => lw_tbl[i]?)) (h2 : l.all goodWord = true) : ∀ t ∈ l, t ∈ gW := by
  intro t ht
  refine List.mem_filter.mpr ⟨?_, List.all_eq_true.mp h2 t ht⟩
  rw [h1] at ht
  obtain ⟨i, -, hi⟩ := List.mem_filterMap.mp ht
  exact List.mem_of_getElem? hi
end
section
def gStr (o : Nat) : Prop := o < 2
theorem gs0 : gStr 0 := by unfold gStr; omega
theorem gs1 : gStr 1 := by unfold gStr; omega
def gsle (o : Nat) : Nat := [8, 10].getD o 0
def gsb (o : Nat) (i : Int32) : Int32 := (gSb.getD o []).getD i.toNatClampNeg 0
def gch (v : Int32) : Bool := decide (narrow .char (.int v) = .int v)
def gby (v : Int32) : Bool := decide (narrow .byte (.int v) = .int v)
theorem gch_ok {v : Int32} (h : gch v = true) : narrow .char (.int v) = .int v := of_decide_eq_true h
theorem gby_ok {v : Int32} (h : gby v = true) : narrow .byte (.int v) = .int v := of_decide_eq_true h
section
variable {own : String} {cc : ByteArray} {nL : Nat} {ret : Option FieldType} {d pc : Nat} {ls st : List Value} {h : gH} {r : Option Value} {h2 : gH}
theorem R_lds96 (ho : own = RX2) (hd : decode cc pc = .ok (.ldc 96, 2)) (k : gR own cc nL ret d (pc + 2) ls (.ref (107 + 0) :: st) h r h2) : gR own cc nL ret d pc ls st h r h2 := by
  subst ho
  intro p l e s m args below meth c H locs w lsA X hP hS hL
  exact va_ldcS X.1 X.2.1 X.2.2.2.2.1 X.2.2.2.2.2.2.2.2.2.2.2.1 hd (k p l e s m args below meth c H locs w lsA X hP hS hL)
theorem R_lds89 (ho : own = RX2) (hd : decode cc pc = .ok (.ldc 89, 2)) (k : gR own cc nL ret d (pc + 2) ls (.ref (107 + 1) :: st) h r h2) : gR own cc nL ret d pc ls st h r h2 := by
  subst ho
  intro p l e s m args below meth c H locs w lsA X hP hS hL
  exact va_ldcS X.1 X.2.1 X.2.2.2.2.1 X.2.2.2.2.2.2.2.2.2.2.2.2.1 hd (k p l e s m args below meth c H locs w lsA X hP hS hL)
theorem R_gcs {idx : Nat} (hk : Cond.fieldLink own idx "java/lang/String" "COMPACT_STRINGS" "Z" ∈ gW) (hd : decode cc pc = .ok (.getstatic idx, 3)) (k : gR own cc nL ret d (pc + 3) ls (.int 1 :: st) h r h2) : gR own cc nL ret d pc ls st h r h2 := by
  intro p l e s m args below meth c H locs w lsA X hP hS hL
  exact va_gets X.1 X.2.1 X.2.2.2.2.2.2.2.2.2.2.2.2.2.1 hS X.2.2.2.2.1 (X.2.2.2.2.2.1 _ hk) (fun _ q => q) hd (k p l e s m args below meth c H locs w lsA X hP hS hL)
theorem R_gsf {idx : Nat} (hk : Cond.fieldLink own idx "jdk/internal/util/Preconditions" "SIOOBE_FORMATTER" "Ljava/util/function/BiFunction;" ∈ gW) (hd : decode cc pc = .ok (.getstatic idx, 3)) (k : ∀ v : Value, v = .null ∨ v = .ref 111 → gR own cc nL ret d (pc + 3) ls (v :: st) h r h2) : gR own cc nL ret d pc ls st h r h2 := by
  intro p l e s m args below meth c H locs w lsA X hP hS hL
  rcases X.2.2.2.2.2.2.2.2.2.2.2.2.2.2 with hz | hz
  · exact va_gets X.1 X.2.1 hz hS X.2.2.2.2.1 (X.2.2.2.2.2.1 _ hk) (fun _ q => q) hd (k .null (Or.inl rfl) p l e s m args below meth c H locs w lsA X hP hS hL)
  · exact va_gets X.1 X.2.1 hz hS X.2.2.2.2.1 (X.2.2.2.2.2.1 _ hk) (fun _ q => q) hd (k (.ref 111) (Or.inr rfl) p l e s m args below meth c H locs w lsA X hP hS hL)
theorem R_scoder {idx o : Nat} (ho : gStr o) (hk : Cond.fieldLink own idx "java/lang/String" "coder" "B" ∈ gW) (hd : decode cc pc = .ok (.getfield idx, 3)) (k : gR own cc nL ret d (pc + 3) ls (.int 0 :: st) h r h2) : gR own cc nL ret d pc ls (.ref (107 + o) :: st) h r h2 := by
  intro p l e s m args below meth c H locs w lsA X hP hS hL
  exact vk_getf X.1 X.2.1 (X.2.2.2.2.2.2.2.2.2.2.1.1 o ho).2.1 hS X.2.2.2.2.1 (X.2.2.2.2.2.1 _ hk) (fun _ q => q) hd (k p l e s m args below meth c H locs w lsA X hP hS hL)
theorem R_svalue {idx o : Nat} (ho : gStr o) (hk : Cond.fieldLink own idx "java/lang/String" "value" "[B" ∈ gW) (hd : decode cc pc = .ok (.getfield idx, 3)) (k : gR own cc nL ret d (pc + 3) ls (.ref (109 + o) :: st) h r h2) : gR own cc nL ret d pc ls (.ref (107 + o) :: st) h r h2 := by
  intro p l e s m args below meth c H locs w lsA X hP hS hL
  exact vk_getf X.1 X.2.1 (X.2.2.2.2.2.2.2.2.2.2.1.1 o ho).2.2.1 hS X.2.2.2.2.1 (X.2.2.2.2.2.1 _ hk) (fun _ q => q) hd (k p l e s m args below meth c H locs w lsA X hP hS hL)
theorem R_blen {o : Nat} (ho : gStr o) (hd : decode cc pc = .ok (.arraylength, 1)) (k : gR own cc nL ret d (pc + 1) ls (.int (Int32.ofNat (gsle o)) :: st) h r h2) : gR own cc nL ret d pc ls (.ref (109 + o) :: st) h r h2 := by
  intro p l e s m args below meth c H locs w lsA X hP hS hL
  exact va_tlen X.1 X.2.1 (X.2.2.2.2.2.2.2.2.2.2.1.1 o ho).2.2.2 hS rfl hd (k p l e s m args below meth c H locs w lsA X hP hS hL)
theorem R_bald {o : Nat} {i : Int32} (ho : gStr o) (hi : vp_in i (gsle o)) (hd : decode cc pc = .ok (.baload, 1)) (k : gR own cc nL ret d (pc + 1) ls (.int (gsb o i) :: st) h r h2) : gR own cc nL ret d pc ls (.int i :: .ref (109 + o) :: st) h r h2 := by
  intro p l e s m args below meth c H locs w lsA X hP hS hL
  exact va_tb X.1 X.2.1 (X.2.2.2.2.2.2.2.2.2.2.1.1 o ho).2.2.2 hS hi rfl hd (k p l e s m args below meth c H locs w lsA X hP hS hL)
theorem R_nret {v : Int32} {ty : FieldType} (hd : decode cc pc = .ok (.ireturn, 1)) (hr : ret = some ty) (hn : narrow ty (.int v) = .int v) : gR own cc nL ret d pc ls [.int v] h (some (.int v)) h := by
  intro p l e s m args below meth c H locs w lsA X hP hS hL
  have hlocks := X.2.2.2.2.2.2.1
  exact W.zret X.1 X.2.1 (X.2.2.1.trans hr) hn (fun t ht hW => ⟨⟨rfl, gPre_of X hP hS ht hW⟩, hS.F ht⟩) hS.2.2 hd
theorem R_callTi {idx n d1 nL1 o : Nat} {y : MethodName} {bytes : ByteArray} {ret1 : Option FieldType} {as rest : List Value} {r1 : Int32} {h1 : gH} (hd : decode cc pc = .ok (.invokevirtual idx, 3)) (hk : gLV own idx y n) (hco : Cond.code y bytes nL1 ret1 ∈ gW) (hnL : nL1 ≤ 45) (ho : gStr o) (hy : y.cls = "java/lang/String") (hsp : gspl n [] st = some (as, .ref (107 + o) :: rest)) (hcat : gcat rest ≤ 8) (hdd : d1 + 1 ≤ d) (hC : gC y bytes nL1 ret1 d1 (.ref (107 + o) :: as) h (some (.int r1)) h1) (kk : gR own cc nL ret d (pc + 3) ls (.int r1 :: rest) h1 r h2) : gR own cc nL ret d pc ls st h r h2 := by
  intro p l e s m args below meth c H locs w lsA X hP hS hL
  obtain ⟨e1, e2⟩ := gspl0 hsp w
  rw [e2]
  have hfix : CallFix p m c cc nL s args gW own := ⟨X.1, X.2.1, X.2.2.2.1, X.2.2.2.2.1, X.2.2.2.2.2.1⟩
  have hrec := vk_recv X.2.2.2.2.2.2.2.2.2.2.1 ho hS
  rw [← hy] at hrec
  have hpv : PreV s H y.cls (w.2.2 (107 + o)) (va_Pc ((Value.ref (107 + o) :: as).map (gcv w)) (gPre w h)) (as.map (gcv w)) := ⟨gPre_blind w h _, hrec, fun U hU hW => ⟨rfl, gPre_of X hP hS hU hW⟩⟩
  refine gcall (w := w) (rest := rest.map (gcv w)) (r1 := some (.int r1)) (h1 := h1) (a := (Value.ref (w.2.2 (107 + o)) :: as.map (gcv w)).toArray) ?_ hS (fun H1 locs1 hP1 hS1 => ?_)
  · rcases hk.1.1 with hl | ⟨host, hl⟩
    · exact va_runV hfix (hC l w X.2.2.2.2.2.2.2.2.2.1) ⟨callB_of n X.2.2.2.2.2.1 (gGood hco) rfl rfl rfl (X.2.2.2.2.2.1 _ hk.1.2.1) (X.2.2.2.2.2.1 _ hl) hk.1.2.2 (groom hdd hnL), X.2.2.2.2.2.1 _ hk.2.1, X.2.2.2.2.2.1 _ hk.2.2⟩ hpv rfl e1 hL.1 rfl (lv_room (by rw [gcat_eq]; exact hcat)) hd ⟨Nat.le_refl _, Nat.le_refl _⟩
    · exact va_runVN hfix (hC l w X.2.2.2.2.2.2.2.2.2.1) ⟨va_cnB n X.2.2.2.2.2.1 (gGood hco) rfl rfl rfl (X.2.2.2.2.2.2.2.2.1 _ hl) (X.2.2.2.2.2.1 _ hk.1.2.1) hk.1.2.2 (groom hdd hnL), X.2.2.2.2.2.1 _ hk.2.1, X.2.2.2.2.2.1 _ hk.2.2⟩ hpv rfl e1 hL.1 rfl (lv_room (by rw [gcat_eq]; exact hcat)) hd ⟨Nat.le_refl _, Nat.le_refl _⟩
  · exact kk p l e s m args below meth c H1 locs1 w lsA X hP1 hS1 hL
theorem R_callSv {idx n d1 nL1 : Nat} {y : MethodName} {bytes : ByteArray} {ret1 : Option FieldType} {as rest : List Value} {h1 : gH} (hd : decode cc pc = .ok (.invokestatic idx, 3)) (hk : gLS own idx y n) (hco : Cond.code y bytes nL1 ret1 ∈ gW) (hnL : nL1 ≤ 45) (hsp : gspl n [] st = some (as, rest)) (hcat : gcat rest ≤ 8) (hdd : d1 + 1 ≤ d) (hC : gC y bytes nL1 ret1 d1 as h none h1) (kk : gR own cc nL ret d (pc + 3) ls rest h1 r h2) : gR own cc nL ret d pc ls st h r h2 := R_callS hd hk hco hnL hsp hcat hdd hC kk
end
end
