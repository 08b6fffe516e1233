section
-- begins with the skeleton's PART A; then the names out of the claim's printed list
/-- a private method of a class that the tables say can be made, by its rows of tables_1 -/
def lw_okq (q : MethodName × Nat) : Prop := (q.1.cls ≠ "java/lang/invoke/MethodHandle" ∧ q.1.cls ≠ "java/lang/invoke/VarHandle") ∧ Cond.instantiable q.1.cls q.2 ∈ tables_1 ∧ Cond.privateMethod q.1 ∈ tables_1 ∧ Cond.instanceMethod q.1 ∈ tables_1
theorem lw_p0 : lw_okq (⟨"ValuesGo$Hall", "clear", "(I)V"⟩, 12) := ⟨⟨by decide +kernel, by decide +kernel⟩, List.mem_of_getElem? (i := 121) (by decide +kernel), List.mem_of_getElem? (i := 127) (by decide +kernel), List.mem_of_getElem? (i := 128) (by decide +kernel)⟩
theorem lw_p1 : lw_okq (⟨"ValuesGo$Reader", "accept", "(I)Z"⟩, 14) := ⟨⟨by decide +kernel, by decide +kernel⟩, List.mem_of_getElem? (i := 69) (by decide +kernel), List.mem_of_getElem? (i := 339) (by decide +kernel), List.mem_of_getElem? (i := 340) (by decide +kernel)⟩
theorem lw_p2 : lw_okq (⟨"ValuesGo$Reader", "read", "()I"⟩, 14) := ⟨⟨by decide +kernel, by decide +kernel⟩, List.mem_of_getElem? (i := 69) (by decide +kernel), List.mem_of_getElem? (i := 347) (by decide +kernel), List.mem_of_getElem? (i := 348) (by decide +kernel)⟩
theorem lw_p3 : lw_okq (⟨"ValuesGo$Reader", "split", "()V"⟩, 14) := ⟨⟨by decide +kernel, by decide +kernel⟩, List.mem_of_getElem? (i := 69) (by decide +kernel), List.mem_of_getElem? (i := 351) (by decide +kernel), List.mem_of_getElem? (i := 352) (by decide +kernel)⟩
theorem lw_p4 : lw_okq (⟨"ValuesGo$Reader", "endOfToken", "(I)I"⟩, 14) := ⟨⟨by decide +kernel, by decide +kernel⟩, List.mem_of_getElem? (i := 69) (by decide +kernel), List.mem_of_getElem? (i := 355) (by decide +kernel), List.mem_of_getElem? (i := 356) (by decide +kernel)⟩
theorem lw_p5 : lw_okq (⟨"ValuesGo$Reader", "kindOfToken", "(II)I"⟩, 14) := ⟨⟨by decide +kernel, by decide +kernel⟩, List.mem_of_getElem? (i := 69) (by decide +kernel), List.mem_of_getElem? (i := 365) (by decide +kernel), List.mem_of_getElem? (i := 366) (by decide +kernel)⟩
theorem lw_p6 : lw_okq (⟨"ValuesGo$Reader", "numberAt", "(II)I"⟩, 14) := ⟨⟨by decide +kernel, by decide +kernel⟩, List.mem_of_getElem? (i := 69) (by decide +kernel), List.mem_of_getElem? (i := 369) (by decide +kernel), List.mem_of_getElem? (i := 370) (by decide +kernel)⟩
theorem lw_p7 : lw_okq (⟨"ValuesGo$Reader", "isDistinctAt", "(II)Z"⟩, 14) := ⟨⟨by decide +kernel, by decide +kernel⟩, List.mem_of_getElem? (i := 69) (by decide +kernel), List.mem_of_getElem? (i := 376) (by decide +kernel), List.mem_of_getElem? (i := 377) (by decide +kernel)⟩
theorem lw_p8 : lw_okq (⟨"ValuesGo$Reader", "addToken", "(II)V"⟩, 14) := ⟨⟨by decide +kernel, by decide +kernel⟩, List.mem_of_getElem? (i := 69) (by decide +kernel), List.mem_of_getElem? (i := 489) (by decide +kernel), List.mem_of_getElem? (i := 490) (by decide +kernel)⟩
theorem lw_p9 : lw_okq (⟨"ValuesGo$Reader", "token", "()I"⟩, 14) := ⟨⟨by decide +kernel, by decide +kernel⟩, List.mem_of_getElem? (i := 69) (by decide +kernel), List.mem_of_getElem? (i := 493) (by decide +kernel), List.mem_of_getElem? (i := 494) (by decide +kernel)⟩
theorem lw_p10 : lw_okq (⟨"ValuesGo$Reader", "distinct", "()Z"⟩, 14) := ⟨⟨by decide +kernel, by decide +kernel⟩, List.mem_of_getElem? (i := 69) (by decide +kernel), List.mem_of_getElem? (i := 497) (by decide +kernel), List.mem_of_getElem? (i := 498) (by decide +kernel)⟩
theorem lw_p11 : lw_okq (⟨"ValuesGo$Reader", "pass", "()V"⟩, 14) := ⟨⟨by decide +kernel, by decide +kernel⟩, List.mem_of_getElem? (i := 69) (by decide +kernel), List.mem_of_getElem? (i := 501) (by decide +kernel), List.mem_of_getElem? (i := 502) (by decide +kernel)⟩
theorem lw_p12 : lw_okq (⟨"ValuesGo$Reader", "tested", "()Z"⟩, 14) := ⟨⟨by decide +kernel, by decide +kernel⟩, List.mem_of_getElem? (i := 69) (by decide +kernel), List.mem_of_getElem? (i := 505) (by decide +kernel), List.mem_of_getElem? (i := 506) (by decide +kernel)⟩
theorem lw_p13 : lw_okq (⟨"ValuesGo$Reader", "sum", "(I)Z"⟩, 14) := ⟨⟨by decide +kernel, by decide +kernel⟩, List.mem_of_getElem? (i := 69) (by decide +kernel), List.mem_of_getElem? (i := 509) (by decide +kernel), List.mem_of_getElem? (i := 510) (by decide +kernel)⟩
theorem lw_p14 : lw_okq (⟨"ValuesGo$Reader", "term", "(I)Z"⟩, 14) := ⟨⟨by decide +kernel, by decide +kernel⟩, List.mem_of_getElem? (i := 69) (by decide +kernel), List.mem_of_getElem? (i := 513) (by decide +kernel), List.mem_of_getElem? (i := 514) (by decide +kernel)⟩
theorem lw_p15 : lw_okq (⟨"ValuesGo$Reader", "one", "(I)Z"⟩, 14) := ⟨⟨by decide +kernel, by decide +kernel⟩, List.mem_of_getElem? (i := 69) (by decide +kernel), List.mem_of_getElem? (i := 517) (by decide +kernel), List.mem_of_getElem? (i := 518) (by decide +kernel)⟩
def lw_privs_1 : List (MethodName × Nat) := [(⟨"ValuesGo$Hall", "clear", "(I)V"⟩, 12), (⟨"ValuesGo$Reader", "accept", "(I)Z"⟩, 14), (⟨"ValuesGo$Reader", "read", "()I"⟩, 14), (⟨"ValuesGo$Reader", "split", "()V"⟩, 14), (⟨"ValuesGo$Reader", "endOfToken", "(I)I"⟩, 14), (⟨"ValuesGo$Reader", "kindOfToken", "(II)I"⟩, 14), (⟨"ValuesGo$Reader", "numberAt", "(II)I"⟩, 14), (⟨"ValuesGo$Reader", "isDistinctAt", "(II)Z"⟩, 14), (⟨"ValuesGo$Reader", "addToken", "(II)V"⟩, 14), (⟨"ValuesGo$Reader", "token", "()I"⟩, 14), (⟨"ValuesGo$Reader", "distinct", "()Z"⟩, 14), (⟨"ValuesGo$Reader", "pass", "()V"⟩, 14), (⟨"ValuesGo$Reader", "tested", "()Z"⟩, 14), (⟨"ValuesGo$Reader", "sum", "(I)Z"⟩, 14), (⟨"ValuesGo$Reader", "term", "(I)Z"⟩, 14), (⟨"ValuesGo$Reader", "one", "(I)Z"⟩, 14)]
theorem lw_r1 : ∀ q ∈ lw_privs_1, lw_okq q := List.forall_mem_cons.mpr ⟨lw_p0, List.forall_mem_cons.mpr ⟨lw_p1, List.forall_mem_cons.mpr ⟨lw_p2, List.forall_mem_cons.mpr ⟨lw_p3, List.forall_mem_cons.mpr ⟨lw_p4, List.forall_mem_cons.mpr ⟨lw_p5, List.forall_mem_cons.mpr ⟨lw_p6, List.forall_mem_cons.mpr ⟨lw_p7, List.forall_mem_cons.mpr ⟨lw_p8, List.forall_mem_cons.mpr ⟨lw_p9, List.forall_mem_cons.mpr ⟨lw_p10, List.forall_mem_cons.mpr ⟨lw_p11, List.forall_mem_cons.mpr ⟨lw_p12, List.forall_mem_cons.mpr ⟨lw_p13, List.forall_mem_cons.mpr ⟨lw_p14, List.forall_mem_cons.mpr ⟨lw_p15, fun _ h => absurd h List.not_mem_nil⟩⟩⟩⟩⟩⟩⟩⟩⟩⟩⟩⟩⟩⟩⟩⟩
theorem lw_p16 : lw_okq (⟨"ValuesGo$Reader", "emit", "(I)V"⟩, 14) := ⟨⟨by decide +kernel, by decide +kernel⟩, List.mem_of_getElem? (i := 69) (by decide +kernel), List.mem_of_getElem? (i := 521) (by decide +kernel), List.mem_of_getElem? (i := 522) (by decide +kernel)⟩
theorem lw_p17 : lw_okq (⟨"ValuesGo$Reader", "named", "()Z"⟩, 14) := ⟨⟨by decide +kernel, by decide +kernel⟩, List.mem_of_getElem? (i := 69) (by decide +kernel), List.mem_of_getElem? (i := 525) (by decide +kernel), List.mem_of_getElem? (i := 526) (by decide +kernel)⟩
theorem lw_p18 : lw_okq (⟨"ValuesGo$Reader", "bracketed", "(I)Z"⟩, 14) := ⟨⟨by decide +kernel, by decide +kernel⟩, List.mem_of_getElem? (i := 69) (by decide +kernel), List.mem_of_getElem? (i := 535) (by decide +kernel), List.mem_of_getElem? (i := 536) (by decide +kernel)⟩
theorem lw_p19 : lw_okq (⟨"ValuesGo$Rules", "add", "(LValuesGo$Reader;)I"⟩, 9) := ⟨⟨by decide +kernel, by decide +kernel⟩, List.mem_of_getElem? (i := 26) (by decide +kernel), List.mem_of_getElem? (i := 539) (by decide +kernel), List.mem_of_getElem? (i := 540) (by decide +kernel)⟩
theorem lw_p20 : lw_okq (⟨"ValuesGo$Rules", "enter", "(III)V"⟩, 9) := ⟨⟨by decide +kernel, by decide +kernel⟩, List.mem_of_getElem? (i := 26) (by decide +kernel), List.mem_of_getElem? (i := 544) (by decide +kernel), List.mem_of_getElem? (i := 545) (by decide +kernel)⟩
theorem lw_p21 : lw_okq (⟨"ValuesGo$Rules", "fillSlots", "(I)V"⟩, 9) := ⟨⟨by decide +kernel, by decide +kernel⟩, List.mem_of_getElem? (i := 26) (by decide +kernel), List.mem_of_getElem? (i := 548) (by decide +kernel), List.mem_of_getElem? (i := 549) (by decide +kernel)⟩
theorem lw_p22 : lw_okq (⟨"ValuesGo$Rules", "howMany", "(I)I"⟩, 9) := ⟨⟨by decide +kernel, by decide +kernel⟩, List.mem_of_getElem? (i := 26) (by decide +kernel), List.mem_of_getElem? (i := 552) (by decide +kernel), List.mem_of_getElem? (i := 553) (by decide +kernel)⟩
theorem lw_p23 : lw_okq (⟨"ValuesGo$Rules", "fillWays", "(ILValuesGo$Reader;)V"⟩, 9) := ⟨⟨by decide +kernel, by decide +kernel⟩, List.mem_of_getElem? (i := 26) (by decide +kernel), List.mem_of_getElem? (i := 556) (by decide +kernel), List.mem_of_getElem? (i := 557) (by decide +kernel)⟩
theorem lw_p24 : lw_okq (⟨"ValuesGo$Rules", "lastValues", "(ILValuesGo$Reader;)I"⟩, 9) := ⟨⟨by decide +kernel, by decide +kernel⟩, List.mem_of_getElem? (i := 26) (by decide +kernel), List.mem_of_getElem? (i := 560) (by decide +kernel), List.mem_of_getElem? (i := 561) (by decide +kernel)⟩
theorem lw_p25 : lw_okq (⟨"ValuesGo$Reader", "holdsFor", "([I)Z"⟩, 14) := ⟨⟨by decide +kernel, by decide +kernel⟩, List.mem_of_getElem? (i := 69) (by decide +kernel), List.mem_of_getElem? (i := 564) (by decide +kernel), List.mem_of_getElem? (i := 565) (by decide +kernel)⟩
theorem lw_p26 : lw_okq (⟨"ValuesGo$Reader", "areUnlike", "([I)Z"⟩, 14) := ⟨⟨by decide +kernel, by decide +kernel⟩, List.mem_of_getElem? (i := 69) (by decide +kernel), List.mem_of_getElem? (i := 568) (by decide +kernel), List.mem_of_getElem? (i := 569) (by decide +kernel)⟩
theorem lw_p27 : lw_okq (⟨"ValuesGo$Reader", "testHolds", "([I)Z"⟩, 14) := ⟨⟨by decide +kernel, by decide +kernel⟩, List.mem_of_getElem? (i := 69) (by decide +kernel), List.mem_of_getElem? (i := 572) (by decide +kernel), List.mem_of_getElem? (i := 573) (by decide +kernel)⟩
theorem lw_p28 : lw_okq (⟨"ValuesGo$Reader", "isSo", "(II)Z"⟩, 14) := ⟨⟨by decide +kernel, by decide +kernel⟩, List.mem_of_getElem? (i := 69) (by decide +kernel), List.mem_of_getElem? (i := 579) (by decide +kernel), List.mem_of_getElem? (i := 580) (by decide +kernel)⟩
theorem lw_p29 : lw_okq (⟨"ValuesGo$Rules", "all", "()I"⟩, 9) := ⟨⟨by decide +kernel, by decide +kernel⟩, List.mem_of_getElem? (i := 26) (by decide +kernel), List.mem_of_getElem? (i := 583) (by decide +kernel), List.mem_of_getElem? (i := 584) (by decide +kernel)⟩
theorem lw_p30 : lw_okq (⟨"ValuesGo", "isRule", "(I)Z"⟩, 13) := ⟨⟨by decide +kernel, by decide +kernel⟩, List.mem_of_getElem? (i := 18) (by decide +kernel), List.mem_of_getElem? (i := 592) (by decide +kernel), List.mem_of_getElem? (i := 593) (by decide +kernel)⟩
theorem lw_p31 : lw_okq (⟨"ValuesGo", "isIdle", "(I)Z"⟩, 13) := ⟨⟨by decide +kernel, by decide +kernel⟩, List.mem_of_getElem? (i := 18) (by decide +kernel), List.mem_of_getElem? (i := 596) (by decide +kernel), List.mem_of_getElem? (i := 597) (by decide +kernel)⟩
def lw_privs_2 : List (MethodName × Nat) := [(⟨"ValuesGo$Reader", "emit", "(I)V"⟩, 14), (⟨"ValuesGo$Reader", "named", "()Z"⟩, 14), (⟨"ValuesGo$Reader", "bracketed", "(I)Z"⟩, 14), (⟨"ValuesGo$Rules", "add", "(LValuesGo$Reader;)I"⟩, 9), (⟨"ValuesGo$Rules", "enter", "(III)V"⟩, 9), (⟨"ValuesGo$Rules", "fillSlots", "(I)V"⟩, 9), (⟨"ValuesGo$Rules", "howMany", "(I)I"⟩, 9), (⟨"ValuesGo$Rules", "fillWays", "(ILValuesGo$Reader;)V"⟩, 9), (⟨"ValuesGo$Rules", "lastValues", "(ILValuesGo$Reader;)I"⟩, 9), (⟨"ValuesGo$Reader", "holdsFor", "([I)Z"⟩, 14), (⟨"ValuesGo$Reader", "areUnlike", "([I)Z"⟩, 14), (⟨"ValuesGo$Reader", "testHolds", "([I)Z"⟩, 14), (⟨"ValuesGo$Reader", "isSo", "(II)Z"⟩, 14), (⟨"ValuesGo$Rules", "all", "()I"⟩, 9), (⟨"ValuesGo", "isRule", "(I)Z"⟩, 13), (⟨"ValuesGo", "isIdle", "(I)Z"⟩, 13)]
theorem lw_r2 : ∀ q ∈ lw_privs_2, lw_okq q := List.forall_mem_cons.mpr ⟨lw_p16, List.forall_mem_cons.mpr ⟨lw_p17, List.forall_mem_cons.mpr ⟨lw_p18, List.forall_mem_cons.mpr ⟨lw_p19, List.forall_mem_cons.mpr ⟨lw_p20, List.forall_mem_cons.mpr ⟨lw_p21, List.forall_mem_cons.mpr ⟨lw_p22, List.forall_mem_cons.mpr ⟨lw_p23, List.forall_mem_cons.mpr ⟨lw_p24, List.forall_mem_cons.mpr ⟨lw_p25, List.forall_mem_cons.mpr ⟨lw_p26, List.forall_mem_cons.mpr ⟨lw_p27, List.forall_mem_cons.mpr ⟨lw_p28, List.forall_mem_cons.mpr ⟨lw_p29, List.forall_mem_cons.mpr ⟨lw_p30, List.forall_mem_cons.mpr ⟨lw_p31, fun _ h => absurd h List.not_mem_nil⟩⟩⟩⟩⟩⟩⟩⟩⟩⟩⟩⟩⟩⟩⟩⟩
theorem lw_p32 : lw_okq (⟨"ValuesGo$Past", "all", "()I"⟩, 7) := ⟨⟨by decide +kernel, by decide +kernel⟩, List.mem_of_getElem? (i := 180) (by decide +kernel), List.mem_of_getElem? (i := 600) (by decide +kernel), List.mem_of_getElem? (i := 601) (by decide +kernel)⟩
theorem lw_p33 : lw_okq (⟨"ValuesGo$Hall", "start", "(LValuesGo$Past;II)V"⟩, 12) := ⟨⟨by decide +kernel, by decide +kernel⟩, List.mem_of_getElem? (i := 121) (by decide +kernel), List.mem_of_getElem? (i := 604) (by decide +kernel), List.mem_of_getElem? (i := 605) (by decide +kernel)⟩
theorem lw_p34 : lw_okq (⟨"ValuesGo$Hall", "narrow", "(III)I"⟩, 12) := ⟨⟨by decide +kernel, by decide +kernel⟩, List.mem_of_getElem? (i := 121) (by decide +kernel), List.mem_of_getElem? (i := 608) (by decide +kernel), List.mem_of_getElem? (i := 609) (by decide +kernel)⟩
theorem lw_p35 : lw_okq (⟨"ValuesGo$Hall", "drop", "(III)V"⟩, 12) := ⟨⟨by decide +kernel, by decide +kernel⟩, List.mem_of_getElem? (i := 121) (by decide +kernel), List.mem_of_getElem? (i := 612) (by decide +kernel), List.mem_of_getElem? (i := 613) (by decide +kernel)⟩
theorem lw_p36 : lw_okq (⟨"ValuesGo$Hall", "wake", "(I)V"⟩, 12) := ⟨⟨by decide +kernel, by decide +kernel⟩, List.mem_of_getElem? (i := 121) (by decide +kernel), List.mem_of_getElem? (i := 616) (by decide +kernel), List.mem_of_getElem? (i := 617) (by decide +kernel)⟩
theorem lw_p37 : lw_okq (⟨"ValuesGo$Hall", "runAll", "()I"⟩, 12) := ⟨⟨by decide +kernel, by decide +kernel⟩, List.mem_of_getElem? (i := 121) (by decide +kernel), List.mem_of_getElem? (i := 620) (by decide +kernel), List.mem_of_getElem? (i := 621) (by decide +kernel)⟩
theorem lw_p38 : lw_okq (⟨"ValuesGo$Hall", "runOne", "()I"⟩, 12) := ⟨⟨by decide +kernel, by decide +kernel⟩, List.mem_of_getElem? (i := 121) (by decide +kernel), List.mem_of_getElem? (i := 625) (by decide +kernel), List.mem_of_getElem? (i := 626) (by decide +kernel)⟩
theorem lw_p39 : lw_okq (⟨"ValuesGo$Hall", "shuffledNext", "()I"⟩, 12) := ⟨⟨by decide +kernel, by decide +kernel⟩, List.mem_of_getElem? (i := 121) (by decide +kernel), List.mem_of_getElem? (i := 629) (by decide +kernel), List.mem_of_getElem? (i := 630) (by decide +kernel)⟩
theorem lw_p40 : lw_okq (⟨"ValuesGo$Hall", "orderedNext", "()I"⟩, 12) := ⟨⟨by decide +kernel, by decide +kernel⟩, List.mem_of_getElem? (i := 121) (by decide +kernel), List.mem_of_getElem? (i := 635) (by decide +kernel), List.mem_of_getElem? (i := 636) (by decide +kernel)⟩
theorem lw_p41 : lw_okq (⟨"ValuesGo$Rules", "sift", "(I[I[I)V"⟩, 9) := ⟨⟨by decide +kernel, by decide +kernel⟩, List.mem_of_getElem? (i := 26) (by decide +kernel), List.mem_of_getElem? (i := 639) (by decide +kernel), List.mem_of_getElem? (i := 640) (by decide +kernel)⟩
theorem lw_p42 : lw_okq (⟨"ValuesGo$Rules", "siftLearned", "(I[I[I)V"⟩, 9) := ⟨⟨by decide +kernel, by decide +kernel⟩, List.mem_of_getElem? (i := 26) (by decide +kernel), List.mem_of_getElem? (i := 643) (by decide +kernel), List.mem_of_getElem? (i := 644) (by decide +kernel)⟩
theorem lw_p43 : lw_okq (⟨"ValuesGo$Hall", "isLike", "(LValuesGo$Hall;)Z"⟩, 12) := ⟨⟨by decide +kernel, by decide +kernel⟩, List.mem_of_getElem? (i := 121) (by decide +kernel), List.mem_of_getElem? (i := 647) (by decide +kernel), List.mem_of_getElem? (i := 648) (by decide +kernel)⟩
theorem lw_p44 : lw_okq (⟨"ValuesGo$Rules", "countWays", "(I[I)I"⟩, 9) := ⟨⟨by decide +kernel, by decide +kernel⟩, List.mem_of_getElem? (i := 26) (by decide +kernel), List.mem_of_getElem? (i := 651) (by decide +kernel), List.mem_of_getElem? (i := 652) (by decide +kernel)⟩
theorem lw_p45 : lw_okq (⟨"ValuesGo$Hall", "wentBy", "(I)I"⟩, 12) := ⟨⟨by decide +kernel, by decide +kernel⟩, List.mem_of_getElem? (i := 121) (by decide +kernel), List.mem_of_getElem? (i := 655) (by decide +kernel), List.mem_of_getElem? (i := 656) (by decide +kernel)⟩
theorem lw_p46 : lw_okq (⟨"ValuesGo$Rules", "isWay", "(IIII)Z"⟩, 9) := ⟨⟨by decide +kernel, by decide +kernel⟩, List.mem_of_getElem? (i := 26) (by decide +kernel), List.mem_of_getElem? (i := 667) (by decide +kernel), List.mem_of_getElem? (i := 668) (by decide +kernel)⟩
theorem lw_p47 : lw_okq (⟨"ValuesGo$Past", "decide", "(II)I"⟩, 7) := ⟨⟨by decide +kernel, by decide +kernel⟩, List.mem_of_getElem? (i := 180) (by decide +kernel), List.mem_of_getElem? (i := 680) (by decide +kernel), List.mem_of_getElem? (i := 681) (by decide +kernel)⟩
def lw_privs_3 : List (MethodName × Nat) := [(⟨"ValuesGo$Past", "all", "()I"⟩, 7), (⟨"ValuesGo$Hall", "start", "(LValuesGo$Past;II)V"⟩, 12), (⟨"ValuesGo$Hall", "narrow", "(III)I"⟩, 12), (⟨"ValuesGo$Hall", "drop", "(III)V"⟩, 12), (⟨"ValuesGo$Hall", "wake", "(I)V"⟩, 12), (⟨"ValuesGo$Hall", "runAll", "()I"⟩, 12), (⟨"ValuesGo$Hall", "runOne", "()I"⟩, 12), (⟨"ValuesGo$Hall", "shuffledNext", "()I"⟩, 12), (⟨"ValuesGo$Hall", "orderedNext", "()I"⟩, 12), (⟨"ValuesGo$Rules", "sift", "(I[I[I)V"⟩, 9), (⟨"ValuesGo$Rules", "siftLearned", "(I[I[I)V"⟩, 9), (⟨"ValuesGo$Hall", "isLike", "(LValuesGo$Hall;)Z"⟩, 12), (⟨"ValuesGo$Rules", "countWays", "(I[I)I"⟩, 9), (⟨"ValuesGo$Hall", "wentBy", "(I)I"⟩, 12), (⟨"ValuesGo$Rules", "isWay", "(IIII)Z"⟩, 9), (⟨"ValuesGo$Past", "decide", "(II)I"⟩, 7)]
theorem lw_r3 : ∀ q ∈ lw_privs_3, lw_okq q := List.forall_mem_cons.mpr ⟨lw_p32, List.forall_mem_cons.mpr ⟨lw_p33, List.forall_mem_cons.mpr ⟨lw_p34, List.forall_mem_cons.mpr ⟨lw_p35, List.forall_mem_cons.mpr ⟨lw_p36, List.forall_mem_cons.mpr ⟨lw_p37, List.forall_mem_cons.mpr ⟨lw_p38, List.forall_mem_cons.mpr ⟨lw_p39, List.forall_mem_cons.mpr ⟨lw_p40, List.forall_mem_cons.mpr ⟨lw_p41, List.forall_mem_cons.mpr ⟨lw_p42, List.forall_mem_cons.mpr ⟨lw_p43, List.forall_mem_cons.mpr ⟨lw_p44, List.forall_mem_cons.mpr ⟨lw_p45, List.forall_mem_cons.mpr ⟨lw_p46, List.forall_mem_cons.mpr ⟨lw_p47, fun _ h => absurd h List.not_mem_nil⟩⟩⟩⟩⟩⟩⟩⟩⟩⟩⟩⟩⟩⟩⟩⟩
theorem lw_p48 : lw_okq (⟨"ValuesGo$Past", "open", "(II)I"⟩, 7) := ⟨⟨by decide +kernel, by decide +kernel⟩, List.mem_of_getElem? (i := 180) (by decide +kernel), List.mem_of_getElem? (i := 698) (by decide +kernel), List.mem_of_getElem? (i := 699) (by decide +kernel)⟩
theorem lw_p49 : lw_okq (⟨"ValuesGo$Past", "close", "()I"⟩, 7) := ⟨⟨by decide +kernel, by decide +kernel⟩, List.mem_of_getElem? (i := 180) (by decide +kernel), List.mem_of_getElem? (i := 706) (by decide +kernel), List.mem_of_getElem? (i := 707) (by decide +kernel)⟩
theorem lw_p50 : lw_okq (⟨"ValuesGo$Hall", "takeBack", "(I)V"⟩, 12) := ⟨⟨by decide +kernel, by decide +kernel⟩, List.mem_of_getElem? (i := 121) (by decide +kernel), List.mem_of_getElem? (i := 710) (by decide +kernel), List.mem_of_getElem? (i := 711) (by decide +kernel)⟩
theorem lw_p51 : lw_okq (⟨"ValuesGo$Hall", "placeOf", "(I)I"⟩, 12) := ⟨⟨by decide +kernel, by decide +kernel⟩, List.mem_of_getElem? (i := 121) (by decide +kernel), List.mem_of_getElem? (i := 722) (by decide +kernel), List.mem_of_getElem? (i := 723) (by decide +kernel)⟩
theorem lw_p52 : lw_okq (⟨"ValuesGo", "isGone", "(III)Z"⟩, 13) := ⟨⟨by decide +kernel, by decide +kernel⟩, List.mem_of_getElem? (i := 18) (by decide +kernel), List.mem_of_getElem? (i := 734) (by decide +kernel), List.mem_of_getElem? (i := 735) (by decide +kernel)⟩
theorem lw_p53 : lw_okq (⟨"ValuesGo$Hall", "shuffle", "(I)V"⟩, 12) := ⟨⟨by decide +kernel, by decide +kernel⟩, List.mem_of_getElem? (i := 121) (by decide +kernel), List.mem_of_getElem? (i := 742) (by decide +kernel), List.mem_of_getElem? (i := 743) (by decide +kernel)⟩
theorem lw_p54 : lw_okq (⟨"ValuesGo$Hall", "inOrder", "()V"⟩, 12) := ⟨⟨by decide +kernel, by decide +kernel⟩, List.mem_of_getElem? (i := 121) (by decide +kernel), List.mem_of_getElem? (i := 746) (by decide +kernel), List.mem_of_getElem? (i := 747) (by decide +kernel)⟩
theorem lw_p55 : lw_okq (⟨"ValuesGo$Hall", "become", "(LValuesGo$Hall;)V"⟩, 12) := ⟨⟨by decide +kernel, by decide +kernel⟩, List.mem_of_getElem? (i := 121) (by decide +kernel), List.mem_of_getElem? (i := 757) (by decide +kernel), List.mem_of_getElem? (i := 758) (by decide +kernel)⟩
theorem lw_p56 : lw_okq (⟨"ValuesGo$Search", "go", "(IIZIZ)V"⟩, 15) := ⟨⟨by decide +kernel, by decide +kernel⟩, List.mem_of_getElem? (i := 217) (by decide +kernel), List.mem_of_getElem? (i := 764) (by decide +kernel), List.mem_of_getElem? (i := 765) (by decide +kernel)⟩
theorem lw_p57 : lw_okq (⟨"ValuesGo$Search", "learnFromTries", "()I"⟩, 15) := ⟨⟨by decide +kernel, by decide +kernel⟩, List.mem_of_getElem? (i := 217) (by decide +kernel), List.mem_of_getElem? (i := 770) (by decide +kernel), List.mem_of_getElem? (i := 771) (by decide +kernel)⟩
theorem lw_p58 : lw_okq (⟨"ValuesGo$Search", "startTrial", "(I)V"⟩, 15) := ⟨⟨by decide +kernel, by decide +kernel⟩, List.mem_of_getElem? (i := 217) (by decide +kernel), List.mem_of_getElem? (i := 774) (by decide +kernel), List.mem_of_getElem? (i := 775) (by decide +kernel)⟩
theorem lw_p59 : lw_okq (⟨"ValuesGo$Search", "learn", "(I)I"⟩, 15) := ⟨⟨by decide +kernel, by decide +kernel⟩, List.mem_of_getElem? (i := 217) (by decide +kernel), List.mem_of_getElem? (i := 782) (by decide +kernel), List.mem_of_getElem? (i := 783) (by decide +kernel)⟩
theorem lw_p60 : lw_okq (⟨"ValuesGo$Rules", "learn", "(II[I)I"⟩, 9) := ⟨⟨by decide +kernel, by decide +kernel⟩, List.mem_of_getElem? (i := 26) (by decide +kernel), List.mem_of_getElem? (i := 786) (by decide +kernel), List.mem_of_getElem? (i := 787) (by decide +kernel)⟩
theorem lw_p61 : lw_okq (⟨"ValuesGo$Search", "turnBack", "(I)Z"⟩, 15) := ⟨⟨by decide +kernel, by decide +kernel⟩, List.mem_of_getElem? (i := 217) (by decide +kernel), List.mem_of_getElem? (i := 791) (by decide +kernel), List.mem_of_getElem? (i := 792) (by decide +kernel)⟩
theorem lw_p62 : lw_okq (⟨"ValuesGo$Hall", "howManySettled", "()I"⟩, 12) := ⟨⟨by decide +kernel, by decide +kernel⟩, List.mem_of_getElem? (i := 121) (by decide +kernel), List.mem_of_getElem? (i := 797) (by decide +kernel), List.mem_of_getElem? (i := 798) (by decide +kernel)⟩
theorem lw_p63 : lw_okq (⟨"ValuesGo$Hall", "isSettled", "(I)Z"⟩, 12) := ⟨⟨by decide +kernel, by decide +kernel⟩, List.mem_of_getElem? (i := 121) (by decide +kernel), List.mem_of_getElem? (i := 801) (by decide +kernel), List.mem_of_getElem? (i := 802) (by decide +kernel)⟩
def lw_privs_4 : List (MethodName × Nat) := [(⟨"ValuesGo$Past", "open", "(II)I"⟩, 7), (⟨"ValuesGo$Past", "close", "()I"⟩, 7), (⟨"ValuesGo$Hall", "takeBack", "(I)V"⟩, 12), (⟨"ValuesGo$Hall", "placeOf", "(I)I"⟩, 12), (⟨"ValuesGo", "isGone", "(III)Z"⟩, 13), (⟨"ValuesGo$Hall", "shuffle", "(I)V"⟩, 12), (⟨"ValuesGo$Hall", "inOrder", "()V"⟩, 12), (⟨"ValuesGo$Hall", "become", "(LValuesGo$Hall;)V"⟩, 12), (⟨"ValuesGo$Search", "go", "(IIZIZ)V"⟩, 15), (⟨"ValuesGo$Search", "learnFromTries", "()I"⟩, 15), (⟨"ValuesGo$Search", "startTrial", "(I)V"⟩, 15), (⟨"ValuesGo$Search", "learn", "(I)I"⟩, 15), (⟨"ValuesGo$Rules", "learn", "(II[I)I"⟩, 9), (⟨"ValuesGo$Search", "turnBack", "(I)Z"⟩, 15), (⟨"ValuesGo$Hall", "howManySettled", "()I"⟩, 12), (⟨"ValuesGo$Hall", "isSettled", "(I)Z"⟩, 12)]
theorem lw_r4 : ∀ q ∈ lw_privs_4, lw_okq q := List.forall_mem_cons.mpr ⟨lw_p48, List.forall_mem_cons.mpr ⟨lw_p49, List.forall_mem_cons.mpr ⟨lw_p50, List.forall_mem_cons.mpr ⟨lw_p51, List.forall_mem_cons.mpr ⟨lw_p52, List.forall_mem_cons.mpr ⟨lw_p53, List.forall_mem_cons.mpr ⟨lw_p54, List.forall_mem_cons.mpr ⟨lw_p55, List.forall_mem_cons.mpr ⟨lw_p56, List.forall_mem_cons.mpr ⟨lw_p57, List.forall_mem_cons.mpr ⟨lw_p58, List.forall_mem_cons.mpr ⟨lw_p59, List.forall_mem_cons.mpr ⟨lw_p60, List.forall_mem_cons.mpr ⟨lw_p61, List.forall_mem_cons.mpr ⟨lw_p62, List.forall_mem_cons.mpr ⟨lw_p63, fun _ h => absurd h List.not_mem_nil⟩⟩⟩⟩⟩⟩⟩⟩⟩⟩⟩⟩⟩⟩⟩⟩
theorem lw_p64 : lw_okq (⟨"ValuesGo$Search", "keepSolution", "()V"⟩, 15) := ⟨⟨by decide +kernel, by decide +kernel⟩, List.mem_of_getElem? (i := 217) (by decide +kernel), List.mem_of_getElem? (i := 805) (by decide +kernel), List.mem_of_getElem? (i := 806) (by decide +kernel)⟩
theorem lw_p65 : lw_okq (⟨"ValuesGo$Search", "tryOne", "(II)Z"⟩, 15) := ⟨⟨by decide +kernel, by decide +kernel⟩, List.mem_of_getElem? (i := 217) (by decide +kernel), List.mem_of_getElem? (i := 812) (by decide +kernel), List.mem_of_getElem? (i := 813) (by decide +kernel)⟩
theorem lw_p66 : lw_okq (⟨"ValuesGo$Search", "chosen", "(I)I"⟩, 15) := ⟨⟨by decide +kernel, by decide +kernel⟩, List.mem_of_getElem? (i := 217) (by decide +kernel), List.mem_of_getElem? (i := 816) (by decide +kernel), List.mem_of_getElem? (i := 817) (by decide +kernel)⟩
theorem lw_p67 : lw_okq (⟨"ValuesGo$Search", "worthOf", "(II)I"⟩, 15) := ⟨⟨by decide +kernel, by decide +kernel⟩, List.mem_of_getElem? (i := 217) (by decide +kernel), List.mem_of_getElem? (i := 821) (by decide +kernel), List.mem_of_getElem? (i := 822) (by decide +kernel)⟩
theorem lw_p68 : lw_okq (⟨"ValuesGo$Search", "digits", "()I"⟩, 15) := ⟨⟨by decide +kernel, by decide +kernel⟩, List.mem_of_getElem? (i := 217) (by decide +kernel), List.mem_of_getElem? (i := 829) (by decide +kernel), List.mem_of_getElem? (i := 830) (by decide +kernel)⟩
theorem lw_p69 : lw_okq (⟨"ValuesGo$Sheet", "isMissing", "()Z"⟩, 3) := ⟨⟨by decide +kernel, by decide +kernel⟩, List.mem_of_getElem? (i := 276) (by decide +kernel), List.mem_of_getElem? (i := 849) (by decide +kernel), List.mem_of_getElem? (i := 850) (by decide +kernel)⟩
theorem lw_p70 : lw_okq (⟨"ValuesGo", "readValues", "(LValuesGo$Sheet;)Z"⟩, 13) := ⟨⟨by decide +kernel, by decide +kernel⟩, List.mem_of_getElem? (i := 18) (by decide +kernel), List.mem_of_getElem? (i := 853) (by decide +kernel), List.mem_of_getElem? (i := 854) (by decide +kernel)⟩
theorem lw_p71 : lw_okq (⟨"ValuesGo", "choicesThatFind", "()I"⟩, 13) := ⟨⟨by decide +kernel, by decide +kernel⟩, List.mem_of_getElem? (i := 18) (by decide +kernel), List.mem_of_getElem? (i := 857) (by decide +kernel), List.mem_of_getElem? (i := 858) (by decide +kernel)⟩
theorem lw_p72 : lw_okq (⟨"ValuesGo$Hall", "howManyIn", "([I)I"⟩, 12) := ⟨⟨by decide +kernel, by decide +kernel⟩, List.mem_of_getElem? (i := 121) (by decide +kernel), List.mem_of_getElem? (i := 861) (by decide +kernel), List.mem_of_getElem? (i := 862) (by decide +kernel)⟩
theorem lw_p73 : lw_okq (⟨"ValuesGo$Search", "isSolution", "([I)Z"⟩, 15) := ⟨⟨by decide +kernel, by decide +kernel⟩, List.mem_of_getElem? (i := 217) (by decide +kernel), List.mem_of_getElem? (i := 865) (by decide +kernel), List.mem_of_getElem? (i := 866) (by decide +kernel)⟩
theorem lw_p74 : lw_okq (⟨"ValuesGo$Rules", "notHolding", "([I)I"⟩, 9) := ⟨⟨by decide +kernel, by decide +kernel⟩, List.mem_of_getElem? (i := 26) (by decide +kernel), List.mem_of_getElem? (i := 869) (by decide +kernel), List.mem_of_getElem? (i := 870) (by decide +kernel)⟩
theorem lw_p75 : lw_okq (⟨"ValuesGo$Sheet", "become", "(II)V"⟩, 3) := ⟨⟨by decide +kernel, by decide +kernel⟩, List.mem_of_getElem? (i := 276) (by decide +kernel), List.mem_of_getElem? (i := 878) (by decide +kernel), List.mem_of_getElem? (i := 879) (by decide +kernel)⟩
theorem lw_p76 : lw_okq (⟨"ValuesGo$Past", "become", "(LValuesGo$Past;)V"⟩, 7) := ⟨⟨by decide +kernel, by decide +kernel⟩, List.mem_of_getElem? (i := 180) (by decide +kernel), List.mem_of_getElem? (i := 886) (by decide +kernel), List.mem_of_getElem? (i := 887) (by decide +kernel)⟩
theorem lw_p77 : lw_okq (⟨"ValuesGo$Sheet", "has", "(I)Z"⟩, 3) := ⟨⟨by decide +kernel, by decide +kernel⟩, List.mem_of_getElem? (i := 276) (by decide +kernel), List.mem_of_getElem? (i := 909) (by decide +kernel), List.mem_of_getElem? (i := 910) (by decide +kernel)⟩
theorem lw_p78 : lw_okq (⟨"ValuesGo$Sheet", "cut", "(I)I"⟩, 3) := ⟨⟨by decide +kernel, by decide +kernel⟩, List.mem_of_getElem? (i := 276) (by decide +kernel), List.mem_of_getElem? (i := 913) (by decide +kernel), List.mem_of_getElem? (i := 914) (by decide +kernel)⟩
theorem lw_p79 : lw_okq (⟨"ValuesGo$Sheet", "hasRow", "(II)Z"⟩, 3) := ⟨⟨by decide +kernel, by decide +kernel⟩, List.mem_of_getElem? (i := 276) (by decide +kernel), List.mem_of_getElem? (i := 926) (by decide +kernel), List.mem_of_getElem? (i := 927) (by decide +kernel)⟩
def lw_privs_5 : List (MethodName × Nat) := [(⟨"ValuesGo$Search", "keepSolution", "()V"⟩, 15), (⟨"ValuesGo$Search", "tryOne", "(II)Z"⟩, 15), (⟨"ValuesGo$Search", "chosen", "(I)I"⟩, 15), (⟨"ValuesGo$Search", "worthOf", "(II)I"⟩, 15), (⟨"ValuesGo$Search", "digits", "()I"⟩, 15), (⟨"ValuesGo$Sheet", "isMissing", "()Z"⟩, 3), (⟨"ValuesGo", "readValues", "(LValuesGo$Sheet;)Z"⟩, 13), (⟨"ValuesGo", "choicesThatFind", "()I"⟩, 13), (⟨"ValuesGo$Hall", "howManyIn", "([I)I"⟩, 12), (⟨"ValuesGo$Search", "isSolution", "([I)Z"⟩, 15), (⟨"ValuesGo$Rules", "notHolding", "([I)I"⟩, 9), (⟨"ValuesGo$Sheet", "become", "(II)V"⟩, 3), (⟨"ValuesGo$Past", "become", "(LValuesGo$Past;)V"⟩, 7), (⟨"ValuesGo$Sheet", "has", "(I)Z"⟩, 3), (⟨"ValuesGo$Sheet", "cut", "(I)I"⟩, 3), (⟨"ValuesGo$Sheet", "hasRow", "(II)Z"⟩, 3)]
theorem lw_r5 : ∀ q ∈ lw_privs_5, lw_okq q := List.forall_mem_cons.mpr ⟨lw_p64, List.forall_mem_cons.mpr ⟨lw_p65, List.forall_mem_cons.mpr ⟨lw_p66, List.forall_mem_cons.mpr ⟨lw_p67, List.forall_mem_cons.mpr ⟨lw_p68, List.forall_mem_cons.mpr ⟨lw_p69, List.forall_mem_cons.mpr ⟨lw_p70, List.forall_mem_cons.mpr ⟨lw_p71, List.forall_mem_cons.mpr ⟨lw_p72, List.forall_mem_cons.mpr ⟨lw_p73, List.forall_mem_cons.mpr ⟨lw_p74, List.forall_mem_cons.mpr ⟨lw_p75, List.forall_mem_cons.mpr ⟨lw_p76, List.forall_mem_cons.mpr ⟨lw_p77, List.forall_mem_cons.mpr ⟨lw_p78, List.forall_mem_cons.mpr ⟨lw_p79, fun _ h => absurd h List.not_mem_nil⟩⟩⟩⟩⟩⟩⟩⟩⟩⟩⟩⟩⟩⟩⟩⟩
theorem lw_p80 : lw_okq (⟨"ValuesGoModel", "reads", "()Z"⟩, 81) := ⟨⟨by decide +kernel, by decide +kernel⟩, List.mem_of_getElem? (i := 936) (by decide +kernel), List.mem_of_getElem? (i := 1198) (by decide +kernel), List.mem_of_getElem? (i := 1199) (by decide +kernel)⟩
theorem lw_p81 : lw_okq (⟨"ValuesGoModel", "next", "()V"⟩, 81) := ⟨⟨by decide +kernel, by decide +kernel⟩, List.mem_of_getElem? (i := 936) (by decide +kernel), List.mem_of_getElem? (i := 1202) (by decide +kernel), List.mem_of_getElem? (i := 1203) (by decide +kernel)⟩
theorem lw_p82 : lw_okq (⟨"ValuesGoModel", "byteAt", "(I)I"⟩, 81) := ⟨⟨by decide +kernel, by decide +kernel⟩, List.mem_of_getElem? (i := 936) (by decide +kernel), List.mem_of_getElem? (i := 1206) (by decide +kernel), List.mem_of_getElem? (i := 1207) (by decide +kernel)⟩
theorem lw_p83 : lw_okq (⟨"ValuesGoModel", "isDistinct", "()Z"⟩, 81) := ⟨⟨by decide +kernel, by decide +kernel⟩, List.mem_of_getElem? (i := 936) (by decide +kernel), List.mem_of_getElem? (i := 1212) (by decide +kernel), List.mem_of_getElem? (i := 1213) (by decide +kernel)⟩
theorem lw_p84 : lw_okq (⟨"ValuesGoModel", "fresh", "()I"⟩, 81) := ⟨⟨by decide +kernel, by decide +kernel⟩, List.mem_of_getElem? (i := 936) (by decide +kernel), List.mem_of_getElem? (i := 1221) (by decide +kernel), List.mem_of_getElem? (i := 1222) (by decide +kernel)⟩
theorem lw_p85 : lw_okq (⟨"ValuesGoModel", "fail", "()V"⟩, 81) := ⟨⟨by decide +kernel, by decide +kernel⟩, List.mem_of_getElem? (i := 936) (by decide +kernel), List.mem_of_getElem? (i := 1225) (by decide +kernel), List.mem_of_getElem? (i := 1226) (by decide +kernel)⟩
theorem lw_p86 : lw_okq (⟨"ValuesGoModel", "name", "()I"⟩, 81) := ⟨⟨by decide +kernel, by decide +kernel⟩, List.mem_of_getElem? (i := 936) (by decide +kernel), List.mem_of_getElem? (i := 1229) (by decide +kernel), List.mem_of_getElem? (i := 1230) (by decide +kernel)⟩
theorem lw_p87 : lw_okq (⟨"ValuesGoModel", "test", "()Z"⟩, 81) := ⟨⟨by decide +kernel, by decide +kernel⟩, List.mem_of_getElem? (i := 936) (by decide +kernel), List.mem_of_getElem? (i := 1236) (by decide +kernel), List.mem_of_getElem? (i := 1237) (by decide +kernel)⟩
theorem lw_p88 : lw_okq (⟨"ValuesGoModel", "sum", "()I"⟩, 81) := ⟨⟨by decide +kernel, by decide +kernel⟩, List.mem_of_getElem? (i := 936) (by decide +kernel), List.mem_of_getElem? (i := 1240) (by decide +kernel), List.mem_of_getElem? (i := 1241) (by decide +kernel)⟩
theorem lw_p89 : lw_okq (⟨"ValuesGoModel", "term", "()I"⟩, 81) := ⟨⟨by decide +kernel, by decide +kernel⟩, List.mem_of_getElem? (i := 936) (by decide +kernel), List.mem_of_getElem? (i := 1244) (by decide +kernel), List.mem_of_getElem? (i := 1245) (by decide +kernel)⟩
theorem lw_p90 : lw_okq (⟨"ValuesGoModel", "one", "()I"⟩, 81) := ⟨⟨by decide +kernel, by decide +kernel⟩, List.mem_of_getElem? (i := 936) (by decide +kernel), List.mem_of_getElem? (i := 1248) (by decide +kernel), List.mem_of_getElem? (i := 1249) (by decide +kernel)⟩
theorem lw_p91 : lw_okq (⟨"ValuesGoModel", "isSign", "(I)Z"⟩, 81) := ⟨⟨by decide +kernel, by decide +kernel⟩, List.mem_of_getElem? (i := 936) (by decide +kernel), List.mem_of_getElem? (i := 1252) (by decide +kernel), List.mem_of_getElem? (i := 1253) (by decide +kernel)⟩
theorem lw_p92 : lw_okq (⟨"ValuesGoModel", "isHolding", "(IIII)Z"⟩, 81) := ⟨⟨by decide +kernel, by decide +kernel⟩, List.mem_of_getElem? (i := 936) (by decide +kernel), List.mem_of_getElem? (i := 1264) (by decide +kernel), List.mem_of_getElem? (i := 1265) (by decide +kernel)⟩
theorem lw_p93 : lw_okq (⟨"ValuesGoModel", "nextRule", "()I"⟩, 81) := ⟨⟨by decide +kernel, by decide +kernel⟩, List.mem_of_getElem? (i := 936) (by decide +kernel), List.mem_of_getElem? (i := 1277) (by decide +kernel), List.mem_of_getElem? (i := 1278) (by decide +kernel)⟩
theorem lw_p94 : lw_okq (⟨"ValuesGoModel", "allRules", "()I"⟩, 81) := ⟨⟨by decide +kernel, by decide +kernel⟩, List.mem_of_getElem? (i := 936) (by decide +kernel), List.mem_of_getElem? (i := 1281) (by decide +kernel), List.mem_of_getElem? (i := 1282) (by decide +kernel)⟩
theorem lw_p95 : lw_okq (⟨"ValuesGoModel", "ruleAt", "(I)I"⟩, 81) := ⟨⟨by decide +kernel, by decide +kernel⟩, List.mem_of_getElem? (i := 936) (by decide +kernel), List.mem_of_getElem? (i := 1285) (by decide +kernel), List.mem_of_getElem? (i := 1286) (by decide +kernel)⟩
def lw_privs_6 : List (MethodName × Nat) := [(⟨"ValuesGoModel", "reads", "()Z"⟩, 81), (⟨"ValuesGoModel", "next", "()V"⟩, 81), (⟨"ValuesGoModel", "byteAt", "(I)I"⟩, 81), (⟨"ValuesGoModel", "isDistinct", "()Z"⟩, 81), (⟨"ValuesGoModel", "fresh", "()I"⟩, 81), (⟨"ValuesGoModel", "fail", "()V"⟩, 81), (⟨"ValuesGoModel", "name", "()I"⟩, 81), (⟨"ValuesGoModel", "test", "()Z"⟩, 81), (⟨"ValuesGoModel", "sum", "()I"⟩, 81), (⟨"ValuesGoModel", "term", "()I"⟩, 81), (⟨"ValuesGoModel", "one", "()I"⟩, 81), (⟨"ValuesGoModel", "isSign", "(I)Z"⟩, 81), (⟨"ValuesGoModel", "isHolding", "(IIII)Z"⟩, 81), (⟨"ValuesGoModel", "nextRule", "()I"⟩, 81), (⟨"ValuesGoModel", "allRules", "()I"⟩, 81), (⟨"ValuesGoModel", "ruleAt", "(I)I"⟩, 81)]
theorem lw_r6 : ∀ q ∈ lw_privs_6, lw_okq q := List.forall_mem_cons.mpr ⟨lw_p80, List.forall_mem_cons.mpr ⟨lw_p81, List.forall_mem_cons.mpr ⟨lw_p82, List.forall_mem_cons.mpr ⟨lw_p83, List.forall_mem_cons.mpr ⟨lw_p84, List.forall_mem_cons.mpr ⟨lw_p85, List.forall_mem_cons.mpr ⟨lw_p86, List.forall_mem_cons.mpr ⟨lw_p87, List.forall_mem_cons.mpr ⟨lw_p88, List.forall_mem_cons.mpr ⟨lw_p89, List.forall_mem_cons.mpr ⟨lw_p90, List.forall_mem_cons.mpr ⟨lw_p91, List.forall_mem_cons.mpr ⟨lw_p92, List.forall_mem_cons.mpr ⟨lw_p93, List.forall_mem_cons.mpr ⟨lw_p94, List.forall_mem_cons.mpr ⟨lw_p95, fun _ h => absurd h List.not_mem_nil⟩⟩⟩⟩⟩⟩⟩⟩⟩⟩⟩⟩⟩⟩⟩⟩
theorem lw_p96 : lw_okq (⟨"ValuesGoModel", "priority", "(I)I"⟩, 81) := ⟨⟨by decide +kernel, by decide +kernel⟩, List.mem_of_getElem? (i := 936) (by decide +kernel), List.mem_of_getElem? (i := 1289) (by decide +kernel), List.mem_of_getElem? (i := 1290) (by decide +kernel)⟩
theorem lw_p97 : lw_okq (⟨"ValuesGoModel", "prunes", "(I)V"⟩, 81) := ⟨⟨by decide +kernel, by decide +kernel⟩, List.mem_of_getElem? (i := 936) (by decide +kernel), List.mem_of_getElem? (i := 1293) (by decide +kernel), List.mem_of_getElem? (i := 1294) (by decide +kernel)⟩
theorem lw_p98 : lw_okq (⟨"ValuesGoModel", "isAlone", "(II)Z"⟩, 81) := ⟨⟨by decide +kernel, by decide +kernel⟩, List.mem_of_getElem? (i := 936) (by decide +kernel), List.mem_of_getElem? (i := 1297) (by decide +kernel), List.mem_of_getElem? (i := 1298) (by decide +kernel)⟩
theorem lw_p99 : lw_okq (⟨"ValuesGoModel", "pairOf", "(II)I"⟩, 81) := ⟨⟨by decide +kernel, by decide +kernel⟩, List.mem_of_getElem? (i := 936) (by decide +kernel), List.mem_of_getElem? (i := 1301) (by decide +kernel), List.mem_of_getElem? (i := 1302) (by decide +kernel)⟩
theorem lw_p100 : lw_okq (⟨"ValuesGoModel", "keeps", "(III)V"⟩, 81) := ⟨⟨by decide +kernel, by decide +kernel⟩, List.mem_of_getElem? (i := 936) (by decide +kernel), List.mem_of_getElem? (i := 1305) (by decide +kernel), List.mem_of_getElem? (i := 1306) (by decide +kernel)⟩
theorem lw_p101 : lw_okq (⟨"ValuesGoModel", "goes", "(III)V"⟩, 81) := ⟨⟨by decide +kernel, by decide +kernel⟩, List.mem_of_getElem? (i := 936) (by decide +kernel), List.mem_of_getElem? (i := 1309) (by decide +kernel), List.mem_of_getElem? (i := 1310) (by decide +kernel)⟩
theorem lw_p102 : lw_okq (⟨"ValuesGoModel", "goesThrough", "(I)V"⟩, 81) := ⟨⟨by decide +kernel, by decide +kernel⟩, List.mem_of_getElem? (i := 936) (by decide +kernel), List.mem_of_getElem? (i := 1313) (by decide +kernel), List.mem_of_getElem? (i := 1314) (by decide +kernel)⟩
theorem lw_p103 : lw_okq (⟨"ValuesGoModel", "domainAt", "(II)I"⟩, 81) := ⟨⟨by decide +kernel, by decide +kernel⟩, List.mem_of_getElem? (i := 936) (by decide +kernel), List.mem_of_getElem? (i := 1317) (by decide +kernel), List.mem_of_getElem? (i := 1318) (by decide +kernel)⟩
theorem lw_p104 : lw_okq (⟨"ValuesGoModel", "queues", "(II)V"⟩, 81) := ⟨⟨by decide +kernel, by decide +kernel⟩, List.mem_of_getElem? (i := 936) (by decide +kernel), List.mem_of_getElem? (i := 1321) (by decide +kernel), List.mem_of_getElem? (i := 1322) (by decide +kernel)⟩
theorem lw_p105 : lw_okq (⟨"ValuesGoModel", "decides", "(III)V"⟩, 81) := ⟨⟨by decide +kernel, by decide +kernel⟩, List.mem_of_getElem? (i := 936) (by decide +kernel), List.mem_of_getElem? (i := 1336) (by decide +kernel), List.mem_of_getElem? (i := 1337) (by decide +kernel)⟩
theorem lw_p106 : lw_okq (⟨"ValuesGoModel", "queued", "()I"⟩, 81) := ⟨⟨by decide +kernel, by decide +kernel⟩, List.mem_of_getElem? (i := 936) (by decide +kernel), List.mem_of_getElem? (i := 1344) (by decide +kernel), List.mem_of_getElem? (i := 1345) (by decide +kernel)⟩
theorem lw_p107 : lw_okq (⟨"ValuesGoModel", "laysAside", "()V"⟩, 81) := ⟨⟨by decide +kernel, by decide +kernel⟩, List.mem_of_getElem? (i := 936) (by decide +kernel), List.mem_of_getElem? (i := 1371) (by decide +kernel), List.mem_of_getElem? (i := 1372) (by decide +kernel)⟩
theorem lw_p108 : lw_okq (⟨"ValuesGoModel", "starts", "(III)V"⟩, 81) := ⟨⟨by decide +kernel, by decide +kernel⟩, List.mem_of_getElem? (i := 936) (by decide +kernel), List.mem_of_getElem? (i := 1375) (by decide +kernel), List.mem_of_getElem? (i := 1376) (by decide +kernel)⟩
theorem lw_p109 : lw_okq (⟨"ValuesGoModel", "isGone", "(II)Z"⟩, 81) := ⟨⟨by decide +kernel, by decide +kernel⟩, List.mem_of_getElem? (i := 936) (by decide +kernel), List.mem_of_getElem? (i := 1379) (by decide +kernel), List.mem_of_getElem? (i := 1380) (by decide +kernel)⟩
theorem lw_p110 : lw_okq (⟨"ValuesGoModel", "laysBack", "()V"⟩, 81) := ⟨⟨by decide +kernel, by decide +kernel⟩, List.mem_of_getElem? (i := 936) (by decide +kernel), List.mem_of_getElem? (i := 1383) (by decide +kernel), List.mem_of_getElem? (i := 1384) (by decide +kernel)⟩
theorem lw_p111 : lw_okq (⟨"ValuesGoModel", "isIdle", "(I)Z"⟩, 81) := ⟨⟨by decide +kernel, by decide +kernel⟩, List.mem_of_getElem? (i := 936) (by decide +kernel), List.mem_of_getElem? (i := 1396) (by decide +kernel), List.mem_of_getElem? (i := 1397) (by decide +kernel)⟩
def lw_privs_7 : List (MethodName × Nat) := [(⟨"ValuesGoModel", "priority", "(I)I"⟩, 81), (⟨"ValuesGoModel", "prunes", "(I)V"⟩, 81), (⟨"ValuesGoModel", "isAlone", "(II)Z"⟩, 81), (⟨"ValuesGoModel", "pairOf", "(II)I"⟩, 81), (⟨"ValuesGoModel", "keeps", "(III)V"⟩, 81), (⟨"ValuesGoModel", "goes", "(III)V"⟩, 81), (⟨"ValuesGoModel", "goesThrough", "(I)V"⟩, 81), (⟨"ValuesGoModel", "domainAt", "(II)I"⟩, 81), (⟨"ValuesGoModel", "queues", "(II)V"⟩, 81), (⟨"ValuesGoModel", "decides", "(III)V"⟩, 81), (⟨"ValuesGoModel", "queued", "()I"⟩, 81), (⟨"ValuesGoModel", "laysAside", "()V"⟩, 81), (⟨"ValuesGoModel", "starts", "(III)V"⟩, 81), (⟨"ValuesGoModel", "isGone", "(II)Z"⟩, 81), (⟨"ValuesGoModel", "laysBack", "()V"⟩, 81), (⟨"ValuesGoModel", "isIdle", "(I)Z"⟩, 81)]
theorem lw_r7 : ∀ q ∈ lw_privs_7, lw_okq q := List.forall_mem_cons.mpr ⟨lw_p96, List.forall_mem_cons.mpr ⟨lw_p97, List.forall_mem_cons.mpr ⟨lw_p98, List.forall_mem_cons.mpr ⟨lw_p99, List.forall_mem_cons.mpr ⟨lw_p100, List.forall_mem_cons.mpr ⟨lw_p101, List.forall_mem_cons.mpr ⟨lw_p102, List.forall_mem_cons.mpr ⟨lw_p103, List.forall_mem_cons.mpr ⟨lw_p104, List.forall_mem_cons.mpr ⟨lw_p105, List.forall_mem_cons.mpr ⟨lw_p106, List.forall_mem_cons.mpr ⟨lw_p107, List.forall_mem_cons.mpr ⟨lw_p108, List.forall_mem_cons.mpr ⟨lw_p109, List.forall_mem_cons.mpr ⟨lw_p110, List.forall_mem_cons.mpr ⟨lw_p111, fun _ h => absurd h List.not_mem_nil⟩⟩⟩⟩⟩⟩⟩⟩⟩⟩⟩⟩⟩⟩⟩⟩
theorem lw_p112 : lw_okq (⟨"ValuesGoModel", "wentBy", "(I)I"⟩, 81) := ⟨⟨by decide +kernel, by decide +kernel⟩, List.mem_of_getElem? (i := 936) (by decide +kernel), List.mem_of_getElem? (i := 1400) (by decide +kernel), List.mem_of_getElem? (i := 1401) (by decide +kernel)⟩
theorem lw_p113 : lw_okq (⟨"ValuesGoModel", "laysAside2", "()V"⟩, 81) := ⟨⟨by decide +kernel, by decide +kernel⟩, List.mem_of_getElem? (i := 936) (by decide +kernel), List.mem_of_getElem? (i := 1409) (by decide +kernel), List.mem_of_getElem? (i := 1410) (by decide +kernel)⟩
theorem lw_p114 : lw_okq (⟨"ValuesGoModel", "searched", "(IIZZI)I"⟩, 81) := ⟨⟨by decide +kernel, by decide +kernel⟩, List.mem_of_getElem? (i := 936) (by decide +kernel), List.mem_of_getElem? (i := 1413) (by decide +kernel), List.mem_of_getElem? (i := 1414) (by decide +kernel)⟩
theorem lw_p115 : lw_okq (⟨"ValuesGoModel", "searches", "(II)I"⟩, 81) := ⟨⟨by decide +kernel, by decide +kernel⟩, List.mem_of_getElem? (i := 936) (by decide +kernel), List.mem_of_getElem? (i := 1417) (by decide +kernel), List.mem_of_getElem? (i := 1418) (by decide +kernel)⟩
theorem lw_p116 : lw_okq (⟨"ValuesGoModel", "runsAll", "()V"⟩, 81) := ⟨⟨by decide +kernel, by decide +kernel⟩, List.mem_of_getElem? (i := 936) (by decide +kernel), List.mem_of_getElem? (i := 1421) (by decide +kernel), List.mem_of_getElem? (i := 1422) (by decide +kernel)⟩
theorem lw_p117 : lw_okq (⟨"ValuesGoModel", "chosen", "()I"⟩, 81) := ⟨⟨by decide +kernel, by decide +kernel⟩, List.mem_of_getElem? (i := 936) (by decide +kernel), List.mem_of_getElem? (i := 1425) (by decide +kernel), List.mem_of_getElem? (i := 1426) (by decide +kernel)⟩
theorem lw_p118 : lw_okq (⟨"ValuesGoModel", "ruleCount", "(I)I"⟩, 81) := ⟨⟨by decide +kernel, by decide +kernel⟩, List.mem_of_getElem? (i := 936) (by decide +kernel), List.mem_of_getElem? (i := 1429) (by decide +kernel), List.mem_of_getElem? (i := 1430) (by decide +kernel)⟩
theorem lw_p119 : lw_okq (⟨"ValuesGoModel", "picked", "(I)I"⟩, 81) := ⟨⟨by decide +kernel, by decide +kernel⟩, List.mem_of_getElem? (i := 936) (by decide +kernel), List.mem_of_getElem? (i := 1436) (by decide +kernel), List.mem_of_getElem? (i := 1437) (by decide +kernel)⟩
theorem lw_p120 : lw_okq (⟨"ValuesGoModel", "learns", "(I)Z"⟩, 81) := ⟨⟨by decide +kernel, by decide +kernel⟩, List.mem_of_getElem? (i := 936) (by decide +kernel), List.mem_of_getElem? (i := 1440) (by decide +kernel), List.mem_of_getElem? (i := 1441) (by decide +kernel)⟩
theorem lw_p121 : lw_okq (⟨"ValuesGoModel", "clears", "()V"⟩, 81) := ⟨⟨by decide +kernel, by decide +kernel⟩, List.mem_of_getElem? (i := 936) (by decide +kernel), List.mem_of_getElem? (i := 1444) (by decide +kernel), List.mem_of_getElem? (i := 1445) (by decide +kernel)⟩
theorem lw_p122 : lw_okq (⟨"ValuesGoModel", "laysBack2", "()V"⟩, 81) := ⟨⟨by decide +kernel, by decide +kernel⟩, List.mem_of_getElem? (i := 936) (by decide +kernel), List.mem_of_getElem? (i := 1448) (by decide +kernel), List.mem_of_getElem? (i := 1449) (by decide +kernel)⟩
theorem lw_p123 : lw_okq (⟨"ValuesGoModel", "isFound", "(III)Z"⟩, 81) := ⟨⟨by decide +kernel, by decide +kernel⟩, List.mem_of_getElem? (i := 936) (by decide +kernel), List.mem_of_getElem? (i := 1468) (by decide +kernel), List.mem_of_getElem? (i := 1469) (by decide +kernel)⟩
theorem lw_p124 : lw_okq (⟨"ValuesGoModel", "isSo", "(II)Z"⟩, 81) := ⟨⟨by decide +kernel, by decide +kernel⟩, List.mem_of_getElem? (i := 936) (by decide +kernel), List.mem_of_getElem? (i := 1472) (by decide +kernel), List.mem_of_getElem? (i := 1473) (by decide +kernel)⟩
def lw_privs_8 : List (MethodName × Nat) := [(⟨"ValuesGoModel", "wentBy", "(I)I"⟩, 81), (⟨"ValuesGoModel", "laysAside2", "()V"⟩, 81), (⟨"ValuesGoModel", "searched", "(IIZZI)I"⟩, 81), (⟨"ValuesGoModel", "searches", "(II)I"⟩, 81), (⟨"ValuesGoModel", "runsAll", "()V"⟩, 81), (⟨"ValuesGoModel", "chosen", "()I"⟩, 81), (⟨"ValuesGoModel", "ruleCount", "(I)I"⟩, 81), (⟨"ValuesGoModel", "picked", "(I)I"⟩, 81), (⟨"ValuesGoModel", "learns", "(I)Z"⟩, 81), (⟨"ValuesGoModel", "clears", "()V"⟩, 81), (⟨"ValuesGoModel", "laysBack2", "()V"⟩, 81), (⟨"ValuesGoModel", "isFound", "(III)Z"⟩, 81), (⟨"ValuesGoModel", "isSo", "(II)Z"⟩, 81)]
theorem lw_r8 : ∀ q ∈ lw_privs_8, lw_okq q := List.forall_mem_cons.mpr ⟨lw_p112, List.forall_mem_cons.mpr ⟨lw_p113, List.forall_mem_cons.mpr ⟨lw_p114, List.forall_mem_cons.mpr ⟨lw_p115, List.forall_mem_cons.mpr ⟨lw_p116, List.forall_mem_cons.mpr ⟨lw_p117, List.forall_mem_cons.mpr ⟨lw_p118, List.forall_mem_cons.mpr ⟨lw_p119, List.forall_mem_cons.mpr ⟨lw_p120, List.forall_mem_cons.mpr ⟨lw_p121, List.forall_mem_cons.mpr ⟨lw_p122, List.forall_mem_cons.mpr ⟨lw_p123, List.forall_mem_cons.mpr ⟨lw_p124, fun _ h => absurd h List.not_mem_nil⟩⟩⟩⟩⟩⟩⟩⟩⟩⟩⟩⟩⟩
def lw_privs : List (MethodName × Nat) := lw_privs_1 ++ (lw_privs_2 ++ (lw_privs_3 ++ (lw_privs_4 ++ (lw_privs_5 ++ (lw_privs_6 ++ (lw_privs_7 ++ (lw_privs_8)))))))
def lw_tbl : List Cond := k2_sels lw_privs ++ tables_1
theorem lw_privs_ok : ∀ q ∈ lw_privs, lw_okq q := by
  show ∀ q ∈ lw_privs_1 ++ (lw_privs_2 ++ (lw_privs_3 ++ (lw_privs_4 ++ (lw_privs_5 ++ (lw_privs_6 ++ (lw_privs_7 ++ (lw_privs_8))))))), lw_okq q
  exact List.forall_mem_append.mpr ⟨lw_r1, List.forall_mem_append.mpr ⟨lw_r2, List.forall_mem_append.mpr ⟨lw_r3, List.forall_mem_append.mpr ⟨lw_r4, List.forall_mem_append.mpr ⟨lw_r5, List.forall_mem_append.mpr ⟨lw_r6, List.forall_mem_append.mpr ⟨lw_r7, lw_r8⟩⟩⟩⟩⟩⟩⟩
def RX0 : String := "ValuesGo$Hall"
def TX0 : u_T := fun k => match k with
  | 0 => ("ValuesGo$Hall", "rules", "LValuesGo$Rules;", true)
  | 1 => ("ValuesGo$Hall", "domains", "[I", true)
  | 2 => ("ValuesGo$Hall", "sifted", "[I", true)
  | 3 => ("ValuesGo$Hall", "wentValue", "[I", true)
  | 4 => ("ValuesGo$Hall", "wentReason", "[I", true)
  | 5 => ("ValuesGo$Hall", "went", "I", false)
  | 6 => ("ValuesGo$Hall", "taking", "I", false)
  | 7 => ("ValuesGo$Hall", "queue", "I", false)
  | 8 => ("ValuesGo$Hall", "runs", "I", false)
  | 9 => ("ValuesGo$Hall", "failed", "Z", false)
  | 10 => ("ValuesGo$Hall", "shuffled", "Z", false)
  | _ => ("ValuesGo$Hall", "seed", "I", false)
def tyX0 : Nat → FieldType := fun k => match k with
  | 0 => .object "ValuesGo$Rules"
  | 1 => .array .int
  | 2 => .array .int
  | 3 => .array .int
  | 4 => .array .int
  | 5 => .int
  | 6 => .int
  | 7 => .int
  | 8 => .int
  | 9 => .boolean
  | 10 => .boolean
  | _ => .int
abbrev wsX00 : List Cond := u_ws RX0 TX0 12
theorem nmX0 : ∀ a, a < 12 → ∀ b, b < 12 → a ≠ b → (TX0 a).2.1 ≠ (TX0 b).2.1 := by decide +kernel
theorem tyX0_ok : ∀ k, k < 12 → parseFieldDescriptor (TX0 k).2.2.1 = some (tyX0 k) := by decide +kernel
abbrev cX0_init : ByteArray := prog_2_method_1_code
def yX0_init : MethodName := ⟨RX0, "<init>", "(LValuesGo$Rules;)V"⟩
abbrev cX0_clear : ByteArray := prog_2_method_2_code
def yX0_clear : MethodName := ⟨RX0, "clear", "(I)V"⟩
abbrev cX0_become : ByteArray := prog_2_method_3_code
def yX0_become : MethodName := ⟨RX0, "become", "(LValuesGo$Hall;)V"⟩
abbrev cX0_narrow : ByteArray := prog_2_method_4_code
def yX0_narrow : MethodName := ⟨RX0, "narrow", "(III)I"⟩
abbrev cX0_drop : ByteArray := prog_2_method_5_code
def yX0_drop : MethodName := ⟨RX0, "drop", "(III)V"⟩
abbrev cX0_wake : ByteArray := prog_2_method_6_code
def yX0_wake : MethodName := ⟨RX0, "wake", "(I)V"⟩
abbrev cX0_runOne : ByteArray := prog_2_method_7_code
def yX0_runOne : MethodName := ⟨RX0, "runOne", "()I"⟩
abbrev cX0_orderedNext : ByteArray := prog_2_method_8_code
def yX0_orderedNext : MethodName := ⟨RX0, "orderedNext", "()I"⟩
abbrev cX0_shuffledNext : ByteArray := prog_2_method_9_code
def yX0_shuffledNext : MethodName := ⟨RX0, "shuffledNext", "()I"⟩
abbrev cX0_shuffle : ByteArray := prog_2_method_10_code
def yX0_shuffle : MethodName := ⟨RX0, "shuffle", "(I)V"⟩
abbrev cX0_inOrder : ByteArray := prog_2_method_11_code
def yX0_inOrder : MethodName := ⟨RX0, "inOrder", "()V"⟩
abbrev cX0_runAll : ByteArray := prog_2_method_12_code
def yX0_runAll : MethodName := ⟨RX0, "runAll", "()I"⟩
abbrev cX0_start : ByteArray := prog_2_method_13_code
def yX0_start : MethodName := ⟨RX0, "start", "(LValuesGo$Past;II)V"⟩
abbrev cX0_takeBack : ByteArray := prog_2_method_14_code
def yX0_takeBack : MethodName := ⟨RX0, "takeBack", "(I)V"⟩
abbrev cX0_isLike : ByteArray := prog_2_method_15_code
def yX0_isLike : MethodName := ⟨RX0, "isLike", "(LValuesGo$Hall;)Z"⟩
abbrev cX0_isSettled : ByteArray := prog_2_method_16_code
def yX0_isSettled : MethodName := ⟨RX0, "isSettled", "(I)Z"⟩
abbrev cX0_howManySettled : ByteArray := prog_2_method_17_code
def yX0_howManySettled : MethodName := ⟨RX0, "howManySettled", "()I"⟩
abbrev cX0_howManyIn : ByteArray := prog_2_method_18_code
def yX0_howManyIn : MethodName := ⟨RX0, "howManyIn", "([I)I"⟩
abbrev cX0_wentBy : ByteArray := prog_2_method_19_code
def yX0_wentBy : MethodName := ⟨RX0, "wentBy", "(I)I"⟩
abbrev cX0_placeOf : ByteArray := prog_2_method_20_code
def yX0_placeOf : MethodName := ⟨RX0, "placeOf", "(I)I"⟩
def RX1 : String := "ValuesGo$Past"
def TX1 : u_T := fun k => match k with
  | 0 => ("ValuesGo$Past", "variables", "[I", true)
  | 1 => ("ValuesGo$Past", "sets", "[I", true)
  | 2 => ("ValuesGo$Past", "wentAt", "[I", true)
  | 3 => ("ValuesGo$Past", "decisionsAt", "[I", true)
  | 4 => ("ValuesGo$Past", "rulesAt", "[I", true)
  | 5 => ("ValuesGo$Past", "decisions", "I", false)
  | _ => ("ValuesGo$Past", "levels", "I", false)
def tyX1 : Nat → FieldType := fun k => match k with
  | 0 => .array .int
  | 1 => .array .int
  | 2 => .array .int
  | 3 => .array .int
  | 4 => .array .int
  | 5 => .int
  | _ => .int
abbrev wsX10 : List Cond := u_ws RX1 TX1 7
theorem nmX1 : ∀ a, a < 7 → ∀ b, b < 7 → a ≠ b → (TX1 a).2.1 ≠ (TX1 b).2.1 := by decide +kernel
theorem tyX1_ok : ∀ k, k < 7 → parseFieldDescriptor (TX1 k).2.2.1 = some (tyX1 k) := by decide +kernel
abbrev cX1_init : ByteArray := prog_3_method_1_code
def yX1_init : MethodName := ⟨RX1, "<init>", "()V"⟩
abbrev cX1_all : ByteArray := prog_3_method_2_code
def yX1_all : MethodName := ⟨RX1, "all", "()I"⟩
abbrev cX1_decide : ByteArray := prog_3_method_3_code
def yX1_decide : MethodName := ⟨RX1, "decide", "(II)I"⟩
abbrev cX1_open : ByteArray := prog_3_method_4_code
def yX1_open : MethodName := ⟨RX1, "open", "(II)I"⟩
abbrev cX1_close : ByteArray := prog_3_method_5_code
def yX1_close : MethodName := ⟨RX1, "close", "()I"⟩
abbrev cX1_become : ByteArray := prog_3_method_6_code
def yX1_become : MethodName := ⟨RX1, "become", "(LValuesGo$Past;)V"⟩
def RX2 : String := "ValuesGo$Reader"
def TX2 : u_T := fun k => match k with
  | 0 => ("ValuesGo$Reader", "tape", "[I", true)
  | 1 => ("ValuesGo$Reader", "tokens", "[I", true)
  | 2 => ("ValuesGo$Reader", "places", "[I", true)
  | 3 => ("ValuesGo$Reader", "numbers", "[I", true)
  | 4 => ("ValuesGo$Reader", "steps", "[I", true)
  | 5 => ("ValuesGo$Reader", "stack", "[I", true)
  | 6 => ("ValuesGo$Reader", "size", "I", false)
  | 7 => ("ValuesGo$Reader", "tokensSize", "I", false)
  | 8 => ("ValuesGo$Reader", "at", "I", false)
  | 9 => ("ValuesGo$Reader", "stepsSize", "I", false)
  | 10 => ("ValuesGo$Reader", "kind", "I", false)
  | 11 => ("ValuesGo$Reader", "variables", "I", false)
  | 12 => ("ValuesGo$Reader", "name", "I", false)
  | _ => ("ValuesGo$Reader", "comparison", "I", false)
def tyX2 : Nat → FieldType := fun k => match k with
  | 0 => .array .int
  | 1 => .array .int
  | 2 => .array .int
  | 3 => .array .int
  | 4 => .array .int
  | 5 => .array .int
  | 6 => .int
  | 7 => .int
  | 8 => .int
  | 9 => .int
  | 10 => .int
  | 11 => .int
  | 12 => .int
  | _ => .int
abbrev wsX20 : List Cond := u_ws RX2 TX2 14
theorem nmX2 : ∀ a, a < 14 → ∀ b, b < 14 → a ≠ b → (TX2 a).2.1 ≠ (TX2 b).2.1 := by decide +kernel
theorem tyX2_ok : ∀ k, k < 14 → parseFieldDescriptor (TX2 k).2.2.1 = some (tyX2 k) := by decide +kernel
abbrev cX2_init : ByteArray := prog_4_method_1_code
def yX2_init : MethodName := ⟨RX2, "<init>", "()V"⟩
abbrev cX2_accept : ByteArray := prog_4_method_2_code
def yX2_accept : MethodName := ⟨RX2, "accept", "(I)Z"⟩
abbrev cX2_read : ByteArray := prog_4_method_3_code
def yX2_read : MethodName := ⟨RX2, "read", "()I"⟩
abbrev cX2_token : ByteArray := prog_4_method_4_code
def yX2_token : MethodName := ⟨RX2, "token", "()I"⟩
abbrev cX2_pass : ByteArray := prog_4_method_5_code
def yX2_pass : MethodName := ⟨RX2, "pass", "()V"⟩
abbrev cX2_split : ByteArray := prog_4_method_6_code
def yX2_split : MethodName := ⟨RX2, "split", "()V"⟩
abbrev cX2_addToken : ByteArray := prog_4_method_7_code
def yX2_addToken : MethodName := ⟨RX2, "addToken", "(II)V"⟩
abbrev cX2_endOfToken : ByteArray := prog_4_method_8_code
def yX2_endOfToken : MethodName := ⟨RX2, "endOfToken", "(I)I"⟩
abbrev cX2_kindOfToken : ByteArray := prog_4_method_9_code
def yX2_kindOfToken : MethodName := ⟨RX2, "kindOfToken", "(II)I"⟩
abbrev cX2_numberAt : ByteArray := prog_4_method_10_code
def yX2_numberAt : MethodName := ⟨RX2, "numberAt", "(II)I"⟩
abbrev cX2_isDistinctAt : ByteArray := prog_4_method_11_code
def yX2_isDistinctAt : MethodName := ⟨RX2, "isDistinctAt", "(II)Z"⟩
abbrev cX2_isDigit : ByteArray := prog_4_method_12_code
def yX2_isDigit : MethodName := ⟨RX2, "isDigit", "(I)Z"⟩
abbrev cX2_isSmall : ByteArray := prog_4_method_13_code
def yX2_isSmall : MethodName := ⟨RX2, "isSmall", "(I)Z"⟩
abbrev cX2_distinct : ByteArray := prog_4_method_14_code
def yX2_distinct : MethodName := ⟨RX2, "distinct", "()Z"⟩
abbrev cX2_tested : ByteArray := prog_4_method_15_code
def yX2_tested : MethodName := ⟨RX2, "tested", "()Z"⟩
abbrev cX2_sum : ByteArray := prog_4_method_16_code
def yX2_sum : MethodName := ⟨RX2, "sum", "(I)Z"⟩
abbrev cX2_term : ByteArray := prog_4_method_17_code
def yX2_term : MethodName := ⟨RX2, "term", "(I)Z"⟩
abbrev cX2_one : ByteArray := prog_4_method_18_code
def yX2_one : MethodName := ⟨RX2, "one", "(I)Z"⟩
abbrev cX2_bracketed : ByteArray := prog_4_method_19_code
def yX2_bracketed : MethodName := ⟨RX2, "bracketed", "(I)Z"⟩
abbrev cX2_named : ByteArray := prog_4_method_20_code
def yX2_named : MethodName := ⟨RX2, "named", "()Z"⟩
abbrev cX2_emit : ByteArray := prog_4_method_21_code
def yX2_emit : MethodName := ⟨RX2, "emit", "(I)V"⟩
abbrev cX2_holdsFor : ByteArray := prog_4_method_22_code
def yX2_holdsFor : MethodName := ⟨RX2, "holdsFor", "([I)Z"⟩
abbrev cX2_areUnlike : ByteArray := prog_4_method_23_code
def yX2_areUnlike : MethodName := ⟨RX2, "areUnlike", "([I)Z"⟩
abbrev cX2_testHolds : ByteArray := prog_4_method_24_code
def yX2_testHolds : MethodName := ⟨RX2, "testHolds", "([I)Z"⟩
abbrev cX2_joined : ByteArray := prog_4_method_25_code
def yX2_joined : MethodName := ⟨RX2, "joined", "(III)I"⟩
abbrev cX2_isSo : ByteArray := prog_4_method_26_code
def yX2_isSo : MethodName := ⟨RX2, "isSo", "(II)Z"⟩
def RX3 : String := "ValuesGo$Rules"
def TX3 : u_T := fun k => match k with
  | 0 => ("ValuesGo$Rules", "kinds", "[I", true)
  | 1 => ("ValuesGo$Rules", "variables", "[I", true)
  | 2 => ("ValuesGo$Rules", "priorities", "[I", true)
  | 3 => ("ValuesGo$Rules", "having", "[I", true)
  | 4 => ("ValuesGo$Rules", "slots", "[I", true)
  | 5 => ("ValuesGo$Rules", "ways", "[I", true)
  | 6 => ("ValuesGo$Rules", "pairs", "[I", true)
  | 7 => ("ValuesGo$Rules", "values", "[I", true)
  | _ => ("ValuesGo$Rules", "size", "I", false)
def tyX3 : Nat → FieldType := fun k => match k with
  | 0 => .array .int
  | 1 => .array .int
  | 2 => .array .int
  | 3 => .array .int
  | 4 => .array .int
  | 5 => .array .int
  | 6 => .array .int
  | 7 => .array .int
  | _ => .int
abbrev wsX30 : List Cond := u_ws RX3 TX3 9
theorem nmX3 : ∀ a, a < 9 → ∀ b, b < 9 → a ≠ b → (TX3 a).2.1 ≠ (TX3 b).2.1 := by decide +kernel
theorem tyX3_ok : ∀ k, k < 9 → parseFieldDescriptor (TX3 k).2.2.1 = some (tyX3 k) := by decide +kernel
abbrev cX3_init : ByteArray := prog_5_method_1_code
def yX3_init : MethodName := ⟨RX3, "<init>", "()V"⟩
abbrev cX3_all : ByteArray := prog_5_method_2_code
def yX3_all : MethodName := ⟨RX3, "all", "()I"⟩
abbrev cX3_howMany : ByteArray := prog_5_method_3_code
def yX3_howMany : MethodName := ⟨RX3, "howMany", "(I)I"⟩
abbrev cX3_add : ByteArray := prog_5_method_4_code
def yX3_add : MethodName := ⟨RX3, "add", "(LValuesGo$Reader;)I"⟩
abbrev cX3_enter : ByteArray := prog_5_method_5_code
def yX3_enter : MethodName := ⟨RX3, "enter", "(III)V"⟩
abbrev cX3_fillSlots : ByteArray := prog_5_method_6_code
def yX3_fillSlots : MethodName := ⟨RX3, "fillSlots", "(I)V"⟩
abbrev cX3_fillWays : ByteArray := prog_5_method_7_code
def yX3_fillWays : MethodName := ⟨RX3, "fillWays", "(ILValuesGo$Reader;)V"⟩
abbrev cX3_lastValues : ByteArray := prog_5_method_8_code
def yX3_lastValues : MethodName := ⟨RX3, "lastValues", "(ILValuesGo$Reader;)I"⟩
abbrev cX3_isWay : ByteArray := prog_5_method_9_code
def yX3_isWay : MethodName := ⟨RX3, "isWay", "(IIII)Z"⟩
abbrev cX3_countWays : ByteArray := prog_5_method_10_code
def yX3_countWays : MethodName := ⟨RX3, "countWays", "(I[I)I"⟩
abbrev cX3_notHolding : ByteArray := prog_5_method_11_code
def yX3_notHolding : MethodName := ⟨RX3, "notHolding", "([I)I"⟩
abbrev cX3_sift : ByteArray := prog_5_method_12_code
def yX3_sift : MethodName := ⟨RX3, "sift", "(I[I[I)V"⟩
abbrev cX3_siftLearned : ByteArray := prog_5_method_13_code
def yX3_siftLearned : MethodName := ⟨RX3, "siftLearned", "(I[I[I)V"⟩
abbrev cX3_learn : ByteArray := prog_5_method_14_code
def yX3_learn : MethodName := ⟨RX3, "learn", "(II[I)I"⟩
def RX4 : String := "ValuesGo$Search"
def TX4 : u_T := fun k => match k with
  | 0 => ("ValuesGo$Search", "rules", "LValuesGo$Rules;", true)
  | 1 => ("ValuesGo$Search", "past", "LValuesGo$Past;", true)
  | 2 => ("ValuesGo$Search", "thought", "LValuesGo$Hall;", true)
  | 3 => ("ValuesGo$Search", "trial", "LValuesGo$Hall;", true)
  | 4 => ("ValuesGo$Search", "triedVariable", "[I", true)
  | 5 => ("ValuesGo$Search", "triedSet", "[I", true)
  | 6 => ("ValuesGo$Search", "wentAt", "[I", true)
  | 7 => ("ValuesGo$Search", "pairSets", "[I", true)
  | 8 => ("ValuesGo$Search", "solution", "[I", true)
  | 9 => ("ValuesGo$Search", "open", "I", false)
  | 10 => ("ValuesGo$Search", "tries", "I", false)
  | 11 => ("ValuesGo$Search", "fails", "I", false)
  | 12 => ("ValuesGo$Search", "learned", "I", false)
  | 13 => ("ValuesGo$Search", "found", "I", false)
  | _ => ("ValuesGo$Search", "dear", "Z", false)
def tyX4 : Nat → FieldType := fun k => match k with
  | 0 => .object "ValuesGo$Rules"
  | 1 => .object "ValuesGo$Past"
  | 2 => .object "ValuesGo$Hall"
  | 3 => .object "ValuesGo$Hall"
  | 4 => .array .int
  | 5 => .array .int
  | 6 => .array .int
  | 7 => .array .int
  | 8 => .array .int
  | 9 => .int
  | 10 => .int
  | 11 => .int
  | 12 => .int
  | 13 => .int
  | _ => .boolean
abbrev wsX40 : List Cond := u_ws RX4 TX4 15
theorem nmX4 : ∀ a, a < 15 → ∀ b, b < 15 → a ≠ b → (TX4 a).2.1 ≠ (TX4 b).2.1 := by decide +kernel
theorem tyX4_ok : ∀ k, k < 15 → parseFieldDescriptor (TX4 k).2.2.1 = some (tyX4 k) := by decide +kernel
abbrev cX4_init : ByteArray := prog_6_method_1_code
def yX4_init : MethodName := ⟨RX4, "<init>", "(LValuesGo$Rules;LValuesGo$Past;LValuesGo$Hall;LValuesGo$Hall;)V"⟩
abbrev cX4_go : ByteArray := prog_6_method_2_code
def yX4_go : MethodName := ⟨RX4, "go", "(IIZIZ)V"⟩
abbrev cX4_keepSolution : ByteArray := prog_6_method_3_code
def yX4_keepSolution : MethodName := ⟨RX4, "keepSolution", "()V"⟩
abbrev cX4_tryOne : ByteArray := prog_6_method_4_code
def yX4_tryOne : MethodName := ⟨RX4, "tryOne", "(II)Z"⟩
abbrev cX4_turnBack : ByteArray := prog_6_method_5_code
def yX4_turnBack : MethodName := ⟨RX4, "turnBack", "(I)Z"⟩
abbrev cX4_chosen : ByteArray := prog_6_method_6_code
def yX4_chosen : MethodName := ⟨RX4, "chosen", "(I)I"⟩
abbrev cX4_worthOf : ByteArray := prog_6_method_7_code
def yX4_worthOf : MethodName := ⟨RX4, "worthOf", "(II)I"⟩
abbrev cX4_picked : ByteArray := prog_6_method_8_code
def yX4_picked : MethodName := ⟨RX4, "picked", "(II)I"⟩
abbrev cX4_least : ByteArray := prog_6_method_9_code
def yX4_least : MethodName := ⟨RX4, "least", "(II)I"⟩
abbrev cX4_learnFromTries : ByteArray := prog_6_method_10_code
def yX4_learnFromTries : MethodName := ⟨RX4, "learnFromTries", "()I"⟩
abbrev cX4_learn : ByteArray := prog_6_method_11_code
def yX4_learn : MethodName := ⟨RX4, "learn", "(I)I"⟩
abbrev cX4_startTrial : ByteArray := prog_6_method_12_code
def yX4_startTrial : MethodName := ⟨RX4, "startTrial", "(I)V"⟩
abbrev cX4_isSolution : ByteArray := prog_6_method_13_code
def yX4_isSolution : MethodName := ⟨RX4, "isSolution", "([I)Z"⟩
abbrev cX4_digits : ByteArray := prog_6_method_14_code
def yX4_digits : MethodName := ⟨RX4, "digits", "()I"⟩
def RX5 : String := "ValuesGo$Sheet"
def TX5 : u_T := fun k => match k with
  | 0 => ("ValuesGo$Sheet", "items", "[I", true)
  | 1 => ("ValuesGo$Sheet", "sort", "I", false)
  | _ => ("ValuesGo$Sheet", "size", "I", false)
def tyX5 : Nat → FieldType := fun k => match k with
  | 0 => .array .int
  | 1 => .int
  | _ => .int
abbrev wsX50 : List Cond := u_ws RX5 TX5 3
theorem nmX5 : ∀ a, a < 3 → ∀ b, b < 3 → a ≠ b → (TX5 a).2.1 ≠ (TX5 b).2.1 := by decide +kernel
theorem tyX5_ok : ∀ k, k < 3 → parseFieldDescriptor (TX5 k).2.2.1 = some (tyX5 k) := by decide +kernel
abbrev cX5_init : ByteArray := prog_7_method_1_code
def yX5_init : MethodName := ⟨RX5, "<init>", "()V"⟩
abbrev cX5_become : ByteArray := prog_7_method_2_code
def yX5_become : MethodName := ⟨RX5, "become", "(II)V"⟩
abbrev cX5_isMissing : ByteArray := prog_7_method_3_code
def yX5_isMissing : MethodName := ⟨RX5, "isMissing", "()Z"⟩
abbrev cX5_has : ByteArray := prog_7_method_4_code
def yX5_has : MethodName := ⟨RX5, "has", "(I)Z"⟩
abbrev cX5_hasRow : ByteArray := prog_7_method_5_code
def yX5_hasRow : MethodName := ⟨RX5, "hasRow", "(II)Z"⟩
abbrev cX5_cut : ByteArray := prog_7_method_6_code
def yX5_cut : MethodName := ⟨RX5, "cut", "(I)I"⟩
def RX6 : String := "ValuesGo"
def TX6 : u_T := fun k => match k with
  | 0 => ("ValuesGo", "rules", "LValuesGo$Rules;", true)
  | 1 => ("ValuesGo", "reader", "LValuesGo$Reader;", true)
  | 2 => ("ValuesGo", "hall", "LValuesGo$Hall;", true)
  | 3 => ("ValuesGo", "past", "LValuesGo$Past;", true)
  | 4 => ("ValuesGo", "thought", "LValuesGo$Hall;", true)
  | 5 => ("ValuesGo", "trial", "LValuesGo$Hall;", true)
  | 6 => ("ValuesGo", "search", "LValuesGo$Search;", true)
  | 7 => ("ValuesGo", "keptHall", "LValuesGo$Hall;", true)
  | 8 => ("ValuesGo", "keptPast", "LValuesGo$Past;", true)
  | 9 => ("ValuesGo", "sheets", "[LValuesGo$Sheet;", true)
  | 10 => ("ValuesGo", "toldValues", "[I", true)
  | 11 => ("ValuesGo", "keptRules", "I", false)
  | _ => ("ValuesGo", "imaged", "Z", false)
def tyX6 : Nat → FieldType := fun k => match k with
  | 0 => .object "ValuesGo$Rules"
  | 1 => .object "ValuesGo$Reader"
  | 2 => .object "ValuesGo$Hall"
  | 3 => .object "ValuesGo$Past"
  | 4 => .object "ValuesGo$Hall"
  | 5 => .object "ValuesGo$Hall"
  | 6 => .object "ValuesGo$Search"
  | 7 => .object "ValuesGo$Hall"
  | 8 => .object "ValuesGo$Past"
  | 9 => .array (.object "ValuesGo$Sheet")
  | 10 => .array .int
  | 11 => .int
  | _ => .boolean
abbrev wsX60 : List Cond := u_ws RX6 TX6 13
theorem nmX6 : ∀ a, a < 13 → ∀ b, b < 13 → a ≠ b → (TX6 a).2.1 ≠ (TX6 b).2.1 := by decide +kernel
theorem tyX6_ok : ∀ k, k < 13 → parseFieldDescriptor (TX6 k).2.2.1 = some (tyX6 k) := by decide +kernel
abbrev cX6_init : ByteArray := prog_1_method_1_code
def yX6_init : MethodName := ⟨RX6, "<init>", "()V"⟩
abbrev cX6_feed : ByteArray := prog_1_method_2_code
def yX6_feed : MethodName := ⟨RX6, "feed", "(I)I"⟩
abbrev cX6_rule : ByteArray := prog_1_method_3_code
def yX6_rule : MethodName := ⟨RX6, "rule", "()I"⟩
abbrev cX6_told : ByteArray := prog_1_method_4_code
def yX6_told : MethodName := ⟨RX6, "told", "(II)I"⟩
abbrev cX6_holds : ByteArray := prog_1_method_5_code
def yX6_holds : MethodName := ⟨RX6, "holds", "(IIII)I"⟩
abbrev cX6_taken : ByteArray := prog_1_method_6_code
def yX6_taken : MethodName := ⟨RX6, "taken", "(II)I"⟩
abbrev cX6_tell : ByteArray := prog_1_method_7_code
def yX6_tell : MethodName := ⟨RX6, "tell", "(II)I"⟩
abbrev cX6_step : ByteArray := prog_1_method_8_code
def yX6_step : MethodName := ⟨RX6, "step", "()I"⟩
abbrev cX6_run : ByteArray := prog_1_method_9_code
def yX6_run : MethodName := ⟨RX6, "run", "()I"⟩
abbrev cX6_level : ByteArray := prog_1_method_10_code
def yX6_level : MethodName := ⟨RX6, "level", "()I"⟩
abbrev cX6_undo : ByteArray := prog_1_method_11_code
def yX6_undo : MethodName := ⟨RX6, "undo", "()I"⟩
abbrev cX6_domain : ByteArray := prog_1_method_12_code
def yX6_domain : MethodName := ⟨RX6, "domain", "(I)I"⟩
abbrev cX6_trail : ByteArray := prog_1_method_13_code
def yX6_trail : MethodName := ⟨RX6, "trail", "(II)I"⟩
abbrev cX6_decision : ByteArray := prog_1_method_14_code
def yX6_decision : MethodName := ⟨RX6, "decision", "(II)I"⟩
abbrev cX6_why : ByteArray := prog_1_method_15_code
def yX6_why : MethodName := ⟨RX6, "why", "(II)I"⟩
abbrev cX6_mixed : ByteArray := prog_1_method_16_code
def yX6_mixed : MethodName := ⟨RX6, "mixed", "(II)I"⟩
abbrev cX6_search : ByteArray := prog_1_method_17_code
def yX6_search : MethodName := ⟨RX6, "search", "(IIII)I"⟩
abbrev cX6_solutions : ByteArray := prog_1_method_18_code
def yX6_solutions : MethodName := ⟨RX6, "solutions", "()J"⟩
abbrev cX6_reach : ByteArray := prog_1_method_19_code
def yX6_reach : MethodName := ⟨RX6, "reach", "(II)I"⟩
abbrev cX6_tells : ByteArray := prog_1_method_20_code
def yX6_tells : MethodName := ⟨RX6, "tells", "(II)I"⟩
abbrev cX6_film : ByteArray := prog_1_method_21_code
def yX6_film : MethodName := ⟨RX6, "film", "(III)I"⟩
abbrev cX6_image : ByteArray := prog_1_method_22_code
def yX6_image : MethodName := ⟨RX6, "image", "()I"⟩
abbrev cX6_back : ByteArray := prog_1_method_23_code
def yX6_back : MethodName := ⟨RX6, "back", "()I"⟩
abbrev cX6_count : ByteArray := prog_1_method_24_code
def yX6_count : MethodName := ⟨RX6, "count", "(I)I"⟩
abbrev cX6_sheet : ByteArray := prog_1_method_25_code
def yX6_sheet : MethodName := ⟨RX6, "sheet", "(III)I"⟩
abbrev cX6_put : ByteArray := prog_1_method_26_code
def yX6_put : MethodName := ⟨RX6, "put", "(III)I"⟩
abbrev cX6_item : ByteArray := prog_1_method_27_code
def yX6_item : MethodName := ⟨RX6, "item", "(II)I"⟩
abbrev cX6_copy : ByteArray := prog_1_method_28_code
def yX6_copy : MethodName := ⟨RX6, "copy", "(IIIII)I"⟩
abbrev cX6_load : ByteArray := prog_1_method_29_code
def yX6_load : MethodName := ⟨RX6, "load", "(IIII)I"⟩
abbrev cX6_isVariable : ByteArray := prog_1_method_30_code
def yX6_isVariable : MethodName := ⟨RX6, "isVariable", "(I)Z"⟩
abbrev cX6_isValue : ByteArray := prog_1_method_31_code
def yX6_isValue : MethodName := ⟨RX6, "isValue", "(I)Z"⟩
abbrev cX6_isSheet : ByteArray := prog_1_method_32_code
def yX6_isSheet : MethodName := ⟨RX6, "isSheet", "(I)Z"⟩
abbrev cX6_isChoice : ByteArray := prog_1_method_33_code
def yX6_isChoice : MethodName := ⟨RX6, "isChoice", "(II)Z"⟩
abbrev cX6_isRule : ByteArray := prog_1_method_34_code
def yX6_isRule : MethodName := ⟨RX6, "isRule", "(I)Z"⟩
abbrev cX6_isIdle : ByteArray := prog_1_method_35_code
def yX6_isIdle : MethodName := ⟨RX6, "isIdle", "(I)Z"⟩
abbrev cX6_isGone : ByteArray := prog_1_method_36_code
def yX6_isGone : MethodName := ⟨RX6, "isGone", "(III)Z"⟩
abbrev cX6_readValues : ByteArray := prog_1_method_37_code
def yX6_readValues : MethodName := ⟨RX6, "readValues", "(LValuesGo$Sheet;)Z"⟩
abbrev cX6_choicesThatFind : ByteArray := prog_1_method_38_code
def yX6_choicesThatFind : MethodName := ⟨RX6, "choicesThatFind", "()I"⟩
def RX7 : String := "ValuesGoModel"
def TX7 : u_T := fun k => match k with
  | 0 => ("ValuesGoModel", "thrown", "I", false)
  | 1 => ("ValuesGoModel", "domains", "[I", true)
  | 2 => ("ValuesGoModel", "isFailed", "Z", false)
  | 3 => ("ValuesGoModel", "kinds", "[I", true)
  | 4 => ("ValuesGoModel", "sets", "[I", true)
  | 5 => ("ValuesGoModel", "table", "[Z", true)
  | 6 => ("ValuesGoModel", "pairs", "[I", true)
  | 7 => ("ValuesGoModel", "isQueued", "[Z", true)
  | 8 => ("ValuesGoModel", "many", "I", false)
  | 9 => ("ValuesGoModel", "learned", "I", false)
  | 10 => ("ValuesGoModel", "told", "[I", true)
  | 11 => ("ValuesGoModel", "toldSets", "[I", true)
  | 12 => ("ValuesGoModel", "decided", "I", false)
  | 13 => ("ValuesGoModel", "gone", "[I", true)
  | 14 => ("ValuesGoModel", "reasons", "[I", true)
  | 15 => ("ValuesGoModel", "trailed", "I", false)
  | 16 => ("ValuesGoModel", "levelTrail", "[I", true)
  | 17 => ("ValuesGoModel", "levelDecided", "[I", true)
  | 18 => ("ValuesGoModel", "levelMany", "[I", true)
  | 19 => ("ValuesGoModel", "levels", "I", false)
  | 20 => ("ValuesGoModel", "runs", "I", false)
  | 21 => ("ValuesGoModel", "tape", "[I", true)
  | 22 => ("ValuesGoModel", "taped", "I", false)
  | 23 => ("ValuesGoModel", "values", "[I", true)
  | 24 => ("ValuesGoModel", "here", "I", false)
  | 25 => ("ValuesGoModel", "token", "I", false)
  | 26 => ("ValuesGoModel", "tokenAt", "I", false)
  | 27 => ("ValuesGoModel", "tokenWorth", "I", false)
  | 28 => ("ValuesGoModel", "open", "I", false)
  | 29 => ("ValuesGoModel", "bad", "Z", false)
  | 30 => ("ValuesGoModel", "fault", "I", false)
  | 31 => ("ValuesGoModel", "readSet", "I", false)
  | 32 => ("ValuesGoModel", "readKind", "I", false)
  | 33 => ("ValuesGoModel", "ways", "[I", true)
  | 34 => ("ValuesGoModel", "wayMany", "I", false)
  | 35 => ("ValuesGoModel", "changed", "I", false)
  | 36 => ("ValuesGoModel", "isThought", "Z", false)
  | 37 => ("ValuesGoModel", "domainsWere", "[I", true)
  | 38 => ("ValuesGoModel", "wasQueued", "[Z", true)
  | 39 => ("ValuesGoModel", "wasFailed", "Z", false)
  | 40 => ("ValuesGoModel", "runsWere", "I", false)
  | 41 => ("ValuesGoModel", "tryAt", "[I", true)
  | 42 => ("ValuesGoModel", "tryValue", "[I", true)
  | 43 => ("ValuesGoModel", "startDomains", "[I", true)
  | 44 => ("ValuesGoModel", "choose", "I", false)
  | 45 => ("ValuesGoModel", "pick", "I", false)
  | 46 => ("ValuesGoModel", "isLearning", "Z", false)
  | 47 => ("ValuesGoModel", "isAll", "Z", false)
  | 48 => ("ValuesGoModel", "tries", "I", false)
  | 49 => ("ValuesGoModel", "fails", "I", false)
  | 50 => ("ValuesGoModel", "solved", "I", false)
  | 51 => ("ValuesGoModel", "solution", "[I", true)
  | 52 => ("ValuesGoModel", "tryDomains", "[I", true)
  | 53 => ("ValuesGoModel", "isRight", "Z", false)
  | 54 => ("ValuesGoModel", "toldLearned", "I", false)
  | 55 => ("ValuesGoModel", "domainsHad", "[I", true)
  | 56 => ("ValuesGoModel", "hadQueued", "[Z", true)
  | 57 => ("ValuesGoModel", "hadFailed", "Z", false)
  | 58 => ("ValuesGoModel", "kindsKept", "[I", true)
  | 59 => ("ValuesGoModel", "setsKept", "[I", true)
  | 60 => ("ValuesGoModel", "tableKept", "[Z", true)
  | 61 => ("ValuesGoModel", "isQueuedKept", "[Z", true)
  | 62 => ("ValuesGoModel", "domainsKept", "[I", true)
  | 63 => ("ValuesGoModel", "toldKept", "[I", true)
  | 64 => ("ValuesGoModel", "toldSetsKept", "[I", true)
  | 65 => ("ValuesGoModel", "goneKept", "[I", true)
  | 66 => ("ValuesGoModel", "reasonsKept", "[I", true)
  | 67 => ("ValuesGoModel", "levelTrailKept", "[I", true)
  | 68 => ("ValuesGoModel", "levelDecidedKept", "[I", true)
  | 69 => ("ValuesGoModel", "levelManyKept", "[I", true)
  | 70 => ("ValuesGoModel", "isFailedKept", "Z", false)
  | 71 => ("ValuesGoModel", "manyKept", "I", false)
  | 72 => ("ValuesGoModel", "decidedKept", "I", false)
  | 73 => ("ValuesGoModel", "trailedKept", "I", false)
  | 74 => ("ValuesGoModel", "levelsKept", "I", false)
  | 75 => ("ValuesGoModel", "runsKept", "I", false)
  | 76 => ("ValuesGoModel", "isKept", "Z", false)
  | 77 => ("ValuesGoModel", "isThere", "[Z", true)
  | 78 => ("ValuesGoModel", "sorts", "[I", true)
  | 79 => ("ValuesGoModel", "sheetSize", "[I", true)
  | _ => ("ValuesGoModel", "items", "[I", true)
def tyX7 : Nat → FieldType := fun k => match k with
  | 0 => .int
  | 1 => .array .int
  | 2 => .boolean
  | 3 => .array .int
  | 4 => .array .int
  | 5 => .array .boolean
  | 6 => .array .int
  | 7 => .array .boolean
  | 8 => .int
  | 9 => .int
  | 10 => .array .int
  | 11 => .array .int
  | 12 => .int
  | 13 => .array .int
  | 14 => .array .int
  | 15 => .int
  | 16 => .array .int
  | 17 => .array .int
  | 18 => .array .int
  | 19 => .int
  | 20 => .int
  | 21 => .array .int
  | 22 => .int
  | 23 => .array .int
  | 24 => .int
  | 25 => .int
  | 26 => .int
  | 27 => .int
  | 28 => .int
  | 29 => .boolean
  | 30 => .int
  | 31 => .int
  | 32 => .int
  | 33 => .array .int
  | 34 => .int
  | 35 => .int
  | 36 => .boolean
  | 37 => .array .int
  | 38 => .array .boolean
  | 39 => .boolean
  | 40 => .int
  | 41 => .array .int
  | 42 => .array .int
  | 43 => .array .int
  | 44 => .int
  | 45 => .int
  | 46 => .boolean
  | 47 => .boolean
  | 48 => .int
  | 49 => .int
  | 50 => .int
  | 51 => .array .int
  | 52 => .array .int
  | 53 => .boolean
  | 54 => .int
  | 55 => .array .int
  | 56 => .array .boolean
  | 57 => .boolean
  | 58 => .array .int
  | 59 => .array .int
  | 60 => .array .boolean
  | 61 => .array .boolean
  | 62 => .array .int
  | 63 => .array .int
  | 64 => .array .int
  | 65 => .array .int
  | 66 => .array .int
  | 67 => .array .int
  | 68 => .array .int
  | 69 => .array .int
  | 70 => .boolean
  | 71 => .int
  | 72 => .int
  | 73 => .int
  | 74 => .int
  | 75 => .int
  | 76 => .boolean
  | 77 => .array .boolean
  | 78 => .array .int
  | 79 => .array .int
  | _ => .array .int
abbrev wsX70 : List Cond := u_ws RX7 TX7 81
theorem nmX7 : ∀ a, a < 81 → ∀ b, b < 81 → a ≠ b → (TX7 a).2.1 ≠ (TX7 b).2.1 := by decide +kernel
theorem tyX7_ok : ∀ k, k < 81 → parseFieldDescriptor (TX7 k).2.2.1 = some (tyX7 k) := by decide +kernel
abbrev cX7_in : ByteArray := prog_9_method_2_code
def yX7_in : MethodName := ⟨RX7, "in", "(JJJ)Z"⟩
abbrev cX7_bitsOf : ByteArray := prog_9_method_3_code
def yX7_bitsOf : MethodName := ⟨RX7, "bitsOf", "(I)I"⟩
abbrev cX7_init : ByteArray := prog_9_method_4_code
def yX7_init : MethodName := ⟨RX7, "<init>", "()V"⟩
abbrev cX7_feed : ByteArray := prog_9_method_5_code
def yX7_feed : MethodName := ⟨RX7, "feed", "(I)I"⟩
abbrev cX7_byteAt : ByteArray := prog_9_method_6_code
def yX7_byteAt : MethodName := ⟨RX7, "byteAt", "(I)I"⟩
abbrev cX7_isSignByte : ByteArray := prog_9_method_7_code
def yX7_isSignByte : MethodName := ⟨RX7, "isSignByte", "(I)Z"⟩
abbrev cX7_isDistinct : ByteArray := prog_9_method_8_code
def yX7_isDistinct : MethodName := ⟨RX7, "isDistinct", "()Z"⟩
abbrev cX7_next : ByteArray := prog_9_method_9_code
def yX7_next : MethodName := ⟨RX7, "next", "()V"⟩
abbrev cX7_fail : ByteArray := prog_9_method_10_code
def yX7_fail : MethodName := ⟨RX7, "fail", "()V"⟩
abbrev cX7_isSign : ByteArray := prog_9_method_11_code
def yX7_isSign : MethodName := ⟨RX7, "isSign", "(I)Z"⟩
abbrev cX7_name : ByteArray := prog_9_method_12_code
def yX7_name : MethodName := ⟨RX7, "name", "()I"⟩
abbrev cX7_one : ByteArray := prog_9_method_13_code
def yX7_one : MethodName := ⟨RX7, "one", "()I"⟩
abbrev cX7_term : ByteArray := prog_9_method_14_code
def yX7_term : MethodName := ⟨RX7, "term", "()I"⟩
abbrev cX7_sum : ByteArray := prog_9_method_15_code
def yX7_sum : MethodName := ⟨RX7, "sum", "()I"⟩
abbrev cX7_test : ByteArray := prog_9_method_16_code
def yX7_test : MethodName := ⟨RX7, "test", "()Z"⟩
abbrev cX7_fresh : ByteArray := prog_9_method_17_code
def yX7_fresh : MethodName := ⟨RX7, "fresh", "()I"⟩
abbrev cX7_reads : ByteArray := prog_9_method_18_code
def yX7_reads : MethodName := ⟨RX7, "reads", "()Z"⟩
abbrev cX7_variable : ByteArray := prog_9_method_19_code
def yX7_variable : MethodName := ⟨RX7, "variable", "(II)I"⟩
abbrev cX7_rule : ByteArray := prog_9_method_20_code
def yX7_rule : MethodName := ⟨RX7, "rule", "()I"⟩
abbrev cX7_allRules : ByteArray := prog_9_method_21_code
def yX7_allRules : MethodName := ⟨RX7, "allRules", "()I"⟩
abbrev cX7_pairOf : ByteArray := prog_9_method_22_code
def yX7_pairOf : MethodName := ⟨RX7, "pairOf", "(II)I"⟩
abbrev cX7_ruleAt : ByteArray := prog_9_method_23_code
def yX7_ruleAt : MethodName := ⟨RX7, "ruleAt", "(I)I"⟩
abbrev cX7_priority : ByteArray := prog_9_method_24_code
def yX7_priority : MethodName := ⟨RX7, "priority", "(I)I"⟩
abbrev cX7_isHolding : ByteArray := prog_9_method_25_code
def yX7_isHolding : MethodName := ⟨RX7, "isHolding", "(IIII)Z"⟩
abbrev cX7_holds : ByteArray := prog_9_method_26_code
def yX7_holds : MethodName := ⟨RX7, "holds", "(IIII)I"⟩
abbrev cX7_taken : ByteArray := prog_9_method_27_code
def yX7_taken : MethodName := ⟨RX7, "taken", "(II)I"⟩
abbrev cX7_domainAt : ByteArray := prog_9_method_28_code
def yX7_domainAt : MethodName := ⟨RX7, "domainAt", "(II)I"⟩
abbrev cX7_goesThrough : ByteArray := prog_9_method_29_code
def yX7_goesThrough : MethodName := ⟨RX7, "goesThrough", "(I)V"⟩
abbrev cX7_goes : ByteArray := prog_9_method_30_code
def yX7_goes : MethodName := ⟨RX7, "goes", "(III)V"⟩
abbrev cX7_keeps : ByteArray := prog_9_method_31_code
def yX7_keeps : MethodName := ⟨RX7, "keeps", "(III)V"⟩
abbrev cX7_prunes : ByteArray := prog_9_method_32_code
def yX7_prunes : MethodName := ⟨RX7, "prunes", "(I)V"⟩
abbrev cX7_isAlone : ByteArray := prog_9_method_33_code
def yX7_isAlone : MethodName := ⟨RX7, "isAlone", "(II)Z"⟩
abbrev cX7_queues : ByteArray := prog_9_method_34_code
def yX7_queues : MethodName := ⟨RX7, "queues", "(II)V"⟩
abbrev cX7_nextRule : ByteArray := prog_9_method_35_code
def yX7_nextRule : MethodName := ⟨RX7, "nextRule", "()I"⟩
abbrev cX7_step : ByteArray := prog_9_method_36_code
def yX7_step : MethodName := ⟨RX7, "step", "()I"⟩
abbrev cX7_run : ByteArray := prog_9_method_37_code
def yX7_run : MethodName := ⟨RX7, "run", "()I"⟩
abbrev cX7_decides : ByteArray := prog_9_method_38_code
def yX7_decides : MethodName := ⟨RX7, "decides", "(III)V"⟩
abbrev cX7_tell : ByteArray := prog_9_method_39_code
def yX7_tell : MethodName := ⟨RX7, "tell", "(II)I"⟩
abbrev cX7_level : ByteArray := prog_9_method_40_code
def yX7_level : MethodName := ⟨RX7, "level", "()I"⟩
abbrev cX7_undo : ByteArray := prog_9_method_41_code
def yX7_undo : MethodName := ⟨RX7, "undo", "()I"⟩
abbrev cX7_queued : ByteArray := prog_9_method_42_code
def yX7_queued : MethodName := ⟨RX7, "queued", "()I"⟩
abbrev cX7_domain : ByteArray := prog_9_method_43_code
def yX7_domain : MethodName := ⟨RX7, "domain", "(I)I"⟩
abbrev cX7_trail : ByteArray := prog_9_method_44_code
def yX7_trail : MethodName := ⟨RX7, "trail", "(II)I"⟩
abbrev cX7_decision : ByteArray := prog_9_method_45_code
def yX7_decision : MethodName := ⟨RX7, "decision", "(II)I"⟩
abbrev cX7_laysAside : ByteArray := prog_9_method_46_code
def yX7_laysAside : MethodName := ⟨RX7, "laysAside", "()V"⟩
abbrev cX7_laysBack : ByteArray := prog_9_method_47_code
def yX7_laysBack : MethodName := ⟨RX7, "laysBack", "()V"⟩
abbrev cX7_starts : ByteArray := prog_9_method_48_code
def yX7_starts : MethodName := ⟨RX7, "starts", "(III)V"⟩
abbrev cX7_isGone : ByteArray := prog_9_method_49_code
def yX7_isGone : MethodName := ⟨RX7, "isGone", "(II)Z"⟩
abbrev cX7_why : ByteArray := prog_9_method_50_code
def yX7_why : MethodName := ⟨RX7, "why", "(II)I"⟩
abbrev cX7_isIdle : ByteArray := prog_9_method_51_code
def yX7_isIdle : MethodName := ⟨RX7, "isIdle", "(I)Z"⟩
abbrev cX7_mixed : ByteArray := prog_9_method_52_code
def yX7_mixed : MethodName := ⟨RX7, "mixed", "(II)I"⟩
abbrev cX7_wentBy : ByteArray := prog_9_method_53_code
def yX7_wentBy : MethodName := ⟨RX7, "wentBy", "(I)I"⟩
abbrev cX7_told : ByteArray := prog_9_method_54_code
def yX7_told : MethodName := ⟨RX7, "told", "(II)I"⟩
abbrev cX7_ruleCount : ByteArray := prog_9_method_55_code
def yX7_ruleCount : MethodName := ⟨RX7, "ruleCount", "(I)I"⟩
abbrev cX7_chosen : ByteArray := prog_9_method_56_code
def yX7_chosen : MethodName := ⟨RX7, "chosen", "()I"⟩
abbrev cX7_picked : ByteArray := prog_9_method_57_code
def yX7_picked : MethodName := ⟨RX7, "picked", "(I)I"⟩
abbrev cX7_runsAll : ByteArray := prog_9_method_58_code
def yX7_runsAll : MethodName := ⟨RX7, "runsAll", "()V"⟩
abbrev cX7_lowest : ByteArray := prog_9_method_59_code
def yX7_lowest : MethodName := ⟨RX7, "lowest", "(I)I"⟩
abbrev cX7_clears : ByteArray := prog_9_method_60_code
def yX7_clears : MethodName := ⟨RX7, "clears", "()V"⟩
abbrev cX7_searches : ByteArray := prog_9_method_61_code
def yX7_searches : MethodName := ⟨RX7, "searches", "(II)I"⟩
abbrev cX7_learns : ByteArray := prog_9_method_62_code
def yX7_learns : MethodName := ⟨RX7, "learns", "(I)Z"⟩
abbrev cX7_searched : ByteArray := prog_9_method_63_code
def yX7_searched : MethodName := ⟨RX7, "searched", "(IIZZI)I"⟩
abbrev cX7_search : ByteArray := prog_9_method_64_code
def yX7_search : MethodName := ⟨RX7, "search", "(IIII)I"⟩
abbrev cX7_laysAside2 : ByteArray := prog_9_method_65_code
def yX7_laysAside2 : MethodName := ⟨RX7, "laysAside2", "()V"⟩
abbrev cX7_laysBack2 : ByteArray := prog_9_method_66_code
def yX7_laysBack2 : MethodName := ⟨RX7, "laysBack2", "()V"⟩
abbrev cX7_solutions : ByteArray := prog_9_method_67_code
def yX7_solutions : MethodName := ⟨RX7, "solutions", "()J"⟩
abbrev cX7_reach : ByteArray := prog_9_method_68_code
def yX7_reach : MethodName := ⟨RX7, "reach", "(II)I"⟩
abbrev cX7_isFound : ByteArray := prog_9_method_69_code
def yX7_isFound : MethodName := ⟨RX7, "isFound", "(III)Z"⟩
abbrev cX7_isSo : ByteArray := prog_9_method_70_code
def yX7_isSo : MethodName := ⟨RX7, "isSo", "(II)Z"⟩
abbrev cX7_tells : ByteArray := prog_9_method_71_code
def yX7_tells : MethodName := ⟨RX7, "tells", "(II)I"⟩
abbrev cX7_film : ByteArray := prog_9_method_72_code
def yX7_film : MethodName := ⟨RX7, "film", "(III)I"⟩
abbrev cX7_image : ByteArray := prog_9_method_73_code
def yX7_image : MethodName := ⟨RX7, "image", "()I"⟩
abbrev cX7_back : ByteArray := prog_9_method_74_code
def yX7_back : MethodName := ⟨RX7, "back", "()I"⟩
abbrev cX7_count : ByteArray := prog_9_method_75_code
def yX7_count : MethodName := ⟨RX7, "count", "(I)I"⟩
abbrev cX7_isSheet : ByteArray := prog_9_method_76_code
def yX7_isSheet : MethodName := ⟨RX7, "isSheet", "(I)Z"⟩
abbrev cX7_sheet : ByteArray := prog_9_method_77_code
def yX7_sheet : MethodName := ⟨RX7, "sheet", "(III)I"⟩
abbrev cX7_put : ByteArray := prog_9_method_78_code
def yX7_put : MethodName := ⟨RX7, "put", "(III)I"⟩
abbrev cX7_item : ByteArray := prog_9_method_79_code
def yX7_item : MethodName := ⟨RX7, "item", "(II)I"⟩
abbrev cX7_copy : ByteArray := prog_9_method_80_code
def yX7_copy : MethodName := ⟨RX7, "copy", "(IIIII)I"⟩
abbrev cX7_load : ByteArray := prog_9_method_81_code
def yX7_load : MethodName := ⟨RX7, "load", "(IIII)I"⟩
def RJ11 : String := "java/lang/Character"
def TJ11 : u_T := fun k => match k with
  | _ => ("", "", "", false)
def tyJ11 : Nat → FieldType := fun k => match k with
  | _ => .int
abbrev cJ11_isValidCodePoint_9a6ad : ByteArray := prog_10_method_11_code
def yJ11_isValidCodePoint_9a6ad : MethodName := ⟨RJ11, "isValidCodePoint", "(I)Z"⟩
abbrev cJ11_highSurrogate_5068e : ByteArray := prog_10_method_28_code
def yJ11_highSurrogate_5068e : MethodName := ⟨RJ11, "highSurrogate", "(I)C"⟩
abbrev cJ11_lowSurrogate_5068e : ByteArray := prog_10_method_29_code
def yJ11_lowSurrogate_5068e : MethodName := ⟨RJ11, "lowSurrogate", "(I)C"⟩
def RJ6 : String := "java/lang/Integer"
def TJ6 : u_T := fun k => match k with
  | _ => ("", "", "", false)
def tyJ6 : Nat → FieldType := fun k => match k with
  | _ => .int
abbrev cJ6_bitCount_0f7a4 : ByteArray := prog_11_method_49_code
def yJ6_bitCount_0f7a4 : MethodName := ⟨RJ6, "bitCount", "(I)I"⟩
def RJ9 : String := "java/lang/Math"
def TJ9 : u_T := fun k => match k with
  | _ => ("", "", "", false)
def tyJ9 : Nat → FieldType := fun k => match k with
  | _ => .int
abbrev cJ9_max_7cf53 : ByteArray := prog_12_method_65_code
def yJ9_max_7cf53 : MethodName := ⟨RJ9, "max", "(II)I"⟩
abbrev cJ9_min_7cf53 : ByteArray := prog_12_method_69_code
def yJ9_min_7cf53 : MethodName := ⟨RJ9, "min", "(II)I"⟩
def RJ0 : String := "java/lang/String"
def TJ0 : u_T := fun k => match k with
  | _ => ("", "", "", false)
def tyJ0 : Nat → FieldType := fun k => match k with
  | _ => .int
abbrev wsJ00 : List Cond := u_ws RJ0 TJ0 0
theorem nmJ0 : ∀ a, a < 0 → ∀ b, b < 0 → a ≠ b → (TJ0 a).2.1 ≠ (TJ0 b).2.1 := by decide +kernel
theorem tyJ0_ok : ∀ k, k < 0 → parseFieldDescriptor (TJ0 k).2.2.1 = some (tyJ0 k) := by decide +kernel
abbrev cJ0_length_8abf5 : ByteArray := prog_13_method_54_code
def yJ0_length_8abf5 : MethodName := ⟨RJ0, "length", "()I"⟩
abbrev cJ0_charAt_5068e : ByteArray := prog_13_method_56_code
def yJ0_charAt_5068e : MethodName := ⟨RJ0, "charAt", "(I)C"⟩
abbrev cJ0_indexOf_0f7a4 : ByteArray := prog_13_method_79_code
def yJ0_indexOf_0f7a4 : MethodName := ⟨RJ0, "indexOf", "(I)I"⟩
abbrev cJ0_indexOf_7cf53 : ByteArray := prog_13_method_80_code
def yJ0_indexOf_7cf53 : MethodName := ⟨RJ0, "indexOf", "(II)I"⟩
abbrev cJ0_coder_7d493 : ByteArray := prog_13_method_152_code
def yJ0_coder_7d493 : MethodName := ⟨RJ0, "coder", "()B"⟩
abbrev cJ0_isLatin1_aae02 : ByteArray := prog_13_method_154_code
def yJ0_isLatin1_aae02 : MethodName := ⟨RJ0, "isLatin1", "()Z"⟩
abbrev cJ0_checkIndex_df160 : ByteArray := prog_13_method_155_code
def yJ0_checkIndex_df160 : MethodName := ⟨RJ0, "checkIndex", "(II)V"⟩
abbrev cJ0_checkBoundsBeginEnd_23922 : ByteArray := prog_13_method_158_code
def yJ0_checkBoundsBeginEnd_23922 : MethodName := ⟨RJ0, "checkBoundsBeginEnd", "(III)V"⟩
def RJ1 : String := "java/lang/StringLatin1"
def TJ1 : u_T := fun k => match k with
  | _ => ("", "", "", false)
def tyJ1 : Nat → FieldType := fun k => match k with
  | _ => .int
abbrev cJ1_charAt_3b067 : ByteArray := prog_14_method_2_code
def yJ1_charAt_3b067 : MethodName := ⟨RJ1, "charAt", "([BI)C"⟩
abbrev cJ1_canEncode_9a6ad : ByteArray := prog_14_method_4_code
def yJ1_canEncode_9a6ad : MethodName := ⟨RJ1, "canEncode", "(I)Z"⟩
abbrev cJ1_indexOf_4cfef : ByteArray := prog_14_method_22_code
def yJ1_indexOf_4cfef : MethodName := ⟨RJ1, "indexOf", "([BIII)I"⟩
abbrev cJ1_indexOfChar_4cfef : ByteArray := prog_14_method_23_code
def yJ1_indexOfChar_4cfef : MethodName := ⟨RJ1, "indexOfChar", "([BIII)I"⟩
def RJ2 : String := "java/lang/StringUTF16"
def TJ2 : u_T := fun k => match k with
  | _ => ("", "", "", false)
def tyJ2 : Nat → FieldType := fun k => match k with
  | _ => .int
abbrev cJ2_getChar_3b067 : ByteArray := prog_15_method_5_code
def yJ2_getChar_3b067 : MethodName := ⟨RJ2, "getChar", "([BI)C"⟩
abbrev cJ2_length_9d52b : ByteArray := prog_15_method_6_code
def yJ2_length_9d52b : MethodName := ⟨RJ2, "length", "([B)I"⟩
abbrev cJ2_indexOf_4cfef : ByteArray := prog_15_method_40_code
def yJ2_indexOf_4cfef : MethodName := ⟨RJ2, "indexOf", "([BIII)I"⟩
abbrev cJ2_indexOfChar_4cfef : ByteArray := prog_15_method_47_code
def yJ2_indexOfChar_4cfef : MethodName := ⟨RJ2, "indexOfChar", "([BIII)I"⟩
abbrev cJ2_indexOfCharUnsafe_4cfef : ByteArray := prog_15_method_48_code
def yJ2_indexOfCharUnsafe_4cfef : MethodName := ⟨RJ2, "indexOfCharUnsafe", "([BIII)I"⟩
abbrev cJ2_indexOfSupplementary_4cfef : ByteArray := prog_15_method_49_code
def yJ2_indexOfSupplementary_4cfef : MethodName := ⟨RJ2, "indexOfSupplementary", "([BIII)I"⟩
abbrev cJ2_charAt_3b067 : ByteArray := prog_15_method_83_code
def yJ2_charAt_3b067 : MethodName := ⟨RJ2, "charAt", "([BI)C"⟩
abbrev cJ2_checkIndex_2214a : ByteArray := prog_15_method_91_code
def yJ2_checkIndex_2214a : MethodName := ⟨RJ2, "checkIndex", "(I[B)V"⟩
abbrev cJ2_checkBoundsBeginEnd_d044e : ByteArray := prog_15_method_93_code
def yJ2_checkBoundsBeginEnd_d044e : MethodName := ⟨RJ2, "checkBoundsBeginEnd", "(II[B)V"⟩
def RJ10 : String := "java/lang/System"
def TJ10 : u_T := fun k => match k with
  | _ => ("", "", "", false)
def tyJ10 : Nat → FieldType := fun k => match k with
  | _ => .int
def RJ3 : String := "jdk/internal/util/Preconditions"
def TJ3 : u_T := fun k => match k with
  | _ => ("", "", "", false)
def tyJ3 : Nat → FieldType := fun k => match k with
  | _ => .int
abbrev cJ3_checkIndex_8e157 : ByteArray := prog_17_method_11_code
def yJ3_checkIndex_8e157 : MethodName := ⟨RJ3, "checkIndex", "(IILjava/util/function/BiFunction;)I"⟩
abbrev cJ3_checkFromToIndex_8c36e : ByteArray := prog_17_method_12_code
def yJ3_checkFromToIndex_8c36e : MethodName := ⟨RJ3, "checkFromToIndex", "(IIILjava/util/function/BiFunction;)I"⟩
def RL : String := "ValuesGoLaw"
abbrev cL_law : ByteArray := code
def yL_law : MethodName := ⟨RL, "law", "([I)Z"⟩
end
