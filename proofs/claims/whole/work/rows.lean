section
-- ===== PART A: goes FIRST, ahead of the names: the tables' words, and 'selects' of the private methods out of them =====
/-- a private method of a class that the tables say can be made, by its rows of tables_1 -/
def lw_okq (q : MethodName × Nat) : Prop := (q.1.cls ≠ "java/lang/invoke/MethodHandle" ∧ q.1.cls ≠ "java/lang/invoke/VarHandle") ∧ Cond.instantiable q.1.cls q.2 ∈ tables_1 ∧ Cond.privateMethod q.1 ∈ tables_1 ∧ Cond.instanceMethod q.1 ∈ tables_1
theorem lw_p0 : lw_okq (⟨"HomingNets$Text", "readItem", "(ILHomingNets$Net;)Z"⟩, 2) := ⟨⟨by decide +kernel, by decide +kernel⟩, List.mem_of_getElem? (i := 25) (by decide +kernel), List.mem_of_getElem? (i := 187) (by decide +kernel), List.mem_of_getElem? (i := 188) (by decide +kernel)⟩
theorem lw_p1 : lw_okq (⟨"HomingNets$Text", "figureAt", "(I)I"⟩, 2) := ⟨⟨by decide +kernel, by decide +kernel⟩, List.mem_of_getElem? (i := 25) (by decide +kernel), List.mem_of_getElem? (i := 191) (by decide +kernel), List.mem_of_getElem? (i := 192) (by decide +kernel)⟩
theorem lw_p2 : lw_okq (⟨"HomingNets$Text", "letterAt", "(I)I"⟩, 2) := ⟨⟨by decide +kernel, by decide +kernel⟩, List.mem_of_getElem? (i := 25) (by decide +kernel), List.mem_of_getElem? (i := 195) (by decide +kernel), List.mem_of_getElem? (i := 196) (by decide +kernel)⟩
theorem lw_p3 : lw_okq (⟨"HomingNets$Net", "isLinked", "(II)Z"⟩, 8) := ⟨⟨by decide +kernel, by decide +kernel⟩, List.mem_of_getElem? (i := 39) (by decide +kernel), List.mem_of_getElem? (i := 215) (by decide +kernel), List.mem_of_getElem? (i := 216) (by decide +kernel)⟩
theorem lw_p4 : lw_okq (⟨"HomingNets", "takeDraft", "()V"⟩, 7) := ⟨⟨by decide +kernel, by decide +kernel⟩, List.mem_of_getElem? (i := 17) (by decide +kernel), List.mem_of_getElem? (i := 236) (by decide +kernel), List.mem_of_getElem? (i := 237) (by decide +kernel)⟩
theorem lw_p5 : lw_okq (⟨"HomingNets", "change", "(I)V"⟩, 7) := ⟨⟨by decide +kernel, by decide +kernel⟩, List.mem_of_getElem? (i := 17) (by decide +kernel), List.mem_of_getElem? (i := 321) (by decide +kernel), List.mem_of_getElem? (i := 322) (by decide +kernel)⟩
theorem lw_p6 : lw_okq (⟨"HomingNets$Past", "forgetOldest", "()V"⟩, 3) := ⟨⟨by decide +kernel, by decide +kernel⟩, List.mem_of_getElem? (i := 111) (by decide +kernel), List.mem_of_getElem? (i := 329) (by decide +kernel), List.mem_of_getElem? (i := 330) (by decide +kernel)⟩
theorem lw_p7 : lw_okq (⟨"HomingNets$Net", "aheadOf", "(I)I"⟩, 8) := ⟨⟨by decide +kernel, by decide +kernel⟩, List.mem_of_getElem? (i := 39) (by decide +kernel), List.mem_of_getElem? (i := 355) (by decide +kernel), List.mem_of_getElem? (i := 356) (by decide +kernel)⟩
theorem lw_p8 : lw_okq (⟨"HomingNets$Net", "counterWants", "(II)I"⟩, 8) := ⟨⟨by decide +kernel, by decide +kernel⟩, List.mem_of_getElem? (i := 39) (by decide +kernel), List.mem_of_getElem? (i := 371) (by decide +kernel), List.mem_of_getElem? (i := 372) (by decide +kernel)⟩
theorem lw_p9 : lw_okq (⟨"HomingNets$Net", "pointerWants", "(II)I"⟩, 8) := ⟨⟨by decide +kernel, by decide +kernel⟩, List.mem_of_getElem? (i := 39) (by decide +kernel), List.mem_of_getElem? (i := 375) (by decide +kernel), List.mem_of_getElem? (i := 376) (by decide +kernel)⟩
theorem lw_p10 : lw_okq (⟨"HomingNets$Net", "lowestLinkedWith", "(III)I"⟩, 8) := ⟨⟨by decide +kernel, by decide +kernel⟩, List.mem_of_getElem? (i := 39) (by decide +kernel), List.mem_of_getElem? (i := 379) (by decide +kernel), List.mem_of_getElem? (i := 380) (by decide +kernel)⟩
theorem lw_p11 : lw_okq (⟨"HomingNets$Net", "distanceWants", "(II)I"⟩, 8) := ⟨⟨by decide +kernel, by decide +kernel⟩, List.mem_of_getElem? (i := 39) (by decide +kernel), List.mem_of_getElem? (i := 383) (by decide +kernel), List.mem_of_getElem? (i := 384) (by decide +kernel)⟩
theorem lw_p12 : lw_okq (⟨"HomingNets$Net", "colourWants", "(II)I"⟩, 8) := ⟨⟨by decide +kernel, by decide +kernel⟩, List.mem_of_getElem? (i := 39) (by decide +kernel), List.mem_of_getElem? (i := 390) (by decide +kernel), List.mem_of_getElem? (i := 391) (by decide +kernel)⟩
theorem lw_p13 : lw_okq (⟨"HomingNets$Survey", "noteMoves", "(LHomingNets$Net;I)V"⟩, 8) := ⟨⟨by decide +kernel, by decide +kernel⟩, List.mem_of_getElem? (i := 80) (by decide +kernel), List.mem_of_getElem? (i := 471) (by decide +kernel), List.mem_of_getElem? (i := 472) (by decide +kernel)⟩
theorem lw_p14 : lw_okq (⟨"HomingNets$Survey", "spread", "(LHomingNets$Net;[II)V"⟩, 8) := ⟨⟨by decide +kernel, by decide +kernel⟩, List.mem_of_getElem? (i := 80) (by decide +kernel), List.mem_of_getElem? (i := 478) (by decide +kernel), List.mem_of_getElem? (i := 479) (by decide +kernel)⟩
theorem lw_p15 : lw_okq (⟨"HomingNets$Survey", "spreadBy", "(LHomingNets$Net;[IIIII)I"⟩, 8) := ⟨⟨by decide +kernel, by decide +kernel⟩, List.mem_of_getElem? (i := 80) (by decide +kernel), List.mem_of_getElem? (i := 483) (by decide +kernel), List.mem_of_getElem? (i := 484) (by decide +kernel)⟩
def lw_privs_1 : List (MethodName × Nat) := [(⟨"HomingNets$Text", "readItem", "(ILHomingNets$Net;)Z"⟩, 2), (⟨"HomingNets$Text", "figureAt", "(I)I"⟩, 2), (⟨"HomingNets$Text", "letterAt", "(I)I"⟩, 2), (⟨"HomingNets$Net", "isLinked", "(II)Z"⟩, 8), (⟨"HomingNets", "takeDraft", "()V"⟩, 7), (⟨"HomingNets", "change", "(I)V"⟩, 7), (⟨"HomingNets$Past", "forgetOldest", "()V"⟩, 3), (⟨"HomingNets$Net", "aheadOf", "(I)I"⟩, 8), (⟨"HomingNets$Net", "counterWants", "(II)I"⟩, 8), (⟨"HomingNets$Net", "pointerWants", "(II)I"⟩, 8), (⟨"HomingNets$Net", "lowestLinkedWith", "(III)I"⟩, 8), (⟨"HomingNets$Net", "distanceWants", "(II)I"⟩, 8), (⟨"HomingNets$Net", "colourWants", "(II)I"⟩, 8), (⟨"HomingNets$Survey", "noteMoves", "(LHomingNets$Net;I)V"⟩, 8), (⟨"HomingNets$Survey", "spread", "(LHomingNets$Net;[II)V"⟩, 8), (⟨"HomingNets$Survey", "spreadBy", "(LHomingNets$Net;[IIIII)I"⟩, 8)]
theorem lw_r1 : ∀ q ∈ lw_privs_1, lw_okq q := List.forall_mem_cons.mpr ⟨lw_p0, List.forall_mem_cons.mpr ⟨lw_p1, List.forall_mem_cons.mpr ⟨lw_p2, List.forall_mem_cons.mpr ⟨lw_p3, List.forall_mem_cons.mpr ⟨lw_p4, List.forall_mem_cons.mpr ⟨lw_p5, List.forall_mem_cons.mpr ⟨lw_p6, List.forall_mem_cons.mpr ⟨lw_p7, List.forall_mem_cons.mpr ⟨lw_p8, List.forall_mem_cons.mpr ⟨lw_p9, List.forall_mem_cons.mpr ⟨lw_p10, List.forall_mem_cons.mpr ⟨lw_p11, List.forall_mem_cons.mpr ⟨lw_p12, List.forall_mem_cons.mpr ⟨lw_p13, List.forall_mem_cons.mpr ⟨lw_p14, List.forall_mem_cons.mpr ⟨lw_p15, fun _ h => absurd h List.not_mem_nil⟩⟩⟩⟩⟩⟩⟩⟩⟩⟩⟩⟩⟩⟩⟩⟩
theorem lw_p16 : lw_okq (⟨"HomingNets$Survey", "reaches", "(IIII)Z"⟩, 8) := ⟨⟨by decide +kernel, by decide +kernel⟩, List.mem_of_getElem? (i := 80) (by decide +kernel), List.mem_of_getElem? (i := 488) (by decide +kernel), List.mem_of_getElem? (i := 489) (by decide +kernel)⟩
theorem lw_p17 : lw_okq (⟨"HomingNets$Survey", "wantedBy", "(II)I"⟩, 8) := ⟨⟨by decide +kernel, by decide +kernel⟩, List.mem_of_getElem? (i := 80) (by decide +kernel), List.mem_of_getElem? (i := 492) (by decide +kernel), List.mem_of_getElem? (i := 493) (by decide +kernel)⟩
theorem lw_p18 : lw_okq (⟨"HomingNets", "moversOf", "(IIII)I"⟩, 7) := ⟨⟨by decide +kernel, by decide +kernel⟩, List.mem_of_getElem? (i := 17) (by decide +kernel), List.mem_of_getElem? (i := 502) (by decide +kernel), List.mem_of_getElem? (i := 503) (by decide +kernel)⟩
theorem lw_p19 : lw_okq (⟨"HomingNets", "cruellest", "(II)I"⟩, 7) := ⟨⟨by decide +kernel, by decide +kernel⟩, List.mem_of_getElem? (i := 17) (by decide +kernel), List.mem_of_getElem? (i := 513) (by decide +kernel), List.mem_of_getElem? (i := 514) (by decide +kernel)⟩
theorem lw_p20 : lw_okq (⟨"HomingNets$Survey", "countOf", "([II)I"⟩, 8) := ⟨⟨by decide +kernel, by decide +kernel⟩, List.mem_of_getElem? (i := 80) (by decide +kernel), List.mem_of_getElem? (i := 586) (by decide +kernel), List.mem_of_getElem? (i := 587) (by decide +kernel)⟩
theorem lw_p21 : lw_okq (⟨"HomingNets$Survey", "greatestOf", "([I)I"⟩, 8) := ⟨⟨by decide +kernel, by decide +kernel⟩, List.mem_of_getElem? (i := 80) (by decide +kernel), List.mem_of_getElem? (i := 598) (by decide +kernel), List.mem_of_getElem? (i := 599) (by decide +kernel)⟩
theorem lw_p22 : lw_okq (⟨"HomingNets$Survey", "movesOutOf", "(LHomingNets$Net;I)I"⟩, 8) := ⟨⟨by decide +kernel, by decide +kernel⟩, List.mem_of_getElem? (i := 80) (by decide +kernel), List.mem_of_getElem? (i := 613) (by decide +kernel), List.mem_of_getElem? (i := 614) (by decide +kernel)⟩
theorem lw_p23 : lw_okq (⟨"HomingNets$Survey", "isWithin", "(II)Z"⟩, 8) := ⟨⟨by decide +kernel, by decide +kernel⟩, List.mem_of_getElem? (i := 80) (by decide +kernel), List.mem_of_getElem? (i := 634) (by decide +kernel), List.mem_of_getElem? (i := 635) (by decide +kernel)⟩
theorem lw_p24 : lw_okq (⟨"HomingNetsModel", "begins", "()V"⟩, 27) := ⟨⟨by decide +kernel, by decide +kernel⟩, List.mem_of_getElem? (i := 648) (by decide +kernel), List.mem_of_getElem? (i := 654) (by decide +kernel), List.mem_of_getElem? (i := 655) (by decide +kernel)⟩
theorem lw_p25 : lw_okq (⟨"HomingNetsModel", "reads", "()I"⟩, 27) := ⟨⟨by decide +kernel, by decide +kernel⟩, List.mem_of_getElem? (i := 648) (by decide +kernel), List.mem_of_getElem? (i := 752) (by decide +kernel), List.mem_of_getElem? (i := 753) (by decide +kernel)⟩
theorem lw_p26 : lw_okq (⟨"HomingNetsModel", "readsItem", "(II)I"⟩, 27) := ⟨⟨by decide +kernel, by decide +kernel⟩, List.mem_of_getElem? (i := 648) (by decide +kernel), List.mem_of_getElem? (i := 756) (by decide +kernel), List.mem_of_getElem? (i := 757) (by decide +kernel)⟩
theorem lw_p27 : lw_okq (⟨"HomingNetsModel", "readsNet", "(I)Z"⟩, 27) := ⟨⟨by decide +kernel, by decide +kernel⟩, List.mem_of_getElem? (i := 648) (by decide +kernel), List.mem_of_getElem? (i := 760) (by decide +kernel), List.mem_of_getElem? (i := 761) (by decide +kernel)⟩
theorem lw_p28 : lw_okq (⟨"HomingNetsModel", "figure", "(I)I"⟩, 27) := ⟨⟨by decide +kernel, by decide +kernel⟩, List.mem_of_getElem? (i := 648) (by decide +kernel), List.mem_of_getElem? (i := 764) (by decide +kernel), List.mem_of_getElem? (i := 765) (by decide +kernel)⟩
theorem lw_p29 : lw_okq (⟨"HomingNetsModel", "letterAt", "(I)I"⟩, 27) := ⟨⟨by decide +kernel, by decide +kernel⟩, List.mem_of_getElem? (i := 648) (by decide +kernel), List.mem_of_getElem? (i := 768) (by decide +kernel), List.mem_of_getElem? (i := 769) (by decide +kernel)⟩
theorem lw_p30 : lw_okq (⟨"HomingNetsModel", "isMachine", "(I)Z"⟩, 27) := ⟨⟨by decide +kernel, by decide +kernel⟩, List.mem_of_getElem? (i := 648) (by decide +kernel), List.mem_of_getElem? (i := 783) (by decide +kernel), List.mem_of_getElem? (i := 784) (by decide +kernel)⟩
theorem lw_p31 : lw_okq (⟨"HomingNetsModel", "keeps", "()V"⟩, 27) := ⟨⟨by decide +kernel, by decide +kernel⟩, List.mem_of_getElem? (i := 648) (by decide +kernel), List.mem_of_getElem? (i := 791) (by decide +kernel), List.mem_of_getElem? (i := 792) (by decide +kernel)⟩
def lw_privs_2 : List (MethodName × Nat) := [(⟨"HomingNets$Survey", "reaches", "(IIII)Z"⟩, 8), (⟨"HomingNets$Survey", "wantedBy", "(II)I"⟩, 8), (⟨"HomingNets", "moversOf", "(IIII)I"⟩, 7), (⟨"HomingNets", "cruellest", "(II)I"⟩, 7), (⟨"HomingNets$Survey", "countOf", "([II)I"⟩, 8), (⟨"HomingNets$Survey", "greatestOf", "([I)I"⟩, 8), (⟨"HomingNets$Survey", "movesOutOf", "(LHomingNets$Net;I)I"⟩, 8), (⟨"HomingNets$Survey", "isWithin", "(II)Z"⟩, 8), (⟨"HomingNetsModel", "begins", "()V"⟩, 27), (⟨"HomingNetsModel", "reads", "()I"⟩, 27), (⟨"HomingNetsModel", "readsItem", "(II)I"⟩, 27), (⟨"HomingNetsModel", "readsNet", "(I)Z"⟩, 27), (⟨"HomingNetsModel", "figure", "(I)I"⟩, 27), (⟨"HomingNetsModel", "letterAt", "(I)I"⟩, 27), (⟨"HomingNetsModel", "isMachine", "(I)Z"⟩, 27), (⟨"HomingNetsModel", "keeps", "()V"⟩, 27)]
theorem lw_r2 : ∀ q ∈ lw_privs_2, lw_okq q := List.forall_mem_cons.mpr ⟨lw_p16, List.forall_mem_cons.mpr ⟨lw_p17, List.forall_mem_cons.mpr ⟨lw_p18, List.forall_mem_cons.mpr ⟨lw_p19, List.forall_mem_cons.mpr ⟨lw_p20, List.forall_mem_cons.mpr ⟨lw_p21, List.forall_mem_cons.mpr ⟨lw_p22, List.forall_mem_cons.mpr ⟨lw_p23, List.forall_mem_cons.mpr ⟨lw_p24, List.forall_mem_cons.mpr ⟨lw_p25, List.forall_mem_cons.mpr ⟨lw_p26, List.forall_mem_cons.mpr ⟨lw_p27, List.forall_mem_cons.mpr ⟨lw_p28, List.forall_mem_cons.mpr ⟨lw_p29, List.forall_mem_cons.mpr ⟨lw_p30, List.forall_mem_cons.mpr ⟨lw_p31, fun _ h => absurd h List.not_mem_nil⟩⟩⟩⟩⟩⟩⟩⟩⟩⟩⟩⟩⟩⟩⟩⟩
theorem lw_p32 : lw_okq (⟨"HomingNetsModel", "rowNow", "()V"⟩, 27) := ⟨⟨by decide +kernel, by decide +kernel⟩, List.mem_of_getElem? (i := 648) (by decide +kernel), List.mem_of_getElem? (i := 795) (by decide +kernel), List.mem_of_getElem? (i := 796) (by decide +kernel)⟩
theorem lw_p33 : lw_okq (⟨"HomingNetsModel", "codeOf", "()I"⟩, 27) := ⟨⟨by decide +kernel, by decide +kernel⟩, List.mem_of_getElem? (i := 648) (by decide +kernel), List.mem_of_getElem? (i := 799) (by decide +kernel), List.mem_of_getElem? (i := 800) (by decide +kernel)⟩
theorem lw_p34 : lw_okq (⟨"HomingNetsModel", "valuesOf", "(I)V"⟩, 27) := ⟨⟨by decide +kernel, by decide +kernel⟩, List.mem_of_getElem? (i := 648) (by decide +kernel), List.mem_of_getElem? (i := 812) (by decide +kernel), List.mem_of_getElem? (i := 813) (by decide +kernel)⟩
theorem lw_p35 : lw_okq (⟨"HomingNetsModel", "rowOf", "(I)V"⟩, 27) := ⟨⟨by decide +kernel, by decide +kernel⟩, List.mem_of_getElem? (i := 648) (by decide +kernel), List.mem_of_getElem? (i := 816) (by decide +kernel), List.mem_of_getElem? (i := 817) (by decide +kernel)⟩
theorem lw_p36 : lw_okq (⟨"HomingNetsModel", "becomesOf", "(I)I"⟩, 27) := ⟨⟨by decide +kernel, by decide +kernel⟩, List.mem_of_getElem? (i := 648) (by decide +kernel), List.mem_of_getElem? (i := 828) (by decide +kernel), List.mem_of_getElem? (i := 829) (by decide +kernel)⟩
theorem lw_p37 : lw_okq (⟨"HomingNetsModel", "counters", "(I)I"⟩, 27) := ⟨⟨by decide +kernel, by decide +kernel⟩, List.mem_of_getElem? (i := 648) (by decide +kernel), List.mem_of_getElem? (i := 832) (by decide +kernel), List.mem_of_getElem? (i := 833) (by decide +kernel)⟩
theorem lw_p38 : lw_okq (⟨"HomingNetsModel", "pointers", "(I)I"⟩, 27) := ⟨⟨by decide +kernel, by decide +kernel⟩, List.mem_of_getElem? (i := 648) (by decide +kernel), List.mem_of_getElem? (i := 836) (by decide +kernel), List.mem_of_getElem? (i := 837) (by decide +kernel)⟩
theorem lw_p39 : lw_okq (⟨"HomingNetsModel", "isWired", "(II)Z"⟩, 27) := ⟨⟨by decide +kernel, by decide +kernel⟩, List.mem_of_getElem? (i := 648) (by decide +kernel), List.mem_of_getElem? (i := 840) (by decide +kernel), List.mem_of_getElem? (i := 841) (by decide +kernel)⟩
theorem lw_p40 : lw_okq (⟨"HomingNetsModel", "lowest", "(II)I"⟩, 27) := ⟨⟨by decide +kernel, by decide +kernel⟩, List.mem_of_getElem? (i := 648) (by decide +kernel), List.mem_of_getElem? (i := 844) (by decide +kernel), List.mem_of_getElem? (i := 845) (by decide +kernel)⟩
theorem lw_p41 : lw_okq (⟨"HomingNetsModel", "distances", "(I)I"⟩, 27) := ⟨⟨by decide +kernel, by decide +kernel⟩, List.mem_of_getElem? (i := 648) (by decide +kernel), List.mem_of_getElem? (i := 848) (by decide +kernel), List.mem_of_getElem? (i := 849) (by decide +kernel)⟩
theorem lw_p42 : lw_okq (⟨"HomingNetsModel", "colours", "(I)I"⟩, 27) := ⟨⟨by decide +kernel, by decide +kernel⟩, List.mem_of_getElem? (i := 648) (by decide +kernel), List.mem_of_getElem? (i := 852) (by decide +kernel), List.mem_of_getElem? (i := 853) (by decide +kernel)⟩
theorem lw_p43 : lw_okq (⟨"HomingNetsModel", "tokensOf", "()I"⟩, 27) := ⟨⟨by decide +kernel, by decide +kernel⟩, List.mem_of_getElem? (i := 648) (by decide +kernel), List.mem_of_getElem? (i := 868) (by decide +kernel), List.mem_of_getElem? (i := 869) (by decide +kernel)⟩
theorem lw_p44 : lw_okq (⟨"HomingNetsModel", "isLegal", "()Z"⟩, 27) := ⟨⟨by decide +kernel, by decide +kernel⟩, List.mem_of_getElem? (i := 648) (by decide +kernel), List.mem_of_getElem? (i := 876) (by decide +kernel), List.mem_of_getElem? (i := 877) (by decide +kernel)⟩
theorem lw_p45 : lw_okq (⟨"HomingNetsModel", "measures", "()V"⟩, 27) := ⟨⟨by decide +kernel, by decide +kernel⟩, List.mem_of_getElem? (i := 648) (by decide +kernel), List.mem_of_getElem? (i := 892) (by decide +kernel), List.mem_of_getElem? (i := 893) (by decide +kernel)⟩
theorem lw_p46 : lw_okq (⟨"HomingNetsModel", "worsts", "()V"⟩, 27) := ⟨⟨by decide +kernel, by decide +kernel⟩, List.mem_of_getElem? (i := 648) (by decide +kernel), List.mem_of_getElem? (i := 896) (by decide +kernel), List.mem_of_getElem? (i := 897) (by decide +kernel)⟩
theorem lw_p47 : lw_okq (⟨"HomingNetsModel", "worstBehind", "()I"⟩, 27) := ⟨⟨by decide +kernel, by decide +kernel⟩, List.mem_of_getElem? (i := 648) (by decide +kernel), List.mem_of_getElem? (i := 900) (by decide +kernel), List.mem_of_getElem? (i := 901) (by decide +kernel)⟩
def lw_privs_3 : List (MethodName × Nat) := [(⟨"HomingNetsModel", "rowNow", "()V"⟩, 27), (⟨"HomingNetsModel", "codeOf", "()I"⟩, 27), (⟨"HomingNetsModel", "valuesOf", "(I)V"⟩, 27), (⟨"HomingNetsModel", "rowOf", "(I)V"⟩, 27), (⟨"HomingNetsModel", "becomesOf", "(I)I"⟩, 27), (⟨"HomingNetsModel", "counters", "(I)I"⟩, 27), (⟨"HomingNetsModel", "pointers", "(I)I"⟩, 27), (⟨"HomingNetsModel", "isWired", "(II)Z"⟩, 27), (⟨"HomingNetsModel", "lowest", "(II)I"⟩, 27), (⟨"HomingNetsModel", "distances", "(I)I"⟩, 27), (⟨"HomingNetsModel", "colours", "(I)I"⟩, 27), (⟨"HomingNetsModel", "tokensOf", "()I"⟩, 27), (⟨"HomingNetsModel", "isLegal", "()Z"⟩, 27), (⟨"HomingNetsModel", "measures", "()V"⟩, 27), (⟨"HomingNetsModel", "worsts", "()V"⟩, 27), (⟨"HomingNetsModel", "worstBehind", "()I"⟩, 27)]
theorem lw_r3 : ∀ q ∈ lw_privs_3, lw_okq q := List.forall_mem_cons.mpr ⟨lw_p32, List.forall_mem_cons.mpr ⟨lw_p33, List.forall_mem_cons.mpr ⟨lw_p34, List.forall_mem_cons.mpr ⟨lw_p35, List.forall_mem_cons.mpr ⟨lw_p36, List.forall_mem_cons.mpr ⟨lw_p37, List.forall_mem_cons.mpr ⟨lw_p38, List.forall_mem_cons.mpr ⟨lw_p39, List.forall_mem_cons.mpr ⟨lw_p40, List.forall_mem_cons.mpr ⟨lw_p41, List.forall_mem_cons.mpr ⟨lw_p42, List.forall_mem_cons.mpr ⟨lw_p43, List.forall_mem_cons.mpr ⟨lw_p44, List.forall_mem_cons.mpr ⟨lw_p45, List.forall_mem_cons.mpr ⟨lw_p46, List.forall_mem_cons.mpr ⟨lw_p47, fun _ h => absurd h List.not_mem_nil⟩⟩⟩⟩⟩⟩⟩⟩⟩⟩⟩⟩⟩⟩⟩⟩
theorem lw_p48 : lw_okq (⟨"HomingNetsModel", "bests", "()V"⟩, 27) := ⟨⟨by decide +kernel, by decide +kernel⟩, List.mem_of_getElem? (i := 648) (by decide +kernel), List.mem_of_getElem? (i := 904) (by decide +kernel), List.mem_of_getElem? (i := 905) (by decide +kernel)⟩
theorem lw_p49 : lw_okq (⟨"HomingNetsModel", "leadsTo", "(II)Z"⟩, 27) := ⟨⟨by decide +kernel, by decide +kernel⟩, List.mem_of_getElem? (i := 648) (by decide +kernel), List.mem_of_getElem? (i := 908) (by decide +kernel), List.mem_of_getElem? (i := 909) (by decide +kernel)⟩
theorem lw_p50 : lw_okq (⟨"HomingNetsModel", "isHitTo", "(II)Z"⟩, 27) := ⟨⟨by decide +kernel, by decide +kernel⟩, List.mem_of_getElem? (i := 648) (by decide +kernel), List.mem_of_getElem? (i := 912) (by decide +kernel), List.mem_of_getElem? (i := 913) (by decide +kernel)⟩
theorem lw_p51 : lw_okq (⟨"HomingNetsModel", "leaves", "(I)I"⟩, 27) := ⟨⟨by decide +kernel, by decide +kernel⟩, List.mem_of_getElem? (i := 648) (by decide +kernel), List.mem_of_getElem? (i := 920) (by decide +kernel), List.mem_of_getElem? (i := 921) (by decide +kernel)⟩
theorem lw_p52 : lw_okq (⟨"HomingNetsModel", "chooses", "(IIII)I"⟩, 27) := ⟨⟨by decide +kernel, by decide +kernel⟩, List.mem_of_getElem? (i := 648) (by decide +kernel), List.mem_of_getElem? (i := 932) (by decide +kernel), List.mem_of_getElem? (i := 933) (by decide +kernel)⟩
theorem lw_p53 : lw_okq (⟨"HomingNetsModel", "cruel", "()I"⟩, 27) := ⟨⟨by decide +kernel, by decide +kernel⟩, List.mem_of_getElem? (i := 648) (by decide +kernel), List.mem_of_getElem? (i := 936) (by decide +kernel), List.mem_of_getElem? (i := 937) (by decide +kernel)⟩
theorem lw_p54 : lw_okq (⟨"HomingNetsModel", "moves", "(I)V"⟩, 27) := ⟨⟨by decide +kernel, by decide +kernel⟩, List.mem_of_getElem? (i := 648) (by decide +kernel), List.mem_of_getElem? (i := 950) (by decide +kernel), List.mem_of_getElem? (i := 951) (by decide +kernel)⟩
theorem lw_p55 : lw_okq (⟨"HomingNetsModel", "follows", "(II)I"⟩, 27) := ⟨⟨by decide +kernel, by decide +kernel⟩, List.mem_of_getElem? (i := 648) (by decide +kernel), List.mem_of_getElem? (i := 962) (by decide +kernel), List.mem_of_getElem? (i := 963) (by decide +kernel)⟩
def lw_privs_4 : List (MethodName × Nat) := [(⟨"HomingNetsModel", "bests", "()V"⟩, 27), (⟨"HomingNetsModel", "leadsTo", "(II)Z"⟩, 27), (⟨"HomingNetsModel", "isHitTo", "(II)Z"⟩, 27), (⟨"HomingNetsModel", "leaves", "(I)I"⟩, 27), (⟨"HomingNetsModel", "chooses", "(IIII)I"⟩, 27), (⟨"HomingNetsModel", "cruel", "()I"⟩, 27), (⟨"HomingNetsModel", "moves", "(I)V"⟩, 27), (⟨"HomingNetsModel", "follows", "(II)I"⟩, 27)]
theorem lw_r4 : ∀ q ∈ lw_privs_4, lw_okq q := List.forall_mem_cons.mpr ⟨lw_p48, List.forall_mem_cons.mpr ⟨lw_p49, List.forall_mem_cons.mpr ⟨lw_p50, List.forall_mem_cons.mpr ⟨lw_p51, List.forall_mem_cons.mpr ⟨lw_p52, List.forall_mem_cons.mpr ⟨lw_p53, List.forall_mem_cons.mpr ⟨lw_p54, List.forall_mem_cons.mpr ⟨lw_p55, fun _ h => absurd h List.not_mem_nil⟩⟩⟩⟩⟩⟩⟩⟩
def lw_privs : List (MethodName × Nat) := lw_privs_1 ++ (lw_privs_2 ++ (lw_privs_3 ++ (lw_privs_4)))
def lw_tbl : List Cond := k2_sels lw_privs ++ tables_1
theorem lw_privs_ok : ∀ q ∈ lw_privs, lw_okq q := by
  show ∀ q ∈ lw_privs_1 ++ (lw_privs_2 ++ (lw_privs_3 ++ (lw_privs_4))), lw_okq q
  exact List.forall_mem_append.mpr ⟨lw_r1, List.forall_mem_append.mpr ⟨lw_r2, List.forall_mem_append.mpr ⟨lw_r3, lw_r4⟩⟩⟩
end
section
/-! ===== BEGIN words of one list among another's, by their places ===== -/
theorem goodIn_r {big : List Cond} (ws : List Cond) (ps : List Nat) (hp : ws = ps.filterMap (fun i => big[i]?)) (h : ws.all goodWord = true) : GoodIn big ws := by
  intro w hw
  have h1 := List.all_eq_true.mp h w hw
  rw [hp] at hw
  obtain ⟨i, -, hi⟩ := List.mem_filterMap.mp hw
  have hm : w ∈ big := by first | exact List.mem_of_getElem? hi | exact List.getElem?_mem hi
  exact ⟨hm, good_of_word h1⟩
theorem goodIn_app {big a b : List Cond} (ha : GoodIn big a) (hb : GoodIn big b) : GoodIn big (a ++ b) := fun w h => (List.mem_append.mp h).elim (ha w) (hb w)
theorem goodIn_ca {big a b : List Cond} {c : Cond} (ha : GoodIn big (c :: a)) (hb : GoodIn big b) : GoodIn big (c :: (a ++ b)) := fun w h => (List.mem_cons.mp h).elim (fun e => ha w (List.mem_cons.mpr (Or.inl e))) (fun h => (List.mem_append.mp h).elim (fun h => ha w (List.mem_cons.mpr (Or.inr h))) (hb w))
theorem goodIn_sub {big ws : List Cond} (hm : ∀ w ∈ ws, w ∈ big) (h : ws.all goodWord = true) : GoodIn big ws := fun w hw => ⟨hm w hw, good_of_word (List.all_eq_true.mp h w hw)⟩
/-! ===== END ===== -/

/-! ===== BEGIN printed: names, fields, word lists, decode rows ===== -/
def RX0 : String := "HomingNets$Bits"
def TX0 : u_T := fun k => match k with
  | _ => ("", "", "", false)
def tyX0 : Nat → FieldType := fun k => match k with
  | _ => .int
abbrev wsX00 : List Cond := u_ws RX0 TX0 0
theorem nmX0 : ∀ a, a < 0 → ∀ b, b < 0 → a ≠ b → (TX0 a).2.1 ≠ (TX0 b).2.1 := by decide +kernel
theorem tyX0_ok : ∀ k, k < 0 → parseFieldDescriptor (TX0 k).2.2.1 = some (tyX0 k) := by decide +kernel
abbrev cX0_has : ByteArray := prog_2_method_2_code
def yX0_has : MethodName := ⟨RX0, "has", "(II)Z"⟩
abbrev cX0_lowest : ByteArray := prog_2_method_3_code
def yX0_lowest : MethodName := ⟨RX0, "lowest", "(I)I"⟩
abbrev cX0_indexOf : ByteArray := prog_2_method_4_code
def yX0_indexOf : MethodName := ⟨RX0, "indexOf", "(I)I"⟩
abbrev cX0_nextInRing : ByteArray := prog_2_method_5_code
def yX0_nextInRing : MethodName := ⟨RX0, "nextInRing", "(III)I"⟩
abbrev cX0_drawn : ByteArray := prog_2_method_6_code
def yX0_drawn : MethodName := ⟨RX0, "drawn", "(II)I"⟩
def RX1 : String := "HomingNets$Net"
def TX1 : u_T := fun k => match k with
  | 0 => ("HomingNets$Net", "kind", "I", false)
  | 1 => ("HomingNets$Net", "machines", "I", false)
  | 2 => ("HomingNets$Net", "range", "I", false)
  | 3 => ("HomingNets$Net", "states", "I", false)
  | 4 => ("HomingNets$Net", "wires", "I", false)
  | 5 => ("HomingNets$Net", "start", "I", false)
  | 6 => ("HomingNets$Net", "linked", "[I", true)
  | _ => ("HomingNets$Net", "weight", "[I", true)
def tyX1 : Nat → FieldType := fun k => match k with
  | 0 => .int
  | 1 => .int
  | 2 => .int
  | 3 => .int
  | 4 => .int
  | 5 => .int
  | 6 => .array .int
  | _ => .array .int
abbrev wsX10 : List Cond := u_ws RX1 TX1 8
theorem nmX1 : ∀ a, a < 8 → ∀ b, b < 8 → a ≠ b → (TX1 a).2.1 ≠ (TX1 b).2.1 := by decide +kernel
theorem tyX1_ok : ∀ k, k < 8 → parseFieldDescriptor (TX1 k).2.2.1 = some (tyX1 k) := by decide +kernel
abbrev cX1_init : ByteArray := prog_3_method_1_code
def yX1_init : MethodName := ⟨RX1, "<init>", "()V"⟩
abbrev cX1_begin : ByteArray := prog_3_method_2_code
def yX1_begin : MethodName := ⟨RX1, "begin", "(III)Z"⟩
abbrev cX1_addWire : ByteArray := prog_3_method_3_code
def yX1_addWire : MethodName := ⟨RX1, "addWire", "(II)Z"⟩
abbrev cX1_startWith : ByteArray := prog_3_method_4_code
def yX1_startWith : MethodName := ⟨RX1, "startWith", "(II)Z"⟩
abbrev cX1_hasColoursEnough : ByteArray := prog_3_method_5_code
def yX1_hasColoursEnough : MethodName := ⟨RX1, "hasColoursEnough", "()Z"⟩
abbrev cX1_copyFrom : ByteArray := prog_3_method_6_code
def yX1_copyFrom : MethodName := ⟨RX1, "copyFrom", "(LHomingNets$Net;)V"⟩
abbrev cX1_hasMachine : ByteArray := prog_3_method_7_code
def yX1_hasMachine : MethodName := ⟨RX1, "hasMachine", "(I)Z"⟩
abbrev cX1_hasValue : ByteArray := prog_3_method_8_code
def yX1_hasValue : MethodName := ⟨RX1, "hasValue", "(I)Z"⟩
abbrev cX1_hasState : ByteArray := prog_3_method_9_code
def yX1_hasState : MethodName := ⟨RX1, "hasState", "(I)Z"⟩
abbrev cX1_valueAt : ByteArray := prog_3_method_10_code
def yX1_valueAt : MethodName := ⟨RX1, "valueAt", "(II)I"⟩
abbrev cX1_withValue : ByteArray := prog_3_method_11_code
def yX1_withValue : MethodName := ⟨RX1, "withValue", "(III)I"⟩
abbrev cX1_isLinked : ByteArray := prog_3_method_12_code
def yX1_isLinked : MethodName := ⟨RX1, "isLinked", "(II)Z"⟩
abbrev cX1_aheadOf : ByteArray := prog_3_method_13_code
def yX1_aheadOf : MethodName := ⟨RX1, "aheadOf", "(I)I"⟩
abbrev cX1_sees : ByteArray := prog_3_method_14_code
def yX1_sees : MethodName := ⟨RX1, "sees", "(II)Z"⟩
abbrev cX1_wants : ByteArray := prog_3_method_15_code
def yX1_wants : MethodName := ⟨RX1, "wants", "(II)I"⟩
abbrev cX1_counterWants : ByteArray := prog_3_method_16_code
def yX1_counterWants : MethodName := ⟨RX1, "counterWants", "(II)I"⟩
abbrev cX1_pointerWants : ByteArray := prog_3_method_17_code
def yX1_pointerWants : MethodName := ⟨RX1, "pointerWants", "(II)I"⟩
abbrev cX1_distanceWants : ByteArray := prog_3_method_18_code
def yX1_distanceWants : MethodName := ⟨RX1, "distanceWants", "(II)I"⟩
abbrev cX1_colourWants : ByteArray := prog_3_method_19_code
def yX1_colourWants : MethodName := ⟨RX1, "colourWants", "(II)I"⟩
abbrev cX1_lowestLinkedWith : ByteArray := prog_3_method_20_code
def yX1_lowestLinkedWith : MethodName := ⟨RX1, "lowestLinkedWith", "(III)I"⟩
abbrev cX1_ruleOf : ByteArray := prog_3_method_21_code
def yX1_ruleOf : MethodName := ⟨RX1, "ruleOf", "(II)I"⟩
abbrev cX1_whoMay : ByteArray := prog_3_method_22_code
def yX1_whoMay : MethodName := ⟨RX1, "whoMay", "(I)I"⟩
abbrev cX1_isLegal : ByteArray := prog_3_method_23_code
def yX1_isLegal : MethodName := ⟨RX1, "isLegal", "(I)Z"⟩
abbrev cX1_moved : ByteArray := prog_3_method_24_code
def yX1_moved : MethodName := ⟨RX1, "moved", "(II)I"⟩
abbrev cX1_struck : ByteArray := prog_3_method_25_code
def yX1_struck : MethodName := ⟨RX1, "struck", "(II)I"⟩
abbrev cX1_matchOf : ByteArray := prog_3_method_26_code
def yX1_matchOf : MethodName := ⟨RX1, "matchOf", "(II)I"⟩
abbrev cX1_parentOf : ByteArray := prog_3_method_27_code
def yX1_parentOf : MethodName := ⟨RX1, "parentOf", "(II)I"⟩
def RX2 : String := "HomingNets$Past"
def TX2 : u_T := fun k => match k with
  | 0 => ("HomingNets$Past", "states", "[I", true)
  | 1 => ("HomingNets$Past", "movers", "[I", true)
  | _ => ("HomingNets$Past", "many", "I", false)
def tyX2 : Nat → FieldType := fun k => match k with
  | 0 => .array .int
  | 1 => .array .int
  | _ => .int
abbrev wsX20 : List Cond := u_ws RX2 TX2 3
theorem nmX2 : ∀ a, a < 3 → ∀ b, b < 3 → a ≠ b → (TX2 a).2.1 ≠ (TX2 b).2.1 := by decide +kernel
theorem tyX2_ok : ∀ k, k < 3 → parseFieldDescriptor (TX2 k).2.2.1 = some (tyX2 k) := by decide +kernel
abbrev cX2_init : ByteArray := prog_4_method_1_code
def yX2_init : MethodName := ⟨RX2, "<init>", "()V"⟩
abbrev cX2_size : ByteArray := prog_4_method_2_code
def yX2_size : MethodName := ⟨RX2, "size", "()I"⟩
abbrev cX2_clear : ByteArray := prog_4_method_3_code
def yX2_clear : MethodName := ⟨RX2, "clear", "()V"⟩
abbrev cX2_keep : ByteArray := prog_4_method_4_code
def yX2_keep : MethodName := ⟨RX2, "keep", "(II)V"⟩
abbrev cX2_forgetOldest : ByteArray := prog_4_method_5_code
def yX2_forgetOldest : MethodName := ⟨RX2, "forgetOldest", "()V"⟩
abbrev cX2_lastState : ByteArray := prog_4_method_6_code
def yX2_lastState : MethodName := ⟨RX2, "lastState", "()I"⟩
abbrev cX2_lastMover : ByteArray := prog_4_method_7_code
def yX2_lastMover : MethodName := ⟨RX2, "lastMover", "()I"⟩
abbrev cX2_drop : ByteArray := prog_4_method_8_code
def yX2_drop : MethodName := ⟨RX2, "drop", "()V"⟩
def RX3 : String := "HomingNets$Rows"
def TX3 : u_T := fun k => match k with
  | _ => ("", "", "", false)
def tyX3 : Nat → FieldType := fun k => match k with
  | _ => .int
abbrev wsX30 : List Cond := u_ws RX3 TX3 0
theorem nmX3 : ∀ a, a < 0 → ∀ b, b < 0 → a ≠ b → (TX3 a).2.1 ≠ (TX3 b).2.1 := by decide +kernel
theorem tyX3_ok : ∀ k, k < 0 → parseFieldDescriptor (TX3 k).2.2.1 = some (tyX3 k) := by decide +kernel
abbrev cX3_at : ByteArray := prog_5_method_2_code
def yX3_at : MethodName := ⟨RX3, "at", "([II)I"⟩
abbrev cX3_put : ByteArray := prog_5_method_3_code
def yX3_put : MethodName := ⟨RX3, "put", "([III)V"⟩
def RX4 : String := "HomingNets$Survey"
def TX4 : u_T := fun k => match k with
  | 0 => ("HomingNets$Survey", "made", "Z", false)
  | 1 => ("HomingNets$Survey", "states", "I", false)
  | 2 => ("HomingNets$Survey", "wanted", "[I", true)
  | 3 => ("HomingNets$Survey", "movesLeft", "[I", true)
  | 4 => ("HomingNets$Survey", "worst", "[I", true)
  | 5 => ("HomingNets$Survey", "best", "[I", true)
  | 6 => ("HomingNets$Survey", "hits", "[I", true)
  | _ => ("HomingNets$Survey", "spare", "[I", true)
def tyX4 : Nat → FieldType := fun k => match k with
  | 0 => .boolean
  | 1 => .int
  | 2 => .array .int
  | 3 => .array .int
  | 4 => .array .int
  | 5 => .array .int
  | 6 => .array .int
  | _ => .array .int
abbrev wsX40 : List Cond := u_ws RX4 TX4 8
theorem nmX4 : ∀ a, a < 8 → ∀ b, b < 8 → a ≠ b → (TX4 a).2.1 ≠ (TX4 b).2.1 := by decide +kernel
theorem tyX4_ok : ∀ k, k < 8 → parseFieldDescriptor (TX4 k).2.2.1 = some (tyX4 k) := by decide +kernel
abbrev cX4_init : ByteArray := prog_6_method_1_code
def yX4_init : MethodName := ⟨RX4, "<init>", "()V"⟩
abbrev cX4_forget : ByteArray := prog_6_method_2_code
def yX4_forget : MethodName := ⟨RX4, "forget", "()V"⟩
abbrev cX4_make : ByteArray := prog_6_method_3_code
def yX4_make : MethodName := ⟨RX4, "make", "(LHomingNets$Net;)V"⟩
abbrev cX4_noteMoves : ByteArray := prog_6_method_4_code
def yX4_noteMoves : MethodName := ⟨RX4, "noteMoves", "(LHomingNets$Net;I)V"⟩
abbrev cX4_spread : ByteArray := prog_6_method_5_code
def yX4_spread : MethodName := ⟨RX4, "spread", "(LHomingNets$Net;[II)V"⟩
abbrev cX4_spreadBy : ByteArray := prog_6_method_6_code
def yX4_spreadBy : MethodName := ⟨RX4, "spreadBy", "(LHomingNets$Net;[IIIII)I"⟩
abbrev cX4_reaches : ByteArray := prog_6_method_7_code
def yX4_reaches : MethodName := ⟨RX4, "reaches", "(IIII)Z"⟩
abbrev cX4_clearedSpare : ByteArray := prog_6_method_8_code
def yX4_clearedSpare : MethodName := ⟨RX4, "clearedSpare", "()[I"⟩
abbrev cX4_wantedBy : ByteArray := prog_6_method_9_code
def yX4_wantedBy : MethodName := ⟨RX4, "wantedBy", "(II)I"⟩
abbrev cX4_behind : ByteArray := prog_6_method_10_code
def yX4_behind : MethodName := ⟨RX4, "behind", "(LHomingNets$Net;II)I"⟩
abbrev cX4_rankOf : ByteArray := prog_6_method_11_code
def yX4_rankOf : MethodName := ⟨RX4, "rankOf", "(I)I"⟩
abbrev cX4_worstOf : ByteArray := prog_6_method_12_code
def yX4_worstOf : MethodName := ⟨RX4, "worstOf", "(I)I"⟩
abbrev cX4_bestOf : ByteArray := prog_6_method_13_code
def yX4_bestOf : MethodName := ⟨RX4, "bestOf", "(I)I"⟩
abbrev cX4_hitsOf : ByteArray := prog_6_method_14_code
def yX4_hitsOf : MethodName := ⟨RX4, "hitsOf", "(I)I"⟩
abbrev cX4_legalStates : ByteArray := prog_6_method_15_code
def yX4_legalStates : MethodName := ⟨RX4, "legalStates", "()I"⟩
abbrev cX4_endlessStates : ByteArray := prog_6_method_16_code
def yX4_endlessStates : MethodName := ⟨RX4, "endlessStates", "()I"⟩
abbrev cX4_countOf : ByteArray := prog_6_method_17_code
def yX4_countOf : MethodName := ⟨RX4, "countOf", "([II)I"⟩
abbrev cX4_greatestWorst : ByteArray := prog_6_method_18_code
def yX4_greatestWorst : MethodName := ⟨RX4, "greatestWorst", "()I"⟩
abbrev cX4_greatestBest : ByteArray := prog_6_method_19_code
def yX4_greatestBest : MethodName := ⟨RX4, "greatestBest", "()I"⟩
abbrev cX4_greatestOf : ByteArray := prog_6_method_20_code
def yX4_greatestOf : MethodName := ⟨RX4, "greatestOf", "([I)I"⟩
abbrev cX4_lowestOfGreatestWorst : ByteArray := prog_6_method_21_code
def yX4_lowestOfGreatestWorst : MethodName := ⟨RX4, "lowestOfGreatestWorst", "()I"⟩
abbrev cX4_sumOfWorsts : ByteArray := prog_6_method_22_code
def yX4_sumOfWorsts : MethodName := ⟨RX4, "sumOfWorsts", "()I"⟩
abbrev cX4_movesOutOfLegal : ByteArray := prog_6_method_23_code
def yX4_movesOutOfLegal : MethodName := ⟨RX4, "movesOutOfLegal", "(LHomingNets$Net;)I"⟩
abbrev cX4_movesOutOf : ByteArray := prog_6_method_24_code
def yX4_movesOutOf : MethodName := ⟨RX4, "movesOutOf", "(LHomingNets$Net;I)I"⟩
abbrev cX4_statesWithin : ByteArray := prog_6_method_25_code
def yX4_statesWithin : MethodName := ⟨RX4, "statesWithin", "(I)I"⟩
abbrev cX4_greatestWorstWithin : ByteArray := prog_6_method_26_code
def yX4_greatestWorstWithin : MethodName := ⟨RX4, "greatestWorstWithin", "(I)I"⟩
abbrev cX4_isWithin : ByteArray := prog_6_method_27_code
def yX4_isWithin : MethodName := ⟨RX4, "isWithin", "(II)Z"⟩
def RX5 : String := "HomingNets$Text"
def TX5 : u_T := fun k => match k with
  | 0 => ("HomingNets$Text", "letters", "[I", true)
  | _ => ("HomingNets$Text", "many", "I", false)
def tyX5 : Nat → FieldType := fun k => match k with
  | 0 => .array .int
  | _ => .int
abbrev wsX50 : List Cond := u_ws RX5 TX5 2
theorem nmX5 : ∀ a, a < 2 → ∀ b, b < 2 → a ≠ b → (TX5 a).2.1 ≠ (TX5 b).2.1 := by decide +kernel
theorem tyX5_ok : ∀ k, k < 2 → parseFieldDescriptor (TX5 k).2.2.1 = some (tyX5 k) := by decide +kernel
abbrev cX5_init : ByteArray := prog_7_method_1_code
def yX5_init : MethodName := ⟨RX5, "<init>", "()V"⟩
abbrev cX5_length : ByteArray := prog_7_method_2_code
def yX5_length : MethodName := ⟨RX5, "length", "()I"⟩
abbrev cX5_clear : ByteArray := prog_7_method_3_code
def yX5_clear : MethodName := ⟨RX5, "clear", "()V"⟩
abbrev cX5_append : ByteArray := prog_7_method_4_code
def yX5_append : MethodName := ⟨RX5, "append", "(I)Z"⟩
abbrev cX5_readInto : ByteArray := prog_7_method_5_code
def yX5_readInto : MethodName := ⟨RX5, "readInto", "(LHomingNets$Net;)I"⟩
abbrev cX5_readItem : ByteArray := prog_7_method_6_code
def yX5_readItem : MethodName := ⟨RX5, "readItem", "(ILHomingNets$Net;)Z"⟩
abbrev cX5_letterAt : ByteArray := prog_7_method_7_code
def yX5_letterAt : MethodName := ⟨RX5, "letterAt", "(I)I"⟩
abbrev cX5_figureAt : ByteArray := prog_7_method_8_code
def yX5_figureAt : MethodName := ⟨RX5, "figureAt", "(I)I"⟩
def RX6 : String := "HomingNets"
def TX6 : u_T := fun k => match k with
  | 0 => ("HomingNets", "text", "LHomingNets$Text;", true)
  | 1 => ("HomingNets", "net", "LHomingNets$Net;", true)
  | 2 => ("HomingNets", "draft", "LHomingNets$Net;", true)
  | 3 => ("HomingNets", "survey", "LHomingNets$Survey;", true)
  | 4 => ("HomingNets", "past", "LHomingNets$Past;", true)
  | 5 => ("HomingNets", "now", "I", false)
  | _ => ("HomingNets", "lastInRing", "I", false)
def tyX6 : Nat → FieldType := fun k => match k with
  | 0 => .object "HomingNets$Text"
  | 1 => .object "HomingNets$Net"
  | 2 => .object "HomingNets$Net"
  | 3 => .object "HomingNets$Survey"
  | 4 => .object "HomingNets$Past"
  | 5 => .int
  | _ => .int
abbrev wsX60 : List Cond := u_ws RX6 TX6 7
theorem nmX6 : ∀ a, a < 7 → ∀ b, b < 7 → a ≠ b → (TX6 a).2.1 ≠ (TX6 b).2.1 := by decide +kernel
theorem tyX6_ok : ∀ k, k < 7 → parseFieldDescriptor (TX6 k).2.2.1 = some (tyX6 k) := by decide +kernel
abbrev cX6_init : ByteArray := prog_1_method_1_code
def yX6_init : MethodName := ⟨RX6, "<init>", "()V"⟩
abbrev cX6_write : ByteArray := prog_1_method_2_code
def yX6_write : MethodName := ⟨RX6, "write", "(I)I"⟩
abbrev cX6_wipe : ByteArray := prog_1_method_3_code
def yX6_wipe : MethodName := ⟨RX6, "wipe", "()I"⟩
abbrev cX6_fault : ByteArray := prog_1_method_4_code
def yX6_fault : MethodName := ⟨RX6, "fault", "()I"⟩
abbrev cX6_lay : ByteArray := prog_1_method_5_code
def yX6_lay : MethodName := ⟨RX6, "lay", "()I"⟩
abbrev cX6_takeDraft : ByteArray := prog_1_method_6_code
def yX6_takeDraft : MethodName := ⟨RX6, "takeDraft", "()V"⟩
abbrev cX6_value : ByteArray := prog_1_method_7_code
def yX6_value : MethodName := ⟨RX6, "value", "(I)I"⟩
abbrev cX6_hit : ByteArray := prog_1_method_8_code
def yX6_hit : MethodName := ⟨RX6, "hit", "(II)I"⟩
abbrev cX6_code : ByteArray := prog_1_method_9_code
def yX6_code : MethodName := ⟨RX6, "code", "()I"⟩
abbrev cX6_turn : ByteArray := prog_1_method_10_code
def yX6_turn : MethodName := ⟨RX6, "turn", "(I)I"⟩
abbrev cX6_wired : ByteArray := prog_1_method_11_code
def yX6_wired : MethodName := ⟨RX6, "wired", "(II)I"⟩
abbrev cX6_may : ByteArray := prog_1_method_12_code
def yX6_may : MethodName := ⟨RX6, "may", "(I)I"⟩
abbrev cX6_becomes : ByteArray := prog_1_method_13_code
def yX6_becomes : MethodName := ⟨RX6, "becomes", "(I)I"⟩
abbrev cX6_move : ByteArray := prog_1_method_14_code
def yX6_move : MethodName := ⟨RX6, "move", "(I)I"⟩
abbrev cX6_tokens : ByteArray := prog_1_method_15_code
def yX6_tokens : MethodName := ⟨RX6, "tokens", "()I"⟩
abbrev cX6_legal : ByteArray := prog_1_method_16_code
def yX6_legal : MethodName := ⟨RX6, "legal", "()I"⟩
abbrev cX6_mate : ByteArray := prog_1_method_17_code
def yX6_mate : MethodName := ⟨RX6, "mate", "(I)I"⟩
abbrev cX6_undo : ByteArray := prog_1_method_18_code
def yX6_undo : MethodName := ⟨RX6, "undo", "()I"⟩
abbrev cX6_change : ByteArray := prog_1_method_19_code
def yX6_change : MethodName := ⟨RX6, "change", "(I)V"⟩
abbrev cX6_run : ByteArray := prog_1_method_20_code
def yX6_run : MethodName := ⟨RX6, "run", "(III)I"⟩
abbrev cX6_next : ByteArray := prog_1_method_21_code
def yX6_next : MethodName := ⟨RX6, "next", "(I)I"⟩
abbrev cX6_loop : ByteArray := prog_1_method_22_code
def yX6_loop : MethodName := ⟨RX6, "loop", "(II)I"⟩
abbrev cX6_storm : ByteArray := prog_1_method_23_code
def yX6_storm : MethodName := ⟨RX6, "storm", "(IIII)I"⟩
abbrev cX6_drawOf : ByteArray := prog_1_method_24_code
def yX6_drawOf : MethodName := ⟨RX6, "drawOf", "(II)I"⟩
abbrev cX6_moversOf : ByteArray := prog_1_method_25_code
def yX6_moversOf : MethodName := ⟨RX6, "moversOf", "(IIII)I"⟩
abbrev cX6_cruellest : ByteArray := prog_1_method_26_code
def yX6_cruellest : MethodName := ⟨RX6, "cruellest", "(II)I"⟩
abbrev cX6_lastBehind : ByteArray := prog_1_method_27_code
def yX6_lastBehind : MethodName := ⟨RX6, "lastBehind", "(III)I"⟩
abbrev cX6_state : ByteArray := prog_1_method_28_code
def yX6_state : MethodName := ⟨RX6, "state", "(II)I"⟩
abbrev cX6_all : ByteArray := prog_1_method_29_code
def yX6_all : MethodName := ⟨RX6, "all", "(I)I"⟩
abbrev cX6_within : ByteArray := prog_1_method_30_code
def yX6_within : MethodName := ⟨RX6, "within", "(II)I"⟩
abbrev cX6_count : ByteArray := prog_1_method_31_code
def yX6_count : MethodName := ⟨RX6, "count", "(I)I"⟩
def RX7 : String := "HomingNetsModel"
def TX7 : u_T := fun k => match k with
  | 0 => ("HomingNetsModel", "length", "I", false)
  | 1 => ("HomingNetsModel", "text", "[I", true)
  | 2 => ("HomingNetsModel", "sort", "I", false)
  | 3 => ("HomingNetsModel", "many", "I", false)
  | 4 => ("HomingNetsModel", "wide", "I", false)
  | 5 => ("HomingNetsModel", "states", "I", false)
  | 6 => ("HomingNetsModel", "wires", "I", false)
  | 7 => ("HomingNetsModel", "wiredRow", "[I", true)
  | 8 => ("HomingNetsModel", "powers", "[I", true)
  | 9 => ("HomingNetsModel", "values", "[I", true)
  | 10 => ("HomingNetsModel", "last", "I", false)
  | 11 => ("HomingNetsModel", "toldSort", "I", false)
  | 12 => ("HomingNetsModel", "toldMany", "I", false)
  | 13 => ("HomingNetsModel", "toldWide", "I", false)
  | 14 => ("HomingNetsModel", "toldWires", "I", false)
  | 15 => ("HomingNetsModel", "toldRow", "[I", true)
  | 16 => ("HomingNetsModel", "toldValues", "[I", true)
  | 17 => ("HomingNetsModel", "done", "I", false)
  | 18 => ("HomingNetsModel", "oldCodes", "[I", true)
  | 19 => ("HomingNetsModel", "oldLasts", "[I", true)
  | 20 => ("HomingNetsModel", "worst", "[I", true)
  | 21 => ("HomingNetsModel", "best", "[I", true)
  | 22 => ("HomingNetsModel", "hits", "[I", true)
  | 23 => ("HomingNetsModel", "isMeasured", "Z", false)
  | 24 => ("HomingNetsModel", "row", "[I", true)
  | 25 => ("HomingNetsModel", "then", "[I", true)
  | _ => ("HomingNetsModel", "rule", "I", false)
def tyX7 : Nat → FieldType := fun k => match k with
  | 0 => .int
  | 1 => .array .int
  | 2 => .int
  | 3 => .int
  | 4 => .int
  | 5 => .int
  | 6 => .int
  | 7 => .array .int
  | 8 => .array .int
  | 9 => .array .int
  | 10 => .int
  | 11 => .int
  | 12 => .int
  | 13 => .int
  | 14 => .int
  | 15 => .array .int
  | 16 => .array .int
  | 17 => .int
  | 18 => .array .int
  | 19 => .array .int
  | 20 => .array .int
  | 21 => .array .int
  | 22 => .array .int
  | 23 => .boolean
  | 24 => .array .int
  | 25 => .array .int
  | _ => .int
abbrev wsX70 : List Cond := u_ws RX7 TX7 27
theorem nmX7 : ∀ a, a < 27 → ∀ b, b < 27 → a ≠ b → (TX7 a).2.1 ≠ (TX7 b).2.1 := by decide +kernel
theorem tyX7_ok : ∀ k, k < 27 → parseFieldDescriptor (TX7 k).2.2.1 = some (tyX7 k) := by decide +kernel
abbrev cX7_init : ByteArray := prog_9_method_1_code
def yX7_init : MethodName := ⟨RX7, "<init>", "()V"⟩
abbrev cX7_begins : ByteArray := prog_9_method_2_code
def yX7_begins : MethodName := ⟨RX7, "begins", "()V"⟩
abbrev cX7_isIn : ByteArray := prog_9_method_3_code
def yX7_isIn : MethodName := ⟨RX7, "isIn", "(III)Z"⟩
abbrev cX7_letterAt : ByteArray := prog_9_method_4_code
def yX7_letterAt : MethodName := ⟨RX7, "letterAt", "(I)I"⟩
abbrev cX7_figure : ByteArray := prog_9_method_5_code
def yX7_figure : MethodName := ⟨RX7, "figure", "(I)I"⟩
abbrev cX7_readsNet : ByteArray := prog_9_method_6_code
def yX7_readsNet : MethodName := ⟨RX7, "readsNet", "(I)Z"⟩
abbrev cX7_readsItem : ByteArray := prog_9_method_7_code
def yX7_readsItem : MethodName := ⟨RX7, "readsItem", "(II)I"⟩
abbrev cX7_reads : ByteArray := prog_9_method_8_code
def yX7_reads : MethodName := ⟨RX7, "reads", "()I"⟩
abbrev cX7_write : ByteArray := prog_9_method_9_code
def yX7_write : MethodName := ⟨RX7, "write", "(I)I"⟩
abbrev cX7_wipe : ByteArray := prog_9_method_10_code
def yX7_wipe : MethodName := ⟨RX7, "wipe", "()I"⟩
abbrev cX7_fault : ByteArray := prog_9_method_11_code
def yX7_fault : MethodName := ⟨RX7, "fault", "()I"⟩
abbrev cX7_lay : ByteArray := prog_9_method_12_code
def yX7_lay : MethodName := ⟨RX7, "lay", "()I"⟩
abbrev cX7_isMachine : ByteArray := prog_9_method_13_code
def yX7_isMachine : MethodName := ⟨RX7, "isMachine", "(I)Z"⟩
abbrev cX7_isWired : ByteArray := prog_9_method_14_code
def yX7_isWired : MethodName := ⟨RX7, "isWired", "(II)Z"⟩
abbrev cX7_lowest : ByteArray := prog_9_method_15_code
def yX7_lowest : MethodName := ⟨RX7, "lowest", "(II)I"⟩
abbrev cX7_counters : ByteArray := prog_9_method_16_code
def yX7_counters : MethodName := ⟨RX7, "counters", "(I)I"⟩
abbrev cX7_pointers : ByteArray := prog_9_method_17_code
def yX7_pointers : MethodName := ⟨RX7, "pointers", "(I)I"⟩
abbrev cX7_distances : ByteArray := prog_9_method_18_code
def yX7_distances : MethodName := ⟨RX7, "distances", "(I)I"⟩
abbrev cX7_colours : ByteArray := prog_9_method_19_code
def yX7_colours : MethodName := ⟨RX7, "colours", "(I)I"⟩
abbrev cX7_becomesOf : ByteArray := prog_9_method_20_code
def yX7_becomesOf : MethodName := ⟨RX7, "becomesOf", "(I)I"⟩
abbrev cX7_tokensOf : ByteArray := prog_9_method_21_code
def yX7_tokensOf : MethodName := ⟨RX7, "tokensOf", "()I"⟩
abbrev cX7_isLegal : ByteArray := prog_9_method_22_code
def yX7_isLegal : MethodName := ⟨RX7, "isLegal", "()Z"⟩
abbrev cX7_rowOf : ByteArray := prog_9_method_23_code
def yX7_rowOf : MethodName := ⟨RX7, "rowOf", "(I)V"⟩
abbrev cX7_rowNow : ByteArray := prog_9_method_24_code
def yX7_rowNow : MethodName := ⟨RX7, "rowNow", "()V"⟩
abbrev cX7_codeOf : ByteArray := prog_9_method_25_code
def yX7_codeOf : MethodName := ⟨RX7, "codeOf", "()I"⟩
abbrev cX7_valuesOf : ByteArray := prog_9_method_26_code
def yX7_valuesOf : MethodName := ⟨RX7, "valuesOf", "(I)V"⟩
abbrev cX7_value : ByteArray := prog_9_method_27_code
def yX7_value : MethodName := ⟨RX7, "value", "(I)I"⟩
abbrev cX7_keeps : ByteArray := prog_9_method_28_code
def yX7_keeps : MethodName := ⟨RX7, "keeps", "()V"⟩
abbrev cX7_hit : ByteArray := prog_9_method_29_code
def yX7_hit : MethodName := ⟨RX7, "hit", "(II)I"⟩
abbrev cX7_code : ByteArray := prog_9_method_30_code
def yX7_code : MethodName := ⟨RX7, "code", "()I"⟩
abbrev cX7_turn : ByteArray := prog_9_method_31_code
def yX7_turn : MethodName := ⟨RX7, "turn", "(I)I"⟩
abbrev cX7_wired : ByteArray := prog_9_method_32_code
def yX7_wired : MethodName := ⟨RX7, "wired", "(II)I"⟩
abbrev cX7_may : ByteArray := prog_9_method_33_code
def yX7_may : MethodName := ⟨RX7, "may", "(I)I"⟩
abbrev cX7_becomes : ByteArray := prog_9_method_34_code
def yX7_becomes : MethodName := ⟨RX7, "becomes", "(I)I"⟩
abbrev cX7_move : ByteArray := prog_9_method_35_code
def yX7_move : MethodName := ⟨RX7, "move", "(I)I"⟩
abbrev cX7_tokens : ByteArray := prog_9_method_36_code
def yX7_tokens : MethodName := ⟨RX7, "tokens", "()I"⟩
abbrev cX7_legal : ByteArray := prog_9_method_37_code
def yX7_legal : MethodName := ⟨RX7, "legal", "()I"⟩
abbrev cX7_mate : ByteArray := prog_9_method_38_code
def yX7_mate : MethodName := ⟨RX7, "mate", "(I)I"⟩
abbrev cX7_undo : ByteArray := prog_9_method_39_code
def yX7_undo : MethodName := ⟨RX7, "undo", "()I"⟩
abbrev cX7_worstBehind : ByteArray := prog_9_method_40_code
def yX7_worstBehind : MethodName := ⟨RX7, "worstBehind", "()I"⟩
abbrev cX7_worsts : ByteArray := prog_9_method_41_code
def yX7_worsts : MethodName := ⟨RX7, "worsts", "()V"⟩
abbrev cX7_bests : ByteArray := prog_9_method_42_code
def yX7_bests : MethodName := ⟨RX7, "bests", "()V"⟩
abbrev cX7_leadsTo : ByteArray := prog_9_method_43_code
def yX7_leadsTo : MethodName := ⟨RX7, "leadsTo", "(II)Z"⟩
abbrev cX7_isHitTo : ByteArray := prog_9_method_44_code
def yX7_isHitTo : MethodName := ⟨RX7, "isHitTo", "(II)Z"⟩
abbrev cX7_measures : ByteArray := prog_9_method_45_code
def yX7_measures : MethodName := ⟨RX7, "measures", "()V"⟩
abbrev cX7_state : ByteArray := prog_9_method_46_code
def yX7_state : MethodName := ⟨RX7, "state", "(II)I"⟩
abbrev cX7_leaves : ByteArray := prog_9_method_47_code
def yX7_leaves : MethodName := ⟨RX7, "leaves", "(I)I"⟩
abbrev cX7_all : ByteArray := prog_9_method_48_code
def yX7_all : MethodName := ⟨RX7, "all", "(I)I"⟩
abbrev cX7_within : ByteArray := prog_9_method_49_code
def yX7_within : MethodName := ⟨RX7, "within", "(II)I"⟩
abbrev cX7_cruel : ByteArray := prog_9_method_50_code
def yX7_cruel : MethodName := ⟨RX7, "cruel", "()I"⟩
abbrev cX7_drawn : ByteArray := prog_9_method_51_code
def yX7_drawn : MethodName := ⟨RX7, "drawn", "(II)J"⟩
abbrev cX7_chooses : ByteArray := prog_9_method_52_code
def yX7_chooses : MethodName := ⟨RX7, "chooses", "(IIII)I"⟩
abbrev cX7_moves : ByteArray := prog_9_method_53_code
def yX7_moves : MethodName := ⟨RX7, "moves", "(I)V"⟩
abbrev cX7_lowestBit : ByteArray := prog_9_method_54_code
def yX7_lowestBit : MethodName := ⟨RX7, "lowestBit", "(I)I"⟩
abbrev cX7_run : ByteArray := prog_9_method_55_code
def yX7_run : MethodName := ⟨RX7, "run", "(III)I"⟩
abbrev cX7_next : ByteArray := prog_9_method_56_code
def yX7_next : MethodName := ⟨RX7, "next", "(I)I"⟩
abbrev cX7_follows : ByteArray := prog_9_method_57_code
def yX7_follows : MethodName := ⟨RX7, "follows", "(II)I"⟩
abbrev cX7_loop : ByteArray := prog_9_method_58_code
def yX7_loop : MethodName := ⟨RX7, "loop", "(II)I"⟩
abbrev cX7_storm : ByteArray := prog_9_method_59_code
def yX7_storm : MethodName := ⟨RX7, "storm", "(IIII)I"⟩
abbrev cX7_count : ByteArray := prog_9_method_60_code
def yX7_count : MethodName := ⟨RX7, "count", "(I)I"⟩
def RJx145de : String := "java/io/Serializable"
def TJx145de : u_T := fun k => match k with
  | _ => ("", "", "", false)
def tyJx145de : Nat → FieldType := fun k => match k with
  | _ => .int
abbrev wsJx145de0 : List Cond := u_ws RJx145de TJx145de 0
theorem nmJx145de : ∀ a, a < 0 → ∀ b, b < 0 → a ≠ b → (TJx145de a).2.1 ≠ (TJx145de b).2.1 := by decide +kernel
theorem tyJx145de_ok : ∀ k, k < 0 → parseFieldDescriptor (TJx145de k).2.2.1 = some (tyJx145de k) := by decide +kernel
def RJx9f9b0 : String := "java/lang/CharSequence"
def TJx9f9b0 : u_T := fun k => match k with
  | _ => ("", "", "", false)
def tyJx9f9b0 : Nat → FieldType := fun k => match k with
  | _ => .int
abbrev wsJx9f9b00 : List Cond := u_ws RJx9f9b0 TJx9f9b0 0
theorem nmJx9f9b0 : ∀ a, a < 0 → ∀ b, b < 0 → a ≠ b → (TJx9f9b0 a).2.1 ≠ (TJx9f9b0 b).2.1 := by decide +kernel
theorem tyJx9f9b0_ok : ∀ k, k < 0 → parseFieldDescriptor (TJx9f9b0 k).2.2.1 = some (tyJx9f9b0 k) := by decide +kernel
def RJxb160c : String := "java/lang/Comparable"
def TJxb160c : u_T := fun k => match k with
  | _ => ("", "", "", false)
def tyJxb160c : Nat → FieldType := fun k => match k with
  | _ => .int
abbrev wsJxb160c0 : List Cond := u_ws RJxb160c TJxb160c 0
theorem nmJxb160c : ∀ a, a < 0 → ∀ b, b < 0 → a ≠ b → (TJxb160c a).2.1 ≠ (TJxb160c b).2.1 := by decide +kernel
theorem tyJxb160c_ok : ∀ k, k < 0 → parseFieldDescriptor (TJxb160c k).2.2.1 = some (tyJxb160c k) := by decide +kernel
def RJ6 : String := "java/lang/Integer"
def TJ6 : u_T := fun k => match k with
  | _ => ("", "", "", false)
def tyJ6 : Nat → FieldType := fun k => match k with
  | _ => .int
abbrev wsJ60 : List Cond := u_ws RJ6 TJ6 0
theorem nmJ6 : ∀ a, a < 0 → ∀ b, b < 0 → a ≠ b → (TJ6 a).2.1 ≠ (TJ6 b).2.1 := by decide +kernel
theorem tyJ6_ok : ∀ k, k < 0 → parseFieldDescriptor (TJ6 k).2.2.1 = some (tyJ6 k) := by decide +kernel
abbrev cJ6_bitCount_0f7a4 : ByteArray := prog_10_method_49_code
def yJ6_bitCount_0f7a4 : MethodName := ⟨RJ6, "bitCount", "(I)I"⟩
def RJ9 : String := "java/lang/Math"
def TJ9 : u_T := fun k => match k with
  | _ => ("", "", "", false)
def tyJ9 : Nat → FieldType := fun k => match k with
  | _ => .int
abbrev wsJ90 : List Cond := u_ws RJ9 TJ9 0
theorem nmJ9 : ∀ a, a < 0 → ∀ b, b < 0 → a ≠ b → (TJ9 a).2.1 ≠ (TJ9 b).2.1 := by decide +kernel
theorem tyJ9_ok : ∀ k, k < 0 → parseFieldDescriptor (TJ9 k).2.2.1 = some (tyJ9 k) := by decide +kernel
abbrev cJ9_max_7cf53 : ByteArray := prog_11_method_65_code
def yJ9_max_7cf53 : MethodName := ⟨RJ9, "max", "(II)I"⟩
abbrev cJ9_min_7cf53 : ByteArray := prog_11_method_69_code
def yJ9_min_7cf53 : MethodName := ⟨RJ9, "min", "(II)I"⟩
def RJ0 : String := "java/lang/String"
def TJ0 : u_T := fun k => match k with
  | _ => ("", "", "", false)
def tyJ0 : Nat → FieldType := fun k => match k with
  | _ => .int
abbrev wsJ00 : List Cond := u_ws RJ0 TJ0 0
theorem nmJ0 : ∀ a, a < 0 → ∀ b, b < 0 → a ≠ b → (TJ0 a).2.1 ≠ (TJ0 b).2.1 := by decide +kernel
theorem tyJ0_ok : ∀ k, k < 0 → parseFieldDescriptor (TJ0 k).2.2.1 = some (tyJ0 k) := by decide +kernel
abbrev cJ0_length_8abf5 : ByteArray := prog_12_method_54_code
def yJ0_length_8abf5 : MethodName := ⟨RJ0, "length", "()I"⟩
abbrev cJ0_charAt_5068e : ByteArray := prog_12_method_56_code
def yJ0_charAt_5068e : MethodName := ⟨RJ0, "charAt", "(I)C"⟩
abbrev cJ0_coder_7d493 : ByteArray := prog_12_method_152_code
def yJ0_coder_7d493 : MethodName := ⟨RJ0, "coder", "()B"⟩
abbrev cJ0_isLatin1_aae02 : ByteArray := prog_12_method_154_code
def yJ0_isLatin1_aae02 : MethodName := ⟨RJ0, "isLatin1", "()Z"⟩
abbrev cJ0_checkIndex_df160 : ByteArray := prog_12_method_155_code
def yJ0_checkIndex_df160 : MethodName := ⟨RJ0, "checkIndex", "(II)V"⟩
def RJ1 : String := "java/lang/StringLatin1"
def TJ1 : u_T := fun k => match k with
  | _ => ("", "", "", false)
def tyJ1 : Nat → FieldType := fun k => match k with
  | _ => .int
abbrev wsJ10 : List Cond := u_ws RJ1 TJ1 0
theorem nmJ1 : ∀ a, a < 0 → ∀ b, b < 0 → a ≠ b → (TJ1 a).2.1 ≠ (TJ1 b).2.1 := by decide +kernel
theorem tyJ1_ok : ∀ k, k < 0 → parseFieldDescriptor (TJ1 k).2.2.1 = some (tyJ1 k) := by decide +kernel
abbrev cJ1_charAt_3b067 : ByteArray := prog_13_method_2_code
def yJ1_charAt_3b067 : MethodName := ⟨RJ1, "charAt", "([BI)C"⟩
def RJ2 : String := "java/lang/StringUTF16"
def TJ2 : u_T := fun k => match k with
  | _ => ("", "", "", false)
def tyJ2 : Nat → FieldType := fun k => match k with
  | _ => .int
abbrev wsJ20 : List Cond := u_ws RJ2 TJ2 0
theorem nmJ2 : ∀ a, a < 0 → ∀ b, b < 0 → a ≠ b → (TJ2 a).2.1 ≠ (TJ2 b).2.1 := by decide +kernel
theorem tyJ2_ok : ∀ k, k < 0 → parseFieldDescriptor (TJ2 k).2.2.1 = some (tyJ2 k) := by decide +kernel
abbrev cJ2_getChar_3b067 : ByteArray := prog_14_method_5_code
def yJ2_getChar_3b067 : MethodName := ⟨RJ2, "getChar", "([BI)C"⟩
abbrev cJ2_length_9d52b : ByteArray := prog_14_method_6_code
def yJ2_length_9d52b : MethodName := ⟨RJ2, "length", "([B)I"⟩
abbrev cJ2_charAt_3b067 : ByteArray := prog_14_method_83_code
def yJ2_charAt_3b067 : MethodName := ⟨RJ2, "charAt", "([BI)C"⟩
abbrev cJ2_checkIndex_2214a : ByteArray := prog_14_method_91_code
def yJ2_checkIndex_2214a : MethodName := ⟨RJ2, "checkIndex", "(I[B)V"⟩
def RJxfd54e : String := "java/lang/constant/Constable"
def TJxfd54e : u_T := fun k => match k with
  | _ => ("", "", "", false)
def tyJxfd54e : Nat → FieldType := fun k => match k with
  | _ => .int
abbrev wsJxfd54e0 : List Cond := u_ws RJxfd54e TJxfd54e 0
theorem nmJxfd54e : ∀ a, a < 0 → ∀ b, b < 0 → a ≠ b → (TJxfd54e a).2.1 ≠ (TJxfd54e b).2.1 := by decide +kernel
theorem tyJxfd54e_ok : ∀ k, k < 0 → parseFieldDescriptor (TJxfd54e k).2.2.1 = some (tyJxfd54e k) := by decide +kernel
def RJx3cf43 : String := "java/lang/constant/ConstantDesc"
def TJx3cf43 : u_T := fun k => match k with
  | _ => ("", "", "", false)
def tyJx3cf43 : Nat → FieldType := fun k => match k with
  | _ => .int
abbrev wsJx3cf430 : List Cond := u_ws RJx3cf43 TJx3cf43 0
theorem nmJx3cf43 : ∀ a, a < 0 → ∀ b, b < 0 → a ≠ b → (TJx3cf43 a).2.1 ≠ (TJx3cf43 b).2.1 := by decide +kernel
theorem tyJx3cf43_ok : ∀ k, k < 0 → parseFieldDescriptor (TJx3cf43 k).2.2.1 = some (tyJx3cf43 k) := by decide +kernel
def RJ7 : String := "java/util/Arrays"
def TJ7 : u_T := fun k => match k with
  | _ => ("", "", "", false)
def tyJ7 : Nat → FieldType := fun k => match k with
  | _ => .int
abbrev wsJ70 : List Cond := u_ws RJ7 TJ7 0
theorem nmJ7 : ∀ a, a < 0 → ∀ b, b < 0 → a ≠ b → (TJ7 a).2.1 ≠ (TJ7 b).2.1 := by decide +kernel
theorem tyJ7_ok : ∀ k, k < 0 → parseFieldDescriptor (TJ7 k).2.2.1 = some (tyJ7 k) := by decide +kernel
abbrev cJ7_fill_53178 : ByteArray := prog_15_method_103_code
def yJ7_fill_53178 : MethodName := ⟨RJ7, "fill", "([II)V"⟩
def RJ3 : String := "jdk/internal/util/Preconditions"
def TJ3 : u_T := fun k => match k with
  | _ => ("", "", "", false)
def tyJ3 : Nat → FieldType := fun k => match k with
  | _ => .int
abbrev wsJ30 : List Cond := u_ws RJ3 TJ3 0
theorem nmJ3 : ∀ a, a < 0 → ∀ b, b < 0 → a ≠ b → (TJ3 a).2.1 ≠ (TJ3 b).2.1 := by decide +kernel
theorem tyJ3_ok : ∀ k, k < 0 → parseFieldDescriptor (TJ3 k).2.2.1 = some (tyJ3 k) := by decide +kernel
abbrev cJ3_checkIndex_8e157 : ByteArray := prog_16_method_11_code
def yJ3_checkIndex_8e157 : MethodName := ⟨RJ3, "checkIndex", "(IILjava/util/function/BiFunction;)I"⟩
def RL : String := "HomingNetsLaw"
abbrev cL_law : ByteArray := code
def yL_law : MethodName := ⟨RL, "law", "([I)Z"⟩
def wsL_law_r1 : List Cond := [Cond.classLink RL 7 RX6, Cond.instantiable RX6 7, Cond.initialized RX6, Cond.classLink RL 10 RX7, Cond.instantiable RX7 27, Cond.initialized RX7, Cond.methodLink RL 9 yX6_init, Cond.instanceMethod yX6_init, Cond.code yX6_init cX6_init 2 none, Cond.methodLink RX6 1 objectInit, Cond.instanceMethod objectInit, Cond.code objectInit ⟨#[0xb1]⟩ 1 none, Cond.classLink RX6 7 RX5, Cond.instantiable RX5 2, Cond.initialized RX5, Cond.fieldLink RX6 10 "HomingNets" "text" "LHomingNets$Text;", Cond.classLink RX6 16 RX1, Cond.instantiable RX1 8, Cond.initialized RX1, Cond.fieldLink RX6 19 "HomingNets" "net" "LHomingNets$Net;", Cond.fieldLink RX6 23 "HomingNets" "draft" "LHomingNets$Net;", Cond.classLink RX6 26 RX4, Cond.instantiable RX4 8, Cond.initialized RX4]
def wsL_law_r2 : List Cond := [Cond.fieldLink RX6 29 "HomingNets" "survey" "LHomingNets$Survey;", Cond.classLink RX6 33 RX2, Cond.instantiable RX2 3, Cond.initialized RX2, Cond.fieldLink RX6 36 "HomingNets" "past" "LHomingNets$Past;", Cond.methodLink RX6 9 yX5_init, Cond.instanceMethod yX5_init, Cond.code yX5_init cX5_init 1 none, Cond.methodLink RX5 3 objectInit, Cond.arrayClass .int, Cond.fieldLink RX5 9 "HomingNets$Text" "letters" "[I", Cond.methodLink RX6 18 yX1_init, Cond.instanceMethod yX1_init, Cond.code yX1_init cX1_init 1 none, Cond.methodLink RX1 3 objectInit, Cond.fieldLink RX1 9 "HomingNets$Net" "linked" "[I", Cond.fieldLink RX1 15 "HomingNets$Net" "weight" "[I", Cond.methodLink RX6 28 yX4_init, Cond.instanceMethod yX4_init, Cond.code yX4_init cX4_init 1 none, Cond.methodLink RX4 3 objectInit, Cond.fieldLink RX4 9 "HomingNets$Survey" "wanted" "[I", Cond.fieldLink RX4 15 "HomingNets$Survey" "movesLeft" "[I", Cond.fieldLink RX4 18 "HomingNets$Survey" "worst" "[I"]
def wsL_law_r3 : List Cond := [Cond.fieldLink RX4 21 "HomingNets$Survey" "best" "[I", Cond.fieldLink RX4 24 "HomingNets$Survey" "hits" "[I", Cond.fieldLink RX4 27 "HomingNets$Survey" "spare" "[I", Cond.methodLink RX6 35 yX2_init, Cond.instanceMethod yX2_init, Cond.code yX2_init cX2_init 1 none, Cond.methodLink RX2 3 objectInit, Cond.fieldLink RX2 9 "HomingNets$Past" "states" "[I", Cond.fieldLink RX2 15 "HomingNets$Past" "movers" "[I", Cond.methodLink RX6 42 yJ0_length_8abf5, Cond.instanceMethod yJ0_length_8abf5, Cond.selects RJ0 yJ0_length_8abf5 yJ0_length_8abf5, Cond.initialized RJ0, Cond.code yJ0_length_8abf5 cJ0_length_8abf5 1 (some .int), Cond.fieldLink RJ0 9 "java/lang/String" "value" "[B", Cond.methodLink RJ0 335 yJ0_coder_7d493, Cond.instanceMethod yJ0_coder_7d493, Cond.selects RJ0 yJ0_coder_7d493 yJ0_coder_7d493, Cond.code yJ0_coder_7d493 cJ0_coder_7d493 1 (some .byte), Cond.fieldLink RJ0 38 "java/lang/String" "COMPACT_STRINGS" "Z", Cond.fieldLink RJ0 15 "java/lang/String" "coder" "B", Cond.methodLink RX6 48 yJ0_charAt_5068e, Cond.instanceMethod yJ0_charAt_5068e, Cond.selects RJ0 yJ0_charAt_5068e yJ0_charAt_5068e]
def wsL_law_r4 : List Cond := [Cond.code yJ0_charAt_5068e cJ0_charAt_5068e 2 (some .char), Cond.methodLink RJ0 492 yJ0_isLatin1_aae02, Cond.instanceMethod yJ0_isLatin1_aae02, Cond.selects RJ0 yJ0_isLatin1_aae02 yJ0_isLatin1_aae02, Cond.code yJ0_isLatin1_aae02 cJ0_isLatin1_aae02 1 (some .boolean), Cond.methodLink RJ0 495 yJ1_charAt_3b067, Cond.static yJ1_charAt_3b067, Cond.initialized RJ1, Cond.code yJ1_charAt_3b067 cJ1_charAt_3b067 2 (some .char), Cond.methodLink RJ1 9 yJ0_checkIndex_df160, Cond.static yJ0_checkIndex_df160, Cond.code yJ0_checkIndex_df160 cJ0_checkIndex_df160 2 none, Cond.fieldLink RJ0 1053 "jdk/internal/util/Preconditions" "SIOOBE_FORMATTER" "Ljava/util/function/BiFunction;", Cond.methodLink RJ0 1059 yJ3_checkIndex_8e157, Cond.static yJ3_checkIndex_8e157, Cond.initialized RJ3, Cond.code yJ3_checkIndex_8e157 cJ3_checkIndex_8e157 3 (some .int), Cond.methodLink RJ0 498 yJ2_charAt_3b067, Cond.static yJ2_charAt_3b067, Cond.initialized RJ2, Cond.code yJ2_charAt_3b067 cJ2_charAt_3b067 2 (some .char), Cond.methodLink RJ2 67 yJ2_checkIndex_2214a, Cond.static yJ2_checkIndex_2214a, Cond.code yJ2_checkIndex_2214a cJ2_checkIndex_2214a 2 none]
def wsL_law_r5 : List Cond := [Cond.methodLink RJ2 48 yJ2_length_9d52b, Cond.static yJ2_length_9d52b, Cond.code yJ2_length_9d52b cJ2_length_9d52b 1 (some .int), Cond.methodLink RJ2 414 yJ0_checkIndex_df160, Cond.methodLink RJ2 71 yJ2_getChar_3b067, Cond.static yJ2_getChar_3b067, Cond.code yJ2_getChar_3b067 cJ2_getChar_3b067 2 (some .char), Cond.fieldLink RJ2 44 "java/lang/StringUTF16" "$assertionsDisabled" "Z", Cond.fieldLink RJ2 59 "java/lang/StringUTF16" "HI_BYTE_SHIFT" "I", Cond.fieldLink RJ2 63 "java/lang/StringUTF16" "LO_BYTE_SHIFT" "I", Cond.methodLink RX6 52 yX5_append, Cond.instanceMethod yX5_append, Cond.selects RX5 yX5_append yX5_append, Cond.code yX5_append cX5_append 2 (some .boolean), Cond.fieldLink RX5 15 "HomingNets$Text" "many" "I", Cond.methodLink RX5 19 yX3_put, Cond.static yX3_put, Cond.initialized RX3, Cond.code yX3_put cX3_put 3 none, Cond.methodLink RX6 56 yX5_readInto, Cond.instanceMethod yX5_readInto, Cond.selects RX5 yX5_readInto yX5_readInto, Cond.code yX5_readInto cX5_readInto 4 (some .int), Cond.methodLink RX5 25 yX5_readItem]
def wsL_law_r6 : List Cond := [Cond.instanceMethod yX5_readItem, Cond.selects RX5 yX5_readItem yX5_readItem, Cond.code yX5_readItem cX5_readItem 6 (some .boolean), Cond.methodLink RX5 33 yX5_figureAt, Cond.instanceMethod yX5_figureAt, Cond.selects RX5 yX5_figureAt yX5_figureAt, Cond.code yX5_figureAt cX5_figureAt 3 (some .int), Cond.methodLink RX5 29 yX5_letterAt, Cond.instanceMethod yX5_letterAt, Cond.selects RX5 yX5_letterAt yX5_letterAt, Cond.code yX5_letterAt cX5_letterAt 2 (some .int), Cond.methodLink RX5 49 yX3_at, Cond.static yX3_at, Cond.code yX3_at cX3_at 2 (some .int), Cond.methodLink RX5 36 yX1_begin, Cond.instanceMethod yX1_begin, Cond.selects RX1 yX1_begin yX1_begin, Cond.code yX1_begin cX1_begin 6 (some .boolean), Cond.fieldLink RX1 24 "HomingNets$Net" "kind" "I", Cond.fieldLink RX1 28 "HomingNets$Net" "machines" "I", Cond.fieldLink RX1 31 "HomingNets$Net" "range" "I", Cond.fieldLink RX1 34 "HomingNets$Net" "states" "I", Cond.fieldLink RX1 37 "HomingNets$Net" "wires" "I", Cond.fieldLink RX1 40 "HomingNets$Net" "start" "I"]
def wsL_law_r7 : List Cond := [Cond.methodLink RX1 18 yX3_put, Cond.methodLink RX5 42 yX1_addWire, Cond.instanceMethod yX1_addWire, Cond.selects RX1 yX1_addWire yX1_addWire, Cond.code yX1_addWire cX1_addWire 3 (some .boolean), Cond.methodLink RX1 43 yX1_hasMachine, Cond.instanceMethod yX1_hasMachine, Cond.selects RX1 yX1_hasMachine yX1_hasMachine, Cond.code yX1_hasMachine cX1_hasMachine 2 (some .boolean), Cond.methodLink RX1 47 yX1_isLinked, Cond.instanceMethod yX1_isLinked, Cond.selects RX1 yX1_isLinked yX1_isLinked, Cond.code yX1_isLinked cX1_isLinked 3 (some .boolean), Cond.methodLink RX1 51 yX3_at, Cond.methodLink RX5 46 yX1_startWith, Cond.instanceMethod yX1_startWith, Cond.selects RX1 yX1_startWith yX1_startWith, Cond.code yX1_startWith cX1_startWith 3 (some .boolean), Cond.methodLink RX1 55 yX1_hasValue, Cond.instanceMethod yX1_hasValue, Cond.selects RX1 yX1_hasValue yX1_hasValue, Cond.code yX1_hasValue cX1_hasValue 2 (some .boolean), Cond.methodLink RX1 58 yX1_withValue, Cond.instanceMethod yX1_withValue]
def wsL_law_r8 : List Cond := [Cond.selects RX1 yX1_withValue yX1_withValue, Cond.code yX1_withValue cX1_withValue 4 (some .int), Cond.methodLink RX1 68 yX1_valueAt, Cond.instanceMethod yX1_valueAt, Cond.selects RX1 yX1_valueAt yX1_valueAt, Cond.code yX1_valueAt cX1_valueAt 3 (some .int), Cond.methodLink RX6 60 yX6_takeDraft, Cond.instanceMethod yX6_takeDraft, Cond.selects RX6 yX6_takeDraft yX6_takeDraft, Cond.code yX6_takeDraft cX6_takeDraft 1 none, Cond.fieldLink RX6 79 "HomingNets$Net" "start" "I", Cond.fieldLink RX6 82 "HomingNets" "now" "I", Cond.fieldLink RX6 85 "HomingNets" "lastInRing" "I", Cond.methodLink RX6 75 yX1_copyFrom, Cond.instanceMethod yX1_copyFrom, Cond.selects RX1 yX1_copyFrom yX1_copyFrom, Cond.code yX1_copyFrom cX1_copyFrom 3 none, Cond.methodLink RX6 88 yX2_clear, Cond.instanceMethod yX2_clear, Cond.selects RX2 yX2_clear yX2_clear, Cond.code yX2_clear cX2_clear 1 none, Cond.fieldLink RX2 18 "HomingNets$Past" "many" "I", Cond.methodLink RX6 89 yX4_forget, Cond.instanceMethod yX4_forget]
def wsL_law_r9 : List Cond := [Cond.selects RX4 yX4_forget yX4_forget, Cond.code yX4_forget cX4_forget 1 none, Cond.fieldLink RX4 30 "HomingNets$Survey" "made" "Z", Cond.methodLink RX6 63 yX5_clear, Cond.instanceMethod yX5_clear, Cond.selects RX5 yX5_clear yX5_clear, Cond.code yX5_clear cX5_clear 1 none, Cond.methodLink RL 12 yX7_init, Cond.instanceMethod yX7_init, Cond.code yX7_init cX7_init 1 none, Cond.methodLink RX7 1 objectInit, Cond.fieldLink RX7 7 "HomingNetsModel" "text" "[I", Cond.fieldLink RX7 13 "HomingNetsModel" "wiredRow" "[I", Cond.fieldLink RX7 16 "HomingNetsModel" "powers" "[I", Cond.fieldLink RX7 19 "HomingNetsModel" "values" "[I", Cond.fieldLink RX7 22 "HomingNetsModel" "toldRow" "[I", Cond.fieldLink RX7 25 "HomingNetsModel" "toldValues" "[I", Cond.fieldLink RX7 28 "HomingNetsModel" "oldCodes" "[I", Cond.fieldLink RX7 31 "HomingNetsModel" "oldLasts" "[I", Cond.fieldLink RX7 34 "HomingNetsModel" "worst" "[I", Cond.fieldLink RX7 37 "HomingNetsModel" "best" "[I", Cond.fieldLink RX7 40 "HomingNetsModel" "hits" "[I", Cond.fieldLink RX7 43 "HomingNetsModel" "row" "[I", Cond.fieldLink RX7 46 "HomingNetsModel" "then" "[I"]
def wsL_law_r10 : List Cond := [Cond.fieldLink RX7 49 "HomingNetsModel" "sort" "I", Cond.fieldLink RX7 53 "HomingNetsModel" "many" "I", Cond.fieldLink RX7 56 "HomingNetsModel" "wide" "I", Cond.methodLink RX7 59 yX7_begins, Cond.instanceMethod yX7_begins, Cond.selects RX7 yX7_begins yX7_begins, Cond.code yX7_begins cX7_begins 2 none, Cond.fieldLink RX7 62 "HomingNetsModel" "states" "I", Cond.fieldLink RX7 65 "HomingNetsModel" "last" "I", Cond.fieldLink RX7 68 "HomingNetsModel" "done" "I", Cond.fieldLink RX7 71 "HomingNetsModel" "isMeasured" "Z", Cond.methodLink RL 13 yX6_write, Cond.instanceMethod yX6_write, Cond.selects RX6 yX6_write yX6_write, Cond.code yX6_write cX6_write 2 (some .int), Cond.methodLink RX6 66 yX5_length, Cond.instanceMethod yX5_length, Cond.selects RX5 yX5_length yX5_length, Cond.code yX5_length cX5_length 1 (some .int), Cond.methodLink RL 17 yX7_write, Cond.instanceMethod yX7_write, Cond.selects RX7 yX7_write yX7_write, Cond.code yX7_write cX7_write 2 (some .int), Cond.fieldLink RX7 75 "HomingNetsModel" "length" "I"]
def wsL_law_r11 : List Cond := [Cond.methodLink RL 18 yX6_wipe, Cond.instanceMethod yX6_wipe, Cond.selects RX6 yX6_wipe yX6_wipe, Cond.code yX6_wipe cX6_wipe 2 (some .int), Cond.methodLink RL 22 yX7_wipe, Cond.instanceMethod yX7_wipe, Cond.selects RX7 yX7_wipe yX7_wipe, Cond.code yX7_wipe cX7_wipe 2 (some .int), Cond.methodLink RL 23 yX6_fault, Cond.instanceMethod yX6_fault, Cond.selects RX6 yX6_fault yX6_fault, Cond.code yX6_fault cX6_fault 1 (some .int), Cond.methodLink RL 26 yX7_fault, Cond.instanceMethod yX7_fault, Cond.selects RX7 yX7_fault yX7_fault, Cond.code yX7_fault cX7_fault 1 (some .int), Cond.methodLink RX7 109 yX7_reads, Cond.instanceMethod yX7_reads, Cond.selects RX7 yX7_reads yX7_reads, Cond.code yX7_reads cX7_reads 3 (some .int), Cond.fieldLink RX7 85 "HomingNetsModel" "toldSort" "I", Cond.fieldLink RX7 102 "HomingNetsModel" "toldWires" "I", Cond.methodLink RX7 105 yX7_readsItem, Cond.instanceMethod yX7_readsItem]
def wsL_law_r12 : List Cond := [Cond.selects RX7 yX7_readsItem yX7_readsItem, Cond.code yX7_readsItem cX7_readsItem 5 (some .int), Cond.fieldLink RX7 92 "HomingNetsModel" "toldMany" "I", Cond.fieldLink RX7 95 "HomingNetsModel" "toldWide" "I", Cond.methodLink RX7 98 yX7_readsNet, Cond.instanceMethod yX7_readsNet, Cond.selects RX7 yX7_readsNet yX7_readsNet, Cond.code yX7_readsNet cX7_readsNet 7 (some .boolean), Cond.methodLink RX7 82 yX7_figure, Cond.instanceMethod yX7_figure, Cond.selects RX7 yX7_figure yX7_figure, Cond.code yX7_figure cX7_figure 3 (some .int), Cond.methodLink RX7 78 yX7_letterAt, Cond.instanceMethod yX7_letterAt, Cond.selects RX7 yX7_letterAt yX7_letterAt, Cond.code yX7_letterAt cX7_letterAt 2 (some .int), Cond.methodLink RX7 88 yX7_isIn, Cond.static yX7_isIn, Cond.code yX7_isIn cX7_isIn 3 (some .boolean), Cond.methodLink RL 27 yX6_lay, Cond.instanceMethod yX6_lay, Cond.selects RX6 yX6_lay yX6_lay, Cond.code yX6_lay cX6_lay 1 (some .int), Cond.fieldLink RX6 71 "HomingNets$Net" "states" "I"]
def wsL_law_r13 : List Cond := [Cond.methodLink RX6 67 yX1_hasColoursEnough, Cond.instanceMethod yX1_hasColoursEnough, Cond.selects RX1 yX1_hasColoursEnough yX1_hasColoursEnough, Cond.code yX1_hasColoursEnough cX1_hasColoursEnough 2 (some .boolean), Cond.methodLink RX1 62 yJ6_bitCount_0f7a4, Cond.static yJ6_bitCount_0f7a4, Cond.initialized RJ6, Cond.code yJ6_bitCount_0f7a4 cJ6_bitCount_0f7a4 1 (some .int), Cond.constant RJ6 265 (1431655765), Cond.constant RJ6 266 (858993459), Cond.constant RJ6 267 (252645135), Cond.methodLink RL 30 yX7_lay, Cond.instanceMethod yX7_lay, Cond.selects RX7 yX7_lay yX7_lay, Cond.code yX7_lay cX7_lay 4 (some .int), Cond.fieldLink RX7 113 "HomingNetsModel" "wires" "I", Cond.methodLink RL 31 yX6_value, Cond.instanceMethod yX6_value, Cond.selects RX6 yX6_value yX6_value, Cond.code yX6_value cX6_value 2 (some .int), Cond.methodLink RX6 92 yX1_hasMachine, Cond.methodLink RX6 95 yX1_valueAt, Cond.methodLink RL 34 yX7_value, Cond.instanceMethod yX7_value]
def wsL_law_r14 : List Cond := [Cond.selects RX7 yX7_value yX7_value, Cond.code yX7_value cX7_value 2 (some .int), Cond.methodLink RX7 148 yX7_isMachine, Cond.instanceMethod yX7_isMachine, Cond.selects RX7 yX7_isMachine yX7_isMachine, Cond.code yX7_isMachine cX7_isMachine 2 (some .boolean), Cond.methodLink RL 35 yX6_hit, Cond.instanceMethod yX6_hit, Cond.selects RX6 yX6_hit yX6_hit, Cond.code yX6_hit cX6_hit 4 (some .int), Cond.methodLink RX6 99 yX1_hasValue, Cond.methodLink RX6 102 yX1_withValue, Cond.methodLink RX6 106 yX6_change, Cond.instanceMethod yX6_change, Cond.selects RX6 yX6_change yX6_change, Cond.code yX6_change cX6_change 2 none, Cond.methodLink RX6 151 yX2_keep, Cond.instanceMethod yX2_keep, Cond.selects RX2 yX2_keep yX2_keep, Cond.code yX2_keep cX2_keep 3 none, Cond.methodLink RX2 22 yX2_forgetOldest, Cond.instanceMethod yX2_forgetOldest, Cond.selects RX2 yX2_forgetOldest yX2_forgetOldest, Cond.code yX2_forgetOldest cX2_forgetOldest 2 none]
def wsL_law_r15 : List Cond := [Cond.methodLink RX2 31 yX3_at, Cond.methodLink RX2 25 yX3_put, Cond.methodLink RL 39 yX7_hit, Cond.instanceMethod yX7_hit, Cond.selects RX7 yX7_hit yX7_hit, Cond.code yX7_hit cX7_hit 4 (some .int), Cond.methodLink RX7 157 yX7_keeps, Cond.instanceMethod yX7_keeps, Cond.selects RX7 yX7_keeps yX7_keeps, Cond.code yX7_keeps cX7_keeps 2 none, Cond.methodLink RX7 151 yX7_rowNow, Cond.instanceMethod yX7_rowNow, Cond.selects RX7 yX7_rowNow yX7_rowNow, Cond.code yX7_rowNow cX7_rowNow 2 none, Cond.methodLink RX7 154 yX7_codeOf, Cond.instanceMethod yX7_codeOf, Cond.selects RX7 yX7_codeOf yX7_codeOf, Cond.code yX7_codeOf cX7_codeOf 3 (some .int), Cond.methodLink RL 40 yX6_code, Cond.instanceMethod yX6_code, Cond.selects RX6 yX6_code yX6_code, Cond.code yX6_code cX6_code 1 (some .int), Cond.methodLink RL 43 yX7_code, Cond.instanceMethod yX7_code]
def wsL_law_r16 : List Cond := [Cond.selects RX7 yX7_code yX7_code, Cond.code yX7_code cX7_code 1 (some .int), Cond.methodLink RL 44 yX6_turn, Cond.instanceMethod yX6_turn, Cond.selects RX6 yX6_turn yX6_turn, Cond.code yX6_turn cX6_turn 3 (some .int), Cond.methodLink RX6 110 yX1_hasState, Cond.instanceMethod yX1_hasState, Cond.selects RX1 yX1_hasState yX1_hasState, Cond.code yX1_hasState cX1_hasState 2 (some .boolean), Cond.methodLink RL 47 yX7_turn, Cond.instanceMethod yX7_turn, Cond.selects RX7 yX7_turn yX7_turn, Cond.code yX7_turn cX7_turn 3 (some .int), Cond.methodLink RX7 160 yX7_code, Cond.methodLink RX7 163 yX7_valuesOf, Cond.instanceMethod yX7_valuesOf, Cond.selects RX7 yX7_valuesOf yX7_valuesOf, Cond.code yX7_valuesOf cX7_valuesOf 3 none, Cond.methodLink RX7 144 yX7_rowOf, Cond.instanceMethod yX7_rowOf, Cond.selects RX7 yX7_rowOf yX7_rowOf, Cond.code yX7_rowOf cX7_rowOf 4 none, Cond.methodLink RL 48 yX6_wired]
def wsL_law_r17 : List Cond := [Cond.instanceMethod yX6_wired, Cond.selects RX6 yX6_wired yX6_wired, Cond.code yX6_wired cX6_wired 3 (some .int), Cond.methodLink RX6 113 yX1_sees, Cond.instanceMethod yX1_sees, Cond.selects RX1 yX1_sees yX1_sees, Cond.code yX1_sees cX1_sees 3 (some .boolean), Cond.methodLink RX1 72 yX1_aheadOf, Cond.instanceMethod yX1_aheadOf, Cond.selects RX1 yX1_aheadOf yX1_aheadOf, Cond.code yX1_aheadOf cX1_aheadOf 2 (some .int), Cond.methodLink RL 51 yX7_wired, Cond.instanceMethod yX7_wired, Cond.selects RX7 yX7_wired yX7_wired, Cond.code yX7_wired cX7_wired 3 (some .int), Cond.methodLink RL 52 yX6_may, Cond.instanceMethod yX6_may, Cond.selects RX6 yX6_may yX6_may, Cond.code yX6_may cX6_may 2 (some .int), Cond.methodLink RX6 117 yX1_ruleOf, Cond.instanceMethod yX1_ruleOf, Cond.selects RX1 yX1_ruleOf yX1_ruleOf, Cond.code yX1_ruleOf cX1_ruleOf 5 (some .int), Cond.methodLink RX1 103 yX1_wants]
def wsL_law_r18 : List Cond := [Cond.instanceMethod yX1_wants, Cond.selects RX1 yX1_wants yX1_wants, Cond.code yX1_wants cX1_wants 3 (some .int), Cond.methodLink RX1 75 yX1_counterWants, Cond.instanceMethod yX1_counterWants, Cond.selects RX1 yX1_counterWants yX1_counterWants, Cond.code yX1_counterWants cX1_counterWants 5 (some .int), Cond.methodLink RX1 78 yX1_pointerWants, Cond.instanceMethod yX1_pointerWants, Cond.selects RX1 yX1_pointerWants yX1_pointerWants, Cond.code yX1_pointerWants cX1_pointerWants 6 (some .int), Cond.methodLink RX1 87 yX1_lowestLinkedWith, Cond.instanceMethod yX1_lowestLinkedWith, Cond.selects RX1 yX1_lowestLinkedWith yX1_lowestLinkedWith, Cond.code yX1_lowestLinkedWith cX1_lowestLinkedWith 5 (some .int), Cond.methodLink RX1 81 yX1_distanceWants, Cond.instanceMethod yX1_distanceWants, Cond.selects RX1 yX1_distanceWants yX1_distanceWants, Cond.code yX1_distanceWants cX1_distanceWants 5 (some .int), Cond.methodLink RX1 90 Lib.Math.min.name, Cond.static Lib.Math.min.name, Cond.initialized "java/lang/Math", Cond.code Lib.Math.min.name Lib.Math.min.code 2 (some .int), Cond.methodLink RX1 84 yX1_colourWants]
def wsL_law_r19 : List Cond := [Cond.instanceMethod yX1_colourWants, Cond.selects RX1 yX1_colourWants yX1_colourWants, Cond.code yX1_colourWants cX1_colourWants 5 (some .int), Cond.methodLink RX1 95 yX0_has, Cond.static yX0_has, Cond.initialized RX0, Cond.code yX0_has cX0_has 2 (some .boolean), Cond.methodLink RX1 100 yX0_indexOf, Cond.static yX0_indexOf, Cond.code yX0_indexOf cX0_indexOf 1 (some .int), Cond.methodLink RX0 7 yX0_lowest, Cond.static yX0_lowest, Cond.code yX0_lowest cX0_lowest 1 (some .int), Cond.methodLink RX0 13 yJ6_bitCount_0f7a4, Cond.methodLink RL 55 yX7_may, Cond.instanceMethod yX7_may, Cond.selects RX7 yX7_may yX7_may, Cond.code yX7_may cX7_may 2 (some .int), Cond.fieldLink RX7 120 "HomingNetsModel" "rule" "I", Cond.methodLink RX7 138 yX7_becomesOf, Cond.instanceMethod yX7_becomesOf, Cond.selects RX7 yX7_becomesOf yX7_becomesOf, Cond.code yX7_becomesOf cX7_becomesOf 2 (some .int), Cond.methodLink RX7 126 yX7_counters]
def wsL_law_r20 : List Cond := [Cond.instanceMethod yX7_counters, Cond.selects RX7 yX7_counters yX7_counters, Cond.code yX7_counters cX7_counters 3 (some .int), Cond.methodLink RX7 129 yX7_pointers, Cond.instanceMethod yX7_pointers, Cond.selects RX7 yX7_pointers yX7_pointers, Cond.code yX7_pointers cX7_pointers 4 (some .int), Cond.methodLink RX7 116 yX7_isWired, Cond.instanceMethod yX7_isWired, Cond.selects RX7 yX7_isWired yX7_isWired, Cond.code yX7_isWired cX7_isWired 3 (some .boolean), Cond.methodLink RX7 123 yX7_lowest, Cond.instanceMethod yX7_lowest, Cond.selects RX7 yX7_lowest yX7_lowest, Cond.code yX7_lowest cX7_lowest 4 (some .int), Cond.methodLink RX7 132 yX7_distances, Cond.instanceMethod yX7_distances, Cond.selects RX7 yX7_distances yX7_distances, Cond.code yX7_distances cX7_distances 4 (some .int), Cond.methodLink RX7 135 yX7_colours, Cond.instanceMethod yX7_colours, Cond.selects RX7 yX7_colours yX7_colours, Cond.code yX7_colours cX7_colours 3 (some .int), Cond.methodLink RL 56 yX6_becomes]
def wsL_law_r21 : List Cond := [Cond.instanceMethod yX6_becomes, Cond.selects RX6 yX6_becomes yX6_becomes, Cond.code yX6_becomes cX6_becomes 2 (some .int), Cond.methodLink RX6 120 yX1_wants, Cond.methodLink RL 59 yX7_becomes, Cond.instanceMethod yX7_becomes, Cond.selects RX7 yX7_becomes yX7_becomes, Cond.code yX7_becomes cX7_becomes 3 (some .int), Cond.methodLink RL 60 yX6_move, Cond.instanceMethod yX6_move, Cond.selects RX6 yX6_move yX6_move, Cond.code yX6_move cX6_move 3 (some .int), Cond.methodLink RL 63 yX7_move, Cond.instanceMethod yX7_move, Cond.selects RX7 yX7_move yX7_move, Cond.code yX7_move cX7_move 3 (some .int), Cond.methodLink RL 64 yX6_tokens, Cond.instanceMethod yX6_tokens, Cond.selects RX6 yX6_tokens yX6_tokens, Cond.code yX6_tokens cX6_tokens 1 (some .int), Cond.methodLink RX6 123 yX1_whoMay, Cond.instanceMethod yX1_whoMay, Cond.selects RX1 yX1_whoMay yX1_whoMay, Cond.code yX1_whoMay cX1_whoMay 4 (some .int)]
def wsL_law_r22 : List Cond := [Cond.methodLink RL 67 yX7_tokens, Cond.instanceMethod yX7_tokens, Cond.selects RX7 yX7_tokens yX7_tokens, Cond.code yX7_tokens cX7_tokens 1 (some .int), Cond.methodLink RX7 141 yX7_tokensOf, Cond.instanceMethod yX7_tokensOf, Cond.selects RX7 yX7_tokensOf yX7_tokensOf, Cond.code yX7_tokensOf cX7_tokensOf 3 (some .int), Cond.methodLink RL 68 yX6_legal, Cond.instanceMethod yX6_legal, Cond.selects RX6 yX6_legal yX6_legal, Cond.code yX6_legal cX6_legal 1 (some .int), Cond.methodLink RX6 127 yX1_isLegal, Cond.instanceMethod yX1_isLegal, Cond.selects RX1 yX1_isLegal yX1_isLegal, Cond.code yX1_isLegal cX1_isLegal 3 (some .boolean), Cond.methodLink RX1 106 yX1_whoMay, Cond.methodLink RL 71 yX7_legal, Cond.instanceMethod yX7_legal, Cond.selects RX7 yX7_legal yX7_legal, Cond.code yX7_legal cX7_legal 1 (some .int), Cond.methodLink RX7 166 yX7_isLegal, Cond.instanceMethod yX7_isLegal, Cond.selects RX7 yX7_isLegal yX7_isLegal]
def wsL_law_r23 : List Cond := [Cond.code yX7_isLegal cX7_isLegal 2 (some .boolean), Cond.methodLink RL 72 yX6_mate, Cond.instanceMethod yX6_mate, Cond.selects RX6 yX6_mate yX6_mate, Cond.code yX6_mate cX6_mate 2 (some .int), Cond.fieldLink RX6 130 "HomingNets$Net" "kind" "I", Cond.methodLink RX6 133 yX1_matchOf, Cond.instanceMethod yX1_matchOf, Cond.selects RX1 yX1_matchOf yX1_matchOf, Cond.code yX1_matchOf cX1_matchOf 5 (some .int), Cond.methodLink RX6 136 yX1_parentOf, Cond.instanceMethod yX1_parentOf, Cond.selects RX1 yX1_parentOf yX1_parentOf, Cond.code yX1_parentOf cX1_parentOf 3 (some .int), Cond.methodLink RL 75 yX7_mate, Cond.instanceMethod yX7_mate, Cond.selects RX7 yX7_mate yX7_mate, Cond.code yX7_mate cX7_mate 3 (some .int), Cond.methodLink RL 76 yX6_undo, Cond.instanceMethod yX6_undo, Cond.selects RX6 yX6_undo yX6_undo, Cond.code yX6_undo cX6_undo 1 (some .int), Cond.methodLink RX6 139 yX2_size, Cond.instanceMethod yX2_size]
def wsL_law_r24 : List Cond := [Cond.selects RX2 yX2_size yX2_size, Cond.code yX2_size cX2_size 1 (some .int), Cond.methodLink RX6 142 yX2_lastState, Cond.instanceMethod yX2_lastState, Cond.selects RX2 yX2_lastState yX2_lastState, Cond.code yX2_lastState cX2_lastState 1 (some .int), Cond.methodLink RX6 145 yX2_lastMover, Cond.instanceMethod yX2_lastMover, Cond.selects RX2 yX2_lastMover yX2_lastMover, Cond.code yX2_lastMover cX2_lastMover 1 (some .int), Cond.methodLink RX6 148 yX2_drop, Cond.instanceMethod yX2_drop, Cond.selects RX2 yX2_drop yX2_drop, Cond.code yX2_drop cX2_drop 1 none, Cond.methodLink RL 79 yX7_undo, Cond.instanceMethod yX7_undo, Cond.selects RX7 yX7_undo yX7_undo, Cond.code yX7_undo cX7_undo 1 (some .int), Cond.methodLink RL 80 yX6_run, Cond.instanceMethod yX6_run, Cond.selects RX6 yX6_run yX6_run, Cond.code yX6_run cX6_run 9 (some .int), Cond.methodLink RX6 155 yX4_make, Cond.instanceMethod yX4_make]
def wsL_law_r25 : List Cond := [Cond.selects RX4 yX4_make yX4_make, Cond.code yX4_make cX4_make 3 none, Cond.fieldLink RX4 34 "HomingNets$Net" "states" "I", Cond.methodLink RX4 40 Lib.Math.min.name, Cond.fieldLink RX4 46 "HomingNets$Survey" "states" "I", Cond.methodLink RX4 47 yX4_noteMoves, Cond.instanceMethod yX4_noteMoves, Cond.selects RX4 yX4_noteMoves yX4_noteMoves, Cond.code yX4_noteMoves cX4_noteMoves 7 none, Cond.fieldLink RX4 55 "HomingNets$Net" "machines" "I", Cond.fieldLink RX4 70 "HomingNets$Net" "kind" "I", Cond.methodLink RX4 58 yX1_wants, Cond.methodLink RX4 61 yX1_valueAt, Cond.methodLink RX4 64 yX3_put, Cond.methodLink RX4 51 yX4_spread, Cond.instanceMethod yX4_spread, Cond.selects RX4 yX4_spread yX4_spread, Cond.code yX4_spread cX4_spread 8 none, Cond.methodLink RX4 73 yX3_at, Cond.methodLink RX4 77 yX4_spreadBy, Cond.instanceMethod yX4_spreadBy, Cond.selects RX4 yX4_spreadBy yX4_spreadBy, Cond.code yX4_spreadBy cX4_spreadBy 12 (some .int), Cond.fieldLink RX4 81 "HomingNets$Net" "range" "I"]
def wsL_law_r26 : List Cond := [Cond.methodLink RX4 84 yX1_withValue, Cond.methodLink RX4 88 yX4_reaches, Cond.instanceMethod yX4_reaches, Cond.selects RX4 yX4_reaches yX4_reaches, Cond.code yX4_reaches cX4_reaches 6 (some .boolean), Cond.methodLink RX4 92 yX4_wantedBy, Cond.instanceMethod yX4_wantedBy, Cond.selects RX4 yX4_wantedBy yX4_wantedBy, Cond.code yX4_wantedBy cX4_wantedBy 3 (some .int), Cond.methodLink RX6 158 yX6_drawOf, Cond.static yX6_drawOf, Cond.code yX6_drawOf cX6_drawOf 4 (some .int), Cond.constantLong RX6 193 (7919), Cond.constantLong RX6 195 (6151), Cond.constantLong RX6 197 (65521), Cond.methodLink RX6 161 yX6_moversOf, Cond.instanceMethod yX6_moversOf, Cond.selects RX6 yX6_moversOf yX6_moversOf, Cond.code yX6_moversOf cX6_moversOf 6 (some .int), Cond.fieldLink RX6 204 "HomingNets$Net" "machines" "I", Cond.methodLink RX6 199 yX0_lowest, Cond.methodLink RX6 207 yX0_nextInRing, Cond.static yX0_nextInRing, Cond.code yX0_nextInRing cX0_nextInRing 4 (some .int)]
def wsL_law_r27 : List Cond := [Cond.methodLink RX6 210 yX0_drawn, Cond.static yX0_drawn, Cond.code yX0_drawn cX0_drawn 5 (some .int), Cond.methodLink RX6 213 yX6_cruellest, Cond.instanceMethod yX6_cruellest, Cond.selects RX6 yX6_cruellest yX6_cruellest, Cond.code yX6_cruellest cX6_cruellest 7 (some .int), Cond.methodLink RX6 216 yX0_has, Cond.methodLink RX6 219 yX4_behind, Cond.instanceMethod yX4_behind, Cond.selects RX4 yX4_behind yX4_behind, Cond.code yX4_behind cX4_behind 4 (some .int), Cond.methodLink RX6 223 yX4_worstOf, Cond.instanceMethod yX4_worstOf, Cond.selects RX4 yX4_worstOf yX4_worstOf, Cond.code yX4_worstOf cX4_worstOf 2 (some .int), Cond.methodLink RX6 226 yX4_rankOf, Cond.static yX4_rankOf, Cond.code yX4_rankOf cX4_rankOf 1 (some .int), Cond.constant RX4 103 (2147483647), Cond.methodLink RX6 165 yX6_lastBehind, Cond.static yX6_lastBehind, Cond.code yX6_lastBehind cX6_lastBehind 3 (some .int), Cond.methodLink RX6 229 yX0_indexOf]
def wsL_law_r28 : List Cond := [Cond.methodLink RX6 168 yX1_moved, Cond.instanceMethod yX1_moved, Cond.selects RX1 yX1_moved yX1_moved, Cond.code yX1_moved cX1_moved 5 (some .int), Cond.methodLink RL 84 yX7_run, Cond.instanceMethod yX7_run, Cond.selects RX7 yX7_run yX7_run, Cond.code yX7_run cX7_run 7 (some .int), Cond.methodLink RX7 205 yX7_chooses, Cond.instanceMethod yX7_chooses, Cond.selects RX7 yX7_chooses yX7_chooses, Cond.code yX7_chooses cX7_chooses 9 (some .int), Cond.methodLink RX7 198 yX7_cruel, Cond.instanceMethod yX7_cruel, Cond.selects RX7 yX7_cruel yX7_cruel, Cond.code yX7_cruel cX7_cruel 7 (some .int), Cond.constant RX7 191 (1000000), Cond.methodLink RX7 185 yX7_measures, Cond.instanceMethod yX7_measures, Cond.selects RX7 yX7_measures yX7_measures, Cond.code yX7_measures cX7_measures 3 none, Cond.methodLink RX7 176 yX7_worsts, Cond.instanceMethod yX7_worsts, Cond.selects RX7 yX7_worsts yX7_worsts]
def wsL_law_r29 : List Cond := [Cond.code yX7_worsts cX7_worsts 4 none, Cond.methodLink RX7 170 yX7_worstBehind, Cond.instanceMethod yX7_worstBehind, Cond.selects RX7 yX7_worstBehind yX7_worstBehind, Cond.code yX7_worstBehind cX7_worstBehind 6 (some .int), Cond.methodLink RX7 179 yX7_bests, Cond.instanceMethod yX7_bests, Cond.selects RX7 yX7_bests yX7_bests, Cond.code yX7_bests cX7_bests 4 none, Cond.methodLink RX7 173 yX7_leadsTo, Cond.instanceMethod yX7_leadsTo, Cond.selects RX7 yX7_leadsTo yX7_leadsTo, Cond.code yX7_leadsTo cX7_leadsTo 5 (some .boolean), Cond.methodLink RX7 182 yX7_isHitTo, Cond.instanceMethod yX7_isHitTo, Cond.selects RX7 yX7_isHitTo yX7_isHitTo, Cond.code yX7_isHitTo cX7_isHitTo 6 (some .boolean), Cond.methodLink RX7 201 yX7_drawn, Cond.static yX7_drawn, Cond.code yX7_drawn cX7_drawn 4 (some .long), Cond.constantLong RX7 192 (7919), Cond.constantLong RX7 194 (6151), Cond.constantLong RX7 196 (65521), Cond.methodLink RX7 209 yX7_lowestBit]
def wsL_law_r30 : List Cond := [Cond.static yX7_lowestBit, Cond.code yX7_lowestBit cX7_lowestBit 2 (some .int), Cond.methodLink RX7 212 yX7_moves, Cond.instanceMethod yX7_moves, Cond.selects RX7 yX7_moves yX7_moves, Cond.code yX7_moves cX7_moves 3 none, Cond.methodLink RL 85 yX6_next, Cond.instanceMethod yX6_next, Cond.selects RX6 yX6_next yX6_next, Cond.code yX6_next cX6_next 2 (some .int), Cond.methodLink RL 88 yX7_next, Cond.instanceMethod yX7_next, Cond.selects RX7 yX7_next yX7_next, Cond.code yX7_next cX7_next 2 (some .int), Cond.methodLink RL 89 yX6_loop, Cond.instanceMethod yX6_loop, Cond.selects RX6 yX6_loop yX6_loop, Cond.code yX6_loop cX6_loop 7 (some .int), Cond.methodLink RX6 171 yX4_clearedSpare, Cond.instanceMethod yX4_clearedSpare, Cond.selects RX4 yX4_clearedSpare yX4_clearedSpare, Cond.code yX4_clearedSpare cX4_clearedSpare 1 (some (.array .int)), Cond.methodLink RX4 95 yJ7_fill_53178, Cond.static yJ7_fill_53178]
def wsL_law_r31 : List Cond := [Cond.initialized RJ7, Cond.code yJ7_fill_53178 cJ7_fill_53178 4 none, Cond.methodLink RX6 175 yX3_at, Cond.methodLink RX6 181 yX3_put, Cond.methodLink RL 92 yX7_loop, Cond.instanceMethod yX7_loop, Cond.selects RX7 yX7_loop yX7_loop, Cond.code yX7_loop cX7_loop 10 (some .int), Cond.methodLink RX7 215 yX7_follows, Cond.instanceMethod yX7_follows, Cond.selects RX7 yX7_follows yX7_follows, Cond.code yX7_follows cX7_follows 3 (some .int), Cond.methodLink RL 93 yX6_storm, Cond.instanceMethod yX6_storm, Cond.selects RX6 yX6_storm yX6_storm, Cond.code yX6_storm cX6_storm 13 (some .int), Cond.methodLink RX6 188 Lib.Math.max.name, Cond.static Lib.Math.max.name, Cond.code Lib.Math.max.name Lib.Math.max.code 2 (some .int), Cond.methodLink RX6 185 yX1_struck, Cond.instanceMethod yX1_struck, Cond.selects RX1 yX1_struck yX1_struck, Cond.code yX1_struck cX1_struck 3 (some .int), Cond.methodLink RL 97 yX7_storm]
def wsL_law_r32 : List Cond := [Cond.instanceMethod yX7_storm, Cond.selects RX7 yX7_storm yX7_storm, Cond.code yX7_storm cX7_storm 12 (some .int), Cond.methodLink RL 98 yX6_state, Cond.instanceMethod yX6_state, Cond.selects RX6 yX6_state yX6_state, Cond.code yX6_state cX6_state 3 (some .int), Cond.methodLink RX6 232 yX4_hitsOf, Cond.instanceMethod yX4_hitsOf, Cond.selects RX4 yX4_hitsOf yX4_hitsOf, Cond.code yX4_hitsOf cX4_hitsOf 2 (some .int), Cond.methodLink RX6 235 yX4_bestOf, Cond.instanceMethod yX4_bestOf, Cond.selects RX4 yX4_bestOf yX4_bestOf, Cond.code yX4_bestOf cX4_bestOf 2 (some .int), Cond.methodLink RL 101 yX7_state, Cond.instanceMethod yX7_state, Cond.selects RX7 yX7_state yX7_state, Cond.code yX7_state cX7_state 3 (some .int), Cond.methodLink RL 102 yX6_all, Cond.instanceMethod yX6_all, Cond.selects RX6 yX6_all yX6_all, Cond.code yX6_all cX6_all 2 (some .int), Cond.methodLink RX6 238 yX4_legalStates]
def wsL_law_r33 : List Cond := [Cond.instanceMethod yX4_legalStates, Cond.selects RX4 yX4_legalStates yX4_legalStates, Cond.code yX4_legalStates cX4_legalStates 1 (some .int), Cond.methodLink RX4 104 yX4_countOf, Cond.instanceMethod yX4_countOf, Cond.selects RX4 yX4_countOf yX4_countOf, Cond.code yX4_countOf cX4_countOf 5 (some .int), Cond.methodLink RX6 241 yX4_endlessStates, Cond.instanceMethod yX4_endlessStates, Cond.selects RX4 yX4_endlessStates yX4_endlessStates, Cond.code yX4_endlessStates cX4_endlessStates 1 (some .int), Cond.methodLink RX6 244 yX4_greatestWorst, Cond.instanceMethod yX4_greatestWorst, Cond.selects RX4 yX4_greatestWorst yX4_greatestWorst, Cond.code yX4_greatestWorst cX4_greatestWorst 1 (some .int), Cond.methodLink RX4 107 yX4_greatestOf, Cond.instanceMethod yX4_greatestOf, Cond.selects RX4 yX4_greatestOf yX4_greatestOf, Cond.code yX4_greatestOf cX4_greatestOf 4 (some .int), Cond.methodLink RX4 111 Lib.Math.max.name, Cond.methodLink RX6 247 yX4_lowestOfGreatestWorst, Cond.instanceMethod yX4_lowestOfGreatestWorst, Cond.selects RX4 yX4_lowestOfGreatestWorst yX4_lowestOfGreatestWorst, Cond.code yX4_lowestOfGreatestWorst cX4_lowestOfGreatestWorst 3 (some .int)]
def wsL_law_r34 : List Cond := [Cond.methodLink RX4 114 yX4_greatestWorst, Cond.methodLink RX4 118 yX4_worstOf, Cond.methodLink RX6 250 yX4_movesOutOfLegal, Cond.instanceMethod yX4_movesOutOfLegal, Cond.selects RX4 yX4_movesOutOfLegal yX4_movesOutOfLegal, Cond.code yX4_movesOutOfLegal cX4_movesOutOfLegal 4 (some .int), Cond.methodLink RX4 122 yX4_movesOutOf, Cond.instanceMethod yX4_movesOutOf, Cond.selects RX4 yX4_movesOutOf yX4_movesOutOf, Cond.code yX4_movesOutOf cX4_movesOutOf 5 (some .int), Cond.methodLink RX4 126 yX4_behind, Cond.methodLink RX6 253 yX4_sumOfWorsts, Cond.instanceMethod yX4_sumOfWorsts, Cond.selects RX4 yX4_sumOfWorsts yX4_sumOfWorsts, Cond.code yX4_sumOfWorsts cX4_sumOfWorsts 3 (some .int), Cond.methodLink RX6 256 yX4_greatestBest, Cond.instanceMethod yX4_greatestBest, Cond.selects RX4 yX4_greatestBest yX4_greatestBest, Cond.code yX4_greatestBest cX4_greatestBest 1 (some .int), Cond.methodLink RL 105 yX7_all, Cond.instanceMethod yX7_all, Cond.selects RX7 yX7_all yX7_all, Cond.code yX7_all cX7_all 10 (some .int), Cond.methodLink RX7 188 yX7_leaves]
def wsL_law_r35 : List Cond := [Cond.instanceMethod yX7_leaves, Cond.selects RX7 yX7_leaves yX7_leaves, Cond.code yX7_leaves cX7_leaves 5 (some .int), Cond.methodLink RL 106 yX6_within, Cond.instanceMethod yX6_within, Cond.selects RX6 yX6_within yX6_within, Cond.code yX6_within cX6_within 4 (some .int), Cond.methodLink RX6 259 yX4_statesWithin, Cond.instanceMethod yX4_statesWithin, Cond.selects RX4 yX4_statesWithin yX4_statesWithin, Cond.code yX4_statesWithin cX4_statesWithin 4 (some .int), Cond.methodLink RX4 130 yX4_isWithin, Cond.instanceMethod yX4_isWithin, Cond.selects RX4 yX4_isWithin yX4_isWithin, Cond.code yX4_isWithin cX4_isWithin 3 (some .boolean), Cond.methodLink RX4 137 yX4_hitsOf, Cond.methodLink RX6 262 yX4_greatestWorstWithin, Cond.instanceMethod yX4_greatestWorstWithin, Cond.selects RX4 yX4_greatestWorstWithin yX4_greatestWorstWithin, Cond.code yX4_greatestWorstWithin cX4_greatestWorstWithin 4 (some .int), Cond.methodLink RX4 134 yX4_rankOf, Cond.methodLink RL 109 yX7_within, Cond.instanceMethod yX7_within, Cond.selects RX7 yX7_within yX7_within]
def wsL_law_r36 : List Cond := [Cond.code yX7_within cX7_within 7 (some .int), Cond.methodLink RL 110 yX6_count, Cond.instanceMethod yX6_count, Cond.selects RX6 yX6_count yX6_count, Cond.code yX6_count cX6_count 2 (some .int), Cond.fieldLink RX6 265 "HomingNets$Net" "range" "I", Cond.fieldLink RX6 268 "HomingNets$Net" "wires" "I", Cond.methodLink RL 113 yX7_count, Cond.instanceMethod yX7_count, Cond.selects RX7 yX7_count yX7_count, Cond.code yX7_count cX7_count 2 (some .int)]
def wsL_law : List Cond := (wsL_law_r1 ++ (wsL_law_r2 ++ (wsL_law_r3 ++ (wsL_law_r4 ++ (wsL_law_r5 ++ (wsL_law_r6 ++ (wsL_law_r7 ++ (wsL_law_r8 ++ (wsL_law_r9 ++ (wsL_law_r10 ++ (wsL_law_r11 ++ (wsL_law_r12 ++ (wsL_law_r13 ++ (wsL_law_r14 ++ (wsL_law_r15 ++ (wsL_law_r16 ++ (wsL_law_r17 ++ (wsL_law_r18 ++ (wsL_law_r19 ++ (wsL_law_r20 ++ (wsL_law_r21 ++ (wsL_law_r22 ++ (wsL_law_r23 ++ (wsL_law_r24 ++ (wsL_law_r25 ++ (wsL_law_r26 ++ (wsL_law_r27 ++ (wsL_law_r28 ++ (wsL_law_r29 ++ (wsL_law_r30 ++ (wsL_law_r31 ++ (wsL_law_r32 ++ (wsL_law_r33 ++ (wsL_law_r34 ++ (wsL_law_r35 ++ wsL_law_r36))))))))))))))))))))))))))))))))))) ++ wsX60 ++ wsX70 ++ wsX50 ++ wsX10 ++ wsX40 ++ wsX20 ++ ([] : List Cond)
abbrev vwCl : List vw_C := [(RX1, TX1, 8), (RX2, TX2, 3), (RX4, TX4, 8), (RX5, TX5, 2), (RX6, TX6, 7), (RX7, TX7, 27)]
end
section
theorem dX0_has_0 : decode cX0_has 0 = .ok (.iload_n 0, 1) := by decide +kernel
theorem dX0_has_1 : decode cX0_has 1 = .ok (.iload_n 1, 1) := by decide +kernel
theorem dX0_has_2 : decode cX0_has 2 = .ok (.ishr, 1) := by decide +kernel
theorem dX0_has_3 : decode cX0_has 3 = .ok (.iconst 1, 1) := by decide +kernel
theorem dX0_has_4 : decode cX0_has 4 = .ok (.iand, 1) := by decide +kernel
theorem dX0_has_5 : decode cX0_has 5 = .ok (.iconst 1, 1) := by decide +kernel
theorem dX0_has_6 : decode cX0_has 6 = .ok (.if_icmp .ne 7, 3) := by decide +kernel
theorem dX0_has_9 : decode cX0_has 9 = .ok (.iconst 1, 1) := by decide +kernel
theorem dX0_has_10 : decode cX0_has 10 = .ok (.goto 4, 3) := by decide +kernel
theorem dX0_has_13 : decode cX0_has 13 = .ok (.iconst 0, 1) := by decide +kernel
theorem dX0_has_14 : decode cX0_has 14 = .ok (.ireturn, 1) := by decide +kernel
theorem dX0_lowest_0 : decode cX0_lowest 0 = .ok (.iload_n 0, 1) := by decide +kernel
theorem dX0_lowest_1 : decode cX0_lowest 1 = .ok (.iload_n 0, 1) := by decide +kernel
theorem dX0_lowest_2 : decode cX0_lowest 2 = .ok (.ineg, 1) := by decide +kernel
theorem dX0_lowest_3 : decode cX0_lowest 3 = .ok (.iand, 1) := by decide +kernel
theorem dX0_lowest_4 : decode cX0_lowest 4 = .ok (.ireturn, 1) := by decide +kernel
theorem dX0_indexOf_0 : decode cX0_indexOf 0 = .ok (.iload_n 0, 1) := by decide +kernel
theorem dX0_indexOf_1 : decode cX0_indexOf 1 = .ok (.invokestatic 7, 3) := by decide +kernel
theorem dX0_indexOf_4 : decode cX0_indexOf 4 = .ok (.iconst 1, 1) := by decide +kernel
theorem dX0_indexOf_5 : decode cX0_indexOf 5 = .ok (.isub, 1) := by decide +kernel
theorem dX0_indexOf_6 : decode cX0_indexOf 6 = .ok (.invokestatic 13, 3) := by decide +kernel
theorem dX0_indexOf_9 : decode cX0_indexOf 9 = .ok (.ireturn, 1) := by decide +kernel
theorem dX0_nextInRing_0 : decode cX0_nextInRing 0 = .ok (.iload_n 1, 1) := by decide +kernel
theorem dX0_nextInRing_1 : decode cX0_nextInRing 1 = .ok (.ifCond .ge 8, 3) := by decide +kernel
theorem dX0_nextInRing_4 : decode cX0_nextInRing 4 = .ok (.iload_n 0, 1) := by decide +kernel
theorem dX0_nextInRing_5 : decode cX0_nextInRing 5 = .ok (.invokestatic 7, 3) := by decide +kernel
theorem dX0_nextInRing_8 : decode cX0_nextInRing 8 = .ok (.ireturn, 1) := by decide +kernel
theorem dX0_nextInRing_9 : decode cX0_nextInRing 9 = .ok (.iload_n 0, 1) := by decide +kernel
theorem dX0_nextInRing_10 : decode cX0_nextInRing 10 = .ok (.iload_n 1, 1) := by decide +kernel
theorem dX0_nextInRing_11 : decode cX0_nextInRing 11 = .ok (.iconst 1, 1) := by decide +kernel
theorem dX0_nextInRing_12 : decode cX0_nextInRing 12 = .ok (.iadd, 1) := by decide +kernel
theorem dX0_nextInRing_13 : decode cX0_nextInRing 13 = .ok (.ishr, 1) := by decide +kernel
theorem dX0_nextInRing_14 : decode cX0_nextInRing 14 = .ok (.iload_n 1, 1) := by decide +kernel
theorem dX0_nextInRing_15 : decode cX0_nextInRing 15 = .ok (.iconst 1, 1) := by decide +kernel
theorem dX0_nextInRing_16 : decode cX0_nextInRing 16 = .ok (.iadd, 1) := by decide +kernel
theorem dX0_nextInRing_17 : decode cX0_nextInRing 17 = .ok (.ishl, 1) := by decide +kernel
theorem dX0_nextInRing_18 : decode cX0_nextInRing 18 = .ok (.istore_n 3, 1) := by decide +kernel
theorem dX0_nextInRing_19 : decode cX0_nextInRing 19 = .ok (.iload_n 1, 1) := by decide +kernel
theorem dX0_nextInRing_20 : decode cX0_nextInRing 20 = .ok (.iload_n 2, 1) := by decide +kernel
theorem dX0_nextInRing_21 : decode cX0_nextInRing 21 = .ok (.if_icmp .ge 14, 3) := by decide +kernel
theorem dX0_nextInRing_24 : decode cX0_nextInRing 24 = .ok (.iload_n 3, 1) := by decide +kernel
theorem dX0_nextInRing_25 : decode cX0_nextInRing 25 = .ok (.ifCond .eq 10, 3) := by decide +kernel
theorem dX0_nextInRing_28 : decode cX0_nextInRing 28 = .ok (.iload_n 3, 1) := by decide +kernel
theorem dX0_nextInRing_29 : decode cX0_nextInRing 29 = .ok (.invokestatic 7, 3) := by decide +kernel
theorem dX0_nextInRing_32 : decode cX0_nextInRing 32 = .ok (.goto 7, 3) := by decide +kernel
theorem dX0_nextInRing_35 : decode cX0_nextInRing 35 = .ok (.iload_n 0, 1) := by decide +kernel
theorem dX0_nextInRing_36 : decode cX0_nextInRing 36 = .ok (.invokestatic 7, 3) := by decide +kernel
theorem dX0_nextInRing_39 : decode cX0_nextInRing 39 = .ok (.ireturn, 1) := by decide +kernel
theorem dX0_drawn_0 : decode cX0_drawn 0 = .ok (.iload_n 0, 1) := by decide +kernel
theorem dX0_drawn_1 : decode cX0_drawn 1 = .ok (.invokestatic 13, 3) := by decide +kernel
theorem dX0_drawn_4 : decode cX0_drawn 4 = .ok (.istore_n 2, 1) := by decide +kernel
theorem dX0_drawn_5 : decode cX0_drawn 5 = .ok (.iload_n 2, 1) := by decide +kernel
theorem dX0_drawn_6 : decode cX0_drawn 6 = .ok (.ifCond .ne 5, 3) := by decide +kernel
theorem dX0_drawn_9 : decode cX0_drawn 9 = .ok (.iconst 0, 1) := by decide +kernel
theorem dX0_drawn_10 : decode cX0_drawn 10 = .ok (.ireturn, 1) := by decide +kernel
theorem dX0_drawn_11 : decode cX0_drawn 11 = .ok (.iload_n 0, 1) := by decide +kernel
theorem dX0_drawn_12 : decode cX0_drawn 12 = .ok (.istore_n 3, 1) := by decide +kernel
theorem dX0_drawn_13 : decode cX0_drawn 13 = .ok (.iload_n 1, 1) := by decide +kernel
theorem dX0_drawn_14 : decode cX0_drawn 14 = .ok (.iload_n 2, 1) := by decide +kernel
theorem dX0_drawn_15 : decode cX0_drawn 15 = .ok (.irem, 1) := by decide +kernel
theorem dX0_drawn_16 : decode cX0_drawn 16 = .ok (.istore 4, 2) := by decide +kernel
theorem dX0_drawn_18 : decode cX0_drawn 18 = .ok (.iload 4, 2) := by decide +kernel
theorem dX0_drawn_20 : decode cX0_drawn 20 = .ok (.ifCond .le 16, 3) := by decide +kernel
theorem dX0_drawn_23 : decode cX0_drawn 23 = .ok (.iload_n 3, 1) := by decide +kernel
theorem dX0_drawn_24 : decode cX0_drawn 24 = .ok (.iload_n 3, 1) := by decide +kernel
theorem dX0_drawn_25 : decode cX0_drawn 25 = .ok (.invokestatic 7, 3) := by decide +kernel
theorem dX0_drawn_28 : decode cX0_drawn 28 = .ok (.isub, 1) := by decide +kernel
theorem dX0_drawn_29 : decode cX0_drawn 29 = .ok (.istore_n 3, 1) := by decide +kernel
theorem dX0_drawn_30 : decode cX0_drawn 30 = .ok (.iinc 4 (-1), 3) := by decide +kernel
theorem dX0_drawn_33 : decode cX0_drawn 33 = .ok (.goto (-15), 3) := by decide +kernel
theorem dX0_drawn_36 : decode cX0_drawn 36 = .ok (.iload_n 3, 1) := by decide +kernel
theorem dX0_drawn_37 : decode cX0_drawn 37 = .ok (.invokestatic 7, 3) := by decide +kernel
theorem dX0_drawn_40 : decode cX0_drawn 40 = .ok (.ireturn, 1) := by decide +kernel
theorem dX1_init_0 : decode cX1_init 0 = .ok (.aload_n 0, 1) := by decide +kernel
theorem dX1_init_1 : decode cX1_init 1 = .ok (.invokespecial 3, 3) := by decide +kernel
theorem dX1_init_4 : decode cX1_init 4 = .ok (.aload_n 0, 1) := by decide +kernel
theorem dX1_init_5 : decode cX1_init 5 = .ok (.bipush 6, 2) := by decide +kernel
theorem dX1_init_7 : decode cX1_init 7 = .ok (.newarray .int, 2) := by decide +kernel
theorem dX1_init_9 : decode cX1_init 9 = .ok (.putfield 9, 3) := by decide +kernel
theorem dX1_init_12 : decode cX1_init 12 = .ok (.aload_n 0, 1) := by decide +kernel
theorem dX1_init_13 : decode cX1_init 13 = .ok (.bipush 6, 2) := by decide +kernel
theorem dX1_init_15 : decode cX1_init 15 = .ok (.newarray .int, 2) := by decide +kernel
theorem dX1_init_17 : decode cX1_init 17 = .ok (.putfield 15, 3) := by decide +kernel
theorem dX1_init_20 : decode cX1_init 20 = .ok (.return_, 1) := by decide +kernel
theorem dX1_begin_0 : decode cX1_begin 0 = .ok (.iload_n 1, 1) := by decide +kernel
theorem dX1_begin_1 : decode cX1_begin 1 = .ok (.iconst 1, 1) := by decide +kernel
theorem dX1_begin_2 : decode cX1_begin 2 = .ok (.if_icmp .lt 30, 3) := by decide +kernel
theorem dX1_begin_5 : decode cX1_begin 5 = .ok (.iload_n 1, 1) := by decide +kernel
theorem dX1_begin_6 : decode cX1_begin 6 = .ok (.iconst 4, 1) := by decide +kernel
theorem dX1_begin_7 : decode cX1_begin 7 = .ok (.if_icmp .gt 25, 3) := by decide +kernel
theorem dX1_begin_10 : decode cX1_begin 10 = .ok (.iload_n 2, 1) := by decide +kernel
theorem dX1_begin_11 : decode cX1_begin 11 = .ok (.iconst 2, 1) := by decide +kernel
theorem dX1_begin_12 : decode cX1_begin 12 = .ok (.if_icmp .lt 20, 3) := by decide +kernel
theorem dX1_begin_15 : decode cX1_begin 15 = .ok (.iload_n 2, 1) := by decide +kernel
theorem dX1_begin_16 : decode cX1_begin 16 = .ok (.bipush 6, 2) := by decide +kernel
theorem dX1_begin_18 : decode cX1_begin 18 = .ok (.if_icmp .gt 14, 3) := by decide +kernel
theorem dX1_begin_21 : decode cX1_begin 21 = .ok (.iload_n 3, 1) := by decide +kernel
theorem dX1_begin_22 : decode cX1_begin 22 = .ok (.iconst 2, 1) := by decide +kernel
theorem dX1_begin_23 : decode cX1_begin 23 = .ok (.if_icmp .lt 9, 3) := by decide +kernel
theorem dX1_begin_26 : decode cX1_begin 26 = .ok (.iload_n 3, 1) := by decide +kernel
theorem dX1_begin_27 : decode cX1_begin 27 = .ok (.bipush 7, 2) := by decide +kernel
theorem dX1_begin_29 : decode cX1_begin 29 = .ok (.if_icmp .le 5, 3) := by decide +kernel
theorem dX1_begin_32 : decode cX1_begin 32 = .ok (.iconst 0, 1) := by decide +kernel
theorem dX1_begin_33 : decode cX1_begin 33 = .ok (.ireturn, 1) := by decide +kernel
theorem dX1_begin_34 : decode cX1_begin 34 = .ok (.iload_n 1, 1) := by decide +kernel
theorem dX1_begin_35 : decode cX1_begin 35 = .ok (.iconst 2, 1) := by decide +kernel
theorem dX1_begin_36 : decode cX1_begin 36 = .ok (.if_icmp .ne 10, 3) := by decide +kernel
theorem dX1_begin_39 : decode cX1_begin 39 = .ok (.iload_n 3, 1) := by decide +kernel
theorem dX1_begin_40 : decode cX1_begin 40 = .ok (.iload_n 2, 1) := by decide +kernel
theorem dX1_begin_41 : decode cX1_begin 41 = .ok (.iconst 1, 1) := by decide +kernel
theorem dX1_begin_42 : decode cX1_begin 42 = .ok (.iadd, 1) := by decide +kernel
theorem dX1_begin_43 : decode cX1_begin 43 = .ok (.if_icmp .ne 13, 3) := by decide +kernel
theorem dX1_begin_46 : decode cX1_begin 46 = .ok (.iload_n 1, 1) := by decide +kernel
theorem dX1_begin_47 : decode cX1_begin 47 = .ok (.iconst 3, 1) := by decide +kernel
theorem dX1_begin_48 : decode cX1_begin 48 = .ok (.if_icmp .ne 10, 3) := by decide +kernel
theorem dX1_begin_51 : decode cX1_begin 51 = .ok (.iload_n 3, 1) := by decide +kernel
theorem dX1_begin_52 : decode cX1_begin 52 = .ok (.iload_n 2, 1) := by decide +kernel
theorem dX1_begin_53 : decode cX1_begin 53 = .ok (.if_icmp .ge 5, 3) := by decide +kernel
theorem dX1_begin_56 : decode cX1_begin 56 = .ok (.iconst 0, 1) := by decide +kernel
theorem dX1_begin_57 : decode cX1_begin 57 = .ok (.ireturn, 1) := by decide +kernel
theorem dX1_begin_58 : decode cX1_begin 58 = .ok (.iconst 1, 1) := by decide +kernel
theorem dX1_begin_59 : decode cX1_begin 59 = .ok (.istore 4, 2) := by decide +kernel
theorem dX1_begin_61 : decode cX1_begin 61 = .ok (.iconst 0, 1) := by decide +kernel
theorem dX1_begin_62 : decode cX1_begin 62 = .ok (.istore 5, 2) := by decide +kernel
theorem dX1_begin_64 : decode cX1_begin 64 = .ok (.iload 5, 2) := by decide +kernel
theorem dX1_begin_66 : decode cX1_begin 66 = .ok (.iload_n 2, 1) := by decide +kernel
theorem dX1_begin_67 : decode cX1_begin 67 = .ok (.if_icmp .ge 36, 3) := by decide +kernel
theorem dX1_begin_70 : decode cX1_begin 70 = .ok (.aload_n 0, 1) := by decide +kernel
theorem dX1_begin_71 : decode cX1_begin 71 = .ok (.getfield 9, 3) := by decide +kernel
theorem dX1_begin_74 : decode cX1_begin 74 = .ok (.iload 5, 2) := by decide +kernel
theorem dX1_begin_76 : decode cX1_begin 76 = .ok (.iconst 0, 1) := by decide +kernel
theorem dX1_begin_77 : decode cX1_begin 77 = .ok (.invokestatic 18, 3) := by decide +kernel
theorem dX1_begin_80 : decode cX1_begin 80 = .ok (.aload_n 0, 1) := by decide +kernel
theorem dX1_begin_81 : decode cX1_begin 81 = .ok (.getfield 15, 3) := by decide +kernel
theorem dX1_begin_84 : decode cX1_begin 84 = .ok (.iload 5, 2) := by decide +kernel
theorem dX1_begin_86 : decode cX1_begin 86 = .ok (.iload 4, 2) := by decide +kernel
theorem dX1_begin_88 : decode cX1_begin 88 = .ok (.invokestatic 18, 3) := by decide +kernel
theorem dX1_begin_91 : decode cX1_begin 91 = .ok (.iload 4, 2) := by decide +kernel
theorem dX1_begin_93 : decode cX1_begin 93 = .ok (.iload_n 3, 1) := by decide +kernel
theorem dX1_begin_94 : decode cX1_begin 94 = .ok (.imul, 1) := by decide +kernel
theorem dX1_begin_95 : decode cX1_begin 95 = .ok (.istore 4, 2) := by decide +kernel
theorem dX1_begin_97 : decode cX1_begin 97 = .ok (.iinc 5 1, 3) := by decide +kernel
theorem dX1_begin_100 : decode cX1_begin 100 = .ok (.goto (-36), 3) := by decide +kernel
theorem dX1_begin_103 : decode cX1_begin 103 = .ok (.aload_n 0, 1) := by decide +kernel
theorem dX1_begin_104 : decode cX1_begin 104 = .ok (.iload_n 1, 1) := by decide +kernel
theorem dX1_begin_105 : decode cX1_begin 105 = .ok (.putfield 24, 3) := by decide +kernel
theorem dX1_begin_108 : decode cX1_begin 108 = .ok (.aload_n 0, 1) := by decide +kernel
theorem dX1_begin_109 : decode cX1_begin 109 = .ok (.iload_n 2, 1) := by decide +kernel
theorem dX1_begin_110 : decode cX1_begin 110 = .ok (.putfield 28, 3) := by decide +kernel
theorem dX1_begin_113 : decode cX1_begin 113 = .ok (.aload_n 0, 1) := by decide +kernel
theorem dX1_begin_114 : decode cX1_begin 114 = .ok (.iload_n 3, 1) := by decide +kernel
theorem dX1_begin_115 : decode cX1_begin 115 = .ok (.putfield 31, 3) := by decide +kernel
theorem dX1_begin_118 : decode cX1_begin 118 = .ok (.aload_n 0, 1) := by decide +kernel
theorem dX1_begin_119 : decode cX1_begin 119 = .ok (.iload 4, 2) := by decide +kernel
theorem dX1_begin_121 : decode cX1_begin 121 = .ok (.putfield 34, 3) := by decide +kernel
theorem dX1_begin_124 : decode cX1_begin 124 = .ok (.aload_n 0, 1) := by decide +kernel
theorem dX1_begin_125 : decode cX1_begin 125 = .ok (.iconst 0, 1) := by decide +kernel
theorem dX1_begin_126 : decode cX1_begin 126 = .ok (.putfield 37, 3) := by decide +kernel
theorem dX1_begin_129 : decode cX1_begin 129 = .ok (.aload_n 0, 1) := by decide +kernel
theorem dX1_begin_130 : decode cX1_begin 130 = .ok (.iconst 0, 1) := by decide +kernel
theorem dX1_begin_131 : decode cX1_begin 131 = .ok (.putfield 40, 3) := by decide +kernel
theorem dX1_begin_134 : decode cX1_begin 134 = .ok (.iload 4, 2) := by decide +kernel
theorem dX1_begin_136 : decode cX1_begin 136 = .ok (.sipush 4096, 3) := by decide +kernel
theorem dX1_begin_139 : decode cX1_begin 139 = .ok (.if_icmp .gt 7, 3) := by decide +kernel
theorem dX1_begin_142 : decode cX1_begin 142 = .ok (.iconst 1, 1) := by decide +kernel
theorem dX1_begin_143 : decode cX1_begin 143 = .ok (.goto 4, 3) := by decide +kernel
theorem dX1_begin_146 : decode cX1_begin 146 = .ok (.iconst 0, 1) := by decide +kernel
theorem dX1_begin_147 : decode cX1_begin 147 = .ok (.ireturn, 1) := by decide +kernel
theorem dX1_addWire_0 : decode cX1_addWire 0 = .ok (.aload_n 0, 1) := by decide +kernel
theorem dX1_addWire_1 : decode cX1_addWire 1 = .ok (.getfield 24, 3) := by decide +kernel
theorem dX1_addWire_4 : decode cX1_addWire 4 = .ok (.iconst 1, 1) := by decide +kernel
theorem dX1_addWire_5 : decode cX1_addWire 5 = .ok (.if_icmp .eq 33, 3) := by decide +kernel
theorem dX1_addWire_8 : decode cX1_addWire 8 = .ok (.aload_n 0, 1) := by decide +kernel
theorem dX1_addWire_9 : decode cX1_addWire 9 = .ok (.iload_n 1, 1) := by decide +kernel
theorem dX1_addWire_10 : decode cX1_addWire 10 = .ok (.invokevirtual 43, 3) := by decide +kernel
theorem dX1_addWire_13 : decode cX1_addWire 13 = .ok (.ifCond .eq 25, 3) := by decide +kernel
theorem dX1_addWire_16 : decode cX1_addWire 16 = .ok (.aload_n 0, 1) := by decide +kernel
theorem dX1_addWire_17 : decode cX1_addWire 17 = .ok (.iload_n 2, 1) := by decide +kernel
theorem dX1_addWire_18 : decode cX1_addWire 18 = .ok (.invokevirtual 43, 3) := by decide +kernel
theorem dX1_addWire_21 : decode cX1_addWire 21 = .ok (.ifCond .eq 17, 3) := by decide +kernel
theorem dX1_addWire_24 : decode cX1_addWire 24 = .ok (.iload_n 1, 1) := by decide +kernel
theorem dX1_addWire_25 : decode cX1_addWire 25 = .ok (.iload_n 2, 1) := by decide +kernel
theorem dX1_addWire_26 : decode cX1_addWire 26 = .ok (.if_icmp .eq 12, 3) := by decide +kernel
theorem dX1_addWire_29 : decode cX1_addWire 29 = .ok (.aload_n 0, 1) := by decide +kernel
theorem dX1_addWire_30 : decode cX1_addWire 30 = .ok (.iload_n 1, 1) := by decide +kernel
theorem dX1_addWire_31 : decode cX1_addWire 31 = .ok (.iload_n 2, 1) := by decide +kernel
theorem dX1_addWire_32 : decode cX1_addWire 32 = .ok (.invokevirtual 47, 3) := by decide +kernel
theorem dX1_addWire_35 : decode cX1_addWire 35 = .ok (.ifCond .eq 5, 3) := by decide +kernel
theorem dX1_addWire_38 : decode cX1_addWire 38 = .ok (.iconst 0, 1) := by decide +kernel
theorem dX1_addWire_39 : decode cX1_addWire 39 = .ok (.ireturn, 1) := by decide +kernel
theorem dX1_addWire_40 : decode cX1_addWire 40 = .ok (.aload_n 0, 1) := by decide +kernel
theorem dX1_addWire_41 : decode cX1_addWire 41 = .ok (.getfield 9, 3) := by decide +kernel
theorem dX1_addWire_44 : decode cX1_addWire 44 = .ok (.iload_n 1, 1) := by decide +kernel
theorem dX1_addWire_45 : decode cX1_addWire 45 = .ok (.aload_n 0, 1) := by decide +kernel
theorem dX1_addWire_46 : decode cX1_addWire 46 = .ok (.getfield 9, 3) := by decide +kernel
theorem dX1_addWire_49 : decode cX1_addWire 49 = .ok (.iload_n 1, 1) := by decide +kernel
theorem dX1_addWire_50 : decode cX1_addWire 50 = .ok (.invokestatic 51, 3) := by decide +kernel
theorem dX1_addWire_53 : decode cX1_addWire 53 = .ok (.iconst 1, 1) := by decide +kernel
theorem dX1_addWire_54 : decode cX1_addWire 54 = .ok (.iload_n 2, 1) := by decide +kernel
theorem dX1_addWire_55 : decode cX1_addWire 55 = .ok (.ishl, 1) := by decide +kernel
theorem dX1_addWire_56 : decode cX1_addWire 56 = .ok (.ior, 1) := by decide +kernel
theorem dX1_addWire_57 : decode cX1_addWire 57 = .ok (.invokestatic 18, 3) := by decide +kernel
theorem dX1_addWire_60 : decode cX1_addWire 60 = .ok (.aload_n 0, 1) := by decide +kernel
theorem dX1_addWire_61 : decode cX1_addWire 61 = .ok (.getfield 9, 3) := by decide +kernel
theorem dX1_addWire_64 : decode cX1_addWire 64 = .ok (.iload_n 2, 1) := by decide +kernel
theorem dX1_addWire_65 : decode cX1_addWire 65 = .ok (.aload_n 0, 1) := by decide +kernel
theorem dX1_addWire_66 : decode cX1_addWire 66 = .ok (.getfield 9, 3) := by decide +kernel
theorem dX1_addWire_69 : decode cX1_addWire 69 = .ok (.iload_n 2, 1) := by decide +kernel
theorem dX1_addWire_70 : decode cX1_addWire 70 = .ok (.invokestatic 51, 3) := by decide +kernel
theorem dX1_addWire_73 : decode cX1_addWire 73 = .ok (.iconst 1, 1) := by decide +kernel
theorem dX1_addWire_74 : decode cX1_addWire 74 = .ok (.iload_n 1, 1) := by decide +kernel
theorem dX1_addWire_75 : decode cX1_addWire 75 = .ok (.ishl, 1) := by decide +kernel
theorem dX1_addWire_76 : decode cX1_addWire 76 = .ok (.ior, 1) := by decide +kernel
theorem dX1_addWire_77 : decode cX1_addWire 77 = .ok (.invokestatic 18, 3) := by decide +kernel
theorem dX1_addWire_80 : decode cX1_addWire 80 = .ok (.aload_n 0, 1) := by decide +kernel
theorem dX1_addWire_81 : decode cX1_addWire 81 = .ok (.dup, 1) := by decide +kernel
theorem dX1_addWire_82 : decode cX1_addWire 82 = .ok (.getfield 37, 3) := by decide +kernel
theorem dX1_addWire_85 : decode cX1_addWire 85 = .ok (.iconst 1, 1) := by decide +kernel
theorem dX1_addWire_86 : decode cX1_addWire 86 = .ok (.iadd, 1) := by decide +kernel
theorem dX1_addWire_87 : decode cX1_addWire 87 = .ok (.putfield 37, 3) := by decide +kernel
theorem dX1_addWire_90 : decode cX1_addWire 90 = .ok (.iconst 1, 1) := by decide +kernel
theorem dX1_addWire_91 : decode cX1_addWire 91 = .ok (.ireturn, 1) := by decide +kernel
theorem dX1_startWith_0 : decode cX1_startWith 0 = .ok (.aload_n 0, 1) := by decide +kernel
theorem dX1_startWith_1 : decode cX1_startWith 1 = .ok (.iload_n 1, 1) := by decide +kernel
theorem dX1_startWith_2 : decode cX1_startWith 2 = .ok (.invokevirtual 43, 3) := by decide +kernel
theorem dX1_startWith_5 : decode cX1_startWith 5 = .ok (.ifCond .eq 11, 3) := by decide +kernel
theorem dX1_startWith_8 : decode cX1_startWith 8 = .ok (.aload_n 0, 1) := by decide +kernel
theorem dX1_startWith_9 : decode cX1_startWith 9 = .ok (.iload_n 2, 1) := by decide +kernel
theorem dX1_startWith_10 : decode cX1_startWith 10 = .ok (.invokevirtual 55, 3) := by decide +kernel
theorem dX1_startWith_13 : decode cX1_startWith 13 = .ok (.ifCond .ne 5, 3) := by decide +kernel
theorem dX1_startWith_16 : decode cX1_startWith 16 = .ok (.iconst 0, 1) := by decide +kernel
theorem dX1_startWith_17 : decode cX1_startWith 17 = .ok (.ireturn, 1) := by decide +kernel
theorem dX1_startWith_18 : decode cX1_startWith 18 = .ok (.aload_n 0, 1) := by decide +kernel
theorem dX1_startWith_19 : decode cX1_startWith 19 = .ok (.aload_n 0, 1) := by decide +kernel
theorem dX1_startWith_20 : decode cX1_startWith 20 = .ok (.aload_n 0, 1) := by decide +kernel
theorem dX1_startWith_21 : decode cX1_startWith 21 = .ok (.getfield 40, 3) := by decide +kernel
theorem dX1_startWith_24 : decode cX1_startWith 24 = .ok (.iload_n 1, 1) := by decide +kernel
theorem dX1_startWith_25 : decode cX1_startWith 25 = .ok (.iload_n 2, 1) := by decide +kernel
theorem dX1_startWith_26 : decode cX1_startWith 26 = .ok (.invokevirtual 58, 3) := by decide +kernel
theorem dX1_startWith_29 : decode cX1_startWith 29 = .ok (.putfield 40, 3) := by decide +kernel
theorem dX1_startWith_32 : decode cX1_startWith 32 = .ok (.iconst 1, 1) := by decide +kernel
theorem dX1_startWith_33 : decode cX1_startWith 33 = .ok (.ireturn, 1) := by decide +kernel
theorem dX1_hasColoursEnough_0 : decode cX1_hasColoursEnough 0 = .ok (.iconst 0, 1) := by decide +kernel
theorem dX1_hasColoursEnough_1 : decode cX1_hasColoursEnough 1 = .ok (.istore_n 1, 1) := by decide +kernel
theorem dX1_hasColoursEnough_2 : decode cX1_hasColoursEnough 2 = .ok (.aload_n 0, 1) := by decide +kernel
theorem dX1_hasColoursEnough_3 : decode cX1_hasColoursEnough 3 = .ok (.getfield 24, 3) := by decide +kernel
theorem dX1_hasColoursEnough_6 : decode cX1_hasColoursEnough 6 = .ok (.iconst 4, 1) := by decide +kernel
theorem dX1_hasColoursEnough_7 : decode cX1_hasColoursEnough 7 = .ok (.if_icmp .ne 37, 3) := by decide +kernel
theorem dX1_hasColoursEnough_10 : decode cX1_hasColoursEnough 10 = .ok (.iload_n 1, 1) := by decide +kernel
theorem dX1_hasColoursEnough_11 : decode cX1_hasColoursEnough 11 = .ok (.aload_n 0, 1) := by decide +kernel
theorem dX1_hasColoursEnough_12 : decode cX1_hasColoursEnough 12 = .ok (.getfield 28, 3) := by decide +kernel
theorem dX1_hasColoursEnough_15 : decode cX1_hasColoursEnough 15 = .ok (.if_icmp .ge 29, 3) := by decide +kernel
theorem dX1_hasColoursEnough_18 : decode cX1_hasColoursEnough 18 = .ok (.aload_n 0, 1) := by decide +kernel
theorem dX1_hasColoursEnough_19 : decode cX1_hasColoursEnough 19 = .ok (.getfield 9, 3) := by decide +kernel
theorem dX1_hasColoursEnough_22 : decode cX1_hasColoursEnough 22 = .ok (.iload_n 1, 1) := by decide +kernel
theorem dX1_hasColoursEnough_23 : decode cX1_hasColoursEnough 23 = .ok (.invokestatic 51, 3) := by decide +kernel
theorem dX1_hasColoursEnough_26 : decode cX1_hasColoursEnough 26 = .ok (.invokestatic 62, 3) := by decide +kernel
theorem dX1_hasColoursEnough_29 : decode cX1_hasColoursEnough 29 = .ok (.aload_n 0, 1) := by decide +kernel
theorem dX1_hasColoursEnough_30 : decode cX1_hasColoursEnough 30 = .ok (.getfield 31, 3) := by decide +kernel
theorem dX1_hasColoursEnough_33 : decode cX1_hasColoursEnough 33 = .ok (.if_icmp .lt 5, 3) := by decide +kernel
theorem dX1_hasColoursEnough_36 : decode cX1_hasColoursEnough 36 = .ok (.iconst 0, 1) := by decide +kernel
theorem dX1_hasColoursEnough_37 : decode cX1_hasColoursEnough 37 = .ok (.ireturn, 1) := by decide +kernel
theorem dX1_hasColoursEnough_38 : decode cX1_hasColoursEnough 38 = .ok (.iinc 1 1, 3) := by decide +kernel
theorem dX1_hasColoursEnough_41 : decode cX1_hasColoursEnough 41 = .ok (.goto (-39), 3) := by decide +kernel
theorem dX1_hasColoursEnough_44 : decode cX1_hasColoursEnough 44 = .ok (.iconst 1, 1) := by decide +kernel
theorem dX1_hasColoursEnough_45 : decode cX1_hasColoursEnough 45 = .ok (.ireturn, 1) := by decide +kernel
theorem dX1_copyFrom_0 : decode cX1_copyFrom 0 = .ok (.aload_n 0, 1) := by decide +kernel
theorem dX1_copyFrom_1 : decode cX1_copyFrom 1 = .ok (.aload_n 1, 1) := by decide +kernel
theorem dX1_copyFrom_2 : decode cX1_copyFrom 2 = .ok (.getfield 24, 3) := by decide +kernel
theorem dX1_copyFrom_5 : decode cX1_copyFrom 5 = .ok (.putfield 24, 3) := by decide +kernel
theorem dX1_copyFrom_8 : decode cX1_copyFrom 8 = .ok (.aload_n 0, 1) := by decide +kernel
theorem dX1_copyFrom_9 : decode cX1_copyFrom 9 = .ok (.aload_n 1, 1) := by decide +kernel
theorem dX1_copyFrom_10 : decode cX1_copyFrom 10 = .ok (.getfield 28, 3) := by decide +kernel
theorem dX1_copyFrom_13 : decode cX1_copyFrom 13 = .ok (.putfield 28, 3) := by decide +kernel
theorem dX1_copyFrom_16 : decode cX1_copyFrom 16 = .ok (.aload_n 0, 1) := by decide +kernel
theorem dX1_copyFrom_17 : decode cX1_copyFrom 17 = .ok (.aload_n 1, 1) := by decide +kernel
theorem dX1_copyFrom_18 : decode cX1_copyFrom 18 = .ok (.getfield 31, 3) := by decide +kernel
theorem dX1_copyFrom_21 : decode cX1_copyFrom 21 = .ok (.putfield 31, 3) := by decide +kernel
theorem dX1_copyFrom_24 : decode cX1_copyFrom 24 = .ok (.aload_n 0, 1) := by decide +kernel
theorem dX1_copyFrom_25 : decode cX1_copyFrom 25 = .ok (.aload_n 1, 1) := by decide +kernel
theorem dX1_copyFrom_26 : decode cX1_copyFrom 26 = .ok (.getfield 34, 3) := by decide +kernel
theorem dX1_copyFrom_29 : decode cX1_copyFrom 29 = .ok (.putfield 34, 3) := by decide +kernel
theorem dX1_copyFrom_32 : decode cX1_copyFrom 32 = .ok (.aload_n 0, 1) := by decide +kernel
theorem dX1_copyFrom_33 : decode cX1_copyFrom 33 = .ok (.aload_n 1, 1) := by decide +kernel
theorem dX1_copyFrom_34 : decode cX1_copyFrom 34 = .ok (.getfield 37, 3) := by decide +kernel
theorem dX1_copyFrom_37 : decode cX1_copyFrom 37 = .ok (.putfield 37, 3) := by decide +kernel
theorem dX1_copyFrom_40 : decode cX1_copyFrom 40 = .ok (.aload_n 0, 1) := by decide +kernel
theorem dX1_copyFrom_41 : decode cX1_copyFrom 41 = .ok (.aload_n 1, 1) := by decide +kernel
theorem dX1_copyFrom_42 : decode cX1_copyFrom 42 = .ok (.getfield 40, 3) := by decide +kernel
theorem dX1_copyFrom_45 : decode cX1_copyFrom 45 = .ok (.putfield 40, 3) := by decide +kernel
theorem dX1_copyFrom_48 : decode cX1_copyFrom 48 = .ok (.iconst 0, 1) := by decide +kernel
theorem dX1_copyFrom_49 : decode cX1_copyFrom 49 = .ok (.istore_n 2, 1) := by decide +kernel
theorem dX1_copyFrom_50 : decode cX1_copyFrom 50 = .ok (.iload_n 2, 1) := by decide +kernel
theorem dX1_copyFrom_51 : decode cX1_copyFrom 51 = .ok (.bipush 6, 2) := by decide +kernel
theorem dX1_copyFrom_53 : decode cX1_copyFrom 53 = .ok (.if_icmp .ge 41, 3) := by decide +kernel
theorem dX1_copyFrom_56 : decode cX1_copyFrom 56 = .ok (.aload_n 0, 1) := by decide +kernel
theorem dX1_copyFrom_57 : decode cX1_copyFrom 57 = .ok (.getfield 9, 3) := by decide +kernel
theorem dX1_copyFrom_60 : decode cX1_copyFrom 60 = .ok (.iload_n 2, 1) := by decide +kernel
theorem dX1_copyFrom_61 : decode cX1_copyFrom 61 = .ok (.aload_n 1, 1) := by decide +kernel
theorem dX1_copyFrom_62 : decode cX1_copyFrom 62 = .ok (.getfield 9, 3) := by decide +kernel
theorem dX1_copyFrom_65 : decode cX1_copyFrom 65 = .ok (.iload_n 2, 1) := by decide +kernel
theorem dX1_copyFrom_66 : decode cX1_copyFrom 66 = .ok (.invokestatic 51, 3) := by decide +kernel
theorem dX1_copyFrom_69 : decode cX1_copyFrom 69 = .ok (.invokestatic 18, 3) := by decide +kernel
theorem dX1_copyFrom_72 : decode cX1_copyFrom 72 = .ok (.aload_n 0, 1) := by decide +kernel
theorem dX1_copyFrom_73 : decode cX1_copyFrom 73 = .ok (.getfield 15, 3) := by decide +kernel
theorem dX1_copyFrom_76 : decode cX1_copyFrom 76 = .ok (.iload_n 2, 1) := by decide +kernel
theorem dX1_copyFrom_77 : decode cX1_copyFrom 77 = .ok (.aload_n 1, 1) := by decide +kernel
theorem dX1_copyFrom_78 : decode cX1_copyFrom 78 = .ok (.getfield 15, 3) := by decide +kernel
theorem dX1_copyFrom_81 : decode cX1_copyFrom 81 = .ok (.iload_n 2, 1) := by decide +kernel
theorem dX1_copyFrom_82 : decode cX1_copyFrom 82 = .ok (.invokestatic 51, 3) := by decide +kernel
theorem dX1_copyFrom_85 : decode cX1_copyFrom 85 = .ok (.invokestatic 18, 3) := by decide +kernel
theorem dX1_copyFrom_88 : decode cX1_copyFrom 88 = .ok (.iinc 2 1, 3) := by decide +kernel
theorem dX1_copyFrom_91 : decode cX1_copyFrom 91 = .ok (.goto (-41), 3) := by decide +kernel
theorem dX1_copyFrom_94 : decode cX1_copyFrom 94 = .ok (.return_, 1) := by decide +kernel
theorem dX1_hasMachine_0 : decode cX1_hasMachine 0 = .ok (.iload_n 1, 1) := by decide +kernel
theorem dX1_hasMachine_1 : decode cX1_hasMachine 1 = .ok (.ifCond .lt 15, 3) := by decide +kernel
theorem dX1_hasMachine_4 : decode cX1_hasMachine 4 = .ok (.iload_n 1, 1) := by decide +kernel
theorem dX1_hasMachine_5 : decode cX1_hasMachine 5 = .ok (.aload_n 0, 1) := by decide +kernel
theorem dX1_hasMachine_6 : decode cX1_hasMachine 6 = .ok (.getfield 28, 3) := by decide +kernel
theorem dX1_hasMachine_9 : decode cX1_hasMachine 9 = .ok (.if_icmp .ge 7, 3) := by decide +kernel
theorem dX1_hasMachine_12 : decode cX1_hasMachine 12 = .ok (.iconst 1, 1) := by decide +kernel
theorem dX1_hasMachine_13 : decode cX1_hasMachine 13 = .ok (.goto 4, 3) := by decide +kernel
theorem dX1_hasMachine_16 : decode cX1_hasMachine 16 = .ok (.iconst 0, 1) := by decide +kernel
theorem dX1_hasMachine_17 : decode cX1_hasMachine 17 = .ok (.ireturn, 1) := by decide +kernel
theorem dX1_hasValue_0 : decode cX1_hasValue 0 = .ok (.iload_n 1, 1) := by decide +kernel
theorem dX1_hasValue_1 : decode cX1_hasValue 1 = .ok (.ifCond .lt 15, 3) := by decide +kernel
theorem dX1_hasValue_4 : decode cX1_hasValue 4 = .ok (.iload_n 1, 1) := by decide +kernel
theorem dX1_hasValue_5 : decode cX1_hasValue 5 = .ok (.aload_n 0, 1) := by decide +kernel
theorem dX1_hasValue_6 : decode cX1_hasValue 6 = .ok (.getfield 31, 3) := by decide +kernel
theorem dX1_hasValue_9 : decode cX1_hasValue 9 = .ok (.if_icmp .ge 7, 3) := by decide +kernel
theorem dX1_hasValue_12 : decode cX1_hasValue 12 = .ok (.iconst 1, 1) := by decide +kernel
theorem dX1_hasValue_13 : decode cX1_hasValue 13 = .ok (.goto 4, 3) := by decide +kernel
theorem dX1_hasValue_16 : decode cX1_hasValue 16 = .ok (.iconst 0, 1) := by decide +kernel
theorem dX1_hasValue_17 : decode cX1_hasValue 17 = .ok (.ireturn, 1) := by decide +kernel
theorem dX1_hasState_0 : decode cX1_hasState 0 = .ok (.iload_n 1, 1) := by decide +kernel
theorem dX1_hasState_1 : decode cX1_hasState 1 = .ok (.ifCond .lt 15, 3) := by decide +kernel
theorem dX1_hasState_4 : decode cX1_hasState 4 = .ok (.iload_n 1, 1) := by decide +kernel
theorem dX1_hasState_5 : decode cX1_hasState 5 = .ok (.aload_n 0, 1) := by decide +kernel
theorem dX1_hasState_6 : decode cX1_hasState 6 = .ok (.getfield 34, 3) := by decide +kernel
theorem dX1_hasState_9 : decode cX1_hasState 9 = .ok (.if_icmp .ge 7, 3) := by decide +kernel
theorem dX1_hasState_12 : decode cX1_hasState 12 = .ok (.iconst 1, 1) := by decide +kernel
theorem dX1_hasState_13 : decode cX1_hasState 13 = .ok (.goto 4, 3) := by decide +kernel
theorem dX1_hasState_16 : decode cX1_hasState 16 = .ok (.iconst 0, 1) := by decide +kernel
theorem dX1_hasState_17 : decode cX1_hasState 17 = .ok (.ireturn, 1) := by decide +kernel
theorem dX1_valueAt_0 : decode cX1_valueAt 0 = .ok (.iload_n 2, 1) := by decide +kernel
theorem dX1_valueAt_1 : decode cX1_valueAt 1 = .ok (.ifCond .lt 28, 3) := by decide +kernel
theorem dX1_valueAt_4 : decode cX1_valueAt 4 = .ok (.iload_n 2, 1) := by decide +kernel
theorem dX1_valueAt_5 : decode cX1_valueAt 5 = .ok (.aload_n 0, 1) := by decide +kernel
theorem dX1_valueAt_6 : decode cX1_valueAt 6 = .ok (.getfield 15, 3) := by decide +kernel
theorem dX1_valueAt_9 : decode cX1_valueAt 9 = .ok (.arraylength, 1) := by decide +kernel
theorem dX1_valueAt_10 : decode cX1_valueAt 10 = .ok (.if_icmp .ge 19, 3) := by decide +kernel
theorem dX1_valueAt_13 : decode cX1_valueAt 13 = .ok (.aload_n 0, 1) := by decide +kernel
theorem dX1_valueAt_14 : decode cX1_valueAt 14 = .ok (.getfield 15, 3) := by decide +kernel
theorem dX1_valueAt_17 : decode cX1_valueAt 17 = .ok (.iload_n 2, 1) := by decide +kernel
theorem dX1_valueAt_18 : decode cX1_valueAt 18 = .ok (.iaload, 1) := by decide +kernel
theorem dX1_valueAt_19 : decode cX1_valueAt 19 = .ok (.ifCond .le 10, 3) := by decide +kernel
theorem dX1_valueAt_22 : decode cX1_valueAt 22 = .ok (.aload_n 0, 1) := by decide +kernel
theorem dX1_valueAt_23 : decode cX1_valueAt 23 = .ok (.getfield 31, 3) := by decide +kernel
theorem dX1_valueAt_26 : decode cX1_valueAt 26 = .ok (.ifCond .gt 5, 3) := by decide +kernel
theorem dX1_valueAt_29 : decode cX1_valueAt 29 = .ok (.iconst 0, 1) := by decide +kernel
theorem dX1_valueAt_30 : decode cX1_valueAt 30 = .ok (.ireturn, 1) := by decide +kernel
theorem dX1_valueAt_31 : decode cX1_valueAt 31 = .ok (.iload_n 1, 1) := by decide +kernel
theorem dX1_valueAt_32 : decode cX1_valueAt 32 = .ok (.aload_n 0, 1) := by decide +kernel
theorem dX1_valueAt_33 : decode cX1_valueAt 33 = .ok (.getfield 15, 3) := by decide +kernel
theorem dX1_valueAt_36 : decode cX1_valueAt 36 = .ok (.iload_n 2, 1) := by decide +kernel
theorem dX1_valueAt_37 : decode cX1_valueAt 37 = .ok (.iaload, 1) := by decide +kernel
theorem dX1_valueAt_38 : decode cX1_valueAt 38 = .ok (.idiv, 1) := by decide +kernel
theorem dX1_valueAt_39 : decode cX1_valueAt 39 = .ok (.aload_n 0, 1) := by decide +kernel
theorem dX1_valueAt_40 : decode cX1_valueAt 40 = .ok (.getfield 31, 3) := by decide +kernel
theorem dX1_valueAt_43 : decode cX1_valueAt 43 = .ok (.irem, 1) := by decide +kernel
theorem dX1_valueAt_44 : decode cX1_valueAt 44 = .ok (.ireturn, 1) := by decide +kernel
theorem dX1_withValue_0 : decode cX1_withValue 0 = .ok (.iload_n 1, 1) := by decide +kernel
theorem dX1_withValue_1 : decode cX1_withValue 1 = .ok (.iload_n 3, 1) := by decide +kernel
theorem dX1_withValue_2 : decode cX1_withValue 2 = .ok (.aload_n 0, 1) := by decide +kernel
theorem dX1_withValue_3 : decode cX1_withValue 3 = .ok (.iload_n 1, 1) := by decide +kernel
theorem dX1_withValue_4 : decode cX1_withValue 4 = .ok (.iload_n 2, 1) := by decide +kernel
theorem dX1_withValue_5 : decode cX1_withValue 5 = .ok (.invokevirtual 68, 3) := by decide +kernel
theorem dX1_withValue_8 : decode cX1_withValue 8 = .ok (.isub, 1) := by decide +kernel
theorem dX1_withValue_9 : decode cX1_withValue 9 = .ok (.aload_n 0, 1) := by decide +kernel
theorem dX1_withValue_10 : decode cX1_withValue 10 = .ok (.getfield 15, 3) := by decide +kernel
theorem dX1_withValue_13 : decode cX1_withValue 13 = .ok (.iload_n 2, 1) := by decide +kernel
theorem dX1_withValue_14 : decode cX1_withValue 14 = .ok (.invokestatic 51, 3) := by decide +kernel
theorem dX1_withValue_17 : decode cX1_withValue 17 = .ok (.imul, 1) := by decide +kernel
theorem dX1_withValue_18 : decode cX1_withValue 18 = .ok (.iadd, 1) := by decide +kernel
theorem dX1_withValue_19 : decode cX1_withValue 19 = .ok (.ireturn, 1) := by decide +kernel
theorem dX1_isLinked_0 : decode cX1_isLinked 0 = .ok (.iload_n 1, 1) := by decide +kernel
theorem dX1_isLinked_1 : decode cX1_isLinked 1 = .ok (.ifCond .lt 30, 3) := by decide +kernel
theorem dX1_isLinked_4 : decode cX1_isLinked 4 = .ok (.iload_n 1, 1) := by decide +kernel
theorem dX1_isLinked_5 : decode cX1_isLinked 5 = .ok (.aload_n 0, 1) := by decide +kernel
theorem dX1_isLinked_6 : decode cX1_isLinked 6 = .ok (.getfield 9, 3) := by decide +kernel
theorem dX1_isLinked_9 : decode cX1_isLinked 9 = .ok (.arraylength, 1) := by decide +kernel
theorem dX1_isLinked_10 : decode cX1_isLinked 10 = .ok (.if_icmp .ge 21, 3) := by decide +kernel
theorem dX1_isLinked_13 : decode cX1_isLinked 13 = .ok (.aload_n 0, 1) := by decide +kernel
theorem dX1_isLinked_14 : decode cX1_isLinked 14 = .ok (.getfield 9, 3) := by decide +kernel
theorem dX1_isLinked_17 : decode cX1_isLinked 17 = .ok (.iload_n 1, 1) := by decide +kernel
theorem dX1_isLinked_18 : decode cX1_isLinked 18 = .ok (.iaload, 1) := by decide +kernel
theorem dX1_isLinked_19 : decode cX1_isLinked 19 = .ok (.iload_n 2, 1) := by decide +kernel
theorem dX1_isLinked_20 : decode cX1_isLinked 20 = .ok (.ishr, 1) := by decide +kernel
theorem dX1_isLinked_21 : decode cX1_isLinked 21 = .ok (.iconst 1, 1) := by decide +kernel
theorem dX1_isLinked_22 : decode cX1_isLinked 22 = .ok (.iand, 1) := by decide +kernel
theorem dX1_isLinked_23 : decode cX1_isLinked 23 = .ok (.iconst 1, 1) := by decide +kernel
theorem dX1_isLinked_24 : decode cX1_isLinked 24 = .ok (.if_icmp .ne 7, 3) := by decide +kernel
theorem dX1_isLinked_27 : decode cX1_isLinked 27 = .ok (.iconst 1, 1) := by decide +kernel
theorem dX1_isLinked_28 : decode cX1_isLinked 28 = .ok (.goto 4, 3) := by decide +kernel
theorem dX1_isLinked_31 : decode cX1_isLinked 31 = .ok (.iconst 0, 1) := by decide +kernel
theorem dX1_isLinked_32 : decode cX1_isLinked 32 = .ok (.ireturn, 1) := by decide +kernel
theorem dX1_aheadOf_0 : decode cX1_aheadOf 0 = .ok (.iload_n 1, 1) := by decide +kernel
theorem dX1_aheadOf_1 : decode cX1_aheadOf 1 = .ok (.ifCond .ne 12, 3) := by decide +kernel
theorem dX1_aheadOf_4 : decode cX1_aheadOf 4 = .ok (.aload_n 0, 1) := by decide +kernel
theorem dX1_aheadOf_5 : decode cX1_aheadOf 5 = .ok (.getfield 28, 3) := by decide +kernel
theorem dX1_aheadOf_8 : decode cX1_aheadOf 8 = .ok (.iconst 1, 1) := by decide +kernel
theorem dX1_aheadOf_9 : decode cX1_aheadOf 9 = .ok (.isub, 1) := by decide +kernel
theorem dX1_aheadOf_10 : decode cX1_aheadOf 10 = .ok (.goto 6, 3) := by decide +kernel
theorem dX1_aheadOf_13 : decode cX1_aheadOf 13 = .ok (.iload_n 1, 1) := by decide +kernel
theorem dX1_aheadOf_14 : decode cX1_aheadOf 14 = .ok (.iconst 1, 1) := by decide +kernel
theorem dX1_aheadOf_15 : decode cX1_aheadOf 15 = .ok (.isub, 1) := by decide +kernel
theorem dX1_aheadOf_16 : decode cX1_aheadOf 16 = .ok (.ireturn, 1) := by decide +kernel
theorem dX1_sees_0 : decode cX1_sees 0 = .ok (.aload_n 0, 1) := by decide +kernel
theorem dX1_sees_1 : decode cX1_sees 1 = .ok (.getfield 24, 3) := by decide +kernel
theorem dX1_sees_4 : decode cX1_sees 4 = .ok (.iconst 1, 1) := by decide +kernel
theorem dX1_sees_5 : decode cX1_sees 5 = .ok (.if_icmp .ne 20, 3) := by decide +kernel
theorem dX1_sees_8 : decode cX1_sees 8 = .ok (.aload_n 0, 1) := by decide +kernel
theorem dX1_sees_9 : decode cX1_sees 9 = .ok (.iload_n 1, 1) := by decide +kernel
theorem dX1_sees_10 : decode cX1_sees 10 = .ok (.invokevirtual 72, 3) := by decide +kernel
theorem dX1_sees_13 : decode cX1_sees 13 = .ok (.iload_n 2, 1) := by decide +kernel
theorem dX1_sees_14 : decode cX1_sees 14 = .ok (.if_icmp .ne 7, 3) := by decide +kernel
theorem dX1_sees_17 : decode cX1_sees 17 = .ok (.iconst 1, 1) := by decide +kernel
theorem dX1_sees_18 : decode cX1_sees 18 = .ok (.goto 13, 3) := by decide +kernel
theorem dX1_sees_21 : decode cX1_sees 21 = .ok (.iconst 0, 1) := by decide +kernel
theorem dX1_sees_22 : decode cX1_sees 22 = .ok (.goto 9, 3) := by decide +kernel
theorem dX1_sees_25 : decode cX1_sees 25 = .ok (.aload_n 0, 1) := by decide +kernel
theorem dX1_sees_26 : decode cX1_sees 26 = .ok (.iload_n 1, 1) := by decide +kernel
theorem dX1_sees_27 : decode cX1_sees 27 = .ok (.iload_n 2, 1) := by decide +kernel
theorem dX1_sees_28 : decode cX1_sees 28 = .ok (.invokevirtual 47, 3) := by decide +kernel
theorem dX1_sees_31 : decode cX1_sees 31 = .ok (.ireturn, 1) := by decide +kernel
theorem dX1_wants_0 : decode cX1_wants 0 = .ok (.aload_n 0, 1) := by decide +kernel
theorem dX1_wants_1 : decode cX1_wants 1 = .ok (.getfield 24, 3) := by decide +kernel
theorem dX1_wants_4 : decode cX1_wants 4 = .ok (.tableswitch 49 1 3 #[28, 35, 42], 28) := by decide +kernel
theorem dX1_wants_32 : decode cX1_wants 32 = .ok (.aload_n 0, 1) := by decide +kernel
theorem dX1_wants_33 : decode cX1_wants 33 = .ok (.iload_n 1, 1) := by decide +kernel
theorem dX1_wants_34 : decode cX1_wants 34 = .ok (.iload_n 2, 1) := by decide +kernel
theorem dX1_wants_35 : decode cX1_wants 35 = .ok (.invokevirtual 75, 3) := by decide +kernel
theorem dX1_wants_38 : decode cX1_wants 38 = .ok (.ireturn, 1) := by decide +kernel
theorem dX1_wants_39 : decode cX1_wants 39 = .ok (.aload_n 0, 1) := by decide +kernel
theorem dX1_wants_40 : decode cX1_wants 40 = .ok (.iload_n 1, 1) := by decide +kernel
theorem dX1_wants_41 : decode cX1_wants 41 = .ok (.iload_n 2, 1) := by decide +kernel
theorem dX1_wants_42 : decode cX1_wants 42 = .ok (.invokevirtual 78, 3) := by decide +kernel
theorem dX1_wants_45 : decode cX1_wants 45 = .ok (.ireturn, 1) := by decide +kernel
theorem dX1_wants_46 : decode cX1_wants 46 = .ok (.aload_n 0, 1) := by decide +kernel
theorem dX1_wants_47 : decode cX1_wants 47 = .ok (.iload_n 1, 1) := by decide +kernel
theorem dX1_wants_48 : decode cX1_wants 48 = .ok (.iload_n 2, 1) := by decide +kernel
theorem dX1_wants_49 : decode cX1_wants 49 = .ok (.invokevirtual 81, 3) := by decide +kernel
theorem dX1_wants_52 : decode cX1_wants 52 = .ok (.ireturn, 1) := by decide +kernel
theorem dX1_wants_53 : decode cX1_wants 53 = .ok (.aload_n 0, 1) := by decide +kernel
theorem dX1_wants_54 : decode cX1_wants 54 = .ok (.iload_n 1, 1) := by decide +kernel
theorem dX1_wants_55 : decode cX1_wants 55 = .ok (.iload_n 2, 1) := by decide +kernel
theorem dX1_wants_56 : decode cX1_wants 56 = .ok (.invokevirtual 84, 3) := by decide +kernel
theorem dX1_wants_59 : decode cX1_wants 59 = .ok (.ireturn, 1) := by decide +kernel
theorem dX1_counterWants_0 : decode cX1_counterWants 0 = .ok (.aload_n 0, 1) := by decide +kernel
theorem dX1_counterWants_1 : decode cX1_counterWants 1 = .ok (.iload_n 1, 1) := by decide +kernel
theorem dX1_counterWants_2 : decode cX1_counterWants 2 = .ok (.aload_n 0, 1) := by decide +kernel
theorem dX1_counterWants_3 : decode cX1_counterWants 3 = .ok (.iload_n 2, 1) := by decide +kernel
theorem dX1_counterWants_4 : decode cX1_counterWants 4 = .ok (.invokevirtual 72, 3) := by decide +kernel
theorem dX1_counterWants_7 : decode cX1_counterWants 7 = .ok (.invokevirtual 68, 3) := by decide +kernel
theorem dX1_counterWants_10 : decode cX1_counterWants 10 = .ok (.istore_n 3, 1) := by decide +kernel
theorem dX1_counterWants_11 : decode cX1_counterWants 11 = .ok (.iload_n 2, 1) := by decide +kernel
theorem dX1_counterWants_12 : decode cX1_counterWants 12 = .ok (.ifCond .eq 5, 3) := by decide +kernel
theorem dX1_counterWants_15 : decode cX1_counterWants 15 = .ok (.iload_n 3, 1) := by decide +kernel
theorem dX1_counterWants_16 : decode cX1_counterWants 16 = .ok (.ireturn, 1) := by decide +kernel
theorem dX1_counterWants_17 : decode cX1_counterWants 17 = .ok (.aload_n 0, 1) := by decide +kernel
theorem dX1_counterWants_18 : decode cX1_counterWants 18 = .ok (.iload_n 1, 1) := by decide +kernel
theorem dX1_counterWants_19 : decode cX1_counterWants 19 = .ok (.iload_n 2, 1) := by decide +kernel
theorem dX1_counterWants_20 : decode cX1_counterWants 20 = .ok (.invokevirtual 68, 3) := by decide +kernel
theorem dX1_counterWants_23 : decode cX1_counterWants 23 = .ok (.istore 4, 2) := by decide +kernel
theorem dX1_counterWants_25 : decode cX1_counterWants 25 = .ok (.iload 4, 2) := by decide +kernel
theorem dX1_counterWants_27 : decode cX1_counterWants 27 = .ok (.iload_n 3, 1) := by decide +kernel
theorem dX1_counterWants_28 : decode cX1_counterWants 28 = .ok (.if_icmp .eq 6, 3) := by decide +kernel
theorem dX1_counterWants_31 : decode cX1_counterWants 31 = .ok (.iload 4, 2) := by decide +kernel
theorem dX1_counterWants_33 : decode cX1_counterWants 33 = .ok (.ireturn, 1) := by decide +kernel
theorem dX1_counterWants_34 : decode cX1_counterWants 34 = .ok (.iload 4, 2) := by decide +kernel
theorem dX1_counterWants_36 : decode cX1_counterWants 36 = .ok (.iconst 1, 1) := by decide +kernel
theorem dX1_counterWants_37 : decode cX1_counterWants 37 = .ok (.iadd, 1) := by decide +kernel
theorem dX1_counterWants_38 : decode cX1_counterWants 38 = .ok (.aload_n 0, 1) := by decide +kernel
theorem dX1_counterWants_39 : decode cX1_counterWants 39 = .ok (.getfield 31, 3) := by decide +kernel
theorem dX1_counterWants_42 : decode cX1_counterWants 42 = .ok (.if_icmp .ge 10, 3) := by decide +kernel
theorem dX1_counterWants_45 : decode cX1_counterWants 45 = .ok (.iload 4, 2) := by decide +kernel
theorem dX1_counterWants_47 : decode cX1_counterWants 47 = .ok (.iconst 1, 1) := by decide +kernel
theorem dX1_counterWants_48 : decode cX1_counterWants 48 = .ok (.iadd, 1) := by decide +kernel
theorem dX1_counterWants_49 : decode cX1_counterWants 49 = .ok (.goto 4, 3) := by decide +kernel
theorem dX1_counterWants_52 : decode cX1_counterWants 52 = .ok (.iconst 0, 1) := by decide +kernel
theorem dX1_counterWants_53 : decode cX1_counterWants 53 = .ok (.ireturn, 1) := by decide +kernel
theorem dX1_pointerWants_0 : decode cX1_pointerWants 0 = .ok (.aload_n 0, 1) := by decide +kernel
theorem dX1_pointerWants_1 : decode cX1_pointerWants 1 = .ok (.iload_n 1, 1) := by decide +kernel
theorem dX1_pointerWants_2 : decode cX1_pointerWants 2 = .ok (.iload_n 2, 1) := by decide +kernel
theorem dX1_pointerWants_3 : decode cX1_pointerWants 3 = .ok (.invokevirtual 68, 3) := by decide +kernel
theorem dX1_pointerWants_6 : decode cX1_pointerWants 6 = .ok (.istore_n 3, 1) := by decide +kernel
theorem dX1_pointerWants_7 : decode cX1_pointerWants 7 = .ok (.iload_n 3, 1) := by decide +kernel
theorem dX1_pointerWants_8 : decode cX1_pointerWants 8 = .ok (.ifCond .ne 51, 3) := by decide +kernel
theorem dX1_pointerWants_11 : decode cX1_pointerWants 11 = .ok (.aload_n 0, 1) := by decide +kernel
theorem dX1_pointerWants_12 : decode cX1_pointerWants 12 = .ok (.iload_n 1, 1) := by decide +kernel
theorem dX1_pointerWants_13 : decode cX1_pointerWants 13 = .ok (.iload_n 2, 1) := by decide +kernel
theorem dX1_pointerWants_14 : decode cX1_pointerWants 14 = .ok (.iload_n 2, 1) := by decide +kernel
theorem dX1_pointerWants_15 : decode cX1_pointerWants 15 = .ok (.iconst 1, 1) := by decide +kernel
theorem dX1_pointerWants_16 : decode cX1_pointerWants 16 = .ok (.iadd, 1) := by decide +kernel
theorem dX1_pointerWants_17 : decode cX1_pointerWants 17 = .ok (.invokevirtual 87, 3) := by decide +kernel
theorem dX1_pointerWants_20 : decode cX1_pointerWants 20 = .ok (.istore 4, 2) := by decide +kernel
theorem dX1_pointerWants_22 : decode cX1_pointerWants 22 = .ok (.iload 4, 2) := by decide +kernel
theorem dX1_pointerWants_24 : decode cX1_pointerWants 24 = .ok (.bipush (-4), 2) := by decide +kernel
theorem dX1_pointerWants_26 : decode cX1_pointerWants 26 = .ok (.if_icmp .eq 8, 3) := by decide +kernel
theorem dX1_pointerWants_29 : decode cX1_pointerWants 29 = .ok (.iload 4, 2) := by decide +kernel
theorem dX1_pointerWants_31 : decode cX1_pointerWants 31 = .ok (.goto 10, 3) := by decide +kernel
theorem dX1_pointerWants_34 : decode cX1_pointerWants 34 = .ok (.aload_n 0, 1) := by decide +kernel
theorem dX1_pointerWants_35 : decode cX1_pointerWants 35 = .ok (.iload_n 1, 1) := by decide +kernel
theorem dX1_pointerWants_36 : decode cX1_pointerWants 36 = .ok (.iload_n 2, 1) := by decide +kernel
theorem dX1_pointerWants_37 : decode cX1_pointerWants 37 = .ok (.iconst 0, 1) := by decide +kernel
theorem dX1_pointerWants_38 : decode cX1_pointerWants 38 = .ok (.invokevirtual 87, 3) := by decide +kernel
theorem dX1_pointerWants_41 : decode cX1_pointerWants 41 = .ok (.istore 5, 2) := by decide +kernel
theorem dX1_pointerWants_43 : decode cX1_pointerWants 43 = .ok (.iload 5, 2) := by decide +kernel
theorem dX1_pointerWants_45 : decode cX1_pointerWants 45 = .ok (.bipush (-4), 2) := by decide +kernel
theorem dX1_pointerWants_47 : decode cX1_pointerWants 47 = .ok (.if_icmp .eq 10, 3) := by decide +kernel
theorem dX1_pointerWants_50 : decode cX1_pointerWants 50 = .ok (.iload 5, 2) := by decide +kernel
theorem dX1_pointerWants_52 : decode cX1_pointerWants 52 = .ok (.iconst 1, 1) := by decide +kernel
theorem dX1_pointerWants_53 : decode cX1_pointerWants 53 = .ok (.iadd, 1) := by decide +kernel
theorem dX1_pointerWants_54 : decode cX1_pointerWants 54 = .ok (.goto 4, 3) := by decide +kernel
theorem dX1_pointerWants_57 : decode cX1_pointerWants 57 = .ok (.iload_n 3, 1) := by decide +kernel
theorem dX1_pointerWants_58 : decode cX1_pointerWants 58 = .ok (.ireturn, 1) := by decide +kernel
theorem dX1_pointerWants_59 : decode cX1_pointerWants 59 = .ok (.aload_n 0, 1) := by decide +kernel
theorem dX1_pointerWants_60 : decode cX1_pointerWants 60 = .ok (.iload_n 2, 1) := by decide +kernel
theorem dX1_pointerWants_61 : decode cX1_pointerWants 61 = .ok (.iload_n 3, 1) := by decide +kernel
theorem dX1_pointerWants_62 : decode cX1_pointerWants 62 = .ok (.iconst 1, 1) := by decide +kernel
theorem dX1_pointerWants_63 : decode cX1_pointerWants 63 = .ok (.isub, 1) := by decide +kernel
theorem dX1_pointerWants_64 : decode cX1_pointerWants 64 = .ok (.invokevirtual 47, 3) := by decide +kernel
theorem dX1_pointerWants_67 : decode cX1_pointerWants 67 = .ok (.ifCond .ne 5, 3) := by decide +kernel
theorem dX1_pointerWants_70 : decode cX1_pointerWants 70 = .ok (.iconst 0, 1) := by decide +kernel
theorem dX1_pointerWants_71 : decode cX1_pointerWants 71 = .ok (.ireturn, 1) := by decide +kernel
theorem dX1_pointerWants_72 : decode cX1_pointerWants 72 = .ok (.aload_n 0, 1) := by decide +kernel
theorem dX1_pointerWants_73 : decode cX1_pointerWants 73 = .ok (.iload_n 1, 1) := by decide +kernel
theorem dX1_pointerWants_74 : decode cX1_pointerWants 74 = .ok (.iload_n 3, 1) := by decide +kernel
theorem dX1_pointerWants_75 : decode cX1_pointerWants 75 = .ok (.iconst 1, 1) := by decide +kernel
theorem dX1_pointerWants_76 : decode cX1_pointerWants 76 = .ok (.isub, 1) := by decide +kernel
theorem dX1_pointerWants_77 : decode cX1_pointerWants 77 = .ok (.invokevirtual 68, 3) := by decide +kernel
theorem dX1_pointerWants_80 : decode cX1_pointerWants 80 = .ok (.istore 4, 2) := by decide +kernel
theorem dX1_pointerWants_82 : decode cX1_pointerWants 82 = .ok (.iload 4, 2) := by decide +kernel
theorem dX1_pointerWants_84 : decode cX1_pointerWants 84 = .ok (.ifCond .eq 11, 3) := by decide +kernel
theorem dX1_pointerWants_87 : decode cX1_pointerWants 87 = .ok (.iload 4, 2) := by decide +kernel
theorem dX1_pointerWants_89 : decode cX1_pointerWants 89 = .ok (.iload_n 2, 1) := by decide +kernel
theorem dX1_pointerWants_90 : decode cX1_pointerWants 90 = .ok (.iconst 1, 1) := by decide +kernel
theorem dX1_pointerWants_91 : decode cX1_pointerWants 91 = .ok (.iadd, 1) := by decide +kernel
theorem dX1_pointerWants_92 : decode cX1_pointerWants 92 = .ok (.if_icmp .ne 7, 3) := by decide +kernel
theorem dX1_pointerWants_95 : decode cX1_pointerWants 95 = .ok (.iload_n 3, 1) := by decide +kernel
theorem dX1_pointerWants_96 : decode cX1_pointerWants 96 = .ok (.goto 4, 3) := by decide +kernel
theorem dX1_pointerWants_99 : decode cX1_pointerWants 99 = .ok (.iconst 0, 1) := by decide +kernel
theorem dX1_pointerWants_100 : decode cX1_pointerWants 100 = .ok (.ireturn, 1) := by decide +kernel
theorem dX1_distanceWants_0 : decode cX1_distanceWants 0 = .ok (.iload_n 2, 1) := by decide +kernel
theorem dX1_distanceWants_1 : decode cX1_distanceWants 1 = .ok (.ifCond .ne 5, 3) := by decide +kernel
theorem dX1_distanceWants_4 : decode cX1_distanceWants 4 = .ok (.iconst 0, 1) := by decide +kernel
theorem dX1_distanceWants_5 : decode cX1_distanceWants 5 = .ok (.ireturn, 1) := by decide +kernel
theorem dX1_distanceWants_6 : decode cX1_distanceWants 6 = .ok (.aload_n 0, 1) := by decide +kernel
theorem dX1_distanceWants_7 : decode cX1_distanceWants 7 = .ok (.getfield 31, 3) := by decide +kernel
theorem dX1_distanceWants_10 : decode cX1_distanceWants 10 = .ok (.iconst 1, 1) := by decide +kernel
theorem dX1_distanceWants_11 : decode cX1_distanceWants 11 = .ok (.isub, 1) := by decide +kernel
theorem dX1_distanceWants_12 : decode cX1_distanceWants 12 = .ok (.istore_n 3, 1) := by decide +kernel
theorem dX1_distanceWants_13 : decode cX1_distanceWants 13 = .ok (.iconst 0, 1) := by decide +kernel
theorem dX1_distanceWants_14 : decode cX1_distanceWants 14 = .ok (.istore 4, 2) := by decide +kernel
theorem dX1_distanceWants_16 : decode cX1_distanceWants 16 = .ok (.iload 4, 2) := by decide +kernel
theorem dX1_distanceWants_18 : decode cX1_distanceWants 18 = .ok (.aload_n 0, 1) := by decide +kernel
theorem dX1_distanceWants_19 : decode cX1_distanceWants 19 = .ok (.getfield 28, 3) := by decide +kernel
theorem dX1_distanceWants_22 : decode cX1_distanceWants 22 = .ok (.if_icmp .ge 33, 3) := by decide +kernel
theorem dX1_distanceWants_25 : decode cX1_distanceWants 25 = .ok (.aload_n 0, 1) := by decide +kernel
theorem dX1_distanceWants_26 : decode cX1_distanceWants 26 = .ok (.iload_n 2, 1) := by decide +kernel
theorem dX1_distanceWants_27 : decode cX1_distanceWants 27 = .ok (.iload 4, 2) := by decide +kernel
theorem dX1_distanceWants_29 : decode cX1_distanceWants 29 = .ok (.invokevirtual 47, 3) := by decide +kernel
theorem dX1_distanceWants_32 : decode cX1_distanceWants 32 = .ok (.ifCond .eq 17, 3) := by decide +kernel
theorem dX1_distanceWants_35 : decode cX1_distanceWants 35 = .ok (.iload_n 3, 1) := by decide +kernel
theorem dX1_distanceWants_36 : decode cX1_distanceWants 36 = .ok (.aload_n 0, 1) := by decide +kernel
theorem dX1_distanceWants_37 : decode cX1_distanceWants 37 = .ok (.iload_n 1, 1) := by decide +kernel
theorem dX1_distanceWants_38 : decode cX1_distanceWants 38 = .ok (.iload 4, 2) := by decide +kernel
theorem dX1_distanceWants_40 : decode cX1_distanceWants 40 = .ok (.invokevirtual 68, 3) := by decide +kernel
theorem dX1_distanceWants_43 : decode cX1_distanceWants 43 = .ok (.iconst 1, 1) := by decide +kernel
theorem dX1_distanceWants_44 : decode cX1_distanceWants 44 = .ok (.iadd, 1) := by decide +kernel
theorem dX1_distanceWants_45 : decode cX1_distanceWants 45 = .ok (.invokestatic 90, 3) := by decide +kernel
theorem dX1_distanceWants_48 : decode cX1_distanceWants 48 = .ok (.istore_n 3, 1) := by decide +kernel
theorem dX1_distanceWants_49 : decode cX1_distanceWants 49 = .ok (.iinc 4 1, 3) := by decide +kernel
theorem dX1_distanceWants_52 : decode cX1_distanceWants 52 = .ok (.goto (-36), 3) := by decide +kernel
theorem dX1_distanceWants_55 : decode cX1_distanceWants 55 = .ok (.iload_n 3, 1) := by decide +kernel
theorem dX1_distanceWants_56 : decode cX1_distanceWants 56 = .ok (.ireturn, 1) := by decide +kernel
theorem dX1_colourWants_0 : decode cX1_colourWants 0 = .ok (.iconst 0, 1) := by decide +kernel
theorem dX1_colourWants_1 : decode cX1_colourWants 1 = .ok (.istore_n 3, 1) := by decide +kernel
theorem dX1_colourWants_2 : decode cX1_colourWants 2 = .ok (.iconst 0, 1) := by decide +kernel
theorem dX1_colourWants_3 : decode cX1_colourWants 3 = .ok (.istore 4, 2) := by decide +kernel
theorem dX1_colourWants_5 : decode cX1_colourWants 5 = .ok (.iload 4, 2) := by decide +kernel
theorem dX1_colourWants_7 : decode cX1_colourWants 7 = .ok (.aload_n 0, 1) := by decide +kernel
theorem dX1_colourWants_8 : decode cX1_colourWants 8 = .ok (.getfield 28, 3) := by decide +kernel
theorem dX1_colourWants_11 : decode cX1_colourWants 11 = .ok (.if_icmp .ge 31, 3) := by decide +kernel
theorem dX1_colourWants_14 : decode cX1_colourWants 14 = .ok (.aload_n 0, 1) := by decide +kernel
theorem dX1_colourWants_15 : decode cX1_colourWants 15 = .ok (.iload_n 2, 1) := by decide +kernel
theorem dX1_colourWants_16 : decode cX1_colourWants 16 = .ok (.iload 4, 2) := by decide +kernel
theorem dX1_colourWants_18 : decode cX1_colourWants 18 = .ok (.invokevirtual 47, 3) := by decide +kernel
theorem dX1_colourWants_21 : decode cX1_colourWants 21 = .ok (.ifCond .eq 15, 3) := by decide +kernel
theorem dX1_colourWants_24 : decode cX1_colourWants 24 = .ok (.iload_n 3, 1) := by decide +kernel
theorem dX1_colourWants_25 : decode cX1_colourWants 25 = .ok (.iconst 1, 1) := by decide +kernel
theorem dX1_colourWants_26 : decode cX1_colourWants 26 = .ok (.aload_n 0, 1) := by decide +kernel
theorem dX1_colourWants_27 : decode cX1_colourWants 27 = .ok (.iload_n 1, 1) := by decide +kernel
theorem dX1_colourWants_28 : decode cX1_colourWants 28 = .ok (.iload 4, 2) := by decide +kernel
theorem dX1_colourWants_30 : decode cX1_colourWants 30 = .ok (.invokevirtual 68, 3) := by decide +kernel
theorem dX1_colourWants_33 : decode cX1_colourWants 33 = .ok (.ishl, 1) := by decide +kernel
theorem dX1_colourWants_34 : decode cX1_colourWants 34 = .ok (.ior, 1) := by decide +kernel
theorem dX1_colourWants_35 : decode cX1_colourWants 35 = .ok (.istore_n 3, 1) := by decide +kernel
theorem dX1_colourWants_36 : decode cX1_colourWants 36 = .ok (.iinc 4 1, 3) := by decide +kernel
theorem dX1_colourWants_39 : decode cX1_colourWants 39 = .ok (.goto (-34), 3) := by decide +kernel
theorem dX1_colourWants_42 : decode cX1_colourWants 42 = .ok (.aload_n 0, 1) := by decide +kernel
theorem dX1_colourWants_43 : decode cX1_colourWants 43 = .ok (.iload_n 1, 1) := by decide +kernel
theorem dX1_colourWants_44 : decode cX1_colourWants 44 = .ok (.iload_n 2, 1) := by decide +kernel
theorem dX1_colourWants_45 : decode cX1_colourWants 45 = .ok (.invokevirtual 68, 3) := by decide +kernel
theorem dX1_colourWants_48 : decode cX1_colourWants 48 = .ok (.istore 4, 2) := by decide +kernel
theorem dX1_colourWants_50 : decode cX1_colourWants 50 = .ok (.iload_n 3, 1) := by decide +kernel
theorem dX1_colourWants_51 : decode cX1_colourWants 51 = .ok (.iload 4, 2) := by decide +kernel
theorem dX1_colourWants_53 : decode cX1_colourWants 53 = .ok (.invokestatic 95, 3) := by decide +kernel
theorem dX1_colourWants_56 : decode cX1_colourWants 56 = .ok (.ifCond .eq 12, 3) := by decide +kernel
theorem dX1_colourWants_59 : decode cX1_colourWants 59 = .ok (.iload_n 3, 1) := by decide +kernel
theorem dX1_colourWants_60 : decode cX1_colourWants 60 = .ok (.iconst (-1), 1) := by decide +kernel
theorem dX1_colourWants_61 : decode cX1_colourWants 61 = .ok (.ixor, 1) := by decide +kernel
theorem dX1_colourWants_62 : decode cX1_colourWants 62 = .ok (.invokestatic 100, 3) := by decide +kernel
theorem dX1_colourWants_65 : decode cX1_colourWants 65 = .ok (.goto 5, 3) := by decide +kernel
theorem dX1_colourWants_68 : decode cX1_colourWants 68 = .ok (.iload 4, 2) := by decide +kernel
theorem dX1_colourWants_70 : decode cX1_colourWants 70 = .ok (.ireturn, 1) := by decide +kernel
theorem dX1_lowestLinkedWith_0 : decode cX1_lowestLinkedWith 0 = .ok (.iconst 0, 1) := by decide +kernel
theorem dX1_lowestLinkedWith_1 : decode cX1_lowestLinkedWith 1 = .ok (.istore 4, 2) := by decide +kernel
theorem dX1_lowestLinkedWith_3 : decode cX1_lowestLinkedWith 3 = .ok (.iload 4, 2) := by decide +kernel
theorem dX1_lowestLinkedWith_5 : decode cX1_lowestLinkedWith 5 = .ok (.aload_n 0, 1) := by decide +kernel
theorem dX1_lowestLinkedWith_6 : decode cX1_lowestLinkedWith 6 = .ok (.getfield 28, 3) := by decide +kernel
theorem dX1_lowestLinkedWith_9 : decode cX1_lowestLinkedWith 9 = .ok (.if_icmp .ge 33, 3) := by decide +kernel
theorem dX1_lowestLinkedWith_12 : decode cX1_lowestLinkedWith 12 = .ok (.aload_n 0, 1) := by decide +kernel
theorem dX1_lowestLinkedWith_13 : decode cX1_lowestLinkedWith 13 = .ok (.iload_n 2, 1) := by decide +kernel
theorem dX1_lowestLinkedWith_14 : decode cX1_lowestLinkedWith 14 = .ok (.iload 4, 2) := by decide +kernel
theorem dX1_lowestLinkedWith_16 : decode cX1_lowestLinkedWith 16 = .ok (.invokevirtual 47, 3) := by decide +kernel
theorem dX1_lowestLinkedWith_19 : decode cX1_lowestLinkedWith 19 = .ok (.ifCond .eq 17, 3) := by decide +kernel
theorem dX1_lowestLinkedWith_22 : decode cX1_lowestLinkedWith 22 = .ok (.aload_n 0, 1) := by decide +kernel
theorem dX1_lowestLinkedWith_23 : decode cX1_lowestLinkedWith 23 = .ok (.iload_n 1, 1) := by decide +kernel
theorem dX1_lowestLinkedWith_24 : decode cX1_lowestLinkedWith 24 = .ok (.iload 4, 2) := by decide +kernel
theorem dX1_lowestLinkedWith_26 : decode cX1_lowestLinkedWith 26 = .ok (.invokevirtual 68, 3) := by decide +kernel
theorem dX1_lowestLinkedWith_29 : decode cX1_lowestLinkedWith 29 = .ok (.iload_n 3, 1) := by decide +kernel
theorem dX1_lowestLinkedWith_30 : decode cX1_lowestLinkedWith 30 = .ok (.if_icmp .ne 6, 3) := by decide +kernel
theorem dX1_lowestLinkedWith_33 : decode cX1_lowestLinkedWith 33 = .ok (.iload 4, 2) := by decide +kernel
theorem dX1_lowestLinkedWith_35 : decode cX1_lowestLinkedWith 35 = .ok (.ireturn, 1) := by decide +kernel
theorem dX1_lowestLinkedWith_36 : decode cX1_lowestLinkedWith 36 = .ok (.iinc 4 1, 3) := by decide +kernel
theorem dX1_lowestLinkedWith_39 : decode cX1_lowestLinkedWith 39 = .ok (.goto (-36), 3) := by decide +kernel
theorem dX1_lowestLinkedWith_42 : decode cX1_lowestLinkedWith 42 = .ok (.bipush (-4), 2) := by decide +kernel
theorem dX1_lowestLinkedWith_44 : decode cX1_lowestLinkedWith 44 = .ok (.ireturn, 1) := by decide +kernel
theorem dX1_ruleOf_0 : decode cX1_ruleOf 0 = .ok (.aload_n 0, 1) := by decide +kernel
theorem dX1_ruleOf_1 : decode cX1_ruleOf 1 = .ok (.iload_n 1, 1) := by decide +kernel
theorem dX1_ruleOf_2 : decode cX1_ruleOf 2 = .ok (.iload_n 2, 1) := by decide +kernel
theorem dX1_ruleOf_3 : decode cX1_ruleOf 3 = .ok (.invokevirtual 68, 3) := by decide +kernel
theorem dX1_ruleOf_6 : decode cX1_ruleOf 6 = .ok (.istore_n 3, 1) := by decide +kernel
theorem dX1_ruleOf_7 : decode cX1_ruleOf 7 = .ok (.aload_n 0, 1) := by decide +kernel
theorem dX1_ruleOf_8 : decode cX1_ruleOf 8 = .ok (.iload_n 1, 1) := by decide +kernel
theorem dX1_ruleOf_9 : decode cX1_ruleOf 9 = .ok (.iload_n 2, 1) := by decide +kernel
theorem dX1_ruleOf_10 : decode cX1_ruleOf 10 = .ok (.invokevirtual 103, 3) := by decide +kernel
theorem dX1_ruleOf_13 : decode cX1_ruleOf 13 = .ok (.istore 4, 2) := by decide +kernel
theorem dX1_ruleOf_15 : decode cX1_ruleOf 15 = .ok (.iload 4, 2) := by decide +kernel
theorem dX1_ruleOf_17 : decode cX1_ruleOf 17 = .ok (.iload_n 3, 1) := by decide +kernel
theorem dX1_ruleOf_18 : decode cX1_ruleOf 18 = .ok (.if_icmp .ne 5, 3) := by decide +kernel
theorem dX1_ruleOf_21 : decode cX1_ruleOf 21 = .ok (.iconst 0, 1) := by decide +kernel
theorem dX1_ruleOf_22 : decode cX1_ruleOf 22 = .ok (.ireturn, 1) := by decide +kernel
theorem dX1_ruleOf_23 : decode cX1_ruleOf 23 = .ok (.aload_n 0, 1) := by decide +kernel
theorem dX1_ruleOf_24 : decode cX1_ruleOf 24 = .ok (.getfield 24, 3) := by decide +kernel
theorem dX1_ruleOf_27 : decode cX1_ruleOf 27 = .ok (.iconst 2, 1) := by decide +kernel
theorem dX1_ruleOf_28 : decode cX1_ruleOf 28 = .ok (.if_icmp .eq 5, 3) := by decide +kernel
theorem dX1_ruleOf_31 : decode cX1_ruleOf 31 = .ok (.iconst 1, 1) := by decide +kernel
theorem dX1_ruleOf_32 : decode cX1_ruleOf 32 = .ok (.ireturn, 1) := by decide +kernel
theorem dX1_ruleOf_33 : decode cX1_ruleOf 33 = .ok (.iload_n 3, 1) := by decide +kernel
theorem dX1_ruleOf_34 : decode cX1_ruleOf 34 = .ok (.ifCond .eq 5, 3) := by decide +kernel
theorem dX1_ruleOf_37 : decode cX1_ruleOf 37 = .ok (.iconst 3, 1) := by decide +kernel
theorem dX1_ruleOf_38 : decode cX1_ruleOf 38 = .ok (.ireturn, 1) := by decide +kernel
theorem dX1_ruleOf_39 : decode cX1_ruleOf 39 = .ok (.aload_n 0, 1) := by decide +kernel
theorem dX1_ruleOf_40 : decode cX1_ruleOf 40 = .ok (.iload_n 1, 1) := by decide +kernel
theorem dX1_ruleOf_41 : decode cX1_ruleOf 41 = .ok (.iload 4, 2) := by decide +kernel
theorem dX1_ruleOf_43 : decode cX1_ruleOf 43 = .ok (.iconst 1, 1) := by decide +kernel
theorem dX1_ruleOf_44 : decode cX1_ruleOf 44 = .ok (.isub, 1) := by decide +kernel
theorem dX1_ruleOf_45 : decode cX1_ruleOf 45 = .ok (.invokevirtual 68, 3) := by decide +kernel
theorem dX1_ruleOf_48 : decode cX1_ruleOf 48 = .ok (.iload_n 2, 1) := by decide +kernel
theorem dX1_ruleOf_49 : decode cX1_ruleOf 49 = .ok (.iconst 1, 1) := by decide +kernel
theorem dX1_ruleOf_50 : decode cX1_ruleOf 50 = .ok (.iadd, 1) := by decide +kernel
theorem dX1_ruleOf_51 : decode cX1_ruleOf 51 = .ok (.if_icmp .ne 7, 3) := by decide +kernel
theorem dX1_ruleOf_54 : decode cX1_ruleOf 54 = .ok (.iconst 1, 1) := by decide +kernel
theorem dX1_ruleOf_55 : decode cX1_ruleOf 55 = .ok (.goto 4, 3) := by decide +kernel
theorem dX1_ruleOf_58 : decode cX1_ruleOf 58 = .ok (.iconst 2, 1) := by decide +kernel
theorem dX1_ruleOf_59 : decode cX1_ruleOf 59 = .ok (.ireturn, 1) := by decide +kernel
theorem dX1_whoMay_0 : decode cX1_whoMay 0 = .ok (.iconst 0, 1) := by decide +kernel
theorem dX1_whoMay_1 : decode cX1_whoMay 1 = .ok (.istore_n 2, 1) := by decide +kernel
theorem dX1_whoMay_2 : decode cX1_whoMay 2 = .ok (.iconst 0, 1) := by decide +kernel
theorem dX1_whoMay_3 : decode cX1_whoMay 3 = .ok (.istore_n 3, 1) := by decide +kernel
theorem dX1_whoMay_4 : decode cX1_whoMay 4 = .ok (.iload_n 3, 1) := by decide +kernel
theorem dX1_whoMay_5 : decode cX1_whoMay 5 = .ok (.aload_n 0, 1) := by decide +kernel
theorem dX1_whoMay_6 : decode cX1_whoMay 6 = .ok (.getfield 28, 3) := by decide +kernel
theorem dX1_whoMay_9 : decode cX1_whoMay 9 = .ok (.if_icmp .ge 30, 3) := by decide +kernel
theorem dX1_whoMay_12 : decode cX1_whoMay 12 = .ok (.aload_n 0, 1) := by decide +kernel
theorem dX1_whoMay_13 : decode cX1_whoMay 13 = .ok (.iload_n 1, 1) := by decide +kernel
theorem dX1_whoMay_14 : decode cX1_whoMay 14 = .ok (.iload_n 3, 1) := by decide +kernel
theorem dX1_whoMay_15 : decode cX1_whoMay 15 = .ok (.invokevirtual 103, 3) := by decide +kernel
theorem dX1_whoMay_18 : decode cX1_whoMay 18 = .ok (.aload_n 0, 1) := by decide +kernel
theorem dX1_whoMay_19 : decode cX1_whoMay 19 = .ok (.iload_n 1, 1) := by decide +kernel
theorem dX1_whoMay_20 : decode cX1_whoMay 20 = .ok (.iload_n 3, 1) := by decide +kernel
theorem dX1_whoMay_21 : decode cX1_whoMay 21 = .ok (.invokevirtual 68, 3) := by decide +kernel
theorem dX1_whoMay_24 : decode cX1_whoMay 24 = .ok (.if_icmp .eq 9, 3) := by decide +kernel
theorem dX1_whoMay_27 : decode cX1_whoMay 27 = .ok (.iload_n 2, 1) := by decide +kernel
theorem dX1_whoMay_28 : decode cX1_whoMay 28 = .ok (.iconst 1, 1) := by decide +kernel
theorem dX1_whoMay_29 : decode cX1_whoMay 29 = .ok (.iload_n 3, 1) := by decide +kernel
theorem dX1_whoMay_30 : decode cX1_whoMay 30 = .ok (.ishl, 1) := by decide +kernel
theorem dX1_whoMay_31 : decode cX1_whoMay 31 = .ok (.ior, 1) := by decide +kernel
theorem dX1_whoMay_32 : decode cX1_whoMay 32 = .ok (.istore_n 2, 1) := by decide +kernel
theorem dX1_whoMay_33 : decode cX1_whoMay 33 = .ok (.iinc 3 1, 3) := by decide +kernel
theorem dX1_whoMay_36 : decode cX1_whoMay 36 = .ok (.goto (-32), 3) := by decide +kernel
theorem dX1_whoMay_39 : decode cX1_whoMay 39 = .ok (.iload_n 2, 1) := by decide +kernel
theorem dX1_whoMay_40 : decode cX1_whoMay 40 = .ok (.ireturn, 1) := by decide +kernel
theorem dX1_isLegal_0 : decode cX1_isLegal 0 = .ok (.aload_n 0, 1) := by decide +kernel
theorem dX1_isLegal_1 : decode cX1_isLegal 1 = .ok (.iload_n 1, 1) := by decide +kernel
theorem dX1_isLegal_2 : decode cX1_isLegal 2 = .ok (.invokevirtual 106, 3) := by decide +kernel
theorem dX1_isLegal_5 : decode cX1_isLegal 5 = .ok (.istore_n 2, 1) := by decide +kernel
theorem dX1_isLegal_6 : decode cX1_isLegal 6 = .ok (.aload_n 0, 1) := by decide +kernel
theorem dX1_isLegal_7 : decode cX1_isLegal 7 = .ok (.getfield 24, 3) := by decide +kernel
theorem dX1_isLegal_10 : decode cX1_isLegal 10 = .ok (.iconst 1, 1) := by decide +kernel
theorem dX1_isLegal_11 : decode cX1_isLegal 11 = .ok (.if_icmp .ne 19, 3) := by decide +kernel
theorem dX1_isLegal_14 : decode cX1_isLegal 14 = .ok (.iload_n 2, 1) := by decide +kernel
theorem dX1_isLegal_15 : decode cX1_isLegal 15 = .ok (.invokestatic 62, 3) := by decide +kernel
theorem dX1_isLegal_18 : decode cX1_isLegal 18 = .ok (.iconst 1, 1) := by decide +kernel
theorem dX1_isLegal_19 : decode cX1_isLegal 19 = .ok (.if_icmp .ne 7, 3) := by decide +kernel
theorem dX1_isLegal_22 : decode cX1_isLegal 22 = .ok (.iconst 1, 1) := by decide +kernel
theorem dX1_isLegal_23 : decode cX1_isLegal 23 = .ok (.goto 16, 3) := by decide +kernel
theorem dX1_isLegal_26 : decode cX1_isLegal 26 = .ok (.iconst 0, 1) := by decide +kernel
theorem dX1_isLegal_27 : decode cX1_isLegal 27 = .ok (.goto 12, 3) := by decide +kernel
theorem dX1_isLegal_30 : decode cX1_isLegal 30 = .ok (.iload_n 2, 1) := by decide +kernel
theorem dX1_isLegal_31 : decode cX1_isLegal 31 = .ok (.ifCond .ne 7, 3) := by decide +kernel
theorem dX1_isLegal_34 : decode cX1_isLegal 34 = .ok (.iconst 1, 1) := by decide +kernel
theorem dX1_isLegal_35 : decode cX1_isLegal 35 = .ok (.goto 4, 3) := by decide +kernel
theorem dX1_isLegal_38 : decode cX1_isLegal 38 = .ok (.iconst 0, 1) := by decide +kernel
theorem dX1_isLegal_39 : decode cX1_isLegal 39 = .ok (.ireturn, 1) := by decide +kernel
theorem dX1_moved_0 : decode cX1_moved 0 = .ok (.iload_n 1, 1) := by decide +kernel
theorem dX1_moved_1 : decode cX1_moved 1 = .ok (.istore_n 3, 1) := by decide +kernel
theorem dX1_moved_2 : decode cX1_moved 2 = .ok (.iconst 0, 1) := by decide +kernel
theorem dX1_moved_3 : decode cX1_moved 3 = .ok (.istore 4, 2) := by decide +kernel
theorem dX1_moved_5 : decode cX1_moved 5 = .ok (.iload 4, 2) := by decide +kernel
theorem dX1_moved_7 : decode cX1_moved 7 = .ok (.aload_n 0, 1) := by decide +kernel
theorem dX1_moved_8 : decode cX1_moved 8 = .ok (.getfield 28, 3) := by decide +kernel
theorem dX1_moved_11 : decode cX1_moved 11 = .ok (.if_icmp .ge 33, 3) := by decide +kernel
theorem dX1_moved_14 : decode cX1_moved 14 = .ok (.iload_n 2, 1) := by decide +kernel
theorem dX1_moved_15 : decode cX1_moved 15 = .ok (.iload 4, 2) := by decide +kernel
theorem dX1_moved_17 : decode cX1_moved 17 = .ok (.invokestatic 95, 3) := by decide +kernel
theorem dX1_moved_20 : decode cX1_moved 20 = .ok (.ifCond .eq 18, 3) := by decide +kernel
theorem dX1_moved_23 : decode cX1_moved 23 = .ok (.aload_n 0, 1) := by decide +kernel
theorem dX1_moved_24 : decode cX1_moved 24 = .ok (.iload_n 3, 1) := by decide +kernel
theorem dX1_moved_25 : decode cX1_moved 25 = .ok (.iload 4, 2) := by decide +kernel
theorem dX1_moved_27 : decode cX1_moved 27 = .ok (.aload_n 0, 1) := by decide +kernel
theorem dX1_moved_28 : decode cX1_moved 28 = .ok (.iload_n 1, 1) := by decide +kernel
theorem dX1_moved_29 : decode cX1_moved 29 = .ok (.iload 4, 2) := by decide +kernel
theorem dX1_moved_31 : decode cX1_moved 31 = .ok (.invokevirtual 103, 3) := by decide +kernel
theorem dX1_moved_34 : decode cX1_moved 34 = .ok (.invokevirtual 58, 3) := by decide +kernel
theorem dX1_moved_37 : decode cX1_moved 37 = .ok (.istore_n 3, 1) := by decide +kernel
theorem dX1_moved_38 : decode cX1_moved 38 = .ok (.iinc 4 1, 3) := by decide +kernel
theorem dX1_moved_41 : decode cX1_moved 41 = .ok (.goto (-36), 3) := by decide +kernel
theorem dX1_moved_44 : decode cX1_moved 44 = .ok (.iload_n 3, 1) := by decide +kernel
theorem dX1_moved_45 : decode cX1_moved 45 = .ok (.ireturn, 1) := by decide +kernel
theorem dX1_struck_0 : decode cX1_struck 0 = .ok (.aload_n 0, 1) := by decide +kernel
theorem dX1_struck_1 : decode cX1_struck 1 = .ok (.getfield 28, 3) := by decide +kernel
theorem dX1_struck_4 : decode cX1_struck 4 = .ok (.ifCond .le 10, 3) := by decide +kernel
theorem dX1_struck_7 : decode cX1_struck 7 = .ok (.aload_n 0, 1) := by decide +kernel
theorem dX1_struck_8 : decode cX1_struck 8 = .ok (.getfield 31, 3) := by decide +kernel
theorem dX1_struck_11 : decode cX1_struck 11 = .ok (.ifCond .gt 5, 3) := by decide +kernel
theorem dX1_struck_14 : decode cX1_struck 14 = .ok (.iload_n 1, 1) := by decide +kernel
theorem dX1_struck_15 : decode cX1_struck 15 = .ok (.ireturn, 1) := by decide +kernel
theorem dX1_struck_16 : decode cX1_struck 16 = .ok (.aload_n 0, 1) := by decide +kernel
theorem dX1_struck_17 : decode cX1_struck 17 = .ok (.iload_n 1, 1) := by decide +kernel
theorem dX1_struck_18 : decode cX1_struck 18 = .ok (.iload_n 2, 1) := by decide +kernel
theorem dX1_struck_19 : decode cX1_struck 19 = .ok (.bipush 8, 2) := by decide +kernel
theorem dX1_struck_21 : decode cX1_struck 21 = .ok (.idiv, 1) := by decide +kernel
theorem dX1_struck_22 : decode cX1_struck 22 = .ok (.aload_n 0, 1) := by decide +kernel
theorem dX1_struck_23 : decode cX1_struck 23 = .ok (.getfield 28, 3) := by decide +kernel
theorem dX1_struck_26 : decode cX1_struck 26 = .ok (.irem, 1) := by decide +kernel
theorem dX1_struck_27 : decode cX1_struck 27 = .ok (.iload_n 2, 1) := by decide +kernel
theorem dX1_struck_28 : decode cX1_struck 28 = .ok (.bipush 64, 2) := by decide +kernel
theorem dX1_struck_30 : decode cX1_struck 30 = .ok (.idiv, 1) := by decide +kernel
theorem dX1_struck_31 : decode cX1_struck 31 = .ok (.aload_n 0, 1) := by decide +kernel
theorem dX1_struck_32 : decode cX1_struck 32 = .ok (.getfield 31, 3) := by decide +kernel
theorem dX1_struck_35 : decode cX1_struck 35 = .ok (.irem, 1) := by decide +kernel
theorem dX1_struck_36 : decode cX1_struck 36 = .ok (.invokevirtual 58, 3) := by decide +kernel
theorem dX1_struck_39 : decode cX1_struck 39 = .ok (.ireturn, 1) := by decide +kernel
theorem dX1_matchOf_0 : decode cX1_matchOf 0 = .ok (.aload_n 0, 1) := by decide +kernel
theorem dX1_matchOf_1 : decode cX1_matchOf 1 = .ok (.iload_n 1, 1) := by decide +kernel
theorem dX1_matchOf_2 : decode cX1_matchOf 2 = .ok (.iload_n 2, 1) := by decide +kernel
theorem dX1_matchOf_3 : decode cX1_matchOf 3 = .ok (.invokevirtual 68, 3) := by decide +kernel
theorem dX1_matchOf_6 : decode cX1_matchOf 6 = .ok (.iconst 1, 1) := by decide +kernel
theorem dX1_matchOf_7 : decode cX1_matchOf 7 = .ok (.isub, 1) := by decide +kernel
theorem dX1_matchOf_8 : decode cX1_matchOf 8 = .ok (.istore_n 3, 1) := by decide +kernel
theorem dX1_matchOf_9 : decode cX1_matchOf 9 = .ok (.aload_n 0, 1) := by decide +kernel
theorem dX1_matchOf_10 : decode cX1_matchOf 10 = .ok (.iload_n 3, 1) := by decide +kernel
theorem dX1_matchOf_11 : decode cX1_matchOf 11 = .ok (.invokevirtual 43, 3) := by decide +kernel
theorem dX1_matchOf_14 : decode cX1_matchOf 14 = .ok (.ifCond .eq 28, 3) := by decide +kernel
theorem dX1_matchOf_17 : decode cX1_matchOf 17 = .ok (.aload_n 0, 1) := by decide +kernel
theorem dX1_matchOf_18 : decode cX1_matchOf 18 = .ok (.iload_n 2, 1) := by decide +kernel
theorem dX1_matchOf_19 : decode cX1_matchOf 19 = .ok (.iload_n 3, 1) := by decide +kernel
theorem dX1_matchOf_20 : decode cX1_matchOf 20 = .ok (.invokevirtual 47, 3) := by decide +kernel
theorem dX1_matchOf_23 : decode cX1_matchOf 23 = .ok (.ifCond .eq 19, 3) := by decide +kernel
theorem dX1_matchOf_26 : decode cX1_matchOf 26 = .ok (.aload_n 0, 1) := by decide +kernel
theorem dX1_matchOf_27 : decode cX1_matchOf 27 = .ok (.iload_n 1, 1) := by decide +kernel
theorem dX1_matchOf_28 : decode cX1_matchOf 28 = .ok (.iload_n 3, 1) := by decide +kernel
theorem dX1_matchOf_29 : decode cX1_matchOf 29 = .ok (.invokevirtual 68, 3) := by decide +kernel
theorem dX1_matchOf_32 : decode cX1_matchOf 32 = .ok (.iload_n 2, 1) := by decide +kernel
theorem dX1_matchOf_33 : decode cX1_matchOf 33 = .ok (.iconst 1, 1) := by decide +kernel
theorem dX1_matchOf_34 : decode cX1_matchOf 34 = .ok (.iadd, 1) := by decide +kernel
theorem dX1_matchOf_35 : decode cX1_matchOf 35 = .ok (.if_icmp .ne 7, 3) := by decide +kernel
theorem dX1_matchOf_38 : decode cX1_matchOf 38 = .ok (.iconst 1, 1) := by decide +kernel
theorem dX1_matchOf_39 : decode cX1_matchOf 39 = .ok (.goto 4, 3) := by decide +kernel
theorem dX1_matchOf_42 : decode cX1_matchOf 42 = .ok (.iconst 0, 1) := by decide +kernel
theorem dX1_matchOf_43 : decode cX1_matchOf 43 = .ok (.istore 4, 2) := by decide +kernel
theorem dX1_matchOf_45 : decode cX1_matchOf 45 = .ok (.iload 4, 2) := by decide +kernel
theorem dX1_matchOf_47 : decode cX1_matchOf 47 = .ok (.ifCond .eq 7, 3) := by decide +kernel
theorem dX1_matchOf_50 : decode cX1_matchOf 50 = .ok (.iload_n 3, 1) := by decide +kernel
theorem dX1_matchOf_51 : decode cX1_matchOf 51 = .ok (.goto 5, 3) := by decide +kernel
theorem dX1_matchOf_54 : decode cX1_matchOf 54 = .ok (.bipush (-4), 2) := by decide +kernel
theorem dX1_matchOf_56 : decode cX1_matchOf 56 = .ok (.ireturn, 1) := by decide +kernel
theorem dX1_parentOf_0 : decode cX1_parentOf 0 = .ok (.aload_n 0, 1) := by decide +kernel
theorem dX1_parentOf_1 : decode cX1_parentOf 1 = .ok (.iload_n 1, 1) := by decide +kernel
theorem dX1_parentOf_2 : decode cX1_parentOf 2 = .ok (.iload_n 2, 1) := by decide +kernel
theorem dX1_parentOf_3 : decode cX1_parentOf 3 = .ok (.aload_n 0, 1) := by decide +kernel
theorem dX1_parentOf_4 : decode cX1_parentOf 4 = .ok (.iload_n 1, 1) := by decide +kernel
theorem dX1_parentOf_5 : decode cX1_parentOf 5 = .ok (.iload_n 2, 1) := by decide +kernel
theorem dX1_parentOf_6 : decode cX1_parentOf 6 = .ok (.invokevirtual 68, 3) := by decide +kernel
theorem dX1_parentOf_9 : decode cX1_parentOf 9 = .ok (.iconst 1, 1) := by decide +kernel
theorem dX1_parentOf_10 : decode cX1_parentOf 10 = .ok (.isub, 1) := by decide +kernel
theorem dX1_parentOf_11 : decode cX1_parentOf 11 = .ok (.invokevirtual 87, 3) := by decide +kernel
theorem dX1_parentOf_14 : decode cX1_parentOf 14 = .ok (.ireturn, 1) := by decide +kernel
theorem dX2_init_0 : decode cX2_init 0 = .ok (.aload_n 0, 1) := by decide +kernel
theorem dX2_init_1 : decode cX2_init 1 = .ok (.invokespecial 3, 3) := by decide +kernel
theorem dX2_init_4 : decode cX2_init 4 = .ok (.aload_n 0, 1) := by decide +kernel
theorem dX2_init_5 : decode cX2_init 5 = .ok (.bipush 6, 2) := by decide +kernel
theorem dX2_init_7 : decode cX2_init 7 = .ok (.newarray .int, 2) := by decide +kernel
theorem dX2_init_9 : decode cX2_init 9 = .ok (.putfield 9, 3) := by decide +kernel
theorem dX2_init_12 : decode cX2_init 12 = .ok (.aload_n 0, 1) := by decide +kernel
theorem dX2_init_13 : decode cX2_init 13 = .ok (.bipush 6, 2) := by decide +kernel
theorem dX2_init_15 : decode cX2_init 15 = .ok (.newarray .int, 2) := by decide +kernel
theorem dX2_init_17 : decode cX2_init 17 = .ok (.putfield 15, 3) := by decide +kernel
theorem dX2_init_20 : decode cX2_init 20 = .ok (.return_, 1) := by decide +kernel
theorem dX2_size_0 : decode cX2_size 0 = .ok (.aload_n 0, 1) := by decide +kernel
theorem dX2_size_1 : decode cX2_size 1 = .ok (.getfield 18, 3) := by decide +kernel
theorem dX2_size_4 : decode cX2_size 4 = .ok (.ireturn, 1) := by decide +kernel
theorem dX2_clear_0 : decode cX2_clear 0 = .ok (.aload_n 0, 1) := by decide +kernel
theorem dX2_clear_1 : decode cX2_clear 1 = .ok (.iconst 0, 1) := by decide +kernel
theorem dX2_clear_2 : decode cX2_clear 2 = .ok (.putfield 18, 3) := by decide +kernel
theorem dX2_clear_5 : decode cX2_clear 5 = .ok (.return_, 1) := by decide +kernel
theorem dX2_keep_0 : decode cX2_keep 0 = .ok (.aload_n 0, 1) := by decide +kernel
theorem dX2_keep_1 : decode cX2_keep 1 = .ok (.getfield 18, 3) := by decide +kernel
theorem dX2_keep_4 : decode cX2_keep 4 = .ok (.bipush 6, 2) := by decide +kernel
theorem dX2_keep_6 : decode cX2_keep 6 = .ok (.if_icmp .lt 7, 3) := by decide +kernel
theorem dX2_keep_9 : decode cX2_keep 9 = .ok (.aload_n 0, 1) := by decide +kernel
theorem dX2_keep_10 : decode cX2_keep 10 = .ok (.invokevirtual 22, 3) := by decide +kernel
theorem dX2_keep_13 : decode cX2_keep 13 = .ok (.aload_n 0, 1) := by decide +kernel
theorem dX2_keep_14 : decode cX2_keep 14 = .ok (.getfield 9, 3) := by decide +kernel
theorem dX2_keep_17 : decode cX2_keep 17 = .ok (.aload_n 0, 1) := by decide +kernel
theorem dX2_keep_18 : decode cX2_keep 18 = .ok (.getfield 18, 3) := by decide +kernel
theorem dX2_keep_21 : decode cX2_keep 21 = .ok (.iload_n 1, 1) := by decide +kernel
theorem dX2_keep_22 : decode cX2_keep 22 = .ok (.invokestatic 25, 3) := by decide +kernel
theorem dX2_keep_25 : decode cX2_keep 25 = .ok (.aload_n 0, 1) := by decide +kernel
theorem dX2_keep_26 : decode cX2_keep 26 = .ok (.getfield 15, 3) := by decide +kernel
theorem dX2_keep_29 : decode cX2_keep 29 = .ok (.aload_n 0, 1) := by decide +kernel
theorem dX2_keep_30 : decode cX2_keep 30 = .ok (.getfield 18, 3) := by decide +kernel
theorem dX2_keep_33 : decode cX2_keep 33 = .ok (.iload_n 2, 1) := by decide +kernel
theorem dX2_keep_34 : decode cX2_keep 34 = .ok (.invokestatic 25, 3) := by decide +kernel
theorem dX2_keep_37 : decode cX2_keep 37 = .ok (.aload_n 0, 1) := by decide +kernel
theorem dX2_keep_38 : decode cX2_keep 38 = .ok (.dup, 1) := by decide +kernel
theorem dX2_keep_39 : decode cX2_keep 39 = .ok (.getfield 18, 3) := by decide +kernel
theorem dX2_keep_42 : decode cX2_keep 42 = .ok (.iconst 1, 1) := by decide +kernel
theorem dX2_keep_43 : decode cX2_keep 43 = .ok (.iadd, 1) := by decide +kernel
theorem dX2_keep_44 : decode cX2_keep 44 = .ok (.putfield 18, 3) := by decide +kernel
theorem dX2_keep_47 : decode cX2_keep 47 = .ok (.return_, 1) := by decide +kernel
theorem dX2_forgetOldest_0 : decode cX2_forgetOldest 0 = .ok (.iconst 1, 1) := by decide +kernel
theorem dX2_forgetOldest_1 : decode cX2_forgetOldest 1 = .ok (.istore_n 1, 1) := by decide +kernel
theorem dX2_forgetOldest_2 : decode cX2_forgetOldest 2 = .ok (.iload_n 1, 1) := by decide +kernel
theorem dX2_forgetOldest_3 : decode cX2_forgetOldest 3 = .ok (.aload_n 0, 1) := by decide +kernel
theorem dX2_forgetOldest_4 : decode cX2_forgetOldest 4 = .ok (.getfield 18, 3) := by decide +kernel
theorem dX2_forgetOldest_7 : decode cX2_forgetOldest 7 = .ok (.if_icmp .ge 45, 3) := by decide +kernel
theorem dX2_forgetOldest_10 : decode cX2_forgetOldest 10 = .ok (.aload_n 0, 1) := by decide +kernel
theorem dX2_forgetOldest_11 : decode cX2_forgetOldest 11 = .ok (.getfield 9, 3) := by decide +kernel
theorem dX2_forgetOldest_14 : decode cX2_forgetOldest 14 = .ok (.iload_n 1, 1) := by decide +kernel
theorem dX2_forgetOldest_15 : decode cX2_forgetOldest 15 = .ok (.iconst 1, 1) := by decide +kernel
theorem dX2_forgetOldest_16 : decode cX2_forgetOldest 16 = .ok (.isub, 1) := by decide +kernel
theorem dX2_forgetOldest_17 : decode cX2_forgetOldest 17 = .ok (.aload_n 0, 1) := by decide +kernel
theorem dX2_forgetOldest_18 : decode cX2_forgetOldest 18 = .ok (.getfield 9, 3) := by decide +kernel
theorem dX2_forgetOldest_21 : decode cX2_forgetOldest 21 = .ok (.iload_n 1, 1) := by decide +kernel
theorem dX2_forgetOldest_22 : decode cX2_forgetOldest 22 = .ok (.invokestatic 31, 3) := by decide +kernel
theorem dX2_forgetOldest_25 : decode cX2_forgetOldest 25 = .ok (.invokestatic 25, 3) := by decide +kernel
theorem dX2_forgetOldest_28 : decode cX2_forgetOldest 28 = .ok (.aload_n 0, 1) := by decide +kernel
theorem dX2_forgetOldest_29 : decode cX2_forgetOldest 29 = .ok (.getfield 15, 3) := by decide +kernel
theorem dX2_forgetOldest_32 : decode cX2_forgetOldest 32 = .ok (.iload_n 1, 1) := by decide +kernel
theorem dX2_forgetOldest_33 : decode cX2_forgetOldest 33 = .ok (.iconst 1, 1) := by decide +kernel
theorem dX2_forgetOldest_34 : decode cX2_forgetOldest 34 = .ok (.isub, 1) := by decide +kernel
theorem dX2_forgetOldest_35 : decode cX2_forgetOldest 35 = .ok (.aload_n 0, 1) := by decide +kernel
theorem dX2_forgetOldest_36 : decode cX2_forgetOldest 36 = .ok (.getfield 15, 3) := by decide +kernel
theorem dX2_forgetOldest_39 : decode cX2_forgetOldest 39 = .ok (.iload_n 1, 1) := by decide +kernel
theorem dX2_forgetOldest_40 : decode cX2_forgetOldest 40 = .ok (.invokestatic 31, 3) := by decide +kernel
theorem dX2_forgetOldest_43 : decode cX2_forgetOldest 43 = .ok (.invokestatic 25, 3) := by decide +kernel
theorem dX2_forgetOldest_46 : decode cX2_forgetOldest 46 = .ok (.iinc 1 1, 3) := by decide +kernel
theorem dX2_forgetOldest_49 : decode cX2_forgetOldest 49 = .ok (.goto (-47), 3) := by decide +kernel
theorem dX2_forgetOldest_52 : decode cX2_forgetOldest 52 = .ok (.aload_n 0, 1) := by decide +kernel
theorem dX2_forgetOldest_53 : decode cX2_forgetOldest 53 = .ok (.dup, 1) := by decide +kernel
theorem dX2_forgetOldest_54 : decode cX2_forgetOldest 54 = .ok (.getfield 18, 3) := by decide +kernel
theorem dX2_forgetOldest_57 : decode cX2_forgetOldest 57 = .ok (.iconst 1, 1) := by decide +kernel
theorem dX2_forgetOldest_58 : decode cX2_forgetOldest 58 = .ok (.isub, 1) := by decide +kernel
theorem dX2_forgetOldest_59 : decode cX2_forgetOldest 59 = .ok (.putfield 18, 3) := by decide +kernel
theorem dX2_forgetOldest_62 : decode cX2_forgetOldest 62 = .ok (.return_, 1) := by decide +kernel
theorem dX2_lastState_0 : decode cX2_lastState 0 = .ok (.aload_n 0, 1) := by decide +kernel
theorem dX2_lastState_1 : decode cX2_lastState 1 = .ok (.getfield 9, 3) := by decide +kernel
theorem dX2_lastState_4 : decode cX2_lastState 4 = .ok (.aload_n 0, 1) := by decide +kernel
theorem dX2_lastState_5 : decode cX2_lastState 5 = .ok (.getfield 18, 3) := by decide +kernel
theorem dX2_lastState_8 : decode cX2_lastState 8 = .ok (.iconst 1, 1) := by decide +kernel
theorem dX2_lastState_9 : decode cX2_lastState 9 = .ok (.isub, 1) := by decide +kernel
theorem dX2_lastState_10 : decode cX2_lastState 10 = .ok (.invokestatic 31, 3) := by decide +kernel
theorem dX2_lastState_13 : decode cX2_lastState 13 = .ok (.ireturn, 1) := by decide +kernel
theorem dX2_lastMover_0 : decode cX2_lastMover 0 = .ok (.aload_n 0, 1) := by decide +kernel
theorem dX2_lastMover_1 : decode cX2_lastMover 1 = .ok (.getfield 15, 3) := by decide +kernel
theorem dX2_lastMover_4 : decode cX2_lastMover 4 = .ok (.aload_n 0, 1) := by decide +kernel
theorem dX2_lastMover_5 : decode cX2_lastMover 5 = .ok (.getfield 18, 3) := by decide +kernel
theorem dX2_lastMover_8 : decode cX2_lastMover 8 = .ok (.iconst 1, 1) := by decide +kernel
theorem dX2_lastMover_9 : decode cX2_lastMover 9 = .ok (.isub, 1) := by decide +kernel
theorem dX2_lastMover_10 : decode cX2_lastMover 10 = .ok (.invokestatic 31, 3) := by decide +kernel
theorem dX2_lastMover_13 : decode cX2_lastMover 13 = .ok (.ireturn, 1) := by decide +kernel
theorem dX2_drop_0 : decode cX2_drop 0 = .ok (.aload_n 0, 1) := by decide +kernel
theorem dX2_drop_1 : decode cX2_drop 1 = .ok (.getfield 18, 3) := by decide +kernel
theorem dX2_drop_4 : decode cX2_drop 4 = .ok (.ifCond .le 13, 3) := by decide +kernel
theorem dX2_drop_7 : decode cX2_drop 7 = .ok (.aload_n 0, 1) := by decide +kernel
theorem dX2_drop_8 : decode cX2_drop 8 = .ok (.dup, 1) := by decide +kernel
theorem dX2_drop_9 : decode cX2_drop 9 = .ok (.getfield 18, 3) := by decide +kernel
theorem dX2_drop_12 : decode cX2_drop 12 = .ok (.iconst 1, 1) := by decide +kernel
theorem dX2_drop_13 : decode cX2_drop 13 = .ok (.isub, 1) := by decide +kernel
theorem dX2_drop_14 : decode cX2_drop 14 = .ok (.putfield 18, 3) := by decide +kernel
theorem dX2_drop_17 : decode cX2_drop 17 = .ok (.return_, 1) := by decide +kernel
theorem dX3_at_0 : decode cX3_at 0 = .ok (.iload_n 1, 1) := by decide +kernel
theorem dX3_at_1 : decode cX3_at 1 = .ok (.ifCond .lt 15, 3) := by decide +kernel
theorem dX3_at_4 : decode cX3_at 4 = .ok (.iload_n 1, 1) := by decide +kernel
theorem dX3_at_5 : decode cX3_at 5 = .ok (.aload_n 0, 1) := by decide +kernel
theorem dX3_at_6 : decode cX3_at 6 = .ok (.arraylength, 1) := by decide +kernel
theorem dX3_at_7 : decode cX3_at 7 = .ok (.if_icmp .ge 9, 3) := by decide +kernel
theorem dX3_at_10 : decode cX3_at 10 = .ok (.aload_n 0, 1) := by decide +kernel
theorem dX3_at_11 : decode cX3_at 11 = .ok (.iload_n 1, 1) := by decide +kernel
theorem dX3_at_12 : decode cX3_at 12 = .ok (.iaload, 1) := by decide +kernel
theorem dX3_at_13 : decode cX3_at 13 = .ok (.goto 4, 3) := by decide +kernel
theorem dX3_at_16 : decode cX3_at 16 = .ok (.iconst 0, 1) := by decide +kernel
theorem dX3_at_17 : decode cX3_at 17 = .ok (.ireturn, 1) := by decide +kernel
theorem dX3_put_0 : decode cX3_put 0 = .ok (.iload_n 1, 1) := by decide +kernel
theorem dX3_put_1 : decode cX3_put 1 = .ok (.ifCond .lt 13, 3) := by decide +kernel
theorem dX3_put_4 : decode cX3_put 4 = .ok (.iload_n 1, 1) := by decide +kernel
theorem dX3_put_5 : decode cX3_put 5 = .ok (.aload_n 0, 1) := by decide +kernel
theorem dX3_put_6 : decode cX3_put 6 = .ok (.arraylength, 1) := by decide +kernel
theorem dX3_put_7 : decode cX3_put 7 = .ok (.if_icmp .ge 7, 3) := by decide +kernel
theorem dX3_put_10 : decode cX3_put 10 = .ok (.aload_n 0, 1) := by decide +kernel
theorem dX3_put_11 : decode cX3_put 11 = .ok (.iload_n 1, 1) := by decide +kernel
theorem dX3_put_12 : decode cX3_put 12 = .ok (.iload_n 2, 1) := by decide +kernel
theorem dX3_put_13 : decode cX3_put 13 = .ok (.iastore, 1) := by decide +kernel
theorem dX3_put_14 : decode cX3_put 14 = .ok (.return_, 1) := by decide +kernel
theorem dX4_init_0 : decode cX4_init 0 = .ok (.aload_n 0, 1) := by decide +kernel
theorem dX4_init_1 : decode cX4_init 1 = .ok (.invokespecial 3, 3) := by decide +kernel
theorem dX4_init_4 : decode cX4_init 4 = .ok (.aload_n 0, 1) := by decide +kernel
theorem dX4_init_5 : decode cX4_init 5 = .ok (.sipush 4096, 3) := by decide +kernel
theorem dX4_init_8 : decode cX4_init 8 = .ok (.newarray .int, 2) := by decide +kernel
theorem dX4_init_10 : decode cX4_init 10 = .ok (.putfield 9, 3) := by decide +kernel
theorem dX4_init_13 : decode cX4_init 13 = .ok (.aload_n 0, 1) := by decide +kernel
theorem dX4_init_14 : decode cX4_init 14 = .ok (.sipush 4096, 3) := by decide +kernel
theorem dX4_init_17 : decode cX4_init 17 = .ok (.newarray .int, 2) := by decide +kernel
theorem dX4_init_19 : decode cX4_init 19 = .ok (.putfield 15, 3) := by decide +kernel
theorem dX4_init_22 : decode cX4_init 22 = .ok (.aload_n 0, 1) := by decide +kernel
theorem dX4_init_23 : decode cX4_init 23 = .ok (.sipush 4096, 3) := by decide +kernel
theorem dX4_init_26 : decode cX4_init 26 = .ok (.newarray .int, 2) := by decide +kernel
theorem dX4_init_28 : decode cX4_init 28 = .ok (.putfield 18, 3) := by decide +kernel
theorem dX4_init_31 : decode cX4_init 31 = .ok (.aload_n 0, 1) := by decide +kernel
theorem dX4_init_32 : decode cX4_init 32 = .ok (.sipush 4096, 3) := by decide +kernel
theorem dX4_init_35 : decode cX4_init 35 = .ok (.newarray .int, 2) := by decide +kernel
theorem dX4_init_37 : decode cX4_init 37 = .ok (.putfield 21, 3) := by decide +kernel
theorem dX4_init_40 : decode cX4_init 40 = .ok (.aload_n 0, 1) := by decide +kernel
theorem dX4_init_41 : decode cX4_init 41 = .ok (.sipush 4096, 3) := by decide +kernel
theorem dX4_init_44 : decode cX4_init 44 = .ok (.newarray .int, 2) := by decide +kernel
theorem dX4_init_46 : decode cX4_init 46 = .ok (.putfield 24, 3) := by decide +kernel
theorem dX4_init_49 : decode cX4_init 49 = .ok (.aload_n 0, 1) := by decide +kernel
theorem dX4_init_50 : decode cX4_init 50 = .ok (.sipush 4096, 3) := by decide +kernel
theorem dX4_init_53 : decode cX4_init 53 = .ok (.newarray .int, 2) := by decide +kernel
theorem dX4_init_55 : decode cX4_init 55 = .ok (.putfield 27, 3) := by decide +kernel
theorem dX4_init_58 : decode cX4_init 58 = .ok (.return_, 1) := by decide +kernel
theorem dX4_forget_0 : decode cX4_forget 0 = .ok (.aload_n 0, 1) := by decide +kernel
theorem dX4_forget_1 : decode cX4_forget 1 = .ok (.iconst 0, 1) := by decide +kernel
theorem dX4_forget_2 : decode cX4_forget 2 = .ok (.putfield 30, 3) := by decide +kernel
theorem dX4_forget_5 : decode cX4_forget 5 = .ok (.return_, 1) := by decide +kernel
theorem dX4_make_0 : decode cX4_make 0 = .ok (.aload_n 0, 1) := by decide +kernel
theorem dX4_make_1 : decode cX4_make 1 = .ok (.getfield 30, 3) := by decide +kernel
theorem dX4_make_4 : decode cX4_make 4 = .ok (.ifCond .eq 4, 3) := by decide +kernel
theorem dX4_make_7 : decode cX4_make 7 = .ok (.return_, 1) := by decide +kernel
theorem dX4_make_8 : decode cX4_make 8 = .ok (.aload_n 0, 1) := by decide +kernel
theorem dX4_make_9 : decode cX4_make 9 = .ok (.iconst 1, 1) := by decide +kernel
theorem dX4_make_10 : decode cX4_make 10 = .ok (.putfield 30, 3) := by decide +kernel
theorem dX4_make_13 : decode cX4_make 13 = .ok (.aload_n 0, 1) := by decide +kernel
theorem dX4_make_14 : decode cX4_make 14 = .ok (.aload_n 1, 1) := by decide +kernel
theorem dX4_make_15 : decode cX4_make 15 = .ok (.getfield 34, 3) := by decide +kernel
theorem dX4_make_18 : decode cX4_make 18 = .ok (.sipush 4096, 3) := by decide +kernel
theorem dX4_make_21 : decode cX4_make 21 = .ok (.invokestatic 40, 3) := by decide +kernel
theorem dX4_make_24 : decode cX4_make 24 = .ok (.putfield 46, 3) := by decide +kernel
theorem dX4_make_27 : decode cX4_make 27 = .ok (.iconst 0, 1) := by decide +kernel
theorem dX4_make_28 : decode cX4_make 28 = .ok (.istore_n 2, 1) := by decide +kernel
theorem dX4_make_29 : decode cX4_make 29 = .ok (.iload_n 2, 1) := by decide +kernel
theorem dX4_make_30 : decode cX4_make 30 = .ok (.aload_n 0, 1) := by decide +kernel
theorem dX4_make_31 : decode cX4_make 31 = .ok (.getfield 46, 3) := by decide +kernel
theorem dX4_make_34 : decode cX4_make 34 = .ok (.if_icmp .ge 15, 3) := by decide +kernel
theorem dX4_make_37 : decode cX4_make 37 = .ok (.aload_n 0, 1) := by decide +kernel
theorem dX4_make_38 : decode cX4_make 38 = .ok (.aload_n 1, 1) := by decide +kernel
theorem dX4_make_39 : decode cX4_make 39 = .ok (.iload_n 2, 1) := by decide +kernel
theorem dX4_make_40 : decode cX4_make 40 = .ok (.invokevirtual 47, 3) := by decide +kernel
theorem dX4_make_43 : decode cX4_make 43 = .ok (.iinc 2 1, 3) := by decide +kernel
theorem dX4_make_46 : decode cX4_make 46 = .ok (.goto (-17), 3) := by decide +kernel
theorem dX4_make_49 : decode cX4_make 49 = .ok (.aload_n 0, 1) := by decide +kernel
theorem dX4_make_50 : decode cX4_make 50 = .ok (.aload_n 1, 1) := by decide +kernel
theorem dX4_make_51 : decode cX4_make 51 = .ok (.aload_n 0, 1) := by decide +kernel
theorem dX4_make_52 : decode cX4_make 52 = .ok (.getfield 18, 3) := by decide +kernel
theorem dX4_make_55 : decode cX4_make 55 = .ok (.iconst 0, 1) := by decide +kernel
theorem dX4_make_56 : decode cX4_make 56 = .ok (.invokevirtual 51, 3) := by decide +kernel
theorem dX4_make_59 : decode cX4_make 59 = .ok (.aload_n 0, 1) := by decide +kernel
theorem dX4_make_60 : decode cX4_make 60 = .ok (.aload_n 1, 1) := by decide +kernel
theorem dX4_make_61 : decode cX4_make 61 = .ok (.aload_n 0, 1) := by decide +kernel
theorem dX4_make_62 : decode cX4_make 62 = .ok (.getfield 21, 3) := by decide +kernel
theorem dX4_make_65 : decode cX4_make 65 = .ok (.iconst 1, 1) := by decide +kernel
theorem dX4_make_66 : decode cX4_make 66 = .ok (.invokevirtual 51, 3) := by decide +kernel
theorem dX4_make_69 : decode cX4_make 69 = .ok (.aload_n 0, 1) := by decide +kernel
theorem dX4_make_70 : decode cX4_make 70 = .ok (.aload_n 1, 1) := by decide +kernel
theorem dX4_make_71 : decode cX4_make 71 = .ok (.aload_n 0, 1) := by decide +kernel
theorem dX4_make_72 : decode cX4_make 72 = .ok (.getfield 24, 3) := by decide +kernel
theorem dX4_make_75 : decode cX4_make 75 = .ok (.iconst 2, 1) := by decide +kernel
theorem dX4_make_76 : decode cX4_make 76 = .ok (.invokevirtual 51, 3) := by decide +kernel
theorem dX4_make_79 : decode cX4_make 79 = .ok (.return_, 1) := by decide +kernel
theorem dX4_noteMoves_0 : decode cX4_noteMoves 0 = .ok (.iconst 0, 1) := by decide +kernel
theorem dX4_noteMoves_1 : decode cX4_noteMoves 1 = .ok (.istore_n 3, 1) := by decide +kernel
theorem dX4_noteMoves_2 : decode cX4_noteMoves 2 = .ok (.iconst 0, 1) := by decide +kernel
theorem dX4_noteMoves_3 : decode cX4_noteMoves 3 = .ok (.istore 4, 2) := by decide +kernel
theorem dX4_noteMoves_5 : decode cX4_noteMoves 5 = .ok (.iconst 0, 1) := by decide +kernel
theorem dX4_noteMoves_6 : decode cX4_noteMoves 6 = .ok (.istore 5, 2) := by decide +kernel
theorem dX4_noteMoves_8 : decode cX4_noteMoves 8 = .ok (.iload 5, 2) := by decide +kernel
theorem dX4_noteMoves_10 : decode cX4_noteMoves 10 = .ok (.aload_n 1, 1) := by decide +kernel
theorem dX4_noteMoves_11 : decode cX4_noteMoves 11 = .ok (.getfield 55, 3) := by decide +kernel
theorem dX4_noteMoves_14 : decode cX4_noteMoves 14 = .ok (.if_icmp .ge 50, 3) := by decide +kernel
theorem dX4_noteMoves_17 : decode cX4_noteMoves 17 = .ok (.aload_n 1, 1) := by decide +kernel
theorem dX4_noteMoves_18 : decode cX4_noteMoves 18 = .ok (.iload_n 2, 1) := by decide +kernel
theorem dX4_noteMoves_19 : decode cX4_noteMoves 19 = .ok (.iload 5, 2) := by decide +kernel
theorem dX4_noteMoves_21 : decode cX4_noteMoves 21 = .ok (.invokevirtual 58, 3) := by decide +kernel
theorem dX4_noteMoves_24 : decode cX4_noteMoves 24 = .ok (.istore 6, 2) := by decide +kernel
theorem dX4_noteMoves_26 : decode cX4_noteMoves 26 = .ok (.iload_n 3, 1) := by decide +kernel
theorem dX4_noteMoves_27 : decode cX4_noteMoves 27 = .ok (.iload 6, 2) := by decide +kernel
theorem dX4_noteMoves_29 : decode cX4_noteMoves 29 = .ok (.iconst 3, 1) := by decide +kernel
theorem dX4_noteMoves_30 : decode cX4_noteMoves 30 = .ok (.iload 5, 2) := by decide +kernel
theorem dX4_noteMoves_32 : decode cX4_noteMoves 32 = .ok (.imul, 1) := by decide +kernel
theorem dX4_noteMoves_33 : decode cX4_noteMoves 33 = .ok (.ishl, 1) := by decide +kernel
theorem dX4_noteMoves_34 : decode cX4_noteMoves 34 = .ok (.ior, 1) := by decide +kernel
theorem dX4_noteMoves_35 : decode cX4_noteMoves 35 = .ok (.istore_n 3, 1) := by decide +kernel
theorem dX4_noteMoves_36 : decode cX4_noteMoves 36 = .ok (.iload 4, 2) := by decide +kernel
theorem dX4_noteMoves_38 : decode cX4_noteMoves 38 = .ok (.iload 6, 2) := by decide +kernel
theorem dX4_noteMoves_40 : decode cX4_noteMoves 40 = .ok (.aload_n 1, 1) := by decide +kernel
theorem dX4_noteMoves_41 : decode cX4_noteMoves 41 = .ok (.iload_n 2, 1) := by decide +kernel
theorem dX4_noteMoves_42 : decode cX4_noteMoves 42 = .ok (.iload 5, 2) := by decide +kernel
theorem dX4_noteMoves_44 : decode cX4_noteMoves 44 = .ok (.invokevirtual 61, 3) := by decide +kernel
theorem dX4_noteMoves_47 : decode cX4_noteMoves 47 = .ok (.if_icmp .eq 7, 3) := by decide +kernel
theorem dX4_noteMoves_50 : decode cX4_noteMoves 50 = .ok (.iconst 1, 1) := by decide +kernel
theorem dX4_noteMoves_51 : decode cX4_noteMoves 51 = .ok (.goto 4, 3) := by decide +kernel
theorem dX4_noteMoves_54 : decode cX4_noteMoves 54 = .ok (.iconst 0, 1) := by decide +kernel
theorem dX4_noteMoves_55 : decode cX4_noteMoves 55 = .ok (.iadd, 1) := by decide +kernel
theorem dX4_noteMoves_56 : decode cX4_noteMoves 56 = .ok (.istore 4, 2) := by decide +kernel
theorem dX4_noteMoves_58 : decode cX4_noteMoves 58 = .ok (.iinc 5 1, 3) := by decide +kernel
theorem dX4_noteMoves_61 : decode cX4_noteMoves 61 = .ok (.goto (-53), 3) := by decide +kernel
theorem dX4_noteMoves_64 : decode cX4_noteMoves 64 = .ok (.aload_n 0, 1) := by decide +kernel
theorem dX4_noteMoves_65 : decode cX4_noteMoves 65 = .ok (.getfield 9, 3) := by decide +kernel
theorem dX4_noteMoves_68 : decode cX4_noteMoves 68 = .ok (.iload_n 2, 1) := by decide +kernel
theorem dX4_noteMoves_69 : decode cX4_noteMoves 69 = .ok (.iload_n 3, 1) := by decide +kernel
theorem dX4_noteMoves_70 : decode cX4_noteMoves 70 = .ok (.invokestatic 64, 3) := by decide +kernel
theorem dX4_noteMoves_73 : decode cX4_noteMoves 73 = .ok (.aload_n 0, 1) := by decide +kernel
theorem dX4_noteMoves_74 : decode cX4_noteMoves 74 = .ok (.getfield 15, 3) := by decide +kernel
theorem dX4_noteMoves_77 : decode cX4_noteMoves 77 = .ok (.iload_n 2, 1) := by decide +kernel
theorem dX4_noteMoves_78 : decode cX4_noteMoves 78 = .ok (.iload 4, 2) := by decide +kernel
theorem dX4_noteMoves_80 : decode cX4_noteMoves 80 = .ok (.invokestatic 64, 3) := by decide +kernel
theorem dX4_noteMoves_83 : decode cX4_noteMoves 83 = .ok (.iload 4, 2) := by decide +kernel
theorem dX4_noteMoves_85 : decode cX4_noteMoves 85 = .ok (.aload_n 1, 1) := by decide +kernel
theorem dX4_noteMoves_86 : decode cX4_noteMoves 86 = .ok (.getfield 70, 3) := by decide +kernel
theorem dX4_noteMoves_89 : decode cX4_noteMoves 89 = .ok (.iconst 1, 1) := by decide +kernel
theorem dX4_noteMoves_90 : decode cX4_noteMoves 90 = .ok (.if_icmp .ne 7, 3) := by decide +kernel
theorem dX4_noteMoves_93 : decode cX4_noteMoves 93 = .ok (.iconst 1, 1) := by decide +kernel
theorem dX4_noteMoves_94 : decode cX4_noteMoves 94 = .ok (.goto 4, 3) := by decide +kernel
theorem dX4_noteMoves_97 : decode cX4_noteMoves 97 = .ok (.iconst 0, 1) := by decide +kernel
theorem dX4_noteMoves_98 : decode cX4_noteMoves 98 = .ok (.if_icmp .ne 7, 3) := by decide +kernel
theorem dX4_noteMoves_101 : decode cX4_noteMoves 101 = .ok (.iconst 1, 1) := by decide +kernel
theorem dX4_noteMoves_102 : decode cX4_noteMoves 102 = .ok (.goto 4, 3) := by decide +kernel
theorem dX4_noteMoves_105 : decode cX4_noteMoves 105 = .ok (.iconst 0, 1) := by decide +kernel
theorem dX4_noteMoves_106 : decode cX4_noteMoves 106 = .ok (.istore 5, 2) := by decide +kernel
theorem dX4_noteMoves_108 : decode cX4_noteMoves 108 = .ok (.aload_n 0, 1) := by decide +kernel
theorem dX4_noteMoves_109 : decode cX4_noteMoves 109 = .ok (.getfield 18, 3) := by decide +kernel
theorem dX4_noteMoves_112 : decode cX4_noteMoves 112 = .ok (.iload_n 2, 1) := by decide +kernel
theorem dX4_noteMoves_113 : decode cX4_noteMoves 113 = .ok (.iload 5, 2) := by decide +kernel
theorem dX4_noteMoves_115 : decode cX4_noteMoves 115 = .ok (.ifCond .eq 7, 3) := by decide +kernel
theorem dX4_noteMoves_118 : decode cX4_noteMoves 118 = .ok (.iconst 0, 1) := by decide +kernel
theorem dX4_noteMoves_119 : decode cX4_noteMoves 119 = .ok (.goto 5, 3) := by decide +kernel
theorem dX4_noteMoves_122 : decode cX4_noteMoves 122 = .ok (.bipush (-5), 2) := by decide +kernel
theorem dX4_noteMoves_124 : decode cX4_noteMoves 124 = .ok (.invokestatic 64, 3) := by decide +kernel
theorem dX4_noteMoves_127 : decode cX4_noteMoves 127 = .ok (.aload_n 0, 1) := by decide +kernel
theorem dX4_noteMoves_128 : decode cX4_noteMoves 128 = .ok (.getfield 21, 3) := by decide +kernel
theorem dX4_noteMoves_131 : decode cX4_noteMoves 131 = .ok (.iload_n 2, 1) := by decide +kernel
theorem dX4_noteMoves_132 : decode cX4_noteMoves 132 = .ok (.iload 5, 2) := by decide +kernel
theorem dX4_noteMoves_134 : decode cX4_noteMoves 134 = .ok (.ifCond .eq 7, 3) := by decide +kernel
theorem dX4_noteMoves_137 : decode cX4_noteMoves 137 = .ok (.iconst 0, 1) := by decide +kernel
theorem dX4_noteMoves_138 : decode cX4_noteMoves 138 = .ok (.goto 5, 3) := by decide +kernel
theorem dX4_noteMoves_141 : decode cX4_noteMoves 141 = .ok (.bipush (-5), 2) := by decide +kernel
theorem dX4_noteMoves_143 : decode cX4_noteMoves 143 = .ok (.invokestatic 64, 3) := by decide +kernel
theorem dX4_noteMoves_146 : decode cX4_noteMoves 146 = .ok (.aload_n 0, 1) := by decide +kernel
theorem dX4_noteMoves_147 : decode cX4_noteMoves 147 = .ok (.getfield 24, 3) := by decide +kernel
theorem dX4_noteMoves_150 : decode cX4_noteMoves 150 = .ok (.iload_n 2, 1) := by decide +kernel
theorem dX4_noteMoves_151 : decode cX4_noteMoves 151 = .ok (.iload 5, 2) := by decide +kernel
theorem dX4_noteMoves_153 : decode cX4_noteMoves 153 = .ok (.ifCond .eq 7, 3) := by decide +kernel
theorem dX4_noteMoves_156 : decode cX4_noteMoves 156 = .ok (.iconst 0, 1) := by decide +kernel
theorem dX4_noteMoves_157 : decode cX4_noteMoves 157 = .ok (.goto 5, 3) := by decide +kernel
theorem dX4_noteMoves_160 : decode cX4_noteMoves 160 = .ok (.bipush (-4), 2) := by decide +kernel
theorem dX4_noteMoves_162 : decode cX4_noteMoves 162 = .ok (.invokestatic 64, 3) := by decide +kernel
theorem dX4_noteMoves_165 : decode cX4_noteMoves 165 = .ok (.return_, 1) := by decide +kernel
theorem dX4_spread_0 : decode cX4_spread 0 = .ok (.iconst 0, 1) := by decide +kernel
theorem dX4_spread_1 : decode cX4_spread 1 = .ok (.istore 4, 2) := by decide +kernel
theorem dX4_spread_3 : decode cX4_spread 3 = .ok (.iconst 0, 1) := by decide +kernel
theorem dX4_spread_4 : decode cX4_spread 4 = .ok (.istore 5, 2) := by decide +kernel
theorem dX4_spread_6 : decode cX4_spread 6 = .ok (.iload 5, 2) := by decide +kernel
theorem dX4_spread_8 : decode cX4_spread 8 = .ok (.aload_n 0, 1) := by decide +kernel
theorem dX4_spread_9 : decode cX4_spread 9 = .ok (.getfield 46, 3) := by decide +kernel
theorem dX4_spread_12 : decode cX4_spread 12 = .ok (.if_icmp .ge 32, 3) := by decide +kernel
theorem dX4_spread_15 : decode cX4_spread 15 = .ok (.aload_n 2, 1) := by decide +kernel
theorem dX4_spread_16 : decode cX4_spread 16 = .ok (.iload 5, 2) := by decide +kernel
theorem dX4_spread_18 : decode cX4_spread 18 = .ok (.invokestatic 73, 3) := by decide +kernel
theorem dX4_spread_21 : decode cX4_spread 21 = .ok (.ifCond .ne 17, 3) := by decide +kernel
theorem dX4_spread_24 : decode cX4_spread 24 = .ok (.aload_n 0, 1) := by decide +kernel
theorem dX4_spread_25 : decode cX4_spread 25 = .ok (.getfield 27, 3) := by decide +kernel
theorem dX4_spread_28 : decode cX4_spread 28 = .ok (.iload 4, 2) := by decide +kernel
theorem dX4_spread_30 : decode cX4_spread 30 = .ok (.iload 5, 2) := by decide +kernel
theorem dX4_spread_32 : decode cX4_spread 32 = .ok (.invokestatic 64, 3) := by decide +kernel
theorem dX4_spread_35 : decode cX4_spread 35 = .ok (.iinc 4 1, 3) := by decide +kernel
theorem dX4_spread_38 : decode cX4_spread 38 = .ok (.iinc 5 1, 3) := by decide +kernel
theorem dX4_spread_41 : decode cX4_spread 41 = .ok (.goto (-35), 3) := by decide +kernel
theorem dX4_spread_44 : decode cX4_spread 44 = .ok (.iconst 0, 1) := by decide +kernel
theorem dX4_spread_45 : decode cX4_spread 45 = .ok (.istore 5, 2) := by decide +kernel
theorem dX4_spread_47 : decode cX4_spread 47 = .ok (.iload 5, 2) := by decide +kernel
theorem dX4_spread_49 : decode cX4_spread 49 = .ok (.iload 4, 2) := by decide +kernel
theorem dX4_spread_51 : decode cX4_spread 51 = .ok (.if_icmp .ge 61, 3) := by decide +kernel
theorem dX4_spread_54 : decode cX4_spread 54 = .ok (.iload 5, 2) := by decide +kernel
theorem dX4_spread_56 : decode cX4_spread 56 = .ok (.sipush 4096, 3) := by decide +kernel
theorem dX4_spread_59 : decode cX4_spread 59 = .ok (.if_icmp .ge 53, 3) := by decide +kernel
theorem dX4_spread_62 : decode cX4_spread 62 = .ok (.aload_n 0, 1) := by decide +kernel
theorem dX4_spread_63 : decode cX4_spread 63 = .ok (.getfield 27, 3) := by decide +kernel
theorem dX4_spread_66 : decode cX4_spread 66 = .ok (.iload 5, 2) := by decide +kernel
theorem dX4_spread_68 : decode cX4_spread 68 = .ok (.invokestatic 73, 3) := by decide +kernel
theorem dX4_spread_71 : decode cX4_spread 71 = .ok (.istore 6, 2) := by decide +kernel
theorem dX4_spread_73 : decode cX4_spread 73 = .ok (.iconst 0, 1) := by decide +kernel
theorem dX4_spread_74 : decode cX4_spread 74 = .ok (.istore 7, 2) := by decide +kernel
theorem dX4_spread_76 : decode cX4_spread 76 = .ok (.iload 7, 2) := by decide +kernel
theorem dX4_spread_78 : decode cX4_spread 78 = .ok (.aload_n 1, 1) := by decide +kernel
theorem dX4_spread_79 : decode cX4_spread 79 = .ok (.getfield 55, 3) := by decide +kernel
theorem dX4_spread_82 : decode cX4_spread 82 = .ok (.if_icmp .ge 24, 3) := by decide +kernel
theorem dX4_spread_85 : decode cX4_spread 85 = .ok (.aload_n 0, 1) := by decide +kernel
theorem dX4_spread_86 : decode cX4_spread 86 = .ok (.aload_n 1, 1) := by decide +kernel
theorem dX4_spread_87 : decode cX4_spread 87 = .ok (.aload_n 2, 1) := by decide +kernel
theorem dX4_spread_88 : decode cX4_spread 88 = .ok (.iload_n 3, 1) := by decide +kernel
theorem dX4_spread_89 : decode cX4_spread 89 = .ok (.iload 6, 2) := by decide +kernel
theorem dX4_spread_91 : decode cX4_spread 91 = .ok (.iload 7, 2) := by decide +kernel
theorem dX4_spread_93 : decode cX4_spread 93 = .ok (.iload 4, 2) := by decide +kernel
theorem dX4_spread_95 : decode cX4_spread 95 = .ok (.invokevirtual 77, 3) := by decide +kernel
theorem dX4_spread_98 : decode cX4_spread 98 = .ok (.istore 4, 2) := by decide +kernel
theorem dX4_spread_100 : decode cX4_spread 100 = .ok (.iinc 7 1, 3) := by decide +kernel
theorem dX4_spread_103 : decode cX4_spread 103 = .ok (.goto (-27), 3) := by decide +kernel
theorem dX4_spread_106 : decode cX4_spread 106 = .ok (.iinc 5 1, 3) := by decide +kernel
theorem dX4_spread_109 : decode cX4_spread 109 = .ok (.goto (-62), 3) := by decide +kernel
theorem dX4_spread_112 : decode cX4_spread 112 = .ok (.return_, 1) := by decide +kernel
theorem dX4_spreadBy_0 : decode cX4_spreadBy 0 = .ok (.iload 6, 2) := by decide +kernel
theorem dX4_spreadBy_2 : decode cX4_spreadBy 2 = .ok (.istore 7, 2) := by decide +kernel
theorem dX4_spreadBy_4 : decode cX4_spreadBy 4 = .ok (.aload_n 2, 1) := by decide +kernel
theorem dX4_spreadBy_5 : decode cX4_spreadBy 5 = .ok (.iload 4, 2) := by decide +kernel
theorem dX4_spreadBy_7 : decode cX4_spreadBy 7 = .ok (.invokestatic 73, 3) := by decide +kernel
theorem dX4_spreadBy_10 : decode cX4_spreadBy 10 = .ok (.iconst 1, 1) := by decide +kernel
theorem dX4_spreadBy_11 : decode cX4_spreadBy 11 = .ok (.iadd, 1) := by decide +kernel
theorem dX4_spreadBy_12 : decode cX4_spreadBy 12 = .ok (.istore 8, 2) := by decide +kernel
theorem dX4_spreadBy_14 : decode cX4_spreadBy 14 = .ok (.aload_n 1, 1) := by decide +kernel
theorem dX4_spreadBy_15 : decode cX4_spreadBy 15 = .ok (.iload 4, 2) := by decide +kernel
theorem dX4_spreadBy_17 : decode cX4_spreadBy 17 = .ok (.iload 5, 2) := by decide +kernel
theorem dX4_spreadBy_19 : decode cX4_spreadBy 19 = .ok (.invokevirtual 61, 3) := by decide +kernel
theorem dX4_spreadBy_22 : decode cX4_spreadBy 22 = .ok (.istore 9, 2) := by decide +kernel
theorem dX4_spreadBy_24 : decode cX4_spreadBy 24 = .ok (.iconst 0, 1) := by decide +kernel
theorem dX4_spreadBy_25 : decode cX4_spreadBy 25 = .ok (.istore 10, 2) := by decide +kernel
theorem dX4_spreadBy_27 : decode cX4_spreadBy 27 = .ok (.iload 10, 2) := by decide +kernel
theorem dX4_spreadBy_29 : decode cX4_spreadBy 29 = .ok (.aload_n 1, 1) := by decide +kernel
theorem dX4_spreadBy_30 : decode cX4_spreadBy 30 = .ok (.getfield 81, 3) := by decide +kernel
theorem dX4_spreadBy_33 : decode cX4_spreadBy 33 = .ok (.if_icmp .ge 73, 3) := by decide +kernel
theorem dX4_spreadBy_36 : decode cX4_spreadBy 36 = .ok (.aload_n 1, 1) := by decide +kernel
theorem dX4_spreadBy_37 : decode cX4_spreadBy 37 = .ok (.iload 4, 2) := by decide +kernel
theorem dX4_spreadBy_39 : decode cX4_spreadBy 39 = .ok (.iload 5, 2) := by decide +kernel
theorem dX4_spreadBy_41 : decode cX4_spreadBy 41 = .ok (.iload 10, 2) := by decide +kernel
theorem dX4_spreadBy_43 : decode cX4_spreadBy 43 = .ok (.invokevirtual 84, 3) := by decide +kernel
theorem dX4_spreadBy_46 : decode cX4_spreadBy 46 = .ok (.istore 11, 2) := by decide +kernel
theorem dX4_spreadBy_48 : decode cX4_spreadBy 48 = .ok (.iload 10, 2) := by decide +kernel
theorem dX4_spreadBy_50 : decode cX4_spreadBy 50 = .ok (.iload 9, 2) := by decide +kernel
theorem dX4_spreadBy_52 : decode cX4_spreadBy 52 = .ok (.if_icmp .eq 48, 3) := by decide +kernel
theorem dX4_spreadBy_55 : decode cX4_spreadBy 55 = .ok (.aload_n 2, 1) := by decide +kernel
theorem dX4_spreadBy_56 : decode cX4_spreadBy 56 = .ok (.iload 11, 2) := by decide +kernel
theorem dX4_spreadBy_58 : decode cX4_spreadBy 58 = .ok (.invokestatic 73, 3) := by decide +kernel
theorem dX4_spreadBy_61 : decode cX4_spreadBy 61 = .ok (.ifCond .ge 39, 3) := by decide +kernel
theorem dX4_spreadBy_64 : decode cX4_spreadBy 64 = .ok (.aload_n 0, 1) := by decide +kernel
theorem dX4_spreadBy_65 : decode cX4_spreadBy 65 = .ok (.iload_n 3, 1) := by decide +kernel
theorem dX4_spreadBy_66 : decode cX4_spreadBy 66 = .ok (.iload 11, 2) := by decide +kernel
theorem dX4_spreadBy_68 : decode cX4_spreadBy 68 = .ok (.iload 5, 2) := by decide +kernel
theorem dX4_spreadBy_70 : decode cX4_spreadBy 70 = .ok (.iload 9, 2) := by decide +kernel
theorem dX4_spreadBy_72 : decode cX4_spreadBy 72 = .ok (.invokevirtual 88, 3) := by decide +kernel
theorem dX4_spreadBy_75 : decode cX4_spreadBy 75 = .ok (.ifCond .eq 25, 3) := by decide +kernel
theorem dX4_spreadBy_78 : decode cX4_spreadBy 78 = .ok (.aload_n 2, 1) := by decide +kernel
theorem dX4_spreadBy_79 : decode cX4_spreadBy 79 = .ok (.iload 11, 2) := by decide +kernel
theorem dX4_spreadBy_81 : decode cX4_spreadBy 81 = .ok (.iload 8, 2) := by decide +kernel
theorem dX4_spreadBy_83 : decode cX4_spreadBy 83 = .ok (.invokestatic 64, 3) := by decide +kernel
theorem dX4_spreadBy_86 : decode cX4_spreadBy 86 = .ok (.aload_n 0, 1) := by decide +kernel
theorem dX4_spreadBy_87 : decode cX4_spreadBy 87 = .ok (.getfield 27, 3) := by decide +kernel
theorem dX4_spreadBy_90 : decode cX4_spreadBy 90 = .ok (.iload 7, 2) := by decide +kernel
theorem dX4_spreadBy_92 : decode cX4_spreadBy 92 = .ok (.iload 11, 2) := by decide +kernel
theorem dX4_spreadBy_94 : decode cX4_spreadBy 94 = .ok (.invokestatic 64, 3) := by decide +kernel
theorem dX4_spreadBy_97 : decode cX4_spreadBy 97 = .ok (.iinc 7 1, 3) := by decide +kernel
theorem dX4_spreadBy_100 : decode cX4_spreadBy 100 = .ok (.iinc 10 1, 3) := by decide +kernel
theorem dX4_spreadBy_103 : decode cX4_spreadBy 103 = .ok (.goto (-76), 3) := by decide +kernel
theorem dX4_spreadBy_106 : decode cX4_spreadBy 106 = .ok (.iload 7, 2) := by decide +kernel
theorem dX4_spreadBy_108 : decode cX4_spreadBy 108 = .ok (.ireturn, 1) := by decide +kernel
theorem dX4_reaches_0 : decode cX4_reaches 0 = .ok (.iload_n 1, 1) := by decide +kernel
theorem dX4_reaches_1 : decode cX4_reaches 1 = .ok (.iconst 2, 1) := by decide +kernel
theorem dX4_reaches_2 : decode cX4_reaches 2 = .ok (.if_icmp .ne 5, 3) := by decide +kernel
theorem dX4_reaches_5 : decode cX4_reaches 5 = .ok (.iconst 1, 1) := by decide +kernel
theorem dX4_reaches_6 : decode cX4_reaches 6 = .ok (.ireturn, 1) := by decide +kernel
theorem dX4_reaches_7 : decode cX4_reaches 7 = .ok (.aload_n 0, 1) := by decide +kernel
theorem dX4_reaches_8 : decode cX4_reaches 8 = .ok (.iload_n 2, 1) := by decide +kernel
theorem dX4_reaches_9 : decode cX4_reaches 9 = .ok (.iload_n 3, 1) := by decide +kernel
theorem dX4_reaches_10 : decode cX4_reaches 10 = .ok (.invokevirtual 92, 3) := by decide +kernel
theorem dX4_reaches_13 : decode cX4_reaches 13 = .ok (.iload 4, 2) := by decide +kernel
theorem dX4_reaches_15 : decode cX4_reaches 15 = .ok (.if_icmp .eq 5, 3) := by decide +kernel
theorem dX4_reaches_18 : decode cX4_reaches 18 = .ok (.iconst 0, 1) := by decide +kernel
theorem dX4_reaches_19 : decode cX4_reaches 19 = .ok (.ireturn, 1) := by decide +kernel
theorem dX4_reaches_20 : decode cX4_reaches 20 = .ok (.iload_n 1, 1) := by decide +kernel
theorem dX4_reaches_21 : decode cX4_reaches 21 = .ok (.iconst 1, 1) := by decide +kernel
theorem dX4_reaches_22 : decode cX4_reaches 22 = .ok (.if_icmp .ne 5, 3) := by decide +kernel
theorem dX4_reaches_25 : decode cX4_reaches 25 = .ok (.iconst 1, 1) := by decide +kernel
theorem dX4_reaches_26 : decode cX4_reaches 26 = .ok (.ireturn, 1) := by decide +kernel
theorem dX4_reaches_27 : decode cX4_reaches 27 = .ok (.aload_n 0, 1) := by decide +kernel
theorem dX4_reaches_28 : decode cX4_reaches 28 = .ok (.getfield 15, 3) := by decide +kernel
theorem dX4_reaches_31 : decode cX4_reaches 31 = .ok (.iload_n 2, 1) := by decide +kernel
theorem dX4_reaches_32 : decode cX4_reaches 32 = .ok (.invokestatic 73, 3) := by decide +kernel
theorem dX4_reaches_35 : decode cX4_reaches 35 = .ok (.iconst 1, 1) := by decide +kernel
theorem dX4_reaches_36 : decode cX4_reaches 36 = .ok (.isub, 1) := by decide +kernel
theorem dX4_reaches_37 : decode cX4_reaches 37 = .ok (.istore 5, 2) := by decide +kernel
theorem dX4_reaches_39 : decode cX4_reaches 39 = .ok (.aload_n 0, 1) := by decide +kernel
theorem dX4_reaches_40 : decode cX4_reaches 40 = .ok (.getfield 15, 3) := by decide +kernel
theorem dX4_reaches_43 : decode cX4_reaches 43 = .ok (.iload_n 2, 1) := by decide +kernel
theorem dX4_reaches_44 : decode cX4_reaches 44 = .ok (.iload 5, 2) := by decide +kernel
theorem dX4_reaches_46 : decode cX4_reaches 46 = .ok (.invokestatic 64, 3) := by decide +kernel
theorem dX4_reaches_49 : decode cX4_reaches 49 = .ok (.iload 5, 2) := by decide +kernel
theorem dX4_reaches_51 : decode cX4_reaches 51 = .ok (.ifCond .ne 7, 3) := by decide +kernel
theorem dX4_reaches_54 : decode cX4_reaches 54 = .ok (.iconst 1, 1) := by decide +kernel
theorem dX4_reaches_55 : decode cX4_reaches 55 = .ok (.goto 4, 3) := by decide +kernel
theorem dX4_reaches_58 : decode cX4_reaches 58 = .ok (.iconst 0, 1) := by decide +kernel
theorem dX4_reaches_59 : decode cX4_reaches 59 = .ok (.ireturn, 1) := by decide +kernel
theorem dX4_clearedSpare_0 : decode cX4_clearedSpare 0 = .ok (.aload_n 0, 1) := by decide +kernel
theorem dX4_clearedSpare_1 : decode cX4_clearedSpare 1 = .ok (.getfield 27, 3) := by decide +kernel
theorem dX4_clearedSpare_4 : decode cX4_clearedSpare 4 = .ok (.iconst (-1), 1) := by decide +kernel
theorem dX4_clearedSpare_5 : decode cX4_clearedSpare 5 = .ok (.invokestatic 95, 3) := by decide +kernel
theorem dX4_clearedSpare_8 : decode cX4_clearedSpare 8 = .ok (.aload_n 0, 1) := by decide +kernel
theorem dX4_clearedSpare_9 : decode cX4_clearedSpare 9 = .ok (.getfield 27, 3) := by decide +kernel
theorem dX4_clearedSpare_12 : decode cX4_clearedSpare 12 = .ok (.areturn, 1) := by decide +kernel
theorem dX4_wantedBy_0 : decode cX4_wantedBy 0 = .ok (.aload_n 0, 1) := by decide +kernel
theorem dX4_wantedBy_1 : decode cX4_wantedBy 1 = .ok (.getfield 9, 3) := by decide +kernel
theorem dX4_wantedBy_4 : decode cX4_wantedBy 4 = .ok (.iload_n 1, 1) := by decide +kernel
theorem dX4_wantedBy_5 : decode cX4_wantedBy 5 = .ok (.invokestatic 73, 3) := by decide +kernel
theorem dX4_wantedBy_8 : decode cX4_wantedBy 8 = .ok (.iconst 3, 1) := by decide +kernel
theorem dX4_wantedBy_9 : decode cX4_wantedBy 9 = .ok (.iload_n 2, 1) := by decide +kernel
theorem dX4_wantedBy_10 : decode cX4_wantedBy 10 = .ok (.imul, 1) := by decide +kernel
theorem dX4_wantedBy_11 : decode cX4_wantedBy 11 = .ok (.ishr, 1) := by decide +kernel
theorem dX4_wantedBy_12 : decode cX4_wantedBy 12 = .ok (.bipush 7, 2) := by decide +kernel
theorem dX4_wantedBy_14 : decode cX4_wantedBy 14 = .ok (.iand, 1) := by decide +kernel
theorem dX4_wantedBy_15 : decode cX4_wantedBy 15 = .ok (.ireturn, 1) := by decide +kernel
theorem dX4_behind_0 : decode cX4_behind 0 = .ok (.aload_n 1, 1) := by decide +kernel
theorem dX4_behind_1 : decode cX4_behind 1 = .ok (.iload_n 2, 1) := by decide +kernel
theorem dX4_behind_2 : decode cX4_behind 2 = .ok (.iload_n 3, 1) := by decide +kernel
theorem dX4_behind_3 : decode cX4_behind 3 = .ok (.aload_n 0, 1) := by decide +kernel
theorem dX4_behind_4 : decode cX4_behind 4 = .ok (.iload_n 2, 1) := by decide +kernel
theorem dX4_behind_5 : decode cX4_behind 5 = .ok (.iload_n 3, 1) := by decide +kernel
theorem dX4_behind_6 : decode cX4_behind 6 = .ok (.invokevirtual 92, 3) := by decide +kernel
theorem dX4_behind_9 : decode cX4_behind 9 = .ok (.invokevirtual 84, 3) := by decide +kernel
theorem dX4_behind_12 : decode cX4_behind 12 = .ok (.ireturn, 1) := by decide +kernel
theorem dX4_rankOf_0 : decode cX4_rankOf 0 = .ok (.iload_n 0, 1) := by decide +kernel
theorem dX4_rankOf_1 : decode cX4_rankOf 1 = .ok (.bipush (-5), 2) := by decide +kernel
theorem dX4_rankOf_3 : decode cX4_rankOf 3 = .ok (.if_icmp .ne 8, 3) := by decide +kernel
theorem dX4_rankOf_6 : decode cX4_rankOf 6 = .ok (.ldc 103, 2) := by decide +kernel
theorem dX4_rankOf_8 : decode cX4_rankOf 8 = .ok (.goto 4, 3) := by decide +kernel
theorem dX4_rankOf_11 : decode cX4_rankOf 11 = .ok (.iload_n 0, 1) := by decide +kernel
theorem dX4_rankOf_12 : decode cX4_rankOf 12 = .ok (.ireturn, 1) := by decide +kernel
theorem dX4_worstOf_0 : decode cX4_worstOf 0 = .ok (.aload_n 0, 1) := by decide +kernel
theorem dX4_worstOf_1 : decode cX4_worstOf 1 = .ok (.getfield 18, 3) := by decide +kernel
theorem dX4_worstOf_4 : decode cX4_worstOf 4 = .ok (.iload_n 1, 1) := by decide +kernel
theorem dX4_worstOf_5 : decode cX4_worstOf 5 = .ok (.invokestatic 73, 3) := by decide +kernel
theorem dX4_worstOf_8 : decode cX4_worstOf 8 = .ok (.ireturn, 1) := by decide +kernel
theorem dX4_bestOf_0 : decode cX4_bestOf 0 = .ok (.aload_n 0, 1) := by decide +kernel
theorem dX4_bestOf_1 : decode cX4_bestOf 1 = .ok (.getfield 21, 3) := by decide +kernel
theorem dX4_bestOf_4 : decode cX4_bestOf 4 = .ok (.iload_n 1, 1) := by decide +kernel
theorem dX4_bestOf_5 : decode cX4_bestOf 5 = .ok (.invokestatic 73, 3) := by decide +kernel
theorem dX4_bestOf_8 : decode cX4_bestOf 8 = .ok (.ireturn, 1) := by decide +kernel
theorem dX4_hitsOf_0 : decode cX4_hitsOf 0 = .ok (.aload_n 0, 1) := by decide +kernel
theorem dX4_hitsOf_1 : decode cX4_hitsOf 1 = .ok (.getfield 24, 3) := by decide +kernel
theorem dX4_hitsOf_4 : decode cX4_hitsOf 4 = .ok (.iload_n 1, 1) := by decide +kernel
theorem dX4_hitsOf_5 : decode cX4_hitsOf 5 = .ok (.invokestatic 73, 3) := by decide +kernel
theorem dX4_hitsOf_8 : decode cX4_hitsOf 8 = .ok (.ireturn, 1) := by decide +kernel
theorem dX4_legalStates_0 : decode cX4_legalStates 0 = .ok (.aload_n 0, 1) := by decide +kernel
theorem dX4_legalStates_1 : decode cX4_legalStates 1 = .ok (.aload_n 0, 1) := by decide +kernel
theorem dX4_legalStates_2 : decode cX4_legalStates 2 = .ok (.getfield 18, 3) := by decide +kernel
theorem dX4_legalStates_5 : decode cX4_legalStates 5 = .ok (.iconst 0, 1) := by decide +kernel
theorem dX4_legalStates_6 : decode cX4_legalStates 6 = .ok (.invokevirtual 104, 3) := by decide +kernel
theorem dX4_legalStates_9 : decode cX4_legalStates 9 = .ok (.ireturn, 1) := by decide +kernel
theorem dX4_endlessStates_0 : decode cX4_endlessStates 0 = .ok (.aload_n 0, 1) := by decide +kernel
theorem dX4_endlessStates_1 : decode cX4_endlessStates 1 = .ok (.aload_n 0, 1) := by decide +kernel
theorem dX4_endlessStates_2 : decode cX4_endlessStates 2 = .ok (.getfield 18, 3) := by decide +kernel
theorem dX4_endlessStates_5 : decode cX4_endlessStates 5 = .ok (.bipush (-5), 2) := by decide +kernel
theorem dX4_endlessStates_7 : decode cX4_endlessStates 7 = .ok (.invokevirtual 104, 3) := by decide +kernel
theorem dX4_endlessStates_10 : decode cX4_endlessStates 10 = .ok (.ireturn, 1) := by decide +kernel
theorem dX4_countOf_0 : decode cX4_countOf 0 = .ok (.iconst 0, 1) := by decide +kernel
theorem dX4_countOf_1 : decode cX4_countOf 1 = .ok (.istore_n 3, 1) := by decide +kernel
theorem dX4_countOf_2 : decode cX4_countOf 2 = .ok (.iconst 0, 1) := by decide +kernel
theorem dX4_countOf_3 : decode cX4_countOf 3 = .ok (.istore 4, 2) := by decide +kernel
theorem dX4_countOf_5 : decode cX4_countOf 5 = .ok (.iload 4, 2) := by decide +kernel
theorem dX4_countOf_7 : decode cX4_countOf 7 = .ok (.aload_n 0, 1) := by decide +kernel
theorem dX4_countOf_8 : decode cX4_countOf 8 = .ok (.getfield 46, 3) := by decide +kernel
theorem dX4_countOf_11 : decode cX4_countOf 11 = .ok (.if_icmp .ge 27, 3) := by decide +kernel
theorem dX4_countOf_14 : decode cX4_countOf 14 = .ok (.iload_n 3, 1) := by decide +kernel
theorem dX4_countOf_15 : decode cX4_countOf 15 = .ok (.aload_n 1, 1) := by decide +kernel
theorem dX4_countOf_16 : decode cX4_countOf 16 = .ok (.iload 4, 2) := by decide +kernel
theorem dX4_countOf_18 : decode cX4_countOf 18 = .ok (.invokestatic 73, 3) := by decide +kernel
theorem dX4_countOf_21 : decode cX4_countOf 21 = .ok (.iload_n 2, 1) := by decide +kernel
theorem dX4_countOf_22 : decode cX4_countOf 22 = .ok (.if_icmp .ne 7, 3) := by decide +kernel
theorem dX4_countOf_25 : decode cX4_countOf 25 = .ok (.iconst 1, 1) := by decide +kernel
theorem dX4_countOf_26 : decode cX4_countOf 26 = .ok (.goto 4, 3) := by decide +kernel
theorem dX4_countOf_29 : decode cX4_countOf 29 = .ok (.iconst 0, 1) := by decide +kernel
theorem dX4_countOf_30 : decode cX4_countOf 30 = .ok (.iadd, 1) := by decide +kernel
theorem dX4_countOf_31 : decode cX4_countOf 31 = .ok (.istore_n 3, 1) := by decide +kernel
theorem dX4_countOf_32 : decode cX4_countOf 32 = .ok (.iinc 4 1, 3) := by decide +kernel
theorem dX4_countOf_35 : decode cX4_countOf 35 = .ok (.goto (-30), 3) := by decide +kernel
theorem dX4_countOf_38 : decode cX4_countOf 38 = .ok (.iload_n 3, 1) := by decide +kernel
theorem dX4_countOf_39 : decode cX4_countOf 39 = .ok (.ireturn, 1) := by decide +kernel
theorem dX4_greatestWorst_0 : decode cX4_greatestWorst 0 = .ok (.aload_n 0, 1) := by decide +kernel
theorem dX4_greatestWorst_1 : decode cX4_greatestWorst 1 = .ok (.aload_n 0, 1) := by decide +kernel
theorem dX4_greatestWorst_2 : decode cX4_greatestWorst 2 = .ok (.getfield 18, 3) := by decide +kernel
theorem dX4_greatestWorst_5 : decode cX4_greatestWorst 5 = .ok (.invokevirtual 107, 3) := by decide +kernel
theorem dX4_greatestWorst_8 : decode cX4_greatestWorst 8 = .ok (.ireturn, 1) := by decide +kernel
theorem dX4_greatestBest_0 : decode cX4_greatestBest 0 = .ok (.aload_n 0, 1) := by decide +kernel
theorem dX4_greatestBest_1 : decode cX4_greatestBest 1 = .ok (.aload_n 0, 1) := by decide +kernel
theorem dX4_greatestBest_2 : decode cX4_greatestBest 2 = .ok (.getfield 21, 3) := by decide +kernel
theorem dX4_greatestBest_5 : decode cX4_greatestBest 5 = .ok (.invokevirtual 107, 3) := by decide +kernel
theorem dX4_greatestBest_8 : decode cX4_greatestBest 8 = .ok (.ireturn, 1) := by decide +kernel
theorem dX4_greatestOf_0 : decode cX4_greatestOf 0 = .ok (.iconst (-1), 1) := by decide +kernel
theorem dX4_greatestOf_1 : decode cX4_greatestOf 1 = .ok (.istore_n 2, 1) := by decide +kernel
theorem dX4_greatestOf_2 : decode cX4_greatestOf 2 = .ok (.iconst 0, 1) := by decide +kernel
theorem dX4_greatestOf_3 : decode cX4_greatestOf 3 = .ok (.istore_n 3, 1) := by decide +kernel
theorem dX4_greatestOf_4 : decode cX4_greatestOf 4 = .ok (.iload_n 3, 1) := by decide +kernel
theorem dX4_greatestOf_5 : decode cX4_greatestOf 5 = .ok (.aload_n 0, 1) := by decide +kernel
theorem dX4_greatestOf_6 : decode cX4_greatestOf 6 = .ok (.getfield 46, 3) := by decide +kernel
theorem dX4_greatestOf_9 : decode cX4_greatestOf 9 = .ok (.if_icmp .ge 19, 3) := by decide +kernel
theorem dX4_greatestOf_12 : decode cX4_greatestOf 12 = .ok (.iload_n 2, 1) := by decide +kernel
theorem dX4_greatestOf_13 : decode cX4_greatestOf 13 = .ok (.aload_n 1, 1) := by decide +kernel
theorem dX4_greatestOf_14 : decode cX4_greatestOf 14 = .ok (.iload_n 3, 1) := by decide +kernel
theorem dX4_greatestOf_15 : decode cX4_greatestOf 15 = .ok (.invokestatic 73, 3) := by decide +kernel
theorem dX4_greatestOf_18 : decode cX4_greatestOf 18 = .ok (.invokestatic 111, 3) := by decide +kernel
theorem dX4_greatestOf_21 : decode cX4_greatestOf 21 = .ok (.istore_n 2, 1) := by decide +kernel
theorem dX4_greatestOf_22 : decode cX4_greatestOf 22 = .ok (.iinc 3 1, 3) := by decide +kernel
theorem dX4_greatestOf_25 : decode cX4_greatestOf 25 = .ok (.goto (-21), 3) := by decide +kernel
theorem dX4_greatestOf_28 : decode cX4_greatestOf 28 = .ok (.iload_n 2, 1) := by decide +kernel
theorem dX4_greatestOf_29 : decode cX4_greatestOf 29 = .ok (.ifCond .ge 8, 3) := by decide +kernel
theorem dX4_greatestOf_32 : decode cX4_greatestOf 32 = .ok (.bipush (-4), 2) := by decide +kernel
theorem dX4_greatestOf_34 : decode cX4_greatestOf 34 = .ok (.goto 4, 3) := by decide +kernel
theorem dX4_greatestOf_37 : decode cX4_greatestOf 37 = .ok (.iload_n 2, 1) := by decide +kernel
theorem dX4_greatestOf_38 : decode cX4_greatestOf 38 = .ok (.ireturn, 1) := by decide +kernel
theorem dX4_lowestOfGreatestWorst_0 : decode cX4_lowestOfGreatestWorst 0 = .ok (.aload_n 0, 1) := by decide +kernel
theorem dX4_lowestOfGreatestWorst_1 : decode cX4_lowestOfGreatestWorst 1 = .ok (.invokevirtual 114, 3) := by decide +kernel
theorem dX4_lowestOfGreatestWorst_4 : decode cX4_lowestOfGreatestWorst 4 = .ok (.istore_n 1, 1) := by decide +kernel
theorem dX4_lowestOfGreatestWorst_5 : decode cX4_lowestOfGreatestWorst 5 = .ok (.iconst 0, 1) := by decide +kernel
theorem dX4_lowestOfGreatestWorst_6 : decode cX4_lowestOfGreatestWorst 6 = .ok (.istore_n 2, 1) := by decide +kernel
theorem dX4_lowestOfGreatestWorst_7 : decode cX4_lowestOfGreatestWorst 7 = .ok (.iload_n 1, 1) := by decide +kernel
theorem dX4_lowestOfGreatestWorst_8 : decode cX4_lowestOfGreatestWorst 8 = .ok (.bipush (-4), 2) := by decide +kernel
theorem dX4_lowestOfGreatestWorst_10 : decode cX4_lowestOfGreatestWorst 10 = .ok (.if_icmp .eq 28, 3) := by decide +kernel
theorem dX4_lowestOfGreatestWorst_13 : decode cX4_lowestOfGreatestWorst 13 = .ok (.iload_n 2, 1) := by decide +kernel
theorem dX4_lowestOfGreatestWorst_14 : decode cX4_lowestOfGreatestWorst 14 = .ok (.aload_n 0, 1) := by decide +kernel
theorem dX4_lowestOfGreatestWorst_15 : decode cX4_lowestOfGreatestWorst 15 = .ok (.getfield 46, 3) := by decide +kernel
theorem dX4_lowestOfGreatestWorst_18 : decode cX4_lowestOfGreatestWorst 18 = .ok (.if_icmp .ge 20, 3) := by decide +kernel
theorem dX4_lowestOfGreatestWorst_21 : decode cX4_lowestOfGreatestWorst 21 = .ok (.aload_n 0, 1) := by decide +kernel
theorem dX4_lowestOfGreatestWorst_22 : decode cX4_lowestOfGreatestWorst 22 = .ok (.iload_n 2, 1) := by decide +kernel
theorem dX4_lowestOfGreatestWorst_23 : decode cX4_lowestOfGreatestWorst 23 = .ok (.invokevirtual 118, 3) := by decide +kernel
theorem dX4_lowestOfGreatestWorst_26 : decode cX4_lowestOfGreatestWorst 26 = .ok (.iload_n 1, 1) := by decide +kernel
theorem dX4_lowestOfGreatestWorst_27 : decode cX4_lowestOfGreatestWorst 27 = .ok (.if_icmp .ne 5, 3) := by decide +kernel
theorem dX4_lowestOfGreatestWorst_30 : decode cX4_lowestOfGreatestWorst 30 = .ok (.iload_n 2, 1) := by decide +kernel
theorem dX4_lowestOfGreatestWorst_31 : decode cX4_lowestOfGreatestWorst 31 = .ok (.ireturn, 1) := by decide +kernel
theorem dX4_lowestOfGreatestWorst_32 : decode cX4_lowestOfGreatestWorst 32 = .ok (.iinc 2 1, 3) := by decide +kernel
theorem dX4_lowestOfGreatestWorst_35 : decode cX4_lowestOfGreatestWorst 35 = .ok (.goto (-28), 3) := by decide +kernel
theorem dX4_lowestOfGreatestWorst_38 : decode cX4_lowestOfGreatestWorst 38 = .ok (.bipush (-4), 2) := by decide +kernel
theorem dX4_lowestOfGreatestWorst_40 : decode cX4_lowestOfGreatestWorst 40 = .ok (.ireturn, 1) := by decide +kernel
theorem dX4_sumOfWorsts_0 : decode cX4_sumOfWorsts 0 = .ok (.iconst 0, 1) := by decide +kernel
theorem dX4_sumOfWorsts_1 : decode cX4_sumOfWorsts 1 = .ok (.istore_n 1, 1) := by decide +kernel
theorem dX4_sumOfWorsts_2 : decode cX4_sumOfWorsts 2 = .ok (.iconst 0, 1) := by decide +kernel
theorem dX4_sumOfWorsts_3 : decode cX4_sumOfWorsts 3 = .ok (.istore_n 2, 1) := by decide +kernel
theorem dX4_sumOfWorsts_4 : decode cX4_sumOfWorsts 4 = .ok (.iload_n 2, 1) := by decide +kernel
theorem dX4_sumOfWorsts_5 : decode cX4_sumOfWorsts 5 = .ok (.aload_n 0, 1) := by decide +kernel
theorem dX4_sumOfWorsts_6 : decode cX4_sumOfWorsts 6 = .ok (.getfield 46, 3) := by decide +kernel
theorem dX4_sumOfWorsts_9 : decode cX4_sumOfWorsts 9 = .ok (.if_icmp .ge 21, 3) := by decide +kernel
theorem dX4_sumOfWorsts_12 : decode cX4_sumOfWorsts 12 = .ok (.iload_n 1, 1) := by decide +kernel
theorem dX4_sumOfWorsts_13 : decode cX4_sumOfWorsts 13 = .ok (.iconst 0, 1) := by decide +kernel
theorem dX4_sumOfWorsts_14 : decode cX4_sumOfWorsts 14 = .ok (.aload_n 0, 1) := by decide +kernel
theorem dX4_sumOfWorsts_15 : decode cX4_sumOfWorsts 15 = .ok (.iload_n 2, 1) := by decide +kernel
theorem dX4_sumOfWorsts_16 : decode cX4_sumOfWorsts 16 = .ok (.invokevirtual 118, 3) := by decide +kernel
theorem dX4_sumOfWorsts_19 : decode cX4_sumOfWorsts 19 = .ok (.invokestatic 111, 3) := by decide +kernel
theorem dX4_sumOfWorsts_22 : decode cX4_sumOfWorsts 22 = .ok (.iadd, 1) := by decide +kernel
theorem dX4_sumOfWorsts_23 : decode cX4_sumOfWorsts 23 = .ok (.istore_n 1, 1) := by decide +kernel
theorem dX4_sumOfWorsts_24 : decode cX4_sumOfWorsts 24 = .ok (.iinc 2 1, 3) := by decide +kernel
theorem dX4_sumOfWorsts_27 : decode cX4_sumOfWorsts 27 = .ok (.goto (-23), 3) := by decide +kernel
theorem dX4_sumOfWorsts_30 : decode cX4_sumOfWorsts 30 = .ok (.iload_n 1, 1) := by decide +kernel
theorem dX4_sumOfWorsts_31 : decode cX4_sumOfWorsts 31 = .ok (.ireturn, 1) := by decide +kernel
theorem dX4_movesOutOfLegal_0 : decode cX4_movesOutOfLegal 0 = .ok (.iconst 0, 1) := by decide +kernel
theorem dX4_movesOutOfLegal_1 : decode cX4_movesOutOfLegal 1 = .ok (.istore_n 2, 1) := by decide +kernel
theorem dX4_movesOutOfLegal_2 : decode cX4_movesOutOfLegal 2 = .ok (.iconst 0, 1) := by decide +kernel
theorem dX4_movesOutOfLegal_3 : decode cX4_movesOutOfLegal 3 = .ok (.istore_n 3, 1) := by decide +kernel
theorem dX4_movesOutOfLegal_4 : decode cX4_movesOutOfLegal 4 = .ok (.iload_n 3, 1) := by decide +kernel
theorem dX4_movesOutOfLegal_5 : decode cX4_movesOutOfLegal 5 = .ok (.aload_n 0, 1) := by decide +kernel
theorem dX4_movesOutOfLegal_6 : decode cX4_movesOutOfLegal 6 = .ok (.getfield 46, 3) := by decide +kernel
theorem dX4_movesOutOfLegal_9 : decode cX4_movesOutOfLegal 9 = .ok (.if_icmp .ge 26, 3) := by decide +kernel
theorem dX4_movesOutOfLegal_12 : decode cX4_movesOutOfLegal 12 = .ok (.aload_n 0, 1) := by decide +kernel
theorem dX4_movesOutOfLegal_13 : decode cX4_movesOutOfLegal 13 = .ok (.iload_n 3, 1) := by decide +kernel
theorem dX4_movesOutOfLegal_14 : decode cX4_movesOutOfLegal 14 = .ok (.invokevirtual 118, 3) := by decide +kernel
theorem dX4_movesOutOfLegal_17 : decode cX4_movesOutOfLegal 17 = .ok (.ifCond .ne 12, 3) := by decide +kernel
theorem dX4_movesOutOfLegal_20 : decode cX4_movesOutOfLegal 20 = .ok (.iload_n 2, 1) := by decide +kernel
theorem dX4_movesOutOfLegal_21 : decode cX4_movesOutOfLegal 21 = .ok (.aload_n 0, 1) := by decide +kernel
theorem dX4_movesOutOfLegal_22 : decode cX4_movesOutOfLegal 22 = .ok (.aload_n 1, 1) := by decide +kernel
theorem dX4_movesOutOfLegal_23 : decode cX4_movesOutOfLegal 23 = .ok (.iload_n 3, 1) := by decide +kernel
theorem dX4_movesOutOfLegal_24 : decode cX4_movesOutOfLegal 24 = .ok (.invokevirtual 122, 3) := by decide +kernel
theorem dX4_movesOutOfLegal_27 : decode cX4_movesOutOfLegal 27 = .ok (.iadd, 1) := by decide +kernel
theorem dX4_movesOutOfLegal_28 : decode cX4_movesOutOfLegal 28 = .ok (.istore_n 2, 1) := by decide +kernel
theorem dX4_movesOutOfLegal_29 : decode cX4_movesOutOfLegal 29 = .ok (.iinc 3 1, 3) := by decide +kernel
theorem dX4_movesOutOfLegal_32 : decode cX4_movesOutOfLegal 32 = .ok (.goto (-28), 3) := by decide +kernel
theorem dX4_movesOutOfLegal_35 : decode cX4_movesOutOfLegal 35 = .ok (.iload_n 2, 1) := by decide +kernel
theorem dX4_movesOutOfLegal_36 : decode cX4_movesOutOfLegal 36 = .ok (.ireturn, 1) := by decide +kernel
theorem dX4_movesOutOf_0 : decode cX4_movesOutOf 0 = .ok (.iconst 0, 1) := by decide +kernel
theorem dX4_movesOutOf_1 : decode cX4_movesOutOf 1 = .ok (.istore_n 3, 1) := by decide +kernel
theorem dX4_movesOutOf_2 : decode cX4_movesOutOf 2 = .ok (.iconst 0, 1) := by decide +kernel
theorem dX4_movesOutOf_3 : decode cX4_movesOutOf 3 = .ok (.istore 4, 2) := by decide +kernel
theorem dX4_movesOutOf_5 : decode cX4_movesOutOf 5 = .ok (.iload 4, 2) := by decide +kernel
theorem dX4_movesOutOf_7 : decode cX4_movesOutOf 7 = .ok (.aload_n 1, 1) := by decide +kernel
theorem dX4_movesOutOf_8 : decode cX4_movesOutOf 8 = .ok (.getfield 55, 3) := by decide +kernel
theorem dX4_movesOutOf_11 : decode cX4_movesOutOf 11 = .ok (.if_icmp .ge 32, 3) := by decide +kernel
theorem dX4_movesOutOf_14 : decode cX4_movesOutOf 14 = .ok (.iload_n 3, 1) := by decide +kernel
theorem dX4_movesOutOf_15 : decode cX4_movesOutOf 15 = .ok (.aload_n 0, 1) := by decide +kernel
theorem dX4_movesOutOf_16 : decode cX4_movesOutOf 16 = .ok (.aload_n 0, 1) := by decide +kernel
theorem dX4_movesOutOf_17 : decode cX4_movesOutOf 17 = .ok (.aload_n 1, 1) := by decide +kernel
theorem dX4_movesOutOf_18 : decode cX4_movesOutOf 18 = .ok (.iload_n 2, 1) := by decide +kernel
theorem dX4_movesOutOf_19 : decode cX4_movesOutOf 19 = .ok (.iload 4, 2) := by decide +kernel
theorem dX4_movesOutOf_21 : decode cX4_movesOutOf 21 = .ok (.invokevirtual 126, 3) := by decide +kernel
theorem dX4_movesOutOf_24 : decode cX4_movesOutOf 24 = .ok (.invokevirtual 118, 3) := by decide +kernel
theorem dX4_movesOutOf_27 : decode cX4_movesOutOf 27 = .ok (.ifCond .eq 7, 3) := by decide +kernel
theorem dX4_movesOutOf_30 : decode cX4_movesOutOf 30 = .ok (.iconst 1, 1) := by decide +kernel
theorem dX4_movesOutOf_31 : decode cX4_movesOutOf 31 = .ok (.goto 4, 3) := by decide +kernel
theorem dX4_movesOutOf_34 : decode cX4_movesOutOf 34 = .ok (.iconst 0, 1) := by decide +kernel
theorem dX4_movesOutOf_35 : decode cX4_movesOutOf 35 = .ok (.iadd, 1) := by decide +kernel
theorem dX4_movesOutOf_36 : decode cX4_movesOutOf 36 = .ok (.istore_n 3, 1) := by decide +kernel
theorem dX4_movesOutOf_37 : decode cX4_movesOutOf 37 = .ok (.iinc 4 1, 3) := by decide +kernel
theorem dX4_movesOutOf_40 : decode cX4_movesOutOf 40 = .ok (.goto (-35), 3) := by decide +kernel
theorem dX4_movesOutOf_43 : decode cX4_movesOutOf 43 = .ok (.iload_n 3, 1) := by decide +kernel
theorem dX4_movesOutOf_44 : decode cX4_movesOutOf 44 = .ok (.ireturn, 1) := by decide +kernel
theorem dX4_statesWithin_0 : decode cX4_statesWithin 0 = .ok (.iconst 0, 1) := by decide +kernel
theorem dX4_statesWithin_1 : decode cX4_statesWithin 1 = .ok (.istore_n 2, 1) := by decide +kernel
theorem dX4_statesWithin_2 : decode cX4_statesWithin 2 = .ok (.iconst 0, 1) := by decide +kernel
theorem dX4_statesWithin_3 : decode cX4_statesWithin 3 = .ok (.istore_n 3, 1) := by decide +kernel
theorem dX4_statesWithin_4 : decode cX4_statesWithin 4 = .ok (.iload_n 3, 1) := by decide +kernel
theorem dX4_statesWithin_5 : decode cX4_statesWithin 5 = .ok (.aload_n 0, 1) := by decide +kernel
theorem dX4_statesWithin_6 : decode cX4_statesWithin 6 = .ok (.getfield 46, 3) := by decide +kernel
theorem dX4_statesWithin_9 : decode cX4_statesWithin 9 = .ok (.if_icmp .ge 26, 3) := by decide +kernel
theorem dX4_statesWithin_12 : decode cX4_statesWithin 12 = .ok (.iload_n 2, 1) := by decide +kernel
theorem dX4_statesWithin_13 : decode cX4_statesWithin 13 = .ok (.aload_n 0, 1) := by decide +kernel
theorem dX4_statesWithin_14 : decode cX4_statesWithin 14 = .ok (.iload_n 3, 1) := by decide +kernel
theorem dX4_statesWithin_15 : decode cX4_statesWithin 15 = .ok (.iload_n 1, 1) := by decide +kernel
theorem dX4_statesWithin_16 : decode cX4_statesWithin 16 = .ok (.invokevirtual 130, 3) := by decide +kernel
theorem dX4_statesWithin_19 : decode cX4_statesWithin 19 = .ok (.ifCond .eq 7, 3) := by decide +kernel
theorem dX4_statesWithin_22 : decode cX4_statesWithin 22 = .ok (.iconst 1, 1) := by decide +kernel
theorem dX4_statesWithin_23 : decode cX4_statesWithin 23 = .ok (.goto 4, 3) := by decide +kernel
theorem dX4_statesWithin_26 : decode cX4_statesWithin 26 = .ok (.iconst 0, 1) := by decide +kernel
theorem dX4_statesWithin_27 : decode cX4_statesWithin 27 = .ok (.iadd, 1) := by decide +kernel
theorem dX4_statesWithin_28 : decode cX4_statesWithin 28 = .ok (.istore_n 2, 1) := by decide +kernel
theorem dX4_statesWithin_29 : decode cX4_statesWithin 29 = .ok (.iinc 3 1, 3) := by decide +kernel
theorem dX4_statesWithin_32 : decode cX4_statesWithin 32 = .ok (.goto (-28), 3) := by decide +kernel
theorem dX4_statesWithin_35 : decode cX4_statesWithin 35 = .ok (.iload_n 2, 1) := by decide +kernel
theorem dX4_statesWithin_36 : decode cX4_statesWithin 36 = .ok (.ireturn, 1) := by decide +kernel
theorem dX4_greatestWorstWithin_0 : decode cX4_greatestWorstWithin 0 = .ok (.iconst 0, 1) := by decide +kernel
theorem dX4_greatestWorstWithin_1 : decode cX4_greatestWorstWithin 1 = .ok (.istore_n 2, 1) := by decide +kernel
theorem dX4_greatestWorstWithin_2 : decode cX4_greatestWorstWithin 2 = .ok (.iconst 0, 1) := by decide +kernel
theorem dX4_greatestWorstWithin_3 : decode cX4_greatestWorstWithin 3 = .ok (.istore_n 3, 1) := by decide +kernel
theorem dX4_greatestWorstWithin_4 : decode cX4_greatestWorstWithin 4 = .ok (.iload_n 3, 1) := by decide +kernel
theorem dX4_greatestWorstWithin_5 : decode cX4_greatestWorstWithin 5 = .ok (.aload_n 0, 1) := by decide +kernel
theorem dX4_greatestWorstWithin_6 : decode cX4_greatestWorstWithin 6 = .ok (.getfield 46, 3) := by decide +kernel
theorem dX4_greatestWorstWithin_9 : decode cX4_greatestWorstWithin 9 = .ok (.if_icmp .ge 31, 3) := by decide +kernel
theorem dX4_greatestWorstWithin_12 : decode cX4_greatestWorstWithin 12 = .ok (.aload_n 0, 1) := by decide +kernel
theorem dX4_greatestWorstWithin_13 : decode cX4_greatestWorstWithin 13 = .ok (.iload_n 3, 1) := by decide +kernel
theorem dX4_greatestWorstWithin_14 : decode cX4_greatestWorstWithin 14 = .ok (.iload_n 1, 1) := by decide +kernel
theorem dX4_greatestWorstWithin_15 : decode cX4_greatestWorstWithin 15 = .ok (.invokevirtual 130, 3) := by decide +kernel
theorem dX4_greatestWorstWithin_18 : decode cX4_greatestWorstWithin 18 = .ok (.ifCond .eq 16, 3) := by decide +kernel
theorem dX4_greatestWorstWithin_21 : decode cX4_greatestWorstWithin 21 = .ok (.iload_n 2, 1) := by decide +kernel
theorem dX4_greatestWorstWithin_22 : decode cX4_greatestWorstWithin 22 = .ok (.aload_n 0, 1) := by decide +kernel
theorem dX4_greatestWorstWithin_23 : decode cX4_greatestWorstWithin 23 = .ok (.iload_n 3, 1) := by decide +kernel
theorem dX4_greatestWorstWithin_24 : decode cX4_greatestWorstWithin 24 = .ok (.invokevirtual 118, 3) := by decide +kernel
theorem dX4_greatestWorstWithin_27 : decode cX4_greatestWorstWithin 27 = .ok (.invokestatic 134, 3) := by decide +kernel
theorem dX4_greatestWorstWithin_30 : decode cX4_greatestWorstWithin 30 = .ok (.invokestatic 111, 3) := by decide +kernel
theorem dX4_greatestWorstWithin_33 : decode cX4_greatestWorstWithin 33 = .ok (.istore_n 2, 1) := by decide +kernel
theorem dX4_greatestWorstWithin_34 : decode cX4_greatestWorstWithin 34 = .ok (.iinc 3 1, 3) := by decide +kernel
theorem dX4_greatestWorstWithin_37 : decode cX4_greatestWorstWithin 37 = .ok (.goto (-33), 3) := by decide +kernel
theorem dX4_greatestWorstWithin_40 : decode cX4_greatestWorstWithin 40 = .ok (.iload_n 2, 1) := by decide +kernel
theorem dX4_greatestWorstWithin_41 : decode cX4_greatestWorstWithin 41 = .ok (.ldc 103, 2) := by decide +kernel
theorem dX4_greatestWorstWithin_43 : decode cX4_greatestWorstWithin 43 = .ok (.if_icmp .ne 8, 3) := by decide +kernel
theorem dX4_greatestWorstWithin_46 : decode cX4_greatestWorstWithin 46 = .ok (.bipush (-5), 2) := by decide +kernel
theorem dX4_greatestWorstWithin_48 : decode cX4_greatestWorstWithin 48 = .ok (.goto 4, 3) := by decide +kernel
theorem dX4_greatestWorstWithin_51 : decode cX4_greatestWorstWithin 51 = .ok (.iload_n 2, 1) := by decide +kernel
theorem dX4_greatestWorstWithin_52 : decode cX4_greatestWorstWithin 52 = .ok (.ireturn, 1) := by decide +kernel
theorem dX4_isWithin_0 : decode cX4_isWithin 0 = .ok (.aload_n 0, 1) := by decide +kernel
theorem dX4_isWithin_1 : decode cX4_isWithin 1 = .ok (.iload_n 1, 1) := by decide +kernel
theorem dX4_isWithin_2 : decode cX4_isWithin 2 = .ok (.invokevirtual 137, 3) := by decide +kernel
theorem dX4_isWithin_5 : decode cX4_isWithin 5 = .ok (.ifCond .lt 16, 3) := by decide +kernel
theorem dX4_isWithin_8 : decode cX4_isWithin 8 = .ok (.aload_n 0, 1) := by decide +kernel
theorem dX4_isWithin_9 : decode cX4_isWithin 9 = .ok (.iload_n 1, 1) := by decide +kernel
theorem dX4_isWithin_10 : decode cX4_isWithin 10 = .ok (.invokevirtual 137, 3) := by decide +kernel
theorem dX4_isWithin_13 : decode cX4_isWithin 13 = .ok (.iload_n 2, 1) := by decide +kernel
theorem dX4_isWithin_14 : decode cX4_isWithin 14 = .ok (.if_icmp .gt 7, 3) := by decide +kernel
theorem dX4_isWithin_17 : decode cX4_isWithin 17 = .ok (.iconst 1, 1) := by decide +kernel
theorem dX4_isWithin_18 : decode cX4_isWithin 18 = .ok (.goto 4, 3) := by decide +kernel
theorem dX4_isWithin_21 : decode cX4_isWithin 21 = .ok (.iconst 0, 1) := by decide +kernel
theorem dX4_isWithin_22 : decode cX4_isWithin 22 = .ok (.ireturn, 1) := by decide +kernel
theorem dX5_init_0 : decode cX5_init 0 = .ok (.aload_n 0, 1) := by decide +kernel
theorem dX5_init_1 : decode cX5_init 1 = .ok (.invokespecial 3, 3) := by decide +kernel
theorem dX5_init_4 : decode cX5_init 4 = .ok (.aload_n 0, 1) := by decide +kernel
theorem dX5_init_5 : decode cX5_init 5 = .ok (.sipush 200, 3) := by decide +kernel
theorem dX5_init_8 : decode cX5_init 8 = .ok (.newarray .int, 2) := by decide +kernel
theorem dX5_init_10 : decode cX5_init 10 = .ok (.putfield 9, 3) := by decide +kernel
theorem dX5_init_13 : decode cX5_init 13 = .ok (.return_, 1) := by decide +kernel
theorem dX5_length_0 : decode cX5_length 0 = .ok (.aload_n 0, 1) := by decide +kernel
theorem dX5_length_1 : decode cX5_length 1 = .ok (.getfield 15, 3) := by decide +kernel
theorem dX5_length_4 : decode cX5_length 4 = .ok (.ireturn, 1) := by decide +kernel
theorem dX5_clear_0 : decode cX5_clear 0 = .ok (.aload_n 0, 1) := by decide +kernel
theorem dX5_clear_1 : decode cX5_clear 1 = .ok (.iconst 0, 1) := by decide +kernel
theorem dX5_clear_2 : decode cX5_clear 2 = .ok (.putfield 15, 3) := by decide +kernel
theorem dX5_clear_5 : decode cX5_clear 5 = .ok (.return_, 1) := by decide +kernel
theorem dX5_append_0 : decode cX5_append 0 = .ok (.aload_n 0, 1) := by decide +kernel
theorem dX5_append_1 : decode cX5_append 1 = .ok (.getfield 15, 3) := by decide +kernel
theorem dX5_append_4 : decode cX5_append 4 = .ok (.sipush 200, 3) := by decide +kernel
theorem dX5_append_7 : decode cX5_append 7 = .ok (.if_icmp .lt 5, 3) := by decide +kernel
theorem dX5_append_10 : decode cX5_append 10 = .ok (.iconst 0, 1) := by decide +kernel
theorem dX5_append_11 : decode cX5_append 11 = .ok (.ireturn, 1) := by decide +kernel
theorem dX5_append_12 : decode cX5_append 12 = .ok (.aload_n 0, 1) := by decide +kernel
theorem dX5_append_13 : decode cX5_append 13 = .ok (.getfield 9, 3) := by decide +kernel
theorem dX5_append_16 : decode cX5_append 16 = .ok (.aload_n 0, 1) := by decide +kernel
theorem dX5_append_17 : decode cX5_append 17 = .ok (.getfield 15, 3) := by decide +kernel
theorem dX5_append_20 : decode cX5_append 20 = .ok (.iload_n 1, 1) := by decide +kernel
theorem dX5_append_21 : decode cX5_append 21 = .ok (.invokestatic 19, 3) := by decide +kernel
theorem dX5_append_24 : decode cX5_append 24 = .ok (.aload_n 0, 1) := by decide +kernel
theorem dX5_append_25 : decode cX5_append 25 = .ok (.dup, 1) := by decide +kernel
theorem dX5_append_26 : decode cX5_append 26 = .ok (.getfield 15, 3) := by decide +kernel
theorem dX5_append_29 : decode cX5_append 29 = .ok (.iconst 1, 1) := by decide +kernel
theorem dX5_append_30 : decode cX5_append 30 = .ok (.iadd, 1) := by decide +kernel
theorem dX5_append_31 : decode cX5_append 31 = .ok (.putfield 15, 3) := by decide +kernel
theorem dX5_append_34 : decode cX5_append 34 = .ok (.iconst 1, 1) := by decide +kernel
theorem dX5_append_35 : decode cX5_append 35 = .ok (.ireturn, 1) := by decide +kernel
theorem dX5_readInto_0 : decode cX5_readInto 0 = .ok (.iconst 0, 1) := by decide +kernel
theorem dX5_readInto_1 : decode cX5_readInto 1 = .ok (.istore_n 2, 1) := by decide +kernel
theorem dX5_readInto_2 : decode cX5_readInto 2 = .ok (.iconst 0, 1) := by decide +kernel
theorem dX5_readInto_3 : decode cX5_readInto 3 = .ok (.istore_n 3, 1) := by decide +kernel
theorem dX5_readInto_4 : decode cX5_readInto 4 = .ok (.iload_n 3, 1) := by decide +kernel
theorem dX5_readInto_5 : decode cX5_readInto 5 = .ok (.sipush 200, 3) := by decide +kernel
theorem dX5_readInto_8 : decode cX5_readInto 8 = .ok (.if_icmp .ge 46, 3) := by decide +kernel
theorem dX5_readInto_11 : decode cX5_readInto 11 = .ok (.iload_n 2, 1) := by decide +kernel
theorem dX5_readInto_12 : decode cX5_readInto 12 = .ok (.aload_n 0, 1) := by decide +kernel
theorem dX5_readInto_13 : decode cX5_readInto 13 = .ok (.getfield 15, 3) := by decide +kernel
theorem dX5_readInto_16 : decode cX5_readInto 16 = .ok (.if_icmp .ge 38, 3) := by decide +kernel
theorem dX5_readInto_19 : decode cX5_readInto 19 = .ok (.aload_n 0, 1) := by decide +kernel
theorem dX5_readInto_20 : decode cX5_readInto 20 = .ok (.iload_n 2, 1) := by decide +kernel
theorem dX5_readInto_21 : decode cX5_readInto 21 = .ok (.aload_n 1, 1) := by decide +kernel
theorem dX5_readInto_22 : decode cX5_readInto 22 = .ok (.invokevirtual 25, 3) := by decide +kernel
theorem dX5_readInto_25 : decode cX5_readInto 25 = .ok (.ifCond .ne 5, 3) := by decide +kernel
theorem dX5_readInto_28 : decode cX5_readInto 28 = .ok (.iload_n 2, 1) := by decide +kernel
theorem dX5_readInto_29 : decode cX5_readInto 29 = .ok (.ireturn, 1) := by decide +kernel
theorem dX5_readInto_30 : decode cX5_readInto 30 = .ok (.iload_n 2, 1) := by decide +kernel
theorem dX5_readInto_31 : decode cX5_readInto 31 = .ok (.aload_n 0, 1) := by decide +kernel
theorem dX5_readInto_32 : decode cX5_readInto 32 = .ok (.iload_n 2, 1) := by decide +kernel
theorem dX5_readInto_33 : decode cX5_readInto 33 = .ok (.invokevirtual 29, 3) := by decide +kernel
theorem dX5_readInto_36 : decode cX5_readInto 36 = .ok (.bipush 103, 2) := by decide +kernel
theorem dX5_readInto_38 : decode cX5_readInto 38 = .ok (.if_icmp .ne 7, 3) := by decide +kernel
theorem dX5_readInto_41 : decode cX5_readInto 41 = .ok (.iconst 5, 1) := by decide +kernel
theorem dX5_readInto_42 : decode cX5_readInto 42 = .ok (.goto 4, 3) := by decide +kernel
theorem dX5_readInto_45 : decode cX5_readInto 45 = .ok (.iconst 4, 1) := by decide +kernel
theorem dX5_readInto_46 : decode cX5_readInto 46 = .ok (.iadd, 1) := by decide +kernel
theorem dX5_readInto_47 : decode cX5_readInto 47 = .ok (.istore_n 2, 1) := by decide +kernel
theorem dX5_readInto_48 : decode cX5_readInto 48 = .ok (.iinc 3 1, 3) := by decide +kernel
theorem dX5_readInto_51 : decode cX5_readInto 51 = .ok (.goto (-47), 3) := by decide +kernel
theorem dX5_readInto_54 : decode cX5_readInto 54 = .ok (.bipush (-4), 2) := by decide +kernel
theorem dX5_readInto_56 : decode cX5_readInto 56 = .ok (.ireturn, 1) := by decide +kernel
theorem dX5_readItem_0 : decode cX5_readItem 0 = .ok (.aload_n 0, 1) := by decide +kernel
theorem dX5_readItem_1 : decode cX5_readItem 1 = .ok (.iload_n 1, 1) := by decide +kernel
theorem dX5_readItem_2 : decode cX5_readItem 2 = .ok (.iconst 1, 1) := by decide +kernel
theorem dX5_readItem_3 : decode cX5_readItem 3 = .ok (.iadd, 1) := by decide +kernel
theorem dX5_readItem_4 : decode cX5_readItem 4 = .ok (.invokevirtual 33, 3) := by decide +kernel
theorem dX5_readItem_7 : decode cX5_readItem 7 = .ok (.istore_n 3, 1) := by decide +kernel
theorem dX5_readItem_8 : decode cX5_readItem 8 = .ok (.aload_n 0, 1) := by decide +kernel
theorem dX5_readItem_9 : decode cX5_readItem 9 = .ok (.iload_n 1, 1) := by decide +kernel
theorem dX5_readItem_10 : decode cX5_readItem 10 = .ok (.iconst 2, 1) := by decide +kernel
theorem dX5_readItem_11 : decode cX5_readItem 11 = .ok (.iadd, 1) := by decide +kernel
theorem dX5_readItem_12 : decode cX5_readItem 12 = .ok (.invokevirtual 33, 3) := by decide +kernel
theorem dX5_readItem_15 : decode cX5_readItem 15 = .ok (.istore 4, 2) := by decide +kernel
theorem dX5_readItem_17 : decode cX5_readItem 17 = .ok (.aload_n 0, 1) := by decide +kernel
theorem dX5_readItem_18 : decode cX5_readItem 18 = .ok (.iload_n 1, 1) := by decide +kernel
theorem dX5_readItem_19 : decode cX5_readItem 19 = .ok (.invokevirtual 29, 3) := by decide +kernel
theorem dX5_readItem_22 : decode cX5_readItem 22 = .ok (.istore 5, 2) := by decide +kernel
theorem dX5_readItem_24 : decode cX5_readItem 24 = .ok (.iload 5, 2) := by decide +kernel
theorem dX5_readItem_26 : decode cX5_readItem 26 = .ok (.bipush 103, 2) := by decide +kernel
theorem dX5_readItem_28 : decode cX5_readItem 28 = .ok (.if_icmp .ne 42, 3) := by decide +kernel
theorem dX5_readItem_31 : decode cX5_readItem 31 = .ok (.iload_n 1, 1) := by decide +kernel
theorem dX5_readItem_32 : decode cX5_readItem 32 = .ok (.ifCond .ne 36, 3) := by decide +kernel
theorem dX5_readItem_35 : decode cX5_readItem 35 = .ok (.aload_n 0, 1) := by decide +kernel
theorem dX5_readItem_36 : decode cX5_readItem 36 = .ok (.iload_n 1, 1) := by decide +kernel
theorem dX5_readItem_37 : decode cX5_readItem 37 = .ok (.iconst 4, 1) := by decide +kernel
theorem dX5_readItem_38 : decode cX5_readItem 38 = .ok (.iadd, 1) := by decide +kernel
theorem dX5_readItem_39 : decode cX5_readItem 39 = .ok (.invokevirtual 29, 3) := by decide +kernel
theorem dX5_readItem_42 : decode cX5_readItem 42 = .ok (.bipush 59, 2) := by decide +kernel
theorem dX5_readItem_44 : decode cX5_readItem 44 = .ok (.if_icmp .ne 24, 3) := by decide +kernel
theorem dX5_readItem_47 : decode cX5_readItem 47 = .ok (.aload_n 2, 1) := by decide +kernel
theorem dX5_readItem_48 : decode cX5_readItem 48 = .ok (.iload_n 3, 1) := by decide +kernel
theorem dX5_readItem_49 : decode cX5_readItem 49 = .ok (.iload 4, 2) := by decide +kernel
theorem dX5_readItem_51 : decode cX5_readItem 51 = .ok (.aload_n 0, 1) := by decide +kernel
theorem dX5_readItem_52 : decode cX5_readItem 52 = .ok (.iload_n 1, 1) := by decide +kernel
theorem dX5_readItem_53 : decode cX5_readItem 53 = .ok (.iconst 3, 1) := by decide +kernel
theorem dX5_readItem_54 : decode cX5_readItem 54 = .ok (.iadd, 1) := by decide +kernel
theorem dX5_readItem_55 : decode cX5_readItem 55 = .ok (.invokevirtual 33, 3) := by decide +kernel
theorem dX5_readItem_58 : decode cX5_readItem 58 = .ok (.invokevirtual 36, 3) := by decide +kernel
theorem dX5_readItem_61 : decode cX5_readItem 61 = .ok (.ifCond .eq 7, 3) := by decide +kernel
theorem dX5_readItem_64 : decode cX5_readItem 64 = .ok (.iconst 1, 1) := by decide +kernel
theorem dX5_readItem_65 : decode cX5_readItem 65 = .ok (.goto 4, 3) := by decide +kernel
theorem dX5_readItem_68 : decode cX5_readItem 68 = .ok (.iconst 0, 1) := by decide +kernel
theorem dX5_readItem_69 : decode cX5_readItem 69 = .ok (.ireturn, 1) := by decide +kernel
theorem dX5_readItem_70 : decode cX5_readItem 70 = .ok (.iload_n 1, 1) := by decide +kernel
theorem dX5_readItem_71 : decode cX5_readItem 71 = .ok (.ifCond .eq 15, 3) := by decide +kernel
theorem dX5_readItem_74 : decode cX5_readItem 74 = .ok (.aload_n 0, 1) := by decide +kernel
theorem dX5_readItem_75 : decode cX5_readItem 75 = .ok (.iload_n 1, 1) := by decide +kernel
theorem dX5_readItem_76 : decode cX5_readItem 76 = .ok (.iconst 3, 1) := by decide +kernel
theorem dX5_readItem_77 : decode cX5_readItem 77 = .ok (.iadd, 1) := by decide +kernel
theorem dX5_readItem_78 : decode cX5_readItem 78 = .ok (.invokevirtual 29, 3) := by decide +kernel
theorem dX5_readItem_81 : decode cX5_readItem 81 = .ok (.bipush 59, 2) := by decide +kernel
theorem dX5_readItem_83 : decode cX5_readItem 83 = .ok (.if_icmp .eq 5, 3) := by decide +kernel
theorem dX5_readItem_86 : decode cX5_readItem 86 = .ok (.iconst 0, 1) := by decide +kernel
theorem dX5_readItem_87 : decode cX5_readItem 87 = .ok (.ireturn, 1) := by decide +kernel
theorem dX5_readItem_88 : decode cX5_readItem 88 = .ok (.iload 5, 2) := by decide +kernel
theorem dX5_readItem_90 : decode cX5_readItem 90 = .ok (.bipush 101, 2) := by decide +kernel
theorem dX5_readItem_92 : decode cX5_readItem 92 = .ok (.if_icmp .ne 11, 3) := by decide +kernel
theorem dX5_readItem_95 : decode cX5_readItem 95 = .ok (.aload_n 2, 1) := by decide +kernel
theorem dX5_readItem_96 : decode cX5_readItem 96 = .ok (.iload_n 3, 1) := by decide +kernel
theorem dX5_readItem_97 : decode cX5_readItem 97 = .ok (.iload 4, 2) := by decide +kernel
theorem dX5_readItem_99 : decode cX5_readItem 99 = .ok (.invokevirtual 42, 3) := by decide +kernel
theorem dX5_readItem_102 : decode cX5_readItem 102 = .ok (.ireturn, 1) := by decide +kernel
theorem dX5_readItem_103 : decode cX5_readItem 103 = .ok (.iload 5, 2) := by decide +kernel
theorem dX5_readItem_105 : decode cX5_readItem 105 = .ok (.bipush 120, 2) := by decide +kernel
theorem dX5_readItem_107 : decode cX5_readItem 107 = .ok (.if_icmp .ne 17, 3) := by decide +kernel
theorem dX5_readItem_110 : decode cX5_readItem 110 = .ok (.aload_n 2, 1) := by decide +kernel
theorem dX5_readItem_111 : decode cX5_readItem 111 = .ok (.iload_n 3, 1) := by decide +kernel
theorem dX5_readItem_112 : decode cX5_readItem 112 = .ok (.iload 4, 2) := by decide +kernel
theorem dX5_readItem_114 : decode cX5_readItem 114 = .ok (.invokevirtual 46, 3) := by decide +kernel
theorem dX5_readItem_117 : decode cX5_readItem 117 = .ok (.ifCond .eq 7, 3) := by decide +kernel
theorem dX5_readItem_120 : decode cX5_readItem 120 = .ok (.iconst 1, 1) := by decide +kernel
theorem dX5_readItem_121 : decode cX5_readItem 121 = .ok (.goto 4, 3) := by decide +kernel
theorem dX5_readItem_124 : decode cX5_readItem 124 = .ok (.iconst 0, 1) := by decide +kernel
theorem dX5_readItem_125 : decode cX5_readItem 125 = .ok (.ireturn, 1) := by decide +kernel
theorem dX5_letterAt_0 : decode cX5_letterAt 0 = .ok (.iload_n 1, 1) := by decide +kernel
theorem dX5_letterAt_1 : decode cX5_letterAt 1 = .ok (.ifCond .lt 22, 3) := by decide +kernel
theorem dX5_letterAt_4 : decode cX5_letterAt 4 = .ok (.iload_n 1, 1) := by decide +kernel
theorem dX5_letterAt_5 : decode cX5_letterAt 5 = .ok (.aload_n 0, 1) := by decide +kernel
theorem dX5_letterAt_6 : decode cX5_letterAt 6 = .ok (.getfield 15, 3) := by decide +kernel
theorem dX5_letterAt_9 : decode cX5_letterAt 9 = .ok (.if_icmp .ge 14, 3) := by decide +kernel
theorem dX5_letterAt_12 : decode cX5_letterAt 12 = .ok (.aload_n 0, 1) := by decide +kernel
theorem dX5_letterAt_13 : decode cX5_letterAt 13 = .ok (.getfield 9, 3) := by decide +kernel
theorem dX5_letterAt_16 : decode cX5_letterAt 16 = .ok (.iload_n 1, 1) := by decide +kernel
theorem dX5_letterAt_17 : decode cX5_letterAt 17 = .ok (.invokestatic 49, 3) := by decide +kernel
theorem dX5_letterAt_20 : decode cX5_letterAt 20 = .ok (.goto 4, 3) := by decide +kernel
theorem dX5_letterAt_23 : decode cX5_letterAt 23 = .ok (.iconst 0, 1) := by decide +kernel
theorem dX5_letterAt_24 : decode cX5_letterAt 24 = .ok (.ireturn, 1) := by decide +kernel
theorem dX5_figureAt_0 : decode cX5_figureAt 0 = .ok (.aload_n 0, 1) := by decide +kernel
theorem dX5_figureAt_1 : decode cX5_figureAt 1 = .ok (.iload_n 1, 1) := by decide +kernel
theorem dX5_figureAt_2 : decode cX5_figureAt 2 = .ok (.invokevirtual 29, 3) := by decide +kernel
theorem dX5_figureAt_5 : decode cX5_figureAt 5 = .ok (.istore_n 2, 1) := by decide +kernel
theorem dX5_figureAt_6 : decode cX5_figureAt 6 = .ok (.iload_n 2, 1) := by decide +kernel
theorem dX5_figureAt_7 : decode cX5_figureAt 7 = .ok (.bipush 48, 2) := by decide +kernel
theorem dX5_figureAt_9 : decode cX5_figureAt 9 = .ok (.if_icmp .lt 16, 3) := by decide +kernel
theorem dX5_figureAt_12 : decode cX5_figureAt 12 = .ok (.iload_n 2, 1) := by decide +kernel
theorem dX5_figureAt_13 : decode cX5_figureAt 13 = .ok (.bipush 57, 2) := by decide +kernel
theorem dX5_figureAt_15 : decode cX5_figureAt 15 = .ok (.if_icmp .gt 10, 3) := by decide +kernel
theorem dX5_figureAt_18 : decode cX5_figureAt 18 = .ok (.iload_n 2, 1) := by decide +kernel
theorem dX5_figureAt_19 : decode cX5_figureAt 19 = .ok (.bipush 48, 2) := by decide +kernel
theorem dX5_figureAt_21 : decode cX5_figureAt 21 = .ok (.isub, 1) := by decide +kernel
theorem dX5_figureAt_22 : decode cX5_figureAt 22 = .ok (.goto 4, 3) := by decide +kernel
theorem dX5_figureAt_25 : decode cX5_figureAt 25 = .ok (.iconst (-1), 1) := by decide +kernel
theorem dX5_figureAt_26 : decode cX5_figureAt 26 = .ok (.ireturn, 1) := by decide +kernel
theorem dX6_init_0 : decode cX6_init 0 = .ok (.aload_n 0, 1) := by decide +kernel
theorem dX6_init_1 : decode cX6_init 1 = .ok (.invokespecial 1, 3) := by decide +kernel
theorem dX6_init_4 : decode cX6_init 4 = .ok (.aload_n 0, 1) := by decide +kernel
theorem dX6_init_5 : decode cX6_init 5 = .ok (.new 7, 3) := by decide +kernel
theorem dX6_init_8 : decode cX6_init 8 = .ok (.dup, 1) := by decide +kernel
theorem dX6_init_9 : decode cX6_init 9 = .ok (.invokespecial 9, 3) := by decide +kernel
theorem dX6_init_12 : decode cX6_init 12 = .ok (.putfield 10, 3) := by decide +kernel
theorem dX6_init_15 : decode cX6_init 15 = .ok (.aload_n 0, 1) := by decide +kernel
theorem dX6_init_16 : decode cX6_init 16 = .ok (.new 16, 3) := by decide +kernel
theorem dX6_init_19 : decode cX6_init 19 = .ok (.dup, 1) := by decide +kernel
theorem dX6_init_20 : decode cX6_init 20 = .ok (.invokespecial 18, 3) := by decide +kernel
theorem dX6_init_23 : decode cX6_init 23 = .ok (.putfield 19, 3) := by decide +kernel
theorem dX6_init_26 : decode cX6_init 26 = .ok (.aload_n 0, 1) := by decide +kernel
theorem dX6_init_27 : decode cX6_init 27 = .ok (.new 16, 3) := by decide +kernel
theorem dX6_init_30 : decode cX6_init 30 = .ok (.dup, 1) := by decide +kernel
theorem dX6_init_31 : decode cX6_init 31 = .ok (.invokespecial 18, 3) := by decide +kernel
theorem dX6_init_34 : decode cX6_init 34 = .ok (.putfield 23, 3) := by decide +kernel
theorem dX6_init_37 : decode cX6_init 37 = .ok (.aload_n 0, 1) := by decide +kernel
theorem dX6_init_38 : decode cX6_init 38 = .ok (.new 26, 3) := by decide +kernel
theorem dX6_init_41 : decode cX6_init 41 = .ok (.dup, 1) := by decide +kernel
theorem dX6_init_42 : decode cX6_init 42 = .ok (.invokespecial 28, 3) := by decide +kernel
theorem dX6_init_45 : decode cX6_init 45 = .ok (.putfield 29, 3) := by decide +kernel
theorem dX6_init_48 : decode cX6_init 48 = .ok (.aload_n 0, 1) := by decide +kernel
theorem dX6_init_49 : decode cX6_init 49 = .ok (.new 33, 3) := by decide +kernel
theorem dX6_init_52 : decode cX6_init 52 = .ok (.dup, 1) := by decide +kernel
theorem dX6_init_53 : decode cX6_init 53 = .ok (.invokespecial 35, 3) := by decide +kernel
theorem dX6_init_56 : decode cX6_init 56 = .ok (.putfield 36, 3) := by decide +kernel
theorem dX6_init_59 : decode cX6_init 59 = .ok (.iconst 0, 1) := by decide +kernel
theorem dX6_init_60 : decode cX6_init 60 = .ok (.istore_n 1, 1) := by decide +kernel
theorem dX6_init_61 : decode cX6_init 61 = .ok (.iload_n 1, 1) := by decide +kernel
theorem dX6_init_62 : decode cX6_init 62 = .ok (.ldc 40, 2) := by decide +kernel
theorem dX6_init_64 : decode cX6_init 64 = .ok (.invokevirtual 42, 3) := by decide +kernel
theorem dX6_init_67 : decode cX6_init 67 = .ok (.if_icmp .ge 23, 3) := by decide +kernel
theorem dX6_init_70 : decode cX6_init 70 = .ok (.aload_n 0, 1) := by decide +kernel
theorem dX6_init_71 : decode cX6_init 71 = .ok (.getfield 10, 3) := by decide +kernel
theorem dX6_init_74 : decode cX6_init 74 = .ok (.ldc 40, 2) := by decide +kernel
theorem dX6_init_76 : decode cX6_init 76 = .ok (.iload_n 1, 1) := by decide +kernel
theorem dX6_init_77 : decode cX6_init 77 = .ok (.invokevirtual 48, 3) := by decide +kernel
theorem dX6_init_80 : decode cX6_init 80 = .ok (.invokevirtual 52, 3) := by decide +kernel
theorem dX6_init_83 : decode cX6_init 83 = .ok (.pop, 1) := by decide +kernel
theorem dX6_init_84 : decode cX6_init 84 = .ok (.iinc 1 1, 3) := by decide +kernel
theorem dX6_init_87 : decode cX6_init 87 = .ok (.goto (-26), 3) := by decide +kernel
theorem dX6_init_90 : decode cX6_init 90 = .ok (.aload_n 0, 1) := by decide +kernel
theorem dX6_init_91 : decode cX6_init 91 = .ok (.getfield 10, 3) := by decide +kernel
theorem dX6_init_94 : decode cX6_init 94 = .ok (.aload_n 0, 1) := by decide +kernel
theorem dX6_init_95 : decode cX6_init 95 = .ok (.getfield 23, 3) := by decide +kernel
theorem dX6_init_98 : decode cX6_init 98 = .ok (.invokevirtual 56, 3) := by decide +kernel
theorem dX6_init_101 : decode cX6_init 101 = .ok (.pop, 1) := by decide +kernel
theorem dX6_init_102 : decode cX6_init 102 = .ok (.aload_n 0, 1) := by decide +kernel
theorem dX6_init_103 : decode cX6_init 103 = .ok (.invokevirtual 60, 3) := by decide +kernel
theorem dX6_init_106 : decode cX6_init 106 = .ok (.aload_n 0, 1) := by decide +kernel
theorem dX6_init_107 : decode cX6_init 107 = .ok (.getfield 10, 3) := by decide +kernel
theorem dX6_init_110 : decode cX6_init 110 = .ok (.invokevirtual 63, 3) := by decide +kernel
theorem dX6_init_113 : decode cX6_init 113 = .ok (.return_, 1) := by decide +kernel
theorem dX6_write_0 : decode cX6_write 0 = .ok (.iload_n 1, 1) := by decide +kernel
theorem dX6_write_1 : decode cX6_write 1 = .ok (.bipush 32, 2) := by decide +kernel
theorem dX6_write_3 : decode cX6_write 3 = .ok (.if_icmp .lt 9, 3) := by decide +kernel
theorem dX6_write_6 : decode cX6_write 6 = .ok (.iload_n 1, 1) := by decide +kernel
theorem dX6_write_7 : decode cX6_write 7 = .ok (.bipush 126, 2) := by decide +kernel
theorem dX6_write_9 : decode cX6_write 9 = .ok (.if_icmp .le 5, 3) := by decide +kernel
theorem dX6_write_12 : decode cX6_write 12 = .ok (.iconst (-1), 1) := by decide +kernel
theorem dX6_write_13 : decode cX6_write 13 = .ok (.ireturn, 1) := by decide +kernel
theorem dX6_write_14 : decode cX6_write 14 = .ok (.aload_n 0, 1) := by decide +kernel
theorem dX6_write_15 : decode cX6_write 15 = .ok (.getfield 10, 3) := by decide +kernel
theorem dX6_write_18 : decode cX6_write 18 = .ok (.iload_n 1, 1) := by decide +kernel
theorem dX6_write_19 : decode cX6_write 19 = .ok (.invokevirtual 52, 3) := by decide +kernel
theorem dX6_write_22 : decode cX6_write 22 = .ok (.ifCond .eq 13, 3) := by decide +kernel
theorem dX6_write_25 : decode cX6_write 25 = .ok (.aload_n 0, 1) := by decide +kernel
theorem dX6_write_26 : decode cX6_write 26 = .ok (.getfield 10, 3) := by decide +kernel
theorem dX6_write_29 : decode cX6_write 29 = .ok (.invokevirtual 66, 3) := by decide +kernel
theorem dX6_write_32 : decode cX6_write 32 = .ok (.goto 5, 3) := by decide +kernel
theorem dX6_write_35 : decode cX6_write 35 = .ok (.bipush (-3), 2) := by decide +kernel
theorem dX6_write_37 : decode cX6_write 37 = .ok (.ireturn, 1) := by decide +kernel
theorem dX6_wipe_0 : decode cX6_wipe 0 = .ok (.aload_n 0, 1) := by decide +kernel
theorem dX6_wipe_1 : decode cX6_wipe 1 = .ok (.getfield 10, 3) := by decide +kernel
theorem dX6_wipe_4 : decode cX6_wipe 4 = .ok (.invokevirtual 66, 3) := by decide +kernel
theorem dX6_wipe_7 : decode cX6_wipe 7 = .ok (.istore_n 1, 1) := by decide +kernel
theorem dX6_wipe_8 : decode cX6_wipe 8 = .ok (.aload_n 0, 1) := by decide +kernel
theorem dX6_wipe_9 : decode cX6_wipe 9 = .ok (.getfield 10, 3) := by decide +kernel
theorem dX6_wipe_12 : decode cX6_wipe 12 = .ok (.invokevirtual 63, 3) := by decide +kernel
theorem dX6_wipe_15 : decode cX6_wipe 15 = .ok (.iload_n 1, 1) := by decide +kernel
theorem dX6_wipe_16 : decode cX6_wipe 16 = .ok (.ireturn, 1) := by decide +kernel
theorem dX6_fault_0 : decode cX6_fault 0 = .ok (.aload_n 0, 1) := by decide +kernel
theorem dX6_fault_1 : decode cX6_fault 1 = .ok (.getfield 10, 3) := by decide +kernel
theorem dX6_fault_4 : decode cX6_fault 4 = .ok (.aload_n 0, 1) := by decide +kernel
theorem dX6_fault_5 : decode cX6_fault 5 = .ok (.getfield 23, 3) := by decide +kernel
theorem dX6_fault_8 : decode cX6_fault 8 = .ok (.invokevirtual 56, 3) := by decide +kernel
theorem dX6_fault_11 : decode cX6_fault 11 = .ok (.ireturn, 1) := by decide +kernel
theorem dX6_lay_0 : decode cX6_lay 0 = .ok (.aload_n 0, 1) := by decide +kernel
theorem dX6_lay_1 : decode cX6_lay 1 = .ok (.getfield 10, 3) := by decide +kernel
theorem dX6_lay_4 : decode cX6_lay 4 = .ok (.invokevirtual 66, 3) := by decide +kernel
theorem dX6_lay_7 : decode cX6_lay 7 = .ok (.ifCond .eq 29, 3) := by decide +kernel
theorem dX6_lay_10 : decode cX6_lay 10 = .ok (.aload_n 0, 1) := by decide +kernel
theorem dX6_lay_11 : decode cX6_lay 11 = .ok (.getfield 10, 3) := by decide +kernel
theorem dX6_lay_14 : decode cX6_lay 14 = .ok (.aload_n 0, 1) := by decide +kernel
theorem dX6_lay_15 : decode cX6_lay 15 = .ok (.getfield 23, 3) := by decide +kernel
theorem dX6_lay_18 : decode cX6_lay 18 = .ok (.invokevirtual 56, 3) := by decide +kernel
theorem dX6_lay_21 : decode cX6_lay 21 = .ok (.bipush (-4), 2) := by decide +kernel
theorem dX6_lay_23 : decode cX6_lay 23 = .ok (.if_icmp .ne 13, 3) := by decide +kernel
theorem dX6_lay_26 : decode cX6_lay 26 = .ok (.aload_n 0, 1) := by decide +kernel
theorem dX6_lay_27 : decode cX6_lay 27 = .ok (.getfield 23, 3) := by decide +kernel
theorem dX6_lay_30 : decode cX6_lay 30 = .ok (.invokevirtual 67, 3) := by decide +kernel
theorem dX6_lay_33 : decode cX6_lay 33 = .ok (.ifCond .ne 6, 3) := by decide +kernel
theorem dX6_lay_36 : decode cX6_lay 36 = .ok (.bipush (-2), 2) := by decide +kernel
theorem dX6_lay_38 : decode cX6_lay 38 = .ok (.ireturn, 1) := by decide +kernel
theorem dX6_lay_39 : decode cX6_lay 39 = .ok (.aload_n 0, 1) := by decide +kernel
theorem dX6_lay_40 : decode cX6_lay 40 = .ok (.invokevirtual 60, 3) := by decide +kernel
theorem dX6_lay_43 : decode cX6_lay 43 = .ok (.aload_n 0, 1) := by decide +kernel
theorem dX6_lay_44 : decode cX6_lay 44 = .ok (.getfield 19, 3) := by decide +kernel
theorem dX6_lay_47 : decode cX6_lay 47 = .ok (.getfield 71, 3) := by decide +kernel
theorem dX6_lay_50 : decode cX6_lay 50 = .ok (.ireturn, 1) := by decide +kernel
theorem dX6_takeDraft_0 : decode cX6_takeDraft 0 = .ok (.aload_n 0, 1) := by decide +kernel
theorem dX6_takeDraft_1 : decode cX6_takeDraft 1 = .ok (.getfield 19, 3) := by decide +kernel
theorem dX6_takeDraft_4 : decode cX6_takeDraft 4 = .ok (.aload_n 0, 1) := by decide +kernel
theorem dX6_takeDraft_5 : decode cX6_takeDraft 5 = .ok (.getfield 23, 3) := by decide +kernel
theorem dX6_takeDraft_8 : decode cX6_takeDraft 8 = .ok (.invokevirtual 75, 3) := by decide +kernel
theorem dX6_takeDraft_11 : decode cX6_takeDraft 11 = .ok (.aload_n 0, 1) := by decide +kernel
theorem dX6_takeDraft_12 : decode cX6_takeDraft 12 = .ok (.aload_n 0, 1) := by decide +kernel
theorem dX6_takeDraft_13 : decode cX6_takeDraft 13 = .ok (.getfield 19, 3) := by decide +kernel
theorem dX6_takeDraft_16 : decode cX6_takeDraft 16 = .ok (.getfield 79, 3) := by decide +kernel
theorem dX6_takeDraft_19 : decode cX6_takeDraft 19 = .ok (.putfield 82, 3) := by decide +kernel
theorem dX6_takeDraft_22 : decode cX6_takeDraft 22 = .ok (.aload_n 0, 1) := by decide +kernel
theorem dX6_takeDraft_23 : decode cX6_takeDraft 23 = .ok (.bipush (-4), 2) := by decide +kernel
theorem dX6_takeDraft_25 : decode cX6_takeDraft 25 = .ok (.putfield 85, 3) := by decide +kernel
theorem dX6_takeDraft_28 : decode cX6_takeDraft 28 = .ok (.aload_n 0, 1) := by decide +kernel
theorem dX6_takeDraft_29 : decode cX6_takeDraft 29 = .ok (.getfield 36, 3) := by decide +kernel
theorem dX6_takeDraft_32 : decode cX6_takeDraft 32 = .ok (.invokevirtual 88, 3) := by decide +kernel
theorem dX6_takeDraft_35 : decode cX6_takeDraft 35 = .ok (.aload_n 0, 1) := by decide +kernel
theorem dX6_takeDraft_36 : decode cX6_takeDraft 36 = .ok (.getfield 29, 3) := by decide +kernel
theorem dX6_takeDraft_39 : decode cX6_takeDraft 39 = .ok (.invokevirtual 89, 3) := by decide +kernel
theorem dX6_takeDraft_42 : decode cX6_takeDraft 42 = .ok (.return_, 1) := by decide +kernel
theorem dX6_value_0 : decode cX6_value 0 = .ok (.aload_n 0, 1) := by decide +kernel
theorem dX6_value_1 : decode cX6_value 1 = .ok (.getfield 19, 3) := by decide +kernel
theorem dX6_value_4 : decode cX6_value 4 = .ok (.iload_n 1, 1) := by decide +kernel
theorem dX6_value_5 : decode cX6_value 5 = .ok (.invokevirtual 92, 3) := by decide +kernel
theorem dX6_value_8 : decode cX6_value 8 = .ok (.ifCond .eq 18, 3) := by decide +kernel
theorem dX6_value_11 : decode cX6_value 11 = .ok (.aload_n 0, 1) := by decide +kernel
theorem dX6_value_12 : decode cX6_value 12 = .ok (.getfield 19, 3) := by decide +kernel
theorem dX6_value_15 : decode cX6_value 15 = .ok (.aload_n 0, 1) := by decide +kernel
theorem dX6_value_16 : decode cX6_value 16 = .ok (.getfield 82, 3) := by decide +kernel
theorem dX6_value_19 : decode cX6_value 19 = .ok (.iload_n 1, 1) := by decide +kernel
theorem dX6_value_20 : decode cX6_value 20 = .ok (.invokevirtual 95, 3) := by decide +kernel
theorem dX6_value_23 : decode cX6_value 23 = .ok (.goto 4, 3) := by decide +kernel
theorem dX6_value_26 : decode cX6_value 26 = .ok (.iconst (-1), 1) := by decide +kernel
theorem dX6_value_27 : decode cX6_value 27 = .ok (.ireturn, 1) := by decide +kernel
theorem dX6_hit_0 : decode cX6_hit 0 = .ok (.aload_n 0, 1) := by decide +kernel
theorem dX6_hit_1 : decode cX6_hit 1 = .ok (.getfield 19, 3) := by decide +kernel
theorem dX6_hit_4 : decode cX6_hit 4 = .ok (.iload_n 1, 1) := by decide +kernel
theorem dX6_hit_5 : decode cX6_hit 5 = .ok (.invokevirtual 92, 3) := by decide +kernel
theorem dX6_hit_8 : decode cX6_hit 8 = .ok (.ifCond .eq 14, 3) := by decide +kernel
theorem dX6_hit_11 : decode cX6_hit 11 = .ok (.aload_n 0, 1) := by decide +kernel
theorem dX6_hit_12 : decode cX6_hit 12 = .ok (.getfield 19, 3) := by decide +kernel
theorem dX6_hit_15 : decode cX6_hit 15 = .ok (.iload_n 2, 1) := by decide +kernel
theorem dX6_hit_16 : decode cX6_hit 16 = .ok (.invokevirtual 99, 3) := by decide +kernel
theorem dX6_hit_19 : decode cX6_hit 19 = .ok (.ifCond .ne 5, 3) := by decide +kernel
theorem dX6_hit_22 : decode cX6_hit 22 = .ok (.iconst (-1), 1) := by decide +kernel
theorem dX6_hit_23 : decode cX6_hit 23 = .ok (.ireturn, 1) := by decide +kernel
theorem dX6_hit_24 : decode cX6_hit 24 = .ok (.aload_n 0, 1) := by decide +kernel
theorem dX6_hit_25 : decode cX6_hit 25 = .ok (.getfield 19, 3) := by decide +kernel
theorem dX6_hit_28 : decode cX6_hit 28 = .ok (.aload_n 0, 1) := by decide +kernel
theorem dX6_hit_29 : decode cX6_hit 29 = .ok (.getfield 82, 3) := by decide +kernel
theorem dX6_hit_32 : decode cX6_hit 32 = .ok (.iload_n 1, 1) := by decide +kernel
theorem dX6_hit_33 : decode cX6_hit 33 = .ok (.invokevirtual 95, 3) := by decide +kernel
theorem dX6_hit_36 : decode cX6_hit 36 = .ok (.istore_n 3, 1) := by decide +kernel
theorem dX6_hit_37 : decode cX6_hit 37 = .ok (.iload_n 3, 1) := by decide +kernel
theorem dX6_hit_38 : decode cX6_hit 38 = .ok (.iload_n 2, 1) := by decide +kernel
theorem dX6_hit_39 : decode cX6_hit 39 = .ok (.if_icmp .ne 6, 3) := by decide +kernel
theorem dX6_hit_42 : decode cX6_hit 42 = .ok (.bipush (-2), 2) := by decide +kernel
theorem dX6_hit_44 : decode cX6_hit 44 = .ok (.ireturn, 1) := by decide +kernel
theorem dX6_hit_45 : decode cX6_hit 45 = .ok (.aload_n 0, 1) := by decide +kernel
theorem dX6_hit_46 : decode cX6_hit 46 = .ok (.aload_n 0, 1) := by decide +kernel
theorem dX6_hit_47 : decode cX6_hit 47 = .ok (.getfield 19, 3) := by decide +kernel
theorem dX6_hit_50 : decode cX6_hit 50 = .ok (.aload_n 0, 1) := by decide +kernel
theorem dX6_hit_51 : decode cX6_hit 51 = .ok (.getfield 82, 3) := by decide +kernel
theorem dX6_hit_54 : decode cX6_hit 54 = .ok (.iload_n 1, 1) := by decide +kernel
theorem dX6_hit_55 : decode cX6_hit 55 = .ok (.iload_n 2, 1) := by decide +kernel
theorem dX6_hit_56 : decode cX6_hit 56 = .ok (.invokevirtual 102, 3) := by decide +kernel
theorem dX6_hit_59 : decode cX6_hit 59 = .ok (.invokevirtual 106, 3) := by decide +kernel
theorem dX6_hit_62 : decode cX6_hit 62 = .ok (.iload_n 3, 1) := by decide +kernel
theorem dX6_hit_63 : decode cX6_hit 63 = .ok (.ireturn, 1) := by decide +kernel
theorem dX6_code_0 : decode cX6_code 0 = .ok (.aload_n 0, 1) := by decide +kernel
theorem dX6_code_1 : decode cX6_code 1 = .ok (.getfield 82, 3) := by decide +kernel
theorem dX6_code_4 : decode cX6_code 4 = .ok (.ireturn, 1) := by decide +kernel
theorem dX6_turn_0 : decode cX6_turn 0 = .ok (.aload_n 0, 1) := by decide +kernel
theorem dX6_turn_1 : decode cX6_turn 1 = .ok (.getfield 19, 3) := by decide +kernel
theorem dX6_turn_4 : decode cX6_turn 4 = .ok (.iload_n 1, 1) := by decide +kernel
theorem dX6_turn_5 : decode cX6_turn 5 = .ok (.invokevirtual 110, 3) := by decide +kernel
theorem dX6_turn_8 : decode cX6_turn 8 = .ok (.ifCond .ne 5, 3) := by decide +kernel
theorem dX6_turn_11 : decode cX6_turn 11 = .ok (.iconst (-1), 1) := by decide +kernel
theorem dX6_turn_12 : decode cX6_turn 12 = .ok (.ireturn, 1) := by decide +kernel
theorem dX6_turn_13 : decode cX6_turn 13 = .ok (.aload_n 0, 1) := by decide +kernel
theorem dX6_turn_14 : decode cX6_turn 14 = .ok (.getfield 82, 3) := by decide +kernel
theorem dX6_turn_17 : decode cX6_turn 17 = .ok (.istore_n 2, 1) := by decide +kernel
theorem dX6_turn_18 : decode cX6_turn 18 = .ok (.iload_n 2, 1) := by decide +kernel
theorem dX6_turn_19 : decode cX6_turn 19 = .ok (.iload_n 1, 1) := by decide +kernel
theorem dX6_turn_20 : decode cX6_turn 20 = .ok (.if_icmp .ne 6, 3) := by decide +kernel
theorem dX6_turn_23 : decode cX6_turn 23 = .ok (.bipush (-2), 2) := by decide +kernel
theorem dX6_turn_25 : decode cX6_turn 25 = .ok (.ireturn, 1) := by decide +kernel
theorem dX6_turn_26 : decode cX6_turn 26 = .ok (.aload_n 0, 1) := by decide +kernel
theorem dX6_turn_27 : decode cX6_turn 27 = .ok (.iload_n 1, 1) := by decide +kernel
theorem dX6_turn_28 : decode cX6_turn 28 = .ok (.invokevirtual 106, 3) := by decide +kernel
theorem dX6_turn_31 : decode cX6_turn 31 = .ok (.iload_n 2, 1) := by decide +kernel
theorem dX6_turn_32 : decode cX6_turn 32 = .ok (.ireturn, 1) := by decide +kernel
theorem dX6_wired_0 : decode cX6_wired 0 = .ok (.aload_n 0, 1) := by decide +kernel
theorem dX6_wired_1 : decode cX6_wired 1 = .ok (.getfield 19, 3) := by decide +kernel
theorem dX6_wired_4 : decode cX6_wired 4 = .ok (.iload_n 1, 1) := by decide +kernel
theorem dX6_wired_5 : decode cX6_wired 5 = .ok (.invokevirtual 92, 3) := by decide +kernel
theorem dX6_wired_8 : decode cX6_wired 8 = .ok (.ifCond .eq 19, 3) := by decide +kernel
theorem dX6_wired_11 : decode cX6_wired 11 = .ok (.aload_n 0, 1) := by decide +kernel
theorem dX6_wired_12 : decode cX6_wired 12 = .ok (.getfield 19, 3) := by decide +kernel
theorem dX6_wired_15 : decode cX6_wired 15 = .ok (.iload_n 2, 1) := by decide +kernel
theorem dX6_wired_16 : decode cX6_wired 16 = .ok (.invokevirtual 92, 3) := by decide +kernel
theorem dX6_wired_19 : decode cX6_wired 19 = .ok (.ifCond .eq 8, 3) := by decide +kernel
theorem dX6_wired_22 : decode cX6_wired 22 = .ok (.iload_n 1, 1) := by decide +kernel
theorem dX6_wired_23 : decode cX6_wired 23 = .ok (.iload_n 2, 1) := by decide +kernel
theorem dX6_wired_24 : decode cX6_wired 24 = .ok (.if_icmp .ne 5, 3) := by decide +kernel
theorem dX6_wired_27 : decode cX6_wired 27 = .ok (.iconst (-1), 1) := by decide +kernel
theorem dX6_wired_28 : decode cX6_wired 28 = .ok (.ireturn, 1) := by decide +kernel
theorem dX6_wired_29 : decode cX6_wired 29 = .ok (.aload_n 0, 1) := by decide +kernel
theorem dX6_wired_30 : decode cX6_wired 30 = .ok (.getfield 19, 3) := by decide +kernel
theorem dX6_wired_33 : decode cX6_wired 33 = .ok (.iload_n 1, 1) := by decide +kernel
theorem dX6_wired_34 : decode cX6_wired 34 = .ok (.iload_n 2, 1) := by decide +kernel
theorem dX6_wired_35 : decode cX6_wired 35 = .ok (.invokevirtual 113, 3) := by decide +kernel
theorem dX6_wired_38 : decode cX6_wired 38 = .ok (.ifCond .ne 15, 3) := by decide +kernel
theorem dX6_wired_41 : decode cX6_wired 41 = .ok (.aload_n 0, 1) := by decide +kernel
theorem dX6_wired_42 : decode cX6_wired 42 = .ok (.getfield 19, 3) := by decide +kernel
theorem dX6_wired_45 : decode cX6_wired 45 = .ok (.iload_n 2, 1) := by decide +kernel
theorem dX6_wired_46 : decode cX6_wired 46 = .ok (.iload_n 1, 1) := by decide +kernel
theorem dX6_wired_47 : decode cX6_wired 47 = .ok (.invokevirtual 113, 3) := by decide +kernel
theorem dX6_wired_50 : decode cX6_wired 50 = .ok (.ifCond .eq 7, 3) := by decide +kernel
theorem dX6_wired_53 : decode cX6_wired 53 = .ok (.iconst 1, 1) := by decide +kernel
theorem dX6_wired_54 : decode cX6_wired 54 = .ok (.goto 4, 3) := by decide +kernel
theorem dX6_wired_57 : decode cX6_wired 57 = .ok (.iconst 0, 1) := by decide +kernel
theorem dX6_wired_58 : decode cX6_wired 58 = .ok (.ireturn, 1) := by decide +kernel
theorem dX6_may_0 : decode cX6_may 0 = .ok (.aload_n 0, 1) := by decide +kernel
theorem dX6_may_1 : decode cX6_may 1 = .ok (.getfield 19, 3) := by decide +kernel
theorem dX6_may_4 : decode cX6_may 4 = .ok (.iload_n 1, 1) := by decide +kernel
theorem dX6_may_5 : decode cX6_may 5 = .ok (.invokevirtual 92, 3) := by decide +kernel
theorem dX6_may_8 : decode cX6_may 8 = .ok (.ifCond .eq 18, 3) := by decide +kernel
theorem dX6_may_11 : decode cX6_may 11 = .ok (.aload_n 0, 1) := by decide +kernel
theorem dX6_may_12 : decode cX6_may 12 = .ok (.getfield 19, 3) := by decide +kernel
theorem dX6_may_15 : decode cX6_may 15 = .ok (.aload_n 0, 1) := by decide +kernel
theorem dX6_may_16 : decode cX6_may 16 = .ok (.getfield 82, 3) := by decide +kernel
theorem dX6_may_19 : decode cX6_may 19 = .ok (.iload_n 1, 1) := by decide +kernel
theorem dX6_may_20 : decode cX6_may 20 = .ok (.invokevirtual 117, 3) := by decide +kernel
theorem dX6_may_23 : decode cX6_may 23 = .ok (.goto 4, 3) := by decide +kernel
theorem dX6_may_26 : decode cX6_may 26 = .ok (.iconst (-1), 1) := by decide +kernel
theorem dX6_may_27 : decode cX6_may 27 = .ok (.ireturn, 1) := by decide +kernel
theorem dX6_becomes_0 : decode cX6_becomes 0 = .ok (.aload_n 0, 1) := by decide +kernel
theorem dX6_becomes_1 : decode cX6_becomes 1 = .ok (.getfield 19, 3) := by decide +kernel
theorem dX6_becomes_4 : decode cX6_becomes 4 = .ok (.iload_n 1, 1) := by decide +kernel
theorem dX6_becomes_5 : decode cX6_becomes 5 = .ok (.invokevirtual 92, 3) := by decide +kernel
theorem dX6_becomes_8 : decode cX6_becomes 8 = .ok (.ifCond .ne 5, 3) := by decide +kernel
theorem dX6_becomes_11 : decode cX6_becomes 11 = .ok (.iconst (-1), 1) := by decide +kernel
theorem dX6_becomes_12 : decode cX6_becomes 12 = .ok (.ireturn, 1) := by decide +kernel
theorem dX6_becomes_13 : decode cX6_becomes 13 = .ok (.aload_n 0, 1) := by decide +kernel
theorem dX6_becomes_14 : decode cX6_becomes 14 = .ok (.getfield 19, 3) := by decide +kernel
theorem dX6_becomes_17 : decode cX6_becomes 17 = .ok (.aload_n 0, 1) := by decide +kernel
theorem dX6_becomes_18 : decode cX6_becomes 18 = .ok (.getfield 82, 3) := by decide +kernel
theorem dX6_becomes_21 : decode cX6_becomes 21 = .ok (.iload_n 1, 1) := by decide +kernel
theorem dX6_becomes_22 : decode cX6_becomes 22 = .ok (.invokevirtual 117, 3) := by decide +kernel
theorem dX6_becomes_25 : decode cX6_becomes 25 = .ok (.ifCond .ne 8, 3) := by decide +kernel
theorem dX6_becomes_28 : decode cX6_becomes 28 = .ok (.bipush (-4), 2) := by decide +kernel
theorem dX6_becomes_30 : decode cX6_becomes 30 = .ok (.goto 15, 3) := by decide +kernel
theorem dX6_becomes_33 : decode cX6_becomes 33 = .ok (.aload_n 0, 1) := by decide +kernel
theorem dX6_becomes_34 : decode cX6_becomes 34 = .ok (.getfield 19, 3) := by decide +kernel
theorem dX6_becomes_37 : decode cX6_becomes 37 = .ok (.aload_n 0, 1) := by decide +kernel
theorem dX6_becomes_38 : decode cX6_becomes 38 = .ok (.getfield 82, 3) := by decide +kernel
theorem dX6_becomes_41 : decode cX6_becomes 41 = .ok (.iload_n 1, 1) := by decide +kernel
theorem dX6_becomes_42 : decode cX6_becomes 42 = .ok (.invokevirtual 120, 3) := by decide +kernel
theorem dX6_becomes_45 : decode cX6_becomes 45 = .ok (.ireturn, 1) := by decide +kernel
theorem dX6_move_0 : decode cX6_move 0 = .ok (.aload_n 0, 1) := by decide +kernel
theorem dX6_move_1 : decode cX6_move 1 = .ok (.getfield 19, 3) := by decide +kernel
theorem dX6_move_4 : decode cX6_move 4 = .ok (.iload_n 1, 1) := by decide +kernel
theorem dX6_move_5 : decode cX6_move 5 = .ok (.invokevirtual 92, 3) := by decide +kernel
theorem dX6_move_8 : decode cX6_move 8 = .ok (.ifCond .ne 5, 3) := by decide +kernel
theorem dX6_move_11 : decode cX6_move 11 = .ok (.iconst (-1), 1) := by decide +kernel
theorem dX6_move_12 : decode cX6_move 12 = .ok (.ireturn, 1) := by decide +kernel
theorem dX6_move_13 : decode cX6_move 13 = .ok (.aload_n 0, 1) := by decide +kernel
theorem dX6_move_14 : decode cX6_move 14 = .ok (.getfield 19, 3) := by decide +kernel
theorem dX6_move_17 : decode cX6_move 17 = .ok (.aload_n 0, 1) := by decide +kernel
theorem dX6_move_18 : decode cX6_move 18 = .ok (.getfield 82, 3) := by decide +kernel
theorem dX6_move_21 : decode cX6_move 21 = .ok (.iload_n 1, 1) := by decide +kernel
theorem dX6_move_22 : decode cX6_move 22 = .ok (.invokevirtual 117, 3) := by decide +kernel
theorem dX6_move_25 : decode cX6_move 25 = .ok (.ifCond .ne 6, 3) := by decide +kernel
theorem dX6_move_28 : decode cX6_move 28 = .ok (.bipush (-2), 2) := by decide +kernel
theorem dX6_move_30 : decode cX6_move 30 = .ok (.ireturn, 1) := by decide +kernel
theorem dX6_move_31 : decode cX6_move 31 = .ok (.aload_n 0, 1) := by decide +kernel
theorem dX6_move_32 : decode cX6_move 32 = .ok (.getfield 19, 3) := by decide +kernel
theorem dX6_move_35 : decode cX6_move 35 = .ok (.aload_n 0, 1) := by decide +kernel
theorem dX6_move_36 : decode cX6_move 36 = .ok (.getfield 82, 3) := by decide +kernel
theorem dX6_move_39 : decode cX6_move 39 = .ok (.iload_n 1, 1) := by decide +kernel
theorem dX6_move_40 : decode cX6_move 40 = .ok (.invokevirtual 120, 3) := by decide +kernel
theorem dX6_move_43 : decode cX6_move 43 = .ok (.istore_n 2, 1) := by decide +kernel
theorem dX6_move_44 : decode cX6_move 44 = .ok (.aload_n 0, 1) := by decide +kernel
theorem dX6_move_45 : decode cX6_move 45 = .ok (.aload_n 0, 1) := by decide +kernel
theorem dX6_move_46 : decode cX6_move 46 = .ok (.getfield 19, 3) := by decide +kernel
theorem dX6_move_49 : decode cX6_move 49 = .ok (.aload_n 0, 1) := by decide +kernel
theorem dX6_move_50 : decode cX6_move 50 = .ok (.getfield 82, 3) := by decide +kernel
theorem dX6_move_53 : decode cX6_move 53 = .ok (.iload_n 1, 1) := by decide +kernel
theorem dX6_move_54 : decode cX6_move 54 = .ok (.iload_n 2, 1) := by decide +kernel
theorem dX6_move_55 : decode cX6_move 55 = .ok (.invokevirtual 102, 3) := by decide +kernel
theorem dX6_move_58 : decode cX6_move 58 = .ok (.invokevirtual 106, 3) := by decide +kernel
theorem dX6_move_61 : decode cX6_move 61 = .ok (.iload_n 2, 1) := by decide +kernel
theorem dX6_move_62 : decode cX6_move 62 = .ok (.ireturn, 1) := by decide +kernel
theorem dX6_tokens_0 : decode cX6_tokens 0 = .ok (.aload_n 0, 1) := by decide +kernel
theorem dX6_tokens_1 : decode cX6_tokens 1 = .ok (.getfield 19, 3) := by decide +kernel
theorem dX6_tokens_4 : decode cX6_tokens 4 = .ok (.aload_n 0, 1) := by decide +kernel
theorem dX6_tokens_5 : decode cX6_tokens 5 = .ok (.getfield 82, 3) := by decide +kernel
theorem dX6_tokens_8 : decode cX6_tokens 8 = .ok (.invokevirtual 123, 3) := by decide +kernel
theorem dX6_tokens_11 : decode cX6_tokens 11 = .ok (.ireturn, 1) := by decide +kernel
theorem dX6_legal_0 : decode cX6_legal 0 = .ok (.aload_n 0, 1) := by decide +kernel
theorem dX6_legal_1 : decode cX6_legal 1 = .ok (.getfield 19, 3) := by decide +kernel
theorem dX6_legal_4 : decode cX6_legal 4 = .ok (.aload_n 0, 1) := by decide +kernel
theorem dX6_legal_5 : decode cX6_legal 5 = .ok (.getfield 82, 3) := by decide +kernel
theorem dX6_legal_8 : decode cX6_legal 8 = .ok (.invokevirtual 127, 3) := by decide +kernel
theorem dX6_legal_11 : decode cX6_legal 11 = .ok (.ifCond .eq 7, 3) := by decide +kernel
theorem dX6_legal_14 : decode cX6_legal 14 = .ok (.iconst 1, 1) := by decide +kernel
theorem dX6_legal_15 : decode cX6_legal 15 = .ok (.goto 4, 3) := by decide +kernel
theorem dX6_legal_18 : decode cX6_legal 18 = .ok (.iconst 0, 1) := by decide +kernel
theorem dX6_legal_19 : decode cX6_legal 19 = .ok (.ireturn, 1) := by decide +kernel
theorem dX6_mate_0 : decode cX6_mate 0 = .ok (.aload_n 0, 1) := by decide +kernel
theorem dX6_mate_1 : decode cX6_mate 1 = .ok (.getfield 19, 3) := by decide +kernel
theorem dX6_mate_4 : decode cX6_mate 4 = .ok (.iload_n 1, 1) := by decide +kernel
theorem dX6_mate_5 : decode cX6_mate 5 = .ok (.invokevirtual 92, 3) := by decide +kernel
theorem dX6_mate_8 : decode cX6_mate 8 = .ok (.ifCond .ne 5, 3) := by decide +kernel
theorem dX6_mate_11 : decode cX6_mate 11 = .ok (.iconst (-1), 1) := by decide +kernel
theorem dX6_mate_12 : decode cX6_mate 12 = .ok (.ireturn, 1) := by decide +kernel
theorem dX6_mate_13 : decode cX6_mate 13 = .ok (.aload_n 0, 1) := by decide +kernel
theorem dX6_mate_14 : decode cX6_mate 14 = .ok (.getfield 19, 3) := by decide +kernel
theorem dX6_mate_17 : decode cX6_mate 17 = .ok (.getfield 130, 3) := by decide +kernel
theorem dX6_mate_20 : decode cX6_mate 20 = .ok (.iconst 2, 1) := by decide +kernel
theorem dX6_mate_21 : decode cX6_mate 21 = .ok (.if_icmp .ne 16, 3) := by decide +kernel
theorem dX6_mate_24 : decode cX6_mate 24 = .ok (.aload_n 0, 1) := by decide +kernel
theorem dX6_mate_25 : decode cX6_mate 25 = .ok (.getfield 19, 3) := by decide +kernel
theorem dX6_mate_28 : decode cX6_mate 28 = .ok (.aload_n 0, 1) := by decide +kernel
theorem dX6_mate_29 : decode cX6_mate 29 = .ok (.getfield 82, 3) := by decide +kernel
theorem dX6_mate_32 : decode cX6_mate 32 = .ok (.iload_n 1, 1) := by decide +kernel
theorem dX6_mate_33 : decode cX6_mate 33 = .ok (.invokevirtual 133, 3) := by decide +kernel
theorem dX6_mate_36 : decode cX6_mate 36 = .ok (.ireturn, 1) := by decide +kernel
theorem dX6_mate_37 : decode cX6_mate 37 = .ok (.aload_n 0, 1) := by decide +kernel
theorem dX6_mate_38 : decode cX6_mate 38 = .ok (.getfield 19, 3) := by decide +kernel
theorem dX6_mate_41 : decode cX6_mate 41 = .ok (.getfield 130, 3) := by decide +kernel
theorem dX6_mate_44 : decode cX6_mate 44 = .ok (.iconst 3, 1) := by decide +kernel
theorem dX6_mate_45 : decode cX6_mate 45 = .ok (.if_icmp .ne 18, 3) := by decide +kernel
theorem dX6_mate_48 : decode cX6_mate 48 = .ok (.aload_n 0, 1) := by decide +kernel
theorem dX6_mate_49 : decode cX6_mate 49 = .ok (.getfield 19, 3) := by decide +kernel
theorem dX6_mate_52 : decode cX6_mate 52 = .ok (.aload_n 0, 1) := by decide +kernel
theorem dX6_mate_53 : decode cX6_mate 53 = .ok (.getfield 82, 3) := by decide +kernel
theorem dX6_mate_56 : decode cX6_mate 56 = .ok (.iload_n 1, 1) := by decide +kernel
theorem dX6_mate_57 : decode cX6_mate 57 = .ok (.invokevirtual 136, 3) := by decide +kernel
theorem dX6_mate_60 : decode cX6_mate 60 = .ok (.goto 5, 3) := by decide +kernel
theorem dX6_mate_63 : decode cX6_mate 63 = .ok (.bipush (-2), 2) := by decide +kernel
theorem dX6_mate_65 : decode cX6_mate 65 = .ok (.ireturn, 1) := by decide +kernel
theorem dX6_undo_0 : decode cX6_undo 0 = .ok (.aload_n 0, 1) := by decide +kernel
theorem dX6_undo_1 : decode cX6_undo 1 = .ok (.getfield 36, 3) := by decide +kernel
theorem dX6_undo_4 : decode cX6_undo 4 = .ok (.invokevirtual 139, 3) := by decide +kernel
theorem dX6_undo_7 : decode cX6_undo 7 = .ok (.ifCond .ne 6, 3) := by decide +kernel
theorem dX6_undo_10 : decode cX6_undo 10 = .ok (.bipush (-2), 2) := by decide +kernel
theorem dX6_undo_12 : decode cX6_undo 12 = .ok (.ireturn, 1) := by decide +kernel
theorem dX6_undo_13 : decode cX6_undo 13 = .ok (.aload_n 0, 1) := by decide +kernel
theorem dX6_undo_14 : decode cX6_undo 14 = .ok (.aload_n 0, 1) := by decide +kernel
theorem dX6_undo_15 : decode cX6_undo 15 = .ok (.getfield 36, 3) := by decide +kernel
theorem dX6_undo_18 : decode cX6_undo 18 = .ok (.invokevirtual 142, 3) := by decide +kernel
theorem dX6_undo_21 : decode cX6_undo 21 = .ok (.putfield 82, 3) := by decide +kernel
theorem dX6_undo_24 : decode cX6_undo 24 = .ok (.aload_n 0, 1) := by decide +kernel
theorem dX6_undo_25 : decode cX6_undo 25 = .ok (.aload_n 0, 1) := by decide +kernel
theorem dX6_undo_26 : decode cX6_undo 26 = .ok (.getfield 36, 3) := by decide +kernel
theorem dX6_undo_29 : decode cX6_undo 29 = .ok (.invokevirtual 145, 3) := by decide +kernel
theorem dX6_undo_32 : decode cX6_undo 32 = .ok (.putfield 85, 3) := by decide +kernel
theorem dX6_undo_35 : decode cX6_undo 35 = .ok (.aload_n 0, 1) := by decide +kernel
theorem dX6_undo_36 : decode cX6_undo 36 = .ok (.getfield 36, 3) := by decide +kernel
theorem dX6_undo_39 : decode cX6_undo 39 = .ok (.invokevirtual 148, 3) := by decide +kernel
theorem dX6_undo_42 : decode cX6_undo 42 = .ok (.aload_n 0, 1) := by decide +kernel
theorem dX6_undo_43 : decode cX6_undo 43 = .ok (.getfield 36, 3) := by decide +kernel
theorem dX6_undo_46 : decode cX6_undo 46 = .ok (.invokevirtual 139, 3) := by decide +kernel
theorem dX6_undo_49 : decode cX6_undo 49 = .ok (.ireturn, 1) := by decide +kernel
theorem dX6_change_0 : decode cX6_change 0 = .ok (.aload_n 0, 1) := by decide +kernel
theorem dX6_change_1 : decode cX6_change 1 = .ok (.getfield 36, 3) := by decide +kernel
theorem dX6_change_4 : decode cX6_change 4 = .ok (.aload_n 0, 1) := by decide +kernel
theorem dX6_change_5 : decode cX6_change 5 = .ok (.getfield 82, 3) := by decide +kernel
theorem dX6_change_8 : decode cX6_change 8 = .ok (.aload_n 0, 1) := by decide +kernel
theorem dX6_change_9 : decode cX6_change 9 = .ok (.getfield 85, 3) := by decide +kernel
theorem dX6_change_12 : decode cX6_change 12 = .ok (.invokevirtual 151, 3) := by decide +kernel
theorem dX6_change_15 : decode cX6_change 15 = .ok (.aload_n 0, 1) := by decide +kernel
theorem dX6_change_16 : decode cX6_change 16 = .ok (.iload_n 1, 1) := by decide +kernel
theorem dX6_change_17 : decode cX6_change 17 = .ok (.putfield 82, 3) := by decide +kernel
theorem dX6_change_20 : decode cX6_change 20 = .ok (.return_, 1) := by decide +kernel
theorem dX6_run_0 : decode cX6_run 0 = .ok (.iload_n 1, 1) := by decide +kernel
theorem dX6_run_1 : decode cX6_run 1 = .ok (.ifCond .lt 31, 3) := by decide +kernel
theorem dX6_run_4 : decode cX6_run 4 = .ok (.iload_n 1, 1) := by decide +kernel
theorem dX6_run_5 : decode cX6_run 5 = .ok (.iconst 4, 1) := by decide +kernel
theorem dX6_run_6 : decode cX6_run 6 = .ok (.if_icmp .gt 26, 3) := by decide +kernel
theorem dX6_run_9 : decode cX6_run 9 = .ok (.iload_n 2, 1) := by decide +kernel
theorem dX6_run_10 : decode cX6_run 10 = .ok (.ifCond .lt 22, 3) := by decide +kernel
theorem dX6_run_13 : decode cX6_run 13 = .ok (.iload_n 2, 1) := by decide +kernel
theorem dX6_run_14 : decode cX6_run 14 = .ok (.sipush 9999, 3) := by decide +kernel
theorem dX6_run_17 : decode cX6_run 17 = .ok (.if_icmp .gt 15, 3) := by decide +kernel
theorem dX6_run_20 : decode cX6_run 20 = .ok (.iload_n 3, 1) := by decide +kernel
theorem dX6_run_21 : decode cX6_run 21 = .ok (.iconst 1, 1) := by decide +kernel
theorem dX6_run_22 : decode cX6_run 22 = .ok (.if_icmp .lt 10, 3) := by decide +kernel
theorem dX6_run_25 : decode cX6_run 25 = .ok (.iload_n 3, 1) := by decide +kernel
theorem dX6_run_26 : decode cX6_run 26 = .ok (.sipush 300, 3) := by decide +kernel
theorem dX6_run_29 : decode cX6_run 29 = .ok (.if_icmp .le 5, 3) := by decide +kernel
theorem dX6_run_32 : decode cX6_run 32 = .ok (.iconst (-1), 1) := by decide +kernel
theorem dX6_run_33 : decode cX6_run 33 = .ok (.ireturn, 1) := by decide +kernel
theorem dX6_run_34 : decode cX6_run 34 = .ok (.iload_n 1, 1) := by decide +kernel
theorem dX6_run_35 : decode cX6_run 35 = .ok (.iconst 4, 1) := by decide +kernel
theorem dX6_run_36 : decode cX6_run 36 = .ok (.if_icmp .ne 14, 3) := by decide +kernel
theorem dX6_run_39 : decode cX6_run 39 = .ok (.aload_n 0, 1) := by decide +kernel
theorem dX6_run_40 : decode cX6_run 40 = .ok (.getfield 29, 3) := by decide +kernel
theorem dX6_run_43 : decode cX6_run 43 = .ok (.aload_n 0, 1) := by decide +kernel
theorem dX6_run_44 : decode cX6_run 44 = .ok (.getfield 19, 3) := by decide +kernel
theorem dX6_run_47 : decode cX6_run 47 = .ok (.invokevirtual 155, 3) := by decide +kernel
theorem dX6_run_50 : decode cX6_run 50 = .ok (.aload_n 0, 1) := by decide +kernel
theorem dX6_run_51 : decode cX6_run 51 = .ok (.getfield 82, 3) := by decide +kernel
theorem dX6_run_54 : decode cX6_run 54 = .ok (.istore 4, 2) := by decide +kernel
theorem dX6_run_56 : decode cX6_run 56 = .ok (.aload_n 0, 1) := by decide +kernel
theorem dX6_run_57 : decode cX6_run 57 = .ok (.getfield 85, 3) := by decide +kernel
theorem dX6_run_60 : decode cX6_run 60 = .ok (.istore 5, 2) := by decide +kernel
theorem dX6_run_62 : decode cX6_run 62 = .ok (.iconst 0, 1) := by decide +kernel
theorem dX6_run_63 : decode cX6_run 63 = .ok (.istore 6, 2) := by decide +kernel
theorem dX6_run_65 : decode cX6_run 65 = .ok (.iconst 0, 1) := by decide +kernel
theorem dX6_run_66 : decode cX6_run 66 = .ok (.istore 7, 2) := by decide +kernel
theorem dX6_run_68 : decode cX6_run 68 = .ok (.iload 7, 2) := by decide +kernel
theorem dX6_run_70 : decode cX6_run 70 = .ok (.iload_n 3, 1) := by decide +kernel
theorem dX6_run_71 : decode cX6_run 71 = .ok (.if_icmp .ge 76, 3) := by decide +kernel
theorem dX6_run_74 : decode cX6_run 74 = .ok (.aload_n 0, 1) := by decide +kernel
theorem dX6_run_75 : decode cX6_run 75 = .ok (.getfield 19, 3) := by decide +kernel
theorem dX6_run_78 : decode cX6_run 78 = .ok (.iload 4, 2) := by decide +kernel
theorem dX6_run_80 : decode cX6_run 80 = .ok (.invokevirtual 127, 3) := by decide +kernel
theorem dX6_run_83 : decode cX6_run 83 = .ok (.ifCond .ne 64, 3) := by decide +kernel
theorem dX6_run_86 : decode cX6_run 86 = .ok (.aload_n 0, 1) := by decide +kernel
theorem dX6_run_87 : decode cX6_run 87 = .ok (.getfield 19, 3) := by decide +kernel
theorem dX6_run_90 : decode cX6_run 90 = .ok (.iload 4, 2) := by decide +kernel
theorem dX6_run_92 : decode cX6_run 92 = .ok (.invokevirtual 123, 3) := by decide +kernel
theorem dX6_run_95 : decode cX6_run 95 = .ok (.ifCond .eq 52, 3) := by decide +kernel
theorem dX6_run_98 : decode cX6_run 98 = .ok (.aload_n 0, 1) := by decide +kernel
theorem dX6_run_99 : decode cX6_run 99 = .ok (.iload_n 1, 1) := by decide +kernel
theorem dX6_run_100 : decode cX6_run 100 = .ok (.iload 4, 2) := by decide +kernel
theorem dX6_run_102 : decode cX6_run 102 = .ok (.iload 5, 2) := by decide +kernel
theorem dX6_run_104 : decode cX6_run 104 = .ok (.iload_n 2, 1) := by decide +kernel
theorem dX6_run_105 : decode cX6_run 105 = .ok (.iload 7, 2) := by decide +kernel
theorem dX6_run_107 : decode cX6_run 107 = .ok (.invokestatic 158, 3) := by decide +kernel
theorem dX6_run_110 : decode cX6_run 110 = .ok (.invokevirtual 161, 3) := by decide +kernel
theorem dX6_run_113 : decode cX6_run 113 = .ok (.istore 8, 2) := by decide +kernel
theorem dX6_run_115 : decode cX6_run 115 = .ok (.iload_n 1, 1) := by decide +kernel
theorem dX6_run_116 : decode cX6_run 116 = .ok (.iload 5, 2) := by decide +kernel
theorem dX6_run_118 : decode cX6_run 118 = .ok (.iload 8, 2) := by decide +kernel
theorem dX6_run_120 : decode cX6_run 120 = .ok (.invokestatic 165, 3) := by decide +kernel
theorem dX6_run_123 : decode cX6_run 123 = .ok (.istore 5, 2) := by decide +kernel
theorem dX6_run_125 : decode cX6_run 125 = .ok (.aload_n 0, 1) := by decide +kernel
theorem dX6_run_126 : decode cX6_run 126 = .ok (.getfield 19, 3) := by decide +kernel
theorem dX6_run_129 : decode cX6_run 129 = .ok (.iload 4, 2) := by decide +kernel
theorem dX6_run_131 : decode cX6_run 131 = .ok (.iload 8, 2) := by decide +kernel
theorem dX6_run_133 : decode cX6_run 133 = .ok (.invokevirtual 168, 3) := by decide +kernel
theorem dX6_run_136 : decode cX6_run 136 = .ok (.istore 4, 2) := by decide +kernel
theorem dX6_run_138 : decode cX6_run 138 = .ok (.iinc 6 1, 3) := by decide +kernel
theorem dX6_run_141 : decode cX6_run 141 = .ok (.iinc 7 1, 3) := by decide +kernel
theorem dX6_run_144 : decode cX6_run 144 = .ok (.goto (-76), 3) := by decide +kernel
theorem dX6_run_147 : decode cX6_run 147 = .ok (.iload 6, 2) := by decide +kernel
theorem dX6_run_149 : decode cX6_run 149 = .ok (.ifCond .le 15, 3) := by decide +kernel
theorem dX6_run_152 : decode cX6_run 152 = .ok (.aload_n 0, 1) := by decide +kernel
theorem dX6_run_153 : decode cX6_run 153 = .ok (.iload 4, 2) := by decide +kernel
theorem dX6_run_155 : decode cX6_run 155 = .ok (.invokevirtual 106, 3) := by decide +kernel
theorem dX6_run_158 : decode cX6_run 158 = .ok (.aload_n 0, 1) := by decide +kernel
theorem dX6_run_159 : decode cX6_run 159 = .ok (.iload 5, 2) := by decide +kernel
theorem dX6_run_161 : decode cX6_run 161 = .ok (.putfield 85, 3) := by decide +kernel
theorem dX6_run_164 : decode cX6_run 164 = .ok (.iload 6, 2) := by decide +kernel
theorem dX6_run_166 : decode cX6_run 166 = .ok (.ireturn, 1) := by decide +kernel
theorem dX6_next_0 : decode cX6_next 0 = .ok (.iload_n 1, 1) := by decide +kernel
theorem dX6_next_1 : decode cX6_next 1 = .ok (.ifCond .lt 13, 3) := by decide +kernel
theorem dX6_next_4 : decode cX6_next 4 = .ok (.iload_n 1, 1) := by decide +kernel
theorem dX6_next_5 : decode cX6_next 5 = .ok (.iconst 4, 1) := by decide +kernel
theorem dX6_next_6 : decode cX6_next 6 = .ok (.if_icmp .gt 8, 3) := by decide +kernel
theorem dX6_next_9 : decode cX6_next 9 = .ok (.iload_n 1, 1) := by decide +kernel
theorem dX6_next_10 : decode cX6_next 10 = .ok (.iconst 3, 1) := by decide +kernel
theorem dX6_next_11 : decode cX6_next 11 = .ok (.if_icmp .ne 5, 3) := by decide +kernel
theorem dX6_next_14 : decode cX6_next 14 = .ok (.iconst (-1), 1) := by decide +kernel
theorem dX6_next_15 : decode cX6_next 15 = .ok (.ireturn, 1) := by decide +kernel
theorem dX6_next_16 : decode cX6_next 16 = .ok (.iload_n 1, 1) := by decide +kernel
theorem dX6_next_17 : decode cX6_next 17 = .ok (.iconst 4, 1) := by decide +kernel
theorem dX6_next_18 : decode cX6_next 18 = .ok (.if_icmp .ne 14, 3) := by decide +kernel
theorem dX6_next_21 : decode cX6_next 21 = .ok (.aload_n 0, 1) := by decide +kernel
theorem dX6_next_22 : decode cX6_next 22 = .ok (.getfield 29, 3) := by decide +kernel
theorem dX6_next_25 : decode cX6_next 25 = .ok (.aload_n 0, 1) := by decide +kernel
theorem dX6_next_26 : decode cX6_next 26 = .ok (.getfield 19, 3) := by decide +kernel
theorem dX6_next_29 : decode cX6_next 29 = .ok (.invokevirtual 155, 3) := by decide +kernel
theorem dX6_next_32 : decode cX6_next 32 = .ok (.aload_n 0, 1) := by decide +kernel
theorem dX6_next_33 : decode cX6_next 33 = .ok (.iload_n 1, 1) := by decide +kernel
theorem dX6_next_34 : decode cX6_next 34 = .ok (.aload_n 0, 1) := by decide +kernel
theorem dX6_next_35 : decode cX6_next 35 = .ok (.getfield 82, 3) := by decide +kernel
theorem dX6_next_38 : decode cX6_next 38 = .ok (.aload_n 0, 1) := by decide +kernel
theorem dX6_next_39 : decode cX6_next 39 = .ok (.getfield 85, 3) := by decide +kernel
theorem dX6_next_42 : decode cX6_next 42 = .ok (.iconst 0, 1) := by decide +kernel
theorem dX6_next_43 : decode cX6_next 43 = .ok (.invokevirtual 161, 3) := by decide +kernel
theorem dX6_next_46 : decode cX6_next 46 = .ok (.ireturn, 1) := by decide +kernel
theorem dX6_loop_0 : decode cX6_loop 0 = .ok (.iload_n 1, 1) := by decide +kernel
theorem dX6_loop_1 : decode cX6_loop 1 = .ok (.ifCond .eq 13, 3) := by decide +kernel
theorem dX6_loop_4 : decode cX6_loop 4 = .ok (.iload_n 1, 1) := by decide +kernel
theorem dX6_loop_5 : decode cX6_loop 5 = .ok (.iconst 2, 1) := by decide +kernel
theorem dX6_loop_6 : decode cX6_loop 6 = .ok (.if_icmp .eq 8, 3) := by decide +kernel
theorem dX6_loop_9 : decode cX6_loop 9 = .ok (.iload_n 1, 1) := by decide +kernel
theorem dX6_loop_10 : decode cX6_loop 10 = .ok (.iconst 4, 1) := by decide +kernel
theorem dX6_loop_11 : decode cX6_loop 11 = .ok (.if_icmp .ne 12, 3) := by decide +kernel
theorem dX6_loop_14 : decode cX6_loop 14 = .ok (.iload_n 2, 1) := by decide +kernel
theorem dX6_loop_15 : decode cX6_loop 15 = .ok (.ifCond .lt 8, 3) := by decide +kernel
theorem dX6_loop_18 : decode cX6_loop 18 = .ok (.iload_n 2, 1) := by decide +kernel
theorem dX6_loop_19 : decode cX6_loop 19 = .ok (.iconst 1, 1) := by decide +kernel
theorem dX6_loop_20 : decode cX6_loop 20 = .ok (.if_icmp .le 5, 3) := by decide +kernel
theorem dX6_loop_23 : decode cX6_loop 23 = .ok (.iconst (-1), 1) := by decide +kernel
theorem dX6_loop_24 : decode cX6_loop 24 = .ok (.ireturn, 1) := by decide +kernel
theorem dX6_loop_25 : decode cX6_loop 25 = .ok (.iload_n 1, 1) := by decide +kernel
theorem dX6_loop_26 : decode cX6_loop 26 = .ok (.iconst 4, 1) := by decide +kernel
theorem dX6_loop_27 : decode cX6_loop 27 = .ok (.if_icmp .ne 14, 3) := by decide +kernel
theorem dX6_loop_30 : decode cX6_loop 30 = .ok (.aload_n 0, 1) := by decide +kernel
theorem dX6_loop_31 : decode cX6_loop 31 = .ok (.getfield 29, 3) := by decide +kernel
theorem dX6_loop_34 : decode cX6_loop 34 = .ok (.aload_n 0, 1) := by decide +kernel
theorem dX6_loop_35 : decode cX6_loop 35 = .ok (.getfield 19, 3) := by decide +kernel
theorem dX6_loop_38 : decode cX6_loop 38 = .ok (.invokevirtual 155, 3) := by decide +kernel
theorem dX6_loop_41 : decode cX6_loop 41 = .ok (.aload_n 0, 1) := by decide +kernel
theorem dX6_loop_42 : decode cX6_loop 42 = .ok (.getfield 29, 3) := by decide +kernel
theorem dX6_loop_45 : decode cX6_loop 45 = .ok (.invokevirtual 171, 3) := by decide +kernel
theorem dX6_loop_48 : decode cX6_loop 48 = .ok (.astore_n 3, 1) := by decide +kernel
theorem dX6_loop_49 : decode cX6_loop 49 = .ok (.aload_n 0, 1) := by decide +kernel
theorem dX6_loop_50 : decode cX6_loop 50 = .ok (.getfield 82, 3) := by decide +kernel
theorem dX6_loop_53 : decode cX6_loop 53 = .ok (.istore 4, 2) := by decide +kernel
theorem dX6_loop_55 : decode cX6_loop 55 = .ok (.iconst 0, 1) := by decide +kernel
theorem dX6_loop_56 : decode cX6_loop 56 = .ok (.istore 5, 2) := by decide +kernel
theorem dX6_loop_58 : decode cX6_loop 58 = .ok (.iload 5, 2) := by decide +kernel
theorem dX6_loop_60 : decode cX6_loop 60 = .ok (.aload_n 0, 1) := by decide +kernel
theorem dX6_loop_61 : decode cX6_loop 61 = .ok (.getfield 19, 3) := by decide +kernel
theorem dX6_loop_64 : decode cX6_loop 64 = .ok (.getfield 71, 3) := by decide +kernel
theorem dX6_loop_67 : decode cX6_loop 67 = .ok (.if_icmp .gt 66, 3) := by decide +kernel
theorem dX6_loop_70 : decode cX6_loop 70 = .ok (.aload_n 3, 1) := by decide +kernel
theorem dX6_loop_71 : decode cX6_loop 71 = .ok (.iload 4, 2) := by decide +kernel
theorem dX6_loop_73 : decode cX6_loop 73 = .ok (.invokestatic 175, 3) := by decide +kernel
theorem dX6_loop_76 : decode cX6_loop 76 = .ok (.istore 6, 2) := by decide +kernel
theorem dX6_loop_78 : decode cX6_loop 78 = .ok (.iload 6, 2) := by decide +kernel
theorem dX6_loop_80 : decode cX6_loop 80 = .ok (.ifCond .lt 18, 3) := by decide +kernel
theorem dX6_loop_83 : decode cX6_loop 83 = .ok (.iload_n 2, 1) := by decide +kernel
theorem dX6_loop_84 : decode cX6_loop 84 = .ok (.ifCond .ne 8, 3) := by decide +kernel
theorem dX6_loop_87 : decode cX6_loop 87 = .ok (.iload 6, 2) := by decide +kernel
theorem dX6_loop_89 : decode cX6_loop 89 = .ok (.goto 8, 3) := by decide +kernel
theorem dX6_loop_92 : decode cX6_loop 92 = .ok (.iload 5, 2) := by decide +kernel
theorem dX6_loop_94 : decode cX6_loop 94 = .ok (.iload 6, 2) := by decide +kernel
theorem dX6_loop_96 : decode cX6_loop 96 = .ok (.isub, 1) := by decide +kernel
theorem dX6_loop_97 : decode cX6_loop 97 = .ok (.ireturn, 1) := by decide +kernel
theorem dX6_loop_98 : decode cX6_loop 98 = .ok (.aload_n 3, 1) := by decide +kernel
theorem dX6_loop_99 : decode cX6_loop 99 = .ok (.iload 4, 2) := by decide +kernel
theorem dX6_loop_101 : decode cX6_loop 101 = .ok (.iload 5, 2) := by decide +kernel
theorem dX6_loop_103 : decode cX6_loop 103 = .ok (.invokestatic 181, 3) := by decide +kernel
theorem dX6_loop_106 : decode cX6_loop 106 = .ok (.aload_n 0, 1) := by decide +kernel
theorem dX6_loop_107 : decode cX6_loop 107 = .ok (.getfield 19, 3) := by decide +kernel
theorem dX6_loop_110 : decode cX6_loop 110 = .ok (.iload 4, 2) := by decide +kernel
theorem dX6_loop_112 : decode cX6_loop 112 = .ok (.aload_n 0, 1) := by decide +kernel
theorem dX6_loop_113 : decode cX6_loop 113 = .ok (.iload_n 1, 1) := by decide +kernel
theorem dX6_loop_114 : decode cX6_loop 114 = .ok (.iload 4, 2) := by decide +kernel
theorem dX6_loop_116 : decode cX6_loop 116 = .ok (.bipush (-4), 2) := by decide +kernel
theorem dX6_loop_118 : decode cX6_loop 118 = .ok (.iconst 0, 1) := by decide +kernel
theorem dX6_loop_119 : decode cX6_loop 119 = .ok (.invokevirtual 161, 3) := by decide +kernel
theorem dX6_loop_122 : decode cX6_loop 122 = .ok (.invokevirtual 168, 3) := by decide +kernel
theorem dX6_loop_125 : decode cX6_loop 125 = .ok (.istore 4, 2) := by decide +kernel
theorem dX6_loop_127 : decode cX6_loop 127 = .ok (.iinc 5 1, 3) := by decide +kernel
theorem dX6_loop_130 : decode cX6_loop 130 = .ok (.goto (-72), 3) := by decide +kernel
theorem dX6_loop_133 : decode cX6_loop 133 = .ok (.iconst (-1), 1) := by decide +kernel
theorem dX6_loop_134 : decode cX6_loop 134 = .ok (.ireturn, 1) := by decide +kernel
theorem dX6_storm_0 : decode cX6_storm 0 = .ok (.iload_n 1, 1) := by decide +kernel
theorem dX6_storm_1 : decode cX6_storm 1 = .ok (.ifCond .lt 42, 3) := by decide +kernel
theorem dX6_storm_4 : decode cX6_storm 4 = .ok (.iload_n 1, 1) := by decide +kernel
theorem dX6_storm_5 : decode cX6_storm 5 = .ok (.iconst 2, 1) := by decide +kernel
theorem dX6_storm_6 : decode cX6_storm 6 = .ok (.if_icmp .gt 37, 3) := by decide +kernel
theorem dX6_storm_9 : decode cX6_storm 9 = .ok (.iload_n 2, 1) := by decide +kernel
theorem dX6_storm_10 : decode cX6_storm 10 = .ok (.ifCond .lt 33, 3) := by decide +kernel
theorem dX6_storm_13 : decode cX6_storm 13 = .ok (.iload_n 2, 1) := by decide +kernel
theorem dX6_storm_14 : decode cX6_storm 14 = .ok (.sipush 9999, 3) := by decide +kernel
theorem dX6_storm_17 : decode cX6_storm 17 = .ok (.if_icmp .gt 26, 3) := by decide +kernel
theorem dX6_storm_20 : decode cX6_storm 20 = .ok (.iload_n 3, 1) := by decide +kernel
theorem dX6_storm_21 : decode cX6_storm 21 = .ok (.iconst 1, 1) := by decide +kernel
theorem dX6_storm_22 : decode cX6_storm 22 = .ok (.if_icmp .lt 21, 3) := by decide +kernel
theorem dX6_storm_25 : decode cX6_storm 25 = .ok (.iload_n 3, 1) := by decide +kernel
theorem dX6_storm_26 : decode cX6_storm 26 = .ok (.sipush 200, 3) := by decide +kernel
theorem dX6_storm_29 : decode cX6_storm 29 = .ok (.if_icmp .gt 14, 3) := by decide +kernel
theorem dX6_storm_32 : decode cX6_storm 32 = .ok (.iload 4, 2) := by decide +kernel
theorem dX6_storm_34 : decode cX6_storm 34 = .ok (.ifCond .lt 9, 3) := by decide +kernel
theorem dX6_storm_37 : decode cX6_storm 37 = .ok (.iload 4, 2) := by decide +kernel
theorem dX6_storm_39 : decode cX6_storm 39 = .ok (.iconst 2, 1) := by decide +kernel
theorem dX6_storm_40 : decode cX6_storm 40 = .ok (.if_icmp .le 5, 3) := by decide +kernel
theorem dX6_storm_43 : decode cX6_storm 43 = .ok (.iconst (-1), 1) := by decide +kernel
theorem dX6_storm_44 : decode cX6_storm 44 = .ok (.ireturn, 1) := by decide +kernel
theorem dX6_storm_45 : decode cX6_storm 45 = .ok (.aload_n 0, 1) := by decide +kernel
theorem dX6_storm_46 : decode cX6_storm 46 = .ok (.getfield 82, 3) := by decide +kernel
theorem dX6_storm_49 : decode cX6_storm 49 = .ok (.istore 5, 2) := by decide +kernel
theorem dX6_storm_51 : decode cX6_storm 51 = .ok (.aload_n 0, 1) := by decide +kernel
theorem dX6_storm_52 : decode cX6_storm 52 = .ok (.getfield 85, 3) := by decide +kernel
theorem dX6_storm_55 : decode cX6_storm 55 = .ok (.istore 6, 2) := by decide +kernel
theorem dX6_storm_57 : decode cX6_storm 57 = .ok (.iconst 0, 1) := by decide +kernel
theorem dX6_storm_58 : decode cX6_storm 58 = .ok (.istore 7, 2) := by decide +kernel
theorem dX6_storm_60 : decode cX6_storm 60 = .ok (.iconst 0, 1) := by decide +kernel
theorem dX6_storm_61 : decode cX6_storm 61 = .ok (.istore 8, 2) := by decide +kernel
theorem dX6_storm_63 : decode cX6_storm 63 = .ok (.iconst 0, 1) := by decide +kernel
theorem dX6_storm_64 : decode cX6_storm 64 = .ok (.istore 9, 2) := by decide +kernel
theorem dX6_storm_66 : decode cX6_storm 66 = .ok (.iconst 0, 1) := by decide +kernel
theorem dX6_storm_67 : decode cX6_storm 67 = .ok (.istore 10, 2) := by decide +kernel
theorem dX6_storm_69 : decode cX6_storm 69 = .ok (.iload 10, 2) := by decide +kernel
theorem dX6_storm_71 : decode cX6_storm 71 = .ok (.iload_n 3, 1) := by decide +kernel
theorem dX6_storm_72 : decode cX6_storm 72 = .ok (.if_icmp .ge 127, 3) := by decide +kernel
theorem dX6_storm_75 : decode cX6_storm 75 = .ok (.iload_n 2, 1) := by decide +kernel
theorem dX6_storm_76 : decode cX6_storm 76 = .ok (.iload 10, 2) := by decide +kernel
theorem dX6_storm_78 : decode cX6_storm 78 = .ok (.invokestatic 158, 3) := by decide +kernel
theorem dX6_storm_81 : decode cX6_storm 81 = .ok (.istore 11, 2) := by decide +kernel
theorem dX6_storm_83 : decode cX6_storm 83 = .ok (.iload 11, 2) := by decide +kernel
theorem dX6_storm_85 : decode cX6_storm 85 = .ok (.bipush 8, 2) := by decide +kernel
theorem dX6_storm_87 : decode cX6_storm 87 = .ok (.irem, 1) := by decide +kernel
theorem dX6_storm_88 : decode cX6_storm 88 = .ok (.ifCond .ne 19, 3) := by decide +kernel
theorem dX6_storm_91 : decode cX6_storm 91 = .ok (.aload_n 0, 1) := by decide +kernel
theorem dX6_storm_92 : decode cX6_storm 92 = .ok (.getfield 19, 3) := by decide +kernel
theorem dX6_storm_95 : decode cX6_storm 95 = .ok (.iload 5, 2) := by decide +kernel
theorem dX6_storm_97 : decode cX6_storm 97 = .ok (.iload 11, 2) := by decide +kernel
theorem dX6_storm_99 : decode cX6_storm 99 = .ok (.invokevirtual 185, 3) := by decide +kernel
theorem dX6_storm_102 : decode cX6_storm 102 = .ok (.istore 5, 2) := by decide +kernel
theorem dX6_storm_104 : decode cX6_storm 104 = .ok (.goto 39, 3) := by decide +kernel
theorem dX6_storm_107 : decode cX6_storm 107 = .ok (.aload_n 0, 1) := by decide +kernel
theorem dX6_storm_108 : decode cX6_storm 108 = .ok (.iload_n 1, 1) := by decide +kernel
theorem dX6_storm_109 : decode cX6_storm 109 = .ok (.iload 5, 2) := by decide +kernel
theorem dX6_storm_111 : decode cX6_storm 111 = .ok (.iload 6, 2) := by decide +kernel
theorem dX6_storm_113 : decode cX6_storm 113 = .ok (.iload 11, 2) := by decide +kernel
theorem dX6_storm_115 : decode cX6_storm 115 = .ok (.invokevirtual 161, 3) := by decide +kernel
theorem dX6_storm_118 : decode cX6_storm 118 = .ok (.istore 12, 2) := by decide +kernel
theorem dX6_storm_120 : decode cX6_storm 120 = .ok (.iload_n 1, 1) := by decide +kernel
theorem dX6_storm_121 : decode cX6_storm 121 = .ok (.iload 6, 2) := by decide +kernel
theorem dX6_storm_123 : decode cX6_storm 123 = .ok (.iload 12, 2) := by decide +kernel
theorem dX6_storm_125 : decode cX6_storm 125 = .ok (.invokestatic 165, 3) := by decide +kernel
theorem dX6_storm_128 : decode cX6_storm 128 = .ok (.istore 6, 2) := by decide +kernel
theorem dX6_storm_130 : decode cX6_storm 130 = .ok (.aload_n 0, 1) := by decide +kernel
theorem dX6_storm_131 : decode cX6_storm 131 = .ok (.getfield 19, 3) := by decide +kernel
theorem dX6_storm_134 : decode cX6_storm 134 = .ok (.iload 5, 2) := by decide +kernel
theorem dX6_storm_136 : decode cX6_storm 136 = .ok (.iload 12, 2) := by decide +kernel
theorem dX6_storm_138 : decode cX6_storm 138 = .ok (.invokevirtual 168, 3) := by decide +kernel
theorem dX6_storm_141 : decode cX6_storm 141 = .ok (.istore 5, 2) := by decide +kernel
theorem dX6_storm_143 : decode cX6_storm 143 = .ok (.aload_n 0, 1) := by decide +kernel
theorem dX6_storm_144 : decode cX6_storm 144 = .ok (.getfield 19, 3) := by decide +kernel
theorem dX6_storm_147 : decode cX6_storm 147 = .ok (.iload 5, 2) := by decide +kernel
theorem dX6_storm_149 : decode cX6_storm 149 = .ok (.invokevirtual 127, 3) := by decide +kernel
theorem dX6_storm_152 : decode cX6_storm 152 = .ok (.istore 12, 2) := by decide +kernel
theorem dX6_storm_154 : decode cX6_storm 154 = .ok (.iload 7, 2) := by decide +kernel
theorem dX6_storm_156 : decode cX6_storm 156 = .ok (.iload 12, 2) := by decide +kernel
theorem dX6_storm_158 : decode cX6_storm 158 = .ok (.ifCond .eq 7, 3) := by decide +kernel
theorem dX6_storm_161 : decode cX6_storm 161 = .ok (.iconst 1, 1) := by decide +kernel
theorem dX6_storm_162 : decode cX6_storm 162 = .ok (.goto 4, 3) := by decide +kernel
theorem dX6_storm_165 : decode cX6_storm 165 = .ok (.iconst 0, 1) := by decide +kernel
theorem dX6_storm_166 : decode cX6_storm 166 = .ok (.iadd, 1) := by decide +kernel
theorem dX6_storm_167 : decode cX6_storm 167 = .ok (.istore 7, 2) := by decide +kernel
theorem dX6_storm_169 : decode cX6_storm 169 = .ok (.iload 12, 2) := by decide +kernel
theorem dX6_storm_171 : decode cX6_storm 171 = .ok (.ifCond .eq 7, 3) := by decide +kernel
theorem dX6_storm_174 : decode cX6_storm 174 = .ok (.iconst 0, 1) := by decide +kernel
theorem dX6_storm_175 : decode cX6_storm 175 = .ok (.goto 7, 3) := by decide +kernel
theorem dX6_storm_178 : decode cX6_storm 178 = .ok (.iload 8, 2) := by decide +kernel
theorem dX6_storm_180 : decode cX6_storm 180 = .ok (.iconst 1, 1) := by decide +kernel
theorem dX6_storm_181 : decode cX6_storm 181 = .ok (.iadd, 1) := by decide +kernel
theorem dX6_storm_182 : decode cX6_storm 182 = .ok (.istore 8, 2) := by decide +kernel
theorem dX6_storm_184 : decode cX6_storm 184 = .ok (.iload 9, 2) := by decide +kernel
theorem dX6_storm_186 : decode cX6_storm 186 = .ok (.iload 8, 2) := by decide +kernel
theorem dX6_storm_188 : decode cX6_storm 188 = .ok (.invokestatic 188, 3) := by decide +kernel
theorem dX6_storm_191 : decode cX6_storm 191 = .ok (.istore 9, 2) := by decide +kernel
theorem dX6_storm_193 : decode cX6_storm 193 = .ok (.iinc 10 1, 3) := by decide +kernel
theorem dX6_storm_196 : decode cX6_storm 196 = .ok (.goto (-127), 3) := by decide +kernel
theorem dX6_storm_199 : decode cX6_storm 199 = .ok (.iload 4, 2) := by decide +kernel
theorem dX6_storm_201 : decode cX6_storm 201 = .ok (.ifCond .ne 6, 3) := by decide +kernel
theorem dX6_storm_204 : decode cX6_storm 204 = .ok (.iload 7, 2) := by decide +kernel
theorem dX6_storm_206 : decode cX6_storm 206 = .ok (.ireturn, 1) := by decide +kernel
theorem dX6_storm_207 : decode cX6_storm 207 = .ok (.iload 4, 2) := by decide +kernel
theorem dX6_storm_209 : decode cX6_storm 209 = .ok (.iconst 1, 1) := by decide +kernel
theorem dX6_storm_210 : decode cX6_storm 210 = .ok (.if_icmp .ne 8, 3) := by decide +kernel
theorem dX6_storm_213 : decode cX6_storm 213 = .ok (.iload 5, 2) := by decide +kernel
theorem dX6_storm_215 : decode cX6_storm 215 = .ok (.goto 5, 3) := by decide +kernel
theorem dX6_storm_218 : decode cX6_storm 218 = .ok (.iload 9, 2) := by decide +kernel
theorem dX6_storm_220 : decode cX6_storm 220 = .ok (.ireturn, 1) := by decide +kernel
theorem dX6_drawOf_0 : decode cX6_drawOf 0 = .ok (.ldc2_w 193, 3) := by decide +kernel
theorem dX6_drawOf_3 : decode cX6_drawOf 3 = .ok (.iload_n 0, 1) := by decide +kernel
theorem dX6_drawOf_4 : decode cX6_drawOf 4 = .ok (.i2l, 1) := by decide +kernel
theorem dX6_drawOf_5 : decode cX6_drawOf 5 = .ok (.lmul, 1) := by decide +kernel
theorem dX6_drawOf_6 : decode cX6_drawOf 6 = .ok (.ldc2_w 195, 3) := by decide +kernel
theorem dX6_drawOf_9 : decode cX6_drawOf 9 = .ok (.iload_n 1, 1) := by decide +kernel
theorem dX6_drawOf_10 : decode cX6_drawOf 10 = .ok (.i2l, 1) := by decide +kernel
theorem dX6_drawOf_11 : decode cX6_drawOf 11 = .ok (.lmul, 1) := by decide +kernel
theorem dX6_drawOf_12 : decode cX6_drawOf 12 = .ok (.ladd, 1) := by decide +kernel
theorem dX6_drawOf_13 : decode cX6_drawOf 13 = .ok (.lconst 1, 1) := by decide +kernel
theorem dX6_drawOf_14 : decode cX6_drawOf 14 = .ok (.ladd, 1) := by decide +kernel
theorem dX6_drawOf_15 : decode cX6_drawOf 15 = .ok (.lstore_n 2, 1) := by decide +kernel
theorem dX6_drawOf_16 : decode cX6_drawOf 16 = .ok (.lload_n 2, 1) := by decide +kernel
theorem dX6_drawOf_17 : decode cX6_drawOf 17 = .ok (.lload_n 2, 1) := by decide +kernel
theorem dX6_drawOf_18 : decode cX6_drawOf 18 = .ok (.lmul, 1) := by decide +kernel
theorem dX6_drawOf_19 : decode cX6_drawOf 19 = .ok (.ldc2_w 197, 3) := by decide +kernel
theorem dX6_drawOf_22 : decode cX6_drawOf 22 = .ok (.lrem, 1) := by decide +kernel
theorem dX6_drawOf_23 : decode cX6_drawOf 23 = .ok (.l2i, 1) := by decide +kernel
theorem dX6_drawOf_24 : decode cX6_drawOf 24 = .ok (.ireturn, 1) := by decide +kernel
theorem dX6_moversOf_0 : decode cX6_moversOf 0 = .ok (.aload_n 0, 1) := by decide +kernel
theorem dX6_moversOf_1 : decode cX6_moversOf 1 = .ok (.getfield 19, 3) := by decide +kernel
theorem dX6_moversOf_4 : decode cX6_moversOf 4 = .ok (.iload_n 2, 1) := by decide +kernel
theorem dX6_moversOf_5 : decode cX6_moversOf 5 = .ok (.invokevirtual 123, 3) := by decide +kernel
theorem dX6_moversOf_8 : decode cX6_moversOf 8 = .ok (.istore 5, 2) := by decide +kernel
theorem dX6_moversOf_10 : decode cX6_moversOf 10 = .ok (.iload_n 1, 1) := by decide +kernel
theorem dX6_moversOf_11 : decode cX6_moversOf 11 = .ok (.tableswitch 60 0 3 #[29, 35, 49, 52], 29) := by decide +kernel
theorem dX6_moversOf_40 : decode cX6_moversOf 40 = .ok (.iload 5, 2) := by decide +kernel
theorem dX6_moversOf_42 : decode cX6_moversOf 42 = .ok (.invokestatic 199, 3) := by decide +kernel
theorem dX6_moversOf_45 : decode cX6_moversOf 45 = .ok (.ireturn, 1) := by decide +kernel
theorem dX6_moversOf_46 : decode cX6_moversOf 46 = .ok (.iload 5, 2) := by decide +kernel
theorem dX6_moversOf_48 : decode cX6_moversOf 48 = .ok (.iload_n 3, 1) := by decide +kernel
theorem dX6_moversOf_49 : decode cX6_moversOf 49 = .ok (.aload_n 0, 1) := by decide +kernel
theorem dX6_moversOf_50 : decode cX6_moversOf 50 = .ok (.getfield 19, 3) := by decide +kernel
theorem dX6_moversOf_53 : decode cX6_moversOf 53 = .ok (.getfield 204, 3) := by decide +kernel
theorem dX6_moversOf_56 : decode cX6_moversOf 56 = .ok (.invokestatic 207, 3) := by decide +kernel
theorem dX6_moversOf_59 : decode cX6_moversOf 59 = .ok (.ireturn, 1) := by decide +kernel
theorem dX6_moversOf_60 : decode cX6_moversOf 60 = .ok (.iload 5, 2) := by decide +kernel
theorem dX6_moversOf_62 : decode cX6_moversOf 62 = .ok (.ireturn, 1) := by decide +kernel
theorem dX6_moversOf_63 : decode cX6_moversOf 63 = .ok (.iload 5, 2) := by decide +kernel
theorem dX6_moversOf_65 : decode cX6_moversOf 65 = .ok (.iload 4, 2) := by decide +kernel
theorem dX6_moversOf_67 : decode cX6_moversOf 67 = .ok (.invokestatic 210, 3) := by decide +kernel
theorem dX6_moversOf_70 : decode cX6_moversOf 70 = .ok (.ireturn, 1) := by decide +kernel
theorem dX6_moversOf_71 : decode cX6_moversOf 71 = .ok (.aload_n 0, 1) := by decide +kernel
theorem dX6_moversOf_72 : decode cX6_moversOf 72 = .ok (.iload_n 2, 1) := by decide +kernel
theorem dX6_moversOf_73 : decode cX6_moversOf 73 = .ok (.iload 5, 2) := by decide +kernel
theorem dX6_moversOf_75 : decode cX6_moversOf 75 = .ok (.invokevirtual 213, 3) := by decide +kernel
theorem dX6_moversOf_78 : decode cX6_moversOf 78 = .ok (.ireturn, 1) := by decide +kernel
theorem dX6_cruellest_0 : decode cX6_cruellest 0 = .ok (.iconst 0, 1) := by decide +kernel
theorem dX6_cruellest_1 : decode cX6_cruellest 1 = .ok (.istore_n 3, 1) := by decide +kernel
theorem dX6_cruellest_2 : decode cX6_cruellest 2 = .ok (.iconst (-1), 1) := by decide +kernel
theorem dX6_cruellest_3 : decode cX6_cruellest 3 = .ok (.istore 4, 2) := by decide +kernel
theorem dX6_cruellest_5 : decode cX6_cruellest 5 = .ok (.iconst 0, 1) := by decide +kernel
theorem dX6_cruellest_6 : decode cX6_cruellest 6 = .ok (.istore 5, 2) := by decide +kernel
theorem dX6_cruellest_8 : decode cX6_cruellest 8 = .ok (.iload 5, 2) := by decide +kernel
theorem dX6_cruellest_10 : decode cX6_cruellest 10 = .ok (.aload_n 0, 1) := by decide +kernel
theorem dX6_cruellest_11 : decode cX6_cruellest 11 = .ok (.getfield 19, 3) := by decide +kernel
theorem dX6_cruellest_14 : decode cX6_cruellest 14 = .ok (.getfield 204, 3) := by decide +kernel
theorem dX6_cruellest_17 : decode cX6_cruellest 17 = .ok (.if_icmp .ge 60, 3) := by decide +kernel
theorem dX6_cruellest_20 : decode cX6_cruellest 20 = .ok (.iload_n 2, 1) := by decide +kernel
theorem dX6_cruellest_21 : decode cX6_cruellest 21 = .ok (.iload 5, 2) := by decide +kernel
theorem dX6_cruellest_23 : decode cX6_cruellest 23 = .ok (.invokestatic 216, 3) := by decide +kernel
theorem dX6_cruellest_26 : decode cX6_cruellest 26 = .ok (.ifCond .eq 45, 3) := by decide +kernel
theorem dX6_cruellest_29 : decode cX6_cruellest 29 = .ok (.aload_n 0, 1) := by decide +kernel
theorem dX6_cruellest_30 : decode cX6_cruellest 30 = .ok (.getfield 29, 3) := by decide +kernel
theorem dX6_cruellest_33 : decode cX6_cruellest 33 = .ok (.aload_n 0, 1) := by decide +kernel
theorem dX6_cruellest_34 : decode cX6_cruellest 34 = .ok (.getfield 29, 3) := by decide +kernel
theorem dX6_cruellest_37 : decode cX6_cruellest 37 = .ok (.aload_n 0, 1) := by decide +kernel
theorem dX6_cruellest_38 : decode cX6_cruellest 38 = .ok (.getfield 19, 3) := by decide +kernel
theorem dX6_cruellest_41 : decode cX6_cruellest 41 = .ok (.iload_n 1, 1) := by decide +kernel
theorem dX6_cruellest_42 : decode cX6_cruellest 42 = .ok (.iload 5, 2) := by decide +kernel
theorem dX6_cruellest_44 : decode cX6_cruellest 44 = .ok (.invokevirtual 219, 3) := by decide +kernel
theorem dX6_cruellest_47 : decode cX6_cruellest 47 = .ok (.invokevirtual 223, 3) := by decide +kernel
theorem dX6_cruellest_50 : decode cX6_cruellest 50 = .ok (.invokestatic 226, 3) := by decide +kernel
theorem dX6_cruellest_53 : decode cX6_cruellest 53 = .ok (.istore 6, 2) := by decide +kernel
theorem dX6_cruellest_55 : decode cX6_cruellest 55 = .ok (.iload 6, 2) := by decide +kernel
theorem dX6_cruellest_57 : decode cX6_cruellest 57 = .ok (.iload 4, 2) := by decide +kernel
theorem dX6_cruellest_59 : decode cX6_cruellest 59 = .ok (.if_icmp .le 12, 3) := by decide +kernel
theorem dX6_cruellest_62 : decode cX6_cruellest 62 = .ok (.iload 6, 2) := by decide +kernel
theorem dX6_cruellest_64 : decode cX6_cruellest 64 = .ok (.istore 4, 2) := by decide +kernel
theorem dX6_cruellest_66 : decode cX6_cruellest 66 = .ok (.iconst 1, 1) := by decide +kernel
theorem dX6_cruellest_67 : decode cX6_cruellest 67 = .ok (.iload 5, 2) := by decide +kernel
theorem dX6_cruellest_69 : decode cX6_cruellest 69 = .ok (.ishl, 1) := by decide +kernel
theorem dX6_cruellest_70 : decode cX6_cruellest 70 = .ok (.istore_n 3, 1) := by decide +kernel
theorem dX6_cruellest_71 : decode cX6_cruellest 71 = .ok (.iinc 5 1, 3) := by decide +kernel
theorem dX6_cruellest_74 : decode cX6_cruellest 74 = .ok (.goto (-66), 3) := by decide +kernel
theorem dX6_cruellest_77 : decode cX6_cruellest 77 = .ok (.iload_n 3, 1) := by decide +kernel
theorem dX6_cruellest_78 : decode cX6_cruellest 78 = .ok (.ireturn, 1) := by decide +kernel
theorem dX6_lastBehind_0 : decode cX6_lastBehind 0 = .ok (.iload_n 0, 1) := by decide +kernel
theorem dX6_lastBehind_1 : decode cX6_lastBehind 1 = .ok (.iconst 1, 1) := by decide +kernel
theorem dX6_lastBehind_2 : decode cX6_lastBehind 2 = .ok (.if_icmp .ne 14, 3) := by decide +kernel
theorem dX6_lastBehind_5 : decode cX6_lastBehind 5 = .ok (.iload_n 2, 1) := by decide +kernel
theorem dX6_lastBehind_6 : decode cX6_lastBehind 6 = .ok (.ifCond .eq 10, 3) := by decide +kernel
theorem dX6_lastBehind_9 : decode cX6_lastBehind 9 = .ok (.iload_n 2, 1) := by decide +kernel
theorem dX6_lastBehind_10 : decode cX6_lastBehind 10 = .ok (.invokestatic 229, 3) := by decide +kernel
theorem dX6_lastBehind_13 : decode cX6_lastBehind 13 = .ok (.goto 4, 3) := by decide +kernel
theorem dX6_lastBehind_16 : decode cX6_lastBehind 16 = .ok (.iload_n 1, 1) := by decide +kernel
theorem dX6_lastBehind_17 : decode cX6_lastBehind 17 = .ok (.ireturn, 1) := by decide +kernel
theorem dX6_state_0 : decode cX6_state 0 = .ok (.aload_n 0, 1) := by decide +kernel
theorem dX6_state_1 : decode cX6_state 1 = .ok (.getfield 19, 3) := by decide +kernel
theorem dX6_state_4 : decode cX6_state 4 = .ok (.iload_n 1, 1) := by decide +kernel
theorem dX6_state_5 : decode cX6_state 5 = .ok (.invokevirtual 110, 3) := by decide +kernel
theorem dX6_state_8 : decode cX6_state 8 = .ok (.ifCond .eq 12, 3) := by decide +kernel
theorem dX6_state_11 : decode cX6_state 11 = .ok (.iload_n 2, 1) := by decide +kernel
theorem dX6_state_12 : decode cX6_state 12 = .ok (.ifCond .lt 8, 3) := by decide +kernel
theorem dX6_state_15 : decode cX6_state 15 = .ok (.iload_n 2, 1) := by decide +kernel
theorem dX6_state_16 : decode cX6_state 16 = .ok (.iconst 3, 1) := by decide +kernel
theorem dX6_state_17 : decode cX6_state 17 = .ok (.if_icmp .le 5, 3) := by decide +kernel
theorem dX6_state_20 : decode cX6_state 20 = .ok (.iconst (-1), 1) := by decide +kernel
theorem dX6_state_21 : decode cX6_state 21 = .ok (.ireturn, 1) := by decide +kernel
theorem dX6_state_22 : decode cX6_state 22 = .ok (.iload_n 2, 1) := by decide +kernel
theorem dX6_state_23 : decode cX6_state 23 = .ok (.iconst 3, 1) := by decide +kernel
theorem dX6_state_24 : decode cX6_state 24 = .ok (.if_icmp .ne 20, 3) := by decide +kernel
theorem dX6_state_27 : decode cX6_state 27 = .ok (.aload_n 0, 1) := by decide +kernel
theorem dX6_state_28 : decode cX6_state 28 = .ok (.getfield 19, 3) := by decide +kernel
theorem dX6_state_31 : decode cX6_state 31 = .ok (.iload_n 1, 1) := by decide +kernel
theorem dX6_state_32 : decode cX6_state 32 = .ok (.invokevirtual 127, 3) := by decide +kernel
theorem dX6_state_35 : decode cX6_state 35 = .ok (.ifCond .eq 7, 3) := by decide +kernel
theorem dX6_state_38 : decode cX6_state 38 = .ok (.iconst 1, 1) := by decide +kernel
theorem dX6_state_39 : decode cX6_state 39 = .ok (.goto 4, 3) := by decide +kernel
theorem dX6_state_42 : decode cX6_state 42 = .ok (.iconst 0, 1) := by decide +kernel
theorem dX6_state_43 : decode cX6_state 43 = .ok (.ireturn, 1) := by decide +kernel
theorem dX6_state_44 : decode cX6_state 44 = .ok (.aload_n 0, 1) := by decide +kernel
theorem dX6_state_45 : decode cX6_state 45 = .ok (.getfield 29, 3) := by decide +kernel
theorem dX6_state_48 : decode cX6_state 48 = .ok (.aload_n 0, 1) := by decide +kernel
theorem dX6_state_49 : decode cX6_state 49 = .ok (.getfield 19, 3) := by decide +kernel
theorem dX6_state_52 : decode cX6_state 52 = .ok (.invokevirtual 155, 3) := by decide +kernel
theorem dX6_state_55 : decode cX6_state 55 = .ok (.iload_n 2, 1) := by decide +kernel
theorem dX6_state_56 : decode cX6_state 56 = .ok (.iconst 2, 1) := by decide +kernel
theorem dX6_state_57 : decode cX6_state 57 = .ok (.if_icmp .ne 12, 3) := by decide +kernel
theorem dX6_state_60 : decode cX6_state 60 = .ok (.aload_n 0, 1) := by decide +kernel
theorem dX6_state_61 : decode cX6_state 61 = .ok (.getfield 29, 3) := by decide +kernel
theorem dX6_state_64 : decode cX6_state 64 = .ok (.iload_n 1, 1) := by decide +kernel
theorem dX6_state_65 : decode cX6_state 65 = .ok (.invokevirtual 232, 3) := by decide +kernel
theorem dX6_state_68 : decode cX6_state 68 = .ok (.ireturn, 1) := by decide +kernel
theorem dX6_state_69 : decode cX6_state 69 = .ok (.iload_n 2, 1) := by decide +kernel
theorem dX6_state_70 : decode cX6_state 70 = .ok (.ifCond .ne 14, 3) := by decide +kernel
theorem dX6_state_73 : decode cX6_state 73 = .ok (.aload_n 0, 1) := by decide +kernel
theorem dX6_state_74 : decode cX6_state 74 = .ok (.getfield 29, 3) := by decide +kernel
theorem dX6_state_77 : decode cX6_state 77 = .ok (.iload_n 1, 1) := by decide +kernel
theorem dX6_state_78 : decode cX6_state 78 = .ok (.invokevirtual 223, 3) := by decide +kernel
theorem dX6_state_81 : decode cX6_state 81 = .ok (.goto 11, 3) := by decide +kernel
theorem dX6_state_84 : decode cX6_state 84 = .ok (.aload_n 0, 1) := by decide +kernel
theorem dX6_state_85 : decode cX6_state 85 = .ok (.getfield 29, 3) := by decide +kernel
theorem dX6_state_88 : decode cX6_state 88 = .ok (.iload_n 1, 1) := by decide +kernel
theorem dX6_state_89 : decode cX6_state 89 = .ok (.invokevirtual 235, 3) := by decide +kernel
theorem dX6_state_92 : decode cX6_state 92 = .ok (.ireturn, 1) := by decide +kernel
theorem dX6_all_0 : decode cX6_all 0 = .ok (.iload_n 1, 1) := by decide +kernel
theorem dX6_all_1 : decode cX6_all 1 = .ok (.ifCond .lt 9, 3) := by decide +kernel
theorem dX6_all_4 : decode cX6_all 4 = .ok (.iload_n 1, 1) := by decide +kernel
theorem dX6_all_5 : decode cX6_all 5 = .ok (.bipush 6, 2) := by decide +kernel
theorem dX6_all_7 : decode cX6_all 7 = .ok (.if_icmp .le 5, 3) := by decide +kernel
theorem dX6_all_10 : decode cX6_all 10 = .ok (.iconst (-1), 1) := by decide +kernel
theorem dX6_all_11 : decode cX6_all 11 = .ok (.ireturn, 1) := by decide +kernel
theorem dX6_all_12 : decode cX6_all 12 = .ok (.aload_n 0, 1) := by decide +kernel
theorem dX6_all_13 : decode cX6_all 13 = .ok (.getfield 29, 3) := by decide +kernel
theorem dX6_all_16 : decode cX6_all 16 = .ok (.aload_n 0, 1) := by decide +kernel
theorem dX6_all_17 : decode cX6_all 17 = .ok (.getfield 19, 3) := by decide +kernel
theorem dX6_all_20 : decode cX6_all 20 = .ok (.invokevirtual 155, 3) := by decide +kernel
theorem dX6_all_23 : decode cX6_all 23 = .ok (.iload_n 1, 1) := by decide +kernel
theorem dX6_all_24 : decode cX6_all 24 = .ok (.tableswitch 92 0 5 #[40, 48, 56, 64, 72, 84], 40) := by decide +kernel
theorem dX6_all_64 : decode cX6_all 64 = .ok (.aload_n 0, 1) := by decide +kernel
theorem dX6_all_65 : decode cX6_all 65 = .ok (.getfield 29, 3) := by decide +kernel
theorem dX6_all_68 : decode cX6_all 68 = .ok (.invokevirtual 238, 3) := by decide +kernel
theorem dX6_all_71 : decode cX6_all 71 = .ok (.ireturn, 1) := by decide +kernel
theorem dX6_all_72 : decode cX6_all 72 = .ok (.aload_n 0, 1) := by decide +kernel
theorem dX6_all_73 : decode cX6_all 73 = .ok (.getfield 29, 3) := by decide +kernel
theorem dX6_all_76 : decode cX6_all 76 = .ok (.invokevirtual 241, 3) := by decide +kernel
theorem dX6_all_79 : decode cX6_all 79 = .ok (.ireturn, 1) := by decide +kernel
theorem dX6_all_80 : decode cX6_all 80 = .ok (.aload_n 0, 1) := by decide +kernel
theorem dX6_all_81 : decode cX6_all 81 = .ok (.getfield 29, 3) := by decide +kernel
theorem dX6_all_84 : decode cX6_all 84 = .ok (.invokevirtual 244, 3) := by decide +kernel
theorem dX6_all_87 : decode cX6_all 87 = .ok (.ireturn, 1) := by decide +kernel
theorem dX6_all_88 : decode cX6_all 88 = .ok (.aload_n 0, 1) := by decide +kernel
theorem dX6_all_89 : decode cX6_all 89 = .ok (.getfield 29, 3) := by decide +kernel
theorem dX6_all_92 : decode cX6_all 92 = .ok (.invokevirtual 247, 3) := by decide +kernel
theorem dX6_all_95 : decode cX6_all 95 = .ok (.ireturn, 1) := by decide +kernel
theorem dX6_all_96 : decode cX6_all 96 = .ok (.aload_n 0, 1) := by decide +kernel
theorem dX6_all_97 : decode cX6_all 97 = .ok (.getfield 29, 3) := by decide +kernel
theorem dX6_all_100 : decode cX6_all 100 = .ok (.aload_n 0, 1) := by decide +kernel
theorem dX6_all_101 : decode cX6_all 101 = .ok (.getfield 19, 3) := by decide +kernel
theorem dX6_all_104 : decode cX6_all 104 = .ok (.invokevirtual 250, 3) := by decide +kernel
theorem dX6_all_107 : decode cX6_all 107 = .ok (.ireturn, 1) := by decide +kernel
theorem dX6_all_108 : decode cX6_all 108 = .ok (.aload_n 0, 1) := by decide +kernel
theorem dX6_all_109 : decode cX6_all 109 = .ok (.getfield 29, 3) := by decide +kernel
theorem dX6_all_112 : decode cX6_all 112 = .ok (.invokevirtual 253, 3) := by decide +kernel
theorem dX6_all_115 : decode cX6_all 115 = .ok (.ireturn, 1) := by decide +kernel
theorem dX6_all_116 : decode cX6_all 116 = .ok (.aload_n 0, 1) := by decide +kernel
theorem dX6_all_117 : decode cX6_all 117 = .ok (.getfield 29, 3) := by decide +kernel
theorem dX6_all_120 : decode cX6_all 120 = .ok (.invokevirtual 256, 3) := by decide +kernel
theorem dX6_all_123 : decode cX6_all 123 = .ok (.ireturn, 1) := by decide +kernel
theorem dX6_within_0 : decode cX6_within 0 = .ok (.iload_n 1, 1) := by decide +kernel
theorem dX6_within_1 : decode cX6_within 1 = .ok (.ifCond .lt 23, 3) := by decide +kernel
theorem dX6_within_4 : decode cX6_within 4 = .ok (.iload_n 1, 1) := by decide +kernel
theorem dX6_within_5 : decode cX6_within 5 = .ok (.aload_n 0, 1) := by decide +kernel
theorem dX6_within_6 : decode cX6_within 6 = .ok (.getfield 19, 3) := by decide +kernel
theorem dX6_within_9 : decode cX6_within 9 = .ok (.getfield 204, 3) := by decide +kernel
theorem dX6_within_12 : decode cX6_within 12 = .ok (.if_icmp .gt 12, 3) := by decide +kernel
theorem dX6_within_15 : decode cX6_within 15 = .ok (.iload_n 2, 1) := by decide +kernel
theorem dX6_within_16 : decode cX6_within 16 = .ok (.ifCond .lt 8, 3) := by decide +kernel
theorem dX6_within_19 : decode cX6_within 19 = .ok (.iload_n 2, 1) := by decide +kernel
theorem dX6_within_20 : decode cX6_within 20 = .ok (.iconst 1, 1) := by decide +kernel
theorem dX6_within_21 : decode cX6_within 21 = .ok (.if_icmp .le 5, 3) := by decide +kernel
theorem dX6_within_24 : decode cX6_within 24 = .ok (.iconst (-1), 1) := by decide +kernel
theorem dX6_within_25 : decode cX6_within 25 = .ok (.ireturn, 1) := by decide +kernel
theorem dX6_within_26 : decode cX6_within 26 = .ok (.aload_n 0, 1) := by decide +kernel
theorem dX6_within_27 : decode cX6_within 27 = .ok (.getfield 29, 3) := by decide +kernel
theorem dX6_within_30 : decode cX6_within 30 = .ok (.aload_n 0, 1) := by decide +kernel
theorem dX6_within_31 : decode cX6_within 31 = .ok (.getfield 19, 3) := by decide +kernel
theorem dX6_within_34 : decode cX6_within 34 = .ok (.invokevirtual 155, 3) := by decide +kernel
theorem dX6_within_37 : decode cX6_within 37 = .ok (.aload_n 0, 1) := by decide +kernel
theorem dX6_within_38 : decode cX6_within 38 = .ok (.getfield 29, 3) := by decide +kernel
theorem dX6_within_41 : decode cX6_within 41 = .ok (.iload_n 1, 1) := by decide +kernel
theorem dX6_within_42 : decode cX6_within 42 = .ok (.invokevirtual 259, 3) := by decide +kernel
theorem dX6_within_45 : decode cX6_within 45 = .ok (.istore_n 3, 1) := by decide +kernel
theorem dX6_within_46 : decode cX6_within 46 = .ok (.iload_n 3, 1) := by decide +kernel
theorem dX6_within_47 : decode cX6_within 47 = .ok (.ifCond .ne 6, 3) := by decide +kernel
theorem dX6_within_50 : decode cX6_within 50 = .ok (.bipush (-4), 2) := by decide +kernel
theorem dX6_within_52 : decode cX6_within 52 = .ok (.ireturn, 1) := by decide +kernel
theorem dX6_within_53 : decode cX6_within 53 = .ok (.iload_n 2, 1) := by decide +kernel
theorem dX6_within_54 : decode cX6_within 54 = .ok (.ifCond .ne 14, 3) := by decide +kernel
theorem dX6_within_57 : decode cX6_within 57 = .ok (.aload_n 0, 1) := by decide +kernel
theorem dX6_within_58 : decode cX6_within 58 = .ok (.getfield 29, 3) := by decide +kernel
theorem dX6_within_61 : decode cX6_within 61 = .ok (.iload_n 1, 1) := by decide +kernel
theorem dX6_within_62 : decode cX6_within 62 = .ok (.invokevirtual 262, 3) := by decide +kernel
theorem dX6_within_65 : decode cX6_within 65 = .ok (.goto 4, 3) := by decide +kernel
theorem dX6_within_68 : decode cX6_within 68 = .ok (.iload_n 3, 1) := by decide +kernel
theorem dX6_within_69 : decode cX6_within 69 = .ok (.ireturn, 1) := by decide +kernel
theorem dX6_count_0 : decode cX6_count 0 = .ok (.iload_n 1, 1) := by decide +kernel
theorem dX6_count_1 : decode cX6_count 1 = .ok (.tableswitch 108 0 7 #[47, 55, 63, 71, 79, 87, 95, 103], 47) := by decide +kernel
theorem dX6_count_48 : decode cX6_count 48 = .ok (.aload_n 0, 1) := by decide +kernel
theorem dX6_count_49 : decode cX6_count 49 = .ok (.getfield 19, 3) := by decide +kernel
theorem dX6_count_52 : decode cX6_count 52 = .ok (.getfield 130, 3) := by decide +kernel
theorem dX6_count_55 : decode cX6_count 55 = .ok (.ireturn, 1) := by decide +kernel
theorem dX6_count_56 : decode cX6_count 56 = .ok (.aload_n 0, 1) := by decide +kernel
theorem dX6_count_57 : decode cX6_count 57 = .ok (.getfield 19, 3) := by decide +kernel
theorem dX6_count_60 : decode cX6_count 60 = .ok (.getfield 204, 3) := by decide +kernel
theorem dX6_count_63 : decode cX6_count 63 = .ok (.ireturn, 1) := by decide +kernel
theorem dX6_count_64 : decode cX6_count 64 = .ok (.aload_n 0, 1) := by decide +kernel
theorem dX6_count_65 : decode cX6_count 65 = .ok (.getfield 19, 3) := by decide +kernel
theorem dX6_count_68 : decode cX6_count 68 = .ok (.getfield 265, 3) := by decide +kernel
theorem dX6_count_71 : decode cX6_count 71 = .ok (.ireturn, 1) := by decide +kernel
theorem dX6_count_72 : decode cX6_count 72 = .ok (.aload_n 0, 1) := by decide +kernel
theorem dX6_count_73 : decode cX6_count 73 = .ok (.getfield 19, 3) := by decide +kernel
theorem dX6_count_76 : decode cX6_count 76 = .ok (.getfield 268, 3) := by decide +kernel
theorem dX6_count_79 : decode cX6_count 79 = .ok (.ireturn, 1) := by decide +kernel
theorem dX6_count_80 : decode cX6_count 80 = .ok (.aload_n 0, 1) := by decide +kernel
theorem dX6_count_81 : decode cX6_count 81 = .ok (.getfield 19, 3) := by decide +kernel
theorem dX6_count_84 : decode cX6_count 84 = .ok (.getfield 71, 3) := by decide +kernel
theorem dX6_count_87 : decode cX6_count 87 = .ok (.ireturn, 1) := by decide +kernel
theorem dX6_count_88 : decode cX6_count 88 = .ok (.aload_n 0, 1) := by decide +kernel
theorem dX6_count_89 : decode cX6_count 89 = .ok (.getfield 36, 3) := by decide +kernel
theorem dX6_count_92 : decode cX6_count 92 = .ok (.invokevirtual 139, 3) := by decide +kernel
theorem dX6_count_95 : decode cX6_count 95 = .ok (.ireturn, 1) := by decide +kernel
theorem dX6_count_96 : decode cX6_count 96 = .ok (.aload_n 0, 1) := by decide +kernel
theorem dX6_count_97 : decode cX6_count 97 = .ok (.getfield 10, 3) := by decide +kernel
theorem dX6_count_100 : decode cX6_count 100 = .ok (.invokevirtual 66, 3) := by decide +kernel
theorem dX6_count_103 : decode cX6_count 103 = .ok (.ireturn, 1) := by decide +kernel
theorem dX6_count_104 : decode cX6_count 104 = .ok (.aload_n 0, 1) := by decide +kernel
theorem dX6_count_105 : decode cX6_count 105 = .ok (.getfield 85, 3) := by decide +kernel
theorem dX6_count_108 : decode cX6_count 108 = .ok (.ireturn, 1) := by decide +kernel
theorem dX6_count_109 : decode cX6_count 109 = .ok (.iconst (-1), 1) := by decide +kernel
theorem dX6_count_110 : decode cX6_count 110 = .ok (.ireturn, 1) := by decide +kernel
theorem dX7_init_0 : decode cX7_init 0 = .ok (.aload_n 0, 1) := by decide +kernel
theorem dX7_init_1 : decode cX7_init 1 = .ok (.invokespecial 1, 3) := by decide +kernel
theorem dX7_init_4 : decode cX7_init 4 = .ok (.aload_n 0, 1) := by decide +kernel
theorem dX7_init_5 : decode cX7_init 5 = .ok (.sipush 200, 3) := by decide +kernel
theorem dX7_init_8 : decode cX7_init 8 = .ok (.newarray .int, 2) := by decide +kernel
theorem dX7_init_10 : decode cX7_init 10 = .ok (.putfield 7, 3) := by decide +kernel
theorem dX7_init_13 : decode cX7_init 13 = .ok (.aload_n 0, 1) := by decide +kernel
theorem dX7_init_14 : decode cX7_init 14 = .ok (.bipush 36, 2) := by decide +kernel
theorem dX7_init_16 : decode cX7_init 16 = .ok (.newarray .int, 2) := by decide +kernel
theorem dX7_init_18 : decode cX7_init 18 = .ok (.putfield 13, 3) := by decide +kernel
theorem dX7_init_21 : decode cX7_init 21 = .ok (.aload_n 0, 1) := by decide +kernel
theorem dX7_init_22 : decode cX7_init 22 = .ok (.bipush 6, 2) := by decide +kernel
theorem dX7_init_24 : decode cX7_init 24 = .ok (.newarray .int, 2) := by decide +kernel
theorem dX7_init_26 : decode cX7_init 26 = .ok (.putfield 16, 3) := by decide +kernel
theorem dX7_init_29 : decode cX7_init 29 = .ok (.aload_n 0, 1) := by decide +kernel
theorem dX7_init_30 : decode cX7_init 30 = .ok (.bipush 6, 2) := by decide +kernel
theorem dX7_init_32 : decode cX7_init 32 = .ok (.newarray .int, 2) := by decide +kernel
theorem dX7_init_34 : decode cX7_init 34 = .ok (.putfield 19, 3) := by decide +kernel
theorem dX7_init_37 : decode cX7_init 37 = .ok (.aload_n 0, 1) := by decide +kernel
theorem dX7_init_38 : decode cX7_init 38 = .ok (.bipush 36, 2) := by decide +kernel
theorem dX7_init_40 : decode cX7_init 40 = .ok (.newarray .int, 2) := by decide +kernel
theorem dX7_init_42 : decode cX7_init 42 = .ok (.putfield 22, 3) := by decide +kernel
theorem dX7_init_45 : decode cX7_init 45 = .ok (.aload_n 0, 1) := by decide +kernel
theorem dX7_init_46 : decode cX7_init 46 = .ok (.bipush 6, 2) := by decide +kernel
theorem dX7_init_48 : decode cX7_init 48 = .ok (.newarray .int, 2) := by decide +kernel
theorem dX7_init_50 : decode cX7_init 50 = .ok (.putfield 25, 3) := by decide +kernel
theorem dX7_init_53 : decode cX7_init 53 = .ok (.aload_n 0, 1) := by decide +kernel
theorem dX7_init_54 : decode cX7_init 54 = .ok (.bipush 6, 2) := by decide +kernel
theorem dX7_init_56 : decode cX7_init 56 = .ok (.newarray .int, 2) := by decide +kernel
theorem dX7_init_58 : decode cX7_init 58 = .ok (.putfield 28, 3) := by decide +kernel
theorem dX7_init_61 : decode cX7_init 61 = .ok (.aload_n 0, 1) := by decide +kernel
theorem dX7_init_62 : decode cX7_init 62 = .ok (.bipush 6, 2) := by decide +kernel
theorem dX7_init_64 : decode cX7_init 64 = .ok (.newarray .int, 2) := by decide +kernel
theorem dX7_init_66 : decode cX7_init 66 = .ok (.putfield 31, 3) := by decide +kernel
theorem dX7_init_69 : decode cX7_init 69 = .ok (.aload_n 0, 1) := by decide +kernel
theorem dX7_init_70 : decode cX7_init 70 = .ok (.sipush 4096, 3) := by decide +kernel
theorem dX7_init_73 : decode cX7_init 73 = .ok (.newarray .int, 2) := by decide +kernel
theorem dX7_init_75 : decode cX7_init 75 = .ok (.putfield 34, 3) := by decide +kernel
theorem dX7_init_78 : decode cX7_init 78 = .ok (.aload_n 0, 1) := by decide +kernel
theorem dX7_init_79 : decode cX7_init 79 = .ok (.sipush 4096, 3) := by decide +kernel
theorem dX7_init_82 : decode cX7_init 82 = .ok (.newarray .int, 2) := by decide +kernel
theorem dX7_init_84 : decode cX7_init 84 = .ok (.putfield 37, 3) := by decide +kernel
theorem dX7_init_87 : decode cX7_init 87 = .ok (.aload_n 0, 1) := by decide +kernel
theorem dX7_init_88 : decode cX7_init 88 = .ok (.sipush 4096, 3) := by decide +kernel
theorem dX7_init_91 : decode cX7_init 91 = .ok (.newarray .int, 2) := by decide +kernel
theorem dX7_init_93 : decode cX7_init 93 = .ok (.putfield 40, 3) := by decide +kernel
theorem dX7_init_96 : decode cX7_init 96 = .ok (.aload_n 0, 1) := by decide +kernel
theorem dX7_init_97 : decode cX7_init 97 = .ok (.bipush 6, 2) := by decide +kernel
theorem dX7_init_99 : decode cX7_init 99 = .ok (.newarray .int, 2) := by decide +kernel
theorem dX7_init_101 : decode cX7_init 101 = .ok (.putfield 43, 3) := by decide +kernel
theorem dX7_init_104 : decode cX7_init 104 = .ok (.aload_n 0, 1) := by decide +kernel
theorem dX7_init_105 : decode cX7_init 105 = .ok (.bipush 6, 2) := by decide +kernel
theorem dX7_init_107 : decode cX7_init 107 = .ok (.newarray .int, 2) := by decide +kernel
theorem dX7_init_109 : decode cX7_init 109 = .ok (.putfield 46, 3) := by decide +kernel
theorem dX7_init_112 : decode cX7_init 112 = .ok (.aload_n 0, 1) := by decide +kernel
theorem dX7_init_113 : decode cX7_init 113 = .ok (.iconst 1, 1) := by decide +kernel
theorem dX7_init_114 : decode cX7_init 114 = .ok (.putfield 49, 3) := by decide +kernel
theorem dX7_init_117 : decode cX7_init 117 = .ok (.aload_n 0, 1) := by decide +kernel
theorem dX7_init_118 : decode cX7_init 118 = .ok (.iconst 4, 1) := by decide +kernel
theorem dX7_init_119 : decode cX7_init 119 = .ok (.putfield 53, 3) := by decide +kernel
theorem dX7_init_122 : decode cX7_init 122 = .ok (.aload_n 0, 1) := by decide +kernel
theorem dX7_init_123 : decode cX7_init 123 = .ok (.iconst 5, 1) := by decide +kernel
theorem dX7_init_124 : decode cX7_init 124 = .ok (.putfield 56, 3) := by decide +kernel
theorem dX7_init_127 : decode cX7_init 127 = .ok (.aload_n 0, 1) := by decide +kernel
theorem dX7_init_128 : decode cX7_init 128 = .ok (.invokevirtual 59, 3) := by decide +kernel
theorem dX7_init_131 : decode cX7_init 131 = .ok (.aload_n 0, 1) := by decide +kernel
theorem dX7_init_132 : decode cX7_init 132 = .ok (.getfield 19, 3) := by decide +kernel
theorem dX7_init_135 : decode cX7_init 135 = .ok (.iconst 0, 1) := by decide +kernel
theorem dX7_init_136 : decode cX7_init 136 = .ok (.iconst 3, 1) := by decide +kernel
theorem dX7_init_137 : decode cX7_init 137 = .ok (.iastore, 1) := by decide +kernel
theorem dX7_init_138 : decode cX7_init 138 = .ok (.aload_n 0, 1) := by decide +kernel
theorem dX7_init_139 : decode cX7_init 139 = .ok (.getfield 19, 3) := by decide +kernel
theorem dX7_init_142 : decode cX7_init 142 = .ok (.iconst 1, 1) := by decide +kernel
theorem dX7_init_143 : decode cX7_init 143 = .ok (.iconst 1, 1) := by decide +kernel
theorem dX7_init_144 : decode cX7_init 144 = .ok (.iastore, 1) := by decide +kernel
theorem dX7_init_145 : decode cX7_init 145 = .ok (.aload_n 0, 1) := by decide +kernel
theorem dX7_init_146 : decode cX7_init 146 = .ok (.getfield 19, 3) := by decide +kernel
theorem dX7_init_149 : decode cX7_init 149 = .ok (.iconst 2, 1) := by decide +kernel
theorem dX7_init_150 : decode cX7_init 150 = .ok (.iconst 4, 1) := by decide +kernel
theorem dX7_init_151 : decode cX7_init 151 = .ok (.iastore, 1) := by decide +kernel
theorem dX7_init_152 : decode cX7_init 152 = .ok (.aload_n 0, 1) := by decide +kernel
theorem dX7_init_153 : decode cX7_init 153 = .ok (.getfield 19, 3) := by decide +kernel
theorem dX7_init_156 : decode cX7_init 156 = .ok (.iconst 3, 1) := by decide +kernel
theorem dX7_init_157 : decode cX7_init 157 = .ok (.iconst 2, 1) := by decide +kernel
theorem dX7_init_158 : decode cX7_init 158 = .ok (.iastore, 1) := by decide +kernel
theorem dX7_init_159 : decode cX7_init 159 = .ok (.return_, 1) := by decide +kernel
theorem dX7_begins_0 : decode cX7_begins 0 = .ok (.aload_n 0, 1) := by decide +kernel
theorem dX7_begins_1 : decode cX7_begins 1 = .ok (.iconst 1, 1) := by decide +kernel
theorem dX7_begins_2 : decode cX7_begins 2 = .ok (.putfield 62, 3) := by decide +kernel
theorem dX7_begins_5 : decode cX7_begins 5 = .ok (.iconst 0, 1) := by decide +kernel
theorem dX7_begins_6 : decode cX7_begins 6 = .ok (.istore_n 1, 1) := by decide +kernel
theorem dX7_begins_7 : decode cX7_begins 7 = .ok (.iload_n 1, 1) := by decide +kernel
theorem dX7_begins_8 : decode cX7_begins 8 = .ok (.aload_n 0, 1) := by decide +kernel
theorem dX7_begins_9 : decode cX7_begins 9 = .ok (.getfield 53, 3) := by decide +kernel
theorem dX7_begins_12 : decode cX7_begins 12 = .ok (.if_icmp .ge 32, 3) := by decide +kernel
theorem dX7_begins_15 : decode cX7_begins 15 = .ok (.aload_n 0, 1) := by decide +kernel
theorem dX7_begins_16 : decode cX7_begins 16 = .ok (.getfield 16, 3) := by decide +kernel
theorem dX7_begins_19 : decode cX7_begins 19 = .ok (.iload_n 1, 1) := by decide +kernel
theorem dX7_begins_20 : decode cX7_begins 20 = .ok (.aload_n 0, 1) := by decide +kernel
theorem dX7_begins_21 : decode cX7_begins 21 = .ok (.getfield 62, 3) := by decide +kernel
theorem dX7_begins_24 : decode cX7_begins 24 = .ok (.iastore, 1) := by decide +kernel
theorem dX7_begins_25 : decode cX7_begins 25 = .ok (.aload_n 0, 1) := by decide +kernel
theorem dX7_begins_26 : decode cX7_begins 26 = .ok (.dup, 1) := by decide +kernel
theorem dX7_begins_27 : decode cX7_begins 27 = .ok (.getfield 62, 3) := by decide +kernel
theorem dX7_begins_30 : decode cX7_begins 30 = .ok (.aload_n 0, 1) := by decide +kernel
theorem dX7_begins_31 : decode cX7_begins 31 = .ok (.getfield 56, 3) := by decide +kernel
theorem dX7_begins_34 : decode cX7_begins 34 = .ok (.imul, 1) := by decide +kernel
theorem dX7_begins_35 : decode cX7_begins 35 = .ok (.putfield 62, 3) := by decide +kernel
theorem dX7_begins_38 : decode cX7_begins 38 = .ok (.iinc 1 1, 3) := by decide +kernel
theorem dX7_begins_41 : decode cX7_begins 41 = .ok (.goto (-34), 3) := by decide +kernel
theorem dX7_begins_44 : decode cX7_begins 44 = .ok (.aload_n 0, 1) := by decide +kernel
theorem dX7_begins_45 : decode cX7_begins 45 = .ok (.bipush (-4), 2) := by decide +kernel
theorem dX7_begins_47 : decode cX7_begins 47 = .ok (.putfield 65, 3) := by decide +kernel
theorem dX7_begins_50 : decode cX7_begins 50 = .ok (.aload_n 0, 1) := by decide +kernel
theorem dX7_begins_51 : decode cX7_begins 51 = .ok (.iconst 0, 1) := by decide +kernel
theorem dX7_begins_52 : decode cX7_begins 52 = .ok (.putfield 68, 3) := by decide +kernel
theorem dX7_begins_55 : decode cX7_begins 55 = .ok (.aload_n 0, 1) := by decide +kernel
theorem dX7_begins_56 : decode cX7_begins 56 = .ok (.iconst 0, 1) := by decide +kernel
theorem dX7_begins_57 : decode cX7_begins 57 = .ok (.putfield 71, 3) := by decide +kernel
theorem dX7_begins_60 : decode cX7_begins 60 = .ok (.return_, 1) := by decide +kernel
theorem dX7_isIn_0 : decode cX7_isIn 0 = .ok (.iload_n 0, 1) := by decide +kernel
theorem dX7_isIn_1 : decode cX7_isIn 1 = .ok (.iload_n 1, 1) := by decide +kernel
theorem dX7_isIn_2 : decode cX7_isIn 2 = .ok (.if_icmp .lt 12, 3) := by decide +kernel
theorem dX7_isIn_5 : decode cX7_isIn 5 = .ok (.iload_n 0, 1) := by decide +kernel
theorem dX7_isIn_6 : decode cX7_isIn 6 = .ok (.iload_n 2, 1) := by decide +kernel
theorem dX7_isIn_7 : decode cX7_isIn 7 = .ok (.if_icmp .gt 7, 3) := by decide +kernel
theorem dX7_isIn_10 : decode cX7_isIn 10 = .ok (.iconst 1, 1) := by decide +kernel
theorem dX7_isIn_11 : decode cX7_isIn 11 = .ok (.goto 4, 3) := by decide +kernel
theorem dX7_isIn_14 : decode cX7_isIn 14 = .ok (.iconst 0, 1) := by decide +kernel
theorem dX7_isIn_15 : decode cX7_isIn 15 = .ok (.ireturn, 1) := by decide +kernel
theorem dX7_letterAt_0 : decode cX7_letterAt 0 = .ok (.iload_n 1, 1) := by decide +kernel
theorem dX7_letterAt_1 : decode cX7_letterAt 1 = .ok (.aload_n 0, 1) := by decide +kernel
theorem dX7_letterAt_2 : decode cX7_letterAt 2 = .ok (.getfield 75, 3) := by decide +kernel
theorem dX7_letterAt_5 : decode cX7_letterAt 5 = .ok (.if_icmp .ge 12, 3) := by decide +kernel
theorem dX7_letterAt_8 : decode cX7_letterAt 8 = .ok (.aload_n 0, 1) := by decide +kernel
theorem dX7_letterAt_9 : decode cX7_letterAt 9 = .ok (.getfield 7, 3) := by decide +kernel
theorem dX7_letterAt_12 : decode cX7_letterAt 12 = .ok (.iload_n 1, 1) := by decide +kernel
theorem dX7_letterAt_13 : decode cX7_letterAt 13 = .ok (.iaload, 1) := by decide +kernel
theorem dX7_letterAt_14 : decode cX7_letterAt 14 = .ok (.goto 4, 3) := by decide +kernel
theorem dX7_letterAt_17 : decode cX7_letterAt 17 = .ok (.iconst 0, 1) := by decide +kernel
theorem dX7_letterAt_18 : decode cX7_letterAt 18 = .ok (.ireturn, 1) := by decide +kernel
theorem dX7_figure_0 : decode cX7_figure 0 = .ok (.aload_n 0, 1) := by decide +kernel
theorem dX7_figure_1 : decode cX7_figure 1 = .ok (.iload_n 1, 1) := by decide +kernel
theorem dX7_figure_2 : decode cX7_figure 2 = .ok (.invokevirtual 78, 3) := by decide +kernel
theorem dX7_figure_5 : decode cX7_figure 5 = .ok (.istore_n 2, 1) := by decide +kernel
theorem dX7_figure_6 : decode cX7_figure 6 = .ok (.iload_n 2, 1) := by decide +kernel
theorem dX7_figure_7 : decode cX7_figure 7 = .ok (.bipush 48, 2) := by decide +kernel
theorem dX7_figure_9 : decode cX7_figure 9 = .ok (.if_icmp .lt 16, 3) := by decide +kernel
theorem dX7_figure_12 : decode cX7_figure 12 = .ok (.iload_n 2, 1) := by decide +kernel
theorem dX7_figure_13 : decode cX7_figure 13 = .ok (.bipush 57, 2) := by decide +kernel
theorem dX7_figure_15 : decode cX7_figure 15 = .ok (.if_icmp .gt 10, 3) := by decide +kernel
theorem dX7_figure_18 : decode cX7_figure 18 = .ok (.iload_n 2, 1) := by decide +kernel
theorem dX7_figure_19 : decode cX7_figure 19 = .ok (.bipush 48, 2) := by decide +kernel
theorem dX7_figure_21 : decode cX7_figure 21 = .ok (.isub, 1) := by decide +kernel
theorem dX7_figure_22 : decode cX7_figure 22 = .ok (.goto 4, 3) := by decide +kernel
theorem dX7_figure_25 : decode cX7_figure 25 = .ok (.iconst (-1), 1) := by decide +kernel
theorem dX7_figure_26 : decode cX7_figure 26 = .ok (.ireturn, 1) := by decide +kernel
theorem dX7_readsNet_0 : decode cX7_readsNet 0 = .ok (.aload_n 0, 1) := by decide +kernel
theorem dX7_readsNet_1 : decode cX7_readsNet 1 = .ok (.iload_n 1, 1) := by decide +kernel
theorem dX7_readsNet_2 : decode cX7_readsNet 2 = .ok (.invokevirtual 82, 3) := by decide +kernel
theorem dX7_readsNet_5 : decode cX7_readsNet 5 = .ok (.istore_n 2, 1) := by decide +kernel
theorem dX7_readsNet_6 : decode cX7_readsNet 6 = .ok (.aload_n 0, 1) := by decide +kernel
theorem dX7_readsNet_7 : decode cX7_readsNet 7 = .ok (.iload_n 1, 1) := by decide +kernel
theorem dX7_readsNet_8 : decode cX7_readsNet 8 = .ok (.iconst 1, 1) := by decide +kernel
theorem dX7_readsNet_9 : decode cX7_readsNet 9 = .ok (.iadd, 1) := by decide +kernel
theorem dX7_readsNet_10 : decode cX7_readsNet 10 = .ok (.invokevirtual 82, 3) := by decide +kernel
theorem dX7_readsNet_13 : decode cX7_readsNet 13 = .ok (.istore_n 3, 1) := by decide +kernel
theorem dX7_readsNet_14 : decode cX7_readsNet 14 = .ok (.aload_n 0, 1) := by decide +kernel
theorem dX7_readsNet_15 : decode cX7_readsNet 15 = .ok (.iload_n 1, 1) := by decide +kernel
theorem dX7_readsNet_16 : decode cX7_readsNet 16 = .ok (.iconst 2, 1) := by decide +kernel
theorem dX7_readsNet_17 : decode cX7_readsNet 17 = .ok (.iadd, 1) := by decide +kernel
theorem dX7_readsNet_18 : decode cX7_readsNet 18 = .ok (.invokevirtual 82, 3) := by decide +kernel
theorem dX7_readsNet_21 : decode cX7_readsNet 21 = .ok (.istore 4, 2) := by decide +kernel
theorem dX7_readsNet_23 : decode cX7_readsNet 23 = .ok (.aload_n 0, 1) := by decide +kernel
theorem dX7_readsNet_24 : decode cX7_readsNet 24 = .ok (.getfield 85, 3) := by decide +kernel
theorem dX7_readsNet_27 : decode cX7_readsNet 27 = .ok (.ifCond .gt 33, 3) := by decide +kernel
theorem dX7_readsNet_30 : decode cX7_readsNet 30 = .ok (.iload_n 2, 1) := by decide +kernel
theorem dX7_readsNet_31 : decode cX7_readsNet 31 = .ok (.iconst 1, 1) := by decide +kernel
theorem dX7_readsNet_32 : decode cX7_readsNet 32 = .ok (.iconst 4, 1) := by decide +kernel
theorem dX7_readsNet_33 : decode cX7_readsNet 33 = .ok (.invokestatic 88, 3) := by decide +kernel
theorem dX7_readsNet_36 : decode cX7_readsNet 36 = .ok (.ifCond .eq 24, 3) := by decide +kernel
theorem dX7_readsNet_39 : decode cX7_readsNet 39 = .ok (.iload_n 3, 1) := by decide +kernel
theorem dX7_readsNet_40 : decode cX7_readsNet 40 = .ok (.iconst 2, 1) := by decide +kernel
theorem dX7_readsNet_41 : decode cX7_readsNet 41 = .ok (.bipush 6, 2) := by decide +kernel
theorem dX7_readsNet_43 : decode cX7_readsNet 43 = .ok (.invokestatic 88, 3) := by decide +kernel
theorem dX7_readsNet_46 : decode cX7_readsNet 46 = .ok (.ifCond .eq 14, 3) := by decide +kernel
theorem dX7_readsNet_49 : decode cX7_readsNet 49 = .ok (.iload 4, 2) := by decide +kernel
theorem dX7_readsNet_51 : decode cX7_readsNet 51 = .ok (.iconst 2, 1) := by decide +kernel
theorem dX7_readsNet_52 : decode cX7_readsNet 52 = .ok (.bipush 7, 2) := by decide +kernel
theorem dX7_readsNet_54 : decode cX7_readsNet 54 = .ok (.invokestatic 88, 3) := by decide +kernel
theorem dX7_readsNet_57 : decode cX7_readsNet 57 = .ok (.ifCond .ne 5, 3) := by decide +kernel
theorem dX7_readsNet_60 : decode cX7_readsNet 60 = .ok (.iconst 0, 1) := by decide +kernel
theorem dX7_readsNet_61 : decode cX7_readsNet 61 = .ok (.ireturn, 1) := by decide +kernel
theorem dX7_readsNet_62 : decode cX7_readsNet 62 = .ok (.iconst 1, 1) := by decide +kernel
theorem dX7_readsNet_63 : decode cX7_readsNet 63 = .ok (.istore 5, 2) := by decide +kernel
theorem dX7_readsNet_65 : decode cX7_readsNet 65 = .ok (.iconst 0, 1) := by decide +kernel
theorem dX7_readsNet_66 : decode cX7_readsNet 66 = .ok (.istore 6, 2) := by decide +kernel
theorem dX7_readsNet_68 : decode cX7_readsNet 68 = .ok (.iload 6, 2) := by decide +kernel
theorem dX7_readsNet_70 : decode cX7_readsNet 70 = .ok (.iload_n 3, 1) := by decide +kernel
theorem dX7_readsNet_71 : decode cX7_readsNet 71 = .ok (.if_icmp .ge 16, 3) := by decide +kernel
theorem dX7_readsNet_74 : decode cX7_readsNet 74 = .ok (.iload 5, 2) := by decide +kernel
theorem dX7_readsNet_76 : decode cX7_readsNet 76 = .ok (.iload 4, 2) := by decide +kernel
theorem dX7_readsNet_78 : decode cX7_readsNet 78 = .ok (.imul, 1) := by decide +kernel
theorem dX7_readsNet_79 : decode cX7_readsNet 79 = .ok (.istore 5, 2) := by decide +kernel
theorem dX7_readsNet_81 : decode cX7_readsNet 81 = .ok (.iinc 6 1, 3) := by decide +kernel
theorem dX7_readsNet_84 : decode cX7_readsNet 84 = .ok (.goto (-16), 3) := by decide +kernel
theorem dX7_readsNet_87 : decode cX7_readsNet 87 = .ok (.aload_n 0, 1) := by decide +kernel
theorem dX7_readsNet_88 : decode cX7_readsNet 88 = .ok (.iload_n 2, 1) := by decide +kernel
theorem dX7_readsNet_89 : decode cX7_readsNet 89 = .ok (.putfield 85, 3) := by decide +kernel
theorem dX7_readsNet_92 : decode cX7_readsNet 92 = .ok (.aload_n 0, 1) := by decide +kernel
theorem dX7_readsNet_93 : decode cX7_readsNet 93 = .ok (.iload_n 3, 1) := by decide +kernel
theorem dX7_readsNet_94 : decode cX7_readsNet 94 = .ok (.putfield 92, 3) := by decide +kernel
theorem dX7_readsNet_97 : decode cX7_readsNet 97 = .ok (.aload_n 0, 1) := by decide +kernel
theorem dX7_readsNet_98 : decode cX7_readsNet 98 = .ok (.iload 4, 2) := by decide +kernel
theorem dX7_readsNet_100 : decode cX7_readsNet 100 = .ok (.putfield 95, 3) := by decide +kernel
theorem dX7_readsNet_103 : decode cX7_readsNet 103 = .ok (.iload 5, 2) := by decide +kernel
theorem dX7_readsNet_105 : decode cX7_readsNet 105 = .ok (.sipush 4096, 3) := by decide +kernel
theorem dX7_readsNet_108 : decode cX7_readsNet 108 = .ok (.if_icmp .gt 31, 3) := by decide +kernel
theorem dX7_readsNet_111 : decode cX7_readsNet 111 = .ok (.iload_n 2, 1) := by decide +kernel
theorem dX7_readsNet_112 : decode cX7_readsNet 112 = .ok (.iconst 2, 1) := by decide +kernel
theorem dX7_readsNet_113 : decode cX7_readsNet 113 = .ok (.if_icmp .ne 11, 3) := by decide +kernel
theorem dX7_readsNet_116 : decode cX7_readsNet 116 = .ok (.iload 4, 2) := by decide +kernel
theorem dX7_readsNet_118 : decode cX7_readsNet 118 = .ok (.iload_n 3, 1) := by decide +kernel
theorem dX7_readsNet_119 : decode cX7_readsNet 119 = .ok (.iconst 1, 1) := by decide +kernel
theorem dX7_readsNet_120 : decode cX7_readsNet 120 = .ok (.iadd, 1) := by decide +kernel
theorem dX7_readsNet_121 : decode cX7_readsNet 121 = .ok (.if_icmp .ne 18, 3) := by decide +kernel
theorem dX7_readsNet_124 : decode cX7_readsNet 124 = .ok (.iload_n 2, 1) := by decide +kernel
theorem dX7_readsNet_125 : decode cX7_readsNet 125 = .ok (.iconst 3, 1) := by decide +kernel
theorem dX7_readsNet_126 : decode cX7_readsNet 126 = .ok (.if_icmp .ne 9, 3) := by decide +kernel
theorem dX7_readsNet_129 : decode cX7_readsNet 129 = .ok (.iload 4, 2) := by decide +kernel
theorem dX7_readsNet_131 : decode cX7_readsNet 131 = .ok (.iload_n 3, 1) := by decide +kernel
theorem dX7_readsNet_132 : decode cX7_readsNet 132 = .ok (.if_icmp .lt 7, 3) := by decide +kernel
theorem dX7_readsNet_135 : decode cX7_readsNet 135 = .ok (.iconst 1, 1) := by decide +kernel
theorem dX7_readsNet_136 : decode cX7_readsNet 136 = .ok (.goto 4, 3) := by decide +kernel
theorem dX7_readsNet_139 : decode cX7_readsNet 139 = .ok (.iconst 0, 1) := by decide +kernel
theorem dX7_readsNet_140 : decode cX7_readsNet 140 = .ok (.ireturn, 1) := by decide +kernel
theorem dX7_readsItem_0 : decode cX7_readsItem 0 = .ok (.iload_n 1, 1) := by decide +kernel
theorem dX7_readsItem_1 : decode cX7_readsItem 1 = .ok (.bipush 103, 2) := by decide +kernel
theorem dX7_readsItem_3 : decode cX7_readsItem 3 = .ok (.if_icmp .ne 19, 3) := by decide +kernel
theorem dX7_readsItem_6 : decode cX7_readsItem 6 = .ok (.aload_n 0, 1) := by decide +kernel
theorem dX7_readsItem_7 : decode cX7_readsItem 7 = .ok (.iload_n 2, 1) := by decide +kernel
theorem dX7_readsItem_8 : decode cX7_readsItem 8 = .ok (.invokevirtual 98, 3) := by decide +kernel
theorem dX7_readsItem_11 : decode cX7_readsItem 11 = .ok (.ifCond .eq 9, 3) := by decide +kernel
theorem dX7_readsItem_14 : decode cX7_readsItem 14 = .ok (.iload_n 2, 1) := by decide +kernel
theorem dX7_readsItem_15 : decode cX7_readsItem 15 = .ok (.iconst 3, 1) := by decide +kernel
theorem dX7_readsItem_16 : decode cX7_readsItem 16 = .ok (.iadd, 1) := by decide +kernel
theorem dX7_readsItem_17 : decode cX7_readsItem 17 = .ok (.goto 4, 3) := by decide +kernel
theorem dX7_readsItem_20 : decode cX7_readsItem 20 = .ok (.iconst (-1), 1) := by decide +kernel
theorem dX7_readsItem_21 : decode cX7_readsItem 21 = .ok (.ireturn, 1) := by decide +kernel
theorem dX7_readsItem_22 : decode cX7_readsItem 22 = .ok (.aload_n 0, 1) := by decide +kernel
theorem dX7_readsItem_23 : decode cX7_readsItem 23 = .ok (.getfield 85, 3) := by decide +kernel
theorem dX7_readsItem_26 : decode cX7_readsItem 26 = .ok (.ifCond .ne 5, 3) := by decide +kernel
theorem dX7_readsItem_29 : decode cX7_readsItem 29 = .ok (.iconst (-1), 1) := by decide +kernel
theorem dX7_readsItem_30 : decode cX7_readsItem 30 = .ok (.ireturn, 1) := by decide +kernel
theorem dX7_readsItem_31 : decode cX7_readsItem 31 = .ok (.aload_n 0, 1) := by decide +kernel
end
section
theorem dX7_readsItem_32 : decode cX7_readsItem 32 = .ok (.iload_n 2, 1) := by decide +kernel
theorem dX7_readsItem_33 : decode cX7_readsItem 33 = .ok (.invokevirtual 82, 3) := by decide +kernel
theorem dX7_readsItem_36 : decode cX7_readsItem 36 = .ok (.istore_n 3, 1) := by decide +kernel
theorem dX7_readsItem_37 : decode cX7_readsItem 37 = .ok (.aload_n 0, 1) := by decide +kernel
theorem dX7_readsItem_38 : decode cX7_readsItem 38 = .ok (.iload_n 2, 1) := by decide +kernel
theorem dX7_readsItem_39 : decode cX7_readsItem 39 = .ok (.iconst 1, 1) := by decide +kernel
theorem dX7_readsItem_40 : decode cX7_readsItem 40 = .ok (.iadd, 1) := by decide +kernel
theorem dX7_readsItem_41 : decode cX7_readsItem 41 = .ok (.invokevirtual 82, 3) := by decide +kernel
theorem dX7_readsItem_44 : decode cX7_readsItem 44 = .ok (.istore 4, 2) := by decide +kernel
theorem dX7_readsItem_46 : decode cX7_readsItem 46 = .ok (.iload_n 1, 1) := by decide +kernel
theorem dX7_readsItem_47 : decode cX7_readsItem 47 = .ok (.bipush 101, 2) := by decide +kernel
theorem dX7_readsItem_49 : decode cX7_readsItem 49 = .ok (.if_icmp .ne 104, 3) := by decide +kernel
theorem dX7_readsItem_52 : decode cX7_readsItem 52 = .ok (.aload_n 0, 1) := by decide +kernel
theorem dX7_readsItem_53 : decode cX7_readsItem 53 = .ok (.getfield 85, 3) := by decide +kernel
theorem dX7_readsItem_56 : decode cX7_readsItem 56 = .ok (.iconst 1, 1) := by decide +kernel
theorem dX7_readsItem_57 : decode cX7_readsItem 57 = .ok (.if_icmp .eq 54, 3) := by decide +kernel
theorem dX7_readsItem_60 : decode cX7_readsItem 60 = .ok (.iload_n 3, 1) := by decide +kernel
theorem dX7_readsItem_61 : decode cX7_readsItem 61 = .ok (.iconst 0, 1) := by decide +kernel
theorem dX7_readsItem_62 : decode cX7_readsItem 62 = .ok (.aload_n 0, 1) := by decide +kernel
theorem dX7_readsItem_63 : decode cX7_readsItem 63 = .ok (.getfield 92, 3) := by decide +kernel
theorem dX7_readsItem_66 : decode cX7_readsItem 66 = .ok (.iconst 1, 1) := by decide +kernel
theorem dX7_readsItem_67 : decode cX7_readsItem 67 = .ok (.isub, 1) := by decide +kernel
theorem dX7_readsItem_68 : decode cX7_readsItem 68 = .ok (.invokestatic 88, 3) := by decide +kernel
theorem dX7_readsItem_71 : decode cX7_readsItem 71 = .ok (.ifCond .eq 40, 3) := by decide +kernel
theorem dX7_readsItem_74 : decode cX7_readsItem 74 = .ok (.iload 4, 2) := by decide +kernel
theorem dX7_readsItem_76 : decode cX7_readsItem 76 = .ok (.iconst 0, 1) := by decide +kernel
theorem dX7_readsItem_77 : decode cX7_readsItem 77 = .ok (.aload_n 0, 1) := by decide +kernel
theorem dX7_readsItem_78 : decode cX7_readsItem 78 = .ok (.getfield 92, 3) := by decide +kernel
theorem dX7_readsItem_81 : decode cX7_readsItem 81 = .ok (.iconst 1, 1) := by decide +kernel
theorem dX7_readsItem_82 : decode cX7_readsItem 82 = .ok (.isub, 1) := by decide +kernel
theorem dX7_readsItem_83 : decode cX7_readsItem 83 = .ok (.invokestatic 88, 3) := by decide +kernel
theorem dX7_readsItem_86 : decode cX7_readsItem 86 = .ok (.ifCond .eq 25, 3) := by decide +kernel
theorem dX7_readsItem_89 : decode cX7_readsItem 89 = .ok (.iload_n 3, 1) := by decide +kernel
theorem dX7_readsItem_90 : decode cX7_readsItem 90 = .ok (.iload 4, 2) := by decide +kernel
theorem dX7_readsItem_92 : decode cX7_readsItem 92 = .ok (.if_icmp .eq 19, 3) := by decide +kernel
theorem dX7_readsItem_95 : decode cX7_readsItem 95 = .ok (.aload_n 0, 1) := by decide +kernel
theorem dX7_readsItem_96 : decode cX7_readsItem 96 = .ok (.getfield 22, 3) := by decide +kernel
theorem dX7_readsItem_99 : decode cX7_readsItem 99 = .ok (.bipush 6, 2) := by decide +kernel
theorem dX7_readsItem_101 : decode cX7_readsItem 101 = .ok (.iload_n 3, 1) := by decide +kernel
theorem dX7_readsItem_102 : decode cX7_readsItem 102 = .ok (.imul, 1) := by decide +kernel
theorem dX7_readsItem_103 : decode cX7_readsItem 103 = .ok (.iload 4, 2) := by decide +kernel
theorem dX7_readsItem_105 : decode cX7_readsItem 105 = .ok (.iadd, 1) := by decide +kernel
theorem dX7_readsItem_106 : decode cX7_readsItem 106 = .ok (.iaload, 1) := by decide +kernel
theorem dX7_readsItem_107 : decode cX7_readsItem 107 = .ok (.iconst 1, 1) := by decide +kernel
theorem dX7_readsItem_108 : decode cX7_readsItem 108 = .ok (.if_icmp .ne 5, 3) := by decide +kernel
theorem dX7_readsItem_111 : decode cX7_readsItem 111 = .ok (.iconst (-1), 1) := by decide +kernel
theorem dX7_readsItem_112 : decode cX7_readsItem 112 = .ok (.ireturn, 1) := by decide +kernel
theorem dX7_readsItem_113 : decode cX7_readsItem 113 = .ok (.aload_n 0, 1) := by decide +kernel
theorem dX7_readsItem_114 : decode cX7_readsItem 114 = .ok (.getfield 22, 3) := by decide +kernel
theorem dX7_readsItem_117 : decode cX7_readsItem 117 = .ok (.bipush 6, 2) := by decide +kernel
theorem dX7_readsItem_119 : decode cX7_readsItem 119 = .ok (.iload_n 3, 1) := by decide +kernel
theorem dX7_readsItem_120 : decode cX7_readsItem 120 = .ok (.imul, 1) := by decide +kernel
theorem dX7_readsItem_121 : decode cX7_readsItem 121 = .ok (.iload 4, 2) := by decide +kernel
theorem dX7_readsItem_123 : decode cX7_readsItem 123 = .ok (.iadd, 1) := by decide +kernel
theorem dX7_readsItem_124 : decode cX7_readsItem 124 = .ok (.iconst 1, 1) := by decide +kernel
theorem dX7_readsItem_125 : decode cX7_readsItem 125 = .ok (.iastore, 1) := by decide +kernel
theorem dX7_readsItem_126 : decode cX7_readsItem 126 = .ok (.aload_n 0, 1) := by decide +kernel
theorem dX7_readsItem_127 : decode cX7_readsItem 127 = .ok (.getfield 22, 3) := by decide +kernel
theorem dX7_readsItem_130 : decode cX7_readsItem 130 = .ok (.bipush 6, 2) := by decide +kernel
theorem dX7_readsItem_132 : decode cX7_readsItem 132 = .ok (.iload 4, 2) := by decide +kernel
theorem dX7_readsItem_134 : decode cX7_readsItem 134 = .ok (.imul, 1) := by decide +kernel
theorem dX7_readsItem_135 : decode cX7_readsItem 135 = .ok (.iload_n 3, 1) := by decide +kernel
theorem dX7_readsItem_136 : decode cX7_readsItem 136 = .ok (.iadd, 1) := by decide +kernel
theorem dX7_readsItem_137 : decode cX7_readsItem 137 = .ok (.iconst 1, 1) := by decide +kernel
theorem dX7_readsItem_138 : decode cX7_readsItem 138 = .ok (.iastore, 1) := by decide +kernel
theorem dX7_readsItem_139 : decode cX7_readsItem 139 = .ok (.aload_n 0, 1) := by decide +kernel
theorem dX7_readsItem_140 : decode cX7_readsItem 140 = .ok (.dup, 1) := by decide +kernel
theorem dX7_readsItem_141 : decode cX7_readsItem 141 = .ok (.getfield 102, 3) := by decide +kernel
theorem dX7_readsItem_144 : decode cX7_readsItem 144 = .ok (.iconst 1, 1) := by decide +kernel
theorem dX7_readsItem_145 : decode cX7_readsItem 145 = .ok (.iadd, 1) := by decide +kernel
theorem dX7_readsItem_146 : decode cX7_readsItem 146 = .ok (.putfield 102, 3) := by decide +kernel
theorem dX7_readsItem_149 : decode cX7_readsItem 149 = .ok (.iload_n 2, 1) := by decide +kernel
theorem dX7_readsItem_150 : decode cX7_readsItem 150 = .ok (.iconst 2, 1) := by decide +kernel
theorem dX7_readsItem_151 : decode cX7_readsItem 151 = .ok (.iadd, 1) := by decide +kernel
theorem dX7_readsItem_152 : decode cX7_readsItem 152 = .ok (.ireturn, 1) := by decide +kernel
theorem dX7_readsItem_153 : decode cX7_readsItem 153 = .ok (.iload_n 1, 1) := by decide +kernel
theorem dX7_readsItem_154 : decode cX7_readsItem 154 = .ok (.bipush 120, 2) := by decide +kernel
theorem dX7_readsItem_156 : decode cX7_readsItem 156 = .ok (.if_icmp .ne 32, 3) := by decide +kernel
theorem dX7_readsItem_159 : decode cX7_readsItem 159 = .ok (.iload_n 3, 1) := by decide +kernel
theorem dX7_readsItem_160 : decode cX7_readsItem 160 = .ok (.iconst 0, 1) := by decide +kernel
theorem dX7_readsItem_161 : decode cX7_readsItem 161 = .ok (.aload_n 0, 1) := by decide +kernel
theorem dX7_readsItem_162 : decode cX7_readsItem 162 = .ok (.getfield 92, 3) := by decide +kernel
theorem dX7_readsItem_165 : decode cX7_readsItem 165 = .ok (.iconst 1, 1) := by decide +kernel
theorem dX7_readsItem_166 : decode cX7_readsItem 166 = .ok (.isub, 1) := by decide +kernel
theorem dX7_readsItem_167 : decode cX7_readsItem 167 = .ok (.invokestatic 88, 3) := by decide +kernel
theorem dX7_readsItem_170 : decode cX7_readsItem 170 = .ok (.ifCond .eq 18, 3) := by decide +kernel
theorem dX7_readsItem_173 : decode cX7_readsItem 173 = .ok (.iload 4, 2) := by decide +kernel
theorem dX7_readsItem_175 : decode cX7_readsItem 175 = .ok (.iconst 0, 1) := by decide +kernel
theorem dX7_readsItem_176 : decode cX7_readsItem 176 = .ok (.aload_n 0, 1) := by decide +kernel
theorem dX7_readsItem_177 : decode cX7_readsItem 177 = .ok (.getfield 95, 3) := by decide +kernel
theorem dX7_readsItem_180 : decode cX7_readsItem 180 = .ok (.iconst 1, 1) := by decide +kernel
theorem dX7_readsItem_181 : decode cX7_readsItem 181 = .ok (.isub, 1) := by decide +kernel
theorem dX7_readsItem_182 : decode cX7_readsItem 182 = .ok (.invokestatic 88, 3) := by decide +kernel
theorem dX7_readsItem_185 : decode cX7_readsItem 185 = .ok (.ifCond .ne 5, 3) := by decide +kernel
theorem dX7_readsItem_188 : decode cX7_readsItem 188 = .ok (.iconst (-1), 1) := by decide +kernel
theorem dX7_readsItem_189 : decode cX7_readsItem 189 = .ok (.ireturn, 1) := by decide +kernel
theorem dX7_readsItem_190 : decode cX7_readsItem 190 = .ok (.aload_n 0, 1) := by decide +kernel
theorem dX7_readsItem_191 : decode cX7_readsItem 191 = .ok (.getfield 25, 3) := by decide +kernel
theorem dX7_readsItem_194 : decode cX7_readsItem 194 = .ok (.iload_n 3, 1) := by decide +kernel
theorem dX7_readsItem_195 : decode cX7_readsItem 195 = .ok (.iload 4, 2) := by decide +kernel
theorem dX7_readsItem_197 : decode cX7_readsItem 197 = .ok (.iastore, 1) := by decide +kernel
theorem dX7_readsItem_198 : decode cX7_readsItem 198 = .ok (.iload_n 2, 1) := by decide +kernel
theorem dX7_readsItem_199 : decode cX7_readsItem 199 = .ok (.iconst 2, 1) := by decide +kernel
theorem dX7_readsItem_200 : decode cX7_readsItem 200 = .ok (.iadd, 1) := by decide +kernel
theorem dX7_readsItem_201 : decode cX7_readsItem 201 = .ok (.ireturn, 1) := by decide +kernel
theorem dX7_reads_0 : decode cX7_reads 0 = .ok (.aload_n 0, 1) := by decide +kernel
theorem dX7_reads_1 : decode cX7_reads 1 = .ok (.iconst 0, 1) := by decide +kernel
theorem dX7_reads_2 : decode cX7_reads 2 = .ok (.putfield 85, 3) := by decide +kernel
theorem dX7_reads_5 : decode cX7_reads 5 = .ok (.aload_n 0, 1) := by decide +kernel
theorem dX7_reads_6 : decode cX7_reads 6 = .ok (.iconst 0, 1) := by decide +kernel
theorem dX7_reads_7 : decode cX7_reads 7 = .ok (.putfield 102, 3) := by decide +kernel
theorem dX7_reads_10 : decode cX7_reads 10 = .ok (.iconst 0, 1) := by decide +kernel
theorem dX7_reads_11 : decode cX7_reads 11 = .ok (.istore_n 1, 1) := by decide +kernel
theorem dX7_reads_12 : decode cX7_reads 12 = .ok (.iload_n 1, 1) := by decide +kernel
theorem dX7_reads_13 : decode cX7_reads 13 = .ok (.bipush 36, 2) := by decide +kernel
theorem dX7_reads_15 : decode cX7_reads 15 = .ok (.if_icmp .ge 16, 3) := by decide +kernel
theorem dX7_reads_18 : decode cX7_reads 18 = .ok (.aload_n 0, 1) := by decide +kernel
theorem dX7_reads_19 : decode cX7_reads 19 = .ok (.getfield 22, 3) := by decide +kernel
theorem dX7_reads_22 : decode cX7_reads 22 = .ok (.iload_n 1, 1) := by decide +kernel
theorem dX7_reads_23 : decode cX7_reads 23 = .ok (.iconst 0, 1) := by decide +kernel
theorem dX7_reads_24 : decode cX7_reads 24 = .ok (.iastore, 1) := by decide +kernel
theorem dX7_reads_25 : decode cX7_reads 25 = .ok (.iinc 1 1, 3) := by decide +kernel
theorem dX7_reads_28 : decode cX7_reads 28 = .ok (.goto (-16), 3) := by decide +kernel
theorem dX7_reads_31 : decode cX7_reads 31 = .ok (.iconst 0, 1) := by decide +kernel
theorem dX7_reads_32 : decode cX7_reads 32 = .ok (.istore_n 1, 1) := by decide +kernel
theorem dX7_reads_33 : decode cX7_reads 33 = .ok (.iload_n 1, 1) := by decide +kernel
theorem dX7_reads_34 : decode cX7_reads 34 = .ok (.bipush 6, 2) := by decide +kernel
theorem dX7_reads_36 : decode cX7_reads 36 = .ok (.if_icmp .ge 16, 3) := by decide +kernel
theorem dX7_reads_39 : decode cX7_reads 39 = .ok (.aload_n 0, 1) := by decide +kernel
theorem dX7_reads_40 : decode cX7_reads 40 = .ok (.getfield 25, 3) := by decide +kernel
theorem dX7_reads_43 : decode cX7_reads 43 = .ok (.iload_n 1, 1) := by decide +kernel
theorem dX7_reads_44 : decode cX7_reads 44 = .ok (.iconst 0, 1) := by decide +kernel
theorem dX7_reads_45 : decode cX7_reads 45 = .ok (.iastore, 1) := by decide +kernel
theorem dX7_reads_46 : decode cX7_reads 46 = .ok (.iinc 1 1, 3) := by decide +kernel
theorem dX7_reads_49 : decode cX7_reads 49 = .ok (.goto (-16), 3) := by decide +kernel
theorem dX7_reads_52 : decode cX7_reads 52 = .ok (.iconst 0, 1) := by decide +kernel
theorem dX7_reads_53 : decode cX7_reads 53 = .ok (.istore_n 1, 1) := by decide +kernel
theorem dX7_reads_54 : decode cX7_reads 54 = .ok (.iload_n 1, 1) := by decide +kernel
theorem dX7_reads_55 : decode cX7_reads 55 = .ok (.aload_n 0, 1) := by decide +kernel
theorem dX7_reads_56 : decode cX7_reads 56 = .ok (.getfield 75, 3) := by decide +kernel
theorem dX7_reads_59 : decode cX7_reads 59 = .ok (.if_icmp .ge 40, 3) := by decide +kernel
theorem dX7_reads_62 : decode cX7_reads 62 = .ok (.aload_n 0, 1) := by decide +kernel
theorem dX7_reads_63 : decode cX7_reads 63 = .ok (.aload_n 0, 1) := by decide +kernel
theorem dX7_reads_64 : decode cX7_reads 64 = .ok (.getfield 7, 3) := by decide +kernel
theorem dX7_reads_67 : decode cX7_reads 67 = .ok (.iload_n 1, 1) := by decide +kernel
theorem dX7_reads_68 : decode cX7_reads 68 = .ok (.iaload, 1) := by decide +kernel
theorem dX7_reads_69 : decode cX7_reads 69 = .ok (.iload_n 1, 1) := by decide +kernel
theorem dX7_reads_70 : decode cX7_reads 70 = .ok (.iconst 1, 1) := by decide +kernel
theorem dX7_reads_71 : decode cX7_reads 71 = .ok (.iadd, 1) := by decide +kernel
theorem dX7_reads_72 : decode cX7_reads 72 = .ok (.invokevirtual 105, 3) := by decide +kernel
theorem dX7_reads_75 : decode cX7_reads 75 = .ok (.istore_n 2, 1) := by decide +kernel
theorem dX7_reads_76 : decode cX7_reads 76 = .ok (.iload_n 2, 1) := by decide +kernel
theorem dX7_reads_77 : decode cX7_reads 77 = .ok (.ifCond .lt 13, 3) := by decide +kernel
theorem dX7_reads_80 : decode cX7_reads 80 = .ok (.aload_n 0, 1) := by decide +kernel
theorem dX7_reads_81 : decode cX7_reads 81 = .ok (.iload_n 2, 1) := by decide +kernel
theorem dX7_reads_82 : decode cX7_reads 82 = .ok (.invokevirtual 78, 3) := by decide +kernel
theorem dX7_reads_85 : decode cX7_reads 85 = .ok (.bipush 59, 2) := by decide +kernel
theorem dX7_reads_87 : decode cX7_reads 87 = .ok (.if_icmp .eq 5, 3) := by decide +kernel
theorem dX7_reads_90 : decode cX7_reads 90 = .ok (.iload_n 1, 1) := by decide +kernel
theorem dX7_reads_91 : decode cX7_reads 91 = .ok (.ireturn, 1) := by decide +kernel
theorem dX7_reads_92 : decode cX7_reads 92 = .ok (.iload_n 2, 1) := by decide +kernel
theorem dX7_reads_93 : decode cX7_reads 93 = .ok (.iconst 1, 1) := by decide +kernel
theorem dX7_reads_94 : decode cX7_reads 94 = .ok (.iadd, 1) := by decide +kernel
theorem dX7_reads_95 : decode cX7_reads 95 = .ok (.istore_n 1, 1) := by decide +kernel
theorem dX7_reads_96 : decode cX7_reads 96 = .ok (.goto (-42), 3) := by decide +kernel
theorem dX7_reads_99 : decode cX7_reads 99 = .ok (.bipush (-4), 2) := by decide +kernel
theorem dX7_reads_101 : decode cX7_reads 101 = .ok (.ireturn, 1) := by decide +kernel
theorem dX7_write_0 : decode cX7_write 0 = .ok (.iload_n 1, 1) := by decide +kernel
theorem dX7_write_1 : decode cX7_write 1 = .ok (.bipush 32, 2) := by decide +kernel
theorem dX7_write_3 : decode cX7_write 3 = .ok (.if_icmp .lt 9, 3) := by decide +kernel
theorem dX7_write_6 : decode cX7_write 6 = .ok (.iload_n 1, 1) := by decide +kernel
theorem dX7_write_7 : decode cX7_write 7 = .ok (.bipush 126, 2) := by decide +kernel
theorem dX7_write_9 : decode cX7_write 9 = .ok (.if_icmp .le 5, 3) := by decide +kernel
theorem dX7_write_12 : decode cX7_write 12 = .ok (.iconst (-1), 1) := by decide +kernel
theorem dX7_write_13 : decode cX7_write 13 = .ok (.ireturn, 1) := by decide +kernel
theorem dX7_write_14 : decode cX7_write 14 = .ok (.aload_n 0, 1) := by decide +kernel
theorem dX7_write_15 : decode cX7_write 15 = .ok (.getfield 75, 3) := by decide +kernel
theorem dX7_write_18 : decode cX7_write 18 = .ok (.sipush 200, 3) := by decide +kernel
theorem dX7_write_21 : decode cX7_write 21 = .ok (.if_icmp .ne 6, 3) := by decide +kernel
theorem dX7_write_24 : decode cX7_write 24 = .ok (.bipush (-3), 2) := by decide +kernel
theorem dX7_write_26 : decode cX7_write 26 = .ok (.ireturn, 1) := by decide +kernel
theorem dX7_write_27 : decode cX7_write 27 = .ok (.aload_n 0, 1) := by decide +kernel
theorem dX7_write_28 : decode cX7_write 28 = .ok (.getfield 7, 3) := by decide +kernel
theorem dX7_write_31 : decode cX7_write 31 = .ok (.aload_n 0, 1) := by decide +kernel
theorem dX7_write_32 : decode cX7_write 32 = .ok (.getfield 75, 3) := by decide +kernel
theorem dX7_write_35 : decode cX7_write 35 = .ok (.iload_n 1, 1) := by decide +kernel
theorem dX7_write_36 : decode cX7_write 36 = .ok (.iastore, 1) := by decide +kernel
theorem dX7_write_37 : decode cX7_write 37 = .ok (.aload_n 0, 1) := by decide +kernel
theorem dX7_write_38 : decode cX7_write 38 = .ok (.dup, 1) := by decide +kernel
theorem dX7_write_39 : decode cX7_write 39 = .ok (.getfield 75, 3) := by decide +kernel
theorem dX7_write_42 : decode cX7_write 42 = .ok (.iconst 1, 1) := by decide +kernel
theorem dX7_write_43 : decode cX7_write 43 = .ok (.iadd, 1) := by decide +kernel
theorem dX7_write_44 : decode cX7_write 44 = .ok (.putfield 75, 3) := by decide +kernel
theorem dX7_write_47 : decode cX7_write 47 = .ok (.aload_n 0, 1) := by decide +kernel
theorem dX7_write_48 : decode cX7_write 48 = .ok (.getfield 75, 3) := by decide +kernel
theorem dX7_write_51 : decode cX7_write 51 = .ok (.ireturn, 1) := by decide +kernel
theorem dX7_wipe_0 : decode cX7_wipe 0 = .ok (.aload_n 0, 1) := by decide +kernel
theorem dX7_wipe_1 : decode cX7_wipe 1 = .ok (.getfield 75, 3) := by decide +kernel
theorem dX7_wipe_4 : decode cX7_wipe 4 = .ok (.istore_n 1, 1) := by decide +kernel
theorem dX7_wipe_5 : decode cX7_wipe 5 = .ok (.aload_n 0, 1) := by decide +kernel
theorem dX7_wipe_6 : decode cX7_wipe 6 = .ok (.iconst 0, 1) := by decide +kernel
theorem dX7_wipe_7 : decode cX7_wipe 7 = .ok (.putfield 75, 3) := by decide +kernel
theorem dX7_wipe_10 : decode cX7_wipe 10 = .ok (.iload_n 1, 1) := by decide +kernel
theorem dX7_wipe_11 : decode cX7_wipe 11 = .ok (.ireturn, 1) := by decide +kernel
theorem dX7_fault_0 : decode cX7_fault 0 = .ok (.aload_n 0, 1) := by decide +kernel
theorem dX7_fault_1 : decode cX7_fault 1 = .ok (.invokevirtual 109, 3) := by decide +kernel
theorem dX7_fault_4 : decode cX7_fault 4 = .ok (.ireturn, 1) := by decide +kernel
theorem dX7_lay_0 : decode cX7_lay 0 = .ok (.aload_n 0, 1) := by decide +kernel
theorem dX7_lay_1 : decode cX7_lay 1 = .ok (.invokevirtual 109, 3) := by decide +kernel
theorem dX7_lay_4 : decode cX7_lay 4 = .ok (.bipush (-4), 2) := by decide +kernel
theorem dX7_lay_6 : decode cX7_lay 6 = .ok (.if_icmp .ne 10, 3) := by decide +kernel
theorem dX7_lay_9 : decode cX7_lay 9 = .ok (.aload_n 0, 1) := by decide +kernel
theorem dX7_lay_10 : decode cX7_lay 10 = .ok (.getfield 85, 3) := by decide +kernel
theorem dX7_lay_13 : decode cX7_lay 13 = .ok (.ifCond .ne 6, 3) := by decide +kernel
theorem dX7_lay_16 : decode cX7_lay 16 = .ok (.bipush (-2), 2) := by decide +kernel
theorem dX7_lay_18 : decode cX7_lay 18 = .ok (.ireturn, 1) := by decide +kernel
theorem dX7_lay_19 : decode cX7_lay 19 = .ok (.iconst 0, 1) := by decide +kernel
theorem dX7_lay_20 : decode cX7_lay 20 = .ok (.istore_n 1, 1) := by decide +kernel
theorem dX7_lay_21 : decode cX7_lay 21 = .ok (.iload_n 1, 1) := by decide +kernel
theorem dX7_lay_22 : decode cX7_lay 22 = .ok (.aload_n 0, 1) := by decide +kernel
theorem dX7_lay_23 : decode cX7_lay 23 = .ok (.getfield 92, 3) := by decide +kernel
theorem dX7_lay_26 : decode cX7_lay 26 = .ok (.if_icmp .ge 60, 3) := by decide +kernel
theorem dX7_lay_29 : decode cX7_lay 29 = .ok (.aload_n 0, 1) := by decide +kernel
theorem dX7_lay_30 : decode cX7_lay 30 = .ok (.getfield 85, 3) := by decide +kernel
theorem dX7_lay_33 : decode cX7_lay 33 = .ok (.iconst 4, 1) := by decide +kernel
theorem dX7_lay_34 : decode cX7_lay 34 = .ok (.if_icmp .ne 52, 3) := by decide +kernel
theorem dX7_lay_37 : decode cX7_lay 37 = .ok (.iconst 0, 1) := by decide +kernel
theorem dX7_lay_38 : decode cX7_lay 38 = .ok (.istore_n 2, 1) := by decide +kernel
theorem dX7_lay_39 : decode cX7_lay 39 = .ok (.iconst 0, 1) := by decide +kernel
theorem dX7_lay_40 : decode cX7_lay 40 = .ok (.istore_n 3, 1) := by decide +kernel
theorem dX7_lay_41 : decode cX7_lay 41 = .ok (.iload_n 3, 1) := by decide +kernel
theorem dX7_lay_42 : decode cX7_lay 42 = .ok (.aload_n 0, 1) := by decide +kernel
theorem dX7_lay_43 : decode cX7_lay 43 = .ok (.getfield 92, 3) := by decide +kernel
theorem dX7_lay_46 : decode cX7_lay 46 = .ok (.if_icmp .ge 23, 3) := by decide +kernel
theorem dX7_lay_49 : decode cX7_lay 49 = .ok (.iload_n 2, 1) := by decide +kernel
theorem dX7_lay_50 : decode cX7_lay 50 = .ok (.aload_n 0, 1) := by decide +kernel
theorem dX7_lay_51 : decode cX7_lay 51 = .ok (.getfield 22, 3) := by decide +kernel
theorem dX7_lay_54 : decode cX7_lay 54 = .ok (.bipush 6, 2) := by decide +kernel
theorem dX7_lay_56 : decode cX7_lay 56 = .ok (.iload_n 1, 1) := by decide +kernel
theorem dX7_lay_57 : decode cX7_lay 57 = .ok (.imul, 1) := by decide +kernel
theorem dX7_lay_58 : decode cX7_lay 58 = .ok (.iload_n 3, 1) := by decide +kernel
theorem dX7_lay_59 : decode cX7_lay 59 = .ok (.iadd, 1) := by decide +kernel
theorem dX7_lay_60 : decode cX7_lay 60 = .ok (.iaload, 1) := by decide +kernel
theorem dX7_lay_61 : decode cX7_lay 61 = .ok (.iadd, 1) := by decide +kernel
theorem dX7_lay_62 : decode cX7_lay 62 = .ok (.istore_n 2, 1) := by decide +kernel
theorem dX7_lay_63 : decode cX7_lay 63 = .ok (.iinc 3 1, 3) := by decide +kernel
theorem dX7_lay_66 : decode cX7_lay 66 = .ok (.goto (-25), 3) := by decide +kernel
theorem dX7_lay_69 : decode cX7_lay 69 = .ok (.iload_n 2, 1) := by decide +kernel
theorem dX7_lay_70 : decode cX7_lay 70 = .ok (.aload_n 0, 1) := by decide +kernel
theorem dX7_lay_71 : decode cX7_lay 71 = .ok (.getfield 95, 3) := by decide +kernel
theorem dX7_lay_74 : decode cX7_lay 74 = .ok (.if_icmp .lt 6, 3) := by decide +kernel
theorem dX7_lay_77 : decode cX7_lay 77 = .ok (.bipush (-2), 2) := by decide +kernel
theorem dX7_lay_79 : decode cX7_lay 79 = .ok (.ireturn, 1) := by decide +kernel
theorem dX7_lay_80 : decode cX7_lay 80 = .ok (.iinc 1 1, 3) := by decide +kernel
theorem dX7_lay_83 : decode cX7_lay 83 = .ok (.goto (-62), 3) := by decide +kernel
theorem dX7_lay_86 : decode cX7_lay 86 = .ok (.aload_n 0, 1) := by decide +kernel
theorem dX7_lay_87 : decode cX7_lay 87 = .ok (.aload_n 0, 1) := by decide +kernel
theorem dX7_lay_88 : decode cX7_lay 88 = .ok (.getfield 85, 3) := by decide +kernel
theorem dX7_lay_91 : decode cX7_lay 91 = .ok (.putfield 49, 3) := by decide +kernel
theorem dX7_lay_94 : decode cX7_lay 94 = .ok (.aload_n 0, 1) := by decide +kernel
theorem dX7_lay_95 : decode cX7_lay 95 = .ok (.aload_n 0, 1) := by decide +kernel
theorem dX7_lay_96 : decode cX7_lay 96 = .ok (.getfield 92, 3) := by decide +kernel
theorem dX7_lay_99 : decode cX7_lay 99 = .ok (.putfield 53, 3) := by decide +kernel
theorem dX7_lay_102 : decode cX7_lay 102 = .ok (.aload_n 0, 1) := by decide +kernel
theorem dX7_lay_103 : decode cX7_lay 103 = .ok (.aload_n 0, 1) := by decide +kernel
theorem dX7_lay_104 : decode cX7_lay 104 = .ok (.getfield 95, 3) := by decide +kernel
theorem dX7_lay_107 : decode cX7_lay 107 = .ok (.putfield 56, 3) := by decide +kernel
theorem dX7_lay_110 : decode cX7_lay 110 = .ok (.aload_n 0, 1) := by decide +kernel
theorem dX7_lay_111 : decode cX7_lay 111 = .ok (.aload_n 0, 1) := by decide +kernel
theorem dX7_lay_112 : decode cX7_lay 112 = .ok (.getfield 102, 3) := by decide +kernel
theorem dX7_lay_115 : decode cX7_lay 115 = .ok (.putfield 113, 3) := by decide +kernel
theorem dX7_lay_118 : decode cX7_lay 118 = .ok (.iconst 0, 1) := by decide +kernel
theorem dX7_lay_119 : decode cX7_lay 119 = .ok (.istore_n 1, 1) := by decide +kernel
theorem dX7_lay_120 : decode cX7_lay 120 = .ok (.iload_n 1, 1) := by decide +kernel
theorem dX7_lay_121 : decode cX7_lay 121 = .ok (.bipush 36, 2) := by decide +kernel
theorem dX7_lay_123 : decode cX7_lay 123 = .ok (.if_icmp .ge 21, 3) := by decide +kernel
theorem dX7_lay_126 : decode cX7_lay 126 = .ok (.aload_n 0, 1) := by decide +kernel
theorem dX7_lay_127 : decode cX7_lay 127 = .ok (.getfield 13, 3) := by decide +kernel
theorem dX7_lay_130 : decode cX7_lay 130 = .ok (.iload_n 1, 1) := by decide +kernel
theorem dX7_lay_131 : decode cX7_lay 131 = .ok (.aload_n 0, 1) := by decide +kernel
theorem dX7_lay_132 : decode cX7_lay 132 = .ok (.getfield 22, 3) := by decide +kernel
theorem dX7_lay_135 : decode cX7_lay 135 = .ok (.iload_n 1, 1) := by decide +kernel
theorem dX7_lay_136 : decode cX7_lay 136 = .ok (.iaload, 1) := by decide +kernel
theorem dX7_lay_137 : decode cX7_lay 137 = .ok (.iastore, 1) := by decide +kernel
theorem dX7_lay_138 : decode cX7_lay 138 = .ok (.iinc 1 1, 3) := by decide +kernel
theorem dX7_lay_141 : decode cX7_lay 141 = .ok (.goto (-21), 3) := by decide +kernel
theorem dX7_lay_144 : decode cX7_lay 144 = .ok (.iconst 0, 1) := by decide +kernel
theorem dX7_lay_145 : decode cX7_lay 145 = .ok (.istore_n 1, 1) := by decide +kernel
theorem dX7_lay_146 : decode cX7_lay 146 = .ok (.iload_n 1, 1) := by decide +kernel
theorem dX7_lay_147 : decode cX7_lay 147 = .ok (.bipush 6, 2) := by decide +kernel
theorem dX7_lay_149 : decode cX7_lay 149 = .ok (.if_icmp .ge 21, 3) := by decide +kernel
theorem dX7_lay_152 : decode cX7_lay 152 = .ok (.aload_n 0, 1) := by decide +kernel
theorem dX7_lay_153 : decode cX7_lay 153 = .ok (.getfield 19, 3) := by decide +kernel
theorem dX7_lay_156 : decode cX7_lay 156 = .ok (.iload_n 1, 1) := by decide +kernel
theorem dX7_lay_157 : decode cX7_lay 157 = .ok (.aload_n 0, 1) := by decide +kernel
theorem dX7_lay_158 : decode cX7_lay 158 = .ok (.getfield 25, 3) := by decide +kernel
theorem dX7_lay_161 : decode cX7_lay 161 = .ok (.iload_n 1, 1) := by decide +kernel
theorem dX7_lay_162 : decode cX7_lay 162 = .ok (.iaload, 1) := by decide +kernel
theorem dX7_lay_163 : decode cX7_lay 163 = .ok (.iastore, 1) := by decide +kernel
theorem dX7_lay_164 : decode cX7_lay 164 = .ok (.iinc 1 1, 3) := by decide +kernel
theorem dX7_lay_167 : decode cX7_lay 167 = .ok (.goto (-21), 3) := by decide +kernel
theorem dX7_lay_170 : decode cX7_lay 170 = .ok (.aload_n 0, 1) := by decide +kernel
theorem dX7_lay_171 : decode cX7_lay 171 = .ok (.invokevirtual 59, 3) := by decide +kernel
theorem dX7_lay_174 : decode cX7_lay 174 = .ok (.aload_n 0, 1) := by decide +kernel
theorem dX7_lay_175 : decode cX7_lay 175 = .ok (.getfield 62, 3) := by decide +kernel
theorem dX7_lay_178 : decode cX7_lay 178 = .ok (.ireturn, 1) := by decide +kernel
theorem dX7_isMachine_0 : decode cX7_isMachine 0 = .ok (.iload_n 1, 1) := by decide +kernel
theorem dX7_isMachine_1 : decode cX7_isMachine 1 = .ok (.iconst 0, 1) := by decide +kernel
theorem dX7_isMachine_2 : decode cX7_isMachine 2 = .ok (.aload_n 0, 1) := by decide +kernel
theorem dX7_isMachine_3 : decode cX7_isMachine 3 = .ok (.getfield 53, 3) := by decide +kernel
theorem dX7_isMachine_6 : decode cX7_isMachine 6 = .ok (.iconst 1, 1) := by decide +kernel
theorem dX7_isMachine_7 : decode cX7_isMachine 7 = .ok (.isub, 1) := by decide +kernel
theorem dX7_isMachine_8 : decode cX7_isMachine 8 = .ok (.invokestatic 88, 3) := by decide +kernel
theorem dX7_isMachine_11 : decode cX7_isMachine 11 = .ok (.ireturn, 1) := by decide +kernel
theorem dX7_isWired_0 : decode cX7_isWired 0 = .ok (.aload_n 0, 1) := by decide +kernel
theorem dX7_isWired_1 : decode cX7_isWired 1 = .ok (.getfield 13, 3) := by decide +kernel
theorem dX7_isWired_4 : decode cX7_isWired 4 = .ok (.bipush 6, 2) := by decide +kernel
theorem dX7_isWired_6 : decode cX7_isWired 6 = .ok (.iload_n 1, 1) := by decide +kernel
theorem dX7_isWired_7 : decode cX7_isWired 7 = .ok (.imul, 1) := by decide +kernel
theorem dX7_isWired_8 : decode cX7_isWired 8 = .ok (.iload_n 2, 1) := by decide +kernel
theorem dX7_isWired_9 : decode cX7_isWired 9 = .ok (.iadd, 1) := by decide +kernel
theorem dX7_isWired_10 : decode cX7_isWired 10 = .ok (.iaload, 1) := by decide +kernel
theorem dX7_isWired_11 : decode cX7_isWired 11 = .ok (.iconst 1, 1) := by decide +kernel
theorem dX7_isWired_12 : decode cX7_isWired 12 = .ok (.if_icmp .ne 7, 3) := by decide +kernel
theorem dX7_isWired_15 : decode cX7_isWired 15 = .ok (.iconst 1, 1) := by decide +kernel
theorem dX7_isWired_16 : decode cX7_isWired 16 = .ok (.goto 4, 3) := by decide +kernel
theorem dX7_isWired_19 : decode cX7_isWired 19 = .ok (.iconst 0, 1) := by decide +kernel
theorem dX7_isWired_20 : decode cX7_isWired 20 = .ok (.ireturn, 1) := by decide +kernel
theorem dX7_lowest_0 : decode cX7_lowest 0 = .ok (.iconst 0, 1) := by decide +kernel
theorem dX7_lowest_1 : decode cX7_lowest 1 = .ok (.istore_n 3, 1) := by decide +kernel
theorem dX7_lowest_2 : decode cX7_lowest 2 = .ok (.iload_n 3, 1) := by decide +kernel
theorem dX7_lowest_3 : decode cX7_lowest 3 = .ok (.aload_n 0, 1) := by decide +kernel
theorem dX7_lowest_4 : decode cX7_lowest 4 = .ok (.getfield 53, 3) := by decide +kernel
theorem dX7_lowest_7 : decode cX7_lowest 7 = .ok (.if_icmp .ge 30, 3) := by decide +kernel
theorem dX7_lowest_10 : decode cX7_lowest 10 = .ok (.aload_n 0, 1) := by decide +kernel
theorem dX7_lowest_11 : decode cX7_lowest 11 = .ok (.iload_n 1, 1) := by decide +kernel
theorem dX7_lowest_12 : decode cX7_lowest 12 = .ok (.iload_n 3, 1) := by decide +kernel
theorem dX7_lowest_13 : decode cX7_lowest 13 = .ok (.invokevirtual 116, 3) := by decide +kernel
theorem dX7_lowest_16 : decode cX7_lowest 16 = .ok (.ifCond .eq 15, 3) := by decide +kernel
theorem dX7_lowest_19 : decode cX7_lowest 19 = .ok (.aload_n 0, 1) := by decide +kernel
theorem dX7_lowest_20 : decode cX7_lowest 20 = .ok (.getfield 43, 3) := by decide +kernel
theorem dX7_lowest_23 : decode cX7_lowest 23 = .ok (.iload_n 3, 1) := by decide +kernel
theorem dX7_lowest_24 : decode cX7_lowest 24 = .ok (.iaload, 1) := by decide +kernel
theorem dX7_lowest_25 : decode cX7_lowest 25 = .ok (.iload_n 2, 1) := by decide +kernel
theorem dX7_lowest_26 : decode cX7_lowest 26 = .ok (.if_icmp .ne 5, 3) := by decide +kernel
theorem dX7_lowest_29 : decode cX7_lowest 29 = .ok (.iload_n 3, 1) := by decide +kernel
theorem dX7_lowest_30 : decode cX7_lowest 30 = .ok (.ireturn, 1) := by decide +kernel
theorem dX7_lowest_31 : decode cX7_lowest 31 = .ok (.iinc 3 1, 3) := by decide +kernel
theorem dX7_lowest_34 : decode cX7_lowest 34 = .ok (.goto (-32), 3) := by decide +kernel
theorem dX7_lowest_37 : decode cX7_lowest 37 = .ok (.iconst (-1), 1) := by decide +kernel
theorem dX7_lowest_38 : decode cX7_lowest 38 = .ok (.ireturn, 1) := by decide +kernel
theorem dX7_counters_0 : decode cX7_counters 0 = .ok (.aload_n 0, 1) := by decide +kernel
theorem dX7_counters_1 : decode cX7_counters 1 = .ok (.iconst 1, 1) := by decide +kernel
theorem dX7_counters_2 : decode cX7_counters 2 = .ok (.putfield 120, 3) := by decide +kernel
theorem dX7_counters_5 : decode cX7_counters 5 = .ok (.aload_n 0, 1) := by decide +kernel
theorem dX7_counters_6 : decode cX7_counters 6 = .ok (.getfield 43, 3) := by decide +kernel
theorem dX7_counters_9 : decode cX7_counters 9 = .ok (.iload_n 1, 1) := by decide +kernel
theorem dX7_counters_10 : decode cX7_counters 10 = .ok (.ifCond .ne 12, 3) := by decide +kernel
theorem dX7_counters_13 : decode cX7_counters 13 = .ok (.aload_n 0, 1) := by decide +kernel
theorem dX7_counters_14 : decode cX7_counters 14 = .ok (.getfield 53, 3) := by decide +kernel
theorem dX7_counters_17 : decode cX7_counters 17 = .ok (.iconst 1, 1) := by decide +kernel
theorem dX7_counters_18 : decode cX7_counters 18 = .ok (.isub, 1) := by decide +kernel
theorem dX7_counters_19 : decode cX7_counters 19 = .ok (.goto 6, 3) := by decide +kernel
theorem dX7_counters_22 : decode cX7_counters 22 = .ok (.iload_n 1, 1) := by decide +kernel
theorem dX7_counters_23 : decode cX7_counters 23 = .ok (.iconst 1, 1) := by decide +kernel
theorem dX7_counters_24 : decode cX7_counters 24 = .ok (.isub, 1) := by decide +kernel
theorem dX7_counters_25 : decode cX7_counters 25 = .ok (.iaload, 1) := by decide +kernel
theorem dX7_counters_26 : decode cX7_counters 26 = .ok (.istore_n 2, 1) := by decide +kernel
theorem dX7_counters_27 : decode cX7_counters 27 = .ok (.iload_n 1, 1) := by decide +kernel
theorem dX7_counters_28 : decode cX7_counters 28 = .ok (.ifCond .ne 31, 3) := by decide +kernel
theorem dX7_counters_31 : decode cX7_counters 31 = .ok (.aload_n 0, 1) := by decide +kernel
theorem dX7_counters_32 : decode cX7_counters 32 = .ok (.getfield 43, 3) := by decide +kernel
theorem dX7_counters_35 : decode cX7_counters 35 = .ok (.iconst 0, 1) := by decide +kernel
theorem dX7_counters_36 : decode cX7_counters 36 = .ok (.iaload, 1) := by decide +kernel
theorem dX7_counters_37 : decode cX7_counters 37 = .ok (.iload_n 2, 1) := by decide +kernel
theorem dX7_counters_38 : decode cX7_counters 38 = .ok (.if_icmp .ne 19, 3) := by decide +kernel
theorem dX7_counters_41 : decode cX7_counters 41 = .ok (.aload_n 0, 1) := by decide +kernel
theorem dX7_counters_42 : decode cX7_counters 42 = .ok (.getfield 43, 3) := by decide +kernel
theorem dX7_counters_45 : decode cX7_counters 45 = .ok (.iconst 0, 1) := by decide +kernel
theorem dX7_counters_46 : decode cX7_counters 46 = .ok (.iaload, 1) := by decide +kernel
theorem dX7_counters_47 : decode cX7_counters 47 = .ok (.iconst 1, 1) := by decide +kernel
theorem dX7_counters_48 : decode cX7_counters 48 = .ok (.iadd, 1) := by decide +kernel
theorem dX7_counters_49 : decode cX7_counters 49 = .ok (.aload_n 0, 1) := by decide +kernel
theorem dX7_counters_50 : decode cX7_counters 50 = .ok (.getfield 56, 3) := by decide +kernel
theorem dX7_counters_53 : decode cX7_counters 53 = .ok (.irem, 1) := by decide +kernel
theorem dX7_counters_54 : decode cX7_counters 54 = .ok (.goto 4, 3) := by decide +kernel
theorem dX7_counters_57 : decode cX7_counters 57 = .ok (.iconst (-1), 1) := by decide +kernel
theorem dX7_counters_58 : decode cX7_counters 58 = .ok (.ireturn, 1) := by decide +kernel
theorem dX7_counters_59 : decode cX7_counters 59 = .ok (.aload_n 0, 1) := by decide +kernel
theorem dX7_counters_60 : decode cX7_counters 60 = .ok (.getfield 43, 3) := by decide +kernel
theorem dX7_counters_63 : decode cX7_counters 63 = .ok (.iload_n 1, 1) := by decide +kernel
theorem dX7_counters_64 : decode cX7_counters 64 = .ok (.iaload, 1) := by decide +kernel
theorem dX7_counters_65 : decode cX7_counters 65 = .ok (.iload_n 2, 1) := by decide +kernel
theorem dX7_counters_66 : decode cX7_counters 66 = .ok (.if_icmp .ne 7, 3) := by decide +kernel
theorem dX7_counters_69 : decode cX7_counters 69 = .ok (.iconst (-1), 1) := by decide +kernel
theorem dX7_counters_70 : decode cX7_counters 70 = .ok (.goto 4, 3) := by decide +kernel
theorem dX7_counters_73 : decode cX7_counters 73 = .ok (.iload_n 2, 1) := by decide +kernel
theorem dX7_counters_74 : decode cX7_counters 74 = .ok (.ireturn, 1) := by decide +kernel
theorem dX7_pointers_0 : decode cX7_pointers 0 = .ok (.aload_n 0, 1) := by decide +kernel
theorem dX7_pointers_1 : decode cX7_pointers 1 = .ok (.getfield 43, 3) := by decide +kernel
theorem dX7_pointers_4 : decode cX7_pointers 4 = .ok (.iload_n 1, 1) := by decide +kernel
theorem dX7_pointers_5 : decode cX7_pointers 5 = .ok (.iaload, 1) := by decide +kernel
theorem dX7_pointers_6 : decode cX7_pointers 6 = .ok (.iconst 1, 1) := by decide +kernel
theorem dX7_pointers_7 : decode cX7_pointers 7 = .ok (.isub, 1) := by decide +kernel
theorem dX7_pointers_8 : decode cX7_pointers 8 = .ok (.istore_n 2, 1) := by decide +kernel
theorem dX7_pointers_9 : decode cX7_pointers 9 = .ok (.iload_n 2, 1) := by decide +kernel
theorem dX7_pointers_10 : decode cX7_pointers 10 = .ok (.ifCond .lt 49, 3) := by decide +kernel
theorem dX7_pointers_13 : decode cX7_pointers 13 = .ok (.aload_n 0, 1) := by decide +kernel
theorem dX7_pointers_14 : decode cX7_pointers 14 = .ok (.iconst 3, 1) := by decide +kernel
theorem dX7_pointers_15 : decode cX7_pointers 15 = .ok (.putfield 120, 3) := by decide +kernel
theorem dX7_pointers_18 : decode cX7_pointers 18 = .ok (.iload_n 2, 1) := by decide +kernel
theorem dX7_pointers_19 : decode cX7_pointers 19 = .ok (.iload_n 1, 1) := by decide +kernel
theorem dX7_pointers_20 : decode cX7_pointers 20 = .ok (.if_icmp .eq 33, 3) := by decide +kernel
theorem dX7_pointers_23 : decode cX7_pointers 23 = .ok (.aload_n 0, 1) := by decide +kernel
theorem dX7_pointers_24 : decode cX7_pointers 24 = .ok (.iload_n 1, 1) := by decide +kernel
theorem dX7_pointers_25 : decode cX7_pointers 25 = .ok (.iload_n 2, 1) := by decide +kernel
theorem dX7_pointers_26 : decode cX7_pointers 26 = .ok (.invokevirtual 116, 3) := by decide +kernel
theorem dX7_pointers_29 : decode cX7_pointers 29 = .ok (.ifCond .eq 24, 3) := by decide +kernel
theorem dX7_pointers_32 : decode cX7_pointers 32 = .ok (.aload_n 0, 1) := by decide +kernel
theorem dX7_pointers_33 : decode cX7_pointers 33 = .ok (.getfield 43, 3) := by decide +kernel
theorem dX7_pointers_36 : decode cX7_pointers 36 = .ok (.iload_n 2, 1) := by decide +kernel
theorem dX7_pointers_37 : decode cX7_pointers 37 = .ok (.iaload, 1) := by decide +kernel
theorem dX7_pointers_38 : decode cX7_pointers 38 = .ok (.ifCond .eq 19, 3) := by decide +kernel
theorem dX7_pointers_41 : decode cX7_pointers 41 = .ok (.aload_n 0, 1) := by decide +kernel
theorem dX7_pointers_42 : decode cX7_pointers 42 = .ok (.getfield 43, 3) := by decide +kernel
theorem dX7_pointers_45 : decode cX7_pointers 45 = .ok (.iload_n 2, 1) := by decide +kernel
theorem dX7_pointers_46 : decode cX7_pointers 46 = .ok (.iaload, 1) := by decide +kernel
theorem dX7_pointers_47 : decode cX7_pointers 47 = .ok (.iload_n 1, 1) := by decide +kernel
theorem dX7_pointers_48 : decode cX7_pointers 48 = .ok (.iconst 1, 1) := by decide +kernel
theorem dX7_pointers_49 : decode cX7_pointers 49 = .ok (.iadd, 1) := by decide +kernel
theorem dX7_pointers_50 : decode cX7_pointers 50 = .ok (.if_icmp .eq 7, 3) := by decide +kernel
theorem dX7_pointers_53 : decode cX7_pointers 53 = .ok (.iconst 0, 1) := by decide +kernel
theorem dX7_pointers_54 : decode cX7_pointers 54 = .ok (.goto 4, 3) := by decide +kernel
theorem dX7_pointers_57 : decode cX7_pointers 57 = .ok (.iconst (-1), 1) := by decide +kernel
theorem dX7_pointers_58 : decode cX7_pointers 58 = .ok (.ireturn, 1) := by decide +kernel
theorem dX7_pointers_59 : decode cX7_pointers 59 = .ok (.aload_n 0, 1) := by decide +kernel
theorem dX7_pointers_60 : decode cX7_pointers 60 = .ok (.iconst 1, 1) := by decide +kernel
theorem dX7_pointers_61 : decode cX7_pointers 61 = .ok (.putfield 120, 3) := by decide +kernel
theorem dX7_pointers_64 : decode cX7_pointers 64 = .ok (.aload_n 0, 1) := by decide +kernel
theorem dX7_pointers_65 : decode cX7_pointers 65 = .ok (.iload_n 1, 1) := by decide +kernel
theorem dX7_pointers_66 : decode cX7_pointers 66 = .ok (.iload_n 1, 1) := by decide +kernel
theorem dX7_pointers_67 : decode cX7_pointers 67 = .ok (.iconst 1, 1) := by decide +kernel
theorem dX7_pointers_68 : decode cX7_pointers 68 = .ok (.iadd, 1) := by decide +kernel
theorem dX7_pointers_69 : decode cX7_pointers 69 = .ok (.invokevirtual 123, 3) := by decide +kernel
theorem dX7_pointers_72 : decode cX7_pointers 72 = .ok (.istore_n 3, 1) := by decide +kernel
theorem dX7_pointers_73 : decode cX7_pointers 73 = .ok (.iload_n 3, 1) := by decide +kernel
theorem dX7_pointers_74 : decode cX7_pointers 74 = .ok (.ifCond .ge 15, 3) := by decide +kernel
theorem dX7_pointers_77 : decode cX7_pointers 77 = .ok (.aload_n 0, 1) := by decide +kernel
theorem dX7_pointers_78 : decode cX7_pointers 78 = .ok (.iconst 2, 1) := by decide +kernel
theorem dX7_pointers_79 : decode cX7_pointers 79 = .ok (.putfield 120, 3) := by decide +kernel
theorem dX7_pointers_82 : decode cX7_pointers 82 = .ok (.aload_n 0, 1) := by decide +kernel
theorem dX7_pointers_83 : decode cX7_pointers 83 = .ok (.iload_n 1, 1) := by decide +kernel
theorem dX7_pointers_84 : decode cX7_pointers 84 = .ok (.iconst 0, 1) := by decide +kernel
theorem dX7_pointers_85 : decode cX7_pointers 85 = .ok (.invokevirtual 123, 3) := by decide +kernel
theorem dX7_pointers_88 : decode cX7_pointers 88 = .ok (.istore_n 3, 1) := by decide +kernel
theorem dX7_pointers_89 : decode cX7_pointers 89 = .ok (.iload_n 3, 1) := by decide +kernel
theorem dX7_pointers_90 : decode cX7_pointers 90 = .ok (.ifCond .ge 7, 3) := by decide +kernel
theorem dX7_pointers_93 : decode cX7_pointers 93 = .ok (.iconst (-1), 1) := by decide +kernel
theorem dX7_pointers_94 : decode cX7_pointers 94 = .ok (.goto 6, 3) := by decide +kernel
theorem dX7_pointers_97 : decode cX7_pointers 97 = .ok (.iload_n 3, 1) := by decide +kernel
theorem dX7_pointers_98 : decode cX7_pointers 98 = .ok (.iconst 1, 1) := by decide +kernel
theorem dX7_pointers_99 : decode cX7_pointers 99 = .ok (.iadd, 1) := by decide +kernel
theorem dX7_pointers_100 : decode cX7_pointers 100 = .ok (.ireturn, 1) := by decide +kernel
theorem dX7_distances_0 : decode cX7_distances 0 = .ok (.aload_n 0, 1) := by decide +kernel
theorem dX7_distances_1 : decode cX7_distances 1 = .ok (.iconst 1, 1) := by decide +kernel
theorem dX7_distances_2 : decode cX7_distances 2 = .ok (.putfield 120, 3) := by decide +kernel
theorem dX7_distances_5 : decode cX7_distances 5 = .ok (.iload_n 1, 1) := by decide +kernel
theorem dX7_distances_6 : decode cX7_distances 6 = .ok (.ifCond .ne 7, 3) := by decide +kernel
theorem dX7_distances_9 : decode cX7_distances 9 = .ok (.iconst 0, 1) := by decide +kernel
theorem dX7_distances_10 : decode cX7_distances 10 = .ok (.goto 9, 3) := by decide +kernel
theorem dX7_distances_13 : decode cX7_distances 13 = .ok (.aload_n 0, 1) := by decide +kernel
theorem dX7_distances_14 : decode cX7_distances 14 = .ok (.getfield 56, 3) := by decide +kernel
theorem dX7_distances_17 : decode cX7_distances 17 = .ok (.iconst 1, 1) := by decide +kernel
theorem dX7_distances_18 : decode cX7_distances 18 = .ok (.isub, 1) := by decide +kernel
theorem dX7_distances_19 : decode cX7_distances 19 = .ok (.istore_n 2, 1) := by decide +kernel
theorem dX7_distances_20 : decode cX7_distances 20 = .ok (.iconst 0, 1) := by decide +kernel
theorem dX7_distances_21 : decode cX7_distances 21 = .ok (.istore_n 3, 1) := by decide +kernel
theorem dX7_distances_22 : decode cX7_distances 22 = .ok (.iload_n 3, 1) := by decide +kernel
theorem dX7_distances_23 : decode cX7_distances 23 = .ok (.aload_n 0, 1) := by decide +kernel
theorem dX7_distances_24 : decode cX7_distances 24 = .ok (.getfield 53, 3) := by decide +kernel
theorem dX7_distances_27 : decode cX7_distances 27 = .ok (.if_icmp .ge 43, 3) := by decide +kernel
theorem dX7_distances_30 : decode cX7_distances 30 = .ok (.iload_n 1, 1) := by decide +kernel
theorem dX7_distances_31 : decode cX7_distances 31 = .ok (.ifCond .le 39, 3) := by decide +kernel
theorem dX7_distances_34 : decode cX7_distances 34 = .ok (.aload_n 0, 1) := by decide +kernel
theorem dX7_distances_35 : decode cX7_distances 35 = .ok (.iload_n 1, 1) := by decide +kernel
theorem dX7_distances_36 : decode cX7_distances 36 = .ok (.iload_n 3, 1) := by decide +kernel
theorem dX7_distances_37 : decode cX7_distances 37 = .ok (.invokevirtual 116, 3) := by decide +kernel
theorem dX7_distances_40 : decode cX7_distances 40 = .ok (.ifCond .eq 24, 3) := by decide +kernel
theorem dX7_distances_43 : decode cX7_distances 43 = .ok (.aload_n 0, 1) := by decide +kernel
theorem dX7_distances_44 : decode cX7_distances 44 = .ok (.getfield 43, 3) := by decide +kernel
theorem dX7_distances_47 : decode cX7_distances 47 = .ok (.iload_n 3, 1) := by decide +kernel
theorem dX7_distances_48 : decode cX7_distances 48 = .ok (.iaload, 1) := by decide +kernel
theorem dX7_distances_49 : decode cX7_distances 49 = .ok (.iconst 1, 1) := by decide +kernel
theorem dX7_distances_50 : decode cX7_distances 50 = .ok (.iadd, 1) := by decide +kernel
theorem dX7_distances_51 : decode cX7_distances 51 = .ok (.iload_n 2, 1) := by decide +kernel
theorem dX7_distances_52 : decode cX7_distances 52 = .ok (.if_icmp .ge 12, 3) := by decide +kernel
theorem dX7_distances_55 : decode cX7_distances 55 = .ok (.aload_n 0, 1) := by decide +kernel
theorem dX7_distances_56 : decode cX7_distances 56 = .ok (.getfield 43, 3) := by decide +kernel
theorem dX7_distances_59 : decode cX7_distances 59 = .ok (.iload_n 3, 1) := by decide +kernel
theorem dX7_distances_60 : decode cX7_distances 60 = .ok (.iaload, 1) := by decide +kernel
theorem dX7_distances_61 : decode cX7_distances 61 = .ok (.iconst 1, 1) := by decide +kernel
theorem dX7_distances_62 : decode cX7_distances 62 = .ok (.iadd, 1) := by decide +kernel
theorem dX7_distances_63 : decode cX7_distances 63 = .ok (.istore_n 2, 1) := by decide +kernel
theorem dX7_distances_64 : decode cX7_distances 64 = .ok (.iinc 3 1, 3) := by decide +kernel
theorem dX7_distances_67 : decode cX7_distances 67 = .ok (.goto (-45), 3) := by decide +kernel
theorem dX7_distances_70 : decode cX7_distances 70 = .ok (.iload_n 2, 1) := by decide +kernel
theorem dX7_distances_71 : decode cX7_distances 71 = .ok (.aload_n 0, 1) := by decide +kernel
theorem dX7_distances_72 : decode cX7_distances 72 = .ok (.getfield 43, 3) := by decide +kernel
theorem dX7_distances_75 : decode cX7_distances 75 = .ok (.iload_n 1, 1) := by decide +kernel
theorem dX7_distances_76 : decode cX7_distances 76 = .ok (.iaload, 1) := by decide +kernel
theorem dX7_distances_77 : decode cX7_distances 77 = .ok (.if_icmp .ne 7, 3) := by decide +kernel
theorem dX7_distances_80 : decode cX7_distances 80 = .ok (.iconst (-1), 1) := by decide +kernel
theorem dX7_distances_81 : decode cX7_distances 81 = .ok (.goto 4, 3) := by decide +kernel
theorem dX7_distances_84 : decode cX7_distances 84 = .ok (.iload_n 2, 1) := by decide +kernel
theorem dX7_distances_85 : decode cX7_distances 85 = .ok (.ireturn, 1) := by decide +kernel
theorem dX7_colours_0 : decode cX7_colours 0 = .ok (.aload_n 0, 1) := by decide +kernel
theorem dX7_colours_1 : decode cX7_colours 1 = .ok (.iconst 1, 1) := by decide +kernel
theorem dX7_colours_2 : decode cX7_colours 2 = .ok (.putfield 120, 3) := by decide +kernel
theorem dX7_colours_5 : decode cX7_colours 5 = .ok (.aload_n 0, 1) := by decide +kernel
theorem dX7_colours_6 : decode cX7_colours 6 = .ok (.iload_n 1, 1) := by decide +kernel
theorem dX7_colours_7 : decode cX7_colours 7 = .ok (.aload_n 0, 1) := by decide +kernel
theorem dX7_colours_8 : decode cX7_colours 8 = .ok (.getfield 43, 3) := by decide +kernel
theorem dX7_colours_11 : decode cX7_colours 11 = .ok (.iload_n 1, 1) := by decide +kernel
theorem dX7_colours_12 : decode cX7_colours 12 = .ok (.iaload, 1) := by decide +kernel
theorem dX7_colours_13 : decode cX7_colours 13 = .ok (.invokevirtual 123, 3) := by decide +kernel
theorem dX7_colours_16 : decode cX7_colours 16 = .ok (.ifCond .ge 5, 3) := by decide +kernel
theorem dX7_colours_19 : decode cX7_colours 19 = .ok (.iconst (-1), 1) := by decide +kernel
theorem dX7_colours_20 : decode cX7_colours 20 = .ok (.ireturn, 1) := by decide +kernel
theorem dX7_colours_21 : decode cX7_colours 21 = .ok (.iconst 0, 1) := by decide +kernel
theorem dX7_colours_22 : decode cX7_colours 22 = .ok (.istore_n 2, 1) := by decide +kernel
theorem dX7_colours_23 : decode cX7_colours 23 = .ok (.aload_n 0, 1) := by decide +kernel
theorem dX7_colours_24 : decode cX7_colours 24 = .ok (.iload_n 1, 1) := by decide +kernel
theorem dX7_colours_25 : decode cX7_colours 25 = .ok (.iload_n 2, 1) := by decide +kernel
theorem dX7_colours_26 : decode cX7_colours 26 = .ok (.invokevirtual 123, 3) := by decide +kernel
theorem dX7_colours_29 : decode cX7_colours 29 = .ok (.ifCond .lt 9, 3) := by decide +kernel
theorem dX7_colours_32 : decode cX7_colours 32 = .ok (.iinc 2 1, 3) := by decide +kernel
theorem dX7_colours_35 : decode cX7_colours 35 = .ok (.goto (-12), 3) := by decide +kernel
theorem dX7_colours_38 : decode cX7_colours 38 = .ok (.iload_n 2, 1) := by decide +kernel
theorem dX7_colours_39 : decode cX7_colours 39 = .ok (.ireturn, 1) := by decide +kernel
theorem dX7_becomesOf_0 : decode cX7_becomesOf 0 = .ok (.aload_n 0, 1) := by decide +kernel
theorem dX7_becomesOf_1 : decode cX7_becomesOf 1 = .ok (.getfield 49, 3) := by decide +kernel
theorem dX7_becomesOf_4 : decode cX7_becomesOf 4 = .ok (.iconst 1, 1) := by decide +kernel
theorem dX7_becomesOf_5 : decode cX7_becomesOf 5 = .ok (.if_icmp .ne 11, 3) := by decide +kernel
theorem dX7_becomesOf_8 : decode cX7_becomesOf 8 = .ok (.aload_n 0, 1) := by decide +kernel
theorem dX7_becomesOf_9 : decode cX7_becomesOf 9 = .ok (.iload_n 1, 1) := by decide +kernel
theorem dX7_becomesOf_10 : decode cX7_becomesOf 10 = .ok (.invokevirtual 126, 3) := by decide +kernel
theorem dX7_becomesOf_13 : decode cX7_becomesOf 13 = .ok (.goto 40, 3) := by decide +kernel
theorem dX7_becomesOf_16 : decode cX7_becomesOf 16 = .ok (.aload_n 0, 1) := by decide +kernel
theorem dX7_becomesOf_17 : decode cX7_becomesOf 17 = .ok (.getfield 49, 3) := by decide +kernel
theorem dX7_becomesOf_20 : decode cX7_becomesOf 20 = .ok (.iconst 2, 1) := by decide +kernel
theorem dX7_becomesOf_21 : decode cX7_becomesOf 21 = .ok (.if_icmp .ne 11, 3) := by decide +kernel
theorem dX7_becomesOf_24 : decode cX7_becomesOf 24 = .ok (.aload_n 0, 1) := by decide +kernel
theorem dX7_becomesOf_25 : decode cX7_becomesOf 25 = .ok (.iload_n 1, 1) := by decide +kernel
theorem dX7_becomesOf_26 : decode cX7_becomesOf 26 = .ok (.invokevirtual 129, 3) := by decide +kernel
theorem dX7_becomesOf_29 : decode cX7_becomesOf 29 = .ok (.goto 24, 3) := by decide +kernel
theorem dX7_becomesOf_32 : decode cX7_becomesOf 32 = .ok (.aload_n 0, 1) := by decide +kernel
theorem dX7_becomesOf_33 : decode cX7_becomesOf 33 = .ok (.getfield 49, 3) := by decide +kernel
theorem dX7_becomesOf_36 : decode cX7_becomesOf 36 = .ok (.iconst 3, 1) := by decide +kernel
theorem dX7_becomesOf_37 : decode cX7_becomesOf 37 = .ok (.if_icmp .ne 11, 3) := by decide +kernel
theorem dX7_becomesOf_40 : decode cX7_becomesOf 40 = .ok (.aload_n 0, 1) := by decide +kernel
theorem dX7_becomesOf_41 : decode cX7_becomesOf 41 = .ok (.iload_n 1, 1) := by decide +kernel
theorem dX7_becomesOf_42 : decode cX7_becomesOf 42 = .ok (.invokevirtual 132, 3) := by decide +kernel
theorem dX7_becomesOf_45 : decode cX7_becomesOf 45 = .ok (.goto 8, 3) := by decide +kernel
theorem dX7_becomesOf_48 : decode cX7_becomesOf 48 = .ok (.aload_n 0, 1) := by decide +kernel
theorem dX7_becomesOf_49 : decode cX7_becomesOf 49 = .ok (.iload_n 1, 1) := by decide +kernel
theorem dX7_becomesOf_50 : decode cX7_becomesOf 50 = .ok (.invokevirtual 135, 3) := by decide +kernel
theorem dX7_becomesOf_53 : decode cX7_becomesOf 53 = .ok (.ireturn, 1) := by decide +kernel
theorem dX7_tokensOf_0 : decode cX7_tokensOf 0 = .ok (.iconst 0, 1) := by decide +kernel
theorem dX7_tokensOf_1 : decode cX7_tokensOf 1 = .ok (.istore_n 1, 1) := by decide +kernel
theorem dX7_tokensOf_2 : decode cX7_tokensOf 2 = .ok (.iconst 0, 1) := by decide +kernel
theorem dX7_tokensOf_3 : decode cX7_tokensOf 3 = .ok (.istore_n 2, 1) := by decide +kernel
theorem dX7_tokensOf_4 : decode cX7_tokensOf 4 = .ok (.iload_n 2, 1) := by decide +kernel
theorem dX7_tokensOf_5 : decode cX7_tokensOf 5 = .ok (.aload_n 0, 1) := by decide +kernel
theorem dX7_tokensOf_6 : decode cX7_tokensOf 6 = .ok (.getfield 53, 3) := by decide +kernel
theorem dX7_tokensOf_9 : decode cX7_tokensOf 9 = .ok (.if_icmp .ge 27, 3) := by decide +kernel
theorem dX7_tokensOf_12 : decode cX7_tokensOf 12 = .ok (.iload_n 1, 1) := by decide +kernel
theorem dX7_tokensOf_13 : decode cX7_tokensOf 13 = .ok (.aload_n 0, 1) := by decide +kernel
theorem dX7_tokensOf_14 : decode cX7_tokensOf 14 = .ok (.iload_n 2, 1) := by decide +kernel
theorem dX7_tokensOf_15 : decode cX7_tokensOf 15 = .ok (.invokevirtual 138, 3) := by decide +kernel
theorem dX7_tokensOf_18 : decode cX7_tokensOf 18 = .ok (.ifCond .lt 9, 3) := by decide +kernel
theorem dX7_tokensOf_21 : decode cX7_tokensOf 21 = .ok (.iconst 1, 1) := by decide +kernel
theorem dX7_tokensOf_22 : decode cX7_tokensOf 22 = .ok (.iload_n 2, 1) := by decide +kernel
theorem dX7_tokensOf_23 : decode cX7_tokensOf 23 = .ok (.ishl, 1) := by decide +kernel
theorem dX7_tokensOf_24 : decode cX7_tokensOf 24 = .ok (.goto 4, 3) := by decide +kernel
theorem dX7_tokensOf_27 : decode cX7_tokensOf 27 = .ok (.iconst 0, 1) := by decide +kernel
theorem dX7_tokensOf_28 : decode cX7_tokensOf 28 = .ok (.ior, 1) := by decide +kernel
theorem dX7_tokensOf_29 : decode cX7_tokensOf 29 = .ok (.istore_n 1, 1) := by decide +kernel
theorem dX7_tokensOf_30 : decode cX7_tokensOf 30 = .ok (.iinc 2 1, 3) := by decide +kernel
theorem dX7_tokensOf_33 : decode cX7_tokensOf 33 = .ok (.goto (-29), 3) := by decide +kernel
theorem dX7_tokensOf_36 : decode cX7_tokensOf 36 = .ok (.iload_n 1, 1) := by decide +kernel
theorem dX7_tokensOf_37 : decode cX7_tokensOf 37 = .ok (.ireturn, 1) := by decide +kernel
theorem dX7_isLegal_0 : decode cX7_isLegal 0 = .ok (.aload_n 0, 1) := by decide +kernel
theorem dX7_isLegal_1 : decode cX7_isLegal 1 = .ok (.invokevirtual 141, 3) := by decide +kernel
theorem dX7_isLegal_4 : decode cX7_isLegal 4 = .ok (.istore_n 1, 1) := by decide +kernel
theorem dX7_isLegal_5 : decode cX7_isLegal 5 = .ok (.aload_n 0, 1) := by decide +kernel
theorem dX7_isLegal_6 : decode cX7_isLegal 6 = .ok (.getfield 49, 3) := by decide +kernel
theorem dX7_isLegal_9 : decode cX7_isLegal 9 = .ok (.iconst 1, 1) := by decide +kernel
theorem dX7_isLegal_10 : decode cX7_isLegal 10 = .ok (.if_icmp .ne 23, 3) := by decide +kernel
theorem dX7_isLegal_13 : decode cX7_isLegal 13 = .ok (.iload_n 1, 1) := by decide +kernel
theorem dX7_isLegal_14 : decode cX7_isLegal 14 = .ok (.ifCond .eq 15, 3) := by decide +kernel
theorem dX7_isLegal_17 : decode cX7_isLegal 17 = .ok (.iload_n 1, 1) := by decide +kernel
theorem dX7_isLegal_18 : decode cX7_isLegal 18 = .ok (.iload_n 1, 1) := by decide +kernel
theorem dX7_isLegal_19 : decode cX7_isLegal 19 = .ok (.iconst 1, 1) := by decide +kernel
theorem dX7_isLegal_20 : decode cX7_isLegal 20 = .ok (.isub, 1) := by decide +kernel
theorem dX7_isLegal_21 : decode cX7_isLegal 21 = .ok (.iand, 1) := by decide +kernel
theorem dX7_isLegal_22 : decode cX7_isLegal 22 = .ok (.ifCond .ne 7, 3) := by decide +kernel
theorem dX7_isLegal_25 : decode cX7_isLegal 25 = .ok (.iconst 1, 1) := by decide +kernel
theorem dX7_isLegal_26 : decode cX7_isLegal 26 = .ok (.goto 16, 3) := by decide +kernel
theorem dX7_isLegal_29 : decode cX7_isLegal 29 = .ok (.iconst 0, 1) := by decide +kernel
theorem dX7_isLegal_30 : decode cX7_isLegal 30 = .ok (.goto 12, 3) := by decide +kernel
theorem dX7_isLegal_33 : decode cX7_isLegal 33 = .ok (.iload_n 1, 1) := by decide +kernel
theorem dX7_isLegal_34 : decode cX7_isLegal 34 = .ok (.ifCond .ne 7, 3) := by decide +kernel
theorem dX7_isLegal_37 : decode cX7_isLegal 37 = .ok (.iconst 1, 1) := by decide +kernel
theorem dX7_isLegal_38 : decode cX7_isLegal 38 = .ok (.goto 4, 3) := by decide +kernel
theorem dX7_isLegal_41 : decode cX7_isLegal 41 = .ok (.iconst 0, 1) := by decide +kernel
theorem dX7_isLegal_42 : decode cX7_isLegal 42 = .ok (.ireturn, 1) := by decide +kernel
theorem dX7_rowOf_0 : decode cX7_rowOf 0 = .ok (.iload_n 1, 1) := by decide +kernel
theorem dX7_rowOf_1 : decode cX7_rowOf 1 = .ok (.istore_n 2, 1) := by decide +kernel
theorem dX7_rowOf_2 : decode cX7_rowOf 2 = .ok (.iconst 0, 1) := by decide +kernel
theorem dX7_rowOf_3 : decode cX7_rowOf 3 = .ok (.istore_n 3, 1) := by decide +kernel
theorem dX7_rowOf_4 : decode cX7_rowOf 4 = .ok (.iload_n 3, 1) := by decide +kernel
theorem dX7_rowOf_5 : decode cX7_rowOf 5 = .ok (.aload_n 0, 1) := by decide +kernel
theorem dX7_rowOf_6 : decode cX7_rowOf 6 = .ok (.getfield 53, 3) := by decide +kernel
theorem dX7_rowOf_9 : decode cX7_rowOf 9 = .ok (.if_icmp .ge 28, 3) := by decide +kernel
theorem dX7_rowOf_12 : decode cX7_rowOf 12 = .ok (.aload_n 0, 1) := by decide +kernel
theorem dX7_rowOf_13 : decode cX7_rowOf 13 = .ok (.getfield 43, 3) := by decide +kernel
theorem dX7_rowOf_16 : decode cX7_rowOf 16 = .ok (.iload_n 3, 1) := by decide +kernel
theorem dX7_rowOf_17 : decode cX7_rowOf 17 = .ok (.iload_n 2, 1) := by decide +kernel
theorem dX7_rowOf_18 : decode cX7_rowOf 18 = .ok (.aload_n 0, 1) := by decide +kernel
theorem dX7_rowOf_19 : decode cX7_rowOf 19 = .ok (.getfield 56, 3) := by decide +kernel
theorem dX7_rowOf_22 : decode cX7_rowOf 22 = .ok (.irem, 1) := by decide +kernel
theorem dX7_rowOf_23 : decode cX7_rowOf 23 = .ok (.iastore, 1) := by decide +kernel
theorem dX7_rowOf_24 : decode cX7_rowOf 24 = .ok (.iload_n 2, 1) := by decide +kernel
theorem dX7_rowOf_25 : decode cX7_rowOf 25 = .ok (.aload_n 0, 1) := by decide +kernel
theorem dX7_rowOf_26 : decode cX7_rowOf 26 = .ok (.getfield 56, 3) := by decide +kernel
theorem dX7_rowOf_29 : decode cX7_rowOf 29 = .ok (.idiv, 1) := by decide +kernel
theorem dX7_rowOf_30 : decode cX7_rowOf 30 = .ok (.istore_n 2, 1) := by decide +kernel
theorem dX7_rowOf_31 : decode cX7_rowOf 31 = .ok (.iinc 3 1, 3) := by decide +kernel
theorem dX7_rowOf_34 : decode cX7_rowOf 34 = .ok (.goto (-30), 3) := by decide +kernel
theorem dX7_rowOf_37 : decode cX7_rowOf 37 = .ok (.return_, 1) := by decide +kernel
theorem dX7_rowNow_0 : decode cX7_rowNow 0 = .ok (.iconst 0, 1) := by decide +kernel
theorem dX7_rowNow_1 : decode cX7_rowNow 1 = .ok (.istore_n 1, 1) := by decide +kernel
theorem dX7_rowNow_2 : decode cX7_rowNow 2 = .ok (.iload_n 1, 1) := by decide +kernel
theorem dX7_rowNow_3 : decode cX7_rowNow 3 = .ok (.aload_n 0, 1) := by decide +kernel
theorem dX7_rowNow_4 : decode cX7_rowNow 4 = .ok (.getfield 53, 3) := by decide +kernel
theorem dX7_rowNow_7 : decode cX7_rowNow 7 = .ok (.if_icmp .ge 21, 3) := by decide +kernel
theorem dX7_rowNow_10 : decode cX7_rowNow 10 = .ok (.aload_n 0, 1) := by decide +kernel
theorem dX7_rowNow_11 : decode cX7_rowNow 11 = .ok (.getfield 43, 3) := by decide +kernel
theorem dX7_rowNow_14 : decode cX7_rowNow 14 = .ok (.iload_n 1, 1) := by decide +kernel
theorem dX7_rowNow_15 : decode cX7_rowNow 15 = .ok (.aload_n 0, 1) := by decide +kernel
theorem dX7_rowNow_16 : decode cX7_rowNow 16 = .ok (.getfield 19, 3) := by decide +kernel
theorem dX7_rowNow_19 : decode cX7_rowNow 19 = .ok (.iload_n 1, 1) := by decide +kernel
theorem dX7_rowNow_20 : decode cX7_rowNow 20 = .ok (.iaload, 1) := by decide +kernel
theorem dX7_rowNow_21 : decode cX7_rowNow 21 = .ok (.iastore, 1) := by decide +kernel
theorem dX7_rowNow_22 : decode cX7_rowNow 22 = .ok (.iinc 1 1, 3) := by decide +kernel
theorem dX7_rowNow_25 : decode cX7_rowNow 25 = .ok (.goto (-23), 3) := by decide +kernel
theorem dX7_rowNow_28 : decode cX7_rowNow 28 = .ok (.return_, 1) := by decide +kernel
theorem dX7_codeOf_0 : decode cX7_codeOf 0 = .ok (.iconst 0, 1) := by decide +kernel
theorem dX7_codeOf_1 : decode cX7_codeOf 1 = .ok (.istore_n 1, 1) := by decide +kernel
theorem dX7_codeOf_2 : decode cX7_codeOf 2 = .ok (.iconst 0, 1) := by decide +kernel
theorem dX7_codeOf_3 : decode cX7_codeOf 3 = .ok (.istore_n 2, 1) := by decide +kernel
theorem dX7_codeOf_4 : decode cX7_codeOf 4 = .ok (.iload_n 2, 1) := by decide +kernel
theorem dX7_codeOf_5 : decode cX7_codeOf 5 = .ok (.aload_n 0, 1) := by decide +kernel
theorem dX7_codeOf_6 : decode cX7_codeOf 6 = .ok (.getfield 53, 3) := by decide +kernel
theorem dX7_codeOf_9 : decode cX7_codeOf 9 = .ok (.if_icmp .ge 25, 3) := by decide +kernel
theorem dX7_codeOf_12 : decode cX7_codeOf 12 = .ok (.iload_n 1, 1) := by decide +kernel
theorem dX7_codeOf_13 : decode cX7_codeOf 13 = .ok (.aload_n 0, 1) := by decide +kernel
theorem dX7_codeOf_14 : decode cX7_codeOf 14 = .ok (.getfield 43, 3) := by decide +kernel
theorem dX7_codeOf_17 : decode cX7_codeOf 17 = .ok (.iload_n 2, 1) := by decide +kernel
theorem dX7_codeOf_18 : decode cX7_codeOf 18 = .ok (.iaload, 1) := by decide +kernel
theorem dX7_codeOf_19 : decode cX7_codeOf 19 = .ok (.aload_n 0, 1) := by decide +kernel
theorem dX7_codeOf_20 : decode cX7_codeOf 20 = .ok (.getfield 16, 3) := by decide +kernel
theorem dX7_codeOf_23 : decode cX7_codeOf 23 = .ok (.iload_n 2, 1) := by decide +kernel
theorem dX7_codeOf_24 : decode cX7_codeOf 24 = .ok (.iaload, 1) := by decide +kernel
theorem dX7_codeOf_25 : decode cX7_codeOf 25 = .ok (.imul, 1) := by decide +kernel
theorem dX7_codeOf_26 : decode cX7_codeOf 26 = .ok (.iadd, 1) := by decide +kernel
theorem dX7_codeOf_27 : decode cX7_codeOf 27 = .ok (.istore_n 1, 1) := by decide +kernel
theorem dX7_codeOf_28 : decode cX7_codeOf 28 = .ok (.iinc 2 1, 3) := by decide +kernel
theorem dX7_codeOf_31 : decode cX7_codeOf 31 = .ok (.goto (-27), 3) := by decide +kernel
theorem dX7_codeOf_34 : decode cX7_codeOf 34 = .ok (.iload_n 1, 1) := by decide +kernel
theorem dX7_codeOf_35 : decode cX7_codeOf 35 = .ok (.ireturn, 1) := by decide +kernel
theorem dX7_valuesOf_0 : decode cX7_valuesOf 0 = .ok (.aload_n 0, 1) := by decide +kernel
theorem dX7_valuesOf_1 : decode cX7_valuesOf 1 = .ok (.iload_n 1, 1) := by decide +kernel
theorem dX7_valuesOf_2 : decode cX7_valuesOf 2 = .ok (.invokevirtual 144, 3) := by decide +kernel
theorem dX7_valuesOf_5 : decode cX7_valuesOf 5 = .ok (.iconst 0, 1) := by decide +kernel
theorem dX7_valuesOf_6 : decode cX7_valuesOf 6 = .ok (.istore_n 2, 1) := by decide +kernel
theorem dX7_valuesOf_7 : decode cX7_valuesOf 7 = .ok (.iload_n 2, 1) := by decide +kernel
theorem dX7_valuesOf_8 : decode cX7_valuesOf 8 = .ok (.aload_n 0, 1) := by decide +kernel
theorem dX7_valuesOf_9 : decode cX7_valuesOf 9 = .ok (.getfield 53, 3) := by decide +kernel
theorem dX7_valuesOf_12 : decode cX7_valuesOf 12 = .ok (.if_icmp .ge 21, 3) := by decide +kernel
theorem dX7_valuesOf_15 : decode cX7_valuesOf 15 = .ok (.aload_n 0, 1) := by decide +kernel
theorem dX7_valuesOf_16 : decode cX7_valuesOf 16 = .ok (.getfield 19, 3) := by decide +kernel
theorem dX7_valuesOf_19 : decode cX7_valuesOf 19 = .ok (.iload_n 2, 1) := by decide +kernel
theorem dX7_valuesOf_20 : decode cX7_valuesOf 20 = .ok (.aload_n 0, 1) := by decide +kernel
theorem dX7_valuesOf_21 : decode cX7_valuesOf 21 = .ok (.getfield 43, 3) := by decide +kernel
theorem dX7_valuesOf_24 : decode cX7_valuesOf 24 = .ok (.iload_n 2, 1) := by decide +kernel
theorem dX7_valuesOf_25 : decode cX7_valuesOf 25 = .ok (.iaload, 1) := by decide +kernel
theorem dX7_valuesOf_26 : decode cX7_valuesOf 26 = .ok (.iastore, 1) := by decide +kernel
theorem dX7_valuesOf_27 : decode cX7_valuesOf 27 = .ok (.iinc 2 1, 3) := by decide +kernel
theorem dX7_valuesOf_30 : decode cX7_valuesOf 30 = .ok (.goto (-23), 3) := by decide +kernel
theorem dX7_valuesOf_33 : decode cX7_valuesOf 33 = .ok (.return_, 1) := by decide +kernel
theorem dX7_value_0 : decode cX7_value 0 = .ok (.aload_n 0, 1) := by decide +kernel
theorem dX7_value_1 : decode cX7_value 1 = .ok (.iload_n 1, 1) := by decide +kernel
theorem dX7_value_2 : decode cX7_value 2 = .ok (.invokevirtual 148, 3) := by decide +kernel
theorem dX7_value_5 : decode cX7_value 5 = .ok (.ifCond .eq 12, 3) := by decide +kernel
theorem dX7_value_8 : decode cX7_value 8 = .ok (.aload_n 0, 1) := by decide +kernel
theorem dX7_value_9 : decode cX7_value 9 = .ok (.getfield 19, 3) := by decide +kernel
theorem dX7_value_12 : decode cX7_value 12 = .ok (.iload_n 1, 1) := by decide +kernel
theorem dX7_value_13 : decode cX7_value 13 = .ok (.iaload, 1) := by decide +kernel
theorem dX7_value_14 : decode cX7_value 14 = .ok (.goto 4, 3) := by decide +kernel
theorem dX7_value_17 : decode cX7_value 17 = .ok (.iconst (-1), 1) := by decide +kernel
theorem dX7_value_18 : decode cX7_value 18 = .ok (.ireturn, 1) := by decide +kernel
theorem dX7_keeps_0 : decode cX7_keeps 0 = .ok (.aload_n 0, 1) := by decide +kernel
theorem dX7_keeps_1 : decode cX7_keeps 1 = .ok (.getfield 68, 3) := by decide +kernel
theorem dX7_keeps_4 : decode cX7_keeps 4 = .ok (.bipush 6, 2) := by decide +kernel
theorem dX7_keeps_6 : decode cX7_keeps 6 = .ok (.if_icmp .ne 55, 3) := by decide +kernel
theorem dX7_keeps_9 : decode cX7_keeps 9 = .ok (.iconst 1, 1) := by decide +kernel
theorem dX7_keeps_10 : decode cX7_keeps 10 = .ok (.istore_n 1, 1) := by decide +kernel
theorem dX7_keeps_11 : decode cX7_keeps 11 = .ok (.iload_n 1, 1) := by decide +kernel
theorem dX7_keeps_12 : decode cX7_keeps 12 = .ok (.bipush 6, 2) := by decide +kernel
theorem dX7_keeps_14 : decode cX7_keeps 14 = .ok (.if_icmp .ge 37, 3) := by decide +kernel
theorem dX7_keeps_17 : decode cX7_keeps 17 = .ok (.aload_n 0, 1) := by decide +kernel
theorem dX7_keeps_18 : decode cX7_keeps 18 = .ok (.getfield 28, 3) := by decide +kernel
theorem dX7_keeps_21 : decode cX7_keeps 21 = .ok (.iload_n 1, 1) := by decide +kernel
theorem dX7_keeps_22 : decode cX7_keeps 22 = .ok (.iconst 1, 1) := by decide +kernel
theorem dX7_keeps_23 : decode cX7_keeps 23 = .ok (.isub, 1) := by decide +kernel
theorem dX7_keeps_24 : decode cX7_keeps 24 = .ok (.aload_n 0, 1) := by decide +kernel
theorem dX7_keeps_25 : decode cX7_keeps 25 = .ok (.getfield 28, 3) := by decide +kernel
theorem dX7_keeps_28 : decode cX7_keeps 28 = .ok (.iload_n 1, 1) := by decide +kernel
theorem dX7_keeps_29 : decode cX7_keeps 29 = .ok (.iaload, 1) := by decide +kernel
theorem dX7_keeps_30 : decode cX7_keeps 30 = .ok (.iastore, 1) := by decide +kernel
theorem dX7_keeps_31 : decode cX7_keeps 31 = .ok (.aload_n 0, 1) := by decide +kernel
theorem dX7_keeps_32 : decode cX7_keeps 32 = .ok (.getfield 31, 3) := by decide +kernel
theorem dX7_keeps_35 : decode cX7_keeps 35 = .ok (.iload_n 1, 1) := by decide +kernel
theorem dX7_keeps_36 : decode cX7_keeps 36 = .ok (.iconst 1, 1) := by decide +kernel
theorem dX7_keeps_37 : decode cX7_keeps 37 = .ok (.isub, 1) := by decide +kernel
theorem dX7_keeps_38 : decode cX7_keeps 38 = .ok (.aload_n 0, 1) := by decide +kernel
theorem dX7_keeps_39 : decode cX7_keeps 39 = .ok (.getfield 31, 3) := by decide +kernel
theorem dX7_keeps_42 : decode cX7_keeps 42 = .ok (.iload_n 1, 1) := by decide +kernel
theorem dX7_keeps_43 : decode cX7_keeps 43 = .ok (.iaload, 1) := by decide +kernel
theorem dX7_keeps_44 : decode cX7_keeps 44 = .ok (.iastore, 1) := by decide +kernel
theorem dX7_keeps_45 : decode cX7_keeps 45 = .ok (.iinc 1 1, 3) := by decide +kernel
theorem dX7_keeps_48 : decode cX7_keeps 48 = .ok (.goto (-37), 3) := by decide +kernel
theorem dX7_keeps_51 : decode cX7_keeps 51 = .ok (.aload_n 0, 1) := by decide +kernel
theorem dX7_keeps_52 : decode cX7_keeps 52 = .ok (.dup, 1) := by decide +kernel
theorem dX7_keeps_53 : decode cX7_keeps 53 = .ok (.getfield 68, 3) := by decide +kernel
theorem dX7_keeps_56 : decode cX7_keeps 56 = .ok (.iconst 1, 1) := by decide +kernel
theorem dX7_keeps_57 : decode cX7_keeps 57 = .ok (.isub, 1) := by decide +kernel
theorem dX7_keeps_58 : decode cX7_keeps 58 = .ok (.putfield 68, 3) := by decide +kernel
theorem dX7_keeps_61 : decode cX7_keeps 61 = .ok (.aload_n 0, 1) := by decide +kernel
theorem dX7_keeps_62 : decode cX7_keeps 62 = .ok (.invokevirtual 151, 3) := by decide +kernel
theorem dX7_keeps_65 : decode cX7_keeps 65 = .ok (.aload_n 0, 1) := by decide +kernel
theorem dX7_keeps_66 : decode cX7_keeps 66 = .ok (.getfield 28, 3) := by decide +kernel
theorem dX7_keeps_69 : decode cX7_keeps 69 = .ok (.aload_n 0, 1) := by decide +kernel
theorem dX7_keeps_70 : decode cX7_keeps 70 = .ok (.getfield 68, 3) := by decide +kernel
theorem dX7_keeps_73 : decode cX7_keeps 73 = .ok (.aload_n 0, 1) := by decide +kernel
theorem dX7_keeps_74 : decode cX7_keeps 74 = .ok (.invokevirtual 154, 3) := by decide +kernel
theorem dX7_keeps_77 : decode cX7_keeps 77 = .ok (.iastore, 1) := by decide +kernel
theorem dX7_keeps_78 : decode cX7_keeps 78 = .ok (.aload_n 0, 1) := by decide +kernel
theorem dX7_keeps_79 : decode cX7_keeps 79 = .ok (.getfield 31, 3) := by decide +kernel
theorem dX7_keeps_82 : decode cX7_keeps 82 = .ok (.aload_n 0, 1) := by decide +kernel
theorem dX7_keeps_83 : decode cX7_keeps 83 = .ok (.getfield 68, 3) := by decide +kernel
theorem dX7_keeps_86 : decode cX7_keeps 86 = .ok (.aload_n 0, 1) := by decide +kernel
theorem dX7_keeps_87 : decode cX7_keeps 87 = .ok (.getfield 65, 3) := by decide +kernel
theorem dX7_keeps_90 : decode cX7_keeps 90 = .ok (.iastore, 1) := by decide +kernel
theorem dX7_keeps_91 : decode cX7_keeps 91 = .ok (.aload_n 0, 1) := by decide +kernel
theorem dX7_keeps_92 : decode cX7_keeps 92 = .ok (.dup, 1) := by decide +kernel
theorem dX7_keeps_93 : decode cX7_keeps 93 = .ok (.getfield 68, 3) := by decide +kernel
theorem dX7_keeps_96 : decode cX7_keeps 96 = .ok (.iconst 1, 1) := by decide +kernel
theorem dX7_keeps_97 : decode cX7_keeps 97 = .ok (.iadd, 1) := by decide +kernel
theorem dX7_keeps_98 : decode cX7_keeps 98 = .ok (.putfield 68, 3) := by decide +kernel
theorem dX7_keeps_101 : decode cX7_keeps 101 = .ok (.return_, 1) := by decide +kernel
theorem dX7_hit_0 : decode cX7_hit 0 = .ok (.aload_n 0, 1) := by decide +kernel
theorem dX7_hit_1 : decode cX7_hit 1 = .ok (.iload_n 1, 1) := by decide +kernel
theorem dX7_hit_2 : decode cX7_hit 2 = .ok (.invokevirtual 148, 3) := by decide +kernel
theorem dX7_hit_5 : decode cX7_hit 5 = .ok (.ifCond .eq 17, 3) := by decide +kernel
theorem dX7_hit_8 : decode cX7_hit 8 = .ok (.iload_n 2, 1) := by decide +kernel
theorem dX7_hit_9 : decode cX7_hit 9 = .ok (.iconst 0, 1) := by decide +kernel
theorem dX7_hit_10 : decode cX7_hit 10 = .ok (.aload_n 0, 1) := by decide +kernel
theorem dX7_hit_11 : decode cX7_hit 11 = .ok (.getfield 56, 3) := by decide +kernel
theorem dX7_hit_14 : decode cX7_hit 14 = .ok (.iconst 1, 1) := by decide +kernel
theorem dX7_hit_15 : decode cX7_hit 15 = .ok (.isub, 1) := by decide +kernel
theorem dX7_hit_16 : decode cX7_hit 16 = .ok (.invokestatic 88, 3) := by decide +kernel
theorem dX7_hit_19 : decode cX7_hit 19 = .ok (.ifCond .ne 5, 3) := by decide +kernel
theorem dX7_hit_22 : decode cX7_hit 22 = .ok (.iconst (-1), 1) := by decide +kernel
theorem dX7_hit_23 : decode cX7_hit 23 = .ok (.ireturn, 1) := by decide +kernel
theorem dX7_hit_24 : decode cX7_hit 24 = .ok (.aload_n 0, 1) := by decide +kernel
theorem dX7_hit_25 : decode cX7_hit 25 = .ok (.getfield 19, 3) := by decide +kernel
theorem dX7_hit_28 : decode cX7_hit 28 = .ok (.iload_n 1, 1) := by decide +kernel
theorem dX7_hit_29 : decode cX7_hit 29 = .ok (.iaload, 1) := by decide +kernel
theorem dX7_hit_30 : decode cX7_hit 30 = .ok (.istore_n 3, 1) := by decide +kernel
theorem dX7_hit_31 : decode cX7_hit 31 = .ok (.iload_n 3, 1) := by decide +kernel
theorem dX7_hit_32 : decode cX7_hit 32 = .ok (.iload_n 2, 1) := by decide +kernel
theorem dX7_hit_33 : decode cX7_hit 33 = .ok (.if_icmp .ne 6, 3) := by decide +kernel
theorem dX7_hit_36 : decode cX7_hit 36 = .ok (.bipush (-2), 2) := by decide +kernel
theorem dX7_hit_38 : decode cX7_hit 38 = .ok (.ireturn, 1) := by decide +kernel
theorem dX7_hit_39 : decode cX7_hit 39 = .ok (.aload_n 0, 1) := by decide +kernel
theorem dX7_hit_40 : decode cX7_hit 40 = .ok (.invokevirtual 157, 3) := by decide +kernel
theorem dX7_hit_43 : decode cX7_hit 43 = .ok (.aload_n 0, 1) := by decide +kernel
theorem dX7_hit_44 : decode cX7_hit 44 = .ok (.getfield 19, 3) := by decide +kernel
theorem dX7_hit_47 : decode cX7_hit 47 = .ok (.iload_n 1, 1) := by decide +kernel
theorem dX7_hit_48 : decode cX7_hit 48 = .ok (.iload_n 2, 1) := by decide +kernel
theorem dX7_hit_49 : decode cX7_hit 49 = .ok (.iastore, 1) := by decide +kernel
theorem dX7_hit_50 : decode cX7_hit 50 = .ok (.iload_n 3, 1) := by decide +kernel
theorem dX7_hit_51 : decode cX7_hit 51 = .ok (.ireturn, 1) := by decide +kernel
theorem dX7_code_0 : decode cX7_code 0 = .ok (.aload_n 0, 1) := by decide +kernel
theorem dX7_code_1 : decode cX7_code 1 = .ok (.invokevirtual 151, 3) := by decide +kernel
theorem dX7_code_4 : decode cX7_code 4 = .ok (.aload_n 0, 1) := by decide +kernel
theorem dX7_code_5 : decode cX7_code 5 = .ok (.invokevirtual 154, 3) := by decide +kernel
theorem dX7_code_8 : decode cX7_code 8 = .ok (.ireturn, 1) := by decide +kernel
theorem dX7_turn_0 : decode cX7_turn 0 = .ok (.iload_n 1, 1) := by decide +kernel
theorem dX7_turn_1 : decode cX7_turn 1 = .ok (.iconst 0, 1) := by decide +kernel
theorem dX7_turn_2 : decode cX7_turn 2 = .ok (.aload_n 0, 1) := by decide +kernel
theorem dX7_turn_3 : decode cX7_turn 3 = .ok (.getfield 62, 3) := by decide +kernel
theorem dX7_turn_6 : decode cX7_turn 6 = .ok (.iconst 1, 1) := by decide +kernel
theorem dX7_turn_7 : decode cX7_turn 7 = .ok (.isub, 1) := by decide +kernel
theorem dX7_turn_8 : decode cX7_turn 8 = .ok (.invokestatic 88, 3) := by decide +kernel
theorem dX7_turn_11 : decode cX7_turn 11 = .ok (.ifCond .ne 5, 3) := by decide +kernel
theorem dX7_turn_14 : decode cX7_turn 14 = .ok (.iconst (-1), 1) := by decide +kernel
theorem dX7_turn_15 : decode cX7_turn 15 = .ok (.ireturn, 1) := by decide +kernel
theorem dX7_turn_16 : decode cX7_turn 16 = .ok (.aload_n 0, 1) := by decide +kernel
theorem dX7_turn_17 : decode cX7_turn 17 = .ok (.invokevirtual 160, 3) := by decide +kernel
theorem dX7_turn_20 : decode cX7_turn 20 = .ok (.istore_n 2, 1) := by decide +kernel
theorem dX7_turn_21 : decode cX7_turn 21 = .ok (.iload_n 2, 1) := by decide +kernel
theorem dX7_turn_22 : decode cX7_turn 22 = .ok (.iload_n 1, 1) := by decide +kernel
theorem dX7_turn_23 : decode cX7_turn 23 = .ok (.if_icmp .ne 6, 3) := by decide +kernel
theorem dX7_turn_26 : decode cX7_turn 26 = .ok (.bipush (-2), 2) := by decide +kernel
theorem dX7_turn_28 : decode cX7_turn 28 = .ok (.ireturn, 1) := by decide +kernel
theorem dX7_turn_29 : decode cX7_turn 29 = .ok (.aload_n 0, 1) := by decide +kernel
theorem dX7_turn_30 : decode cX7_turn 30 = .ok (.invokevirtual 157, 3) := by decide +kernel
theorem dX7_turn_33 : decode cX7_turn 33 = .ok (.aload_n 0, 1) := by decide +kernel
theorem dX7_turn_34 : decode cX7_turn 34 = .ok (.iload_n 1, 1) := by decide +kernel
theorem dX7_turn_35 : decode cX7_turn 35 = .ok (.invokevirtual 163, 3) := by decide +kernel
theorem dX7_turn_38 : decode cX7_turn 38 = .ok (.iload_n 2, 1) := by decide +kernel
theorem dX7_turn_39 : decode cX7_turn 39 = .ok (.ireturn, 1) := by decide +kernel
theorem dX7_wired_0 : decode cX7_wired 0 = .ok (.aload_n 0, 1) := by decide +kernel
theorem dX7_wired_1 : decode cX7_wired 1 = .ok (.iload_n 1, 1) := by decide +kernel
theorem dX7_wired_2 : decode cX7_wired 2 = .ok (.invokevirtual 148, 3) := by decide +kernel
theorem dX7_wired_5 : decode cX7_wired 5 = .ok (.ifCond .eq 16, 3) := by decide +kernel
theorem dX7_wired_8 : decode cX7_wired 8 = .ok (.aload_n 0, 1) := by decide +kernel
theorem dX7_wired_9 : decode cX7_wired 9 = .ok (.iload_n 2, 1) := by decide +kernel
theorem dX7_wired_10 : decode cX7_wired 10 = .ok (.invokevirtual 148, 3) := by decide +kernel
theorem dX7_wired_13 : decode cX7_wired 13 = .ok (.ifCond .eq 8, 3) := by decide +kernel
theorem dX7_wired_16 : decode cX7_wired 16 = .ok (.iload_n 1, 1) := by decide +kernel
theorem dX7_wired_17 : decode cX7_wired 17 = .ok (.iload_n 2, 1) := by decide +kernel
theorem dX7_wired_18 : decode cX7_wired 18 = .ok (.if_icmp .ne 5, 3) := by decide +kernel
theorem dX7_wired_21 : decode cX7_wired 21 = .ok (.iconst (-1), 1) := by decide +kernel
theorem dX7_wired_22 : decode cX7_wired 22 = .ok (.ireturn, 1) := by decide +kernel
theorem dX7_wired_23 : decode cX7_wired 23 = .ok (.aload_n 0, 1) := by decide +kernel
theorem dX7_wired_24 : decode cX7_wired 24 = .ok (.getfield 49, 3) := by decide +kernel
theorem dX7_wired_27 : decode cX7_wired 27 = .ok (.iconst 1, 1) := by decide +kernel
theorem dX7_wired_28 : decode cX7_wired 28 = .ok (.if_icmp .ne 33, 3) := by decide +kernel
theorem dX7_wired_31 : decode cX7_wired 31 = .ok (.iload_n 1, 1) := by decide +kernel
theorem dX7_wired_32 : decode cX7_wired 32 = .ok (.iconst 1, 1) := by decide +kernel
theorem dX7_wired_33 : decode cX7_wired 33 = .ok (.iadd, 1) := by decide +kernel
theorem dX7_wired_34 : decode cX7_wired 34 = .ok (.aload_n 0, 1) := by decide +kernel
theorem dX7_wired_35 : decode cX7_wired 35 = .ok (.getfield 53, 3) := by decide +kernel
theorem dX7_wired_38 : decode cX7_wired 38 = .ok (.irem, 1) := by decide +kernel
theorem dX7_wired_39 : decode cX7_wired 39 = .ok (.iload_n 2, 1) := by decide +kernel
theorem dX7_wired_40 : decode cX7_wired 40 = .ok (.if_icmp .eq 15, 3) := by decide +kernel
theorem dX7_wired_43 : decode cX7_wired 43 = .ok (.iload_n 2, 1) := by decide +kernel
theorem dX7_wired_44 : decode cX7_wired 44 = .ok (.iconst 1, 1) := by decide +kernel
theorem dX7_wired_45 : decode cX7_wired 45 = .ok (.iadd, 1) := by decide +kernel
theorem dX7_wired_46 : decode cX7_wired 46 = .ok (.aload_n 0, 1) := by decide +kernel
theorem dX7_wired_47 : decode cX7_wired 47 = .ok (.getfield 53, 3) := by decide +kernel
theorem dX7_wired_50 : decode cX7_wired 50 = .ok (.irem, 1) := by decide +kernel
theorem dX7_wired_51 : decode cX7_wired 51 = .ok (.iload_n 1, 1) := by decide +kernel
theorem dX7_wired_52 : decode cX7_wired 52 = .ok (.if_icmp .ne 7, 3) := by decide +kernel
theorem dX7_wired_55 : decode cX7_wired 55 = .ok (.iconst 1, 1) := by decide +kernel
theorem dX7_wired_56 : decode cX7_wired 56 = .ok (.goto 4, 3) := by decide +kernel
theorem dX7_wired_59 : decode cX7_wired 59 = .ok (.iconst 0, 1) := by decide +kernel
theorem dX7_wired_60 : decode cX7_wired 60 = .ok (.ireturn, 1) := by decide +kernel
theorem dX7_wired_61 : decode cX7_wired 61 = .ok (.aload_n 0, 1) := by decide +kernel
theorem dX7_wired_62 : decode cX7_wired 62 = .ok (.getfield 13, 3) := by decide +kernel
theorem dX7_wired_65 : decode cX7_wired 65 = .ok (.bipush 6, 2) := by decide +kernel
theorem dX7_wired_67 : decode cX7_wired 67 = .ok (.iload_n 1, 1) := by decide +kernel
theorem dX7_wired_68 : decode cX7_wired 68 = .ok (.imul, 1) := by decide +kernel
theorem dX7_wired_69 : decode cX7_wired 69 = .ok (.iload_n 2, 1) := by decide +kernel
theorem dX7_wired_70 : decode cX7_wired 70 = .ok (.iadd, 1) := by decide +kernel
theorem dX7_wired_71 : decode cX7_wired 71 = .ok (.iaload, 1) := by decide +kernel
theorem dX7_wired_72 : decode cX7_wired 72 = .ok (.ireturn, 1) := by decide +kernel
theorem dX7_may_0 : decode cX7_may 0 = .ok (.aload_n 0, 1) := by decide +kernel
theorem dX7_may_1 : decode cX7_may 1 = .ok (.iload_n 1, 1) := by decide +kernel
theorem dX7_may_2 : decode cX7_may 2 = .ok (.invokevirtual 148, 3) := by decide +kernel
theorem dX7_may_5 : decode cX7_may 5 = .ok (.ifCond .ne 5, 3) := by decide +kernel
theorem dX7_may_8 : decode cX7_may 8 = .ok (.iconst (-1), 1) := by decide +kernel
theorem dX7_may_9 : decode cX7_may 9 = .ok (.ireturn, 1) := by decide +kernel
theorem dX7_may_10 : decode cX7_may 10 = .ok (.aload_n 0, 1) := by decide +kernel
theorem dX7_may_11 : decode cX7_may 11 = .ok (.invokevirtual 151, 3) := by decide +kernel
theorem dX7_may_14 : decode cX7_may 14 = .ok (.aload_n 0, 1) := by decide +kernel
theorem dX7_may_15 : decode cX7_may 15 = .ok (.iload_n 1, 1) := by decide +kernel
theorem dX7_may_16 : decode cX7_may 16 = .ok (.invokevirtual 138, 3) := by decide +kernel
theorem dX7_may_19 : decode cX7_may 19 = .ok (.ifCond .ge 7, 3) := by decide +kernel
theorem dX7_may_22 : decode cX7_may 22 = .ok (.iconst 0, 1) := by decide +kernel
theorem dX7_may_23 : decode cX7_may 23 = .ok (.goto 7, 3) := by decide +kernel
theorem dX7_may_26 : decode cX7_may 26 = .ok (.aload_n 0, 1) := by decide +kernel
theorem dX7_may_27 : decode cX7_may 27 = .ok (.getfield 120, 3) := by decide +kernel
theorem dX7_may_30 : decode cX7_may 30 = .ok (.ireturn, 1) := by decide +kernel
theorem dX7_becomes_0 : decode cX7_becomes 0 = .ok (.aload_n 0, 1) := by decide +kernel
theorem dX7_becomes_1 : decode cX7_becomes 1 = .ok (.iload_n 1, 1) := by decide +kernel
theorem dX7_becomes_2 : decode cX7_becomes 2 = .ok (.invokevirtual 148, 3) := by decide +kernel
theorem dX7_becomes_5 : decode cX7_becomes 5 = .ok (.ifCond .ne 5, 3) := by decide +kernel
theorem dX7_becomes_8 : decode cX7_becomes 8 = .ok (.iconst (-1), 1) := by decide +kernel
theorem dX7_becomes_9 : decode cX7_becomes 9 = .ok (.ireturn, 1) := by decide +kernel
theorem dX7_becomes_10 : decode cX7_becomes 10 = .ok (.aload_n 0, 1) := by decide +kernel
theorem dX7_becomes_11 : decode cX7_becomes 11 = .ok (.invokevirtual 151, 3) := by decide +kernel
theorem dX7_becomes_14 : decode cX7_becomes 14 = .ok (.aload_n 0, 1) := by decide +kernel
theorem dX7_becomes_15 : decode cX7_becomes 15 = .ok (.iload_n 1, 1) := by decide +kernel
theorem dX7_becomes_16 : decode cX7_becomes 16 = .ok (.invokevirtual 138, 3) := by decide +kernel
theorem dX7_becomes_19 : decode cX7_becomes 19 = .ok (.istore_n 2, 1) := by decide +kernel
theorem dX7_becomes_20 : decode cX7_becomes 20 = .ok (.iload_n 2, 1) := by decide +kernel
theorem dX7_becomes_21 : decode cX7_becomes 21 = .ok (.ifCond .ge 8, 3) := by decide +kernel
theorem dX7_becomes_24 : decode cX7_becomes 24 = .ok (.bipush (-4), 2) := by decide +kernel
theorem dX7_becomes_26 : decode cX7_becomes 26 = .ok (.goto 4, 3) := by decide +kernel
theorem dX7_becomes_29 : decode cX7_becomes 29 = .ok (.iload_n 2, 1) := by decide +kernel
theorem dX7_becomes_30 : decode cX7_becomes 30 = .ok (.ireturn, 1) := by decide +kernel
theorem dX7_move_0 : decode cX7_move 0 = .ok (.aload_n 0, 1) := by decide +kernel
theorem dX7_move_1 : decode cX7_move 1 = .ok (.iload_n 1, 1) := by decide +kernel
theorem dX7_move_2 : decode cX7_move 2 = .ok (.invokevirtual 148, 3) := by decide +kernel
theorem dX7_move_5 : decode cX7_move 5 = .ok (.ifCond .ne 5, 3) := by decide +kernel
theorem dX7_move_8 : decode cX7_move 8 = .ok (.iconst (-1), 1) := by decide +kernel
theorem dX7_move_9 : decode cX7_move 9 = .ok (.ireturn, 1) := by decide +kernel
theorem dX7_move_10 : decode cX7_move 10 = .ok (.aload_n 0, 1) := by decide +kernel
theorem dX7_move_11 : decode cX7_move 11 = .ok (.invokevirtual 151, 3) := by decide +kernel
theorem dX7_move_14 : decode cX7_move 14 = .ok (.aload_n 0, 1) := by decide +kernel
theorem dX7_move_15 : decode cX7_move 15 = .ok (.iload_n 1, 1) := by decide +kernel
theorem dX7_move_16 : decode cX7_move 16 = .ok (.invokevirtual 138, 3) := by decide +kernel
theorem dX7_move_19 : decode cX7_move 19 = .ok (.istore_n 2, 1) := by decide +kernel
theorem dX7_move_20 : decode cX7_move 20 = .ok (.iload_n 2, 1) := by decide +kernel
theorem dX7_move_21 : decode cX7_move 21 = .ok (.ifCond .ge 6, 3) := by decide +kernel
theorem dX7_move_24 : decode cX7_move 24 = .ok (.bipush (-2), 2) := by decide +kernel
theorem dX7_move_26 : decode cX7_move 26 = .ok (.ireturn, 1) := by decide +kernel
theorem dX7_move_27 : decode cX7_move 27 = .ok (.aload_n 0, 1) := by decide +kernel
theorem dX7_move_28 : decode cX7_move 28 = .ok (.invokevirtual 157, 3) := by decide +kernel
theorem dX7_move_31 : decode cX7_move 31 = .ok (.aload_n 0, 1) := by decide +kernel
theorem dX7_move_32 : decode cX7_move 32 = .ok (.getfield 19, 3) := by decide +kernel
theorem dX7_move_35 : decode cX7_move 35 = .ok (.iload_n 1, 1) := by decide +kernel
theorem dX7_move_36 : decode cX7_move 36 = .ok (.iload_n 2, 1) := by decide +kernel
theorem dX7_move_37 : decode cX7_move 37 = .ok (.iastore, 1) := by decide +kernel
theorem dX7_move_38 : decode cX7_move 38 = .ok (.iload_n 2, 1) := by decide +kernel
theorem dX7_move_39 : decode cX7_move 39 = .ok (.ireturn, 1) := by decide +kernel
theorem dX7_tokens_0 : decode cX7_tokens 0 = .ok (.aload_n 0, 1) := by decide +kernel
theorem dX7_tokens_1 : decode cX7_tokens 1 = .ok (.invokevirtual 151, 3) := by decide +kernel
theorem dX7_tokens_4 : decode cX7_tokens 4 = .ok (.aload_n 0, 1) := by decide +kernel
theorem dX7_tokens_5 : decode cX7_tokens 5 = .ok (.invokevirtual 141, 3) := by decide +kernel
theorem dX7_tokens_8 : decode cX7_tokens 8 = .ok (.ireturn, 1) := by decide +kernel
theorem dX7_legal_0 : decode cX7_legal 0 = .ok (.aload_n 0, 1) := by decide +kernel
theorem dX7_legal_1 : decode cX7_legal 1 = .ok (.invokevirtual 151, 3) := by decide +kernel
theorem dX7_legal_4 : decode cX7_legal 4 = .ok (.aload_n 0, 1) := by decide +kernel
theorem dX7_legal_5 : decode cX7_legal 5 = .ok (.invokevirtual 166, 3) := by decide +kernel
theorem dX7_legal_8 : decode cX7_legal 8 = .ok (.ifCond .eq 7, 3) := by decide +kernel
theorem dX7_legal_11 : decode cX7_legal 11 = .ok (.iconst 1, 1) := by decide +kernel
theorem dX7_legal_12 : decode cX7_legal 12 = .ok (.goto 4, 3) := by decide +kernel
theorem dX7_legal_15 : decode cX7_legal 15 = .ok (.iconst 0, 1) := by decide +kernel
theorem dX7_legal_16 : decode cX7_legal 16 = .ok (.ireturn, 1) := by decide +kernel
theorem dX7_mate_0 : decode cX7_mate 0 = .ok (.aload_n 0, 1) := by decide +kernel
theorem dX7_mate_1 : decode cX7_mate 1 = .ok (.iload_n 1, 1) := by decide +kernel
theorem dX7_mate_2 : decode cX7_mate 2 = .ok (.invokevirtual 148, 3) := by decide +kernel
theorem dX7_mate_5 : decode cX7_mate 5 = .ok (.ifCond .ne 5, 3) := by decide +kernel
theorem dX7_mate_8 : decode cX7_mate 8 = .ok (.iconst (-1), 1) := by decide +kernel
theorem dX7_mate_9 : decode cX7_mate 9 = .ok (.ireturn, 1) := by decide +kernel
theorem dX7_mate_10 : decode cX7_mate 10 = .ok (.aload_n 0, 1) := by decide +kernel
theorem dX7_mate_11 : decode cX7_mate 11 = .ok (.getfield 49, 3) := by decide +kernel
theorem dX7_mate_14 : decode cX7_mate 14 = .ok (.iconst 2, 1) := by decide +kernel
theorem dX7_mate_15 : decode cX7_mate 15 = .ok (.if_icmp .ne 44, 3) := by decide +kernel
theorem dX7_mate_18 : decode cX7_mate 18 = .ok (.aload_n 0, 1) := by decide +kernel
theorem dX7_mate_19 : decode cX7_mate 19 = .ok (.getfield 19, 3) := by decide +kernel
theorem dX7_mate_22 : decode cX7_mate 22 = .ok (.iload_n 1, 1) := by decide +kernel
theorem dX7_mate_23 : decode cX7_mate 23 = .ok (.iaload, 1) := by decide +kernel
theorem dX7_mate_24 : decode cX7_mate 24 = .ok (.iconst 1, 1) := by decide +kernel
theorem dX7_mate_25 : decode cX7_mate 25 = .ok (.isub, 1) := by decide +kernel
theorem dX7_mate_26 : decode cX7_mate 26 = .ok (.istore_n 2, 1) := by decide +kernel
theorem dX7_mate_27 : decode cX7_mate 27 = .ok (.iload_n 2, 1) := by decide +kernel
theorem dX7_mate_28 : decode cX7_mate 28 = .ok (.ifCond .lt 28, 3) := by decide +kernel
theorem dX7_mate_31 : decode cX7_mate 31 = .ok (.aload_n 0, 1) := by decide +kernel
theorem dX7_mate_32 : decode cX7_mate 32 = .ok (.iload_n 1, 1) := by decide +kernel
theorem dX7_mate_33 : decode cX7_mate 33 = .ok (.iload_n 2, 1) := by decide +kernel
theorem dX7_mate_34 : decode cX7_mate 34 = .ok (.invokevirtual 116, 3) := by decide +kernel
theorem dX7_mate_37 : decode cX7_mate 37 = .ok (.ifCond .eq 19, 3) := by decide +kernel
theorem dX7_mate_40 : decode cX7_mate 40 = .ok (.aload_n 0, 1) := by decide +kernel
theorem dX7_mate_41 : decode cX7_mate 41 = .ok (.getfield 19, 3) := by decide +kernel
theorem dX7_mate_44 : decode cX7_mate 44 = .ok (.iload_n 2, 1) := by decide +kernel
theorem dX7_mate_45 : decode cX7_mate 45 = .ok (.iaload, 1) := by decide +kernel
theorem dX7_mate_46 : decode cX7_mate 46 = .ok (.iload_n 1, 1) := by decide +kernel
theorem dX7_mate_47 : decode cX7_mate 47 = .ok (.iconst 1, 1) := by decide +kernel
theorem dX7_mate_48 : decode cX7_mate 48 = .ok (.iadd, 1) := by decide +kernel
theorem dX7_mate_49 : decode cX7_mate 49 = .ok (.if_icmp .ne 7, 3) := by decide +kernel
theorem dX7_mate_52 : decode cX7_mate 52 = .ok (.iload_n 2, 1) := by decide +kernel
theorem dX7_mate_53 : decode cX7_mate 53 = .ok (.goto 5, 3) := by decide +kernel
theorem dX7_mate_56 : decode cX7_mate 56 = .ok (.bipush (-4), 2) := by decide +kernel
theorem dX7_mate_58 : decode cX7_mate 58 = .ok (.ireturn, 1) := by decide +kernel
theorem dX7_mate_59 : decode cX7_mate 59 = .ok (.aload_n 0, 1) := by decide +kernel
theorem dX7_mate_60 : decode cX7_mate 60 = .ok (.getfield 49, 3) := by decide +kernel
theorem dX7_mate_63 : decode cX7_mate 63 = .ok (.iconst 3, 1) := by decide +kernel
theorem dX7_mate_64 : decode cX7_mate 64 = .ok (.if_icmp .eq 6, 3) := by decide +kernel
theorem dX7_mate_67 : decode cX7_mate 67 = .ok (.bipush (-2), 2) := by decide +kernel
theorem dX7_mate_69 : decode cX7_mate 69 = .ok (.ireturn, 1) := by decide +kernel
theorem dX7_mate_70 : decode cX7_mate 70 = .ok (.aload_n 0, 1) := by decide +kernel
theorem dX7_mate_71 : decode cX7_mate 71 = .ok (.invokevirtual 151, 3) := by decide +kernel
theorem dX7_mate_74 : decode cX7_mate 74 = .ok (.aload_n 0, 1) := by decide +kernel
theorem dX7_mate_75 : decode cX7_mate 75 = .ok (.iload_n 1, 1) := by decide +kernel
theorem dX7_mate_76 : decode cX7_mate 76 = .ok (.aload_n 0, 1) := by decide +kernel
theorem dX7_mate_77 : decode cX7_mate 77 = .ok (.getfield 19, 3) := by decide +kernel
theorem dX7_mate_80 : decode cX7_mate 80 = .ok (.iload_n 1, 1) := by decide +kernel
theorem dX7_mate_81 : decode cX7_mate 81 = .ok (.iaload, 1) := by decide +kernel
theorem dX7_mate_82 : decode cX7_mate 82 = .ok (.iconst 1, 1) := by decide +kernel
theorem dX7_mate_83 : decode cX7_mate 83 = .ok (.isub, 1) := by decide +kernel
theorem dX7_mate_84 : decode cX7_mate 84 = .ok (.invokevirtual 123, 3) := by decide +kernel
theorem dX7_mate_87 : decode cX7_mate 87 = .ok (.istore_n 2, 1) := by decide +kernel
theorem dX7_mate_88 : decode cX7_mate 88 = .ok (.iload_n 2, 1) := by decide +kernel
theorem dX7_mate_89 : decode cX7_mate 89 = .ok (.ifCond .ge 8, 3) := by decide +kernel
theorem dX7_mate_92 : decode cX7_mate 92 = .ok (.bipush (-4), 2) := by decide +kernel
theorem dX7_mate_94 : decode cX7_mate 94 = .ok (.goto 4, 3) := by decide +kernel
theorem dX7_mate_97 : decode cX7_mate 97 = .ok (.iload_n 2, 1) := by decide +kernel
theorem dX7_mate_98 : decode cX7_mate 98 = .ok (.ireturn, 1) := by decide +kernel
theorem dX7_undo_0 : decode cX7_undo 0 = .ok (.aload_n 0, 1) := by decide +kernel
theorem dX7_undo_1 : decode cX7_undo 1 = .ok (.getfield 68, 3) := by decide +kernel
theorem dX7_undo_4 : decode cX7_undo 4 = .ok (.ifCond .ne 6, 3) := by decide +kernel
theorem dX7_undo_7 : decode cX7_undo 7 = .ok (.bipush (-2), 2) := by decide +kernel
theorem dX7_undo_9 : decode cX7_undo 9 = .ok (.ireturn, 1) := by decide +kernel
theorem dX7_undo_10 : decode cX7_undo 10 = .ok (.aload_n 0, 1) := by decide +kernel
theorem dX7_undo_11 : decode cX7_undo 11 = .ok (.dup, 1) := by decide +kernel
theorem dX7_undo_12 : decode cX7_undo 12 = .ok (.getfield 68, 3) := by decide +kernel
theorem dX7_undo_15 : decode cX7_undo 15 = .ok (.iconst 1, 1) := by decide +kernel
theorem dX7_undo_16 : decode cX7_undo 16 = .ok (.isub, 1) := by decide +kernel
theorem dX7_undo_17 : decode cX7_undo 17 = .ok (.putfield 68, 3) := by decide +kernel
theorem dX7_undo_20 : decode cX7_undo 20 = .ok (.aload_n 0, 1) := by decide +kernel
theorem dX7_undo_21 : decode cX7_undo 21 = .ok (.aload_n 0, 1) := by decide +kernel
theorem dX7_undo_22 : decode cX7_undo 22 = .ok (.getfield 28, 3) := by decide +kernel
theorem dX7_undo_25 : decode cX7_undo 25 = .ok (.aload_n 0, 1) := by decide +kernel
theorem dX7_undo_26 : decode cX7_undo 26 = .ok (.getfield 68, 3) := by decide +kernel
theorem dX7_undo_29 : decode cX7_undo 29 = .ok (.iaload, 1) := by decide +kernel
theorem dX7_undo_30 : decode cX7_undo 30 = .ok (.invokevirtual 163, 3) := by decide +kernel
theorem dX7_undo_33 : decode cX7_undo 33 = .ok (.aload_n 0, 1) := by decide +kernel
theorem dX7_undo_34 : decode cX7_undo 34 = .ok (.aload_n 0, 1) := by decide +kernel
theorem dX7_undo_35 : decode cX7_undo 35 = .ok (.getfield 31, 3) := by decide +kernel
theorem dX7_undo_38 : decode cX7_undo 38 = .ok (.aload_n 0, 1) := by decide +kernel
theorem dX7_undo_39 : decode cX7_undo 39 = .ok (.getfield 68, 3) := by decide +kernel
theorem dX7_undo_42 : decode cX7_undo 42 = .ok (.iaload, 1) := by decide +kernel
theorem dX7_undo_43 : decode cX7_undo 43 = .ok (.putfield 65, 3) := by decide +kernel
theorem dX7_undo_46 : decode cX7_undo 46 = .ok (.aload_n 0, 1) := by decide +kernel
theorem dX7_undo_47 : decode cX7_undo 47 = .ok (.getfield 68, 3) := by decide +kernel
theorem dX7_undo_50 : decode cX7_undo 50 = .ok (.ireturn, 1) := by decide +kernel
theorem dX7_worstBehind_0 : decode cX7_worstBehind 0 = .ok (.iconst (-1), 1) := by decide +kernel
theorem dX7_worstBehind_1 : decode cX7_worstBehind 1 = .ok (.istore_n 1, 1) := by decide +kernel
theorem dX7_worstBehind_2 : decode cX7_worstBehind 2 = .ok (.aload_n 0, 1) := by decide +kernel
theorem dX7_worstBehind_3 : decode cX7_worstBehind 3 = .ok (.invokevirtual 154, 3) := by decide +kernel
theorem dX7_worstBehind_6 : decode cX7_worstBehind 6 = .ok (.istore_n 2, 1) := by decide +kernel
theorem dX7_worstBehind_7 : decode cX7_worstBehind 7 = .ok (.iconst 0, 1) := by decide +kernel
theorem dX7_worstBehind_8 : decode cX7_worstBehind 8 = .ok (.istore_n 3, 1) := by decide +kernel
theorem dX7_worstBehind_9 : decode cX7_worstBehind 9 = .ok (.iload_n 3, 1) := by decide +kernel
theorem dX7_worstBehind_10 : decode cX7_worstBehind 10 = .ok (.aload_n 0, 1) := by decide +kernel
theorem dX7_worstBehind_11 : decode cX7_worstBehind 11 = .ok (.getfield 53, 3) := by decide +kernel
theorem dX7_worstBehind_14 : decode cX7_worstBehind 14 = .ok (.if_icmp .ge 76, 3) := by decide +kernel
theorem dX7_worstBehind_17 : decode cX7_worstBehind 17 = .ok (.aload_n 0, 1) := by decide +kernel
theorem dX7_worstBehind_18 : decode cX7_worstBehind 18 = .ok (.iload_n 3, 1) := by decide +kernel
theorem dX7_worstBehind_19 : decode cX7_worstBehind 19 = .ok (.invokevirtual 138, 3) := by decide +kernel
theorem dX7_worstBehind_22 : decode cX7_worstBehind 22 = .ok (.istore 4, 2) := by decide +kernel
theorem dX7_worstBehind_24 : decode cX7_worstBehind 24 = .ok (.iload 4, 2) := by decide +kernel
theorem dX7_worstBehind_26 : decode cX7_worstBehind 26 = .ok (.ifCond .lt 58, 3) := by decide +kernel
theorem dX7_worstBehind_29 : decode cX7_worstBehind 29 = .ok (.iload_n 2, 1) := by decide +kernel
theorem dX7_worstBehind_30 : decode cX7_worstBehind 30 = .ok (.iload 4, 2) := by decide +kernel
theorem dX7_worstBehind_32 : decode cX7_worstBehind 32 = .ok (.aload_n 0, 1) := by decide +kernel
theorem dX7_worstBehind_33 : decode cX7_worstBehind 33 = .ok (.getfield 43, 3) := by decide +kernel
theorem dX7_worstBehind_36 : decode cX7_worstBehind 36 = .ok (.iload_n 3, 1) := by decide +kernel
theorem dX7_worstBehind_37 : decode cX7_worstBehind 37 = .ok (.iaload, 1) := by decide +kernel
theorem dX7_worstBehind_38 : decode cX7_worstBehind 38 = .ok (.isub, 1) := by decide +kernel
theorem dX7_worstBehind_39 : decode cX7_worstBehind 39 = .ok (.aload_n 0, 1) := by decide +kernel
theorem dX7_worstBehind_40 : decode cX7_worstBehind 40 = .ok (.getfield 16, 3) := by decide +kernel
theorem dX7_worstBehind_43 : decode cX7_worstBehind 43 = .ok (.iload_n 3, 1) := by decide +kernel
theorem dX7_worstBehind_44 : decode cX7_worstBehind 44 = .ok (.iaload, 1) := by decide +kernel
theorem dX7_worstBehind_45 : decode cX7_worstBehind 45 = .ok (.imul, 1) := by decide +kernel
theorem dX7_worstBehind_46 : decode cX7_worstBehind 46 = .ok (.iadd, 1) := by decide +kernel
theorem dX7_worstBehind_47 : decode cX7_worstBehind 47 = .ok (.istore 5, 2) := by decide +kernel
theorem dX7_worstBehind_49 : decode cX7_worstBehind 49 = .ok (.aload_n 0, 1) := by decide +kernel
theorem dX7_worstBehind_50 : decode cX7_worstBehind 50 = .ok (.getfield 34, 3) := by decide +kernel
theorem dX7_worstBehind_53 : decode cX7_worstBehind 53 = .ok (.iload 5, 2) := by decide +kernel
theorem dX7_worstBehind_55 : decode cX7_worstBehind 55 = .ok (.iaload, 1) := by decide +kernel
theorem dX7_worstBehind_56 : decode cX7_worstBehind 56 = .ok (.ifCond .ge 5, 3) := by decide +kernel
theorem dX7_worstBehind_59 : decode cX7_worstBehind 59 = .ok (.iconst (-1), 1) := by decide +kernel
theorem dX7_worstBehind_60 : decode cX7_worstBehind 60 = .ok (.ireturn, 1) := by decide +kernel
theorem dX7_worstBehind_61 : decode cX7_worstBehind 61 = .ok (.aload_n 0, 1) := by decide +kernel
theorem dX7_worstBehind_62 : decode cX7_worstBehind 62 = .ok (.getfield 34, 3) := by decide +kernel
theorem dX7_worstBehind_65 : decode cX7_worstBehind 65 = .ok (.iload 5, 2) := by decide +kernel
theorem dX7_worstBehind_67 : decode cX7_worstBehind 67 = .ok (.iaload, 1) := by decide +kernel
theorem dX7_worstBehind_68 : decode cX7_worstBehind 68 = .ok (.iload_n 1, 1) := by decide +kernel
theorem dX7_worstBehind_69 : decode cX7_worstBehind 69 = .ok (.if_icmp .le 13, 3) := by decide +kernel
theorem dX7_worstBehind_72 : decode cX7_worstBehind 72 = .ok (.aload_n 0, 1) := by decide +kernel
theorem dX7_worstBehind_73 : decode cX7_worstBehind 73 = .ok (.getfield 34, 3) := by decide +kernel
theorem dX7_worstBehind_76 : decode cX7_worstBehind 76 = .ok (.iload 5, 2) := by decide +kernel
theorem dX7_worstBehind_78 : decode cX7_worstBehind 78 = .ok (.iaload, 1) := by decide +kernel
theorem dX7_worstBehind_79 : decode cX7_worstBehind 79 = .ok (.goto 4, 3) := by decide +kernel
theorem dX7_worstBehind_82 : decode cX7_worstBehind 82 = .ok (.iload_n 1, 1) := by decide +kernel
theorem dX7_worstBehind_83 : decode cX7_worstBehind 83 = .ok (.istore_n 1, 1) := by decide +kernel
theorem dX7_worstBehind_84 : decode cX7_worstBehind 84 = .ok (.iinc 3 1, 3) := by decide +kernel
theorem dX7_worstBehind_87 : decode cX7_worstBehind 87 = .ok (.goto (-78), 3) := by decide +kernel
theorem dX7_worstBehind_90 : decode cX7_worstBehind 90 = .ok (.iload_n 1, 1) := by decide +kernel
theorem dX7_worstBehind_91 : decode cX7_worstBehind 91 = .ok (.ireturn, 1) := by decide +kernel
theorem dX7_worsts_0 : decode cX7_worsts 0 = .ok (.iconst 0, 1) := by decide +kernel
theorem dX7_worsts_1 : decode cX7_worsts 1 = .ok (.istore_n 1, 1) := by decide +kernel
theorem dX7_worsts_2 : decode cX7_worsts 2 = .ok (.iload_n 1, 1) := by decide +kernel
theorem dX7_worsts_3 : decode cX7_worsts 3 = .ok (.aload_n 0, 1) := by decide +kernel
theorem dX7_worsts_4 : decode cX7_worsts 4 = .ok (.getfield 62, 3) := by decide +kernel
theorem dX7_worsts_7 : decode cX7_worsts 7 = .ok (.if_icmp .ge 33, 3) := by decide +kernel
theorem dX7_worsts_10 : decode cX7_worsts 10 = .ok (.aload_n 0, 1) := by decide +kernel
theorem dX7_worsts_11 : decode cX7_worsts 11 = .ok (.iload_n 1, 1) := by decide +kernel
theorem dX7_worsts_12 : decode cX7_worsts 12 = .ok (.invokevirtual 144, 3) := by decide +kernel
theorem dX7_worsts_15 : decode cX7_worsts 15 = .ok (.aload_n 0, 1) := by decide +kernel
theorem dX7_worsts_16 : decode cX7_worsts 16 = .ok (.getfield 34, 3) := by decide +kernel
theorem dX7_worsts_19 : decode cX7_worsts 19 = .ok (.iload_n 1, 1) := by decide +kernel
theorem dX7_worsts_20 : decode cX7_worsts 20 = .ok (.aload_n 0, 1) := by decide +kernel
theorem dX7_worsts_21 : decode cX7_worsts 21 = .ok (.invokevirtual 166, 3) := by decide +kernel
theorem dX7_worsts_24 : decode cX7_worsts 24 = .ok (.ifCond .eq 7, 3) := by decide +kernel
theorem dX7_worsts_27 : decode cX7_worsts 27 = .ok (.iconst 0, 1) := by decide +kernel
theorem dX7_worsts_28 : decode cX7_worsts 28 = .ok (.goto 5, 3) := by decide +kernel
theorem dX7_worsts_31 : decode cX7_worsts 31 = .ok (.bipush (-5), 2) := by decide +kernel
theorem dX7_worsts_33 : decode cX7_worsts 33 = .ok (.iastore, 1) := by decide +kernel
theorem dX7_worsts_34 : decode cX7_worsts 34 = .ok (.iinc 1 1, 3) := by decide +kernel
theorem dX7_worsts_37 : decode cX7_worsts 37 = .ok (.goto (-35), 3) := by decide +kernel
theorem dX7_worsts_40 : decode cX7_worsts 40 = .ok (.iconst 1, 1) := by decide +kernel
theorem dX7_worsts_41 : decode cX7_worsts 41 = .ok (.istore_n 1, 1) := by decide +kernel
theorem dX7_worsts_42 : decode cX7_worsts 42 = .ok (.iload_n 1, 1) := by decide +kernel
theorem dX7_worsts_43 : decode cX7_worsts 43 = .ok (.ifCond .eq 58, 3) := by decide +kernel
theorem dX7_worsts_46 : decode cX7_worsts 46 = .ok (.iconst 0, 1) := by decide +kernel
theorem dX7_worsts_47 : decode cX7_worsts 47 = .ok (.istore_n 1, 1) := by decide +kernel
theorem dX7_worsts_48 : decode cX7_worsts 48 = .ok (.iconst 0, 1) := by decide +kernel
theorem dX7_worsts_49 : decode cX7_worsts 49 = .ok (.istore_n 2, 1) := by decide +kernel
theorem dX7_worsts_50 : decode cX7_worsts 50 = .ok (.iload_n 2, 1) := by decide +kernel
theorem dX7_worsts_51 : decode cX7_worsts 51 = .ok (.aload_n 0, 1) := by decide +kernel
theorem dX7_worsts_52 : decode cX7_worsts 52 = .ok (.getfield 62, 3) := by decide +kernel
theorem dX7_worsts_55 : decode cX7_worsts 55 = .ok (.if_icmp .ge 43, 3) := by decide +kernel
theorem dX7_worsts_58 : decode cX7_worsts 58 = .ok (.aload_n 0, 1) := by decide +kernel
theorem dX7_worsts_59 : decode cX7_worsts 59 = .ok (.getfield 34, 3) := by decide +kernel
theorem dX7_worsts_62 : decode cX7_worsts 62 = .ok (.iload_n 2, 1) := by decide +kernel
theorem dX7_worsts_63 : decode cX7_worsts 63 = .ok (.iaload, 1) := by decide +kernel
theorem dX7_worsts_64 : decode cX7_worsts 64 = .ok (.ifCond .ge 28, 3) := by decide +kernel
theorem dX7_worsts_67 : decode cX7_worsts 67 = .ok (.aload_n 0, 1) := by decide +kernel
theorem dX7_worsts_68 : decode cX7_worsts 68 = .ok (.iload_n 2, 1) := by decide +kernel
theorem dX7_worsts_69 : decode cX7_worsts 69 = .ok (.invokevirtual 144, 3) := by decide +kernel
theorem dX7_worsts_72 : decode cX7_worsts 72 = .ok (.aload_n 0, 1) := by decide +kernel
theorem dX7_worsts_73 : decode cX7_worsts 73 = .ok (.invokevirtual 170, 3) := by decide +kernel
theorem dX7_worsts_76 : decode cX7_worsts 76 = .ok (.istore_n 3, 1) := by decide +kernel
theorem dX7_worsts_77 : decode cX7_worsts 77 = .ok (.iload_n 3, 1) := by decide +kernel
theorem dX7_worsts_78 : decode cX7_worsts 78 = .ok (.ifCond .lt 14, 3) := by decide +kernel
theorem dX7_worsts_81 : decode cX7_worsts 81 = .ok (.aload_n 0, 1) := by decide +kernel
theorem dX7_worsts_82 : decode cX7_worsts 82 = .ok (.getfield 34, 3) := by decide +kernel
theorem dX7_worsts_85 : decode cX7_worsts 85 = .ok (.iload_n 2, 1) := by decide +kernel
theorem dX7_worsts_86 : decode cX7_worsts 86 = .ok (.iload_n 3, 1) := by decide +kernel
theorem dX7_worsts_87 : decode cX7_worsts 87 = .ok (.iconst 1, 1) := by decide +kernel
theorem dX7_worsts_88 : decode cX7_worsts 88 = .ok (.iadd, 1) := by decide +kernel
theorem dX7_worsts_89 : decode cX7_worsts 89 = .ok (.iastore, 1) := by decide +kernel
theorem dX7_worsts_90 : decode cX7_worsts 90 = .ok (.iconst 1, 1) := by decide +kernel
theorem dX7_worsts_91 : decode cX7_worsts 91 = .ok (.istore_n 1, 1) := by decide +kernel
theorem dX7_worsts_92 : decode cX7_worsts 92 = .ok (.iinc 2 1, 3) := by decide +kernel
theorem dX7_worsts_95 : decode cX7_worsts 95 = .ok (.goto (-45), 3) := by decide +kernel
theorem dX7_worsts_98 : decode cX7_worsts 98 = .ok (.goto (-56), 3) := by decide +kernel
theorem dX7_worsts_101 : decode cX7_worsts 101 = .ok (.return_, 1) := by decide +kernel
theorem dX7_bests_0 : decode cX7_bests 0 = .ok (.iconst 0, 1) := by decide +kernel
theorem dX7_bests_1 : decode cX7_bests 1 = .ok (.istore_n 1, 1) := by decide +kernel
theorem dX7_bests_2 : decode cX7_bests 2 = .ok (.iload_n 1, 1) := by decide +kernel
theorem dX7_bests_3 : decode cX7_bests 3 = .ok (.aload_n 0, 1) := by decide +kernel
theorem dX7_bests_4 : decode cX7_bests 4 = .ok (.getfield 62, 3) := by decide +kernel
theorem dX7_bests_7 : decode cX7_bests 7 = .ok (.if_icmp .ge 30, 3) := by decide +kernel
theorem dX7_bests_10 : decode cX7_bests 10 = .ok (.aload_n 0, 1) := by decide +kernel
theorem dX7_bests_11 : decode cX7_bests 11 = .ok (.getfield 37, 3) := by decide +kernel
theorem dX7_bests_14 : decode cX7_bests 14 = .ok (.iload_n 1, 1) := by decide +kernel
theorem dX7_bests_15 : decode cX7_bests 15 = .ok (.aload_n 0, 1) := by decide +kernel
theorem dX7_bests_16 : decode cX7_bests 16 = .ok (.getfield 34, 3) := by decide +kernel
theorem dX7_bests_19 : decode cX7_bests 19 = .ok (.iload_n 1, 1) := by decide +kernel
theorem dX7_bests_20 : decode cX7_bests 20 = .ok (.iaload, 1) := by decide +kernel
theorem dX7_bests_21 : decode cX7_bests 21 = .ok (.ifCond .ne 7, 3) := by decide +kernel
theorem dX7_bests_24 : decode cX7_bests 24 = .ok (.iconst 0, 1) := by decide +kernel
theorem dX7_bests_25 : decode cX7_bests 25 = .ok (.goto 5, 3) := by decide +kernel
theorem dX7_bests_28 : decode cX7_bests 28 = .ok (.bipush (-5), 2) := by decide +kernel
theorem dX7_bests_30 : decode cX7_bests 30 = .ok (.iastore, 1) := by decide +kernel
theorem dX7_bests_31 : decode cX7_bests 31 = .ok (.iinc 1 1, 3) := by decide +kernel
theorem dX7_bests_34 : decode cX7_bests 34 = .ok (.goto (-32), 3) := by decide +kernel
theorem dX7_bests_37 : decode cX7_bests 37 = .ok (.iconst 1, 1) := by decide +kernel
theorem dX7_bests_38 : decode cX7_bests 38 = .ok (.istore_n 1, 1) := by decide +kernel
theorem dX7_bests_39 : decode cX7_bests 39 = .ok (.iconst 1, 1) := by decide +kernel
theorem dX7_bests_40 : decode cX7_bests 40 = .ok (.istore_n 2, 1) := by decide +kernel
theorem dX7_bests_41 : decode cX7_bests 41 = .ok (.iload_n 1, 1) := by decide +kernel
theorem dX7_bests_42 : decode cX7_bests 42 = .ok (.ifCond .eq 56, 3) := by decide +kernel
theorem dX7_bests_45 : decode cX7_bests 45 = .ok (.iconst 0, 1) := by decide +kernel
theorem dX7_bests_46 : decode cX7_bests 46 = .ok (.istore_n 1, 1) := by decide +kernel
theorem dX7_bests_47 : decode cX7_bests 47 = .ok (.iconst 0, 1) := by decide +kernel
theorem dX7_bests_48 : decode cX7_bests 48 = .ok (.istore_n 3, 1) := by decide +kernel
theorem dX7_bests_49 : decode cX7_bests 49 = .ok (.iload_n 3, 1) := by decide +kernel
theorem dX7_bests_50 : decode cX7_bests 50 = .ok (.aload_n 0, 1) := by decide +kernel
theorem dX7_bests_51 : decode cX7_bests 51 = .ok (.getfield 62, 3) := by decide +kernel
theorem dX7_bests_54 : decode cX7_bests 54 = .ok (.if_icmp .ge 38, 3) := by decide +kernel
theorem dX7_bests_57 : decode cX7_bests 57 = .ok (.aload_n 0, 1) := by decide +kernel
theorem dX7_bests_58 : decode cX7_bests 58 = .ok (.getfield 37, 3) := by decide +kernel
theorem dX7_bests_61 : decode cX7_bests 61 = .ok (.iload_n 3, 1) := by decide +kernel
theorem dX7_bests_62 : decode cX7_bests 62 = .ok (.iaload, 1) := by decide +kernel
theorem dX7_bests_63 : decode cX7_bests 63 = .ok (.ifCond .ge 23, 3) := by decide +kernel
theorem dX7_bests_66 : decode cX7_bests 66 = .ok (.aload_n 0, 1) := by decide +kernel
theorem dX7_bests_67 : decode cX7_bests 67 = .ok (.iload_n 3, 1) := by decide +kernel
theorem dX7_bests_68 : decode cX7_bests 68 = .ok (.iload_n 2, 1) := by decide +kernel
theorem dX7_bests_69 : decode cX7_bests 69 = .ok (.iconst 1, 1) := by decide +kernel
theorem dX7_bests_70 : decode cX7_bests 70 = .ok (.isub, 1) := by decide +kernel
theorem dX7_bests_71 : decode cX7_bests 71 = .ok (.invokevirtual 173, 3) := by decide +kernel
theorem dX7_bests_74 : decode cX7_bests 74 = .ok (.ifCond .eq 12, 3) := by decide +kernel
theorem dX7_bests_77 : decode cX7_bests 77 = .ok (.aload_n 0, 1) := by decide +kernel
theorem dX7_bests_78 : decode cX7_bests 78 = .ok (.getfield 37, 3) := by decide +kernel
theorem dX7_bests_81 : decode cX7_bests 81 = .ok (.iload_n 3, 1) := by decide +kernel
theorem dX7_bests_82 : decode cX7_bests 82 = .ok (.iload_n 2, 1) := by decide +kernel
theorem dX7_bests_83 : decode cX7_bests 83 = .ok (.iastore, 1) := by decide +kernel
theorem dX7_bests_84 : decode cX7_bests 84 = .ok (.iconst 1, 1) := by decide +kernel
theorem dX7_bests_85 : decode cX7_bests 85 = .ok (.istore_n 1, 1) := by decide +kernel
theorem dX7_bests_86 : decode cX7_bests 86 = .ok (.iinc 3 1, 3) := by decide +kernel
theorem dX7_bests_89 : decode cX7_bests 89 = .ok (.goto (-40), 3) := by decide +kernel
theorem dX7_bests_92 : decode cX7_bests 92 = .ok (.iinc 2 1, 3) := by decide +kernel
theorem dX7_bests_95 : decode cX7_bests 95 = .ok (.goto (-54), 3) := by decide +kernel
theorem dX7_bests_98 : decode cX7_bests 98 = .ok (.return_, 1) := by decide +kernel
theorem dX7_leadsTo_0 : decode cX7_leadsTo 0 = .ok (.aload_n 0, 1) := by decide +kernel
theorem dX7_leadsTo_1 : decode cX7_leadsTo 1 = .ok (.iload_n 1, 1) := by decide +kernel
theorem dX7_leadsTo_2 : decode cX7_leadsTo 2 = .ok (.invokevirtual 144, 3) := by decide +kernel
theorem dX7_leadsTo_5 : decode cX7_leadsTo 5 = .ok (.iconst 0, 1) := by decide +kernel
theorem dX7_leadsTo_6 : decode cX7_leadsTo 6 = .ok (.istore_n 3, 1) := by decide +kernel
theorem dX7_leadsTo_7 : decode cX7_leadsTo 7 = .ok (.iload_n 3, 1) := by decide +kernel
theorem dX7_leadsTo_8 : decode cX7_leadsTo 8 = .ok (.aload_n 0, 1) := by decide +kernel
theorem dX7_leadsTo_9 : decode cX7_leadsTo 9 = .ok (.getfield 53, 3) := by decide +kernel
theorem dX7_leadsTo_12 : decode cX7_leadsTo 12 = .ok (.if_icmp .ge 50, 3) := by decide +kernel
theorem dX7_leadsTo_15 : decode cX7_leadsTo 15 = .ok (.aload_n 0, 1) := by decide +kernel
theorem dX7_leadsTo_16 : decode cX7_leadsTo 16 = .ok (.iload_n 3, 1) := by decide +kernel
theorem dX7_leadsTo_17 : decode cX7_leadsTo 17 = .ok (.invokevirtual 138, 3) := by decide +kernel
theorem dX7_leadsTo_20 : decode cX7_leadsTo 20 = .ok (.istore 4, 2) := by decide +kernel
theorem dX7_leadsTo_22 : decode cX7_leadsTo 22 = .ok (.iload 4, 2) := by decide +kernel
theorem dX7_leadsTo_24 : decode cX7_leadsTo 24 = .ok (.ifCond .lt 32, 3) := by decide +kernel
theorem dX7_leadsTo_27 : decode cX7_leadsTo 27 = .ok (.aload_n 0, 1) := by decide +kernel
theorem dX7_leadsTo_28 : decode cX7_leadsTo 28 = .ok (.getfield 37, 3) := by decide +kernel
theorem dX7_leadsTo_31 : decode cX7_leadsTo 31 = .ok (.iload_n 1, 1) := by decide +kernel
theorem dX7_leadsTo_32 : decode cX7_leadsTo 32 = .ok (.iload 4, 2) := by decide +kernel
theorem dX7_leadsTo_34 : decode cX7_leadsTo 34 = .ok (.aload_n 0, 1) := by decide +kernel
theorem dX7_leadsTo_35 : decode cX7_leadsTo 35 = .ok (.getfield 43, 3) := by decide +kernel
theorem dX7_leadsTo_38 : decode cX7_leadsTo 38 = .ok (.iload_n 3, 1) := by decide +kernel
theorem dX7_leadsTo_39 : decode cX7_leadsTo 39 = .ok (.iaload, 1) := by decide +kernel
theorem dX7_leadsTo_40 : decode cX7_leadsTo 40 = .ok (.isub, 1) := by decide +kernel
theorem dX7_leadsTo_41 : decode cX7_leadsTo 41 = .ok (.aload_n 0, 1) := by decide +kernel
theorem dX7_leadsTo_42 : decode cX7_leadsTo 42 = .ok (.getfield 16, 3) := by decide +kernel
theorem dX7_leadsTo_45 : decode cX7_leadsTo 45 = .ok (.iload_n 3, 1) := by decide +kernel
theorem dX7_leadsTo_46 : decode cX7_leadsTo 46 = .ok (.iaload, 1) := by decide +kernel
theorem dX7_leadsTo_47 : decode cX7_leadsTo 47 = .ok (.imul, 1) := by decide +kernel
theorem dX7_leadsTo_48 : decode cX7_leadsTo 48 = .ok (.iadd, 1) := by decide +kernel
theorem dX7_leadsTo_49 : decode cX7_leadsTo 49 = .ok (.iaload, 1) := by decide +kernel
theorem dX7_leadsTo_50 : decode cX7_leadsTo 50 = .ok (.iload_n 2, 1) := by decide +kernel
theorem dX7_leadsTo_51 : decode cX7_leadsTo 51 = .ok (.if_icmp .ne 5, 3) := by decide +kernel
theorem dX7_leadsTo_54 : decode cX7_leadsTo 54 = .ok (.iconst 1, 1) := by decide +kernel
theorem dX7_leadsTo_55 : decode cX7_leadsTo 55 = .ok (.ireturn, 1) := by decide +kernel
theorem dX7_leadsTo_56 : decode cX7_leadsTo 56 = .ok (.iinc 3 1, 3) := by decide +kernel
theorem dX7_leadsTo_59 : decode cX7_leadsTo 59 = .ok (.goto (-52), 3) := by decide +kernel
theorem dX7_leadsTo_62 : decode cX7_leadsTo 62 = .ok (.iconst 0, 1) := by decide +kernel
theorem dX7_leadsTo_63 : decode cX7_leadsTo 63 = .ok (.ireturn, 1) := by decide +kernel
theorem dX7_isHitTo_0 : decode cX7_isHitTo 0 = .ok (.iconst 0, 1) := by decide +kernel
theorem dX7_isHitTo_1 : decode cX7_isHitTo 1 = .ok (.istore_n 3, 1) := by decide +kernel
theorem dX7_isHitTo_2 : decode cX7_isHitTo 2 = .ok (.iload_n 3, 1) := by decide +kernel
theorem dX7_isHitTo_3 : decode cX7_isHitTo 3 = .ok (.aload_n 0, 1) := by decide +kernel
theorem dX7_isHitTo_4 : decode cX7_isHitTo 4 = .ok (.getfield 53, 3) := by decide +kernel
theorem dX7_isHitTo_7 : decode cX7_isHitTo 7 = .ok (.if_icmp .ge 67, 3) := by decide +kernel
theorem dX7_isHitTo_10 : decode cX7_isHitTo 10 = .ok (.iload_n 1, 1) := by decide +kernel
theorem dX7_isHitTo_11 : decode cX7_isHitTo 11 = .ok (.aload_n 0, 1) := by decide +kernel
theorem dX7_isHitTo_12 : decode cX7_isHitTo 12 = .ok (.getfield 16, 3) := by decide +kernel
theorem dX7_isHitTo_15 : decode cX7_isHitTo 15 = .ok (.iload_n 3, 1) := by decide +kernel
theorem dX7_isHitTo_16 : decode cX7_isHitTo 16 = .ok (.iaload, 1) := by decide +kernel
theorem dX7_isHitTo_17 : decode cX7_isHitTo 17 = .ok (.idiv, 1) := by decide +kernel
theorem dX7_isHitTo_18 : decode cX7_isHitTo 18 = .ok (.aload_n 0, 1) := by decide +kernel
theorem dX7_isHitTo_19 : decode cX7_isHitTo 19 = .ok (.getfield 56, 3) := by decide +kernel
theorem dX7_isHitTo_22 : decode cX7_isHitTo 22 = .ok (.irem, 1) := by decide +kernel
theorem dX7_isHitTo_23 : decode cX7_isHitTo 23 = .ok (.istore 4, 2) := by decide +kernel
theorem dX7_isHitTo_25 : decode cX7_isHitTo 25 = .ok (.iconst 0, 1) := by decide +kernel
theorem dX7_isHitTo_26 : decode cX7_isHitTo 26 = .ok (.istore 5, 2) := by decide +kernel
theorem dX7_isHitTo_28 : decode cX7_isHitTo 28 = .ok (.iload 5, 2) := by decide +kernel
theorem dX7_isHitTo_30 : decode cX7_isHitTo 30 = .ok (.aload_n 0, 1) := by decide +kernel
theorem dX7_isHitTo_31 : decode cX7_isHitTo 31 = .ok (.getfield 56, 3) := by decide +kernel
theorem dX7_isHitTo_34 : decode cX7_isHitTo 34 = .ok (.if_icmp .ge 34, 3) := by decide +kernel
theorem dX7_isHitTo_37 : decode cX7_isHitTo 37 = .ok (.aload_n 0, 1) := by decide +kernel
theorem dX7_isHitTo_38 : decode cX7_isHitTo 38 = .ok (.getfield 40, 3) := by decide +kernel
theorem dX7_isHitTo_41 : decode cX7_isHitTo 41 = .ok (.iload_n 1, 1) := by decide +kernel
theorem dX7_isHitTo_42 : decode cX7_isHitTo 42 = .ok (.iload 5, 2) := by decide +kernel
theorem dX7_isHitTo_44 : decode cX7_isHitTo 44 = .ok (.iload 4, 2) := by decide +kernel
theorem dX7_isHitTo_46 : decode cX7_isHitTo 46 = .ok (.isub, 1) := by decide +kernel
theorem dX7_isHitTo_47 : decode cX7_isHitTo 47 = .ok (.aload_n 0, 1) := by decide +kernel
theorem dX7_isHitTo_48 : decode cX7_isHitTo 48 = .ok (.getfield 16, 3) := by decide +kernel
theorem dX7_isHitTo_51 : decode cX7_isHitTo 51 = .ok (.iload_n 3, 1) := by decide +kernel
theorem dX7_isHitTo_52 : decode cX7_isHitTo 52 = .ok (.iaload, 1) := by decide +kernel
theorem dX7_isHitTo_53 : decode cX7_isHitTo 53 = .ok (.imul, 1) := by decide +kernel
theorem dX7_isHitTo_54 : decode cX7_isHitTo 54 = .ok (.iadd, 1) := by decide +kernel
theorem dX7_isHitTo_55 : decode cX7_isHitTo 55 = .ok (.iaload, 1) := by decide +kernel
theorem dX7_isHitTo_56 : decode cX7_isHitTo 56 = .ok (.iload_n 2, 1) := by decide +kernel
theorem dX7_isHitTo_57 : decode cX7_isHitTo 57 = .ok (.if_icmp .ne 5, 3) := by decide +kernel
theorem dX7_isHitTo_60 : decode cX7_isHitTo 60 = .ok (.iconst 1, 1) := by decide +kernel
theorem dX7_isHitTo_61 : decode cX7_isHitTo 61 = .ok (.ireturn, 1) := by decide +kernel
theorem dX7_isHitTo_62 : decode cX7_isHitTo 62 = .ok (.iinc 5 1, 3) := by decide +kernel
theorem dX7_isHitTo_65 : decode cX7_isHitTo 65 = .ok (.goto (-37), 3) := by decide +kernel
theorem dX7_isHitTo_68 : decode cX7_isHitTo 68 = .ok (.iinc 3 1, 3) := by decide +kernel
theorem dX7_isHitTo_71 : decode cX7_isHitTo 71 = .ok (.goto (-69), 3) := by decide +kernel
theorem dX7_isHitTo_74 : decode cX7_isHitTo 74 = .ok (.iconst 0, 1) := by decide +kernel
theorem dX7_isHitTo_75 : decode cX7_isHitTo 75 = .ok (.ireturn, 1) := by decide +kernel
theorem dX7_measures_0 : decode cX7_measures 0 = .ok (.aload_n 0, 1) := by decide +kernel
theorem dX7_measures_1 : decode cX7_measures 1 = .ok (.getfield 71, 3) := by decide +kernel
theorem dX7_measures_4 : decode cX7_measures 4 = .ok (.ifCond .eq 4, 3) := by decide +kernel
theorem dX7_measures_7 : decode cX7_measures 7 = .ok (.return_, 1) := by decide +kernel
theorem dX7_measures_8 : decode cX7_measures 8 = .ok (.aload_n 0, 1) := by decide +kernel
theorem dX7_measures_9 : decode cX7_measures 9 = .ok (.invokevirtual 176, 3) := by decide +kernel
theorem dX7_measures_12 : decode cX7_measures 12 = .ok (.aload_n 0, 1) := by decide +kernel
theorem dX7_measures_13 : decode cX7_measures 13 = .ok (.invokevirtual 179, 3) := by decide +kernel
theorem dX7_measures_16 : decode cX7_measures 16 = .ok (.iconst 0, 1) := by decide +kernel
theorem dX7_measures_17 : decode cX7_measures 17 = .ok (.istore_n 1, 1) := by decide +kernel
theorem dX7_measures_18 : decode cX7_measures 18 = .ok (.iload_n 1, 1) := by decide +kernel
theorem dX7_measures_19 : decode cX7_measures 19 = .ok (.aload_n 0, 1) := by decide +kernel
theorem dX7_measures_20 : decode cX7_measures 20 = .ok (.getfield 62, 3) := by decide +kernel
theorem dX7_measures_23 : decode cX7_measures 23 = .ok (.if_icmp .ge 30, 3) := by decide +kernel
theorem dX7_measures_26 : decode cX7_measures 26 = .ok (.aload_n 0, 1) := by decide +kernel
theorem dX7_measures_27 : decode cX7_measures 27 = .ok (.getfield 40, 3) := by decide +kernel
theorem dX7_measures_30 : decode cX7_measures 30 = .ok (.iload_n 1, 1) := by decide +kernel
theorem dX7_measures_31 : decode cX7_measures 31 = .ok (.aload_n 0, 1) := by decide +kernel
theorem dX7_measures_32 : decode cX7_measures 32 = .ok (.getfield 34, 3) := by decide +kernel
theorem dX7_measures_35 : decode cX7_measures 35 = .ok (.iload_n 1, 1) := by decide +kernel
theorem dX7_measures_36 : decode cX7_measures 36 = .ok (.iaload, 1) := by decide +kernel
theorem dX7_measures_37 : decode cX7_measures 37 = .ok (.ifCond .ne 7, 3) := by decide +kernel
theorem dX7_measures_40 : decode cX7_measures 40 = .ok (.iconst 0, 1) := by decide +kernel
theorem dX7_measures_41 : decode cX7_measures 41 = .ok (.goto 5, 3) := by decide +kernel
theorem dX7_measures_44 : decode cX7_measures 44 = .ok (.bipush (-4), 2) := by decide +kernel
theorem dX7_measures_46 : decode cX7_measures 46 = .ok (.iastore, 1) := by decide +kernel
theorem dX7_measures_47 : decode cX7_measures 47 = .ok (.iinc 1 1, 3) := by decide +kernel
theorem dX7_measures_50 : decode cX7_measures 50 = .ok (.goto (-32), 3) := by decide +kernel
theorem dX7_measures_53 : decode cX7_measures 53 = .ok (.iconst 1, 1) := by decide +kernel
theorem dX7_measures_54 : decode cX7_measures 54 = .ok (.istore_n 1, 1) := by decide +kernel
theorem dX7_measures_55 : decode cX7_measures 55 = .ok (.iload_n 1, 1) := by decide +kernel
theorem dX7_measures_56 : decode cX7_measures 56 = .ok (.aload_n 0, 1) := by decide +kernel
theorem dX7_measures_57 : decode cX7_measures 57 = .ok (.getfield 53, 3) := by decide +kernel
theorem dX7_measures_60 : decode cX7_measures 60 = .ok (.if_icmp .gt 52, 3) := by decide +kernel
theorem dX7_measures_63 : decode cX7_measures 63 = .ok (.iconst 0, 1) := by decide +kernel
theorem dX7_measures_64 : decode cX7_measures 64 = .ok (.istore_n 2, 1) := by decide +kernel
theorem dX7_measures_65 : decode cX7_measures 65 = .ok (.iload_n 2, 1) := by decide +kernel
theorem dX7_measures_66 : decode cX7_measures 66 = .ok (.aload_n 0, 1) := by decide +kernel
theorem dX7_measures_67 : decode cX7_measures 67 = .ok (.getfield 62, 3) := by decide +kernel
theorem dX7_measures_70 : decode cX7_measures 70 = .ok (.if_icmp .ge 36, 3) := by decide +kernel
theorem dX7_measures_73 : decode cX7_measures 73 = .ok (.aload_n 0, 1) := by decide +kernel
theorem dX7_measures_74 : decode cX7_measures 74 = .ok (.getfield 40, 3) := by decide +kernel
theorem dX7_measures_77 : decode cX7_measures 77 = .ok (.iload_n 2, 1) := by decide +kernel
theorem dX7_measures_78 : decode cX7_measures 78 = .ok (.iaload, 1) := by decide +kernel
theorem dX7_measures_79 : decode cX7_measures 79 = .ok (.ifCond .ge 21, 3) := by decide +kernel
theorem dX7_measures_82 : decode cX7_measures 82 = .ok (.aload_n 0, 1) := by decide +kernel
theorem dX7_measures_83 : decode cX7_measures 83 = .ok (.iload_n 2, 1) := by decide +kernel
theorem dX7_measures_84 : decode cX7_measures 84 = .ok (.iload_n 1, 1) := by decide +kernel
theorem dX7_measures_85 : decode cX7_measures 85 = .ok (.iconst 1, 1) := by decide +kernel
theorem dX7_measures_86 : decode cX7_measures 86 = .ok (.isub, 1) := by decide +kernel
theorem dX7_measures_87 : decode cX7_measures 87 = .ok (.invokevirtual 182, 3) := by decide +kernel
theorem dX7_measures_90 : decode cX7_measures 90 = .ok (.ifCond .eq 10, 3) := by decide +kernel
theorem dX7_measures_93 : decode cX7_measures 93 = .ok (.aload_n 0, 1) := by decide +kernel
theorem dX7_measures_94 : decode cX7_measures 94 = .ok (.getfield 40, 3) := by decide +kernel
theorem dX7_measures_97 : decode cX7_measures 97 = .ok (.iload_n 2, 1) := by decide +kernel
theorem dX7_measures_98 : decode cX7_measures 98 = .ok (.iload_n 1, 1) := by decide +kernel
theorem dX7_measures_99 : decode cX7_measures 99 = .ok (.iastore, 1) := by decide +kernel
theorem dX7_measures_100 : decode cX7_measures 100 = .ok (.iinc 2 1, 3) := by decide +kernel
theorem dX7_measures_103 : decode cX7_measures 103 = .ok (.goto (-38), 3) := by decide +kernel
theorem dX7_measures_106 : decode cX7_measures 106 = .ok (.iinc 1 1, 3) := by decide +kernel
theorem dX7_measures_109 : decode cX7_measures 109 = .ok (.goto (-54), 3) := by decide +kernel
theorem dX7_measures_112 : decode cX7_measures 112 = .ok (.aload_n 0, 1) := by decide +kernel
theorem dX7_measures_113 : decode cX7_measures 113 = .ok (.iconst 1, 1) := by decide +kernel
theorem dX7_measures_114 : decode cX7_measures 114 = .ok (.putfield 71, 3) := by decide +kernel
theorem dX7_measures_117 : decode cX7_measures 117 = .ok (.return_, 1) := by decide +kernel
theorem dX7_state_0 : decode cX7_state 0 = .ok (.iload_n 1, 1) := by decide +kernel
theorem dX7_state_1 : decode cX7_state 1 = .ok (.iconst 0, 1) := by decide +kernel
theorem dX7_state_2 : decode cX7_state 2 = .ok (.aload_n 0, 1) := by decide +kernel
theorem dX7_state_3 : decode cX7_state 3 = .ok (.getfield 62, 3) := by decide +kernel
theorem dX7_state_6 : decode cX7_state 6 = .ok (.iconst 1, 1) := by decide +kernel
theorem dX7_state_7 : decode cX7_state 7 = .ok (.isub, 1) := by decide +kernel
theorem dX7_state_8 : decode cX7_state 8 = .ok (.invokestatic 88, 3) := by decide +kernel
theorem dX7_state_11 : decode cX7_state 11 = .ok (.ifCond .eq 12, 3) := by decide +kernel
theorem dX7_state_14 : decode cX7_state 14 = .ok (.iload_n 2, 1) := by decide +kernel
theorem dX7_state_15 : decode cX7_state 15 = .ok (.iconst 0, 1) := by decide +kernel
theorem dX7_state_16 : decode cX7_state 16 = .ok (.iconst 3, 1) := by decide +kernel
theorem dX7_state_17 : decode cX7_state 17 = .ok (.invokestatic 88, 3) := by decide +kernel
theorem dX7_state_20 : decode cX7_state 20 = .ok (.ifCond .ne 5, 3) := by decide +kernel
theorem dX7_state_23 : decode cX7_state 23 = .ok (.iconst (-1), 1) := by decide +kernel
theorem dX7_state_24 : decode cX7_state 24 = .ok (.ireturn, 1) := by decide +kernel
theorem dX7_state_25 : decode cX7_state 25 = .ok (.aload_n 0, 1) := by decide +kernel
theorem dX7_state_26 : decode cX7_state 26 = .ok (.invokevirtual 185, 3) := by decide +kernel
theorem dX7_state_29 : decode cX7_state 29 = .ok (.iload_n 2, 1) := by decide +kernel
theorem dX7_state_30 : decode cX7_state 30 = .ok (.tableswitch 47 0 2 #[26, 33, 40], 26) := by decide +kernel
theorem dX7_state_56 : decode cX7_state 56 = .ok (.aload_n 0, 1) := by decide +kernel
theorem dX7_state_57 : decode cX7_state 57 = .ok (.getfield 34, 3) := by decide +kernel
theorem dX7_state_60 : decode cX7_state 60 = .ok (.iload_n 1, 1) := by decide +kernel
theorem dX7_state_61 : decode cX7_state 61 = .ok (.iaload, 1) := by decide +kernel
theorem dX7_state_62 : decode cX7_state 62 = .ok (.ireturn, 1) := by decide +kernel
theorem dX7_state_63 : decode cX7_state 63 = .ok (.aload_n 0, 1) := by decide +kernel
theorem dX7_state_64 : decode cX7_state 64 = .ok (.getfield 37, 3) := by decide +kernel
theorem dX7_state_67 : decode cX7_state 67 = .ok (.iload_n 1, 1) := by decide +kernel
theorem dX7_state_68 : decode cX7_state 68 = .ok (.iaload, 1) := by decide +kernel
theorem dX7_state_69 : decode cX7_state 69 = .ok (.ireturn, 1) := by decide +kernel
theorem dX7_state_70 : decode cX7_state 70 = .ok (.aload_n 0, 1) := by decide +kernel
theorem dX7_state_71 : decode cX7_state 71 = .ok (.getfield 40, 3) := by decide +kernel
theorem dX7_state_74 : decode cX7_state 74 = .ok (.iload_n 1, 1) := by decide +kernel
theorem dX7_state_75 : decode cX7_state 75 = .ok (.iaload, 1) := by decide +kernel
theorem dX7_state_76 : decode cX7_state 76 = .ok (.ireturn, 1) := by decide +kernel
theorem dX7_state_77 : decode cX7_state 77 = .ok (.aload_n 0, 1) := by decide +kernel
theorem dX7_state_78 : decode cX7_state 78 = .ok (.getfield 34, 3) := by decide +kernel
theorem dX7_state_81 : decode cX7_state 81 = .ok (.iload_n 1, 1) := by decide +kernel
theorem dX7_state_82 : decode cX7_state 82 = .ok (.iaload, 1) := by decide +kernel
theorem dX7_state_83 : decode cX7_state 83 = .ok (.ifCond .ne 7, 3) := by decide +kernel
theorem dX7_state_86 : decode cX7_state 86 = .ok (.iconst 1, 1) := by decide +kernel
theorem dX7_state_87 : decode cX7_state 87 = .ok (.goto 4, 3) := by decide +kernel
theorem dX7_state_90 : decode cX7_state 90 = .ok (.iconst 0, 1) := by decide +kernel
theorem dX7_state_91 : decode cX7_state 91 = .ok (.ireturn, 1) := by decide +kernel
theorem dX7_leaves_0 : decode cX7_leaves 0 = .ok (.aload_n 0, 1) := by decide +kernel
theorem dX7_leaves_1 : decode cX7_leaves 1 = .ok (.iload_n 1, 1) := by decide +kernel
theorem dX7_leaves_2 : decode cX7_leaves 2 = .ok (.invokevirtual 144, 3) := by decide +kernel
theorem dX7_leaves_5 : decode cX7_leaves 5 = .ok (.iconst 0, 1) := by decide +kernel
theorem dX7_leaves_6 : decode cX7_leaves 6 = .ok (.istore_n 2, 1) := by decide +kernel
theorem dX7_leaves_7 : decode cX7_leaves 7 = .ok (.iconst 0, 1) := by decide +kernel
theorem dX7_leaves_8 : decode cX7_leaves 8 = .ok (.istore_n 3, 1) := by decide +kernel
theorem dX7_leaves_9 : decode cX7_leaves 9 = .ok (.iload_n 3, 1) := by decide +kernel
theorem dX7_leaves_10 : decode cX7_leaves 10 = .ok (.aload_n 0, 1) := by decide +kernel
theorem dX7_leaves_11 : decode cX7_leaves 11 = .ok (.getfield 53, 3) := by decide +kernel
theorem dX7_leaves_14 : decode cX7_leaves 14 = .ok (.if_icmp .ge 55, 3) := by decide +kernel
theorem dX7_leaves_17 : decode cX7_leaves 17 = .ok (.aload_n 0, 1) := by decide +kernel
theorem dX7_leaves_18 : decode cX7_leaves 18 = .ok (.iload_n 3, 1) := by decide +kernel
theorem dX7_leaves_19 : decode cX7_leaves 19 = .ok (.invokevirtual 138, 3) := by decide +kernel
theorem dX7_leaves_22 : decode cX7_leaves 22 = .ok (.istore 4, 2) := by decide +kernel
theorem dX7_leaves_24 : decode cX7_leaves 24 = .ok (.iload_n 2, 1) := by decide +kernel
theorem dX7_leaves_25 : decode cX7_leaves 25 = .ok (.iload 4, 2) := by decide +kernel
theorem dX7_leaves_27 : decode cX7_leaves 27 = .ok (.ifCond .lt 33, 3) := by decide +kernel
theorem dX7_leaves_30 : decode cX7_leaves 30 = .ok (.aload_n 0, 1) := by decide +kernel
theorem dX7_leaves_31 : decode cX7_leaves 31 = .ok (.getfield 34, 3) := by decide +kernel
theorem dX7_leaves_34 : decode cX7_leaves 34 = .ok (.iload_n 1, 1) := by decide +kernel
theorem dX7_leaves_35 : decode cX7_leaves 35 = .ok (.iload 4, 2) := by decide +kernel
theorem dX7_leaves_37 : decode cX7_leaves 37 = .ok (.aload_n 0, 1) := by decide +kernel
theorem dX7_leaves_38 : decode cX7_leaves 38 = .ok (.getfield 43, 3) := by decide +kernel
theorem dX7_leaves_41 : decode cX7_leaves 41 = .ok (.iload_n 3, 1) := by decide +kernel
theorem dX7_leaves_42 : decode cX7_leaves 42 = .ok (.iaload, 1) := by decide +kernel
theorem dX7_leaves_43 : decode cX7_leaves 43 = .ok (.isub, 1) := by decide +kernel
theorem dX7_leaves_44 : decode cX7_leaves 44 = .ok (.aload_n 0, 1) := by decide +kernel
theorem dX7_leaves_45 : decode cX7_leaves 45 = .ok (.getfield 16, 3) := by decide +kernel
theorem dX7_leaves_48 : decode cX7_leaves 48 = .ok (.iload_n 3, 1) := by decide +kernel
theorem dX7_leaves_49 : decode cX7_leaves 49 = .ok (.iaload, 1) := by decide +kernel
theorem dX7_leaves_50 : decode cX7_leaves 50 = .ok (.imul, 1) := by decide +kernel
theorem dX7_leaves_51 : decode cX7_leaves 51 = .ok (.iadd, 1) := by decide +kernel
theorem dX7_leaves_52 : decode cX7_leaves 52 = .ok (.iaload, 1) := by decide +kernel
theorem dX7_leaves_53 : decode cX7_leaves 53 = .ok (.ifCond .eq 7, 3) := by decide +kernel
theorem dX7_leaves_56 : decode cX7_leaves 56 = .ok (.iconst 1, 1) := by decide +kernel
theorem dX7_leaves_57 : decode cX7_leaves 57 = .ok (.goto 4, 3) := by decide +kernel
theorem dX7_leaves_60 : decode cX7_leaves 60 = .ok (.iconst 0, 1) := by decide +kernel
theorem dX7_leaves_61 : decode cX7_leaves 61 = .ok (.iadd, 1) := by decide +kernel
theorem dX7_leaves_62 : decode cX7_leaves 62 = .ok (.istore_n 2, 1) := by decide +kernel
theorem dX7_leaves_63 : decode cX7_leaves 63 = .ok (.iinc 3 1, 3) := by decide +kernel
theorem dX7_leaves_66 : decode cX7_leaves 66 = .ok (.goto (-57), 3) := by decide +kernel
theorem dX7_leaves_69 : decode cX7_leaves 69 = .ok (.iload_n 2, 1) := by decide +kernel
theorem dX7_leaves_70 : decode cX7_leaves 70 = .ok (.ireturn, 1) := by decide +kernel
theorem dX7_all_0 : decode cX7_all 0 = .ok (.iload_n 1, 1) := by decide +kernel
theorem dX7_all_1 : decode cX7_all 1 = .ok (.iconst 0, 1) := by decide +kernel
theorem dX7_all_2 : decode cX7_all 2 = .ok (.bipush 6, 2) := by decide +kernel
theorem dX7_all_4 : decode cX7_all 4 = .ok (.invokestatic 88, 3) := by decide +kernel
theorem dX7_all_7 : decode cX7_all 7 = .ok (.ifCond .ne 5, 3) := by decide +kernel
theorem dX7_all_10 : decode cX7_all 10 = .ok (.iconst (-1), 1) := by decide +kernel
theorem dX7_all_11 : decode cX7_all 11 = .ok (.ireturn, 1) := by decide +kernel
theorem dX7_all_12 : decode cX7_all 12 = .ok (.aload_n 0, 1) := by decide +kernel
theorem dX7_all_13 : decode cX7_all 13 = .ok (.invokevirtual 185, 3) := by decide +kernel
theorem dX7_all_16 : decode cX7_all 16 = .ok (.iconst 0, 1) := by decide +kernel
theorem dX7_all_17 : decode cX7_all 17 = .ok (.istore_n 2, 1) := by decide +kernel
theorem dX7_all_18 : decode cX7_all 18 = .ok (.iconst 0, 1) := by decide +kernel
theorem dX7_all_19 : decode cX7_all 19 = .ok (.istore_n 3, 1) := by decide +kernel
theorem dX7_all_20 : decode cX7_all 20 = .ok (.bipush (-4), 2) := by decide +kernel
theorem dX7_all_22 : decode cX7_all 22 = .ok (.istore 4, 2) := by decide +kernel
theorem dX7_all_24 : decode cX7_all 24 = .ok (.bipush (-4), 2) := by decide +kernel
theorem dX7_all_26 : decode cX7_all 26 = .ok (.istore 5, 2) := by decide +kernel
theorem dX7_all_28 : decode cX7_all 28 = .ok (.iconst 0, 1) := by decide +kernel
theorem dX7_all_29 : decode cX7_all 29 = .ok (.istore 6, 2) := by decide +kernel
theorem dX7_all_31 : decode cX7_all 31 = .ok (.iconst 0, 1) := by decide +kernel
theorem dX7_all_32 : decode cX7_all 32 = .ok (.istore 7, 2) := by decide +kernel
theorem dX7_all_34 : decode cX7_all 34 = .ok (.bipush (-4), 2) := by decide +kernel
theorem dX7_all_36 : decode cX7_all 36 = .ok (.istore 8, 2) := by decide +kernel
theorem dX7_all_38 : decode cX7_all 38 = .ok (.iconst 0, 1) := by decide +kernel
theorem dX7_all_39 : decode cX7_all 39 = .ok (.istore 9, 2) := by decide +kernel
theorem dX7_all_41 : decode cX7_all 41 = .ok (.iload 9, 2) := by decide +kernel
theorem dX7_all_43 : decode cX7_all 43 = .ok (.aload_n 0, 1) := by decide +kernel
theorem dX7_all_44 : decode cX7_all 44 = .ok (.getfield 62, 3) := by decide +kernel
theorem dX7_all_47 : decode cX7_all 47 = .ok (.if_icmp .ge 172, 3) := by decide +kernel
theorem dX7_all_50 : decode cX7_all 50 = .ok (.iload_n 2, 1) := by decide +kernel
theorem dX7_all_51 : decode cX7_all 51 = .ok (.aload_n 0, 1) := by decide +kernel
theorem dX7_all_52 : decode cX7_all 52 = .ok (.getfield 34, 3) := by decide +kernel
theorem dX7_all_55 : decode cX7_all 55 = .ok (.iload 9, 2) := by decide +kernel
theorem dX7_all_57 : decode cX7_all 57 = .ok (.iaload, 1) := by decide +kernel
theorem dX7_all_58 : decode cX7_all 58 = .ok (.ifCond .ne 7, 3) := by decide +kernel
theorem dX7_all_61 : decode cX7_all 61 = .ok (.iconst 1, 1) := by decide +kernel
theorem dX7_all_62 : decode cX7_all 62 = .ok (.goto 4, 3) := by decide +kernel
theorem dX7_all_65 : decode cX7_all 65 = .ok (.iconst 0, 1) := by decide +kernel
theorem dX7_all_66 : decode cX7_all 66 = .ok (.iadd, 1) := by decide +kernel
theorem dX7_all_67 : decode cX7_all 67 = .ok (.istore_n 2, 1) := by decide +kernel
theorem dX7_all_68 : decode cX7_all 68 = .ok (.iload_n 3, 1) := by decide +kernel
theorem dX7_all_69 : decode cX7_all 69 = .ok (.aload_n 0, 1) := by decide +kernel
theorem dX7_all_70 : decode cX7_all 70 = .ok (.getfield 34, 3) := by decide +kernel
theorem dX7_all_73 : decode cX7_all 73 = .ok (.iload 9, 2) := by decide +kernel
theorem dX7_all_75 : decode cX7_all 75 = .ok (.iaload, 1) := by decide +kernel
theorem dX7_all_76 : decode cX7_all 76 = .ok (.ifCond .ge 7, 3) := by decide +kernel
theorem dX7_all_79 : decode cX7_all 79 = .ok (.iconst 1, 1) := by decide +kernel
theorem dX7_all_80 : decode cX7_all 80 = .ok (.goto 4, 3) := by decide +kernel
theorem dX7_all_83 : decode cX7_all 83 = .ok (.iconst 0, 1) := by decide +kernel
theorem dX7_all_84 : decode cX7_all 84 = .ok (.iadd, 1) := by decide +kernel
theorem dX7_all_85 : decode cX7_all 85 = .ok (.istore_n 3, 1) := by decide +kernel
theorem dX7_all_86 : decode cX7_all 86 = .ok (.iload 7, 2) := by decide +kernel
theorem dX7_all_88 : decode cX7_all 88 = .ok (.aload_n 0, 1) := by decide +kernel
theorem dX7_all_89 : decode cX7_all 89 = .ok (.getfield 34, 3) := by decide +kernel
theorem dX7_all_92 : decode cX7_all 92 = .ok (.iload 9, 2) := by decide +kernel
theorem dX7_all_94 : decode cX7_all 94 = .ok (.iaload, 1) := by decide +kernel
theorem dX7_all_95 : decode cX7_all 95 = .ok (.ifCond .ge 7, 3) := by decide +kernel
theorem dX7_all_98 : decode cX7_all 98 = .ok (.iconst 0, 1) := by decide +kernel
theorem dX7_all_99 : decode cX7_all 99 = .ok (.goto 10, 3) := by decide +kernel
theorem dX7_all_102 : decode cX7_all 102 = .ok (.aload_n 0, 1) := by decide +kernel
theorem dX7_all_103 : decode cX7_all 103 = .ok (.getfield 34, 3) := by decide +kernel
theorem dX7_all_106 : decode cX7_all 106 = .ok (.iload 9, 2) := by decide +kernel
theorem dX7_all_108 : decode cX7_all 108 = .ok (.iaload, 1) := by decide +kernel
theorem dX7_all_109 : decode cX7_all 109 = .ok (.iadd, 1) := by decide +kernel
theorem dX7_all_110 : decode cX7_all 110 = .ok (.istore 7, 2) := by decide +kernel
theorem dX7_all_112 : decode cX7_all 112 = .ok (.aload_n 0, 1) := by decide +kernel
theorem dX7_all_113 : decode cX7_all 113 = .ok (.getfield 34, 3) := by decide +kernel
theorem dX7_all_116 : decode cX7_all 116 = .ok (.iload 9, 2) := by decide +kernel
theorem dX7_all_118 : decode cX7_all 118 = .ok (.iaload, 1) := by decide +kernel
theorem dX7_all_119 : decode cX7_all 119 = .ok (.ifCond .lt 28, 3) := by decide +kernel
theorem dX7_all_122 : decode cX7_all 122 = .ok (.aload_n 0, 1) := by decide +kernel
theorem dX7_all_123 : decode cX7_all 123 = .ok (.getfield 34, 3) := by decide +kernel
theorem dX7_all_126 : decode cX7_all 126 = .ok (.iload 9, 2) := by decide +kernel
theorem dX7_all_128 : decode cX7_all 128 = .ok (.iaload, 1) := by decide +kernel
theorem dX7_all_129 : decode cX7_all 129 = .ok (.iload 4, 2) := by decide +kernel
theorem dX7_all_131 : decode cX7_all 131 = .ok (.if_icmp .le 16, 3) := by decide +kernel
theorem dX7_all_134 : decode cX7_all 134 = .ok (.aload_n 0, 1) := by decide +kernel
theorem dX7_all_135 : decode cX7_all 135 = .ok (.getfield 34, 3) := by decide +kernel
theorem dX7_all_138 : decode cX7_all 138 = .ok (.iload 9, 2) := by decide +kernel
theorem dX7_all_140 : decode cX7_all 140 = .ok (.iaload, 1) := by decide +kernel
theorem dX7_all_141 : decode cX7_all 141 = .ok (.istore 4, 2) := by decide +kernel
theorem dX7_all_143 : decode cX7_all 143 = .ok (.iload 9, 2) := by decide +kernel
theorem dX7_all_145 : decode cX7_all 145 = .ok (.istore 5, 2) := by decide +kernel
theorem dX7_all_147 : decode cX7_all 147 = .ok (.aload_n 0, 1) := by decide +kernel
theorem dX7_all_148 : decode cX7_all 148 = .ok (.getfield 37, 3) := by decide +kernel
theorem dX7_all_151 : decode cX7_all 151 = .ok (.iload 9, 2) := by decide +kernel
theorem dX7_all_153 : decode cX7_all 153 = .ok (.iaload, 1) := by decide +kernel
theorem dX7_all_154 : decode cX7_all 154 = .ok (.ifCond .lt 25, 3) := by decide +kernel
theorem dX7_all_157 : decode cX7_all 157 = .ok (.aload_n 0, 1) := by decide +kernel
theorem dX7_all_158 : decode cX7_all 158 = .ok (.getfield 37, 3) := by decide +kernel
theorem dX7_all_161 : decode cX7_all 161 = .ok (.iload 9, 2) := by decide +kernel
theorem dX7_all_163 : decode cX7_all 163 = .ok (.iaload, 1) := by decide +kernel
theorem dX7_all_164 : decode cX7_all 164 = .ok (.iload 8, 2) := by decide +kernel
theorem dX7_all_166 : decode cX7_all 166 = .ok (.if_icmp .le 13, 3) := by decide +kernel
theorem dX7_all_169 : decode cX7_all 169 = .ok (.aload_n 0, 1) := by decide +kernel
theorem dX7_all_170 : decode cX7_all 170 = .ok (.getfield 37, 3) := by decide +kernel
theorem dX7_all_173 : decode cX7_all 173 = .ok (.iload 9, 2) := by decide +kernel
theorem dX7_all_175 : decode cX7_all 175 = .ok (.iaload, 1) := by decide +kernel
theorem dX7_all_176 : decode cX7_all 176 = .ok (.goto 5, 3) := by decide +kernel
theorem dX7_all_179 : decode cX7_all 179 = .ok (.iload 8, 2) := by decide +kernel
theorem dX7_all_181 : decode cX7_all 181 = .ok (.istore 8, 2) := by decide +kernel
theorem dX7_all_183 : decode cX7_all 183 = .ok (.iload 6, 2) := by decide +kernel
theorem dX7_all_185 : decode cX7_all 185 = .ok (.aload_n 0, 1) := by decide +kernel
theorem dX7_all_186 : decode cX7_all 186 = .ok (.getfield 34, 3) := by decide +kernel
theorem dX7_all_189 : decode cX7_all 189 = .ok (.iload 9, 2) := by decide +kernel
theorem dX7_all_191 : decode cX7_all 191 = .ok (.iaload, 1) := by decide +kernel
theorem dX7_all_192 : decode cX7_all 192 = .ok (.ifCond .ne 17, 3) := by decide +kernel
theorem dX7_all_195 : decode cX7_all 195 = .ok (.iload_n 1, 1) := by decide +kernel
theorem dX7_all_196 : decode cX7_all 196 = .ok (.iconst 4, 1) := by decide +kernel
theorem dX7_all_197 : decode cX7_all 197 = .ok (.if_icmp .ne 12, 3) := by decide +kernel
theorem dX7_all_200 : decode cX7_all 200 = .ok (.aload_n 0, 1) := by decide +kernel
theorem dX7_all_201 : decode cX7_all 201 = .ok (.iload 9, 2) := by decide +kernel
theorem dX7_all_203 : decode cX7_all 203 = .ok (.invokevirtual 188, 3) := by decide +kernel
theorem dX7_all_206 : decode cX7_all 206 = .ok (.goto 4, 3) := by decide +kernel
theorem dX7_all_209 : decode cX7_all 209 = .ok (.iconst 0, 1) := by decide +kernel
theorem dX7_all_210 : decode cX7_all 210 = .ok (.iadd, 1) := by decide +kernel
theorem dX7_all_211 : decode cX7_all 211 = .ok (.istore 6, 2) := by decide +kernel
theorem dX7_all_213 : decode cX7_all 213 = .ok (.iinc 9 1, 3) := by decide +kernel
theorem dX7_all_216 : decode cX7_all 216 = .ok (.goto (-175), 3) := by decide +kernel
theorem dX7_all_219 : decode cX7_all 219 = .ok (.iload_n 1, 1) := by decide +kernel
theorem dX7_all_220 : decode cX7_all 220 = .ok (.tableswitch 56 0 5 #[40, 42, 44, 47, 50, 53], 40) := by decide +kernel
theorem dX7_all_260 : decode cX7_all 260 = .ok (.iload_n 2, 1) := by decide +kernel
theorem dX7_all_261 : decode cX7_all 261 = .ok (.ireturn, 1) := by decide +kernel
theorem dX7_all_262 : decode cX7_all 262 = .ok (.iload_n 3, 1) := by decide +kernel
theorem dX7_all_263 : decode cX7_all 263 = .ok (.ireturn, 1) := by decide +kernel
theorem dX7_all_264 : decode cX7_all 264 = .ok (.iload 4, 2) := by decide +kernel
theorem dX7_all_266 : decode cX7_all 266 = .ok (.ireturn, 1) := by decide +kernel
theorem dX7_all_267 : decode cX7_all 267 = .ok (.iload 5, 2) := by decide +kernel
theorem dX7_all_269 : decode cX7_all 269 = .ok (.ireturn, 1) := by decide +kernel
theorem dX7_all_270 : decode cX7_all 270 = .ok (.iload 6, 2) := by decide +kernel
theorem dX7_all_272 : decode cX7_all 272 = .ok (.ireturn, 1) := by decide +kernel
theorem dX7_all_273 : decode cX7_all 273 = .ok (.iload 7, 2) := by decide +kernel
theorem dX7_all_275 : decode cX7_all 275 = .ok (.ireturn, 1) := by decide +kernel
theorem dX7_all_276 : decode cX7_all 276 = .ok (.iload 8, 2) := by decide +kernel
theorem dX7_all_278 : decode cX7_all 278 = .ok (.ireturn, 1) := by decide +kernel
theorem dX7_within_0 : decode cX7_within 0 = .ok (.iload_n 1, 1) := by decide +kernel
theorem dX7_within_1 : decode cX7_within 1 = .ok (.iconst 0, 1) := by decide +kernel
theorem dX7_within_2 : decode cX7_within 2 = .ok (.aload_n 0, 1) := by decide +kernel
theorem dX7_within_3 : decode cX7_within 3 = .ok (.getfield 53, 3) := by decide +kernel
theorem dX7_within_6 : decode cX7_within 6 = .ok (.invokestatic 88, 3) := by decide +kernel
theorem dX7_within_9 : decode cX7_within 9 = .ok (.ifCond .eq 12, 3) := by decide +kernel
theorem dX7_within_12 : decode cX7_within 12 = .ok (.iload_n 2, 1) := by decide +kernel
theorem dX7_within_13 : decode cX7_within 13 = .ok (.iconst 0, 1) := by decide +kernel
theorem dX7_within_14 : decode cX7_within 14 = .ok (.iconst 1, 1) := by decide +kernel
theorem dX7_within_15 : decode cX7_within 15 = .ok (.invokestatic 88, 3) := by decide +kernel
theorem dX7_within_18 : decode cX7_within 18 = .ok (.ifCond .ne 5, 3) := by decide +kernel
theorem dX7_within_21 : decode cX7_within 21 = .ok (.iconst (-1), 1) := by decide +kernel
theorem dX7_within_22 : decode cX7_within 22 = .ok (.ireturn, 1) := by decide +kernel
theorem dX7_within_23 : decode cX7_within 23 = .ok (.aload_n 0, 1) := by decide +kernel
theorem dX7_within_24 : decode cX7_within 24 = .ok (.invokevirtual 185, 3) := by decide +kernel
theorem dX7_within_27 : decode cX7_within 27 = .ok (.iconst 0, 1) := by decide +kernel
theorem dX7_within_28 : decode cX7_within 28 = .ok (.istore_n 3, 1) := by decide +kernel
theorem dX7_within_29 : decode cX7_within 29 = .ok (.iconst 0, 1) := by decide +kernel
theorem dX7_within_30 : decode cX7_within 30 = .ok (.istore 4, 2) := by decide +kernel
theorem dX7_within_32 : decode cX7_within 32 = .ok (.iconst 0, 1) := by decide +kernel
theorem dX7_within_33 : decode cX7_within 33 = .ok (.istore 5, 2) := by decide +kernel
theorem dX7_within_35 : decode cX7_within 35 = .ok (.iconst 0, 1) := by decide +kernel
theorem dX7_within_36 : decode cX7_within 36 = .ok (.istore 6, 2) := by decide +kernel
theorem dX7_within_38 : decode cX7_within 38 = .ok (.iload 6, 2) := by decide +kernel
theorem dX7_within_40 : decode cX7_within 40 = .ok (.aload_n 0, 1) := by decide +kernel
theorem dX7_within_41 : decode cX7_within 41 = .ok (.getfield 62, 3) := by decide +kernel
theorem dX7_within_44 : decode cX7_within 44 = .ok (.if_icmp .ge 81, 3) := by decide +kernel
theorem dX7_within_47 : decode cX7_within 47 = .ok (.aload_n 0, 1) := by decide +kernel
theorem dX7_within_48 : decode cX7_within 48 = .ok (.getfield 40, 3) := by decide +kernel
theorem dX7_within_51 : decode cX7_within 51 = .ok (.iload 6, 2) := by decide +kernel
theorem dX7_within_53 : decode cX7_within 53 = .ok (.iaload, 1) := by decide +kernel
theorem dX7_within_54 : decode cX7_within 54 = .ok (.ifCond .lt 65, 3) := by decide +kernel
theorem dX7_within_57 : decode cX7_within 57 = .ok (.aload_n 0, 1) := by decide +kernel
theorem dX7_within_58 : decode cX7_within 58 = .ok (.getfield 40, 3) := by decide +kernel
theorem dX7_within_61 : decode cX7_within 61 = .ok (.iload 6, 2) := by decide +kernel
theorem dX7_within_63 : decode cX7_within 63 = .ok (.iaload, 1) := by decide +kernel
theorem dX7_within_64 : decode cX7_within 64 = .ok (.iload_n 1, 1) := by decide +kernel
theorem dX7_within_65 : decode cX7_within 65 = .ok (.if_icmp .gt 54, 3) := by decide +kernel
theorem dX7_within_68 : decode cX7_within 68 = .ok (.iinc 3 1, 3) := by decide +kernel
theorem dX7_within_71 : decode cX7_within 71 = .ok (.iload 5, 2) := by decide +kernel
theorem dX7_within_73 : decode cX7_within 73 = .ok (.ifCond .ne 13, 3) := by decide +kernel
theorem dX7_within_76 : decode cX7_within 76 = .ok (.aload_n 0, 1) := by decide +kernel
theorem dX7_within_77 : decode cX7_within 77 = .ok (.getfield 34, 3) := by decide +kernel
theorem dX7_within_80 : decode cX7_within 80 = .ok (.iload 6, 2) := by decide +kernel
theorem dX7_within_82 : decode cX7_within 82 = .ok (.iaload, 1) := by decide +kernel
theorem dX7_within_83 : decode cX7_within 83 = .ok (.ifCond .ge 7, 3) := by decide +kernel
theorem dX7_within_86 : decode cX7_within 86 = .ok (.iconst 1, 1) := by decide +kernel
theorem dX7_within_87 : decode cX7_within 87 = .ok (.goto 4, 3) := by decide +kernel
theorem dX7_within_90 : decode cX7_within 90 = .ok (.iconst 0, 1) := by decide +kernel
theorem dX7_within_91 : decode cX7_within 91 = .ok (.istore 5, 2) := by decide +kernel
theorem dX7_within_93 : decode cX7_within 93 = .ok (.aload_n 0, 1) := by decide +kernel
theorem dX7_within_94 : decode cX7_within 94 = .ok (.getfield 34, 3) := by decide +kernel
theorem dX7_within_97 : decode cX7_within 97 = .ok (.iload 6, 2) := by decide +kernel
theorem dX7_within_99 : decode cX7_within 99 = .ok (.iaload, 1) := by decide +kernel
theorem dX7_within_100 : decode cX7_within 100 = .ok (.iload 4, 2) := by decide +kernel
theorem dX7_within_102 : decode cX7_within 102 = .ok (.if_icmp .le 13, 3) := by decide +kernel
theorem dX7_within_105 : decode cX7_within 105 = .ok (.aload_n 0, 1) := by decide +kernel
theorem dX7_within_106 : decode cX7_within 106 = .ok (.getfield 34, 3) := by decide +kernel
theorem dX7_within_109 : decode cX7_within 109 = .ok (.iload 6, 2) := by decide +kernel
theorem dX7_within_111 : decode cX7_within 111 = .ok (.iaload, 1) := by decide +kernel
theorem dX7_within_112 : decode cX7_within 112 = .ok (.goto 5, 3) := by decide +kernel
theorem dX7_within_115 : decode cX7_within 115 = .ok (.iload 4, 2) := by decide +kernel
theorem dX7_within_117 : decode cX7_within 117 = .ok (.istore 4, 2) := by decide +kernel
theorem dX7_within_119 : decode cX7_within 119 = .ok (.iinc 6 1, 3) := by decide +kernel
theorem dX7_within_122 : decode cX7_within 122 = .ok (.goto (-84), 3) := by decide +kernel
theorem dX7_within_125 : decode cX7_within 125 = .ok (.iload_n 3, 1) := by decide +kernel
theorem dX7_within_126 : decode cX7_within 126 = .ok (.ifCond .ne 8, 3) := by decide +kernel
theorem dX7_within_129 : decode cX7_within 129 = .ok (.bipush (-4), 2) := by decide +kernel
theorem dX7_within_131 : decode cX7_within 131 = .ok (.goto 24, 3) := by decide +kernel
theorem dX7_within_134 : decode cX7_within 134 = .ok (.iload_n 2, 1) := by decide +kernel
theorem dX7_within_135 : decode cX7_within 135 = .ok (.iconst 1, 1) := by decide +kernel
theorem dX7_within_136 : decode cX7_within 136 = .ok (.if_icmp .ne 7, 3) := by decide +kernel
theorem dX7_within_139 : decode cX7_within 139 = .ok (.iload_n 3, 1) := by decide +kernel
theorem dX7_within_140 : decode cX7_within 140 = .ok (.goto 15, 3) := by decide +kernel
theorem dX7_within_143 : decode cX7_within 143 = .ok (.iload 5, 2) := by decide +kernel
theorem dX7_within_145 : decode cX7_within 145 = .ok (.ifCond .eq 8, 3) := by decide +kernel
theorem dX7_within_148 : decode cX7_within 148 = .ok (.bipush (-5), 2) := by decide +kernel
theorem dX7_within_150 : decode cX7_within 150 = .ok (.goto 5, 3) := by decide +kernel
theorem dX7_within_153 : decode cX7_within 153 = .ok (.iload 4, 2) := by decide +kernel
theorem dX7_within_155 : decode cX7_within 155 = .ok (.ireturn, 1) := by decide +kernel
theorem dX7_cruel_0 : decode cX7_cruel 0 = .ok (.aload_n 0, 1) := by decide +kernel
theorem dX7_cruel_1 : decode cX7_cruel 1 = .ok (.invokevirtual 154, 3) := by decide +kernel
theorem dX7_cruel_4 : decode cX7_cruel 4 = .ok (.istore_n 1, 1) := by decide +kernel
theorem dX7_cruel_5 : decode cX7_cruel 5 = .ok (.aload_n 0, 1) := by decide +kernel
theorem dX7_cruel_6 : decode cX7_cruel 6 = .ok (.invokevirtual 185, 3) := by decide +kernel
theorem dX7_cruel_9 : decode cX7_cruel 9 = .ok (.aload_n 0, 1) := by decide +kernel
theorem dX7_cruel_10 : decode cX7_cruel 10 = .ok (.iload_n 1, 1) := by decide +kernel
theorem dX7_cruel_11 : decode cX7_cruel 11 = .ok (.invokevirtual 144, 3) := by decide +kernel
theorem dX7_cruel_14 : decode cX7_cruel 14 = .ok (.iconst (-1), 1) := by decide +kernel
theorem dX7_cruel_15 : decode cX7_cruel 15 = .ok (.istore_n 2, 1) := by decide +kernel
theorem dX7_cruel_16 : decode cX7_cruel 16 = .ok (.iconst 0, 1) := by decide +kernel
theorem dX7_cruel_17 : decode cX7_cruel 17 = .ok (.istore_n 3, 1) := by decide +kernel
theorem dX7_cruel_18 : decode cX7_cruel 18 = .ok (.iconst 0, 1) := by decide +kernel
theorem dX7_cruel_19 : decode cX7_cruel 19 = .ok (.istore 4, 2) := by decide +kernel
theorem dX7_cruel_21 : decode cX7_cruel 21 = .ok (.iload 4, 2) := by decide +kernel
theorem dX7_cruel_23 : decode cX7_cruel 23 = .ok (.aload_n 0, 1) := by decide +kernel
theorem dX7_cruel_24 : decode cX7_cruel 24 = .ok (.getfield 53, 3) := by decide +kernel
theorem dX7_cruel_27 : decode cX7_cruel 27 = .ok (.if_icmp .ge 79, 3) := by decide +kernel
theorem dX7_cruel_30 : decode cX7_cruel 30 = .ok (.aload_n 0, 1) := by decide +kernel
theorem dX7_cruel_31 : decode cX7_cruel 31 = .ok (.iload 4, 2) := by decide +kernel
theorem dX7_cruel_33 : decode cX7_cruel 33 = .ok (.invokevirtual 138, 3) := by decide +kernel
theorem dX7_cruel_36 : decode cX7_cruel 36 = .ok (.istore 5, 2) := by decide +kernel
theorem dX7_cruel_38 : decode cX7_cruel 38 = .ok (.iload 5, 2) := by decide +kernel
theorem dX7_cruel_40 : decode cX7_cruel 40 = .ok (.ifCond .lt 60, 3) := by decide +kernel
theorem dX7_cruel_43 : decode cX7_cruel 43 = .ok (.aload_n 0, 1) := by decide +kernel
theorem dX7_cruel_44 : decode cX7_cruel 44 = .ok (.getfield 34, 3) := by decide +kernel
theorem dX7_cruel_47 : decode cX7_cruel 47 = .ok (.iload_n 1, 1) := by decide +kernel
theorem dX7_cruel_48 : decode cX7_cruel 48 = .ok (.iload 5, 2) := by decide +kernel
theorem dX7_cruel_50 : decode cX7_cruel 50 = .ok (.aload_n 0, 1) := by decide +kernel
theorem dX7_cruel_51 : decode cX7_cruel 51 = .ok (.getfield 43, 3) := by decide +kernel
theorem dX7_cruel_54 : decode cX7_cruel 54 = .ok (.iload 4, 2) := by decide +kernel
theorem dX7_cruel_56 : decode cX7_cruel 56 = .ok (.iaload, 1) := by decide +kernel
theorem dX7_cruel_57 : decode cX7_cruel 57 = .ok (.isub, 1) := by decide +kernel
theorem dX7_cruel_58 : decode cX7_cruel 58 = .ok (.aload_n 0, 1) := by decide +kernel
theorem dX7_cruel_59 : decode cX7_cruel 59 = .ok (.getfield 16, 3) := by decide +kernel
theorem dX7_cruel_62 : decode cX7_cruel 62 = .ok (.iload 4, 2) := by decide +kernel
theorem dX7_cruel_64 : decode cX7_cruel 64 = .ok (.iaload, 1) := by decide +kernel
theorem dX7_cruel_65 : decode cX7_cruel 65 = .ok (.imul, 1) := by decide +kernel
theorem dX7_cruel_66 : decode cX7_cruel 66 = .ok (.iadd, 1) := by decide +kernel
theorem dX7_cruel_67 : decode cX7_cruel 67 = .ok (.iaload, 1) := by decide +kernel
theorem dX7_cruel_68 : decode cX7_cruel 68 = .ok (.istore 6, 2) := by decide +kernel
theorem dX7_cruel_70 : decode cX7_cruel 70 = .ok (.iload 6, 2) := by decide +kernel
theorem dX7_cruel_72 : decode cX7_cruel 72 = .ok (.ifCond .ge 8, 3) := by decide +kernel
theorem dX7_cruel_75 : decode cX7_cruel 75 = .ok (.ldc 191, 2) := by decide +kernel
theorem dX7_cruel_77 : decode cX7_cruel 77 = .ok (.goto 5, 3) := by decide +kernel
theorem dX7_cruel_80 : decode cX7_cruel 80 = .ok (.iload 6, 2) := by decide +kernel
theorem dX7_cruel_82 : decode cX7_cruel 82 = .ok (.istore 6, 2) := by decide +kernel
theorem dX7_cruel_84 : decode cX7_cruel 84 = .ok (.iload_n 2, 1) := by decide +kernel
theorem dX7_cruel_85 : decode cX7_cruel 85 = .ok (.ifCond .lt 9, 3) := by decide +kernel
theorem dX7_cruel_88 : decode cX7_cruel 88 = .ok (.iload 6, 2) := by decide +kernel
theorem dX7_cruel_90 : decode cX7_cruel 90 = .ok (.iload_n 3, 1) := by decide +kernel
theorem dX7_cruel_91 : decode cX7_cruel 91 = .ok (.if_icmp .le 9, 3) := by decide +kernel
theorem dX7_cruel_94 : decode cX7_cruel 94 = .ok (.iload 4, 2) := by decide +kernel
theorem dX7_cruel_96 : decode cX7_cruel 96 = .ok (.istore_n 2, 1) := by decide +kernel
theorem dX7_cruel_97 : decode cX7_cruel 97 = .ok (.iload 6, 2) := by decide +kernel
theorem dX7_cruel_99 : decode cX7_cruel 99 = .ok (.istore_n 3, 1) := by decide +kernel
theorem dX7_cruel_100 : decode cX7_cruel 100 = .ok (.iinc 4 1, 3) := by decide +kernel
theorem dX7_cruel_103 : decode cX7_cruel 103 = .ok (.goto (-82), 3) := by decide +kernel
theorem dX7_cruel_106 : decode cX7_cruel 106 = .ok (.iload_n 2, 1) := by decide +kernel
theorem dX7_cruel_107 : decode cX7_cruel 107 = .ok (.ireturn, 1) := by decide +kernel
theorem dX7_drawn_0 : decode cX7_drawn 0 = .ok (.ldc2_w 192, 3) := by decide +kernel
theorem dX7_drawn_3 : decode cX7_drawn 3 = .ok (.iload_n 0, 1) := by decide +kernel
theorem dX7_drawn_4 : decode cX7_drawn 4 = .ok (.i2l, 1) := by decide +kernel
theorem dX7_drawn_5 : decode cX7_drawn 5 = .ok (.lmul, 1) := by decide +kernel
theorem dX7_drawn_6 : decode cX7_drawn 6 = .ok (.ldc2_w 194, 3) := by decide +kernel
theorem dX7_drawn_9 : decode cX7_drawn 9 = .ok (.iload_n 1, 1) := by decide +kernel
theorem dX7_drawn_10 : decode cX7_drawn 10 = .ok (.i2l, 1) := by decide +kernel
theorem dX7_drawn_11 : decode cX7_drawn 11 = .ok (.lmul, 1) := by decide +kernel
theorem dX7_drawn_12 : decode cX7_drawn 12 = .ok (.ladd, 1) := by decide +kernel
theorem dX7_drawn_13 : decode cX7_drawn 13 = .ok (.lconst 1, 1) := by decide +kernel
theorem dX7_drawn_14 : decode cX7_drawn 14 = .ok (.ladd, 1) := by decide +kernel
theorem dX7_drawn_15 : decode cX7_drawn 15 = .ok (.lstore_n 2, 1) := by decide +kernel
theorem dX7_drawn_16 : decode cX7_drawn 16 = .ok (.lload_n 2, 1) := by decide +kernel
theorem dX7_drawn_17 : decode cX7_drawn 17 = .ok (.lload_n 2, 1) := by decide +kernel
theorem dX7_drawn_18 : decode cX7_drawn 18 = .ok (.lmul, 1) := by decide +kernel
theorem dX7_drawn_19 : decode cX7_drawn 19 = .ok (.ldc2_w 196, 3) := by decide +kernel
theorem dX7_drawn_22 : decode cX7_drawn 22 = .ok (.lrem, 1) := by decide +kernel
theorem dX7_drawn_23 : decode cX7_drawn 23 = .ok (.lreturn, 1) := by decide +kernel
theorem dX7_chooses_0 : decode cX7_chooses 0 = .ok (.aload_n 0, 1) := by decide +kernel
theorem dX7_chooses_1 : decode cX7_chooses 1 = .ok (.invokevirtual 141, 3) := by decide +kernel
theorem dX7_chooses_4 : decode cX7_chooses 4 = .ok (.istore 5, 2) := by decide +kernel
theorem dX7_chooses_6 : decode cX7_chooses 6 = .ok (.iload 5, 2) := by decide +kernel
theorem dX7_chooses_8 : decode cX7_chooses 8 = .ok (.ifCond .eq 8, 3) := by decide +kernel
theorem dX7_chooses_11 : decode cX7_chooses 11 = .ok (.iload_n 1, 1) := by decide +kernel
theorem dX7_chooses_12 : decode cX7_chooses 12 = .ok (.iconst 2, 1) := by decide +kernel
theorem dX7_chooses_13 : decode cX7_chooses 13 = .ok (.if_icmp .ne 6, 3) := by decide +kernel
theorem dX7_chooses_16 : decode cX7_chooses 16 = .ok (.iload 5, 2) := by decide +kernel
theorem dX7_chooses_18 : decode cX7_chooses 18 = .ok (.ireturn, 1) := by decide +kernel
theorem dX7_chooses_19 : decode cX7_chooses 19 = .ok (.iload_n 1, 1) := by decide +kernel
theorem dX7_chooses_20 : decode cX7_chooses 20 = .ok (.iconst 4, 1) := by decide +kernel
theorem dX7_chooses_21 : decode cX7_chooses 21 = .ok (.if_icmp .ne 10, 3) := by decide +kernel
theorem dX7_chooses_24 : decode cX7_chooses 24 = .ok (.iconst 1, 1) := by decide +kernel
theorem dX7_chooses_25 : decode cX7_chooses 25 = .ok (.aload_n 0, 1) := by decide +kernel
theorem dX7_chooses_26 : decode cX7_chooses 26 = .ok (.invokevirtual 198, 3) := by decide +kernel
theorem dX7_chooses_29 : decode cX7_chooses 29 = .ok (.ishl, 1) := by decide +kernel
theorem dX7_chooses_30 : decode cX7_chooses 30 = .ok (.ireturn, 1) := by decide +kernel
theorem dX7_chooses_31 : decode cX7_chooses 31 = .ok (.iconst 0, 1) := by decide +kernel
theorem dX7_chooses_32 : decode cX7_chooses 32 = .ok (.istore 6, 2) := by decide +kernel
theorem dX7_chooses_34 : decode cX7_chooses 34 = .ok (.iload_n 1, 1) := by decide +kernel
theorem dX7_chooses_35 : decode cX7_chooses 35 = .ok (.iconst 3, 1) := by decide +kernel
theorem dX7_chooses_36 : decode cX7_chooses 36 = .ok (.if_icmp .ne 48, 3) := by decide +kernel
theorem dX7_chooses_39 : decode cX7_chooses 39 = .ok (.iconst 0, 1) := by decide +kernel
theorem dX7_chooses_40 : decode cX7_chooses 40 = .ok (.istore 7, 2) := by decide +kernel
theorem dX7_chooses_42 : decode cX7_chooses 42 = .ok (.iconst 0, 1) := by decide +kernel
theorem dX7_chooses_43 : decode cX7_chooses 43 = .ok (.istore 8, 2) := by decide +kernel
theorem dX7_chooses_45 : decode cX7_chooses 45 = .ok (.iload 8, 2) := by decide +kernel
theorem dX7_chooses_47 : decode cX7_chooses 47 = .ok (.aload_n 0, 1) := by decide +kernel
theorem dX7_chooses_48 : decode cX7_chooses 48 = .ok (.getfield 53, 3) := by decide +kernel
theorem dX7_chooses_51 : decode cX7_chooses 51 = .ok (.if_icmp .ge 21, 3) := by decide +kernel
theorem dX7_chooses_54 : decode cX7_chooses 54 = .ok (.iload 7, 2) := by decide +kernel
theorem dX7_chooses_56 : decode cX7_chooses 56 = .ok (.iload 5, 2) := by decide +kernel
theorem dX7_chooses_58 : decode cX7_chooses 58 = .ok (.iload 8, 2) := by decide +kernel
theorem dX7_chooses_60 : decode cX7_chooses 60 = .ok (.ishr, 1) := by decide +kernel
theorem dX7_chooses_61 : decode cX7_chooses 61 = .ok (.iconst 1, 1) := by decide +kernel
theorem dX7_chooses_62 : decode cX7_chooses 62 = .ok (.iand, 1) := by decide +kernel
theorem dX7_chooses_63 : decode cX7_chooses 63 = .ok (.iadd, 1) := by decide +kernel
theorem dX7_chooses_64 : decode cX7_chooses 64 = .ok (.istore 7, 2) := by decide +kernel
theorem dX7_chooses_66 : decode cX7_chooses 66 = .ok (.iinc 8 1, 3) := by decide +kernel
theorem dX7_chooses_69 : decode cX7_chooses 69 = .ok (.goto (-24), 3) := by decide +kernel
theorem dX7_chooses_72 : decode cX7_chooses 72 = .ok (.iload_n 2, 1) := by decide +kernel
theorem dX7_chooses_73 : decode cX7_chooses 73 = .ok (.iload_n 3, 1) := by decide +kernel
theorem dX7_chooses_74 : decode cX7_chooses 74 = .ok (.invokestatic 201, 3) := by decide +kernel
theorem dX7_chooses_77 : decode cX7_chooses 77 = .ok (.iload 7, 2) := by decide +kernel
theorem dX7_chooses_79 : decode cX7_chooses 79 = .ok (.i2l, 1) := by decide +kernel
theorem dX7_chooses_80 : decode cX7_chooses 80 = .ok (.lrem, 1) := by decide +kernel
theorem dX7_chooses_81 : decode cX7_chooses 81 = .ok (.l2i, 1) := by decide +kernel
theorem dX7_chooses_82 : decode cX7_chooses 82 = .ok (.istore 6, 2) := by decide +kernel
theorem dX7_chooses_84 : decode cX7_chooses 84 = .ok (.iload_n 1, 1) := by decide +kernel
theorem dX7_chooses_85 : decode cX7_chooses 85 = .ok (.iconst 1, 1) := by decide +kernel
theorem dX7_chooses_86 : decode cX7_chooses 86 = .ok (.if_icmp .ne 15, 3) := by decide +kernel
theorem dX7_chooses_89 : decode cX7_chooses 89 = .ok (.iload 4, 2) := by decide +kernel
theorem dX7_chooses_91 : decode cX7_chooses 91 = .ok (.ifCond .lt 10, 3) := by decide +kernel
theorem dX7_chooses_94 : decode cX7_chooses 94 = .ok (.iload 4, 2) := by decide +kernel
theorem dX7_chooses_96 : decode cX7_chooses 96 = .ok (.iconst 1, 1) := by decide +kernel
theorem dX7_chooses_97 : decode cX7_chooses 97 = .ok (.iadd, 1) := by decide +kernel
theorem dX7_chooses_98 : decode cX7_chooses 98 = .ok (.goto 4, 3) := by decide +kernel
theorem dX7_chooses_101 : decode cX7_chooses 101 = .ok (.iconst 0, 1) := by decide +kernel
theorem dX7_chooses_102 : decode cX7_chooses 102 = .ok (.istore 7, 2) := by decide +kernel
theorem dX7_chooses_104 : decode cX7_chooses 104 = .ok (.iload 7, 2) := by decide +kernel
theorem dX7_chooses_106 : decode cX7_chooses 106 = .ok (.aload_n 0, 1) := by decide +kernel
theorem dX7_chooses_107 : decode cX7_chooses 107 = .ok (.getfield 53, 3) := by decide +kernel
theorem dX7_chooses_110 : decode cX7_chooses 110 = .ok (.irem, 1) := by decide +kernel
theorem dX7_chooses_111 : decode cX7_chooses 111 = .ok (.istore 8, 2) := by decide +kernel
theorem dX7_chooses_113 : decode cX7_chooses 113 = .ok (.iload 5, 2) := by decide +kernel
theorem dX7_chooses_115 : decode cX7_chooses 115 = .ok (.iload 8, 2) := by decide +kernel
theorem dX7_chooses_117 : decode cX7_chooses 117 = .ok (.ishr, 1) := by decide +kernel
theorem dX7_chooses_118 : decode cX7_chooses 118 = .ok (.iconst 1, 1) := by decide +kernel
theorem dX7_chooses_119 : decode cX7_chooses 119 = .ok (.iand, 1) := by decide +kernel
theorem dX7_chooses_120 : decode cX7_chooses 120 = .ok (.ifCond .eq 8, 3) := by decide +kernel
theorem dX7_chooses_123 : decode cX7_chooses 123 = .ok (.iload 6, 2) := by decide +kernel
theorem dX7_chooses_125 : decode cX7_chooses 125 = .ok (.ifCond .le 29, 3) := by decide +kernel
theorem dX7_chooses_128 : decode cX7_chooses 128 = .ok (.iload 6, 2) := by decide +kernel
theorem dX7_chooses_130 : decode cX7_chooses 130 = .ok (.iload 5, 2) := by decide +kernel
theorem dX7_chooses_132 : decode cX7_chooses 132 = .ok (.iload 8, 2) := by decide +kernel
theorem dX7_chooses_134 : decode cX7_chooses 134 = .ok (.ishr, 1) := by decide +kernel
theorem dX7_chooses_135 : decode cX7_chooses 135 = .ok (.iconst 1, 1) := by decide +kernel
theorem dX7_chooses_136 : decode cX7_chooses 136 = .ok (.iand, 1) := by decide +kernel
theorem dX7_chooses_137 : decode cX7_chooses 137 = .ok (.isub, 1) := by decide +kernel
theorem dX7_chooses_138 : decode cX7_chooses 138 = .ok (.istore 6, 2) := by decide +kernel
theorem dX7_chooses_140 : decode cX7_chooses 140 = .ok (.iload 8, 2) := by decide +kernel
theorem dX7_chooses_142 : decode cX7_chooses 142 = .ok (.iconst 1, 1) := by decide +kernel
theorem dX7_chooses_143 : decode cX7_chooses 143 = .ok (.iadd, 1) := by decide +kernel
theorem dX7_chooses_144 : decode cX7_chooses 144 = .ok (.aload_n 0, 1) := by decide +kernel
theorem dX7_chooses_145 : decode cX7_chooses 145 = .ok (.getfield 53, 3) := by decide +kernel
theorem dX7_chooses_148 : decode cX7_chooses 148 = .ok (.irem, 1) := by decide +kernel
theorem dX7_chooses_149 : decode cX7_chooses 149 = .ok (.istore 8, 2) := by decide +kernel
theorem dX7_chooses_151 : decode cX7_chooses 151 = .ok (.goto (-38), 3) := by decide +kernel
theorem dX7_chooses_154 : decode cX7_chooses 154 = .ok (.iconst 1, 1) := by decide +kernel
theorem dX7_chooses_155 : decode cX7_chooses 155 = .ok (.iload 8, 2) := by decide +kernel
theorem dX7_chooses_157 : decode cX7_chooses 157 = .ok (.ishl, 1) := by decide +kernel
theorem dX7_chooses_158 : decode cX7_chooses 158 = .ok (.ireturn, 1) := by decide +kernel
theorem dX7_moves_0 : decode cX7_moves 0 = .ok (.iconst 0, 1) := by decide +kernel
theorem dX7_moves_1 : decode cX7_moves 1 = .ok (.istore_n 2, 1) := by decide +kernel
theorem dX7_moves_2 : decode cX7_moves 2 = .ok (.iload_n 2, 1) := by decide +kernel
theorem dX7_moves_3 : decode cX7_moves 3 = .ok (.aload_n 0, 1) := by decide +kernel
theorem dX7_moves_4 : decode cX7_moves 4 = .ok (.getfield 53, 3) := by decide +kernel
theorem dX7_moves_7 : decode cX7_moves 7 = .ok (.if_icmp .ge 38, 3) := by decide +kernel
theorem dX7_moves_10 : decode cX7_moves 10 = .ok (.aload_n 0, 1) := by decide +kernel
theorem dX7_moves_11 : decode cX7_moves 11 = .ok (.getfield 46, 3) := by decide +kernel
theorem dX7_moves_14 : decode cX7_moves 14 = .ok (.iload_n 2, 1) := by decide +kernel
theorem dX7_moves_15 : decode cX7_moves 15 = .ok (.iload_n 1, 1) := by decide +kernel
theorem dX7_moves_16 : decode cX7_moves 16 = .ok (.iload_n 2, 1) := by decide +kernel
theorem dX7_moves_17 : decode cX7_moves 17 = .ok (.ishr, 1) := by decide +kernel
theorem dX7_moves_18 : decode cX7_moves 18 = .ok (.iconst 1, 1) := by decide +kernel
theorem dX7_moves_19 : decode cX7_moves 19 = .ok (.iand, 1) := by decide +kernel
theorem dX7_moves_20 : decode cX7_moves 20 = .ok (.iconst 1, 1) := by decide +kernel
theorem dX7_moves_21 : decode cX7_moves 21 = .ok (.if_icmp .ne 11, 3) := by decide +kernel
theorem dX7_moves_24 : decode cX7_moves 24 = .ok (.aload_n 0, 1) := by decide +kernel
theorem dX7_moves_25 : decode cX7_moves 25 = .ok (.iload_n 2, 1) := by decide +kernel
theorem dX7_moves_26 : decode cX7_moves 26 = .ok (.invokevirtual 138, 3) := by decide +kernel
theorem dX7_moves_29 : decode cX7_moves 29 = .ok (.goto 9, 3) := by decide +kernel
theorem dX7_moves_32 : decode cX7_moves 32 = .ok (.aload_n 0, 1) := by decide +kernel
theorem dX7_moves_33 : decode cX7_moves 33 = .ok (.getfield 43, 3) := by decide +kernel
theorem dX7_moves_36 : decode cX7_moves 36 = .ok (.iload_n 2, 1) := by decide +kernel
theorem dX7_moves_37 : decode cX7_moves 37 = .ok (.iaload, 1) := by decide +kernel
theorem dX7_moves_38 : decode cX7_moves 38 = .ok (.iastore, 1) := by decide +kernel
theorem dX7_moves_39 : decode cX7_moves 39 = .ok (.iinc 2 1, 3) := by decide +kernel
theorem dX7_moves_42 : decode cX7_moves 42 = .ok (.goto (-40), 3) := by decide +kernel
theorem dX7_moves_45 : decode cX7_moves 45 = .ok (.iconst 0, 1) := by decide +kernel
theorem dX7_moves_46 : decode cX7_moves 46 = .ok (.istore_n 2, 1) := by decide +kernel
theorem dX7_moves_47 : decode cX7_moves 47 = .ok (.iload_n 2, 1) := by decide +kernel
theorem dX7_moves_48 : decode cX7_moves 48 = .ok (.aload_n 0, 1) := by decide +kernel
theorem dX7_moves_49 : decode cX7_moves 49 = .ok (.getfield 53, 3) := by decide +kernel
theorem dX7_moves_52 : decode cX7_moves 52 = .ok (.if_icmp .ge 21, 3) := by decide +kernel
theorem dX7_moves_55 : decode cX7_moves 55 = .ok (.aload_n 0, 1) := by decide +kernel
theorem dX7_moves_56 : decode cX7_moves 56 = .ok (.getfield 43, 3) := by decide +kernel
theorem dX7_moves_59 : decode cX7_moves 59 = .ok (.iload_n 2, 1) := by decide +kernel
theorem dX7_moves_60 : decode cX7_moves 60 = .ok (.aload_n 0, 1) := by decide +kernel
theorem dX7_moves_61 : decode cX7_moves 61 = .ok (.getfield 46, 3) := by decide +kernel
theorem dX7_moves_64 : decode cX7_moves 64 = .ok (.iload_n 2, 1) := by decide +kernel
theorem dX7_moves_65 : decode cX7_moves 65 = .ok (.iaload, 1) := by decide +kernel
theorem dX7_moves_66 : decode cX7_moves 66 = .ok (.iastore, 1) := by decide +kernel
theorem dX7_moves_67 : decode cX7_moves 67 = .ok (.iinc 2 1, 3) := by decide +kernel
theorem dX7_moves_70 : decode cX7_moves 70 = .ok (.goto (-23), 3) := by decide +kernel
theorem dX7_moves_73 : decode cX7_moves 73 = .ok (.return_, 1) := by decide +kernel
theorem dX7_lowestBit_0 : decode cX7_lowestBit 0 = .ok (.iconst 0, 1) := by decide +kernel
theorem dX7_lowestBit_1 : decode cX7_lowestBit 1 = .ok (.istore_n 1, 1) := by decide +kernel
theorem dX7_lowestBit_2 : decode cX7_lowestBit 2 = .ok (.iload_n 0, 1) := by decide +kernel
theorem dX7_lowestBit_3 : decode cX7_lowestBit 3 = .ok (.iload_n 1, 1) := by decide +kernel
theorem dX7_lowestBit_4 : decode cX7_lowestBit 4 = .ok (.ishr, 1) := by decide +kernel
theorem dX7_lowestBit_5 : decode cX7_lowestBit 5 = .ok (.iconst 1, 1) := by decide +kernel
theorem dX7_lowestBit_6 : decode cX7_lowestBit 6 = .ok (.iand, 1) := by decide +kernel
theorem dX7_lowestBit_7 : decode cX7_lowestBit 7 = .ok (.ifCond .ne 9, 3) := by decide +kernel
theorem dX7_lowestBit_10 : decode cX7_lowestBit 10 = .ok (.iinc 1 1, 3) := by decide +kernel
theorem dX7_lowestBit_13 : decode cX7_lowestBit 13 = .ok (.goto (-11), 3) := by decide +kernel
theorem dX7_lowestBit_16 : decode cX7_lowestBit 16 = .ok (.iload_n 1, 1) := by decide +kernel
theorem dX7_lowestBit_17 : decode cX7_lowestBit 17 = .ok (.ireturn, 1) := by decide +kernel
theorem dX7_run_0 : decode cX7_run 0 = .ok (.iload_n 1, 1) := by decide +kernel
theorem dX7_run_1 : decode cX7_run 1 = .ok (.iconst 0, 1) := by decide +kernel
theorem dX7_run_2 : decode cX7_run 2 = .ok (.iconst 4, 1) := by decide +kernel
theorem dX7_run_3 : decode cX7_run 3 = .ok (.invokestatic 88, 3) := by decide +kernel
theorem dX7_run_6 : decode cX7_run 6 = .ok (.ifCond .eq 25, 3) := by decide +kernel
theorem dX7_run_9 : decode cX7_run 9 = .ok (.iload_n 2, 1) := by decide +kernel
theorem dX7_run_10 : decode cX7_run 10 = .ok (.iconst 0, 1) := by decide +kernel
theorem dX7_run_11 : decode cX7_run 11 = .ok (.sipush 9999, 3) := by decide +kernel
theorem dX7_run_14 : decode cX7_run 14 = .ok (.invokestatic 88, 3) := by decide +kernel
theorem dX7_run_17 : decode cX7_run 17 = .ok (.ifCond .eq 14, 3) := by decide +kernel
theorem dX7_run_20 : decode cX7_run 20 = .ok (.iload_n 3, 1) := by decide +kernel
theorem dX7_run_21 : decode cX7_run 21 = .ok (.iconst 1, 1) := by decide +kernel
theorem dX7_run_22 : decode cX7_run 22 = .ok (.sipush 300, 3) := by decide +kernel
theorem dX7_run_25 : decode cX7_run 25 = .ok (.invokestatic 88, 3) := by decide +kernel
theorem dX7_run_28 : decode cX7_run 28 = .ok (.ifCond .ne 5, 3) := by decide +kernel
theorem dX7_run_31 : decode cX7_run 31 = .ok (.iconst (-1), 1) := by decide +kernel
theorem dX7_run_32 : decode cX7_run 32 = .ok (.ireturn, 1) := by decide +kernel
theorem dX7_run_33 : decode cX7_run 33 = .ok (.aload_n 0, 1) := by decide +kernel
theorem dX7_run_34 : decode cX7_run 34 = .ok (.invokevirtual 151, 3) := by decide +kernel
theorem dX7_run_37 : decode cX7_run 37 = .ok (.iconst 0, 1) := by decide +kernel
theorem dX7_run_38 : decode cX7_run 38 = .ok (.istore 4, 2) := by decide +kernel
theorem dX7_run_40 : decode cX7_run 40 = .ok (.aload_n 0, 1) := by decide +kernel
theorem dX7_run_41 : decode cX7_run 41 = .ok (.getfield 65, 3) := by decide +kernel
theorem dX7_run_44 : decode cX7_run 44 = .ok (.istore 5, 2) := by decide +kernel
theorem dX7_run_46 : decode cX7_run 46 = .ok (.iload 4, 2) := by decide +kernel
theorem dX7_run_48 : decode cX7_run 48 = .ok (.iload_n 3, 1) := by decide +kernel
theorem dX7_run_49 : decode cX7_run 49 = .ok (.if_icmp .ge 58, 3) := by decide +kernel
theorem dX7_run_52 : decode cX7_run 52 = .ok (.aload_n 0, 1) := by decide +kernel
theorem dX7_run_53 : decode cX7_run 53 = .ok (.invokevirtual 166, 3) := by decide +kernel
theorem dX7_run_56 : decode cX7_run 56 = .ok (.ifCond .ne 51, 3) := by decide +kernel
theorem dX7_run_59 : decode cX7_run 59 = .ok (.aload_n 0, 1) := by decide +kernel
theorem dX7_run_60 : decode cX7_run 60 = .ok (.invokevirtual 141, 3) := by decide +kernel
theorem dX7_run_63 : decode cX7_run 63 = .ok (.ifCond .eq 44, 3) := by decide +kernel
theorem dX7_run_66 : decode cX7_run 66 = .ok (.aload_n 0, 1) := by decide +kernel
theorem dX7_run_67 : decode cX7_run 67 = .ok (.iload_n 1, 1) := by decide +kernel
theorem dX7_run_68 : decode cX7_run 68 = .ok (.iload_n 2, 1) := by decide +kernel
theorem dX7_run_69 : decode cX7_run 69 = .ok (.iload 4, 2) := by decide +kernel
theorem dX7_run_71 : decode cX7_run 71 = .ok (.iload 5, 2) := by decide +kernel
theorem dX7_run_73 : decode cX7_run 73 = .ok (.invokevirtual 205, 3) := by decide +kernel
theorem dX7_run_76 : decode cX7_run 76 = .ok (.istore 6, 2) := by decide +kernel
theorem dX7_run_78 : decode cX7_run 78 = .ok (.iload_n 1, 1) := by decide +kernel
theorem dX7_run_79 : decode cX7_run 79 = .ok (.iconst 1, 1) := by decide +kernel
theorem dX7_run_80 : decode cX7_run 80 = .ok (.if_icmp .ne 11, 3) := by decide +kernel
theorem dX7_run_83 : decode cX7_run 83 = .ok (.iload 6, 2) := by decide +kernel
theorem dX7_run_85 : decode cX7_run 85 = .ok (.invokestatic 209, 3) := by decide +kernel
theorem dX7_run_88 : decode cX7_run 88 = .ok (.goto 5, 3) := by decide +kernel
theorem dX7_run_91 : decode cX7_run 91 = .ok (.iload 5, 2) := by decide +kernel
theorem dX7_run_93 : decode cX7_run 93 = .ok (.istore 5, 2) := by decide +kernel
theorem dX7_run_95 : decode cX7_run 95 = .ok (.aload_n 0, 1) := by decide +kernel
theorem dX7_run_96 : decode cX7_run 96 = .ok (.iload 6, 2) := by decide +kernel
theorem dX7_run_98 : decode cX7_run 98 = .ok (.invokevirtual 212, 3) := by decide +kernel
theorem dX7_run_101 : decode cX7_run 101 = .ok (.iinc 4 1, 3) := by decide +kernel
theorem dX7_run_104 : decode cX7_run 104 = .ok (.goto (-58), 3) := by decide +kernel
theorem dX7_run_107 : decode cX7_run 107 = .ok (.iload 4, 2) := by decide +kernel
theorem dX7_run_109 : decode cX7_run 109 = .ok (.ifCond .le 25, 3) := by decide +kernel
theorem dX7_run_112 : decode cX7_run 112 = .ok (.aload_n 0, 1) := by decide +kernel
theorem dX7_run_113 : decode cX7_run 113 = .ok (.invokevirtual 154, 3) := by decide +kernel
theorem dX7_run_116 : decode cX7_run 116 = .ok (.istore 6, 2) := by decide +kernel
theorem dX7_run_118 : decode cX7_run 118 = .ok (.aload_n 0, 1) := by decide +kernel
theorem dX7_run_119 : decode cX7_run 119 = .ok (.invokevirtual 157, 3) := by decide +kernel
theorem dX7_run_122 : decode cX7_run 122 = .ok (.aload_n 0, 1) := by decide +kernel
theorem dX7_run_123 : decode cX7_run 123 = .ok (.iload 6, 2) := by decide +kernel
theorem dX7_run_125 : decode cX7_run 125 = .ok (.invokevirtual 163, 3) := by decide +kernel
theorem dX7_run_128 : decode cX7_run 128 = .ok (.aload_n 0, 1) := by decide +kernel
theorem dX7_run_129 : decode cX7_run 129 = .ok (.iload 5, 2) := by decide +kernel
theorem dX7_run_131 : decode cX7_run 131 = .ok (.putfield 65, 3) := by decide +kernel
theorem dX7_run_134 : decode cX7_run 134 = .ok (.iload 4, 2) := by decide +kernel
theorem dX7_run_136 : decode cX7_run 136 = .ok (.ireturn, 1) := by decide +kernel
theorem dX7_next_0 : decode cX7_next 0 = .ok (.iload_n 1, 1) := by decide +kernel
theorem dX7_next_1 : decode cX7_next 1 = .ok (.iconst 0, 1) := by decide +kernel
theorem dX7_next_2 : decode cX7_next 2 = .ok (.iconst 4, 1) := by decide +kernel
theorem dX7_next_3 : decode cX7_next 3 = .ok (.invokestatic 88, 3) := by decide +kernel
theorem dX7_next_6 : decode cX7_next 6 = .ok (.ifCond .eq 8, 3) := by decide +kernel
theorem dX7_next_9 : decode cX7_next 9 = .ok (.iload_n 1, 1) := by decide +kernel
theorem dX7_next_10 : decode cX7_next 10 = .ok (.iconst 3, 1) := by decide +kernel
theorem dX7_next_11 : decode cX7_next 11 = .ok (.if_icmp .ne 5, 3) := by decide +kernel
theorem dX7_next_14 : decode cX7_next 14 = .ok (.iconst (-1), 1) := by decide +kernel
theorem dX7_next_15 : decode cX7_next 15 = .ok (.ireturn, 1) := by decide +kernel
theorem dX7_next_16 : decode cX7_next 16 = .ok (.aload_n 0, 1) := by decide +kernel
theorem dX7_next_17 : decode cX7_next 17 = .ok (.invokevirtual 151, 3) := by decide +kernel
theorem dX7_next_20 : decode cX7_next 20 = .ok (.aload_n 0, 1) := by decide +kernel
theorem dX7_next_21 : decode cX7_next 21 = .ok (.iload_n 1, 1) := by decide +kernel
theorem dX7_next_22 : decode cX7_next 22 = .ok (.iconst 0, 1) := by decide +kernel
theorem dX7_next_23 : decode cX7_next 23 = .ok (.iconst 0, 1) := by decide +kernel
theorem dX7_next_24 : decode cX7_next 24 = .ok (.aload_n 0, 1) := by decide +kernel
theorem dX7_next_25 : decode cX7_next 25 = .ok (.getfield 65, 3) := by decide +kernel
theorem dX7_next_28 : decode cX7_next 28 = .ok (.invokevirtual 205, 3) := by decide +kernel
theorem dX7_next_31 : decode cX7_next 31 = .ok (.ireturn, 1) := by decide +kernel
theorem dX7_follows_0 : decode cX7_follows 0 = .ok (.aload_n 0, 1) := by decide +kernel
theorem dX7_follows_1 : decode cX7_follows 1 = .ok (.iload_n 2, 1) := by decide +kernel
theorem dX7_follows_2 : decode cX7_follows 2 = .ok (.invokevirtual 144, 3) := by decide +kernel
theorem dX7_follows_5 : decode cX7_follows 5 = .ok (.aload_n 0, 1) := by decide +kernel
theorem dX7_follows_6 : decode cX7_follows 6 = .ok (.aload_n 0, 1) := by decide +kernel
theorem dX7_follows_7 : decode cX7_follows 7 = .ok (.iload_n 1, 1) := by decide +kernel
theorem dX7_follows_8 : decode cX7_follows 8 = .ok (.iconst 0, 1) := by decide +kernel
theorem dX7_follows_9 : decode cX7_follows 9 = .ok (.iconst 0, 1) := by decide +kernel
theorem dX7_follows_10 : decode cX7_follows 10 = .ok (.bipush (-4), 2) := by decide +kernel
theorem dX7_follows_12 : decode cX7_follows 12 = .ok (.invokevirtual 205, 3) := by decide +kernel
theorem dX7_follows_15 : decode cX7_follows 15 = .ok (.invokevirtual 212, 3) := by decide +kernel
theorem dX7_follows_18 : decode cX7_follows 18 = .ok (.aload_n 0, 1) := by decide +kernel
theorem dX7_follows_19 : decode cX7_follows 19 = .ok (.invokevirtual 154, 3) := by decide +kernel
theorem dX7_follows_22 : decode cX7_follows 22 = .ok (.ireturn, 1) := by decide +kernel
theorem dX7_loop_0 : decode cX7_loop 0 = .ok (.iload_n 1, 1) := by decide +kernel
theorem dX7_loop_1 : decode cX7_loop 1 = .ok (.ifCond .eq 13, 3) := by decide +kernel
theorem dX7_loop_4 : decode cX7_loop 4 = .ok (.iload_n 1, 1) := by decide +kernel
theorem dX7_loop_5 : decode cX7_loop 5 = .ok (.iconst 2, 1) := by decide +kernel
theorem dX7_loop_6 : decode cX7_loop 6 = .ok (.if_icmp .eq 8, 3) := by decide +kernel
theorem dX7_loop_9 : decode cX7_loop 9 = .ok (.iload_n 1, 1) := by decide +kernel
theorem dX7_loop_10 : decode cX7_loop 10 = .ok (.iconst 4, 1) := by decide +kernel
theorem dX7_loop_11 : decode cX7_loop 11 = .ok (.if_icmp .ne 12, 3) := by decide +kernel
theorem dX7_loop_14 : decode cX7_loop 14 = .ok (.iload_n 2, 1) := by decide +kernel
theorem dX7_loop_15 : decode cX7_loop 15 = .ok (.iconst 0, 1) := by decide +kernel
theorem dX7_loop_16 : decode cX7_loop 16 = .ok (.iconst 1, 1) := by decide +kernel
theorem dX7_loop_17 : decode cX7_loop 17 = .ok (.invokestatic 88, 3) := by decide +kernel
theorem dX7_loop_20 : decode cX7_loop 20 = .ok (.ifCond .ne 5, 3) := by decide +kernel
theorem dX7_loop_23 : decode cX7_loop 23 = .ok (.iconst (-1), 1) := by decide +kernel
theorem dX7_loop_24 : decode cX7_loop 24 = .ok (.ireturn, 1) := by decide +kernel
theorem dX7_loop_25 : decode cX7_loop 25 = .ok (.aload_n 0, 1) := by decide +kernel
theorem dX7_loop_26 : decode cX7_loop 26 = .ok (.invokevirtual 160, 3) := by decide +kernel
theorem dX7_loop_29 : decode cX7_loop 29 = .ok (.istore_n 3, 1) := by decide +kernel
theorem dX7_loop_30 : decode cX7_loop 30 = .ok (.aload_n 0, 1) := by decide +kernel
theorem dX7_loop_31 : decode cX7_loop 31 = .ok (.iload_n 1, 1) := by decide +kernel
theorem dX7_loop_32 : decode cX7_loop 32 = .ok (.iload_n 3, 1) := by decide +kernel
theorem dX7_loop_33 : decode cX7_loop 33 = .ok (.invokevirtual 215, 3) := by decide +kernel
theorem dX7_loop_36 : decode cX7_loop 36 = .ok (.istore 4, 2) := by decide +kernel
theorem dX7_loop_38 : decode cX7_loop 38 = .ok (.aload_n 0, 1) := by decide +kernel
theorem dX7_loop_39 : decode cX7_loop 39 = .ok (.iload_n 1, 1) := by decide +kernel
theorem dX7_loop_40 : decode cX7_loop 40 = .ok (.iload 4, 2) := by decide +kernel
theorem dX7_loop_42 : decode cX7_loop 42 = .ok (.invokevirtual 215, 3) := by decide +kernel
theorem dX7_loop_45 : decode cX7_loop 45 = .ok (.istore 5, 2) := by decide +kernel
theorem dX7_loop_47 : decode cX7_loop 47 = .ok (.iload 4, 2) := by decide +kernel
theorem dX7_loop_49 : decode cX7_loop 49 = .ok (.iload 5, 2) := by decide +kernel
theorem dX7_loop_51 : decode cX7_loop 51 = .ok (.if_icmp .eq 29, 3) := by decide +kernel
theorem dX7_loop_54 : decode cX7_loop 54 = .ok (.aload_n 0, 1) := by decide +kernel
theorem dX7_loop_55 : decode cX7_loop 55 = .ok (.iload_n 1, 1) := by decide +kernel
theorem dX7_loop_56 : decode cX7_loop 56 = .ok (.iload 4, 2) := by decide +kernel
theorem dX7_loop_58 : decode cX7_loop 58 = .ok (.invokevirtual 215, 3) := by decide +kernel
theorem dX7_loop_61 : decode cX7_loop 61 = .ok (.istore 4, 2) := by decide +kernel
theorem dX7_loop_63 : decode cX7_loop 63 = .ok (.aload_n 0, 1) := by decide +kernel
theorem dX7_loop_64 : decode cX7_loop 64 = .ok (.iload_n 1, 1) := by decide +kernel
theorem dX7_loop_65 : decode cX7_loop 65 = .ok (.aload_n 0, 1) := by decide +kernel
theorem dX7_loop_66 : decode cX7_loop 66 = .ok (.iload_n 1, 1) := by decide +kernel
theorem dX7_loop_67 : decode cX7_loop 67 = .ok (.iload 5, 2) := by decide +kernel
theorem dX7_loop_69 : decode cX7_loop 69 = .ok (.invokevirtual 215, 3) := by decide +kernel
theorem dX7_loop_72 : decode cX7_loop 72 = .ok (.invokevirtual 215, 3) := by decide +kernel
theorem dX7_loop_75 : decode cX7_loop 75 = .ok (.istore 5, 2) := by decide +kernel
theorem dX7_loop_77 : decode cX7_loop 77 = .ok (.goto (-30), 3) := by decide +kernel
theorem dX7_loop_80 : decode cX7_loop 80 = .ok (.iconst 0, 1) := by decide +kernel
theorem dX7_loop_81 : decode cX7_loop 81 = .ok (.istore 6, 2) := by decide +kernel
theorem dX7_loop_83 : decode cX7_loop 83 = .ok (.iload_n 3, 1) := by decide +kernel
theorem dX7_loop_84 : decode cX7_loop 84 = .ok (.istore 7, 2) := by decide +kernel
theorem dX7_loop_86 : decode cX7_loop 86 = .ok (.iload 7, 2) := by decide +kernel
theorem dX7_loop_88 : decode cX7_loop 88 = .ok (.iload 5, 2) := by decide +kernel
theorem dX7_loop_90 : decode cX7_loop 90 = .ok (.if_icmp .eq 27, 3) := by decide +kernel
theorem dX7_loop_93 : decode cX7_loop 93 = .ok (.aload_n 0, 1) := by decide +kernel
theorem dX7_loop_94 : decode cX7_loop 94 = .ok (.iload_n 1, 1) := by decide +kernel
theorem dX7_loop_95 : decode cX7_loop 95 = .ok (.iload 7, 2) := by decide +kernel
theorem dX7_loop_97 : decode cX7_loop 97 = .ok (.invokevirtual 215, 3) := by decide +kernel
theorem dX7_loop_100 : decode cX7_loop 100 = .ok (.istore 7, 2) := by decide +kernel
theorem dX7_loop_102 : decode cX7_loop 102 = .ok (.aload_n 0, 1) := by decide +kernel
theorem dX7_loop_103 : decode cX7_loop 103 = .ok (.iload_n 1, 1) := by decide +kernel
theorem dX7_loop_104 : decode cX7_loop 104 = .ok (.iload 5, 2) := by decide +kernel
theorem dX7_loop_106 : decode cX7_loop 106 = .ok (.invokevirtual 215, 3) := by decide +kernel
theorem dX7_loop_109 : decode cX7_loop 109 = .ok (.istore 5, 2) := by decide +kernel
theorem dX7_loop_111 : decode cX7_loop 111 = .ok (.iinc 6 1, 3) := by decide +kernel
theorem dX7_loop_114 : decode cX7_loop 114 = .ok (.goto (-28), 3) := by decide +kernel
theorem dX7_loop_117 : decode cX7_loop 117 = .ok (.iconst 1, 1) := by decide +kernel
theorem dX7_loop_118 : decode cX7_loop 118 = .ok (.istore 8, 2) := by decide +kernel
theorem dX7_loop_120 : decode cX7_loop 120 = .ok (.aload_n 0, 1) := by decide +kernel
theorem dX7_loop_121 : decode cX7_loop 121 = .ok (.iload_n 1, 1) := by decide +kernel
theorem dX7_loop_122 : decode cX7_loop 122 = .ok (.iload 7, 2) := by decide +kernel
theorem dX7_loop_124 : decode cX7_loop 124 = .ok (.invokevirtual 215, 3) := by decide +kernel
theorem dX7_loop_127 : decode cX7_loop 127 = .ok (.istore 9, 2) := by decide +kernel
theorem dX7_loop_129 : decode cX7_loop 129 = .ok (.iload 9, 2) := by decide +kernel
theorem dX7_loop_131 : decode cX7_loop 131 = .ok (.iload 7, 2) := by decide +kernel
theorem dX7_loop_133 : decode cX7_loop 133 = .ok (.if_icmp .eq 18, 3) := by decide +kernel
theorem dX7_loop_136 : decode cX7_loop 136 = .ok (.aload_n 0, 1) := by decide +kernel
theorem dX7_loop_137 : decode cX7_loop 137 = .ok (.iload_n 1, 1) := by decide +kernel
theorem dX7_loop_138 : decode cX7_loop 138 = .ok (.iload 9, 2) := by decide +kernel
theorem dX7_loop_140 : decode cX7_loop 140 = .ok (.invokevirtual 215, 3) := by decide +kernel
theorem dX7_loop_143 : decode cX7_loop 143 = .ok (.istore 9, 2) := by decide +kernel
theorem dX7_loop_145 : decode cX7_loop 145 = .ok (.iinc 8 1, 3) := by decide +kernel
theorem dX7_loop_148 : decode cX7_loop 148 = .ok (.goto (-19), 3) := by decide +kernel
theorem dX7_loop_151 : decode cX7_loop 151 = .ok (.iload_n 2, 1) := by decide +kernel
theorem dX7_loop_152 : decode cX7_loop 152 = .ok (.ifCond .ne 8, 3) := by decide +kernel
theorem dX7_loop_155 : decode cX7_loop 155 = .ok (.iload 6, 2) := by decide +kernel
theorem dX7_loop_157 : decode cX7_loop 157 = .ok (.goto 5, 3) := by decide +kernel
theorem dX7_loop_160 : decode cX7_loop 160 = .ok (.iload 8, 2) := by decide +kernel
theorem dX7_loop_162 : decode cX7_loop 162 = .ok (.ireturn, 1) := by decide +kernel
theorem dX7_storm_0 : decode cX7_storm 0 = .ok (.iload_n 1, 1) := by decide +kernel
theorem dX7_storm_1 : decode cX7_storm 1 = .ok (.iconst 0, 1) := by decide +kernel
theorem dX7_storm_2 : decode cX7_storm 2 = .ok (.iconst 2, 1) := by decide +kernel
theorem dX7_storm_3 : decode cX7_storm 3 = .ok (.invokestatic 88, 3) := by decide +kernel
theorem dX7_storm_6 : decode cX7_storm 6 = .ok (.ifCond .eq 35, 3) := by decide +kernel
theorem dX7_storm_9 : decode cX7_storm 9 = .ok (.iload_n 2, 1) := by decide +kernel
theorem dX7_storm_10 : decode cX7_storm 10 = .ok (.iconst 0, 1) := by decide +kernel
theorem dX7_storm_11 : decode cX7_storm 11 = .ok (.sipush 9999, 3) := by decide +kernel
theorem dX7_storm_14 : decode cX7_storm 14 = .ok (.invokestatic 88, 3) := by decide +kernel
theorem dX7_storm_17 : decode cX7_storm 17 = .ok (.ifCond .eq 24, 3) := by decide +kernel
theorem dX7_storm_20 : decode cX7_storm 20 = .ok (.iload_n 3, 1) := by decide +kernel
theorem dX7_storm_21 : decode cX7_storm 21 = .ok (.iconst 1, 1) := by decide +kernel
theorem dX7_storm_22 : decode cX7_storm 22 = .ok (.sipush 200, 3) := by decide +kernel
theorem dX7_storm_25 : decode cX7_storm 25 = .ok (.invokestatic 88, 3) := by decide +kernel
theorem dX7_storm_28 : decode cX7_storm 28 = .ok (.ifCond .eq 13, 3) := by decide +kernel
theorem dX7_storm_31 : decode cX7_storm 31 = .ok (.iload 4, 2) := by decide +kernel
theorem dX7_storm_33 : decode cX7_storm 33 = .ok (.iconst 0, 1) := by decide +kernel
theorem dX7_storm_34 : decode cX7_storm 34 = .ok (.iconst 2, 1) := by decide +kernel
theorem dX7_storm_35 : decode cX7_storm 35 = .ok (.invokestatic 88, 3) := by decide +kernel
theorem dX7_storm_38 : decode cX7_storm 38 = .ok (.ifCond .ne 5, 3) := by decide +kernel
theorem dX7_storm_41 : decode cX7_storm 41 = .ok (.iconst (-1), 1) := by decide +kernel
theorem dX7_storm_42 : decode cX7_storm 42 = .ok (.ireturn, 1) := by decide +kernel
theorem dX7_storm_43 : decode cX7_storm 43 = .ok (.aload_n 0, 1) := by decide +kernel
theorem dX7_storm_44 : decode cX7_storm 44 = .ok (.invokevirtual 151, 3) := by decide +kernel
theorem dX7_storm_47 : decode cX7_storm 47 = .ok (.aload_n 0, 1) := by decide +kernel
theorem dX7_storm_48 : decode cX7_storm 48 = .ok (.getfield 65, 3) := by decide +kernel
theorem dX7_storm_51 : decode cX7_storm 51 = .ok (.istore 5, 2) := by decide +kernel
theorem dX7_storm_53 : decode cX7_storm 53 = .ok (.iconst 0, 1) := by decide +kernel
theorem dX7_storm_54 : decode cX7_storm 54 = .ok (.istore 6, 2) := by decide +kernel
theorem dX7_storm_56 : decode cX7_storm 56 = .ok (.iconst 0, 1) := by decide +kernel
theorem dX7_storm_57 : decode cX7_storm 57 = .ok (.istore 7, 2) := by decide +kernel
theorem dX7_storm_59 : decode cX7_storm 59 = .ok (.iconst 0, 1) := by decide +kernel
theorem dX7_storm_60 : decode cX7_storm 60 = .ok (.istore 8, 2) := by decide +kernel
theorem dX7_storm_62 : decode cX7_storm 62 = .ok (.iconst 0, 1) := by decide +kernel
theorem dX7_storm_63 : decode cX7_storm 63 = .ok (.istore 9, 2) := by decide +kernel
theorem dX7_storm_65 : decode cX7_storm 65 = .ok (.iload 9, 2) := by decide +kernel
theorem dX7_storm_67 : decode cX7_storm 67 = .ok (.iload_n 3, 1) := by decide +kernel
theorem dX7_storm_68 : decode cX7_storm 68 = .ok (.if_icmp .ge 148, 3) := by decide +kernel
theorem dX7_storm_71 : decode cX7_storm 71 = .ok (.iload_n 2, 1) := by decide +kernel
theorem dX7_storm_72 : decode cX7_storm 72 = .ok (.iload 9, 2) := by decide +kernel
theorem dX7_storm_74 : decode cX7_storm 74 = .ok (.invokestatic 201, 3) := by decide +kernel
theorem dX7_storm_77 : decode cX7_storm 77 = .ok (.l2i, 1) := by decide +kernel
theorem dX7_storm_78 : decode cX7_storm 78 = .ok (.istore 10, 2) := by decide +kernel
theorem dX7_storm_80 : decode cX7_storm 80 = .ok (.iload 10, 2) := by decide +kernel
theorem dX7_storm_82 : decode cX7_storm 82 = .ok (.bipush 8, 2) := by decide +kernel
theorem dX7_storm_84 : decode cX7_storm 84 = .ok (.irem, 1) := by decide +kernel
theorem dX7_storm_85 : decode cX7_storm 85 = .ok (.ifCond .ne 31, 3) := by decide +kernel
theorem dX7_storm_88 : decode cX7_storm 88 = .ok (.aload_n 0, 1) := by decide +kernel
theorem dX7_storm_89 : decode cX7_storm 89 = .ok (.getfield 43, 3) := by decide +kernel
theorem dX7_storm_92 : decode cX7_storm 92 = .ok (.iload 10, 2) := by decide +kernel
theorem dX7_storm_94 : decode cX7_storm 94 = .ok (.bipush 8, 2) := by decide +kernel
theorem dX7_storm_96 : decode cX7_storm 96 = .ok (.idiv, 1) := by decide +kernel
theorem dX7_storm_97 : decode cX7_storm 97 = .ok (.aload_n 0, 1) := by decide +kernel
theorem dX7_storm_98 : decode cX7_storm 98 = .ok (.getfield 53, 3) := by decide +kernel
theorem dX7_storm_101 : decode cX7_storm 101 = .ok (.irem, 1) := by decide +kernel
theorem dX7_storm_102 : decode cX7_storm 102 = .ok (.iload 10, 2) := by decide +kernel
theorem dX7_storm_104 : decode cX7_storm 104 = .ok (.bipush 64, 2) := by decide +kernel
theorem dX7_storm_106 : decode cX7_storm 106 = .ok (.idiv, 1) := by decide +kernel
theorem dX7_storm_107 : decode cX7_storm 107 = .ok (.aload_n 0, 1) := by decide +kernel
theorem dX7_storm_108 : decode cX7_storm 108 = .ok (.getfield 56, 3) := by decide +kernel
theorem dX7_storm_111 : decode cX7_storm 111 = .ok (.irem, 1) := by decide +kernel
theorem dX7_storm_112 : decode cX7_storm 112 = .ok (.iastore, 1) := by decide +kernel
theorem dX7_storm_113 : decode cX7_storm 113 = .ok (.goto 45, 3) := by decide +kernel
theorem dX7_storm_116 : decode cX7_storm 116 = .ok (.aload_n 0, 1) := by decide +kernel
theorem dX7_storm_117 : decode cX7_storm 117 = .ok (.invokevirtual 141, 3) := by decide +kernel
theorem dX7_storm_120 : decode cX7_storm 120 = .ok (.ifCond .eq 38, 3) := by decide +kernel
theorem dX7_storm_123 : decode cX7_storm 123 = .ok (.aload_n 0, 1) := by decide +kernel
theorem dX7_storm_124 : decode cX7_storm 124 = .ok (.iload_n 1, 1) := by decide +kernel
theorem dX7_storm_125 : decode cX7_storm 125 = .ok (.iload_n 2, 1) := by decide +kernel
theorem dX7_storm_126 : decode cX7_storm 126 = .ok (.iload 9, 2) := by decide +kernel
theorem dX7_storm_128 : decode cX7_storm 128 = .ok (.iload 5, 2) := by decide +kernel
theorem dX7_storm_130 : decode cX7_storm 130 = .ok (.invokevirtual 205, 3) := by decide +kernel
theorem dX7_storm_133 : decode cX7_storm 133 = .ok (.istore 11, 2) := by decide +kernel
theorem dX7_storm_135 : decode cX7_storm 135 = .ok (.iload_n 1, 1) := by decide +kernel
theorem dX7_storm_136 : decode cX7_storm 136 = .ok (.iconst 1, 1) := by decide +kernel
theorem dX7_storm_137 : decode cX7_storm 137 = .ok (.if_icmp .ne 11, 3) := by decide +kernel
theorem dX7_storm_140 : decode cX7_storm 140 = .ok (.iload 11, 2) := by decide +kernel
theorem dX7_storm_142 : decode cX7_storm 142 = .ok (.invokestatic 209, 3) := by decide +kernel
theorem dX7_storm_145 : decode cX7_storm 145 = .ok (.goto 5, 3) := by decide +kernel
theorem dX7_storm_148 : decode cX7_storm 148 = .ok (.iload 5, 2) := by decide +kernel
theorem dX7_storm_150 : decode cX7_storm 150 = .ok (.istore 5, 2) := by decide +kernel
theorem dX7_storm_152 : decode cX7_storm 152 = .ok (.aload_n 0, 1) := by decide +kernel
theorem dX7_storm_153 : decode cX7_storm 153 = .ok (.iload 11, 2) := by decide +kernel
theorem dX7_storm_155 : decode cX7_storm 155 = .ok (.invokevirtual 212, 3) := by decide +kernel
theorem dX7_storm_158 : decode cX7_storm 158 = .ok (.aload_n 0, 1) := by decide +kernel
theorem dX7_storm_159 : decode cX7_storm 159 = .ok (.invokevirtual 166, 3) := by decide +kernel
theorem dX7_storm_162 : decode cX7_storm 162 = .ok (.istore 11, 2) := by decide +kernel
theorem dX7_storm_164 : decode cX7_storm 164 = .ok (.iload 6, 2) := by decide +kernel
theorem dX7_storm_166 : decode cX7_storm 166 = .ok (.iload 11, 2) := by decide +kernel
theorem dX7_storm_168 : decode cX7_storm 168 = .ok (.ifCond .eq 7, 3) := by decide +kernel
theorem dX7_storm_171 : decode cX7_storm 171 = .ok (.iconst 1, 1) := by decide +kernel
theorem dX7_storm_172 : decode cX7_storm 172 = .ok (.goto 4, 3) := by decide +kernel
theorem dX7_storm_175 : decode cX7_storm 175 = .ok (.iconst 0, 1) := by decide +kernel
theorem dX7_storm_176 : decode cX7_storm 176 = .ok (.iadd, 1) := by decide +kernel
theorem dX7_storm_177 : decode cX7_storm 177 = .ok (.istore 6, 2) := by decide +kernel
theorem dX7_storm_179 : decode cX7_storm 179 = .ok (.iload 11, 2) := by decide +kernel
theorem dX7_storm_181 : decode cX7_storm 181 = .ok (.ifCond .eq 7, 3) := by decide +kernel
theorem dX7_storm_184 : decode cX7_storm 184 = .ok (.iconst 0, 1) := by decide +kernel
theorem dX7_storm_185 : decode cX7_storm 185 = .ok (.goto 7, 3) := by decide +kernel
theorem dX7_storm_188 : decode cX7_storm 188 = .ok (.iload 7, 2) := by decide +kernel
theorem dX7_storm_190 : decode cX7_storm 190 = .ok (.iconst 1, 1) := by decide +kernel
theorem dX7_storm_191 : decode cX7_storm 191 = .ok (.iadd, 1) := by decide +kernel
theorem dX7_storm_192 : decode cX7_storm 192 = .ok (.istore 7, 2) := by decide +kernel
theorem dX7_storm_194 : decode cX7_storm 194 = .ok (.iload 7, 2) := by decide +kernel
theorem dX7_storm_196 : decode cX7_storm 196 = .ok (.iload 8, 2) := by decide +kernel
theorem dX7_storm_198 : decode cX7_storm 198 = .ok (.if_icmp .le 8, 3) := by decide +kernel
theorem dX7_storm_201 : decode cX7_storm 201 = .ok (.iload 7, 2) := by decide +kernel
theorem dX7_storm_203 : decode cX7_storm 203 = .ok (.goto 5, 3) := by decide +kernel
theorem dX7_storm_206 : decode cX7_storm 206 = .ok (.iload 8, 2) := by decide +kernel
theorem dX7_storm_208 : decode cX7_storm 208 = .ok (.istore 8, 2) := by decide +kernel
theorem dX7_storm_210 : decode cX7_storm 210 = .ok (.iinc 9 1, 3) := by decide +kernel
theorem dX7_storm_213 : decode cX7_storm 213 = .ok (.goto (-148), 3) := by decide +kernel
theorem dX7_storm_216 : decode cX7_storm 216 = .ok (.iload 4, 2) := by decide +kernel
theorem dX7_storm_218 : decode cX7_storm 218 = .ok (.ifCond .ne 8, 3) := by decide +kernel
theorem dX7_storm_221 : decode cX7_storm 221 = .ok (.iload 6, 2) := by decide +kernel
theorem dX7_storm_223 : decode cX7_storm 223 = .ok (.goto 18, 3) := by decide +kernel
theorem dX7_storm_226 : decode cX7_storm 226 = .ok (.iload 4, 2) := by decide +kernel
theorem dX7_storm_228 : decode cX7_storm 228 = .ok (.iconst 1, 1) := by decide +kernel
theorem dX7_storm_229 : decode cX7_storm 229 = .ok (.if_icmp .ne 10, 3) := by decide +kernel
theorem dX7_storm_232 : decode cX7_storm 232 = .ok (.aload_n 0, 1) := by decide +kernel
theorem dX7_storm_233 : decode cX7_storm 233 = .ok (.invokevirtual 154, 3) := by decide +kernel
theorem dX7_storm_236 : decode cX7_storm 236 = .ok (.goto 5, 3) := by decide +kernel
theorem dX7_storm_239 : decode cX7_storm 239 = .ok (.iload 8, 2) := by decide +kernel
theorem dX7_storm_241 : decode cX7_storm 241 = .ok (.ireturn, 1) := by decide +kernel
theorem dX7_count_0 : decode cX7_count 0 = .ok (.iload_n 1, 1) := by decide +kernel
theorem dX7_count_1 : decode cX7_count 1 = .ok (.tableswitch 87 0 7 #[47, 52, 57, 62, 67, 72, 77, 82], 47) := by decide +kernel
theorem dX7_count_48 : decode cX7_count 48 = .ok (.aload_n 0, 1) := by decide +kernel
theorem dX7_count_49 : decode cX7_count 49 = .ok (.getfield 49, 3) := by decide +kernel
theorem dX7_count_52 : decode cX7_count 52 = .ok (.ireturn, 1) := by decide +kernel
theorem dX7_count_53 : decode cX7_count 53 = .ok (.aload_n 0, 1) := by decide +kernel
theorem dX7_count_54 : decode cX7_count 54 = .ok (.getfield 53, 3) := by decide +kernel
theorem dX7_count_57 : decode cX7_count 57 = .ok (.ireturn, 1) := by decide +kernel
theorem dX7_count_58 : decode cX7_count 58 = .ok (.aload_n 0, 1) := by decide +kernel
theorem dX7_count_59 : decode cX7_count 59 = .ok (.getfield 56, 3) := by decide +kernel
theorem dX7_count_62 : decode cX7_count 62 = .ok (.ireturn, 1) := by decide +kernel
theorem dX7_count_63 : decode cX7_count 63 = .ok (.aload_n 0, 1) := by decide +kernel
theorem dX7_count_64 : decode cX7_count 64 = .ok (.getfield 113, 3) := by decide +kernel
theorem dX7_count_67 : decode cX7_count 67 = .ok (.ireturn, 1) := by decide +kernel
theorem dX7_count_68 : decode cX7_count 68 = .ok (.aload_n 0, 1) := by decide +kernel
theorem dX7_count_69 : decode cX7_count 69 = .ok (.getfield 62, 3) := by decide +kernel
theorem dX7_count_72 : decode cX7_count 72 = .ok (.ireturn, 1) := by decide +kernel
theorem dX7_count_73 : decode cX7_count 73 = .ok (.aload_n 0, 1) := by decide +kernel
theorem dX7_count_74 : decode cX7_count 74 = .ok (.getfield 68, 3) := by decide +kernel
theorem dX7_count_77 : decode cX7_count 77 = .ok (.ireturn, 1) := by decide +kernel
theorem dX7_count_78 : decode cX7_count 78 = .ok (.aload_n 0, 1) := by decide +kernel
theorem dX7_count_79 : decode cX7_count 79 = .ok (.getfield 75, 3) := by decide +kernel
theorem dX7_count_82 : decode cX7_count 82 = .ok (.ireturn, 1) := by decide +kernel
theorem dX7_count_83 : decode cX7_count 83 = .ok (.aload_n 0, 1) := by decide +kernel
theorem dX7_count_84 : decode cX7_count 84 = .ok (.getfield 65, 3) := by decide +kernel
theorem dX7_count_87 : decode cX7_count 87 = .ok (.ireturn, 1) := by decide +kernel
theorem dX7_count_88 : decode cX7_count 88 = .ok (.iconst (-1), 1) := by decide +kernel
theorem dX7_count_89 : decode cX7_count 89 = .ok (.ireturn, 1) := by decide +kernel
theorem dJ6_bitCount_0f7a4_0 : decode cJ6_bitCount_0f7a4 0 = .ok (.iload_n 0, 1) := by decide +kernel
theorem dJ6_bitCount_0f7a4_1 : decode cJ6_bitCount_0f7a4 1 = .ok (.iload_n 0, 1) := by decide +kernel
theorem dJ6_bitCount_0f7a4_2 : decode cJ6_bitCount_0f7a4 2 = .ok (.iconst 1, 1) := by decide +kernel
theorem dJ6_bitCount_0f7a4_3 : decode cJ6_bitCount_0f7a4 3 = .ok (.iushr, 1) := by decide +kernel
theorem dJ6_bitCount_0f7a4_4 : decode cJ6_bitCount_0f7a4 4 = .ok (.ldc_w 265, 3) := by decide +kernel
theorem dJ6_bitCount_0f7a4_7 : decode cJ6_bitCount_0f7a4 7 = .ok (.iand, 1) := by decide +kernel
theorem dJ6_bitCount_0f7a4_8 : decode cJ6_bitCount_0f7a4 8 = .ok (.isub, 1) := by decide +kernel
theorem dJ6_bitCount_0f7a4_9 : decode cJ6_bitCount_0f7a4 9 = .ok (.istore_n 0, 1) := by decide +kernel
theorem dJ6_bitCount_0f7a4_10 : decode cJ6_bitCount_0f7a4 10 = .ok (.iload_n 0, 1) := by decide +kernel
theorem dJ6_bitCount_0f7a4_11 : decode cJ6_bitCount_0f7a4 11 = .ok (.ldc_w 266, 3) := by decide +kernel
theorem dJ6_bitCount_0f7a4_14 : decode cJ6_bitCount_0f7a4 14 = .ok (.iand, 1) := by decide +kernel
theorem dJ6_bitCount_0f7a4_15 : decode cJ6_bitCount_0f7a4 15 = .ok (.iload_n 0, 1) := by decide +kernel
theorem dJ6_bitCount_0f7a4_16 : decode cJ6_bitCount_0f7a4 16 = .ok (.iconst 2, 1) := by decide +kernel
theorem dJ6_bitCount_0f7a4_17 : decode cJ6_bitCount_0f7a4 17 = .ok (.iushr, 1) := by decide +kernel
theorem dJ6_bitCount_0f7a4_18 : decode cJ6_bitCount_0f7a4 18 = .ok (.ldc_w 266, 3) := by decide +kernel
theorem dJ6_bitCount_0f7a4_21 : decode cJ6_bitCount_0f7a4 21 = .ok (.iand, 1) := by decide +kernel
theorem dJ6_bitCount_0f7a4_22 : decode cJ6_bitCount_0f7a4 22 = .ok (.iadd, 1) := by decide +kernel
theorem dJ6_bitCount_0f7a4_23 : decode cJ6_bitCount_0f7a4 23 = .ok (.istore_n 0, 1) := by decide +kernel
theorem dJ6_bitCount_0f7a4_24 : decode cJ6_bitCount_0f7a4 24 = .ok (.iload_n 0, 1) := by decide +kernel
theorem dJ6_bitCount_0f7a4_25 : decode cJ6_bitCount_0f7a4 25 = .ok (.iload_n 0, 1) := by decide +kernel
theorem dJ6_bitCount_0f7a4_26 : decode cJ6_bitCount_0f7a4 26 = .ok (.iconst 4, 1) := by decide +kernel
theorem dJ6_bitCount_0f7a4_27 : decode cJ6_bitCount_0f7a4 27 = .ok (.iushr, 1) := by decide +kernel
theorem dJ6_bitCount_0f7a4_28 : decode cJ6_bitCount_0f7a4 28 = .ok (.iadd, 1) := by decide +kernel
theorem dJ6_bitCount_0f7a4_29 : decode cJ6_bitCount_0f7a4 29 = .ok (.ldc_w 267, 3) := by decide +kernel
theorem dJ6_bitCount_0f7a4_32 : decode cJ6_bitCount_0f7a4 32 = .ok (.iand, 1) := by decide +kernel
theorem dJ6_bitCount_0f7a4_33 : decode cJ6_bitCount_0f7a4 33 = .ok (.istore_n 0, 1) := by decide +kernel
theorem dJ6_bitCount_0f7a4_34 : decode cJ6_bitCount_0f7a4 34 = .ok (.iload_n 0, 1) := by decide +kernel
theorem dJ6_bitCount_0f7a4_35 : decode cJ6_bitCount_0f7a4 35 = .ok (.iload_n 0, 1) := by decide +kernel
theorem dJ6_bitCount_0f7a4_36 : decode cJ6_bitCount_0f7a4 36 = .ok (.bipush 8, 2) := by decide +kernel
theorem dJ6_bitCount_0f7a4_38 : decode cJ6_bitCount_0f7a4 38 = .ok (.iushr, 1) := by decide +kernel
theorem dJ6_bitCount_0f7a4_39 : decode cJ6_bitCount_0f7a4 39 = .ok (.iadd, 1) := by decide +kernel
theorem dJ6_bitCount_0f7a4_40 : decode cJ6_bitCount_0f7a4 40 = .ok (.istore_n 0, 1) := by decide +kernel
theorem dJ6_bitCount_0f7a4_41 : decode cJ6_bitCount_0f7a4 41 = .ok (.iload_n 0, 1) := by decide +kernel
theorem dJ6_bitCount_0f7a4_42 : decode cJ6_bitCount_0f7a4 42 = .ok (.iload_n 0, 1) := by decide +kernel
theorem dJ6_bitCount_0f7a4_43 : decode cJ6_bitCount_0f7a4 43 = .ok (.bipush 16, 2) := by decide +kernel
theorem dJ6_bitCount_0f7a4_45 : decode cJ6_bitCount_0f7a4 45 = .ok (.iushr, 1) := by decide +kernel
theorem dJ6_bitCount_0f7a4_46 : decode cJ6_bitCount_0f7a4 46 = .ok (.iadd, 1) := by decide +kernel
theorem dJ6_bitCount_0f7a4_47 : decode cJ6_bitCount_0f7a4 47 = .ok (.istore_n 0, 1) := by decide +kernel
theorem dJ6_bitCount_0f7a4_48 : decode cJ6_bitCount_0f7a4 48 = .ok (.iload_n 0, 1) := by decide +kernel
theorem dJ6_bitCount_0f7a4_49 : decode cJ6_bitCount_0f7a4 49 = .ok (.bipush 63, 2) := by decide +kernel
theorem dJ6_bitCount_0f7a4_51 : decode cJ6_bitCount_0f7a4 51 = .ok (.iand, 1) := by decide +kernel
theorem dJ6_bitCount_0f7a4_52 : decode cJ6_bitCount_0f7a4 52 = .ok (.ireturn, 1) := by decide +kernel
theorem dJ9_max_7cf53_0 : decode cJ9_max_7cf53 0 = .ok (.iload_n 0, 1) := by decide +kernel
theorem dJ9_max_7cf53_1 : decode cJ9_max_7cf53 1 = .ok (.iload_n 1, 1) := by decide +kernel
theorem dJ9_max_7cf53_2 : decode cJ9_max_7cf53 2 = .ok (.if_icmp .lt 7, 3) := by decide +kernel
theorem dJ9_max_7cf53_5 : decode cJ9_max_7cf53 5 = .ok (.iload_n 0, 1) := by decide +kernel
theorem dJ9_max_7cf53_6 : decode cJ9_max_7cf53 6 = .ok (.goto 4, 3) := by decide +kernel
theorem dJ9_max_7cf53_9 : decode cJ9_max_7cf53 9 = .ok (.iload_n 1, 1) := by decide +kernel
theorem dJ9_max_7cf53_10 : decode cJ9_max_7cf53 10 = .ok (.ireturn, 1) := by decide +kernel
theorem dJ9_min_7cf53_0 : decode cJ9_min_7cf53 0 = .ok (.iload_n 0, 1) := by decide +kernel
theorem dJ9_min_7cf53_1 : decode cJ9_min_7cf53 1 = .ok (.iload_n 1, 1) := by decide +kernel
theorem dJ9_min_7cf53_2 : decode cJ9_min_7cf53 2 = .ok (.if_icmp .gt 7, 3) := by decide +kernel
theorem dJ9_min_7cf53_5 : decode cJ9_min_7cf53 5 = .ok (.iload_n 0, 1) := by decide +kernel
theorem dJ9_min_7cf53_6 : decode cJ9_min_7cf53 6 = .ok (.goto 4, 3) := by decide +kernel
theorem dJ9_min_7cf53_9 : decode cJ9_min_7cf53 9 = .ok (.iload_n 1, 1) := by decide +kernel
theorem dJ9_min_7cf53_10 : decode cJ9_min_7cf53 10 = .ok (.ireturn, 1) := by decide +kernel
theorem dJ0_length_8abf5_0 : decode cJ0_length_8abf5 0 = .ok (.aload_n 0, 1) := by decide +kernel
theorem dJ0_length_8abf5_1 : decode cJ0_length_8abf5 1 = .ok (.getfield 9, 3) := by decide +kernel
theorem dJ0_length_8abf5_4 : decode cJ0_length_8abf5 4 = .ok (.arraylength, 1) := by decide +kernel
theorem dJ0_length_8abf5_5 : decode cJ0_length_8abf5 5 = .ok (.aload_n 0, 1) := by decide +kernel
theorem dJ0_length_8abf5_6 : decode cJ0_length_8abf5 6 = .ok (.invokevirtual 335, 3) := by decide +kernel
theorem dJ0_length_8abf5_9 : decode cJ0_length_8abf5 9 = .ok (.ishr, 1) := by decide +kernel
theorem dJ0_length_8abf5_10 : decode cJ0_length_8abf5 10 = .ok (.ireturn, 1) := by decide +kernel
theorem dJ0_charAt_5068e_0 : decode cJ0_charAt_5068e 0 = .ok (.aload_n 0, 1) := by decide +kernel
theorem dJ0_charAt_5068e_1 : decode cJ0_charAt_5068e 1 = .ok (.invokevirtual 492, 3) := by decide +kernel
theorem dJ0_charAt_5068e_4 : decode cJ0_charAt_5068e 4 = .ok (.ifCond .eq 12, 3) := by decide +kernel
theorem dJ0_charAt_5068e_7 : decode cJ0_charAt_5068e 7 = .ok (.aload_n 0, 1) := by decide +kernel
theorem dJ0_charAt_5068e_8 : decode cJ0_charAt_5068e 8 = .ok (.getfield 9, 3) := by decide +kernel
theorem dJ0_charAt_5068e_11 : decode cJ0_charAt_5068e 11 = .ok (.iload_n 1, 1) := by decide +kernel
theorem dJ0_charAt_5068e_12 : decode cJ0_charAt_5068e 12 = .ok (.invokestatic 495, 3) := by decide +kernel
theorem dJ0_charAt_5068e_15 : decode cJ0_charAt_5068e 15 = .ok (.ireturn, 1) := by decide +kernel
theorem dJ0_charAt_5068e_16 : decode cJ0_charAt_5068e 16 = .ok (.aload_n 0, 1) := by decide +kernel
theorem dJ0_charAt_5068e_17 : decode cJ0_charAt_5068e 17 = .ok (.getfield 9, 3) := by decide +kernel
theorem dJ0_charAt_5068e_20 : decode cJ0_charAt_5068e 20 = .ok (.iload_n 1, 1) := by decide +kernel
theorem dJ0_charAt_5068e_21 : decode cJ0_charAt_5068e 21 = .ok (.invokestatic 498, 3) := by decide +kernel
theorem dJ0_charAt_5068e_24 : decode cJ0_charAt_5068e 24 = .ok (.ireturn, 1) := by decide +kernel
theorem dJ0_coder_7d493_0 : decode cJ0_coder_7d493 0 = .ok (.getstatic 38, 3) := by decide +kernel
theorem dJ0_coder_7d493_3 : decode cJ0_coder_7d493 3 = .ok (.ifCond .eq 10, 3) := by decide +kernel
theorem dJ0_coder_7d493_6 : decode cJ0_coder_7d493 6 = .ok (.aload_n 0, 1) := by decide +kernel
theorem dJ0_coder_7d493_7 : decode cJ0_coder_7d493 7 = .ok (.getfield 15, 3) := by decide +kernel
theorem dJ0_coder_7d493_10 : decode cJ0_coder_7d493 10 = .ok (.goto 4, 3) := by decide +kernel
theorem dJ0_coder_7d493_13 : decode cJ0_coder_7d493 13 = .ok (.iconst 1, 1) := by decide +kernel
theorem dJ0_coder_7d493_14 : decode cJ0_coder_7d493 14 = .ok (.ireturn, 1) := by decide +kernel
theorem dJ0_isLatin1_aae02_0 : decode cJ0_isLatin1_aae02 0 = .ok (.getstatic 38, 3) := by decide +kernel
theorem dJ0_isLatin1_aae02_3 : decode cJ0_isLatin1_aae02 3 = .ok (.ifCond .eq 14, 3) := by decide +kernel
theorem dJ0_isLatin1_aae02_6 : decode cJ0_isLatin1_aae02 6 = .ok (.aload_n 0, 1) := by decide +kernel
theorem dJ0_isLatin1_aae02_7 : decode cJ0_isLatin1_aae02 7 = .ok (.getfield 15, 3) := by decide +kernel
theorem dJ0_isLatin1_aae02_10 : decode cJ0_isLatin1_aae02 10 = .ok (.ifCond .ne 7, 3) := by decide +kernel
theorem dJ0_isLatin1_aae02_13 : decode cJ0_isLatin1_aae02 13 = .ok (.iconst 1, 1) := by decide +kernel
theorem dJ0_isLatin1_aae02_14 : decode cJ0_isLatin1_aae02 14 = .ok (.goto 4, 3) := by decide +kernel
theorem dJ0_isLatin1_aae02_17 : decode cJ0_isLatin1_aae02 17 = .ok (.iconst 0, 1) := by decide +kernel
theorem dJ0_isLatin1_aae02_18 : decode cJ0_isLatin1_aae02 18 = .ok (.ireturn, 1) := by decide +kernel
theorem dJ0_checkIndex_df160_0 : decode cJ0_checkIndex_df160 0 = .ok (.iload_n 0, 1) := by decide +kernel
theorem dJ0_checkIndex_df160_1 : decode cJ0_checkIndex_df160 1 = .ok (.iload_n 1, 1) := by decide +kernel
theorem dJ0_checkIndex_df160_2 : decode cJ0_checkIndex_df160 2 = .ok (.getstatic 1053, 3) := by decide +kernel
theorem dJ0_checkIndex_df160_5 : decode cJ0_checkIndex_df160 5 = .ok (.invokestatic 1059, 3) := by decide +kernel
theorem dJ0_checkIndex_df160_8 : decode cJ0_checkIndex_df160 8 = .ok (.pop, 1) := by decide +kernel
theorem dJ0_checkIndex_df160_9 : decode cJ0_checkIndex_df160 9 = .ok (.return_, 1) := by decide +kernel
theorem dJ1_charAt_3b067_0 : decode cJ1_charAt_3b067 0 = .ok (.iload_n 1, 1) := by decide +kernel
theorem dJ1_charAt_3b067_1 : decode cJ1_charAt_3b067 1 = .ok (.aload_n 0, 1) := by decide +kernel
theorem dJ1_charAt_3b067_2 : decode cJ1_charAt_3b067 2 = .ok (.arraylength, 1) := by decide +kernel
theorem dJ1_charAt_3b067_3 : decode cJ1_charAt_3b067 3 = .ok (.invokestatic 9, 3) := by decide +kernel
theorem dJ1_charAt_3b067_6 : decode cJ1_charAt_3b067 6 = .ok (.aload_n 0, 1) := by decide +kernel
theorem dJ1_charAt_3b067_7 : decode cJ1_charAt_3b067 7 = .ok (.iload_n 1, 1) := by decide +kernel
theorem dJ1_charAt_3b067_8 : decode cJ1_charAt_3b067 8 = .ok (.baload, 1) := by decide +kernel
theorem dJ1_charAt_3b067_9 : decode cJ1_charAt_3b067 9 = .ok (.sipush 255, 3) := by decide +kernel
theorem dJ1_charAt_3b067_12 : decode cJ1_charAt_3b067 12 = .ok (.iand, 1) := by decide +kernel
theorem dJ1_charAt_3b067_13 : decode cJ1_charAt_3b067 13 = .ok (.i2c, 1) := by decide +kernel
theorem dJ1_charAt_3b067_14 : decode cJ1_charAt_3b067 14 = .ok (.ireturn, 1) := by decide +kernel
theorem dJ2_getChar_3b067_0 : decode cJ2_getChar_3b067 0 = .ok (.getstatic 44, 3) := by decide +kernel
theorem dJ2_getChar_3b067_3 : decode cJ2_getChar_3b067 3 = .ok (.ifCond .ne 25, 3) := by decide +kernel
theorem dJ2_getChar_3b067_6 : decode cJ2_getChar_3b067 6 = .ok (.iload_n 1, 1) := by decide +kernel
theorem dJ2_getChar_3b067_7 : decode cJ2_getChar_3b067 7 = .ok (.ifCond .lt 11, 3) := by decide +kernel
theorem dJ2_getChar_3b067_10 : decode cJ2_getChar_3b067 10 = .ok (.iload_n 1, 1) := by decide +kernel
theorem dJ2_getChar_3b067_11 : decode cJ2_getChar_3b067 11 = .ok (.aload_n 0, 1) := by decide +kernel
theorem dJ2_getChar_3b067_12 : decode cJ2_getChar_3b067 12 = .ok (.invokestatic 48, 3) := by decide +kernel
theorem dJ2_getChar_3b067_15 : decode cJ2_getChar_3b067 15 = .ok (.if_icmp .lt 13, 3) := by decide +kernel
theorem dJ2_getChar_3b067_18 : decode cJ2_getChar_3b067 18 = .ok (.new 52, 3) := by decide +kernel
theorem dJ2_getChar_3b067_21 : decode cJ2_getChar_3b067 21 = .ok (.dup, 1) := by decide +kernel
theorem dJ2_getChar_3b067_22 : decode cJ2_getChar_3b067 22 = .ok (.ldc 54, 2) := by decide +kernel
theorem dJ2_getChar_3b067_24 : decode cJ2_getChar_3b067 24 = .ok (.invokespecial 56, 3) := by decide +kernel
theorem dJ2_getChar_3b067_27 : decode cJ2_getChar_3b067 27 = .ok (.athrow, 1) := by decide +kernel
theorem dJ2_getChar_3b067_28 : decode cJ2_getChar_3b067 28 = .ok (.iload_n 1, 1) := by decide +kernel
theorem dJ2_getChar_3b067_29 : decode cJ2_getChar_3b067 29 = .ok (.iconst 1, 1) := by decide +kernel
theorem dJ2_getChar_3b067_30 : decode cJ2_getChar_3b067 30 = .ok (.ishl, 1) := by decide +kernel
theorem dJ2_getChar_3b067_31 : decode cJ2_getChar_3b067 31 = .ok (.istore_n 1, 1) := by decide +kernel
theorem dJ2_getChar_3b067_32 : decode cJ2_getChar_3b067 32 = .ok (.aload_n 0, 1) := by decide +kernel
theorem dJ2_getChar_3b067_33 : decode cJ2_getChar_3b067 33 = .ok (.iload_n 1, 1) := by decide +kernel
theorem dJ2_getChar_3b067_34 : decode cJ2_getChar_3b067 34 = .ok (.iinc 1 1, 3) := by decide +kernel
theorem dJ2_getChar_3b067_37 : decode cJ2_getChar_3b067 37 = .ok (.baload, 1) := by decide +kernel
theorem dJ2_getChar_3b067_38 : decode cJ2_getChar_3b067 38 = .ok (.sipush 255, 3) := by decide +kernel
theorem dJ2_getChar_3b067_41 : decode cJ2_getChar_3b067 41 = .ok (.iand, 1) := by decide +kernel
theorem dJ2_getChar_3b067_42 : decode cJ2_getChar_3b067 42 = .ok (.getstatic 59, 3) := by decide +kernel
theorem dJ2_getChar_3b067_45 : decode cJ2_getChar_3b067 45 = .ok (.ishl, 1) := by decide +kernel
theorem dJ2_getChar_3b067_46 : decode cJ2_getChar_3b067 46 = .ok (.aload_n 0, 1) := by decide +kernel
theorem dJ2_getChar_3b067_47 : decode cJ2_getChar_3b067 47 = .ok (.iload_n 1, 1) := by decide +kernel
theorem dJ2_getChar_3b067_48 : decode cJ2_getChar_3b067 48 = .ok (.baload, 1) := by decide +kernel
theorem dJ2_getChar_3b067_49 : decode cJ2_getChar_3b067 49 = .ok (.sipush 255, 3) := by decide +kernel
theorem dJ2_getChar_3b067_52 : decode cJ2_getChar_3b067 52 = .ok (.iand, 1) := by decide +kernel
theorem dJ2_getChar_3b067_53 : decode cJ2_getChar_3b067 53 = .ok (.getstatic 63, 3) := by decide +kernel
theorem dJ2_getChar_3b067_56 : decode cJ2_getChar_3b067 56 = .ok (.ishl, 1) := by decide +kernel
theorem dJ2_getChar_3b067_57 : decode cJ2_getChar_3b067 57 = .ok (.ior, 1) := by decide +kernel
theorem dJ2_getChar_3b067_58 : decode cJ2_getChar_3b067 58 = .ok (.i2c, 1) := by decide +kernel
theorem dJ2_getChar_3b067_59 : decode cJ2_getChar_3b067 59 = .ok (.ireturn, 1) := by decide +kernel
theorem dJ2_length_9d52b_0 : decode cJ2_length_9d52b 0 = .ok (.aload_n 0, 1) := by decide +kernel
theorem dJ2_length_9d52b_1 : decode cJ2_length_9d52b 1 = .ok (.arraylength, 1) := by decide +kernel
theorem dJ2_length_9d52b_2 : decode cJ2_length_9d52b 2 = .ok (.iconst 1, 1) := by decide +kernel
theorem dJ2_length_9d52b_3 : decode cJ2_length_9d52b 3 = .ok (.ishr, 1) := by decide +kernel
theorem dJ2_length_9d52b_4 : decode cJ2_length_9d52b 4 = .ok (.ireturn, 1) := by decide +kernel
theorem dJ2_charAt_3b067_0 : decode cJ2_charAt_3b067 0 = .ok (.iload_n 1, 1) := by decide +kernel
theorem dJ2_charAt_3b067_1 : decode cJ2_charAt_3b067 1 = .ok (.aload_n 0, 1) := by decide +kernel
theorem dJ2_charAt_3b067_2 : decode cJ2_charAt_3b067 2 = .ok (.invokestatic 67, 3) := by decide +kernel
theorem dJ2_charAt_3b067_5 : decode cJ2_charAt_3b067 5 = .ok (.aload_n 0, 1) := by decide +kernel
theorem dJ2_charAt_3b067_6 : decode cJ2_charAt_3b067 6 = .ok (.iload_n 1, 1) := by decide +kernel
theorem dJ2_charAt_3b067_7 : decode cJ2_charAt_3b067 7 = .ok (.invokestatic 71, 3) := by decide +kernel
theorem dJ2_charAt_3b067_10 : decode cJ2_charAt_3b067 10 = .ok (.ireturn, 1) := by decide +kernel
theorem dJ2_checkIndex_2214a_0 : decode cJ2_checkIndex_2214a 0 = .ok (.iload_n 0, 1) := by decide +kernel
theorem dJ2_checkIndex_2214a_1 : decode cJ2_checkIndex_2214a 1 = .ok (.aload_n 1, 1) := by decide +kernel
theorem dJ2_checkIndex_2214a_2 : decode cJ2_checkIndex_2214a 2 = .ok (.invokestatic 48, 3) := by decide +kernel
theorem dJ2_checkIndex_2214a_5 : decode cJ2_checkIndex_2214a 5 = .ok (.invokestatic 414, 3) := by decide +kernel
theorem dJ2_checkIndex_2214a_8 : decode cJ2_checkIndex_2214a 8 = .ok (.return_, 1) := by decide +kernel
theorem dJ7_fill_53178_0 : decode cJ7_fill_53178 0 = .ok (.iconst 0, 1) := by decide +kernel
theorem dJ7_fill_53178_1 : decode cJ7_fill_53178 1 = .ok (.istore_n 2, 1) := by decide +kernel
theorem dJ7_fill_53178_2 : decode cJ7_fill_53178 2 = .ok (.aload_n 0, 1) := by decide +kernel
theorem dJ7_fill_53178_3 : decode cJ7_fill_53178 3 = .ok (.arraylength, 1) := by decide +kernel
theorem dJ7_fill_53178_4 : decode cJ7_fill_53178 4 = .ok (.istore_n 3, 1) := by decide +kernel
theorem dJ7_fill_53178_5 : decode cJ7_fill_53178 5 = .ok (.iload_n 2, 1) := by decide +kernel
theorem dJ7_fill_53178_6 : decode cJ7_fill_53178 6 = .ok (.iload_n 3, 1) := by decide +kernel
theorem dJ7_fill_53178_7 : decode cJ7_fill_53178 7 = .ok (.if_icmp .ge 13, 3) := by decide +kernel
theorem dJ7_fill_53178_10 : decode cJ7_fill_53178 10 = .ok (.aload_n 0, 1) := by decide +kernel
theorem dJ7_fill_53178_11 : decode cJ7_fill_53178 11 = .ok (.iload_n 2, 1) := by decide +kernel
theorem dJ7_fill_53178_12 : decode cJ7_fill_53178 12 = .ok (.iload_n 1, 1) := by decide +kernel
theorem dJ7_fill_53178_13 : decode cJ7_fill_53178 13 = .ok (.iastore, 1) := by decide +kernel
theorem dJ7_fill_53178_14 : decode cJ7_fill_53178 14 = .ok (.iinc 2 1, 3) := by decide +kernel
theorem dJ7_fill_53178_17 : decode cJ7_fill_53178 17 = .ok (.goto (-12), 3) := by decide +kernel
theorem dJ7_fill_53178_20 : decode cJ7_fill_53178 20 = .ok (.return_, 1) := by decide +kernel
theorem dJ3_checkIndex_8e157_0 : decode cJ3_checkIndex_8e157 0 = .ok (.iload_n 0, 1) := by decide +kernel
theorem dJ3_checkIndex_8e157_1 : decode cJ3_checkIndex_8e157 1 = .ok (.ifCond .lt 8, 3) := by decide +kernel
theorem dJ3_checkIndex_8e157_4 : decode cJ3_checkIndex_8e157 4 = .ok (.iload_n 0, 1) := by decide +kernel
theorem dJ3_checkIndex_8e157_5 : decode cJ3_checkIndex_8e157 5 = .ok (.iload_n 1, 1) := by decide +kernel
theorem dJ3_checkIndex_8e157_6 : decode cJ3_checkIndex_8e157 6 = .ok (.if_icmp .lt 10, 3) := by decide +kernel
theorem dJ3_checkIndex_8e157_9 : decode cJ3_checkIndex_8e157 9 = .ok (.aload_n 2, 1) := by decide +kernel
theorem dJ3_checkIndex_8e157_10 : decode cJ3_checkIndex_8e157 10 = .ok (.iload_n 0, 1) := by decide +kernel
theorem dJ3_checkIndex_8e157_11 : decode cJ3_checkIndex_8e157 11 = .ok (.iload_n 1, 1) := by decide +kernel
theorem dJ3_checkIndex_8e157_12 : decode cJ3_checkIndex_8e157 12 = .ok (.invokestatic 95, 3) := by decide +kernel
theorem dJ3_checkIndex_8e157_15 : decode cJ3_checkIndex_8e157 15 = .ok (.athrow, 1) := by decide +kernel
theorem dJ3_checkIndex_8e157_16 : decode cJ3_checkIndex_8e157 16 = .ok (.iload_n 0, 1) := by decide +kernel
theorem dJ3_checkIndex_8e157_17 : decode cJ3_checkIndex_8e157 17 = .ok (.ireturn, 1) := by decide +kernel
theorem dL_law_0 : decode cL_law 0 = .ok (.new 7, 3) := by decide +kernel
theorem dL_law_3 : decode cL_law 3 = .ok (.dup, 1) := by decide +kernel
theorem dL_law_4 : decode cL_law 4 = .ok (.invokespecial 9, 3) := by decide +kernel
theorem dL_law_7 : decode cL_law 7 = .ok (.astore_n 1, 1) := by decide +kernel
theorem dL_law_8 : decode cL_law 8 = .ok (.new 10, 3) := by decide +kernel
theorem dL_law_11 : decode cL_law 11 = .ok (.dup, 1) := by decide +kernel
theorem dL_law_12 : decode cL_law 12 = .ok (.invokespecial 12, 3) := by decide +kernel
theorem dL_law_15 : decode cL_law 15 = .ok (.astore_n 2, 1) := by decide +kernel
theorem dL_law_16 : decode cL_law 16 = .ok (.iconst 0, 1) := by decide +kernel
theorem dL_law_17 : decode cL_law 17 = .ok (.istore_n 3, 1) := by decide +kernel
theorem dL_law_18 : decode cL_law 18 = .ok (.iload_n 3, 1) := by decide +kernel
theorem dL_law_19 : decode cL_law 19 = .ok (.aload_n 0, 1) := by decide +kernel
theorem dL_law_20 : decode cL_law 20 = .ok (.arraylength, 1) := by decide +kernel
theorem dL_law_21 : decode cL_law 21 = .ok (.iconst 5, 1) := by decide +kernel
theorem dL_law_22 : decode cL_law 22 = .ok (.isub, 1) := by decide +kernel
theorem dL_law_23 : decode cL_law 23 = .ok (.if_icmp .gt 709, 3) := by decide +kernel
theorem dL_law_26 : decode cL_law 26 = .ok (.aload_n 0, 1) := by decide +kernel
theorem dL_law_27 : decode cL_law 27 = .ok (.iload_n 3, 1) := by decide +kernel
theorem dL_law_28 : decode cL_law 28 = .ok (.iaload, 1) := by decide +kernel
theorem dL_law_29 : decode cL_law 29 = .ok (.bipush 31, 2) := by decide +kernel
theorem dL_law_31 : decode cL_law 31 = .ok (.iand, 1) := by decide +kernel
theorem dL_law_32 : decode cL_law 32 = .ok (.tableswitch 694 0 23 #[112, 135, 148, 161, 174, 197, 230, 243, 266, 299, 322, 345, 368, 381, 394, 417, 430, 473, 496, 529, 582, 615, 638, 671], 112) := by decide +kernel
theorem dL_law_144 : decode cL_law 144 = .ok (.aload_n 1, 1) := by decide +kernel
theorem dL_law_145 : decode cL_law 145 = .ok (.aload_n 0, 1) := by decide +kernel
theorem dL_law_146 : decode cL_law 146 = .ok (.iload_n 3, 1) := by decide +kernel
theorem dL_law_147 : decode cL_law 147 = .ok (.iconst 1, 1) := by decide +kernel
theorem dL_law_148 : decode cL_law 148 = .ok (.iadd, 1) := by decide +kernel
theorem dL_law_149 : decode cL_law 149 = .ok (.iaload, 1) := by decide +kernel
theorem dL_law_150 : decode cL_law 150 = .ok (.invokevirtual 13, 3) := by decide +kernel
theorem dL_law_153 : decode cL_law 153 = .ok (.aload_n 2, 1) := by decide +kernel
theorem dL_law_154 : decode cL_law 154 = .ok (.aload_n 0, 1) := by decide +kernel
theorem dL_law_155 : decode cL_law 155 = .ok (.iload_n 3, 1) := by decide +kernel
theorem dL_law_156 : decode cL_law 156 = .ok (.iconst 1, 1) := by decide +kernel
theorem dL_law_157 : decode cL_law 157 = .ok (.iadd, 1) := by decide +kernel
theorem dL_law_158 : decode cL_law 158 = .ok (.iaload, 1) := by decide +kernel
theorem dL_law_159 : decode cL_law 159 = .ok (.invokevirtual 17, 3) := by decide +kernel
theorem dL_law_162 : decode cL_law 162 = .ok (.if_icmp .eq 564, 3) := by decide +kernel
theorem dL_law_165 : decode cL_law 165 = .ok (.iconst 0, 1) := by decide +kernel
theorem dL_law_166 : decode cL_law 166 = .ok (.ireturn, 1) := by decide +kernel
theorem dL_law_167 : decode cL_law 167 = .ok (.aload_n 1, 1) := by decide +kernel
theorem dL_law_168 : decode cL_law 168 = .ok (.invokevirtual 18, 3) := by decide +kernel
theorem dL_law_171 : decode cL_law 171 = .ok (.aload_n 2, 1) := by decide +kernel
theorem dL_law_172 : decode cL_law 172 = .ok (.invokevirtual 22, 3) := by decide +kernel
theorem dL_law_175 : decode cL_law 175 = .ok (.if_icmp .eq 551, 3) := by decide +kernel
theorem dL_law_178 : decode cL_law 178 = .ok (.iconst 0, 1) := by decide +kernel
theorem dL_law_179 : decode cL_law 179 = .ok (.ireturn, 1) := by decide +kernel
theorem dL_law_180 : decode cL_law 180 = .ok (.aload_n 1, 1) := by decide +kernel
theorem dL_law_181 : decode cL_law 181 = .ok (.invokevirtual 23, 3) := by decide +kernel
theorem dL_law_184 : decode cL_law 184 = .ok (.aload_n 2, 1) := by decide +kernel
theorem dL_law_185 : decode cL_law 185 = .ok (.invokevirtual 26, 3) := by decide +kernel
theorem dL_law_188 : decode cL_law 188 = .ok (.if_icmp .eq 538, 3) := by decide +kernel
theorem dL_law_191 : decode cL_law 191 = .ok (.iconst 0, 1) := by decide +kernel
theorem dL_law_192 : decode cL_law 192 = .ok (.ireturn, 1) := by decide +kernel
theorem dL_law_193 : decode cL_law 193 = .ok (.aload_n 1, 1) := by decide +kernel
theorem dL_law_194 : decode cL_law 194 = .ok (.invokevirtual 27, 3) := by decide +kernel
theorem dL_law_197 : decode cL_law 197 = .ok (.aload_n 2, 1) := by decide +kernel
theorem dL_law_198 : decode cL_law 198 = .ok (.invokevirtual 30, 3) := by decide +kernel
theorem dL_law_201 : decode cL_law 201 = .ok (.if_icmp .eq 525, 3) := by decide +kernel
theorem dL_law_204 : decode cL_law 204 = .ok (.iconst 0, 1) := by decide +kernel
theorem dL_law_205 : decode cL_law 205 = .ok (.ireturn, 1) := by decide +kernel
theorem dL_law_206 : decode cL_law 206 = .ok (.aload_n 1, 1) := by decide +kernel
theorem dL_law_207 : decode cL_law 207 = .ok (.aload_n 0, 1) := by decide +kernel
theorem dL_law_208 : decode cL_law 208 = .ok (.iload_n 3, 1) := by decide +kernel
theorem dL_law_209 : decode cL_law 209 = .ok (.iconst 1, 1) := by decide +kernel
theorem dL_law_210 : decode cL_law 210 = .ok (.iadd, 1) := by decide +kernel
theorem dL_law_211 : decode cL_law 211 = .ok (.iaload, 1) := by decide +kernel
theorem dL_law_212 : decode cL_law 212 = .ok (.invokevirtual 31, 3) := by decide +kernel
theorem dL_law_215 : decode cL_law 215 = .ok (.aload_n 2, 1) := by decide +kernel
theorem dL_law_216 : decode cL_law 216 = .ok (.aload_n 0, 1) := by decide +kernel
theorem dL_law_217 : decode cL_law 217 = .ok (.iload_n 3, 1) := by decide +kernel
theorem dL_law_218 : decode cL_law 218 = .ok (.iconst 1, 1) := by decide +kernel
theorem dL_law_219 : decode cL_law 219 = .ok (.iadd, 1) := by decide +kernel
theorem dL_law_220 : decode cL_law 220 = .ok (.iaload, 1) := by decide +kernel
theorem dL_law_221 : decode cL_law 221 = .ok (.invokevirtual 34, 3) := by decide +kernel
theorem dL_law_224 : decode cL_law 224 = .ok (.if_icmp .eq 502, 3) := by decide +kernel
theorem dL_law_227 : decode cL_law 227 = .ok (.iconst 0, 1) := by decide +kernel
theorem dL_law_228 : decode cL_law 228 = .ok (.ireturn, 1) := by decide +kernel
theorem dL_law_229 : decode cL_law 229 = .ok (.aload_n 1, 1) := by decide +kernel
theorem dL_law_230 : decode cL_law 230 = .ok (.aload_n 0, 1) := by decide +kernel
theorem dL_law_231 : decode cL_law 231 = .ok (.iload_n 3, 1) := by decide +kernel
theorem dL_law_232 : decode cL_law 232 = .ok (.iconst 1, 1) := by decide +kernel
theorem dL_law_233 : decode cL_law 233 = .ok (.iadd, 1) := by decide +kernel
theorem dL_law_234 : decode cL_law 234 = .ok (.iaload, 1) := by decide +kernel
theorem dL_law_235 : decode cL_law 235 = .ok (.aload_n 0, 1) := by decide +kernel
theorem dL_law_236 : decode cL_law 236 = .ok (.iload_n 3, 1) := by decide +kernel
theorem dL_law_237 : decode cL_law 237 = .ok (.iconst 2, 1) := by decide +kernel
theorem dL_law_238 : decode cL_law 238 = .ok (.iadd, 1) := by decide +kernel
theorem dL_law_239 : decode cL_law 239 = .ok (.iaload, 1) := by decide +kernel
theorem dL_law_240 : decode cL_law 240 = .ok (.invokevirtual 35, 3) := by decide +kernel
theorem dL_law_243 : decode cL_law 243 = .ok (.aload_n 2, 1) := by decide +kernel
theorem dL_law_244 : decode cL_law 244 = .ok (.aload_n 0, 1) := by decide +kernel
theorem dL_law_245 : decode cL_law 245 = .ok (.iload_n 3, 1) := by decide +kernel
theorem dL_law_246 : decode cL_law 246 = .ok (.iconst 1, 1) := by decide +kernel
theorem dL_law_247 : decode cL_law 247 = .ok (.iadd, 1) := by decide +kernel
theorem dL_law_248 : decode cL_law 248 = .ok (.iaload, 1) := by decide +kernel
theorem dL_law_249 : decode cL_law 249 = .ok (.aload_n 0, 1) := by decide +kernel
theorem dL_law_250 : decode cL_law 250 = .ok (.iload_n 3, 1) := by decide +kernel
theorem dL_law_251 : decode cL_law 251 = .ok (.iconst 2, 1) := by decide +kernel
theorem dL_law_252 : decode cL_law 252 = .ok (.iadd, 1) := by decide +kernel
theorem dL_law_253 : decode cL_law 253 = .ok (.iaload, 1) := by decide +kernel
theorem dL_law_254 : decode cL_law 254 = .ok (.invokevirtual 39, 3) := by decide +kernel
theorem dL_law_257 : decode cL_law 257 = .ok (.if_icmp .eq 469, 3) := by decide +kernel
theorem dL_law_260 : decode cL_law 260 = .ok (.iconst 0, 1) := by decide +kernel
theorem dL_law_261 : decode cL_law 261 = .ok (.ireturn, 1) := by decide +kernel
theorem dL_law_262 : decode cL_law 262 = .ok (.aload_n 1, 1) := by decide +kernel
theorem dL_law_263 : decode cL_law 263 = .ok (.invokevirtual 40, 3) := by decide +kernel
theorem dL_law_266 : decode cL_law 266 = .ok (.aload_n 2, 1) := by decide +kernel
theorem dL_law_267 : decode cL_law 267 = .ok (.invokevirtual 43, 3) := by decide +kernel
theorem dL_law_270 : decode cL_law 270 = .ok (.if_icmp .eq 456, 3) := by decide +kernel
theorem dL_law_273 : decode cL_law 273 = .ok (.iconst 0, 1) := by decide +kernel
theorem dL_law_274 : decode cL_law 274 = .ok (.ireturn, 1) := by decide +kernel
theorem dL_law_275 : decode cL_law 275 = .ok (.aload_n 1, 1) := by decide +kernel
theorem dL_law_276 : decode cL_law 276 = .ok (.aload_n 0, 1) := by decide +kernel
theorem dL_law_277 : decode cL_law 277 = .ok (.iload_n 3, 1) := by decide +kernel
theorem dL_law_278 : decode cL_law 278 = .ok (.iconst 1, 1) := by decide +kernel
theorem dL_law_279 : decode cL_law 279 = .ok (.iadd, 1) := by decide +kernel
theorem dL_law_280 : decode cL_law 280 = .ok (.iaload, 1) := by decide +kernel
theorem dL_law_281 : decode cL_law 281 = .ok (.invokevirtual 44, 3) := by decide +kernel
theorem dL_law_284 : decode cL_law 284 = .ok (.aload_n 2, 1) := by decide +kernel
theorem dL_law_285 : decode cL_law 285 = .ok (.aload_n 0, 1) := by decide +kernel
theorem dL_law_286 : decode cL_law 286 = .ok (.iload_n 3, 1) := by decide +kernel
theorem dL_law_287 : decode cL_law 287 = .ok (.iconst 1, 1) := by decide +kernel
theorem dL_law_288 : decode cL_law 288 = .ok (.iadd, 1) := by decide +kernel
theorem dL_law_289 : decode cL_law 289 = .ok (.iaload, 1) := by decide +kernel
theorem dL_law_290 : decode cL_law 290 = .ok (.invokevirtual 47, 3) := by decide +kernel
theorem dL_law_293 : decode cL_law 293 = .ok (.if_icmp .eq 433, 3) := by decide +kernel
theorem dL_law_296 : decode cL_law 296 = .ok (.iconst 0, 1) := by decide +kernel
theorem dL_law_297 : decode cL_law 297 = .ok (.ireturn, 1) := by decide +kernel
theorem dL_law_298 : decode cL_law 298 = .ok (.aload_n 1, 1) := by decide +kernel
theorem dL_law_299 : decode cL_law 299 = .ok (.aload_n 0, 1) := by decide +kernel
theorem dL_law_300 : decode cL_law 300 = .ok (.iload_n 3, 1) := by decide +kernel
theorem dL_law_301 : decode cL_law 301 = .ok (.iconst 1, 1) := by decide +kernel
theorem dL_law_302 : decode cL_law 302 = .ok (.iadd, 1) := by decide +kernel
theorem dL_law_303 : decode cL_law 303 = .ok (.iaload, 1) := by decide +kernel
theorem dL_law_304 : decode cL_law 304 = .ok (.aload_n 0, 1) := by decide +kernel
theorem dL_law_305 : decode cL_law 305 = .ok (.iload_n 3, 1) := by decide +kernel
theorem dL_law_306 : decode cL_law 306 = .ok (.iconst 2, 1) := by decide +kernel
theorem dL_law_307 : decode cL_law 307 = .ok (.iadd, 1) := by decide +kernel
theorem dL_law_308 : decode cL_law 308 = .ok (.iaload, 1) := by decide +kernel
theorem dL_law_309 : decode cL_law 309 = .ok (.invokevirtual 48, 3) := by decide +kernel
theorem dL_law_312 : decode cL_law 312 = .ok (.aload_n 2, 1) := by decide +kernel
theorem dL_law_313 : decode cL_law 313 = .ok (.aload_n 0, 1) := by decide +kernel
theorem dL_law_314 : decode cL_law 314 = .ok (.iload_n 3, 1) := by decide +kernel
theorem dL_law_315 : decode cL_law 315 = .ok (.iconst 1, 1) := by decide +kernel
theorem dL_law_316 : decode cL_law 316 = .ok (.iadd, 1) := by decide +kernel
theorem dL_law_317 : decode cL_law 317 = .ok (.iaload, 1) := by decide +kernel
theorem dL_law_318 : decode cL_law 318 = .ok (.aload_n 0, 1) := by decide +kernel
theorem dL_law_319 : decode cL_law 319 = .ok (.iload_n 3, 1) := by decide +kernel
theorem dL_law_320 : decode cL_law 320 = .ok (.iconst 2, 1) := by decide +kernel
theorem dL_law_321 : decode cL_law 321 = .ok (.iadd, 1) := by decide +kernel
theorem dL_law_322 : decode cL_law 322 = .ok (.iaload, 1) := by decide +kernel
theorem dL_law_323 : decode cL_law 323 = .ok (.invokevirtual 51, 3) := by decide +kernel
theorem dL_law_326 : decode cL_law 326 = .ok (.if_icmp .eq 400, 3) := by decide +kernel
theorem dL_law_329 : decode cL_law 329 = .ok (.iconst 0, 1) := by decide +kernel
theorem dL_law_330 : decode cL_law 330 = .ok (.ireturn, 1) := by decide +kernel
theorem dL_law_331 : decode cL_law 331 = .ok (.aload_n 1, 1) := by decide +kernel
theorem dL_law_332 : decode cL_law 332 = .ok (.aload_n 0, 1) := by decide +kernel
theorem dL_law_333 : decode cL_law 333 = .ok (.iload_n 3, 1) := by decide +kernel
theorem dL_law_334 : decode cL_law 334 = .ok (.iconst 1, 1) := by decide +kernel
theorem dL_law_335 : decode cL_law 335 = .ok (.iadd, 1) := by decide +kernel
theorem dL_law_336 : decode cL_law 336 = .ok (.iaload, 1) := by decide +kernel
theorem dL_law_337 : decode cL_law 337 = .ok (.invokevirtual 52, 3) := by decide +kernel
theorem dL_law_340 : decode cL_law 340 = .ok (.aload_n 2, 1) := by decide +kernel
theorem dL_law_341 : decode cL_law 341 = .ok (.aload_n 0, 1) := by decide +kernel
theorem dL_law_342 : decode cL_law 342 = .ok (.iload_n 3, 1) := by decide +kernel
theorem dL_law_343 : decode cL_law 343 = .ok (.iconst 1, 1) := by decide +kernel
theorem dL_law_344 : decode cL_law 344 = .ok (.iadd, 1) := by decide +kernel
theorem dL_law_345 : decode cL_law 345 = .ok (.iaload, 1) := by decide +kernel
theorem dL_law_346 : decode cL_law 346 = .ok (.invokevirtual 55, 3) := by decide +kernel
theorem dL_law_349 : decode cL_law 349 = .ok (.if_icmp .eq 377, 3) := by decide +kernel
theorem dL_law_352 : decode cL_law 352 = .ok (.iconst 0, 1) := by decide +kernel
theorem dL_law_353 : decode cL_law 353 = .ok (.ireturn, 1) := by decide +kernel
theorem dL_law_354 : decode cL_law 354 = .ok (.aload_n 1, 1) := by decide +kernel
theorem dL_law_355 : decode cL_law 355 = .ok (.aload_n 0, 1) := by decide +kernel
theorem dL_law_356 : decode cL_law 356 = .ok (.iload_n 3, 1) := by decide +kernel
theorem dL_law_357 : decode cL_law 357 = .ok (.iconst 1, 1) := by decide +kernel
theorem dL_law_358 : decode cL_law 358 = .ok (.iadd, 1) := by decide +kernel
theorem dL_law_359 : decode cL_law 359 = .ok (.iaload, 1) := by decide +kernel
theorem dL_law_360 : decode cL_law 360 = .ok (.invokevirtual 56, 3) := by decide +kernel
theorem dL_law_363 : decode cL_law 363 = .ok (.aload_n 2, 1) := by decide +kernel
theorem dL_law_364 : decode cL_law 364 = .ok (.aload_n 0, 1) := by decide +kernel
theorem dL_law_365 : decode cL_law 365 = .ok (.iload_n 3, 1) := by decide +kernel
theorem dL_law_366 : decode cL_law 366 = .ok (.iconst 1, 1) := by decide +kernel
theorem dL_law_367 : decode cL_law 367 = .ok (.iadd, 1) := by decide +kernel
theorem dL_law_368 : decode cL_law 368 = .ok (.iaload, 1) := by decide +kernel
theorem dL_law_369 : decode cL_law 369 = .ok (.invokevirtual 59, 3) := by decide +kernel
theorem dL_law_372 : decode cL_law 372 = .ok (.if_icmp .eq 354, 3) := by decide +kernel
theorem dL_law_375 : decode cL_law 375 = .ok (.iconst 0, 1) := by decide +kernel
theorem dL_law_376 : decode cL_law 376 = .ok (.ireturn, 1) := by decide +kernel
theorem dL_law_377 : decode cL_law 377 = .ok (.aload_n 1, 1) := by decide +kernel
theorem dL_law_378 : decode cL_law 378 = .ok (.aload_n 0, 1) := by decide +kernel
theorem dL_law_379 : decode cL_law 379 = .ok (.iload_n 3, 1) := by decide +kernel
theorem dL_law_380 : decode cL_law 380 = .ok (.iconst 1, 1) := by decide +kernel
theorem dL_law_381 : decode cL_law 381 = .ok (.iadd, 1) := by decide +kernel
theorem dL_law_382 : decode cL_law 382 = .ok (.iaload, 1) := by decide +kernel
theorem dL_law_383 : decode cL_law 383 = .ok (.invokevirtual 60, 3) := by decide +kernel
theorem dL_law_386 : decode cL_law 386 = .ok (.aload_n 2, 1) := by decide +kernel
theorem dL_law_387 : decode cL_law 387 = .ok (.aload_n 0, 1) := by decide +kernel
theorem dL_law_388 : decode cL_law 388 = .ok (.iload_n 3, 1) := by decide +kernel
theorem dL_law_389 : decode cL_law 389 = .ok (.iconst 1, 1) := by decide +kernel
theorem dL_law_390 : decode cL_law 390 = .ok (.iadd, 1) := by decide +kernel
theorem dL_law_391 : decode cL_law 391 = .ok (.iaload, 1) := by decide +kernel
theorem dL_law_392 : decode cL_law 392 = .ok (.invokevirtual 63, 3) := by decide +kernel
theorem dL_law_395 : decode cL_law 395 = .ok (.if_icmp .eq 331, 3) := by decide +kernel
theorem dL_law_398 : decode cL_law 398 = .ok (.iconst 0, 1) := by decide +kernel
theorem dL_law_399 : decode cL_law 399 = .ok (.ireturn, 1) := by decide +kernel
theorem dL_law_400 : decode cL_law 400 = .ok (.aload_n 1, 1) := by decide +kernel
theorem dL_law_401 : decode cL_law 401 = .ok (.invokevirtual 64, 3) := by decide +kernel
theorem dL_law_404 : decode cL_law 404 = .ok (.aload_n 2, 1) := by decide +kernel
theorem dL_law_405 : decode cL_law 405 = .ok (.invokevirtual 67, 3) := by decide +kernel
theorem dL_law_408 : decode cL_law 408 = .ok (.if_icmp .eq 318, 3) := by decide +kernel
theorem dL_law_411 : decode cL_law 411 = .ok (.iconst 0, 1) := by decide +kernel
theorem dL_law_412 : decode cL_law 412 = .ok (.ireturn, 1) := by decide +kernel
theorem dL_law_413 : decode cL_law 413 = .ok (.aload_n 1, 1) := by decide +kernel
theorem dL_law_414 : decode cL_law 414 = .ok (.invokevirtual 68, 3) := by decide +kernel
theorem dL_law_417 : decode cL_law 417 = .ok (.aload_n 2, 1) := by decide +kernel
theorem dL_law_418 : decode cL_law 418 = .ok (.invokevirtual 71, 3) := by decide +kernel
theorem dL_law_421 : decode cL_law 421 = .ok (.if_icmp .eq 305, 3) := by decide +kernel
theorem dL_law_424 : decode cL_law 424 = .ok (.iconst 0, 1) := by decide +kernel
theorem dL_law_425 : decode cL_law 425 = .ok (.ireturn, 1) := by decide +kernel
theorem dL_law_426 : decode cL_law 426 = .ok (.aload_n 1, 1) := by decide +kernel
theorem dL_law_427 : decode cL_law 427 = .ok (.aload_n 0, 1) := by decide +kernel
theorem dL_law_428 : decode cL_law 428 = .ok (.iload_n 3, 1) := by decide +kernel
theorem dL_law_429 : decode cL_law 429 = .ok (.iconst 1, 1) := by decide +kernel
theorem dL_law_430 : decode cL_law 430 = .ok (.iadd, 1) := by decide +kernel
theorem dL_law_431 : decode cL_law 431 = .ok (.iaload, 1) := by decide +kernel
theorem dL_law_432 : decode cL_law 432 = .ok (.invokevirtual 72, 3) := by decide +kernel
theorem dL_law_435 : decode cL_law 435 = .ok (.aload_n 2, 1) := by decide +kernel
theorem dL_law_436 : decode cL_law 436 = .ok (.aload_n 0, 1) := by decide +kernel
theorem dL_law_437 : decode cL_law 437 = .ok (.iload_n 3, 1) := by decide +kernel
theorem dL_law_438 : decode cL_law 438 = .ok (.iconst 1, 1) := by decide +kernel
theorem dL_law_439 : decode cL_law 439 = .ok (.iadd, 1) := by decide +kernel
theorem dL_law_440 : decode cL_law 440 = .ok (.iaload, 1) := by decide +kernel
theorem dL_law_441 : decode cL_law 441 = .ok (.invokevirtual 75, 3) := by decide +kernel
theorem dL_law_444 : decode cL_law 444 = .ok (.if_icmp .eq 282, 3) := by decide +kernel
theorem dL_law_447 : decode cL_law 447 = .ok (.iconst 0, 1) := by decide +kernel
theorem dL_law_448 : decode cL_law 448 = .ok (.ireturn, 1) := by decide +kernel
theorem dL_law_449 : decode cL_law 449 = .ok (.aload_n 1, 1) := by decide +kernel
theorem dL_law_450 : decode cL_law 450 = .ok (.invokevirtual 76, 3) := by decide +kernel
theorem dL_law_453 : decode cL_law 453 = .ok (.aload_n 2, 1) := by decide +kernel
theorem dL_law_454 : decode cL_law 454 = .ok (.invokevirtual 79, 3) := by decide +kernel
theorem dL_law_457 : decode cL_law 457 = .ok (.if_icmp .eq 269, 3) := by decide +kernel
theorem dL_law_460 : decode cL_law 460 = .ok (.iconst 0, 1) := by decide +kernel
theorem dL_law_461 : decode cL_law 461 = .ok (.ireturn, 1) := by decide +kernel
theorem dL_law_462 : decode cL_law 462 = .ok (.aload_n 1, 1) := by decide +kernel
theorem dL_law_463 : decode cL_law 463 = .ok (.aload_n 0, 1) := by decide +kernel
theorem dL_law_464 : decode cL_law 464 = .ok (.iload_n 3, 1) := by decide +kernel
theorem dL_law_465 : decode cL_law 465 = .ok (.iconst 1, 1) := by decide +kernel
theorem dL_law_466 : decode cL_law 466 = .ok (.iadd, 1) := by decide +kernel
theorem dL_law_467 : decode cL_law 467 = .ok (.iaload, 1) := by decide +kernel
theorem dL_law_468 : decode cL_law 468 = .ok (.aload_n 0, 1) := by decide +kernel
theorem dL_law_469 : decode cL_law 469 = .ok (.iload_n 3, 1) := by decide +kernel
theorem dL_law_470 : decode cL_law 470 = .ok (.iconst 2, 1) := by decide +kernel
theorem dL_law_471 : decode cL_law 471 = .ok (.iadd, 1) := by decide +kernel
theorem dL_law_472 : decode cL_law 472 = .ok (.iaload, 1) := by decide +kernel
theorem dL_law_473 : decode cL_law 473 = .ok (.aload_n 0, 1) := by decide +kernel
theorem dL_law_474 : decode cL_law 474 = .ok (.iload_n 3, 1) := by decide +kernel
theorem dL_law_475 : decode cL_law 475 = .ok (.iconst 3, 1) := by decide +kernel
theorem dL_law_476 : decode cL_law 476 = .ok (.iadd, 1) := by decide +kernel
theorem dL_law_477 : decode cL_law 477 = .ok (.iaload, 1) := by decide +kernel
theorem dL_law_478 : decode cL_law 478 = .ok (.invokevirtual 80, 3) := by decide +kernel
theorem dL_law_481 : decode cL_law 481 = .ok (.aload_n 2, 1) := by decide +kernel
theorem dL_law_482 : decode cL_law 482 = .ok (.aload_n 0, 1) := by decide +kernel
theorem dL_law_483 : decode cL_law 483 = .ok (.iload_n 3, 1) := by decide +kernel
theorem dL_law_484 : decode cL_law 484 = .ok (.iconst 1, 1) := by decide +kernel
theorem dL_law_485 : decode cL_law 485 = .ok (.iadd, 1) := by decide +kernel
theorem dL_law_486 : decode cL_law 486 = .ok (.iaload, 1) := by decide +kernel
theorem dL_law_487 : decode cL_law 487 = .ok (.aload_n 0, 1) := by decide +kernel
theorem dL_law_488 : decode cL_law 488 = .ok (.iload_n 3, 1) := by decide +kernel
theorem dL_law_489 : decode cL_law 489 = .ok (.iconst 2, 1) := by decide +kernel
theorem dL_law_490 : decode cL_law 490 = .ok (.iadd, 1) := by decide +kernel
theorem dL_law_491 : decode cL_law 491 = .ok (.iaload, 1) := by decide +kernel
theorem dL_law_492 : decode cL_law 492 = .ok (.aload_n 0, 1) := by decide +kernel
theorem dL_law_493 : decode cL_law 493 = .ok (.iload_n 3, 1) := by decide +kernel
theorem dL_law_494 : decode cL_law 494 = .ok (.iconst 3, 1) := by decide +kernel
theorem dL_law_495 : decode cL_law 495 = .ok (.iadd, 1) := by decide +kernel
theorem dL_law_496 : decode cL_law 496 = .ok (.iaload, 1) := by decide +kernel
theorem dL_law_497 : decode cL_law 497 = .ok (.invokevirtual 84, 3) := by decide +kernel
theorem dL_law_500 : decode cL_law 500 = .ok (.if_icmp .eq 226, 3) := by decide +kernel
theorem dL_law_503 : decode cL_law 503 = .ok (.iconst 0, 1) := by decide +kernel
theorem dL_law_504 : decode cL_law 504 = .ok (.ireturn, 1) := by decide +kernel
theorem dL_law_505 : decode cL_law 505 = .ok (.aload_n 1, 1) := by decide +kernel
theorem dL_law_506 : decode cL_law 506 = .ok (.aload_n 0, 1) := by decide +kernel
theorem dL_law_507 : decode cL_law 507 = .ok (.iload_n 3, 1) := by decide +kernel
theorem dL_law_508 : decode cL_law 508 = .ok (.iconst 1, 1) := by decide +kernel
theorem dL_law_509 : decode cL_law 509 = .ok (.iadd, 1) := by decide +kernel
theorem dL_law_510 : decode cL_law 510 = .ok (.iaload, 1) := by decide +kernel
theorem dL_law_511 : decode cL_law 511 = .ok (.invokevirtual 85, 3) := by decide +kernel
theorem dL_law_514 : decode cL_law 514 = .ok (.aload_n 2, 1) := by decide +kernel
theorem dL_law_515 : decode cL_law 515 = .ok (.aload_n 0, 1) := by decide +kernel
theorem dL_law_516 : decode cL_law 516 = .ok (.iload_n 3, 1) := by decide +kernel
theorem dL_law_517 : decode cL_law 517 = .ok (.iconst 1, 1) := by decide +kernel
theorem dL_law_518 : decode cL_law 518 = .ok (.iadd, 1) := by decide +kernel
theorem dL_law_519 : decode cL_law 519 = .ok (.iaload, 1) := by decide +kernel
theorem dL_law_520 : decode cL_law 520 = .ok (.invokevirtual 88, 3) := by decide +kernel
theorem dL_law_523 : decode cL_law 523 = .ok (.if_icmp .eq 203, 3) := by decide +kernel
theorem dL_law_526 : decode cL_law 526 = .ok (.iconst 0, 1) := by decide +kernel
theorem dL_law_527 : decode cL_law 527 = .ok (.ireturn, 1) := by decide +kernel
theorem dL_law_528 : decode cL_law 528 = .ok (.aload_n 1, 1) := by decide +kernel
theorem dL_law_529 : decode cL_law 529 = .ok (.aload_n 0, 1) := by decide +kernel
theorem dL_law_530 : decode cL_law 530 = .ok (.iload_n 3, 1) := by decide +kernel
theorem dL_law_531 : decode cL_law 531 = .ok (.iconst 1, 1) := by decide +kernel
theorem dL_law_532 : decode cL_law 532 = .ok (.iadd, 1) := by decide +kernel
theorem dL_law_533 : decode cL_law 533 = .ok (.iaload, 1) := by decide +kernel
theorem dL_law_534 : decode cL_law 534 = .ok (.aload_n 0, 1) := by decide +kernel
theorem dL_law_535 : decode cL_law 535 = .ok (.iload_n 3, 1) := by decide +kernel
theorem dL_law_536 : decode cL_law 536 = .ok (.iconst 2, 1) := by decide +kernel
theorem dL_law_537 : decode cL_law 537 = .ok (.iadd, 1) := by decide +kernel
theorem dL_law_538 : decode cL_law 538 = .ok (.iaload, 1) := by decide +kernel
theorem dL_law_539 : decode cL_law 539 = .ok (.invokevirtual 89, 3) := by decide +kernel
theorem dL_law_542 : decode cL_law 542 = .ok (.aload_n 2, 1) := by decide +kernel
theorem dL_law_543 : decode cL_law 543 = .ok (.aload_n 0, 1) := by decide +kernel
theorem dL_law_544 : decode cL_law 544 = .ok (.iload_n 3, 1) := by decide +kernel
theorem dL_law_545 : decode cL_law 545 = .ok (.iconst 1, 1) := by decide +kernel
theorem dL_law_546 : decode cL_law 546 = .ok (.iadd, 1) := by decide +kernel
theorem dL_law_547 : decode cL_law 547 = .ok (.iaload, 1) := by decide +kernel
theorem dL_law_548 : decode cL_law 548 = .ok (.aload_n 0, 1) := by decide +kernel
theorem dL_law_549 : decode cL_law 549 = .ok (.iload_n 3, 1) := by decide +kernel
theorem dL_law_550 : decode cL_law 550 = .ok (.iconst 2, 1) := by decide +kernel
theorem dL_law_551 : decode cL_law 551 = .ok (.iadd, 1) := by decide +kernel
theorem dL_law_552 : decode cL_law 552 = .ok (.iaload, 1) := by decide +kernel
theorem dL_law_553 : decode cL_law 553 = .ok (.invokevirtual 92, 3) := by decide +kernel
theorem dL_law_556 : decode cL_law 556 = .ok (.if_icmp .eq 170, 3) := by decide +kernel
theorem dL_law_559 : decode cL_law 559 = .ok (.iconst 0, 1) := by decide +kernel
theorem dL_law_560 : decode cL_law 560 = .ok (.ireturn, 1) := by decide +kernel
theorem dL_law_561 : decode cL_law 561 = .ok (.aload_n 1, 1) := by decide +kernel
theorem dL_law_562 : decode cL_law 562 = .ok (.aload_n 0, 1) := by decide +kernel
theorem dL_law_563 : decode cL_law 563 = .ok (.iload_n 3, 1) := by decide +kernel
theorem dL_law_564 : decode cL_law 564 = .ok (.iconst 1, 1) := by decide +kernel
theorem dL_law_565 : decode cL_law 565 = .ok (.iadd, 1) := by decide +kernel
theorem dL_law_566 : decode cL_law 566 = .ok (.iaload, 1) := by decide +kernel
theorem dL_law_567 : decode cL_law 567 = .ok (.aload_n 0, 1) := by decide +kernel
theorem dL_law_568 : decode cL_law 568 = .ok (.iload_n 3, 1) := by decide +kernel
theorem dL_law_569 : decode cL_law 569 = .ok (.iconst 2, 1) := by decide +kernel
theorem dL_law_570 : decode cL_law 570 = .ok (.iadd, 1) := by decide +kernel
theorem dL_law_571 : decode cL_law 571 = .ok (.iaload, 1) := by decide +kernel
theorem dL_law_572 : decode cL_law 572 = .ok (.aload_n 0, 1) := by decide +kernel
theorem dL_law_573 : decode cL_law 573 = .ok (.iload_n 3, 1) := by decide +kernel
theorem dL_law_574 : decode cL_law 574 = .ok (.iconst 3, 1) := by decide +kernel
theorem dL_law_575 : decode cL_law 575 = .ok (.iadd, 1) := by decide +kernel
theorem dL_law_576 : decode cL_law 576 = .ok (.iaload, 1) := by decide +kernel
theorem dL_law_577 : decode cL_law 577 = .ok (.aload_n 0, 1) := by decide +kernel
theorem dL_law_578 : decode cL_law 578 = .ok (.iload_n 3, 1) := by decide +kernel
theorem dL_law_579 : decode cL_law 579 = .ok (.iconst 4, 1) := by decide +kernel
theorem dL_law_580 : decode cL_law 580 = .ok (.iadd, 1) := by decide +kernel
theorem dL_law_581 : decode cL_law 581 = .ok (.iaload, 1) := by decide +kernel
theorem dL_law_582 : decode cL_law 582 = .ok (.invokevirtual 93, 3) := by decide +kernel
theorem dL_law_585 : decode cL_law 585 = .ok (.aload_n 2, 1) := by decide +kernel
theorem dL_law_586 : decode cL_law 586 = .ok (.aload_n 0, 1) := by decide +kernel
theorem dL_law_587 : decode cL_law 587 = .ok (.iload_n 3, 1) := by decide +kernel
theorem dL_law_588 : decode cL_law 588 = .ok (.iconst 1, 1) := by decide +kernel
theorem dL_law_589 : decode cL_law 589 = .ok (.iadd, 1) := by decide +kernel
theorem dL_law_590 : decode cL_law 590 = .ok (.iaload, 1) := by decide +kernel
theorem dL_law_591 : decode cL_law 591 = .ok (.aload_n 0, 1) := by decide +kernel
theorem dL_law_592 : decode cL_law 592 = .ok (.iload_n 3, 1) := by decide +kernel
theorem dL_law_593 : decode cL_law 593 = .ok (.iconst 2, 1) := by decide +kernel
theorem dL_law_594 : decode cL_law 594 = .ok (.iadd, 1) := by decide +kernel
theorem dL_law_595 : decode cL_law 595 = .ok (.iaload, 1) := by decide +kernel
theorem dL_law_596 : decode cL_law 596 = .ok (.aload_n 0, 1) := by decide +kernel
theorem dL_law_597 : decode cL_law 597 = .ok (.iload_n 3, 1) := by decide +kernel
theorem dL_law_598 : decode cL_law 598 = .ok (.iconst 3, 1) := by decide +kernel
theorem dL_law_599 : decode cL_law 599 = .ok (.iadd, 1) := by decide +kernel
theorem dL_law_600 : decode cL_law 600 = .ok (.iaload, 1) := by decide +kernel
theorem dL_law_601 : decode cL_law 601 = .ok (.aload_n 0, 1) := by decide +kernel
theorem dL_law_602 : decode cL_law 602 = .ok (.iload_n 3, 1) := by decide +kernel
theorem dL_law_603 : decode cL_law 603 = .ok (.iconst 4, 1) := by decide +kernel
theorem dL_law_604 : decode cL_law 604 = .ok (.iadd, 1) := by decide +kernel
theorem dL_law_605 : decode cL_law 605 = .ok (.iaload, 1) := by decide +kernel
theorem dL_law_606 : decode cL_law 606 = .ok (.invokevirtual 97, 3) := by decide +kernel
theorem dL_law_609 : decode cL_law 609 = .ok (.if_icmp .eq 117, 3) := by decide +kernel
theorem dL_law_612 : decode cL_law 612 = .ok (.iconst 0, 1) := by decide +kernel
theorem dL_law_613 : decode cL_law 613 = .ok (.ireturn, 1) := by decide +kernel
theorem dL_law_614 : decode cL_law 614 = .ok (.aload_n 1, 1) := by decide +kernel
theorem dL_law_615 : decode cL_law 615 = .ok (.aload_n 0, 1) := by decide +kernel
theorem dL_law_616 : decode cL_law 616 = .ok (.iload_n 3, 1) := by decide +kernel
theorem dL_law_617 : decode cL_law 617 = .ok (.iconst 1, 1) := by decide +kernel
theorem dL_law_618 : decode cL_law 618 = .ok (.iadd, 1) := by decide +kernel
theorem dL_law_619 : decode cL_law 619 = .ok (.iaload, 1) := by decide +kernel
theorem dL_law_620 : decode cL_law 620 = .ok (.aload_n 0, 1) := by decide +kernel
theorem dL_law_621 : decode cL_law 621 = .ok (.iload_n 3, 1) := by decide +kernel
theorem dL_law_622 : decode cL_law 622 = .ok (.iconst 2, 1) := by decide +kernel
theorem dL_law_623 : decode cL_law 623 = .ok (.iadd, 1) := by decide +kernel
theorem dL_law_624 : decode cL_law 624 = .ok (.iaload, 1) := by decide +kernel
theorem dL_law_625 : decode cL_law 625 = .ok (.invokevirtual 98, 3) := by decide +kernel
theorem dL_law_628 : decode cL_law 628 = .ok (.aload_n 2, 1) := by decide +kernel
theorem dL_law_629 : decode cL_law 629 = .ok (.aload_n 0, 1) := by decide +kernel
theorem dL_law_630 : decode cL_law 630 = .ok (.iload_n 3, 1) := by decide +kernel
theorem dL_law_631 : decode cL_law 631 = .ok (.iconst 1, 1) := by decide +kernel
theorem dL_law_632 : decode cL_law 632 = .ok (.iadd, 1) := by decide +kernel
theorem dL_law_633 : decode cL_law 633 = .ok (.iaload, 1) := by decide +kernel
theorem dL_law_634 : decode cL_law 634 = .ok (.aload_n 0, 1) := by decide +kernel
theorem dL_law_635 : decode cL_law 635 = .ok (.iload_n 3, 1) := by decide +kernel
theorem dL_law_636 : decode cL_law 636 = .ok (.iconst 2, 1) := by decide +kernel
theorem dL_law_637 : decode cL_law 637 = .ok (.iadd, 1) := by decide +kernel
theorem dL_law_638 : decode cL_law 638 = .ok (.iaload, 1) := by decide +kernel
theorem dL_law_639 : decode cL_law 639 = .ok (.invokevirtual 101, 3) := by decide +kernel
theorem dL_law_642 : decode cL_law 642 = .ok (.if_icmp .eq 84, 3) := by decide +kernel
theorem dL_law_645 : decode cL_law 645 = .ok (.iconst 0, 1) := by decide +kernel
theorem dL_law_646 : decode cL_law 646 = .ok (.ireturn, 1) := by decide +kernel
theorem dL_law_647 : decode cL_law 647 = .ok (.aload_n 1, 1) := by decide +kernel
theorem dL_law_648 : decode cL_law 648 = .ok (.aload_n 0, 1) := by decide +kernel
theorem dL_law_649 : decode cL_law 649 = .ok (.iload_n 3, 1) := by decide +kernel
theorem dL_law_650 : decode cL_law 650 = .ok (.iconst 1, 1) := by decide +kernel
theorem dL_law_651 : decode cL_law 651 = .ok (.iadd, 1) := by decide +kernel
theorem dL_law_652 : decode cL_law 652 = .ok (.iaload, 1) := by decide +kernel
theorem dL_law_653 : decode cL_law 653 = .ok (.invokevirtual 102, 3) := by decide +kernel
theorem dL_law_656 : decode cL_law 656 = .ok (.aload_n 2, 1) := by decide +kernel
theorem dL_law_657 : decode cL_law 657 = .ok (.aload_n 0, 1) := by decide +kernel
theorem dL_law_658 : decode cL_law 658 = .ok (.iload_n 3, 1) := by decide +kernel
theorem dL_law_659 : decode cL_law 659 = .ok (.iconst 1, 1) := by decide +kernel
theorem dL_law_660 : decode cL_law 660 = .ok (.iadd, 1) := by decide +kernel
theorem dL_law_661 : decode cL_law 661 = .ok (.iaload, 1) := by decide +kernel
theorem dL_law_662 : decode cL_law 662 = .ok (.invokevirtual 105, 3) := by decide +kernel
theorem dL_law_665 : decode cL_law 665 = .ok (.if_icmp .eq 61, 3) := by decide +kernel
theorem dL_law_668 : decode cL_law 668 = .ok (.iconst 0, 1) := by decide +kernel
theorem dL_law_669 : decode cL_law 669 = .ok (.ireturn, 1) := by decide +kernel
theorem dL_law_670 : decode cL_law 670 = .ok (.aload_n 1, 1) := by decide +kernel
theorem dL_law_671 : decode cL_law 671 = .ok (.aload_n 0, 1) := by decide +kernel
theorem dL_law_672 : decode cL_law 672 = .ok (.iload_n 3, 1) := by decide +kernel
theorem dL_law_673 : decode cL_law 673 = .ok (.iconst 1, 1) := by decide +kernel
theorem dL_law_674 : decode cL_law 674 = .ok (.iadd, 1) := by decide +kernel
theorem dL_law_675 : decode cL_law 675 = .ok (.iaload, 1) := by decide +kernel
theorem dL_law_676 : decode cL_law 676 = .ok (.aload_n 0, 1) := by decide +kernel
theorem dL_law_677 : decode cL_law 677 = .ok (.iload_n 3, 1) := by decide +kernel
theorem dL_law_678 : decode cL_law 678 = .ok (.iconst 2, 1) := by decide +kernel
theorem dL_law_679 : decode cL_law 679 = .ok (.iadd, 1) := by decide +kernel
theorem dL_law_680 : decode cL_law 680 = .ok (.iaload, 1) := by decide +kernel
theorem dL_law_681 : decode cL_law 681 = .ok (.invokevirtual 106, 3) := by decide +kernel
theorem dL_law_684 : decode cL_law 684 = .ok (.aload_n 2, 1) := by decide +kernel
theorem dL_law_685 : decode cL_law 685 = .ok (.aload_n 0, 1) := by decide +kernel
theorem dL_law_686 : decode cL_law 686 = .ok (.iload_n 3, 1) := by decide +kernel
theorem dL_law_687 : decode cL_law 687 = .ok (.iconst 1, 1) := by decide +kernel
theorem dL_law_688 : decode cL_law 688 = .ok (.iadd, 1) := by decide +kernel
theorem dL_law_689 : decode cL_law 689 = .ok (.iaload, 1) := by decide +kernel
theorem dL_law_690 : decode cL_law 690 = .ok (.aload_n 0, 1) := by decide +kernel
theorem dL_law_691 : decode cL_law 691 = .ok (.iload_n 3, 1) := by decide +kernel
theorem dL_law_692 : decode cL_law 692 = .ok (.iconst 2, 1) := by decide +kernel
theorem dL_law_693 : decode cL_law 693 = .ok (.iadd, 1) := by decide +kernel
theorem dL_law_694 : decode cL_law 694 = .ok (.iaload, 1) := by decide +kernel
theorem dL_law_695 : decode cL_law 695 = .ok (.invokevirtual 109, 3) := by decide +kernel
theorem dL_law_698 : decode cL_law 698 = .ok (.if_icmp .eq 28, 3) := by decide +kernel
theorem dL_law_701 : decode cL_law 701 = .ok (.iconst 0, 1) := by decide +kernel
theorem dL_law_702 : decode cL_law 702 = .ok (.ireturn, 1) := by decide +kernel
theorem dL_law_703 : decode cL_law 703 = .ok (.aload_n 1, 1) := by decide +kernel
theorem dL_law_704 : decode cL_law 704 = .ok (.aload_n 0, 1) := by decide +kernel
theorem dL_law_705 : decode cL_law 705 = .ok (.iload_n 3, 1) := by decide +kernel
theorem dL_law_706 : decode cL_law 706 = .ok (.iconst 1, 1) := by decide +kernel
theorem dL_law_707 : decode cL_law 707 = .ok (.iadd, 1) := by decide +kernel
theorem dL_law_708 : decode cL_law 708 = .ok (.iaload, 1) := by decide +kernel
theorem dL_law_709 : decode cL_law 709 = .ok (.invokevirtual 110, 3) := by decide +kernel
theorem dL_law_712 : decode cL_law 712 = .ok (.aload_n 2, 1) := by decide +kernel
theorem dL_law_713 : decode cL_law 713 = .ok (.aload_n 0, 1) := by decide +kernel
theorem dL_law_714 : decode cL_law 714 = .ok (.iload_n 3, 1) := by decide +kernel
theorem dL_law_715 : decode cL_law 715 = .ok (.iconst 1, 1) := by decide +kernel
theorem dL_law_716 : decode cL_law 716 = .ok (.iadd, 1) := by decide +kernel
theorem dL_law_717 : decode cL_law 717 = .ok (.iaload, 1) := by decide +kernel
theorem dL_law_718 : decode cL_law 718 = .ok (.invokevirtual 113, 3) := by decide +kernel
theorem dL_law_721 : decode cL_law 721 = .ok (.if_icmp .eq 5, 3) := by decide +kernel
theorem dL_law_724 : decode cL_law 724 = .ok (.iconst 0, 1) := by decide +kernel
theorem dL_law_725 : decode cL_law 725 = .ok (.ireturn, 1) := by decide +kernel
theorem dL_law_726 : decode cL_law 726 = .ok (.iinc 3 5, 3) := by decide +kernel
theorem dL_law_729 : decode cL_law 729 = .ok (.goto (-711), 3) := by decide +kernel
theorem dL_law_732 : decode cL_law 732 = .ok (.iconst 1, 1) := by decide +kernel
theorem dL_law_733 : decode cL_law 733 = .ok (.ireturn, 1) := by decide +kernel
end
section
theorem tb_good : wsL_law.all goodWord = true := by decide +kernel
def wz (y : MethodName) (cc : ByteArray) (nL : Nat) (rt : Option FieldType) : List Cond := .code y cc nL rt :: wsL_law
theorem wz_good : ∀ w ∈ wsL_law, (w.onTables && w.keeps) = true ∨ ∃ ty, w = .arrayClass ty := fun w h => good_of_word (List.all_eq_true.mp tb_good w h)
theorem wz_in {y y2 : MethodName} {cc cc2 : ByteArray} {nL nL2 : Nat} {rt rt2 : Option FieldType} (h : Cond.code y2 cc2 nL2 rt2 ∈ wsL_law) : GoodIn (wz y cc nL rt) (wz y2 cc2 nL2 rt2) := by
  intro w hw
  rcases List.mem_cons.mp hw with rfl | hw
  · exact ⟨List.mem_cons_of_mem _ h, wz_good _ h⟩
  · exact ⟨List.mem_cons_of_mem _ hw, wz_good _ hw⟩
theorem wz_g1 {y : MethodName} {cc : ByteArray} {nL : Nat} {rt : Option FieldType} {w : Cond} (h : w ∈ wsL_law) : w ∈ wz y cc nL rt ∧ ((w.onTables && w.keeps) = true ∨ ∃ ty, w = .arrayClass ty) := ⟨List.mem_cons_of_mem _ h, wz_good _ h⟩
/-- a virtual call's words -/
def LkV (own : String) (idx : Nat) (C : String) (y : MethodName) (cc : ByteArray) (nL : Nat) (rt : Option FieldType) (n : Nat) : Prop :=
  Cond.methodLink own idx y ∈ wsL_law ∧ Cond.instanceMethod y ∈ wsL_law ∧ Cond.selects C y y ∈ wsL_law ∧ Cond.initialized C ∈ wsL_law ∧ Cond.code y cc nL rt ∈ wsL_law ∧ (y.cls = C ∧ y.cls ≠ "java/lang/invoke/MethodHandle" ∧ y.cls ≠ "java/lang/invoke/VarHandle" ∧ (parseMethodDescriptor y.desc).map (fun d => d.parameters.length) = some n)
/-- a static call's words -/
def LkS (own : String) (idx : Nat) (y : MethodName) (cc : ByteArray) (nL : Nat) (rt : Option FieldType) (n : Nat) : Prop :=
  Cond.methodLink own idx y ∈ wsL_law ∧ Cond.static y ∈ wsL_law ∧ Cond.initialized y.cls ∈ wsL_law ∧ Cond.code y cc nL rt ∈ wsL_law ∧ (y.cls ≠ "java/lang/invoke/MethodHandle" ∧ y.cls ≠ "java/lang/invoke/VarHandle" ∧ (parseMethodDescriptor y.desc).map (fun d => d.parameters.length) = some n)
/-- a field's words -/
def FL (own : String) (idx ci k : Nat) : Prop := ∃ (C : String) (T : u_T) (N : Nat), vwCl[ci]? = some (C, T, N) ∧ (∀ w ∈ u_ws C T N, w ∈ wsL_law) ∧ k < N ∧ Cond.fieldLink own idx C (T k).2.1 (T k).2.2.1 ∈ wsL_law ∧ (T k).1 = C
/-- a field's words, for a store -/
def FP (own : String) (idx ci k : Nat) (ty : FieldType) : Prop := ∃ (C : String) (T : u_T) (N : Nat), vwCl[ci]? = some (C, T, N) ∧ (∀ w ∈ u_ws C T N, w ∈ wsL_law) ∧ k < N ∧ Cond.fieldLink own idx C (T k).2.1 (T k).2.2.1 ∈ wsL_law ∧ (T k).1 = C ∧ (T k).2.2.2 = false ∧ parseFieldDescriptor (T k).2.2.1 = some ty ∧ (∃ ty0 : Nat → FieldType, ∀ k, k < N → parseFieldDescriptor (T k).2.2.1 = some (ty0 k)) ∧ (∀ a, a < N → ∀ b, b < N → a ≠ b → (T a).2.1 ≠ (T b).2.1)
theorem cwzV {R : Room} {s : State} {args : Array Value} {own C : String} {idx nL nL0 n fr lo : Nat} {y y0 : MethodName} {cc cc0 : ByteArray} {rt rt0 : Option FieldType} (hts : ∀ w ∈ wz y0 cc0 nL0 rt0, w.before args s = true) (k : LkV own idx C y cc nL rt n) (hR : fr + 1 ≤ R.frames ∧ 8 + (nL + 11) + lo ≤ R.locals) : CallW R s args own C idx y cc nL rt (wz y cc nL rt) { frames := fr, cells := 0, slots := 0, locals := lo } 0 0 n := by
  obtain ⟨h1, h2, h3, h4, h5, h6⟩ := k
  refine cwV n hts (fun w hw => ?_) rfl rfl rfl h6 hR
  rcases List.mem_append.mp hw with hw | hw
  · simp only [List.mem_cons, List.not_mem_nil, or_false] at hw
    rcases hw with rfl | rfl | rfl | rfl
    · exact wz_g1 h1
    · exact wz_g1 h2
    · exact wz_g1 h3
    · exact wz_g1 h4
  · exact wz_in h5 w hw
theorem cwzS {R : Room} {s : State} {args : Array Value} {own : String} {idx nL nL0 n fr lo : Nat} {y y0 : MethodName} {cc cc0 : ByteArray} {rt rt0 : Option FieldType} (hts : ∀ w ∈ wz y0 cc0 nL0 rt0, w.before args s = true) (k : LkS own idx y cc nL rt n) (hR : fr + 1 ≤ R.frames ∧ 8 + (nL + 11) + lo ≤ R.locals) : CallB R s args own idx y cc nL rt (wz y cc nL rt) { frames := fr, cells := 0, slots := 0, locals := lo } 0 0 n ∧ (Cond.static y).before args s = true := by
  obtain ⟨h1, h2, h3, h4, h5⟩ := k
  have g : ∀ {w : Cond}, w ∈ wsL_law → w.before args s = true := fun h => hts _ (List.mem_cons_of_mem _ h)
  exact ⟨callB_of n hts (wz_in h4) rfl rfl rfl (g h3) (g h1) h5 hR, g h2⟩
/-! contracts: a method that changes no cell -/
def roP (D : va_G) (cA : ClassId) (w : va_W) (U : State) : Prop := va_P D vwCl w U.heap ∧ va_K D vwCl [(cA, .int)] U
theorem roP_blind {D : va_G} {cA : ClassId} {w : va_W} {av : List Value} : FrameBlind (va_Pc av (roP D cA w)) := fun a U g mk q => by
  obtain ⟨q0, qP, qK⟩ := q
  exact ⟨q0, qP, va_K.moved (u := U) (U := U.calling g mk a) (Vm.Alike.refl U.vm) qK⟩
def RoI (D : va_G) (cA : ClassId) (l : Launch) (y : MethodName) (cc : ByteArray) (nL : Nat) (rt : FieldType) (fr lo : Nat) (av : List Value) (w : va_W) (post : Int32 → Prop) : Prop :=
  Met l y (wz y cc nL (some rt)) { frames := fr, cells := 0, slots := 0, locals := lo } (va_Pc av (roP D cA w)) (vp_Si post) 0 0 (fun _ => False)
def RoL (D : va_G) (cA : ClassId) (l : Launch) (y : MethodName) (cc : ByteArray) (nL : Nat) (fr lo : Nat) (av : List Value) (w : va_W) (post : Int64 → Prop) : Prop :=
  Met l y (wz y cc nL (some .long)) { frames := fr, cells := 0, slots := 0, locals := lo } (va_Pc av (roP D cA w)) (vp_Sl post) 0 0 (fun _ => False)
theorem enRo {D : va_G} {cA : ClassId} {l : Launch} {y : MethodName} {cc : ByteArray} {nL : Nat} {rt : FieldType} {fr lo : Nat} {av : List Value} {w : va_W} {post : Int32 → Prop} (hy : plainName y.cls = true) (hn : (lg_sl av).length ≤ nL)
    (body : ∀ (p : Program) (e : Env) (s : State) (m : MethodId) (args : Array Value) (below : List Frame) (meth : Method) (c : Code) (Q : State → Prop) (ls : Array Slot), CallFix p m c cc nL s args (wz y cc nL (some rt)) y.cls → va_K D vwCl [(cA, .int)] s → va_P D vwCl w s.heap →
      (∀ (r : Int32) (pc : Nat) (ls : Array Slot), decode cc pc = .ok (.ireturn, 1) → narrow rt (.int r) = .int r → post r → W p l e { frames := fr, cells := 0, slots := 0, locals := lo } s m args below meth c s.heap [] 0 0 Q (F0 m pc ls [.int r])) →
      lv_has ls nL (lv_args 0 av) → W p l e { frames := fr, cells := 0, slots := 0, locals := lo } s m args below meth c s.heap [] 0 0 Q (F0 m 0 ls [])) : RoI D cA l y cc nL rt fr lo av w post := by
  refine Met.ofW (cc := cc) (maxL := nL) (ret := some rt) hy rfl ?_
  intro p e s m args below meth c s₁ B hml hv
  obtain ⟨rfl, hP, hK⟩ := hv
  have hl := lv_entry av (n := nL) hn
  have hlocks := B.notSynchronized
  rw [lg_entry_eq]
  generalize (lg_sl av ++ List.replicate (nL - (lg_sl av).length) Slot.unset).toArray = ls at hl ⊢
  exact body p e s m _ below meth c _ ls ⟨B.exec, B.bytes, hml, findClass_of_methodNamed B.named, atoms_spec B.pre⟩ hK hP (fun r pc ls hd hn hp => W.zret B.exec B.bytes B.returns hn (fun t ht hW => ⟨r, rfl, hp, ht⟩) (fun q hq => by cases hq) hd hlocks) hl
theorem enRoL {D : va_G} {cA : ClassId} {l : Launch} {y : MethodName} {cc : ByteArray} {nL : Nat} {fr lo : Nat} {av : List Value} {w : va_W} {post : Int64 → Prop} (hy : plainName y.cls = true) (hn : (lg_sl av).length ≤ nL)
    (body : ∀ (p : Program) (e : Env) (s : State) (m : MethodId) (args : Array Value) (below : List Frame) (meth : Method) (c : Code) (Q : State → Prop) (ls : Array Slot), CallFix p m c cc nL s args (wz y cc nL (some .long)) y.cls → va_K D vwCl [(cA, .int)] s → va_P D vwCl w s.heap →
      (∀ (r : Int64) (pc : Nat) (ls : Array Slot), decode cc pc = .ok (.lreturn, 1) → post r → W p l e { frames := fr, cells := 0, slots := 0, locals := lo } s m args below meth c s.heap [] 0 0 Q (F0 m pc ls [.long r])) →
      lv_has ls nL (lv_args 0 av) → W p l e { frames := fr, cells := 0, slots := 0, locals := lo } s m args below meth c s.heap [] 0 0 Q (F0 m 0 ls [])) : RoL D cA l y cc nL fr lo av w post := by
  refine Met.ofW (cc := cc) (maxL := nL) (ret := some .long) hy rfl ?_
  intro p e s m args below meth c s₁ B hml hv
  obtain ⟨rfl, hP, hK⟩ := hv
  have hl := lv_entry av (n := nL) hn
  have hlocks := B.notSynchronized
  rw [lg_entry_eq]
  generalize (lg_sl av ++ List.replicate (nL - (lg_sl av).length) Slot.unset).toArray = ls at hl ⊢
  exact body p e s m _ below meth c _ ls ⟨B.exec, B.bytes, hml, findClass_of_methodNamed B.named, atoms_spec B.pre⟩ hK hP (fun r pc ls hd hp => W.lret B.exec B.bytes B.returns (fun t ht hW => ⟨r, rfl, hp, ht⟩) (fun q hq => by cases hq) hd hlocks) hl
/-! contracts: a method that changes cells of its world w to w' u, and makes none -/
def muP (D : va_G) (cA : ClassId) (w : va_W) (sz : Nat) (U : State) : Prop := U.heap.size = sz ∧ va_P D vwCl w U.heap ∧ va_K D vwCl [(cA, .int)] U ∧ va_D (fun _ => True) w
theorem muP_blind {D : va_G} {cA : ClassId} {w : va_W} {sz : Nat} {av : List Value} : FrameBlind (va_Pc av (muP D cA w sz)) := fun a U g mk q => by
  obtain ⟨q0, q1, qP, qK, qD⟩ := q
  exact ⟨q0, q1, qP, va_K.moved (u := U) (U := U.calling g mk a) (Vm.Alike.refl U.vm) qK, qD⟩
def muB (D : va_G) (w : va_W) (sz : Nat) {S : Type} (w' : S → va_W) (u : S) (t : State) : Prop := va_P D vwCl (w' u) t.heap ∧ va_D (va_A w sz) (w' u)
def MuI (D : va_G) (cA : ClassId) (l : Launch) (y : MethodName) (cc : ByteArray) (nL : Nat) (rt : FieldType) (fr lo : Nat) (av : List Value) (w : va_W) {S : Type} (post : Int32 → S → Prop) (w' : S → va_W) : Prop :=
  ∀ sz : Nat, Met l y (wz y cc nL (some rt)) { frames := fr, cells := 0, slots := 0, locals := lo } (va_Pc av (muP D cA w sz)) (va_Qi post (muB D w sz w') (va_A w sz)) 0 0 (va_A w sz)
def MuV (D : va_G) (cA : ClassId) (l : Launch) (y : MethodName) (cc : ByteArray) (nL : Nat) (fr lo : Nat) (av : List Value) (w : va_W) {S : Type} (post : S → Prop) (w' : S → va_W) : Prop :=
  ∀ sz : Nat, Met l y (wz y cc nL none) { frames := fr, cells := 0, slots := 0, locals := lo } (va_Pc av (muP D cA w sz)) (va_Qv post (muB D w sz w') (va_A w sz)) 0 0 (va_A w sz)
/-- the answer is the cell a0 -/
def MuR (D : va_G) (cA : ClassId) (l : Launch) (y : MethodName) (cc : ByteArray) (nL : Nat) (rt : FieldType) (fr lo : Nat) (av : List Value) (w : va_W) (a0 : Nat) {S : Type} (post : S → Prop) (w' : S → va_W) : Prop :=
  ∀ sz : Nat, Met l y (wz y cc nL (some rt)) { frames := fr, cells := 0, slots := 0, locals := lo } (va_Pc av (muP D cA w sz)) (va_Qr post (fun u a t => a = a0 ∧ muB D w sz w' u t) (va_A w sz)) 0 0 (va_A w sz)
section ENMU
variable {D : va_G} {cA : ClassId} {l : Launch} {y : MethodName} {cc : ByteArray} {nL : Nat} {rt : FieldType} {fr lo : Nat} {av : List Value} {w : va_W} {S : Type} {w' : S → va_W}
theorem enMu {post : Int32 → S → Prop} (hy : plainName y.cls = true) (hn : (lg_sl av).length ≤ nL)
    (body : ∀ (p : Program) (e : Env) (s : State) (m : MethodId) (args : Array Value) (below : List Frame) (meth : Method) (c : Code) (Q : State → Prop) (ls : Array Slot) (A : Nat → Prop), CallFix p m c cc nL s args (wz y cc nL (some rt)) y.cls → va_K D vwCl [(cA, .int)] s → va_P D vwCl w s.heap → va_D A w → va_S A s.heap s.heap [] → (∀ q, s.heap.size ≤ q → A q) →
      (∀ (r : Int32) (u : S) (H : Heap) (locs : List Loc) (pc : Nat) (ls : Array Slot), decode cc pc = .ok (.ireturn, 1) → narrow rt (.int r) = .int r → post r u → va_P D vwCl (w' u) H → va_D A (w' u) → va_S A s.heap H locs → W p l e { frames := fr, cells := 0, slots := 0, locals := lo } s m args below meth c H locs 0 0 Q (F0 m pc ls [.int r])) →
      lv_has ls nL (lv_args 0 av) → W p l e { frames := fr, cells := 0, slots := 0, locals := lo } s m args below meth c s.heap [] 0 0 Q (F0 m 0 ls [])) : MuI D cA l y cc nL rt fr lo av w post w' := by
  intro sz
  refine Met.ofW (cc := cc) (maxL := nL) (ret := some rt) hy rfl ?_
  intro p e s m args below meth c s₁ B hml hv
  obtain ⟨rfl, rfl, hP, hK, hD⟩ := hv
  have hl := lv_entry av (n := nL) hn
  have hlocks := B.notSynchronized
  rw [lg_entry_eq]
  generalize (lg_sl av ++ List.replicate (nL - (lg_sl av).length) Slot.unset).toArray = ls at hl ⊢
  exact body p e s m _ below meth c _ ls (va_A w s.heap.size) ⟨B.exec, B.bytes, hml, findClass_of_methodNamed B.named, atoms_spec B.pre⟩ hK hP hD.self va_S.rf (fun q h => Or.inr h) (fun r u H locs pc ls hd hn hp hP hD hS => W.zret B.exec B.bytes B.returns hn (fun t ht hW => ⟨⟨r, u, rfl, hp, by rw [ht]; exact hP, hD⟩, hS.F ht⟩) hS.2.2 hd hlocks) hl
theorem enMv {post : S → Prop} (hy : plainName y.cls = true) (hn : (lg_sl av).length ≤ nL)
    (body : ∀ (p : Program) (e : Env) (s : State) (m : MethodId) (args : Array Value) (below : List Frame) (meth : Method) (c : Code) (Q : State → Prop) (ls : Array Slot) (A : Nat → Prop), CallFix p m c cc nL s args (wz y cc nL none) y.cls → va_K D vwCl [(cA, .int)] s → va_P D vwCl w s.heap → va_D A w → va_S A s.heap s.heap [] → (∀ q, s.heap.size ≤ q → A q) →
      (∀ (u : S) (H : Heap) (locs : List Loc) (pc : Nat) (ls : Array Slot), decode cc pc = .ok (.return_, 1) → post u → va_P D vwCl (w' u) H → va_D A (w' u) → va_S A s.heap H locs → W p l e { frames := fr, cells := 0, slots := 0, locals := lo } s m args below meth c H locs 0 0 Q (F0 m pc ls [])) →
      lv_has ls nL (lv_args 0 av) → W p l e { frames := fr, cells := 0, slots := 0, locals := lo } s m args below meth c s.heap [] 0 0 Q (F0 m 0 ls [])) : MuV D cA l y cc nL fr lo av w post w' := by
  intro sz
  refine Met.ofW (cc := cc) (maxL := nL) (ret := none) hy rfl ?_
  intro p e s m args below meth c s₁ B hml hv
  obtain ⟨rfl, rfl, hP, hK, hD⟩ := hv
  have hl := lv_entry av (n := nL) hn
  have hlocks := B.notSynchronized
  rw [lg_entry_eq]
  generalize (lg_sl av ++ List.replicate (nL - (lg_sl av).length) Slot.unset).toArray = ls at hl ⊢
  exact body p e s m _ below meth c _ ls (va_A w s.heap.size) ⟨B.exec, B.bytes, hml, findClass_of_methodNamed B.named, atoms_spec B.pre⟩ hK hP hD.self va_S.rf (fun q h => Or.inr h) (fun u H locs pc ls hd hp hP hD hS => W.vret B.exec B.bytes B.returns (fun t ht hW => ⟨⟨u, rfl, hp, by rw [ht]; exact hP, hD⟩, hS.F ht⟩) hS.2.2 hd hlocks) hl
theorem enMr {a0 : Nat} {post : S → Prop} (hrt : (∃ n, rt = .object n) ∨ ∃ t, rt = .array t) (hy : plainName y.cls = true) (hn : (lg_sl av).length ≤ nL)
    (body : ∀ (p : Program) (e : Env) (s : State) (m : MethodId) (args : Array Value) (below : List Frame) (meth : Method) (c : Code) (Q : State → Prop) (ls : Array Slot) (A : Nat → Prop), CallFix p m c cc nL s args (wz y cc nL (some rt)) y.cls → va_K D vwCl [(cA, .int)] s → va_P D vwCl w s.heap → va_D A w → va_S A s.heap s.heap [] → (∀ q, s.heap.size ≤ q → A q) →
      (∀ (u : S) (H : Heap) (locs : List Loc) (pc : Nat) (ls : Array Slot), decode cc pc = .ok (.areturn, 1) → post u → va_P D vwCl (w' u) H → va_D A (w' u) → va_S A s.heap H locs → W p l e { frames := fr, cells := 0, slots := 0, locals := lo } s m args below meth c H locs 0 0 Q (F0 m pc ls [.ref a0])) →
      lv_has ls nL (lv_args 0 av) → W p l e { frames := fr, cells := 0, slots := 0, locals := lo } s m args below meth c s.heap [] 0 0 Q (F0 m 0 ls [])) : MuR D cA l y cc nL rt fr lo av w a0 post w' := by
  intro sz
  refine Met.ofW (cc := cc) (maxL := nL) (ret := some rt) hy rfl ?_
  intro p e s m args below meth c s₁ B hml hv
  obtain ⟨rfl, rfl, hP, hK, hD⟩ := hv
  have hl := lv_entry av (n := nL) hn
  have hlocks := B.notSynchronized
  rw [lg_entry_eq]
  generalize (lg_sl av ++ List.replicate (nL - (lg_sl av).length) Slot.unset).toArray = ls at hl ⊢
  exact body p e s m _ below meth c _ ls (va_A w s.heap.size) ⟨B.exec, B.bytes, hml, findClass_of_methodNamed B.named, atoms_spec B.pre⟩ hK hP hD.self va_S.rf (fun q h => Or.inr h) (fun u H locs pc ls hd hp hP hD hS => W.aret B.exec B.bytes B.returns hrt (Or.inr ⟨_, rfl⟩) (fun t ht hW => ⟨⟨u, a0, rfl, hp, rfl, by rw [ht]; exact hP, hD⟩, hS.F ht⟩) hS.2.2 hd hlocks) hl
end ENMU
end
section
theorem vP_iff {D : va_G} {cl : List vw_C} {ws : va_W} {H : Heap} : va_P D cl ws H ↔ ∀ q ∈ ws, va_at D cl q H :=
  ⟨fun h q hq => by obtain ⟨k, hk⟩ := List.getElem?_of_mem hq; exact h k q hk, fun h k q hk => h q (List.mem_of_getElem? hk)⟩
theorem vD_iff {A : Nat → Prop} {ws : va_W} : va_D A ws ↔ (ws.map Prod.fst).Nodup ∧ ∀ q ∈ ws, A q.1 := by
  constructor
  · intro h
    refine ⟨?_, fun q hq => by obtain ⟨k, hk⟩ := List.getElem?_of_mem hq; exact h.2 k q hk⟩
    rw [List.Nodup, List.pairwise_iff_getElem]
    intro i j hi hj hij he
    simp only [List.length_map] at hi hj
    simp only [List.getElem_map] at he
    have := h.1 i j ws[i] ws[j] (List.getElem?_eq_getElem hi) (List.getElem?_eq_getElem hj) he
    omega
  · intro h
    refine ⟨?_, fun k q hk => h.2 q (List.mem_of_getElem? hk)⟩
    intro i j p q hi hj hpq
    obtain ⟨hi', rfl⟩ := List.getElem?_eq_some_iff.mp hi
    obtain ⟨hj', rfl⟩ := List.getElem?_eq_some_iff.mp hj
    have hn := h.1
    rw [List.Nodup, List.pairwise_iff_getElem] at hn
    rcases Nat.lt_trichotomy i j with c | c | c
    · have e := hn i j (by simpa using hi') (by simpa using hj') c
      simp only [List.getElem_map] at e
      exact absurd hpq e
    · exact c
    · have e := hn j i (by simpa using hj') (by simpa using hi') c
      simp only [List.getElem_map] at e
      exact absurd hpq.symm e
/-- behind a call on the middle of a world -/
theorem v_mid {A0 : Nat → Prop} {D : va_G} {cl : List vw_C} {w1 w w2 wn : va_W} {H H1 : Heap} (hP : va_P D cl (w1 ++ (w ++ w2)) H) (hD : va_D A0 (w1 ++ (w ++ w2)))
    (hk : ∀ q : Nat, q < H.size → ¬ va_A w H.size q → H1[q]? = H[q]?) (hF : ∀ q, va_A w H.size q → A0 q) (hP1 : va_P D cl wn H1) (hD1 : va_D (va_A w H.size) wn) : va_P D cl (w1 ++ (wn ++ w2)) H1 ∧ va_D A0 (w1 ++ (wn ++ w2)) := by
  rw [vP_iff] at hP hP1
  rw [vD_iff] at hD hD1
  obtain ⟨hn, hA⟩ := hD
  have hn1 : (((w1 ++ w2) ++ w).map Prod.fst).Nodup := by
    refine (List.Perm.nodup_iff (List.Perm.map _ ?_)).mp hn
    rw [List.append_assoc]
    exact List.Perm.append_left _ List.perm_append_comm
  rw [List.map_append, List.nodup_append] at hn1
  have ap : ∀ q ∈ w1 ++ w2, q.1 < H.size ∧ ¬ va_A w H.size q.1 := by
    intro q hq
    have hl : q.1 < H.size := (hP q (by simp only [List.mem_append] at hq ⊢; rcases hq with h | h <;> simp [h])).lt
    refine ⟨hl, fun h => ?_⟩
    rcases h with ⟨k, e, h⟩ | h
    · exact hn1.2.2 q.1 (List.mem_map.mpr ⟨q, hq, rfl⟩) q.1 (List.mem_map.mpr ⟨(q.1, e), List.mem_of_getElem? h, rfl⟩) rfl
    · omega
  constructor
  · rw [vP_iff]
    intro q hq
    simp only [List.mem_append] at hq
    have out : q ∈ w1 ++ w2 → va_at D cl q H1 := fun h => (hP q (by simp only [List.mem_append] at h ⊢; rcases h with h | h <;> simp [h])).kept (hk q.1 (ap q h).1 (ap q h).2)
    rcases hq with h | h | h
    · exact out (by simp [h])
    · exact hP1 q h
    · exact out (by simp [h])
  · rw [vD_iff]
    constructor
    · refine (List.Perm.nodup_iff (List.Perm.map _ (?_ : ((w1 ++ w2) ++ wn).Perm _))).mp ?_
      · rw [List.append_assoc]
        exact List.Perm.append_left _ List.perm_append_comm
      · rw [List.map_append, List.nodup_append]
        refine ⟨hn1.1, hD1.1, fun a ha b hb hab => ?_⟩
        obtain ⟨q, hq, rfl⟩ := List.mem_map.mp ha
        obtain ⟨r, hr, rfl⟩ := List.mem_map.mp hb
        exact (ap q hq).2 (by rw [hab]; exact hD1.2 r hr)
    · intro q hq
      simp only [List.mem_append] at hq
      rcases hq with h | h | h
      · exact hA q (by simp [h])
      · exact hF q.1 (hD1.2 q h)
      · exact hA q (by simp [h])
theorem v_mid0 {A0 : Nat → Prop} {D : va_G} {cl : List vw_C} {w1 w w2 : va_W} {H : Heap} (hP : va_P D cl (w1 ++ (w ++ w2)) H) : va_P D cl w H := by
  rw [vP_iff] at hP ⊢
  exact fun q hq => hP q (by simp [hq])
theorem v_midD {A0 : Nat → Prop} {w1 w w2 : va_W} (hD : va_D A0 (w1 ++ (w ++ w2))) : va_D A0 w := by
  rw [vD_iff] at hD ⊢
  refine ⟨?_, fun q hq => hD.2 q (by simp [hq])⟩
  have h := hD.1
  rw [List.map_append, List.map_append, List.nodup_append, List.nodup_append] at h
  exact h.2.1.1
theorem v_midF {A0 : Nat → Prop} {w1 w w2 : va_W} {H0 H : Heap} {locs : List Loc} (hD : va_D A0 (w1 ++ (w ++ w2))) (hS : va_S A0 H0 H locs) (hA : ∀ q, H0.size ≤ q → A0 q) : ∀ q, va_A w H.size q → A0 q := by
  intro q h
  rcases h with ⟨k, e, h⟩ | h
  · exact (v_midD hD).2 k (q, e) h
  · exact hA q (Nat.le_trans hS.1 h)
section CA
variable {p : Program} {l : Launch} {e : Env} {R : Room} {s : State} {m : MethodId} {args : Array Value} {below : List Frame} {meth : Method} {c : Code} {H H0 : Heap} {locs : List Loc} {Q : State → Prop} {A0 : Nat → Prop}
  {pc : Nat} {ls : Array Slot} {rest st0 : List Value} {D : va_G} {cA : ClassId} {cc cc0 cc1 : ByteArray} {nL nL0 nL1 idx n fr lo : Nat} {own C : String} {y y0 : MethodName} {rt : FieldType} {rt0 : Option FieldType} {b : Nat} {As : List Value} {w w1 w2 : va_W}
theorem caRoV {post : Int32 → Prop} (fx : CallFix p m c cc nL s args (wz y0 cc0 nL0 rt0) own) (hK : va_K D vwCl [(cA, .int)] s) (k : LkV own idx C y cc1 nL1 (some rt) n) (hM : RoI D cA l y cc1 nL1 rt fr lo (.ref b :: As) w post) (hP : va_P D vwCl w H)
    (q0 : Nat) {ci : Nat} {fs : List Value} (he : w[q0]? = some (b, .inr (ci, fs))) {T : u_T} {N : Nat} (hc : vwCl[ci]? = some (C, T, N)) (hR : fr + 1 ≤ R.frames ∧ 8 + (nL1 + 11) + lo ≤ R.locals) (hn : As.length = n) (hl : ls.size = nL) (hst : st0 = As.reverse ++ .ref b :: rest) (hW : (rest.map fun v => v.category).sum ≤ 8) (hdg : decode cc pc = .ok (.invokevirtual idx, 3))
    (kk : ∀ r : Int32, post r → W p l e R s m args below meth c H locs 0 0 Q (F0 m (pc + 3) ls (.int r :: rest))) : W p l e R s m args below meth c H locs 0 0 Q (F0 m pc ls st0) :=
  vp_callSi (W.runV (rest := rest) fx hM (cwzV fx.2.2.2.2 k hR) ⟨roP_blind, va_recv hK hP hc he, fun U hU hW => ⟨rfl, by rw [hU]; exact hP, va_K.moved hW.alike hK⟩⟩ rfl hn hl hst (lv_room hW) hdg ⟨Nat.zero_le _, Nat.zero_le _⟩) kk
theorem caRoS {post : Int32 → Prop} (fx : CallFix p m c cc nL s args (wz y0 cc0 nL0 rt0) own) (hK : va_K D vwCl [(cA, .int)] s) (k : LkS own idx y cc1 nL1 (some rt) n) (hM : RoI D cA l y cc1 nL1 rt fr lo As w post) (hP : va_P D vwCl w H)
    (hR : fr + 1 ≤ R.frames ∧ 8 + (nL1 + 11) + lo ≤ R.locals) (hn : As.length = n) (hl : ls.size = nL) (hst : st0 = As.reverse ++ rest) (hW : (rest.map fun v => v.category).sum ≤ 8) (hdg : decode cc pc = .ok (.invokestatic idx, 3))
    (kk : ∀ r : Int32, post r → W p l e R s m args below meth c H locs 0 0 Q (F0 m (pc + 3) ls (.int r :: rest))) : W p l e R s m args below meth c H locs 0 0 Q (F0 m pc ls st0) :=
  vp_callSi (W.runS (rest := rest) fx hM (cwzS fx.2.2.2.2 k hR) ⟨roP_blind, fun U hU hW => ⟨rfl, by rw [hU]; exact hP, va_K.moved hW.alike hK⟩⟩ rfl hn hl hst (lv_room hW) hdg ⟨Nat.zero_le _, Nat.zero_le _⟩) kk
theorem caRoLS {post : Int64 → Prop} (fx : CallFix p m c cc nL s args (wz y0 cc0 nL0 rt0) own) (hK : va_K D vwCl [(cA, .int)] s) (k : LkS own idx y cc1 nL1 (some .long) n) (hM : RoL D cA l y cc1 nL1 fr lo As w post) (hP : va_P D vwCl w H)
    (hR : fr + 1 ≤ R.frames ∧ 8 + (nL1 + 11) + lo ≤ R.locals) (hn : As.length = n) (hl : ls.size = nL) (hst : st0 = As.reverse ++ rest) (hW : (rest.map fun v => v.category).sum ≤ 8) (hdg : decode cc pc = .ok (.invokestatic idx, 3))
    (kk : ∀ r : Int64, post r → W p l e R s m args below meth c H locs 0 0 Q (F0 m (pc + 3) ls (.long r :: rest))) : W p l e R s m args below meth c H locs 0 0 Q (F0 m pc ls st0) :=
  vp_callSl (W.runS (rest := rest) fx hM (cwzS fx.2.2.2.2 k hR) ⟨roP_blind, fun U hU hW => ⟨rfl, by rw [hU]; exact hP, va_K.moved hW.alike hK⟩⟩ rfl hn hl hst (lv_room hW) hdg ⟨Nat.zero_le _, Nat.zero_le _⟩) kk
theorem caMuV {S : Type} {post : Int32 → S → Prop} {w' : S → va_W} (fx : CallFix p m c cc nL s args (wz y0 cc0 nL0 rt0) own) (hK : va_K D vwCl [(cA, .int)] s) (k : LkV own idx C y cc1 nL1 (some rt) n) (hM : MuI D cA l y cc1 nL1 rt fr lo (.ref b :: As) w post w')
    (hP : va_P D vwCl (w1 ++ (w ++ w2)) H) (hD : va_D A0 (w1 ++ (w ++ w2))) (hS : va_S A0 H0 H locs) (hA : ∀ q, H0.size ≤ q → A0 q)
    (q0 : Nat) {ci : Nat} {fs : List Value} (he : w[q0]? = some (b, .inr (ci, fs))) {T : u_T} {N : Nat} (hc : vwCl[ci]? = some (C, T, N)) (hR : fr + 1 ≤ R.frames ∧ 8 + (nL1 + 11) + lo ≤ R.locals) (hn : As.length = n) (hl : ls.size = nL) (hst : st0 = As.reverse ++ .ref b :: rest) (hW : (rest.map fun v => v.category).sum ≤ 8) (hdg : decode cc pc = .ok (.invokevirtual idx, 3))
    (kk : ∀ (r : Int32) (u : S) (H1 : Heap) (locs1 : List Loc), post r u → va_P D vwCl (w1 ++ (w' u ++ w2)) H1 → va_D A0 (w1 ++ (w' u ++ w2)) → va_S A0 H0 H1 locs1 → W p l e R s m args below meth c H1 locs1 0 0 Q (F0 m (pc + 3) ls (.int r :: rest))) : W p l e R s m args below meth c H locs 0 0 Q (F0 m pc ls st0) := by
  have hPc := v_mid0 (A0 := A0) hP
  have hFc := v_midF hD hS hA
  refine va_calli (va_runV (rest := rest) fx (hM H.size) (cwzV fx.2.2.2.2 k hR) ⟨muP_blind, va_recv hK hPc hc he, fun U hU hW => ⟨rfl, by rw [hU], by rw [hU]; exact hPc, va_K.moved hW.alike hK, (v_midD hD).weaken (fun _ _ _ _ => trivial)⟩⟩ rfl hn hl hst (lv_room hW) hdg ⟨Nat.zero_le _, Nat.zero_le _⟩) hS (fun q _ h => hFc q h) hFc (fun r u t H1 locs1 ht hvm hw hB hz1 hk1 hS1 => ?_)
  obtain ⟨hP1, hD1⟩ := hB
  rw [ht] at hP1
  obtain ⟨hP2, hD2⟩ := v_mid hP hD hk1 hFc hP1 hD1
  exact kk r u H1 locs1 hw hP2 hD2 hS1
theorem caMuVv {S : Type} {post : S → Prop} {w' : S → va_W} (fx : CallFix p m c cc nL s args (wz y0 cc0 nL0 rt0) own) (hK : va_K D vwCl [(cA, .int)] s) (k : LkV own idx C y cc1 nL1 none n) (hM : MuV D cA l y cc1 nL1 fr lo (.ref b :: As) w post w')
    (hP : va_P D vwCl (w1 ++ (w ++ w2)) H) (hD : va_D A0 (w1 ++ (w ++ w2))) (hS : va_S A0 H0 H locs) (hA : ∀ q, H0.size ≤ q → A0 q)
    (q0 : Nat) {ci : Nat} {fs : List Value} (he : w[q0]? = some (b, .inr (ci, fs))) {T : u_T} {N : Nat} (hc : vwCl[ci]? = some (C, T, N)) (hR : fr + 1 ≤ R.frames ∧ 8 + (nL1 + 11) + lo ≤ R.locals) (hn : As.length = n) (hl : ls.size = nL) (hst : st0 = As.reverse ++ .ref b :: rest) (hW : (rest.map fun v => v.category).sum ≤ 8) (hdg : decode cc pc = .ok (.invokevirtual idx, 3))
    (kk : ∀ (u : S) (H1 : Heap) (locs1 : List Loc), post u → va_P D vwCl (w1 ++ (w' u ++ w2)) H1 → va_D A0 (w1 ++ (w' u ++ w2)) → va_S A0 H0 H1 locs1 → W p l e R s m args below meth c H1 locs1 0 0 Q (F0 m (pc + 3) ls rest)) : W p l e R s m args below meth c H locs 0 0 Q (F0 m pc ls st0) := by
  have hPc := v_mid0 (A0 := A0) hP
  have hFc := v_midF hD hS hA
  refine va_callv (va_runV (rest := rest) fx (hM H.size) (cwzV fx.2.2.2.2 k hR) ⟨muP_blind, va_recv hK hPc hc he, fun U hU hW => ⟨rfl, by rw [hU], by rw [hU]; exact hPc, va_K.moved hW.alike hK, (v_midD hD).weaken (fun _ _ _ _ => trivial)⟩⟩ rfl hn hl hst (lv_room hW) hdg ⟨Nat.zero_le _, Nat.zero_le _⟩) hS (fun q _ h => hFc q h) hFc (fun u t H1 locs1 ht hvm hw hB hz1 hk1 hS1 => ?_)
  obtain ⟨hP1, hD1⟩ := hB
  rw [ht] at hP1
  obtain ⟨hP2, hD2⟩ := v_mid hP hD hk1 hFc hP1 hD1
  exact kk u H1 locs1 hw hP2 hD2 hS1
theorem caMuVr {S : Type} {a0 : Nat} {post : S → Prop} {w' : S → va_W} (fx : CallFix p m c cc nL s args (wz y0 cc0 nL0 rt0) own) (hK : va_K D vwCl [(cA, .int)] s) (k : LkV own idx C y cc1 nL1 (some rt) n) (hM : MuR D cA l y cc1 nL1 rt fr lo (.ref b :: As) w a0 post w')
    (hP : va_P D vwCl (w1 ++ (w ++ w2)) H) (hD : va_D A0 (w1 ++ (w ++ w2))) (hS : va_S A0 H0 H locs) (hA : ∀ q, H0.size ≤ q → A0 q)
    (q0 : Nat) {ci : Nat} {fs : List Value} (he : w[q0]? = some (b, .inr (ci, fs))) {T : u_T} {N : Nat} (hc : vwCl[ci]? = some (C, T, N)) (hR : fr + 1 ≤ R.frames ∧ 8 + (nL1 + 11) + lo ≤ R.locals) (hn : As.length = n) (hl : ls.size = nL) (hst : st0 = As.reverse ++ .ref b :: rest) (hW : (rest.map fun v => v.category).sum ≤ 8) (hdg : decode cc pc = .ok (.invokevirtual idx, 3))
    (kk : ∀ (u : S) (H1 : Heap) (locs1 : List Loc), post u → va_P D vwCl (w1 ++ (w' u ++ w2)) H1 → va_D A0 (w1 ++ (w' u ++ w2)) → va_S A0 H0 H1 locs1 → W p l e R s m args below meth c H1 locs1 0 0 Q (F0 m (pc + 3) ls (.ref a0 :: rest))) : W p l e R s m args below meth c H locs 0 0 Q (F0 m pc ls st0) := by
  have hPc := v_mid0 (A0 := A0) hP
  have hFc := v_midF hD hS hA
  refine va_callr (va_runV (rest := rest) fx (hM H.size) (cwzV fx.2.2.2.2 k hR) ⟨muP_blind, va_recv hK hPc hc he, fun U hU hW => ⟨rfl, by rw [hU], by rw [hU]; exact hPc, va_K.moved hW.alike hK, (v_midD hD).weaken (fun _ _ _ _ => trivial)⟩⟩ rfl hn hl hst (lv_room hW) hdg ⟨Nat.zero_le _, Nat.zero_le _⟩) hS (fun q _ h => hFc q h) hFc ?_
  intro u a t H1 locs1 ht hvm hw hB hz1 hk1 hS1
  obtain ⟨rfl, hP1, hD1⟩ := hB
  rw [ht] at hP1
  obtain ⟨hP2, hD2⟩ := v_mid hP hD hk1 hFc hP1 hD1
  exact kk u H1 locs1 hw hP2 hD2 hS1
theorem caMuSv {S : Type} {post : S → Prop} {w' : S → va_W} (fx : CallFix p m c cc nL s args (wz y0 cc0 nL0 rt0) own) (hK : va_K D vwCl [(cA, .int)] s) (k : LkS own idx y cc1 nL1 none n) (hM : MuV D cA l y cc1 nL1 fr lo As w post w')
    (hP : va_P D vwCl (w1 ++ (w ++ w2)) H) (hD : va_D A0 (w1 ++ (w ++ w2))) (hS : va_S A0 H0 H locs) (hA : ∀ q, H0.size ≤ q → A0 q)
    (hR : fr + 1 ≤ R.frames ∧ 8 + (nL1 + 11) + lo ≤ R.locals) (hn : As.length = n) (hl : ls.size = nL) (hst : st0 = As.reverse ++ rest) (hW : (rest.map fun v => v.category).sum ≤ 8) (hdg : decode cc pc = .ok (.invokestatic idx, 3))
    (kk : ∀ (u : S) (H1 : Heap) (locs1 : List Loc), post u → va_P D vwCl (w1 ++ (w' u ++ w2)) H1 → va_D A0 (w1 ++ (w' u ++ w2)) → va_S A0 H0 H1 locs1 → W p l e R s m args below meth c H1 locs1 0 0 Q (F0 m (pc + 3) ls rest)) : W p l e R s m args below meth c H locs 0 0 Q (F0 m pc ls st0) := by
  have hPc := v_mid0 (A0 := A0) hP
  have hFc := v_midF hD hS hA
  refine va_callv (va_runS (rest := rest) fx (hM H.size) (cwzS fx.2.2.2.2 k hR) ⟨muP_blind, fun U hU hW => ⟨rfl, by rw [hU], by rw [hU]; exact hPc, va_K.moved hW.alike hK, (v_midD hD).weaken (fun _ _ _ _ => trivial)⟩⟩ rfl hn hl hst (lv_room hW) hdg ⟨Nat.zero_le _, Nat.zero_le _⟩) hS (fun q _ h => hFc q h) hFc (fun u t H1 locs1 ht hvm hw hB hz1 hk1 hS1 => ?_)
  obtain ⟨hP1, hD1⟩ := hB
  rw [ht] at hP1
  obtain ⟨hP2, hD2⟩ := v_mid hP hD hk1 hFc hP1 hD1
  exact kk u H1 locs1 hw hP2 hD2 hS1
/-- a static call that changes the one cell at place q0 (Rows.put, Arrays.fill) -/
theorem caCell {f g : Nat → Int32} {nA a : Nat} {ws : va_W} (fx : CallFix p m c cc nL s args (wz y0 cc0 nL0 rt0) own) (hK : va_K D vwCl [(cA, .int)] s) (k : LkS own idx y cc1 nL1 none n) (hM : MuV D cA l y cc1 nL1 fr lo As [(a, .inl (cA, nA, .inl f))] (fun u : Nat → Int32 => u = g) (fun u => [(a, .inl (cA, nA, .inl u))]))
    (hP : va_P D vwCl ws H) (hD : va_D A0 ws) (hS : va_S A0 H0 H locs) (hA : ∀ q, H0.size ≤ q → A0 q) (q0 : Nat) (he : ws[q0]? = some (a, .inl (cA, nA, .inl f)))
    (hR : fr + 1 ≤ R.frames ∧ 8 + (nL1 + 11) + lo ≤ R.locals) (hn : As.length = n) (hl : ls.size = nL) (hst : st0 = As.reverse ++ rest) (hW : (rest.map fun v => v.category).sum ≤ 8) (hdg : decode cc pc = .ok (.invokestatic idx, 3))
    (kk : ∀ (H1 : Heap) (locs1 : List Loc), va_P D vwCl (ws.set q0 (a, .inl (cA, nA, .inl g))) H1 → va_D A0 (ws.set q0 (a, .inl (cA, nA, .inl g))) → va_S A0 H0 H1 locs1 → W p l e R s m args below meth c H1 locs1 0 0 Q (F0 m (pc + 3) ls rest)) : W p l e R s m args below meth c H locs 0 0 Q (F0 m pc ls st0) := by
  obtain ⟨hq, hx⟩ := List.getElem?_eq_some_iff.mp he
  have hsplit : ws = ws.take q0 ++ ([(a, .inl (cA, nA, .inl f))] ++ ws.drop (q0 + 1)) := by
    rw [← hx]
    simp
  have hset : ∀ v, ws.set q0 v = ws.take q0 ++ ([v] ++ ws.drop (q0 + 1)) := fun v => by
    rw [List.set_eq_take_append_cons_drop, if_pos hq]; rfl
  rw [hsplit] at hP hD
  refine caMuSv fx hK k hM hP hD hS hA hR hn hl hst hW hdg (fun u H1 locs1 hu hP1 hD1 hS1 => ?_)
  subst hu
  rw [hset] at kk
  exact kk H1 locs1 hP1 hD1 hS1
theorem gz {ws : va_W} {ci k q0 a : Nat} {fs : List Value} {v : Value} (fx : CallFix p m c cc nL s args (wz y0 cc0 nL0 rt0) own) (hK : va_K D vwCl [(cA, .int)] s) (hP : va_P D vwCl ws H) (fl : FL own idx ci k) (he : ws[q0]? = some (a, .inr (ci, fs))) (hv : fs[k]? = some v) (hdg : decode cc pc = .ok (.getfield idx, 3))
    (kk : W p l e R s m args below meth c H locs 0 0 Q (F0 m (pc + 3) ls (v :: rest))) : W p l e R s m args below meth c H locs 0 0 Q (F0 m pc ls (.ref a :: rest)) := by
  obtain ⟨C, T, N, hc, hin, hk, hl, hd⟩ := fl
  obtain ⟨hx, hb, hml, hown, hts⟩ := fx
  exact va_get (ref := C) hx hb hts (fun w h => List.mem_cons_of_mem _ (hin w h)) hown hK hP q0 he hc k hk (hts _ (List.mem_cons_of_mem _ hl)) (fun _ h => by rw [← hd]; exact h) hv hdg kk
theorem pz {ws : va_W} {ci k q0 a : Nat} {fs : List Value} {v : Value} {ty : FieldType} (fx : CallFix p m c cc nL s args (wz y0 cc0 nL0 rt0) own) (hK : va_K D vwCl [(cA, .int)] s) (hP : va_P D vwCl ws H) (hD : va_D A0 ws) (hS : va_S A0 H0 H locs) (fl : FP own idx ci k ty) (he : ws[q0]? = some (a, .inr (ci, fs))) (hn : narrow ty v = v) (hfit : fits ty v = true) (hl : k < fs.length) (hdg : decode cc pc = .ok (.putfield idx, 3))
    (kk : ∀ (H1 : Heap) (locs1 : List Loc), va_P D vwCl (ws.set q0 (a, .inr (ci, fs.set k v))) H1 → va_D A0 (ws.set q0 (a, .inr (ci, fs.set k v))) → va_S A0 H0 H1 locs1 → W p l e R s m args below meth c H1 locs1 0 0 Q (F0 m (pc + 3) ls rest)) : W p l e R s m args below meth c H locs 0 0 Q (F0 m pc ls (v :: .ref a :: rest)) := by
  obtain ⟨C, T, N, hc, hin, hk, hlk, hd, hfin, hty, ⟨ty0, h0⟩, hnm⟩ := fl
  obtain ⟨hx, hb, hml, hown, hts⟩ := fx
  exact va_put (ref := C) hx hb hts (fun w h => List.mem_cons_of_mem _ (hin w h)) ty0 h0 hnm hown hK hP hD hS q0 he hc k hk (hts _ (List.mem_cons_of_mem _ hlk)) (fun _ h => by rw [← hd]; exact h) hfin hty hn hfit hl hdg kk
end CA
/-! loops: an invariant and a measure -/
def Lp {σ : Type} (step : (σ → Prop) → σ → Prop) (s : σ) : Prop := ∃ (I : σ → Prop) (μ : σ → Nat), I s ∧ ∀ t, I t → step (fun t' => I t' ∧ μ t' < μ t) t
theorem Lp_go {σ : Type} {step : (σ → Prop) → σ → Prop} {C : σ → Prop} (hb : ∀ k : σ → Prop, (∀ t, k t → C t) → ∀ t, step k t → C t) {s : σ} (h : Lp step s) : C s := by
  obtain ⟨I, μ, h0, hs⟩ := h
  have go : ∀ (n : Nat) (t : σ), μ t < n → I t → C t := by
    intro n
    induction n with
    | zero => intro t h; omega
    | succ n ih => intro t hm hI; exact hb _ (fun t' h => ih t' (by omega) h.1) t (hs t hI)
  exact go _ s (Nat.lt_succ_self _) h0
abbrev ix (i : Int32) : Nat := i.toNatClampNeg
def uA (A : Nat → Nat → Int32) (k : Nat) (g : Nat → Int32) : Nat → Nat → Int32 := fun j => if j = k then g else A j
theorem ne_i {x : Int32} (k : Int) (c : Int32) (hc : c.toInt = k) (h : ¬ x = c) : x.toInt ≠ k := fun h2 => h (Int32.toInt_inj.mp (by rw [h2, hc]))
end
