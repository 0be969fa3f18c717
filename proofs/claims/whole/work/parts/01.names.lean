-- ===== PART A: goes FIRST, ahead of the names: the tables' words, and 'selects' of the private methods out of them =====
/-- a private method of a class that the tables say can be made, by its rows of tables_1 -/
def lw_okq (q : MethodName × Nat) : Prop := (q.1.cls ≠ "java/lang/invoke/MethodHandle" ∧ q.1.cls ≠ "java/lang/invoke/VarHandle") ∧ Cond.instantiable q.1.cls q.2 ∈ tables_1 ∧ Cond.privateMethod q.1 ∈ tables_1 ∧ Cond.instanceMethod q.1 ∈ tables_1
theorem lw_p0 : lw_okq (⟨"FarEnds$Reading", "upNext", "()I"⟩, 11) := ⟨⟨by decide +kernel, by decide +kernel⟩, List.mem_of_getElem? (i := 25) (by decide +kernel), List.mem_of_getElem? (i := 323) (by decide +kernel), List.mem_of_getElem? (i := 324) (by decide +kernel)⟩
theorem lw_p1 : lw_okq (⟨"FarEnds$Reading", "letterAt", "(I)I"⟩, 11) := ⟨⟨by decide +kernel, by decide +kernel⟩, List.mem_of_getElem? (i := 25) (by decide +kernel), List.mem_of_getElem? (i := 327) (by decide +kernel), List.mem_of_getElem? (i := 328) (by decide +kernel)⟩
theorem lw_p2 : lw_okq (⟨"FarEnds$Reading", "readOrder", "()V"⟩, 11) := ⟨⟨by decide +kernel, by decide +kernel⟩, List.mem_of_getElem? (i := 25) (by decide +kernel), List.mem_of_getElem? (i := 331) (by decide +kernel), List.mem_of_getElem? (i := 332) (by decide +kernel)⟩
theorem lw_p3 : lw_okq (⟨"FarEnds$Reading", "takeWord", "(I)Z"⟩, 11) := ⟨⟨by decide +kernel, by decide +kernel⟩, List.mem_of_getElem? (i := 25) (by decide +kernel), List.mem_of_getElem? (i := 335) (by decide +kernel), List.mem_of_getElem? (i := 336) (by decide +kernel)⟩
theorem lw_p4 : lw_okq (⟨"FarEnds$Reading", "blame", "(II)V"⟩, 11) := ⟨⟨by decide +kernel, by decide +kernel⟩, List.mem_of_getElem? (i := 25) (by decide +kernel), List.mem_of_getElem? (i := 339) (by decide +kernel), List.mem_of_getElem? (i := 340) (by decide +kernel)⟩
theorem lw_p5 : lw_okq (⟨"FarEnds$Reading", "takeNumberWithin", "(II)Z"⟩, 11) := ⟨⟨by decide +kernel, by decide +kernel⟩, List.mem_of_getElem? (i := 25) (by decide +kernel), List.mem_of_getElem? (i := 343) (by decide +kernel), List.mem_of_getElem? (i := 344) (by decide +kernel)⟩
theorem lw_p6 : lw_okq (⟨"FarEnds$Reading", "isNew", "(Z)Z"⟩, 11) := ⟨⟨by decide +kernel, by decide +kernel⟩, List.mem_of_getElem? (i := 25) (by decide +kernel), List.mem_of_getElem? (i := 350) (by decide +kernel), List.mem_of_getElem? (i := 351) (by decide +kernel)⟩
theorem lw_p7 : lw_okq (⟨"FarEnds$Reading", "readClause", "()V"⟩, 11) := ⟨⟨by decide +kernel, by decide +kernel⟩, List.mem_of_getElem? (i := 25) (by decide +kernel), List.mem_of_getElem? (i := 354) (by decide +kernel), List.mem_of_getElem? (i := 355) (by decide +kernel)⟩
theorem lw_p8 : lw_okq (⟨"FarEnds$Reading", "readKind", "()V"⟩, 11) := ⟨⟨by decide +kernel, by decide +kernel⟩, List.mem_of_getElem? (i := 25) (by decide +kernel), List.mem_of_getElem? (i := 358) (by decide +kernel), List.mem_of_getElem? (i := 359) (by decide +kernel)⟩
theorem lw_p9 : lw_okq (⟨"FarEnds$Reading", "readTouch", "()V"⟩, 11) := ⟨⟨by decide +kernel, by decide +kernel⟩, List.mem_of_getElem? (i := 25) (by decide +kernel), List.mem_of_getElem? (i := 368) (by decide +kernel), List.mem_of_getElem? (i := 369) (by decide +kernel)⟩
theorem lw_p10 : lw_okq (⟨"FarEnds", "goodWires", "()I"⟩, 16) := ⟨⟨by decide +kernel, by decide +kernel⟩, List.mem_of_getElem? (i := 17) (by decide +kernel), List.mem_of_getElem? (i := 406) (by decide +kernel), List.mem_of_getElem? (i := 407) (by decide +kernel)⟩
theorem lw_p11 : lw_okq (⟨"FarEnds", "joinAll", "(I)V"⟩, 16) := ⟨⟨by decide +kernel, by decide +kernel⟩, List.mem_of_getElem? (i := 17) (by decide +kernel), List.mem_of_getElem? (i := 410) (by decide +kernel), List.mem_of_getElem? (i := 411) (by decide +kernel)⟩
theorem lw_p12 : lw_okq (⟨"FarEnds", "countCouldBe", "()I"⟩, 16) := ⟨⟨by decide +kernel, by decide +kernel⟩, List.mem_of_getElem? (i := 17) (by decide +kernel), List.mem_of_getElem? (i := 443) (by decide +kernel), List.mem_of_getElem? (i := 444) (by decide +kernel)⟩
theorem lw_p13 : lw_okq (⟨"FarEnds", "guessOrders", "()V"⟩, 16) := ⟨⟨by decide +kernel, by decide +kernel⟩, List.mem_of_getElem? (i := 17) (by decide +kernel), List.mem_of_getElem? (i := 447) (by decide +kernel), List.mem_of_getElem? (i := 448) (by decide +kernel)⟩
theorem lw_p14 : lw_okq (⟨"FarEnds", "layAllSeen", "()V"⟩, 16) := ⟨⟨by decide +kernel, by decide +kernel⟩, List.mem_of_getElem? (i := 17) (by decide +kernel), List.mem_of_getElem? (i := 455) (by decide +kernel), List.mem_of_getElem? (i := 456) (by decide +kernel)⟩
theorem lw_p15 : lw_okq (⟨"FarEnds", "countOrders", "()I"⟩, 16) := ⟨⟨by decide +kernel, by decide +kernel⟩, List.mem_of_getElem? (i := 17) (by decide +kernel), List.mem_of_getElem? (i := 469) (by decide +kernel), List.mem_of_getElem? (i := 470) (by decide +kernel)⟩
def lw_privs_1 : List (MethodName × Nat) := [(⟨"FarEnds$Reading", "upNext", "()I"⟩, 11), (⟨"FarEnds$Reading", "letterAt", "(I)I"⟩, 11), (⟨"FarEnds$Reading", "readOrder", "()V"⟩, 11), (⟨"FarEnds$Reading", "takeWord", "(I)Z"⟩, 11), (⟨"FarEnds$Reading", "blame", "(II)V"⟩, 11), (⟨"FarEnds$Reading", "takeNumberWithin", "(II)Z"⟩, 11), (⟨"FarEnds$Reading", "isNew", "(Z)Z"⟩, 11), (⟨"FarEnds$Reading", "readClause", "()V"⟩, 11), (⟨"FarEnds$Reading", "readKind", "()V"⟩, 11), (⟨"FarEnds$Reading", "readTouch", "()V"⟩, 11), (⟨"FarEnds", "goodWires", "()I"⟩, 16), (⟨"FarEnds", "joinAll", "(I)V"⟩, 16), (⟨"FarEnds", "countCouldBe", "()I"⟩, 16), (⟨"FarEnds", "guessOrders", "()V"⟩, 16), (⟨"FarEnds", "layAllSeen", "()V"⟩, 16), (⟨"FarEnds", "countOrders", "()I"⟩, 16)]
theorem lw_r1 : ∀ q ∈ lw_privs_1, lw_okq q := List.forall_mem_cons.mpr ⟨lw_p0, List.forall_mem_cons.mpr ⟨lw_p1, List.forall_mem_cons.mpr ⟨lw_p2, List.forall_mem_cons.mpr ⟨lw_p3, List.forall_mem_cons.mpr ⟨lw_p4, List.forall_mem_cons.mpr ⟨lw_p5, List.forall_mem_cons.mpr ⟨lw_p6, List.forall_mem_cons.mpr ⟨lw_p7, List.forall_mem_cons.mpr ⟨lw_p8, List.forall_mem_cons.mpr ⟨lw_p9, List.forall_mem_cons.mpr ⟨lw_p10, List.forall_mem_cons.mpr ⟨lw_p11, List.forall_mem_cons.mpr ⟨lw_p12, List.forall_mem_cons.mpr ⟨lw_p13, List.forall_mem_cons.mpr ⟨lw_p14, List.forall_mem_cons.mpr ⟨lw_p15, fun _ h => absurd h List.not_mem_nil⟩⟩⟩⟩⟩⟩⟩⟩⟩⟩⟩⟩⟩⟩⟩⟩
theorem lw_p16 : lw_okq (⟨"FarEnds", "fitsAllSeen", "()Z"⟩, 16) := ⟨⟨by decide +kernel, by decide +kernel⟩, List.mem_of_getElem? (i := 17) (by decide +kernel), List.mem_of_getElem? (i := 478) (by decide +kernel), List.mem_of_getElem? (i := 479) (by decide +kernel)⟩
theorem lw_p17 : lw_okq (⟨"FarEnds$Orders", "swap", "(II)V"⟩, 1) := ⟨⟨by decide +kernel, by decide +kernel⟩, List.mem_of_getElem? (i := 163) (by decide +kernel), List.mem_of_getElem? (i := 497) (by decide +kernel), List.mem_of_getElem? (i := 498) (by decide +kernel)⟩
theorem lw_p18 : lw_okq (⟨"FarEnds", "bestQuestion", "()I"⟩, 16) := ⟨⟨by decide +kernel, by decide +kernel⟩, List.mem_of_getElem? (i := 17) (by decide +kernel), List.mem_of_getElem? (i := 501) (by decide +kernel), List.mem_of_getElem? (i := 502) (by decide +kernel)⟩
theorem lw_p19 : lw_okq (⟨"FarEnds", "countLeft", "()I"⟩, 16) := ⟨⟨by decide +kernel, by decide +kernel⟩, List.mem_of_getElem? (i := 17) (by decide +kernel), List.mem_of_getElem? (i := 518) (by decide +kernel), List.mem_of_getElem? (i := 519) (by decide +kernel)⟩
theorem lw_p20 : lw_okq (⟨"FarEnds", "isNumber", "(I)Z"⟩, 16) := ⟨⟨by decide +kernel, by decide +kernel⟩, List.mem_of_getElem? (i := 17) (by decide +kernel), List.mem_of_getElem? (i := 531) (by decide +kernel), List.mem_of_getElem? (i := 532) (by decide +kernel)⟩
theorem lw_p21 : lw_okq (⟨"FarEnds", "farEndOf", "(I)I"⟩, 16) := ⟨⟨by decide +kernel, by decide +kernel⟩, List.mem_of_getElem? (i := 17) (by decide +kernel), List.mem_of_getElem? (i := 536) (by decide +kernel), List.mem_of_getElem? (i := 537) (by decide +kernel)⟩
theorem lw_p22 : lw_okq (⟨"FarEnds", "couldBeOf", "(I)I"⟩, 16) := ⟨⟨by decide +kernel, by decide +kernel⟩, List.mem_of_getElem? (i := 17) (by decide +kernel), List.mem_of_getElem? (i := 544) (by decide +kernel), List.mem_of_getElem? (i := 545) (by decide +kernel)⟩
theorem lw_p23 : lw_okq (⟨"FarEnds", "firstCouldBeOf", "(I)I"⟩, 16) := ⟨⟨by decide +kernel, by decide +kernel⟩, List.mem_of_getElem? (i := 17) (by decide +kernel), List.mem_of_getElem? (i := 548) (by decide +kernel), List.mem_of_getElem? (i := 549) (by decide +kernel)⟩
theorem lw_p24 : lw_okq (⟨"FarEnds", "canHold", "(II)Z"⟩, 16) := ⟨⟨by decide +kernel, by decide +kernel⟩, List.mem_of_getElem? (i := 17) (by decide +kernel), List.mem_of_getElem? (i := 562) (by decide +kernel), List.mem_of_getElem? (i := 563) (by decide +kernel)⟩
theorem lw_p25 : lw_okq (⟨"FarEnds", "areTwo", "(II)Z"⟩, 16) := ⟨⟨by decide +kernel, by decide +kernel⟩, List.mem_of_getElem? (i := 17) (by decide +kernel), List.mem_of_getElem? (i := 566) (by decide +kernel), List.mem_of_getElem? (i := 567) (by decide +kernel)⟩
theorem lw_p26 : lw_okq (⟨"FarEnds", "ringsBy", "(III)Z"⟩, 16) := ⟨⟨by decide +kernel, by decide +kernel⟩, List.mem_of_getElem? (i := 17) (by decide +kernel), List.mem_of_getElem? (i := 570) (by decide +kernel), List.mem_of_getElem? (i := 571) (by decide +kernel)⟩
theorem lw_p27 : lw_okq (⟨"FarEnds", "whyNoTime", "()I"⟩, 16) := ⟨⟨by decide +kernel, by decide +kernel⟩, List.mem_of_getElem? (i := 17) (by decide +kernel), List.mem_of_getElem? (i := 606) (by decide +kernel), List.mem_of_getElem? (i := 607) (by decide +kernel)⟩
theorem lw_p28 : lw_okq (⟨"FarEnds", "driftOneHour", "()V"⟩, 16) := ⟨⟨by decide +kernel, by decide +kernel⟩, List.mem_of_getElem? (i := 17) (by decide +kernel), List.mem_of_getElem? (i := 640) (by decide +kernel), List.mem_of_getElem? (i := 641) (by decide +kernel)⟩
theorem lw_p29 : lw_okq (⟨"FarEnds", "kindsWithBroken", "(I)I"⟩, 16) := ⟨⟨by decide +kernel, by decide +kernel⟩, List.mem_of_getElem? (i := 17) (by decide +kernel), List.mem_of_getElem? (i := 664) (by decide +kernel), List.mem_of_getElem? (i := 665) (by decide +kernel)⟩
theorem lw_p30 : lw_okq (⟨"FarEnds", "bestWay", "()I"⟩, 16) := ⟨⟨by decide +kernel, by decide +kernel⟩, List.mem_of_getElem? (i := 17) (by decide +kernel), List.mem_of_getElem? (i := 672) (by decide +kernel), List.mem_of_getElem? (i := 673) (by decide +kernel)⟩
theorem lw_p31 : lw_okq (⟨"FarEnds", "leftByWay", "(I)I"⟩, 16) := ⟨⟨by decide +kernel, by decide +kernel⟩, List.mem_of_getElem? (i := 17) (by decide +kernel), List.mem_of_getElem? (i := 685) (by decide +kernel), List.mem_of_getElem? (i := 686) (by decide +kernel)⟩
def lw_privs_2 : List (MethodName × Nat) := [(⟨"FarEnds", "fitsAllSeen", "()Z"⟩, 16), (⟨"FarEnds$Orders", "swap", "(II)V"⟩, 1), (⟨"FarEnds", "bestQuestion", "()I"⟩, 16), (⟨"FarEnds", "countLeft", "()I"⟩, 16), (⟨"FarEnds", "isNumber", "(I)Z"⟩, 16), (⟨"FarEnds", "farEndOf", "(I)I"⟩, 16), (⟨"FarEnds", "couldBeOf", "(I)I"⟩, 16), (⟨"FarEnds", "firstCouldBeOf", "(I)I"⟩, 16), (⟨"FarEnds", "canHold", "(II)Z"⟩, 16), (⟨"FarEnds", "areTwo", "(II)Z"⟩, 16), (⟨"FarEnds", "ringsBy", "(III)Z"⟩, 16), (⟨"FarEnds", "whyNoTime", "()I"⟩, 16), (⟨"FarEnds", "driftOneHour", "()V"⟩, 16), (⟨"FarEnds", "kindsWithBroken", "(I)I"⟩, 16), (⟨"FarEnds", "bestWay", "()I"⟩, 16), (⟨"FarEnds", "leftByWay", "(I)I"⟩, 16)]
theorem lw_r2 : ∀ q ∈ lw_privs_2, lw_okq q := List.forall_mem_cons.mpr ⟨lw_p16, List.forall_mem_cons.mpr ⟨lw_p17, List.forall_mem_cons.mpr ⟨lw_p18, List.forall_mem_cons.mpr ⟨lw_p19, List.forall_mem_cons.mpr ⟨lw_p20, List.forall_mem_cons.mpr ⟨lw_p21, List.forall_mem_cons.mpr ⟨lw_p22, List.forall_mem_cons.mpr ⟨lw_p23, List.forall_mem_cons.mpr ⟨lw_p24, List.forall_mem_cons.mpr ⟨lw_p25, List.forall_mem_cons.mpr ⟨lw_p26, List.forall_mem_cons.mpr ⟨lw_p27, List.forall_mem_cons.mpr ⟨lw_p28, List.forall_mem_cons.mpr ⟨lw_p29, List.forall_mem_cons.mpr ⟨lw_p30, List.forall_mem_cons.mpr ⟨lw_p31, fun _ h => absurd h List.not_mem_nil⟩⟩⟩⟩⟩⟩⟩⟩⟩⟩⟩⟩⟩⟩⟩⟩
theorem lw_p32 : lw_okq (⟨"FarEnds$Ways", "mostAhead", "(I)I"⟩, 1) := ⟨⟨by decide +kernel, by decide +kernel⟩, List.mem_of_getElem? (i := 196) (by decide +kernel), List.mem_of_getElem? (i := 703) (by decide +kernel), List.mem_of_getElem? (i := 704) (by decide +kernel)⟩
theorem lw_p33 : lw_okq (⟨"FarEndsModel", "readsAll", "()Z"⟩, 41) := ⟨⟨by decide +kernel, by decide +kernel⟩, List.mem_of_getElem? (i := 747) (by decide +kernel), List.mem_of_getElem? (i := 891) (by decide +kernel), List.mem_of_getElem? (i := 892) (by decide +kernel)⟩
theorem lw_p34 : lw_okq (⟨"FarEndsModel", "skip", "()V"⟩, 41) := ⟨⟨by decide +kernel, by decide +kernel⟩, List.mem_of_getElem? (i := 747) (by decide +kernel), List.mem_of_getElem? (i := 895) (by decide +kernel), List.mem_of_getElem? (i := 896) (by decide +kernel)⟩
theorem lw_p35 : lw_okq (⟨"FarEndsModel", "readsClause", "()Z"⟩, 41) := ⟨⟨by decide +kernel, by decide +kernel⟩, List.mem_of_getElem? (i := 747) (by decide +kernel), List.mem_of_getElem? (i := 899) (by decide +kernel), List.mem_of_getElem? (i := 900) (by decide +kernel)⟩
theorem lw_p36 : lw_okq (⟨"FarEndsModel", "here", "()I"⟩, 41) := ⟨⟨by decide +kernel, by decide +kernel⟩, List.mem_of_getElem? (i := 747) (by decide +kernel), List.mem_of_getElem? (i := 903) (by decide +kernel), List.mem_of_getElem? (i := 904) (by decide +kernel)⟩
theorem lw_p37 : lw_okq (⟨"FarEndsModel", "readsCable", "()Z"⟩, 41) := ⟨⟨by decide +kernel, by decide +kernel⟩, List.mem_of_getElem? (i := 747) (by decide +kernel), List.mem_of_getElem? (i := 907) (by decide +kernel), List.mem_of_getElem? (i := 908) (by decide +kernel)⟩
theorem lw_p38 : lw_okq (⟨"FarEndsModel", "readsOne", "()Z"⟩, 41) := ⟨⟨by decide +kernel, by decide +kernel⟩, List.mem_of_getElem? (i := 747) (by decide +kernel), List.mem_of_getElem? (i := 911) (by decide +kernel), List.mem_of_getElem? (i := 912) (by decide +kernel)⟩
theorem lw_p39 : lw_okq (⟨"FarEndsModel", "number", "(II)Z"⟩, 41) := ⟨⟨by decide +kernel, by decide +kernel⟩, List.mem_of_getElem? (i := 747) (by decide +kernel), List.mem_of_getElem? (i := 915) (by decide +kernel), List.mem_of_getElem? (i := 916) (by decide +kernel)⟩
theorem lw_p40 : lw_okq (⟨"FarEndsModel", "fails", "(II)Z"⟩, 41) := ⟨⟨by decide +kernel, by decide +kernel⟩, List.mem_of_getElem? (i := 747) (by decide +kernel), List.mem_of_getElem? (i := 919) (by decide +kernel), List.mem_of_getElem? (i := 920) (by decide +kernel)⟩
theorem lw_p41 : lw_okq (⟨"FarEndsModel", "isRead", "(I)Z"⟩, 41) := ⟨⟨by decide +kernel, by decide +kernel⟩, List.mem_of_getElem? (i := 747) (by decide +kernel), List.mem_of_getElem? (i := 923) (by decide +kernel), List.mem_of_getElem? (i := 924) (by decide +kernel)⟩
theorem lw_p42 : lw_okq (⟨"FarEndsModel", "isWhole", "()Z"⟩, 41) := ⟨⟨by decide +kernel, by decide +kernel⟩, List.mem_of_getElem? (i := 747) (by decide +kernel), List.mem_of_getElem? (i := 927) (by decide +kernel), List.mem_of_getElem? (i := 928) (by decide +kernel)⟩
theorem lw_p43 : lw_okq (⟨"FarEndsModel", "ends", "()Z"⟩, 41) := ⟨⟨by decide +kernel, by decide +kernel⟩, List.mem_of_getElem? (i := 747) (by decide +kernel), List.mem_of_getElem? (i := 931) (by decide +kernel), List.mem_of_getElem? (i := 932) (by decide +kernel)⟩
theorem lw_p44 : lw_okq (⟨"FarEndsModel", "readsKind", "()Z"⟩, 41) := ⟨⟨by decide +kernel, by decide +kernel⟩, List.mem_of_getElem? (i := 747) (by decide +kernel), List.mem_of_getElem? (i := 935) (by decide +kernel), List.mem_of_getElem? (i := 936) (by decide +kernel)⟩
theorem lw_p45 : lw_okq (⟨"FarEndsModel", "readsTouch", "()Z"⟩, 41) := ⟨⟨by decide +kernel, by decide +kernel⟩, List.mem_of_getElem? (i := 747) (by decide +kernel), List.mem_of_getElem? (i := 939) (by decide +kernel), List.mem_of_getElem? (i := 940) (by decide +kernel)⟩
theorem lw_p46 : lw_okq (⟨"FarEndsModel", "isWire", "(I)Z"⟩, 41) := ⟨⟨by decide +kernel, by decide +kernel⟩, List.mem_of_getElem? (i := 747) (by decide +kernel), List.mem_of_getElem? (i := 957) (by decide +kernel), List.mem_of_getElem? (i := 958) (by decide +kernel)⟩
theorem lw_p47 : lw_okq (⟨"FarEndsModel", "farEndOf", "([II)I"⟩, 41) := ⟨⟨by decide +kernel, by decide +kernel⟩, List.mem_of_getElem? (i := 747) (by decide +kernel), List.mem_of_getElem? (i := 962) (by decide +kernel), List.mem_of_getElem? (i := 963) (by decide +kernel)⟩
def lw_privs_3 : List (MethodName × Nat) := [(⟨"FarEnds$Ways", "mostAhead", "(I)I"⟩, 1), (⟨"FarEndsModel", "readsAll", "()Z"⟩, 41), (⟨"FarEndsModel", "skip", "()V"⟩, 41), (⟨"FarEndsModel", "readsClause", "()Z"⟩, 41), (⟨"FarEndsModel", "here", "()I"⟩, 41), (⟨"FarEndsModel", "readsCable", "()Z"⟩, 41), (⟨"FarEndsModel", "readsOne", "()Z"⟩, 41), (⟨"FarEndsModel", "number", "(II)Z"⟩, 41), (⟨"FarEndsModel", "fails", "(II)Z"⟩, 41), (⟨"FarEndsModel", "isRead", "(I)Z"⟩, 41), (⟨"FarEndsModel", "isWhole", "()Z"⟩, 41), (⟨"FarEndsModel", "ends", "()Z"⟩, 41), (⟨"FarEndsModel", "readsKind", "()Z"⟩, 41), (⟨"FarEndsModel", "readsTouch", "()Z"⟩, 41), (⟨"FarEndsModel", "isWire", "(I)Z"⟩, 41), (⟨"FarEndsModel", "farEndOf", "([II)I"⟩, 41)]
theorem lw_r3 : ∀ q ∈ lw_privs_3, lw_okq q := List.forall_mem_cons.mpr ⟨lw_p32, List.forall_mem_cons.mpr ⟨lw_p33, List.forall_mem_cons.mpr ⟨lw_p34, List.forall_mem_cons.mpr ⟨lw_p35, List.forall_mem_cons.mpr ⟨lw_p36, List.forall_mem_cons.mpr ⟨lw_p37, List.forall_mem_cons.mpr ⟨lw_p38, List.forall_mem_cons.mpr ⟨lw_p39, List.forall_mem_cons.mpr ⟨lw_p40, List.forall_mem_cons.mpr ⟨lw_p41, List.forall_mem_cons.mpr ⟨lw_p42, List.forall_mem_cons.mpr ⟨lw_p43, List.forall_mem_cons.mpr ⟨lw_p44, List.forall_mem_cons.mpr ⟨lw_p45, List.forall_mem_cons.mpr ⟨lw_p46, List.forall_mem_cons.mpr ⟨lw_p47, fun _ h => absurd h List.not_mem_nil⟩⟩⟩⟩⟩⟩⟩⟩⟩⟩⟩⟩⟩⟩⟩⟩
theorem lw_p48 : lw_okq (⟨"FarEndsModel", "netNow", "(III)I"⟩, 41) := ⟨⟨by decide +kernel, by decide +kernel⟩, List.mem_of_getElem? (i := 747) (by decide +kernel), List.mem_of_getElem? (i := 973) (by decide +kernel), List.mem_of_getElem? (i := 974) (by decide +kernel)⟩
theorem lw_p49 : lw_okq (⟨"FarEndsModel", "joined", "(I[II[I[III)I"⟩, 41) := ⟨⟨by decide +kernel, by decide +kernel⟩, List.mem_of_getElem? (i := 747) (by decide +kernel), List.mem_of_getElem? (i := 977) (by decide +kernel), List.mem_of_getElem? (i := 978) (by decide +kernel)⟩
theorem lw_p50 : lw_okq (⟨"FarEndsModel", "joinedOnce", "(I[II[I[III)I"⟩, 41) := ⟨⟨by decide +kernel, by decide +kernel⟩, List.mem_of_getElem? (i := 747) (by decide +kernel), List.mem_of_getElem? (i := 981) (by decide +kernel), List.mem_of_getElem? (i := 982) (by decide +kernel)⟩
theorem lw_p51 : lw_okq (⟨"FarEndsModel", "doTouch", "(II)Z"⟩, 41) := ⟨⟨by decide +kernel, by decide +kernel⟩, List.mem_of_getElem? (i := 747) (by decide +kernel), List.mem_of_getElem? (i := 988) (by decide +kernel), List.mem_of_getElem? (i := 989) (by decide +kernel)⟩
theorem lw_p52 : lw_okq (⟨"FarEndsModel", "areEnds", "(II)Z"⟩, 41) := ⟨⟨by decide +kernel, by decide +kernel⟩, List.mem_of_getElem? (i := 747) (by decide +kernel), List.mem_of_getElem? (i := 996) (by decide +kernel), List.mem_of_getElem? (i := 997) (by decide +kernel)⟩
theorem lw_p53 : lw_okq (⟨"FarEndsModel", "ringsNow", "(III)Z"⟩, 41) := ⟨⟨by decide +kernel, by decide +kernel⟩, List.mem_of_getElem? (i := 747) (by decide +kernel), List.mem_of_getElem? (i := 1000) (by decide +kernel), List.mem_of_getElem? (i := 1001) (by decide +kernel)⟩
theorem lw_p54 : lw_okq (⟨"FarEndsModel", "groupOf", "(I)I"⟩, 41) := ⟨⟨by decide +kernel, by decide +kernel⟩, List.mem_of_getElem? (i := 747) (by decide +kernel), List.mem_of_getElem? (i := 1015) (by decide +kernel), List.mem_of_getElem? (i := 1016) (by decide +kernel)⟩
theorem lw_p55 : lw_okq (⟨"FarEndsModel", "notes", "()V"⟩, 41) := ⟨⟨by decide +kernel, by decide +kernel⟩, List.mem_of_getElem? (i := 747) (by decide +kernel), List.mem_of_getElem? (i := 1020) (by decide +kernel), List.mem_of_getElem? (i := 1021) (by decide +kernel)⟩
theorem lw_p56 : lw_okq (⟨"FarEndsModel", "lays", "([II)V"⟩, 41) := ⟨⟨by decide +kernel, by decide +kernel⟩, List.mem_of_getElem? (i := 747) (by decide +kernel), List.mem_of_getElem? (i := 1024) (by decide +kernel), List.mem_of_getElem? (i := 1025) (by decide +kernel)⟩
theorem lw_p57 : lw_okq (⟨"FarEndsModel", "comesInto", "(II)V"⟩, 41) := ⟨⟨by decide +kernel, by decide +kernel⟩, List.mem_of_getElem? (i := 747) (by decide +kernel), List.mem_of_getElem? (i := 1028) (by decide +kernel), List.mem_of_getElem? (i := 1029) (by decide +kernel)⟩
theorem lw_p58 : lw_okq (⟨"FarEndsModel", "goesOver", "()V"⟩, 41) := ⟨⟨by decide +kernel, by decide +kernel⟩, List.mem_of_getElem? (i := 747) (by decide +kernel), List.mem_of_getElem? (i := 1036) (by decide +kernel), List.mem_of_getElem? (i := 1037) (by decide +kernel)⟩
theorem lw_p59 : lw_okq (⟨"FarEndsModel", "tested", "()V"⟩, 41) := ⟨⟨by decide +kernel, by decide +kernel⟩, List.mem_of_getElem? (i := 747) (by decide +kernel), List.mem_of_getElem? (i := 1044) (by decide +kernel), List.mem_of_getElem? (i := 1045) (by decide +kernel)⟩
theorem lw_p60 : lw_okq (⟨"FarEndsModel", "mayGoOn", "(I)I"⟩, 41) := ⟨⟨by decide +kernel, by decide +kernel⟩, List.mem_of_getElem? (i := 747) (by decide +kernel), List.mem_of_getElem? (i := 1052) (by decide +kernel), List.mem_of_getElem? (i := 1053) (by decide +kernel)⟩
theorem lw_p61 : lw_okq (⟨"FarEndsModel", "touchMany", "()I"⟩, 41) := ⟨⟨by decide +kernel, by decide +kernel⟩, List.mem_of_getElem? (i := 747) (by decide +kernel), List.mem_of_getElem? (i := 1064) (by decide +kernel), List.mem_of_getElem? (i := 1065) (by decide +kernel)⟩
theorem lw_p62 : lw_okq (⟨"FarEndsModel", "driftsHour", "()V"⟩, 41) := ⟨⟨by decide +kernel, by decide +kernel⟩, List.mem_of_getElem? (i := 747) (by decide +kernel), List.mem_of_getElem? (i := 1072) (by decide +kernel), List.mem_of_getElem? (i := 1073) (by decide +kernel)⟩
theorem lw_p63 : lw_okq (⟨"FarEndsModel", "draw", "(I)I"⟩, 41) := ⟨⟨by decide +kernel, by decide +kernel⟩, List.mem_of_getElem? (i := 747) (by decide +kernel), List.mem_of_getElem? (i := 1076) (by decide +kernel), List.mem_of_getElem? (i := 1077) (by decide +kernel)⟩
def lw_privs_4 : List (MethodName × Nat) := [(⟨"FarEndsModel", "netNow", "(III)I"⟩, 41), (⟨"FarEndsModel", "joined", "(I[II[I[III)I"⟩, 41), (⟨"FarEndsModel", "joinedOnce", "(I[II[I[III)I"⟩, 41), (⟨"FarEndsModel", "doTouch", "(II)Z"⟩, 41), (⟨"FarEndsModel", "areEnds", "(II)Z"⟩, 41), (⟨"FarEndsModel", "ringsNow", "(III)Z"⟩, 41), (⟨"FarEndsModel", "groupOf", "(I)I"⟩, 41), (⟨"FarEndsModel", "notes", "()V"⟩, 41), (⟨"FarEndsModel", "lays", "([II)V"⟩, 41), (⟨"FarEndsModel", "comesInto", "(II)V"⟩, 41), (⟨"FarEndsModel", "goesOver", "()V"⟩, 41), (⟨"FarEndsModel", "tested", "()V"⟩, 41), (⟨"FarEndsModel", "mayGoOn", "(I)I"⟩, 41), (⟨"FarEndsModel", "touchMany", "()I"⟩, 41), (⟨"FarEndsModel", "driftsHour", "()V"⟩, 41), (⟨"FarEndsModel", "draw", "(I)I"⟩, 41)]
theorem lw_r4 : ∀ q ∈ lw_privs_4, lw_okq q := List.forall_mem_cons.mpr ⟨lw_p48, List.forall_mem_cons.mpr ⟨lw_p49, List.forall_mem_cons.mpr ⟨lw_p50, List.forall_mem_cons.mpr ⟨lw_p51, List.forall_mem_cons.mpr ⟨lw_p52, List.forall_mem_cons.mpr ⟨lw_p53, List.forall_mem_cons.mpr ⟨lw_p54, List.forall_mem_cons.mpr ⟨lw_p55, List.forall_mem_cons.mpr ⟨lw_p56, List.forall_mem_cons.mpr ⟨lw_p57, List.forall_mem_cons.mpr ⟨lw_p58, List.forall_mem_cons.mpr ⟨lw_p59, List.forall_mem_cons.mpr ⟨lw_p60, List.forall_mem_cons.mpr ⟨lw_p61, List.forall_mem_cons.mpr ⟨lw_p62, List.forall_mem_cons.mpr ⟨lw_p63, fun _ h => absurd h List.not_mem_nil⟩⟩⟩⟩⟩⟩⟩⟩⟩⟩⟩⟩⟩⟩⟩⟩
theorem lw_p64 : lw_okq (⟨"FarEndsModel", "takes", "([II)V"⟩, 41) := ⟨⟨by decide +kernel, by decide +kernel⟩, List.mem_of_getElem? (i := 747) (by decide +kernel), List.mem_of_getElem? (i := 1088) (by decide +kernel), List.mem_of_getElem? (i := 1089) (by decide +kernel)⟩
theorem lw_p65 : lw_okq (⟨"FarEndsModel", "setCould", "()V"⟩, 41) := ⟨⟨by decide +kernel, by decide +kernel⟩, List.mem_of_getElem? (i := 747) (by decide +kernel), List.mem_of_getElem? (i := 1104) (by decide +kernel), List.mem_of_getElem? (i := 1105) (by decide +kernel)⟩
theorem lw_p66 : lw_okq (⟨"FarEndsModel", "firstOrder", "()V"⟩, 41) := ⟨⟨by decide +kernel, by decide +kernel⟩, List.mem_of_getElem? (i := 747) (by decide +kernel), List.mem_of_getElem? (i := 1108) (by decide +kernel), List.mem_of_getElem? (i := 1109) (by decide +kernel)⟩
theorem lw_p67 : lw_okq (⟨"FarEndsModel", "couldBe", "()Z"⟩, 41) := ⟨⟨by decide +kernel, by decide +kernel⟩, List.mem_of_getElem? (i := 747) (by decide +kernel), List.mem_of_getElem? (i := 1112) (by decide +kernel), List.mem_of_getElem? (i := 1113) (by decide +kernel)⟩
theorem lw_p68 : lw_okq (⟨"FarEndsModel", "countsOrder", "()V"⟩, 41) := ⟨⟨by decide +kernel, by decide +kernel⟩, List.mem_of_getElem? (i := 747) (by decide +kernel), List.mem_of_getElem? (i := 1116) (by decide +kernel), List.mem_of_getElem? (i := 1117) (by decide +kernel)⟩
theorem lw_p69 : lw_okq (⟨"FarEndsModel", "nextOrder", "()Z"⟩, 41) := ⟨⟨by decide +kernel, by decide +kernel⟩, List.mem_of_getElem? (i := 747) (by decide +kernel), List.mem_of_getElem? (i := 1120) (by decide +kernel), List.mem_of_getElem? (i := 1121) (by decide +kernel)⟩
theorem lw_p70 : lw_okq (⟨"FarEndsModel", "leftBy", "(I[I[I)I"⟩, 41) := ⟨⟨by decide +kernel, by decide +kernel⟩, List.mem_of_getElem? (i := 747) (by decide +kernel), List.mem_of_getElem? (i := 1128) (by decide +kernel), List.mem_of_getElem? (i := 1129) (by decide +kernel)⟩
theorem lw_p71 : lw_okq (⟨"FarEndsModel", "allRings", "(I[I[I[I)I"⟩, 41) := ⟨⟨by decide +kernel, by decide +kernel⟩, List.mem_of_getElem? (i := 747) (by decide +kernel), List.mem_of_getElem? (i := 1132) (by decide +kernel), List.mem_of_getElem? (i := 1133) (by decide +kernel)⟩
theorem lw_p72 : lw_okq (⟨"FarEndsModel", "nextWay", "()Z"⟩, 41) := ⟨⟨by decide +kernel, by decide +kernel⟩, List.mem_of_getElem? (i := 747) (by decide +kernel), List.mem_of_getElem? (i := 1136) (by decide +kernel), List.mem_of_getElem? (i := 1137) (by decide +kernel)⟩
theorem lw_p73 : lw_okq (⟨"FarEndsModel", "goodSet", "()I"⟩, 41) := ⟨⟨by decide +kernel, by decide +kernel⟩, List.mem_of_getElem? (i := 747) (by decide +kernel), List.mem_of_getElem? (i := 1178) (by decide +kernel), List.mem_of_getElem? (i := 1179) (by decide +kernel)⟩
theorem lw_p74 : lw_okq (⟨"FarEndsModel", "askPair", "()I"⟩, 41) := ⟨⟨by decide +kernel, by decide +kernel⟩, List.mem_of_getElem? (i := 747) (by decide +kernel), List.mem_of_getElem? (i := 1182) (by decide +kernel), List.mem_of_getElem? (i := 1183) (by decide +kernel)⟩
def lw_privs_5 : List (MethodName × Nat) := [(⟨"FarEndsModel", "takes", "([II)V"⟩, 41), (⟨"FarEndsModel", "setCould", "()V"⟩, 41), (⟨"FarEndsModel", "firstOrder", "()V"⟩, 41), (⟨"FarEndsModel", "couldBe", "()Z"⟩, 41), (⟨"FarEndsModel", "countsOrder", "()V"⟩, 41), (⟨"FarEndsModel", "nextOrder", "()Z"⟩, 41), (⟨"FarEndsModel", "leftBy", "(I[I[I)I"⟩, 41), (⟨"FarEndsModel", "allRings", "(I[I[I[I)I"⟩, 41), (⟨"FarEndsModel", "nextWay", "()Z"⟩, 41), (⟨"FarEndsModel", "goodSet", "()I"⟩, 41), (⟨"FarEndsModel", "askPair", "()I"⟩, 41)]
theorem lw_r5 : ∀ q ∈ lw_privs_5, lw_okq q := List.forall_mem_cons.mpr ⟨lw_p64, List.forall_mem_cons.mpr ⟨lw_p65, List.forall_mem_cons.mpr ⟨lw_p66, List.forall_mem_cons.mpr ⟨lw_p67, List.forall_mem_cons.mpr ⟨lw_p68, List.forall_mem_cons.mpr ⟨lw_p69, List.forall_mem_cons.mpr ⟨lw_p70, List.forall_mem_cons.mpr ⟨lw_p71, List.forall_mem_cons.mpr ⟨lw_p72, List.forall_mem_cons.mpr ⟨lw_p73, List.forall_mem_cons.mpr ⟨lw_p74, fun _ h => absurd h List.not_mem_nil⟩⟩⟩⟩⟩⟩⟩⟩⟩⟩⟩
def lw_privs : List (MethodName × Nat) := lw_privs_1 ++ (lw_privs_2 ++ (lw_privs_3 ++ (lw_privs_4 ++ (lw_privs_5))))
def lw_tbl : List Cond := k2_sels lw_privs ++ tables_1
theorem lw_privs_ok : ∀ q ∈ lw_privs, lw_okq q := by
  show ∀ q ∈ lw_privs_1 ++ (lw_privs_2 ++ (lw_privs_3 ++ (lw_privs_4 ++ (lw_privs_5)))), lw_okq q
  exact List.forall_mem_append.mpr ⟨lw_r1, List.forall_mem_append.mpr ⟨lw_r2, List.forall_mem_append.mpr ⟨lw_r3, List.forall_mem_append.mpr ⟨lw_r4, lw_r5⟩⟩⟩⟩
def RX0 : String := "FarEnds$Draws"
def TX0 : u_T := fun k => match k with
  | _ => ("FarEnds$Draws", "seed", "I", false)
def tyX0 : Nat → FieldType := fun k => match k with
  | _ => .int
abbrev wsX00 : List Cond := u_ws RX0 TX0 1
theorem nmX0 : ∀ a, a < 1 → ∀ b, b < 1 → a ≠ b → (TX0 a).2.1 ≠ (TX0 b).2.1 := by decide +kernel
theorem tyX0_ok : ∀ k, k < 1 → parseFieldDescriptor (TX0 k).2.2.1 = some (tyX0 k) := by decide +kernel
abbrev cX0_init : ByteArray := prog_2_method_1_code
def yX0_init : MethodName := ⟨RX0, "<init>", "()V"⟩
abbrev cX0_draw : ByteArray := prog_2_method_2_code
def yX0_draw : MethodName := ⟨RX0, "draw", "(I)I"⟩
def RX1 : String := "FarEnds$Guess"
def TX1 : u_T := fun k => match k with
  | 0 => ("FarEnds$Guess", "count", "I", false)
  | 1 => ("FarEnds$Guess", "sets", "[I", true)
  | 2 => ("FarEnds$Guess", "first", "[I", true)
  | _ => ("FarEnds$Guess", "ringing", "[I", true)
def tyX1 : Nat → FieldType := fun k => match k with
  | 0 => .int
  | 1 => .array .int
  | 2 => .array .int
  | _ => .array .int
abbrev wsX10 : List Cond := u_ws RX1 TX1 4
theorem nmX1 : ∀ a, a < 4 → ∀ b, b < 4 → a ≠ b → (TX1 a).2.1 ≠ (TX1 b).2.1 := by decide +kernel
theorem tyX1_ok : ∀ k, k < 4 → parseFieldDescriptor (TX1 k).2.2.1 = some (tyX1 k) := by decide +kernel
abbrev cX1_init : ByteArray := prog_3_method_1_code
def yX1_init : MethodName := ⟨RX1, "<init>", "()V"⟩
abbrev cX1_clear : ByteArray := prog_3_method_2_code
def yX1_clear : MethodName := ⟨RX1, "clear", "()V"⟩
abbrev cX1_add : ByteArray := prog_3_method_3_code
def yX1_add : MethodName := ⟨RX1, "add", "([II)V"⟩
abbrev cX1_hear : ByteArray := prog_3_method_4_code
def yX1_hear : MethodName := ⟨RX1, "hear", "(LFarEnds$Nets;II)V"⟩
abbrev cX1_bestPair : ByteArray := prog_3_method_5_code
def yX1_bestPair : MethodName := ⟨RX1, "bestPair", "(I)I"⟩
def RX2 : String := "FarEnds$Image"
def TX2 : u_T := fun k => match k with
  | 0 => ("FarEnds$Image", "state", "LFarEnds$State;", true)
  | 1 => ("FarEnds$Image", "seed", "I", false)
  | _ => ("FarEnds$Image", "kept", "Z", false)
def tyX2 : Nat → FieldType := fun k => match k with
  | 0 => .object "FarEnds$State"
  | 1 => .int
  | _ => .boolean
abbrev wsX20 : List Cond := u_ws RX2 TX2 3
theorem nmX2 : ∀ a, a < 3 → ∀ b, b < 3 → a ≠ b → (TX2 a).2.1 ≠ (TX2 b).2.1 := by decide +kernel
theorem tyX2_ok : ∀ k, k < 3 → parseFieldDescriptor (TX2 k).2.2.1 = some (tyX2 k) := by decide +kernel
abbrev cX2_init : ByteArray := prog_4_method_1_code
def yX2_init : MethodName := ⟨RX2, "<init>", "()V"⟩
def RX3 : String := "FarEnds$Nets"
def TX3 : u_T := fun k => match k with
  | 0 => ("FarEnds$Nets", "bare", "[I", true)
  | _ => ("FarEnds$Nets", "whole", "[I", true)
def tyX3 : Nat → FieldType := fun k => match k with
  | 0 => .array .int
  | _ => .array .int
abbrev wsX30 : List Cond := u_ws RX3 TX3 2
theorem nmX3 : ∀ a, a < 2 → ∀ b, b < 2 → a ≠ b → (TX3 a).2.1 ≠ (TX3 b).2.1 := by decide +kernel
theorem tyX3_ok : ∀ k, k < 2 → parseFieldDescriptor (TX3 k).2.2.1 = some (tyX3 k) := by decide +kernel
abbrev cX3_init : ByteArray := prog_5_method_1_code
def yX3_init : MethodName := ⟨RX3, "<init>", "()V"⟩
abbrev cX3_lay : ByteArray := prog_5_method_2_code
def yX3_lay : MethodName := ⟨RX3, "lay", "(IIII)V"⟩
abbrev cX3_join : ByteArray := prog_5_method_3_code
def yX3_join : MethodName := ⟨RX3, "join", "([III)V"⟩
abbrev cX3_of : ByteArray := prog_5_method_4_code
def yX3_of : MethodName := ⟨RX3, "of", "(I)I"⟩
abbrev cX3_bare : ByteArray := prog_5_method_5_code
def yX3_bare : MethodName := ⟨RX3, "bare", "(I)I"⟩
abbrev cX3_isEarthedBare : ByteArray := prog_5_method_6_code
def yX3_isEarthedBare : MethodName := ⟨RX3, "isEarthedBare", "(I)Z"⟩
abbrev cX3_areJoined : ByteArray := prog_5_method_7_code
def yX3_areJoined : MethodName := ⟨RX3, "areJoined", "(II)Z"⟩
abbrev cX3_pattern : ByteArray := prog_5_method_8_code
def yX3_pattern : MethodName := ⟨RX3, "pattern", "(II)I"⟩
abbrev cX3_areTied : ByteArray := prog_5_method_9_code
def yX3_areTied : MethodName := ⟨RX3, "areTied", "(III)Z"⟩
abbrev cX3_merge : ByteArray := prog_5_method_10_code
def yX3_merge : MethodName := ⟨RX3, "merge", "([III)V"⟩
def RX4 : String := "FarEnds$Orders"
def TX4 : u_T := fun k => match k with
  | _ => ("FarEnds$Orders", "wireOf", "[I", true)
def tyX4 : Nat → FieldType := fun k => match k with
  | _ => .array .int
abbrev wsX40 : List Cond := u_ws RX4 TX4 1
theorem nmX4 : ∀ a, a < 1 → ∀ b, b < 1 → a ≠ b → (TX4 a).2.1 ≠ (TX4 b).2.1 := by decide +kernel
theorem tyX4_ok : ∀ k, k < 1 → parseFieldDescriptor (TX4 k).2.2.1 = some (tyX4 k) := by decide +kernel
abbrev cX4_init : ByteArray := prog_6_method_1_code
def yX4_init : MethodName := ⟨RX4, "<init>", "()V"⟩
abbrev cX4_start : ByteArray := prog_6_method_2_code
def yX4_start : MethodName := ⟨RX4, "start", "()V"⟩
abbrev cX4_advance : ByteArray := prog_6_method_3_code
def yX4_advance : MethodName := ⟨RX4, "advance", "(I)V"⟩
abbrev cX4_swap : ByteArray := prog_6_method_4_code
def yX4_swap : MethodName := ⟨RX4, "swap", "(II)V"⟩
def RX5 : String := "FarEnds$Past"
def TX5 : u_T := fun k => match k with
  | 0 => ("FarEnds$Past", "states", "[LFarEnds$State;", true)
  | 1 => ("FarEnds$Past", "count", "I", false)
  | _ => ("FarEnds$Past", "next", "I", false)
def tyX5 : Nat → FieldType := fun k => match k with
  | 0 => .array (.object "FarEnds$State")
  | 1 => .int
  | _ => .int
abbrev wsX50 : List Cond := u_ws RX5 TX5 3
theorem nmX5 : ∀ a, a < 3 → ∀ b, b < 3 → a ≠ b → (TX5 a).2.1 ≠ (TX5 b).2.1 := by decide +kernel
theorem tyX5_ok : ∀ k, k < 3 → parseFieldDescriptor (TX5 k).2.2.1 = some (tyX5 k) := by decide +kernel
abbrev cX5_init : ByteArray := prog_7_method_1_code
def yX5_init : MethodName := ⟨RX5, "<init>", "()V"⟩
abbrev cX5_clear : ByteArray := prog_7_method_2_code
def yX5_clear : MethodName := ⟨RX5, "clear", "()V"⟩
abbrev cX5_remember : ByteArray := prog_7_method_3_code
def yX5_remember : MethodName := ⟨RX5, "remember", "(LFarEnds$State;)V"⟩
abbrev cX5_restore : ByteArray := prog_7_method_4_code
def yX5_restore : MethodName := ⟨RX5, "restore", "(LFarEnds$State;)V"⟩
def RX6 : String := "FarEnds$Reading"
def TX6 : u_T := fun k => match k with
  | 0 => ("FarEnds$Reading", "text", "[I", true)
  | 1 => ("FarEnds$Reading", "length", "I", false)
  | 2 => ("FarEnds$Reading", "faultNumber", "I", false)
  | 3 => ("FarEnds$Reading", "faultAt", "I", false)
  | 4 => ("FarEnds$Reading", "wires", "I", false)
  | 5 => ("FarEnds$Reading", "order", "[I", true)
  | 6 => ("FarEnds$Reading", "kinds", "I", false)
  | 7 => ("FarEnds$Reading", "touching", "I", false)
  | 8 => ("FarEnds$Reading", "at", "I", false)
  | 9 => ("FarEnds$Reading", "number", "I", false)
  | _ => ("FarEnds$Reading", "numberAt", "I", false)
def tyX6 : Nat → FieldType := fun k => match k with
  | 0 => .array .int
  | 1 => .int
  | 2 => .int
  | 3 => .int
  | 4 => .int
  | 5 => .array .int
  | 6 => .int
  | 7 => .int
  | 8 => .int
  | 9 => .int
  | _ => .int
abbrev wsX60 : List Cond := u_ws RX6 TX6 11
theorem nmX6 : ∀ a, a < 11 → ∀ b, b < 11 → a ≠ b → (TX6 a).2.1 ≠ (TX6 b).2.1 := by decide +kernel
theorem tyX6_ok : ∀ k, k < 11 → parseFieldDescriptor (TX6 k).2.2.1 = some (tyX6 k) := by decide +kernel
abbrev cX6_init : ByteArray := prog_8_method_1_code
def yX6_init : MethodName := ⟨RX6, "<init>", "()V"⟩
abbrev cX6_add : ByteArray := prog_8_method_2_code
def yX6_add : MethodName := ⟨RX6, "add", "(I)Z"⟩
abbrev cX6_read : ByteArray := prog_8_method_3_code
def yX6_read : MethodName := ⟨RX6, "read", "()V"⟩
abbrev cX6_readOrder : ByteArray := prog_8_method_4_code
def yX6_readOrder : MethodName := ⟨RX6, "readOrder", "()V"⟩
abbrev cX6_readClause : ByteArray := prog_8_method_5_code
def yX6_readClause : MethodName := ⟨RX6, "readClause", "()V"⟩
abbrev cX6_readKind : ByteArray := prog_8_method_6_code
def yX6_readKind : MethodName := ⟨RX6, "readKind", "()V"⟩
abbrev cX6_readTouch : ByteArray := prog_8_method_7_code
def yX6_readTouch : MethodName := ⟨RX6, "readTouch", "()V"⟩
abbrev cX6_upNext : ByteArray := prog_8_method_8_code
def yX6_upNext : MethodName := ⟨RX6, "upNext", "()I"⟩
abbrev cX6_letterAt : ByteArray := prog_8_method_9_code
def yX6_letterAt : MethodName := ⟨RX6, "letterAt", "(I)I"⟩
abbrev cX6_takeWord : ByteArray := prog_8_method_10_code
def yX6_takeWord : MethodName := ⟨RX6, "takeWord", "(I)Z"⟩
abbrev cX6_takeNumberWithin : ByteArray := prog_8_method_11_code
def yX6_takeNumberWithin : MethodName := ⟨RX6, "takeNumberWithin", "(II)Z"⟩
abbrev cX6_isNew : ByteArray := prog_8_method_12_code
def yX6_isNew : MethodName := ⟨RX6, "isNew", "(Z)Z"⟩
abbrev cX6_isFigure : ByteArray := prog_8_method_13_code
def yX6_isFigure : MethodName := ⟨RX6, "isFigure", "(I)Z"⟩
abbrev cX6_blame : ByteArray := prog_8_method_14_code
def yX6_blame : MethodName := ⟨RX6, "blame", "(II)V"⟩
def RX7 : String := "FarEnds$Seen"
def TX7 : u_T := fun k => match k with
  | 0 => ("FarEnds$Seen", "nearTies", "I", false)
  | 1 => ("FarEnds$Seen", "farTies", "I", false)
  | 2 => ("FarEnds$Seen", "hour", "I", false)
  | 3 => ("FarEnds$Seen", "a", "I", false)
  | 4 => ("FarEnds$Seen", "b", "I", false)
  | 5 => ("FarEnds$Seen", "rang", "Z", false)
  | 6 => ("FarEnds$Seen", "passing", "I", false)
  | _ => ("FarEnds$Seen", "nets", "LFarEnds$Nets;", true)
def tyX7 : Nat → FieldType := fun k => match k with
  | 0 => .int
  | 1 => .int
  | 2 => .int
  | 3 => .int
  | 4 => .int
  | 5 => .boolean
  | 6 => .int
  | _ => .object "FarEnds$Nets"
abbrev wsX70 : List Cond := u_ws RX7 TX7 8
theorem nmX7 : ∀ a, a < 8 → ∀ b, b < 8 → a ≠ b → (TX7 a).2.1 ≠ (TX7 b).2.1 := by decide +kernel
theorem tyX7_ok : ∀ k, k < 8 → parseFieldDescriptor (TX7 k).2.2.1 = some (tyX7 k) := by decide +kernel
abbrev cX7_init : ByteArray := prog_9_method_1_code
def yX7_init : MethodName := ⟨RX7, "<init>", "()V"⟩
abbrev cX7_take : ByteArray := prog_9_method_2_code
def yX7_take : MethodName := ⟨RX7, "take", "(LFarEnds$State;IIZ)V"⟩
abbrev cX7_lay : ByteArray := prog_9_method_3_code
def yX7_lay : MethodName := ⟨RX7, "lay", "(II)V"⟩
abbrev cX7_fits : ByteArray := prog_9_method_4_code
def yX7_fits : MethodName := ⟨RX7, "fits", "([II)Z"⟩
def RX8 : String := "FarEnds$State"
def TX8 : u_T := fun k => match k with
  | 0 => ("FarEnds$State", "kinds", "I", false)
  | 1 => ("FarEnds$State", "touching", "I", false)
  | 2 => ("FarEnds$State", "nearTies", "I", false)
  | 3 => ("FarEnds$State", "farTies", "I", false)
  | 4 => ("FarEnds$State", "place", "I", false)
  | 5 => ("FarEnds$State", "hours", "I", false)
  | 6 => ("FarEnds$State", "crosses", "I", false)
  | _ => ("FarEnds$State", "tests", "I", false)
def tyX8 : Nat → FieldType := fun k => match k with
  | 0 => .int
  | 1 => .int
  | 2 => .int
  | 3 => .int
  | 4 => .int
  | 5 => .int
  | 6 => .int
  | _ => .int
abbrev wsX80 : List Cond := u_ws RX8 TX8 8
theorem nmX8 : ∀ a, a < 8 → ∀ b, b < 8 → a ≠ b → (TX8 a).2.1 ≠ (TX8 b).2.1 := by decide +kernel
theorem tyX8_ok : ∀ k, k < 8 → parseFieldDescriptor (TX8 k).2.2.1 = some (tyX8 k) := by decide +kernel
abbrev cX8_init : ByteArray := prog_10_method_1_code
def yX8_init : MethodName := ⟨RX8, "<init>", "()V"⟩
abbrev cX8_begin : ByteArray := prog_10_method_2_code
def yX8_begin : MethodName := ⟨RX8, "begin", "(II)V"⟩
abbrev cX8_become : ByteArray := prog_10_method_3_code
def yX8_become : MethodName := ⟨RX8, "become", "(LFarEnds$State;)V"⟩
abbrev cX8_tiesHere : ByteArray := prog_10_method_4_code
def yX8_tiesHere : MethodName := ⟨RX8, "tiesHere", "()I"⟩
abbrev cX8_tieHere : ByteArray := prog_10_method_5_code
def yX8_tieHere : MethodName := ⟨RX8, "tieHere", "(II)V"⟩
abbrev cX8_walk : ByteArray := prog_10_method_6_code
def yX8_walk : MethodName := ⟨RX8, "walk", "()V"⟩
abbrev cX8_countTest : ByteArray := prog_10_method_7_code
def yX8_countTest : MethodName := ⟨RX8, "countTest", "()V"⟩
def RX9 : String := "FarEnds$Ways"
def TX9 : u_T := fun k => match k with
  | _ => ("FarEnds$Ways", "groups", "[I", true)
def tyX9 : Nat → FieldType := fun k => match k with
  | _ => .array .int
abbrev wsX90 : List Cond := u_ws RX9 TX9 1
theorem nmX9 : ∀ a, a < 1 → ∀ b, b < 1 → a ≠ b → (TX9 a).2.1 ≠ (TX9 b).2.1 := by decide +kernel
theorem tyX9_ok : ∀ k, k < 1 → parseFieldDescriptor (TX9 k).2.2.1 = some (tyX9 k) := by decide +kernel
abbrev cX9_init : ByteArray := prog_11_method_1_code
def yX9_init : MethodName := ⟨RX9, "<init>", "()V"⟩
abbrev cX9_start : ByteArray := prog_11_method_2_code
def yX9_start : MethodName := ⟨RX9, "start", "()V"⟩
abbrev cX9_advance : ByteArray := prog_11_method_3_code
def yX9_advance : MethodName := ⟨RX9, "advance", "(I)Z"⟩
abbrev cX9_row : ByteArray := prog_11_method_4_code
def yX9_row : MethodName := ⟨RX9, "row", "(I)I"⟩
abbrev cX9_mostAhead : ByteArray := prog_11_method_5_code
def yX9_mostAhead : MethodName := ⟨RX9, "mostAhead", "(I)I"⟩
def RX10 : String := "FarEnds"
def TX10 : u_T := fun k => match k with
  | 0 => ("FarEnds", "reading", "LFarEnds$Reading;", true)
  | 1 => ("FarEnds", "wires", "I", false)
  | 2 => ("FarEnds", "order", "[I", true)
  | 3 => ("FarEnds", "now", "LFarEnds$State;", true)
  | 4 => ("FarEnds", "past", "LFarEnds$Past;", true)
  | 5 => ("FarEnds", "draws", "LFarEnds$Draws;", true)
  | 6 => ("FarEnds", "images", "[LFarEnds$Image;", true)
  | 7 => ("FarEnds", "seen", "[LFarEnds$Seen;", true)
  | 8 => ("FarEnds", "seenCount", "I", false)
  | 9 => ("FarEnds", "bookEnds", "[I", true)
  | 10 => ("FarEnds", "bookWires", "[I", true)
  | 11 => ("FarEnds", "bookCount", "I", false)
  | 12 => ("FarEnds", "nets", "LFarEnds$Nets;", true)
  | 13 => ("FarEnds", "orders", "LFarEnds$Orders;", true)
  | 14 => ("FarEnds", "guess", "LFarEnds$Guess;", true)
  | _ => ("FarEnds", "ways", "LFarEnds$Ways;", true)
def tyX10 : Nat → FieldType := fun k => match k with
  | 0 => .object "FarEnds$Reading"
  | 1 => .int
  | 2 => .array .int
  | 3 => .object "FarEnds$State"
  | 4 => .object "FarEnds$Past"
  | 5 => .object "FarEnds$Draws"
  | 6 => .array (.object "FarEnds$Image")
  | 7 => .array (.object "FarEnds$Seen")
  | 8 => .int
  | 9 => .array .int
  | 10 => .array .int
  | 11 => .int
  | 12 => .object "FarEnds$Nets"
  | 13 => .object "FarEnds$Orders"
  | 14 => .object "FarEnds$Guess"
  | _ => .object "FarEnds$Ways"
abbrev wsX100 : List Cond := u_ws RX10 TX10 16
theorem nmX10 : ∀ a, a < 16 → ∀ b, b < 16 → a ≠ b → (TX10 a).2.1 ≠ (TX10 b).2.1 := by decide +kernel
theorem tyX10_ok : ∀ k, k < 16 → parseFieldDescriptor (TX10 k).2.2.1 = some (tyX10 k) := by decide +kernel
abbrev cX10_init : ByteArray := prog_1_method_1_code
def yX10_init : MethodName := ⟨RX10, "<init>", "()V"⟩
abbrev cX10_feed : ByteArray := prog_1_method_2_code
def yX10_feed : MethodName := ⟨RX10, "feed", "(I)I"⟩
abbrev cX10_cable : ByteArray := prog_1_method_3_code
def yX10_cable : MethodName := ⟨RX10, "cable", "()I"⟩
abbrev cX10_fault : ByteArray := prog_1_method_4_code
def yX10_fault : MethodName := ⟨RX10, "fault", "()I"⟩
abbrev cX10_told : ByteArray := prog_1_method_5_code
def yX10_told : MethodName := ⟨RX10, "told", "(I)I"⟩
abbrev cX10_wire : ByteArray := prog_1_method_6_code
def yX10_wire : MethodName := ⟨RX10, "wire", "(II)I"⟩
abbrev cX10_end : ByteArray := prog_1_method_7_code
def yX10_end : MethodName := ⟨RX10, "end", "(II)I"⟩
abbrev cX10_net : ByteArray := prog_1_method_8_code
def yX10_net : MethodName := ⟨RX10, "net", "(II)I"⟩
abbrev cX10_rings : ByteArray := prog_1_method_9_code
def yX10_rings : MethodName := ⟨RX10, "rings", "(II)I"⟩
abbrev cX10_touches : ByteArray := prog_1_method_10_code
def yX10_touches : MethodName := ⟨RX10, "touches", "(II)I"⟩
abbrev cX10_tie : ByteArray := prog_1_method_11_code
def yX10_tie : MethodName := ⟨RX10, "tie", "(II)I"⟩
abbrev cX10_cross : ByteArray := prog_1_method_12_code
def yX10_cross : MethodName := ⟨RX10, "cross", "()I"⟩
abbrev cX10_test : ByteArray := prog_1_method_13_code
def yX10_test : MethodName := ⟨RX10, "test", "(II)I"⟩
abbrev cX10_rest : ByteArray := prog_1_method_14_code
def yX10_rest : MethodName := ⟨RX10, "rest", "(I)I"⟩
abbrev cX10_mend : ByteArray := prog_1_method_15_code
def yX10_mend : MethodName := ⟨RX10, "mend", "(II)I"⟩
abbrev cX10_touch : ByteArray := prog_1_method_16_code
def yX10_touch : MethodName := ⟨RX10, "touch", "(IIZ)I"⟩
abbrev cX10_drift : ByteArray := prog_1_method_17_code
def yX10_drift : MethodName := ⟨RX10, "drift", "(I)I"⟩
abbrev cX10_undo : ByteArray := prog_1_method_18_code
def yX10_undo : MethodName := ⟨RX10, "undo", "()I"⟩
abbrev cX10_cut : ByteArray := prog_1_method_19_code
def yX10_cut : MethodName := ⟨RX10, "cut", "(II)I"⟩
abbrev cX10_ties : ByteArray := prog_1_method_20_code
def yX10_ties : MethodName := ⟨RX10, "ties", "(I)I"⟩
abbrev cX10_dry : ByteArray := prog_1_method_21_code
def yX10_dry : MethodName := ⟨RX10, "dry", "(II)I"⟩
abbrev cX10_see : ByteArray := prog_1_method_22_code
def yX10_see : MethodName := ⟨RX10, "see", "(IIZ)I"⟩
abbrev cX10_write : ByteArray := prog_1_method_23_code
def yX10_write : MethodName := ⟨RX10, "write", "(II)I"⟩
abbrev cX10_tear : ByteArray := prog_1_method_24_code
def yX10_tear : MethodName := ⟨RX10, "tear", "()I"⟩
abbrev cX10_judge : ByteArray := prog_1_method_25_code
def yX10_judge : MethodName := ⟨RX10, "judge", "()I"⟩
abbrev cX10_seed : ByteArray := prog_1_method_26_code
def yX10_seed : MethodName := ⟨RX10, "seed", "(I)I"⟩
abbrev cX10_keep : ByteArray := prog_1_method_27_code
def yX10_keep : MethodName := ⟨RX10, "keep", "(I)I"⟩
abbrev cX10_goBack : ByteArray := prog_1_method_28_code
def yX10_goBack : MethodName := ⟨RX10, "goBack", "(I)I"⟩
abbrev cX10_isNumber : ByteArray := prog_1_method_29_code
def yX10_isNumber : MethodName := ⟨RX10, "isNumber", "(I)Z"⟩
abbrev cX10_areTwo : ByteArray := prog_1_method_30_code
def yX10_areTwo : MethodName := ⟨RX10, "areTwo", "(II)Z"⟩
abbrev cX10_canHold : ByteArray := prog_1_method_31_code
def yX10_canHold : MethodName := ⟨RX10, "canHold", "(II)Z"⟩
abbrev cX10_nodeOf : ByteArray := prog_1_method_32_code
def yX10_nodeOf : MethodName := ⟨RX10, "nodeOf", "(II)I"⟩
abbrev cX10_farEndOf : ByteArray := prog_1_method_33_code
def yX10_farEndOf : MethodName := ⟨RX10, "farEndOf", "(I)I"⟩
abbrev cX10_part : ByteArray := prog_1_method_34_code
def yX10_part : MethodName := ⟨RX10, "part", "(II)I"⟩
abbrev cX10_withPart : ByteArray := prog_1_method_35_code
def yX10_withPart : MethodName := ⟨RX10, "withPart", "(III)I"⟩
abbrev cX10_pairBit : ByteArray := prog_1_method_36_code
def yX10_pairBit : MethodName := ⟨RX10, "pairBit", "(II)I"⟩
abbrev cX10_factorial : ByteArray := prog_1_method_37_code
def yX10_factorial : MethodName := ⟨RX10, "factorial", "(I)I"⟩
abbrev cX10_passing : ByteArray := prog_1_method_38_code
def yX10_passing : MethodName := ⟨RX10, "passing", "(II)I"⟩
abbrev cX10_joinAll : ByteArray := prog_1_method_39_code
def yX10_joinAll : MethodName := ⟨RX10, "joinAll", "(I)V"⟩
abbrev cX10_ringsBy : ByteArray := prog_1_method_40_code
def yX10_ringsBy : MethodName := ⟨RX10, "ringsBy", "(III)Z"⟩
abbrev cX10_kindsWithBroken : ByteArray := prog_1_method_41_code
def yX10_kindsWithBroken : MethodName := ⟨RX10, "kindsWithBroken", "(I)I"⟩
abbrev cX10_goodWires : ByteArray := prog_1_method_42_code
def yX10_goodWires : MethodName := ⟨RX10, "goodWires", "()I"⟩
abbrev cX10_whyNoTime : ByteArray := prog_1_method_43_code
def yX10_whyNoTime : MethodName := ⟨RX10, "whyNoTime", "()I"⟩
abbrev cX10_driftOneHour : ByteArray := prog_1_method_44_code
def yX10_driftOneHour : MethodName := ⟨RX10, "driftOneHour", "()V"⟩
abbrev cX10_countOrders : ByteArray := prog_1_method_45_code
def yX10_countOrders : MethodName := ⟨RX10, "countOrders", "()I"⟩
abbrev cX10_layAllSeen : ByteArray := prog_1_method_46_code
def yX10_layAllSeen : MethodName := ⟨RX10, "layAllSeen", "()V"⟩
abbrev cX10_fitsAllSeen : ByteArray := prog_1_method_47_code
def yX10_fitsAllSeen : MethodName := ⟨RX10, "fitsAllSeen", "()Z"⟩
abbrev cX10_guessOrders : ByteArray := prog_1_method_48_code
def yX10_guessOrders : MethodName := ⟨RX10, "guessOrders", "()V"⟩
abbrev cX10_countCouldBe : ByteArray := prog_1_method_49_code
def yX10_countCouldBe : MethodName := ⟨RX10, "countCouldBe", "()I"⟩
abbrev cX10_couldBeOf : ByteArray := prog_1_method_50_code
def yX10_couldBeOf : MethodName := ⟨RX10, "couldBeOf", "(I)I"⟩
abbrev cX10_firstCouldBeOf : ByteArray := prog_1_method_51_code
def yX10_firstCouldBeOf : MethodName := ⟨RX10, "firstCouldBeOf", "(I)I"⟩
abbrev cX10_bestQuestion : ByteArray := prog_1_method_52_code
def yX10_bestQuestion : MethodName := ⟨RX10, "bestQuestion", "()I"⟩
abbrev cX10_countLeft : ByteArray := prog_1_method_53_code
def yX10_countLeft : MethodName := ⟨RX10, "countLeft", "()I"⟩
abbrev cX10_bestWay : ByteArray := prog_1_method_54_code
def yX10_bestWay : MethodName := ⟨RX10, "bestWay", "()I"⟩
abbrev cX10_leftByWay : ByteArray := prog_1_method_55_code
def yX10_leftByWay : MethodName := ⟨RX10, "leftByWay", "(I)I"⟩
def RX11 : String := "FarEndsModel"
def TX11 : u_T := fun k => match k with
  | 0 => ("FarEndsModel", "wires", "I", false)
  | 1 => ("FarEndsModel", "truly", "[I", true)
  | 2 => ("FarEndsModel", "place", "I", false)
  | 3 => ("FarEndsModel", "hour", "I", false)
  | 4 => ("FarEndsModel", "crossed", "I", false)
  | 5 => ("FarEndsModel", "tests", "I", false)
  | 6 => ("FarEndsModel", "touching", "I", false)
  | 7 => ("FarEndsModel", "kindOf", "[I", true)
  | 8 => ("FarEndsModel", "near", "[I", true)
  | 9 => ("FarEndsModel", "far", "[I", true)
  | 10 => ("FarEndsModel", "seed", "J", false)
  | 11 => ("FarEndsModel", "seenMany", "I", false)
  | 12 => ("FarEndsModel", "seen", "[I", true)
  | 13 => ("FarEndsModel", "bookMany", "I", false)
  | 14 => ("FarEndsModel", "bookEnd", "[I", true)
  | 15 => ("FarEndsModel", "bookWire", "[I", true)
  | 16 => ("FarEndsModel", "text", "[I", true)
  | 17 => ("FarEndsModel", "size", "I", false)
  | 18 => ("FarEndsModel", "readAt", "I", false)
  | 19 => ("FarEndsModel", "readFault", "I", false)
  | 20 => ("FarEndsModel", "faultAt", "I", false)
  | 21 => ("FarEndsModel", "readWires", "I", false)
  | 22 => ("FarEndsModel", "readTouch", "I", false)
  | 23 => ("FarEndsModel", "readTruly", "[I", true)
  | 24 => ("FarEndsModel", "readKind", "[I", true)
  | 25 => ("FarEndsModel", "readNumber", "I", false)
  | 26 => ("FarEndsModel", "numberAt", "I", false)
  | 27 => ("FarEndsModel", "ahead", "[I", true)
  | 28 => ("FarEndsModel", "undoMany", "I", false)
  | 29 => ("FarEndsModel", "images", "[I", true)
  | 30 => ("FarEndsModel", "seeds", "[J", true)
  | 31 => ("FarEndsModel", "isKept", "[I", true)
  | 32 => ("FarEndsModel", "order", "[I", true)
  | 33 => ("FarEndsModel", "seenFar", "[I", true)
  | 34 => ("FarEndsModel", "couldMany", "I", false)
  | 35 => ("FarEndsModel", "couldSets", "[I", true)
  | 36 => ("FarEndsModel", "firstOnes", "[I", true)
  | 37 => ("FarEndsModel", "ringMany", "[I", true)
  | 38 => ("FarEndsModel", "ways", "[I", true)
  | 39 => ("FarEndsModel", "untied", "[I", true)
  | _ => ("FarEndsModel", "bestWays", "[I", true)
def tyX11 : Nat → FieldType := fun k => match k with
  | 0 => .int
  | 1 => .array .int
  | 2 => .int
  | 3 => .int
  | 4 => .int
  | 5 => .int
  | 6 => .int
  | 7 => .array .int
  | 8 => .array .int
  | 9 => .array .int
  | 10 => .long
  | 11 => .int
  | 12 => .array .int
  | 13 => .int
  | 14 => .array .int
  | 15 => .array .int
  | 16 => .array .int
  | 17 => .int
  | 18 => .int
  | 19 => .int
  | 20 => .int
  | 21 => .int
  | 22 => .int
  | 23 => .array .int
  | 24 => .array .int
  | 25 => .int
  | 26 => .int
  | 27 => .array .int
  | 28 => .int
  | 29 => .array .int
  | 30 => .array .long
  | 31 => .array .int
  | 32 => .array .int
  | 33 => .array .int
  | 34 => .int
  | 35 => .array .int
  | 36 => .array .int
  | 37 => .array .int
  | 38 => .array .int
  | 39 => .array .int
  | _ => .array .int
abbrev wsX110 : List Cond := u_ws RX11 TX11 41
theorem nmX11 : ∀ a, a < 41 → ∀ b, b < 41 → a ≠ b → (TX11 a).2.1 ≠ (TX11 b).2.1 := by decide +kernel
theorem tyX11_ok : ∀ k, k < 41 → parseFieldDescriptor (TX11 k).2.2.1 = some (tyX11 k) := by decide +kernel
abbrev cX11_init : ByteArray := prog_13_method_1_code
def yX11_init : MethodName := ⟨RX11, "<init>", "()V"⟩
abbrev cX11_in : ByteArray := prog_13_method_2_code
def yX11_in : MethodName := ⟨RX11, "in", "(III)Z"⟩
abbrev cX11_has : ByteArray := prog_13_method_3_code
def yX11_has : MethodName := ⟨RX11, "has", "(II)Z"⟩
abbrev cX11_bits : ByteArray := prog_13_method_4_code
def yX11_bits : MethodName := ⟨RX11, "bits", "(I)I"⟩
abbrev cX11_isWire : ByteArray := prog_13_method_5_code
def yX11_isWire : MethodName := ⟨RX11, "isWire", "(I)Z"⟩
abbrev cX11_areEnds : ByteArray := prog_13_method_6_code
def yX11_areEnds : MethodName := ⟨RX11, "areEnds", "(II)Z"⟩
abbrev cX11_pair : ByteArray := prog_13_method_7_code
def yX11_pair : MethodName := ⟨RX11, "pair", "(II)I"⟩
abbrev cX11_doTouch : ByteArray := prog_13_method_8_code
def yX11_doTouch : MethodName := ⟨RX11, "doTouch", "(II)Z"⟩
abbrev cX11_touchMany : ByteArray := prog_13_method_9_code
def yX11_touchMany : MethodName := ⟨RX11, "touchMany", "()I"⟩
abbrev cX11_feed : ByteArray := prog_13_method_10_code
def yX11_feed : MethodName := ⟨RX11, "feed", "(I)I"⟩
abbrev cX11_skip : ByteArray := prog_13_method_11_code
def yX11_skip : MethodName := ⟨RX11, "skip", "()V"⟩
abbrev cX11_here : ByteArray := prog_13_method_12_code
def yX11_here : MethodName := ⟨RX11, "here", "()I"⟩
abbrev cX11_fails : ByteArray := prog_13_method_13_code
def yX11_fails : MethodName := ⟨RX11, "fails", "(II)Z"⟩
abbrev cX11_number : ByteArray := prog_13_method_14_code
def yX11_number : MethodName := ⟨RX11, "number", "(II)Z"⟩
abbrev cX11_ends : ByteArray := prog_13_method_15_code
def yX11_ends : MethodName := ⟨RX11, "ends", "()Z"⟩
abbrev cX11_isRead : ByteArray := prog_13_method_16_code
def yX11_isRead : MethodName := ⟨RX11, "isRead", "(I)Z"⟩
abbrev cX11_isWhole : ByteArray := prog_13_method_17_code
def yX11_isWhole : MethodName := ⟨RX11, "isWhole", "()Z"⟩
abbrev cX11_readsOne : ByteArray := prog_13_method_18_code
def yX11_readsOne : MethodName := ⟨RX11, "readsOne", "()Z"⟩
abbrev cX11_readsCable : ByteArray := prog_13_method_19_code
def yX11_readsCable : MethodName := ⟨RX11, "readsCable", "()Z"⟩
abbrev cX11_readsKind : ByteArray := prog_13_method_20_code
def yX11_readsKind : MethodName := ⟨RX11, "readsKind", "()Z"⟩
abbrev cX11_readsTouch : ByteArray := prog_13_method_21_code
def yX11_readsTouch : MethodName := ⟨RX11, "readsTouch", "()Z"⟩
abbrev cX11_readsClause : ByteArray := prog_13_method_22_code
def yX11_readsClause : MethodName := ⟨RX11, "readsClause", "()Z"⟩
abbrev cX11_readsAll : ByteArray := prog_13_method_23_code
def yX11_readsAll : MethodName := ⟨RX11, "readsAll", "()Z"⟩
abbrev cX11_cable : ByteArray := prog_13_method_24_code
def yX11_cable : MethodName := ⟨RX11, "cable", "()I"⟩
abbrev cX11_fault : ByteArray := prog_13_method_25_code
def yX11_fault : MethodName := ⟨RX11, "fault", "()I"⟩
abbrev cX11_passesBy : ByteArray := prog_13_method_26_code
def yX11_passesBy : MethodName := ⟨RX11, "passesBy", "(II)Z"⟩
abbrev cX11_farEndOf : ByteArray := prog_13_method_27_code
def yX11_farEndOf : MethodName := ⟨RX11, "farEndOf", "([II)I"⟩
abbrev cX11_together : ByteArray := prog_13_method_28_code
def yX11_together : MethodName := ⟨RX11, "together", "(II)I"⟩
abbrev cX11_joinedOnce : ByteArray := prog_13_method_29_code
def yX11_joinedOnce : MethodName := ⟨RX11, "joinedOnce", "(I[II[I[III)I"⟩
abbrev cX11_joined : ByteArray := prog_13_method_30_code
def yX11_joined : MethodName := ⟨RX11, "joined", "(I[II[I[III)I"⟩
abbrev cX11_netNow : ByteArray := prog_13_method_31_code
def yX11_netNow : MethodName := ⟨RX11, "netNow", "(III)I"⟩
abbrev cX11_bitOf : ByteArray := prog_13_method_32_code
def yX11_bitOf : MethodName := ⟨RX11, "bitOf", "(II)I"⟩
abbrev cX11_ringsNow : ByteArray := prog_13_method_33_code
def yX11_ringsNow : MethodName := ⟨RX11, "ringsNow", "(III)Z"⟩
abbrev cX11_goodSet : ByteArray := prog_13_method_34_code
def yX11_goodSet : MethodName := ⟨RX11, "goodSet", "()I"⟩
abbrev cX11_wire : ByteArray := prog_13_method_35_code
def yX11_wire : MethodName := ⟨RX11, "wire", "(II)I"⟩
abbrev cX11_net : ByteArray := prog_13_method_36_code
def yX11_net : MethodName := ⟨RX11, "net", "(II)I"⟩
abbrev cX11_rings : ByteArray := prog_13_method_37_code
def yX11_rings : MethodName := ⟨RX11, "rings", "(II)I"⟩
abbrev cX11_touches : ByteArray := prog_13_method_38_code
def yX11_touches : MethodName := ⟨RX11, "touches", "(II)I"⟩
abbrev cX11_lays : ByteArray := prog_13_method_39_code
def yX11_lays : MethodName := ⟨RX11, "lays", "([II)V"⟩
abbrev cX11_takes : ByteArray := prog_13_method_40_code
def yX11_takes : MethodName := ⟨RX11, "takes", "([II)V"⟩
abbrev cX11_notes : ByteArray := prog_13_method_41_code
def yX11_notes : MethodName := ⟨RX11, "notes", "()V"⟩
abbrev cX11_groupOf : ByteArray := prog_13_method_42_code
def yX11_groupOf : MethodName := ⟨RX11, "groupOf", "(I)I"⟩
abbrev cX11_comesInto : ByteArray := prog_13_method_43_code
def yX11_comesInto : MethodName := ⟨RX11, "comesInto", "(II)V"⟩
abbrev cX11_goesOver : ByteArray := prog_13_method_44_code
def yX11_goesOver : MethodName := ⟨RX11, "goesOver", "()V"⟩
abbrev cX11_tested : ByteArray := prog_13_method_45_code
def yX11_tested : MethodName := ⟨RX11, "tested", "()V"⟩
abbrev cX11_tie : ByteArray := prog_13_method_46_code
def yX11_tie : MethodName := ⟨RX11, "tie", "(II)I"⟩
abbrev cX11_cross : ByteArray := prog_13_method_47_code
def yX11_cross : MethodName := ⟨RX11, "cross", "()I"⟩
abbrev cX11_test : ByteArray := prog_13_method_48_code
def yX11_test : MethodName := ⟨RX11, "test", "(II)I"⟩
abbrev cX11_mayGoOn : ByteArray := prog_13_method_49_code
def yX11_mayGoOn : MethodName := ⟨RX11, "mayGoOn", "(I)I"⟩
abbrev cX11_rest : ByteArray := prog_13_method_50_code
def yX11_rest : MethodName := ⟨RX11, "rest", "(I)I"⟩
abbrev cX11_mend : ByteArray := prog_13_method_51_code
def yX11_mend : MethodName := ⟨RX11, "mend", "(II)I"⟩
abbrev cX11_touch : ByteArray := prog_13_method_52_code
def yX11_touch : MethodName := ⟨RX11, "touch", "(IIZ)I"⟩
abbrev cX11_draw : ByteArray := prog_13_method_53_code
def yX11_draw : MethodName := ⟨RX11, "draw", "(I)I"⟩
abbrev cX11_driftsHour : ByteArray := prog_13_method_54_code
def yX11_driftsHour : MethodName := ⟨RX11, "driftsHour", "()V"⟩
abbrev cX11_drift : ByteArray := prog_13_method_55_code
def yX11_drift : MethodName := ⟨RX11, "drift", "(I)I"⟩
abbrev cX11_undo : ByteArray := prog_13_method_56_code
def yX11_undo : MethodName := ⟨RX11, "undo", "()I"⟩
abbrev cX11_cut : ByteArray := prog_13_method_57_code
def yX11_cut : MethodName := ⟨RX11, "cut", "(II)I"⟩
abbrev cX11_firstOrder : ByteArray := prog_13_method_58_code
def yX11_firstOrder : MethodName := ⟨RX11, "firstOrder", "()V"⟩
abbrev cX11_nextOrder : ByteArray := prog_13_method_59_code
def yX11_nextOrder : MethodName := ⟨RX11, "nextOrder", "()Z"⟩
abbrev cX11_couldBe : ByteArray := prog_13_method_60_code
def yX11_couldBe : MethodName := ⟨RX11, "couldBe", "()Z"⟩
abbrev cX11_setCould : ByteArray := prog_13_method_61_code
def yX11_setCould : MethodName := ⟨RX11, "setCould", "()V"⟩
abbrev cX11_countsOrder : ByteArray := prog_13_method_62_code
def yX11_countsOrder : MethodName := ⟨RX11, "countsOrder", "()V"⟩
abbrev cX11_askPair : ByteArray := prog_13_method_63_code
def yX11_askPair : MethodName := ⟨RX11, "askPair", "()I"⟩
abbrev cX11_allRings : ByteArray := prog_13_method_64_code
def yX11_allRings : MethodName := ⟨RX11, "allRings", "(I[I[I[I)I"⟩
abbrev cX11_leftBy : ByteArray := prog_13_method_65_code
def yX11_leftBy : MethodName := ⟨RX11, "leftBy", "(I[I[I)I"⟩
abbrev cX11_end : ByteArray := prog_13_method_66_code
def yX11_end : MethodName := ⟨RX11, "end", "(II)I"⟩
abbrev cX11_nextWay : ByteArray := prog_13_method_67_code
def yX11_nextWay : MethodName := ⟨RX11, "nextWay", "()Z"⟩
abbrev cX11_ties : ByteArray := prog_13_method_68_code
def yX11_ties : MethodName := ⟨RX11, "ties", "(I)I"⟩
abbrev cX11_dry : ByteArray := prog_13_method_69_code
def yX11_dry : MethodName := ⟨RX11, "dry", "(II)I"⟩
abbrev cX11_see : ByteArray := prog_13_method_70_code
def yX11_see : MethodName := ⟨RX11, "see", "(IIZ)I"⟩
abbrev cX11_write : ByteArray := prog_13_method_71_code
def yX11_write : MethodName := ⟨RX11, "write", "(II)I"⟩
abbrev cX11_tear : ByteArray := prog_13_method_72_code
def yX11_tear : MethodName := ⟨RX11, "tear", "()I"⟩
abbrev cX11_judge : ByteArray := prog_13_method_73_code
def yX11_judge : MethodName := ⟨RX11, "judge", "()I"⟩
abbrev cX11_seed : ByteArray := prog_13_method_74_code
def yX11_seed : MethodName := ⟨RX11, "seed", "(I)I"⟩
abbrev cX11_keep : ByteArray := prog_13_method_75_code
def yX11_keep : MethodName := ⟨RX11, "keep", "(I)I"⟩
abbrev cX11_goBack : ByteArray := prog_13_method_76_code
def yX11_goBack : MethodName := ⟨RX11, "goBack", "(I)I"⟩
abbrev cX11_told : ByteArray := prog_13_method_77_code
def yX11_told : MethodName := ⟨RX11, "told", "(I)I"⟩
def RJ6 : String := "java/lang/Integer"
abbrev cJ6_bitCount_0f7a4 : ByteArray := prog_14_method_49_code
def yJ6_bitCount_0f7a4 : MethodName := ⟨RJ6, "bitCount", "(I)I"⟩
def RJ9 : String := "java/lang/Math"
abbrev cJ9_max_7cf53 : ByteArray := prog_15_method_65_code
def yJ9_max_7cf53 : MethodName := ⟨RJ9, "max", "(II)I"⟩
abbrev cJ9_min_7cf53 : ByteArray := prog_15_method_69_code
def yJ9_min_7cf53 : MethodName := ⟨RJ9, "min", "(II)I"⟩
def RJ10 : String := "java/lang/System"
def RL : String := "FarEndsLaw"
abbrev cL_law : ByteArray := code
def yL_law : MethodName := ⟨RL, "law", "([I)Z"⟩
abbrev vwCl : List vw_C := [(RX0, TX0, 1), (RX1, TX1, 4), (RX2, TX2, 3), (RX3, TX3, 2), (RX4, TX4, 1), (RX5, TX5, 3), (RX6, TX6, 11), (RX7, TX7, 8), (RX8, TX8, 8), (RX9, TX9, 1), (RX10, TX10, 16), (RX11, TX11, 41)]
