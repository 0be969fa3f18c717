section
-- ===== PART A: goes FIRST, ahead of the names: the tables' words, and 'selects' of the private methods out of them =====
/-- a private method of a class that the tables say can be made, by its rows of tables_1 -/
def lw_okq (q : MethodName × Nat) : Prop := (q.1.cls ≠ "java/lang/invoke/MethodHandle" ∧ q.1.cls ≠ "java/lang/invoke/VarHandle") ∧ Cond.instantiable q.1.cls q.2 ∈ tables_1 ∧ Cond.privateMethod q.1 ∈ tables_1 ∧ Cond.instanceMethod q.1 ∈ tables_1
theorem lw_p0 : lw_okq (⟨"FarEnds$Reading", "upNext", "()I"⟩, 11) := ⟨⟨by decide +kernel, by decide +kernel⟩, List.mem_of_getElem? (i := 25) (by decide +kernel), List.mem_of_getElem? (i := 323) (by decide +kernel), List.mem_of_getElem? (i := 324) (by decide +kernel)⟩
theorem lw_p1 : lw_okq (⟨"FarEnds$Reading", "letterAt", "(I)I"⟩, 11) := ⟨⟨by decide +kernel, by decide +kernel⟩, List.mem_of_getElem? (i := 25) (by decide +kernel), List.mem_of_getElem? (i := 327) (by decide +kernel), List.mem_of_getElem? (i := 328) (by decide +kernel)⟩
theorem lw_p2 : lw_okq (⟨"FarEnds$Reading", "readOrder", "()V"⟩, 11) := ⟨⟨by decide +kernel, by decide +kernel⟩, List.mem_of_getElem? (i := 25) (by decide +kernel), List.mem_of_getElem? (i := 331) (by decide +kernel), List.mem_of_getElem? (i := 332) (by decide +kernel)⟩
theorem lw_p3 : lw_okq (⟨"FarEnds$Reading", "takeWord", "(I)Z"⟩, 11) := ⟨⟨by decide +kernel, by decide +kernel⟩, List.mem_of_getElem? (i := 25) (by decide +kernel), List.mem_of_getElem? (i := 335) (by decide +kernel), List.mem_of_getElem? (i := 336) (by decide +kernel)⟩
theorem lw_p4 : lw_okq (⟨"FarEnds$Reading", "blame", "(II)V"⟩, 11) := ⟨⟨by decide +kernel, by decide +kernel⟩, List.mem_of_getElem? (i := 25) (by decide +kernel), List.mem_of_getElem? (i := 339) (by decide +kernel), List.mem_of_getElem? (i := 340) (by decide +kernel)⟩
theorem lw_p5 : lw_okq (⟨"FarEnds$Reading", "takeNumberWithin", "(II)Z"⟩, 11) := ⟨⟨by decide +kernel, by decide +kernel⟩, List.mem_of_getElem? (i := 25) (by decide +kernel), List.mem_of_getElem? (i := 343) (by decide +kernel), List.mem_of_getElem? (i := 344) (by decide +kernel)⟩
theorem lw_p6 : lw_okq (⟨"FarEnds$Reading", "isNew", "(Z)Z"⟩, 11) := ⟨⟨by decide +kernel, by decide +kernel⟩, List.mem_of_getElem? (i := 25) (by decide +kernel), List.mem_of_getElem? (i := 350) (by decide +kernel), List.mem_of_getElem? (i := 351) (by decide +kernel)⟩
theorem lw_p7 : lw_okq (⟨"FarEnds$Reading", "readClause", "()V"⟩, 11) := ⟨⟨by decide +kernel, by decide +kernel⟩, List.mem_of_getElem? (i := 25) (by decide +kernel), List.mem_of_getElem? (i := 354) (by decide +kernel), List.mem_of_getElem? (i := 355) (by decide +kernel)⟩
theorem lw_p8 : lw_okq (⟨"FarEnds$Reading", "readKind", "()V"⟩, 11) := ⟨⟨by decide +kernel, by decide +kernel⟩, List.mem_of_getElem? (i := 25) (by decide +kernel), List.mem_of_getElem? (i := 358) (by decide +kernel), List.mem_of_getElem? (i := 359) (by decide +kernel)⟩
theorem lw_p9 : lw_okq (⟨"FarEnds$Reading", "readTouch", "()V"⟩, 11) := ⟨⟨by decide +kernel, by decide +kernel⟩, List.mem_of_getElem? (i := 25) (by decide +kernel), List.mem_of_getElem? (i := 368) (by decide +kernel), List.mem_of_getElem? (i := 369) (by decide +kernel)⟩
theorem lw_p10 : lw_okq (⟨"FarEnds", "goodWires", "()I"⟩, 16) := ⟨⟨by decide +kernel, by decide +kernel⟩, List.mem_of_getElem? (i := 17) (by decide +kernel), List.mem_of_getElem? (i := 406) (by decide +kernel), List.mem_of_getElem? (i := 407) (by decide +kernel)⟩
theorem lw_p11 : lw_okq (⟨"FarEnds", "joinAll", "(I)V"⟩, 16) := ⟨⟨by decide +kernel, by decide +kernel⟩, List.mem_of_getElem? (i := 17) (by decide +kernel), List.mem_of_getElem? (i := 410) (by decide +kernel), List.mem_of_getElem? (i := 411) (by decide +kernel)⟩
theorem lw_p12 : lw_okq (⟨"FarEnds", "countCouldBe", "()I"⟩, 16) := ⟨⟨by decide +kernel, by decide +kernel⟩, List.mem_of_getElem? (i := 17) (by decide +kernel), List.mem_of_getElem? (i := 443) (by decide +kernel), List.mem_of_getElem? (i := 444) (by decide +kernel)⟩
theorem lw_p13 : lw_okq (⟨"FarEnds", "guessOrders", "()V"⟩, 16) := ⟨⟨by decide +kernel, by decide +kernel⟩, List.mem_of_getElem? (i := 17) (by decide +kernel), List.mem_of_getElem? (i := 447) (by decide +kernel), List.mem_of_getElem? (i := 448) (by decide +kernel)⟩
theorem lw_p14 : lw_okq (⟨"FarEnds", "layAllSeen", "()V"⟩, 16) := ⟨⟨by decide +kernel, by decide +kernel⟩, List.mem_of_getElem? (i := 17) (by decide +kernel), List.mem_of_getElem? (i := 455) (by decide +kernel), List.mem_of_getElem? (i := 456) (by decide +kernel)⟩
theorem lw_p15 : lw_okq (⟨"FarEnds", "countOrders", "()I"⟩, 16) := ⟨⟨by decide +kernel, by decide +kernel⟩, List.mem_of_getElem? (i := 17) (by decide +kernel), List.mem_of_getElem? (i := 469) (by decide +kernel), List.mem_of_getElem? (i := 470) (by decide +kernel)⟩
def lw_privs_1 : List (MethodName × Nat) := [(⟨"FarEnds$Reading", "upNext", "()I"⟩, 11), (⟨"FarEnds$Reading", "letterAt", "(I)I"⟩, 11), (⟨"FarEnds$Reading", "readOrder", "()V"⟩, 11), (⟨"FarEnds$Reading", "takeWord", "(I)Z"⟩, 11), (⟨"FarEnds$Reading", "blame", "(II)V"⟩, 11), (⟨"FarEnds$Reading", "takeNumberWithin", "(II)Z"⟩, 11), (⟨"FarEnds$Reading", "isNew", "(Z)Z"⟩, 11), (⟨"FarEnds$Reading", "readClause", "()V"⟩, 11), (⟨"FarEnds$Reading", "readKind", "()V"⟩, 11), (⟨"FarEnds$Reading", "readTouch", "()V"⟩, 11), (⟨"FarEnds", "goodWires", "()I"⟩, 16), (⟨"FarEnds", "joinAll", "(I)V"⟩, 16), (⟨"FarEnds", "countCouldBe", "()I"⟩, 16), (⟨"FarEnds", "guessOrders", "()V"⟩, 16), (⟨"FarEnds", "layAllSeen", "()V"⟩, 16), (⟨"FarEnds", "countOrders", "()I"⟩, 16)]
theorem lw_r1 : ∀ q ∈ lw_privs_1, lw_okq q := List.forall_mem_cons.mpr ⟨lw_p0, List.forall_mem_cons.mpr ⟨lw_p1, List.forall_mem_cons.mpr ⟨lw_p2, List.forall_mem_cons.mpr ⟨lw_p3, List.forall_mem_cons.mpr ⟨lw_p4, List.forall_mem_cons.mpr ⟨lw_p5, List.forall_mem_cons.mpr ⟨lw_p6, List.forall_mem_cons.mpr ⟨lw_p7, List.forall_mem_cons.mpr ⟨lw_p8, List.forall_mem_cons.mpr ⟨lw_p9, List.forall_mem_cons.mpr ⟨lw_p10, List.forall_mem_cons.mpr ⟨lw_p11, List.forall_mem_cons.mpr ⟨lw_p12, List.forall_mem_cons.mpr ⟨lw_p13, List.forall_mem_cons.mpr ⟨lw_p14, List.forall_mem_cons.mpr ⟨lw_p15, fun _ h => absurd h List.not_mem_nil⟩⟩⟩⟩⟩⟩⟩⟩⟩⟩⟩⟩⟩⟩⟩⟩
theorem lw_p16 : lw_okq (⟨"FarEnds", "fitsAllSeen", "()Z"⟩, 16) := ⟨⟨by decide +kernel, by decide +kernel⟩, List.mem_of_getElem? (i := 17) (by decide +kernel), List.mem_of_getElem? (i := 478) (by decide +kernel), List.mem_of_getElem? (i := 479) (by decide +kernel)⟩
theorem lw_p17 : lw_okq (⟨"FarEnds$Orders", "swap", "(II)V"⟩, 1) := ⟨⟨by decide +kernel, by decide +kernel⟩, List.mem_of_getElem? (i := 163) (by decide +kernel), List.mem_of_getElem? (i := 497) (by decide +kernel), List.mem_of_getElem? (i := 498) (by decide +kernel)⟩
theorem lw_p18 : lw_okq (⟨"FarEnds", "bestQuestion", "()I"⟩, 16) := ⟨⟨by decide +kernel, by decide +kernel⟩, List.mem_of_getElem? (i := 17) (by decide +kernel), List.mem_of_getElem? (i := 501) (by decide +kernel), List.mem_of_getElem? (i := 502) (by decide +kernel)⟩
theorem lw_p19 : lw_okq (⟨"FarEnds", "countLeft", "()I"⟩, 16) := ⟨⟨by decide +kernel, by decide +kernel⟩, List.mem_of_getElem? (i := 17) (by decide +kernel), List.mem_of_getElem? (i := 518) (by decide +kernel), List.mem_of_getElem? (i := 519) (by decide +kernel)⟩
theorem lw_p20 : lw_okq (⟨"FarEnds", "isNumber", "(I)Z"⟩, 16) := ⟨⟨by decide +kernel, by decide +kernel⟩, List.mem_of_getElem? (i := 17) (by decide +kernel), List.mem_of_getElem? (i := 531) (by decide +kernel), List.mem_of_getElem? (i := 532) (by decide +kernel)⟩
theorem lw_p21 : lw_okq (⟨"FarEnds", "farEndOf", "(I)I"⟩, 16) := ⟨⟨by decide +kernel, by decide +kernel⟩, List.mem_of_getElem? (i := 17) (by decide +kernel), List.mem_of_getElem? (i := 536) (by decide +kernel), List.mem_of_getElem? (i := 537) (by decide +kernel)⟩
theorem lw_p22 : lw_okq (⟨"FarEnds", "couldBeOf", "(I)I"⟩, 16) := ⟨⟨by decide +kernel, by decide +kernel⟩, List.mem_of_getElem? (i := 17) (by decide +kernel), List.mem_of_getElem? (i := 544) (by decide +kernel), List.mem_of_getElem? (i := 545) (by decide +kernel)⟩
theorem lw_p23 : lw_okq (⟨"FarEnds", "firstCouldBeOf", "(I)I"⟩, 16) := ⟨⟨by decide +kernel, by decide +kernel⟩, List.mem_of_getElem? (i := 17) (by decide +kernel), List.mem_of_getElem? (i := 548) (by decide +kernel), List.mem_of_getElem? (i := 549) (by decide +kernel)⟩
theorem lw_p24 : lw_okq (⟨"FarEnds", "canHold", "(II)Z"⟩, 16) := ⟨⟨by decide +kernel, by decide +kernel⟩, List.mem_of_getElem? (i := 17) (by decide +kernel), List.mem_of_getElem? (i := 562) (by decide +kernel), List.mem_of_getElem? (i := 563) (by decide +kernel)⟩
theorem lw_p25 : lw_okq (⟨"FarEnds", "areTwo", "(II)Z"⟩, 16) := ⟨⟨by decide +kernel, by decide +kernel⟩, List.mem_of_getElem? (i := 17) (by decide +kernel), List.mem_of_getElem? (i := 566) (by decide +kernel), List.mem_of_getElem? (i := 567) (by decide +kernel)⟩
theorem lw_p26 : lw_okq (⟨"FarEnds", "ringsBy", "(III)Z"⟩, 16) := ⟨⟨by decide +kernel, by decide +kernel⟩, List.mem_of_getElem? (i := 17) (by decide +kernel), List.mem_of_getElem? (i := 570) (by decide +kernel), List.mem_of_getElem? (i := 571) (by decide +kernel)⟩
theorem lw_p27 : lw_okq (⟨"FarEnds", "whyNoTime", "()I"⟩, 16) := ⟨⟨by decide +kernel, by decide +kernel⟩, List.mem_of_getElem? (i := 17) (by decide +kernel), List.mem_of_getElem? (i := 606) (by decide +kernel), List.mem_of_getElem? (i := 607) (by decide +kernel)⟩
theorem lw_p28 : lw_okq (⟨"FarEnds", "driftOneHour", "()V"⟩, 16) := ⟨⟨by decide +kernel, by decide +kernel⟩, List.mem_of_getElem? (i := 17) (by decide +kernel), List.mem_of_getElem? (i := 640) (by decide +kernel), List.mem_of_getElem? (i := 641) (by decide +kernel)⟩
theorem lw_p29 : lw_okq (⟨"FarEnds", "kindsWithBroken", "(I)I"⟩, 16) := ⟨⟨by decide +kernel, by decide +kernel⟩, List.mem_of_getElem? (i := 17) (by decide +kernel), List.mem_of_getElem? (i := 664) (by decide +kernel), List.mem_of_getElem? (i := 665) (by decide +kernel)⟩
theorem lw_p30 : lw_okq (⟨"FarEnds", "bestWay", "()I"⟩, 16) := ⟨⟨by decide +kernel, by decide +kernel⟩, List.mem_of_getElem? (i := 17) (by decide +kernel), List.mem_of_getElem? (i := 672) (by decide +kernel), List.mem_of_getElem? (i := 673) (by decide +kernel)⟩
theorem lw_p31 : lw_okq (⟨"FarEnds", "leftByWay", "(I)I"⟩, 16) := ⟨⟨by decide +kernel, by decide +kernel⟩, List.mem_of_getElem? (i := 17) (by decide +kernel), List.mem_of_getElem? (i := 685) (by decide +kernel), List.mem_of_getElem? (i := 686) (by decide +kernel)⟩
def lw_privs_2 : List (MethodName × Nat) := [(⟨"FarEnds", "fitsAllSeen", "()Z"⟩, 16), (⟨"FarEnds$Orders", "swap", "(II)V"⟩, 1), (⟨"FarEnds", "bestQuestion", "()I"⟩, 16), (⟨"FarEnds", "countLeft", "()I"⟩, 16), (⟨"FarEnds", "isNumber", "(I)Z"⟩, 16), (⟨"FarEnds", "farEndOf", "(I)I"⟩, 16), (⟨"FarEnds", "couldBeOf", "(I)I"⟩, 16), (⟨"FarEnds", "firstCouldBeOf", "(I)I"⟩, 16), (⟨"FarEnds", "canHold", "(II)Z"⟩, 16), (⟨"FarEnds", "areTwo", "(II)Z"⟩, 16), (⟨"FarEnds", "ringsBy", "(III)Z"⟩, 16), (⟨"FarEnds", "whyNoTime", "()I"⟩, 16), (⟨"FarEnds", "driftOneHour", "()V"⟩, 16), (⟨"FarEnds", "kindsWithBroken", "(I)I"⟩, 16), (⟨"FarEnds", "bestWay", "()I"⟩, 16), (⟨"FarEnds", "leftByWay", "(I)I"⟩, 16)]
theorem lw_r2 : ∀ q ∈ lw_privs_2, lw_okq q := List.forall_mem_cons.mpr ⟨lw_p16, List.forall_mem_cons.mpr ⟨lw_p17, List.forall_mem_cons.mpr ⟨lw_p18, List.forall_mem_cons.mpr ⟨lw_p19, List.forall_mem_cons.mpr ⟨lw_p20, List.forall_mem_cons.mpr ⟨lw_p21, List.forall_mem_cons.mpr ⟨lw_p22, List.forall_mem_cons.mpr ⟨lw_p23, List.forall_mem_cons.mpr ⟨lw_p24, List.forall_mem_cons.mpr ⟨lw_p25, List.forall_mem_cons.mpr ⟨lw_p26, List.forall_mem_cons.mpr ⟨lw_p27, List.forall_mem_cons.mpr ⟨lw_p28, List.forall_mem_cons.mpr ⟨lw_p29, List.forall_mem_cons.mpr ⟨lw_p30, List.forall_mem_cons.mpr ⟨lw_p31, fun _ h => absurd h List.not_mem_nil⟩⟩⟩⟩⟩⟩⟩⟩⟩⟩⟩⟩⟩⟩⟩⟩
theorem lw_p32 : lw_okq (⟨"FarEnds$Ways", "mostAhead", "(I)I"⟩, 1) := ⟨⟨by decide +kernel, by decide +kernel⟩, List.mem_of_getElem? (i := 196) (by decide +kernel), List.mem_of_getElem? (i := 703) (by decide +kernel), List.mem_of_getElem? (i := 704) (by decide +kernel)⟩
theorem lw_p33 : lw_okq (⟨"FarEndsModel", "readsAll", "()Z"⟩, 41) := ⟨⟨by decide +kernel, by decide +kernel⟩, List.mem_of_getElem? (i := 747) (by decide +kernel), List.mem_of_getElem? (i := 891) (by decide +kernel), List.mem_of_getElem? (i := 892) (by decide +kernel)⟩
theorem lw_p34 : lw_okq (⟨"FarEndsModel", "skip", "()V"⟩, 41) := ⟨⟨by decide +kernel, by decide +kernel⟩, List.mem_of_getElem? (i := 747) (by decide +kernel), List.mem_of_getElem? (i := 895) (by decide +kernel), List.mem_of_getElem? (i := 896) (by decide +kernel)⟩
theorem lw_p35 : lw_okq (⟨"FarEndsModel", "readsClause", "()Z"⟩, 41) := ⟨⟨by decide +kernel, by decide +kernel⟩, List.mem_of_getElem? (i := 747) (by decide +kernel), List.mem_of_getElem? (i := 899) (by decide +kernel), List.mem_of_getElem? (i := 900) (by decide +kernel)⟩
theorem lw_p36 : lw_okq (⟨"FarEndsModel", "here", "()I"⟩, 41) := ⟨⟨by decide +kernel, by decide +kernel⟩, List.mem_of_getElem? (i := 747) (by decide +kernel), List.mem_of_getElem? (i := 903) (by decide +kernel), List.mem_of_getElem? (i := 904) (by decide +kernel)⟩
theorem lw_p37 : lw_okq (⟨"FarEndsModel", "readsCable", "()Z"⟩, 41) := ⟨⟨by decide +kernel, by decide +kernel⟩, List.mem_of_getElem? (i := 747) (by decide +kernel), List.mem_of_getElem? (i := 907) (by decide +kernel), List.mem_of_getElem? (i := 908) (by decide +kernel)⟩
theorem lw_p38 : lw_okq (⟨"FarEndsModel", "readsOne", "()Z"⟩, 41) := ⟨⟨by decide +kernel, by decide +kernel⟩, List.mem_of_getElem? (i := 747) (by decide +kernel), List.mem_of_getElem? (i := 911) (by decide +kernel), List.mem_of_getElem? (i := 912) (by decide +kernel)⟩
theorem lw_p39 : lw_okq (⟨"FarEndsModel", "number", "(II)Z"⟩, 41) := ⟨⟨by decide +kernel, by decide +kernel⟩, List.mem_of_getElem? (i := 747) (by decide +kernel), List.mem_of_getElem? (i := 915) (by decide +kernel), List.mem_of_getElem? (i := 916) (by decide +kernel)⟩
theorem lw_p40 : lw_okq (⟨"FarEndsModel", "fails", "(II)Z"⟩, 41) := ⟨⟨by decide +kernel, by decide +kernel⟩, List.mem_of_getElem? (i := 747) (by decide +kernel), List.mem_of_getElem? (i := 919) (by decide +kernel), List.mem_of_getElem? (i := 920) (by decide +kernel)⟩
theorem lw_p41 : lw_okq (⟨"FarEndsModel", "isRead", "(I)Z"⟩, 41) := ⟨⟨by decide +kernel, by decide +kernel⟩, List.mem_of_getElem? (i := 747) (by decide +kernel), List.mem_of_getElem? (i := 923) (by decide +kernel), List.mem_of_getElem? (i := 924) (by decide +kernel)⟩
theorem lw_p42 : lw_okq (⟨"FarEndsModel", "isWhole", "()Z"⟩, 41) := ⟨⟨by decide +kernel, by decide +kernel⟩, List.mem_of_getElem? (i := 747) (by decide +kernel), List.mem_of_getElem? (i := 927) (by decide +kernel), List.mem_of_getElem? (i := 928) (by decide +kernel)⟩
theorem lw_p43 : lw_okq (⟨"FarEndsModel", "ends", "()Z"⟩, 41) := ⟨⟨by decide +kernel, by decide +kernel⟩, List.mem_of_getElem? (i := 747) (by decide +kernel), List.mem_of_getElem? (i := 931) (by decide +kernel), List.mem_of_getElem? (i := 932) (by decide +kernel)⟩
theorem lw_p44 : lw_okq (⟨"FarEndsModel", "readsKind", "()Z"⟩, 41) := ⟨⟨by decide +kernel, by decide +kernel⟩, List.mem_of_getElem? (i := 747) (by decide +kernel), List.mem_of_getElem? (i := 935) (by decide +kernel), List.mem_of_getElem? (i := 936) (by decide +kernel)⟩
theorem lw_p45 : lw_okq (⟨"FarEndsModel", "readsTouch", "()Z"⟩, 41) := ⟨⟨by decide +kernel, by decide +kernel⟩, List.mem_of_getElem? (i := 747) (by decide +kernel), List.mem_of_getElem? (i := 939) (by decide +kernel), List.mem_of_getElem? (i := 940) (by decide +kernel)⟩
theorem lw_p46 : lw_okq (⟨"FarEndsModel", "isWire", "(I)Z"⟩, 41) := ⟨⟨by decide +kernel, by decide +kernel⟩, List.mem_of_getElem? (i := 747) (by decide +kernel), List.mem_of_getElem? (i := 957) (by decide +kernel), List.mem_of_getElem? (i := 958) (by decide +kernel)⟩
theorem lw_p47 : lw_okq (⟨"FarEndsModel", "farEndOf", "([II)I"⟩, 41) := ⟨⟨by decide +kernel, by decide +kernel⟩, List.mem_of_getElem? (i := 747) (by decide +kernel), List.mem_of_getElem? (i := 962) (by decide +kernel), List.mem_of_getElem? (i := 963) (by decide +kernel)⟩
def lw_privs_3 : List (MethodName × Nat) := [(⟨"FarEnds$Ways", "mostAhead", "(I)I"⟩, 1), (⟨"FarEndsModel", "readsAll", "()Z"⟩, 41), (⟨"FarEndsModel", "skip", "()V"⟩, 41), (⟨"FarEndsModel", "readsClause", "()Z"⟩, 41), (⟨"FarEndsModel", "here", "()I"⟩, 41), (⟨"FarEndsModel", "readsCable", "()Z"⟩, 41), (⟨"FarEndsModel", "readsOne", "()Z"⟩, 41), (⟨"FarEndsModel", "number", "(II)Z"⟩, 41), (⟨"FarEndsModel", "fails", "(II)Z"⟩, 41), (⟨"FarEndsModel", "isRead", "(I)Z"⟩, 41), (⟨"FarEndsModel", "isWhole", "()Z"⟩, 41), (⟨"FarEndsModel", "ends", "()Z"⟩, 41), (⟨"FarEndsModel", "readsKind", "()Z"⟩, 41), (⟨"FarEndsModel", "readsTouch", "()Z"⟩, 41), (⟨"FarEndsModel", "isWire", "(I)Z"⟩, 41), (⟨"FarEndsModel", "farEndOf", "([II)I"⟩, 41)]
theorem lw_r3 : ∀ q ∈ lw_privs_3, lw_okq q := List.forall_mem_cons.mpr ⟨lw_p32, List.forall_mem_cons.mpr ⟨lw_p33, List.forall_mem_cons.mpr ⟨lw_p34, List.forall_mem_cons.mpr ⟨lw_p35, List.forall_mem_cons.mpr ⟨lw_p36, List.forall_mem_cons.mpr ⟨lw_p37, List.forall_mem_cons.mpr ⟨lw_p38, List.forall_mem_cons.mpr ⟨lw_p39, List.forall_mem_cons.mpr ⟨lw_p40, List.forall_mem_cons.mpr ⟨lw_p41, List.forall_mem_cons.mpr ⟨lw_p42, List.forall_mem_cons.mpr ⟨lw_p43, List.forall_mem_cons.mpr ⟨lw_p44, List.forall_mem_cons.mpr ⟨lw_p45, List.forall_mem_cons.mpr ⟨lw_p46, List.forall_mem_cons.mpr ⟨lw_p47, fun _ h => absurd h List.not_mem_nil⟩⟩⟩⟩⟩⟩⟩⟩⟩⟩⟩⟩⟩⟩⟩⟩
theorem lw_p48 : lw_okq (⟨"FarEndsModel", "netNow", "(III)I"⟩, 41) := ⟨⟨by decide +kernel, by decide +kernel⟩, List.mem_of_getElem? (i := 747) (by decide +kernel), List.mem_of_getElem? (i := 973) (by decide +kernel), List.mem_of_getElem? (i := 974) (by decide +kernel)⟩
theorem lw_p49 : lw_okq (⟨"FarEndsModel", "joined", "(I[II[I[III)I"⟩, 41) := ⟨⟨by decide +kernel, by decide +kernel⟩, List.mem_of_getElem? (i := 747) (by decide +kernel), List.mem_of_getElem? (i := 977) (by decide +kernel), List.mem_of_getElem? (i := 978) (by decide +kernel)⟩
theorem lw_p50 : lw_okq (⟨"FarEndsModel", "joinedOnce", "(I[II[I[III)I"⟩, 41) := ⟨⟨by decide +kernel, by decide +kernel⟩, List.mem_of_getElem? (i := 747) (by decide +kernel), List.mem_of_getElem? (i := 981) (by decide +kernel), List.mem_of_getElem? (i := 982) (by decide +kernel)⟩
theorem lw_p51 : lw_okq (⟨"FarEndsModel", "doTouch", "(II)Z"⟩, 41) := ⟨⟨by decide +kernel, by decide +kernel⟩, List.mem_of_getElem? (i := 747) (by decide +kernel), List.mem_of_getElem? (i := 988) (by decide +kernel), List.mem_of_getElem? (i := 989) (by decide +kernel)⟩
theorem lw_p52 : lw_okq (⟨"FarEndsModel", "areEnds", "(II)Z"⟩, 41) := ⟨⟨by decide +kernel, by decide +kernel⟩, List.mem_of_getElem? (i := 747) (by decide +kernel), List.mem_of_getElem? (i := 996) (by decide +kernel), List.mem_of_getElem? (i := 997) (by decide +kernel)⟩
theorem lw_p53 : lw_okq (⟨"FarEndsModel", "ringsNow", "(III)Z"⟩, 41) := ⟨⟨by decide +kernel, by decide +kernel⟩, List.mem_of_getElem? (i := 747) (by decide +kernel), List.mem_of_getElem? (i := 1000) (by decide +kernel), List.mem_of_getElem? (i := 1001) (by decide +kernel)⟩
theorem lw_p54 : lw_okq (⟨"FarEndsModel", "groupOf", "(I)I"⟩, 41) := ⟨⟨by decide +kernel, by decide +kernel⟩, List.mem_of_getElem? (i := 747) (by decide +kernel), List.mem_of_getElem? (i := 1015) (by decide +kernel), List.mem_of_getElem? (i := 1016) (by decide +kernel)⟩
theorem lw_p55 : lw_okq (⟨"FarEndsModel", "notes", "()V"⟩, 41) := ⟨⟨by decide +kernel, by decide +kernel⟩, List.mem_of_getElem? (i := 747) (by decide +kernel), List.mem_of_getElem? (i := 1020) (by decide +kernel), List.mem_of_getElem? (i := 1021) (by decide +kernel)⟩
theorem lw_p56 : lw_okq (⟨"FarEndsModel", "lays", "([II)V"⟩, 41) := ⟨⟨by decide +kernel, by decide +kernel⟩, List.mem_of_getElem? (i := 747) (by decide +kernel), List.mem_of_getElem? (i := 1024) (by decide +kernel), List.mem_of_getElem? (i := 1025) (by decide +kernel)⟩
theorem lw_p57 : lw_okq (⟨"FarEndsModel", "comesInto", "(II)V"⟩, 41) := ⟨⟨by decide +kernel, by decide +kernel⟩, List.mem_of_getElem? (i := 747) (by decide +kernel), List.mem_of_getElem? (i := 1028) (by decide +kernel), List.mem_of_getElem? (i := 1029) (by decide +kernel)⟩
theorem lw_p58 : lw_okq (⟨"FarEndsModel", "goesOver", "()V"⟩, 41) := ⟨⟨by decide +kernel, by decide +kernel⟩, List.mem_of_getElem? (i := 747) (by decide +kernel), List.mem_of_getElem? (i := 1036) (by decide +kernel), List.mem_of_getElem? (i := 1037) (by decide +kernel)⟩
theorem lw_p59 : lw_okq (⟨"FarEndsModel", "tested", "()V"⟩, 41) := ⟨⟨by decide +kernel, by decide +kernel⟩, List.mem_of_getElem? (i := 747) (by decide +kernel), List.mem_of_getElem? (i := 1044) (by decide +kernel), List.mem_of_getElem? (i := 1045) (by decide +kernel)⟩
theorem lw_p60 : lw_okq (⟨"FarEndsModel", "mayGoOn", "(I)I"⟩, 41) := ⟨⟨by decide +kernel, by decide +kernel⟩, List.mem_of_getElem? (i := 747) (by decide +kernel), List.mem_of_getElem? (i := 1052) (by decide +kernel), List.mem_of_getElem? (i := 1053) (by decide +kernel)⟩
theorem lw_p61 : lw_okq (⟨"FarEndsModel", "touchMany", "()I"⟩, 41) := ⟨⟨by decide +kernel, by decide +kernel⟩, List.mem_of_getElem? (i := 747) (by decide +kernel), List.mem_of_getElem? (i := 1064) (by decide +kernel), List.mem_of_getElem? (i := 1065) (by decide +kernel)⟩
theorem lw_p62 : lw_okq (⟨"FarEndsModel", "driftsHour", "()V"⟩, 41) := ⟨⟨by decide +kernel, by decide +kernel⟩, List.mem_of_getElem? (i := 747) (by decide +kernel), List.mem_of_getElem? (i := 1072) (by decide +kernel), List.mem_of_getElem? (i := 1073) (by decide +kernel)⟩
theorem lw_p63 : lw_okq (⟨"FarEndsModel", "draw", "(I)I"⟩, 41) := ⟨⟨by decide +kernel, by decide +kernel⟩, List.mem_of_getElem? (i := 747) (by decide +kernel), List.mem_of_getElem? (i := 1076) (by decide +kernel), List.mem_of_getElem? (i := 1077) (by decide +kernel)⟩
def lw_privs_4 : List (MethodName × Nat) := [(⟨"FarEndsModel", "netNow", "(III)I"⟩, 41), (⟨"FarEndsModel", "joined", "(I[II[I[III)I"⟩, 41), (⟨"FarEndsModel", "joinedOnce", "(I[II[I[III)I"⟩, 41), (⟨"FarEndsModel", "doTouch", "(II)Z"⟩, 41), (⟨"FarEndsModel", "areEnds", "(II)Z"⟩, 41), (⟨"FarEndsModel", "ringsNow", "(III)Z"⟩, 41), (⟨"FarEndsModel", "groupOf", "(I)I"⟩, 41), (⟨"FarEndsModel", "notes", "()V"⟩, 41), (⟨"FarEndsModel", "lays", "([II)V"⟩, 41), (⟨"FarEndsModel", "comesInto", "(II)V"⟩, 41), (⟨"FarEndsModel", "goesOver", "()V"⟩, 41), (⟨"FarEndsModel", "tested", "()V"⟩, 41), (⟨"FarEndsModel", "mayGoOn", "(I)I"⟩, 41), (⟨"FarEndsModel", "touchMany", "()I"⟩, 41), (⟨"FarEndsModel", "driftsHour", "()V"⟩, 41), (⟨"FarEndsModel", "draw", "(I)I"⟩, 41)]
theorem lw_r4 : ∀ q ∈ lw_privs_4, lw_okq q := List.forall_mem_cons.mpr ⟨lw_p48, List.forall_mem_cons.mpr ⟨lw_p49, List.forall_mem_cons.mpr ⟨lw_p50, List.forall_mem_cons.mpr ⟨lw_p51, List.forall_mem_cons.mpr ⟨lw_p52, List.forall_mem_cons.mpr ⟨lw_p53, List.forall_mem_cons.mpr ⟨lw_p54, List.forall_mem_cons.mpr ⟨lw_p55, List.forall_mem_cons.mpr ⟨lw_p56, List.forall_mem_cons.mpr ⟨lw_p57, List.forall_mem_cons.mpr ⟨lw_p58, List.forall_mem_cons.mpr ⟨lw_p59, List.forall_mem_cons.mpr ⟨lw_p60, List.forall_mem_cons.mpr ⟨lw_p61, List.forall_mem_cons.mpr ⟨lw_p62, List.forall_mem_cons.mpr ⟨lw_p63, fun _ h => absurd h List.not_mem_nil⟩⟩⟩⟩⟩⟩⟩⟩⟩⟩⟩⟩⟩⟩⟩⟩
theorem lw_p64 : lw_okq (⟨"FarEndsModel", "takes", "([II)V"⟩, 41) := ⟨⟨by decide +kernel, by decide +kernel⟩, List.mem_of_getElem? (i := 747) (by decide +kernel), List.mem_of_getElem? (i := 1088) (by decide +kernel), List.mem_of_getElem? (i := 1089) (by decide +kernel)⟩
theorem lw_p65 : lw_okq (⟨"FarEndsModel", "setCould", "()V"⟩, 41) := ⟨⟨by decide +kernel, by decide +kernel⟩, List.mem_of_getElem? (i := 747) (by decide +kernel), List.mem_of_getElem? (i := 1104) (by decide +kernel), List.mem_of_getElem? (i := 1105) (by decide +kernel)⟩
theorem lw_p66 : lw_okq (⟨"FarEndsModel", "firstOrder", "()V"⟩, 41) := ⟨⟨by decide +kernel, by decide +kernel⟩, List.mem_of_getElem? (i := 747) (by decide +kernel), List.mem_of_getElem? (i := 1108) (by decide +kernel), List.mem_of_getElem? (i := 1109) (by decide +kernel)⟩
theorem lw_p67 : lw_okq (⟨"FarEndsModel", "couldBe", "()Z"⟩, 41) := ⟨⟨by decide +kernel, by decide +kernel⟩, List.mem_of_getElem? (i := 747) (by decide +kernel), List.mem_of_getElem? (i := 1112) (by decide +kernel), List.mem_of_getElem? (i := 1113) (by decide +kernel)⟩
theorem lw_p68 : lw_okq (⟨"FarEndsModel", "countsOrder", "()V"⟩, 41) := ⟨⟨by decide +kernel, by decide +kernel⟩, List.mem_of_getElem? (i := 747) (by decide +kernel), List.mem_of_getElem? (i := 1116) (by decide +kernel), List.mem_of_getElem? (i := 1117) (by decide +kernel)⟩
theorem lw_p69 : lw_okq (⟨"FarEndsModel", "nextOrder", "()Z"⟩, 41) := ⟨⟨by decide +kernel, by decide +kernel⟩, List.mem_of_getElem? (i := 747) (by decide +kernel), List.mem_of_getElem? (i := 1120) (by decide +kernel), List.mem_of_getElem? (i := 1121) (by decide +kernel)⟩
theorem lw_p70 : lw_okq (⟨"FarEndsModel", "leftBy", "(I[I[I)I"⟩, 41) := ⟨⟨by decide +kernel, by decide +kernel⟩, List.mem_of_getElem? (i := 747) (by decide +kernel), List.mem_of_getElem? (i := 1128) (by decide +kernel), List.mem_of_getElem? (i := 1129) (by decide +kernel)⟩
theorem lw_p71 : lw_okq (⟨"FarEndsModel", "allRings", "(I[I[I[I)I"⟩, 41) := ⟨⟨by decide +kernel, by decide +kernel⟩, List.mem_of_getElem? (i := 747) (by decide +kernel), List.mem_of_getElem? (i := 1132) (by decide +kernel), List.mem_of_getElem? (i := 1133) (by decide +kernel)⟩
theorem lw_p72 : lw_okq (⟨"FarEndsModel", "nextWay", "()Z"⟩, 41) := ⟨⟨by decide +kernel, by decide +kernel⟩, List.mem_of_getElem? (i := 747) (by decide +kernel), List.mem_of_getElem? (i := 1136) (by decide +kernel), List.mem_of_getElem? (i := 1137) (by decide +kernel)⟩
theorem lw_p73 : lw_okq (⟨"FarEndsModel", "goodSet", "()I"⟩, 41) := ⟨⟨by decide +kernel, by decide +kernel⟩, List.mem_of_getElem? (i := 747) (by decide +kernel), List.mem_of_getElem? (i := 1178) (by decide +kernel), List.mem_of_getElem? (i := 1179) (by decide +kernel)⟩
theorem lw_p74 : lw_okq (⟨"FarEndsModel", "askPair", "()I"⟩, 41) := ⟨⟨by decide +kernel, by decide +kernel⟩, List.mem_of_getElem? (i := 747) (by decide +kernel), List.mem_of_getElem? (i := 1182) (by decide +kernel), List.mem_of_getElem? (i := 1183) (by decide +kernel)⟩
def lw_privs_5 : List (MethodName × Nat) := [(⟨"FarEndsModel", "takes", "([II)V"⟩, 41), (⟨"FarEndsModel", "setCould", "()V"⟩, 41), (⟨"FarEndsModel", "firstOrder", "()V"⟩, 41), (⟨"FarEndsModel", "couldBe", "()Z"⟩, 41), (⟨"FarEndsModel", "countsOrder", "()V"⟩, 41), (⟨"FarEndsModel", "nextOrder", "()Z"⟩, 41), (⟨"FarEndsModel", "leftBy", "(I[I[I)I"⟩, 41), (⟨"FarEndsModel", "allRings", "(I[I[I[I)I"⟩, 41), (⟨"FarEndsModel", "nextWay", "()Z"⟩, 41), (⟨"FarEndsModel", "goodSet", "()I"⟩, 41), (⟨"FarEndsModel", "askPair", "()I"⟩, 41)]
theorem lw_r5 : ∀ q ∈ lw_privs_5, lw_okq q := List.forall_mem_cons.mpr ⟨lw_p64, List.forall_mem_cons.mpr ⟨lw_p65, List.forall_mem_cons.mpr ⟨lw_p66, List.forall_mem_cons.mpr ⟨lw_p67, List.forall_mem_cons.mpr ⟨lw_p68, List.forall_mem_cons.mpr ⟨lw_p69, List.forall_mem_cons.mpr ⟨lw_p70, List.forall_mem_cons.mpr ⟨lw_p71, List.forall_mem_cons.mpr ⟨lw_p72, List.forall_mem_cons.mpr ⟨lw_p73, List.forall_mem_cons.mpr ⟨lw_p74, fun _ h => absurd h List.not_mem_nil⟩⟩⟩⟩⟩⟩⟩⟩⟩⟩⟩
def lw_privs : List (MethodName × Nat) := lw_privs_1 ++ (lw_privs_2 ++ (lw_privs_3 ++ (lw_privs_4 ++ (lw_privs_5))))
def lw_tbl : List Cond := k2_sels lw_privs ++ tables_1
theorem lw_privs_ok : ∀ q ∈ lw_privs, lw_okq q := by
  show ∀ q ∈ lw_privs_1 ++ (lw_privs_2 ++ (lw_privs_3 ++ (lw_privs_4 ++ (lw_privs_5)))), lw_okq q
  exact List.forall_mem_append.mpr ⟨lw_r1, List.forall_mem_append.mpr ⟨lw_r2, List.forall_mem_append.mpr ⟨lw_r3, List.forall_mem_append.mpr ⟨lw_r4, lw_r5⟩⟩⟩⟩
def RX0 : String := "FarEnds$Draws"
def TX0 : u_T := fun k => match k with
  | _ => ("FarEnds$Draws", "seed", "I", false)
def tyX0 : Nat → FieldType := fun k => match k with
  | _ => .int
abbrev wsX00 : List Cond := u_ws RX0 TX0 1
theorem nmX0 : ∀ a, a < 1 → ∀ b, b < 1 → a ≠ b → (TX0 a).2.1 ≠ (TX0 b).2.1 := by decide +kernel
theorem tyX0_ok : ∀ k, k < 1 → parseFieldDescriptor (TX0 k).2.2.1 = some (tyX0 k) := by decide +kernel
abbrev cX0_init : ByteArray := prog_2_method_1_code
def yX0_init : MethodName := ⟨RX0, "<init>", "()V"⟩
abbrev cX0_draw : ByteArray := prog_2_method_2_code
def yX0_draw : MethodName := ⟨RX0, "draw", "(I)I"⟩
def RX1 : String := "FarEnds$Guess"
def TX1 : u_T := fun k => match k with
  | 0 => ("FarEnds$Guess", "count", "I", false)
  | 1 => ("FarEnds$Guess", "sets", "[I", true)
  | 2 => ("FarEnds$Guess", "first", "[I", true)
  | _ => ("FarEnds$Guess", "ringing", "[I", true)
def tyX1 : Nat → FieldType := fun k => match k with
  | 0 => .int
  | 1 => .array .int
  | 2 => .array .int
  | _ => .array .int
abbrev wsX10 : List Cond := u_ws RX1 TX1 4
theorem nmX1 : ∀ a, a < 4 → ∀ b, b < 4 → a ≠ b → (TX1 a).2.1 ≠ (TX1 b).2.1 := by decide +kernel
theorem tyX1_ok : ∀ k, k < 4 → parseFieldDescriptor (TX1 k).2.2.1 = some (tyX1 k) := by decide +kernel
abbrev cX1_init : ByteArray := prog_3_method_1_code
def yX1_init : MethodName := ⟨RX1, "<init>", "()V"⟩
abbrev cX1_clear : ByteArray := prog_3_method_2_code
def yX1_clear : MethodName := ⟨RX1, "clear", "()V"⟩
abbrev cX1_add : ByteArray := prog_3_method_3_code
def yX1_add : MethodName := ⟨RX1, "add", "([II)V"⟩
abbrev cX1_hear : ByteArray := prog_3_method_4_code
def yX1_hear : MethodName := ⟨RX1, "hear", "(LFarEnds$Nets;II)V"⟩
abbrev cX1_bestPair : ByteArray := prog_3_method_5_code
def yX1_bestPair : MethodName := ⟨RX1, "bestPair", "(I)I"⟩
def RX2 : String := "FarEnds$Image"
def TX2 : u_T := fun k => match k with
  | 0 => ("FarEnds$Image", "state", "LFarEnds$State;", true)
  | 1 => ("FarEnds$Image", "seed", "I", false)
  | _ => ("FarEnds$Image", "kept", "Z", false)
def tyX2 : Nat → FieldType := fun k => match k with
  | 0 => .object "FarEnds$State"
  | 1 => .int
  | _ => .boolean
abbrev wsX20 : List Cond := u_ws RX2 TX2 3
theorem nmX2 : ∀ a, a < 3 → ∀ b, b < 3 → a ≠ b → (TX2 a).2.1 ≠ (TX2 b).2.1 := by decide +kernel
theorem tyX2_ok : ∀ k, k < 3 → parseFieldDescriptor (TX2 k).2.2.1 = some (tyX2 k) := by decide +kernel
abbrev cX2_init : ByteArray := prog_4_method_1_code
def yX2_init : MethodName := ⟨RX2, "<init>", "()V"⟩
def RX3 : String := "FarEnds$Nets"
def TX3 : u_T := fun k => match k with
  | 0 => ("FarEnds$Nets", "bare", "[I", true)
  | _ => ("FarEnds$Nets", "whole", "[I", true)
def tyX3 : Nat → FieldType := fun k => match k with
  | 0 => .array .int
  | _ => .array .int
abbrev wsX30 : List Cond := u_ws RX3 TX3 2
theorem nmX3 : ∀ a, a < 2 → ∀ b, b < 2 → a ≠ b → (TX3 a).2.1 ≠ (TX3 b).2.1 := by decide +kernel
theorem tyX3_ok : ∀ k, k < 2 → parseFieldDescriptor (TX3 k).2.2.1 = some (tyX3 k) := by decide +kernel
abbrev cX3_init : ByteArray := prog_5_method_1_code
def yX3_init : MethodName := ⟨RX3, "<init>", "()V"⟩
abbrev cX3_lay : ByteArray := prog_5_method_2_code
def yX3_lay : MethodName := ⟨RX3, "lay", "(IIII)V"⟩
abbrev cX3_join : ByteArray := prog_5_method_3_code
def yX3_join : MethodName := ⟨RX3, "join", "([III)V"⟩
abbrev cX3_of : ByteArray := prog_5_method_4_code
def yX3_of : MethodName := ⟨RX3, "of", "(I)I"⟩
abbrev cX3_bare : ByteArray := prog_5_method_5_code
def yX3_bare : MethodName := ⟨RX3, "bare", "(I)I"⟩
abbrev cX3_isEarthedBare : ByteArray := prog_5_method_6_code
def yX3_isEarthedBare : MethodName := ⟨RX3, "isEarthedBare", "(I)Z"⟩
abbrev cX3_areJoined : ByteArray := prog_5_method_7_code
def yX3_areJoined : MethodName := ⟨RX3, "areJoined", "(II)Z"⟩
abbrev cX3_pattern : ByteArray := prog_5_method_8_code
def yX3_pattern : MethodName := ⟨RX3, "pattern", "(II)I"⟩
abbrev cX3_areTied : ByteArray := prog_5_method_9_code
def yX3_areTied : MethodName := ⟨RX3, "areTied", "(III)Z"⟩
abbrev cX3_merge : ByteArray := prog_5_method_10_code
def yX3_merge : MethodName := ⟨RX3, "merge", "([III)V"⟩
def RX4 : String := "FarEnds$Orders"
def TX4 : u_T := fun k => match k with
  | _ => ("FarEnds$Orders", "wireOf", "[I", true)
def tyX4 : Nat → FieldType := fun k => match k with
  | _ => .array .int
abbrev wsX40 : List Cond := u_ws RX4 TX4 1
theorem nmX4 : ∀ a, a < 1 → ∀ b, b < 1 → a ≠ b → (TX4 a).2.1 ≠ (TX4 b).2.1 := by decide +kernel
theorem tyX4_ok : ∀ k, k < 1 → parseFieldDescriptor (TX4 k).2.2.1 = some (tyX4 k) := by decide +kernel
abbrev cX4_init : ByteArray := prog_6_method_1_code
def yX4_init : MethodName := ⟨RX4, "<init>", "()V"⟩
abbrev cX4_start : ByteArray := prog_6_method_2_code
def yX4_start : MethodName := ⟨RX4, "start", "()V"⟩
abbrev cX4_advance : ByteArray := prog_6_method_3_code
def yX4_advance : MethodName := ⟨RX4, "advance", "(I)V"⟩
abbrev cX4_swap : ByteArray := prog_6_method_4_code
def yX4_swap : MethodName := ⟨RX4, "swap", "(II)V"⟩
def RX5 : String := "FarEnds$Past"
def TX5 : u_T := fun k => match k with
  | 0 => ("FarEnds$Past", "states", "[LFarEnds$State;", true)
  | 1 => ("FarEnds$Past", "count", "I", false)
  | _ => ("FarEnds$Past", "next", "I", false)
def tyX5 : Nat → FieldType := fun k => match k with
  | 0 => .array (.object "FarEnds$State")
  | 1 => .int
  | _ => .int
abbrev wsX50 : List Cond := u_ws RX5 TX5 3
theorem nmX5 : ∀ a, a < 3 → ∀ b, b < 3 → a ≠ b → (TX5 a).2.1 ≠ (TX5 b).2.1 := by decide +kernel
theorem tyX5_ok : ∀ k, k < 3 → parseFieldDescriptor (TX5 k).2.2.1 = some (tyX5 k) := by decide +kernel
abbrev cX5_init : ByteArray := prog_7_method_1_code
def yX5_init : MethodName := ⟨RX5, "<init>", "()V"⟩
abbrev cX5_clear : ByteArray := prog_7_method_2_code
def yX5_clear : MethodName := ⟨RX5, "clear", "()V"⟩
abbrev cX5_remember : ByteArray := prog_7_method_3_code
def yX5_remember : MethodName := ⟨RX5, "remember", "(LFarEnds$State;)V"⟩
abbrev cX5_restore : ByteArray := prog_7_method_4_code
def yX5_restore : MethodName := ⟨RX5, "restore", "(LFarEnds$State;)V"⟩
def RX6 : String := "FarEnds$Reading"
def TX6 : u_T := fun k => match k with
  | 0 => ("FarEnds$Reading", "text", "[I", true)
  | 1 => ("FarEnds$Reading", "length", "I", false)
  | 2 => ("FarEnds$Reading", "faultNumber", "I", false)
  | 3 => ("FarEnds$Reading", "faultAt", "I", false)
  | 4 => ("FarEnds$Reading", "wires", "I", false)
  | 5 => ("FarEnds$Reading", "order", "[I", true)
  | 6 => ("FarEnds$Reading", "kinds", "I", false)
  | 7 => ("FarEnds$Reading", "touching", "I", false)
  | 8 => ("FarEnds$Reading", "at", "I", false)
  | 9 => ("FarEnds$Reading", "number", "I", false)
  | _ => ("FarEnds$Reading", "numberAt", "I", false)
def tyX6 : Nat → FieldType := fun k => match k with
  | 0 => .array .int
  | 1 => .int
  | 2 => .int
  | 3 => .int
  | 4 => .int
  | 5 => .array .int
  | 6 => .int
  | 7 => .int
  | 8 => .int
  | 9 => .int
  | _ => .int
abbrev wsX60 : List Cond := u_ws RX6 TX6 11
theorem nmX6 : ∀ a, a < 11 → ∀ b, b < 11 → a ≠ b → (TX6 a).2.1 ≠ (TX6 b).2.1 := by decide +kernel
theorem tyX6_ok : ∀ k, k < 11 → parseFieldDescriptor (TX6 k).2.2.1 = some (tyX6 k) := by decide +kernel
abbrev cX6_init : ByteArray := prog_8_method_1_code
def yX6_init : MethodName := ⟨RX6, "<init>", "()V"⟩
abbrev cX6_add : ByteArray := prog_8_method_2_code
def yX6_add : MethodName := ⟨RX6, "add", "(I)Z"⟩
abbrev cX6_read : ByteArray := prog_8_method_3_code
def yX6_read : MethodName := ⟨RX6, "read", "()V"⟩
abbrev cX6_readOrder : ByteArray := prog_8_method_4_code
def yX6_readOrder : MethodName := ⟨RX6, "readOrder", "()V"⟩
abbrev cX6_readClause : ByteArray := prog_8_method_5_code
def yX6_readClause : MethodName := ⟨RX6, "readClause", "()V"⟩
abbrev cX6_readKind : ByteArray := prog_8_method_6_code
def yX6_readKind : MethodName := ⟨RX6, "readKind", "()V"⟩
abbrev cX6_readTouch : ByteArray := prog_8_method_7_code
def yX6_readTouch : MethodName := ⟨RX6, "readTouch", "()V"⟩
abbrev cX6_upNext : ByteArray := prog_8_method_8_code
def yX6_upNext : MethodName := ⟨RX6, "upNext", "()I"⟩
abbrev cX6_letterAt : ByteArray := prog_8_method_9_code
def yX6_letterAt : MethodName := ⟨RX6, "letterAt", "(I)I"⟩
abbrev cX6_takeWord : ByteArray := prog_8_method_10_code
def yX6_takeWord : MethodName := ⟨RX6, "takeWord", "(I)Z"⟩
abbrev cX6_takeNumberWithin : ByteArray := prog_8_method_11_code
def yX6_takeNumberWithin : MethodName := ⟨RX6, "takeNumberWithin", "(II)Z"⟩
abbrev cX6_isNew : ByteArray := prog_8_method_12_code
def yX6_isNew : MethodName := ⟨RX6, "isNew", "(Z)Z"⟩
abbrev cX6_isFigure : ByteArray := prog_8_method_13_code
def yX6_isFigure : MethodName := ⟨RX6, "isFigure", "(I)Z"⟩
abbrev cX6_blame : ByteArray := prog_8_method_14_code
def yX6_blame : MethodName := ⟨RX6, "blame", "(II)V"⟩
def RX7 : String := "FarEnds$Seen"
def TX7 : u_T := fun k => match k with
  | 0 => ("FarEnds$Seen", "nearTies", "I", false)
  | 1 => ("FarEnds$Seen", "farTies", "I", false)
  | 2 => ("FarEnds$Seen", "hour", "I", false)
  | 3 => ("FarEnds$Seen", "a", "I", false)
  | 4 => ("FarEnds$Seen", "b", "I", false)
  | 5 => ("FarEnds$Seen", "rang", "Z", false)
  | 6 => ("FarEnds$Seen", "passing", "I", false)
  | _ => ("FarEnds$Seen", "nets", "LFarEnds$Nets;", true)
def tyX7 : Nat → FieldType := fun k => match k with
  | 0 => .int
  | 1 => .int
  | 2 => .int
  | 3 => .int
  | 4 => .int
  | 5 => .boolean
  | 6 => .int
  | _ => .object "FarEnds$Nets"
abbrev wsX70 : List Cond := u_ws RX7 TX7 8
theorem nmX7 : ∀ a, a < 8 → ∀ b, b < 8 → a ≠ b → (TX7 a).2.1 ≠ (TX7 b).2.1 := by decide +kernel
theorem tyX7_ok : ∀ k, k < 8 → parseFieldDescriptor (TX7 k).2.2.1 = some (tyX7 k) := by decide +kernel
abbrev cX7_init : ByteArray := prog_9_method_1_code
def yX7_init : MethodName := ⟨RX7, "<init>", "()V"⟩
abbrev cX7_take : ByteArray := prog_9_method_2_code
def yX7_take : MethodName := ⟨RX7, "take", "(LFarEnds$State;IIZ)V"⟩
abbrev cX7_lay : ByteArray := prog_9_method_3_code
def yX7_lay : MethodName := ⟨RX7, "lay", "(II)V"⟩
abbrev cX7_fits : ByteArray := prog_9_method_4_code
def yX7_fits : MethodName := ⟨RX7, "fits", "([II)Z"⟩
def RX8 : String := "FarEnds$State"
def TX8 : u_T := fun k => match k with
  | 0 => ("FarEnds$State", "kinds", "I", false)
  | 1 => ("FarEnds$State", "touching", "I", false)
  | 2 => ("FarEnds$State", "nearTies", "I", false)
  | 3 => ("FarEnds$State", "farTies", "I", false)
  | 4 => ("FarEnds$State", "place", "I", false)
  | 5 => ("FarEnds$State", "hours", "I", false)
  | 6 => ("FarEnds$State", "crosses", "I", false)
  | _ => ("FarEnds$State", "tests", "I", false)
def tyX8 : Nat → FieldType := fun k => match k with
  | 0 => .int
  | 1 => .int
  | 2 => .int
  | 3 => .int
  | 4 => .int
  | 5 => .int
  | 6 => .int
  | _ => .int
abbrev wsX80 : List Cond := u_ws RX8 TX8 8
theorem nmX8 : ∀ a, a < 8 → ∀ b, b < 8 → a ≠ b → (TX8 a).2.1 ≠ (TX8 b).2.1 := by decide +kernel
theorem tyX8_ok : ∀ k, k < 8 → parseFieldDescriptor (TX8 k).2.2.1 = some (tyX8 k) := by decide +kernel
abbrev cX8_init : ByteArray := prog_10_method_1_code
def yX8_init : MethodName := ⟨RX8, "<init>", "()V"⟩
abbrev cX8_begin : ByteArray := prog_10_method_2_code
def yX8_begin : MethodName := ⟨RX8, "begin", "(II)V"⟩
abbrev cX8_become : ByteArray := prog_10_method_3_code
def yX8_become : MethodName := ⟨RX8, "become", "(LFarEnds$State;)V"⟩
abbrev cX8_tiesHere : ByteArray := prog_10_method_4_code
def yX8_tiesHere : MethodName := ⟨RX8, "tiesHere", "()I"⟩
abbrev cX8_tieHere : ByteArray := prog_10_method_5_code
def yX8_tieHere : MethodName := ⟨RX8, "tieHere", "(II)V"⟩
abbrev cX8_walk : ByteArray := prog_10_method_6_code
def yX8_walk : MethodName := ⟨RX8, "walk", "()V"⟩
abbrev cX8_countTest : ByteArray := prog_10_method_7_code
def yX8_countTest : MethodName := ⟨RX8, "countTest", "()V"⟩
def RX9 : String := "FarEnds$Ways"
def TX9 : u_T := fun k => match k with
  | _ => ("FarEnds$Ways", "groups", "[I", true)
def tyX9 : Nat → FieldType := fun k => match k with
  | _ => .array .int
abbrev wsX90 : List Cond := u_ws RX9 TX9 1
theorem nmX9 : ∀ a, a < 1 → ∀ b, b < 1 → a ≠ b → (TX9 a).2.1 ≠ (TX9 b).2.1 := by decide +kernel
theorem tyX9_ok : ∀ k, k < 1 → parseFieldDescriptor (TX9 k).2.2.1 = some (tyX9 k) := by decide +kernel
abbrev cX9_init : ByteArray := prog_11_method_1_code
def yX9_init : MethodName := ⟨RX9, "<init>", "()V"⟩
abbrev cX9_start : ByteArray := prog_11_method_2_code
def yX9_start : MethodName := ⟨RX9, "start", "()V"⟩
abbrev cX9_advance : ByteArray := prog_11_method_3_code
def yX9_advance : MethodName := ⟨RX9, "advance", "(I)Z"⟩
abbrev cX9_row : ByteArray := prog_11_method_4_code
def yX9_row : MethodName := ⟨RX9, "row", "(I)I"⟩
abbrev cX9_mostAhead : ByteArray := prog_11_method_5_code
def yX9_mostAhead : MethodName := ⟨RX9, "mostAhead", "(I)I"⟩
def RX10 : String := "FarEnds"
def TX10 : u_T := fun k => match k with
  | 0 => ("FarEnds", "reading", "LFarEnds$Reading;", true)
  | 1 => ("FarEnds", "wires", "I", false)
  | 2 => ("FarEnds", "order", "[I", true)
  | 3 => ("FarEnds", "now", "LFarEnds$State;", true)
  | 4 => ("FarEnds", "past", "LFarEnds$Past;", true)
  | 5 => ("FarEnds", "draws", "LFarEnds$Draws;", true)
  | 6 => ("FarEnds", "images", "[LFarEnds$Image;", true)
  | 7 => ("FarEnds", "seen", "[LFarEnds$Seen;", true)
  | 8 => ("FarEnds", "seenCount", "I", false)
  | 9 => ("FarEnds", "bookEnds", "[I", true)
  | 10 => ("FarEnds", "bookWires", "[I", true)
  | 11 => ("FarEnds", "bookCount", "I", false)
  | 12 => ("FarEnds", "nets", "LFarEnds$Nets;", true)
  | 13 => ("FarEnds", "orders", "LFarEnds$Orders;", true)
  | 14 => ("FarEnds", "guess", "LFarEnds$Guess;", true)
  | _ => ("FarEnds", "ways", "LFarEnds$Ways;", true)
def tyX10 : Nat → FieldType := fun k => match k with
  | 0 => .object "FarEnds$Reading"
  | 1 => .int
  | 2 => .array .int
  | 3 => .object "FarEnds$State"
  | 4 => .object "FarEnds$Past"
  | 5 => .object "FarEnds$Draws"
  | 6 => .array (.object "FarEnds$Image")
  | 7 => .array (.object "FarEnds$Seen")
  | 8 => .int
  | 9 => .array .int
  | 10 => .array .int
  | 11 => .int
  | 12 => .object "FarEnds$Nets"
  | 13 => .object "FarEnds$Orders"
  | 14 => .object "FarEnds$Guess"
  | _ => .object "FarEnds$Ways"
abbrev wsX100 : List Cond := u_ws RX10 TX10 16
theorem nmX10 : ∀ a, a < 16 → ∀ b, b < 16 → a ≠ b → (TX10 a).2.1 ≠ (TX10 b).2.1 := by decide +kernel
theorem tyX10_ok : ∀ k, k < 16 → parseFieldDescriptor (TX10 k).2.2.1 = some (tyX10 k) := by decide +kernel
abbrev cX10_init : ByteArray := prog_1_method_1_code
def yX10_init : MethodName := ⟨RX10, "<init>", "()V"⟩
abbrev cX10_feed : ByteArray := prog_1_method_2_code
def yX10_feed : MethodName := ⟨RX10, "feed", "(I)I"⟩
abbrev cX10_cable : ByteArray := prog_1_method_3_code
def yX10_cable : MethodName := ⟨RX10, "cable", "()I"⟩
abbrev cX10_fault : ByteArray := prog_1_method_4_code
def yX10_fault : MethodName := ⟨RX10, "fault", "()I"⟩
abbrev cX10_told : ByteArray := prog_1_method_5_code
def yX10_told : MethodName := ⟨RX10, "told", "(I)I"⟩
abbrev cX10_wire : ByteArray := prog_1_method_6_code
def yX10_wire : MethodName := ⟨RX10, "wire", "(II)I"⟩
abbrev cX10_end : ByteArray := prog_1_method_7_code
def yX10_end : MethodName := ⟨RX10, "end", "(II)I"⟩
abbrev cX10_net : ByteArray := prog_1_method_8_code
def yX10_net : MethodName := ⟨RX10, "net", "(II)I"⟩
abbrev cX10_rings : ByteArray := prog_1_method_9_code
def yX10_rings : MethodName := ⟨RX10, "rings", "(II)I"⟩
abbrev cX10_touches : ByteArray := prog_1_method_10_code
def yX10_touches : MethodName := ⟨RX10, "touches", "(II)I"⟩
abbrev cX10_tie : ByteArray := prog_1_method_11_code
def yX10_tie : MethodName := ⟨RX10, "tie", "(II)I"⟩
abbrev cX10_cross : ByteArray := prog_1_method_12_code
def yX10_cross : MethodName := ⟨RX10, "cross", "()I"⟩
abbrev cX10_test : ByteArray := prog_1_method_13_code
def yX10_test : MethodName := ⟨RX10, "test", "(II)I"⟩
abbrev cX10_rest : ByteArray := prog_1_method_14_code
def yX10_rest : MethodName := ⟨RX10, "rest", "(I)I"⟩
abbrev cX10_mend : ByteArray := prog_1_method_15_code
def yX10_mend : MethodName := ⟨RX10, "mend", "(II)I"⟩
abbrev cX10_touch : ByteArray := prog_1_method_16_code
def yX10_touch : MethodName := ⟨RX10, "touch", "(IIZ)I"⟩
abbrev cX10_drift : ByteArray := prog_1_method_17_code
def yX10_drift : MethodName := ⟨RX10, "drift", "(I)I"⟩
abbrev cX10_undo : ByteArray := prog_1_method_18_code
def yX10_undo : MethodName := ⟨RX10, "undo", "()I"⟩
abbrev cX10_cut : ByteArray := prog_1_method_19_code
def yX10_cut : MethodName := ⟨RX10, "cut", "(II)I"⟩
abbrev cX10_ties : ByteArray := prog_1_method_20_code
def yX10_ties : MethodName := ⟨RX10, "ties", "(I)I"⟩
abbrev cX10_dry : ByteArray := prog_1_method_21_code
def yX10_dry : MethodName := ⟨RX10, "dry", "(II)I"⟩
abbrev cX10_see : ByteArray := prog_1_method_22_code
def yX10_see : MethodName := ⟨RX10, "see", "(IIZ)I"⟩
abbrev cX10_write : ByteArray := prog_1_method_23_code
def yX10_write : MethodName := ⟨RX10, "write", "(II)I"⟩
abbrev cX10_tear : ByteArray := prog_1_method_24_code
def yX10_tear : MethodName := ⟨RX10, "tear", "()I"⟩
abbrev cX10_judge : ByteArray := prog_1_method_25_code
def yX10_judge : MethodName := ⟨RX10, "judge", "()I"⟩
abbrev cX10_seed : ByteArray := prog_1_method_26_code
def yX10_seed : MethodName := ⟨RX10, "seed", "(I)I"⟩
abbrev cX10_keep : ByteArray := prog_1_method_27_code
def yX10_keep : MethodName := ⟨RX10, "keep", "(I)I"⟩
abbrev cX10_goBack : ByteArray := prog_1_method_28_code
def yX10_goBack : MethodName := ⟨RX10, "goBack", "(I)I"⟩
abbrev cX10_isNumber : ByteArray := prog_1_method_29_code
def yX10_isNumber : MethodName := ⟨RX10, "isNumber", "(I)Z"⟩
abbrev cX10_areTwo : ByteArray := prog_1_method_30_code
def yX10_areTwo : MethodName := ⟨RX10, "areTwo", "(II)Z"⟩
abbrev cX10_canHold : ByteArray := prog_1_method_31_code
def yX10_canHold : MethodName := ⟨RX10, "canHold", "(II)Z"⟩
abbrev cX10_nodeOf : ByteArray := prog_1_method_32_code
def yX10_nodeOf : MethodName := ⟨RX10, "nodeOf", "(II)I"⟩
abbrev cX10_farEndOf : ByteArray := prog_1_method_33_code
def yX10_farEndOf : MethodName := ⟨RX10, "farEndOf", "(I)I"⟩
abbrev cX10_part : ByteArray := prog_1_method_34_code
def yX10_part : MethodName := ⟨RX10, "part", "(II)I"⟩
abbrev cX10_withPart : ByteArray := prog_1_method_35_code
def yX10_withPart : MethodName := ⟨RX10, "withPart", "(III)I"⟩
abbrev cX10_pairBit : ByteArray := prog_1_method_36_code
def yX10_pairBit : MethodName := ⟨RX10, "pairBit", "(II)I"⟩
abbrev cX10_factorial : ByteArray := prog_1_method_37_code
def yX10_factorial : MethodName := ⟨RX10, "factorial", "(I)I"⟩
abbrev cX10_passing : ByteArray := prog_1_method_38_code
def yX10_passing : MethodName := ⟨RX10, "passing", "(II)I"⟩
abbrev cX10_joinAll : ByteArray := prog_1_method_39_code
def yX10_joinAll : MethodName := ⟨RX10, "joinAll", "(I)V"⟩
abbrev cX10_ringsBy : ByteArray := prog_1_method_40_code
def yX10_ringsBy : MethodName := ⟨RX10, "ringsBy", "(III)Z"⟩
abbrev cX10_kindsWithBroken : ByteArray := prog_1_method_41_code
def yX10_kindsWithBroken : MethodName := ⟨RX10, "kindsWithBroken", "(I)I"⟩
abbrev cX10_goodWires : ByteArray := prog_1_method_42_code
def yX10_goodWires : MethodName := ⟨RX10, "goodWires", "()I"⟩
abbrev cX10_whyNoTime : ByteArray := prog_1_method_43_code
def yX10_whyNoTime : MethodName := ⟨RX10, "whyNoTime", "()I"⟩
abbrev cX10_driftOneHour : ByteArray := prog_1_method_44_code
def yX10_driftOneHour : MethodName := ⟨RX10, "driftOneHour", "()V"⟩
abbrev cX10_countOrders : ByteArray := prog_1_method_45_code
def yX10_countOrders : MethodName := ⟨RX10, "countOrders", "()I"⟩
abbrev cX10_layAllSeen : ByteArray := prog_1_method_46_code
def yX10_layAllSeen : MethodName := ⟨RX10, "layAllSeen", "()V"⟩
abbrev cX10_fitsAllSeen : ByteArray := prog_1_method_47_code
def yX10_fitsAllSeen : MethodName := ⟨RX10, "fitsAllSeen", "()Z"⟩
abbrev cX10_guessOrders : ByteArray := prog_1_method_48_code
def yX10_guessOrders : MethodName := ⟨RX10, "guessOrders", "()V"⟩
abbrev cX10_countCouldBe : ByteArray := prog_1_method_49_code
def yX10_countCouldBe : MethodName := ⟨RX10, "countCouldBe", "()I"⟩
abbrev cX10_couldBeOf : ByteArray := prog_1_method_50_code
def yX10_couldBeOf : MethodName := ⟨RX10, "couldBeOf", "(I)I"⟩
abbrev cX10_firstCouldBeOf : ByteArray := prog_1_method_51_code
def yX10_firstCouldBeOf : MethodName := ⟨RX10, "firstCouldBeOf", "(I)I"⟩
abbrev cX10_bestQuestion : ByteArray := prog_1_method_52_code
def yX10_bestQuestion : MethodName := ⟨RX10, "bestQuestion", "()I"⟩
abbrev cX10_countLeft : ByteArray := prog_1_method_53_code
def yX10_countLeft : MethodName := ⟨RX10, "countLeft", "()I"⟩
abbrev cX10_bestWay : ByteArray := prog_1_method_54_code
def yX10_bestWay : MethodName := ⟨RX10, "bestWay", "()I"⟩
abbrev cX10_leftByWay : ByteArray := prog_1_method_55_code
def yX10_leftByWay : MethodName := ⟨RX10, "leftByWay", "(I)I"⟩
def RX11 : String := "FarEndsModel"
def TX11 : u_T := fun k => match k with
  | 0 => ("FarEndsModel", "wires", "I", false)
  | 1 => ("FarEndsModel", "truly", "[I", true)
  | 2 => ("FarEndsModel", "place", "I", false)
  | 3 => ("FarEndsModel", "hour", "I", false)
  | 4 => ("FarEndsModel", "crossed", "I", false)
  | 5 => ("FarEndsModel", "tests", "I", false)
  | 6 => ("FarEndsModel", "touching", "I", false)
  | 7 => ("FarEndsModel", "kindOf", "[I", true)
  | 8 => ("FarEndsModel", "near", "[I", true)
  | 9 => ("FarEndsModel", "far", "[I", true)
  | 10 => ("FarEndsModel", "seed", "J", false)
  | 11 => ("FarEndsModel", "seenMany", "I", false)
  | 12 => ("FarEndsModel", "seen", "[I", true)
  | 13 => ("FarEndsModel", "bookMany", "I", false)
  | 14 => ("FarEndsModel", "bookEnd", "[I", true)
  | 15 => ("FarEndsModel", "bookWire", "[I", true)
  | 16 => ("FarEndsModel", "text", "[I", true)
  | 17 => ("FarEndsModel", "size", "I", false)
  | 18 => ("FarEndsModel", "readAt", "I", false)
  | 19 => ("FarEndsModel", "readFault", "I", false)
  | 20 => ("FarEndsModel", "faultAt", "I", false)
  | 21 => ("FarEndsModel", "readWires", "I", false)
  | 22 => ("FarEndsModel", "readTouch", "I", false)
  | 23 => ("FarEndsModel", "readTruly", "[I", true)
  | 24 => ("FarEndsModel", "readKind", "[I", true)
  | 25 => ("FarEndsModel", "readNumber", "I", false)
  | 26 => ("FarEndsModel", "numberAt", "I", false)
  | 27 => ("FarEndsModel", "ahead", "[I", true)
  | 28 => ("FarEndsModel", "undoMany", "I", false)
  | 29 => ("FarEndsModel", "images", "[I", true)
  | 30 => ("FarEndsModel", "seeds", "[J", true)
  | 31 => ("FarEndsModel", "isKept", "[I", true)
  | 32 => ("FarEndsModel", "order", "[I", true)
  | 33 => ("FarEndsModel", "seenFar", "[I", true)
  | 34 => ("FarEndsModel", "couldMany", "I", false)
  | 35 => ("FarEndsModel", "couldSets", "[I", true)
  | 36 => ("FarEndsModel", "firstOnes", "[I", true)
  | 37 => ("FarEndsModel", "ringMany", "[I", true)
  | 38 => ("FarEndsModel", "ways", "[I", true)
  | 39 => ("FarEndsModel", "untied", "[I", true)
  | _ => ("FarEndsModel", "bestWays", "[I", true)
def tyX11 : Nat → FieldType := fun k => match k with
  | 0 => .int
  | 1 => .array .int
  | 2 => .int
  | 3 => .int
  | 4 => .int
  | 5 => .int
  | 6 => .int
  | 7 => .array .int
  | 8 => .array .int
  | 9 => .array .int
  | 10 => .long
  | 11 => .int
  | 12 => .array .int
  | 13 => .int
  | 14 => .array .int
  | 15 => .array .int
  | 16 => .array .int
  | 17 => .int
  | 18 => .int
  | 19 => .int
  | 20 => .int
  | 21 => .int
  | 22 => .int
  | 23 => .array .int
  | 24 => .array .int
  | 25 => .int
  | 26 => .int
  | 27 => .array .int
  | 28 => .int
  | 29 => .array .int
  | 30 => .array .long
  | 31 => .array .int
  | 32 => .array .int
  | 33 => .array .int
  | 34 => .int
  | 35 => .array .int
  | 36 => .array .int
  | 37 => .array .int
  | 38 => .array .int
  | 39 => .array .int
  | _ => .array .int
abbrev wsX110 : List Cond := u_ws RX11 TX11 41
theorem nmX11 : ∀ a, a < 41 → ∀ b, b < 41 → a ≠ b → (TX11 a).2.1 ≠ (TX11 b).2.1 := by decide +kernel
theorem tyX11_ok : ∀ k, k < 41 → parseFieldDescriptor (TX11 k).2.2.1 = some (tyX11 k) := by decide +kernel
abbrev cX11_init : ByteArray := prog_13_method_1_code
def yX11_init : MethodName := ⟨RX11, "<init>", "()V"⟩
abbrev cX11_in : ByteArray := prog_13_method_2_code
def yX11_in : MethodName := ⟨RX11, "in", "(III)Z"⟩
abbrev cX11_has : ByteArray := prog_13_method_3_code
def yX11_has : MethodName := ⟨RX11, "has", "(II)Z"⟩
abbrev cX11_bits : ByteArray := prog_13_method_4_code
def yX11_bits : MethodName := ⟨RX11, "bits", "(I)I"⟩
abbrev cX11_isWire : ByteArray := prog_13_method_5_code
def yX11_isWire : MethodName := ⟨RX11, "isWire", "(I)Z"⟩
abbrev cX11_areEnds : ByteArray := prog_13_method_6_code
def yX11_areEnds : MethodName := ⟨RX11, "areEnds", "(II)Z"⟩
abbrev cX11_pair : ByteArray := prog_13_method_7_code
def yX11_pair : MethodName := ⟨RX11, "pair", "(II)I"⟩
abbrev cX11_doTouch : ByteArray := prog_13_method_8_code
def yX11_doTouch : MethodName := ⟨RX11, "doTouch", "(II)Z"⟩
abbrev cX11_touchMany : ByteArray := prog_13_method_9_code
def yX11_touchMany : MethodName := ⟨RX11, "touchMany", "()I"⟩
abbrev cX11_feed : ByteArray := prog_13_method_10_code
def yX11_feed : MethodName := ⟨RX11, "feed", "(I)I"⟩
abbrev cX11_skip : ByteArray := prog_13_method_11_code
def yX11_skip : MethodName := ⟨RX11, "skip", "()V"⟩
abbrev cX11_here : ByteArray := prog_13_method_12_code
def yX11_here : MethodName := ⟨RX11, "here", "()I"⟩
abbrev cX11_fails : ByteArray := prog_13_method_13_code
def yX11_fails : MethodName := ⟨RX11, "fails", "(II)Z"⟩
abbrev cX11_number : ByteArray := prog_13_method_14_code
def yX11_number : MethodName := ⟨RX11, "number", "(II)Z"⟩
abbrev cX11_ends : ByteArray := prog_13_method_15_code
def yX11_ends : MethodName := ⟨RX11, "ends", "()Z"⟩
abbrev cX11_isRead : ByteArray := prog_13_method_16_code
def yX11_isRead : MethodName := ⟨RX11, "isRead", "(I)Z"⟩
abbrev cX11_isWhole : ByteArray := prog_13_method_17_code
def yX11_isWhole : MethodName := ⟨RX11, "isWhole", "()Z"⟩
abbrev cX11_readsOne : ByteArray := prog_13_method_18_code
def yX11_readsOne : MethodName := ⟨RX11, "readsOne", "()Z"⟩
abbrev cX11_readsCable : ByteArray := prog_13_method_19_code
def yX11_readsCable : MethodName := ⟨RX11, "readsCable", "()Z"⟩
abbrev cX11_readsKind : ByteArray := prog_13_method_20_code
def yX11_readsKind : MethodName := ⟨RX11, "readsKind", "()Z"⟩
abbrev cX11_readsTouch : ByteArray := prog_13_method_21_code
def yX11_readsTouch : MethodName := ⟨RX11, "readsTouch", "()Z"⟩
abbrev cX11_readsClause : ByteArray := prog_13_method_22_code
def yX11_readsClause : MethodName := ⟨RX11, "readsClause", "()Z"⟩
abbrev cX11_readsAll : ByteArray := prog_13_method_23_code
def yX11_readsAll : MethodName := ⟨RX11, "readsAll", "()Z"⟩
abbrev cX11_cable : ByteArray := prog_13_method_24_code
def yX11_cable : MethodName := ⟨RX11, "cable", "()I"⟩
abbrev cX11_fault : ByteArray := prog_13_method_25_code
def yX11_fault : MethodName := ⟨RX11, "fault", "()I"⟩
abbrev cX11_passesBy : ByteArray := prog_13_method_26_code
def yX11_passesBy : MethodName := ⟨RX11, "passesBy", "(II)Z"⟩
abbrev cX11_farEndOf : ByteArray := prog_13_method_27_code
def yX11_farEndOf : MethodName := ⟨RX11, "farEndOf", "([II)I"⟩
abbrev cX11_together : ByteArray := prog_13_method_28_code
def yX11_together : MethodName := ⟨RX11, "together", "(II)I"⟩
abbrev cX11_joinedOnce : ByteArray := prog_13_method_29_code
def yX11_joinedOnce : MethodName := ⟨RX11, "joinedOnce", "(I[II[I[III)I"⟩
abbrev cX11_joined : ByteArray := prog_13_method_30_code
def yX11_joined : MethodName := ⟨RX11, "joined", "(I[II[I[III)I"⟩
abbrev cX11_netNow : ByteArray := prog_13_method_31_code
def yX11_netNow : MethodName := ⟨RX11, "netNow", "(III)I"⟩
abbrev cX11_bitOf : ByteArray := prog_13_method_32_code
def yX11_bitOf : MethodName := ⟨RX11, "bitOf", "(II)I"⟩
abbrev cX11_ringsNow : ByteArray := prog_13_method_33_code
def yX11_ringsNow : MethodName := ⟨RX11, "ringsNow", "(III)Z"⟩
abbrev cX11_goodSet : ByteArray := prog_13_method_34_code
def yX11_goodSet : MethodName := ⟨RX11, "goodSet", "()I"⟩
abbrev cX11_wire : ByteArray := prog_13_method_35_code
def yX11_wire : MethodName := ⟨RX11, "wire", "(II)I"⟩
abbrev cX11_net : ByteArray := prog_13_method_36_code
def yX11_net : MethodName := ⟨RX11, "net", "(II)I"⟩
abbrev cX11_rings : ByteArray := prog_13_method_37_code
def yX11_rings : MethodName := ⟨RX11, "rings", "(II)I"⟩
abbrev cX11_touches : ByteArray := prog_13_method_38_code
def yX11_touches : MethodName := ⟨RX11, "touches", "(II)I"⟩
abbrev cX11_lays : ByteArray := prog_13_method_39_code
def yX11_lays : MethodName := ⟨RX11, "lays", "([II)V"⟩
abbrev cX11_takes : ByteArray := prog_13_method_40_code
def yX11_takes : MethodName := ⟨RX11, "takes", "([II)V"⟩
abbrev cX11_notes : ByteArray := prog_13_method_41_code
def yX11_notes : MethodName := ⟨RX11, "notes", "()V"⟩
abbrev cX11_groupOf : ByteArray := prog_13_method_42_code
def yX11_groupOf : MethodName := ⟨RX11, "groupOf", "(I)I"⟩
abbrev cX11_comesInto : ByteArray := prog_13_method_43_code
def yX11_comesInto : MethodName := ⟨RX11, "comesInto", "(II)V"⟩
abbrev cX11_goesOver : ByteArray := prog_13_method_44_code
def yX11_goesOver : MethodName := ⟨RX11, "goesOver", "()V"⟩
abbrev cX11_tested : ByteArray := prog_13_method_45_code
def yX11_tested : MethodName := ⟨RX11, "tested", "()V"⟩
abbrev cX11_tie : ByteArray := prog_13_method_46_code
def yX11_tie : MethodName := ⟨RX11, "tie", "(II)I"⟩
abbrev cX11_cross : ByteArray := prog_13_method_47_code
def yX11_cross : MethodName := ⟨RX11, "cross", "()I"⟩
abbrev cX11_test : ByteArray := prog_13_method_48_code
def yX11_test : MethodName := ⟨RX11, "test", "(II)I"⟩
abbrev cX11_mayGoOn : ByteArray := prog_13_method_49_code
def yX11_mayGoOn : MethodName := ⟨RX11, "mayGoOn", "(I)I"⟩
abbrev cX11_rest : ByteArray := prog_13_method_50_code
def yX11_rest : MethodName := ⟨RX11, "rest", "(I)I"⟩
abbrev cX11_mend : ByteArray := prog_13_method_51_code
def yX11_mend : MethodName := ⟨RX11, "mend", "(II)I"⟩
abbrev cX11_touch : ByteArray := prog_13_method_52_code
def yX11_touch : MethodName := ⟨RX11, "touch", "(IIZ)I"⟩
abbrev cX11_draw : ByteArray := prog_13_method_53_code
def yX11_draw : MethodName := ⟨RX11, "draw", "(I)I"⟩
abbrev cX11_driftsHour : ByteArray := prog_13_method_54_code
def yX11_driftsHour : MethodName := ⟨RX11, "driftsHour", "()V"⟩
abbrev cX11_drift : ByteArray := prog_13_method_55_code
def yX11_drift : MethodName := ⟨RX11, "drift", "(I)I"⟩
abbrev cX11_undo : ByteArray := prog_13_method_56_code
def yX11_undo : MethodName := ⟨RX11, "undo", "()I"⟩
abbrev cX11_cut : ByteArray := prog_13_method_57_code
def yX11_cut : MethodName := ⟨RX11, "cut", "(II)I"⟩
abbrev cX11_firstOrder : ByteArray := prog_13_method_58_code
def yX11_firstOrder : MethodName := ⟨RX11, "firstOrder", "()V"⟩
abbrev cX11_nextOrder : ByteArray := prog_13_method_59_code
def yX11_nextOrder : MethodName := ⟨RX11, "nextOrder", "()Z"⟩
abbrev cX11_couldBe : ByteArray := prog_13_method_60_code
def yX11_couldBe : MethodName := ⟨RX11, "couldBe", "()Z"⟩
abbrev cX11_setCould : ByteArray := prog_13_method_61_code
def yX11_setCould : MethodName := ⟨RX11, "setCould", "()V"⟩
abbrev cX11_countsOrder : ByteArray := prog_13_method_62_code
def yX11_countsOrder : MethodName := ⟨RX11, "countsOrder", "()V"⟩
abbrev cX11_askPair : ByteArray := prog_13_method_63_code
def yX11_askPair : MethodName := ⟨RX11, "askPair", "()I"⟩
abbrev cX11_allRings : ByteArray := prog_13_method_64_code
def yX11_allRings : MethodName := ⟨RX11, "allRings", "(I[I[I[I)I"⟩
abbrev cX11_leftBy : ByteArray := prog_13_method_65_code
def yX11_leftBy : MethodName := ⟨RX11, "leftBy", "(I[I[I)I"⟩
abbrev cX11_end : ByteArray := prog_13_method_66_code
def yX11_end : MethodName := ⟨RX11, "end", "(II)I"⟩
abbrev cX11_nextWay : ByteArray := prog_13_method_67_code
def yX11_nextWay : MethodName := ⟨RX11, "nextWay", "()Z"⟩
abbrev cX11_ties : ByteArray := prog_13_method_68_code
def yX11_ties : MethodName := ⟨RX11, "ties", "(I)I"⟩
abbrev cX11_dry : ByteArray := prog_13_method_69_code
def yX11_dry : MethodName := ⟨RX11, "dry", "(II)I"⟩
abbrev cX11_see : ByteArray := prog_13_method_70_code
def yX11_see : MethodName := ⟨RX11, "see", "(IIZ)I"⟩
abbrev cX11_write : ByteArray := prog_13_method_71_code
def yX11_write : MethodName := ⟨RX11, "write", "(II)I"⟩
abbrev cX11_tear : ByteArray := prog_13_method_72_code
def yX11_tear : MethodName := ⟨RX11, "tear", "()I"⟩
abbrev cX11_judge : ByteArray := prog_13_method_73_code
def yX11_judge : MethodName := ⟨RX11, "judge", "()I"⟩
abbrev cX11_seed : ByteArray := prog_13_method_74_code
def yX11_seed : MethodName := ⟨RX11, "seed", "(I)I"⟩
abbrev cX11_keep : ByteArray := prog_13_method_75_code
def yX11_keep : MethodName := ⟨RX11, "keep", "(I)I"⟩
abbrev cX11_goBack : ByteArray := prog_13_method_76_code
def yX11_goBack : MethodName := ⟨RX11, "goBack", "(I)I"⟩
abbrev cX11_told : ByteArray := prog_13_method_77_code
def yX11_told : MethodName := ⟨RX11, "told", "(I)I"⟩
def RJ6 : String := "java/lang/Integer"
abbrev cJ6_bitCount_0f7a4 : ByteArray := prog_14_method_49_code
def yJ6_bitCount_0f7a4 : MethodName := ⟨RJ6, "bitCount", "(I)I"⟩
def RJ9 : String := "java/lang/Math"
abbrev cJ9_max_7cf53 : ByteArray := prog_15_method_65_code
def yJ9_max_7cf53 : MethodName := ⟨RJ9, "max", "(II)I"⟩
abbrev cJ9_min_7cf53 : ByteArray := prog_15_method_69_code
def yJ9_min_7cf53 : MethodName := ⟨RJ9, "min", "(II)I"⟩
def RJ10 : String := "java/lang/System"
def RL : String := "FarEndsLaw"
abbrev cL_law : ByteArray := code
def yL_law : MethodName := ⟨RL, "law", "([I)Z"⟩
abbrev vwCl : List vw_C := [(RX0, TX0, 1), (RX1, TX1, 4), (RX2, TX2, 3), (RX3, TX3, 2), (RX4, TX4, 1), (RX5, TX5, 3), (RX6, TX6, 11), (RX7, TX7, 8), (RX8, TX8, 8), (RX9, TX9, 1), (RX10, TX10, 16), (RX11, TX11, 41)]
end
section
theorem dX0_init_0 : decode cX0_init 0 = .ok (.aload_n 0, 1) := by decide +kernel
theorem dX0_init_1 : decode cX0_init 1 = .ok (.invokespecial 1, 3) := by decide +kernel
theorem dX0_init_4 : decode cX0_init 4 = .ok (.return_, 1) := by decide +kernel
theorem dX0_draw_0 : decode cX0_draw 0 = .ok (.aload_n 0, 1) := by decide +kernel
theorem dX0_draw_1 : decode cX0_draw 1 = .ok (.aload_n 0, 1) := by decide +kernel
theorem dX0_draw_2 : decode cX0_draw 2 = .ok (.getfield 7, 3) := by decide +kernel
theorem dX0_draw_5 : decode cX0_draw 5 = .ok (.i2l, 1) := by decide +kernel
theorem dX0_draw_6 : decode cX0_draw 6 = .ok (.ldc2_w 13, 3) := by decide +kernel
theorem dX0_draw_9 : decode cX0_draw 9 = .ok (.lmul, 1) := by decide +kernel
theorem dX0_draw_10 : decode cX0_draw 10 = .ok (.ldc2_w 15, 3) := by decide +kernel
theorem dX0_draw_13 : decode cX0_draw 13 = .ok (.ladd, 1) := by decide +kernel
theorem dX0_draw_14 : decode cX0_draw 14 = .ok (.ldc2_w 17, 3) := by decide +kernel
theorem dX0_draw_17 : decode cX0_draw 17 = .ok (.land, 1) := by decide +kernel
theorem dX0_draw_18 : decode cX0_draw 18 = .ok (.l2i, 1) := by decide +kernel
theorem dX0_draw_19 : decode cX0_draw 19 = .ok (.putfield 7, 3) := by decide +kernel
theorem dX0_draw_22 : decode cX0_draw 22 = .ok (.iload_n 1, 1) := by decide +kernel
theorem dX0_draw_23 : decode cX0_draw 23 = .ok (.ifCond .gt 7, 3) := by decide +kernel
theorem dX0_draw_26 : decode cX0_draw 26 = .ok (.iconst 0, 1) := by decide +kernel
theorem dX0_draw_27 : decode cX0_draw 27 = .ok (.goto 12, 3) := by decide +kernel
theorem dX0_draw_30 : decode cX0_draw 30 = .ok (.aload_n 0, 1) := by decide +kernel
theorem dX0_draw_31 : decode cX0_draw 31 = .ok (.getfield 7, 3) := by decide +kernel
theorem dX0_draw_34 : decode cX0_draw 34 = .ok (.ldc 19, 2) := by decide +kernel
theorem dX0_draw_36 : decode cX0_draw 36 = .ok (.idiv, 1) := by decide +kernel
theorem dX0_draw_37 : decode cX0_draw 37 = .ok (.iload_n 1, 1) := by decide +kernel
theorem dX0_draw_38 : decode cX0_draw 38 = .ok (.irem, 1) := by decide +kernel
theorem dX0_draw_39 : decode cX0_draw 39 = .ok (.ireturn, 1) := by decide +kernel
theorem dX1_init_0 : decode cX1_init 0 = .ok (.aload_n 0, 1) := by decide +kernel
theorem dX1_init_1 : decode cX1_init 1 = .ok (.invokespecial 3, 3) := by decide +kernel
theorem dX1_init_4 : decode cX1_init 4 = .ok (.aload_n 0, 1) := by decide +kernel
theorem dX1_init_5 : decode cX1_init 5 = .ok (.iconst 5, 1) := by decide +kernel
theorem dX1_init_6 : decode cX1_init 6 = .ok (.newarray .int, 2) := by decide +kernel
theorem dX1_init_8 : decode cX1_init 8 = .ok (.putfield 9, 3) := by decide +kernel
theorem dX1_init_11 : decode cX1_init 11 = .ok (.aload_n 0, 1) := by decide +kernel
theorem dX1_init_12 : decode cX1_init 12 = .ok (.iconst 5, 1) := by decide +kernel
theorem dX1_init_13 : decode cX1_init 13 = .ok (.newarray .int, 2) := by decide +kernel
theorem dX1_init_15 : decode cX1_init 15 = .ok (.putfield 15, 3) := by decide +kernel
theorem dX1_init_18 : decode cX1_init 18 = .ok (.aload_n 0, 1) := by decide +kernel
theorem dX1_init_19 : decode cX1_init 19 = .ok (.bipush 25, 2) := by decide +kernel
theorem dX1_init_21 : decode cX1_init 21 = .ok (.newarray .int, 2) := by decide +kernel
theorem dX1_init_23 : decode cX1_init 23 = .ok (.putfield 18, 3) := by decide +kernel
theorem dX1_init_26 : decode cX1_init 26 = .ok (.return_, 1) := by decide +kernel
theorem dX1_clear_0 : decode cX1_clear 0 = .ok (.aload_n 0, 1) := by decide +kernel
theorem dX1_clear_1 : decode cX1_clear 1 = .ok (.iconst 0, 1) := by decide +kernel
theorem dX1_clear_2 : decode cX1_clear 2 = .ok (.putfield 21, 3) := by decide +kernel
theorem dX1_clear_5 : decode cX1_clear 5 = .ok (.iconst 0, 1) := by decide +kernel
theorem dX1_clear_6 : decode cX1_clear 6 = .ok (.istore_n 1, 1) := by decide +kernel
theorem dX1_clear_7 : decode cX1_clear 7 = .ok (.iload_n 1, 1) := by decide +kernel
theorem dX1_clear_8 : decode cX1_clear 8 = .ok (.iconst 5, 1) := by decide +kernel
theorem dX1_clear_9 : decode cX1_clear 9 = .ok (.if_icmp .ge 23, 3) := by decide +kernel
theorem dX1_clear_12 : decode cX1_clear 12 = .ok (.aload_n 0, 1) := by decide +kernel
theorem dX1_clear_13 : decode cX1_clear 13 = .ok (.getfield 9, 3) := by decide +kernel
theorem dX1_clear_16 : decode cX1_clear 16 = .ok (.iload_n 1, 1) := by decide +kernel
theorem dX1_clear_17 : decode cX1_clear 17 = .ok (.iconst 0, 1) := by decide +kernel
theorem dX1_clear_18 : decode cX1_clear 18 = .ok (.iastore, 1) := by decide +kernel
theorem dX1_clear_19 : decode cX1_clear 19 = .ok (.aload_n 0, 1) := by decide +kernel
theorem dX1_clear_20 : decode cX1_clear 20 = .ok (.getfield 15, 3) := by decide +kernel
theorem dX1_clear_23 : decode cX1_clear 23 = .ok (.iload_n 1, 1) := by decide +kernel
theorem dX1_clear_24 : decode cX1_clear 24 = .ok (.iconst (-1), 1) := by decide +kernel
theorem dX1_clear_25 : decode cX1_clear 25 = .ok (.iastore, 1) := by decide +kernel
theorem dX1_clear_26 : decode cX1_clear 26 = .ok (.iinc 1 1, 3) := by decide +kernel
theorem dX1_clear_29 : decode cX1_clear 29 = .ok (.goto (-22), 3) := by decide +kernel
theorem dX1_clear_32 : decode cX1_clear 32 = .ok (.iconst 0, 1) := by decide +kernel
theorem dX1_clear_33 : decode cX1_clear 33 = .ok (.istore_n 1, 1) := by decide +kernel
theorem dX1_clear_34 : decode cX1_clear 34 = .ok (.iload_n 1, 1) := by decide +kernel
theorem dX1_clear_35 : decode cX1_clear 35 = .ok (.aload_n 0, 1) := by decide +kernel
theorem dX1_clear_36 : decode cX1_clear 36 = .ok (.getfield 18, 3) := by decide +kernel
theorem dX1_clear_39 : decode cX1_clear 39 = .ok (.arraylength, 1) := by decide +kernel
theorem dX1_clear_40 : decode cX1_clear 40 = .ok (.if_icmp .ge 16, 3) := by decide +kernel
theorem dX1_clear_43 : decode cX1_clear 43 = .ok (.aload_n 0, 1) := by decide +kernel
theorem dX1_clear_44 : decode cX1_clear 44 = .ok (.getfield 18, 3) := by decide +kernel
theorem dX1_clear_47 : decode cX1_clear 47 = .ok (.iload_n 1, 1) := by decide +kernel
theorem dX1_clear_48 : decode cX1_clear 48 = .ok (.iconst 0, 1) := by decide +kernel
theorem dX1_clear_49 : decode cX1_clear 49 = .ok (.iastore, 1) := by decide +kernel
theorem dX1_clear_50 : decode cX1_clear 50 = .ok (.iinc 1 1, 3) := by decide +kernel
theorem dX1_clear_53 : decode cX1_clear 53 = .ok (.goto (-19), 3) := by decide +kernel
theorem dX1_clear_56 : decode cX1_clear 56 = .ok (.return_, 1) := by decide +kernel
theorem dX1_add_0 : decode cX1_add 0 = .ok (.iconst 0, 1) := by decide +kernel
theorem dX1_add_1 : decode cX1_add 1 = .ok (.istore_n 3, 1) := by decide +kernel
theorem dX1_add_2 : decode cX1_add 2 = .ok (.iload_n 3, 1) := by decide +kernel
theorem dX1_add_3 : decode cX1_add 3 = .ok (.iload_n 2, 1) := by decide +kernel
theorem dX1_add_4 : decode cX1_add 4 = .ok (.if_icmp .ge 44, 3) := by decide +kernel
theorem dX1_add_7 : decode cX1_add 7 = .ok (.iload_n 3, 1) := by decide +kernel
theorem dX1_add_8 : decode cX1_add 8 = .ok (.iconst 5, 1) := by decide +kernel
theorem dX1_add_9 : decode cX1_add 9 = .ok (.if_icmp .ge 39, 3) := by decide +kernel
theorem dX1_add_12 : decode cX1_add 12 = .ok (.aload_n 0, 1) := by decide +kernel
theorem dX1_add_13 : decode cX1_add 13 = .ok (.getfield 9, 3) := by decide +kernel
theorem dX1_add_16 : decode cX1_add 16 = .ok (.iload_n 3, 1) := by decide +kernel
theorem dX1_add_17 : decode cX1_add 17 = .ok (.dup2, 1) := by decide +kernel
theorem dX1_add_18 : decode cX1_add 18 = .ok (.iaload, 1) := by decide +kernel
theorem dX1_add_19 : decode cX1_add 19 = .ok (.iconst 1, 1) := by decide +kernel
theorem dX1_add_20 : decode cX1_add 20 = .ok (.aload_n 1, 1) := by decide +kernel
theorem dX1_add_21 : decode cX1_add 21 = .ok (.iload_n 3, 1) := by decide +kernel
theorem dX1_add_22 : decode cX1_add 22 = .ok (.iaload, 1) := by decide +kernel
theorem dX1_add_23 : decode cX1_add 23 = .ok (.ishl, 1) := by decide +kernel
theorem dX1_add_24 : decode cX1_add 24 = .ok (.ior, 1) := by decide +kernel
theorem dX1_add_25 : decode cX1_add 25 = .ok (.iastore, 1) := by decide +kernel
theorem dX1_add_26 : decode cX1_add 26 = .ok (.aload_n 0, 1) := by decide +kernel
theorem dX1_add_27 : decode cX1_add 27 = .ok (.getfield 21, 3) := by decide +kernel
theorem dX1_add_30 : decode cX1_add 30 = .ok (.ifCond .ne 12, 3) := by decide +kernel
theorem dX1_add_33 : decode cX1_add 33 = .ok (.aload_n 0, 1) := by decide +kernel
theorem dX1_add_34 : decode cX1_add 34 = .ok (.getfield 15, 3) := by decide +kernel
theorem dX1_add_37 : decode cX1_add 37 = .ok (.iload_n 3, 1) := by decide +kernel
theorem dX1_add_38 : decode cX1_add 38 = .ok (.aload_n 1, 1) := by decide +kernel
theorem dX1_add_39 : decode cX1_add 39 = .ok (.iload_n 3, 1) := by decide +kernel
theorem dX1_add_40 : decode cX1_add 40 = .ok (.iaload, 1) := by decide +kernel
theorem dX1_add_41 : decode cX1_add 41 = .ok (.iastore, 1) := by decide +kernel
theorem dX1_add_42 : decode cX1_add 42 = .ok (.iinc 3 1, 3) := by decide +kernel
theorem dX1_add_45 : decode cX1_add 45 = .ok (.goto (-43), 3) := by decide +kernel
theorem dX1_add_48 : decode cX1_add 48 = .ok (.aload_n 0, 1) := by decide +kernel
theorem dX1_add_49 : decode cX1_add 49 = .ok (.dup, 1) := by decide +kernel
theorem dX1_add_50 : decode cX1_add 50 = .ok (.getfield 21, 3) := by decide +kernel
theorem dX1_add_53 : decode cX1_add 53 = .ok (.iconst 1, 1) := by decide +kernel
theorem dX1_add_54 : decode cX1_add 54 = .ok (.iadd, 1) := by decide +kernel
theorem dX1_add_55 : decode cX1_add 55 = .ok (.putfield 21, 3) := by decide +kernel
theorem dX1_add_58 : decode cX1_add 58 = .ok (.return_, 1) := by decide +kernel
theorem dX1_hear_0 : decode cX1_hear 0 = .ok (.iconst 0, 1) := by decide +kernel
theorem dX1_hear_1 : decode cX1_hear 1 = .ok (.istore 4, 2) := by decide +kernel
theorem dX1_hear_3 : decode cX1_hear 3 = .ok (.iload 4, 2) := by decide +kernel
theorem dX1_hear_5 : decode cX1_hear 5 = .ok (.iload_n 3, 1) := by decide +kernel
theorem dX1_hear_6 : decode cX1_hear 6 = .ok (.if_icmp .ge 74, 3) := by decide +kernel
theorem dX1_hear_9 : decode cX1_hear 9 = .ok (.iload 4, 2) := by decide +kernel
theorem dX1_hear_11 : decode cX1_hear 11 = .ok (.iconst 5, 1) := by decide +kernel
theorem dX1_hear_12 : decode cX1_hear 12 = .ok (.if_icmp .ge 68, 3) := by decide +kernel
theorem dX1_hear_15 : decode cX1_hear 15 = .ok (.iload 4, 2) := by decide +kernel
theorem dX1_hear_17 : decode cX1_hear 17 = .ok (.iconst 1, 1) := by decide +kernel
theorem dX1_hear_18 : decode cX1_hear 18 = .ok (.iadd, 1) := by decide +kernel
theorem dX1_hear_19 : decode cX1_hear 19 = .ok (.istore 5, 2) := by decide +kernel
theorem dX1_hear_21 : decode cX1_hear 21 = .ok (.iload 5, 2) := by decide +kernel
theorem dX1_hear_23 : decode cX1_hear 23 = .ok (.iload_n 3, 1) := by decide +kernel
theorem dX1_hear_24 : decode cX1_hear 24 = .ok (.if_icmp .ge 50, 3) := by decide +kernel
theorem dX1_hear_27 : decode cX1_hear 27 = .ok (.iload 5, 2) := by decide +kernel
theorem dX1_hear_29 : decode cX1_hear 29 = .ok (.iconst 5, 1) := by decide +kernel
theorem dX1_hear_30 : decode cX1_hear 30 = .ok (.if_icmp .ge 44, 3) := by decide +kernel
theorem dX1_hear_33 : decode cX1_hear 33 = .ok (.aload_n 1, 1) := by decide +kernel
theorem dX1_hear_34 : decode cX1_hear 34 = .ok (.iload_n 2, 1) := by decide +kernel
theorem dX1_hear_35 : decode cX1_hear 35 = .ok (.iload 4, 2) := by decide +kernel
theorem dX1_hear_37 : decode cX1_hear 37 = .ok (.invokestatic 25, 3) := by decide +kernel
theorem dX1_hear_40 : decode cX1_hear 40 = .ok (.iload_n 2, 1) := by decide +kernel
theorem dX1_hear_41 : decode cX1_hear 41 = .ok (.iload 5, 2) := by decide +kernel
theorem dX1_hear_43 : decode cX1_hear 43 = .ok (.invokestatic 25, 3) := by decide +kernel
theorem dX1_hear_46 : decode cX1_hear 46 = .ok (.invokevirtual 29, 3) := by decide +kernel
theorem dX1_hear_49 : decode cX1_hear 49 = .ok (.ifCond .eq 19, 3) := by decide +kernel
theorem dX1_hear_52 : decode cX1_hear 52 = .ok (.aload_n 0, 1) := by decide +kernel
theorem dX1_hear_53 : decode cX1_hear 53 = .ok (.getfield 18, 3) := by decide +kernel
theorem dX1_hear_56 : decode cX1_hear 56 = .ok (.iconst 5, 1) := by decide +kernel
theorem dX1_hear_57 : decode cX1_hear 57 = .ok (.iload 4, 2) := by decide +kernel
theorem dX1_hear_59 : decode cX1_hear 59 = .ok (.imul, 1) := by decide +kernel
theorem dX1_hear_60 : decode cX1_hear 60 = .ok (.iload 5, 2) := by decide +kernel
theorem dX1_hear_62 : decode cX1_hear 62 = .ok (.iadd, 1) := by decide +kernel
theorem dX1_hear_63 : decode cX1_hear 63 = .ok (.dup2, 1) := by decide +kernel
theorem dX1_hear_64 : decode cX1_hear 64 = .ok (.iaload, 1) := by decide +kernel
theorem dX1_hear_65 : decode cX1_hear 65 = .ok (.iconst 1, 1) := by decide +kernel
theorem dX1_hear_66 : decode cX1_hear 66 = .ok (.iadd, 1) := by decide +kernel
theorem dX1_hear_67 : decode cX1_hear 67 = .ok (.iastore, 1) := by decide +kernel
theorem dX1_hear_68 : decode cX1_hear 68 = .ok (.iinc 5 1, 3) := by decide +kernel
theorem dX1_hear_71 : decode cX1_hear 71 = .ok (.goto (-50), 3) := by decide +kernel
theorem dX1_hear_74 : decode cX1_hear 74 = .ok (.iinc 4 1, 3) := by decide +kernel
theorem dX1_hear_77 : decode cX1_hear 77 = .ok (.goto (-74), 3) := by decide +kernel
theorem dX1_hear_80 : decode cX1_hear 80 = .ok (.return_, 1) := by decide +kernel
theorem dX1_bestPair_0 : decode cX1_bestPair 0 = .ok (.iconst (-1), 1) := by decide +kernel
theorem dX1_bestPair_1 : decode cX1_bestPair 1 = .ok (.istore_n 2, 1) := by decide +kernel
theorem dX1_bestPair_2 : decode cX1_bestPair 2 = .ok (.aload_n 0, 1) := by decide +kernel
theorem dX1_bestPair_3 : decode cX1_bestPair 3 = .ok (.getfield 21, 3) := by decide +kernel
theorem dX1_bestPair_6 : decode cX1_bestPair 6 = .ok (.istore_n 3, 1) := by decide +kernel
theorem dX1_bestPair_7 : decode cX1_bestPair 7 = .ok (.iconst 0, 1) := by decide +kernel
theorem dX1_bestPair_8 : decode cX1_bestPair 8 = .ok (.istore 4, 2) := by decide +kernel
theorem dX1_bestPair_10 : decode cX1_bestPair 10 = .ok (.iload 4, 2) := by decide +kernel
theorem dX1_bestPair_12 : decode cX1_bestPair 12 = .ok (.iload_n 1, 1) := by decide +kernel
theorem dX1_bestPair_13 : decode cX1_bestPair 13 = .ok (.if_icmp .ge 85, 3) := by decide +kernel
theorem dX1_bestPair_16 : decode cX1_bestPair 16 = .ok (.iload 4, 2) := by decide +kernel
theorem dX1_bestPair_18 : decode cX1_bestPair 18 = .ok (.iconst 5, 1) := by decide +kernel
theorem dX1_bestPair_19 : decode cX1_bestPair 19 = .ok (.if_icmp .ge 79, 3) := by decide +kernel
theorem dX1_bestPair_22 : decode cX1_bestPair 22 = .ok (.iload 4, 2) := by decide +kernel
theorem dX1_bestPair_24 : decode cX1_bestPair 24 = .ok (.iconst 1, 1) := by decide +kernel
theorem dX1_bestPair_25 : decode cX1_bestPair 25 = .ok (.iadd, 1) := by decide +kernel
theorem dX1_bestPair_26 : decode cX1_bestPair 26 = .ok (.istore 5, 2) := by decide +kernel
theorem dX1_bestPair_28 : decode cX1_bestPair 28 = .ok (.iload 5, 2) := by decide +kernel
theorem dX1_bestPair_30 : decode cX1_bestPair 30 = .ok (.iload_n 1, 1) := by decide +kernel
theorem dX1_bestPair_31 : decode cX1_bestPair 31 = .ok (.if_icmp .ge 61, 3) := by decide +kernel
theorem dX1_bestPair_34 : decode cX1_bestPair 34 = .ok (.iload 5, 2) := by decide +kernel
theorem dX1_bestPair_36 : decode cX1_bestPair 36 = .ok (.iconst 5, 1) := by decide +kernel
theorem dX1_bestPair_37 : decode cX1_bestPair 37 = .ok (.if_icmp .ge 55, 3) := by decide +kernel
theorem dX1_bestPair_40 : decode cX1_bestPair 40 = .ok (.aload_n 0, 1) := by decide +kernel
theorem dX1_bestPair_41 : decode cX1_bestPair 41 = .ok (.getfield 18, 3) := by decide +kernel
theorem dX1_bestPair_44 : decode cX1_bestPair 44 = .ok (.iconst 5, 1) := by decide +kernel
theorem dX1_bestPair_45 : decode cX1_bestPair 45 = .ok (.iload 4, 2) := by decide +kernel
theorem dX1_bestPair_47 : decode cX1_bestPair 47 = .ok (.imul, 1) := by decide +kernel
theorem dX1_bestPair_48 : decode cX1_bestPair 48 = .ok (.iload 5, 2) := by decide +kernel
theorem dX1_bestPair_50 : decode cX1_bestPair 50 = .ok (.iadd, 1) := by decide +kernel
theorem dX1_bestPair_51 : decode cX1_bestPair 51 = .ok (.iaload, 1) := by decide +kernel
theorem dX1_bestPair_52 : decode cX1_bestPair 52 = .ok (.istore 6, 2) := by decide +kernel
theorem dX1_bestPair_54 : decode cX1_bestPair 54 = .ok (.iload 6, 2) := by decide +kernel
theorem dX1_bestPair_56 : decode cX1_bestPair 56 = .ok (.aload_n 0, 1) := by decide +kernel
theorem dX1_bestPair_57 : decode cX1_bestPair 57 = .ok (.getfield 21, 3) := by decide +kernel
theorem dX1_bestPair_60 : decode cX1_bestPair 60 = .ok (.iload 6, 2) := by decide +kernel
theorem dX1_bestPair_62 : decode cX1_bestPair 62 = .ok (.isub, 1) := by decide +kernel
theorem dX1_bestPair_63 : decode cX1_bestPair 63 = .ok (.invokestatic 35, 3) := by decide +kernel
theorem dX1_bestPair_66 : decode cX1_bestPair 66 = .ok (.istore 7, 2) := by decide +kernel
theorem dX1_bestPair_68 : decode cX1_bestPair 68 = .ok (.iload 7, 2) := by decide +kernel
theorem dX1_bestPair_70 : decode cX1_bestPair 70 = .ok (.iload_n 3, 1) := by decide +kernel
theorem dX1_bestPair_71 : decode cX1_bestPair 71 = .ok (.if_icmp .ge 15, 3) := by decide +kernel
theorem dX1_bestPair_74 : decode cX1_bestPair 74 = .ok (.iload 7, 2) := by decide +kernel
theorem dX1_bestPair_76 : decode cX1_bestPair 76 = .ok (.istore_n 3, 1) := by decide +kernel
theorem dX1_bestPair_77 : decode cX1_bestPair 77 = .ok (.bipush 10, 2) := by decide +kernel
theorem dX1_bestPair_79 : decode cX1_bestPair 79 = .ok (.iload 4, 2) := by decide +kernel
theorem dX1_bestPair_81 : decode cX1_bestPair 81 = .ok (.imul, 1) := by decide +kernel
theorem dX1_bestPair_82 : decode cX1_bestPair 82 = .ok (.iload 5, 2) := by decide +kernel
theorem dX1_bestPair_84 : decode cX1_bestPair 84 = .ok (.iadd, 1) := by decide +kernel
theorem dX1_bestPair_85 : decode cX1_bestPair 85 = .ok (.istore_n 2, 1) := by decide +kernel
theorem dX1_bestPair_86 : decode cX1_bestPair 86 = .ok (.iinc 5 1, 3) := by decide +kernel
theorem dX1_bestPair_89 : decode cX1_bestPair 89 = .ok (.goto (-61), 3) := by decide +kernel
theorem dX1_bestPair_92 : decode cX1_bestPair 92 = .ok (.iinc 4 1, 3) := by decide +kernel
theorem dX1_bestPair_95 : decode cX1_bestPair 95 = .ok (.goto (-85), 3) := by decide +kernel
theorem dX1_bestPair_98 : decode cX1_bestPair 98 = .ok (.iload_n 2, 1) := by decide +kernel
theorem dX1_bestPair_99 : decode cX1_bestPair 99 = .ok (.ireturn, 1) := by decide +kernel
theorem dX2_init_0 : decode cX2_init 0 = .ok (.aload_n 0, 1) := by decide +kernel
theorem dX2_init_1 : decode cX2_init 1 = .ok (.invokespecial 1, 3) := by decide +kernel
theorem dX2_init_4 : decode cX2_init 4 = .ok (.aload_n 0, 1) := by decide +kernel
theorem dX2_init_5 : decode cX2_init 5 = .ok (.new 7, 3) := by decide +kernel
theorem dX2_init_8 : decode cX2_init 8 = .ok (.dup, 1) := by decide +kernel
theorem dX2_init_9 : decode cX2_init 9 = .ok (.invokespecial 9, 3) := by decide +kernel
theorem dX2_init_12 : decode cX2_init 12 = .ok (.putfield 10, 3) := by decide +kernel
theorem dX2_init_15 : decode cX2_init 15 = .ok (.return_, 1) := by decide +kernel
theorem dX3_init_0 : decode cX3_init 0 = .ok (.aload_n 0, 1) := by decide +kernel
theorem dX3_init_1 : decode cX3_init 1 = .ok (.invokespecial 3, 3) := by decide +kernel
theorem dX3_init_4 : decode cX3_init 4 = .ok (.aload_n 0, 1) := by decide +kernel
theorem dX3_init_5 : decode cX3_init 5 = .ok (.bipush 11, 2) := by decide +kernel
theorem dX3_init_7 : decode cX3_init 7 = .ok (.newarray .int, 2) := by decide +kernel
theorem dX3_init_9 : decode cX3_init 9 = .ok (.putfield 9, 3) := by decide +kernel
theorem dX3_init_12 : decode cX3_init 12 = .ok (.aload_n 0, 1) := by decide +kernel
theorem dX3_init_13 : decode cX3_init 13 = .ok (.bipush 11, 2) := by decide +kernel
theorem dX3_init_15 : decode cX3_init 15 = .ok (.newarray .int, 2) := by decide +kernel
theorem dX3_init_17 : decode cX3_init 17 = .ok (.putfield 15, 3) := by decide +kernel
theorem dX3_init_20 : decode cX3_init 20 = .ok (.return_, 1) := by decide +kernel
theorem dX3_lay_0 : decode cX3_lay 0 = .ok (.iconst 0, 1) := by decide +kernel
theorem dX3_lay_1 : decode cX3_lay 1 = .ok (.istore 5, 2) := by decide +kernel
theorem dX3_lay_3 : decode cX3_lay 3 = .ok (.iload 5, 2) := by decide +kernel
theorem dX3_lay_5 : decode cX3_lay 5 = .ok (.bipush 11, 2) := by decide +kernel
theorem dX3_lay_7 : decode cX3_lay 7 = .ok (.if_icmp .ge 20, 3) := by decide +kernel
theorem dX3_lay_10 : decode cX3_lay 10 = .ok (.aload_n 0, 1) := by decide +kernel
theorem dX3_lay_11 : decode cX3_lay 11 = .ok (.getfield 9, 3) := by decide +kernel
theorem dX3_lay_14 : decode cX3_lay 14 = .ok (.iload 5, 2) := by decide +kernel
theorem dX3_lay_16 : decode cX3_lay 16 = .ok (.iconst 1, 1) := by decide +kernel
theorem dX3_lay_17 : decode cX3_lay 17 = .ok (.iload 5, 2) := by decide +kernel
theorem dX3_lay_19 : decode cX3_lay 19 = .ok (.ishl, 1) := by decide +kernel
theorem dX3_lay_20 : decode cX3_lay 20 = .ok (.iastore, 1) := by decide +kernel
theorem dX3_lay_21 : decode cX3_lay 21 = .ok (.iinc 5 1, 3) := by decide +kernel
theorem dX3_lay_24 : decode cX3_lay 24 = .ok (.goto (-21), 3) := by decide +kernel
theorem dX3_lay_27 : decode cX3_lay 27 = .ok (.iconst 0, 1) := by decide +kernel
theorem dX3_lay_28 : decode cX3_lay 28 = .ok (.istore 5, 2) := by decide +kernel
theorem dX3_lay_30 : decode cX3_lay 30 = .ok (.iload 5, 2) := by decide +kernel
theorem dX3_lay_32 : decode cX3_lay 32 = .ok (.iconst 5, 1) := by decide +kernel
theorem dX3_lay_33 : decode cX3_lay 33 = .ok (.if_icmp .ge 109, 3) := by decide +kernel
theorem dX3_lay_36 : decode cX3_lay 36 = .ok (.iload_n 1, 1) := by decide +kernel
theorem dX3_lay_37 : decode cX3_lay 37 = .ok (.iload 5, 2) := by decide +kernel
theorem dX3_lay_39 : decode cX3_lay 39 = .ok (.invokestatic 18, 3) := by decide +kernel
theorem dX3_lay_42 : decode cX3_lay 42 = .ok (.iconst 2, 1) := by decide +kernel
theorem dX3_lay_43 : decode cX3_lay 43 = .ok (.if_icmp .ne 14, 3) := by decide +kernel
theorem dX3_lay_46 : decode cX3_lay 46 = .ok (.aload_n 0, 1) := by decide +kernel
theorem dX3_lay_47 : decode cX3_lay 47 = .ok (.getfield 9, 3) := by decide +kernel
theorem dX3_lay_50 : decode cX3_lay 50 = .ok (.iload 5, 2) := by decide +kernel
theorem dX3_lay_52 : decode cX3_lay 52 = .ok (.bipush 10, 2) := by decide +kernel
theorem dX3_lay_54 : decode cX3_lay 54 = .ok (.invokestatic 22, 3) := by decide +kernel
theorem dX3_lay_57 : decode cX3_lay 57 = .ok (.iload 5, 2) := by decide +kernel
theorem dX3_lay_59 : decode cX3_lay 59 = .ok (.iconst 1, 1) := by decide +kernel
theorem dX3_lay_60 : decode cX3_lay 60 = .ok (.iadd, 1) := by decide +kernel
theorem dX3_lay_61 : decode cX3_lay 61 = .ok (.istore 6, 2) := by decide +kernel
theorem dX3_lay_63 : decode cX3_lay 63 = .ok (.iload 6, 2) := by decide +kernel
theorem dX3_lay_65 : decode cX3_lay 65 = .ok (.iconst 5, 1) := by decide +kernel
theorem dX3_lay_66 : decode cX3_lay 66 = .ok (.if_icmp .ge 70, 3) := by decide +kernel
theorem dX3_lay_69 : decode cX3_lay 69 = .ok (.iload_n 2, 1) := by decide +kernel
theorem dX3_lay_70 : decode cX3_lay 70 = .ok (.iload 5, 2) := by decide +kernel
theorem dX3_lay_72 : decode cX3_lay 72 = .ok (.iload 6, 2) := by decide +kernel
theorem dX3_lay_74 : decode cX3_lay 74 = .ok (.invokestatic 26, 3) := by decide +kernel
theorem dX3_lay_77 : decode cX3_lay 77 = .ok (.iand, 1) := by decide +kernel
theorem dX3_lay_78 : decode cX3_lay 78 = .ok (.ifCond .ne 14, 3) := by decide +kernel
theorem dX3_lay_81 : decode cX3_lay 81 = .ok (.iload_n 3, 1) := by decide +kernel
theorem dX3_lay_82 : decode cX3_lay 82 = .ok (.iload 5, 2) := by decide +kernel
theorem dX3_lay_84 : decode cX3_lay 84 = .ok (.iload 6, 2) := by decide +kernel
theorem dX3_lay_86 : decode cX3_lay 86 = .ok (.invokestatic 29, 3) := by decide +kernel
theorem dX3_lay_89 : decode cX3_lay 89 = .ok (.ifCond .eq 14, 3) := by decide +kernel
theorem dX3_lay_92 : decode cX3_lay 92 = .ok (.aload_n 0, 1) := by decide +kernel
theorem dX3_lay_93 : decode cX3_lay 93 = .ok (.getfield 9, 3) := by decide +kernel
theorem dX3_lay_96 : decode cX3_lay 96 = .ok (.iload 5, 2) := by decide +kernel
theorem dX3_lay_98 : decode cX3_lay 98 = .ok (.iload 6, 2) := by decide +kernel
theorem dX3_lay_100 : decode cX3_lay 100 = .ok (.invokestatic 22, 3) := by decide +kernel
theorem dX3_lay_103 : decode cX3_lay 103 = .ok (.iload 4, 2) := by decide +kernel
theorem dX3_lay_105 : decode cX3_lay 105 = .ok (.iload 5, 2) := by decide +kernel
theorem dX3_lay_107 : decode cX3_lay 107 = .ok (.iload 6, 2) := by decide +kernel
theorem dX3_lay_109 : decode cX3_lay 109 = .ok (.invokestatic 29, 3) := by decide +kernel
theorem dX3_lay_112 : decode cX3_lay 112 = .ok (.ifCond .eq 18, 3) := by decide +kernel
theorem dX3_lay_115 : decode cX3_lay 115 = .ok (.aload_n 0, 1) := by decide +kernel
theorem dX3_lay_116 : decode cX3_lay 116 = .ok (.getfield 9, 3) := by decide +kernel
theorem dX3_lay_119 : decode cX3_lay 119 = .ok (.iconst 5, 1) := by decide +kernel
theorem dX3_lay_120 : decode cX3_lay 120 = .ok (.iload 5, 2) := by decide +kernel
theorem dX3_lay_122 : decode cX3_lay 122 = .ok (.iadd, 1) := by decide +kernel
theorem dX3_lay_123 : decode cX3_lay 123 = .ok (.iconst 5, 1) := by decide +kernel
theorem dX3_lay_124 : decode cX3_lay 124 = .ok (.iload 6, 2) := by decide +kernel
theorem dX3_lay_126 : decode cX3_lay 126 = .ok (.iadd, 1) := by decide +kernel
theorem dX3_lay_127 : decode cX3_lay 127 = .ok (.invokestatic 22, 3) := by decide +kernel
theorem dX3_lay_130 : decode cX3_lay 130 = .ok (.iinc 6 1, 3) := by decide +kernel
theorem dX3_lay_133 : decode cX3_lay 133 = .ok (.goto (-70), 3) := by decide +kernel
theorem dX3_lay_136 : decode cX3_lay 136 = .ok (.iinc 5 1, 3) := by decide +kernel
theorem dX3_lay_139 : decode cX3_lay 139 = .ok (.goto (-109), 3) := by decide +kernel
theorem dX3_lay_142 : decode cX3_lay 142 = .ok (.return_, 1) := by decide +kernel
theorem dX3_join_0 : decode cX3_join 0 = .ok (.aload_n 0, 1) := by decide +kernel
theorem dX3_join_1 : decode cX3_join 1 = .ok (.getfield 9, 3) := by decide +kernel
theorem dX3_join_4 : decode cX3_join 4 = .ok (.iconst 0, 1) := by decide +kernel
theorem dX3_join_5 : decode cX3_join 5 = .ok (.aload_n 0, 1) := by decide +kernel
theorem dX3_join_6 : decode cX3_join 6 = .ok (.getfield 15, 3) := by decide +kernel
theorem dX3_join_9 : decode cX3_join 9 = .ok (.iconst 0, 1) := by decide +kernel
theorem dX3_join_10 : decode cX3_join 10 = .ok (.bipush 11, 2) := by decide +kernel
theorem dX3_join_12 : decode cX3_join 12 = .ok (.invokestatic 33, 3) := by decide +kernel
theorem dX3_join_15 : decode cX3_join 15 = .ok (.iconst 0, 1) := by decide +kernel
theorem dX3_join_16 : decode cX3_join 16 = .ok (.istore 4, 2) := by decide +kernel
theorem dX3_join_18 : decode cX3_join 18 = .ok (.iload 4, 2) := by decide +kernel
theorem dX3_join_20 : decode cX3_join 20 = .ok (.iload_n 2, 1) := by decide +kernel
theorem dX3_join_21 : decode cX3_join 21 = .ok (.if_icmp .ge 44, 3) := by decide +kernel
theorem dX3_join_24 : decode cX3_join 24 = .ok (.iload 4, 2) := by decide +kernel
theorem dX3_join_26 : decode cX3_join 26 = .ok (.aload_n 1, 1) := by decide +kernel
theorem dX3_join_27 : decode cX3_join 27 = .ok (.arraylength, 1) := by decide +kernel
theorem dX3_join_28 : decode cX3_join 28 = .ok (.if_icmp .ge 37, 3) := by decide +kernel
theorem dX3_join_31 : decode cX3_join 31 = .ok (.aload_n 1, 1) := by decide +kernel
theorem dX3_join_32 : decode cX3_join 32 = .ok (.iload 4, 2) := by decide +kernel
theorem dX3_join_34 : decode cX3_join 34 = .ok (.iaload, 1) := by decide +kernel
theorem dX3_join_35 : decode cX3_join 35 = .ok (.istore 5, 2) := by decide +kernel
theorem dX3_join_37 : decode cX3_join 37 = .ok (.iload_n 3, 1) := by decide +kernel
theorem dX3_join_38 : decode cX3_join 38 = .ok (.iload 5, 2) := by decide +kernel
theorem dX3_join_40 : decode cX3_join 40 = .ok (.ishr, 1) := by decide +kernel
theorem dX3_join_41 : decode cX3_join 41 = .ok (.iconst 1, 1) := by decide +kernel
theorem dX3_join_42 : decode cX3_join 42 = .ok (.iand, 1) := by decide +kernel
theorem dX3_join_43 : decode cX3_join 43 = .ok (.ifCond .eq 16, 3) := by decide +kernel
theorem dX3_join_46 : decode cX3_join 46 = .ok (.aload_n 0, 1) := by decide +kernel
theorem dX3_join_47 : decode cX3_join 47 = .ok (.getfield 15, 3) := by decide +kernel
theorem dX3_join_50 : decode cX3_join 50 = .ok (.iload 5, 2) := by decide +kernel
theorem dX3_join_52 : decode cX3_join 52 = .ok (.iconst 5, 1) := by decide +kernel
theorem dX3_join_53 : decode cX3_join 53 = .ok (.iload 4, 2) := by decide +kernel
theorem dX3_join_55 : decode cX3_join 55 = .ok (.iadd, 1) := by decide +kernel
theorem dX3_join_56 : decode cX3_join 56 = .ok (.invokestatic 22, 3) := by decide +kernel
theorem dX3_join_59 : decode cX3_join 59 = .ok (.iinc 4 1, 3) := by decide +kernel
theorem dX3_join_62 : decode cX3_join 62 = .ok (.goto (-44), 3) := by decide +kernel
theorem dX3_join_65 : decode cX3_join 65 = .ok (.return_, 1) := by decide +kernel
theorem dX3_of_0 : decode cX3_of 0 = .ok (.iload_n 1, 1) := by decide +kernel
theorem dX3_of_1 : decode cX3_of 1 = .ok (.ifCond .lt 18, 3) := by decide +kernel
theorem dX3_of_4 : decode cX3_of 4 = .ok (.iload_n 1, 1) := by decide +kernel
theorem dX3_of_5 : decode cX3_of 5 = .ok (.bipush 11, 2) := by decide +kernel
theorem dX3_of_7 : decode cX3_of 7 = .ok (.if_icmp .ge 12, 3) := by decide +kernel
theorem dX3_of_10 : decode cX3_of 10 = .ok (.aload_n 0, 1) := by decide +kernel
theorem dX3_of_11 : decode cX3_of 11 = .ok (.getfield 15, 3) := by decide +kernel
theorem dX3_of_14 : decode cX3_of 14 = .ok (.iload_n 1, 1) := by decide +kernel
theorem dX3_of_15 : decode cX3_of 15 = .ok (.iaload, 1) := by decide +kernel
theorem dX3_of_16 : decode cX3_of 16 = .ok (.goto 4, 3) := by decide +kernel
theorem dX3_of_19 : decode cX3_of 19 = .ok (.iconst 0, 1) := by decide +kernel
theorem dX3_of_20 : decode cX3_of 20 = .ok (.ireturn, 1) := by decide +kernel
theorem dX3_bare_0 : decode cX3_bare 0 = .ok (.iload_n 1, 1) := by decide +kernel
theorem dX3_bare_1 : decode cX3_bare 1 = .ok (.ifCond .lt 18, 3) := by decide +kernel
theorem dX3_bare_4 : decode cX3_bare 4 = .ok (.iload_n 1, 1) := by decide +kernel
theorem dX3_bare_5 : decode cX3_bare 5 = .ok (.bipush 11, 2) := by decide +kernel
theorem dX3_bare_7 : decode cX3_bare 7 = .ok (.if_icmp .ge 12, 3) := by decide +kernel
theorem dX3_bare_10 : decode cX3_bare 10 = .ok (.aload_n 0, 1) := by decide +kernel
theorem dX3_bare_11 : decode cX3_bare 11 = .ok (.getfield 9, 3) := by decide +kernel
theorem dX3_bare_14 : decode cX3_bare 14 = .ok (.iload_n 1, 1) := by decide +kernel
theorem dX3_bare_15 : decode cX3_bare 15 = .ok (.iaload, 1) := by decide +kernel
theorem dX3_bare_16 : decode cX3_bare 16 = .ok (.goto 4, 3) := by decide +kernel
theorem dX3_bare_19 : decode cX3_bare 19 = .ok (.iconst 0, 1) := by decide +kernel
theorem dX3_bare_20 : decode cX3_bare 20 = .ok (.ireturn, 1) := by decide +kernel
theorem dX3_isEarthedBare_0 : decode cX3_isEarthedBare 0 = .ok (.aload_n 0, 1) := by decide +kernel
theorem dX3_isEarthedBare_1 : decode cX3_isEarthedBare 1 = .ok (.iload_n 1, 1) := by decide +kernel
theorem dX3_isEarthedBare_2 : decode cX3_isEarthedBare 2 = .ok (.invokevirtual 39, 3) := by decide +kernel
theorem dX3_isEarthedBare_5 : decode cX3_isEarthedBare 5 = .ok (.bipush 10, 2) := by decide +kernel
theorem dX3_isEarthedBare_7 : decode cX3_isEarthedBare 7 = .ok (.ishr, 1) := by decide +kernel
theorem dX3_isEarthedBare_8 : decode cX3_isEarthedBare 8 = .ok (.iconst 1, 1) := by decide +kernel
theorem dX3_isEarthedBare_9 : decode cX3_isEarthedBare 9 = .ok (.iand, 1) := by decide +kernel
theorem dX3_isEarthedBare_10 : decode cX3_isEarthedBare 10 = .ok (.ifCond .eq 7, 3) := by decide +kernel
theorem dX3_isEarthedBare_13 : decode cX3_isEarthedBare 13 = .ok (.iconst 1, 1) := by decide +kernel
theorem dX3_isEarthedBare_14 : decode cX3_isEarthedBare 14 = .ok (.goto 4, 3) := by decide +kernel
theorem dX3_isEarthedBare_17 : decode cX3_isEarthedBare 17 = .ok (.iconst 0, 1) := by decide +kernel
theorem dX3_isEarthedBare_18 : decode cX3_isEarthedBare 18 = .ok (.ireturn, 1) := by decide +kernel
theorem dX3_areJoined_0 : decode cX3_areJoined 0 = .ok (.aload_n 0, 1) := by decide +kernel
theorem dX3_areJoined_1 : decode cX3_areJoined 1 = .ok (.iload_n 1, 1) := by decide +kernel
theorem dX3_areJoined_2 : decode cX3_areJoined 2 = .ok (.invokevirtual 42, 3) := by decide +kernel
theorem dX3_areJoined_5 : decode cX3_areJoined 5 = .ok (.iload_n 2, 1) := by decide +kernel
theorem dX3_areJoined_6 : decode cX3_areJoined 6 = .ok (.ishr, 1) := by decide +kernel
theorem dX3_areJoined_7 : decode cX3_areJoined 7 = .ok (.iconst 1, 1) := by decide +kernel
theorem dX3_areJoined_8 : decode cX3_areJoined 8 = .ok (.iand, 1) := by decide +kernel
theorem dX3_areJoined_9 : decode cX3_areJoined 9 = .ok (.ifCond .eq 7, 3) := by decide +kernel
theorem dX3_areJoined_12 : decode cX3_areJoined 12 = .ok (.iconst 1, 1) := by decide +kernel
theorem dX3_areJoined_13 : decode cX3_areJoined 13 = .ok (.goto 4, 3) := by decide +kernel
theorem dX3_areJoined_16 : decode cX3_areJoined 16 = .ok (.iconst 0, 1) := by decide +kernel
theorem dX3_areJoined_17 : decode cX3_areJoined 17 = .ok (.ireturn, 1) := by decide +kernel
theorem dX3_pattern_0 : decode cX3_pattern 0 = .ok (.iload_n 1, 1) := by decide +kernel
theorem dX3_pattern_1 : decode cX3_pattern 1 = .ok (.iconst 0, 1) := by decide +kernel
theorem dX3_pattern_2 : decode cX3_pattern 2 = .ok (.invokestatic 45, 3) := by decide +kernel
theorem dX3_pattern_5 : decode cX3_pattern 5 = .ok (.istore_n 3, 1) := by decide +kernel
theorem dX3_pattern_6 : decode cX3_pattern 6 = .ok (.iconst 0, 1) := by decide +kernel
theorem dX3_pattern_7 : decode cX3_pattern 7 = .ok (.istore 4, 2) := by decide +kernel
theorem dX3_pattern_9 : decode cX3_pattern 9 = .ok (.iconst 0, 1) := by decide +kernel
theorem dX3_pattern_10 : decode cX3_pattern 10 = .ok (.istore 5, 2) := by decide +kernel
theorem dX3_pattern_12 : decode cX3_pattern 12 = .ok (.iload 5, 2) := by decide +kernel
theorem dX3_pattern_14 : decode cX3_pattern 14 = .ok (.iload_n 2, 1) := by decide +kernel
theorem dX3_pattern_15 : decode cX3_pattern 15 = .ok (.if_icmp .ge 51, 3) := by decide +kernel
theorem dX3_pattern_18 : decode cX3_pattern 18 = .ok (.aload_n 0, 1) := by decide +kernel
theorem dX3_pattern_19 : decode cX3_pattern 19 = .ok (.iload_n 3, 1) := by decide +kernel
theorem dX3_pattern_20 : decode cX3_pattern 20 = .ok (.iload 5, 2) := by decide +kernel
theorem dX3_pattern_22 : decode cX3_pattern 22 = .ok (.iadd, 1) := by decide +kernel
theorem dX3_pattern_23 : decode cX3_pattern 23 = .ok (.invokevirtual 42, 3) := by decide +kernel
theorem dX3_pattern_26 : decode cX3_pattern 26 = .ok (.istore 6, 2) := by decide +kernel
theorem dX3_pattern_28 : decode cX3_pattern 28 = .ok (.iload 6, 2) := by decide +kernel
theorem dX3_pattern_30 : decode cX3_pattern 30 = .ok (.iload_n 3, 1) := by decide +kernel
theorem dX3_pattern_31 : decode cX3_pattern 31 = .ok (.ishr, 1) := by decide +kernel
theorem dX3_pattern_32 : decode cX3_pattern 32 = .ok (.bipush 31, 2) := by decide +kernel
theorem dX3_pattern_34 : decode cX3_pattern 34 = .ok (.iand, 1) := by decide +kernel
theorem dX3_pattern_35 : decode cX3_pattern 35 = .ok (.iload 6, 2) := by decide +kernel
theorem dX3_pattern_37 : decode cX3_pattern 37 = .ok (.bipush 10, 2) := by decide +kernel
theorem dX3_pattern_39 : decode cX3_pattern 39 = .ok (.ishr, 1) := by decide +kernel
theorem dX3_pattern_40 : decode cX3_pattern 40 = .ok (.iconst 1, 1) := by decide +kernel
theorem dX3_pattern_41 : decode cX3_pattern 41 = .ok (.iand, 1) := by decide +kernel
theorem dX3_pattern_42 : decode cX3_pattern 42 = .ok (.iconst 5, 1) := by decide +kernel
theorem dX3_pattern_43 : decode cX3_pattern 43 = .ok (.ishl, 1) := by decide +kernel
theorem dX3_pattern_44 : decode cX3_pattern 44 = .ok (.ior, 1) := by decide +kernel
theorem dX3_pattern_45 : decode cX3_pattern 45 = .ok (.istore 7, 2) := by decide +kernel
theorem dX3_pattern_47 : decode cX3_pattern 47 = .ok (.iload 4, 2) := by decide +kernel
theorem dX3_pattern_49 : decode cX3_pattern 49 = .ok (.iload 7, 2) := by decide +kernel
theorem dX3_pattern_51 : decode cX3_pattern 51 = .ok (.bipush 6, 2) := by decide +kernel
theorem dX3_pattern_53 : decode cX3_pattern 53 = .ok (.iload 5, 2) := by decide +kernel
theorem dX3_pattern_55 : decode cX3_pattern 55 = .ok (.imul, 1) := by decide +kernel
theorem dX3_pattern_56 : decode cX3_pattern 56 = .ok (.ishl, 1) := by decide +kernel
theorem dX3_pattern_57 : decode cX3_pattern 57 = .ok (.ior, 1) := by decide +kernel
theorem dX3_pattern_58 : decode cX3_pattern 58 = .ok (.istore 4, 2) := by decide +kernel
theorem dX3_pattern_60 : decode cX3_pattern 60 = .ok (.iinc 5 1, 3) := by decide +kernel
theorem dX3_pattern_63 : decode cX3_pattern 63 = .ok (.goto (-51), 3) := by decide +kernel
theorem dX3_pattern_66 : decode cX3_pattern 66 = .ok (.iload 4, 2) := by decide +kernel
theorem dX3_pattern_68 : decode cX3_pattern 68 = .ok (.ireturn, 1) := by decide +kernel
theorem dX3_areTied_0 : decode cX3_areTied 0 = .ok (.iload_n 0, 1) := by decide +kernel
theorem dX3_areTied_1 : decode cX3_areTied 1 = .ok (.iload_n 1, 1) := by decide +kernel
theorem dX3_areTied_2 : decode cX3_areTied 2 = .ok (.invokestatic 18, 3) := by decide +kernel
theorem dX3_areTied_5 : decode cX3_areTied 5 = .ok (.istore_n 3, 1) := by decide +kernel
theorem dX3_areTied_6 : decode cX3_areTied 6 = .ok (.iload_n 3, 1) := by decide +kernel
theorem dX3_areTied_7 : decode cX3_areTied 7 = .ok (.ifCond .eq 16, 3) := by decide +kernel
theorem dX3_areTied_10 : decode cX3_areTied 10 = .ok (.iload_n 3, 1) := by decide +kernel
theorem dX3_areTied_11 : decode cX3_areTied 11 = .ok (.iload_n 0, 1) := by decide +kernel
theorem dX3_areTied_12 : decode cX3_areTied 12 = .ok (.iload_n 2, 1) := by decide +kernel
theorem dX3_areTied_13 : decode cX3_areTied 13 = .ok (.invokestatic 18, 3) := by decide +kernel
theorem dX3_areTied_16 : decode cX3_areTied 16 = .ok (.if_icmp .ne 7, 3) := by decide +kernel
theorem dX3_areTied_19 : decode cX3_areTied 19 = .ok (.iconst 1, 1) := by decide +kernel
theorem dX3_areTied_20 : decode cX3_areTied 20 = .ok (.goto 4, 3) := by decide +kernel
theorem dX3_areTied_23 : decode cX3_areTied 23 = .ok (.iconst 0, 1) := by decide +kernel
theorem dX3_areTied_24 : decode cX3_areTied 24 = .ok (.ireturn, 1) := by decide +kernel
theorem dX3_merge_0 : decode cX3_merge 0 = .ok (.iload_n 1, 1) := by decide +kernel
theorem dX3_merge_1 : decode cX3_merge 1 = .ok (.ifCond .lt 28, 3) := by decide +kernel
theorem dX3_merge_4 : decode cX3_merge 4 = .ok (.iload_n 1, 1) := by decide +kernel
theorem dX3_merge_5 : decode cX3_merge 5 = .ok (.aload_n 0, 1) := by decide +kernel
theorem dX3_merge_6 : decode cX3_merge 6 = .ok (.arraylength, 1) := by decide +kernel
theorem dX3_merge_7 : decode cX3_merge 7 = .ok (.if_icmp .ge 22, 3) := by decide +kernel
theorem dX3_merge_10 : decode cX3_merge 10 = .ok (.iload_n 2, 1) := by decide +kernel
theorem dX3_merge_11 : decode cX3_merge 11 = .ok (.ifCond .lt 18, 3) := by decide +kernel
theorem dX3_merge_14 : decode cX3_merge 14 = .ok (.iload_n 2, 1) := by decide +kernel
theorem dX3_merge_15 : decode cX3_merge 15 = .ok (.aload_n 0, 1) := by decide +kernel
theorem dX3_merge_16 : decode cX3_merge 16 = .ok (.arraylength, 1) := by decide +kernel
theorem dX3_merge_17 : decode cX3_merge 17 = .ok (.if_icmp .ge 12, 3) := by decide +kernel
theorem dX3_merge_20 : decode cX3_merge 20 = .ok (.aload_n 0, 1) := by decide +kernel
theorem dX3_merge_21 : decode cX3_merge 21 = .ok (.iload_n 1, 1) := by decide +kernel
theorem dX3_merge_22 : decode cX3_merge 22 = .ok (.iaload, 1) := by decide +kernel
theorem dX3_merge_23 : decode cX3_merge 23 = .ok (.aload_n 0, 1) := by decide +kernel
theorem dX3_merge_24 : decode cX3_merge 24 = .ok (.iload_n 2, 1) := by decide +kernel
theorem dX3_merge_25 : decode cX3_merge 25 = .ok (.iaload, 1) := by decide +kernel
theorem dX3_merge_26 : decode cX3_merge 26 = .ok (.if_icmp .ne 4, 3) := by decide +kernel
theorem dX3_merge_29 : decode cX3_merge 29 = .ok (.return_, 1) := by decide +kernel
theorem dX3_merge_30 : decode cX3_merge 30 = .ok (.aload_n 0, 1) := by decide +kernel
theorem dX3_merge_31 : decode cX3_merge 31 = .ok (.iload_n 1, 1) := by decide +kernel
theorem dX3_merge_32 : decode cX3_merge 32 = .ok (.iaload, 1) := by decide +kernel
theorem dX3_merge_33 : decode cX3_merge 33 = .ok (.aload_n 0, 1) := by decide +kernel
theorem dX3_merge_34 : decode cX3_merge 34 = .ok (.iload_n 2, 1) := by decide +kernel
theorem dX3_merge_35 : decode cX3_merge 35 = .ok (.iaload, 1) := by decide +kernel
theorem dX3_merge_36 : decode cX3_merge 36 = .ok (.ior, 1) := by decide +kernel
theorem dX3_merge_37 : decode cX3_merge 37 = .ok (.istore_n 3, 1) := by decide +kernel
theorem dX3_merge_38 : decode cX3_merge 38 = .ok (.iconst 0, 1) := by decide +kernel
theorem dX3_merge_39 : decode cX3_merge 39 = .ok (.istore 4, 2) := by decide +kernel
theorem dX3_merge_41 : decode cX3_merge 41 = .ok (.iload 4, 2) := by decide +kernel
theorem dX3_merge_43 : decode cX3_merge 43 = .ok (.aload_n 0, 1) := by decide +kernel
theorem dX3_merge_44 : decode cX3_merge 44 = .ok (.arraylength, 1) := by decide +kernel
theorem dX3_merge_45 : decode cX3_merge 45 = .ok (.if_icmp .ge 23, 3) := by decide +kernel
theorem dX3_merge_48 : decode cX3_merge 48 = .ok (.iload_n 3, 1) := by decide +kernel
theorem dX3_merge_49 : decode cX3_merge 49 = .ok (.iload 4, 2) := by decide +kernel
theorem dX3_merge_51 : decode cX3_merge 51 = .ok (.ishr, 1) := by decide +kernel
theorem dX3_merge_52 : decode cX3_merge 52 = .ok (.iconst 1, 1) := by decide +kernel
theorem dX3_merge_53 : decode cX3_merge 53 = .ok (.iand, 1) := by decide +kernel
theorem dX3_merge_54 : decode cX3_merge 54 = .ok (.ifCond .eq 8, 3) := by decide +kernel
theorem dX3_merge_57 : decode cX3_merge 57 = .ok (.aload_n 0, 1) := by decide +kernel
theorem dX3_merge_58 : decode cX3_merge 58 = .ok (.iload 4, 2) := by decide +kernel
theorem dX3_merge_60 : decode cX3_merge 60 = .ok (.iload_n 3, 1) := by decide +kernel
theorem dX3_merge_61 : decode cX3_merge 61 = .ok (.iastore, 1) := by decide +kernel
theorem dX3_merge_62 : decode cX3_merge 62 = .ok (.iinc 4 1, 3) := by decide +kernel
theorem dX3_merge_65 : decode cX3_merge 65 = .ok (.goto (-24), 3) := by decide +kernel
theorem dX3_merge_68 : decode cX3_merge 68 = .ok (.return_, 1) := by decide +kernel
theorem dX4_init_0 : decode cX4_init 0 = .ok (.aload_n 0, 1) := by decide +kernel
theorem dX4_init_1 : decode cX4_init 1 = .ok (.invokespecial 3, 3) := by decide +kernel
theorem dX4_init_4 : decode cX4_init 4 = .ok (.aload_n 0, 1) := by decide +kernel
theorem dX4_init_5 : decode cX4_init 5 = .ok (.iconst 5, 1) := by decide +kernel
theorem dX4_init_6 : decode cX4_init 6 = .ok (.newarray .int, 2) := by decide +kernel
theorem dX4_init_8 : decode cX4_init 8 = .ok (.putfield 9, 3) := by decide +kernel
theorem dX4_init_11 : decode cX4_init 11 = .ok (.return_, 1) := by decide +kernel
theorem dX4_start_0 : decode cX4_start 0 = .ok (.iconst 0, 1) := by decide +kernel
theorem dX4_start_1 : decode cX4_start 1 = .ok (.istore_n 1, 1) := by decide +kernel
theorem dX4_start_2 : decode cX4_start 2 = .ok (.iload_n 1, 1) := by decide +kernel
theorem dX4_start_3 : decode cX4_start 3 = .ok (.iconst 5, 1) := by decide +kernel
theorem dX4_start_4 : decode cX4_start 4 = .ok (.if_icmp .ge 16, 3) := by decide +kernel
theorem dX4_start_7 : decode cX4_start 7 = .ok (.aload_n 0, 1) := by decide +kernel
theorem dX4_start_8 : decode cX4_start 8 = .ok (.getfield 9, 3) := by decide +kernel
theorem dX4_start_11 : decode cX4_start 11 = .ok (.iload_n 1, 1) := by decide +kernel
theorem dX4_start_12 : decode cX4_start 12 = .ok (.iload_n 1, 1) := by decide +kernel
theorem dX4_start_13 : decode cX4_start 13 = .ok (.iastore, 1) := by decide +kernel
theorem dX4_start_14 : decode cX4_start 14 = .ok (.iinc 1 1, 3) := by decide +kernel
theorem dX4_start_17 : decode cX4_start 17 = .ok (.goto (-15), 3) := by decide +kernel
theorem dX4_start_20 : decode cX4_start 20 = .ok (.return_, 1) := by decide +kernel
theorem dX4_advance_0 : decode cX4_advance 0 = .ok (.iload_n 1, 1) := by decide +kernel
theorem dX4_advance_1 : decode cX4_advance 1 = .ok (.iconst 5, 1) := by decide +kernel
theorem dX4_advance_2 : decode cX4_advance 2 = .ok (.invokestatic 15, 3) := by decide +kernel
theorem dX4_advance_5 : decode cX4_advance 5 = .ok (.istore_n 2, 1) := by decide +kernel
theorem dX4_advance_6 : decode cX4_advance 6 = .ok (.iload_n 2, 1) := by decide +kernel
theorem dX4_advance_7 : decode cX4_advance 7 = .ok (.iconst 2, 1) := by decide +kernel
theorem dX4_advance_8 : decode cX4_advance 8 = .ok (.isub, 1) := by decide +kernel
theorem dX4_advance_9 : decode cX4_advance 9 = .ok (.istore_n 3, 1) := by decide +kernel
theorem dX4_advance_10 : decode cX4_advance 10 = .ok (.iload_n 3, 1) := by decide +kernel
theorem dX4_advance_11 : decode cX4_advance 11 = .ok (.ifCond .lt 26, 3) := by decide +kernel
theorem dX4_advance_14 : decode cX4_advance 14 = .ok (.aload_n 0, 1) := by decide +kernel
theorem dX4_advance_15 : decode cX4_advance 15 = .ok (.getfield 9, 3) := by decide +kernel
theorem dX4_advance_18 : decode cX4_advance 18 = .ok (.iload_n 3, 1) := by decide +kernel
theorem dX4_advance_19 : decode cX4_advance 19 = .ok (.iaload, 1) := by decide +kernel
theorem dX4_advance_20 : decode cX4_advance 20 = .ok (.aload_n 0, 1) := by decide +kernel
theorem dX4_advance_21 : decode cX4_advance 21 = .ok (.getfield 9, 3) := by decide +kernel
theorem dX4_advance_24 : decode cX4_advance 24 = .ok (.iload_n 3, 1) := by decide +kernel
theorem dX4_advance_25 : decode cX4_advance 25 = .ok (.iconst 1, 1) := by decide +kernel
theorem dX4_advance_26 : decode cX4_advance 26 = .ok (.iadd, 1) := by decide +kernel
theorem dX4_advance_27 : decode cX4_advance 27 = .ok (.iaload, 1) := by decide +kernel
theorem dX4_advance_28 : decode cX4_advance 28 = .ok (.if_icmp .le 9, 3) := by decide +kernel
theorem dX4_advance_31 : decode cX4_advance 31 = .ok (.iinc 3 (-1), 3) := by decide +kernel
theorem dX4_advance_34 : decode cX4_advance 34 = .ok (.goto (-24), 3) := by decide +kernel
theorem dX4_advance_37 : decode cX4_advance 37 = .ok (.iload_n 3, 1) := by decide +kernel
theorem dX4_advance_38 : decode cX4_advance 38 = .ok (.ifCond .ge 4, 3) := by decide +kernel
theorem dX4_advance_41 : decode cX4_advance 41 = .ok (.return_, 1) := by decide +kernel
theorem dX4_advance_42 : decode cX4_advance 42 = .ok (.iload_n 2, 1) := by decide +kernel
theorem dX4_advance_43 : decode cX4_advance 43 = .ok (.iconst 1, 1) := by decide +kernel
theorem dX4_advance_44 : decode cX4_advance 44 = .ok (.isub, 1) := by decide +kernel
theorem dX4_advance_45 : decode cX4_advance 45 = .ok (.istore 4, 2) := by decide +kernel
theorem dX4_advance_47 : decode cX4_advance 47 = .ok (.iload 4, 2) := by decide +kernel
theorem dX4_advance_49 : decode cX4_advance 49 = .ok (.iload_n 3, 1) := by decide +kernel
theorem dX4_advance_50 : decode cX4_advance 50 = .ok (.iconst 1, 1) := by decide +kernel
theorem dX4_advance_51 : decode cX4_advance 51 = .ok (.iadd, 1) := by decide +kernel
theorem dX4_advance_52 : decode cX4_advance 52 = .ok (.if_icmp .le 25, 3) := by decide +kernel
theorem dX4_advance_55 : decode cX4_advance 55 = .ok (.aload_n 0, 1) := by decide +kernel
theorem dX4_advance_56 : decode cX4_advance 56 = .ok (.getfield 9, 3) := by decide +kernel
theorem dX4_advance_59 : decode cX4_advance 59 = .ok (.iload 4, 2) := by decide +kernel
theorem dX4_advance_61 : decode cX4_advance 61 = .ok (.iaload, 1) := by decide +kernel
theorem dX4_advance_62 : decode cX4_advance 62 = .ok (.aload_n 0, 1) := by decide +kernel
theorem dX4_advance_63 : decode cX4_advance 63 = .ok (.getfield 9, 3) := by decide +kernel
theorem dX4_advance_66 : decode cX4_advance 66 = .ok (.iload_n 3, 1) := by decide +kernel
theorem dX4_advance_67 : decode cX4_advance 67 = .ok (.iaload, 1) := by decide +kernel
theorem dX4_advance_68 : decode cX4_advance 68 = .ok (.if_icmp .ge 9, 3) := by decide +kernel
theorem dX4_advance_71 : decode cX4_advance 71 = .ok (.iinc 4 (-1), 3) := by decide +kernel
theorem dX4_advance_74 : decode cX4_advance 74 = .ok (.goto (-27), 3) := by decide +kernel
theorem dX4_advance_77 : decode cX4_advance 77 = .ok (.aload_n 0, 1) := by decide +kernel
theorem dX4_advance_78 : decode cX4_advance 78 = .ok (.iload_n 3, 1) := by decide +kernel
theorem dX4_advance_79 : decode cX4_advance 79 = .ok (.iload 4, 2) := by decide +kernel
theorem dX4_advance_81 : decode cX4_advance 81 = .ok (.invokevirtual 21, 3) := by decide +kernel
theorem dX4_advance_84 : decode cX4_advance 84 = .ok (.iload_n 3, 1) := by decide +kernel
theorem dX4_advance_85 : decode cX4_advance 85 = .ok (.iconst 1, 1) := by decide +kernel
theorem dX4_advance_86 : decode cX4_advance 86 = .ok (.iadd, 1) := by decide +kernel
theorem dX4_advance_87 : decode cX4_advance 87 = .ok (.istore 5, 2) := by decide +kernel
theorem dX4_advance_89 : decode cX4_advance 89 = .ok (.iload_n 2, 1) := by decide +kernel
theorem dX4_advance_90 : decode cX4_advance 90 = .ok (.iconst 1, 1) := by decide +kernel
theorem dX4_advance_91 : decode cX4_advance 91 = .ok (.isub, 1) := by decide +kernel
theorem dX4_advance_92 : decode cX4_advance 92 = .ok (.istore 6, 2) := by decide +kernel
theorem dX4_advance_94 : decode cX4_advance 94 = .ok (.iload 6, 2) := by decide +kernel
theorem dX4_advance_96 : decode cX4_advance 96 = .ok (.iload 5, 2) := by decide +kernel
theorem dX4_advance_98 : decode cX4_advance 98 = .ok (.if_icmp .le 20, 3) := by decide +kernel
theorem dX4_advance_101 : decode cX4_advance 101 = .ok (.aload_n 0, 1) := by decide +kernel
theorem dX4_advance_102 : decode cX4_advance 102 = .ok (.iload 5, 2) := by decide +kernel
theorem dX4_advance_104 : decode cX4_advance 104 = .ok (.iload 6, 2) := by decide +kernel
theorem dX4_advance_106 : decode cX4_advance 106 = .ok (.invokevirtual 21, 3) := by decide +kernel
theorem dX4_advance_109 : decode cX4_advance 109 = .ok (.iinc 5 1, 3) := by decide +kernel
theorem dX4_advance_112 : decode cX4_advance 112 = .ok (.iinc 6 (-1), 3) := by decide +kernel
theorem dX4_advance_115 : decode cX4_advance 115 = .ok (.goto (-21), 3) := by decide +kernel
theorem dX4_advance_118 : decode cX4_advance 118 = .ok (.return_, 1) := by decide +kernel
theorem dX4_swap_0 : decode cX4_swap 0 = .ok (.aload_n 0, 1) := by decide +kernel
theorem dX4_swap_1 : decode cX4_swap 1 = .ok (.getfield 9, 3) := by decide +kernel
theorem dX4_swap_4 : decode cX4_swap 4 = .ok (.iload_n 1, 1) := by decide +kernel
theorem dX4_swap_5 : decode cX4_swap 5 = .ok (.iaload, 1) := by decide +kernel
theorem dX4_swap_6 : decode cX4_swap 6 = .ok (.istore_n 3, 1) := by decide +kernel
theorem dX4_swap_7 : decode cX4_swap 7 = .ok (.aload_n 0, 1) := by decide +kernel
theorem dX4_swap_8 : decode cX4_swap 8 = .ok (.getfield 9, 3) := by decide +kernel
theorem dX4_swap_11 : decode cX4_swap 11 = .ok (.iload_n 1, 1) := by decide +kernel
theorem dX4_swap_12 : decode cX4_swap 12 = .ok (.aload_n 0, 1) := by decide +kernel
theorem dX4_swap_13 : decode cX4_swap 13 = .ok (.getfield 9, 3) := by decide +kernel
theorem dX4_swap_16 : decode cX4_swap 16 = .ok (.iload_n 2, 1) := by decide +kernel
theorem dX4_swap_17 : decode cX4_swap 17 = .ok (.iaload, 1) := by decide +kernel
theorem dX4_swap_18 : decode cX4_swap 18 = .ok (.iastore, 1) := by decide +kernel
theorem dX4_swap_19 : decode cX4_swap 19 = .ok (.aload_n 0, 1) := by decide +kernel
theorem dX4_swap_20 : decode cX4_swap 20 = .ok (.getfield 9, 3) := by decide +kernel
theorem dX4_swap_23 : decode cX4_swap 23 = .ok (.iload_n 2, 1) := by decide +kernel
theorem dX4_swap_24 : decode cX4_swap 24 = .ok (.iload_n 3, 1) := by decide +kernel
theorem dX4_swap_25 : decode cX4_swap 25 = .ok (.iastore, 1) := by decide +kernel
theorem dX4_swap_26 : decode cX4_swap 26 = .ok (.return_, 1) := by decide +kernel
theorem dX5_init_0 : decode cX5_init 0 = .ok (.aload_n 0, 1) := by decide +kernel
theorem dX5_init_1 : decode cX5_init 1 = .ok (.invokespecial 3, 3) := by decide +kernel
theorem dX5_init_4 : decode cX5_init 4 = .ok (.aload_n 0, 1) := by decide +kernel
theorem dX5_init_5 : decode cX5_init 5 = .ok (.bipush 16, 2) := by decide +kernel
theorem dX5_init_7 : decode cX5_init 7 = .ok (.anewarray 9, 3) := by decide +kernel
theorem dX5_init_10 : decode cX5_init 10 = .ok (.putfield 11, 3) := by decide +kernel
theorem dX5_init_13 : decode cX5_init 13 = .ok (.iconst 0, 1) := by decide +kernel
theorem dX5_init_14 : decode cX5_init 14 = .ok (.istore_n 1, 1) := by decide +kernel
theorem dX5_init_15 : decode cX5_init 15 = .ok (.iload_n 1, 1) := by decide +kernel
theorem dX5_init_16 : decode cX5_init 16 = .ok (.bipush 16, 2) := by decide +kernel
theorem dX5_init_18 : decode cX5_init 18 = .ok (.if_icmp .ge 22, 3) := by decide +kernel
theorem dX5_init_21 : decode cX5_init 21 = .ok (.aload_n 0, 1) := by decide +kernel
theorem dX5_init_22 : decode cX5_init 22 = .ok (.getfield 11, 3) := by decide +kernel
theorem dX5_init_25 : decode cX5_init 25 = .ok (.iload_n 1, 1) := by decide +kernel
theorem dX5_init_26 : decode cX5_init 26 = .ok (.new 9, 3) := by decide +kernel
theorem dX5_init_29 : decode cX5_init 29 = .ok (.dup, 1) := by decide +kernel
theorem dX5_init_30 : decode cX5_init 30 = .ok (.invokespecial 17, 3) := by decide +kernel
theorem dX5_init_33 : decode cX5_init 33 = .ok (.aastore, 1) := by decide +kernel
theorem dX5_init_34 : decode cX5_init 34 = .ok (.iinc 1 1, 3) := by decide +kernel
theorem dX5_init_37 : decode cX5_init 37 = .ok (.goto (-22), 3) := by decide +kernel
theorem dX5_init_40 : decode cX5_init 40 = .ok (.return_, 1) := by decide +kernel
theorem dX5_clear_0 : decode cX5_clear 0 = .ok (.aload_n 0, 1) := by decide +kernel
theorem dX5_clear_1 : decode cX5_clear 1 = .ok (.iconst 0, 1) := by decide +kernel
theorem dX5_clear_2 : decode cX5_clear 2 = .ok (.putfield 18, 3) := by decide +kernel
theorem dX5_clear_5 : decode cX5_clear 5 = .ok (.aload_n 0, 1) := by decide +kernel
theorem dX5_clear_6 : decode cX5_clear 6 = .ok (.iconst 0, 1) := by decide +kernel
theorem dX5_clear_7 : decode cX5_clear 7 = .ok (.putfield 22, 3) := by decide +kernel
theorem dX5_clear_10 : decode cX5_clear 10 = .ok (.return_, 1) := by decide +kernel
theorem dX5_remember_0 : decode cX5_remember 0 = .ok (.aload_n 0, 1) := by decide +kernel
theorem dX5_remember_1 : decode cX5_remember 1 = .ok (.getfield 22, 3) := by decide +kernel
theorem dX5_remember_4 : decode cX5_remember 4 = .ok (.ifCond .lt 12, 3) := by decide +kernel
theorem dX5_remember_7 : decode cX5_remember 7 = .ok (.aload_n 0, 1) := by decide +kernel
theorem dX5_remember_8 : decode cX5_remember 8 = .ok (.getfield 22, 3) := by decide +kernel
theorem dX5_remember_11 : decode cX5_remember 11 = .ok (.bipush 16, 2) := by decide +kernel
theorem dX5_remember_13 : decode cX5_remember 13 = .ok (.if_icmp .lt 8, 3) := by decide +kernel
theorem dX5_remember_16 : decode cX5_remember 16 = .ok (.aload_n 0, 1) := by decide +kernel
theorem dX5_remember_17 : decode cX5_remember 17 = .ok (.iconst 0, 1) := by decide +kernel
theorem dX5_remember_18 : decode cX5_remember 18 = .ok (.putfield 22, 3) := by decide +kernel
theorem dX5_remember_21 : decode cX5_remember 21 = .ok (.aload_n 0, 1) := by decide +kernel
theorem dX5_remember_22 : decode cX5_remember 22 = .ok (.getfield 11, 3) := by decide +kernel
theorem dX5_remember_25 : decode cX5_remember 25 = .ok (.aload_n 0, 1) := by decide +kernel
theorem dX5_remember_26 : decode cX5_remember 26 = .ok (.getfield 22, 3) := by decide +kernel
theorem dX5_remember_29 : decode cX5_remember 29 = .ok (.aaload, 1) := by decide +kernel
theorem dX5_remember_30 : decode cX5_remember 30 = .ok (.aload_n 1, 1) := by decide +kernel
theorem dX5_remember_31 : decode cX5_remember 31 = .ok (.invokevirtual 25, 3) := by decide +kernel
theorem dX5_remember_34 : decode cX5_remember 34 = .ok (.aload_n 0, 1) := by decide +kernel
theorem dX5_remember_35 : decode cX5_remember 35 = .ok (.aload_n 0, 1) := by decide +kernel
theorem dX5_remember_36 : decode cX5_remember 36 = .ok (.getfield 22, 3) := by decide +kernel
theorem dX5_remember_39 : decode cX5_remember 39 = .ok (.iconst 1, 1) := by decide +kernel
theorem dX5_remember_40 : decode cX5_remember 40 = .ok (.iadd, 1) := by decide +kernel
theorem dX5_remember_41 : decode cX5_remember 41 = .ok (.bipush 16, 2) := by decide +kernel
theorem dX5_remember_43 : decode cX5_remember 43 = .ok (.irem, 1) := by decide +kernel
theorem dX5_remember_44 : decode cX5_remember 44 = .ok (.putfield 22, 3) := by decide +kernel
theorem dX5_remember_47 : decode cX5_remember 47 = .ok (.aload_n 0, 1) := by decide +kernel
theorem dX5_remember_48 : decode cX5_remember 48 = .ok (.aload_n 0, 1) := by decide +kernel
theorem dX5_remember_49 : decode cX5_remember 49 = .ok (.getfield 18, 3) := by decide +kernel
theorem dX5_remember_52 : decode cX5_remember 52 = .ok (.iconst 1, 1) := by decide +kernel
theorem dX5_remember_53 : decode cX5_remember 53 = .ok (.iadd, 1) := by decide +kernel
theorem dX5_remember_54 : decode cX5_remember 54 = .ok (.bipush 16, 2) := by decide +kernel
theorem dX5_remember_56 : decode cX5_remember 56 = .ok (.invokestatic 29, 3) := by decide +kernel
theorem dX5_remember_59 : decode cX5_remember 59 = .ok (.putfield 18, 3) := by decide +kernel
theorem dX5_remember_62 : decode cX5_remember 62 = .ok (.return_, 1) := by decide +kernel
theorem dX5_restore_0 : decode cX5_restore 0 = .ok (.aload_n 0, 1) := by decide +kernel
theorem dX5_restore_1 : decode cX5_restore 1 = .ok (.getfield 18, 3) := by decide +kernel
theorem dX5_restore_4 : decode cX5_restore 4 = .ok (.ifCond .ne 4, 3) := by decide +kernel
theorem dX5_restore_7 : decode cX5_restore 7 = .ok (.return_, 1) := by decide +kernel
theorem dX5_restore_8 : decode cX5_restore 8 = .ok (.aload_n 0, 1) := by decide +kernel
theorem dX5_restore_9 : decode cX5_restore 9 = .ok (.aload_n 0, 1) := by decide +kernel
theorem dX5_restore_10 : decode cX5_restore 10 = .ok (.getfield 22, 3) := by decide +kernel
theorem dX5_restore_13 : decode cX5_restore 13 = .ok (.ifCond .le 21, 3) := by decide +kernel
theorem dX5_restore_16 : decode cX5_restore 16 = .ok (.aload_n 0, 1) := by decide +kernel
theorem dX5_restore_17 : decode cX5_restore 17 = .ok (.getfield 22, 3) := by decide +kernel
theorem dX5_restore_20 : decode cX5_restore 20 = .ok (.bipush 16, 2) := by decide +kernel
theorem dX5_restore_22 : decode cX5_restore 22 = .ok (.if_icmp .ge 12, 3) := by decide +kernel
theorem dX5_restore_25 : decode cX5_restore 25 = .ok (.aload_n 0, 1) := by decide +kernel
theorem dX5_restore_26 : decode cX5_restore 26 = .ok (.getfield 22, 3) := by decide +kernel
theorem dX5_restore_29 : decode cX5_restore 29 = .ok (.iconst 1, 1) := by decide +kernel
theorem dX5_restore_30 : decode cX5_restore 30 = .ok (.isub, 1) := by decide +kernel
theorem dX5_restore_31 : decode cX5_restore 31 = .ok (.goto 5, 3) := by decide +kernel
theorem dX5_restore_34 : decode cX5_restore 34 = .ok (.bipush 15, 2) := by decide +kernel
theorem dX5_restore_36 : decode cX5_restore 36 = .ok (.putfield 22, 3) := by decide +kernel
theorem dX5_restore_39 : decode cX5_restore 39 = .ok (.aload_n 1, 1) := by decide +kernel
theorem dX5_restore_40 : decode cX5_restore 40 = .ok (.aload_n 0, 1) := by decide +kernel
theorem dX5_restore_41 : decode cX5_restore 41 = .ok (.getfield 11, 3) := by decide +kernel
theorem dX5_restore_44 : decode cX5_restore 44 = .ok (.aload_n 0, 1) := by decide +kernel
theorem dX5_restore_45 : decode cX5_restore 45 = .ok (.getfield 22, 3) := by decide +kernel
theorem dX5_restore_48 : decode cX5_restore 48 = .ok (.aaload, 1) := by decide +kernel
theorem dX5_restore_49 : decode cX5_restore 49 = .ok (.invokevirtual 25, 3) := by decide +kernel
theorem dX5_restore_52 : decode cX5_restore 52 = .ok (.aload_n 0, 1) := by decide +kernel
theorem dX5_restore_53 : decode cX5_restore 53 = .ok (.dup, 1) := by decide +kernel
theorem dX5_restore_54 : decode cX5_restore 54 = .ok (.getfield 18, 3) := by decide +kernel
theorem dX5_restore_57 : decode cX5_restore 57 = .ok (.iconst 1, 1) := by decide +kernel
theorem dX5_restore_58 : decode cX5_restore 58 = .ok (.isub, 1) := by decide +kernel
theorem dX5_restore_59 : decode cX5_restore 59 = .ok (.putfield 18, 3) := by decide +kernel
theorem dX5_restore_62 : decode cX5_restore 62 = .ok (.return_, 1) := by decide +kernel
theorem dX6_init_0 : decode cX6_init 0 = .ok (.aload_n 0, 1) := by decide +kernel
theorem dX6_init_1 : decode cX6_init 1 = .ok (.invokespecial 3, 3) := by decide +kernel
theorem dX6_init_4 : decode cX6_init 4 = .ok (.aload_n 0, 1) := by decide +kernel
theorem dX6_init_5 : decode cX6_init 5 = .ok (.sipush 240, 3) := by decide +kernel
theorem dX6_init_8 : decode cX6_init 8 = .ok (.newarray .int, 2) := by decide +kernel
theorem dX6_init_10 : decode cX6_init 10 = .ok (.putfield 9, 3) := by decide +kernel
theorem dX6_init_13 : decode cX6_init 13 = .ok (.aload_n 0, 1) := by decide +kernel
theorem dX6_init_14 : decode cX6_init 14 = .ok (.iconst (-1), 1) := by decide +kernel
theorem dX6_init_15 : decode cX6_init 15 = .ok (.putfield 15, 3) := by decide +kernel
theorem dX6_init_18 : decode cX6_init 18 = .ok (.aload_n 0, 1) := by decide +kernel
theorem dX6_init_19 : decode cX6_init 19 = .ok (.iconst 5, 1) := by decide +kernel
theorem dX6_init_20 : decode cX6_init 20 = .ok (.newarray .int, 2) := by decide +kernel
theorem dX6_init_22 : decode cX6_init 22 = .ok (.putfield 19, 3) := by decide +kernel
theorem dX6_init_25 : decode cX6_init 25 = .ok (.return_, 1) := by decide +kernel
theorem dX6_add_0 : decode cX6_add 0 = .ok (.aload_n 0, 1) := by decide +kernel
theorem dX6_add_1 : decode cX6_add 1 = .ok (.getfield 22, 3) := by decide +kernel
theorem dX6_add_4 : decode cX6_add 4 = .ok (.ifCond .lt 13, 3) := by decide +kernel
theorem dX6_add_7 : decode cX6_add 7 = .ok (.aload_n 0, 1) := by decide +kernel
theorem dX6_add_8 : decode cX6_add 8 = .ok (.getfield 22, 3) := by decide +kernel
theorem dX6_add_11 : decode cX6_add 11 = .ok (.sipush 240, 3) := by decide +kernel
theorem dX6_add_14 : decode cX6_add 14 = .ok (.if_icmp .lt 5, 3) := by decide +kernel
theorem dX6_add_17 : decode cX6_add 17 = .ok (.iconst 0, 1) := by decide +kernel
theorem dX6_add_18 : decode cX6_add 18 = .ok (.ireturn, 1) := by decide +kernel
theorem dX6_add_19 : decode cX6_add 19 = .ok (.aload_n 0, 1) := by decide +kernel
theorem dX6_add_20 : decode cX6_add 20 = .ok (.getfield 9, 3) := by decide +kernel
theorem dX6_add_23 : decode cX6_add 23 = .ok (.aload_n 0, 1) := by decide +kernel
theorem dX6_add_24 : decode cX6_add 24 = .ok (.getfield 22, 3) := by decide +kernel
theorem dX6_add_27 : decode cX6_add 27 = .ok (.iload_n 1, 1) := by decide +kernel
theorem dX6_add_28 : decode cX6_add 28 = .ok (.iastore, 1) := by decide +kernel
theorem dX6_add_29 : decode cX6_add 29 = .ok (.aload_n 0, 1) := by decide +kernel
theorem dX6_add_30 : decode cX6_add 30 = .ok (.dup, 1) := by decide +kernel
theorem dX6_add_31 : decode cX6_add 31 = .ok (.getfield 22, 3) := by decide +kernel
theorem dX6_add_34 : decode cX6_add 34 = .ok (.iconst 1, 1) := by decide +kernel
theorem dX6_add_35 : decode cX6_add 35 = .ok (.iadd, 1) := by decide +kernel
theorem dX6_add_36 : decode cX6_add 36 = .ok (.putfield 22, 3) := by decide +kernel
theorem dX6_add_39 : decode cX6_add 39 = .ok (.iconst 1, 1) := by decide +kernel
theorem dX6_add_40 : decode cX6_add 40 = .ok (.ireturn, 1) := by decide +kernel
theorem dX6_read_0 : decode cX6_read 0 = .ok (.aload_n 0, 1) := by decide +kernel
theorem dX6_read_1 : decode cX6_read 1 = .ok (.iconst 0, 1) := by decide +kernel
theorem dX6_read_2 : decode cX6_read 2 = .ok (.putfield 25, 3) := by decide +kernel
theorem dX6_read_5 : decode cX6_read 5 = .ok (.aload_n 0, 1) := by decide +kernel
theorem dX6_read_6 : decode cX6_read 6 = .ok (.iconst 0, 1) := by decide +kernel
theorem dX6_read_7 : decode cX6_read 7 = .ok (.putfield 28, 3) := by decide +kernel
theorem dX6_read_10 : decode cX6_read 10 = .ok (.aload_n 0, 1) := by decide +kernel
theorem dX6_read_11 : decode cX6_read 11 = .ok (.iconst 0, 1) := by decide +kernel
theorem dX6_read_12 : decode cX6_read 12 = .ok (.putfield 31, 3) := by decide +kernel
theorem dX6_read_15 : decode cX6_read 15 = .ok (.aload_n 0, 1) := by decide +kernel
theorem dX6_read_16 : decode cX6_read 16 = .ok (.iconst 0, 1) := by decide +kernel
theorem dX6_read_17 : decode cX6_read 17 = .ok (.putfield 34, 3) := by decide +kernel
theorem dX6_read_20 : decode cX6_read 20 = .ok (.aload_n 0, 1) := by decide +kernel
theorem dX6_read_21 : decode cX6_read 21 = .ok (.iconst 0, 1) := by decide +kernel
theorem dX6_read_22 : decode cX6_read 22 = .ok (.putfield 37, 3) := by decide +kernel
theorem dX6_read_25 : decode cX6_read 25 = .ok (.aload_n 0, 1) := by decide +kernel
theorem dX6_read_26 : decode cX6_read 26 = .ok (.iconst (-1), 1) := by decide +kernel
theorem dX6_read_27 : decode cX6_read 27 = .ok (.putfield 15, 3) := by decide +kernel
theorem dX6_read_30 : decode cX6_read 30 = .ok (.aload_n 0, 1) := by decide +kernel
theorem dX6_read_31 : decode cX6_read 31 = .ok (.invokevirtual 40, 3) := by decide +kernel
theorem dX6_read_34 : decode cX6_read 34 = .ok (.iconst (-1), 1) := by decide +kernel
theorem dX6_read_35 : decode cX6_read 35 = .ok (.if_icmp .eq 41, 3) := by decide +kernel
theorem dX6_read_38 : decode cX6_read 38 = .ok (.aload_n 0, 1) := by decide +kernel
theorem dX6_read_39 : decode cX6_read 39 = .ok (.invokevirtual 44, 3) := by decide +kernel
theorem dX6_read_42 : decode cX6_read 42 = .ok (.iconst 0, 1) := by decide +kernel
theorem dX6_read_43 : decode cX6_read 43 = .ok (.istore_n 1, 1) := by decide +kernel
theorem dX6_read_44 : decode cX6_read 44 = .ok (.iload_n 1, 1) := by decide +kernel
theorem dX6_read_45 : decode cX6_read 45 = .ok (.sipush 240, 3) := by decide +kernel
theorem dX6_read_48 : decode cX6_read 48 = .ok (.if_icmp .ge 28, 3) := by decide +kernel
theorem dX6_read_51 : decode cX6_read 51 = .ok (.aload_n 0, 1) := by decide +kernel
theorem dX6_read_52 : decode cX6_read 52 = .ok (.getfield 37, 3) := by decide +kernel
theorem dX6_read_55 : decode cX6_read 55 = .ok (.ifCond .ne 21, 3) := by decide +kernel
theorem dX6_read_58 : decode cX6_read 58 = .ok (.aload_n 0, 1) := by decide +kernel
theorem dX6_read_59 : decode cX6_read 59 = .ok (.invokevirtual 40, 3) := by decide +kernel
theorem dX6_read_62 : decode cX6_read 62 = .ok (.iconst (-1), 1) := by decide +kernel
theorem dX6_read_63 : decode cX6_read 63 = .ok (.if_icmp .eq 13, 3) := by decide +kernel
theorem dX6_read_66 : decode cX6_read 66 = .ok (.aload_n 0, 1) := by decide +kernel
theorem dX6_read_67 : decode cX6_read 67 = .ok (.invokevirtual 47, 3) := by decide +kernel
theorem dX6_read_70 : decode cX6_read 70 = .ok (.iinc 1 1, 3) := by decide +kernel
theorem dX6_read_73 : decode cX6_read 73 = .ok (.goto (-29), 3) := by decide +kernel
theorem dX6_read_76 : decode cX6_read 76 = .ok (.aload_n 0, 1) := by decide +kernel
theorem dX6_read_77 : decode cX6_read 77 = .ok (.iconst 0, 1) := by decide +kernel
theorem dX6_read_78 : decode cX6_read 78 = .ok (.putfield 22, 3) := by decide +kernel
theorem dX6_read_81 : decode cX6_read 81 = .ok (.return_, 1) := by decide +kernel
theorem dX6_readOrder_0 : decode cX6_readOrder 0 = .ok (.aload_n 0, 1) := by decide +kernel
theorem dX6_readOrder_1 : decode cX6_readOrder 1 = .ok (.bipush 99, 2) := by decide +kernel
theorem dX6_readOrder_3 : decode cX6_readOrder 3 = .ok (.invokevirtual 50, 3) := by decide +kernel
theorem dX6_readOrder_6 : decode cX6_readOrder 6 = .ok (.ifCond .ne 4, 3) := by decide +kernel
theorem dX6_readOrder_9 : decode cX6_readOrder 9 = .ok (.return_, 1) := by decide +kernel
theorem dX6_readOrder_10 : decode cX6_readOrder 10 = .ok (.iconst 0, 1) := by decide +kernel
theorem dX6_readOrder_11 : decode cX6_readOrder 11 = .ok (.istore_n 1, 1) := by decide +kernel
theorem dX6_readOrder_12 : decode cX6_readOrder 12 = .ok (.iconst 0, 1) := by decide +kernel
theorem dX6_readOrder_13 : decode cX6_readOrder 13 = .ok (.istore_n 2, 1) := by decide +kernel
theorem dX6_readOrder_14 : decode cX6_readOrder 14 = .ok (.iload_n 2, 1) := by decide +kernel
theorem dX6_readOrder_15 : decode cX6_readOrder 15 = .ok (.iconst 5, 1) := by decide +kernel
theorem dX6_readOrder_16 : decode cX6_readOrder 16 = .ok (.if_icmp .ge 176, 3) := by decide +kernel
theorem dX6_readOrder_19 : decode cX6_readOrder 19 = .ok (.aload_n 0, 1) := by decide +kernel
theorem dX6_readOrder_20 : decode cX6_readOrder 20 = .ok (.iconst 0, 1) := by decide +kernel
theorem dX6_readOrder_21 : decode cX6_readOrder 21 = .ok (.iconst 4, 1) := by decide +kernel
theorem dX6_readOrder_22 : decode cX6_readOrder 22 = .ok (.invokevirtual 54, 3) := by decide +kernel
theorem dX6_readOrder_25 : decode cX6_readOrder 25 = .ok (.ifCond .eq 26, 3) := by decide +kernel
theorem dX6_readOrder_28 : decode cX6_readOrder 28 = .ok (.aload_n 0, 1) := by decide +kernel
theorem dX6_readOrder_29 : decode cX6_readOrder 29 = .ok (.iload_n 1, 1) := by decide +kernel
theorem dX6_readOrder_30 : decode cX6_readOrder 30 = .ok (.aload_n 0, 1) := by decide +kernel
theorem dX6_readOrder_31 : decode cX6_readOrder 31 = .ok (.getfield 58, 3) := by decide +kernel
theorem dX6_readOrder_34 : decode cX6_readOrder 34 = .ok (.ishr, 1) := by decide +kernel
theorem dX6_readOrder_35 : decode cX6_readOrder 35 = .ok (.iconst 1, 1) := by decide +kernel
theorem dX6_readOrder_36 : decode cX6_readOrder 36 = .ok (.iand, 1) := by decide +kernel
theorem dX6_readOrder_37 : decode cX6_readOrder 37 = .ok (.ifCond .ne 7, 3) := by decide +kernel
theorem dX6_readOrder_40 : decode cX6_readOrder 40 = .ok (.iconst 1, 1) := by decide +kernel
theorem dX6_readOrder_41 : decode cX6_readOrder 41 = .ok (.goto 4, 3) := by decide +kernel
theorem dX6_readOrder_44 : decode cX6_readOrder 44 = .ok (.iconst 0, 1) := by decide +kernel
theorem dX6_readOrder_45 : decode cX6_readOrder 45 = .ok (.invokevirtual 61, 3) := by decide +kernel
theorem dX6_readOrder_48 : decode cX6_readOrder 48 = .ok (.ifCond .ne 4, 3) := by decide +kernel
theorem dX6_readOrder_51 : decode cX6_readOrder 51 = .ok (.return_, 1) := by decide +kernel
theorem dX6_readOrder_52 : decode cX6_readOrder 52 = .ok (.iload_n 1, 1) := by decide +kernel
theorem dX6_readOrder_53 : decode cX6_readOrder 53 = .ok (.iconst 1, 1) := by decide +kernel
theorem dX6_readOrder_54 : decode cX6_readOrder 54 = .ok (.aload_n 0, 1) := by decide +kernel
theorem dX6_readOrder_55 : decode cX6_readOrder 55 = .ok (.getfield 58, 3) := by decide +kernel
theorem dX6_readOrder_58 : decode cX6_readOrder 58 = .ok (.ishl, 1) := by decide +kernel
theorem dX6_readOrder_59 : decode cX6_readOrder 59 = .ok (.ior, 1) := by decide +kernel
theorem dX6_readOrder_60 : decode cX6_readOrder 60 = .ok (.istore_n 1, 1) := by decide +kernel
theorem dX6_readOrder_61 : decode cX6_readOrder 61 = .ok (.aload_n 0, 1) := by decide +kernel
theorem dX6_readOrder_62 : decode cX6_readOrder 62 = .ok (.getfield 19, 3) := by decide +kernel
theorem dX6_readOrder_65 : decode cX6_readOrder 65 = .ok (.iload_n 2, 1) := by decide +kernel
theorem dX6_readOrder_66 : decode cX6_readOrder 66 = .ok (.aload_n 0, 1) := by decide +kernel
theorem dX6_readOrder_67 : decode cX6_readOrder 67 = .ok (.getfield 58, 3) := by decide +kernel
theorem dX6_readOrder_70 : decode cX6_readOrder 70 = .ok (.iastore, 1) := by decide +kernel
theorem dX6_readOrder_71 : decode cX6_readOrder 71 = .ok (.aload_n 0, 1) := by decide +kernel
theorem dX6_readOrder_72 : decode cX6_readOrder 72 = .ok (.iload_n 2, 1) := by decide +kernel
theorem dX6_readOrder_73 : decode cX6_readOrder 73 = .ok (.iconst 1, 1) := by decide +kernel
theorem dX6_readOrder_74 : decode cX6_readOrder 74 = .ok (.iadd, 1) := by decide +kernel
theorem dX6_readOrder_75 : decode cX6_readOrder 75 = .ok (.putfield 28, 3) := by decide +kernel
theorem dX6_readOrder_78 : decode cX6_readOrder 78 = .ok (.aload_n 0, 1) := by decide +kernel
theorem dX6_readOrder_79 : decode cX6_readOrder 79 = .ok (.getfield 28, 3) := by decide +kernel
theorem dX6_readOrder_82 : decode cX6_readOrder 82 = .ok (.iconst 2, 1) := by decide +kernel
theorem dX6_readOrder_83 : decode cX6_readOrder 83 = .ok (.if_icmp .lt 19, 3) := by decide +kernel
theorem dX6_readOrder_86 : decode cX6_readOrder 86 = .ok (.iload_n 1, 1) := by decide +kernel
theorem dX6_readOrder_87 : decode cX6_readOrder 87 = .ok (.iconst 1, 1) := by decide +kernel
theorem dX6_readOrder_88 : decode cX6_readOrder 88 = .ok (.aload_n 0, 1) := by decide +kernel
theorem dX6_readOrder_89 : decode cX6_readOrder 89 = .ok (.getfield 28, 3) := by decide +kernel
theorem dX6_readOrder_92 : decode cX6_readOrder 92 = .ok (.ishl, 1) := by decide +kernel
theorem dX6_readOrder_93 : decode cX6_readOrder 93 = .ok (.iconst 1, 1) := by decide +kernel
theorem dX6_readOrder_94 : decode cX6_readOrder 94 = .ok (.isub, 1) := by decide +kernel
theorem dX6_readOrder_95 : decode cX6_readOrder 95 = .ok (.if_icmp .ne 7, 3) := by decide +kernel
theorem dX6_readOrder_98 : decode cX6_readOrder 98 = .ok (.iconst 1, 1) := by decide +kernel
theorem dX6_readOrder_99 : decode cX6_readOrder 99 = .ok (.goto 4, 3) := by decide +kernel
theorem dX6_readOrder_102 : decode cX6_readOrder 102 = .ok (.iconst 0, 1) := by decide +kernel
theorem dX6_readOrder_103 : decode cX6_readOrder 103 = .ok (.istore_n 3, 1) := by decide +kernel
theorem dX6_readOrder_104 : decode cX6_readOrder 104 = .ok (.aload_n 0, 1) := by decide +kernel
theorem dX6_readOrder_105 : decode cX6_readOrder 105 = .ok (.invokevirtual 40, 3) := by decide +kernel
theorem dX6_readOrder_108 : decode cX6_readOrder 108 = .ok (.istore 4, 2) := by decide +kernel
theorem dX6_readOrder_110 : decode cX6_readOrder 110 = .ok (.iload 4, 2) := by decide +kernel
theorem dX6_readOrder_112 : decode cX6_readOrder 112 = .ok (.bipush 59, 2) := by decide +kernel
theorem dX6_readOrder_114 : decode cX6_readOrder 114 = .ok (.if_icmp .ne 11, 3) := by decide +kernel
theorem dX6_readOrder_117 : decode cX6_readOrder 117 = .ok (.iload_n 3, 1) := by decide +kernel
theorem dX6_readOrder_118 : decode cX6_readOrder 118 = .ok (.ifCond .eq 7, 3) := by decide +kernel
theorem dX6_readOrder_121 : decode cX6_readOrder 121 = .ok (.iconst 1, 1) := by decide +kernel
theorem dX6_readOrder_122 : decode cX6_readOrder 122 = .ok (.goto 4, 3) := by decide +kernel
theorem dX6_readOrder_125 : decode cX6_readOrder 125 = .ok (.iconst 0, 1) := by decide +kernel
theorem dX6_readOrder_126 : decode cX6_readOrder 126 = .ok (.istore 5, 2) := by decide +kernel
theorem dX6_readOrder_128 : decode cX6_readOrder 128 = .ok (.iload 4, 2) := by decide +kernel
theorem dX6_readOrder_130 : decode cX6_readOrder 130 = .ok (.bipush 44, 2) := by decide +kernel
theorem dX6_readOrder_132 : decode cX6_readOrder 132 = .ok (.if_icmp .ne 15, 3) := by decide +kernel
theorem dX6_readOrder_135 : decode cX6_readOrder 135 = .ok (.aload_n 0, 1) := by decide +kernel
theorem dX6_readOrder_136 : decode cX6_readOrder 136 = .ok (.getfield 28, 3) := by decide +kernel
theorem dX6_readOrder_139 : decode cX6_readOrder 139 = .ok (.iconst 5, 1) := by decide +kernel
theorem dX6_readOrder_140 : decode cX6_readOrder 140 = .ok (.if_icmp .ge 7, 3) := by decide +kernel
theorem dX6_readOrder_143 : decode cX6_readOrder 143 = .ok (.iconst 1, 1) := by decide +kernel
theorem dX6_readOrder_144 : decode cX6_readOrder 144 = .ok (.goto 4, 3) := by decide +kernel
theorem dX6_readOrder_147 : decode cX6_readOrder 147 = .ok (.iconst 0, 1) := by decide +kernel
theorem dX6_readOrder_148 : decode cX6_readOrder 148 = .ok (.istore 6, 2) := by decide +kernel
theorem dX6_readOrder_150 : decode cX6_readOrder 150 = .ok (.iload 5, 2) := by decide +kernel
theorem dX6_readOrder_152 : decode cX6_readOrder 152 = .ok (.ifCond .ne 18, 3) := by decide +kernel
theorem dX6_readOrder_155 : decode cX6_readOrder 155 = .ok (.iload 6, 2) := by decide +kernel
theorem dX6_readOrder_157 : decode cX6_readOrder 157 = .ok (.ifCond .ne 13, 3) := by decide +kernel
theorem dX6_readOrder_160 : decode cX6_readOrder 160 = .ok (.aload_n 0, 1) := by decide +kernel
theorem dX6_readOrder_161 : decode cX6_readOrder 161 = .ok (.iconst 1, 1) := by decide +kernel
theorem dX6_readOrder_162 : decode cX6_readOrder 162 = .ok (.aload_n 0, 1) := by decide +kernel
theorem dX6_readOrder_163 : decode cX6_readOrder 163 = .ok (.getfield 25, 3) := by decide +kernel
theorem dX6_readOrder_166 : decode cX6_readOrder 166 = .ok (.invokevirtual 65, 3) := by decide +kernel
theorem dX6_readOrder_169 : decode cX6_readOrder 169 = .ok (.return_, 1) := by decide +kernel
theorem dX6_readOrder_170 : decode cX6_readOrder 170 = .ok (.aload_n 0, 1) := by decide +kernel
theorem dX6_readOrder_171 : decode cX6_readOrder 171 = .ok (.dup, 1) := by decide +kernel
theorem dX6_readOrder_172 : decode cX6_readOrder 172 = .ok (.getfield 25, 3) := by decide +kernel
theorem dX6_readOrder_175 : decode cX6_readOrder 175 = .ok (.iconst 1, 1) := by decide +kernel
theorem dX6_readOrder_176 : decode cX6_readOrder 176 = .ok (.iadd, 1) := by decide +kernel
theorem dX6_readOrder_177 : decode cX6_readOrder 177 = .ok (.putfield 25, 3) := by decide +kernel
theorem dX6_readOrder_180 : decode cX6_readOrder 180 = .ok (.iload 5, 2) := by decide +kernel
theorem dX6_readOrder_182 : decode cX6_readOrder 182 = .ok (.ifCond .eq 4, 3) := by decide +kernel
theorem dX6_readOrder_185 : decode cX6_readOrder 185 = .ok (.return_, 1) := by decide +kernel
theorem dX6_readOrder_186 : decode cX6_readOrder 186 = .ok (.iinc 2 1, 3) := by decide +kernel
theorem dX6_readOrder_189 : decode cX6_readOrder 189 = .ok (.goto (-175), 3) := by decide +kernel
theorem dX6_readOrder_192 : decode cX6_readOrder 192 = .ok (.return_, 1) := by decide +kernel
theorem dX6_readClause_0 : decode cX6_readClause 0 = .ok (.aload_n 0, 1) := by decide +kernel
theorem dX6_readClause_1 : decode cX6_readClause 1 = .ok (.invokevirtual 40, 3) := by decide +kernel
theorem dX6_readClause_4 : decode cX6_readClause 4 = .ok (.istore_n 1, 1) := by decide +kernel
theorem dX6_readClause_5 : decode cX6_readClause 5 = .ok (.iload_n 1, 1) := by decide +kernel
theorem dX6_readClause_6 : decode cX6_readClause 6 = .ok (.bipush 107, 2) := by decide +kernel
theorem dX6_readClause_8 : decode cX6_readClause 8 = .ok (.if_icmp .ne 20, 3) := by decide +kernel
theorem dX6_readClause_11 : decode cX6_readClause 11 = .ok (.aload_n 0, 1) := by decide +kernel
theorem dX6_readClause_12 : decode cX6_readClause 12 = .ok (.dup, 1) := by decide +kernel
theorem dX6_readClause_13 : decode cX6_readClause 13 = .ok (.getfield 25, 3) := by decide +kernel
theorem dX6_readClause_16 : decode cX6_readClause 16 = .ok (.iconst 1, 1) := by decide +kernel
theorem dX6_readClause_17 : decode cX6_readClause 17 = .ok (.iadd, 1) := by decide +kernel
theorem dX6_readClause_18 : decode cX6_readClause 18 = .ok (.putfield 25, 3) := by decide +kernel
theorem dX6_readClause_21 : decode cX6_readClause 21 = .ok (.aload_n 0, 1) := by decide +kernel
theorem dX6_readClause_22 : decode cX6_readClause 22 = .ok (.invokevirtual 69, 3) := by decide +kernel
theorem dX6_readClause_25 : decode cX6_readClause 25 = .ok (.goto 45, 3) := by decide +kernel
theorem dX6_readClause_28 : decode cX6_readClause 28 = .ok (.iload_n 1, 1) := by decide +kernel
theorem dX6_readClause_29 : decode cX6_readClause 29 = .ok (.bipush 115, 2) := by decide +kernel
theorem dX6_readClause_31 : decode cX6_readClause 31 = .ok (.if_icmp .ne 20, 3) := by decide +kernel
theorem dX6_readClause_34 : decode cX6_readClause 34 = .ok (.aload_n 0, 1) := by decide +kernel
theorem dX6_readClause_35 : decode cX6_readClause 35 = .ok (.dup, 1) := by decide +kernel
theorem dX6_readClause_36 : decode cX6_readClause 36 = .ok (.getfield 25, 3) := by decide +kernel
theorem dX6_readClause_39 : decode cX6_readClause 39 = .ok (.iconst 1, 1) := by decide +kernel
theorem dX6_readClause_40 : decode cX6_readClause 40 = .ok (.iadd, 1) := by decide +kernel
theorem dX6_readClause_41 : decode cX6_readClause 41 = .ok (.putfield 25, 3) := by decide +kernel
theorem dX6_readClause_44 : decode cX6_readClause 44 = .ok (.aload_n 0, 1) := by decide +kernel
theorem dX6_readClause_45 : decode cX6_readClause 45 = .ok (.invokevirtual 72, 3) := by decide +kernel
theorem dX6_readClause_48 : decode cX6_readClause 48 = .ok (.goto 22, 3) := by decide +kernel
theorem dX6_readClause_51 : decode cX6_readClause 51 = .ok (.aload_n 0, 1) := by decide +kernel
theorem dX6_readClause_52 : decode cX6_readClause 52 = .ok (.iload_n 1, 1) := by decide +kernel
theorem dX6_readClause_53 : decode cX6_readClause 53 = .ok (.bipush 99, 2) := by decide +kernel
theorem dX6_readClause_55 : decode cX6_readClause 55 = .ok (.if_icmp .ne 7, 3) := by decide +kernel
theorem dX6_readClause_58 : decode cX6_readClause 58 = .ok (.iconst 3, 1) := by decide +kernel
theorem dX6_readClause_59 : decode cX6_readClause 59 = .ok (.goto 4, 3) := by decide +kernel
theorem dX6_readClause_62 : decode cX6_readClause 62 = .ok (.iconst 1, 1) := by decide +kernel
theorem dX6_readClause_63 : decode cX6_readClause 63 = .ok (.aload_n 0, 1) := by decide +kernel
theorem dX6_readClause_64 : decode cX6_readClause 64 = .ok (.getfield 25, 3) := by decide +kernel
theorem dX6_readClause_67 : decode cX6_readClause 67 = .ok (.invokevirtual 65, 3) := by decide +kernel
theorem dX6_readClause_70 : decode cX6_readClause 70 = .ok (.return_, 1) := by decide +kernel
theorem dX6_readKind_0 : decode cX6_readKind 0 = .ok (.aload_n 0, 1) := by decide +kernel
theorem dX6_readKind_1 : decode cX6_readKind 1 = .ok (.iconst 0, 1) := by decide +kernel
theorem dX6_readKind_2 : decode cX6_readKind 2 = .ok (.aload_n 0, 1) := by decide +kernel
theorem dX6_readKind_3 : decode cX6_readKind 3 = .ok (.getfield 28, 3) := by decide +kernel
theorem dX6_readKind_6 : decode cX6_readKind 6 = .ok (.iconst 1, 1) := by decide +kernel
theorem dX6_readKind_7 : decode cX6_readKind 7 = .ok (.isub, 1) := by decide +kernel
theorem dX6_readKind_8 : decode cX6_readKind 8 = .ok (.invokevirtual 54, 3) := by decide +kernel
theorem dX6_readKind_11 : decode cX6_readKind 11 = .ok (.ifCond .eq 29, 3) := by decide +kernel
theorem dX6_readKind_14 : decode cX6_readKind 14 = .ok (.aload_n 0, 1) := by decide +kernel
theorem dX6_readKind_15 : decode cX6_readKind 15 = .ok (.aload_n 0, 1) := by decide +kernel
theorem dX6_readKind_16 : decode cX6_readKind 16 = .ok (.getfield 31, 3) := by decide +kernel
theorem dX6_readKind_19 : decode cX6_readKind 19 = .ok (.aload_n 0, 1) := by decide +kernel
theorem dX6_readKind_20 : decode cX6_readKind 20 = .ok (.getfield 58, 3) := by decide +kernel
theorem dX6_readKind_23 : decode cX6_readKind 23 = .ok (.invokestatic 75, 3) := by decide +kernel
theorem dX6_readKind_26 : decode cX6_readKind 26 = .ok (.ifCond .ne 7, 3) := by decide +kernel
theorem dX6_readKind_29 : decode cX6_readKind 29 = .ok (.iconst 1, 1) := by decide +kernel
theorem dX6_readKind_30 : decode cX6_readKind 30 = .ok (.goto 4, 3) := by decide +kernel
theorem dX6_readKind_33 : decode cX6_readKind 33 = .ok (.iconst 0, 1) := by decide +kernel
theorem dX6_readKind_34 : decode cX6_readKind 34 = .ok (.invokevirtual 61, 3) := by decide +kernel
theorem dX6_readKind_37 : decode cX6_readKind 37 = .ok (.ifCond .ne 4, 3) := by decide +kernel
theorem dX6_readKind_40 : decode cX6_readKind 40 = .ok (.return_, 1) := by decide +kernel
theorem dX6_readKind_41 : decode cX6_readKind 41 = .ok (.aload_n 0, 1) := by decide +kernel
theorem dX6_readKind_42 : decode cX6_readKind 42 = .ok (.getfield 58, 3) := by decide +kernel
theorem dX6_readKind_45 : decode cX6_readKind 45 = .ok (.istore_n 1, 1) := by decide +kernel
theorem dX6_readKind_46 : decode cX6_readKind 46 = .ok (.aload_n 0, 1) := by decide +kernel
theorem dX6_readKind_47 : decode cX6_readKind 47 = .ok (.iconst 1, 1) := by decide +kernel
theorem dX6_readKind_48 : decode cX6_readKind 48 = .ok (.iconst 3, 1) := by decide +kernel
theorem dX6_readKind_49 : decode cX6_readKind 49 = .ok (.invokevirtual 54, 3) := by decide +kernel
theorem dX6_readKind_52 : decode cX6_readKind 52 = .ok (.ifCond .eq 26, 3) := by decide +kernel
theorem dX6_readKind_55 : decode cX6_readKind 55 = .ok (.aload_n 0, 1) := by decide +kernel
theorem dX6_readKind_56 : decode cX6_readKind 56 = .ok (.aload_n 0, 1) := by decide +kernel
theorem dX6_readKind_57 : decode cX6_readKind 57 = .ok (.getfield 31, 3) := by decide +kernel
theorem dX6_readKind_60 : decode cX6_readKind 60 = .ok (.iload_n 1, 1) := by decide +kernel
theorem dX6_readKind_61 : decode cX6_readKind 61 = .ok (.aload_n 0, 1) := by decide +kernel
theorem dX6_readKind_62 : decode cX6_readKind 62 = .ok (.getfield 58, 3) := by decide +kernel
theorem dX6_readKind_65 : decode cX6_readKind 65 = .ok (.invokestatic 79, 3) := by decide +kernel
theorem dX6_readKind_68 : decode cX6_readKind 68 = .ok (.putfield 31, 3) := by decide +kernel
theorem dX6_readKind_71 : decode cX6_readKind 71 = .ok (.aload_n 0, 1) := by decide +kernel
theorem dX6_readKind_72 : decode cX6_readKind 72 = .ok (.bipush 59, 2) := by decide +kernel
theorem dX6_readKind_74 : decode cX6_readKind 74 = .ok (.invokevirtual 50, 3) := by decide +kernel
theorem dX6_readKind_77 : decode cX6_readKind 77 = .ok (.pop, 1) := by decide +kernel
theorem dX6_readKind_78 : decode cX6_readKind 78 = .ok (.return_, 1) := by decide +kernel
theorem dX6_readTouch_0 : decode cX6_readTouch 0 = .ok (.aload_n 0, 1) := by decide +kernel
theorem dX6_readTouch_1 : decode cX6_readTouch 1 = .ok (.iconst 0, 1) := by decide +kernel
theorem dX6_readTouch_2 : decode cX6_readTouch 2 = .ok (.aload_n 0, 1) := by decide +kernel
theorem dX6_readTouch_3 : decode cX6_readTouch 3 = .ok (.getfield 28, 3) := by decide +kernel
theorem dX6_readTouch_6 : decode cX6_readTouch 6 = .ok (.iconst 1, 1) := by decide +kernel
theorem dX6_readTouch_7 : decode cX6_readTouch 7 = .ok (.isub, 1) := by decide +kernel
theorem dX6_readTouch_8 : decode cX6_readTouch 8 = .ok (.invokevirtual 54, 3) := by decide +kernel
theorem dX6_readTouch_11 : decode cX6_readTouch 11 = .ok (.ifCond .ne 4, 3) := by decide +kernel
theorem dX6_readTouch_14 : decode cX6_readTouch 14 = .ok (.return_, 1) := by decide +kernel
theorem dX6_readTouch_15 : decode cX6_readTouch 15 = .ok (.aload_n 0, 1) := by decide +kernel
theorem dX6_readTouch_16 : decode cX6_readTouch 16 = .ok (.getfield 58, 3) := by decide +kernel
theorem dX6_readTouch_19 : decode cX6_readTouch 19 = .ok (.istore_n 1, 1) := by decide +kernel
theorem dX6_readTouch_20 : decode cX6_readTouch 20 = .ok (.aload_n 0, 1) := by decide +kernel
theorem dX6_readTouch_21 : decode cX6_readTouch 21 = .ok (.iconst 0, 1) := by decide +kernel
theorem dX6_readTouch_22 : decode cX6_readTouch 22 = .ok (.aload_n 0, 1) := by decide +kernel
theorem dX6_readTouch_23 : decode cX6_readTouch 23 = .ok (.getfield 28, 3) := by decide +kernel
theorem dX6_readTouch_26 : decode cX6_readTouch 26 = .ok (.iconst 1, 1) := by decide +kernel
theorem dX6_readTouch_27 : decode cX6_readTouch 27 = .ok (.isub, 1) := by decide +kernel
theorem dX6_readTouch_28 : decode cX6_readTouch 28 = .ok (.invokevirtual 54, 3) := by decide +kernel
theorem dX6_readTouch_31 : decode cX6_readTouch 31 = .ok (.ifCond .ne 4, 3) := by decide +kernel
theorem dX6_readTouch_34 : decode cX6_readTouch 34 = .ok (.return_, 1) := by decide +kernel
theorem dX6_readTouch_35 : decode cX6_readTouch 35 = .ok (.iload_n 1, 1) := by decide +kernel
theorem dX6_readTouch_36 : decode cX6_readTouch 36 = .ok (.aload_n 0, 1) := by decide +kernel
theorem dX6_readTouch_37 : decode cX6_readTouch 37 = .ok (.getfield 58, 3) := by decide +kernel
theorem dX6_readTouch_40 : decode cX6_readTouch 40 = .ok (.invokestatic 83, 3) := by decide +kernel
theorem dX6_readTouch_43 : decode cX6_readTouch 43 = .ok (.istore_n 2, 1) := by decide +kernel
theorem dX6_readTouch_44 : decode cX6_readTouch 44 = .ok (.aload_n 0, 1) := by decide +kernel
theorem dX6_readTouch_45 : decode cX6_readTouch 45 = .ok (.iload_n 1, 1) := by decide +kernel
theorem dX6_readTouch_46 : decode cX6_readTouch 46 = .ok (.aload_n 0, 1) := by decide +kernel
theorem dX6_readTouch_47 : decode cX6_readTouch 47 = .ok (.getfield 58, 3) := by decide +kernel
theorem dX6_readTouch_50 : decode cX6_readTouch 50 = .ok (.if_icmp .eq 16, 3) := by decide +kernel
theorem dX6_readTouch_53 : decode cX6_readTouch 53 = .ok (.aload_n 0, 1) := by decide +kernel
theorem dX6_readTouch_54 : decode cX6_readTouch 54 = .ok (.getfield 34, 3) := by decide +kernel
theorem dX6_readTouch_57 : decode cX6_readTouch 57 = .ok (.iload_n 2, 1) := by decide +kernel
theorem dX6_readTouch_58 : decode cX6_readTouch 58 = .ok (.iand, 1) := by decide +kernel
theorem dX6_readTouch_59 : decode cX6_readTouch 59 = .ok (.ifCond .ne 7, 3) := by decide +kernel
theorem dX6_readTouch_62 : decode cX6_readTouch 62 = .ok (.iconst 1, 1) := by decide +kernel
theorem dX6_readTouch_63 : decode cX6_readTouch 63 = .ok (.goto 4, 3) := by decide +kernel
theorem dX6_readTouch_66 : decode cX6_readTouch 66 = .ok (.iconst 0, 1) := by decide +kernel
theorem dX6_readTouch_67 : decode cX6_readTouch 67 = .ok (.invokevirtual 61, 3) := by decide +kernel
theorem dX6_readTouch_70 : decode cX6_readTouch 70 = .ok (.ifCond .eq 20, 3) := by decide +kernel
theorem dX6_readTouch_73 : decode cX6_readTouch 73 = .ok (.aload_n 0, 1) := by decide +kernel
theorem dX6_readTouch_74 : decode cX6_readTouch 74 = .ok (.dup, 1) := by decide +kernel
theorem dX6_readTouch_75 : decode cX6_readTouch 75 = .ok (.getfield 34, 3) := by decide +kernel
theorem dX6_readTouch_78 : decode cX6_readTouch 78 = .ok (.iload_n 2, 1) := by decide +kernel
theorem dX6_readTouch_79 : decode cX6_readTouch 79 = .ok (.ior, 1) := by decide +kernel
theorem dX6_readTouch_80 : decode cX6_readTouch 80 = .ok (.putfield 34, 3) := by decide +kernel
theorem dX6_readTouch_83 : decode cX6_readTouch 83 = .ok (.aload_n 0, 1) := by decide +kernel
theorem dX6_readTouch_84 : decode cX6_readTouch 84 = .ok (.bipush 59, 2) := by decide +kernel
theorem dX6_readTouch_86 : decode cX6_readTouch 86 = .ok (.invokevirtual 50, 3) := by decide +kernel
theorem dX6_readTouch_89 : decode cX6_readTouch 89 = .ok (.pop, 1) := by decide +kernel
theorem dX6_readTouch_90 : decode cX6_readTouch 90 = .ok (.return_, 1) := by decide +kernel
theorem dX6_upNext_0 : decode cX6_upNext 0 = .ok (.aload_n 0, 1) := by decide +kernel
theorem dX6_upNext_1 : decode cX6_upNext 1 = .ok (.getfield 25, 3) := by decide +kernel
theorem dX6_upNext_4 : decode cX6_upNext 4 = .ok (.aload_n 0, 1) := by decide +kernel
theorem dX6_upNext_5 : decode cX6_upNext 5 = .ok (.getfield 22, 3) := by decide +kernel
theorem dX6_upNext_8 : decode cX6_upNext 8 = .ok (.if_icmp .ge 40, 3) := by decide +kernel
theorem dX6_upNext_11 : decode cX6_upNext 11 = .ok (.aload_n 0, 1) := by decide +kernel
theorem dX6_upNext_12 : decode cX6_upNext 12 = .ok (.getfield 25, 3) := by decide +kernel
theorem dX6_upNext_15 : decode cX6_upNext 15 = .ok (.sipush 240, 3) := by decide +kernel
theorem dX6_upNext_18 : decode cX6_upNext 18 = .ok (.if_icmp .ge 30, 3) := by decide +kernel
theorem dX6_upNext_21 : decode cX6_upNext 21 = .ok (.aload_n 0, 1) := by decide +kernel
theorem dX6_upNext_22 : decode cX6_upNext 22 = .ok (.getfield 9, 3) := by decide +kernel
theorem dX6_upNext_25 : decode cX6_upNext 25 = .ok (.aload_n 0, 1) := by decide +kernel
theorem dX6_upNext_26 : decode cX6_upNext 26 = .ok (.getfield 25, 3) := by decide +kernel
theorem dX6_upNext_29 : decode cX6_upNext 29 = .ok (.iaload, 1) := by decide +kernel
theorem dX6_upNext_30 : decode cX6_upNext 30 = .ok (.bipush 32, 2) := by decide +kernel
theorem dX6_upNext_32 : decode cX6_upNext 32 = .ok (.if_icmp .ne 16, 3) := by decide +kernel
theorem dX6_upNext_35 : decode cX6_upNext 35 = .ok (.aload_n 0, 1) := by decide +kernel
theorem dX6_upNext_36 : decode cX6_upNext 36 = .ok (.dup, 1) := by decide +kernel
theorem dX6_upNext_37 : decode cX6_upNext 37 = .ok (.getfield 25, 3) := by decide +kernel
theorem dX6_upNext_40 : decode cX6_upNext 40 = .ok (.iconst 1, 1) := by decide +kernel
theorem dX6_upNext_41 : decode cX6_upNext 41 = .ok (.iadd, 1) := by decide +kernel
theorem dX6_upNext_42 : decode cX6_upNext 42 = .ok (.putfield 25, 3) := by decide +kernel
theorem dX6_upNext_45 : decode cX6_upNext 45 = .ok (.goto (-45), 3) := by decide +kernel
theorem dX6_upNext_48 : decode cX6_upNext 48 = .ok (.aload_n 0, 1) := by decide +kernel
theorem dX6_upNext_49 : decode cX6_upNext 49 = .ok (.aload_n 0, 1) := by decide +kernel
theorem dX6_upNext_50 : decode cX6_upNext 50 = .ok (.getfield 25, 3) := by decide +kernel
theorem dX6_upNext_53 : decode cX6_upNext 53 = .ok (.invokevirtual 86, 3) := by decide +kernel
theorem dX6_upNext_56 : decode cX6_upNext 56 = .ok (.ireturn, 1) := by decide +kernel
theorem dX6_letterAt_0 : decode cX6_letterAt 0 = .ok (.iload_n 1, 1) := by decide +kernel
theorem dX6_letterAt_1 : decode cX6_letterAt 1 = .ok (.ifCond .lt 27, 3) := by decide +kernel
theorem dX6_letterAt_4 : decode cX6_letterAt 4 = .ok (.iload_n 1, 1) := by decide +kernel
theorem dX6_letterAt_5 : decode cX6_letterAt 5 = .ok (.aload_n 0, 1) := by decide +kernel
theorem dX6_letterAt_6 : decode cX6_letterAt 6 = .ok (.getfield 22, 3) := by decide +kernel
theorem dX6_letterAt_9 : decode cX6_letterAt 9 = .ok (.if_icmp .ge 19, 3) := by decide +kernel
theorem dX6_letterAt_12 : decode cX6_letterAt 12 = .ok (.iload_n 1, 1) := by decide +kernel
theorem dX6_letterAt_13 : decode cX6_letterAt 13 = .ok (.sipush 240, 3) := by decide +kernel
theorem dX6_letterAt_16 : decode cX6_letterAt 16 = .ok (.if_icmp .ge 12, 3) := by decide +kernel
theorem dX6_letterAt_19 : decode cX6_letterAt 19 = .ok (.aload_n 0, 1) := by decide +kernel
theorem dX6_letterAt_20 : decode cX6_letterAt 20 = .ok (.getfield 9, 3) := by decide +kernel
theorem dX6_letterAt_23 : decode cX6_letterAt 23 = .ok (.iload_n 1, 1) := by decide +kernel
theorem dX6_letterAt_24 : decode cX6_letterAt 24 = .ok (.iaload, 1) := by decide +kernel
theorem dX6_letterAt_25 : decode cX6_letterAt 25 = .ok (.goto 4, 3) := by decide +kernel
theorem dX6_letterAt_28 : decode cX6_letterAt 28 = .ok (.iconst (-1), 1) := by decide +kernel
theorem dX6_letterAt_29 : decode cX6_letterAt 29 = .ok (.ireturn, 1) := by decide +kernel
theorem dX6_takeWord_0 : decode cX6_takeWord 0 = .ok (.aload_n 0, 1) := by decide +kernel
theorem dX6_takeWord_1 : decode cX6_takeWord 1 = .ok (.invokevirtual 40, 3) := by decide +kernel
theorem dX6_takeWord_4 : decode cX6_takeWord 4 = .ok (.iload_n 1, 1) := by decide +kernel
theorem dX6_takeWord_5 : decode cX6_takeWord 5 = .ok (.if_icmp .eq 14, 3) := by decide +kernel
theorem dX6_takeWord_8 : decode cX6_takeWord 8 = .ok (.aload_n 0, 1) := by decide +kernel
theorem dX6_takeWord_9 : decode cX6_takeWord 9 = .ok (.iconst 1, 1) := by decide +kernel
theorem dX6_takeWord_10 : decode cX6_takeWord 10 = .ok (.aload_n 0, 1) := by decide +kernel
theorem dX6_takeWord_11 : decode cX6_takeWord 11 = .ok (.getfield 25, 3) := by decide +kernel
theorem dX6_takeWord_14 : decode cX6_takeWord 14 = .ok (.invokevirtual 65, 3) := by decide +kernel
theorem dX6_takeWord_17 : decode cX6_takeWord 17 = .ok (.iconst 0, 1) := by decide +kernel
theorem dX6_takeWord_18 : decode cX6_takeWord 18 = .ok (.ireturn, 1) := by decide +kernel
theorem dX6_takeWord_19 : decode cX6_takeWord 19 = .ok (.aload_n 0, 1) := by decide +kernel
theorem dX6_takeWord_20 : decode cX6_takeWord 20 = .ok (.dup, 1) := by decide +kernel
theorem dX6_takeWord_21 : decode cX6_takeWord 21 = .ok (.getfield 25, 3) := by decide +kernel
theorem dX6_takeWord_24 : decode cX6_takeWord 24 = .ok (.iconst 1, 1) := by decide +kernel
theorem dX6_takeWord_25 : decode cX6_takeWord 25 = .ok (.iadd, 1) := by decide +kernel
theorem dX6_takeWord_26 : decode cX6_takeWord 26 = .ok (.putfield 25, 3) := by decide +kernel
theorem dX6_takeWord_29 : decode cX6_takeWord 29 = .ok (.iconst 1, 1) := by decide +kernel
theorem dX6_takeWord_30 : decode cX6_takeWord 30 = .ok (.ireturn, 1) := by decide +kernel
theorem dX6_takeNumberWithin_0 : decode cX6_takeNumberWithin 0 = .ok (.aload_n 0, 1) := by decide +kernel
theorem dX6_takeNumberWithin_1 : decode cX6_takeNumberWithin 1 = .ok (.invokevirtual 40, 3) := by decide +kernel
theorem dX6_takeNumberWithin_4 : decode cX6_takeNumberWithin 4 = .ok (.invokestatic 90, 3) := by decide +kernel
theorem dX6_takeNumberWithin_7 : decode cX6_takeNumberWithin 7 = .ok (.ifCond .ne 14, 3) := by decide +kernel
theorem dX6_takeNumberWithin_10 : decode cX6_takeNumberWithin 10 = .ok (.aload_n 0, 1) := by decide +kernel
theorem dX6_takeNumberWithin_11 : decode cX6_takeNumberWithin 11 = .ok (.iconst 1, 1) := by decide +kernel
theorem dX6_takeNumberWithin_12 : decode cX6_takeNumberWithin 12 = .ok (.aload_n 0, 1) := by decide +kernel
theorem dX6_takeNumberWithin_13 : decode cX6_takeNumberWithin 13 = .ok (.getfield 25, 3) := by decide +kernel
theorem dX6_takeNumberWithin_16 : decode cX6_takeNumberWithin 16 = .ok (.invokevirtual 65, 3) := by decide +kernel
theorem dX6_takeNumberWithin_19 : decode cX6_takeNumberWithin 19 = .ok (.iconst 0, 1) := by decide +kernel
theorem dX6_takeNumberWithin_20 : decode cX6_takeNumberWithin 20 = .ok (.ireturn, 1) := by decide +kernel
theorem dX6_takeNumberWithin_21 : decode cX6_takeNumberWithin 21 = .ok (.aload_n 0, 1) := by decide +kernel
theorem dX6_takeNumberWithin_22 : decode cX6_takeNumberWithin 22 = .ok (.iconst 0, 1) := by decide +kernel
theorem dX6_takeNumberWithin_23 : decode cX6_takeNumberWithin 23 = .ok (.putfield 58, 3) := by decide +kernel
theorem dX6_takeNumberWithin_26 : decode cX6_takeNumberWithin 26 = .ok (.aload_n 0, 1) := by decide +kernel
theorem dX6_takeNumberWithin_27 : decode cX6_takeNumberWithin 27 = .ok (.aload_n 0, 1) := by decide +kernel
theorem dX6_takeNumberWithin_28 : decode cX6_takeNumberWithin 28 = .ok (.getfield 25, 3) := by decide +kernel
theorem dX6_takeNumberWithin_31 : decode cX6_takeNumberWithin 31 = .ok (.putfield 93, 3) := by decide +kernel
theorem dX6_takeNumberWithin_34 : decode cX6_takeNumberWithin 34 = .ok (.aload_n 0, 1) := by decide +kernel
theorem dX6_takeNumberWithin_35 : decode cX6_takeNumberWithin 35 = .ok (.getfield 25, 3) := by decide +kernel
theorem dX6_takeNumberWithin_38 : decode cX6_takeNumberWithin 38 = .ok (.aload_n 0, 1) := by decide +kernel
theorem dX6_takeNumberWithin_39 : decode cX6_takeNumberWithin 39 = .ok (.getfield 22, 3) := by decide +kernel
theorem dX6_takeNumberWithin_42 : decode cX6_takeNumberWithin 42 = .ok (.if_icmp .ge 53, 3) := by decide +kernel
theorem dX6_takeNumberWithin_45 : decode cX6_takeNumberWithin 45 = .ok (.aload_n 0, 1) := by decide +kernel
theorem dX6_takeNumberWithin_46 : decode cX6_takeNumberWithin 46 = .ok (.aload_n 0, 1) := by decide +kernel
theorem dX6_takeNumberWithin_47 : decode cX6_takeNumberWithin 47 = .ok (.getfield 25, 3) := by decide +kernel
theorem dX6_takeNumberWithin_50 : decode cX6_takeNumberWithin 50 = .ok (.invokevirtual 86, 3) := by decide +kernel
theorem dX6_takeNumberWithin_53 : decode cX6_takeNumberWithin 53 = .ok (.invokestatic 90, 3) := by decide +kernel
theorem dX6_takeNumberWithin_56 : decode cX6_takeNumberWithin 56 = .ok (.ifCond .eq 39, 3) := by decide +kernel
theorem dX6_takeNumberWithin_59 : decode cX6_takeNumberWithin 59 = .ok (.aload_n 0, 1) := by decide +kernel
theorem dX6_takeNumberWithin_60 : decode cX6_takeNumberWithin 60 = .ok (.aload_n 0, 1) := by decide +kernel
theorem dX6_takeNumberWithin_61 : decode cX6_takeNumberWithin 61 = .ok (.getfield 58, 3) := by decide +kernel
theorem dX6_takeNumberWithin_64 : decode cX6_takeNumberWithin 64 = .ok (.bipush 10, 2) := by decide +kernel
theorem dX6_takeNumberWithin_66 : decode cX6_takeNumberWithin 66 = .ok (.imul, 1) := by decide +kernel
theorem dX6_takeNumberWithin_67 : decode cX6_takeNumberWithin 67 = .ok (.aload_n 0, 1) := by decide +kernel
theorem dX6_takeNumberWithin_68 : decode cX6_takeNumberWithin 68 = .ok (.aload_n 0, 1) := by decide +kernel
theorem dX6_takeNumberWithin_69 : decode cX6_takeNumberWithin 69 = .ok (.getfield 25, 3) := by decide +kernel
theorem dX6_takeNumberWithin_72 : decode cX6_takeNumberWithin 72 = .ok (.invokevirtual 86, 3) := by decide +kernel
theorem dX6_takeNumberWithin_75 : decode cX6_takeNumberWithin 75 = .ok (.iadd, 1) := by decide +kernel
theorem dX6_takeNumberWithin_76 : decode cX6_takeNumberWithin 76 = .ok (.bipush 48, 2) := by decide +kernel
theorem dX6_takeNumberWithin_78 : decode cX6_takeNumberWithin 78 = .ok (.isub, 1) := by decide +kernel
theorem dX6_takeNumberWithin_79 : decode cX6_takeNumberWithin 79 = .ok (.putfield 58, 3) := by decide +kernel
theorem dX6_takeNumberWithin_82 : decode cX6_takeNumberWithin 82 = .ok (.aload_n 0, 1) := by decide +kernel
theorem dX6_takeNumberWithin_83 : decode cX6_takeNumberWithin 83 = .ok (.dup, 1) := by decide +kernel
theorem dX6_takeNumberWithin_84 : decode cX6_takeNumberWithin 84 = .ok (.getfield 25, 3) := by decide +kernel
theorem dX6_takeNumberWithin_87 : decode cX6_takeNumberWithin 87 = .ok (.iconst 1, 1) := by decide +kernel
theorem dX6_takeNumberWithin_88 : decode cX6_takeNumberWithin 88 = .ok (.iadd, 1) := by decide +kernel
theorem dX6_takeNumberWithin_89 : decode cX6_takeNumberWithin 89 = .ok (.putfield 25, 3) := by decide +kernel
theorem dX6_takeNumberWithin_92 : decode cX6_takeNumberWithin 92 = .ok (.goto (-58), 3) := by decide +kernel
theorem dX6_takeNumberWithin_95 : decode cX6_takeNumberWithin 95 = .ok (.aload_n 0, 1) := by decide +kernel
theorem dX6_takeNumberWithin_96 : decode cX6_takeNumberWithin 96 = .ok (.getfield 25, 3) := by decide +kernel
theorem dX6_takeNumberWithin_99 : decode cX6_takeNumberWithin 99 = .ok (.aload_n 0, 1) := by decide +kernel
theorem dX6_takeNumberWithin_100 : decode cX6_takeNumberWithin 100 = .ok (.getfield 93, 3) := by decide +kernel
theorem dX6_takeNumberWithin_103 : decode cX6_takeNumberWithin 103 = .ok (.isub, 1) := by decide +kernel
theorem dX6_takeNumberWithin_104 : decode cX6_takeNumberWithin 104 = .ok (.iconst 3, 1) := by decide +kernel
theorem dX6_takeNumberWithin_105 : decode cX6_takeNumberWithin 105 = .ok (.if_icmp .gt 19, 3) := by decide +kernel
theorem dX6_takeNumberWithin_108 : decode cX6_takeNumberWithin 108 = .ok (.aload_n 0, 1) := by decide +kernel
theorem dX6_takeNumberWithin_109 : decode cX6_takeNumberWithin 109 = .ok (.getfield 58, 3) := by decide +kernel
theorem dX6_takeNumberWithin_112 : decode cX6_takeNumberWithin 112 = .ok (.iload_n 1, 1) := by decide +kernel
theorem dX6_takeNumberWithin_113 : decode cX6_takeNumberWithin 113 = .ok (.if_icmp .lt 11, 3) := by decide +kernel
theorem dX6_takeNumberWithin_116 : decode cX6_takeNumberWithin 116 = .ok (.aload_n 0, 1) := by decide +kernel
theorem dX6_takeNumberWithin_117 : decode cX6_takeNumberWithin 117 = .ok (.getfield 58, 3) := by decide +kernel
theorem dX6_takeNumberWithin_120 : decode cX6_takeNumberWithin 120 = .ok (.iload_n 2, 1) := by decide +kernel
theorem dX6_takeNumberWithin_121 : decode cX6_takeNumberWithin 121 = .ok (.if_icmp .le 14, 3) := by decide +kernel
theorem dX6_takeNumberWithin_124 : decode cX6_takeNumberWithin 124 = .ok (.aload_n 0, 1) := by decide +kernel
theorem dX6_takeNumberWithin_125 : decode cX6_takeNumberWithin 125 = .ok (.iconst 2, 1) := by decide +kernel
theorem dX6_takeNumberWithin_126 : decode cX6_takeNumberWithin 126 = .ok (.aload_n 0, 1) := by decide +kernel
theorem dX6_takeNumberWithin_127 : decode cX6_takeNumberWithin 127 = .ok (.getfield 93, 3) := by decide +kernel
theorem dX6_takeNumberWithin_130 : decode cX6_takeNumberWithin 130 = .ok (.invokevirtual 65, 3) := by decide +kernel
theorem dX6_takeNumberWithin_133 : decode cX6_takeNumberWithin 133 = .ok (.iconst 0, 1) := by decide +kernel
theorem dX6_takeNumberWithin_134 : decode cX6_takeNumberWithin 134 = .ok (.ireturn, 1) := by decide +kernel
theorem dX6_takeNumberWithin_135 : decode cX6_takeNumberWithin 135 = .ok (.iconst 1, 1) := by decide +kernel
theorem dX6_takeNumberWithin_136 : decode cX6_takeNumberWithin 136 = .ok (.ireturn, 1) := by decide +kernel
theorem dX6_isNew_0 : decode cX6_isNew 0 = .ok (.iload_n 1, 1) := by decide +kernel
theorem dX6_isNew_1 : decode cX6_isNew 1 = .ok (.ifCond .ne 12, 3) := by decide +kernel
theorem dX6_isNew_4 : decode cX6_isNew 4 = .ok (.aload_n 0, 1) := by decide +kernel
theorem dX6_isNew_5 : decode cX6_isNew 5 = .ok (.iconst 4, 1) := by decide +kernel
theorem dX6_isNew_6 : decode cX6_isNew 6 = .ok (.aload_n 0, 1) := by decide +kernel
theorem dX6_isNew_7 : decode cX6_isNew 7 = .ok (.getfield 93, 3) := by decide +kernel
theorem dX6_isNew_10 : decode cX6_isNew 10 = .ok (.invokevirtual 65, 3) := by decide +kernel
theorem dX6_isNew_13 : decode cX6_isNew 13 = .ok (.iload_n 1, 1) := by decide +kernel
theorem dX6_isNew_14 : decode cX6_isNew 14 = .ok (.ireturn, 1) := by decide +kernel
theorem dX6_isFigure_0 : decode cX6_isFigure 0 = .ok (.iload_n 0, 1) := by decide +kernel
theorem dX6_isFigure_1 : decode cX6_isFigure 1 = .ok (.bipush 48, 2) := by decide +kernel
theorem dX6_isFigure_3 : decode cX6_isFigure 3 = .ok (.if_icmp .lt 13, 3) := by decide +kernel
theorem dX6_isFigure_6 : decode cX6_isFigure 6 = .ok (.iload_n 0, 1) := by decide +kernel
theorem dX6_isFigure_7 : decode cX6_isFigure 7 = .ok (.bipush 57, 2) := by decide +kernel
theorem dX6_isFigure_9 : decode cX6_isFigure 9 = .ok (.if_icmp .gt 7, 3) := by decide +kernel
theorem dX6_isFigure_12 : decode cX6_isFigure 12 = .ok (.iconst 1, 1) := by decide +kernel
theorem dX6_isFigure_13 : decode cX6_isFigure 13 = .ok (.goto 4, 3) := by decide +kernel
theorem dX6_isFigure_16 : decode cX6_isFigure 16 = .ok (.iconst 0, 1) := by decide +kernel
theorem dX6_isFigure_17 : decode cX6_isFigure 17 = .ok (.ireturn, 1) := by decide +kernel
theorem dX6_blame_0 : decode cX6_blame 0 = .ok (.aload_n 0, 1) := by decide +kernel
theorem dX6_blame_1 : decode cX6_blame 1 = .ok (.iload_n 1, 1) := by decide +kernel
theorem dX6_blame_2 : decode cX6_blame 2 = .ok (.putfield 37, 3) := by decide +kernel
theorem dX6_blame_5 : decode cX6_blame 5 = .ok (.aload_n 0, 1) := by decide +kernel
theorem dX6_blame_6 : decode cX6_blame 6 = .ok (.iload_n 2, 1) := by decide +kernel
theorem dX6_blame_7 : decode cX6_blame 7 = .ok (.putfield 15, 3) := by decide +kernel
theorem dX6_blame_10 : decode cX6_blame 10 = .ok (.return_, 1) := by decide +kernel
theorem dX7_init_0 : decode cX7_init 0 = .ok (.aload_n 0, 1) := by decide +kernel
theorem dX7_init_1 : decode cX7_init 1 = .ok (.invokespecial 1, 3) := by decide +kernel
theorem dX7_init_4 : decode cX7_init 4 = .ok (.aload_n 0, 1) := by decide +kernel
theorem dX7_init_5 : decode cX7_init 5 = .ok (.new 7, 3) := by decide +kernel
theorem dX7_init_8 : decode cX7_init 8 = .ok (.dup, 1) := by decide +kernel
theorem dX7_init_9 : decode cX7_init 9 = .ok (.invokespecial 9, 3) := by decide +kernel
theorem dX7_init_12 : decode cX7_init 12 = .ok (.putfield 10, 3) := by decide +kernel
theorem dX7_init_15 : decode cX7_init 15 = .ok (.return_, 1) := by decide +kernel
theorem dX7_take_0 : decode cX7_take 0 = .ok (.aload_n 0, 1) := by decide +kernel
theorem dX7_take_1 : decode cX7_take 1 = .ok (.aload_n 1, 1) := by decide +kernel
theorem dX7_take_2 : decode cX7_take 2 = .ok (.getfield 16, 3) := by decide +kernel
theorem dX7_take_5 : decode cX7_take 5 = .ok (.putfield 22, 3) := by decide +kernel
theorem dX7_take_8 : decode cX7_take 8 = .ok (.aload_n 0, 1) := by decide +kernel
theorem dX7_take_9 : decode cX7_take 9 = .ok (.aload_n 1, 1) := by decide +kernel
theorem dX7_take_10 : decode cX7_take 10 = .ok (.getfield 23, 3) := by decide +kernel
theorem dX7_take_13 : decode cX7_take 13 = .ok (.putfield 26, 3) := by decide +kernel
theorem dX7_take_16 : decode cX7_take 16 = .ok (.aload_n 0, 1) := by decide +kernel
theorem dX7_take_17 : decode cX7_take 17 = .ok (.aload_n 1, 1) := by decide +kernel
theorem dX7_take_18 : decode cX7_take 18 = .ok (.getfield 27, 3) := by decide +kernel
theorem dX7_take_21 : decode cX7_take 21 = .ok (.putfield 30, 3) := by decide +kernel
theorem dX7_take_24 : decode cX7_take 24 = .ok (.aload_n 0, 1) := by decide +kernel
theorem dX7_take_25 : decode cX7_take 25 = .ok (.iload_n 2, 1) := by decide +kernel
theorem dX7_take_26 : decode cX7_take 26 = .ok (.putfield 33, 3) := by decide +kernel
theorem dX7_take_29 : decode cX7_take 29 = .ok (.aload_n 0, 1) := by decide +kernel
theorem dX7_take_30 : decode cX7_take 30 = .ok (.iload_n 3, 1) := by decide +kernel
theorem dX7_take_31 : decode cX7_take 31 = .ok (.putfield 36, 3) := by decide +kernel
theorem dX7_take_34 : decode cX7_take 34 = .ok (.aload_n 0, 1) := by decide +kernel
theorem dX7_take_35 : decode cX7_take 35 = .ok (.iload 4, 2) := by decide +kernel
theorem dX7_take_37 : decode cX7_take 37 = .ok (.putfield 39, 3) := by decide +kernel
theorem dX7_take_40 : decode cX7_take 40 = .ok (.return_, 1) := by decide +kernel
theorem dX7_lay_0 : decode cX7_lay 0 = .ok (.aload_n 0, 1) := by decide +kernel
theorem dX7_lay_1 : decode cX7_lay 1 = .ok (.getfield 10, 3) := by decide +kernel
theorem dX7_lay_4 : decode cX7_lay 4 = .ok (.iload_n 1, 1) := by decide +kernel
theorem dX7_lay_5 : decode cX7_lay 5 = .ok (.iload_n 2, 1) := by decide +kernel
theorem dX7_lay_6 : decode cX7_lay 6 = .ok (.aload_n 0, 1) := by decide +kernel
theorem dX7_lay_7 : decode cX7_lay 7 = .ok (.getfield 22, 3) := by decide +kernel
theorem dX7_lay_10 : decode cX7_lay 10 = .ok (.aload_n 0, 1) := by decide +kernel
theorem dX7_lay_11 : decode cX7_lay 11 = .ok (.getfield 26, 3) := by decide +kernel
theorem dX7_lay_14 : decode cX7_lay 14 = .ok (.invokevirtual 43, 3) := by decide +kernel
theorem dX7_lay_17 : decode cX7_lay 17 = .ok (.aload_n 0, 1) := by decide +kernel
theorem dX7_lay_18 : decode cX7_lay 18 = .ok (.iload_n 1, 1) := by decide +kernel
theorem dX7_lay_19 : decode cX7_lay 19 = .ok (.aload_n 0, 1) := by decide +kernel
theorem dX7_lay_20 : decode cX7_lay 20 = .ok (.getfield 30, 3) := by decide +kernel
theorem dX7_lay_23 : decode cX7_lay 23 = .ok (.invokestatic 47, 3) := by decide +kernel
theorem dX7_lay_26 : decode cX7_lay 26 = .ok (.putfield 53, 3) := by decide +kernel
theorem dX7_lay_29 : decode cX7_lay 29 = .ok (.return_, 1) := by decide +kernel
theorem dX7_fits_0 : decode cX7_fits 0 = .ok (.aload_n 0, 1) := by decide +kernel
theorem dX7_fits_1 : decode cX7_fits 1 = .ok (.getfield 10, 3) := by decide +kernel
theorem dX7_fits_4 : decode cX7_fits 4 = .ok (.aload_n 1, 1) := by decide +kernel
theorem dX7_fits_5 : decode cX7_fits 5 = .ok (.iload_n 2, 1) := by decide +kernel
theorem dX7_fits_6 : decode cX7_fits 6 = .ok (.aload_n 0, 1) := by decide +kernel
theorem dX7_fits_7 : decode cX7_fits 7 = .ok (.getfield 53, 3) := by decide +kernel
theorem dX7_fits_10 : decode cX7_fits 10 = .ok (.invokevirtual 55, 3) := by decide +kernel
theorem dX7_fits_13 : decode cX7_fits 13 = .ok (.aload_n 0, 1) := by decide +kernel
theorem dX7_fits_14 : decode cX7_fits 14 = .ok (.getfield 10, 3) := by decide +kernel
theorem dX7_fits_17 : decode cX7_fits 17 = .ok (.aload_n 0, 1) := by decide +kernel
theorem dX7_fits_18 : decode cX7_fits 18 = .ok (.getfield 33, 3) := by decide +kernel
theorem dX7_fits_21 : decode cX7_fits 21 = .ok (.aload_n 0, 1) := by decide +kernel
theorem dX7_fits_22 : decode cX7_fits 22 = .ok (.getfield 36, 3) := by decide +kernel
theorem dX7_fits_25 : decode cX7_fits 25 = .ok (.invokevirtual 59, 3) := by decide +kernel
theorem dX7_fits_28 : decode cX7_fits 28 = .ok (.aload_n 0, 1) := by decide +kernel
theorem dX7_fits_29 : decode cX7_fits 29 = .ok (.getfield 39, 3) := by decide +kernel
theorem dX7_fits_32 : decode cX7_fits 32 = .ok (.if_icmp .ne 7, 3) := by decide +kernel
theorem dX7_fits_35 : decode cX7_fits 35 = .ok (.iconst 1, 1) := by decide +kernel
theorem dX7_fits_36 : decode cX7_fits 36 = .ok (.goto 4, 3) := by decide +kernel
theorem dX7_fits_39 : decode cX7_fits 39 = .ok (.iconst 0, 1) := by decide +kernel
theorem dX7_fits_40 : decode cX7_fits 40 = .ok (.ireturn, 1) := by decide +kernel
theorem dX8_init_0 : decode cX8_init 0 = .ok (.aload_n 0, 1) := by decide +kernel
theorem dX8_init_1 : decode cX8_init 1 = .ok (.invokespecial 3, 3) := by decide +kernel
theorem dX8_init_4 : decode cX8_init 4 = .ok (.return_, 1) := by decide +kernel
theorem dX8_begin_0 : decode cX8_begin 0 = .ok (.aload_n 0, 1) := by decide +kernel
theorem dX8_begin_1 : decode cX8_begin 1 = .ok (.iload_n 1, 1) := by decide +kernel
theorem dX8_begin_2 : decode cX8_begin 2 = .ok (.putfield 9, 3) := by decide +kernel
theorem dX8_begin_5 : decode cX8_begin 5 = .ok (.aload_n 0, 1) := by decide +kernel
theorem dX8_begin_6 : decode cX8_begin 6 = .ok (.iload_n 2, 1) := by decide +kernel
theorem dX8_begin_7 : decode cX8_begin 7 = .ok (.putfield 15, 3) := by decide +kernel
theorem dX8_begin_10 : decode cX8_begin 10 = .ok (.aload_n 0, 1) := by decide +kernel
theorem dX8_begin_11 : decode cX8_begin 11 = .ok (.iconst 0, 1) := by decide +kernel
theorem dX8_begin_12 : decode cX8_begin 12 = .ok (.putfield 18, 3) := by decide +kernel
theorem dX8_begin_15 : decode cX8_begin 15 = .ok (.aload_n 0, 1) := by decide +kernel
theorem dX8_begin_16 : decode cX8_begin 16 = .ok (.iconst 0, 1) := by decide +kernel
theorem dX8_begin_17 : decode cX8_begin 17 = .ok (.putfield 21, 3) := by decide +kernel
theorem dX8_begin_20 : decode cX8_begin 20 = .ok (.aload_n 0, 1) := by decide +kernel
theorem dX8_begin_21 : decode cX8_begin 21 = .ok (.iconst 0, 1) := by decide +kernel
theorem dX8_begin_22 : decode cX8_begin 22 = .ok (.putfield 24, 3) := by decide +kernel
theorem dX8_begin_25 : decode cX8_begin 25 = .ok (.aload_n 0, 1) := by decide +kernel
theorem dX8_begin_26 : decode cX8_begin 26 = .ok (.iconst 0, 1) := by decide +kernel
theorem dX8_begin_27 : decode cX8_begin 27 = .ok (.putfield 27, 3) := by decide +kernel
theorem dX8_begin_30 : decode cX8_begin 30 = .ok (.aload_n 0, 1) := by decide +kernel
theorem dX8_begin_31 : decode cX8_begin 31 = .ok (.iconst 0, 1) := by decide +kernel
theorem dX8_begin_32 : decode cX8_begin 32 = .ok (.putfield 30, 3) := by decide +kernel
theorem dX8_begin_35 : decode cX8_begin 35 = .ok (.aload_n 0, 1) := by decide +kernel
theorem dX8_begin_36 : decode cX8_begin 36 = .ok (.iconst 0, 1) := by decide +kernel
theorem dX8_begin_37 : decode cX8_begin 37 = .ok (.putfield 33, 3) := by decide +kernel
theorem dX8_begin_40 : decode cX8_begin 40 = .ok (.return_, 1) := by decide +kernel
theorem dX8_become_0 : decode cX8_become 0 = .ok (.aload_n 0, 1) := by decide +kernel
theorem dX8_become_1 : decode cX8_become 1 = .ok (.aload_n 1, 1) := by decide +kernel
theorem dX8_become_2 : decode cX8_become 2 = .ok (.getfield 9, 3) := by decide +kernel
theorem dX8_become_5 : decode cX8_become 5 = .ok (.putfield 9, 3) := by decide +kernel
theorem dX8_become_8 : decode cX8_become 8 = .ok (.aload_n 0, 1) := by decide +kernel
theorem dX8_become_9 : decode cX8_become 9 = .ok (.aload_n 1, 1) := by decide +kernel
theorem dX8_become_10 : decode cX8_become 10 = .ok (.getfield 15, 3) := by decide +kernel
theorem dX8_become_13 : decode cX8_become 13 = .ok (.putfield 15, 3) := by decide +kernel
theorem dX8_become_16 : decode cX8_become 16 = .ok (.aload_n 0, 1) := by decide +kernel
theorem dX8_become_17 : decode cX8_become 17 = .ok (.aload_n 1, 1) := by decide +kernel
theorem dX8_become_18 : decode cX8_become 18 = .ok (.getfield 18, 3) := by decide +kernel
theorem dX8_become_21 : decode cX8_become 21 = .ok (.putfield 18, 3) := by decide +kernel
theorem dX8_become_24 : decode cX8_become 24 = .ok (.aload_n 0, 1) := by decide +kernel
theorem dX8_become_25 : decode cX8_become 25 = .ok (.aload_n 1, 1) := by decide +kernel
theorem dX8_become_26 : decode cX8_become 26 = .ok (.getfield 21, 3) := by decide +kernel
theorem dX8_become_29 : decode cX8_become 29 = .ok (.putfield 21, 3) := by decide +kernel
theorem dX8_become_32 : decode cX8_become 32 = .ok (.aload_n 0, 1) := by decide +kernel
theorem dX8_become_33 : decode cX8_become 33 = .ok (.aload_n 1, 1) := by decide +kernel
theorem dX8_become_34 : decode cX8_become 34 = .ok (.getfield 24, 3) := by decide +kernel
theorem dX8_become_37 : decode cX8_become 37 = .ok (.putfield 24, 3) := by decide +kernel
theorem dX8_become_40 : decode cX8_become 40 = .ok (.aload_n 0, 1) := by decide +kernel
theorem dX8_become_41 : decode cX8_become 41 = .ok (.aload_n 1, 1) := by decide +kernel
theorem dX8_become_42 : decode cX8_become 42 = .ok (.getfield 27, 3) := by decide +kernel
theorem dX8_become_45 : decode cX8_become 45 = .ok (.putfield 27, 3) := by decide +kernel
theorem dX8_become_48 : decode cX8_become 48 = .ok (.aload_n 0, 1) := by decide +kernel
theorem dX8_become_49 : decode cX8_become 49 = .ok (.aload_n 1, 1) := by decide +kernel
theorem dX8_become_50 : decode cX8_become 50 = .ok (.getfield 30, 3) := by decide +kernel
theorem dX8_become_53 : decode cX8_become 53 = .ok (.putfield 30, 3) := by decide +kernel
theorem dX8_become_56 : decode cX8_become 56 = .ok (.aload_n 0, 1) := by decide +kernel
theorem dX8_become_57 : decode cX8_become 57 = .ok (.aload_n 1, 1) := by decide +kernel
theorem dX8_become_58 : decode cX8_become 58 = .ok (.getfield 33, 3) := by decide +kernel
theorem dX8_become_61 : decode cX8_become 61 = .ok (.putfield 33, 3) := by decide +kernel
theorem dX8_become_64 : decode cX8_become 64 = .ok (.return_, 1) := by decide +kernel
theorem dX8_tiesHere_0 : decode cX8_tiesHere 0 = .ok (.aload_n 0, 1) := by decide +kernel
theorem dX8_tiesHere_1 : decode cX8_tiesHere 1 = .ok (.getfield 24, 3) := by decide +kernel
theorem dX8_tiesHere_4 : decode cX8_tiesHere 4 = .ok (.ifCond .ne 10, 3) := by decide +kernel
theorem dX8_tiesHere_7 : decode cX8_tiesHere 7 = .ok (.aload_n 0, 1) := by decide +kernel
theorem dX8_tiesHere_8 : decode cX8_tiesHere 8 = .ok (.getfield 18, 3) := by decide +kernel
theorem dX8_tiesHere_11 : decode cX8_tiesHere 11 = .ok (.goto 7, 3) := by decide +kernel
theorem dX8_tiesHere_14 : decode cX8_tiesHere 14 = .ok (.aload_n 0, 1) := by decide +kernel
theorem dX8_tiesHere_15 : decode cX8_tiesHere 15 = .ok (.getfield 21, 3) := by decide +kernel
theorem dX8_tiesHere_18 : decode cX8_tiesHere 18 = .ok (.ireturn, 1) := by decide +kernel
theorem dX8_tieHere_0 : decode cX8_tieHere 0 = .ok (.aload_n 0, 1) := by decide +kernel
theorem dX8_tieHere_1 : decode cX8_tieHere 1 = .ok (.getfield 24, 3) := by decide +kernel
theorem dX8_tieHere_4 : decode cX8_tieHere 4 = .ok (.ifCond .ne 19, 3) := by decide +kernel
theorem dX8_tieHere_7 : decode cX8_tieHere 7 = .ok (.aload_n 0, 1) := by decide +kernel
theorem dX8_tieHere_8 : decode cX8_tieHere 8 = .ok (.aload_n 0, 1) := by decide +kernel
theorem dX8_tieHere_9 : decode cX8_tieHere 9 = .ok (.getfield 18, 3) := by decide +kernel
theorem dX8_tieHere_12 : decode cX8_tieHere 12 = .ok (.iload_n 1, 1) := by decide +kernel
theorem dX8_tieHere_13 : decode cX8_tieHere 13 = .ok (.iload_n 2, 1) := by decide +kernel
theorem dX8_tieHere_14 : decode cX8_tieHere 14 = .ok (.invokestatic 36, 3) := by decide +kernel
theorem dX8_tieHere_17 : decode cX8_tieHere 17 = .ok (.putfield 18, 3) := by decide +kernel
theorem dX8_tieHere_20 : decode cX8_tieHere 20 = .ok (.goto 16, 3) := by decide +kernel
theorem dX8_tieHere_23 : decode cX8_tieHere 23 = .ok (.aload_n 0, 1) := by decide +kernel
theorem dX8_tieHere_24 : decode cX8_tieHere 24 = .ok (.aload_n 0, 1) := by decide +kernel
theorem dX8_tieHere_25 : decode cX8_tieHere 25 = .ok (.getfield 21, 3) := by decide +kernel
theorem dX8_tieHere_28 : decode cX8_tieHere 28 = .ok (.iload_n 1, 1) := by decide +kernel
theorem dX8_tieHere_29 : decode cX8_tieHere 29 = .ok (.iload_n 2, 1) := by decide +kernel
theorem dX8_tieHere_30 : decode cX8_tieHere 30 = .ok (.invokestatic 36, 3) := by decide +kernel
theorem dX8_tieHere_33 : decode cX8_tieHere 33 = .ok (.putfield 21, 3) := by decide +kernel
theorem dX8_tieHere_36 : decode cX8_tieHere 36 = .ok (.return_, 1) := by decide +kernel
theorem dX8_walk_0 : decode cX8_walk 0 = .ok (.aload_n 0, 1) := by decide +kernel
theorem dX8_walk_1 : decode cX8_walk 1 = .ok (.iconst 1, 1) := by decide +kernel
theorem dX8_walk_2 : decode cX8_walk 2 = .ok (.aload_n 0, 1) := by decide +kernel
theorem dX8_walk_3 : decode cX8_walk 3 = .ok (.getfield 24, 3) := by decide +kernel
theorem dX8_walk_6 : decode cX8_walk 6 = .ok (.isub, 1) := by decide +kernel
theorem dX8_walk_7 : decode cX8_walk 7 = .ok (.putfield 24, 3) := by decide +kernel
theorem dX8_walk_10 : decode cX8_walk 10 = .ok (.aload_n 0, 1) := by decide +kernel
theorem dX8_walk_11 : decode cX8_walk 11 = .ok (.aload_n 0, 1) := by decide +kernel
theorem dX8_walk_12 : decode cX8_walk 12 = .ok (.getfield 30, 3) := by decide +kernel
theorem dX8_walk_15 : decode cX8_walk 15 = .ok (.iconst 1, 1) := by decide +kernel
theorem dX8_walk_16 : decode cX8_walk 16 = .ok (.iadd, 1) := by decide +kernel
theorem dX8_walk_17 : decode cX8_walk 17 = .ok (.sipush 9999, 3) := by decide +kernel
theorem dX8_walk_20 : decode cX8_walk 20 = .ok (.invokestatic 40, 3) := by decide +kernel
theorem dX8_walk_23 : decode cX8_walk 23 = .ok (.putfield 30, 3) := by decide +kernel
theorem dX8_walk_26 : decode cX8_walk 26 = .ok (.return_, 1) := by decide +kernel
theorem dX8_countTest_0 : decode cX8_countTest 0 = .ok (.aload_n 0, 1) := by decide +kernel
theorem dX8_countTest_1 : decode cX8_countTest 1 = .ok (.aload_n 0, 1) := by decide +kernel
theorem dX8_countTest_2 : decode cX8_countTest 2 = .ok (.getfield 33, 3) := by decide +kernel
theorem dX8_countTest_5 : decode cX8_countTest 5 = .ok (.iconst 1, 1) := by decide +kernel
theorem dX8_countTest_6 : decode cX8_countTest 6 = .ok (.iadd, 1) := by decide +kernel
theorem dX8_countTest_7 : decode cX8_countTest 7 = .ok (.sipush 9999, 3) := by decide +kernel
theorem dX8_countTest_10 : decode cX8_countTest 10 = .ok (.invokestatic 40, 3) := by decide +kernel
theorem dX8_countTest_13 : decode cX8_countTest 13 = .ok (.putfield 33, 3) := by decide +kernel
theorem dX8_countTest_16 : decode cX8_countTest 16 = .ok (.return_, 1) := by decide +kernel
theorem dX9_init_0 : decode cX9_init 0 = .ok (.aload_n 0, 1) := by decide +kernel
theorem dX9_init_1 : decode cX9_init 1 = .ok (.invokespecial 3, 3) := by decide +kernel
theorem dX9_init_4 : decode cX9_init 4 = .ok (.aload_n 0, 1) := by decide +kernel
theorem dX9_init_5 : decode cX9_init 5 = .ok (.iconst 5, 1) := by decide +kernel
theorem dX9_init_6 : decode cX9_init 6 = .ok (.newarray .int, 2) := by decide +kernel
theorem dX9_init_8 : decode cX9_init 8 = .ok (.putfield 9, 3) := by decide +kernel
theorem dX9_init_11 : decode cX9_init 11 = .ok (.return_, 1) := by decide +kernel
theorem dX9_start_0 : decode cX9_start 0 = .ok (.iconst 0, 1) := by decide +kernel
theorem dX9_start_1 : decode cX9_start 1 = .ok (.istore_n 1, 1) := by decide +kernel
theorem dX9_start_2 : decode cX9_start 2 = .ok (.iload_n 1, 1) := by decide +kernel
theorem dX9_start_3 : decode cX9_start 3 = .ok (.iconst 5, 1) := by decide +kernel
theorem dX9_start_4 : decode cX9_start 4 = .ok (.if_icmp .ge 16, 3) := by decide +kernel
theorem dX9_start_7 : decode cX9_start 7 = .ok (.aload_n 0, 1) := by decide +kernel
theorem dX9_start_8 : decode cX9_start 8 = .ok (.getfield 9, 3) := by decide +kernel
theorem dX9_start_11 : decode cX9_start 11 = .ok (.iload_n 1, 1) := by decide +kernel
theorem dX9_start_12 : decode cX9_start 12 = .ok (.iconst 0, 1) := by decide +kernel
theorem dX9_start_13 : decode cX9_start 13 = .ok (.iastore, 1) := by decide +kernel
theorem dX9_start_14 : decode cX9_start 14 = .ok (.iinc 1 1, 3) := by decide +kernel
theorem dX9_start_17 : decode cX9_start 17 = .ok (.goto (-15), 3) := by decide +kernel
theorem dX9_start_20 : decode cX9_start 20 = .ok (.return_, 1) := by decide +kernel
theorem dX9_advance_0 : decode cX9_advance 0 = .ok (.iload_n 1, 1) := by decide +kernel
theorem dX9_advance_1 : decode cX9_advance 1 = .ok (.iconst 5, 1) := by decide +kernel
theorem dX9_advance_2 : decode cX9_advance 2 = .ok (.invokestatic 15, 3) := by decide +kernel
theorem dX9_advance_5 : decode cX9_advance 5 = .ok (.iconst 1, 1) := by decide +kernel
theorem dX9_advance_6 : decode cX9_advance 6 = .ok (.isub, 1) := by decide +kernel
theorem dX9_advance_7 : decode cX9_advance 7 = .ok (.istore_n 2, 1) := by decide +kernel
theorem dX9_advance_8 : decode cX9_advance 8 = .ok (.iload_n 2, 1) := by decide +kernel
theorem dX9_advance_9 : decode cX9_advance 9 = .ok (.ifCond .le 42, 3) := by decide +kernel
theorem dX9_advance_12 : decode cX9_advance 12 = .ok (.aload_n 0, 1) := by decide +kernel
theorem dX9_advance_13 : decode cX9_advance 13 = .ok (.getfield 9, 3) := by decide +kernel
theorem dX9_advance_16 : decode cX9_advance 16 = .ok (.iload_n 2, 1) := by decide +kernel
theorem dX9_advance_17 : decode cX9_advance 17 = .ok (.iaload, 1) := by decide +kernel
theorem dX9_advance_18 : decode cX9_advance 18 = .ok (.aload_n 0, 1) := by decide +kernel
theorem dX9_advance_19 : decode cX9_advance 19 = .ok (.iload_n 2, 1) := by decide +kernel
theorem dX9_advance_20 : decode cX9_advance 20 = .ok (.invokevirtual 21, 3) := by decide +kernel
theorem dX9_advance_23 : decode cX9_advance 23 = .ok (.if_icmp .gt 15, 3) := by decide +kernel
theorem dX9_advance_26 : decode cX9_advance 26 = .ok (.aload_n 0, 1) := by decide +kernel
theorem dX9_advance_27 : decode cX9_advance 27 = .ok (.getfield 9, 3) := by decide +kernel
theorem dX9_advance_30 : decode cX9_advance 30 = .ok (.iload_n 2, 1) := by decide +kernel
theorem dX9_advance_31 : decode cX9_advance 31 = .ok (.dup2, 1) := by decide +kernel
theorem dX9_advance_32 : decode cX9_advance 32 = .ok (.iaload, 1) := by decide +kernel
theorem dX9_advance_33 : decode cX9_advance 33 = .ok (.iconst 1, 1) := by decide +kernel
theorem dX9_advance_34 : decode cX9_advance 34 = .ok (.iadd, 1) := by decide +kernel
theorem dX9_advance_35 : decode cX9_advance 35 = .ok (.iastore, 1) := by decide +kernel
theorem dX9_advance_36 : decode cX9_advance 36 = .ok (.iconst 1, 1) := by decide +kernel
theorem dX9_advance_37 : decode cX9_advance 37 = .ok (.ireturn, 1) := by decide +kernel
theorem dX9_advance_38 : decode cX9_advance 38 = .ok (.aload_n 0, 1) := by decide +kernel
theorem dX9_advance_39 : decode cX9_advance 39 = .ok (.getfield 9, 3) := by decide +kernel
theorem dX9_advance_42 : decode cX9_advance 42 = .ok (.iload_n 2, 1) := by decide +kernel
theorem dX9_advance_43 : decode cX9_advance 43 = .ok (.iconst 0, 1) := by decide +kernel
theorem dX9_advance_44 : decode cX9_advance 44 = .ok (.iastore, 1) := by decide +kernel
theorem dX9_advance_45 : decode cX9_advance 45 = .ok (.iinc 2 (-1), 3) := by decide +kernel
theorem dX9_advance_48 : decode cX9_advance 48 = .ok (.goto (-40), 3) := by decide +kernel
theorem dX9_advance_51 : decode cX9_advance 51 = .ok (.iconst 0, 1) := by decide +kernel
theorem dX9_advance_52 : decode cX9_advance 52 = .ok (.ireturn, 1) := by decide +kernel
theorem dX9_row_0 : decode cX9_row 0 = .ok (.iconst 0, 1) := by decide +kernel
theorem dX9_row_1 : decode cX9_row 1 = .ok (.istore_n 2, 1) := by decide +kernel
theorem dX9_row_2 : decode cX9_row 2 = .ok (.iconst 0, 1) := by decide +kernel
theorem dX9_row_3 : decode cX9_row 3 = .ok (.istore_n 3, 1) := by decide +kernel
theorem dX9_row_4 : decode cX9_row 4 = .ok (.iload_n 3, 1) := by decide +kernel
theorem dX9_row_5 : decode cX9_row 5 = .ok (.iload_n 1, 1) := by decide +kernel
theorem dX9_row_6 : decode cX9_row 6 = .ok (.if_icmp .ge 28, 3) := by decide +kernel
theorem dX9_row_9 : decode cX9_row 9 = .ok (.iload_n 3, 1) := by decide +kernel
theorem dX9_row_10 : decode cX9_row 10 = .ok (.iconst 5, 1) := by decide +kernel
theorem dX9_row_11 : decode cX9_row 11 = .ok (.if_icmp .ge 23, 3) := by decide +kernel
theorem dX9_row_14 : decode cX9_row 14 = .ok (.iload_n 2, 1) := by decide +kernel
theorem dX9_row_15 : decode cX9_row 15 = .ok (.iload_n 3, 1) := by decide +kernel
theorem dX9_row_16 : decode cX9_row 16 = .ok (.aload_n 0, 1) := by decide +kernel
theorem dX9_row_17 : decode cX9_row 17 = .ok (.getfield 9, 3) := by decide +kernel
theorem dX9_row_20 : decode cX9_row 20 = .ok (.iload_n 3, 1) := by decide +kernel
theorem dX9_row_21 : decode cX9_row 21 = .ok (.iaload, 1) := by decide +kernel
theorem dX9_row_22 : decode cX9_row 22 = .ok (.iconst 1, 1) := by decide +kernel
theorem dX9_row_23 : decode cX9_row 23 = .ok (.iadd, 1) := by decide +kernel
theorem dX9_row_24 : decode cX9_row 24 = .ok (.invokestatic 25, 3) := by decide +kernel
theorem dX9_row_27 : decode cX9_row 27 = .ok (.istore_n 2, 1) := by decide +kernel
theorem dX9_row_28 : decode cX9_row 28 = .ok (.iinc 3 1, 3) := by decide +kernel
theorem dX9_row_31 : decode cX9_row 31 = .ok (.goto (-27), 3) := by decide +kernel
theorem dX9_row_34 : decode cX9_row 34 = .ok (.iload_n 2, 1) := by decide +kernel
theorem dX9_row_35 : decode cX9_row 35 = .ok (.ireturn, 1) := by decide +kernel
theorem dX9_mostAhead_0 : decode cX9_mostAhead 0 = .ok (.iconst 0, 1) := by decide +kernel
theorem dX9_mostAhead_1 : decode cX9_mostAhead 1 = .ok (.istore_n 2, 1) := by decide +kernel
theorem dX9_mostAhead_2 : decode cX9_mostAhead 2 = .ok (.iconst 0, 1) := by decide +kernel
theorem dX9_mostAhead_3 : decode cX9_mostAhead 3 = .ok (.istore_n 3, 1) := by decide +kernel
theorem dX9_mostAhead_4 : decode cX9_mostAhead 4 = .ok (.iload_n 3, 1) := by decide +kernel
theorem dX9_mostAhead_5 : decode cX9_mostAhead 5 = .ok (.iload_n 1, 1) := by decide +kernel
theorem dX9_mostAhead_6 : decode cX9_mostAhead 6 = .ok (.if_icmp .ge 25, 3) := by decide +kernel
theorem dX9_mostAhead_9 : decode cX9_mostAhead 9 = .ok (.iload_n 3, 1) := by decide +kernel
theorem dX9_mostAhead_10 : decode cX9_mostAhead 10 = .ok (.iconst 5, 1) := by decide +kernel
theorem dX9_mostAhead_11 : decode cX9_mostAhead 11 = .ok (.if_icmp .ge 20, 3) := by decide +kernel
theorem dX9_mostAhead_14 : decode cX9_mostAhead 14 = .ok (.iload_n 2, 1) := by decide +kernel
theorem dX9_mostAhead_15 : decode cX9_mostAhead 15 = .ok (.aload_n 0, 1) := by decide +kernel
theorem dX9_mostAhead_16 : decode cX9_mostAhead 16 = .ok (.getfield 9, 3) := by decide +kernel
theorem dX9_mostAhead_19 : decode cX9_mostAhead 19 = .ok (.iload_n 3, 1) := by decide +kernel
theorem dX9_mostAhead_20 : decode cX9_mostAhead 20 = .ok (.iaload, 1) := by decide +kernel
theorem dX9_mostAhead_21 : decode cX9_mostAhead 21 = .ok (.invokestatic 29, 3) := by decide +kernel
theorem dX9_mostAhead_24 : decode cX9_mostAhead 24 = .ok (.istore_n 2, 1) := by decide +kernel
theorem dX9_mostAhead_25 : decode cX9_mostAhead 25 = .ok (.iinc 3 1, 3) := by decide +kernel
theorem dX9_mostAhead_28 : decode cX9_mostAhead 28 = .ok (.goto (-24), 3) := by decide +kernel
theorem dX9_mostAhead_31 : decode cX9_mostAhead 31 = .ok (.iload_n 2, 1) := by decide +kernel
theorem dX9_mostAhead_32 : decode cX9_mostAhead 32 = .ok (.ireturn, 1) := by decide +kernel
theorem dX10_init_0 : decode cX10_init 0 = .ok (.aload_n 0, 1) := by decide +kernel
theorem dX10_init_1 : decode cX10_init 1 = .ok (.invokespecial 1, 3) := by decide +kernel
theorem dX10_init_4 : decode cX10_init 4 = .ok (.aload_n 0, 1) := by decide +kernel
theorem dX10_init_5 : decode cX10_init 5 = .ok (.new 7, 3) := by decide +kernel
theorem dX10_init_8 : decode cX10_init 8 = .ok (.dup, 1) := by decide +kernel
theorem dX10_init_9 : decode cX10_init 9 = .ok (.invokespecial 9, 3) := by decide +kernel
theorem dX10_init_12 : decode cX10_init 12 = .ok (.putfield 10, 3) := by decide +kernel
theorem dX10_init_15 : decode cX10_init 15 = .ok (.aload_n 0, 1) := by decide +kernel
theorem dX10_init_16 : decode cX10_init 16 = .ok (.iconst 5, 1) := by decide +kernel
theorem dX10_init_17 : decode cX10_init 17 = .ok (.newarray .int, 2) := by decide +kernel
theorem dX10_init_19 : decode cX10_init 19 = .ok (.putfield 16, 3) := by decide +kernel
theorem dX10_init_22 : decode cX10_init 22 = .ok (.aload_n 0, 1) := by decide +kernel
theorem dX10_init_23 : decode cX10_init 23 = .ok (.new 20, 3) := by decide +kernel
theorem dX10_init_26 : decode cX10_init 26 = .ok (.dup, 1) := by decide +kernel
theorem dX10_init_27 : decode cX10_init 27 = .ok (.invokespecial 22, 3) := by decide +kernel
theorem dX10_init_30 : decode cX10_init 30 = .ok (.putfield 23, 3) := by decide +kernel
theorem dX10_init_33 : decode cX10_init 33 = .ok (.aload_n 0, 1) := by decide +kernel
theorem dX10_init_34 : decode cX10_init 34 = .ok (.new 27, 3) := by decide +kernel
theorem dX10_init_37 : decode cX10_init 37 = .ok (.dup, 1) := by decide +kernel
theorem dX10_init_38 : decode cX10_init 38 = .ok (.invokespecial 29, 3) := by decide +kernel
theorem dX10_init_41 : decode cX10_init 41 = .ok (.putfield 30, 3) := by decide +kernel
theorem dX10_init_44 : decode cX10_init 44 = .ok (.aload_n 0, 1) := by decide +kernel
theorem dX10_init_45 : decode cX10_init 45 = .ok (.new 34, 3) := by decide +kernel
theorem dX10_init_48 : decode cX10_init 48 = .ok (.dup, 1) := by decide +kernel
theorem dX10_init_49 : decode cX10_init 49 = .ok (.invokespecial 36, 3) := by decide +kernel
theorem dX10_init_52 : decode cX10_init 52 = .ok (.putfield 37, 3) := by decide +kernel
theorem dX10_init_55 : decode cX10_init 55 = .ok (.aload_n 0, 1) := by decide +kernel
theorem dX10_init_56 : decode cX10_init 56 = .ok (.iconst 2, 1) := by decide +kernel
theorem dX10_init_57 : decode cX10_init 57 = .ok (.anewarray 41, 3) := by decide +kernel
theorem dX10_init_60 : decode cX10_init 60 = .ok (.putfield 43, 3) := by decide +kernel
theorem dX10_init_63 : decode cX10_init 63 = .ok (.aload_n 0, 1) := by decide +kernel
theorem dX10_init_64 : decode cX10_init 64 = .ok (.bipush 8, 2) := by decide +kernel
theorem dX10_init_66 : decode cX10_init 66 = .ok (.anewarray 47, 3) := by decide +kernel
theorem dX10_init_69 : decode cX10_init 69 = .ok (.putfield 49, 3) := by decide +kernel
theorem dX10_init_72 : decode cX10_init 72 = .ok (.aload_n 0, 1) := by decide +kernel
theorem dX10_init_73 : decode cX10_init 73 = .ok (.bipush 15, 2) := by decide +kernel
theorem dX10_init_75 : decode cX10_init 75 = .ok (.newarray .int, 2) := by decide +kernel
theorem dX10_init_77 : decode cX10_init 77 = .ok (.putfield 53, 3) := by decide +kernel
theorem dX10_init_80 : decode cX10_init 80 = .ok (.aload_n 0, 1) := by decide +kernel
theorem dX10_init_81 : decode cX10_init 81 = .ok (.bipush 15, 2) := by decide +kernel
theorem dX10_init_83 : decode cX10_init 83 = .ok (.newarray .int, 2) := by decide +kernel
theorem dX10_init_85 : decode cX10_init 85 = .ok (.putfield 56, 3) := by decide +kernel
theorem dX10_init_88 : decode cX10_init 88 = .ok (.aload_n 0, 1) := by decide +kernel
theorem dX10_init_89 : decode cX10_init 89 = .ok (.new 59, 3) := by decide +kernel
theorem dX10_init_92 : decode cX10_init 92 = .ok (.dup, 1) := by decide +kernel
theorem dX10_init_93 : decode cX10_init 93 = .ok (.invokespecial 61, 3) := by decide +kernel
theorem dX10_init_96 : decode cX10_init 96 = .ok (.putfield 62, 3) := by decide +kernel
theorem dX10_init_99 : decode cX10_init 99 = .ok (.aload_n 0, 1) := by decide +kernel
theorem dX10_init_100 : decode cX10_init 100 = .ok (.new 66, 3) := by decide +kernel
theorem dX10_init_103 : decode cX10_init 103 = .ok (.dup, 1) := by decide +kernel
theorem dX10_init_104 : decode cX10_init 104 = .ok (.invokespecial 68, 3) := by decide +kernel
theorem dX10_init_107 : decode cX10_init 107 = .ok (.putfield 69, 3) := by decide +kernel
theorem dX10_init_110 : decode cX10_init 110 = .ok (.aload_n 0, 1) := by decide +kernel
theorem dX10_init_111 : decode cX10_init 111 = .ok (.new 73, 3) := by decide +kernel
theorem dX10_init_114 : decode cX10_init 114 = .ok (.dup, 1) := by decide +kernel
theorem dX10_init_115 : decode cX10_init 115 = .ok (.invokespecial 75, 3) := by decide +kernel
theorem dX10_init_118 : decode cX10_init 118 = .ok (.putfield 76, 3) := by decide +kernel
theorem dX10_init_121 : decode cX10_init 121 = .ok (.aload_n 0, 1) := by decide +kernel
theorem dX10_init_122 : decode cX10_init 122 = .ok (.new 80, 3) := by decide +kernel
theorem dX10_init_125 : decode cX10_init 125 = .ok (.dup, 1) := by decide +kernel
theorem dX10_init_126 : decode cX10_init 126 = .ok (.invokespecial 82, 3) := by decide +kernel
theorem dX10_init_129 : decode cX10_init 129 = .ok (.putfield 83, 3) := by decide +kernel
theorem dX10_init_132 : decode cX10_init 132 = .ok (.iconst 0, 1) := by decide +kernel
theorem dX10_init_133 : decode cX10_init 133 = .ok (.istore_n 1, 1) := by decide +kernel
theorem dX10_init_134 : decode cX10_init 134 = .ok (.iload_n 1, 1) := by decide +kernel
theorem dX10_init_135 : decode cX10_init 135 = .ok (.iconst 2, 1) := by decide +kernel
theorem dX10_init_136 : decode cX10_init 136 = .ok (.if_icmp .ge 22, 3) := by decide +kernel
theorem dX10_init_139 : decode cX10_init 139 = .ok (.aload_n 0, 1) := by decide +kernel
theorem dX10_init_140 : decode cX10_init 140 = .ok (.getfield 43, 3) := by decide +kernel
theorem dX10_init_143 : decode cX10_init 143 = .ok (.iload_n 1, 1) := by decide +kernel
theorem dX10_init_144 : decode cX10_init 144 = .ok (.new 41, 3) := by decide +kernel
theorem dX10_init_147 : decode cX10_init 147 = .ok (.dup, 1) := by decide +kernel
theorem dX10_init_148 : decode cX10_init 148 = .ok (.invokespecial 87, 3) := by decide +kernel
theorem dX10_init_151 : decode cX10_init 151 = .ok (.aastore, 1) := by decide +kernel
theorem dX10_init_152 : decode cX10_init 152 = .ok (.iinc 1 1, 3) := by decide +kernel
theorem dX10_init_155 : decode cX10_init 155 = .ok (.goto (-21), 3) := by decide +kernel
theorem dX10_init_158 : decode cX10_init 158 = .ok (.iconst 0, 1) := by decide +kernel
theorem dX10_init_159 : decode cX10_init 159 = .ok (.istore_n 1, 1) := by decide +kernel
theorem dX10_init_160 : decode cX10_init 160 = .ok (.iload_n 1, 1) := by decide +kernel
theorem dX10_init_161 : decode cX10_init 161 = .ok (.bipush 8, 2) := by decide +kernel
theorem dX10_init_163 : decode cX10_init 163 = .ok (.if_icmp .ge 22, 3) := by decide +kernel
theorem dX10_init_166 : decode cX10_init 166 = .ok (.aload_n 0, 1) := by decide +kernel
theorem dX10_init_167 : decode cX10_init 167 = .ok (.getfield 49, 3) := by decide +kernel
theorem dX10_init_170 : decode cX10_init 170 = .ok (.iload_n 1, 1) := by decide +kernel
theorem dX10_init_171 : decode cX10_init 171 = .ok (.new 47, 3) := by decide +kernel
theorem dX10_init_174 : decode cX10_init 174 = .ok (.dup, 1) := by decide +kernel
theorem dX10_init_175 : decode cX10_init 175 = .ok (.invokespecial 88, 3) := by decide +kernel
theorem dX10_init_178 : decode cX10_init 178 = .ok (.aastore, 1) := by decide +kernel
theorem dX10_init_179 : decode cX10_init 179 = .ok (.iinc 1 1, 3) := by decide +kernel
theorem dX10_init_182 : decode cX10_init 182 = .ok (.goto (-22), 3) := by decide +kernel
theorem dX10_init_185 : decode cX10_init 185 = .ok (.return_, 1) := by decide +kernel
theorem dX10_feed_0 : decode cX10_feed 0 = .ok (.iload_n 1, 1) := by decide +kernel
theorem dX10_feed_1 : decode cX10_feed 1 = .ok (.ifCond .lt 10, 3) := by decide +kernel
theorem dX10_feed_4 : decode cX10_feed 4 = .ok (.iload_n 1, 1) := by decide +kernel
theorem dX10_feed_5 : decode cX10_feed 5 = .ok (.sipush 255, 3) := by decide +kernel
theorem dX10_feed_8 : decode cX10_feed 8 = .ok (.if_icmp .le 6, 3) := by decide +kernel
theorem dX10_feed_11 : decode cX10_feed 11 = .ok (.ldc 89, 2) := by decide +kernel
theorem dX10_feed_13 : decode cX10_feed 13 = .ok (.ireturn, 1) := by decide +kernel
theorem dX10_feed_14 : decode cX10_feed 14 = .ok (.aload_n 0, 1) := by decide +kernel
theorem dX10_feed_15 : decode cX10_feed 15 = .ok (.getfield 10, 3) := by decide +kernel
theorem dX10_feed_18 : decode cX10_feed 18 = .ok (.iload_n 1, 1) := by decide +kernel
theorem dX10_feed_19 : decode cX10_feed 19 = .ok (.invokevirtual 90, 3) := by decide +kernel
theorem dX10_feed_22 : decode cX10_feed 22 = .ok (.ifCond .eq 13, 3) := by decide +kernel
theorem dX10_feed_25 : decode cX10_feed 25 = .ok (.aload_n 0, 1) := by decide +kernel
theorem dX10_feed_26 : decode cX10_feed 26 = .ok (.getfield 10, 3) := by decide +kernel
theorem dX10_feed_29 : decode cX10_feed 29 = .ok (.getfield 94, 3) := by decide +kernel
theorem dX10_feed_32 : decode cX10_feed 32 = .ok (.goto 5, 3) := by decide +kernel
theorem dX10_feed_35 : decode cX10_feed 35 = .ok (.ldc 98, 2) := by decide +kernel
theorem dX10_feed_37 : decode cX10_feed 37 = .ok (.ireturn, 1) := by decide +kernel
theorem dX10_cable_0 : decode cX10_cable 0 = .ok (.aload_n 0, 1) := by decide +kernel
theorem dX10_cable_1 : decode cX10_cable 1 = .ok (.getfield 10, 3) := by decide +kernel
theorem dX10_cable_4 : decode cX10_cable 4 = .ok (.invokevirtual 99, 3) := by decide +kernel
theorem dX10_cable_7 : decode cX10_cable 7 = .ok (.aload_n 0, 1) := by decide +kernel
theorem dX10_cable_8 : decode cX10_cable 8 = .ok (.getfield 10, 3) := by decide +kernel
theorem dX10_cable_11 : decode cX10_cable 11 = .ok (.getfield 102, 3) := by decide +kernel
theorem dX10_cable_14 : decode cX10_cable 14 = .ok (.ifCond .eq 14, 3) := by decide +kernel
theorem dX10_cable_17 : decode cX10_cable 17 = .ok (.bipush (-10), 2) := by decide +kernel
theorem dX10_cable_19 : decode cX10_cable 19 = .ok (.aload_n 0, 1) := by decide +kernel
theorem dX10_cable_20 : decode cX10_cable 20 = .ok (.getfield 10, 3) := by decide +kernel
theorem dX10_cable_23 : decode cX10_cable 23 = .ok (.getfield 102, 3) := by decide +kernel
theorem dX10_cable_26 : decode cX10_cable 26 = .ok (.isub, 1) := by decide +kernel
theorem dX10_cable_27 : decode cX10_cable 27 = .ok (.ireturn, 1) := by decide +kernel
theorem dX10_cable_28 : decode cX10_cable 28 = .ok (.aload_n 0, 1) := by decide +kernel
theorem dX10_cable_29 : decode cX10_cable 29 = .ok (.aload_n 0, 1) := by decide +kernel
theorem dX10_cable_30 : decode cX10_cable 30 = .ok (.getfield 10, 3) := by decide +kernel
theorem dX10_cable_33 : decode cX10_cable 33 = .ok (.getfield 105, 3) := by decide +kernel
theorem dX10_cable_36 : decode cX10_cable 36 = .ok (.putfield 108, 3) := by decide +kernel
theorem dX10_cable_39 : decode cX10_cable 39 = .ok (.aload_n 0, 1) := by decide +kernel
theorem dX10_cable_40 : decode cX10_cable 40 = .ok (.getfield 10, 3) := by decide +kernel
theorem dX10_cable_43 : decode cX10_cable 43 = .ok (.getfield 109, 3) := by decide +kernel
theorem dX10_cable_46 : decode cX10_cable 46 = .ok (.iconst 0, 1) := by decide +kernel
theorem dX10_cable_47 : decode cX10_cable 47 = .ok (.aload_n 0, 1) := by decide +kernel
theorem dX10_cable_48 : decode cX10_cable 48 = .ok (.getfield 16, 3) := by decide +kernel
theorem dX10_cable_51 : decode cX10_cable 51 = .ok (.iconst 0, 1) := by decide +kernel
theorem dX10_cable_52 : decode cX10_cable 52 = .ok (.iconst 5, 1) := by decide +kernel
theorem dX10_cable_53 : decode cX10_cable 53 = .ok (.invokestatic 110, 3) := by decide +kernel
theorem dX10_cable_56 : decode cX10_cable 56 = .ok (.aload_n 0, 1) := by decide +kernel
theorem dX10_cable_57 : decode cX10_cable 57 = .ok (.getfield 23, 3) := by decide +kernel
theorem dX10_cable_60 : decode cX10_cable 60 = .ok (.aload_n 0, 1) := by decide +kernel
theorem dX10_cable_61 : decode cX10_cable 61 = .ok (.getfield 10, 3) := by decide +kernel
theorem dX10_cable_64 : decode cX10_cable 64 = .ok (.getfield 116, 3) := by decide +kernel
theorem dX10_cable_67 : decode cX10_cable 67 = .ok (.aload_n 0, 1) := by decide +kernel
theorem dX10_cable_68 : decode cX10_cable 68 = .ok (.getfield 10, 3) := by decide +kernel
theorem dX10_cable_71 : decode cX10_cable 71 = .ok (.getfield 119, 3) := by decide +kernel
theorem dX10_cable_74 : decode cX10_cable 74 = .ok (.invokevirtual 122, 3) := by decide +kernel
theorem dX10_cable_77 : decode cX10_cable 77 = .ok (.aload_n 0, 1) := by decide +kernel
theorem dX10_cable_78 : decode cX10_cable 78 = .ok (.getfield 30, 3) := by decide +kernel
theorem dX10_cable_81 : decode cX10_cable 81 = .ok (.invokevirtual 126, 3) := by decide +kernel
theorem dX10_cable_84 : decode cX10_cable 84 = .ok (.iconst 0, 1) := by decide +kernel
theorem dX10_cable_85 : decode cX10_cable 85 = .ok (.istore_n 1, 1) := by decide +kernel
theorem dX10_cable_86 : decode cX10_cable 86 = .ok (.iload_n 1, 1) := by decide +kernel
theorem dX10_cable_87 : decode cX10_cable 87 = .ok (.iconst 2, 1) := by decide +kernel
theorem dX10_cable_88 : decode cX10_cable 88 = .ok (.if_icmp .ge 19, 3) := by decide +kernel
theorem dX10_cable_91 : decode cX10_cable 91 = .ok (.aload_n 0, 1) := by decide +kernel
theorem dX10_cable_92 : decode cX10_cable 92 = .ok (.getfield 43, 3) := by decide +kernel
theorem dX10_cable_95 : decode cX10_cable 95 = .ok (.iload_n 1, 1) := by decide +kernel
theorem dX10_cable_96 : decode cX10_cable 96 = .ok (.aaload, 1) := by decide +kernel
theorem dX10_cable_97 : decode cX10_cable 97 = .ok (.iconst 0, 1) := by decide +kernel
theorem dX10_cable_98 : decode cX10_cable 98 = .ok (.putfield 129, 3) := by decide +kernel
theorem dX10_cable_101 : decode cX10_cable 101 = .ok (.iinc 1 1, 3) := by decide +kernel
theorem dX10_cable_104 : decode cX10_cable 104 = .ok (.goto (-18), 3) := by decide +kernel
theorem dX10_cable_107 : decode cX10_cable 107 = .ok (.aload_n 0, 1) := by decide +kernel
theorem dX10_cable_108 : decode cX10_cable 108 = .ok (.iconst 0, 1) := by decide +kernel
theorem dX10_cable_109 : decode cX10_cable 109 = .ok (.putfield 133, 3) := by decide +kernel
theorem dX10_cable_112 : decode cX10_cable 112 = .ok (.aload_n 0, 1) := by decide +kernel
theorem dX10_cable_113 : decode cX10_cable 113 = .ok (.iconst 0, 1) := by decide +kernel
theorem dX10_cable_114 : decode cX10_cable 114 = .ok (.putfield 136, 3) := by decide +kernel
theorem dX10_cable_117 : decode cX10_cable 117 = .ok (.aload_n 0, 1) := by decide +kernel
theorem dX10_cable_118 : decode cX10_cable 118 = .ok (.getfield 108, 3) := by decide +kernel
theorem dX10_cable_121 : decode cX10_cable 121 = .ok (.ireturn, 1) := by decide +kernel
theorem dX10_fault_0 : decode cX10_fault 0 = .ok (.aload_n 0, 1) := by decide +kernel
theorem dX10_fault_1 : decode cX10_fault 1 = .ok (.getfield 10, 3) := by decide +kernel
theorem dX10_fault_4 : decode cX10_fault 4 = .ok (.getfield 139, 3) := by decide +kernel
theorem dX10_fault_7 : decode cX10_fault 7 = .ok (.ireturn, 1) := by decide +kernel
theorem dX10_told_0 : decode cX10_told 0 = .ok (.iload_n 1, 1) := by decide +kernel
theorem dX10_told_1 : decode cX10_told 1 = .ok (.tableswitch 165 0 13 #[71, 76, 84, 92, 100, 108, 116, 127, 132, 137, 142, 147, 152, 157], 71) := by decide +kernel
theorem dX10_told_72 : decode cX10_told 72 = .ok (.aload_n 0, 1) := by decide +kernel
theorem dX10_told_73 : decode cX10_told 73 = .ok (.getfield 108, 3) := by decide +kernel
theorem dX10_told_76 : decode cX10_told 76 = .ok (.ireturn, 1) := by decide +kernel
theorem dX10_told_77 : decode cX10_told 77 = .ok (.aload_n 0, 1) := by decide +kernel
theorem dX10_told_78 : decode cX10_told 78 = .ok (.getfield 23, 3) := by decide +kernel
theorem dX10_told_81 : decode cX10_told 81 = .ok (.getfield 142, 3) := by decide +kernel
theorem dX10_told_84 : decode cX10_told 84 = .ok (.ireturn, 1) := by decide +kernel
theorem dX10_told_85 : decode cX10_told 85 = .ok (.aload_n 0, 1) := by decide +kernel
theorem dX10_told_86 : decode cX10_told 86 = .ok (.getfield 23, 3) := by decide +kernel
theorem dX10_told_89 : decode cX10_told 89 = .ok (.getfield 145, 3) := by decide +kernel
theorem dX10_told_92 : decode cX10_told 92 = .ok (.ireturn, 1) := by decide +kernel
theorem dX10_told_93 : decode cX10_told 93 = .ok (.aload_n 0, 1) := by decide +kernel
theorem dX10_told_94 : decode cX10_told 94 = .ok (.getfield 23, 3) := by decide +kernel
theorem dX10_told_97 : decode cX10_told 97 = .ok (.getfield 148, 3) := by decide +kernel
theorem dX10_told_100 : decode cX10_told 100 = .ok (.ireturn, 1) := by decide +kernel
theorem dX10_told_101 : decode cX10_told 101 = .ok (.aload_n 0, 1) := by decide +kernel
theorem dX10_told_102 : decode cX10_told 102 = .ok (.getfield 23, 3) := by decide +kernel
theorem dX10_told_105 : decode cX10_told 105 = .ok (.getfield 151, 3) := by decide +kernel
theorem dX10_told_108 : decode cX10_told 108 = .ok (.ireturn, 1) := by decide +kernel
theorem dX10_told_109 : decode cX10_told 109 = .ok (.aload_n 0, 1) := by decide +kernel
theorem dX10_told_110 : decode cX10_told 110 = .ok (.getfield 10, 3) := by decide +kernel
theorem dX10_told_113 : decode cX10_told 113 = .ok (.getfield 94, 3) := by decide +kernel
theorem dX10_told_116 : decode cX10_told 116 = .ok (.ireturn, 1) := by decide +kernel
theorem dX10_told_117 : decode cX10_told 117 = .ok (.aload_n 0, 1) := by decide +kernel
theorem dX10_told_118 : decode cX10_told 118 = .ok (.getfield 23, 3) := by decide +kernel
theorem dX10_told_121 : decode cX10_told 121 = .ok (.getfield 154, 3) := by decide +kernel
theorem dX10_told_124 : decode cX10_told 124 = .ok (.invokestatic 155, 3) := by decide +kernel
theorem dX10_told_127 : decode cX10_told 127 = .ok (.ireturn, 1) := by decide +kernel
theorem dX10_told_128 : decode cX10_told 128 = .ok (.aload_n 0, 1) := by decide +kernel
theorem dX10_told_129 : decode cX10_told 129 = .ok (.invokevirtual 161, 3) := by decide +kernel
theorem dX10_told_132 : decode cX10_told 132 = .ok (.ireturn, 1) := by decide +kernel
theorem dX10_told_133 : decode cX10_told 133 = .ok (.aload_n 0, 1) := by decide +kernel
theorem dX10_told_134 : decode cX10_told 134 = .ok (.invokevirtual 165, 3) := by decide +kernel
theorem dX10_told_137 : decode cX10_told 137 = .ok (.ireturn, 1) := by decide +kernel
theorem dX10_told_138 : decode cX10_told 138 = .ok (.aload_n 0, 1) := by decide +kernel
theorem dX10_told_139 : decode cX10_told 139 = .ok (.invokevirtual 168, 3) := by decide +kernel
theorem dX10_told_142 : decode cX10_told 142 = .ok (.ireturn, 1) := by decide +kernel
theorem dX10_told_143 : decode cX10_told 143 = .ok (.aload_n 0, 1) := by decide +kernel
theorem dX10_told_144 : decode cX10_told 144 = .ok (.invokevirtual 171, 3) := by decide +kernel
theorem dX10_told_147 : decode cX10_told 147 = .ok (.ireturn, 1) := by decide +kernel
theorem dX10_told_148 : decode cX10_told 148 = .ok (.aload_n 0, 1) := by decide +kernel
theorem dX10_told_149 : decode cX10_told 149 = .ok (.getfield 133, 3) := by decide +kernel
theorem dX10_told_152 : decode cX10_told 152 = .ok (.ireturn, 1) := by decide +kernel
theorem dX10_told_153 : decode cX10_told 153 = .ok (.aload_n 0, 1) := by decide +kernel
theorem dX10_told_154 : decode cX10_told 154 = .ok (.getfield 136, 3) := by decide +kernel
theorem dX10_told_157 : decode cX10_told 157 = .ok (.ireturn, 1) := by decide +kernel
theorem dX10_told_158 : decode cX10_told 158 = .ok (.aload_n 0, 1) := by decide +kernel
theorem dX10_told_159 : decode cX10_told 159 = .ok (.getfield 30, 3) := by decide +kernel
theorem dX10_told_162 : decode cX10_told 162 = .ok (.getfield 174, 3) := by decide +kernel
theorem dX10_told_165 : decode cX10_told 165 = .ok (.ireturn, 1) := by decide +kernel
theorem dX10_told_166 : decode cX10_told 166 = .ok (.ldc 89, 2) := by decide +kernel
theorem dX10_told_168 : decode cX10_told 168 = .ok (.ireturn, 1) := by decide +kernel
theorem dX10_wire_0 : decode cX10_wire 0 = .ok (.aload_n 0, 1) := by decide +kernel
theorem dX10_wire_1 : decode cX10_wire 1 = .ok (.iload_n 1, 1) := by decide +kernel
theorem dX10_wire_2 : decode cX10_wire 2 = .ok (.invokevirtual 177, 3) := by decide +kernel
theorem dX10_wire_5 : decode cX10_wire 5 = .ok (.ifCond .ne 6, 3) := by decide +kernel
theorem dX10_wire_8 : decode cX10_wire 8 = .ok (.ldc 180, 2) := by decide +kernel
theorem dX10_wire_10 : decode cX10_wire 10 = .ok (.ireturn, 1) := by decide +kernel
theorem dX10_wire_11 : decode cX10_wire 11 = .ok (.iload_n 2, 1) := by decide +kernel
theorem dX10_wire_12 : decode cX10_wire 12 = .ok (.tableswitch 84 0 3 #[32, 44, 50, 72], 32) := by decide +kernel
theorem dX10_wire_44 : decode cX10_wire 44 = .ok (.aload_n 0, 1) := by decide +kernel
theorem dX10_wire_45 : decode cX10_wire 45 = .ok (.getfield 23, 3) := by decide +kernel
theorem dX10_wire_48 : decode cX10_wire 48 = .ok (.getfield 181, 3) := by decide +kernel
theorem dX10_wire_51 : decode cX10_wire 51 = .ok (.iload_n 1, 1) := by decide +kernel
theorem dX10_wire_52 : decode cX10_wire 52 = .ok (.invokestatic 182, 3) := by decide +kernel
theorem dX10_wire_55 : decode cX10_wire 55 = .ok (.ireturn, 1) := by decide +kernel
theorem dX10_wire_56 : decode cX10_wire 56 = .ok (.aload_n 0, 1) := by decide +kernel
theorem dX10_wire_57 : decode cX10_wire 57 = .ok (.iload_n 1, 1) := by decide +kernel
theorem dX10_wire_58 : decode cX10_wire 58 = .ok (.invokevirtual 186, 3) := by decide +kernel
theorem dX10_wire_61 : decode cX10_wire 61 = .ok (.ireturn, 1) := by decide +kernel
theorem dX10_wire_62 : decode cX10_wire 62 = .ok (.aload_n 0, 1) := by decide +kernel
theorem dX10_wire_63 : decode cX10_wire 63 = .ok (.getfield 23, 3) := by decide +kernel
theorem dX10_wire_66 : decode cX10_wire 66 = .ok (.getfield 181, 3) := by decide +kernel
theorem dX10_wire_69 : decode cX10_wire 69 = .ok (.aload_n 0, 1) := by decide +kernel
theorem dX10_wire_70 : decode cX10_wire 70 = .ok (.getfield 23, 3) := by decide +kernel
theorem dX10_wire_73 : decode cX10_wire 73 = .ok (.getfield 145, 3) := by decide +kernel
theorem dX10_wire_76 : decode cX10_wire 76 = .ok (.invokestatic 189, 3) := by decide +kernel
theorem dX10_wire_79 : decode cX10_wire 79 = .ok (.iload_n 1, 1) := by decide +kernel
theorem dX10_wire_80 : decode cX10_wire 80 = .ok (.ishr, 1) := by decide +kernel
theorem dX10_wire_81 : decode cX10_wire 81 = .ok (.iconst 1, 1) := by decide +kernel
theorem dX10_wire_82 : decode cX10_wire 82 = .ok (.iand, 1) := by decide +kernel
theorem dX10_wire_83 : decode cX10_wire 83 = .ok (.ireturn, 1) := by decide +kernel
theorem dX10_wire_84 : decode cX10_wire 84 = .ok (.aload_n 0, 1) := by decide +kernel
theorem dX10_wire_85 : decode cX10_wire 85 = .ok (.getfield 23, 3) := by decide +kernel
theorem dX10_wire_88 : decode cX10_wire 88 = .ok (.getfield 192, 3) := by decide +kernel
theorem dX10_wire_91 : decode cX10_wire 91 = .ok (.iload_n 1, 1) := by decide +kernel
theorem dX10_wire_92 : decode cX10_wire 92 = .ok (.invokestatic 182, 3) := by decide +kernel
theorem dX10_wire_95 : decode cX10_wire 95 = .ok (.ireturn, 1) := by decide +kernel
theorem dX10_wire_96 : decode cX10_wire 96 = .ok (.ldc 89, 2) := by decide +kernel
theorem dX10_wire_98 : decode cX10_wire 98 = .ok (.ireturn, 1) := by decide +kernel
theorem dX10_end_0 : decode cX10_end 0 = .ok (.aload_n 0, 1) := by decide +kernel
theorem dX10_end_1 : decode cX10_end 1 = .ok (.iload_n 1, 1) := by decide +kernel
theorem dX10_end_2 : decode cX10_end 2 = .ok (.invokevirtual 177, 3) := by decide +kernel
theorem dX10_end_5 : decode cX10_end 5 = .ok (.ifCond .ne 6, 3) := by decide +kernel
theorem dX10_end_8 : decode cX10_end 8 = .ok (.ldc 180, 2) := by decide +kernel
theorem dX10_end_10 : decode cX10_end 10 = .ok (.ireturn, 1) := by decide +kernel
theorem dX10_end_11 : decode cX10_end 11 = .ok (.iload_n 2, 1) := by decide +kernel
theorem dX10_end_12 : decode cX10_end 12 = .ok (.tableswitch 63 0 3 #[32, 39, 51, 57], 32) := by decide +kernel
theorem dX10_end_44 : decode cX10_end 44 = .ok (.aload_n 0, 1) := by decide +kernel
theorem dX10_end_45 : decode cX10_end 45 = .ok (.getfield 16, 3) := by decide +kernel
theorem dX10_end_48 : decode cX10_end 48 = .ok (.iload_n 1, 1) := by decide +kernel
theorem dX10_end_49 : decode cX10_end 49 = .ok (.iaload, 1) := by decide +kernel
theorem dX10_end_50 : decode cX10_end 50 = .ok (.ireturn, 1) := by decide +kernel
theorem dX10_end_51 : decode cX10_end 51 = .ok (.aload_n 0, 1) := by decide +kernel
theorem dX10_end_52 : decode cX10_end 52 = .ok (.getfield 23, 3) := by decide +kernel
theorem dX10_end_55 : decode cX10_end 55 = .ok (.getfield 195, 3) := by decide +kernel
theorem dX10_end_58 : decode cX10_end 58 = .ok (.iload_n 1, 1) := by decide +kernel
theorem dX10_end_59 : decode cX10_end 59 = .ok (.invokestatic 182, 3) := by decide +kernel
theorem dX10_end_62 : decode cX10_end 62 = .ok (.ireturn, 1) := by decide +kernel
theorem dX10_end_63 : decode cX10_end 63 = .ok (.aload_n 0, 1) := by decide +kernel
theorem dX10_end_64 : decode cX10_end 64 = .ok (.iload_n 1, 1) := by decide +kernel
theorem dX10_end_65 : decode cX10_end 65 = .ok (.invokevirtual 198, 3) := by decide +kernel
theorem dX10_end_68 : decode cX10_end 68 = .ok (.ireturn, 1) := by decide +kernel
theorem dX10_end_69 : decode cX10_end 69 = .ok (.aload_n 0, 1) := by decide +kernel
theorem dX10_end_70 : decode cX10_end 70 = .ok (.iload_n 1, 1) := by decide +kernel
theorem dX10_end_71 : decode cX10_end 71 = .ok (.invokevirtual 201, 3) := by decide +kernel
theorem dX10_end_74 : decode cX10_end 74 = .ok (.ireturn, 1) := by decide +kernel
theorem dX10_end_75 : decode cX10_end 75 = .ok (.ldc 89, 2) := by decide +kernel
theorem dX10_end_77 : decode cX10_end 77 = .ok (.ireturn, 1) := by decide +kernel
theorem dX10_net_0 : decode cX10_net 0 = .ok (.aload_n 0, 1) := by decide +kernel
theorem dX10_net_1 : decode cX10_net 1 = .ok (.iload_n 2, 1) := by decide +kernel
theorem dX10_net_2 : decode cX10_net 2 = .ok (.invokevirtual 177, 3) := by decide +kernel
theorem dX10_net_5 : decode cX10_net 5 = .ok (.ifCond .ne 6, 3) := by decide +kernel
theorem dX10_net_8 : decode cX10_net 8 = .ok (.ldc 180, 2) := by decide +kernel
theorem dX10_net_10 : decode cX10_net 10 = .ok (.ireturn, 1) := by decide +kernel
theorem dX10_net_11 : decode cX10_net 11 = .ok (.iload_n 1, 1) := by decide +kernel
theorem dX10_net_12 : decode cX10_net 12 = .ok (.ifCond .lt 8, 3) := by decide +kernel
theorem dX10_net_15 : decode cX10_net 15 = .ok (.iload_n 1, 1) := by decide +kernel
theorem dX10_net_16 : decode cX10_net 16 = .ok (.iconst 1, 1) := by decide +kernel
theorem dX10_net_17 : decode cX10_net 17 = .ok (.if_icmp .le 6, 3) := by decide +kernel
theorem dX10_net_20 : decode cX10_net 20 = .ok (.ldc 89, 2) := by decide +kernel
theorem dX10_net_22 : decode cX10_net 22 = .ok (.ireturn, 1) := by decide +kernel
theorem dX10_net_23 : decode cX10_net 23 = .ok (.aload_n 0, 1) := by decide +kernel
theorem dX10_net_24 : decode cX10_net 24 = .ok (.aload_n 0, 1) := by decide +kernel
theorem dX10_net_25 : decode cX10_net 25 = .ok (.getfield 23, 3) := by decide +kernel
theorem dX10_net_28 : decode cX10_net 28 = .ok (.getfield 181, 3) := by decide +kernel
theorem dX10_net_31 : decode cX10_net 31 = .ok (.invokevirtual 204, 3) := by decide +kernel
theorem dX10_net_34 : decode cX10_net 34 = .ok (.aload_n 0, 1) := by decide +kernel
theorem dX10_net_35 : decode cX10_net 35 = .ok (.getfield 62, 3) := by decide +kernel
theorem dX10_net_38 : decode cX10_net 38 = .ok (.iload_n 1, 1) := by decide +kernel
theorem dX10_net_39 : decode cX10_net 39 = .ok (.iload_n 2, 1) := by decide +kernel
theorem dX10_net_40 : decode cX10_net 40 = .ok (.invokestatic 208, 3) := by decide +kernel
theorem dX10_net_43 : decode cX10_net 43 = .ok (.invokevirtual 211, 3) := by decide +kernel
theorem dX10_net_46 : decode cX10_net 46 = .ok (.ireturn, 1) := by decide +kernel
theorem dX10_rings_0 : decode cX10_rings 0 = .ok (.aload_n 0, 1) := by decide +kernel
theorem dX10_rings_1 : decode cX10_rings 1 = .ok (.iload_n 1, 1) := by decide +kernel
theorem dX10_rings_2 : decode cX10_rings 2 = .ok (.iload_n 2, 1) := by decide +kernel
theorem dX10_rings_3 : decode cX10_rings 3 = .ok (.invokevirtual 214, 3) := by decide +kernel
theorem dX10_rings_6 : decode cX10_rings 6 = .ok (.ifCond .ne 6, 3) := by decide +kernel
theorem dX10_rings_9 : decode cX10_rings 9 = .ok (.ldc 180, 2) := by decide +kernel
theorem dX10_rings_11 : decode cX10_rings 11 = .ok (.ireturn, 1) := by decide +kernel
theorem dX10_rings_12 : decode cX10_rings 12 = .ok (.aload_n 0, 1) := by decide +kernel
theorem dX10_rings_13 : decode cX10_rings 13 = .ok (.aload_n 0, 1) := by decide +kernel
theorem dX10_rings_14 : decode cX10_rings 14 = .ok (.getfield 23, 3) := by decide +kernel
theorem dX10_rings_17 : decode cX10_rings 17 = .ok (.getfield 181, 3) := by decide +kernel
theorem dX10_rings_20 : decode cX10_rings 20 = .ok (.iload_n 1, 1) := by decide +kernel
theorem dX10_rings_21 : decode cX10_rings 21 = .ok (.iload_n 2, 1) := by decide +kernel
theorem dX10_rings_22 : decode cX10_rings 22 = .ok (.invokevirtual 218, 3) := by decide +kernel
theorem dX10_rings_25 : decode cX10_rings 25 = .ok (.ifCond .eq 7, 3) := by decide +kernel
theorem dX10_rings_28 : decode cX10_rings 28 = .ok (.iconst 1, 1) := by decide +kernel
theorem dX10_rings_29 : decode cX10_rings 29 = .ok (.goto 4, 3) := by decide +kernel
theorem dX10_rings_32 : decode cX10_rings 32 = .ok (.iconst 0, 1) := by decide +kernel
theorem dX10_rings_33 : decode cX10_rings 33 = .ok (.ireturn, 1) := by decide +kernel
theorem dX10_touches_0 : decode cX10_touches 0 = .ok (.aload_n 0, 1) := by decide +kernel
theorem dX10_touches_1 : decode cX10_touches 1 = .ok (.iload_n 1, 1) := by decide +kernel
theorem dX10_touches_2 : decode cX10_touches 2 = .ok (.iload_n 2, 1) := by decide +kernel
theorem dX10_touches_3 : decode cX10_touches 3 = .ok (.invokevirtual 222, 3) := by decide +kernel
theorem dX10_touches_6 : decode cX10_touches 6 = .ok (.ifCond .ne 6, 3) := by decide +kernel
theorem dX10_touches_9 : decode cX10_touches 9 = .ok (.ldc 180, 2) := by decide +kernel
theorem dX10_touches_11 : decode cX10_touches 11 = .ok (.ireturn, 1) := by decide +kernel
theorem dX10_touches_12 : decode cX10_touches 12 = .ok (.aload_n 0, 1) := by decide +kernel
theorem dX10_touches_13 : decode cX10_touches 13 = .ok (.getfield 23, 3) := by decide +kernel
theorem dX10_touches_16 : decode cX10_touches 16 = .ok (.getfield 154, 3) := by decide +kernel
theorem dX10_touches_19 : decode cX10_touches 19 = .ok (.iload_n 1, 1) := by decide +kernel
theorem dX10_touches_20 : decode cX10_touches 20 = .ok (.iload_n 2, 1) := by decide +kernel
theorem dX10_touches_21 : decode cX10_touches 21 = .ok (.invokestatic 225, 3) := by decide +kernel
theorem dX10_touches_24 : decode cX10_touches 24 = .ok (.iand, 1) := by decide +kernel
theorem dX10_touches_25 : decode cX10_touches 25 = .ok (.ifCond .eq 7, 3) := by decide +kernel
theorem dX10_touches_28 : decode cX10_touches 28 = .ok (.iconst 1, 1) := by decide +kernel
theorem dX10_touches_29 : decode cX10_touches 29 = .ok (.goto 4, 3) := by decide +kernel
theorem dX10_touches_32 : decode cX10_touches 32 = .ok (.iconst 0, 1) := by decide +kernel
theorem dX10_touches_33 : decode cX10_touches 33 = .ok (.ireturn, 1) := by decide +kernel
theorem dX10_tie_0 : decode cX10_tie 0 = .ok (.aload_n 0, 1) := by decide +kernel
theorem dX10_tie_1 : decode cX10_tie 1 = .ok (.iload_n 1, 1) := by decide +kernel
theorem dX10_tie_2 : decode cX10_tie 2 = .ok (.invokevirtual 177, 3) := by decide +kernel
theorem dX10_tie_5 : decode cX10_tie 5 = .ok (.ifCond .ne 6, 3) := by decide +kernel
theorem dX10_tie_8 : decode cX10_tie 8 = .ok (.ldc 180, 2) := by decide +kernel
theorem dX10_tie_10 : decode cX10_tie 10 = .ok (.ireturn, 1) := by decide +kernel
theorem dX10_tie_11 : decode cX10_tie 11 = .ok (.iload_n 2, 1) := by decide +kernel
theorem dX10_tie_12 : decode cX10_tie 12 = .ok (.ifCond .lt 8, 3) := by decide +kernel
theorem dX10_tie_15 : decode cX10_tie 15 = .ok (.iload_n 2, 1) := by decide +kernel
theorem dX10_tie_16 : decode cX10_tie 16 = .ok (.iconst 4, 1) := by decide +kernel
theorem dX10_tie_17 : decode cX10_tie 17 = .ok (.if_icmp .lt 6, 3) := by decide +kernel
theorem dX10_tie_20 : decode cX10_tie 20 = .ok (.ldc 89, 2) := by decide +kernel
theorem dX10_tie_22 : decode cX10_tie 22 = .ok (.ireturn, 1) := by decide +kernel
theorem dX10_tie_23 : decode cX10_tie 23 = .ok (.aload_n 0, 1) := by decide +kernel
theorem dX10_tie_24 : decode cX10_tie 24 = .ok (.getfield 23, 3) := by decide +kernel
theorem dX10_tie_27 : decode cX10_tie 27 = .ok (.invokevirtual 228, 3) := by decide +kernel
theorem dX10_tie_30 : decode cX10_tie 30 = .ok (.iload_n 1, 1) := by decide +kernel
theorem dX10_tie_31 : decode cX10_tie 31 = .ok (.invokestatic 182, 3) := by decide +kernel
theorem dX10_tie_34 : decode cX10_tie 34 = .ok (.istore_n 3, 1) := by decide +kernel
theorem dX10_tie_35 : decode cX10_tie 35 = .ok (.iload_n 3, 1) := by decide +kernel
theorem dX10_tie_36 : decode cX10_tie 36 = .ok (.iload_n 2, 1) := by decide +kernel
theorem dX10_tie_37 : decode cX10_tie 37 = .ok (.if_icmp .ne 6, 3) := by decide +kernel
theorem dX10_tie_40 : decode cX10_tie 40 = .ok (.ldc 231, 2) := by decide +kernel
theorem dX10_tie_42 : decode cX10_tie 42 = .ok (.ireturn, 1) := by decide +kernel
theorem dX10_tie_43 : decode cX10_tie 43 = .ok (.aload_n 0, 1) := by decide +kernel
theorem dX10_tie_44 : decode cX10_tie 44 = .ok (.getfield 30, 3) := by decide +kernel
theorem dX10_tie_47 : decode cX10_tie 47 = .ok (.aload_n 0, 1) := by decide +kernel
theorem dX10_tie_48 : decode cX10_tie 48 = .ok (.getfield 23, 3) := by decide +kernel
theorem dX10_tie_51 : decode cX10_tie 51 = .ok (.invokevirtual 232, 3) := by decide +kernel
theorem dX10_tie_54 : decode cX10_tie 54 = .ok (.aload_n 0, 1) := by decide +kernel
theorem dX10_tie_55 : decode cX10_tie 55 = .ok (.getfield 23, 3) := by decide +kernel
theorem dX10_tie_58 : decode cX10_tie 58 = .ok (.iload_n 1, 1) := by decide +kernel
theorem dX10_tie_59 : decode cX10_tie 59 = .ok (.iload_n 2, 1) := by decide +kernel
theorem dX10_tie_60 : decode cX10_tie 60 = .ok (.invokevirtual 236, 3) := by decide +kernel
theorem dX10_tie_63 : decode cX10_tie 63 = .ok (.iload_n 3, 1) := by decide +kernel
theorem dX10_tie_64 : decode cX10_tie 64 = .ok (.ireturn, 1) := by decide +kernel
theorem dX10_cross_0 : decode cX10_cross 0 = .ok (.aload_n 0, 1) := by decide +kernel
theorem dX10_cross_1 : decode cX10_cross 1 = .ok (.invokevirtual 239, 3) := by decide +kernel
theorem dX10_cross_4 : decode cX10_cross 4 = .ok (.istore_n 1, 1) := by decide +kernel
theorem dX10_cross_5 : decode cX10_cross 5 = .ok (.iload_n 1, 1) := by decide +kernel
theorem dX10_cross_6 : decode cX10_cross 6 = .ok (.ifCond .eq 5, 3) := by decide +kernel
theorem dX10_cross_9 : decode cX10_cross 9 = .ok (.iload_n 1, 1) := by decide +kernel
theorem dX10_cross_10 : decode cX10_cross 10 = .ok (.ireturn, 1) := by decide +kernel
theorem dX10_cross_11 : decode cX10_cross 11 = .ok (.aload_n 0, 1) := by decide +kernel
theorem dX10_cross_12 : decode cX10_cross 12 = .ok (.getfield 30, 3) := by decide +kernel
theorem dX10_cross_15 : decode cX10_cross 15 = .ok (.aload_n 0, 1) := by decide +kernel
theorem dX10_cross_16 : decode cX10_cross 16 = .ok (.getfield 23, 3) := by decide +kernel
theorem dX10_cross_19 : decode cX10_cross 19 = .ok (.invokevirtual 232, 3) := by decide +kernel
theorem dX10_cross_22 : decode cX10_cross 22 = .ok (.aload_n 0, 1) := by decide +kernel
theorem dX10_cross_23 : decode cX10_cross 23 = .ok (.getfield 23, 3) := by decide +kernel
theorem dX10_cross_26 : decode cX10_cross 26 = .ok (.invokevirtual 242, 3) := by decide +kernel
theorem dX10_cross_29 : decode cX10_cross 29 = .ok (.aload_n 0, 1) := by decide +kernel
theorem dX10_cross_30 : decode cX10_cross 30 = .ok (.getfield 23, 3) := by decide +kernel
theorem dX10_cross_33 : decode cX10_cross 33 = .ok (.dup, 1) := by decide +kernel
theorem dX10_cross_34 : decode cX10_cross 34 = .ok (.getfield 145, 3) := by decide +kernel
theorem dX10_cross_37 : decode cX10_cross 37 = .ok (.iconst 1, 1) := by decide +kernel
theorem dX10_cross_38 : decode cX10_cross 38 = .ok (.iadd, 1) := by decide +kernel
theorem dX10_cross_39 : decode cX10_cross 39 = .ok (.putfield 145, 3) := by decide +kernel
theorem dX10_cross_42 : decode cX10_cross 42 = .ok (.aload_n 0, 1) := by decide +kernel
theorem dX10_cross_43 : decode cX10_cross 43 = .ok (.getfield 23, 3) := by decide +kernel
theorem dX10_cross_46 : decode cX10_cross 46 = .ok (.getfield 145, 3) := by decide +kernel
theorem dX10_cross_49 : decode cX10_cross 49 = .ok (.ireturn, 1) := by decide +kernel
theorem dX10_test_0 : decode cX10_test 0 = .ok (.aload_n 0, 1) := by decide +kernel
theorem dX10_test_1 : decode cX10_test 1 = .ok (.iload_n 1, 1) := by decide +kernel
theorem dX10_test_2 : decode cX10_test 2 = .ok (.iload_n 2, 1) := by decide +kernel
theorem dX10_test_3 : decode cX10_test 3 = .ok (.invokevirtual 214, 3) := by decide +kernel
theorem dX10_test_6 : decode cX10_test 6 = .ok (.ifCond .ne 6, 3) := by decide +kernel
theorem dX10_test_9 : decode cX10_test 9 = .ok (.ldc 180, 2) := by decide +kernel
theorem dX10_test_11 : decode cX10_test 11 = .ok (.ireturn, 1) := by decide +kernel
theorem dX10_test_12 : decode cX10_test 12 = .ok (.aload_n 0, 1) := by decide +kernel
theorem dX10_test_13 : decode cX10_test 13 = .ok (.getfield 30, 3) := by decide +kernel
theorem dX10_test_16 : decode cX10_test 16 = .ok (.aload_n 0, 1) := by decide +kernel
theorem dX10_test_17 : decode cX10_test 17 = .ok (.getfield 23, 3) := by decide +kernel
theorem dX10_test_20 : decode cX10_test 20 = .ok (.invokevirtual 232, 3) := by decide +kernel
theorem dX10_test_23 : decode cX10_test 23 = .ok (.aload_n 0, 1) := by decide +kernel
theorem dX10_test_24 : decode cX10_test 24 = .ok (.getfield 23, 3) := by decide +kernel
theorem dX10_test_27 : decode cX10_test 27 = .ok (.invokevirtual 245, 3) := by decide +kernel
theorem dX10_test_30 : decode cX10_test 30 = .ok (.aload_n 0, 1) := by decide +kernel
theorem dX10_test_31 : decode cX10_test 31 = .ok (.aload_n 0, 1) := by decide +kernel
theorem dX10_test_32 : decode cX10_test 32 = .ok (.getfield 23, 3) := by decide +kernel
theorem dX10_test_35 : decode cX10_test 35 = .ok (.getfield 181, 3) := by decide +kernel
theorem dX10_test_38 : decode cX10_test 38 = .ok (.iload_n 1, 1) := by decide +kernel
theorem dX10_test_39 : decode cX10_test 39 = .ok (.iload_n 2, 1) := by decide +kernel
theorem dX10_test_40 : decode cX10_test 40 = .ok (.invokevirtual 218, 3) := by decide +kernel
theorem dX10_test_43 : decode cX10_test 43 = .ok (.ifCond .eq 7, 3) := by decide +kernel
theorem dX10_test_46 : decode cX10_test 46 = .ok (.iconst 1, 1) := by decide +kernel
theorem dX10_test_47 : decode cX10_test 47 = .ok (.goto 4, 3) := by decide +kernel
theorem dX10_test_50 : decode cX10_test 50 = .ok (.iconst 0, 1) := by decide +kernel
theorem dX10_test_51 : decode cX10_test 51 = .ok (.ireturn, 1) := by decide +kernel
theorem dX10_rest_0 : decode cX10_rest 0 = .ok (.iload_n 1, 1) := by decide +kernel
theorem dX10_rest_1 : decode cX10_rest 1 = .ok (.iconst 1, 1) := by decide +kernel
theorem dX10_rest_2 : decode cX10_rest 2 = .ok (.if_icmp .lt 9, 3) := by decide +kernel
theorem dX10_rest_5 : decode cX10_rest 5 = .ok (.iload_n 1, 1) := by decide +kernel
theorem dX10_rest_6 : decode cX10_rest 6 = .ok (.bipush 60, 2) := by decide +kernel
theorem dX10_rest_8 : decode cX10_rest 8 = .ok (.if_icmp .le 8, 3) := by decide +kernel
theorem dX10_rest_11 : decode cX10_rest 11 = .ok (.ldc 89, 2) := by decide +kernel
theorem dX10_rest_13 : decode cX10_rest 13 = .ok (.goto 7, 3) := by decide +kernel
theorem dX10_rest_16 : decode cX10_rest 16 = .ok (.aload_n 0, 1) := by decide +kernel
theorem dX10_rest_17 : decode cX10_rest 17 = .ok (.invokevirtual 239, 3) := by decide +kernel
theorem dX10_rest_20 : decode cX10_rest 20 = .ok (.istore_n 2, 1) := by decide +kernel
theorem dX10_rest_21 : decode cX10_rest 21 = .ok (.iload_n 2, 1) := by decide +kernel
theorem dX10_rest_22 : decode cX10_rest 22 = .ok (.ifCond .eq 5, 3) := by decide +kernel
theorem dX10_rest_25 : decode cX10_rest 25 = .ok (.iload_n 2, 1) := by decide +kernel
theorem dX10_rest_26 : decode cX10_rest 26 = .ok (.ireturn, 1) := by decide +kernel
theorem dX10_rest_27 : decode cX10_rest 27 = .ok (.aload_n 0, 1) := by decide +kernel
theorem dX10_rest_28 : decode cX10_rest 28 = .ok (.getfield 30, 3) := by decide +kernel
theorem dX10_rest_31 : decode cX10_rest 31 = .ok (.aload_n 0, 1) := by decide +kernel
theorem dX10_rest_32 : decode cX10_rest 32 = .ok (.getfield 23, 3) := by decide +kernel
theorem dX10_rest_35 : decode cX10_rest 35 = .ok (.invokevirtual 232, 3) := by decide +kernel
theorem dX10_rest_38 : decode cX10_rest 38 = .ok (.aload_n 0, 1) := by decide +kernel
theorem dX10_rest_39 : decode cX10_rest 39 = .ok (.getfield 23, 3) := by decide +kernel
theorem dX10_rest_42 : decode cX10_rest 42 = .ok (.dup, 1) := by decide +kernel
theorem dX10_rest_43 : decode cX10_rest 43 = .ok (.getfield 145, 3) := by decide +kernel
theorem dX10_rest_46 : decode cX10_rest 46 = .ok (.iload_n 1, 1) := by decide +kernel
theorem dX10_rest_47 : decode cX10_rest 47 = .ok (.iadd, 1) := by decide +kernel
theorem dX10_rest_48 : decode cX10_rest 48 = .ok (.putfield 145, 3) := by decide +kernel
theorem dX10_rest_51 : decode cX10_rest 51 = .ok (.aload_n 0, 1) := by decide +kernel
theorem dX10_rest_52 : decode cX10_rest 52 = .ok (.getfield 23, 3) := by decide +kernel
theorem dX10_rest_55 : decode cX10_rest 55 = .ok (.getfield 145, 3) := by decide +kernel
theorem dX10_rest_58 : decode cX10_rest 58 = .ok (.ireturn, 1) := by decide +kernel
theorem dX10_mend_0 : decode cX10_mend 0 = .ok (.aload_n 0, 1) := by decide +kernel
theorem dX10_mend_1 : decode cX10_mend 1 = .ok (.iload_n 1, 1) := by decide +kernel
theorem dX10_mend_2 : decode cX10_mend 2 = .ok (.invokevirtual 177, 3) := by decide +kernel
theorem dX10_mend_5 : decode cX10_mend 5 = .ok (.ifCond .ne 6, 3) := by decide +kernel
theorem dX10_mend_8 : decode cX10_mend 8 = .ok (.ldc 180, 2) := by decide +kernel
theorem dX10_mend_10 : decode cX10_mend 10 = .ok (.ireturn, 1) := by decide +kernel
theorem dX10_mend_11 : decode cX10_mend 11 = .ok (.iload_n 2, 1) := by decide +kernel
theorem dX10_mend_12 : decode cX10_mend 12 = .ok (.ifCond .lt 8, 3) := by decide +kernel
theorem dX10_mend_15 : decode cX10_mend 15 = .ok (.iload_n 2, 1) := by decide +kernel
theorem dX10_mend_16 : decode cX10_mend 16 = .ok (.iconst 4, 1) := by decide +kernel
theorem dX10_mend_17 : decode cX10_mend 17 = .ok (.if_icmp .lt 6, 3) := by decide +kernel
theorem dX10_mend_20 : decode cX10_mend 20 = .ok (.ldc 89, 2) := by decide +kernel
theorem dX10_mend_22 : decode cX10_mend 22 = .ok (.ireturn, 1) := by decide +kernel
theorem dX10_mend_23 : decode cX10_mend 23 = .ok (.aload_n 0, 1) := by decide +kernel
theorem dX10_mend_24 : decode cX10_mend 24 = .ok (.getfield 23, 3) := by decide +kernel
theorem dX10_mend_27 : decode cX10_mend 27 = .ok (.getfield 181, 3) := by decide +kernel
theorem dX10_mend_30 : decode cX10_mend 30 = .ok (.iload_n 1, 1) := by decide +kernel
theorem dX10_mend_31 : decode cX10_mend 31 = .ok (.invokestatic 182, 3) := by decide +kernel
theorem dX10_mend_34 : decode cX10_mend 34 = .ok (.istore_n 3, 1) := by decide +kernel
theorem dX10_mend_35 : decode cX10_mend 35 = .ok (.iload_n 3, 1) := by decide +kernel
theorem dX10_mend_36 : decode cX10_mend 36 = .ok (.iload_n 2, 1) := by decide +kernel
theorem dX10_mend_37 : decode cX10_mend 37 = .ok (.if_icmp .ne 6, 3) := by decide +kernel
theorem dX10_mend_40 : decode cX10_mend 40 = .ok (.ldc 231, 2) := by decide +kernel
theorem dX10_mend_42 : decode cX10_mend 42 = .ok (.ireturn, 1) := by decide +kernel
theorem dX10_mend_43 : decode cX10_mend 43 = .ok (.aload_n 0, 1) := by decide +kernel
theorem dX10_mend_44 : decode cX10_mend 44 = .ok (.getfield 30, 3) := by decide +kernel
theorem dX10_mend_47 : decode cX10_mend 47 = .ok (.aload_n 0, 1) := by decide +kernel
theorem dX10_mend_48 : decode cX10_mend 48 = .ok (.getfield 23, 3) := by decide +kernel
theorem dX10_mend_51 : decode cX10_mend 51 = .ok (.invokevirtual 232, 3) := by decide +kernel
theorem dX10_mend_54 : decode cX10_mend 54 = .ok (.aload_n 0, 1) := by decide +kernel
theorem dX10_mend_55 : decode cX10_mend 55 = .ok (.getfield 23, 3) := by decide +kernel
theorem dX10_mend_58 : decode cX10_mend 58 = .ok (.aload_n 0, 1) := by decide +kernel
theorem dX10_mend_59 : decode cX10_mend 59 = .ok (.getfield 23, 3) := by decide +kernel
theorem dX10_mend_62 : decode cX10_mend 62 = .ok (.getfield 181, 3) := by decide +kernel
theorem dX10_mend_65 : decode cX10_mend 65 = .ok (.iload_n 1, 1) := by decide +kernel
theorem dX10_mend_66 : decode cX10_mend 66 = .ok (.iload_n 2, 1) := by decide +kernel
theorem dX10_mend_67 : decode cX10_mend 67 = .ok (.invokestatic 248, 3) := by decide +kernel
theorem dX10_mend_70 : decode cX10_mend 70 = .ok (.putfield 181, 3) := by decide +kernel
theorem dX10_mend_73 : decode cX10_mend 73 = .ok (.iload_n 3, 1) := by decide +kernel
theorem dX10_mend_74 : decode cX10_mend 74 = .ok (.ireturn, 1) := by decide +kernel
theorem dX10_touch_0 : decode cX10_touch 0 = .ok (.aload_n 0, 1) := by decide +kernel
theorem dX10_touch_1 : decode cX10_touch 1 = .ok (.iload_n 1, 1) := by decide +kernel
theorem dX10_touch_2 : decode cX10_touch 2 = .ok (.iload_n 2, 1) := by decide +kernel
theorem dX10_touch_3 : decode cX10_touch 3 = .ok (.invokevirtual 222, 3) := by decide +kernel
theorem dX10_touch_6 : decode cX10_touch 6 = .ok (.ifCond .ne 6, 3) := by decide +kernel
theorem dX10_touch_9 : decode cX10_touch 9 = .ok (.ldc 180, 2) := by decide +kernel
theorem dX10_touch_11 : decode cX10_touch 11 = .ok (.ireturn, 1) := by decide +kernel
theorem dX10_touch_12 : decode cX10_touch 12 = .ok (.iload_n 1, 1) := by decide +kernel
theorem dX10_touch_13 : decode cX10_touch 13 = .ok (.iload_n 2, 1) := by decide +kernel
theorem dX10_touch_14 : decode cX10_touch 14 = .ok (.invokestatic 225, 3) := by decide +kernel
theorem dX10_touch_17 : decode cX10_touch 17 = .ok (.istore 4, 2) := by decide +kernel
theorem dX10_touch_19 : decode cX10_touch 19 = .ok (.aload_n 0, 1) := by decide +kernel
theorem dX10_touch_20 : decode cX10_touch 20 = .ok (.getfield 23, 3) := by decide +kernel
theorem dX10_touch_23 : decode cX10_touch 23 = .ok (.getfield 154, 3) := by decide +kernel
theorem dX10_touch_26 : decode cX10_touch 26 = .ok (.iload 4, 2) := by decide +kernel
theorem dX10_touch_28 : decode cX10_touch 28 = .ok (.iand, 1) := by decide +kernel
theorem dX10_touch_29 : decode cX10_touch 29 = .ok (.ifCond .eq 7, 3) := by decide +kernel
theorem dX10_touch_32 : decode cX10_touch 32 = .ok (.iconst 1, 1) := by decide +kernel
theorem dX10_touch_33 : decode cX10_touch 33 = .ok (.goto 4, 3) := by decide +kernel
theorem dX10_touch_36 : decode cX10_touch 36 = .ok (.iconst 0, 1) := by decide +kernel
theorem dX10_touch_37 : decode cX10_touch 37 = .ok (.istore 5, 2) := by decide +kernel
theorem dX10_touch_39 : decode cX10_touch 39 = .ok (.iload 5, 2) := by decide +kernel
theorem dX10_touch_41 : decode cX10_touch 41 = .ok (.iload_n 3, 1) := by decide +kernel
theorem dX10_touch_42 : decode cX10_touch 42 = .ok (.if_icmp .ne 6, 3) := by decide +kernel
theorem dX10_touch_45 : decode cX10_touch 45 = .ok (.ldc 231, 2) := by decide +kernel
theorem dX10_touch_47 : decode cX10_touch 47 = .ok (.ireturn, 1) := by decide +kernel
theorem dX10_touch_48 : decode cX10_touch 48 = .ok (.aload_n 0, 1) := by decide +kernel
theorem dX10_touch_49 : decode cX10_touch 49 = .ok (.getfield 30, 3) := by decide +kernel
theorem dX10_touch_52 : decode cX10_touch 52 = .ok (.aload_n 0, 1) := by decide +kernel
theorem dX10_touch_53 : decode cX10_touch 53 = .ok (.getfield 23, 3) := by decide +kernel
theorem dX10_touch_56 : decode cX10_touch 56 = .ok (.invokevirtual 232, 3) := by decide +kernel
theorem dX10_touch_59 : decode cX10_touch 59 = .ok (.aload_n 0, 1) := by decide +kernel
theorem dX10_touch_60 : decode cX10_touch 60 = .ok (.getfield 23, 3) := by decide +kernel
theorem dX10_touch_63 : decode cX10_touch 63 = .ok (.dup, 1) := by decide +kernel
theorem dX10_touch_64 : decode cX10_touch 64 = .ok (.getfield 154, 3) := by decide +kernel
theorem dX10_touch_67 : decode cX10_touch 67 = .ok (.iload 4, 2) := by decide +kernel
theorem dX10_touch_69 : decode cX10_touch 69 = .ok (.ixor, 1) := by decide +kernel
theorem dX10_touch_70 : decode cX10_touch 70 = .ok (.putfield 154, 3) := by decide +kernel
theorem dX10_touch_73 : decode cX10_touch 73 = .ok (.aload_n 0, 1) := by decide +kernel
theorem dX10_touch_74 : decode cX10_touch 74 = .ok (.getfield 23, 3) := by decide +kernel
theorem dX10_touch_77 : decode cX10_touch 77 = .ok (.getfield 154, 3) := by decide +kernel
theorem dX10_touch_80 : decode cX10_touch 80 = .ok (.invokestatic 155, 3) := by decide +kernel
theorem dX10_touch_83 : decode cX10_touch 83 = .ok (.ireturn, 1) := by decide +kernel
theorem dX10_drift_0 : decode cX10_drift 0 = .ok (.iload_n 1, 1) := by decide +kernel
theorem dX10_drift_1 : decode cX10_drift 1 = .ok (.iconst 1, 1) := by decide +kernel
theorem dX10_drift_2 : decode cX10_drift 2 = .ok (.if_icmp .lt 9, 3) := by decide +kernel
theorem dX10_drift_5 : decode cX10_drift 5 = .ok (.iload_n 1, 1) := by decide +kernel
theorem dX10_drift_6 : decode cX10_drift 6 = .ok (.bipush 60, 2) := by decide +kernel
theorem dX10_drift_8 : decode cX10_drift 8 = .ok (.if_icmp .le 8, 3) := by decide +kernel
theorem dX10_drift_11 : decode cX10_drift 11 = .ok (.ldc 89, 2) := by decide +kernel
theorem dX10_drift_13 : decode cX10_drift 13 = .ok (.goto 7, 3) := by decide +kernel
theorem dX10_drift_16 : decode cX10_drift 16 = .ok (.aload_n 0, 1) := by decide +kernel
theorem dX10_drift_17 : decode cX10_drift 17 = .ok (.invokevirtual 239, 3) := by decide +kernel
theorem dX10_drift_20 : decode cX10_drift 20 = .ok (.istore_n 2, 1) := by decide +kernel
theorem dX10_drift_21 : decode cX10_drift 21 = .ok (.iload_n 2, 1) := by decide +kernel
theorem dX10_drift_22 : decode cX10_drift 22 = .ok (.ifCond .eq 5, 3) := by decide +kernel
theorem dX10_drift_25 : decode cX10_drift 25 = .ok (.iload_n 2, 1) := by decide +kernel
theorem dX10_drift_26 : decode cX10_drift 26 = .ok (.ireturn, 1) := by decide +kernel
theorem dX10_drift_27 : decode cX10_drift 27 = .ok (.aload_n 0, 1) := by decide +kernel
theorem dX10_drift_28 : decode cX10_drift 28 = .ok (.getfield 30, 3) := by decide +kernel
theorem dX10_drift_31 : decode cX10_drift 31 = .ok (.aload_n 0, 1) := by decide +kernel
theorem dX10_drift_32 : decode cX10_drift 32 = .ok (.getfield 23, 3) := by decide +kernel
theorem dX10_drift_35 : decode cX10_drift 35 = .ok (.invokevirtual 232, 3) := by decide +kernel
theorem dX10_drift_38 : decode cX10_drift 38 = .ok (.iconst 0, 1) := by decide +kernel
theorem dX10_drift_39 : decode cX10_drift 39 = .ok (.istore_n 3, 1) := by decide +kernel
theorem dX10_drift_40 : decode cX10_drift 40 = .ok (.iload_n 3, 1) := by decide +kernel
theorem dX10_drift_41 : decode cX10_drift 41 = .ok (.iload_n 1, 1) := by decide +kernel
theorem dX10_drift_42 : decode cX10_drift 42 = .ok (.if_icmp .ge 13, 3) := by decide +kernel
theorem dX10_drift_45 : decode cX10_drift 45 = .ok (.aload_n 0, 1) := by decide +kernel
theorem dX10_drift_46 : decode cX10_drift 46 = .ok (.invokevirtual 252, 3) := by decide +kernel
theorem dX10_drift_49 : decode cX10_drift 49 = .ok (.iinc 3 1, 3) := by decide +kernel
theorem dX10_drift_52 : decode cX10_drift 52 = .ok (.goto (-12), 3) := by decide +kernel
theorem dX10_drift_55 : decode cX10_drift 55 = .ok (.aload_n 0, 1) := by decide +kernel
theorem dX10_drift_56 : decode cX10_drift 56 = .ok (.getfield 23, 3) := by decide +kernel
theorem dX10_drift_59 : decode cX10_drift 59 = .ok (.getfield 145, 3) := by decide +kernel
theorem dX10_drift_62 : decode cX10_drift 62 = .ok (.ireturn, 1) := by decide +kernel
theorem dX10_undo_0 : decode cX10_undo 0 = .ok (.aload_n 0, 1) := by decide +kernel
theorem dX10_undo_1 : decode cX10_undo 1 = .ok (.getfield 30, 3) := by decide +kernel
theorem dX10_undo_4 : decode cX10_undo 4 = .ok (.getfield 174, 3) := by decide +kernel
theorem dX10_undo_7 : decode cX10_undo 7 = .ok (.ifCond .ne 6, 3) := by decide +kernel
theorem dX10_undo_10 : decode cX10_undo 10 = .ok (.ldc 231, 2) := by decide +kernel
theorem dX10_undo_12 : decode cX10_undo 12 = .ok (.ireturn, 1) := by decide +kernel
theorem dX10_undo_13 : decode cX10_undo 13 = .ok (.aload_n 0, 1) := by decide +kernel
theorem dX10_undo_14 : decode cX10_undo 14 = .ok (.getfield 30, 3) := by decide +kernel
theorem dX10_undo_17 : decode cX10_undo 17 = .ok (.aload_n 0, 1) := by decide +kernel
theorem dX10_undo_18 : decode cX10_undo 18 = .ok (.getfield 23, 3) := by decide +kernel
theorem dX10_undo_21 : decode cX10_undo 21 = .ok (.invokevirtual 255, 3) := by decide +kernel
theorem dX10_undo_24 : decode cX10_undo 24 = .ok (.aload_n 0, 1) := by decide +kernel
theorem dX10_undo_25 : decode cX10_undo 25 = .ok (.getfield 30, 3) := by decide +kernel
theorem dX10_undo_28 : decode cX10_undo 28 = .ok (.getfield 174, 3) := by decide +kernel
theorem dX10_undo_31 : decode cX10_undo 31 = .ok (.ireturn, 1) := by decide +kernel
theorem dX10_cut_0 : decode cX10_cut 0 = .ok (.aload_n 0, 1) := by decide +kernel
theorem dX10_cut_1 : decode cX10_cut 1 = .ok (.iload_n 1, 1) := by decide +kernel
theorem dX10_cut_2 : decode cX10_cut 2 = .ok (.iload_n 2, 1) := by decide +kernel
theorem dX10_cut_3 : decode cX10_cut 3 = .ok (.invokevirtual 222, 3) := by decide +kernel
theorem dX10_cut_6 : decode cX10_cut 6 = .ok (.ifCond .ne 6, 3) := by decide +kernel
theorem dX10_cut_9 : decode cX10_cut 9 = .ok (.ldc 180, 2) := by decide +kernel
theorem dX10_cut_11 : decode cX10_cut 11 = .ok (.ireturn, 1) := by decide +kernel
theorem dX10_cut_12 : decode cX10_cut 12 = .ok (.iconst (-1), 1) := by decide +kernel
theorem dX10_cut_13 : decode cX10_cut 13 = .ok (.istore_n 3, 1) := by decide +kernel
theorem dX10_cut_14 : decode cX10_cut 14 = .ok (.iconst 0, 1) := by decide +kernel
theorem dX10_cut_15 : decode cX10_cut 15 = .ok (.istore 4, 2) := by decide +kernel
theorem dX10_cut_17 : decode cX10_cut 17 = .ok (.iload 4, 2) := by decide +kernel
theorem dX10_cut_19 : decode cX10_cut 19 = .ok (.iconst 1, 1) := by decide +kernel
theorem dX10_cut_20 : decode cX10_cut 20 = .ok (.aload_n 0, 1) := by decide +kernel
theorem dX10_cut_21 : decode cX10_cut 21 = .ok (.getfield 108, 3) := by decide +kernel
theorem dX10_cut_24 : decode cX10_cut 24 = .ok (.ishl, 1) := by decide +kernel
theorem dX10_cut_25 : decode cX10_cut 25 = .ok (.if_icmp .ge 56, 3) := by decide +kernel
theorem dX10_cut_28 : decode cX10_cut 28 = .ok (.iload_n 3, 1) := by decide +kernel
theorem dX10_cut_29 : decode cX10_cut 29 = .ok (.iconst (-1), 1) := by decide +kernel
theorem dX10_cut_30 : decode cX10_cut 30 = .ok (.if_icmp .eq 15, 3) := by decide +kernel
theorem dX10_cut_33 : decode cX10_cut 33 = .ok (.iload 4, 2) := by decide +kernel
theorem dX10_cut_35 : decode cX10_cut 35 = .ok (.invokestatic 155, 3) := by decide +kernel
theorem dX10_cut_38 : decode cX10_cut 38 = .ok (.iload_n 3, 1) := by decide +kernel
theorem dX10_cut_39 : decode cX10_cut 39 = .ok (.invokestatic 155, 3) := by decide +kernel
theorem dX10_cut_42 : decode cX10_cut 42 = .ok (.if_icmp .ge 7, 3) := by decide +kernel
theorem dX10_cut_45 : decode cX10_cut 45 = .ok (.iconst 1, 1) := by decide +kernel
theorem dX10_cut_46 : decode cX10_cut 46 = .ok (.goto 4, 3) := by decide +kernel
theorem dX10_cut_49 : decode cX10_cut 49 = .ok (.iconst 0, 1) := by decide +kernel
theorem dX10_cut_50 : decode cX10_cut 50 = .ok (.istore 5, 2) := by decide +kernel
theorem dX10_cut_52 : decode cX10_cut 52 = .ok (.iload 5, 2) := by decide +kernel
theorem dX10_cut_54 : decode cX10_cut 54 = .ok (.ifCond .eq 21, 3) := by decide +kernel
theorem dX10_cut_57 : decode cX10_cut 57 = .ok (.aload_n 0, 1) := by decide +kernel
theorem dX10_cut_58 : decode cX10_cut 58 = .ok (.aload_n 0, 1) := by decide +kernel
theorem dX10_cut_59 : decode cX10_cut 59 = .ok (.iload 4, 2) := by decide +kernel
theorem dX10_cut_61 : decode cX10_cut 61 = .ok (.invokevirtual 258, 3) := by decide +kernel
theorem dX10_cut_64 : decode cX10_cut 64 = .ok (.iload_n 1, 1) := by decide +kernel
theorem dX10_cut_65 : decode cX10_cut 65 = .ok (.iload_n 2, 1) := by decide +kernel
theorem dX10_cut_66 : decode cX10_cut 66 = .ok (.invokevirtual 218, 3) := by decide +kernel
theorem dX10_cut_69 : decode cX10_cut 69 = .ok (.ifCond .ne 6, 3) := by decide +kernel
theorem dX10_cut_72 : decode cX10_cut 72 = .ok (.iload 4, 2) := by decide +kernel
theorem dX10_cut_74 : decode cX10_cut 74 = .ok (.istore_n 3, 1) := by decide +kernel
theorem dX10_cut_75 : decode cX10_cut 75 = .ok (.iinc 4 1, 3) := by decide +kernel
theorem dX10_cut_78 : decode cX10_cut 78 = .ok (.goto (-61), 3) := by decide +kernel
theorem dX10_cut_81 : decode cX10_cut 81 = .ok (.iload_n 3, 1) := by decide +kernel
theorem dX10_cut_82 : decode cX10_cut 82 = .ok (.ireturn, 1) := by decide +kernel
theorem dX10_ties_0 : decode cX10_ties 0 = .ok (.iload_n 1, 1) := by decide +kernel
theorem dX10_ties_1 : decode cX10_ties 1 = .ok (.iconst (-1), 1) := by decide +kernel
theorem dX10_ties_2 : decode cX10_ties 2 = .ok (.if_icmp .eq 14, 3) := by decide +kernel
theorem dX10_ties_5 : decode cX10_ties 5 = .ok (.aload_n 0, 1) := by decide +kernel
theorem dX10_ties_6 : decode cX10_ties 6 = .ok (.iload_n 1, 1) := by decide +kernel
theorem dX10_ties_7 : decode cX10_ties 7 = .ok (.invokevirtual 177, 3) := by decide +kernel
theorem dX10_ties_10 : decode cX10_ties 10 = .ok (.ifCond .ne 6, 3) := by decide +kernel
theorem dX10_ties_13 : decode cX10_ties 13 = .ok (.ldc 180, 2) := by decide +kernel
theorem dX10_ties_15 : decode cX10_ties 15 = .ok (.ireturn, 1) := by decide +kernel
theorem dX10_ties_16 : decode cX10_ties 16 = .ok (.aload_n 0, 1) := by decide +kernel
theorem dX10_ties_17 : decode cX10_ties 17 = .ok (.getfield 108, 3) := by decide +kernel
theorem dX10_ties_20 : decode cX10_ties 20 = .ok (.ifCond .ne 6, 3) := by decide +kernel
theorem dX10_ties_23 : decode cX10_ties 23 = .ok (.ldc 231, 2) := by decide +kernel
theorem dX10_ties_25 : decode cX10_ties 25 = .ok (.ireturn, 1) := by decide +kernel
theorem dX10_ties_26 : decode cX10_ties 26 = .ok (.aload_n 0, 1) := by decide +kernel
theorem dX10_ties_27 : decode cX10_ties 27 = .ok (.invokevirtual 261, 3) := by decide +kernel
theorem dX10_ties_30 : decode cX10_ties 30 = .ok (.istore_n 2, 1) := by decide +kernel
theorem dX10_ties_31 : decode cX10_ties 31 = .ok (.iload_n 1, 1) := by decide +kernel
theorem dX10_ties_32 : decode cX10_ties 32 = .ok (.iconst (-1), 1) := by decide +kernel
theorem dX10_ties_33 : decode cX10_ties 33 = .ok (.if_icmp .ne 11, 3) := by decide +kernel
theorem dX10_ties_36 : decode cX10_ties 36 = .ok (.aload_n 0, 1) := by decide +kernel
theorem dX10_ties_37 : decode cX10_ties 37 = .ok (.iload_n 2, 1) := by decide +kernel
theorem dX10_ties_38 : decode cX10_ties 38 = .ok (.invokevirtual 264, 3) := by decide +kernel
theorem dX10_ties_41 : decode cX10_ties 41 = .ok (.goto 10, 3) := by decide +kernel
theorem dX10_ties_44 : decode cX10_ties 44 = .ok (.iload_n 2, 1) := by decide +kernel
theorem dX10_ties_45 : decode cX10_ties 45 = .ok (.iload_n 1, 1) := by decide +kernel
theorem dX10_ties_46 : decode cX10_ties 46 = .ok (.invokestatic 182, 3) := by decide +kernel
theorem dX10_ties_49 : decode cX10_ties 49 = .ok (.iconst 1, 1) := by decide +kernel
theorem dX10_ties_50 : decode cX10_ties 50 = .ok (.isub, 1) := by decide +kernel
theorem dX10_ties_51 : decode cX10_ties 51 = .ok (.ireturn, 1) := by decide +kernel
theorem dX10_dry_0 : decode cX10_dry 0 = .ok (.iload_n 1, 1) := by decide +kernel
theorem dX10_dry_1 : decode cX10_dry 1 = .ok (.ifCond .lt 19, 3) := by decide +kernel
theorem dX10_dry_4 : decode cX10_dry 4 = .ok (.iload_n 1, 1) := by decide +kernel
theorem dX10_dry_5 : decode cX10_dry 5 = .ok (.bipush 60, 2) := by decide +kernel
theorem dX10_dry_7 : decode cX10_dry 7 = .ok (.if_icmp .gt 13, 3) := by decide +kernel
theorem dX10_dry_10 : decode cX10_dry 10 = .ok (.iload_n 2, 1) := by decide +kernel
theorem dX10_dry_11 : decode cX10_dry 11 = .ok (.ifCond .lt 9, 3) := by decide +kernel
theorem dX10_dry_14 : decode cX10_dry 14 = .ok (.iload_n 2, 1) := by decide +kernel
theorem dX10_dry_15 : decode cX10_dry 15 = .ok (.bipush 100, 2) := by decide +kernel
theorem dX10_dry_17 : decode cX10_dry 17 = .ok (.if_icmp .le 6, 3) := by decide +kernel
theorem dX10_dry_20 : decode cX10_dry 20 = .ok (.ldc 89, 2) := by decide +kernel
theorem dX10_dry_22 : decode cX10_dry 22 = .ok (.ireturn, 1) := by decide +kernel
theorem dX10_dry_23 : decode cX10_dry 23 = .ok (.ldc2_w 267, 3) := by decide +kernel
theorem dX10_dry_26 : decode cX10_dry 26 = .ok (.lstore_n 3, 1) := by decide +kernel
theorem dX10_dry_27 : decode cX10_dry 27 = .ok (.iconst 0, 1) := by decide +kernel
theorem dX10_dry_28 : decode cX10_dry 28 = .ok (.istore 5, 2) := by decide +kernel
theorem dX10_dry_30 : decode cX10_dry 30 = .ok (.iload 5, 2) := by decide +kernel
theorem dX10_dry_32 : decode cX10_dry 32 = .ok (.iload_n 1, 1) := by decide +kernel
theorem dX10_dry_33 : decode cX10_dry 33 = .ok (.if_icmp .ge 18, 3) := by decide +kernel
theorem dX10_dry_36 : decode cX10_dry 36 = .ok (.lload_n 3, 1) := by decide +kernel
theorem dX10_dry_37 : decode cX10_dry 37 = .ok (.iload_n 2, 1) := by decide +kernel
theorem dX10_dry_38 : decode cX10_dry 38 = .ok (.i2l, 1) := by decide +kernel
theorem dX10_dry_39 : decode cX10_dry 39 = .ok (.lmul, 1) := by decide +kernel
theorem dX10_dry_40 : decode cX10_dry 40 = .ok (.ldc2_w 269, 3) := by decide +kernel
theorem dX10_dry_43 : decode cX10_dry 43 = .ok (.ldiv, 1) := by decide +kernel
theorem dX10_dry_44 : decode cX10_dry 44 = .ok (.lstore_n 3, 1) := by decide +kernel
theorem dX10_dry_45 : decode cX10_dry 45 = .ok (.iinc 5 1, 3) := by decide +kernel
theorem dX10_dry_48 : decode cX10_dry 48 = .ok (.goto (-18), 3) := by decide +kernel
theorem dX10_dry_51 : decode cX10_dry 51 = .ok (.lload_n 3, 1) := by decide +kernel
theorem dX10_dry_52 : decode cX10_dry 52 = .ok (.l2i, 1) := by decide +kernel
theorem dX10_dry_53 : decode cX10_dry 53 = .ok (.ireturn, 1) := by decide +kernel
theorem dX10_see_0 : decode cX10_see 0 = .ok (.aload_n 0, 1) := by decide +kernel
theorem dX10_see_1 : decode cX10_see 1 = .ok (.iload_n 1, 1) := by decide +kernel
theorem dX10_see_2 : decode cX10_see 2 = .ok (.iload_n 2, 1) := by decide +kernel
theorem dX10_see_3 : decode cX10_see 3 = .ok (.invokevirtual 214, 3) := by decide +kernel
theorem dX10_see_6 : decode cX10_see 6 = .ok (.ifCond .ne 6, 3) := by decide +kernel
theorem dX10_see_9 : decode cX10_see 9 = .ok (.ldc 180, 2) := by decide +kernel
theorem dX10_see_11 : decode cX10_see 11 = .ok (.ireturn, 1) := by decide +kernel
theorem dX10_see_12 : decode cX10_see 12 = .ok (.aload_n 0, 1) := by decide +kernel
theorem dX10_see_13 : decode cX10_see 13 = .ok (.getfield 133, 3) := by decide +kernel
theorem dX10_see_16 : decode cX10_see 16 = .ok (.bipush 8, 2) := by decide +kernel
theorem dX10_see_18 : decode cX10_see 18 = .ok (.if_icmp .lt 6, 3) := by decide +kernel
theorem dX10_see_21 : decode cX10_see 21 = .ok (.ldc 98, 2) := by decide +kernel
theorem dX10_see_23 : decode cX10_see 23 = .ok (.ireturn, 1) := by decide +kernel
theorem dX10_see_24 : decode cX10_see 24 = .ok (.aload_n 0, 1) := by decide +kernel
theorem dX10_see_25 : decode cX10_see 25 = .ok (.getfield 49, 3) := by decide +kernel
theorem dX10_see_28 : decode cX10_see 28 = .ok (.aload_n 0, 1) := by decide +kernel
theorem dX10_see_29 : decode cX10_see 29 = .ok (.getfield 133, 3) := by decide +kernel
theorem dX10_see_32 : decode cX10_see 32 = .ok (.aaload, 1) := by decide +kernel
theorem dX10_see_33 : decode cX10_see 33 = .ok (.aload_n 0, 1) := by decide +kernel
theorem dX10_see_34 : decode cX10_see 34 = .ok (.getfield 23, 3) := by decide +kernel
theorem dX10_see_37 : decode cX10_see 37 = .ok (.aload_n 0, 1) := by decide +kernel
theorem dX10_see_38 : decode cX10_see 38 = .ok (.getfield 23, 3) := by decide +kernel
theorem dX10_see_41 : decode cX10_see 41 = .ok (.getfield 142, 3) := by decide +kernel
theorem dX10_see_44 : decode cX10_see 44 = .ok (.iload_n 1, 1) := by decide +kernel
theorem dX10_see_45 : decode cX10_see 45 = .ok (.invokestatic 208, 3) := by decide +kernel
theorem dX10_see_48 : decode cX10_see 48 = .ok (.aload_n 0, 1) := by decide +kernel
theorem dX10_see_49 : decode cX10_see 49 = .ok (.getfield 23, 3) := by decide +kernel
theorem dX10_see_52 : decode cX10_see 52 = .ok (.getfield 142, 3) := by decide +kernel
theorem dX10_see_55 : decode cX10_see 55 = .ok (.iload_n 2, 1) := by decide +kernel
theorem dX10_see_56 : decode cX10_see 56 = .ok (.invokestatic 208, 3) := by decide +kernel
theorem dX10_see_59 : decode cX10_see 59 = .ok (.iload_n 3, 1) := by decide +kernel
theorem dX10_see_60 : decode cX10_see 60 = .ok (.invokevirtual 271, 3) := by decide +kernel
theorem dX10_see_63 : decode cX10_see 63 = .ok (.aload_n 0, 1) := by decide +kernel
theorem dX10_see_64 : decode cX10_see 64 = .ok (.dup, 1) := by decide +kernel
theorem dX10_see_65 : decode cX10_see 65 = .ok (.getfield 133, 3) := by decide +kernel
theorem dX10_see_68 : decode cX10_see 68 = .ok (.iconst 1, 1) := by decide +kernel
theorem dX10_see_69 : decode cX10_see 69 = .ok (.iadd, 1) := by decide +kernel
theorem dX10_see_70 : decode cX10_see 70 = .ok (.putfield 133, 3) := by decide +kernel
theorem dX10_see_73 : decode cX10_see 73 = .ok (.aload_n 0, 1) := by decide +kernel
theorem dX10_see_74 : decode cX10_see 74 = .ok (.getfield 133, 3) := by decide +kernel
theorem dX10_see_77 : decode cX10_see 77 = .ok (.ireturn, 1) := by decide +kernel
theorem dX10_write_0 : decode cX10_write 0 = .ok (.aload_n 0, 1) := by decide +kernel
theorem dX10_write_1 : decode cX10_write 1 = .ok (.iload_n 1, 1) := by decide +kernel
theorem dX10_write_2 : decode cX10_write 2 = .ok (.invokevirtual 177, 3) := by decide +kernel
theorem dX10_write_5 : decode cX10_write 5 = .ok (.ifCond .eq 11, 3) := by decide +kernel
theorem dX10_write_8 : decode cX10_write 8 = .ok (.aload_n 0, 1) := by decide +kernel
theorem dX10_write_9 : decode cX10_write 9 = .ok (.iload_n 2, 1) := by decide +kernel
theorem dX10_write_10 : decode cX10_write 10 = .ok (.invokevirtual 177, 3) := by decide +kernel
theorem dX10_write_13 : decode cX10_write 13 = .ok (.ifCond .ne 6, 3) := by decide +kernel
theorem dX10_write_16 : decode cX10_write 16 = .ok (.ldc 180, 2) := by decide +kernel
theorem dX10_write_18 : decode cX10_write 18 = .ok (.ireturn, 1) := by decide +kernel
theorem dX10_write_19 : decode cX10_write 19 = .ok (.aload_n 0, 1) := by decide +kernel
theorem dX10_write_20 : decode cX10_write 20 = .ok (.getfield 136, 3) := by decide +kernel
theorem dX10_write_23 : decode cX10_write 23 = .ok (.bipush 15, 2) := by decide +kernel
theorem dX10_write_25 : decode cX10_write 25 = .ok (.if_icmp .lt 6, 3) := by decide +kernel
theorem dX10_write_28 : decode cX10_write 28 = .ok (.ldc 98, 2) := by decide +kernel
theorem dX10_write_30 : decode cX10_write 30 = .ok (.ireturn, 1) := by decide +kernel
theorem dX10_write_31 : decode cX10_write 31 = .ok (.aload_n 0, 1) := by decide +kernel
theorem dX10_write_32 : decode cX10_write 32 = .ok (.getfield 53, 3) := by decide +kernel
theorem dX10_write_35 : decode cX10_write 35 = .ok (.aload_n 0, 1) := by decide +kernel
theorem dX10_write_36 : decode cX10_write 36 = .ok (.getfield 136, 3) := by decide +kernel
theorem dX10_write_39 : decode cX10_write 39 = .ok (.iload_n 1, 1) := by decide +kernel
theorem dX10_write_40 : decode cX10_write 40 = .ok (.iastore, 1) := by decide +kernel
theorem dX10_write_41 : decode cX10_write 41 = .ok (.aload_n 0, 1) := by decide +kernel
theorem dX10_write_42 : decode cX10_write 42 = .ok (.getfield 56, 3) := by decide +kernel
theorem dX10_write_45 : decode cX10_write 45 = .ok (.aload_n 0, 1) := by decide +kernel
theorem dX10_write_46 : decode cX10_write 46 = .ok (.getfield 136, 3) := by decide +kernel
theorem dX10_write_49 : decode cX10_write 49 = .ok (.iload_n 2, 1) := by decide +kernel
theorem dX10_write_50 : decode cX10_write 50 = .ok (.iastore, 1) := by decide +kernel
theorem dX10_write_51 : decode cX10_write 51 = .ok (.aload_n 0, 1) := by decide +kernel
theorem dX10_write_52 : decode cX10_write 52 = .ok (.dup, 1) := by decide +kernel
theorem dX10_write_53 : decode cX10_write 53 = .ok (.getfield 136, 3) := by decide +kernel
theorem dX10_write_56 : decode cX10_write 56 = .ok (.iconst 1, 1) := by decide +kernel
theorem dX10_write_57 : decode cX10_write 57 = .ok (.iadd, 1) := by decide +kernel
theorem dX10_write_58 : decode cX10_write 58 = .ok (.putfield 136, 3) := by decide +kernel
theorem dX10_write_61 : decode cX10_write 61 = .ok (.aload_n 0, 1) := by decide +kernel
theorem dX10_write_62 : decode cX10_write 62 = .ok (.getfield 136, 3) := by decide +kernel
theorem dX10_write_65 : decode cX10_write 65 = .ok (.ireturn, 1) := by decide +kernel
theorem dX10_tear_0 : decode cX10_tear 0 = .ok (.aload_n 0, 1) := by decide +kernel
theorem dX10_tear_1 : decode cX10_tear 1 = .ok (.getfield 133, 3) := by decide +kernel
theorem dX10_tear_4 : decode cX10_tear 4 = .ok (.aload_n 0, 1) := by decide +kernel
theorem dX10_tear_5 : decode cX10_tear 5 = .ok (.getfield 136, 3) := by decide +kernel
theorem dX10_tear_8 : decode cX10_tear 8 = .ok (.iadd, 1) := by decide +kernel
theorem dX10_tear_9 : decode cX10_tear 9 = .ok (.istore_n 1, 1) := by decide +kernel
theorem dX10_tear_10 : decode cX10_tear 10 = .ok (.aload_n 0, 1) := by decide +kernel
theorem dX10_tear_11 : decode cX10_tear 11 = .ok (.iconst 0, 1) := by decide +kernel
theorem dX10_tear_12 : decode cX10_tear 12 = .ok (.putfield 133, 3) := by decide +kernel
theorem dX10_tear_15 : decode cX10_tear 15 = .ok (.aload_n 0, 1) := by decide +kernel
theorem dX10_tear_16 : decode cX10_tear 16 = .ok (.iconst 0, 1) := by decide +kernel
theorem dX10_tear_17 : decode cX10_tear 17 = .ok (.putfield 136, 3) := by decide +kernel
theorem dX10_tear_20 : decode cX10_tear 20 = .ok (.iload_n 1, 1) := by decide +kernel
theorem dX10_tear_21 : decode cX10_tear 21 = .ok (.ireturn, 1) := by decide +kernel
theorem dX10_judge_0 : decode cX10_judge 0 = .ok (.iconst 0, 1) := by decide +kernel
theorem dX10_judge_1 : decode cX10_judge 1 = .ok (.istore_n 1, 1) := by decide +kernel
theorem dX10_judge_2 : decode cX10_judge 2 = .ok (.iload_n 1, 1) := by decide +kernel
theorem dX10_judge_3 : decode cX10_judge 3 = .ok (.aload_n 0, 1) := by decide +kernel
theorem dX10_judge_4 : decode cX10_judge 4 = .ok (.getfield 136, 3) := by decide +kernel
theorem dX10_judge_7 : decode cX10_judge 7 = .ok (.if_icmp .ge 48, 3) := by decide +kernel
theorem dX10_judge_10 : decode cX10_judge 10 = .ok (.iload_n 1, 1) := by decide +kernel
theorem dX10_judge_11 : decode cX10_judge 11 = .ok (.bipush 15, 2) := by decide +kernel
theorem dX10_judge_13 : decode cX10_judge 13 = .ok (.if_icmp .ge 42, 3) := by decide +kernel
theorem dX10_judge_16 : decode cX10_judge 16 = .ok (.aload_n 0, 1) := by decide +kernel
theorem dX10_judge_17 : decode cX10_judge 17 = .ok (.getfield 53, 3) := by decide +kernel
theorem dX10_judge_20 : decode cX10_judge 20 = .ok (.iload_n 1, 1) := by decide +kernel
theorem dX10_judge_21 : decode cX10_judge 21 = .ok (.iaload, 1) := by decide +kernel
theorem dX10_judge_22 : decode cX10_judge 22 = .ok (.istore_n 2, 1) := by decide +kernel
theorem dX10_judge_23 : decode cX10_judge 23 = .ok (.iload_n 2, 1) := by decide +kernel
theorem dX10_judge_24 : decode cX10_judge 24 = .ok (.ifCond .lt 25, 3) := by decide +kernel
theorem dX10_judge_27 : decode cX10_judge 27 = .ok (.iload_n 2, 1) := by decide +kernel
theorem dX10_judge_28 : decode cX10_judge 28 = .ok (.iconst 5, 1) := by decide +kernel
theorem dX10_judge_29 : decode cX10_judge 29 = .ok (.if_icmp .ge 20, 3) := by decide +kernel
theorem dX10_judge_32 : decode cX10_judge 32 = .ok (.aload_n 0, 1) := by decide +kernel
theorem dX10_judge_33 : decode cX10_judge 33 = .ok (.getfield 16, 3) := by decide +kernel
theorem dX10_judge_36 : decode cX10_judge 36 = .ok (.iload_n 2, 1) := by decide +kernel
theorem dX10_judge_37 : decode cX10_judge 37 = .ok (.iaload, 1) := by decide +kernel
theorem dX10_judge_38 : decode cX10_judge 38 = .ok (.aload_n 0, 1) := by decide +kernel
theorem dX10_judge_39 : decode cX10_judge 39 = .ok (.getfield 56, 3) := by decide +kernel
theorem dX10_judge_42 : decode cX10_judge 42 = .ok (.iload_n 1, 1) := by decide +kernel
theorem dX10_judge_43 : decode cX10_judge 43 = .ok (.iaload, 1) := by decide +kernel
theorem dX10_judge_44 : decode cX10_judge 44 = .ok (.if_icmp .eq 5, 3) := by decide +kernel
theorem dX10_judge_47 : decode cX10_judge 47 = .ok (.iload_n 1, 1) := by decide +kernel
theorem dX10_judge_48 : decode cX10_judge 48 = .ok (.ireturn, 1) := by decide +kernel
theorem dX10_judge_49 : decode cX10_judge 49 = .ok (.iinc 1 1, 3) := by decide +kernel
theorem dX10_judge_52 : decode cX10_judge 52 = .ok (.goto (-50), 3) := by decide +kernel
theorem dX10_judge_55 : decode cX10_judge 55 = .ok (.iconst (-1), 1) := by decide +kernel
theorem dX10_judge_56 : decode cX10_judge 56 = .ok (.ireturn, 1) := by decide +kernel
theorem dX10_seed_0 : decode cX10_seed 0 = .ok (.iload_n 1, 1) := by decide +kernel
theorem dX10_seed_1 : decode cX10_seed 1 = .ok (.ifCond .ge 6, 3) := by decide +kernel
theorem dX10_seed_4 : decode cX10_seed 4 = .ok (.ldc 89, 2) := by decide +kernel
theorem dX10_seed_6 : decode cX10_seed 6 = .ok (.ireturn, 1) := by decide +kernel
theorem dX10_seed_7 : decode cX10_seed 7 = .ok (.aload_n 0, 1) := by decide +kernel
theorem dX10_seed_8 : decode cX10_seed 8 = .ok (.getfield 37, 3) := by decide +kernel
theorem dX10_seed_11 : decode cX10_seed 11 = .ok (.getfield 275, 3) := by decide +kernel
theorem dX10_seed_14 : decode cX10_seed 14 = .ok (.istore_n 2, 1) := by decide +kernel
theorem dX10_seed_15 : decode cX10_seed 15 = .ok (.aload_n 0, 1) := by decide +kernel
theorem dX10_seed_16 : decode cX10_seed 16 = .ok (.getfield 37, 3) := by decide +kernel
theorem dX10_seed_19 : decode cX10_seed 19 = .ok (.iload_n 1, 1) := by decide +kernel
theorem dX10_seed_20 : decode cX10_seed 20 = .ok (.putfield 275, 3) := by decide +kernel
theorem dX10_seed_23 : decode cX10_seed 23 = .ok (.iload_n 2, 1) := by decide +kernel
theorem dX10_seed_24 : decode cX10_seed 24 = .ok (.ireturn, 1) := by decide +kernel
theorem dX10_keep_0 : decode cX10_keep 0 = .ok (.iload_n 1, 1) := by decide +kernel
theorem dX10_keep_1 : decode cX10_keep 1 = .ok (.ifCond .lt 8, 3) := by decide +kernel
theorem dX10_keep_4 : decode cX10_keep 4 = .ok (.iload_n 1, 1) := by decide +kernel
theorem dX10_keep_5 : decode cX10_keep 5 = .ok (.iconst 2, 1) := by decide +kernel
theorem dX10_keep_6 : decode cX10_keep 6 = .ok (.if_icmp .lt 6, 3) := by decide +kernel
theorem dX10_keep_9 : decode cX10_keep 9 = .ok (.ldc 180, 2) := by decide +kernel
theorem dX10_keep_11 : decode cX10_keep 11 = .ok (.ireturn, 1) := by decide +kernel
theorem dX10_keep_12 : decode cX10_keep 12 = .ok (.aload_n 0, 1) := by decide +kernel
theorem dX10_keep_13 : decode cX10_keep 13 = .ok (.getfield 43, 3) := by decide +kernel
theorem dX10_keep_16 : decode cX10_keep 16 = .ok (.iload_n 1, 1) := by decide +kernel
theorem dX10_keep_17 : decode cX10_keep 17 = .ok (.aaload, 1) := by decide +kernel
theorem dX10_keep_18 : decode cX10_keep 18 = .ok (.astore_n 2, 1) := by decide +kernel
theorem dX10_keep_19 : decode cX10_keep 19 = .ok (.aload_n 2, 1) := by decide +kernel
theorem dX10_keep_20 : decode cX10_keep 20 = .ok (.getfield 278, 3) := by decide +kernel
theorem dX10_keep_23 : decode cX10_keep 23 = .ok (.aload_n 0, 1) := by decide +kernel
theorem dX10_keep_24 : decode cX10_keep 24 = .ok (.getfield 23, 3) := by decide +kernel
theorem dX10_keep_27 : decode cX10_keep 27 = .ok (.invokevirtual 281, 3) := by decide +kernel
theorem dX10_keep_30 : decode cX10_keep 30 = .ok (.aload_n 2, 1) := by decide +kernel
theorem dX10_keep_31 : decode cX10_keep 31 = .ok (.aload_n 0, 1) := by decide +kernel
theorem dX10_keep_32 : decode cX10_keep 32 = .ok (.getfield 37, 3) := by decide +kernel
theorem dX10_keep_35 : decode cX10_keep 35 = .ok (.getfield 275, 3) := by decide +kernel
theorem dX10_keep_38 : decode cX10_keep 38 = .ok (.putfield 284, 3) := by decide +kernel
theorem dX10_keep_41 : decode cX10_keep 41 = .ok (.aload_n 2, 1) := by decide +kernel
theorem dX10_keep_42 : decode cX10_keep 42 = .ok (.iconst 1, 1) := by decide +kernel
theorem dX10_keep_43 : decode cX10_keep 43 = .ok (.putfield 129, 3) := by decide +kernel
theorem dX10_keep_46 : decode cX10_keep 46 = .ok (.aload_n 0, 1) := by decide +kernel
theorem dX10_keep_47 : decode cX10_keep 47 = .ok (.getfield 30, 3) := by decide +kernel
theorem dX10_keep_50 : decode cX10_keep 50 = .ok (.invokevirtual 126, 3) := by decide +kernel
theorem dX10_keep_53 : decode cX10_keep 53 = .ok (.iconst 1, 1) := by decide +kernel
theorem dX10_keep_54 : decode cX10_keep 54 = .ok (.ireturn, 1) := by decide +kernel
theorem dX10_goBack_0 : decode cX10_goBack 0 = .ok (.iload_n 1, 1) := by decide +kernel
theorem dX10_goBack_1 : decode cX10_goBack 1 = .ok (.ifCond .lt 8, 3) := by decide +kernel
theorem dX10_goBack_4 : decode cX10_goBack 4 = .ok (.iload_n 1, 1) := by decide +kernel
theorem dX10_goBack_5 : decode cX10_goBack 5 = .ok (.iconst 2, 1) := by decide +kernel
theorem dX10_goBack_6 : decode cX10_goBack 6 = .ok (.if_icmp .lt 6, 3) := by decide +kernel
theorem dX10_goBack_9 : decode cX10_goBack 9 = .ok (.ldc 180, 2) := by decide +kernel
theorem dX10_goBack_11 : decode cX10_goBack 11 = .ok (.ireturn, 1) := by decide +kernel
theorem dX10_goBack_12 : decode cX10_goBack 12 = .ok (.aload_n 0, 1) := by decide +kernel
theorem dX10_goBack_13 : decode cX10_goBack 13 = .ok (.getfield 43, 3) := by decide +kernel
theorem dX10_goBack_16 : decode cX10_goBack 16 = .ok (.iload_n 1, 1) := by decide +kernel
theorem dX10_goBack_17 : decode cX10_goBack 17 = .ok (.aaload, 1) := by decide +kernel
theorem dX10_goBack_18 : decode cX10_goBack 18 = .ok (.astore_n 2, 1) := by decide +kernel
theorem dX10_goBack_19 : decode cX10_goBack 19 = .ok (.aload_n 2, 1) := by decide +kernel
theorem dX10_goBack_20 : decode cX10_goBack 20 = .ok (.getfield 129, 3) := by decide +kernel
theorem dX10_goBack_23 : decode cX10_goBack 23 = .ok (.ifCond .ne 6, 3) := by decide +kernel
theorem dX10_goBack_26 : decode cX10_goBack 26 = .ok (.ldc 231, 2) := by decide +kernel
theorem dX10_goBack_28 : decode cX10_goBack 28 = .ok (.ireturn, 1) := by decide +kernel
theorem dX10_goBack_29 : decode cX10_goBack 29 = .ok (.aload_n 0, 1) := by decide +kernel
theorem dX10_goBack_30 : decode cX10_goBack 30 = .ok (.getfield 23, 3) := by decide +kernel
theorem dX10_goBack_33 : decode cX10_goBack 33 = .ok (.aload_n 2, 1) := by decide +kernel
theorem dX10_goBack_34 : decode cX10_goBack 34 = .ok (.getfield 278, 3) := by decide +kernel
theorem dX10_goBack_37 : decode cX10_goBack 37 = .ok (.invokevirtual 281, 3) := by decide +kernel
theorem dX10_goBack_40 : decode cX10_goBack 40 = .ok (.aload_n 0, 1) := by decide +kernel
theorem dX10_goBack_41 : decode cX10_goBack 41 = .ok (.getfield 37, 3) := by decide +kernel
theorem dX10_goBack_44 : decode cX10_goBack 44 = .ok (.aload_n 2, 1) := by decide +kernel
theorem dX10_goBack_45 : decode cX10_goBack 45 = .ok (.getfield 284, 3) := by decide +kernel
theorem dX10_goBack_48 : decode cX10_goBack 48 = .ok (.putfield 275, 3) := by decide +kernel
theorem dX10_goBack_51 : decode cX10_goBack 51 = .ok (.aload_n 0, 1) := by decide +kernel
theorem dX10_goBack_52 : decode cX10_goBack 52 = .ok (.getfield 30, 3) := by decide +kernel
theorem dX10_goBack_55 : decode cX10_goBack 55 = .ok (.invokevirtual 126, 3) := by decide +kernel
theorem dX10_goBack_58 : decode cX10_goBack 58 = .ok (.iconst 1, 1) := by decide +kernel
theorem dX10_goBack_59 : decode cX10_goBack 59 = .ok (.ireturn, 1) := by decide +kernel
theorem dX10_isNumber_0 : decode cX10_isNumber 0 = .ok (.iload_n 1, 1) := by decide +kernel
theorem dX10_isNumber_1 : decode cX10_isNumber 1 = .ok (.ifCond .lt 15, 3) := by decide +kernel
theorem dX10_isNumber_4 : decode cX10_isNumber 4 = .ok (.iload_n 1, 1) := by decide +kernel
theorem dX10_isNumber_5 : decode cX10_isNumber 5 = .ok (.aload_n 0, 1) := by decide +kernel
theorem dX10_isNumber_6 : decode cX10_isNumber 6 = .ok (.getfield 108, 3) := by decide +kernel
theorem dX10_isNumber_9 : decode cX10_isNumber 9 = .ok (.if_icmp .ge 7, 3) := by decide +kernel
theorem dX10_isNumber_12 : decode cX10_isNumber 12 = .ok (.iconst 1, 1) := by decide +kernel
theorem dX10_isNumber_13 : decode cX10_isNumber 13 = .ok (.goto 4, 3) := by decide +kernel
theorem dX10_isNumber_16 : decode cX10_isNumber 16 = .ok (.iconst 0, 1) := by decide +kernel
theorem dX10_isNumber_17 : decode cX10_isNumber 17 = .ok (.ireturn, 1) := by decide +kernel
theorem dX10_areTwo_0 : decode cX10_areTwo 0 = .ok (.aload_n 0, 1) := by decide +kernel
theorem dX10_areTwo_1 : decode cX10_areTwo 1 = .ok (.iload_n 1, 1) := by decide +kernel
theorem dX10_areTwo_2 : decode cX10_areTwo 2 = .ok (.invokevirtual 177, 3) := by decide +kernel
theorem dX10_areTwo_5 : decode cX10_areTwo 5 = .ok (.ifCond .eq 20, 3) := by decide +kernel
theorem dX10_areTwo_8 : decode cX10_areTwo 8 = .ok (.aload_n 0, 1) := by decide +kernel
theorem dX10_areTwo_9 : decode cX10_areTwo 9 = .ok (.iload_n 2, 1) := by decide +kernel
theorem dX10_areTwo_10 : decode cX10_areTwo 10 = .ok (.invokevirtual 177, 3) := by decide +kernel
theorem dX10_areTwo_13 : decode cX10_areTwo 13 = .ok (.ifCond .eq 12, 3) := by decide +kernel
theorem dX10_areTwo_16 : decode cX10_areTwo 16 = .ok (.iload_n 1, 1) := by decide +kernel
theorem dX10_areTwo_17 : decode cX10_areTwo 17 = .ok (.iload_n 2, 1) := by decide +kernel
theorem dX10_areTwo_18 : decode cX10_areTwo 18 = .ok (.if_icmp .eq 7, 3) := by decide +kernel
theorem dX10_areTwo_21 : decode cX10_areTwo 21 = .ok (.iconst 1, 1) := by decide +kernel
theorem dX10_areTwo_22 : decode cX10_areTwo 22 = .ok (.goto 4, 3) := by decide +kernel
theorem dX10_areTwo_25 : decode cX10_areTwo 25 = .ok (.iconst 0, 1) := by decide +kernel
theorem dX10_areTwo_26 : decode cX10_areTwo 26 = .ok (.ireturn, 1) := by decide +kernel
theorem dX10_canHold_0 : decode cX10_canHold 0 = .ok (.iload_n 2, 1) := by decide +kernel
theorem dX10_canHold_1 : decode cX10_canHold 1 = .ok (.iconst (-1), 1) := by decide +kernel
theorem dX10_canHold_2 : decode cX10_canHold 2 = .ok (.if_icmp .ne 11, 3) := by decide +kernel
theorem dX10_canHold_5 : decode cX10_canHold 5 = .ok (.aload_n 0, 1) := by decide +kernel
theorem dX10_canHold_6 : decode cX10_canHold 6 = .ok (.iload_n 1, 1) := by decide +kernel
theorem dX10_canHold_7 : decode cX10_canHold 7 = .ok (.invokevirtual 177, 3) := by decide +kernel
theorem dX10_canHold_10 : decode cX10_canHold 10 = .ok (.goto 9, 3) := by decide +kernel
theorem dX10_canHold_13 : decode cX10_canHold 13 = .ok (.aload_n 0, 1) := by decide +kernel
theorem dX10_canHold_14 : decode cX10_canHold 14 = .ok (.iload_n 1, 1) := by decide +kernel
theorem dX10_canHold_15 : decode cX10_canHold 15 = .ok (.iload_n 2, 1) := by decide +kernel
theorem dX10_canHold_16 : decode cX10_canHold 16 = .ok (.invokevirtual 222, 3) := by decide +kernel
theorem dX10_canHold_19 : decode cX10_canHold 19 = .ok (.ireturn, 1) := by decide +kernel
theorem dX10_nodeOf_0 : decode cX10_nodeOf 0 = .ok (.iload_n 1, 1) := by decide +kernel
theorem dX10_nodeOf_1 : decode cX10_nodeOf 1 = .ok (.iconst (-1), 1) := by decide +kernel
theorem dX10_nodeOf_2 : decode cX10_nodeOf 2 = .ok (.if_icmp .ne 6, 3) := by decide +kernel
theorem dX10_nodeOf_5 : decode cX10_nodeOf 5 = .ok (.bipush 10, 2) := by decide +kernel
theorem dX10_nodeOf_7 : decode cX10_nodeOf 7 = .ok (.ireturn, 1) := by decide +kernel
theorem dX10_nodeOf_8 : decode cX10_nodeOf 8 = .ok (.iload_n 0, 1) := by decide +kernel
theorem dX10_nodeOf_9 : decode cX10_nodeOf 9 = .ok (.ifCond .ne 7, 3) := by decide +kernel
theorem dX10_nodeOf_12 : decode cX10_nodeOf 12 = .ok (.iload_n 1, 1) := by decide +kernel
theorem dX10_nodeOf_13 : decode cX10_nodeOf 13 = .ok (.goto 6, 3) := by decide +kernel
theorem dX10_nodeOf_16 : decode cX10_nodeOf 16 = .ok (.iconst 5, 1) := by decide +kernel
theorem dX10_nodeOf_17 : decode cX10_nodeOf 17 = .ok (.iload_n 1, 1) := by decide +kernel
theorem dX10_nodeOf_18 : decode cX10_nodeOf 18 = .ok (.iadd, 1) := by decide +kernel
theorem dX10_nodeOf_19 : decode cX10_nodeOf 19 = .ok (.ireturn, 1) := by decide +kernel
theorem dX10_farEndOf_0 : decode cX10_farEndOf 0 = .ok (.iconst 0, 1) := by decide +kernel
theorem dX10_farEndOf_1 : decode cX10_farEndOf 1 = .ok (.istore_n 2, 1) := by decide +kernel
theorem dX10_farEndOf_2 : decode cX10_farEndOf 2 = .ok (.iload_n 2, 1) := by decide +kernel
theorem dX10_farEndOf_3 : decode cX10_farEndOf 3 = .ok (.aload_n 0, 1) := by decide +kernel
theorem dX10_farEndOf_4 : decode cX10_farEndOf 4 = .ok (.getfield 108, 3) := by decide +kernel
theorem dX10_farEndOf_7 : decode cX10_farEndOf 7 = .ok (.if_icmp .ge 26, 3) := by decide +kernel
theorem dX10_farEndOf_10 : decode cX10_farEndOf 10 = .ok (.iload_n 2, 1) := by decide +kernel
theorem dX10_farEndOf_11 : decode cX10_farEndOf 11 = .ok (.iconst 5, 1) := by decide +kernel
theorem dX10_farEndOf_12 : decode cX10_farEndOf 12 = .ok (.if_icmp .ge 21, 3) := by decide +kernel
theorem dX10_farEndOf_15 : decode cX10_farEndOf 15 = .ok (.aload_n 0, 1) := by decide +kernel
theorem dX10_farEndOf_16 : decode cX10_farEndOf 16 = .ok (.getfield 16, 3) := by decide +kernel
theorem dX10_farEndOf_19 : decode cX10_farEndOf 19 = .ok (.iload_n 2, 1) := by decide +kernel
theorem dX10_farEndOf_20 : decode cX10_farEndOf 20 = .ok (.iaload, 1) := by decide +kernel
theorem dX10_farEndOf_21 : decode cX10_farEndOf 21 = .ok (.iload_n 1, 1) := by decide +kernel
theorem dX10_farEndOf_22 : decode cX10_farEndOf 22 = .ok (.if_icmp .ne 5, 3) := by decide +kernel
theorem dX10_farEndOf_25 : decode cX10_farEndOf 25 = .ok (.iload_n 2, 1) := by decide +kernel
theorem dX10_farEndOf_26 : decode cX10_farEndOf 26 = .ok (.ireturn, 1) := by decide +kernel
theorem dX10_farEndOf_27 : decode cX10_farEndOf 27 = .ok (.iinc 2 1, 3) := by decide +kernel
theorem dX10_farEndOf_30 : decode cX10_farEndOf 30 = .ok (.goto (-28), 3) := by decide +kernel
theorem dX10_farEndOf_33 : decode cX10_farEndOf 33 = .ok (.iconst (-1), 1) := by decide +kernel
theorem dX10_farEndOf_34 : decode cX10_farEndOf 34 = .ok (.ireturn, 1) := by decide +kernel
theorem dX10_part_0 : decode cX10_part 0 = .ok (.iload_n 0, 1) := by decide +kernel
theorem dX10_part_1 : decode cX10_part 1 = .ok (.iconst 3, 1) := by decide +kernel
theorem dX10_part_2 : decode cX10_part 2 = .ok (.iload_n 1, 1) := by decide +kernel
theorem dX10_part_3 : decode cX10_part 3 = .ok (.imul, 1) := by decide +kernel
theorem dX10_part_4 : decode cX10_part 4 = .ok (.ishr, 1) := by decide +kernel
theorem dX10_part_5 : decode cX10_part 5 = .ok (.bipush 7, 2) := by decide +kernel
theorem dX10_part_7 : decode cX10_part 7 = .ok (.iand, 1) := by decide +kernel
theorem dX10_part_8 : decode cX10_part 8 = .ok (.ireturn, 1) := by decide +kernel
theorem dX10_withPart_0 : decode cX10_withPart 0 = .ok (.iload_n 0, 1) := by decide +kernel
theorem dX10_withPart_1 : decode cX10_withPart 1 = .ok (.bipush 7, 2) := by decide +kernel
theorem dX10_withPart_3 : decode cX10_withPart 3 = .ok (.iconst 3, 1) := by decide +kernel
theorem dX10_withPart_4 : decode cX10_withPart 4 = .ok (.iload_n 1, 1) := by decide +kernel
theorem dX10_withPart_5 : decode cX10_withPart 5 = .ok (.imul, 1) := by decide +kernel
theorem dX10_withPart_6 : decode cX10_withPart 6 = .ok (.ishl, 1) := by decide +kernel
theorem dX10_withPart_7 : decode cX10_withPart 7 = .ok (.iconst (-1), 1) := by decide +kernel
theorem dX10_withPart_8 : decode cX10_withPart 8 = .ok (.ixor, 1) := by decide +kernel
theorem dX10_withPart_9 : decode cX10_withPart 9 = .ok (.iand, 1) := by decide +kernel
theorem dX10_withPart_10 : decode cX10_withPart 10 = .ok (.iload_n 2, 1) := by decide +kernel
theorem dX10_withPart_11 : decode cX10_withPart 11 = .ok (.iconst 3, 1) := by decide +kernel
theorem dX10_withPart_12 : decode cX10_withPart 12 = .ok (.iload_n 1, 1) := by decide +kernel
theorem dX10_withPart_13 : decode cX10_withPart 13 = .ok (.imul, 1) := by decide +kernel
theorem dX10_withPart_14 : decode cX10_withPart 14 = .ok (.ishl, 1) := by decide +kernel
theorem dX10_withPart_15 : decode cX10_withPart 15 = .ok (.ior, 1) := by decide +kernel
theorem dX10_withPart_16 : decode cX10_withPart 16 = .ok (.ireturn, 1) := by decide +kernel
theorem dX10_pairBit_0 : decode cX10_pairBit 0 = .ok (.iconst 1, 1) := by decide +kernel
theorem dX10_pairBit_1 : decode cX10_pairBit 1 = .ok (.iconst 5, 1) := by decide +kernel
theorem dX10_pairBit_2 : decode cX10_pairBit 2 = .ok (.iload_n 0, 1) := by decide +kernel
theorem dX10_pairBit_3 : decode cX10_pairBit 3 = .ok (.iload_n 1, 1) := by decide +kernel
theorem dX10_pairBit_4 : decode cX10_pairBit 4 = .ok (.invokestatic 285, 3) := by decide +kernel
theorem dX10_pairBit_7 : decode cX10_pairBit 7 = .ok (.imul, 1) := by decide +kernel
theorem dX10_pairBit_8 : decode cX10_pairBit 8 = .ok (.iload_n 0, 1) := by decide +kernel
theorem dX10_pairBit_9 : decode cX10_pairBit 9 = .ok (.iload_n 1, 1) := by decide +kernel
theorem dX10_pairBit_10 : decode cX10_pairBit 10 = .ok (.invokestatic 290, 3) := by decide +kernel
theorem dX10_pairBit_13 : decode cX10_pairBit 13 = .ok (.iadd, 1) := by decide +kernel
theorem dX10_pairBit_14 : decode cX10_pairBit 14 = .ok (.ishl, 1) := by decide +kernel
theorem dX10_pairBit_15 : decode cX10_pairBit 15 = .ok (.ireturn, 1) := by decide +kernel
theorem dX10_factorial_0 : decode cX10_factorial 0 = .ok (.iload_n 0, 1) := by decide +kernel
theorem dX10_factorial_1 : decode cX10_factorial 1 = .ok (.ifCond .lt 19, 3) := by decide +kernel
theorem dX10_factorial_4 : decode cX10_factorial 4 = .ok (.iload_n 0, 1) := by decide +kernel
theorem dX10_factorial_5 : decode cX10_factorial 5 = .ok (.getstatic 293, 3) := by decide +kernel
theorem dX10_factorial_8 : decode cX10_factorial 8 = .ok (.arraylength, 1) := by decide +kernel
theorem dX10_factorial_9 : decode cX10_factorial 9 = .ok (.if_icmp .ge 11, 3) := by decide +kernel
theorem dX10_factorial_12 : decode cX10_factorial 12 = .ok (.getstatic 293, 3) := by decide +kernel
theorem dX10_factorial_15 : decode cX10_factorial 15 = .ok (.iload_n 0, 1) := by decide +kernel
theorem dX10_factorial_16 : decode cX10_factorial 16 = .ok (.iaload, 1) := by decide +kernel
theorem dX10_factorial_17 : decode cX10_factorial 17 = .ok (.goto 4, 3) := by decide +kernel
theorem dX10_factorial_20 : decode cX10_factorial 20 = .ok (.iconst 0, 1) := by decide +kernel
theorem dX10_factorial_21 : decode cX10_factorial 21 = .ok (.ireturn, 1) := by decide +kernel
theorem dX10_passing_0 : decode cX10_passing 0 = .ok (.iconst 0, 1) := by decide +kernel
theorem dX10_passing_1 : decode cX10_passing 1 = .ok (.istore_n 2, 1) := by decide +kernel
theorem dX10_passing_2 : decode cX10_passing 2 = .ok (.iconst 0, 1) := by decide +kernel
theorem dX10_passing_3 : decode cX10_passing 3 = .ok (.istore_n 3, 1) := by decide +kernel
theorem dX10_passing_4 : decode cX10_passing 4 = .ok (.iload_n 3, 1) := by decide +kernel
theorem dX10_passing_5 : decode cX10_passing 5 = .ok (.iconst 5, 1) := by decide +kernel
theorem dX10_passing_6 : decode cX10_passing 6 = .ok (.if_icmp .ge 57, 3) := by decide +kernel
theorem dX10_passing_9 : decode cX10_passing 9 = .ok (.iload_n 0, 1) := by decide +kernel
theorem dX10_passing_10 : decode cX10_passing 10 = .ok (.iload_n 3, 1) := by decide +kernel
theorem dX10_passing_11 : decode cX10_passing 11 = .ok (.invokestatic 182, 3) := by decide +kernel
theorem dX10_passing_14 : decode cX10_passing 14 = .ok (.istore 4, 2) := by decide +kernel
theorem dX10_passing_16 : decode cX10_passing 16 = .ok (.iload 4, 2) := by decide +kernel
theorem dX10_passing_18 : decode cX10_passing 18 = .ok (.ifCond .eq 21, 3) := by decide +kernel
theorem dX10_passing_21 : decode cX10_passing 21 = .ok (.iload 4, 2) := by decide +kernel
theorem dX10_passing_23 : decode cX10_passing 23 = .ok (.iconst 2, 1) := by decide +kernel
theorem dX10_passing_24 : decode cX10_passing 24 = .ok (.if_icmp .eq 15, 3) := by decide +kernel
theorem dX10_passing_27 : decode cX10_passing 27 = .ok (.iload 4, 2) := by decide +kernel
theorem dX10_passing_29 : decode cX10_passing 29 = .ok (.iconst 3, 1) := by decide +kernel
theorem dX10_passing_30 : decode cX10_passing 30 = .ok (.if_icmp .ne 13, 3) := by decide +kernel
theorem dX10_passing_33 : decode cX10_passing 33 = .ok (.iload_n 1, 1) := by decide +kernel
theorem dX10_passing_34 : decode cX10_passing 34 = .ok (.iconst 1, 1) := by decide +kernel
theorem dX10_passing_35 : decode cX10_passing 35 = .ok (.iand, 1) := by decide +kernel
theorem dX10_passing_36 : decode cX10_passing 36 = .ok (.ifCond .ne 7, 3) := by decide +kernel
theorem dX10_passing_39 : decode cX10_passing 39 = .ok (.iconst 1, 1) := by decide +kernel
theorem dX10_passing_40 : decode cX10_passing 40 = .ok (.goto 4, 3) := by decide +kernel
theorem dX10_passing_43 : decode cX10_passing 43 = .ok (.iconst 0, 1) := by decide +kernel
theorem dX10_passing_44 : decode cX10_passing 44 = .ok (.istore 5, 2) := by decide +kernel
theorem dX10_passing_46 : decode cX10_passing 46 = .ok (.iload 5, 2) := by decide +kernel
theorem dX10_passing_48 : decode cX10_passing 48 = .ok (.ifCond .eq 9, 3) := by decide +kernel
theorem dX10_passing_51 : decode cX10_passing 51 = .ok (.iload_n 2, 1) := by decide +kernel
theorem dX10_passing_52 : decode cX10_passing 52 = .ok (.iconst 1, 1) := by decide +kernel
theorem dX10_passing_53 : decode cX10_passing 53 = .ok (.iload_n 3, 1) := by decide +kernel
theorem dX10_passing_54 : decode cX10_passing 54 = .ok (.ishl, 1) := by decide +kernel
theorem dX10_passing_55 : decode cX10_passing 55 = .ok (.ior, 1) := by decide +kernel
theorem dX10_passing_56 : decode cX10_passing 56 = .ok (.istore_n 2, 1) := by decide +kernel
theorem dX10_passing_57 : decode cX10_passing 57 = .ok (.iinc 3 1, 3) := by decide +kernel
theorem dX10_passing_60 : decode cX10_passing 60 = .ok (.goto (-56), 3) := by decide +kernel
theorem dX10_passing_63 : decode cX10_passing 63 = .ok (.iload_n 2, 1) := by decide +kernel
theorem dX10_passing_64 : decode cX10_passing 64 = .ok (.ireturn, 1) := by decide +kernel
theorem dX10_joinAll_0 : decode cX10_joinAll 0 = .ok (.aload_n 0, 1) := by decide +kernel
theorem dX10_joinAll_1 : decode cX10_joinAll 1 = .ok (.getfield 62, 3) := by decide +kernel
theorem dX10_joinAll_4 : decode cX10_joinAll 4 = .ok (.iload_n 1, 1) := by decide +kernel
theorem dX10_joinAll_5 : decode cX10_joinAll 5 = .ok (.aload_n 0, 1) := by decide +kernel
theorem dX10_joinAll_6 : decode cX10_joinAll 6 = .ok (.getfield 23, 3) := by decide +kernel
theorem dX10_joinAll_9 : decode cX10_joinAll 9 = .ok (.getfield 154, 3) := by decide +kernel
theorem dX10_joinAll_12 : decode cX10_joinAll 12 = .ok (.aload_n 0, 1) := by decide +kernel
theorem dX10_joinAll_13 : decode cX10_joinAll 13 = .ok (.getfield 23, 3) := by decide +kernel
theorem dX10_joinAll_16 : decode cX10_joinAll 16 = .ok (.getfield 192, 3) := by decide +kernel
theorem dX10_joinAll_19 : decode cX10_joinAll 19 = .ok (.aload_n 0, 1) := by decide +kernel
theorem dX10_joinAll_20 : decode cX10_joinAll 20 = .ok (.getfield 23, 3) := by decide +kernel
theorem dX10_joinAll_23 : decode cX10_joinAll 23 = .ok (.getfield 195, 3) := by decide +kernel
theorem dX10_joinAll_26 : decode cX10_joinAll 26 = .ok (.invokevirtual 296, 3) := by decide +kernel
theorem dX10_joinAll_29 : decode cX10_joinAll 29 = .ok (.aload_n 0, 1) := by decide +kernel
theorem dX10_joinAll_30 : decode cX10_joinAll 30 = .ok (.getfield 62, 3) := by decide +kernel
theorem dX10_joinAll_33 : decode cX10_joinAll 33 = .ok (.aload_n 0, 1) := by decide +kernel
theorem dX10_joinAll_34 : decode cX10_joinAll 34 = .ok (.getfield 16, 3) := by decide +kernel
theorem dX10_joinAll_37 : decode cX10_joinAll 37 = .ok (.aload_n 0, 1) := by decide +kernel
theorem dX10_joinAll_38 : decode cX10_joinAll 38 = .ok (.getfield 108, 3) := by decide +kernel
theorem dX10_joinAll_41 : decode cX10_joinAll 41 = .ok (.iload_n 1, 1) := by decide +kernel
theorem dX10_joinAll_42 : decode cX10_joinAll 42 = .ok (.aload_n 0, 1) := by decide +kernel
theorem dX10_joinAll_43 : decode cX10_joinAll 43 = .ok (.getfield 23, 3) := by decide +kernel
theorem dX10_joinAll_46 : decode cX10_joinAll 46 = .ok (.getfield 145, 3) := by decide +kernel
theorem dX10_joinAll_49 : decode cX10_joinAll 49 = .ok (.invokestatic 189, 3) := by decide +kernel
theorem dX10_joinAll_52 : decode cX10_joinAll 52 = .ok (.invokevirtual 300, 3) := by decide +kernel
theorem dX10_joinAll_55 : decode cX10_joinAll 55 = .ok (.return_, 1) := by decide +kernel
theorem dX10_ringsBy_0 : decode cX10_ringsBy 0 = .ok (.aload_n 0, 1) := by decide +kernel
theorem dX10_ringsBy_1 : decode cX10_ringsBy 1 = .ok (.iload_n 1, 1) := by decide +kernel
theorem dX10_ringsBy_2 : decode cX10_ringsBy 2 = .ok (.invokevirtual 204, 3) := by decide +kernel
theorem dX10_ringsBy_5 : decode cX10_ringsBy 5 = .ok (.aload_n 0, 1) := by decide +kernel
theorem dX10_ringsBy_6 : decode cX10_ringsBy 6 = .ok (.getfield 62, 3) := by decide +kernel
theorem dX10_ringsBy_9 : decode cX10_ringsBy 9 = .ok (.aload_n 0, 1) := by decide +kernel
theorem dX10_ringsBy_10 : decode cX10_ringsBy 10 = .ok (.getfield 23, 3) := by decide +kernel
theorem dX10_ringsBy_13 : decode cX10_ringsBy 13 = .ok (.getfield 142, 3) := by decide +kernel
theorem dX10_ringsBy_16 : decode cX10_ringsBy 16 = .ok (.iload_n 2, 1) := by decide +kernel
theorem dX10_ringsBy_17 : decode cX10_ringsBy 17 = .ok (.invokestatic 208, 3) := by decide +kernel
theorem dX10_ringsBy_20 : decode cX10_ringsBy 20 = .ok (.aload_n 0, 1) := by decide +kernel
theorem dX10_ringsBy_21 : decode cX10_ringsBy 21 = .ok (.getfield 23, 3) := by decide +kernel
theorem dX10_ringsBy_24 : decode cX10_ringsBy 24 = .ok (.getfield 142, 3) := by decide +kernel
theorem dX10_ringsBy_27 : decode cX10_ringsBy 27 = .ok (.iload_n 3, 1) := by decide +kernel
theorem dX10_ringsBy_28 : decode cX10_ringsBy 28 = .ok (.invokestatic 208, 3) := by decide +kernel
theorem dX10_ringsBy_31 : decode cX10_ringsBy 31 = .ok (.invokevirtual 304, 3) := by decide +kernel
theorem dX10_ringsBy_34 : decode cX10_ringsBy 34 = .ok (.ireturn, 1) := by decide +kernel
theorem dX10_kindsWithBroken_0 : decode cX10_kindsWithBroken 0 = .ok (.aload_n 0, 1) := by decide +kernel
theorem dX10_kindsWithBroken_1 : decode cX10_kindsWithBroken 1 = .ok (.getfield 23, 3) := by decide +kernel
theorem dX10_kindsWithBroken_4 : decode cX10_kindsWithBroken 4 = .ok (.getfield 181, 3) := by decide +kernel
theorem dX10_kindsWithBroken_7 : decode cX10_kindsWithBroken 7 = .ok (.istore_n 2, 1) := by decide +kernel
theorem dX10_kindsWithBroken_8 : decode cX10_kindsWithBroken 8 = .ok (.iconst 0, 1) := by decide +kernel
theorem dX10_kindsWithBroken_9 : decode cX10_kindsWithBroken 9 = .ok (.istore_n 3, 1) := by decide +kernel
theorem dX10_kindsWithBroken_10 : decode cX10_kindsWithBroken 10 = .ok (.iload_n 3, 1) := by decide +kernel
theorem dX10_kindsWithBroken_11 : decode cX10_kindsWithBroken 11 = .ok (.aload_n 0, 1) := by decide +kernel
theorem dX10_kindsWithBroken_12 : decode cX10_kindsWithBroken 12 = .ok (.getfield 108, 3) := by decide +kernel
theorem dX10_kindsWithBroken_15 : decode cX10_kindsWithBroken 15 = .ok (.if_icmp .ge 24, 3) := by decide +kernel
theorem dX10_kindsWithBroken_18 : decode cX10_kindsWithBroken 18 = .ok (.iload_n 1, 1) := by decide +kernel
theorem dX10_kindsWithBroken_19 : decode cX10_kindsWithBroken 19 = .ok (.iload_n 3, 1) := by decide +kernel
theorem dX10_kindsWithBroken_20 : decode cX10_kindsWithBroken 20 = .ok (.ishr, 1) := by decide +kernel
theorem dX10_kindsWithBroken_21 : decode cX10_kindsWithBroken 21 = .ok (.iconst 1, 1) := by decide +kernel
theorem dX10_kindsWithBroken_22 : decode cX10_kindsWithBroken 22 = .ok (.iand, 1) := by decide +kernel
theorem dX10_kindsWithBroken_23 : decode cX10_kindsWithBroken 23 = .ok (.ifCond .eq 10, 3) := by decide +kernel
theorem dX10_kindsWithBroken_26 : decode cX10_kindsWithBroken 26 = .ok (.iload_n 2, 1) := by decide +kernel
theorem dX10_kindsWithBroken_27 : decode cX10_kindsWithBroken 27 = .ok (.iload_n 3, 1) := by decide +kernel
theorem dX10_kindsWithBroken_28 : decode cX10_kindsWithBroken 28 = .ok (.iconst 1, 1) := by decide +kernel
theorem dX10_kindsWithBroken_29 : decode cX10_kindsWithBroken 29 = .ok (.invokestatic 248, 3) := by decide +kernel
theorem dX10_kindsWithBroken_32 : decode cX10_kindsWithBroken 32 = .ok (.istore_n 2, 1) := by decide +kernel
theorem dX10_kindsWithBroken_33 : decode cX10_kindsWithBroken 33 = .ok (.iinc 3 1, 3) := by decide +kernel
theorem dX10_kindsWithBroken_36 : decode cX10_kindsWithBroken 36 = .ok (.goto (-26), 3) := by decide +kernel
theorem dX10_kindsWithBroken_39 : decode cX10_kindsWithBroken 39 = .ok (.iload_n 2, 1) := by decide +kernel
theorem dX10_kindsWithBroken_40 : decode cX10_kindsWithBroken 40 = .ok (.ireturn, 1) := by decide +kernel
theorem dX10_goodWires_0 : decode cX10_goodWires 0 = .ok (.aload_n 0, 1) := by decide +kernel
theorem dX10_goodWires_1 : decode cX10_goodWires 1 = .ok (.aload_n 0, 1) := by decide +kernel
theorem dX10_goodWires_2 : decode cX10_goodWires 2 = .ok (.getfield 23, 3) := by decide +kernel
theorem dX10_goodWires_5 : decode cX10_goodWires 5 = .ok (.getfield 181, 3) := by decide +kernel
theorem dX10_goodWires_8 : decode cX10_goodWires 8 = .ok (.invokevirtual 204, 3) := by decide +kernel
theorem dX10_goodWires_11 : decode cX10_goodWires 11 = .ok (.iconst 0, 1) := by decide +kernel
theorem dX10_goodWires_12 : decode cX10_goodWires 12 = .ok (.istore_n 1, 1) := by decide +kernel
theorem dX10_goodWires_13 : decode cX10_goodWires 13 = .ok (.iconst 0, 1) := by decide +kernel
theorem dX10_goodWires_14 : decode cX10_goodWires 14 = .ok (.istore_n 2, 1) := by decide +kernel
theorem dX10_goodWires_15 : decode cX10_goodWires 15 = .ok (.iload_n 2, 1) := by decide +kernel
theorem dX10_goodWires_16 : decode cX10_goodWires 16 = .ok (.aload_n 0, 1) := by decide +kernel
theorem dX10_goodWires_17 : decode cX10_goodWires 17 = .ok (.getfield 108, 3) := by decide +kernel
theorem dX10_goodWires_20 : decode cX10_goodWires 20 = .ok (.if_icmp .ge 41, 3) := by decide +kernel
theorem dX10_goodWires_23 : decode cX10_goodWires 23 = .ok (.iload_n 2, 1) := by decide +kernel
theorem dX10_goodWires_24 : decode cX10_goodWires 24 = .ok (.iconst 5, 1) := by decide +kernel
theorem dX10_goodWires_25 : decode cX10_goodWires 25 = .ok (.if_icmp .ge 36, 3) := by decide +kernel
theorem dX10_goodWires_28 : decode cX10_goodWires 28 = .ok (.aload_n 0, 1) := by decide +kernel
theorem dX10_goodWires_29 : decode cX10_goodWires 29 = .ok (.getfield 16, 3) := by decide +kernel
theorem dX10_goodWires_32 : decode cX10_goodWires 32 = .ok (.iload_n 2, 1) := by decide +kernel
theorem dX10_goodWires_33 : decode cX10_goodWires 33 = .ok (.iaload, 1) := by decide +kernel
theorem dX10_goodWires_34 : decode cX10_goodWires 34 = .ok (.istore_n 3, 1) := by decide +kernel
theorem dX10_goodWires_35 : decode cX10_goodWires 35 = .ok (.aload_n 0, 1) := by decide +kernel
theorem dX10_goodWires_36 : decode cX10_goodWires 36 = .ok (.getfield 62, 3) := by decide +kernel
theorem dX10_goodWires_39 : decode cX10_goodWires 39 = .ok (.iload_n 3, 1) := by decide +kernel
theorem dX10_goodWires_40 : decode cX10_goodWires 40 = .ok (.iconst 5, 1) := by decide +kernel
theorem dX10_goodWires_41 : decode cX10_goodWires 41 = .ok (.iload_n 2, 1) := by decide +kernel
theorem dX10_goodWires_42 : decode cX10_goodWires 42 = .ok (.iadd, 1) := by decide +kernel
theorem dX10_goodWires_43 : decode cX10_goodWires 43 = .ok (.invokevirtual 304, 3) := by decide +kernel
theorem dX10_goodWires_46 : decode cX10_goodWires 46 = .ok (.ifCond .eq 9, 3) := by decide +kernel
theorem dX10_goodWires_49 : decode cX10_goodWires 49 = .ok (.iload_n 1, 1) := by decide +kernel
theorem dX10_goodWires_50 : decode cX10_goodWires 50 = .ok (.iconst 1, 1) := by decide +kernel
theorem dX10_goodWires_51 : decode cX10_goodWires 51 = .ok (.iload_n 3, 1) := by decide +kernel
theorem dX10_goodWires_52 : decode cX10_goodWires 52 = .ok (.ishl, 1) := by decide +kernel
theorem dX10_goodWires_53 : decode cX10_goodWires 53 = .ok (.ior, 1) := by decide +kernel
theorem dX10_goodWires_54 : decode cX10_goodWires 54 = .ok (.istore_n 1, 1) := by decide +kernel
theorem dX10_goodWires_55 : decode cX10_goodWires 55 = .ok (.iinc 2 1, 3) := by decide +kernel
theorem dX10_goodWires_58 : decode cX10_goodWires 58 = .ok (.goto (-43), 3) := by decide +kernel
theorem dX10_goodWires_61 : decode cX10_goodWires 61 = .ok (.iload_n 1, 1) := by decide +kernel
theorem dX10_goodWires_62 : decode cX10_goodWires 62 = .ok (.ireturn, 1) := by decide +kernel
theorem dX10_whyNoTime_0 : decode cX10_whyNoTime 0 = .ok (.aload_n 0, 1) := by decide +kernel
theorem dX10_whyNoTime_1 : decode cX10_whyNoTime 1 = .ok (.getfield 108, 3) := by decide +kernel
theorem dX10_whyNoTime_4 : decode cX10_whyNoTime 4 = .ok (.ifCond .ne 6, 3) := by decide +kernel
theorem dX10_whyNoTime_7 : decode cX10_whyNoTime 7 = .ok (.ldc 231, 2) := by decide +kernel
theorem dX10_whyNoTime_9 : decode cX10_whyNoTime 9 = .ok (.ireturn, 1) := by decide +kernel
theorem dX10_whyNoTime_10 : decode cX10_whyNoTime 10 = .ok (.aload_n 0, 1) := by decide +kernel
theorem dX10_whyNoTime_11 : decode cX10_whyNoTime 11 = .ok (.getfield 23, 3) := by decide +kernel
theorem dX10_whyNoTime_14 : decode cX10_whyNoTime 14 = .ok (.getfield 145, 3) := by decide +kernel
theorem dX10_whyNoTime_17 : decode cX10_whyNoTime 17 = .ok (.sipush 9000, 3) := by decide +kernel
theorem dX10_whyNoTime_20 : decode cX10_whyNoTime 20 = .ok (.if_icmp .le 8, 3) := by decide +kernel
theorem dX10_whyNoTime_23 : decode cX10_whyNoTime 23 = .ok (.ldc 98, 2) := by decide +kernel
theorem dX10_whyNoTime_25 : decode cX10_whyNoTime 25 = .ok (.goto 4, 3) := by decide +kernel
theorem dX10_whyNoTime_28 : decode cX10_whyNoTime 28 = .ok (.iconst 0, 1) := by decide +kernel
theorem dX10_whyNoTime_29 : decode cX10_whyNoTime 29 = .ok (.ireturn, 1) := by decide +kernel
theorem dX10_driftOneHour_0 : decode cX10_driftOneHour 0 = .ok (.aload_n 0, 1) := by decide +kernel
theorem dX10_driftOneHour_1 : decode cX10_driftOneHour 1 = .ok (.getfield 37, 3) := by decide +kernel
theorem dX10_driftOneHour_4 : decode cX10_driftOneHour 4 = .ok (.iconst 4, 1) := by decide +kernel
theorem dX10_driftOneHour_5 : decode cX10_driftOneHour 5 = .ok (.invokevirtual 307, 3) := by decide +kernel
theorem dX10_driftOneHour_8 : decode cX10_driftOneHour 8 = .ok (.istore_n 1, 1) := by decide +kernel
theorem dX10_driftOneHour_9 : decode cX10_driftOneHour 9 = .ok (.aload_n 0, 1) := by decide +kernel
theorem dX10_driftOneHour_10 : decode cX10_driftOneHour 10 = .ok (.getfield 37, 3) := by decide +kernel
theorem dX10_driftOneHour_13 : decode cX10_driftOneHour 13 = .ok (.aload_n 0, 1) := by decide +kernel
theorem dX10_driftOneHour_14 : decode cX10_driftOneHour 14 = .ok (.getfield 108, 3) := by decide +kernel
theorem dX10_driftOneHour_17 : decode cX10_driftOneHour 17 = .ok (.invokevirtual 307, 3) := by decide +kernel
theorem dX10_driftOneHour_20 : decode cX10_driftOneHour 20 = .ok (.istore_n 2, 1) := by decide +kernel
theorem dX10_driftOneHour_21 : decode cX10_driftOneHour 21 = .ok (.iload_n 1, 1) := by decide +kernel
theorem dX10_driftOneHour_22 : decode cX10_driftOneHour 22 = .ok (.ifCond .ne 22, 3) := by decide +kernel
theorem dX10_driftOneHour_25 : decode cX10_driftOneHour 25 = .ok (.aload_n 0, 1) := by decide +kernel
theorem dX10_driftOneHour_26 : decode cX10_driftOneHour 26 = .ok (.getfield 23, 3) := by decide +kernel
theorem dX10_driftOneHour_29 : decode cX10_driftOneHour 29 = .ok (.iload_n 2, 1) := by decide +kernel
theorem dX10_driftOneHour_30 : decode cX10_driftOneHour 30 = .ok (.aload_n 0, 1) := by decide +kernel
theorem dX10_driftOneHour_31 : decode cX10_driftOneHour 31 = .ok (.getfield 37, 3) := by decide +kernel
theorem dX10_driftOneHour_34 : decode cX10_driftOneHour 34 = .ok (.iconst 4, 1) := by decide +kernel
theorem dX10_driftOneHour_35 : decode cX10_driftOneHour 35 = .ok (.invokevirtual 307, 3) := by decide +kernel
theorem dX10_driftOneHour_38 : decode cX10_driftOneHour 38 = .ok (.invokevirtual 236, 3) := by decide +kernel
theorem dX10_driftOneHour_41 : decode cX10_driftOneHour 41 = .ok (.goto 74, 3) := by decide +kernel
theorem dX10_driftOneHour_44 : decode cX10_driftOneHour 44 = .ok (.iload_n 1, 1) := by decide +kernel
theorem dX10_driftOneHour_45 : decode cX10_driftOneHour 45 = .ok (.iconst 1, 1) := by decide +kernel
theorem dX10_driftOneHour_46 : decode cX10_driftOneHour 46 = .ok (.if_icmp .ne 28, 3) := by decide +kernel
theorem dX10_driftOneHour_49 : decode cX10_driftOneHour 49 = .ok (.aload_n 0, 1) := by decide +kernel
theorem dX10_driftOneHour_50 : decode cX10_driftOneHour 50 = .ok (.getfield 37, 3) := by decide +kernel
theorem dX10_driftOneHour_53 : decode cX10_driftOneHour 53 = .ok (.aload_n 0, 1) := by decide +kernel
theorem dX10_driftOneHour_54 : decode cX10_driftOneHour 54 = .ok (.getfield 108, 3) := by decide +kernel
theorem dX10_driftOneHour_57 : decode cX10_driftOneHour 57 = .ok (.invokevirtual 307, 3) := by decide +kernel
theorem dX10_driftOneHour_60 : decode cX10_driftOneHour 60 = .ok (.iload_n 2, 1) := by decide +kernel
theorem dX10_driftOneHour_61 : decode cX10_driftOneHour 61 = .ok (.if_icmp .eq 54, 3) := by decide +kernel
theorem dX10_driftOneHour_64 : decode cX10_driftOneHour 64 = .ok (.aload_n 0, 1) := by decide +kernel
theorem dX10_driftOneHour_65 : decode cX10_driftOneHour 65 = .ok (.getfield 23, 3) := by decide +kernel
theorem dX10_driftOneHour_68 : decode cX10_driftOneHour 68 = .ok (.invokevirtual 245, 3) := by decide +kernel
theorem dX10_driftOneHour_71 : decode cX10_driftOneHour 71 = .ok (.goto 44, 3) := by decide +kernel
theorem dX10_driftOneHour_74 : decode cX10_driftOneHour 74 = .ok (.iload_n 1, 1) := by decide +kernel
theorem dX10_driftOneHour_75 : decode cX10_driftOneHour 75 = .ok (.iconst 2, 1) := by decide +kernel
theorem dX10_driftOneHour_76 : decode cX10_driftOneHour 76 = .ok (.if_icmp .ne 13, 3) := by decide +kernel
theorem dX10_driftOneHour_79 : decode cX10_driftOneHour 79 = .ok (.aload_n 0, 1) := by decide +kernel
theorem dX10_driftOneHour_80 : decode cX10_driftOneHour 80 = .ok (.getfield 23, 3) := by decide +kernel
theorem dX10_driftOneHour_83 : decode cX10_driftOneHour 83 = .ok (.invokevirtual 242, 3) := by decide +kernel
theorem dX10_driftOneHour_86 : decode cX10_driftOneHour 86 = .ok (.goto 29, 3) := by decide +kernel
theorem dX10_driftOneHour_89 : decode cX10_driftOneHour 89 = .ok (.aload_n 0, 1) := by decide +kernel
theorem dX10_driftOneHour_90 : decode cX10_driftOneHour 90 = .ok (.getfield 23, 3) := by decide +kernel
theorem dX10_driftOneHour_93 : decode cX10_driftOneHour 93 = .ok (.aload_n 0, 1) := by decide +kernel
theorem dX10_driftOneHour_94 : decode cX10_driftOneHour 94 = .ok (.getfield 23, 3) := by decide +kernel
theorem dX10_driftOneHour_97 : decode cX10_driftOneHour 97 = .ok (.getfield 181, 3) := by decide +kernel
theorem dX10_driftOneHour_100 : decode cX10_driftOneHour 100 = .ok (.iload_n 2, 1) := by decide +kernel
theorem dX10_driftOneHour_101 : decode cX10_driftOneHour 101 = .ok (.aload_n 0, 1) := by decide +kernel
theorem dX10_driftOneHour_102 : decode cX10_driftOneHour 102 = .ok (.getfield 37, 3) := by decide +kernel
theorem dX10_driftOneHour_105 : decode cX10_driftOneHour 105 = .ok (.iconst 4, 1) := by decide +kernel
theorem dX10_driftOneHour_106 : decode cX10_driftOneHour 106 = .ok (.invokevirtual 307, 3) := by decide +kernel
theorem dX10_driftOneHour_109 : decode cX10_driftOneHour 109 = .ok (.invokestatic 248, 3) := by decide +kernel
theorem dX10_driftOneHour_112 : decode cX10_driftOneHour 112 = .ok (.putfield 181, 3) := by decide +kernel
theorem dX10_driftOneHour_115 : decode cX10_driftOneHour 115 = .ok (.aload_n 0, 1) := by decide +kernel
theorem dX10_driftOneHour_116 : decode cX10_driftOneHour 116 = .ok (.getfield 23, 3) := by decide +kernel
theorem dX10_driftOneHour_119 : decode cX10_driftOneHour 119 = .ok (.dup, 1) := by decide +kernel
theorem dX10_driftOneHour_120 : decode cX10_driftOneHour 120 = .ok (.getfield 145, 3) := by decide +kernel
theorem dX10_driftOneHour_123 : decode cX10_driftOneHour 123 = .ok (.iconst 1, 1) := by decide +kernel
theorem dX10_driftOneHour_124 : decode cX10_driftOneHour 124 = .ok (.iadd, 1) := by decide +kernel
theorem dX10_driftOneHour_125 : decode cX10_driftOneHour 125 = .ok (.putfield 145, 3) := by decide +kernel
theorem dX10_driftOneHour_128 : decode cX10_driftOneHour 128 = .ok (.return_, 1) := by decide +kernel
theorem dX10_countOrders_0 : decode cX10_countOrders 0 = .ok (.aload_n 0, 1) := by decide +kernel
theorem dX10_countOrders_1 : decode cX10_countOrders 1 = .ok (.getfield 108, 3) := by decide +kernel
theorem dX10_countOrders_4 : decode cX10_countOrders 4 = .ok (.ifCond .ne 7, 3) := by decide +kernel
theorem dX10_countOrders_7 : decode cX10_countOrders 7 = .ok (.iconst 0, 1) := by decide +kernel
theorem dX10_countOrders_8 : decode cX10_countOrders 8 = .ok (.goto 10, 3) := by decide +kernel
theorem dX10_countOrders_11 : decode cX10_countOrders 11 = .ok (.aload_n 0, 1) := by decide +kernel
theorem dX10_countOrders_12 : decode cX10_countOrders 12 = .ok (.getfield 108, 3) := by decide +kernel
theorem dX10_countOrders_15 : decode cX10_countOrders 15 = .ok (.invokestatic 310, 3) := by decide +kernel
theorem dX10_countOrders_18 : decode cX10_countOrders 18 = .ok (.ireturn, 1) := by decide +kernel
theorem dX10_layAllSeen_0 : decode cX10_layAllSeen 0 = .ok (.iconst 0, 1) := by decide +kernel
theorem dX10_layAllSeen_1 : decode cX10_layAllSeen 1 = .ok (.istore_n 1, 1) := by decide +kernel
theorem dX10_layAllSeen_2 : decode cX10_layAllSeen 2 = .ok (.iload_n 1, 1) := by decide +kernel
theorem dX10_layAllSeen_3 : decode cX10_layAllSeen 3 = .ok (.aload_n 0, 1) := by decide +kernel
theorem dX10_layAllSeen_4 : decode cX10_layAllSeen 4 = .ok (.getfield 133, 3) := by decide +kernel
theorem dX10_layAllSeen_7 : decode cX10_layAllSeen 7 = .ok (.if_icmp .ge 38, 3) := by decide +kernel
theorem dX10_layAllSeen_10 : decode cX10_layAllSeen 10 = .ok (.iload_n 1, 1) := by decide +kernel
theorem dX10_layAllSeen_11 : decode cX10_layAllSeen 11 = .ok (.bipush 8, 2) := by decide +kernel
theorem dX10_layAllSeen_13 : decode cX10_layAllSeen 13 = .ok (.if_icmp .ge 32, 3) := by decide +kernel
theorem dX10_layAllSeen_16 : decode cX10_layAllSeen 16 = .ok (.aload_n 0, 1) := by decide +kernel
theorem dX10_layAllSeen_17 : decode cX10_layAllSeen 17 = .ok (.getfield 49, 3) := by decide +kernel
theorem dX10_layAllSeen_20 : decode cX10_layAllSeen 20 = .ok (.iload_n 1, 1) := by decide +kernel
theorem dX10_layAllSeen_21 : decode cX10_layAllSeen 21 = .ok (.aaload, 1) := by decide +kernel
theorem dX10_layAllSeen_22 : decode cX10_layAllSeen 22 = .ok (.aload_n 0, 1) := by decide +kernel
theorem dX10_layAllSeen_23 : decode cX10_layAllSeen 23 = .ok (.getfield 23, 3) := by decide +kernel
theorem dX10_layAllSeen_26 : decode cX10_layAllSeen 26 = .ok (.getfield 181, 3) := by decide +kernel
theorem dX10_layAllSeen_29 : decode cX10_layAllSeen 29 = .ok (.aload_n 0, 1) := by decide +kernel
theorem dX10_layAllSeen_30 : decode cX10_layAllSeen 30 = .ok (.getfield 23, 3) := by decide +kernel
theorem dX10_layAllSeen_33 : decode cX10_layAllSeen 33 = .ok (.getfield 154, 3) := by decide +kernel
theorem dX10_layAllSeen_36 : decode cX10_layAllSeen 36 = .ok (.invokevirtual 313, 3) := by decide +kernel
theorem dX10_layAllSeen_39 : decode cX10_layAllSeen 39 = .ok (.iinc 1 1, 3) := by decide +kernel
theorem dX10_layAllSeen_42 : decode cX10_layAllSeen 42 = .ok (.goto (-40), 3) := by decide +kernel
theorem dX10_layAllSeen_45 : decode cX10_layAllSeen 45 = .ok (.return_, 1) := by decide +kernel
theorem dX10_fitsAllSeen_0 : decode cX10_fitsAllSeen 0 = .ok (.iconst 0, 1) := by decide +kernel
theorem dX10_fitsAllSeen_1 : decode cX10_fitsAllSeen 1 = .ok (.istore_n 1, 1) := by decide +kernel
theorem dX10_fitsAllSeen_2 : decode cX10_fitsAllSeen 2 = .ok (.iload_n 1, 1) := by decide +kernel
theorem dX10_fitsAllSeen_3 : decode cX10_fitsAllSeen 3 = .ok (.aload_n 0, 1) := by decide +kernel
theorem dX10_fitsAllSeen_4 : decode cX10_fitsAllSeen 4 = .ok (.getfield 133, 3) := by decide +kernel
theorem dX10_fitsAllSeen_7 : decode cX10_fitsAllSeen 7 = .ok (.if_icmp .ge 40, 3) := by decide +kernel
theorem dX10_fitsAllSeen_10 : decode cX10_fitsAllSeen 10 = .ok (.iload_n 1, 1) := by decide +kernel
theorem dX10_fitsAllSeen_11 : decode cX10_fitsAllSeen 11 = .ok (.bipush 8, 2) := by decide +kernel
theorem dX10_fitsAllSeen_13 : decode cX10_fitsAllSeen 13 = .ok (.if_icmp .ge 34, 3) := by decide +kernel
theorem dX10_fitsAllSeen_16 : decode cX10_fitsAllSeen 16 = .ok (.aload_n 0, 1) := by decide +kernel
theorem dX10_fitsAllSeen_17 : decode cX10_fitsAllSeen 17 = .ok (.getfield 49, 3) := by decide +kernel
theorem dX10_fitsAllSeen_20 : decode cX10_fitsAllSeen 20 = .ok (.iload_n 1, 1) := by decide +kernel
theorem dX10_fitsAllSeen_21 : decode cX10_fitsAllSeen 21 = .ok (.aaload, 1) := by decide +kernel
theorem dX10_fitsAllSeen_22 : decode cX10_fitsAllSeen 22 = .ok (.aload_n 0, 1) := by decide +kernel
theorem dX10_fitsAllSeen_23 : decode cX10_fitsAllSeen 23 = .ok (.getfield 69, 3) := by decide +kernel
theorem dX10_fitsAllSeen_26 : decode cX10_fitsAllSeen 26 = .ok (.getfield 315, 3) := by decide +kernel
theorem dX10_fitsAllSeen_29 : decode cX10_fitsAllSeen 29 = .ok (.aload_n 0, 1) := by decide +kernel
theorem dX10_fitsAllSeen_30 : decode cX10_fitsAllSeen 30 = .ok (.getfield 108, 3) := by decide +kernel
theorem dX10_fitsAllSeen_33 : decode cX10_fitsAllSeen 33 = .ok (.invokevirtual 318, 3) := by decide +kernel
theorem dX10_fitsAllSeen_36 : decode cX10_fitsAllSeen 36 = .ok (.ifCond .ne 5, 3) := by decide +kernel
theorem dX10_fitsAllSeen_39 : decode cX10_fitsAllSeen 39 = .ok (.iconst 0, 1) := by decide +kernel
theorem dX10_fitsAllSeen_40 : decode cX10_fitsAllSeen 40 = .ok (.ireturn, 1) := by decide +kernel
theorem dX10_fitsAllSeen_41 : decode cX10_fitsAllSeen 41 = .ok (.iinc 1 1, 3) := by decide +kernel
theorem dX10_fitsAllSeen_44 : decode cX10_fitsAllSeen 44 = .ok (.goto (-42), 3) := by decide +kernel
theorem dX10_fitsAllSeen_47 : decode cX10_fitsAllSeen 47 = .ok (.iconst 1, 1) := by decide +kernel
theorem dX10_fitsAllSeen_48 : decode cX10_fitsAllSeen 48 = .ok (.ireturn, 1) := by decide +kernel
theorem dX10_guessOrders_0 : decode cX10_guessOrders 0 = .ok (.aload_n 0, 1) := by decide +kernel
theorem dX10_guessOrders_1 : decode cX10_guessOrders 1 = .ok (.getfield 76, 3) := by decide +kernel
theorem dX10_guessOrders_4 : decode cX10_guessOrders 4 = .ok (.invokevirtual 322, 3) := by decide +kernel
theorem dX10_guessOrders_7 : decode cX10_guessOrders 7 = .ok (.aload_n 0, 1) := by decide +kernel
theorem dX10_guessOrders_8 : decode cX10_guessOrders 8 = .ok (.invokevirtual 323, 3) := by decide +kernel
theorem dX10_guessOrders_11 : decode cX10_guessOrders 11 = .ok (.aload_n 0, 1) := by decide +kernel
theorem dX10_guessOrders_12 : decode cX10_guessOrders 12 = .ok (.getfield 69, 3) := by decide +kernel
theorem dX10_guessOrders_15 : decode cX10_guessOrders 15 = .ok (.invokevirtual 326, 3) := by decide +kernel
theorem dX10_guessOrders_18 : decode cX10_guessOrders 18 = .ok (.aload_n 0, 1) := by decide +kernel
theorem dX10_guessOrders_19 : decode cX10_guessOrders 19 = .ok (.invokevirtual 329, 3) := by decide +kernel
theorem dX10_guessOrders_22 : decode cX10_guessOrders 22 = .ok (.istore_n 1, 1) := by decide +kernel
theorem dX10_guessOrders_23 : decode cX10_guessOrders 23 = .ok (.iconst 0, 1) := by decide +kernel
theorem dX10_guessOrders_24 : decode cX10_guessOrders 24 = .ok (.istore_n 2, 1) := by decide +kernel
theorem dX10_guessOrders_25 : decode cX10_guessOrders 25 = .ok (.iload_n 2, 1) := by decide +kernel
theorem dX10_guessOrders_26 : decode cX10_guessOrders 26 = .ok (.iload_n 1, 1) := by decide +kernel
theorem dX10_guessOrders_27 : decode cX10_guessOrders 27 = .ok (.if_icmp .ge 45, 3) := by decide +kernel
theorem dX10_guessOrders_30 : decode cX10_guessOrders 30 = .ok (.aload_n 0, 1) := by decide +kernel
theorem dX10_guessOrders_31 : decode cX10_guessOrders 31 = .ok (.invokevirtual 332, 3) := by decide +kernel
theorem dX10_guessOrders_34 : decode cX10_guessOrders 34 = .ok (.ifCond .eq 21, 3) := by decide +kernel
theorem dX10_guessOrders_37 : decode cX10_guessOrders 37 = .ok (.aload_n 0, 1) := by decide +kernel
theorem dX10_guessOrders_38 : decode cX10_guessOrders 38 = .ok (.getfield 76, 3) := by decide +kernel
theorem dX10_guessOrders_41 : decode cX10_guessOrders 41 = .ok (.aload_n 0, 1) := by decide +kernel
theorem dX10_guessOrders_42 : decode cX10_guessOrders 42 = .ok (.getfield 69, 3) := by decide +kernel
theorem dX10_guessOrders_45 : decode cX10_guessOrders 45 = .ok (.getfield 315, 3) := by decide +kernel
theorem dX10_guessOrders_48 : decode cX10_guessOrders 48 = .ok (.aload_n 0, 1) := by decide +kernel
theorem dX10_guessOrders_49 : decode cX10_guessOrders 49 = .ok (.getfield 108, 3) := by decide +kernel
theorem dX10_guessOrders_52 : decode cX10_guessOrders 52 = .ok (.invokevirtual 336, 3) := by decide +kernel
theorem dX10_guessOrders_55 : decode cX10_guessOrders 55 = .ok (.aload_n 0, 1) := by decide +kernel
theorem dX10_guessOrders_56 : decode cX10_guessOrders 56 = .ok (.getfield 69, 3) := by decide +kernel
theorem dX10_guessOrders_59 : decode cX10_guessOrders 59 = .ok (.aload_n 0, 1) := by decide +kernel
theorem dX10_guessOrders_60 : decode cX10_guessOrders 60 = .ok (.getfield 108, 3) := by decide +kernel
theorem dX10_guessOrders_63 : decode cX10_guessOrders 63 = .ok (.invokevirtual 339, 3) := by decide +kernel
theorem dX10_guessOrders_66 : decode cX10_guessOrders 66 = .ok (.iinc 2 1, 3) := by decide +kernel
theorem dX10_guessOrders_69 : decode cX10_guessOrders 69 = .ok (.goto (-44), 3) := by decide +kernel
theorem dX10_guessOrders_72 : decode cX10_guessOrders 72 = .ok (.return_, 1) := by decide +kernel
theorem dX10_countCouldBe_0 : decode cX10_countCouldBe 0 = .ok (.aload_n 0, 1) := by decide +kernel
theorem dX10_countCouldBe_1 : decode cX10_countCouldBe 1 = .ok (.invokevirtual 342, 3) := by decide +kernel
theorem dX10_countCouldBe_4 : decode cX10_countCouldBe 4 = .ok (.aload_n 0, 1) := by decide +kernel
theorem dX10_countCouldBe_5 : decode cX10_countCouldBe 5 = .ok (.getfield 76, 3) := by decide +kernel
theorem dX10_countCouldBe_8 : decode cX10_countCouldBe 8 = .ok (.getfield 345, 3) := by decide +kernel
theorem dX10_countCouldBe_11 : decode cX10_countCouldBe 11 = .ok (.ireturn, 1) := by decide +kernel
theorem dX10_couldBeOf_0 : decode cX10_couldBeOf 0 = .ok (.aload_n 0, 1) := by decide +kernel
theorem dX10_couldBeOf_1 : decode cX10_couldBeOf 1 = .ok (.invokevirtual 342, 3) := by decide +kernel
theorem dX10_couldBeOf_4 : decode cX10_couldBeOf 4 = .ok (.aload_n 0, 1) := by decide +kernel
theorem dX10_couldBeOf_5 : decode cX10_couldBeOf 5 = .ok (.getfield 76, 3) := by decide +kernel
theorem dX10_couldBeOf_8 : decode cX10_couldBeOf 8 = .ok (.getfield 346, 3) := by decide +kernel
theorem dX10_couldBeOf_11 : decode cX10_couldBeOf 11 = .ok (.iload_n 1, 1) := by decide +kernel
theorem dX10_couldBeOf_12 : decode cX10_couldBeOf 12 = .ok (.iaload, 1) := by decide +kernel
theorem dX10_couldBeOf_13 : decode cX10_couldBeOf 13 = .ok (.ireturn, 1) := by decide +kernel
theorem dX10_firstCouldBeOf_0 : decode cX10_firstCouldBeOf 0 = .ok (.aload_n 0, 1) := by decide +kernel
theorem dX10_firstCouldBeOf_1 : decode cX10_firstCouldBeOf 1 = .ok (.invokevirtual 342, 3) := by decide +kernel
theorem dX10_firstCouldBeOf_4 : decode cX10_firstCouldBeOf 4 = .ok (.aload_n 0, 1) := by decide +kernel
theorem dX10_firstCouldBeOf_5 : decode cX10_firstCouldBeOf 5 = .ok (.getfield 76, 3) := by decide +kernel
theorem dX10_firstCouldBeOf_8 : decode cX10_firstCouldBeOf 8 = .ok (.getfield 345, 3) := by decide +kernel
theorem dX10_firstCouldBeOf_11 : decode cX10_firstCouldBeOf 11 = .ok (.ifCond .ne 7, 3) := by decide +kernel
theorem dX10_firstCouldBeOf_14 : decode cX10_firstCouldBeOf 14 = .ok (.iconst (-1), 1) := by decide +kernel
theorem dX10_firstCouldBeOf_15 : decode cX10_firstCouldBeOf 15 = .ok (.goto 12, 3) := by decide +kernel
theorem dX10_firstCouldBeOf_18 : decode cX10_firstCouldBeOf 18 = .ok (.aload_n 0, 1) := by decide +kernel
theorem dX10_firstCouldBeOf_19 : decode cX10_firstCouldBeOf 19 = .ok (.getfield 76, 3) := by decide +kernel
theorem dX10_firstCouldBeOf_22 : decode cX10_firstCouldBeOf 22 = .ok (.getfield 349, 3) := by decide +kernel
theorem dX10_firstCouldBeOf_25 : decode cX10_firstCouldBeOf 25 = .ok (.iload_n 1, 1) := by decide +kernel
theorem dX10_firstCouldBeOf_26 : decode cX10_firstCouldBeOf 26 = .ok (.iaload, 1) := by decide +kernel
theorem dX10_firstCouldBeOf_27 : decode cX10_firstCouldBeOf 27 = .ok (.ireturn, 1) := by decide +kernel
theorem dX10_bestQuestion_0 : decode cX10_bestQuestion 0 = .ok (.aload_n 0, 1) := by decide +kernel
theorem dX10_bestQuestion_1 : decode cX10_bestQuestion 1 = .ok (.getfield 76, 3) := by decide +kernel
theorem dX10_bestQuestion_4 : decode cX10_bestQuestion 4 = .ok (.invokevirtual 322, 3) := by decide +kernel
theorem dX10_bestQuestion_7 : decode cX10_bestQuestion 7 = .ok (.aload_n 0, 1) := by decide +kernel
theorem dX10_bestQuestion_8 : decode cX10_bestQuestion 8 = .ok (.invokevirtual 323, 3) := by decide +kernel
theorem dX10_bestQuestion_11 : decode cX10_bestQuestion 11 = .ok (.aload_n 0, 1) := by decide +kernel
theorem dX10_bestQuestion_12 : decode cX10_bestQuestion 12 = .ok (.getfield 62, 3) := by decide +kernel
theorem dX10_bestQuestion_15 : decode cX10_bestQuestion 15 = .ok (.aload_n 0, 1) := by decide +kernel
theorem dX10_bestQuestion_16 : decode cX10_bestQuestion 16 = .ok (.getfield 23, 3) := by decide +kernel
theorem dX10_bestQuestion_19 : decode cX10_bestQuestion 19 = .ok (.getfield 181, 3) := by decide +kernel
theorem dX10_bestQuestion_22 : decode cX10_bestQuestion 22 = .ok (.aload_n 0, 1) := by decide +kernel
theorem dX10_bestQuestion_23 : decode cX10_bestQuestion 23 = .ok (.getfield 23, 3) := by decide +kernel
theorem dX10_bestQuestion_26 : decode cX10_bestQuestion 26 = .ok (.getfield 154, 3) := by decide +kernel
theorem dX10_bestQuestion_29 : decode cX10_bestQuestion 29 = .ok (.aload_n 0, 1) := by decide +kernel
theorem dX10_bestQuestion_30 : decode cX10_bestQuestion 30 = .ok (.getfield 23, 3) := by decide +kernel
theorem dX10_bestQuestion_33 : decode cX10_bestQuestion 33 = .ok (.getfield 192, 3) := by decide +kernel
theorem dX10_bestQuestion_36 : decode cX10_bestQuestion 36 = .ok (.aload_n 0, 1) := by decide +kernel
theorem dX10_bestQuestion_37 : decode cX10_bestQuestion 37 = .ok (.getfield 23, 3) := by decide +kernel
theorem dX10_bestQuestion_40 : decode cX10_bestQuestion 40 = .ok (.getfield 195, 3) := by decide +kernel
theorem dX10_bestQuestion_43 : decode cX10_bestQuestion 43 = .ok (.invokevirtual 296, 3) := by decide +kernel
theorem dX10_bestQuestion_46 : decode cX10_bestQuestion 46 = .ok (.aload_n 0, 1) := by decide +kernel
theorem dX10_bestQuestion_47 : decode cX10_bestQuestion 47 = .ok (.getfield 23, 3) := by decide +kernel
theorem dX10_bestQuestion_50 : decode cX10_bestQuestion 50 = .ok (.getfield 181, 3) := by decide +kernel
theorem dX10_bestQuestion_53 : decode cX10_bestQuestion 53 = .ok (.aload_n 0, 1) := by decide +kernel
theorem dX10_bestQuestion_54 : decode cX10_bestQuestion 54 = .ok (.getfield 23, 3) := by decide +kernel
theorem dX10_bestQuestion_57 : decode cX10_bestQuestion 57 = .ok (.getfield 145, 3) := by decide +kernel
theorem dX10_bestQuestion_60 : decode cX10_bestQuestion 60 = .ok (.invokestatic 189, 3) := by decide +kernel
theorem dX10_bestQuestion_63 : decode cX10_bestQuestion 63 = .ok (.istore_n 1, 1) := by decide +kernel
theorem dX10_bestQuestion_64 : decode cX10_bestQuestion 64 = .ok (.aload_n 0, 1) := by decide +kernel
theorem dX10_bestQuestion_65 : decode cX10_bestQuestion 65 = .ok (.getfield 69, 3) := by decide +kernel
theorem dX10_bestQuestion_68 : decode cX10_bestQuestion 68 = .ok (.invokevirtual 326, 3) := by decide +kernel
theorem dX10_bestQuestion_71 : decode cX10_bestQuestion 71 = .ok (.aload_n 0, 1) := by decide +kernel
theorem dX10_bestQuestion_72 : decode cX10_bestQuestion 72 = .ok (.invokevirtual 329, 3) := by decide +kernel
theorem dX10_bestQuestion_75 : decode cX10_bestQuestion 75 = .ok (.istore_n 2, 1) := by decide +kernel
theorem dX10_bestQuestion_76 : decode cX10_bestQuestion 76 = .ok (.iconst 0, 1) := by decide +kernel
theorem dX10_bestQuestion_77 : decode cX10_bestQuestion 77 = .ok (.istore_n 3, 1) := by decide +kernel
theorem dX10_bestQuestion_78 : decode cX10_bestQuestion 78 = .ok (.iload_n 3, 1) := by decide +kernel
theorem dX10_bestQuestion_79 : decode cX10_bestQuestion 79 = .ok (.iload_n 2, 1) := by decide +kernel
theorem dX10_bestQuestion_80 : decode cX10_bestQuestion 80 = .ok (.if_icmp .ge 86, 3) := by decide +kernel
theorem dX10_bestQuestion_83 : decode cX10_bestQuestion 83 = .ok (.aload_n 0, 1) := by decide +kernel
theorem dX10_bestQuestion_84 : decode cX10_bestQuestion 84 = .ok (.invokevirtual 332, 3) := by decide +kernel
theorem dX10_bestQuestion_87 : decode cX10_bestQuestion 87 = .ok (.ifCond .eq 62, 3) := by decide +kernel
theorem dX10_bestQuestion_90 : decode cX10_bestQuestion 90 = .ok (.aload_n 0, 1) := by decide +kernel
theorem dX10_bestQuestion_91 : decode cX10_bestQuestion 91 = .ok (.getfield 62, 3) := by decide +kernel
theorem dX10_bestQuestion_94 : decode cX10_bestQuestion 94 = .ok (.aload_n 0, 1) := by decide +kernel
theorem dX10_bestQuestion_95 : decode cX10_bestQuestion 95 = .ok (.getfield 69, 3) := by decide +kernel
theorem dX10_bestQuestion_98 : decode cX10_bestQuestion 98 = .ok (.getfield 315, 3) := by decide +kernel
theorem dX10_bestQuestion_101 : decode cX10_bestQuestion 101 = .ok (.aload_n 0, 1) := by decide +kernel
theorem dX10_bestQuestion_102 : decode cX10_bestQuestion 102 = .ok (.getfield 108, 3) := by decide +kernel
theorem dX10_bestQuestion_105 : decode cX10_bestQuestion 105 = .ok (.iload_n 1, 1) := by decide +kernel
theorem dX10_bestQuestion_106 : decode cX10_bestQuestion 106 = .ok (.invokevirtual 300, 3) := by decide +kernel
theorem dX10_bestQuestion_109 : decode cX10_bestQuestion 109 = .ok (.aload_n 0, 1) := by decide +kernel
theorem dX10_bestQuestion_110 : decode cX10_bestQuestion 110 = .ok (.getfield 76, 3) := by decide +kernel
theorem dX10_bestQuestion_113 : decode cX10_bestQuestion 113 = .ok (.aload_n 0, 1) := by decide +kernel
theorem dX10_bestQuestion_114 : decode cX10_bestQuestion 114 = .ok (.getfield 69, 3) := by decide +kernel
theorem dX10_bestQuestion_117 : decode cX10_bestQuestion 117 = .ok (.getfield 315, 3) := by decide +kernel
theorem dX10_bestQuestion_120 : decode cX10_bestQuestion 120 = .ok (.aload_n 0, 1) := by decide +kernel
theorem dX10_bestQuestion_121 : decode cX10_bestQuestion 121 = .ok (.getfield 108, 3) := by decide +kernel
theorem dX10_bestQuestion_124 : decode cX10_bestQuestion 124 = .ok (.invokevirtual 336, 3) := by decide +kernel
theorem dX10_bestQuestion_127 : decode cX10_bestQuestion 127 = .ok (.aload_n 0, 1) := by decide +kernel
theorem dX10_bestQuestion_128 : decode cX10_bestQuestion 128 = .ok (.getfield 76, 3) := by decide +kernel
theorem dX10_bestQuestion_131 : decode cX10_bestQuestion 131 = .ok (.aload_n 0, 1) := by decide +kernel
theorem dX10_bestQuestion_132 : decode cX10_bestQuestion 132 = .ok (.getfield 62, 3) := by decide +kernel
theorem dX10_bestQuestion_135 : decode cX10_bestQuestion 135 = .ok (.aload_n 0, 1) := by decide +kernel
theorem dX10_bestQuestion_136 : decode cX10_bestQuestion 136 = .ok (.getfield 23, 3) := by decide +kernel
theorem dX10_bestQuestion_139 : decode cX10_bestQuestion 139 = .ok (.getfield 142, 3) := by decide +kernel
theorem dX10_bestQuestion_142 : decode cX10_bestQuestion 142 = .ok (.aload_n 0, 1) := by decide +kernel
theorem dX10_bestQuestion_143 : decode cX10_bestQuestion 143 = .ok (.getfield 108, 3) := by decide +kernel
theorem dX10_bestQuestion_146 : decode cX10_bestQuestion 146 = .ok (.invokevirtual 352, 3) := by decide +kernel
theorem dX10_bestQuestion_149 : decode cX10_bestQuestion 149 = .ok (.aload_n 0, 1) := by decide +kernel
theorem dX10_bestQuestion_150 : decode cX10_bestQuestion 150 = .ok (.getfield 69, 3) := by decide +kernel
theorem dX10_bestQuestion_153 : decode cX10_bestQuestion 153 = .ok (.aload_n 0, 1) := by decide +kernel
theorem dX10_bestQuestion_154 : decode cX10_bestQuestion 154 = .ok (.getfield 108, 3) := by decide +kernel
theorem dX10_bestQuestion_157 : decode cX10_bestQuestion 157 = .ok (.invokevirtual 339, 3) := by decide +kernel
theorem dX10_bestQuestion_160 : decode cX10_bestQuestion 160 = .ok (.iinc 3 1, 3) := by decide +kernel
theorem dX10_bestQuestion_163 : decode cX10_bestQuestion 163 = .ok (.goto (-85), 3) := by decide +kernel
theorem dX10_bestQuestion_166 : decode cX10_bestQuestion 166 = .ok (.aload_n 0, 1) := by decide +kernel
theorem dX10_bestQuestion_167 : decode cX10_bestQuestion 167 = .ok (.getfield 76, 3) := by decide +kernel
theorem dX10_bestQuestion_170 : decode cX10_bestQuestion 170 = .ok (.aload_n 0, 1) := by decide +kernel
theorem dX10_bestQuestion_171 : decode cX10_bestQuestion 171 = .ok (.getfield 108, 3) := by decide +kernel
theorem dX10_bestQuestion_174 : decode cX10_bestQuestion 174 = .ok (.invokevirtual 356, 3) := by decide +kernel
theorem dX10_bestQuestion_177 : decode cX10_bestQuestion 177 = .ok (.ireturn, 1) := by decide +kernel
theorem dX10_countLeft_0 : decode cX10_countLeft 0 = .ok (.aload_n 0, 1) := by decide +kernel
theorem dX10_countLeft_1 : decode cX10_countLeft 1 = .ok (.aload_n 0, 1) := by decide +kernel
theorem dX10_countLeft_2 : decode cX10_countLeft 2 = .ok (.getfield 23, 3) := by decide +kernel
theorem dX10_countLeft_5 : decode cX10_countLeft 5 = .ok (.getfield 181, 3) := by decide +kernel
theorem dX10_countLeft_8 : decode cX10_countLeft 8 = .ok (.invokevirtual 204, 3) := by decide +kernel
theorem dX10_countLeft_11 : decode cX10_countLeft 11 = .ok (.aload_n 0, 1) := by decide +kernel
theorem dX10_countLeft_12 : decode cX10_countLeft 12 = .ok (.getfield 62, 3) := by decide +kernel
theorem dX10_countLeft_15 : decode cX10_countLeft 15 = .ok (.aload_n 0, 1) := by decide +kernel
theorem dX10_countLeft_16 : decode cX10_countLeft 16 = .ok (.getfield 23, 3) := by decide +kernel
theorem dX10_countLeft_19 : decode cX10_countLeft 19 = .ok (.getfield 142, 3) := by decide +kernel
theorem dX10_countLeft_22 : decode cX10_countLeft 22 = .ok (.aload_n 0, 1) := by decide +kernel
theorem dX10_countLeft_23 : decode cX10_countLeft 23 = .ok (.getfield 108, 3) := by decide +kernel
theorem dX10_countLeft_26 : decode cX10_countLeft 26 = .ok (.invokevirtual 359, 3) := by decide +kernel
theorem dX10_countLeft_29 : decode cX10_countLeft 29 = .ok (.istore_n 1, 1) := by decide +kernel
theorem dX10_countLeft_30 : decode cX10_countLeft 30 = .ok (.aload_n 0, 1) := by decide +kernel
theorem dX10_countLeft_31 : decode cX10_countLeft 31 = .ok (.getfield 23, 3) := by decide +kernel
theorem dX10_countLeft_34 : decode cX10_countLeft 34 = .ok (.getfield 181, 3) := by decide +kernel
theorem dX10_countLeft_37 : decode cX10_countLeft 37 = .ok (.aload_n 0, 1) := by decide +kernel
theorem dX10_countLeft_38 : decode cX10_countLeft 38 = .ok (.getfield 23, 3) := by decide +kernel
theorem dX10_countLeft_41 : decode cX10_countLeft 41 = .ok (.getfield 145, 3) := by decide +kernel
theorem dX10_countLeft_44 : decode cX10_countLeft 44 = .ok (.invokestatic 189, 3) := by decide +kernel
theorem dX10_countLeft_47 : decode cX10_countLeft 47 = .ok (.istore_n 2, 1) := by decide +kernel
theorem dX10_countLeft_48 : decode cX10_countLeft 48 = .ok (.iconst 0, 1) := by decide +kernel
theorem dX10_countLeft_49 : decode cX10_countLeft 49 = .ok (.istore_n 3, 1) := by decide +kernel
theorem dX10_countLeft_50 : decode cX10_countLeft 50 = .ok (.aload_n 0, 1) := by decide +kernel
theorem dX10_countLeft_51 : decode cX10_countLeft 51 = .ok (.getfield 69, 3) := by decide +kernel
theorem dX10_countLeft_54 : decode cX10_countLeft 54 = .ok (.invokevirtual 326, 3) := by decide +kernel
theorem dX10_countLeft_57 : decode cX10_countLeft 57 = .ok (.aload_n 0, 1) := by decide +kernel
theorem dX10_countLeft_58 : decode cX10_countLeft 58 = .ok (.invokevirtual 329, 3) := by decide +kernel
theorem dX10_countLeft_61 : decode cX10_countLeft 61 = .ok (.istore 4, 2) := by decide +kernel
theorem dX10_countLeft_63 : decode cX10_countLeft 63 = .ok (.iconst 0, 1) := by decide +kernel
theorem dX10_countLeft_64 : decode cX10_countLeft 64 = .ok (.istore 5, 2) := by decide +kernel
theorem dX10_countLeft_66 : decode cX10_countLeft 66 = .ok (.iload 5, 2) := by decide +kernel
theorem dX10_countLeft_68 : decode cX10_countLeft 68 = .ok (.iload 4, 2) := by decide +kernel
theorem dX10_countLeft_70 : decode cX10_countLeft 70 = .ok (.if_icmp .ge 64, 3) := by decide +kernel
theorem dX10_countLeft_73 : decode cX10_countLeft 73 = .ok (.aload_n 0, 1) := by decide +kernel
theorem dX10_countLeft_74 : decode cX10_countLeft 74 = .ok (.getfield 62, 3) := by decide +kernel
theorem dX10_countLeft_77 : decode cX10_countLeft 77 = .ok (.aload_n 0, 1) := by decide +kernel
theorem dX10_countLeft_78 : decode cX10_countLeft 78 = .ok (.getfield 69, 3) := by decide +kernel
theorem dX10_countLeft_81 : decode cX10_countLeft 81 = .ok (.getfield 315, 3) := by decide +kernel
theorem dX10_countLeft_84 : decode cX10_countLeft 84 = .ok (.aload_n 0, 1) := by decide +kernel
theorem dX10_countLeft_85 : decode cX10_countLeft 85 = .ok (.getfield 108, 3) := by decide +kernel
theorem dX10_countLeft_88 : decode cX10_countLeft 88 = .ok (.iload_n 2, 1) := by decide +kernel
theorem dX10_countLeft_89 : decode cX10_countLeft 89 = .ok (.invokevirtual 300, 3) := by decide +kernel
theorem dX10_countLeft_92 : decode cX10_countLeft 92 = .ok (.aload_n 0, 1) := by decide +kernel
theorem dX10_countLeft_93 : decode cX10_countLeft 93 = .ok (.getfield 62, 3) := by decide +kernel
theorem dX10_countLeft_96 : decode cX10_countLeft 96 = .ok (.aload_n 0, 1) := by decide +kernel
theorem dX10_countLeft_97 : decode cX10_countLeft 97 = .ok (.getfield 23, 3) := by decide +kernel
theorem dX10_countLeft_100 : decode cX10_countLeft 100 = .ok (.getfield 142, 3) := by decide +kernel
theorem dX10_countLeft_103 : decode cX10_countLeft 103 = .ok (.aload_n 0, 1) := by decide +kernel
theorem dX10_countLeft_104 : decode cX10_countLeft 104 = .ok (.getfield 108, 3) := by decide +kernel
theorem dX10_countLeft_107 : decode cX10_countLeft 107 = .ok (.invokevirtual 359, 3) := by decide +kernel
theorem dX10_countLeft_110 : decode cX10_countLeft 110 = .ok (.iload_n 1, 1) := by decide +kernel
theorem dX10_countLeft_111 : decode cX10_countLeft 111 = .ok (.if_icmp .ne 6, 3) := by decide +kernel
theorem dX10_countLeft_114 : decode cX10_countLeft 114 = .ok (.iinc 3 1, 3) := by decide +kernel
theorem dX10_countLeft_117 : decode cX10_countLeft 117 = .ok (.aload_n 0, 1) := by decide +kernel
theorem dX10_countLeft_118 : decode cX10_countLeft 118 = .ok (.getfield 69, 3) := by decide +kernel
theorem dX10_countLeft_121 : decode cX10_countLeft 121 = .ok (.aload_n 0, 1) := by decide +kernel
theorem dX10_countLeft_122 : decode cX10_countLeft 122 = .ok (.getfield 108, 3) := by decide +kernel
theorem dX10_countLeft_125 : decode cX10_countLeft 125 = .ok (.invokevirtual 339, 3) := by decide +kernel
theorem dX10_countLeft_128 : decode cX10_countLeft 128 = .ok (.iinc 5 1, 3) := by decide +kernel
theorem dX10_countLeft_131 : decode cX10_countLeft 131 = .ok (.goto (-65), 3) := by decide +kernel
theorem dX10_countLeft_134 : decode cX10_countLeft 134 = .ok (.iload_n 3, 1) := by decide +kernel
theorem dX10_countLeft_135 : decode cX10_countLeft 135 = .ok (.ireturn, 1) := by decide +kernel
theorem dX10_bestWay_0 : decode cX10_bestWay 0 = .ok (.aload_n 0, 1) := by decide +kernel
theorem dX10_bestWay_1 : decode cX10_bestWay 1 = .ok (.getfield 83, 3) := by decide +kernel
theorem dX10_bestWay_4 : decode cX10_bestWay 4 = .ok (.invokevirtual 362, 3) := by decide +kernel
theorem dX10_bestWay_7 : decode cX10_bestWay 7 = .ok (.aload_n 0, 1) := by decide +kernel
theorem dX10_bestWay_8 : decode cX10_bestWay 8 = .ok (.getfield 83, 3) := by decide +kernel
theorem dX10_bestWay_11 : decode cX10_bestWay 11 = .ok (.aload_n 0, 1) := by decide +kernel
theorem dX10_bestWay_12 : decode cX10_bestWay 12 = .ok (.getfield 108, 3) := by decide +kernel
theorem dX10_bestWay_15 : decode cX10_bestWay 15 = .ok (.invokevirtual 363, 3) := by decide +kernel
theorem dX10_bestWay_18 : decode cX10_bestWay 18 = .ok (.istore_n 1, 1) := by decide +kernel
theorem dX10_bestWay_19 : decode cX10_bestWay 19 = .ok (.aload_n 0, 1) := by decide +kernel
theorem dX10_bestWay_20 : decode cX10_bestWay 20 = .ok (.iload_n 1, 1) := by decide +kernel
theorem dX10_bestWay_21 : decode cX10_bestWay 21 = .ok (.invokevirtual 264, 3) := by decide +kernel
theorem dX10_bestWay_24 : decode cX10_bestWay 24 = .ok (.istore_n 2, 1) := by decide +kernel
theorem dX10_bestWay_25 : decode cX10_bestWay 25 = .ok (.iconst 0, 1) := by decide +kernel
theorem dX10_bestWay_26 : decode cX10_bestWay 26 = .ok (.istore_n 3, 1) := by decide +kernel
theorem dX10_bestWay_27 : decode cX10_bestWay 27 = .ok (.iload_n 3, 1) := by decide +kernel
theorem dX10_bestWay_28 : decode cX10_bestWay 28 = .ok (.bipush 60, 2) := by decide +kernel
theorem dX10_bestWay_30 : decode cX10_bestWay 30 = .ok (.if_icmp .ge 56, 3) := by decide +kernel
theorem dX10_bestWay_33 : decode cX10_bestWay 33 = .ok (.aload_n 0, 1) := by decide +kernel
theorem dX10_bestWay_34 : decode cX10_bestWay 34 = .ok (.getfield 83, 3) := by decide +kernel
theorem dX10_bestWay_37 : decode cX10_bestWay 37 = .ok (.aload_n 0, 1) := by decide +kernel
theorem dX10_bestWay_38 : decode cX10_bestWay 38 = .ok (.getfield 108, 3) := by decide +kernel
theorem dX10_bestWay_41 : decode cX10_bestWay 41 = .ok (.invokevirtual 366, 3) := by decide +kernel
theorem dX10_bestWay_44 : decode cX10_bestWay 44 = .ok (.ifCond .eq 42, 3) := by decide +kernel
theorem dX10_bestWay_47 : decode cX10_bestWay 47 = .ok (.aload_n 0, 1) := by decide +kernel
theorem dX10_bestWay_48 : decode cX10_bestWay 48 = .ok (.getfield 83, 3) := by decide +kernel
theorem dX10_bestWay_51 : decode cX10_bestWay 51 = .ok (.aload_n 0, 1) := by decide +kernel
theorem dX10_bestWay_52 : decode cX10_bestWay 52 = .ok (.getfield 108, 3) := by decide +kernel
theorem dX10_bestWay_55 : decode cX10_bestWay 55 = .ok (.invokevirtual 363, 3) := by decide +kernel
theorem dX10_bestWay_58 : decode cX10_bestWay 58 = .ok (.istore 4, 2) := by decide +kernel
theorem dX10_bestWay_60 : decode cX10_bestWay 60 = .ok (.aload_n 0, 1) := by decide +kernel
theorem dX10_bestWay_61 : decode cX10_bestWay 61 = .ok (.iload 4, 2) := by decide +kernel
theorem dX10_bestWay_63 : decode cX10_bestWay 63 = .ok (.invokevirtual 264, 3) := by decide +kernel
theorem dX10_bestWay_66 : decode cX10_bestWay 66 = .ok (.istore 5, 2) := by decide +kernel
theorem dX10_bestWay_68 : decode cX10_bestWay 68 = .ok (.iload 5, 2) := by decide +kernel
theorem dX10_bestWay_70 : decode cX10_bestWay 70 = .ok (.iload_n 2, 1) := by decide +kernel
theorem dX10_bestWay_71 : decode cX10_bestWay 71 = .ok (.if_icmp .ge 9, 3) := by decide +kernel
theorem dX10_bestWay_74 : decode cX10_bestWay 74 = .ok (.iload 5, 2) := by decide +kernel
theorem dX10_bestWay_76 : decode cX10_bestWay 76 = .ok (.istore_n 2, 1) := by decide +kernel
theorem dX10_bestWay_77 : decode cX10_bestWay 77 = .ok (.iload 4, 2) := by decide +kernel
theorem dX10_bestWay_79 : decode cX10_bestWay 79 = .ok (.istore_n 1, 1) := by decide +kernel
theorem dX10_bestWay_80 : decode cX10_bestWay 80 = .ok (.iinc 3 1, 3) := by decide +kernel
theorem dX10_bestWay_83 : decode cX10_bestWay 83 = .ok (.goto (-56), 3) := by decide +kernel
theorem dX10_bestWay_86 : decode cX10_bestWay 86 = .ok (.iload_n 1, 1) := by decide +kernel
theorem dX10_bestWay_87 : decode cX10_bestWay 87 = .ok (.ireturn, 1) := by decide +kernel
theorem dX10_leftByWay_0 : decode cX10_leftByWay 0 = .ok (.aload_n 0, 1) := by decide +kernel
theorem dX10_leftByWay_1 : decode cX10_leftByWay 1 = .ok (.getfield 62, 3) := by decide +kernel
theorem dX10_leftByWay_4 : decode cX10_leftByWay 4 = .ok (.aload_n 0, 1) := by decide +kernel
theorem dX10_leftByWay_5 : decode cX10_leftByWay 5 = .ok (.getfield 23, 3) := by decide +kernel
theorem dX10_leftByWay_8 : decode cX10_leftByWay 8 = .ok (.getfield 181, 3) := by decide +kernel
theorem dX10_leftByWay_11 : decode cX10_leftByWay 11 = .ok (.aload_n 0, 1) := by decide +kernel
theorem dX10_leftByWay_12 : decode cX10_leftByWay 12 = .ok (.getfield 23, 3) := by decide +kernel
theorem dX10_leftByWay_15 : decode cX10_leftByWay 15 = .ok (.getfield 154, 3) := by decide +kernel
theorem dX10_leftByWay_18 : decode cX10_leftByWay 18 = .ok (.iload_n 1, 1) := by decide +kernel
theorem dX10_leftByWay_19 : decode cX10_leftByWay 19 = .ok (.iconst 0, 1) := by decide +kernel
theorem dX10_leftByWay_20 : decode cX10_leftByWay 20 = .ok (.invokevirtual 296, 3) := by decide +kernel
theorem dX10_leftByWay_23 : decode cX10_leftByWay 23 = .ok (.aload_n 0, 1) := by decide +kernel
theorem dX10_leftByWay_24 : decode cX10_leftByWay 24 = .ok (.getfield 23, 3) := by decide +kernel
theorem dX10_leftByWay_27 : decode cX10_leftByWay 27 = .ok (.getfield 181, 3) := by decide +kernel
theorem dX10_leftByWay_30 : decode cX10_leftByWay 30 = .ok (.aload_n 0, 1) := by decide +kernel
theorem dX10_leftByWay_31 : decode cX10_leftByWay 31 = .ok (.getfield 23, 3) := by decide +kernel
theorem dX10_leftByWay_34 : decode cX10_leftByWay 34 = .ok (.getfield 145, 3) := by decide +kernel
theorem dX10_leftByWay_37 : decode cX10_leftByWay 37 = .ok (.invokestatic 189, 3) := by decide +kernel
theorem dX10_leftByWay_40 : decode cX10_leftByWay 40 = .ok (.iconst 1, 1) := by decide +kernel
theorem dX10_leftByWay_41 : decode cX10_leftByWay 41 = .ok (.aload_n 0, 1) := by decide +kernel
theorem dX10_leftByWay_42 : decode cX10_leftByWay 42 = .ok (.getfield 108, 3) := by decide +kernel
theorem dX10_leftByWay_45 : decode cX10_leftByWay 45 = .ok (.ishl, 1) := by decide +kernel
theorem dX10_leftByWay_46 : decode cX10_leftByWay 46 = .ok (.iconst 1, 1) := by decide +kernel
theorem dX10_leftByWay_47 : decode cX10_leftByWay 47 = .ok (.isub, 1) := by decide +kernel
theorem dX10_leftByWay_48 : decode cX10_leftByWay 48 = .ok (.iand, 1) := by decide +kernel
theorem dX10_leftByWay_49 : decode cX10_leftByWay 49 = .ok (.istore_n 2, 1) := by decide +kernel
theorem dX10_leftByWay_50 : decode cX10_leftByWay 50 = .ok (.iconst 1, 1) := by decide +kernel
theorem dX10_leftByWay_51 : decode cX10_leftByWay 51 = .ok (.istore_n 3, 1) := by decide +kernel
theorem dX10_leftByWay_52 : decode cX10_leftByWay 52 = .ok (.iconst 0, 1) := by decide +kernel
theorem dX10_leftByWay_53 : decode cX10_leftByWay 53 = .ok (.istore 4, 2) := by decide +kernel
theorem dX10_leftByWay_55 : decode cX10_leftByWay 55 = .ok (.iconst 0, 1) := by decide +kernel
theorem dX10_leftByWay_56 : decode cX10_leftByWay 56 = .ok (.istore 5, 2) := by decide +kernel
theorem dX10_leftByWay_58 : decode cX10_leftByWay 58 = .ok (.iconst 0, 1) := by decide +kernel
theorem dX10_leftByWay_59 : decode cX10_leftByWay 59 = .ok (.istore 6, 2) := by decide +kernel
theorem dX10_leftByWay_61 : decode cX10_leftByWay 61 = .ok (.iload 6, 2) := by decide +kernel
theorem dX10_leftByWay_63 : decode cX10_leftByWay 63 = .ok (.aload_n 0, 1) := by decide +kernel
theorem dX10_leftByWay_64 : decode cX10_leftByWay 64 = .ok (.getfield 108, 3) := by decide +kernel
theorem dX10_leftByWay_67 : decode cX10_leftByWay 67 = .ok (.if_icmp .ge 129, 3) := by decide +kernel
theorem dX10_leftByWay_70 : decode cX10_leftByWay 70 = .ok (.iload_n 2, 1) := by decide +kernel
theorem dX10_leftByWay_71 : decode cX10_leftByWay 71 = .ok (.iload 6, 2) := by decide +kernel
theorem dX10_leftByWay_73 : decode cX10_leftByWay 73 = .ok (.ishr, 1) := by decide +kernel
theorem dX10_leftByWay_74 : decode cX10_leftByWay 74 = .ok (.iconst 1, 1) := by decide +kernel
theorem dX10_leftByWay_75 : decode cX10_leftByWay 75 = .ok (.iand, 1) := by decide +kernel
theorem dX10_leftByWay_76 : decode cX10_leftByWay 76 = .ok (.ifCond .eq 7, 3) := by decide +kernel
theorem dX10_leftByWay_79 : decode cX10_leftByWay 79 = .ok (.iconst 1, 1) := by decide +kernel
theorem dX10_leftByWay_80 : decode cX10_leftByWay 80 = .ok (.goto 4, 3) := by decide +kernel
theorem dX10_leftByWay_83 : decode cX10_leftByWay 83 = .ok (.iconst 0, 1) := by decide +kernel
theorem dX10_leftByWay_84 : decode cX10_leftByWay 84 = .ok (.istore 7, 2) := by decide +kernel
theorem dX10_leftByWay_86 : decode cX10_leftByWay 86 = .ok (.iload 7, 2) := by decide +kernel
theorem dX10_leftByWay_88 : decode cX10_leftByWay 88 = .ok (.ifCond .eq 17, 3) := by decide +kernel
theorem dX10_leftByWay_91 : decode cX10_leftByWay 91 = .ok (.aload_n 0, 1) := by decide +kernel
theorem dX10_leftByWay_92 : decode cX10_leftByWay 92 = .ok (.getfield 62, 3) := by decide +kernel
theorem dX10_leftByWay_95 : decode cX10_leftByWay 95 = .ok (.iload 6, 2) := by decide +kernel
theorem dX10_leftByWay_97 : decode cX10_leftByWay 97 = .ok (.invokevirtual 368, 3) := by decide +kernel
theorem dX10_leftByWay_100 : decode cX10_leftByWay 100 = .ok (.iload_n 2, 1) := by decide +kernel
theorem dX10_leftByWay_101 : decode cX10_leftByWay 101 = .ok (.iand, 1) := by decide +kernel
theorem dX10_leftByWay_102 : decode cX10_leftByWay 102 = .ok (.goto 7, 3) := by decide +kernel
theorem dX10_leftByWay_105 : decode cX10_leftByWay 105 = .ok (.iconst 1, 1) := by decide +kernel
theorem dX10_leftByWay_106 : decode cX10_leftByWay 106 = .ok (.iload 6, 2) := by decide +kernel
theorem dX10_leftByWay_108 : decode cX10_leftByWay 108 = .ok (.ishl, 1) := by decide +kernel
theorem dX10_leftByWay_109 : decode cX10_leftByWay 109 = .ok (.istore 8, 2) := by decide +kernel
theorem dX10_leftByWay_111 : decode cX10_leftByWay 111 = .ok (.iload 7, 2) := by decide +kernel
theorem dX10_leftByWay_113 : decode cX10_leftByWay 113 = .ok (.ifCond .eq 21, 3) := by decide +kernel
theorem dX10_leftByWay_116 : decode cX10_leftByWay 116 = .ok (.aload_n 0, 1) := by decide +kernel
theorem dX10_leftByWay_117 : decode cX10_leftByWay 117 = .ok (.getfield 62, 3) := by decide +kernel
theorem dX10_leftByWay_120 : decode cX10_leftByWay 120 = .ok (.iload 6, 2) := by decide +kernel
theorem dX10_leftByWay_122 : decode cX10_leftByWay 122 = .ok (.invokevirtual 371, 3) := by decide +kernel
theorem dX10_leftByWay_125 : decode cX10_leftByWay 125 = .ok (.ifCond .eq 9, 3) := by decide +kernel
theorem dX10_leftByWay_128 : decode cX10_leftByWay 128 = .ok (.iinc 4 1, 3) := by decide +kernel
theorem dX10_leftByWay_131 : decode cX10_leftByWay 131 = .ok (.goto 59, 3) := by decide +kernel
theorem dX10_leftByWay_134 : decode cX10_leftByWay 134 = .ok (.iload 8, 2) := by decide +kernel
theorem dX10_leftByWay_136 : decode cX10_leftByWay 136 = .ok (.iconst 1, 1) := by decide +kernel
theorem dX10_leftByWay_137 : decode cX10_leftByWay 137 = .ok (.iload 6, 2) := by decide +kernel
theorem dX10_leftByWay_139 : decode cX10_leftByWay 139 = .ok (.ishl, 1) := by decide +kernel
theorem dX10_leftByWay_140 : decode cX10_leftByWay 140 = .ok (.iconst 1, 1) := by decide +kernel
theorem dX10_leftByWay_141 : decode cX10_leftByWay 141 = .ok (.isub, 1) := by decide +kernel
theorem dX10_leftByWay_142 : decode cX10_leftByWay 142 = .ok (.iand, 1) := by decide +kernel
theorem dX10_leftByWay_143 : decode cX10_leftByWay 143 = .ok (.ifCond .ne 47, 3) := by decide +kernel
theorem dX10_leftByWay_146 : decode cX10_leftByWay 146 = .ok (.iload 8, 2) := by decide +kernel
theorem dX10_leftByWay_148 : decode cX10_leftByWay 148 = .ok (.invokestatic 155, 3) := by decide +kernel
theorem dX10_leftByWay_151 : decode cX10_leftByWay 151 = .ok (.istore 9, 2) := by decide +kernel
theorem dX10_leftByWay_153 : decode cX10_leftByWay 153 = .ok (.iload 5, 2) := by decide +kernel
theorem dX10_leftByWay_155 : decode cX10_leftByWay 155 = .ok (.iload 9, 2) := by decide +kernel
theorem dX10_leftByWay_157 : decode cX10_leftByWay 157 = .ok (.iconst 1, 1) := by decide +kernel
theorem dX10_leftByWay_158 : decode cX10_leftByWay 158 = .ok (.isub, 1) := by decide +kernel
theorem dX10_leftByWay_159 : decode cX10_leftByWay 159 = .ok (.invokestatic 182, 3) := by decide +kernel
theorem dX10_leftByWay_162 : decode cX10_leftByWay 162 = .ok (.iconst 1, 1) := by decide +kernel
theorem dX10_leftByWay_163 : decode cX10_leftByWay 163 = .ok (.iadd, 1) := by decide +kernel
theorem dX10_leftByWay_164 : decode cX10_leftByWay 164 = .ok (.istore 10, 2) := by decide +kernel
theorem dX10_leftByWay_166 : decode cX10_leftByWay 166 = .ok (.iload 5, 2) := by decide +kernel
theorem dX10_leftByWay_168 : decode cX10_leftByWay 168 = .ok (.iload 9, 2) := by decide +kernel
theorem dX10_leftByWay_170 : decode cX10_leftByWay 170 = .ok (.iconst 1, 1) := by decide +kernel
theorem dX10_leftByWay_171 : decode cX10_leftByWay 171 = .ok (.isub, 1) := by decide +kernel
theorem dX10_leftByWay_172 : decode cX10_leftByWay 172 = .ok (.iload 10, 2) := by decide +kernel
theorem dX10_leftByWay_174 : decode cX10_leftByWay 174 = .ok (.invokestatic 248, 3) := by decide +kernel
theorem dX10_leftByWay_177 : decode cX10_leftByWay 177 = .ok (.istore 5, 2) := by decide +kernel
theorem dX10_leftByWay_179 : decode cX10_leftByWay 179 = .ok (.iload_n 3, 1) := by decide +kernel
theorem dX10_leftByWay_180 : decode cX10_leftByWay 180 = .ok (.iload 9, 2) := by decide +kernel
theorem dX10_leftByWay_182 : decode cX10_leftByWay 182 = .ok (.invokestatic 310, 3) := by decide +kernel
theorem dX10_leftByWay_185 : decode cX10_leftByWay 185 = .ok (.iload 10, 2) := by decide +kernel
theorem dX10_leftByWay_187 : decode cX10_leftByWay 187 = .ok (.imul, 1) := by decide +kernel
theorem dX10_leftByWay_188 : decode cX10_leftByWay 188 = .ok (.imul, 1) := by decide +kernel
theorem dX10_leftByWay_189 : decode cX10_leftByWay 189 = .ok (.istore_n 3, 1) := by decide +kernel
theorem dX10_leftByWay_190 : decode cX10_leftByWay 190 = .ok (.iinc 6 1, 3) := by decide +kernel
theorem dX10_leftByWay_193 : decode cX10_leftByWay 193 = .ok (.goto (-132), 3) := by decide +kernel
theorem dX10_leftByWay_196 : decode cX10_leftByWay 196 = .ok (.iload_n 3, 1) := by decide +kernel
theorem dX10_leftByWay_197 : decode cX10_leftByWay 197 = .ok (.iload 4, 2) := by decide +kernel
theorem dX10_leftByWay_199 : decode cX10_leftByWay 199 = .ok (.invokestatic 310, 3) := by decide +kernel
theorem dX10_leftByWay_202 : decode cX10_leftByWay 202 = .ok (.imul, 1) := by decide +kernel
theorem dX10_leftByWay_203 : decode cX10_leftByWay 203 = .ok (.ireturn, 1) := by decide +kernel
theorem dX11_init_0 : decode cX11_init 0 = .ok (.aload_n 0, 1) := by decide +kernel
theorem dX11_init_1 : decode cX11_init 1 = .ok (.invokespecial 1, 3) := by decide +kernel
theorem dX11_init_4 : decode cX11_init 4 = .ok (.aload_n 0, 1) := by decide +kernel
theorem dX11_init_5 : decode cX11_init 5 = .ok (.iconst 5, 1) := by decide +kernel
theorem dX11_init_6 : decode cX11_init 6 = .ok (.newarray .int, 2) := by decide +kernel
theorem dX11_init_8 : decode cX11_init 8 = .ok (.putfield 7, 3) := by decide +kernel
theorem dX11_init_11 : decode cX11_init 11 = .ok (.aload_n 0, 1) := by decide +kernel
theorem dX11_init_12 : decode cX11_init 12 = .ok (.iconst 5, 1) := by decide +kernel
theorem dX11_init_13 : decode cX11_init 13 = .ok (.newarray .int, 2) := by decide +kernel
theorem dX11_init_15 : decode cX11_init 15 = .ok (.putfield 13, 3) := by decide +kernel
theorem dX11_init_18 : decode cX11_init 18 = .ok (.aload_n 0, 1) := by decide +kernel
theorem dX11_init_19 : decode cX11_init 19 = .ok (.iconst 5, 1) := by decide +kernel
theorem dX11_init_20 : decode cX11_init 20 = .ok (.newarray .int, 2) := by decide +kernel
theorem dX11_init_22 : decode cX11_init 22 = .ok (.putfield 16, 3) := by decide +kernel
theorem dX11_init_25 : decode cX11_init 25 = .ok (.aload_n 0, 1) := by decide +kernel
theorem dX11_init_26 : decode cX11_init 26 = .ok (.iconst 5, 1) := by decide +kernel
theorem dX11_init_27 : decode cX11_init 27 = .ok (.newarray .int, 2) := by decide +kernel
theorem dX11_init_29 : decode cX11_init 29 = .ok (.putfield 19, 3) := by decide +kernel
theorem dX11_init_32 : decode cX11_init 32 = .ok (.aload_n 0, 1) := by decide +kernel
theorem dX11_init_33 : decode cX11_init 33 = .ok (.bipush 112, 2) := by decide +kernel
theorem dX11_init_35 : decode cX11_init 35 = .ok (.newarray .int, 2) := by decide +kernel
theorem dX11_init_37 : decode cX11_init 37 = .ok (.putfield 22, 3) := by decide +kernel
theorem dX11_init_40 : decode cX11_init 40 = .ok (.aload_n 0, 1) := by decide +kernel
theorem dX11_init_41 : decode cX11_init 41 = .ok (.bipush 15, 2) := by decide +kernel
theorem dX11_init_43 : decode cX11_init 43 = .ok (.newarray .int, 2) := by decide +kernel
theorem dX11_init_45 : decode cX11_init 45 = .ok (.putfield 25, 3) := by decide +kernel
theorem dX11_init_48 : decode cX11_init 48 = .ok (.aload_n 0, 1) := by decide +kernel
theorem dX11_init_49 : decode cX11_init 49 = .ok (.bipush 15, 2) := by decide +kernel
theorem dX11_init_51 : decode cX11_init 51 = .ok (.newarray .int, 2) := by decide +kernel
theorem dX11_init_53 : decode cX11_init 53 = .ok (.putfield 28, 3) := by decide +kernel
theorem dX11_init_56 : decode cX11_init 56 = .ok (.aload_n 0, 1) := by decide +kernel
theorem dX11_init_57 : decode cX11_init 57 = .ok (.sipush 240, 3) := by decide +kernel
theorem dX11_init_60 : decode cX11_init 60 = .ok (.newarray .int, 2) := by decide +kernel
theorem dX11_init_62 : decode cX11_init 62 = .ok (.putfield 31, 3) := by decide +kernel
theorem dX11_init_65 : decode cX11_init 65 = .ok (.aload_n 0, 1) := by decide +kernel
theorem dX11_init_66 : decode cX11_init 66 = .ok (.iconst (-1), 1) := by decide +kernel
theorem dX11_init_67 : decode cX11_init 67 = .ok (.putfield 34, 3) := by decide +kernel
theorem dX11_init_70 : decode cX11_init 70 = .ok (.aload_n 0, 1) := by decide +kernel
theorem dX11_init_71 : decode cX11_init 71 = .ok (.iconst 5, 1) := by decide +kernel
theorem dX11_init_72 : decode cX11_init 72 = .ok (.newarray .int, 2) := by decide +kernel
theorem dX11_init_74 : decode cX11_init 74 = .ok (.putfield 38, 3) := by decide +kernel
theorem dX11_init_77 : decode cX11_init 77 = .ok (.aload_n 0, 1) := by decide +kernel
theorem dX11_init_78 : decode cX11_init 78 = .ok (.iconst 5, 1) := by decide +kernel
theorem dX11_init_79 : decode cX11_init 79 = .ok (.newarray .int, 2) := by decide +kernel
theorem dX11_init_81 : decode cX11_init 81 = .ok (.putfield 41, 3) := by decide +kernel
theorem dX11_init_84 : decode cX11_init 84 = .ok (.aload_n 0, 1) := by decide +kernel
theorem dX11_init_85 : decode cX11_init 85 = .ok (.sipush 320, 3) := by decide +kernel
theorem dX11_init_88 : decode cX11_init 88 = .ok (.newarray .int, 2) := by decide +kernel
theorem dX11_init_90 : decode cX11_init 90 = .ok (.putfield 44, 3) := by decide +kernel
theorem dX11_init_93 : decode cX11_init 93 = .ok (.aload_n 0, 1) := by decide +kernel
theorem dX11_init_94 : decode cX11_init 94 = .ok (.bipush 40, 2) := by decide +kernel
theorem dX11_init_96 : decode cX11_init 96 = .ok (.newarray .int, 2) := by decide +kernel
theorem dX11_init_98 : decode cX11_init 98 = .ok (.putfield 47, 3) := by decide +kernel
theorem dX11_init_101 : decode cX11_init 101 = .ok (.aload_n 0, 1) := by decide +kernel
theorem dX11_init_102 : decode cX11_init 102 = .ok (.iconst 2, 1) := by decide +kernel
theorem dX11_init_103 : decode cX11_init 103 = .ok (.newarray .long, 2) := by decide +kernel
theorem dX11_init_105 : decode cX11_init 105 = .ok (.putfield 50, 3) := by decide +kernel
theorem dX11_init_108 : decode cX11_init 108 = .ok (.aload_n 0, 1) := by decide +kernel
theorem dX11_init_109 : decode cX11_init 109 = .ok (.iconst 2, 1) := by decide +kernel
theorem dX11_init_110 : decode cX11_init 110 = .ok (.newarray .int, 2) := by decide +kernel
theorem dX11_init_112 : decode cX11_init 112 = .ok (.putfield 54, 3) := by decide +kernel
theorem dX11_init_115 : decode cX11_init 115 = .ok (.aload_n 0, 1) := by decide +kernel
theorem dX11_init_116 : decode cX11_init 116 = .ok (.iconst 5, 1) := by decide +kernel
theorem dX11_init_117 : decode cX11_init 117 = .ok (.newarray .int, 2) := by decide +kernel
theorem dX11_init_119 : decode cX11_init 119 = .ok (.putfield 57, 3) := by decide +kernel
theorem dX11_init_122 : decode cX11_init 122 = .ok (.aload_n 0, 1) := by decide +kernel
theorem dX11_init_123 : decode cX11_init 123 = .ok (.bipush 112, 2) := by decide +kernel
theorem dX11_init_125 : decode cX11_init 125 = .ok (.newarray .int, 2) := by decide +kernel
theorem dX11_init_127 : decode cX11_init 127 = .ok (.putfield 60, 3) := by decide +kernel
theorem dX11_init_130 : decode cX11_init 130 = .ok (.aload_n 0, 1) := by decide +kernel
theorem dX11_init_131 : decode cX11_init 131 = .ok (.iconst 5, 1) := by decide +kernel
theorem dX11_init_132 : decode cX11_init 132 = .ok (.newarray .int, 2) := by decide +kernel
theorem dX11_init_134 : decode cX11_init 134 = .ok (.putfield 63, 3) := by decide +kernel
theorem dX11_init_137 : decode cX11_init 137 = .ok (.aload_n 0, 1) := by decide +kernel
theorem dX11_init_138 : decode cX11_init 138 = .ok (.iconst 5, 1) := by decide +kernel
theorem dX11_init_139 : decode cX11_init 139 = .ok (.newarray .int, 2) := by decide +kernel
theorem dX11_init_141 : decode cX11_init 141 = .ok (.putfield 66, 3) := by decide +kernel
theorem dX11_init_144 : decode cX11_init 144 = .ok (.aload_n 0, 1) := by decide +kernel
theorem dX11_init_145 : decode cX11_init 145 = .ok (.bipush 25, 2) := by decide +kernel
theorem dX11_init_147 : decode cX11_init 147 = .ok (.newarray .int, 2) := by decide +kernel
theorem dX11_init_149 : decode cX11_init 149 = .ok (.putfield 69, 3) := by decide +kernel
theorem dX11_init_152 : decode cX11_init 152 = .ok (.aload_n 0, 1) := by decide +kernel
theorem dX11_init_153 : decode cX11_init 153 = .ok (.iconst 5, 1) := by decide +kernel
theorem dX11_init_154 : decode cX11_init 154 = .ok (.newarray .int, 2) := by decide +kernel
theorem dX11_init_156 : decode cX11_init 156 = .ok (.putfield 72, 3) := by decide +kernel
theorem dX11_init_159 : decode cX11_init 159 = .ok (.aload_n 0, 1) := by decide +kernel
theorem dX11_init_160 : decode cX11_init 160 = .ok (.iconst 5, 1) := by decide +kernel
theorem dX11_init_161 : decode cX11_init 161 = .ok (.newarray .int, 2) := by decide +kernel
theorem dX11_init_163 : decode cX11_init 163 = .ok (.putfield 75, 3) := by decide +kernel
theorem dX11_init_166 : decode cX11_init 166 = .ok (.aload_n 0, 1) := by decide +kernel
theorem dX11_init_167 : decode cX11_init 167 = .ok (.iconst 5, 1) := by decide +kernel
theorem dX11_init_168 : decode cX11_init 168 = .ok (.newarray .int, 2) := by decide +kernel
theorem dX11_init_170 : decode cX11_init 170 = .ok (.putfield 78, 3) := by decide +kernel
theorem dX11_init_173 : decode cX11_init 173 = .ok (.return_, 1) := by decide +kernel
theorem dX11_in_0 : decode cX11_in 0 = .ok (.iload_n 0, 1) := by decide +kernel
theorem dX11_in_1 : decode cX11_in 1 = .ok (.iload_n 1, 1) := by decide +kernel
theorem dX11_in_2 : decode cX11_in 2 = .ok (.if_icmp .lt 12, 3) := by decide +kernel
theorem dX11_in_5 : decode cX11_in 5 = .ok (.iload_n 0, 1) := by decide +kernel
theorem dX11_in_6 : decode cX11_in 6 = .ok (.iload_n 2, 1) := by decide +kernel
theorem dX11_in_7 : decode cX11_in 7 = .ok (.if_icmp .gt 7, 3) := by decide +kernel
theorem dX11_in_10 : decode cX11_in 10 = .ok (.iconst 1, 1) := by decide +kernel
theorem dX11_in_11 : decode cX11_in 11 = .ok (.goto 4, 3) := by decide +kernel
theorem dX11_in_14 : decode cX11_in 14 = .ok (.iconst 0, 1) := by decide +kernel
theorem dX11_in_15 : decode cX11_in 15 = .ok (.ireturn, 1) := by decide +kernel
theorem dX11_has_0 : decode cX11_has 0 = .ok (.iload_n 0, 1) := by decide +kernel
theorem dX11_has_1 : decode cX11_has 1 = .ok (.iload_n 1, 1) := by decide +kernel
theorem dX11_has_2 : decode cX11_has 2 = .ok (.ishr, 1) := by decide +kernel
theorem dX11_has_3 : decode cX11_has 3 = .ok (.iconst 1, 1) := by decide +kernel
theorem dX11_has_4 : decode cX11_has 4 = .ok (.iand, 1) := by decide +kernel
theorem dX11_has_5 : decode cX11_has 5 = .ok (.iconst 1, 1) := by decide +kernel
theorem dX11_has_6 : decode cX11_has 6 = .ok (.if_icmp .ne 7, 3) := by decide +kernel
theorem dX11_has_9 : decode cX11_has 9 = .ok (.iconst 1, 1) := by decide +kernel
theorem dX11_has_10 : decode cX11_has 10 = .ok (.goto 4, 3) := by decide +kernel
theorem dX11_has_13 : decode cX11_has 13 = .ok (.iconst 0, 1) := by decide +kernel
theorem dX11_has_14 : decode cX11_has 14 = .ok (.ireturn, 1) := by decide +kernel
theorem dX11_bits_0 : decode cX11_bits 0 = .ok (.iconst 0, 1) := by decide +kernel
theorem dX11_bits_1 : decode cX11_bits 1 = .ok (.istore_n 1, 1) := by decide +kernel
theorem dX11_bits_2 : decode cX11_bits 2 = .ok (.iconst 0, 1) := by decide +kernel
theorem dX11_bits_3 : decode cX11_bits 3 = .ok (.istore_n 2, 1) := by decide +kernel
theorem dX11_bits_4 : decode cX11_bits 4 = .ok (.iload_n 2, 1) := by decide +kernel
theorem dX11_bits_5 : decode cX11_bits 5 = .ok (.bipush 11, 2) := by decide +kernel
theorem dX11_bits_7 : decode cX11_bits 7 = .ok (.if_icmp .ge 17, 3) := by decide +kernel
theorem dX11_bits_10 : decode cX11_bits 10 = .ok (.iload_n 1, 1) := by decide +kernel
theorem dX11_bits_11 : decode cX11_bits 11 = .ok (.iload_n 0, 1) := by decide +kernel
theorem dX11_bits_12 : decode cX11_bits 12 = .ok (.iload_n 2, 1) := by decide +kernel
theorem dX11_bits_13 : decode cX11_bits 13 = .ok (.ishr, 1) := by decide +kernel
theorem dX11_bits_14 : decode cX11_bits 14 = .ok (.iconst 1, 1) := by decide +kernel
theorem dX11_bits_15 : decode cX11_bits 15 = .ok (.iand, 1) := by decide +kernel
theorem dX11_bits_16 : decode cX11_bits 16 = .ok (.iadd, 1) := by decide +kernel
theorem dX11_bits_17 : decode cX11_bits 17 = .ok (.istore_n 1, 1) := by decide +kernel
theorem dX11_bits_18 : decode cX11_bits 18 = .ok (.iinc 2 1, 3) := by decide +kernel
theorem dX11_bits_21 : decode cX11_bits 21 = .ok (.goto (-17), 3) := by decide +kernel
theorem dX11_bits_24 : decode cX11_bits 24 = .ok (.iload_n 1, 1) := by decide +kernel
theorem dX11_bits_25 : decode cX11_bits 25 = .ok (.ireturn, 1) := by decide +kernel
theorem dX11_isWire_0 : decode cX11_isWire 0 = .ok (.iload_n 1, 1) := by decide +kernel
theorem dX11_isWire_1 : decode cX11_isWire 1 = .ok (.iconst 0, 1) := by decide +kernel
theorem dX11_isWire_2 : decode cX11_isWire 2 = .ok (.aload_n 0, 1) := by decide +kernel
theorem dX11_isWire_3 : decode cX11_isWire 3 = .ok (.getfield 81, 3) := by decide +kernel
theorem dX11_isWire_6 : decode cX11_isWire 6 = .ok (.iconst 1, 1) := by decide +kernel
theorem dX11_isWire_7 : decode cX11_isWire 7 = .ok (.isub, 1) := by decide +kernel
theorem dX11_isWire_8 : decode cX11_isWire 8 = .ok (.invokestatic 84, 3) := by decide +kernel
theorem dX11_isWire_11 : decode cX11_isWire 11 = .ok (.ireturn, 1) := by decide +kernel
theorem dX11_areEnds_0 : decode cX11_areEnds 0 = .ok (.aload_n 0, 1) := by decide +kernel
theorem dX11_areEnds_1 : decode cX11_areEnds 1 = .ok (.iload_n 1, 1) := by decide +kernel
theorem dX11_areEnds_2 : decode cX11_areEnds 2 = .ok (.invokevirtual 88, 3) := by decide +kernel
theorem dX11_areEnds_5 : decode cX11_areEnds 5 = .ok (.ifCond .eq 25, 3) := by decide +kernel
theorem dX11_areEnds_8 : decode cX11_areEnds 8 = .ok (.iload_n 2, 1) := by decide +kernel
theorem dX11_areEnds_9 : decode cX11_areEnds 9 = .ok (.iconst (-1), 1) := by decide +kernel
theorem dX11_areEnds_10 : decode cX11_areEnds 10 = .ok (.if_icmp .eq 16, 3) := by decide +kernel
theorem dX11_areEnds_13 : decode cX11_areEnds 13 = .ok (.aload_n 0, 1) := by decide +kernel
theorem dX11_areEnds_14 : decode cX11_areEnds 14 = .ok (.iload_n 2, 1) := by decide +kernel
theorem dX11_areEnds_15 : decode cX11_areEnds 15 = .ok (.invokevirtual 88, 3) := by decide +kernel
theorem dX11_areEnds_18 : decode cX11_areEnds 18 = .ok (.ifCond .eq 12, 3) := by decide +kernel
theorem dX11_areEnds_21 : decode cX11_areEnds 21 = .ok (.iload_n 1, 1) := by decide +kernel
theorem dX11_areEnds_22 : decode cX11_areEnds 22 = .ok (.iload_n 2, 1) := by decide +kernel
theorem dX11_areEnds_23 : decode cX11_areEnds 23 = .ok (.if_icmp .eq 7, 3) := by decide +kernel
end
section
theorem dX11_areEnds_26 : decode cX11_areEnds 26 = .ok (.iconst 1, 1) := by decide +kernel
theorem dX11_areEnds_27 : decode cX11_areEnds 27 = .ok (.goto 4, 3) := by decide +kernel
theorem dX11_areEnds_30 : decode cX11_areEnds 30 = .ok (.iconst 0, 1) := by decide +kernel
theorem dX11_areEnds_31 : decode cX11_areEnds 31 = .ok (.ireturn, 1) := by decide +kernel
theorem dX11_pair_0 : decode cX11_pair 0 = .ok (.iload_n 0, 1) := by decide +kernel
theorem dX11_pair_1 : decode cX11_pair 1 = .ok (.iload_n 1, 1) := by decide +kernel
theorem dX11_pair_2 : decode cX11_pair 2 = .ok (.if_icmp .ge 7, 3) := by decide +kernel
theorem dX11_pair_5 : decode cX11_pair 5 = .ok (.iload_n 0, 1) := by decide +kernel
theorem dX11_pair_6 : decode cX11_pair 6 = .ok (.goto 4, 3) := by decide +kernel
theorem dX11_pair_9 : decode cX11_pair 9 = .ok (.iload_n 1, 1) := by decide +kernel
theorem dX11_pair_10 : decode cX11_pair 10 = .ok (.istore_n 2, 1) := by decide +kernel
theorem dX11_pair_11 : decode cX11_pair 11 = .ok (.iload_n 0, 1) := by decide +kernel
theorem dX11_pair_12 : decode cX11_pair 12 = .ok (.iload_n 1, 1) := by decide +kernel
theorem dX11_pair_13 : decode cX11_pair 13 = .ok (.if_icmp .ge 7, 3) := by decide +kernel
theorem dX11_pair_16 : decode cX11_pair 16 = .ok (.iload_n 1, 1) := by decide +kernel
theorem dX11_pair_17 : decode cX11_pair 17 = .ok (.goto 4, 3) := by decide +kernel
theorem dX11_pair_20 : decode cX11_pair 20 = .ok (.iload_n 0, 1) := by decide +kernel
theorem dX11_pair_21 : decode cX11_pair 21 = .ok (.istore_n 3, 1) := by decide +kernel
theorem dX11_pair_22 : decode cX11_pair 22 = .ok (.iconst 5, 1) := by decide +kernel
theorem dX11_pair_23 : decode cX11_pair 23 = .ok (.iload_n 2, 1) := by decide +kernel
theorem dX11_pair_24 : decode cX11_pair 24 = .ok (.imul, 1) := by decide +kernel
theorem dX11_pair_25 : decode cX11_pair 25 = .ok (.iload_n 3, 1) := by decide +kernel
theorem dX11_pair_26 : decode cX11_pair 26 = .ok (.iadd, 1) := by decide +kernel
theorem dX11_pair_27 : decode cX11_pair 27 = .ok (.ireturn, 1) := by decide +kernel
theorem dX11_doTouch_0 : decode cX11_doTouch 0 = .ok (.aload_n 0, 1) := by decide +kernel
theorem dX11_doTouch_1 : decode cX11_doTouch 1 = .ok (.getfield 92, 3) := by decide +kernel
theorem dX11_doTouch_4 : decode cX11_doTouch 4 = .ok (.iload_n 1, 1) := by decide +kernel
theorem dX11_doTouch_5 : decode cX11_doTouch 5 = .ok (.iload_n 2, 1) := by decide +kernel
theorem dX11_doTouch_6 : decode cX11_doTouch 6 = .ok (.invokestatic 95, 3) := by decide +kernel
theorem dX11_doTouch_9 : decode cX11_doTouch 9 = .ok (.invokestatic 99, 3) := by decide +kernel
theorem dX11_doTouch_12 : decode cX11_doTouch 12 = .ok (.ireturn, 1) := by decide +kernel
theorem dX11_touchMany_0 : decode cX11_touchMany 0 = .ok (.iconst 0, 1) := by decide +kernel
theorem dX11_touchMany_1 : decode cX11_touchMany 1 = .ok (.istore_n 1, 1) := by decide +kernel
theorem dX11_touchMany_2 : decode cX11_touchMany 2 = .ok (.iconst 0, 1) := by decide +kernel
theorem dX11_touchMany_3 : decode cX11_touchMany 3 = .ok (.istore_n 2, 1) := by decide +kernel
theorem dX11_touchMany_4 : decode cX11_touchMany 4 = .ok (.iload_n 2, 1) := by decide +kernel
theorem dX11_touchMany_5 : decode cX11_touchMany 5 = .ok (.aload_n 0, 1) := by decide +kernel
theorem dX11_touchMany_6 : decode cX11_touchMany 6 = .ok (.getfield 81, 3) := by decide +kernel
theorem dX11_touchMany_9 : decode cX11_touchMany 9 = .ok (.if_icmp .ge 44, 3) := by decide +kernel
theorem dX11_touchMany_12 : decode cX11_touchMany 12 = .ok (.iload_n 2, 1) := by decide +kernel
theorem dX11_touchMany_13 : decode cX11_touchMany 13 = .ok (.iconst 1, 1) := by decide +kernel
theorem dX11_touchMany_14 : decode cX11_touchMany 14 = .ok (.iadd, 1) := by decide +kernel
theorem dX11_touchMany_15 : decode cX11_touchMany 15 = .ok (.istore_n 3, 1) := by decide +kernel
theorem dX11_touchMany_16 : decode cX11_touchMany 16 = .ok (.iload_n 3, 1) := by decide +kernel
theorem dX11_touchMany_17 : decode cX11_touchMany 17 = .ok (.aload_n 0, 1) := by decide +kernel
theorem dX11_touchMany_18 : decode cX11_touchMany 18 = .ok (.getfield 81, 3) := by decide +kernel
theorem dX11_touchMany_21 : decode cX11_touchMany 21 = .ok (.if_icmp .ge 26, 3) := by decide +kernel
theorem dX11_touchMany_24 : decode cX11_touchMany 24 = .ok (.iload_n 1, 1) := by decide +kernel
theorem dX11_touchMany_25 : decode cX11_touchMany 25 = .ok (.aload_n 0, 1) := by decide +kernel
theorem dX11_touchMany_26 : decode cX11_touchMany 26 = .ok (.iload_n 2, 1) := by decide +kernel
theorem dX11_touchMany_27 : decode cX11_touchMany 27 = .ok (.iload_n 3, 1) := by decide +kernel
theorem dX11_touchMany_28 : decode cX11_touchMany 28 = .ok (.invokevirtual 103, 3) := by decide +kernel
theorem dX11_touchMany_31 : decode cX11_touchMany 31 = .ok (.ifCond .eq 7, 3) := by decide +kernel
theorem dX11_touchMany_34 : decode cX11_touchMany 34 = .ok (.iconst 1, 1) := by decide +kernel
theorem dX11_touchMany_35 : decode cX11_touchMany 35 = .ok (.goto 4, 3) := by decide +kernel
theorem dX11_touchMany_38 : decode cX11_touchMany 38 = .ok (.iconst 0, 1) := by decide +kernel
theorem dX11_touchMany_39 : decode cX11_touchMany 39 = .ok (.iadd, 1) := by decide +kernel
theorem dX11_touchMany_40 : decode cX11_touchMany 40 = .ok (.istore_n 1, 1) := by decide +kernel
theorem dX11_touchMany_41 : decode cX11_touchMany 41 = .ok (.iinc 3 1, 3) := by decide +kernel
theorem dX11_touchMany_44 : decode cX11_touchMany 44 = .ok (.goto (-28), 3) := by decide +kernel
theorem dX11_touchMany_47 : decode cX11_touchMany 47 = .ok (.iinc 2 1, 3) := by decide +kernel
theorem dX11_touchMany_50 : decode cX11_touchMany 50 = .ok (.goto (-46), 3) := by decide +kernel
theorem dX11_touchMany_53 : decode cX11_touchMany 53 = .ok (.iload_n 1, 1) := by decide +kernel
theorem dX11_touchMany_54 : decode cX11_touchMany 54 = .ok (.ireturn, 1) := by decide +kernel
theorem dX11_feed_0 : decode cX11_feed 0 = .ok (.iload_n 1, 1) := by decide +kernel
theorem dX11_feed_1 : decode cX11_feed 1 = .ok (.iconst 0, 1) := by decide +kernel
theorem dX11_feed_2 : decode cX11_feed 2 = .ok (.sipush 255, 3) := by decide +kernel
theorem dX11_feed_5 : decode cX11_feed 5 = .ok (.invokestatic 84, 3) := by decide +kernel
theorem dX11_feed_8 : decode cX11_feed 8 = .ok (.ifCond .ne 6, 3) := by decide +kernel
theorem dX11_feed_11 : decode cX11_feed 11 = .ok (.ldc 106, 2) := by decide +kernel
theorem dX11_feed_13 : decode cX11_feed 13 = .ok (.ireturn, 1) := by decide +kernel
theorem dX11_feed_14 : decode cX11_feed 14 = .ok (.aload_n 0, 1) := by decide +kernel
theorem dX11_feed_15 : decode cX11_feed 15 = .ok (.getfield 107, 3) := by decide +kernel
theorem dX11_feed_18 : decode cX11_feed 18 = .ok (.sipush 240, 3) := by decide +kernel
theorem dX11_feed_21 : decode cX11_feed 21 = .ok (.if_icmp .ne 6, 3) := by decide +kernel
theorem dX11_feed_24 : decode cX11_feed 24 = .ok (.ldc 110, 2) := by decide +kernel
theorem dX11_feed_26 : decode cX11_feed 26 = .ok (.ireturn, 1) := by decide +kernel
theorem dX11_feed_27 : decode cX11_feed 27 = .ok (.aload_n 0, 1) := by decide +kernel
theorem dX11_feed_28 : decode cX11_feed 28 = .ok (.getfield 31, 3) := by decide +kernel
theorem dX11_feed_31 : decode cX11_feed 31 = .ok (.aload_n 0, 1) := by decide +kernel
theorem dX11_feed_32 : decode cX11_feed 32 = .ok (.getfield 107, 3) := by decide +kernel
theorem dX11_feed_35 : decode cX11_feed 35 = .ok (.iload_n 1, 1) := by decide +kernel
theorem dX11_feed_36 : decode cX11_feed 36 = .ok (.iastore, 1) := by decide +kernel
theorem dX11_feed_37 : decode cX11_feed 37 = .ok (.aload_n 0, 1) := by decide +kernel
theorem dX11_feed_38 : decode cX11_feed 38 = .ok (.dup, 1) := by decide +kernel
theorem dX11_feed_39 : decode cX11_feed 39 = .ok (.getfield 107, 3) := by decide +kernel
theorem dX11_feed_42 : decode cX11_feed 42 = .ok (.iconst 1, 1) := by decide +kernel
theorem dX11_feed_43 : decode cX11_feed 43 = .ok (.iadd, 1) := by decide +kernel
theorem dX11_feed_44 : decode cX11_feed 44 = .ok (.putfield 107, 3) := by decide +kernel
theorem dX11_feed_47 : decode cX11_feed 47 = .ok (.aload_n 0, 1) := by decide +kernel
theorem dX11_feed_48 : decode cX11_feed 48 = .ok (.getfield 107, 3) := by decide +kernel
theorem dX11_feed_51 : decode cX11_feed 51 = .ok (.ireturn, 1) := by decide +kernel
theorem dX11_skip_0 : decode cX11_skip 0 = .ok (.aload_n 0, 1) := by decide +kernel
theorem dX11_skip_1 : decode cX11_skip 1 = .ok (.getfield 111, 3) := by decide +kernel
theorem dX11_skip_4 : decode cX11_skip 4 = .ok (.aload_n 0, 1) := by decide +kernel
theorem dX11_skip_5 : decode cX11_skip 5 = .ok (.getfield 107, 3) := by decide +kernel
theorem dX11_skip_8 : decode cX11_skip 8 = .ok (.if_icmp .ge 30, 3) := by decide +kernel
theorem dX11_skip_11 : decode cX11_skip 11 = .ok (.aload_n 0, 1) := by decide +kernel
theorem dX11_skip_12 : decode cX11_skip 12 = .ok (.getfield 31, 3) := by decide +kernel
theorem dX11_skip_15 : decode cX11_skip 15 = .ok (.aload_n 0, 1) := by decide +kernel
theorem dX11_skip_16 : decode cX11_skip 16 = .ok (.getfield 111, 3) := by decide +kernel
theorem dX11_skip_19 : decode cX11_skip 19 = .ok (.iaload, 1) := by decide +kernel
theorem dX11_skip_20 : decode cX11_skip 20 = .ok (.bipush 32, 2) := by decide +kernel
theorem dX11_skip_22 : decode cX11_skip 22 = .ok (.if_icmp .ne 16, 3) := by decide +kernel
theorem dX11_skip_25 : decode cX11_skip 25 = .ok (.aload_n 0, 1) := by decide +kernel
theorem dX11_skip_26 : decode cX11_skip 26 = .ok (.dup, 1) := by decide +kernel
theorem dX11_skip_27 : decode cX11_skip 27 = .ok (.getfield 111, 3) := by decide +kernel
theorem dX11_skip_30 : decode cX11_skip 30 = .ok (.iconst 1, 1) := by decide +kernel
theorem dX11_skip_31 : decode cX11_skip 31 = .ok (.iadd, 1) := by decide +kernel
theorem dX11_skip_32 : decode cX11_skip 32 = .ok (.putfield 111, 3) := by decide +kernel
theorem dX11_skip_35 : decode cX11_skip 35 = .ok (.goto (-35), 3) := by decide +kernel
theorem dX11_skip_38 : decode cX11_skip 38 = .ok (.return_, 1) := by decide +kernel
theorem dX11_here_0 : decode cX11_here 0 = .ok (.aload_n 0, 1) := by decide +kernel
theorem dX11_here_1 : decode cX11_here 1 = .ok (.getfield 111, 3) := by decide +kernel
theorem dX11_here_4 : decode cX11_here 4 = .ok (.aload_n 0, 1) := by decide +kernel
theorem dX11_here_5 : decode cX11_here 5 = .ok (.getfield 107, 3) := by decide +kernel
theorem dX11_here_8 : decode cX11_here 8 = .ok (.if_icmp .ge 15, 3) := by decide +kernel
theorem dX11_here_11 : decode cX11_here 11 = .ok (.aload_n 0, 1) := by decide +kernel
theorem dX11_here_12 : decode cX11_here 12 = .ok (.getfield 31, 3) := by decide +kernel
theorem dX11_here_15 : decode cX11_here 15 = .ok (.aload_n 0, 1) := by decide +kernel
theorem dX11_here_16 : decode cX11_here 16 = .ok (.getfield 111, 3) := by decide +kernel
theorem dX11_here_19 : decode cX11_here 19 = .ok (.iaload, 1) := by decide +kernel
theorem dX11_here_20 : decode cX11_here 20 = .ok (.goto 4, 3) := by decide +kernel
theorem dX11_here_23 : decode cX11_here 23 = .ok (.iconst (-1), 1) := by decide +kernel
theorem dX11_here_24 : decode cX11_here 24 = .ok (.ireturn, 1) := by decide +kernel
theorem dX11_fails_0 : decode cX11_fails 0 = .ok (.aload_n 0, 1) := by decide +kernel
theorem dX11_fails_1 : decode cX11_fails 1 = .ok (.iload_n 1, 1) := by decide +kernel
theorem dX11_fails_2 : decode cX11_fails 2 = .ok (.putfield 114, 3) := by decide +kernel
theorem dX11_fails_5 : decode cX11_fails 5 = .ok (.aload_n 0, 1) := by decide +kernel
theorem dX11_fails_6 : decode cX11_fails 6 = .ok (.iload_n 2, 1) := by decide +kernel
theorem dX11_fails_7 : decode cX11_fails 7 = .ok (.putfield 111, 3) := by decide +kernel
theorem dX11_fails_10 : decode cX11_fails 10 = .ok (.iconst 0, 1) := by decide +kernel
theorem dX11_fails_11 : decode cX11_fails 11 = .ok (.ireturn, 1) := by decide +kernel
theorem dX11_number_0 : decode cX11_number 0 = .ok (.aload_n 0, 1) := by decide +kernel
theorem dX11_number_1 : decode cX11_number 1 = .ok (.invokevirtual 117, 3) := by decide +kernel
theorem dX11_number_4 : decode cX11_number 4 = .ok (.aload_n 0, 1) := by decide +kernel
theorem dX11_number_5 : decode cX11_number 5 = .ok (.aload_n 0, 1) := by decide +kernel
theorem dX11_number_6 : decode cX11_number 6 = .ok (.getfield 111, 3) := by decide +kernel
theorem dX11_number_9 : decode cX11_number 9 = .ok (.putfield 120, 3) := by decide +kernel
theorem dX11_number_12 : decode cX11_number 12 = .ok (.iconst 0, 1) := by decide +kernel
theorem dX11_number_13 : decode cX11_number 13 = .ok (.istore_n 3, 1) := by decide +kernel
theorem dX11_number_14 : decode cX11_number 14 = .ok (.iconst 0, 1) := by decide +kernel
theorem dX11_number_15 : decode cX11_number 15 = .ok (.istore 4, 2) := by decide +kernel
theorem dX11_number_17 : decode cX11_number 17 = .ok (.aload_n 0, 1) := by decide +kernel
theorem dX11_number_18 : decode cX11_number 18 = .ok (.invokevirtual 123, 3) := by decide +kernel
theorem dX11_number_21 : decode cX11_number 21 = .ok (.bipush 48, 2) := by decide +kernel
theorem dX11_number_23 : decode cX11_number 23 = .ok (.bipush 57, 2) := by decide +kernel
theorem dX11_number_25 : decode cX11_number 25 = .ok (.invokestatic 84, 3) := by decide +kernel
theorem dX11_number_28 : decode cX11_number 28 = .ok (.ifCond .eq 42, 3) := by decide +kernel
theorem dX11_number_31 : decode cX11_number 31 = .ok (.iload 4, 2) := by decide +kernel
theorem dX11_number_33 : decode cX11_number 33 = .ok (.iconst 3, 1) := by decide +kernel
theorem dX11_number_34 : decode cX11_number 34 = .ok (.if_icmp .ge 18, 3) := by decide +kernel
theorem dX11_number_37 : decode cX11_number 37 = .ok (.bipush 10, 2) := by decide +kernel
theorem dX11_number_39 : decode cX11_number 39 = .ok (.iload_n 3, 1) := by decide +kernel
theorem dX11_number_40 : decode cX11_number 40 = .ok (.imul, 1) := by decide +kernel
theorem dX11_number_41 : decode cX11_number 41 = .ok (.aload_n 0, 1) := by decide +kernel
theorem dX11_number_42 : decode cX11_number 42 = .ok (.invokevirtual 123, 3) := by decide +kernel
theorem dX11_number_45 : decode cX11_number 45 = .ok (.iadd, 1) := by decide +kernel
theorem dX11_number_46 : decode cX11_number 46 = .ok (.bipush 48, 2) := by decide +kernel
theorem dX11_number_48 : decode cX11_number 48 = .ok (.isub, 1) := by decide +kernel
theorem dX11_number_49 : decode cX11_number 49 = .ok (.goto 4, 3) := by decide +kernel
theorem dX11_number_52 : decode cX11_number 52 = .ok (.iload_n 3, 1) := by decide +kernel
theorem dX11_number_53 : decode cX11_number 53 = .ok (.istore_n 3, 1) := by decide +kernel
theorem dX11_number_54 : decode cX11_number 54 = .ok (.iinc 4 1, 3) := by decide +kernel
theorem dX11_number_57 : decode cX11_number 57 = .ok (.aload_n 0, 1) := by decide +kernel
theorem dX11_number_58 : decode cX11_number 58 = .ok (.dup, 1) := by decide +kernel
theorem dX11_number_59 : decode cX11_number 59 = .ok (.getfield 111, 3) := by decide +kernel
theorem dX11_number_62 : decode cX11_number 62 = .ok (.iconst 1, 1) := by decide +kernel
theorem dX11_number_63 : decode cX11_number 63 = .ok (.iadd, 1) := by decide +kernel
theorem dX11_number_64 : decode cX11_number 64 = .ok (.putfield 111, 3) := by decide +kernel
theorem dX11_number_67 : decode cX11_number 67 = .ok (.goto (-50), 3) := by decide +kernel
theorem dX11_number_70 : decode cX11_number 70 = .ok (.iload 4, 2) := by decide +kernel
theorem dX11_number_72 : decode cX11_number 72 = .ok (.ifCond .ne 13, 3) := by decide +kernel
theorem dX11_number_75 : decode cX11_number 75 = .ok (.aload_n 0, 1) := by decide +kernel
theorem dX11_number_76 : decode cX11_number 76 = .ok (.iconst 1, 1) := by decide +kernel
theorem dX11_number_77 : decode cX11_number 77 = .ok (.aload_n 0, 1) := by decide +kernel
theorem dX11_number_78 : decode cX11_number 78 = .ok (.getfield 120, 3) := by decide +kernel
theorem dX11_number_81 : decode cX11_number 81 = .ok (.invokevirtual 127, 3) := by decide +kernel
theorem dX11_number_84 : decode cX11_number 84 = .ok (.ireturn, 1) := by decide +kernel
theorem dX11_number_85 : decode cX11_number 85 = .ok (.aload_n 0, 1) := by decide +kernel
theorem dX11_number_86 : decode cX11_number 86 = .ok (.iload_n 3, 1) := by decide +kernel
theorem dX11_number_87 : decode cX11_number 87 = .ok (.putfield 130, 3) := by decide +kernel
theorem dX11_number_90 : decode cX11_number 90 = .ok (.iload 4, 2) := by decide +kernel
theorem dX11_number_92 : decode cX11_number 92 = .ok (.iconst 3, 1) := by decide +kernel
theorem dX11_number_93 : decode cX11_number 93 = .ok (.if_icmp .gt 12, 3) := by decide +kernel
theorem dX11_number_96 : decode cX11_number 96 = .ok (.iload_n 3, 1) := by decide +kernel
theorem dX11_number_97 : decode cX11_number 97 = .ok (.iload_n 1, 1) := by decide +kernel
theorem dX11_number_98 : decode cX11_number 98 = .ok (.iload_n 2, 1) := by decide +kernel
theorem dX11_number_99 : decode cX11_number 99 = .ok (.invokestatic 84, 3) := by decide +kernel
theorem dX11_number_102 : decode cX11_number 102 = .ok (.ifCond .ne 15, 3) := by decide +kernel
theorem dX11_number_105 : decode cX11_number 105 = .ok (.aload_n 0, 1) := by decide +kernel
theorem dX11_number_106 : decode cX11_number 106 = .ok (.iconst 2, 1) := by decide +kernel
theorem dX11_number_107 : decode cX11_number 107 = .ok (.aload_n 0, 1) := by decide +kernel
theorem dX11_number_108 : decode cX11_number 108 = .ok (.getfield 120, 3) := by decide +kernel
theorem dX11_number_111 : decode cX11_number 111 = .ok (.invokevirtual 127, 3) := by decide +kernel
theorem dX11_number_114 : decode cX11_number 114 = .ok (.ifCond .eq 7, 3) := by decide +kernel
theorem dX11_number_117 : decode cX11_number 117 = .ok (.iconst 1, 1) := by decide +kernel
theorem dX11_number_118 : decode cX11_number 118 = .ok (.goto 4, 3) := by decide +kernel
theorem dX11_number_121 : decode cX11_number 121 = .ok (.iconst 0, 1) := by decide +kernel
theorem dX11_number_122 : decode cX11_number 122 = .ok (.ireturn, 1) := by decide +kernel
theorem dX11_ends_0 : decode cX11_ends 0 = .ok (.aload_n 0, 1) := by decide +kernel
theorem dX11_ends_1 : decode cX11_ends 1 = .ok (.invokevirtual 117, 3) := by decide +kernel
theorem dX11_ends_4 : decode cX11_ends 4 = .ok (.aload_n 0, 1) := by decide +kernel
theorem dX11_ends_5 : decode cX11_ends 5 = .ok (.invokevirtual 123, 3) := by decide +kernel
theorem dX11_ends_8 : decode cX11_ends 8 = .ok (.bipush 59, 2) := by decide +kernel
theorem dX11_ends_10 : decode cX11_ends 10 = .ok (.if_icmp .eq 13, 3) := by decide +kernel
theorem dX11_ends_13 : decode cX11_ends 13 = .ok (.aload_n 0, 1) := by decide +kernel
theorem dX11_ends_14 : decode cX11_ends 14 = .ok (.iconst 1, 1) := by decide +kernel
theorem dX11_ends_15 : decode cX11_ends 15 = .ok (.aload_n 0, 1) := by decide +kernel
theorem dX11_ends_16 : decode cX11_ends 16 = .ok (.getfield 111, 3) := by decide +kernel
theorem dX11_ends_19 : decode cX11_ends 19 = .ok (.invokevirtual 127, 3) := by decide +kernel
theorem dX11_ends_22 : decode cX11_ends 22 = .ok (.ireturn, 1) := by decide +kernel
theorem dX11_ends_23 : decode cX11_ends 23 = .ok (.aload_n 0, 1) := by decide +kernel
theorem dX11_ends_24 : decode cX11_ends 24 = .ok (.dup, 1) := by decide +kernel
theorem dX11_ends_25 : decode cX11_ends 25 = .ok (.getfield 111, 3) := by decide +kernel
theorem dX11_ends_28 : decode cX11_ends 28 = .ok (.iconst 1, 1) := by decide +kernel
theorem dX11_ends_29 : decode cX11_ends 29 = .ok (.iadd, 1) := by decide +kernel
theorem dX11_ends_30 : decode cX11_ends 30 = .ok (.putfield 111, 3) := by decide +kernel
theorem dX11_ends_33 : decode cX11_ends 33 = .ok (.iconst 1, 1) := by decide +kernel
theorem dX11_ends_34 : decode cX11_ends 34 = .ok (.ireturn, 1) := by decide +kernel
theorem dX11_isRead_0 : decode cX11_isRead 0 = .ok (.iconst 0, 1) := by decide +kernel
theorem dX11_isRead_1 : decode cX11_isRead 1 = .ok (.istore_n 2, 1) := by decide +kernel
theorem dX11_isRead_2 : decode cX11_isRead 2 = .ok (.iconst 0, 1) := by decide +kernel
theorem dX11_isRead_3 : decode cX11_isRead 3 = .ok (.istore_n 3, 1) := by decide +kernel
theorem dX11_isRead_4 : decode cX11_isRead 4 = .ok (.iload_n 3, 1) := by decide +kernel
theorem dX11_isRead_5 : decode cX11_isRead 5 = .ok (.aload_n 0, 1) := by decide +kernel
theorem dX11_isRead_6 : decode cX11_isRead 6 = .ok (.getfield 133, 3) := by decide +kernel
theorem dX11_isRead_9 : decode cX11_isRead 9 = .ok (.if_icmp .ge 29, 3) := by decide +kernel
theorem dX11_isRead_12 : decode cX11_isRead 12 = .ok (.iload_n 2, 1) := by decide +kernel
theorem dX11_isRead_13 : decode cX11_isRead 13 = .ok (.ifCond .ne 13, 3) := by decide +kernel
theorem dX11_isRead_16 : decode cX11_isRead 16 = .ok (.aload_n 0, 1) := by decide +kernel
theorem dX11_isRead_17 : decode cX11_isRead 17 = .ok (.getfield 38, 3) := by decide +kernel
theorem dX11_isRead_20 : decode cX11_isRead 20 = .ok (.iload_n 3, 1) := by decide +kernel
theorem dX11_isRead_21 : decode cX11_isRead 21 = .ok (.iaload, 1) := by decide +kernel
theorem dX11_isRead_22 : decode cX11_isRead 22 = .ok (.iload_n 1, 1) := by decide +kernel
theorem dX11_isRead_23 : decode cX11_isRead 23 = .ok (.if_icmp .ne 7, 3) := by decide +kernel
theorem dX11_isRead_26 : decode cX11_isRead 26 = .ok (.iconst 1, 1) := by decide +kernel
theorem dX11_isRead_27 : decode cX11_isRead 27 = .ok (.goto 4, 3) := by decide +kernel
theorem dX11_isRead_30 : decode cX11_isRead 30 = .ok (.iconst 0, 1) := by decide +kernel
theorem dX11_isRead_31 : decode cX11_isRead 31 = .ok (.istore_n 2, 1) := by decide +kernel
theorem dX11_isRead_32 : decode cX11_isRead 32 = .ok (.iinc 3 1, 3) := by decide +kernel
theorem dX11_isRead_35 : decode cX11_isRead 35 = .ok (.goto (-31), 3) := by decide +kernel
theorem dX11_isRead_38 : decode cX11_isRead 38 = .ok (.iload_n 2, 1) := by decide +kernel
theorem dX11_isRead_39 : decode cX11_isRead 39 = .ok (.ireturn, 1) := by decide +kernel
theorem dX11_isWhole_0 : decode cX11_isWhole 0 = .ok (.aload_n 0, 1) := by decide +kernel
theorem dX11_isWhole_1 : decode cX11_isWhole 1 = .ok (.getfield 133, 3) := by decide +kernel
theorem dX11_isWhole_4 : decode cX11_isWhole 4 = .ok (.iconst 1, 1) := by decide +kernel
theorem dX11_isWhole_5 : decode cX11_isWhole 5 = .ok (.if_icmp .le 7, 3) := by decide +kernel
theorem dX11_isWhole_8 : decode cX11_isWhole 8 = .ok (.iconst 1, 1) := by decide +kernel
theorem dX11_isWhole_9 : decode cX11_isWhole 9 = .ok (.goto 4, 3) := by decide +kernel
theorem dX11_isWhole_12 : decode cX11_isWhole 12 = .ok (.iconst 0, 1) := by decide +kernel
theorem dX11_isWhole_13 : decode cX11_isWhole 13 = .ok (.istore_n 1, 1) := by decide +kernel
theorem dX11_isWhole_14 : decode cX11_isWhole 14 = .ok (.iconst 0, 1) := by decide +kernel
theorem dX11_isWhole_15 : decode cX11_isWhole 15 = .ok (.istore_n 2, 1) := by decide +kernel
theorem dX11_isWhole_16 : decode cX11_isWhole 16 = .ok (.iload_n 2, 1) := by decide +kernel
theorem dX11_isWhole_17 : decode cX11_isWhole 17 = .ok (.aload_n 0, 1) := by decide +kernel
theorem dX11_isWhole_18 : decode cX11_isWhole 18 = .ok (.getfield 133, 3) := by decide +kernel
theorem dX11_isWhole_21 : decode cX11_isWhole 21 = .ok (.if_icmp .ge 27, 3) := by decide +kernel
theorem dX11_isWhole_24 : decode cX11_isWhole 24 = .ok (.iload_n 1, 1) := by decide +kernel
theorem dX11_isWhole_25 : decode cX11_isWhole 25 = .ok (.ifCond .eq 15, 3) := by decide +kernel
theorem dX11_isWhole_28 : decode cX11_isWhole 28 = .ok (.aload_n 0, 1) := by decide +kernel
theorem dX11_isWhole_29 : decode cX11_isWhole 29 = .ok (.iload_n 2, 1) := by decide +kernel
theorem dX11_isWhole_30 : decode cX11_isWhole 30 = .ok (.invokevirtual 136, 3) := by decide +kernel
theorem dX11_isWhole_33 : decode cX11_isWhole 33 = .ok (.ifCond .eq 7, 3) := by decide +kernel
theorem dX11_isWhole_36 : decode cX11_isWhole 36 = .ok (.iconst 1, 1) := by decide +kernel
theorem dX11_isWhole_37 : decode cX11_isWhole 37 = .ok (.goto 4, 3) := by decide +kernel
theorem dX11_isWhole_40 : decode cX11_isWhole 40 = .ok (.iconst 0, 1) := by decide +kernel
theorem dX11_isWhole_41 : decode cX11_isWhole 41 = .ok (.istore_n 1, 1) := by decide +kernel
theorem dX11_isWhole_42 : decode cX11_isWhole 42 = .ok (.iinc 2 1, 3) := by decide +kernel
theorem dX11_isWhole_45 : decode cX11_isWhole 45 = .ok (.goto (-29), 3) := by decide +kernel
theorem dX11_isWhole_48 : decode cX11_isWhole 48 = .ok (.iload_n 1, 1) := by decide +kernel
theorem dX11_isWhole_49 : decode cX11_isWhole 49 = .ok (.ireturn, 1) := by decide +kernel
theorem dX11_readsOne_0 : decode cX11_readsOne 0 = .ok (.aload_n 0, 1) := by decide +kernel
theorem dX11_readsOne_1 : decode cX11_readsOne 1 = .ok (.iconst 0, 1) := by decide +kernel
theorem dX11_readsOne_2 : decode cX11_readsOne 2 = .ok (.iconst 4, 1) := by decide +kernel
theorem dX11_readsOne_3 : decode cX11_readsOne 3 = .ok (.invokevirtual 139, 3) := by decide +kernel
theorem dX11_readsOne_6 : decode cX11_readsOne 6 = .ok (.ifCond .ne 5, 3) := by decide +kernel
theorem dX11_readsOne_9 : decode cX11_readsOne 9 = .ok (.iconst 0, 1) := by decide +kernel
theorem dX11_readsOne_10 : decode cX11_readsOne 10 = .ok (.ireturn, 1) := by decide +kernel
theorem dX11_readsOne_11 : decode cX11_readsOne 11 = .ok (.aload_n 0, 1) := by decide +kernel
theorem dX11_readsOne_12 : decode cX11_readsOne 12 = .ok (.aload_n 0, 1) := by decide +kernel
theorem dX11_readsOne_13 : decode cX11_readsOne 13 = .ok (.getfield 130, 3) := by decide +kernel
theorem dX11_readsOne_16 : decode cX11_readsOne 16 = .ok (.invokevirtual 136, 3) := by decide +kernel
theorem dX11_readsOne_19 : decode cX11_readsOne 19 = .ok (.ifCond .eq 13, 3) := by decide +kernel
theorem dX11_readsOne_22 : decode cX11_readsOne 22 = .ok (.aload_n 0, 1) := by decide +kernel
theorem dX11_readsOne_23 : decode cX11_readsOne 23 = .ok (.iconst 4, 1) := by decide +kernel
theorem dX11_readsOne_24 : decode cX11_readsOne 24 = .ok (.aload_n 0, 1) := by decide +kernel
theorem dX11_readsOne_25 : decode cX11_readsOne 25 = .ok (.getfield 120, 3) := by decide +kernel
theorem dX11_readsOne_28 : decode cX11_readsOne 28 = .ok (.invokevirtual 127, 3) := by decide +kernel
theorem dX11_readsOne_31 : decode cX11_readsOne 31 = .ok (.ireturn, 1) := by decide +kernel
theorem dX11_readsOne_32 : decode cX11_readsOne 32 = .ok (.aload_n 0, 1) := by decide +kernel
theorem dX11_readsOne_33 : decode cX11_readsOne 33 = .ok (.getfield 38, 3) := by decide +kernel
theorem dX11_readsOne_36 : decode cX11_readsOne 36 = .ok (.aload_n 0, 1) := by decide +kernel
theorem dX11_readsOne_37 : decode cX11_readsOne 37 = .ok (.getfield 133, 3) := by decide +kernel
theorem dX11_readsOne_40 : decode cX11_readsOne 40 = .ok (.aload_n 0, 1) := by decide +kernel
theorem dX11_readsOne_41 : decode cX11_readsOne 41 = .ok (.getfield 130, 3) := by decide +kernel
theorem dX11_readsOne_44 : decode cX11_readsOne 44 = .ok (.iastore, 1) := by decide +kernel
theorem dX11_readsOne_45 : decode cX11_readsOne 45 = .ok (.aload_n 0, 1) := by decide +kernel
theorem dX11_readsOne_46 : decode cX11_readsOne 46 = .ok (.dup, 1) := by decide +kernel
theorem dX11_readsOne_47 : decode cX11_readsOne 47 = .ok (.getfield 133, 3) := by decide +kernel
theorem dX11_readsOne_50 : decode cX11_readsOne 50 = .ok (.iconst 1, 1) := by decide +kernel
theorem dX11_readsOne_51 : decode cX11_readsOne 51 = .ok (.iadd, 1) := by decide +kernel
theorem dX11_readsOne_52 : decode cX11_readsOne 52 = .ok (.putfield 133, 3) := by decide +kernel
theorem dX11_readsOne_55 : decode cX11_readsOne 55 = .ok (.aload_n 0, 1) := by decide +kernel
theorem dX11_readsOne_56 : decode cX11_readsOne 56 = .ok (.invokevirtual 117, 3) := by decide +kernel
theorem dX11_readsOne_59 : decode cX11_readsOne 59 = .ok (.iconst 1, 1) := by decide +kernel
theorem dX11_readsOne_60 : decode cX11_readsOne 60 = .ok (.ireturn, 1) := by decide +kernel
theorem dX11_readsCable_0 : decode cX11_readsCable 0 = .ok (.aload_n 0, 1) := by decide +kernel
theorem dX11_readsCable_1 : decode cX11_readsCable 1 = .ok (.invokevirtual 142, 3) := by decide +kernel
theorem dX11_readsCable_4 : decode cX11_readsCable 4 = .ok (.ifCond .ne 5, 3) := by decide +kernel
theorem dX11_readsCable_7 : decode cX11_readsCable 7 = .ok (.iconst 0, 1) := by decide +kernel
theorem dX11_readsCable_8 : decode cX11_readsCable 8 = .ok (.ireturn, 1) := by decide +kernel
theorem dX11_readsCable_9 : decode cX11_readsCable 9 = .ok (.aload_n 0, 1) := by decide +kernel
theorem dX11_readsCable_10 : decode cX11_readsCable 10 = .ok (.invokevirtual 123, 3) := by decide +kernel
theorem dX11_readsCable_13 : decode cX11_readsCable 13 = .ok (.bipush 44, 2) := by decide +kernel
theorem dX11_readsCable_15 : decode cX11_readsCable 15 = .ok (.if_icmp .ne 30, 3) := by decide +kernel
theorem dX11_readsCable_18 : decode cX11_readsCable 18 = .ok (.aload_n 0, 1) := by decide +kernel
theorem dX11_readsCable_19 : decode cX11_readsCable 19 = .ok (.getfield 133, 3) := by decide +kernel
theorem dX11_readsCable_22 : decode cX11_readsCable 22 = .ok (.iconst 5, 1) := by decide +kernel
theorem dX11_readsCable_23 : decode cX11_readsCable 23 = .ok (.if_icmp .ge 22, 3) := by decide +kernel
theorem dX11_readsCable_26 : decode cX11_readsCable 26 = .ok (.aload_n 0, 1) := by decide +kernel
theorem dX11_readsCable_27 : decode cX11_readsCable 27 = .ok (.dup, 1) := by decide +kernel
theorem dX11_readsCable_28 : decode cX11_readsCable 28 = .ok (.getfield 111, 3) := by decide +kernel
theorem dX11_readsCable_31 : decode cX11_readsCable 31 = .ok (.iconst 1, 1) := by decide +kernel
theorem dX11_readsCable_32 : decode cX11_readsCable 32 = .ok (.iadd, 1) := by decide +kernel
theorem dX11_readsCable_33 : decode cX11_readsCable 33 = .ok (.putfield 111, 3) := by decide +kernel
theorem dX11_readsCable_36 : decode cX11_readsCable 36 = .ok (.aload_n 0, 1) := by decide +kernel
theorem dX11_readsCable_37 : decode cX11_readsCable 37 = .ok (.invokevirtual 142, 3) := by decide +kernel
theorem dX11_readsCable_40 : decode cX11_readsCable 40 = .ok (.ifCond .ne (-31), 3) := by decide +kernel
theorem dX11_readsCable_43 : decode cX11_readsCable 43 = .ok (.iconst 0, 1) := by decide +kernel
theorem dX11_readsCable_44 : decode cX11_readsCable 44 = .ok (.ireturn, 1) := by decide +kernel
theorem dX11_readsCable_45 : decode cX11_readsCable 45 = .ok (.aload_n 0, 1) := by decide +kernel
theorem dX11_readsCable_46 : decode cX11_readsCable 46 = .ok (.invokevirtual 146, 3) := by decide +kernel
theorem dX11_readsCable_49 : decode cX11_readsCable 49 = .ok (.ifCond .eq 10, 3) := by decide +kernel
theorem dX11_readsCable_52 : decode cX11_readsCable 52 = .ok (.aload_n 0, 1) := by decide +kernel
theorem dX11_readsCable_53 : decode cX11_readsCable 53 = .ok (.invokevirtual 149, 3) := by decide +kernel
theorem dX11_readsCable_56 : decode cX11_readsCable 56 = .ok (.goto 12, 3) := by decide +kernel
theorem dX11_readsCable_59 : decode cX11_readsCable 59 = .ok (.aload_n 0, 1) := by decide +kernel
theorem dX11_readsCable_60 : decode cX11_readsCable 60 = .ok (.iconst 1, 1) := by decide +kernel
theorem dX11_readsCable_61 : decode cX11_readsCable 61 = .ok (.aload_n 0, 1) := by decide +kernel
theorem dX11_readsCable_62 : decode cX11_readsCable 62 = .ok (.getfield 111, 3) := by decide +kernel
theorem dX11_readsCable_65 : decode cX11_readsCable 65 = .ok (.invokevirtual 127, 3) := by decide +kernel
theorem dX11_readsCable_68 : decode cX11_readsCable 68 = .ok (.ireturn, 1) := by decide +kernel
theorem dX11_readsKind_0 : decode cX11_readsKind 0 = .ok (.aload_n 0, 1) := by decide +kernel
theorem dX11_readsKind_1 : decode cX11_readsKind 1 = .ok (.iconst 0, 1) := by decide +kernel
theorem dX11_readsKind_2 : decode cX11_readsKind 2 = .ok (.aload_n 0, 1) := by decide +kernel
theorem dX11_readsKind_3 : decode cX11_readsKind 3 = .ok (.getfield 133, 3) := by decide +kernel
theorem dX11_readsKind_6 : decode cX11_readsKind 6 = .ok (.iconst 1, 1) := by decide +kernel
theorem dX11_readsKind_7 : decode cX11_readsKind 7 = .ok (.isub, 1) := by decide +kernel
theorem dX11_readsKind_8 : decode cX11_readsKind 8 = .ok (.invokevirtual 139, 3) := by decide +kernel
theorem dX11_readsKind_11 : decode cX11_readsKind 11 = .ok (.ifCond .ne 5, 3) := by decide +kernel
theorem dX11_readsKind_14 : decode cX11_readsKind 14 = .ok (.iconst 0, 1) := by decide +kernel
theorem dX11_readsKind_15 : decode cX11_readsKind 15 = .ok (.ireturn, 1) := by decide +kernel
theorem dX11_readsKind_16 : decode cX11_readsKind 16 = .ok (.aload_n 0, 1) := by decide +kernel
theorem dX11_readsKind_17 : decode cX11_readsKind 17 = .ok (.getfield 130, 3) := by decide +kernel
theorem dX11_readsKind_20 : decode cX11_readsKind 20 = .ok (.istore_n 1, 1) := by decide +kernel
theorem dX11_readsKind_21 : decode cX11_readsKind 21 = .ok (.aload_n 0, 1) := by decide +kernel
theorem dX11_readsKind_22 : decode cX11_readsKind 22 = .ok (.getfield 41, 3) := by decide +kernel
theorem dX11_readsKind_25 : decode cX11_readsKind 25 = .ok (.iload_n 1, 1) := by decide +kernel
theorem dX11_readsKind_26 : decode cX11_readsKind 26 = .ok (.iaload, 1) := by decide +kernel
theorem dX11_readsKind_27 : decode cX11_readsKind 27 = .ok (.ifCond .eq 13, 3) := by decide +kernel
theorem dX11_readsKind_30 : decode cX11_readsKind 30 = .ok (.aload_n 0, 1) := by decide +kernel
theorem dX11_readsKind_31 : decode cX11_readsKind 31 = .ok (.iconst 4, 1) := by decide +kernel
theorem dX11_readsKind_32 : decode cX11_readsKind 32 = .ok (.aload_n 0, 1) := by decide +kernel
theorem dX11_readsKind_33 : decode cX11_readsKind 33 = .ok (.getfield 120, 3) := by decide +kernel
theorem dX11_readsKind_36 : decode cX11_readsKind 36 = .ok (.invokevirtual 127, 3) := by decide +kernel
theorem dX11_readsKind_39 : decode cX11_readsKind 39 = .ok (.ireturn, 1) := by decide +kernel
theorem dX11_readsKind_40 : decode cX11_readsKind 40 = .ok (.aload_n 0, 1) := by decide +kernel
theorem dX11_readsKind_41 : decode cX11_readsKind 41 = .ok (.iconst 1, 1) := by decide +kernel
theorem dX11_readsKind_42 : decode cX11_readsKind 42 = .ok (.iconst 3, 1) := by decide +kernel
theorem dX11_readsKind_43 : decode cX11_readsKind 43 = .ok (.invokevirtual 139, 3) := by decide +kernel
theorem dX11_readsKind_46 : decode cX11_readsKind 46 = .ok (.ifCond .ne 5, 3) := by decide +kernel
theorem dX11_readsKind_49 : decode cX11_readsKind 49 = .ok (.iconst 0, 1) := by decide +kernel
theorem dX11_readsKind_50 : decode cX11_readsKind 50 = .ok (.ireturn, 1) := by decide +kernel
theorem dX11_readsKind_51 : decode cX11_readsKind 51 = .ok (.aload_n 0, 1) := by decide +kernel
theorem dX11_readsKind_52 : decode cX11_readsKind 52 = .ok (.getfield 41, 3) := by decide +kernel
theorem dX11_readsKind_55 : decode cX11_readsKind 55 = .ok (.iload_n 1, 1) := by decide +kernel
theorem dX11_readsKind_56 : decode cX11_readsKind 56 = .ok (.aload_n 0, 1) := by decide +kernel
theorem dX11_readsKind_57 : decode cX11_readsKind 57 = .ok (.getfield 130, 3) := by decide +kernel
theorem dX11_readsKind_60 : decode cX11_readsKind 60 = .ok (.iastore, 1) := by decide +kernel
theorem dX11_readsKind_61 : decode cX11_readsKind 61 = .ok (.aload_n 0, 1) := by decide +kernel
theorem dX11_readsKind_62 : decode cX11_readsKind 62 = .ok (.invokevirtual 149, 3) := by decide +kernel
theorem dX11_readsKind_65 : decode cX11_readsKind 65 = .ok (.ireturn, 1) := by decide +kernel
theorem dX11_readsTouch_0 : decode cX11_readsTouch 0 = .ok (.aload_n 0, 1) := by decide +kernel
theorem dX11_readsTouch_1 : decode cX11_readsTouch 1 = .ok (.iconst 0, 1) := by decide +kernel
theorem dX11_readsTouch_2 : decode cX11_readsTouch 2 = .ok (.aload_n 0, 1) := by decide +kernel
theorem dX11_readsTouch_3 : decode cX11_readsTouch 3 = .ok (.getfield 133, 3) := by decide +kernel
theorem dX11_readsTouch_6 : decode cX11_readsTouch 6 = .ok (.iconst 1, 1) := by decide +kernel
theorem dX11_readsTouch_7 : decode cX11_readsTouch 7 = .ok (.isub, 1) := by decide +kernel
theorem dX11_readsTouch_8 : decode cX11_readsTouch 8 = .ok (.invokevirtual 139, 3) := by decide +kernel
theorem dX11_readsTouch_11 : decode cX11_readsTouch 11 = .ok (.ifCond .ne 5, 3) := by decide +kernel
theorem dX11_readsTouch_14 : decode cX11_readsTouch 14 = .ok (.iconst 0, 1) := by decide +kernel
theorem dX11_readsTouch_15 : decode cX11_readsTouch 15 = .ok (.ireturn, 1) := by decide +kernel
theorem dX11_readsTouch_16 : decode cX11_readsTouch 16 = .ok (.aload_n 0, 1) := by decide +kernel
theorem dX11_readsTouch_17 : decode cX11_readsTouch 17 = .ok (.getfield 130, 3) := by decide +kernel
theorem dX11_readsTouch_20 : decode cX11_readsTouch 20 = .ok (.istore_n 1, 1) := by decide +kernel
theorem dX11_readsTouch_21 : decode cX11_readsTouch 21 = .ok (.aload_n 0, 1) := by decide +kernel
theorem dX11_readsTouch_22 : decode cX11_readsTouch 22 = .ok (.iconst 0, 1) := by decide +kernel
theorem dX11_readsTouch_23 : decode cX11_readsTouch 23 = .ok (.aload_n 0, 1) := by decide +kernel
theorem dX11_readsTouch_24 : decode cX11_readsTouch 24 = .ok (.getfield 133, 3) := by decide +kernel
theorem dX11_readsTouch_27 : decode cX11_readsTouch 27 = .ok (.iconst 1, 1) := by decide +kernel
theorem dX11_readsTouch_28 : decode cX11_readsTouch 28 = .ok (.isub, 1) := by decide +kernel
theorem dX11_readsTouch_29 : decode cX11_readsTouch 29 = .ok (.invokevirtual 139, 3) := by decide +kernel
theorem dX11_readsTouch_32 : decode cX11_readsTouch 32 = .ok (.ifCond .ne 5, 3) := by decide +kernel
theorem dX11_readsTouch_35 : decode cX11_readsTouch 35 = .ok (.iconst 0, 1) := by decide +kernel
theorem dX11_readsTouch_36 : decode cX11_readsTouch 36 = .ok (.ireturn, 1) := by decide +kernel
theorem dX11_readsTouch_37 : decode cX11_readsTouch 37 = .ok (.iload_n 1, 1) := by decide +kernel
theorem dX11_readsTouch_38 : decode cX11_readsTouch 38 = .ok (.aload_n 0, 1) := by decide +kernel
theorem dX11_readsTouch_39 : decode cX11_readsTouch 39 = .ok (.getfield 130, 3) := by decide +kernel
theorem dX11_readsTouch_42 : decode cX11_readsTouch 42 = .ok (.if_icmp .eq 21, 3) := by decide +kernel
theorem dX11_readsTouch_45 : decode cX11_readsTouch 45 = .ok (.aload_n 0, 1) := by decide +kernel
theorem dX11_readsTouch_46 : decode cX11_readsTouch 46 = .ok (.getfield 152, 3) := by decide +kernel
theorem dX11_readsTouch_49 : decode cX11_readsTouch 49 = .ok (.iload_n 1, 1) := by decide +kernel
theorem dX11_readsTouch_50 : decode cX11_readsTouch 50 = .ok (.aload_n 0, 1) := by decide +kernel
theorem dX11_readsTouch_51 : decode cX11_readsTouch 51 = .ok (.getfield 130, 3) := by decide +kernel
theorem dX11_readsTouch_54 : decode cX11_readsTouch 54 = .ok (.invokestatic 95, 3) := by decide +kernel
theorem dX11_readsTouch_57 : decode cX11_readsTouch 57 = .ok (.invokestatic 99, 3) := by decide +kernel
theorem dX11_readsTouch_60 : decode cX11_readsTouch 60 = .ok (.ifCond .eq 13, 3) := by decide +kernel
theorem dX11_readsTouch_63 : decode cX11_readsTouch 63 = .ok (.aload_n 0, 1) := by decide +kernel
theorem dX11_readsTouch_64 : decode cX11_readsTouch 64 = .ok (.iconst 4, 1) := by decide +kernel
theorem dX11_readsTouch_65 : decode cX11_readsTouch 65 = .ok (.aload_n 0, 1) := by decide +kernel
theorem dX11_readsTouch_66 : decode cX11_readsTouch 66 = .ok (.getfield 120, 3) := by decide +kernel
theorem dX11_readsTouch_69 : decode cX11_readsTouch 69 = .ok (.invokevirtual 127, 3) := by decide +kernel
theorem dX11_readsTouch_72 : decode cX11_readsTouch 72 = .ok (.ireturn, 1) := by decide +kernel
theorem dX11_readsTouch_73 : decode cX11_readsTouch 73 = .ok (.aload_n 0, 1) := by decide +kernel
theorem dX11_readsTouch_74 : decode cX11_readsTouch 74 = .ok (.dup, 1) := by decide +kernel
theorem dX11_readsTouch_75 : decode cX11_readsTouch 75 = .ok (.getfield 152, 3) := by decide +kernel
theorem dX11_readsTouch_78 : decode cX11_readsTouch 78 = .ok (.iconst 1, 1) := by decide +kernel
theorem dX11_readsTouch_79 : decode cX11_readsTouch 79 = .ok (.iload_n 1, 1) := by decide +kernel
theorem dX11_readsTouch_80 : decode cX11_readsTouch 80 = .ok (.aload_n 0, 1) := by decide +kernel
theorem dX11_readsTouch_81 : decode cX11_readsTouch 81 = .ok (.getfield 130, 3) := by decide +kernel
theorem dX11_readsTouch_84 : decode cX11_readsTouch 84 = .ok (.invokestatic 95, 3) := by decide +kernel
theorem dX11_readsTouch_87 : decode cX11_readsTouch 87 = .ok (.ishl, 1) := by decide +kernel
theorem dX11_readsTouch_88 : decode cX11_readsTouch 88 = .ok (.ior, 1) := by decide +kernel
theorem dX11_readsTouch_89 : decode cX11_readsTouch 89 = .ok (.putfield 152, 3) := by decide +kernel
theorem dX11_readsTouch_92 : decode cX11_readsTouch 92 = .ok (.aload_n 0, 1) := by decide +kernel
theorem dX11_readsTouch_93 : decode cX11_readsTouch 93 = .ok (.invokevirtual 149, 3) := by decide +kernel
theorem dX11_readsTouch_96 : decode cX11_readsTouch 96 = .ok (.ireturn, 1) := by decide +kernel
theorem dX11_readsClause_0 : decode cX11_readsClause 0 = .ok (.aload_n 0, 1) := by decide +kernel
theorem dX11_readsClause_1 : decode cX11_readsClause 1 = .ok (.invokevirtual 123, 3) := by decide +kernel
theorem dX11_readsClause_4 : decode cX11_readsClause 4 = .ok (.istore_n 1, 1) := by decide +kernel
theorem dX11_readsClause_5 : decode cX11_readsClause 5 = .ok (.aload_n 0, 1) := by decide +kernel
theorem dX11_readsClause_6 : decode cX11_readsClause 6 = .ok (.getfield 111, 3) := by decide +kernel
theorem dX11_readsClause_9 : decode cX11_readsClause 9 = .ok (.istore_n 2, 1) := by decide +kernel
theorem dX11_readsClause_10 : decode cX11_readsClause 10 = .ok (.aload_n 0, 1) := by decide +kernel
theorem dX11_readsClause_11 : decode cX11_readsClause 11 = .ok (.dup, 1) := by decide +kernel
theorem dX11_readsClause_12 : decode cX11_readsClause 12 = .ok (.getfield 111, 3) := by decide +kernel
theorem dX11_readsClause_15 : decode cX11_readsClause 15 = .ok (.iconst 1, 1) := by decide +kernel
theorem dX11_readsClause_16 : decode cX11_readsClause 16 = .ok (.iadd, 1) := by decide +kernel
theorem dX11_readsClause_17 : decode cX11_readsClause 17 = .ok (.putfield 111, 3) := by decide +kernel
theorem dX11_readsClause_20 : decode cX11_readsClause 20 = .ok (.aload_n 0, 1) := by decide +kernel
theorem dX11_readsClause_21 : decode cX11_readsClause 21 = .ok (.getfield 133, 3) := by decide +kernel
theorem dX11_readsClause_24 : decode cX11_readsClause 24 = .ok (.ifCond .ne 23, 3) := by decide +kernel
theorem dX11_readsClause_27 : decode cX11_readsClause 27 = .ok (.iload_n 1, 1) := by decide +kernel
theorem dX11_readsClause_28 : decode cX11_readsClause 28 = .ok (.bipush 99, 2) := by decide +kernel
theorem dX11_readsClause_30 : decode cX11_readsClause 30 = .ok (.if_icmp .ne 10, 3) := by decide +kernel
theorem dX11_readsClause_33 : decode cX11_readsClause 33 = .ok (.aload_n 0, 1) := by decide +kernel
theorem dX11_readsClause_34 : decode cX11_readsClause 34 = .ok (.invokevirtual 155, 3) := by decide +kernel
theorem dX11_readsClause_37 : decode cX11_readsClause 37 = .ok (.goto 9, 3) := by decide +kernel
theorem dX11_readsClause_40 : decode cX11_readsClause 40 = .ok (.aload_n 0, 1) := by decide +kernel
theorem dX11_readsClause_41 : decode cX11_readsClause 41 = .ok (.iconst 1, 1) := by decide +kernel
theorem dX11_readsClause_42 : decode cX11_readsClause 42 = .ok (.iload_n 2, 1) := by decide +kernel
theorem dX11_readsClause_43 : decode cX11_readsClause 43 = .ok (.invokevirtual 127, 3) := by decide +kernel
theorem dX11_readsClause_46 : decode cX11_readsClause 46 = .ok (.ireturn, 1) := by decide +kernel
theorem dX11_readsClause_47 : decode cX11_readsClause 47 = .ok (.iload_n 1, 1) := by decide +kernel
theorem dX11_readsClause_48 : decode cX11_readsClause 48 = .ok (.bipush 107, 2) := by decide +kernel
theorem dX11_readsClause_50 : decode cX11_readsClause 50 = .ok (.if_icmp .ne 8, 3) := by decide +kernel
theorem dX11_readsClause_53 : decode cX11_readsClause 53 = .ok (.aload_n 0, 1) := by decide +kernel
theorem dX11_readsClause_54 : decode cX11_readsClause 54 = .ok (.invokevirtual 158, 3) := by decide +kernel
theorem dX11_readsClause_57 : decode cX11_readsClause 57 = .ok (.ireturn, 1) := by decide +kernel
theorem dX11_readsClause_58 : decode cX11_readsClause 58 = .ok (.iload_n 1, 1) := by decide +kernel
theorem dX11_readsClause_59 : decode cX11_readsClause 59 = .ok (.bipush 115, 2) := by decide +kernel
theorem dX11_readsClause_61 : decode cX11_readsClause 61 = .ok (.if_icmp .ne 8, 3) := by decide +kernel
theorem dX11_readsClause_64 : decode cX11_readsClause 64 = .ok (.aload_n 0, 1) := by decide +kernel
theorem dX11_readsClause_65 : decode cX11_readsClause 65 = .ok (.invokevirtual 161, 3) := by decide +kernel
theorem dX11_readsClause_68 : decode cX11_readsClause 68 = .ok (.ireturn, 1) := by decide +kernel
theorem dX11_readsClause_69 : decode cX11_readsClause 69 = .ok (.aload_n 0, 1) := by decide +kernel
theorem dX11_readsClause_70 : decode cX11_readsClause 70 = .ok (.iload_n 1, 1) := by decide +kernel
theorem dX11_readsClause_71 : decode cX11_readsClause 71 = .ok (.bipush 99, 2) := by decide +kernel
theorem dX11_readsClause_73 : decode cX11_readsClause 73 = .ok (.if_icmp .ne 7, 3) := by decide +kernel
theorem dX11_readsClause_76 : decode cX11_readsClause 76 = .ok (.iconst 3, 1) := by decide +kernel
theorem dX11_readsClause_77 : decode cX11_readsClause 77 = .ok (.goto 4, 3) := by decide +kernel
theorem dX11_readsClause_80 : decode cX11_readsClause 80 = .ok (.iconst 1, 1) := by decide +kernel
theorem dX11_readsClause_81 : decode cX11_readsClause 81 = .ok (.iload_n 2, 1) := by decide +kernel
theorem dX11_readsClause_82 : decode cX11_readsClause 82 = .ok (.invokevirtual 127, 3) := by decide +kernel
theorem dX11_readsClause_85 : decode cX11_readsClause 85 = .ok (.ireturn, 1) := by decide +kernel
theorem dX11_readsAll_0 : decode cX11_readsAll 0 = .ok (.aload_n 0, 1) := by decide +kernel
theorem dX11_readsAll_1 : decode cX11_readsAll 1 = .ok (.iconst 0, 1) := by decide +kernel
theorem dX11_readsAll_2 : decode cX11_readsAll 2 = .ok (.putfield 111, 3) := by decide +kernel
theorem dX11_readsAll_5 : decode cX11_readsAll 5 = .ok (.aload_n 0, 1) := by decide +kernel
theorem dX11_readsAll_6 : decode cX11_readsAll 6 = .ok (.iconst 0, 1) := by decide +kernel
theorem dX11_readsAll_7 : decode cX11_readsAll 7 = .ok (.putfield 133, 3) := by decide +kernel
theorem dX11_readsAll_10 : decode cX11_readsAll 10 = .ok (.aload_n 0, 1) := by decide +kernel
theorem dX11_readsAll_11 : decode cX11_readsAll 11 = .ok (.iconst 0, 1) := by decide +kernel
theorem dX11_readsAll_12 : decode cX11_readsAll 12 = .ok (.putfield 152, 3) := by decide +kernel
theorem dX11_readsAll_15 : decode cX11_readsAll 15 = .ok (.iconst 0, 1) := by decide +kernel
theorem dX11_readsAll_16 : decode cX11_readsAll 16 = .ok (.istore_n 1, 1) := by decide +kernel
theorem dX11_readsAll_17 : decode cX11_readsAll 17 = .ok (.iload_n 1, 1) := by decide +kernel
theorem dX11_readsAll_18 : decode cX11_readsAll 18 = .ok (.iconst 5, 1) := by decide +kernel
theorem dX11_readsAll_19 : decode cX11_readsAll 19 = .ok (.if_icmp .ge 16, 3) := by decide +kernel
theorem dX11_readsAll_22 : decode cX11_readsAll 22 = .ok (.aload_n 0, 1) := by decide +kernel
theorem dX11_readsAll_23 : decode cX11_readsAll 23 = .ok (.getfield 41, 3) := by decide +kernel
theorem dX11_readsAll_26 : decode cX11_readsAll 26 = .ok (.iload_n 1, 1) := by decide +kernel
theorem dX11_readsAll_27 : decode cX11_readsAll 27 = .ok (.iconst 0, 1) := by decide +kernel
theorem dX11_readsAll_28 : decode cX11_readsAll 28 = .ok (.iastore, 1) := by decide +kernel
theorem dX11_readsAll_29 : decode cX11_readsAll 29 = .ok (.iinc 1 1, 3) := by decide +kernel
theorem dX11_readsAll_32 : decode cX11_readsAll 32 = .ok (.goto (-15), 3) := by decide +kernel
theorem dX11_readsAll_35 : decode cX11_readsAll 35 = .ok (.aload_n 0, 1) := by decide +kernel
theorem dX11_readsAll_36 : decode cX11_readsAll 36 = .ok (.invokevirtual 117, 3) := by decide +kernel
theorem dX11_readsAll_39 : decode cX11_readsAll 39 = .ok (.aload_n 0, 1) := by decide +kernel
theorem dX11_readsAll_40 : decode cX11_readsAll 40 = .ok (.getfield 111, 3) := by decide +kernel
theorem dX11_readsAll_43 : decode cX11_readsAll 43 = .ok (.aload_n 0, 1) := by decide +kernel
theorem dX11_readsAll_44 : decode cX11_readsAll 44 = .ok (.getfield 107, 3) := by decide +kernel
theorem dX11_readsAll_47 : decode cX11_readsAll 47 = .ok (.if_icmp .ge 19, 3) := by decide +kernel
theorem dX11_readsAll_50 : decode cX11_readsAll 50 = .ok (.aload_n 0, 1) := by decide +kernel
theorem dX11_readsAll_51 : decode cX11_readsAll 51 = .ok (.invokevirtual 164, 3) := by decide +kernel
theorem dX11_readsAll_54 : decode cX11_readsAll 54 = .ok (.ifCond .ne 5, 3) := by decide +kernel
theorem dX11_readsAll_57 : decode cX11_readsAll 57 = .ok (.iconst 0, 1) := by decide +kernel
theorem dX11_readsAll_58 : decode cX11_readsAll 58 = .ok (.ireturn, 1) := by decide +kernel
theorem dX11_readsAll_59 : decode cX11_readsAll 59 = .ok (.aload_n 0, 1) := by decide +kernel
theorem dX11_readsAll_60 : decode cX11_readsAll 60 = .ok (.invokevirtual 117, 3) := by decide +kernel
theorem dX11_readsAll_63 : decode cX11_readsAll 63 = .ok (.goto (-24), 3) := by decide +kernel
theorem dX11_readsAll_66 : decode cX11_readsAll 66 = .ok (.iconst 1, 1) := by decide +kernel
theorem dX11_readsAll_67 : decode cX11_readsAll 67 = .ok (.ireturn, 1) := by decide +kernel
theorem dX11_cable_0 : decode cX11_cable 0 = .ok (.aload_n 0, 1) := by decide +kernel
theorem dX11_cable_1 : decode cX11_cable 1 = .ok (.invokevirtual 167, 3) := by decide +kernel
theorem dX11_cable_4 : decode cX11_cable 4 = .ok (.istore_n 1, 1) := by decide +kernel
theorem dX11_cable_5 : decode cX11_cable 5 = .ok (.aload_n 0, 1) := by decide +kernel
theorem dX11_cable_6 : decode cX11_cable 6 = .ok (.iconst 0, 1) := by decide +kernel
theorem dX11_cable_7 : decode cX11_cable 7 = .ok (.putfield 107, 3) := by decide +kernel
theorem dX11_cable_10 : decode cX11_cable 10 = .ok (.iload_n 1, 1) := by decide +kernel
theorem dX11_cable_11 : decode cX11_cable 11 = .ok (.ifCond .ne 19, 3) := by decide +kernel
theorem dX11_cable_14 : decode cX11_cable 14 = .ok (.aload_n 0, 1) := by decide +kernel
theorem dX11_cable_15 : decode cX11_cable 15 = .ok (.aload_n 0, 1) := by decide +kernel
theorem dX11_cable_16 : decode cX11_cable 16 = .ok (.getfield 111, 3) := by decide +kernel
theorem dX11_cable_19 : decode cX11_cable 19 = .ok (.putfield 34, 3) := by decide +kernel
theorem dX11_cable_22 : decode cX11_cable 22 = .ok (.bipush (-10), 2) := by decide +kernel
theorem dX11_cable_24 : decode cX11_cable 24 = .ok (.aload_n 0, 1) := by decide +kernel
theorem dX11_cable_25 : decode cX11_cable 25 = .ok (.getfield 114, 3) := by decide +kernel
theorem dX11_cable_28 : decode cX11_cable 28 = .ok (.isub, 1) := by decide +kernel
theorem dX11_cable_29 : decode cX11_cable 29 = .ok (.ireturn, 1) := by decide +kernel
theorem dX11_cable_30 : decode cX11_cable 30 = .ok (.aload_n 0, 1) := by decide +kernel
theorem dX11_cable_31 : decode cX11_cable 31 = .ok (.iconst (-1), 1) := by decide +kernel
theorem dX11_cable_32 : decode cX11_cable 32 = .ok (.putfield 34, 3) := by decide +kernel
theorem dX11_cable_35 : decode cX11_cable 35 = .ok (.aload_n 0, 1) := by decide +kernel
theorem dX11_cable_36 : decode cX11_cable 36 = .ok (.aload_n 0, 1) := by decide +kernel
theorem dX11_cable_37 : decode cX11_cable 37 = .ok (.getfield 133, 3) := by decide +kernel
theorem dX11_cable_40 : decode cX11_cable 40 = .ok (.putfield 81, 3) := by decide +kernel
theorem dX11_cable_43 : decode cX11_cable 43 = .ok (.aload_n 0, 1) := by decide +kernel
theorem dX11_cable_44 : decode cX11_cable 44 = .ok (.aload_n 0, 1) := by decide +kernel
theorem dX11_cable_45 : decode cX11_cable 45 = .ok (.getfield 152, 3) := by decide +kernel
theorem dX11_cable_48 : decode cX11_cable 48 = .ok (.putfield 92, 3) := by decide +kernel
theorem dX11_cable_51 : decode cX11_cable 51 = .ok (.iconst 0, 1) := by decide +kernel
theorem dX11_cable_52 : decode cX11_cable 52 = .ok (.istore_n 2, 1) := by decide +kernel
theorem dX11_cable_53 : decode cX11_cable 53 = .ok (.iload_n 2, 1) := by decide +kernel
theorem dX11_cable_54 : decode cX11_cable 54 = .ok (.iconst 5, 1) := by decide +kernel
theorem dX11_cable_55 : decode cX11_cable 55 = .ok (.if_icmp .ge 47, 3) := by decide +kernel
theorem dX11_cable_58 : decode cX11_cable 58 = .ok (.aload_n 0, 1) := by decide +kernel
theorem dX11_cable_59 : decode cX11_cable 59 = .ok (.getfield 7, 3) := by decide +kernel
theorem dX11_cable_62 : decode cX11_cable 62 = .ok (.iload_n 2, 1) := by decide +kernel
theorem dX11_cable_63 : decode cX11_cable 63 = .ok (.aload_n 0, 1) := by decide +kernel
theorem dX11_cable_64 : decode cX11_cable 64 = .ok (.getfield 38, 3) := by decide +kernel
theorem dX11_cable_67 : decode cX11_cable 67 = .ok (.iload_n 2, 1) := by decide +kernel
theorem dX11_cable_68 : decode cX11_cable 68 = .ok (.iaload, 1) := by decide +kernel
theorem dX11_cable_69 : decode cX11_cable 69 = .ok (.iastore, 1) := by decide +kernel
theorem dX11_cable_70 : decode cX11_cable 70 = .ok (.aload_n 0, 1) := by decide +kernel
theorem dX11_cable_71 : decode cX11_cable 71 = .ok (.getfield 13, 3) := by decide +kernel
theorem dX11_cable_74 : decode cX11_cable 74 = .ok (.iload_n 2, 1) := by decide +kernel
theorem dX11_cable_75 : decode cX11_cable 75 = .ok (.aload_n 0, 1) := by decide +kernel
theorem dX11_cable_76 : decode cX11_cable 76 = .ok (.getfield 41, 3) := by decide +kernel
theorem dX11_cable_79 : decode cX11_cable 79 = .ok (.iload_n 2, 1) := by decide +kernel
theorem dX11_cable_80 : decode cX11_cable 80 = .ok (.iaload, 1) := by decide +kernel
theorem dX11_cable_81 : decode cX11_cable 81 = .ok (.iastore, 1) := by decide +kernel
theorem dX11_cable_82 : decode cX11_cable 82 = .ok (.aload_n 0, 1) := by decide +kernel
theorem dX11_cable_83 : decode cX11_cable 83 = .ok (.getfield 16, 3) := by decide +kernel
theorem dX11_cable_86 : decode cX11_cable 86 = .ok (.iload_n 2, 1) := by decide +kernel
theorem dX11_cable_87 : decode cX11_cable 87 = .ok (.iconst 0, 1) := by decide +kernel
theorem dX11_cable_88 : decode cX11_cable 88 = .ok (.iastore, 1) := by decide +kernel
theorem dX11_cable_89 : decode cX11_cable 89 = .ok (.aload_n 0, 1) := by decide +kernel
theorem dX11_cable_90 : decode cX11_cable 90 = .ok (.getfield 19, 3) := by decide +kernel
theorem dX11_cable_93 : decode cX11_cable 93 = .ok (.iload_n 2, 1) := by decide +kernel
theorem dX11_cable_94 : decode cX11_cable 94 = .ok (.iconst 0, 1) := by decide +kernel
theorem dX11_cable_95 : decode cX11_cable 95 = .ok (.iastore, 1) := by decide +kernel
theorem dX11_cable_96 : decode cX11_cable 96 = .ok (.iinc 2 1, 3) := by decide +kernel
theorem dX11_cable_99 : decode cX11_cable 99 = .ok (.goto (-46), 3) := by decide +kernel
theorem dX11_cable_102 : decode cX11_cable 102 = .ok (.aload_n 0, 1) := by decide +kernel
theorem dX11_cable_103 : decode cX11_cable 103 = .ok (.iconst 0, 1) := by decide +kernel
theorem dX11_cable_104 : decode cX11_cable 104 = .ok (.putfield 170, 3) := by decide +kernel
theorem dX11_cable_107 : decode cX11_cable 107 = .ok (.aload_n 0, 1) := by decide +kernel
theorem dX11_cable_108 : decode cX11_cable 108 = .ok (.iconst 0, 1) := by decide +kernel
theorem dX11_cable_109 : decode cX11_cable 109 = .ok (.putfield 173, 3) := by decide +kernel
theorem dX11_cable_112 : decode cX11_cable 112 = .ok (.aload_n 0, 1) := by decide +kernel
theorem dX11_cable_113 : decode cX11_cable 113 = .ok (.iconst 0, 1) := by decide +kernel
theorem dX11_cable_114 : decode cX11_cable 114 = .ok (.putfield 176, 3) := by decide +kernel
theorem dX11_cable_117 : decode cX11_cable 117 = .ok (.aload_n 0, 1) := by decide +kernel
theorem dX11_cable_118 : decode cX11_cable 118 = .ok (.iconst 0, 1) := by decide +kernel
theorem dX11_cable_119 : decode cX11_cable 119 = .ok (.putfield 179, 3) := by decide +kernel
theorem dX11_cable_122 : decode cX11_cable 122 = .ok (.aload_n 0, 1) := by decide +kernel
theorem dX11_cable_123 : decode cX11_cable 123 = .ok (.iconst 0, 1) := by decide +kernel
theorem dX11_cable_124 : decode cX11_cable 124 = .ok (.putfield 182, 3) := by decide +kernel
theorem dX11_cable_127 : decode cX11_cable 127 = .ok (.aload_n 0, 1) := by decide +kernel
theorem dX11_cable_128 : decode cX11_cable 128 = .ok (.iconst 0, 1) := by decide +kernel
theorem dX11_cable_129 : decode cX11_cable 129 = .ok (.putfield 185, 3) := by decide +kernel
theorem dX11_cable_132 : decode cX11_cable 132 = .ok (.aload_n 0, 1) := by decide +kernel
theorem dX11_cable_133 : decode cX11_cable 133 = .ok (.iconst 0, 1) := by decide +kernel
theorem dX11_cable_134 : decode cX11_cable 134 = .ok (.putfield 188, 3) := by decide +kernel
theorem dX11_cable_137 : decode cX11_cable 137 = .ok (.aload_n 0, 1) := by decide +kernel
theorem dX11_cable_138 : decode cX11_cable 138 = .ok (.getfield 54, 3) := by decide +kernel
theorem dX11_cable_141 : decode cX11_cable 141 = .ok (.iconst 0, 1) := by decide +kernel
theorem dX11_cable_142 : decode cX11_cable 142 = .ok (.iconst 0, 1) := by decide +kernel
theorem dX11_cable_143 : decode cX11_cable 143 = .ok (.iastore, 1) := by decide +kernel
theorem dX11_cable_144 : decode cX11_cable 144 = .ok (.aload_n 0, 1) := by decide +kernel
theorem dX11_cable_145 : decode cX11_cable 145 = .ok (.getfield 54, 3) := by decide +kernel
theorem dX11_cable_148 : decode cX11_cable 148 = .ok (.iconst 1, 1) := by decide +kernel
theorem dX11_cable_149 : decode cX11_cable 149 = .ok (.iconst 0, 1) := by decide +kernel
theorem dX11_cable_150 : decode cX11_cable 150 = .ok (.iastore, 1) := by decide +kernel
theorem dX11_cable_151 : decode cX11_cable 151 = .ok (.aload_n 0, 1) := by decide +kernel
theorem dX11_cable_152 : decode cX11_cable 152 = .ok (.getfield 81, 3) := by decide +kernel
theorem dX11_cable_155 : decode cX11_cable 155 = .ok (.ireturn, 1) := by decide +kernel
theorem dX11_fault_0 : decode cX11_fault 0 = .ok (.aload_n 0, 1) := by decide +kernel
theorem dX11_fault_1 : decode cX11_fault 1 = .ok (.getfield 34, 3) := by decide +kernel
theorem dX11_fault_4 : decode cX11_fault 4 = .ok (.ireturn, 1) := by decide +kernel
theorem dX11_passesBy_0 : decode cX11_passesBy 0 = .ok (.iload_n 0, 1) := by decide +kernel
theorem dX11_passesBy_1 : decode cX11_passesBy 1 = .ok (.ifCond .eq 19, 3) := by decide +kernel
theorem dX11_passesBy_4 : decode cX11_passesBy 4 = .ok (.iload_n 0, 1) := by decide +kernel
theorem dX11_passesBy_5 : decode cX11_passesBy 5 = .ok (.iconst 2, 1) := by decide +kernel
theorem dX11_passesBy_6 : decode cX11_passesBy 6 = .ok (.if_icmp .eq 14, 3) := by decide +kernel
theorem dX11_passesBy_9 : decode cX11_passesBy 9 = .ok (.iload_n 0, 1) := by decide +kernel
theorem dX11_passesBy_10 : decode cX11_passesBy 10 = .ok (.iconst 3, 1) := by decide +kernel
theorem dX11_passesBy_11 : decode cX11_passesBy 11 = .ok (.if_icmp .ne 13, 3) := by decide +kernel
theorem dX11_passesBy_14 : decode cX11_passesBy 14 = .ok (.iload_n 1, 1) := by decide +kernel
theorem dX11_passesBy_15 : decode cX11_passesBy 15 = .ok (.iconst 2, 1) := by decide +kernel
theorem dX11_passesBy_16 : decode cX11_passesBy 16 = .ok (.irem, 1) := by decide +kernel
theorem dX11_passesBy_17 : decode cX11_passesBy 17 = .ok (.ifCond .ne 7, 3) := by decide +kernel
theorem dX11_passesBy_20 : decode cX11_passesBy 20 = .ok (.iconst 1, 1) := by decide +kernel
theorem dX11_passesBy_21 : decode cX11_passesBy 21 = .ok (.goto 4, 3) := by decide +kernel
theorem dX11_passesBy_24 : decode cX11_passesBy 24 = .ok (.iconst 0, 1) := by decide +kernel
theorem dX11_passesBy_25 : decode cX11_passesBy 25 = .ok (.ireturn, 1) := by decide +kernel
theorem dX11_farEndOf_0 : decode cX11_farEndOf 0 = .ok (.iconst (-1), 1) := by decide +kernel
theorem dX11_farEndOf_1 : decode cX11_farEndOf 1 = .ok (.istore_n 3, 1) := by decide +kernel
theorem dX11_farEndOf_2 : decode cX11_farEndOf 2 = .ok (.iconst 0, 1) := by decide +kernel
theorem dX11_farEndOf_3 : decode cX11_farEndOf 3 = .ok (.istore 4, 2) := by decide +kernel
theorem dX11_farEndOf_5 : decode cX11_farEndOf 5 = .ok (.iload 4, 2) := by decide +kernel
theorem dX11_farEndOf_7 : decode cX11_farEndOf 7 = .ok (.aload_n 0, 1) := by decide +kernel
theorem dX11_farEndOf_8 : decode cX11_farEndOf 8 = .ok (.getfield 81, 3) := by decide +kernel
theorem dX11_farEndOf_11 : decode cX11_farEndOf 11 = .ok (.if_icmp .ge 24, 3) := by decide +kernel
theorem dX11_farEndOf_14 : decode cX11_farEndOf 14 = .ok (.aload_n 1, 1) := by decide +kernel
theorem dX11_farEndOf_15 : decode cX11_farEndOf 15 = .ok (.iload 4, 2) := by decide +kernel
theorem dX11_farEndOf_17 : decode cX11_farEndOf 17 = .ok (.iaload, 1) := by decide +kernel
theorem dX11_farEndOf_18 : decode cX11_farEndOf 18 = .ok (.iload_n 2, 1) := by decide +kernel
theorem dX11_farEndOf_19 : decode cX11_farEndOf 19 = .ok (.if_icmp .ne 8, 3) := by decide +kernel
theorem dX11_farEndOf_22 : decode cX11_farEndOf 22 = .ok (.iload 4, 2) := by decide +kernel
theorem dX11_farEndOf_24 : decode cX11_farEndOf 24 = .ok (.goto 4, 3) := by decide +kernel
theorem dX11_farEndOf_27 : decode cX11_farEndOf 27 = .ok (.iload_n 3, 1) := by decide +kernel
theorem dX11_farEndOf_28 : decode cX11_farEndOf 28 = .ok (.istore_n 3, 1) := by decide +kernel
theorem dX11_farEndOf_29 : decode cX11_farEndOf 29 = .ok (.iinc 4 1, 3) := by decide +kernel
theorem dX11_farEndOf_32 : decode cX11_farEndOf 32 = .ok (.goto (-27), 3) := by decide +kernel
theorem dX11_farEndOf_35 : decode cX11_farEndOf 35 = .ok (.iload_n 3, 1) := by decide +kernel
theorem dX11_farEndOf_36 : decode cX11_farEndOf 36 = .ok (.ireturn, 1) := by decide +kernel
theorem dX11_together_0 : decode cX11_together 0 = .ok (.iload_n 0, 1) := by decide +kernel
theorem dX11_together_1 : decode cX11_together 1 = .ok (.iload_n 1, 1) := by decide +kernel
theorem dX11_together_2 : decode cX11_together 2 = .ok (.iand, 1) := by decide +kernel
theorem dX11_together_3 : decode cX11_together 3 = .ok (.ifCond .ne 7, 3) := by decide +kernel
theorem dX11_together_6 : decode cX11_together 6 = .ok (.iload_n 0, 1) := by decide +kernel
theorem dX11_together_7 : decode cX11_together 7 = .ok (.goto 6, 3) := by decide +kernel
theorem dX11_together_10 : decode cX11_together 10 = .ok (.iload_n 0, 1) := by decide +kernel
theorem dX11_together_11 : decode cX11_together 11 = .ok (.iload_n 1, 1) := by decide +kernel
theorem dX11_together_12 : decode cX11_together 12 = .ok (.ior, 1) := by decide +kernel
theorem dX11_together_13 : decode cX11_together 13 = .ok (.ireturn, 1) := by decide +kernel
theorem dX11_joinedOnce_0 : decode cX11_joinedOnce 0 = .ok (.iload_n 1, 1) := by decide +kernel
theorem dX11_joinedOnce_1 : decode cX11_joinedOnce 1 = .ok (.istore 8, 2) := by decide +kernel
theorem dX11_joinedOnce_3 : decode cX11_joinedOnce 3 = .ok (.iconst 0, 1) := by decide +kernel
theorem dX11_joinedOnce_4 : decode cX11_joinedOnce 4 = .ok (.istore 9, 2) := by decide +kernel
theorem dX11_joinedOnce_6 : decode cX11_joinedOnce 6 = .ok (.iload 9, 2) := by decide +kernel
theorem dX11_joinedOnce_8 : decode cX11_joinedOnce 8 = .ok (.aload_n 0, 1) := by decide +kernel
theorem dX11_joinedOnce_9 : decode cX11_joinedOnce 9 = .ok (.getfield 81, 3) := by decide +kernel
theorem dX11_joinedOnce_12 : decode cX11_joinedOnce 12 = .ok (.if_icmp .ge 142, 3) := by decide +kernel
theorem dX11_joinedOnce_15 : decode cX11_joinedOnce 15 = .ok (.iload 7, 2) := by decide +kernel
theorem dX11_joinedOnce_17 : decode cX11_joinedOnce 17 = .ok (.iload 9, 2) := by decide +kernel
theorem dX11_joinedOnce_19 : decode cX11_joinedOnce 19 = .ok (.invokestatic 99, 3) := by decide +kernel
theorem dX11_joinedOnce_22 : decode cX11_joinedOnce 22 = .ok (.ifCond .eq 7, 3) := by decide +kernel
theorem dX11_joinedOnce_25 : decode cX11_joinedOnce 25 = .ok (.iconst 1, 1) := by decide +kernel
theorem dX11_joinedOnce_26 : decode cX11_joinedOnce 26 = .ok (.goto 10, 3) := by decide +kernel
theorem dX11_joinedOnce_29 : decode cX11_joinedOnce 29 = .ok (.aload_n 0, 1) := by decide +kernel
theorem dX11_joinedOnce_30 : decode cX11_joinedOnce 30 = .ok (.getfield 13, 3) := by decide +kernel
theorem dX11_joinedOnce_33 : decode cX11_joinedOnce 33 = .ok (.iload 9, 2) := by decide +kernel
theorem dX11_joinedOnce_35 : decode cX11_joinedOnce 35 = .ok (.iaload, 1) := by decide +kernel
theorem dX11_joinedOnce_36 : decode cX11_joinedOnce 36 = .ok (.istore 10, 2) := by decide +kernel
theorem dX11_joinedOnce_38 : decode cX11_joinedOnce 38 = .ok (.iload 10, 2) := by decide +kernel
theorem dX11_joinedOnce_40 : decode cX11_joinedOnce 40 = .ok (.iload_n 3, 1) := by decide +kernel
theorem dX11_joinedOnce_41 : decode cX11_joinedOnce 41 = .ok (.invokestatic 191, 3) := by decide +kernel
theorem dX11_joinedOnce_44 : decode cX11_joinedOnce 44 = .ok (.ifCond .eq 26, 3) := by decide +kernel
theorem dX11_joinedOnce_47 : decode cX11_joinedOnce 47 = .ok (.iload 8, 2) := by decide +kernel
theorem dX11_joinedOnce_49 : decode cX11_joinedOnce 49 = .ok (.iconst 1, 1) := by decide +kernel
theorem dX11_joinedOnce_50 : decode cX11_joinedOnce 50 = .ok (.iload 9, 2) := by decide +kernel
theorem dX11_joinedOnce_52 : decode cX11_joinedOnce 52 = .ok (.ishl, 1) := by decide +kernel
theorem dX11_joinedOnce_53 : decode cX11_joinedOnce 53 = .ok (.bipush 32, 2) := by decide +kernel
theorem dX11_joinedOnce_55 : decode cX11_joinedOnce 55 = .ok (.aload_n 0, 1) := by decide +kernel
theorem dX11_joinedOnce_56 : decode cX11_joinedOnce 56 = .ok (.aload_n 2, 1) := by decide +kernel
theorem dX11_joinedOnce_57 : decode cX11_joinedOnce 57 = .ok (.iload 9, 2) := by decide +kernel
theorem dX11_joinedOnce_59 : decode cX11_joinedOnce 59 = .ok (.invokevirtual 194, 3) := by decide +kernel
theorem dX11_joinedOnce_62 : decode cX11_joinedOnce 62 = .ok (.ishl, 1) := by decide +kernel
theorem dX11_joinedOnce_63 : decode cX11_joinedOnce 63 = .ok (.ior, 1) := by decide +kernel
theorem dX11_joinedOnce_64 : decode cX11_joinedOnce 64 = .ok (.invokestatic 198, 3) := by decide +kernel
theorem dX11_joinedOnce_67 : decode cX11_joinedOnce 67 = .ok (.goto 5, 3) := by decide +kernel
theorem dX11_joinedOnce_70 : decode cX11_joinedOnce 70 = .ok (.iload 8, 2) := by decide +kernel
theorem dX11_joinedOnce_72 : decode cX11_joinedOnce 72 = .ok (.istore 8, 2) := by decide +kernel
theorem dX11_joinedOnce_74 : decode cX11_joinedOnce 74 = .ok (.iload 10, 2) := by decide +kernel
theorem dX11_joinedOnce_76 : decode cX11_joinedOnce 76 = .ok (.iconst 2, 1) := by decide +kernel
theorem dX11_joinedOnce_77 : decode cX11_joinedOnce 77 = .ok (.if_icmp .ne 19, 3) := by decide +kernel
theorem dX11_joinedOnce_80 : decode cX11_joinedOnce 80 = .ok (.iload 8, 2) := by decide +kernel
theorem dX11_joinedOnce_82 : decode cX11_joinedOnce 82 = .ok (.iconst 1, 1) := by decide +kernel
theorem dX11_joinedOnce_83 : decode cX11_joinedOnce 83 = .ok (.iload 9, 2) := by decide +kernel
theorem dX11_joinedOnce_85 : decode cX11_joinedOnce 85 = .ok (.ishl, 1) := by decide +kernel
theorem dX11_joinedOnce_86 : decode cX11_joinedOnce 86 = .ok (.sipush 1024, 3) := by decide +kernel
theorem dX11_joinedOnce_89 : decode cX11_joinedOnce 89 = .ok (.ior, 1) := by decide +kernel
theorem dX11_joinedOnce_90 : decode cX11_joinedOnce 90 = .ok (.invokestatic 198, 3) := by decide +kernel
theorem dX11_joinedOnce_93 : decode cX11_joinedOnce 93 = .ok (.goto 5, 3) := by decide +kernel
theorem dX11_joinedOnce_96 : decode cX11_joinedOnce 96 = .ok (.iload 8, 2) := by decide +kernel
theorem dX11_joinedOnce_98 : decode cX11_joinedOnce 98 = .ok (.istore 8, 2) := by decide +kernel
theorem dX11_joinedOnce_100 : decode cX11_joinedOnce 100 = .ok (.iconst 0, 1) := by decide +kernel
theorem dX11_joinedOnce_101 : decode cX11_joinedOnce 101 = .ok (.istore 11, 2) := by decide +kernel
theorem dX11_joinedOnce_103 : decode cX11_joinedOnce 103 = .ok (.iload 11, 2) := by decide +kernel
theorem dX11_joinedOnce_105 : decode cX11_joinedOnce 105 = .ok (.iload 9, 2) := by decide +kernel
theorem dX11_joinedOnce_107 : decode cX11_joinedOnce 107 = .ok (.if_icmp .ge 41, 3) := by decide +kernel
theorem dX11_joinedOnce_110 : decode cX11_joinedOnce 110 = .ok (.aload_n 0, 1) := by decide +kernel
theorem dX11_joinedOnce_111 : decode cX11_joinedOnce 111 = .ok (.iload 11, 2) := by decide +kernel
theorem dX11_joinedOnce_113 : decode cX11_joinedOnce 113 = .ok (.iload 9, 2) := by decide +kernel
theorem dX11_joinedOnce_115 : decode cX11_joinedOnce 115 = .ok (.invokevirtual 103, 3) := by decide +kernel
theorem dX11_joinedOnce_118 : decode cX11_joinedOnce 118 = .ok (.ifCond .eq 20, 3) := by decide +kernel
theorem dX11_joinedOnce_121 : decode cX11_joinedOnce 121 = .ok (.iload 8, 2) := by decide +kernel
theorem dX11_joinedOnce_123 : decode cX11_joinedOnce 123 = .ok (.iconst 1, 1) := by decide +kernel
theorem dX11_joinedOnce_124 : decode cX11_joinedOnce 124 = .ok (.iload 11, 2) := by decide +kernel
theorem dX11_joinedOnce_126 : decode cX11_joinedOnce 126 = .ok (.ishl, 1) := by decide +kernel
theorem dX11_joinedOnce_127 : decode cX11_joinedOnce 127 = .ok (.iconst 1, 1) := by decide +kernel
theorem dX11_joinedOnce_128 : decode cX11_joinedOnce 128 = .ok (.iload 9, 2) := by decide +kernel
theorem dX11_joinedOnce_130 : decode cX11_joinedOnce 130 = .ok (.ishl, 1) := by decide +kernel
theorem dX11_joinedOnce_131 : decode cX11_joinedOnce 131 = .ok (.ior, 1) := by decide +kernel
theorem dX11_joinedOnce_132 : decode cX11_joinedOnce 132 = .ok (.invokestatic 198, 3) := by decide +kernel
theorem dX11_joinedOnce_135 : decode cX11_joinedOnce 135 = .ok (.goto 5, 3) := by decide +kernel
theorem dX11_joinedOnce_138 : decode cX11_joinedOnce 138 = .ok (.iload 8, 2) := by decide +kernel
theorem dX11_joinedOnce_140 : decode cX11_joinedOnce 140 = .ok (.istore 8, 2) := by decide +kernel
theorem dX11_joinedOnce_142 : decode cX11_joinedOnce 142 = .ok (.iinc 11 1, 3) := by decide +kernel
theorem dX11_joinedOnce_145 : decode cX11_joinedOnce 145 = .ok (.goto (-42), 3) := by decide +kernel
theorem dX11_joinedOnce_148 : decode cX11_joinedOnce 148 = .ok (.iinc 9 1, 3) := by decide +kernel
theorem dX11_joinedOnce_151 : decode cX11_joinedOnce 151 = .ok (.goto (-145), 3) := by decide +kernel
theorem dX11_joinedOnce_154 : decode cX11_joinedOnce 154 = .ok (.iconst 1, 1) := by decide +kernel
theorem dX11_joinedOnce_155 : decode cX11_joinedOnce 155 = .ok (.istore 9, 2) := by decide +kernel
theorem dX11_joinedOnce_157 : decode cX11_joinedOnce 157 = .ok (.iload 9, 2) := by decide +kernel
theorem dX11_joinedOnce_159 : decode cX11_joinedOnce 159 = .ok (.iconst 5, 1) := by decide +kernel
theorem dX11_joinedOnce_160 : decode cX11_joinedOnce 160 = .ok (.if_icmp .gt 100, 3) := by decide +kernel
theorem dX11_joinedOnce_163 : decode cX11_joinedOnce 163 = .ok (.iconst 0, 1) := by decide +kernel
theorem dX11_joinedOnce_164 : decode cX11_joinedOnce 164 = .ok (.istore 10, 2) := by decide +kernel
theorem dX11_joinedOnce_166 : decode cX11_joinedOnce 166 = .ok (.iconst 0, 1) := by decide +kernel
theorem dX11_joinedOnce_167 : decode cX11_joinedOnce 167 = .ok (.istore 11, 2) := by decide +kernel
theorem dX11_joinedOnce_169 : decode cX11_joinedOnce 169 = .ok (.iconst 0, 1) := by decide +kernel
theorem dX11_joinedOnce_170 : decode cX11_joinedOnce 170 = .ok (.istore 12, 2) := by decide +kernel
theorem dX11_joinedOnce_172 : decode cX11_joinedOnce 172 = .ok (.iload 12, 2) := by decide +kernel
theorem dX11_joinedOnce_174 : decode cX11_joinedOnce 174 = .ok (.aload_n 0, 1) := by decide +kernel
theorem dX11_joinedOnce_175 : decode cX11_joinedOnce 175 = .ok (.getfield 81, 3) := by decide +kernel
theorem dX11_joinedOnce_178 : decode cX11_joinedOnce 178 = .ok (.if_icmp .ge 62, 3) := by decide +kernel
theorem dX11_joinedOnce_181 : decode cX11_joinedOnce 181 = .ok (.iload 10, 2) := by decide +kernel
theorem dX11_joinedOnce_183 : decode cX11_joinedOnce 183 = .ok (.aload 4, 2) := by decide +kernel
theorem dX11_joinedOnce_185 : decode cX11_joinedOnce 185 = .ok (.iload 6, 2) := by decide +kernel
theorem dX11_joinedOnce_187 : decode cX11_joinedOnce 187 = .ok (.iload 12, 2) := by decide +kernel
theorem dX11_joinedOnce_189 : decode cX11_joinedOnce 189 = .ok (.iadd, 1) := by decide +kernel
theorem dX11_joinedOnce_190 : decode cX11_joinedOnce 190 = .ok (.iaload, 1) := by decide +kernel
theorem dX11_joinedOnce_191 : decode cX11_joinedOnce 191 = .ok (.iload 9, 2) := by decide +kernel
theorem dX11_joinedOnce_193 : decode cX11_joinedOnce 193 = .ok (.if_icmp .ne 10, 3) := by decide +kernel
theorem dX11_joinedOnce_196 : decode cX11_joinedOnce 196 = .ok (.iconst 1, 1) := by decide +kernel
theorem dX11_joinedOnce_197 : decode cX11_joinedOnce 197 = .ok (.iload 12, 2) := by decide +kernel
theorem dX11_joinedOnce_199 : decode cX11_joinedOnce 199 = .ok (.ishl, 1) := by decide +kernel
theorem dX11_joinedOnce_200 : decode cX11_joinedOnce 200 = .ok (.goto 4, 3) := by decide +kernel
theorem dX11_joinedOnce_203 : decode cX11_joinedOnce 203 = .ok (.iconst 0, 1) := by decide +kernel
theorem dX11_joinedOnce_204 : decode cX11_joinedOnce 204 = .ok (.ior, 1) := by decide +kernel
theorem dX11_joinedOnce_205 : decode cX11_joinedOnce 205 = .ok (.istore 10, 2) := by decide +kernel
theorem dX11_joinedOnce_207 : decode cX11_joinedOnce 207 = .ok (.iload 11, 2) := by decide +kernel
theorem dX11_joinedOnce_209 : decode cX11_joinedOnce 209 = .ok (.aload 5, 2) := by decide +kernel
theorem dX11_joinedOnce_211 : decode cX11_joinedOnce 211 = .ok (.iload 6, 2) := by decide +kernel
theorem dX11_joinedOnce_213 : decode cX11_joinedOnce 213 = .ok (.iload 12, 2) := by decide +kernel
theorem dX11_joinedOnce_215 : decode cX11_joinedOnce 215 = .ok (.iadd, 1) := by decide +kernel
theorem dX11_joinedOnce_216 : decode cX11_joinedOnce 216 = .ok (.iaload, 1) := by decide +kernel
theorem dX11_joinedOnce_217 : decode cX11_joinedOnce 217 = .ok (.iload 9, 2) := by decide +kernel
theorem dX11_joinedOnce_219 : decode cX11_joinedOnce 219 = .ok (.if_icmp .ne 11, 3) := by decide +kernel
theorem dX11_joinedOnce_222 : decode cX11_joinedOnce 222 = .ok (.bipush 32, 2) := by decide +kernel
theorem dX11_joinedOnce_224 : decode cX11_joinedOnce 224 = .ok (.iload 12, 2) := by decide +kernel
theorem dX11_joinedOnce_226 : decode cX11_joinedOnce 226 = .ok (.ishl, 1) := by decide +kernel
theorem dX11_joinedOnce_227 : decode cX11_joinedOnce 227 = .ok (.goto 4, 3) := by decide +kernel
theorem dX11_joinedOnce_230 : decode cX11_joinedOnce 230 = .ok (.iconst 0, 1) := by decide +kernel
theorem dX11_joinedOnce_231 : decode cX11_joinedOnce 231 = .ok (.ior, 1) := by decide +kernel
theorem dX11_joinedOnce_232 : decode cX11_joinedOnce 232 = .ok (.istore 11, 2) := by decide +kernel
theorem dX11_joinedOnce_234 : decode cX11_joinedOnce 234 = .ok (.iinc 12 1, 3) := by decide +kernel
theorem dX11_joinedOnce_237 : decode cX11_joinedOnce 237 = .ok (.goto (-65), 3) := by decide +kernel
theorem dX11_joinedOnce_240 : decode cX11_joinedOnce 240 = .ok (.iload 8, 2) := by decide +kernel
theorem dX11_joinedOnce_242 : decode cX11_joinedOnce 242 = .ok (.iload 10, 2) := by decide +kernel
theorem dX11_joinedOnce_244 : decode cX11_joinedOnce 244 = .ok (.invokestatic 198, 3) := by decide +kernel
theorem dX11_joinedOnce_247 : decode cX11_joinedOnce 247 = .ok (.iload 11, 2) := by decide +kernel
theorem dX11_joinedOnce_249 : decode cX11_joinedOnce 249 = .ok (.invokestatic 198, 3) := by decide +kernel
theorem dX11_joinedOnce_252 : decode cX11_joinedOnce 252 = .ok (.istore 8, 2) := by decide +kernel
theorem dX11_joinedOnce_254 : decode cX11_joinedOnce 254 = .ok (.iinc 9 1, 3) := by decide +kernel
theorem dX11_joinedOnce_257 : decode cX11_joinedOnce 257 = .ok (.goto (-100), 3) := by decide +kernel
theorem dX11_joinedOnce_260 : decode cX11_joinedOnce 260 = .ok (.iload 8, 2) := by decide +kernel
theorem dX11_joinedOnce_262 : decode cX11_joinedOnce 262 = .ok (.ireturn, 1) := by decide +kernel
theorem dX11_joined_0 : decode cX11_joined 0 = .ok (.iconst 1, 1) := by decide +kernel
theorem dX11_joined_1 : decode cX11_joined 1 = .ok (.iload_n 1, 1) := by decide +kernel
theorem dX11_joined_2 : decode cX11_joined 2 = .ok (.ishl, 1) := by decide +kernel
theorem dX11_joined_3 : decode cX11_joined 3 = .ok (.istore 8, 2) := by decide +kernel
theorem dX11_joined_5 : decode cX11_joined 5 = .ok (.aload_n 0, 1) := by decide +kernel
theorem dX11_joined_6 : decode cX11_joined 6 = .ok (.iload 8, 2) := by decide +kernel
theorem dX11_joined_8 : decode cX11_joined 8 = .ok (.aload_n 2, 1) := by decide +kernel
theorem dX11_joined_9 : decode cX11_joined 9 = .ok (.iload_n 3, 1) := by decide +kernel
theorem dX11_joined_10 : decode cX11_joined 10 = .ok (.aload 4, 2) := by decide +kernel
theorem dX11_joined_12 : decode cX11_joined 12 = .ok (.aload 5, 2) := by decide +kernel
theorem dX11_joined_14 : decode cX11_joined 14 = .ok (.iload 6, 2) := by decide +kernel
theorem dX11_joined_16 : decode cX11_joined 16 = .ok (.iload 7, 2) := by decide +kernel
theorem dX11_joined_18 : decode cX11_joined 18 = .ok (.invokevirtual 201, 3) := by decide +kernel
theorem dX11_joined_21 : decode cX11_joined 21 = .ok (.istore 9, 2) := by decide +kernel
theorem dX11_joined_23 : decode cX11_joined 23 = .ok (.iload 9, 2) := by decide +kernel
theorem dX11_joined_25 : decode cX11_joined 25 = .ok (.iload 8, 2) := by decide +kernel
theorem dX11_joined_27 : decode cX11_joined 27 = .ok (.if_icmp .eq 28, 3) := by decide +kernel
theorem dX11_joined_30 : decode cX11_joined 30 = .ok (.iload 9, 2) := by decide +kernel
theorem dX11_joined_32 : decode cX11_joined 32 = .ok (.istore 8, 2) := by decide +kernel
theorem dX11_joined_34 : decode cX11_joined 34 = .ok (.aload_n 0, 1) := by decide +kernel
theorem dX11_joined_35 : decode cX11_joined 35 = .ok (.iload 8, 2) := by decide +kernel
theorem dX11_joined_37 : decode cX11_joined 37 = .ok (.aload_n 2, 1) := by decide +kernel
theorem dX11_joined_38 : decode cX11_joined 38 = .ok (.iload_n 3, 1) := by decide +kernel
theorem dX11_joined_39 : decode cX11_joined 39 = .ok (.aload 4, 2) := by decide +kernel
theorem dX11_joined_41 : decode cX11_joined 41 = .ok (.aload 5, 2) := by decide +kernel
theorem dX11_joined_43 : decode cX11_joined 43 = .ok (.iload 6, 2) := by decide +kernel
theorem dX11_joined_45 : decode cX11_joined 45 = .ok (.iload 7, 2) := by decide +kernel
theorem dX11_joined_47 : decode cX11_joined 47 = .ok (.invokevirtual 201, 3) := by decide +kernel
theorem dX11_joined_50 : decode cX11_joined 50 = .ok (.istore 9, 2) := by decide +kernel
theorem dX11_joined_52 : decode cX11_joined 52 = .ok (.goto (-29), 3) := by decide +kernel
theorem dX11_joined_55 : decode cX11_joined 55 = .ok (.iload 8, 2) := by decide +kernel
theorem dX11_joined_57 : decode cX11_joined 57 = .ok (.ireturn, 1) := by decide +kernel
theorem dX11_netNow_0 : decode cX11_netNow 0 = .ok (.aload_n 0, 1) := by decide +kernel
theorem dX11_netNow_1 : decode cX11_netNow 1 = .ok (.iconst 5, 1) := by decide +kernel
theorem dX11_netNow_2 : decode cX11_netNow 2 = .ok (.iload_n 1, 1) := by decide +kernel
theorem dX11_netNow_3 : decode cX11_netNow 3 = .ok (.imul, 1) := by decide +kernel
theorem dX11_netNow_4 : decode cX11_netNow 4 = .ok (.iload_n 2, 1) := by decide +kernel
theorem dX11_netNow_5 : decode cX11_netNow 5 = .ok (.iadd, 1) := by decide +kernel
theorem dX11_netNow_6 : decode cX11_netNow 6 = .ok (.aload_n 0, 1) := by decide +kernel
theorem dX11_netNow_7 : decode cX11_netNow 7 = .ok (.getfield 7, 3) := by decide +kernel
theorem dX11_netNow_10 : decode cX11_netNow 10 = .ok (.aload_n 0, 1) := by decide +kernel
theorem dX11_netNow_11 : decode cX11_netNow 11 = .ok (.getfield 173, 3) := by decide +kernel
theorem dX11_netNow_14 : decode cX11_netNow 14 = .ok (.aload_n 0, 1) := by decide +kernel
theorem dX11_netNow_15 : decode cX11_netNow 15 = .ok (.getfield 16, 3) := by decide +kernel
theorem dX11_netNow_18 : decode cX11_netNow 18 = .ok (.aload_n 0, 1) := by decide +kernel
theorem dX11_netNow_19 : decode cX11_netNow 19 = .ok (.getfield 19, 3) := by decide +kernel
theorem dX11_netNow_22 : decode cX11_netNow 22 = .ok (.iconst 0, 1) := by decide +kernel
theorem dX11_netNow_23 : decode cX11_netNow 23 = .ok (.iload_n 3, 1) := by decide +kernel
theorem dX11_netNow_24 : decode cX11_netNow 24 = .ok (.invokevirtual 205, 3) := by decide +kernel
theorem dX11_netNow_27 : decode cX11_netNow 27 = .ok (.ireturn, 1) := by decide +kernel
theorem dX11_bitOf_0 : decode cX11_bitOf 0 = .ok (.iload_n 1, 1) := by decide +kernel
theorem dX11_bitOf_1 : decode cX11_bitOf 1 = .ok (.iconst (-1), 1) := by decide +kernel
theorem dX11_bitOf_2 : decode cX11_bitOf 2 = .ok (.if_icmp .ne 8, 3) := by decide +kernel
theorem dX11_bitOf_5 : decode cX11_bitOf 5 = .ok (.bipush 10, 2) := by decide +kernel
theorem dX11_bitOf_7 : decode cX11_bitOf 7 = .ok (.goto 8, 3) := by decide +kernel
theorem dX11_bitOf_10 : decode cX11_bitOf 10 = .ok (.iconst 5, 1) := by decide +kernel
theorem dX11_bitOf_11 : decode cX11_bitOf 11 = .ok (.iload_n 0, 1) := by decide +kernel
theorem dX11_bitOf_12 : decode cX11_bitOf 12 = .ok (.imul, 1) := by decide +kernel
theorem dX11_bitOf_13 : decode cX11_bitOf 13 = .ok (.iload_n 1, 1) := by decide +kernel
theorem dX11_bitOf_14 : decode cX11_bitOf 14 = .ok (.iadd, 1) := by decide +kernel
theorem dX11_bitOf_15 : decode cX11_bitOf 15 = .ok (.ireturn, 1) := by decide +kernel
theorem dX11_ringsNow_0 : decode cX11_ringsNow 0 = .ok (.aload_n 0, 1) := by decide +kernel
theorem dX11_ringsNow_1 : decode cX11_ringsNow 1 = .ok (.aload_n 0, 1) := by decide +kernel
theorem dX11_ringsNow_2 : decode cX11_ringsNow 2 = .ok (.getfield 170, 3) := by decide +kernel
theorem dX11_ringsNow_5 : decode cX11_ringsNow 5 = .ok (.iload_n 1, 1) := by decide +kernel
theorem dX11_ringsNow_6 : decode cX11_ringsNow 6 = .ok (.iload_n 3, 1) := by decide +kernel
theorem dX11_ringsNow_7 : decode cX11_ringsNow 7 = .ok (.invokevirtual 208, 3) := by decide +kernel
theorem dX11_ringsNow_10 : decode cX11_ringsNow 10 = .ok (.aload_n 0, 1) := by decide +kernel
theorem dX11_ringsNow_11 : decode cX11_ringsNow 11 = .ok (.getfield 170, 3) := by decide +kernel
theorem dX11_ringsNow_14 : decode cX11_ringsNow 14 = .ok (.iload_n 2, 1) := by decide +kernel
theorem dX11_ringsNow_15 : decode cX11_ringsNow 15 = .ok (.invokestatic 212, 3) := by decide +kernel
theorem dX11_ringsNow_18 : decode cX11_ringsNow 18 = .ok (.invokestatic 99, 3) := by decide +kernel
theorem dX11_ringsNow_21 : decode cX11_ringsNow 21 = .ok (.ireturn, 1) := by decide +kernel
theorem dX11_goodSet_0 : decode cX11_goodSet 0 = .ok (.iconst 0, 1) := by decide +kernel
theorem dX11_goodSet_1 : decode cX11_goodSet 1 = .ok (.istore_n 1, 1) := by decide +kernel
theorem dX11_goodSet_2 : decode cX11_goodSet 2 = .ok (.iconst 0, 1) := by decide +kernel
theorem dX11_goodSet_3 : decode cX11_goodSet 3 = .ok (.istore_n 2, 1) := by decide +kernel
theorem dX11_goodSet_4 : decode cX11_goodSet 4 = .ok (.iload_n 2, 1) := by decide +kernel
theorem dX11_goodSet_5 : decode cX11_goodSet 5 = .ok (.aload_n 0, 1) := by decide +kernel
theorem dX11_goodSet_6 : decode cX11_goodSet 6 = .ok (.getfield 81, 3) := by decide +kernel
theorem dX11_goodSet_9 : decode cX11_goodSet 9 = .ok (.if_icmp .ge 43, 3) := by decide +kernel
theorem dX11_goodSet_12 : decode cX11_goodSet 12 = .ok (.iload_n 1, 1) := by decide +kernel
theorem dX11_goodSet_13 : decode cX11_goodSet 13 = .ok (.aload_n 0, 1) := by decide +kernel
theorem dX11_goodSet_14 : decode cX11_goodSet 14 = .ok (.iconst 1, 1) := by decide +kernel
theorem dX11_goodSet_15 : decode cX11_goodSet 15 = .ok (.iload_n 2, 1) := by decide +kernel
theorem dX11_goodSet_16 : decode cX11_goodSet 16 = .ok (.iconst 0, 1) := by decide +kernel
theorem dX11_goodSet_17 : decode cX11_goodSet 17 = .ok (.invokevirtual 208, 3) := by decide +kernel
theorem dX11_goodSet_20 : decode cX11_goodSet 20 = .ok (.aload_n 0, 1) := by decide +kernel
theorem dX11_goodSet_21 : decode cX11_goodSet 21 = .ok (.getfield 7, 3) := by decide +kernel
theorem dX11_goodSet_24 : decode cX11_goodSet 24 = .ok (.iload_n 2, 1) := by decide +kernel
theorem dX11_goodSet_25 : decode cX11_goodSet 25 = .ok (.iaload, 1) := by decide +kernel
theorem dX11_goodSet_26 : decode cX11_goodSet 26 = .ok (.invokestatic 99, 3) := by decide +kernel
theorem dX11_goodSet_29 : decode cX11_goodSet 29 = .ok (.ifCond .eq 14, 3) := by decide +kernel
theorem dX11_goodSet_32 : decode cX11_goodSet 32 = .ok (.iconst 1, 1) := by decide +kernel
theorem dX11_goodSet_33 : decode cX11_goodSet 33 = .ok (.aload_n 0, 1) := by decide +kernel
theorem dX11_goodSet_34 : decode cX11_goodSet 34 = .ok (.getfield 7, 3) := by decide +kernel
theorem dX11_goodSet_37 : decode cX11_goodSet 37 = .ok (.iload_n 2, 1) := by decide +kernel
theorem dX11_goodSet_38 : decode cX11_goodSet 38 = .ok (.iaload, 1) := by decide +kernel
theorem dX11_goodSet_39 : decode cX11_goodSet 39 = .ok (.ishl, 1) := by decide +kernel
theorem dX11_goodSet_40 : decode cX11_goodSet 40 = .ok (.goto 4, 3) := by decide +kernel
theorem dX11_goodSet_43 : decode cX11_goodSet 43 = .ok (.iconst 0, 1) := by decide +kernel
theorem dX11_goodSet_44 : decode cX11_goodSet 44 = .ok (.ior, 1) := by decide +kernel
theorem dX11_goodSet_45 : decode cX11_goodSet 45 = .ok (.istore_n 1, 1) := by decide +kernel
theorem dX11_goodSet_46 : decode cX11_goodSet 46 = .ok (.iinc 2 1, 3) := by decide +kernel
theorem dX11_goodSet_49 : decode cX11_goodSet 49 = .ok (.goto (-45), 3) := by decide +kernel
theorem dX11_goodSet_52 : decode cX11_goodSet 52 = .ok (.iload_n 1, 1) := by decide +kernel
theorem dX11_goodSet_53 : decode cX11_goodSet 53 = .ok (.ireturn, 1) := by decide +kernel
theorem dX11_wire_0 : decode cX11_wire 0 = .ok (.aload_n 0, 1) := by decide +kernel
theorem dX11_wire_1 : decode cX11_wire 1 = .ok (.iload_n 1, 1) := by decide +kernel
theorem dX11_wire_2 : decode cX11_wire 2 = .ok (.invokevirtual 88, 3) := by decide +kernel
theorem dX11_wire_5 : decode cX11_wire 5 = .ok (.ifCond .ne 6, 3) := by decide +kernel
theorem dX11_wire_8 : decode cX11_wire 8 = .ok (.ldc 215, 2) := by decide +kernel
theorem dX11_wire_10 : decode cX11_wire 10 = .ok (.ireturn, 1) := by decide +kernel
theorem dX11_wire_11 : decode cX11_wire 11 = .ok (.iload_n 2, 1) := by decide +kernel
theorem dX11_wire_12 : decode cX11_wire 12 = .ok (.iconst 0, 1) := by decide +kernel
theorem dX11_wire_13 : decode cX11_wire 13 = .ok (.iconst 3, 1) := by decide +kernel
theorem dX11_wire_14 : decode cX11_wire 14 = .ok (.invokestatic 84, 3) := by decide +kernel
theorem dX11_wire_17 : decode cX11_wire 17 = .ok (.ifCond .ne 6, 3) := by decide +kernel
theorem dX11_wire_20 : decode cX11_wire 20 = .ok (.ldc 106, 2) := by decide +kernel
theorem dX11_wire_22 : decode cX11_wire 22 = .ok (.ireturn, 1) := by decide +kernel
theorem dX11_wire_23 : decode cX11_wire 23 = .ok (.iload_n 2, 1) := by decide +kernel
theorem dX11_wire_24 : decode cX11_wire 24 = .ok (.ifCond .ne 12, 3) := by decide +kernel
theorem dX11_wire_27 : decode cX11_wire 27 = .ok (.aload_n 0, 1) := by decide +kernel
theorem dX11_wire_28 : decode cX11_wire 28 = .ok (.getfield 13, 3) := by decide +kernel
theorem dX11_wire_31 : decode cX11_wire 31 = .ok (.iload_n 1, 1) := by decide +kernel
theorem dX11_wire_32 : decode cX11_wire 32 = .ok (.iaload, 1) := by decide +kernel
theorem dX11_wire_33 : decode cX11_wire 33 = .ok (.goto 55, 3) := by decide +kernel
theorem dX11_wire_36 : decode cX11_wire 36 = .ok (.iload_n 2, 1) := by decide +kernel
theorem dX11_wire_37 : decode cX11_wire 37 = .ok (.iconst 1, 1) := by decide +kernel
theorem dX11_wire_38 : decode cX11_wire 38 = .ok (.if_icmp .ne 15, 3) := by decide +kernel
theorem dX11_wire_41 : decode cX11_wire 41 = .ok (.aload_n 0, 1) := by decide +kernel
theorem dX11_wire_42 : decode cX11_wire 42 = .ok (.aload_n 0, 1) := by decide +kernel
theorem dX11_wire_43 : decode cX11_wire 43 = .ok (.getfield 7, 3) := by decide +kernel
theorem dX11_wire_46 : decode cX11_wire 46 = .ok (.iload_n 1, 1) := by decide +kernel
theorem dX11_wire_47 : decode cX11_wire 47 = .ok (.invokevirtual 194, 3) := by decide +kernel
theorem dX11_wire_50 : decode cX11_wire 50 = .ok (.goto 38, 3) := by decide +kernel
theorem dX11_wire_53 : decode cX11_wire 53 = .ok (.iload_n 2, 1) := by decide +kernel
theorem dX11_wire_54 : decode cX11_wire 54 = .ok (.iconst 2, 1) := by decide +kernel
theorem dX11_wire_55 : decode cX11_wire 55 = .ok (.if_icmp .ne 27, 3) := by decide +kernel
theorem dX11_wire_58 : decode cX11_wire 58 = .ok (.aload_n 0, 1) := by decide +kernel
theorem dX11_wire_59 : decode cX11_wire 59 = .ok (.getfield 13, 3) := by decide +kernel
theorem dX11_wire_62 : decode cX11_wire 62 = .ok (.iload_n 1, 1) := by decide +kernel
theorem dX11_wire_63 : decode cX11_wire 63 = .ok (.iaload, 1) := by decide +kernel
theorem dX11_wire_64 : decode cX11_wire 64 = .ok (.aload_n 0, 1) := by decide +kernel
theorem dX11_wire_65 : decode cX11_wire 65 = .ok (.getfield 173, 3) := by decide +kernel
theorem dX11_wire_68 : decode cX11_wire 68 = .ok (.invokestatic 191, 3) := by decide +kernel
theorem dX11_wire_71 : decode cX11_wire 71 = .ok (.ifCond .eq 7, 3) := by decide +kernel
theorem dX11_wire_74 : decode cX11_wire 74 = .ok (.iconst 1, 1) := by decide +kernel
theorem dX11_wire_75 : decode cX11_wire 75 = .ok (.goto 13, 3) := by decide +kernel
theorem dX11_wire_78 : decode cX11_wire 78 = .ok (.iconst 0, 1) := by decide +kernel
theorem dX11_wire_79 : decode cX11_wire 79 = .ok (.goto 9, 3) := by decide +kernel
theorem dX11_wire_82 : decode cX11_wire 82 = .ok (.aload_n 0, 1) := by decide +kernel
theorem dX11_wire_83 : decode cX11_wire 83 = .ok (.getfield 16, 3) := by decide +kernel
theorem dX11_wire_86 : decode cX11_wire 86 = .ok (.iload_n 1, 1) := by decide +kernel
theorem dX11_wire_87 : decode cX11_wire 87 = .ok (.iaload, 1) := by decide +kernel
theorem dX11_wire_88 : decode cX11_wire 88 = .ok (.ireturn, 1) := by decide +kernel
theorem dX11_net_0 : decode cX11_net 0 = .ok (.aload_n 0, 1) := by decide +kernel
theorem dX11_net_1 : decode cX11_net 1 = .ok (.iload_n 2, 1) := by decide +kernel
theorem dX11_net_2 : decode cX11_net 2 = .ok (.invokevirtual 88, 3) := by decide +kernel
theorem dX11_net_5 : decode cX11_net 5 = .ok (.ifCond .ne 6, 3) := by decide +kernel
theorem dX11_net_8 : decode cX11_net 8 = .ok (.ldc 215, 2) := by decide +kernel
theorem dX11_net_10 : decode cX11_net 10 = .ok (.ireturn, 1) := by decide +kernel
theorem dX11_net_11 : decode cX11_net 11 = .ok (.iload_n 1, 1) := by decide +kernel
theorem dX11_net_12 : decode cX11_net 12 = .ok (.iconst 0, 1) := by decide +kernel
theorem dX11_net_13 : decode cX11_net 13 = .ok (.iconst 1, 1) := by decide +kernel
theorem dX11_net_14 : decode cX11_net 14 = .ok (.invokestatic 84, 3) := by decide +kernel
theorem dX11_net_17 : decode cX11_net 17 = .ok (.ifCond .eq 13, 3) := by decide +kernel
theorem dX11_net_20 : decode cX11_net 20 = .ok (.aload_n 0, 1) := by decide +kernel
theorem dX11_net_21 : decode cX11_net 21 = .ok (.iload_n 1, 1) := by decide +kernel
theorem dX11_net_22 : decode cX11_net 22 = .ok (.iload_n 2, 1) := by decide +kernel
theorem dX11_net_23 : decode cX11_net 23 = .ok (.iconst 0, 1) := by decide +kernel
theorem dX11_net_24 : decode cX11_net 24 = .ok (.invokevirtual 208, 3) := by decide +kernel
theorem dX11_net_27 : decode cX11_net 27 = .ok (.goto 5, 3) := by decide +kernel
theorem dX11_net_30 : decode cX11_net 30 = .ok (.ldc 106, 2) := by decide +kernel
theorem dX11_net_32 : decode cX11_net 32 = .ok (.ireturn, 1) := by decide +kernel
theorem dX11_rings_0 : decode cX11_rings 0 = .ok (.aload_n 0, 1) := by decide +kernel
theorem dX11_rings_1 : decode cX11_rings 1 = .ok (.iload_n 1, 1) := by decide +kernel
theorem dX11_rings_2 : decode cX11_rings 2 = .ok (.iload_n 2, 1) := by decide +kernel
theorem dX11_rings_3 : decode cX11_rings 3 = .ok (.invokevirtual 216, 3) := by decide +kernel
theorem dX11_rings_6 : decode cX11_rings 6 = .ok (.ifCond .ne 6, 3) := by decide +kernel
theorem dX11_rings_9 : decode cX11_rings 9 = .ok (.ldc 215, 2) := by decide +kernel
theorem dX11_rings_11 : decode cX11_rings 11 = .ok (.ireturn, 1) := by decide +kernel
theorem dX11_rings_12 : decode cX11_rings 12 = .ok (.aload_n 0, 1) := by decide +kernel
theorem dX11_rings_13 : decode cX11_rings 13 = .ok (.iload_n 1, 1) := by decide +kernel
theorem dX11_rings_14 : decode cX11_rings 14 = .ok (.iload_n 2, 1) := by decide +kernel
theorem dX11_rings_15 : decode cX11_rings 15 = .ok (.iconst 0, 1) := by decide +kernel
theorem dX11_rings_16 : decode cX11_rings 16 = .ok (.invokevirtual 219, 3) := by decide +kernel
theorem dX11_rings_19 : decode cX11_rings 19 = .ok (.ifCond .eq 7, 3) := by decide +kernel
theorem dX11_rings_22 : decode cX11_rings 22 = .ok (.iconst 1, 1) := by decide +kernel
theorem dX11_rings_23 : decode cX11_rings 23 = .ok (.goto 4, 3) := by decide +kernel
theorem dX11_rings_26 : decode cX11_rings 26 = .ok (.iconst 0, 1) := by decide +kernel
theorem dX11_rings_27 : decode cX11_rings 27 = .ok (.ireturn, 1) := by decide +kernel
theorem dX11_touches_0 : decode cX11_touches 0 = .ok (.aload_n 0, 1) := by decide +kernel
theorem dX11_touches_1 : decode cX11_touches 1 = .ok (.iload_n 1, 1) := by decide +kernel
theorem dX11_touches_2 : decode cX11_touches 2 = .ok (.invokevirtual 88, 3) := by decide +kernel
theorem dX11_touches_5 : decode cX11_touches 5 = .ok (.ifCond .eq 16, 3) := by decide +kernel
theorem dX11_touches_8 : decode cX11_touches 8 = .ok (.aload_n 0, 1) := by decide +kernel
theorem dX11_touches_9 : decode cX11_touches 9 = .ok (.iload_n 2, 1) := by decide +kernel
theorem dX11_touches_10 : decode cX11_touches 10 = .ok (.invokevirtual 88, 3) := by decide +kernel
theorem dX11_touches_13 : decode cX11_touches 13 = .ok (.ifCond .eq 8, 3) := by decide +kernel
theorem dX11_touches_16 : decode cX11_touches 16 = .ok (.iload_n 1, 1) := by decide +kernel
theorem dX11_touches_17 : decode cX11_touches 17 = .ok (.iload_n 2, 1) := by decide +kernel
theorem dX11_touches_18 : decode cX11_touches 18 = .ok (.if_icmp .ne 6, 3) := by decide +kernel
theorem dX11_touches_21 : decode cX11_touches 21 = .ok (.ldc 215, 2) := by decide +kernel
theorem dX11_touches_23 : decode cX11_touches 23 = .ok (.ireturn, 1) := by decide +kernel
theorem dX11_touches_24 : decode cX11_touches 24 = .ok (.aload_n 0, 1) := by decide +kernel
theorem dX11_touches_25 : decode cX11_touches 25 = .ok (.iload_n 1, 1) := by decide +kernel
theorem dX11_touches_26 : decode cX11_touches 26 = .ok (.iload_n 2, 1) := by decide +kernel
theorem dX11_touches_27 : decode cX11_touches 27 = .ok (.invokevirtual 103, 3) := by decide +kernel
theorem dX11_touches_30 : decode cX11_touches 30 = .ok (.ifCond .eq 7, 3) := by decide +kernel
theorem dX11_touches_33 : decode cX11_touches 33 = .ok (.iconst 1, 1) := by decide +kernel
theorem dX11_touches_34 : decode cX11_touches 34 = .ok (.goto 4, 3) := by decide +kernel
theorem dX11_touches_37 : decode cX11_touches 37 = .ok (.iconst 0, 1) := by decide +kernel
theorem dX11_touches_38 : decode cX11_touches 38 = .ok (.ireturn, 1) := by decide +kernel
theorem dX11_lays_0 : decode cX11_lays 0 = .ok (.aload_n 1, 1) := by decide +kernel
theorem dX11_lays_1 : decode cX11_lays 1 = .ok (.iload_n 2, 1) := by decide +kernel
theorem dX11_lays_2 : decode cX11_lays 2 = .ok (.aload_n 0, 1) := by decide +kernel
theorem dX11_lays_3 : decode cX11_lays 3 = .ok (.getfield 170, 3) := by decide +kernel
theorem dX11_lays_6 : decode cX11_lays 6 = .ok (.iastore, 1) := by decide +kernel
theorem dX11_lays_7 : decode cX11_lays 7 = .ok (.aload_n 1, 1) := by decide +kernel
theorem dX11_lays_8 : decode cX11_lays 8 = .ok (.iload_n 2, 1) := by decide +kernel
theorem dX11_lays_9 : decode cX11_lays 9 = .ok (.iconst 1, 1) := by decide +kernel
theorem dX11_lays_10 : decode cX11_lays 10 = .ok (.iadd, 1) := by decide +kernel
theorem dX11_lays_11 : decode cX11_lays 11 = .ok (.aload_n 0, 1) := by decide +kernel
theorem dX11_lays_12 : decode cX11_lays 12 = .ok (.getfield 173, 3) := by decide +kernel
theorem dX11_lays_15 : decode cX11_lays 15 = .ok (.iastore, 1) := by decide +kernel
theorem dX11_lays_16 : decode cX11_lays 16 = .ok (.aload_n 1, 1) := by decide +kernel
theorem dX11_lays_17 : decode cX11_lays 17 = .ok (.iload_n 2, 1) := by decide +kernel
theorem dX11_lays_18 : decode cX11_lays 18 = .ok (.iconst 2, 1) := by decide +kernel
theorem dX11_lays_19 : decode cX11_lays 19 = .ok (.iadd, 1) := by decide +kernel
theorem dX11_lays_20 : decode cX11_lays 20 = .ok (.aload_n 0, 1) := by decide +kernel
theorem dX11_lays_21 : decode cX11_lays 21 = .ok (.getfield 176, 3) := by decide +kernel
theorem dX11_lays_24 : decode cX11_lays 24 = .ok (.iastore, 1) := by decide +kernel
theorem dX11_lays_25 : decode cX11_lays 25 = .ok (.aload_n 1, 1) := by decide +kernel
theorem dX11_lays_26 : decode cX11_lays 26 = .ok (.iload_n 2, 1) := by decide +kernel
theorem dX11_lays_27 : decode cX11_lays 27 = .ok (.iconst 3, 1) := by decide +kernel
theorem dX11_lays_28 : decode cX11_lays 28 = .ok (.iadd, 1) := by decide +kernel
theorem dX11_lays_29 : decode cX11_lays 29 = .ok (.aload_n 0, 1) := by decide +kernel
theorem dX11_lays_30 : decode cX11_lays 30 = .ok (.getfield 179, 3) := by decide +kernel
theorem dX11_lays_33 : decode cX11_lays 33 = .ok (.iastore, 1) := by decide +kernel
theorem dX11_lays_34 : decode cX11_lays 34 = .ok (.aload_n 1, 1) := by decide +kernel
theorem dX11_lays_35 : decode cX11_lays 35 = .ok (.iload_n 2, 1) := by decide +kernel
theorem dX11_lays_36 : decode cX11_lays 36 = .ok (.iconst 4, 1) := by decide +kernel
theorem dX11_lays_37 : decode cX11_lays 37 = .ok (.iadd, 1) := by decide +kernel
theorem dX11_lays_38 : decode cX11_lays 38 = .ok (.aload_n 0, 1) := by decide +kernel
theorem dX11_lays_39 : decode cX11_lays 39 = .ok (.getfield 92, 3) := by decide +kernel
theorem dX11_lays_42 : decode cX11_lays 42 = .ok (.iastore, 1) := by decide +kernel
theorem dX11_lays_43 : decode cX11_lays 43 = .ok (.iconst 0, 1) := by decide +kernel
theorem dX11_lays_44 : decode cX11_lays 44 = .ok (.istore_n 3, 1) := by decide +kernel
theorem dX11_lays_45 : decode cX11_lays 45 = .ok (.iload_n 3, 1) := by decide +kernel
theorem dX11_lays_46 : decode cX11_lays 46 = .ok (.iconst 5, 1) := by decide +kernel
theorem dX11_lays_47 : decode cX11_lays 47 = .ok (.if_icmp .ge 50, 3) := by decide +kernel
theorem dX11_lays_50 : decode cX11_lays 50 = .ok (.aload_n 1, 1) := by decide +kernel
theorem dX11_lays_51 : decode cX11_lays 51 = .ok (.iload_n 2, 1) := by decide +kernel
theorem dX11_lays_52 : decode cX11_lays 52 = .ok (.iconst 5, 1) := by decide +kernel
theorem dX11_lays_53 : decode cX11_lays 53 = .ok (.iadd, 1) := by decide +kernel
theorem dX11_lays_54 : decode cX11_lays 54 = .ok (.iload_n 3, 1) := by decide +kernel
theorem dX11_lays_55 : decode cX11_lays 55 = .ok (.iadd, 1) := by decide +kernel
theorem dX11_lays_56 : decode cX11_lays 56 = .ok (.aload_n 0, 1) := by decide +kernel
theorem dX11_lays_57 : decode cX11_lays 57 = .ok (.getfield 13, 3) := by decide +kernel
theorem dX11_lays_60 : decode cX11_lays 60 = .ok (.iload_n 3, 1) := by decide +kernel
theorem dX11_lays_61 : decode cX11_lays 61 = .ok (.iaload, 1) := by decide +kernel
theorem dX11_lays_62 : decode cX11_lays 62 = .ok (.iastore, 1) := by decide +kernel
theorem dX11_lays_63 : decode cX11_lays 63 = .ok (.aload_n 1, 1) := by decide +kernel
theorem dX11_lays_64 : decode cX11_lays 64 = .ok (.iload_n 2, 1) := by decide +kernel
theorem dX11_lays_65 : decode cX11_lays 65 = .ok (.bipush 10, 2) := by decide +kernel
theorem dX11_lays_67 : decode cX11_lays 67 = .ok (.iadd, 1) := by decide +kernel
theorem dX11_lays_68 : decode cX11_lays 68 = .ok (.iload_n 3, 1) := by decide +kernel
theorem dX11_lays_69 : decode cX11_lays 69 = .ok (.iadd, 1) := by decide +kernel
theorem dX11_lays_70 : decode cX11_lays 70 = .ok (.aload_n 0, 1) := by decide +kernel
theorem dX11_lays_71 : decode cX11_lays 71 = .ok (.getfield 16, 3) := by decide +kernel
theorem dX11_lays_74 : decode cX11_lays 74 = .ok (.iload_n 3, 1) := by decide +kernel
theorem dX11_lays_75 : decode cX11_lays 75 = .ok (.iaload, 1) := by decide +kernel
theorem dX11_lays_76 : decode cX11_lays 76 = .ok (.iastore, 1) := by decide +kernel
theorem dX11_lays_77 : decode cX11_lays 77 = .ok (.aload_n 1, 1) := by decide +kernel
theorem dX11_lays_78 : decode cX11_lays 78 = .ok (.iload_n 2, 1) := by decide +kernel
theorem dX11_lays_79 : decode cX11_lays 79 = .ok (.bipush 15, 2) := by decide +kernel
theorem dX11_lays_81 : decode cX11_lays 81 = .ok (.iadd, 1) := by decide +kernel
theorem dX11_lays_82 : decode cX11_lays 82 = .ok (.iload_n 3, 1) := by decide +kernel
theorem dX11_lays_83 : decode cX11_lays 83 = .ok (.iadd, 1) := by decide +kernel
theorem dX11_lays_84 : decode cX11_lays 84 = .ok (.aload_n 0, 1) := by decide +kernel
theorem dX11_lays_85 : decode cX11_lays 85 = .ok (.getfield 19, 3) := by decide +kernel
theorem dX11_lays_88 : decode cX11_lays 88 = .ok (.iload_n 3, 1) := by decide +kernel
theorem dX11_lays_89 : decode cX11_lays 89 = .ok (.iaload, 1) := by decide +kernel
theorem dX11_lays_90 : decode cX11_lays 90 = .ok (.iastore, 1) := by decide +kernel
theorem dX11_lays_91 : decode cX11_lays 91 = .ok (.iinc 3 1, 3) := by decide +kernel
theorem dX11_lays_94 : decode cX11_lays 94 = .ok (.goto (-49), 3) := by decide +kernel
theorem dX11_lays_97 : decode cX11_lays 97 = .ok (.return_, 1) := by decide +kernel
theorem dX11_takes_0 : decode cX11_takes 0 = .ok (.aload_n 0, 1) := by decide +kernel
theorem dX11_takes_1 : decode cX11_takes 1 = .ok (.aload_n 1, 1) := by decide +kernel
theorem dX11_takes_2 : decode cX11_takes 2 = .ok (.iload_n 2, 1) := by decide +kernel
theorem dX11_takes_3 : decode cX11_takes 3 = .ok (.iaload, 1) := by decide +kernel
theorem dX11_takes_4 : decode cX11_takes 4 = .ok (.putfield 170, 3) := by decide +kernel
theorem dX11_takes_7 : decode cX11_takes 7 = .ok (.aload_n 0, 1) := by decide +kernel
theorem dX11_takes_8 : decode cX11_takes 8 = .ok (.aload_n 1, 1) := by decide +kernel
theorem dX11_takes_9 : decode cX11_takes 9 = .ok (.iload_n 2, 1) := by decide +kernel
theorem dX11_takes_10 : decode cX11_takes 10 = .ok (.iconst 1, 1) := by decide +kernel
theorem dX11_takes_11 : decode cX11_takes 11 = .ok (.iadd, 1) := by decide +kernel
theorem dX11_takes_12 : decode cX11_takes 12 = .ok (.iaload, 1) := by decide +kernel
theorem dX11_takes_13 : decode cX11_takes 13 = .ok (.putfield 173, 3) := by decide +kernel
theorem dX11_takes_16 : decode cX11_takes 16 = .ok (.aload_n 0, 1) := by decide +kernel
theorem dX11_takes_17 : decode cX11_takes 17 = .ok (.aload_n 1, 1) := by decide +kernel
theorem dX11_takes_18 : decode cX11_takes 18 = .ok (.iload_n 2, 1) := by decide +kernel
theorem dX11_takes_19 : decode cX11_takes 19 = .ok (.iconst 2, 1) := by decide +kernel
theorem dX11_takes_20 : decode cX11_takes 20 = .ok (.iadd, 1) := by decide +kernel
theorem dX11_takes_21 : decode cX11_takes 21 = .ok (.iaload, 1) := by decide +kernel
theorem dX11_takes_22 : decode cX11_takes 22 = .ok (.putfield 176, 3) := by decide +kernel
theorem dX11_takes_25 : decode cX11_takes 25 = .ok (.aload_n 0, 1) := by decide +kernel
theorem dX11_takes_26 : decode cX11_takes 26 = .ok (.aload_n 1, 1) := by decide +kernel
theorem dX11_takes_27 : decode cX11_takes 27 = .ok (.iload_n 2, 1) := by decide +kernel
theorem dX11_takes_28 : decode cX11_takes 28 = .ok (.iconst 3, 1) := by decide +kernel
theorem dX11_takes_29 : decode cX11_takes 29 = .ok (.iadd, 1) := by decide +kernel
theorem dX11_takes_30 : decode cX11_takes 30 = .ok (.iaload, 1) := by decide +kernel
theorem dX11_takes_31 : decode cX11_takes 31 = .ok (.putfield 179, 3) := by decide +kernel
theorem dX11_takes_34 : decode cX11_takes 34 = .ok (.aload_n 0, 1) := by decide +kernel
theorem dX11_takes_35 : decode cX11_takes 35 = .ok (.aload_n 1, 1) := by decide +kernel
theorem dX11_takes_36 : decode cX11_takes 36 = .ok (.iload_n 2, 1) := by decide +kernel
theorem dX11_takes_37 : decode cX11_takes 37 = .ok (.iconst 4, 1) := by decide +kernel
theorem dX11_takes_38 : decode cX11_takes 38 = .ok (.iadd, 1) := by decide +kernel
theorem dX11_takes_39 : decode cX11_takes 39 = .ok (.iaload, 1) := by decide +kernel
theorem dX11_takes_40 : decode cX11_takes 40 = .ok (.putfield 92, 3) := by decide +kernel
theorem dX11_takes_43 : decode cX11_takes 43 = .ok (.iconst 0, 1) := by decide +kernel
theorem dX11_takes_44 : decode cX11_takes 44 = .ok (.istore_n 3, 1) := by decide +kernel
theorem dX11_takes_45 : decode cX11_takes 45 = .ok (.iload_n 3, 1) := by decide +kernel
theorem dX11_takes_46 : decode cX11_takes 46 = .ok (.iconst 5, 1) := by decide +kernel
theorem dX11_takes_47 : decode cX11_takes 47 = .ok (.if_icmp .ge 50, 3) := by decide +kernel
theorem dX11_takes_50 : decode cX11_takes 50 = .ok (.aload_n 0, 1) := by decide +kernel
theorem dX11_takes_51 : decode cX11_takes 51 = .ok (.getfield 13, 3) := by decide +kernel
theorem dX11_takes_54 : decode cX11_takes 54 = .ok (.iload_n 3, 1) := by decide +kernel
theorem dX11_takes_55 : decode cX11_takes 55 = .ok (.aload_n 1, 1) := by decide +kernel
theorem dX11_takes_56 : decode cX11_takes 56 = .ok (.iload_n 2, 1) := by decide +kernel
theorem dX11_takes_57 : decode cX11_takes 57 = .ok (.iconst 5, 1) := by decide +kernel
theorem dX11_takes_58 : decode cX11_takes 58 = .ok (.iadd, 1) := by decide +kernel
theorem dX11_takes_59 : decode cX11_takes 59 = .ok (.iload_n 3, 1) := by decide +kernel
theorem dX11_takes_60 : decode cX11_takes 60 = .ok (.iadd, 1) := by decide +kernel
theorem dX11_takes_61 : decode cX11_takes 61 = .ok (.iaload, 1) := by decide +kernel
theorem dX11_takes_62 : decode cX11_takes 62 = .ok (.iastore, 1) := by decide +kernel
theorem dX11_takes_63 : decode cX11_takes 63 = .ok (.aload_n 0, 1) := by decide +kernel
theorem dX11_takes_64 : decode cX11_takes 64 = .ok (.getfield 16, 3) := by decide +kernel
theorem dX11_takes_67 : decode cX11_takes 67 = .ok (.iload_n 3, 1) := by decide +kernel
theorem dX11_takes_68 : decode cX11_takes 68 = .ok (.aload_n 1, 1) := by decide +kernel
theorem dX11_takes_69 : decode cX11_takes 69 = .ok (.iload_n 2, 1) := by decide +kernel
theorem dX11_takes_70 : decode cX11_takes 70 = .ok (.bipush 10, 2) := by decide +kernel
theorem dX11_takes_72 : decode cX11_takes 72 = .ok (.iadd, 1) := by decide +kernel
theorem dX11_takes_73 : decode cX11_takes 73 = .ok (.iload_n 3, 1) := by decide +kernel
theorem dX11_takes_74 : decode cX11_takes 74 = .ok (.iadd, 1) := by decide +kernel
theorem dX11_takes_75 : decode cX11_takes 75 = .ok (.iaload, 1) := by decide +kernel
theorem dX11_takes_76 : decode cX11_takes 76 = .ok (.iastore, 1) := by decide +kernel
theorem dX11_takes_77 : decode cX11_takes 77 = .ok (.aload_n 0, 1) := by decide +kernel
theorem dX11_takes_78 : decode cX11_takes 78 = .ok (.getfield 19, 3) := by decide +kernel
theorem dX11_takes_81 : decode cX11_takes 81 = .ok (.iload_n 3, 1) := by decide +kernel
theorem dX11_takes_82 : decode cX11_takes 82 = .ok (.aload_n 1, 1) := by decide +kernel
theorem dX11_takes_83 : decode cX11_takes 83 = .ok (.iload_n 2, 1) := by decide +kernel
theorem dX11_takes_84 : decode cX11_takes 84 = .ok (.bipush 15, 2) := by decide +kernel
theorem dX11_takes_86 : decode cX11_takes 86 = .ok (.iadd, 1) := by decide +kernel
theorem dX11_takes_87 : decode cX11_takes 87 = .ok (.iload_n 3, 1) := by decide +kernel
theorem dX11_takes_88 : decode cX11_takes 88 = .ok (.iadd, 1) := by decide +kernel
theorem dX11_takes_89 : decode cX11_takes 89 = .ok (.iaload, 1) := by decide +kernel
theorem dX11_takes_90 : decode cX11_takes 90 = .ok (.iastore, 1) := by decide +kernel
theorem dX11_takes_91 : decode cX11_takes 91 = .ok (.iinc 3 1, 3) := by decide +kernel
theorem dX11_takes_94 : decode cX11_takes 94 = .ok (.goto (-49), 3) := by decide +kernel
theorem dX11_takes_97 : decode cX11_takes 97 = .ok (.return_, 1) := by decide +kernel
theorem dX11_notes_0 : decode cX11_notes 0 = .ok (.aload_n 0, 1) := by decide +kernel
theorem dX11_notes_1 : decode cX11_notes 1 = .ok (.getfield 188, 3) := by decide +kernel
theorem dX11_notes_4 : decode cX11_notes 4 = .ok (.bipush 16, 2) := by decide +kernel
theorem dX11_notes_6 : decode cX11_notes 6 = .ok (.if_icmp .ne 43, 3) := by decide +kernel
theorem dX11_notes_9 : decode cX11_notes 9 = .ok (.iconst 0, 1) := by decide +kernel
theorem dX11_notes_10 : decode cX11_notes 10 = .ok (.istore_n 1, 1) := by decide +kernel
theorem dX11_notes_11 : decode cX11_notes 11 = .ok (.iload_n 1, 1) := by decide +kernel
theorem dX11_notes_12 : decode cX11_notes 12 = .ok (.sipush 300, 3) := by decide +kernel
theorem dX11_notes_15 : decode cX11_notes 15 = .ok (.if_icmp .ge 24, 3) := by decide +kernel
theorem dX11_notes_18 : decode cX11_notes 18 = .ok (.aload_n 0, 1) := by decide +kernel
theorem dX11_notes_19 : decode cX11_notes 19 = .ok (.getfield 44, 3) := by decide +kernel
theorem dX11_notes_22 : decode cX11_notes 22 = .ok (.iload_n 1, 1) := by decide +kernel
theorem dX11_notes_23 : decode cX11_notes 23 = .ok (.aload_n 0, 1) := by decide +kernel
theorem dX11_notes_24 : decode cX11_notes 24 = .ok (.getfield 44, 3) := by decide +kernel
theorem dX11_notes_27 : decode cX11_notes 27 = .ok (.iload_n 1, 1) := by decide +kernel
theorem dX11_notes_28 : decode cX11_notes 28 = .ok (.bipush 20, 2) := by decide +kernel
theorem dX11_notes_30 : decode cX11_notes 30 = .ok (.iadd, 1) := by decide +kernel
theorem dX11_notes_31 : decode cX11_notes 31 = .ok (.iaload, 1) := by decide +kernel
theorem dX11_notes_32 : decode cX11_notes 32 = .ok (.iastore, 1) := by decide +kernel
theorem dX11_notes_33 : decode cX11_notes 33 = .ok (.iinc 1 1, 3) := by decide +kernel
theorem dX11_notes_36 : decode cX11_notes 36 = .ok (.goto (-25), 3) := by decide +kernel
theorem dX11_notes_39 : decode cX11_notes 39 = .ok (.aload_n 0, 1) := by decide +kernel
theorem dX11_notes_40 : decode cX11_notes 40 = .ok (.dup, 1) := by decide +kernel
theorem dX11_notes_41 : decode cX11_notes 41 = .ok (.getfield 188, 3) := by decide +kernel
theorem dX11_notes_44 : decode cX11_notes 44 = .ok (.iconst 1, 1) := by decide +kernel
theorem dX11_notes_45 : decode cX11_notes 45 = .ok (.isub, 1) := by decide +kernel
theorem dX11_notes_46 : decode cX11_notes 46 = .ok (.putfield 188, 3) := by decide +kernel
theorem dX11_notes_49 : decode cX11_notes 49 = .ok (.aload_n 0, 1) := by decide +kernel
theorem dX11_notes_50 : decode cX11_notes 50 = .ok (.aload_n 0, 1) := by decide +kernel
theorem dX11_notes_51 : decode cX11_notes 51 = .ok (.getfield 44, 3) := by decide +kernel
theorem dX11_notes_54 : decode cX11_notes 54 = .ok (.bipush 20, 2) := by decide +kernel
theorem dX11_notes_56 : decode cX11_notes 56 = .ok (.aload_n 0, 1) := by decide +kernel
theorem dX11_notes_57 : decode cX11_notes 57 = .ok (.getfield 188, 3) := by decide +kernel
theorem dX11_notes_60 : decode cX11_notes 60 = .ok (.imul, 1) := by decide +kernel
theorem dX11_notes_61 : decode cX11_notes 61 = .ok (.invokevirtual 222, 3) := by decide +kernel
theorem dX11_notes_64 : decode cX11_notes 64 = .ok (.aload_n 0, 1) := by decide +kernel
theorem dX11_notes_65 : decode cX11_notes 65 = .ok (.dup, 1) := by decide +kernel
theorem dX11_notes_66 : decode cX11_notes 66 = .ok (.getfield 188, 3) := by decide +kernel
theorem dX11_notes_69 : decode cX11_notes 69 = .ok (.iconst 1, 1) := by decide +kernel
theorem dX11_notes_70 : decode cX11_notes 70 = .ok (.iadd, 1) := by decide +kernel
theorem dX11_notes_71 : decode cX11_notes 71 = .ok (.putfield 188, 3) := by decide +kernel
theorem dX11_notes_74 : decode cX11_notes 74 = .ok (.return_, 1) := by decide +kernel
theorem dX11_groupOf_0 : decode cX11_groupOf 0 = .ok (.aload_n 0, 1) := by decide +kernel
theorem dX11_groupOf_1 : decode cX11_groupOf 1 = .ok (.getfield 170, 3) := by decide +kernel
theorem dX11_groupOf_4 : decode cX11_groupOf 4 = .ok (.ifCond .ne 12, 3) := by decide +kernel
theorem dX11_groupOf_7 : decode cX11_groupOf 7 = .ok (.aload_n 0, 1) := by decide +kernel
theorem dX11_groupOf_8 : decode cX11_groupOf 8 = .ok (.getfield 16, 3) := by decide +kernel
theorem dX11_groupOf_11 : decode cX11_groupOf 11 = .ok (.iload_n 1, 1) := by decide +kernel
theorem dX11_groupOf_12 : decode cX11_groupOf 12 = .ok (.iaload, 1) := by decide +kernel
theorem dX11_groupOf_13 : decode cX11_groupOf 13 = .ok (.goto 9, 3) := by decide +kernel
theorem dX11_groupOf_16 : decode cX11_groupOf 16 = .ok (.aload_n 0, 1) := by decide +kernel
theorem dX11_groupOf_17 : decode cX11_groupOf 17 = .ok (.getfield 19, 3) := by decide +kernel
theorem dX11_groupOf_20 : decode cX11_groupOf 20 = .ok (.iload_n 1, 1) := by decide +kernel
theorem dX11_groupOf_21 : decode cX11_groupOf 21 = .ok (.iaload, 1) := by decide +kernel
theorem dX11_groupOf_22 : decode cX11_groupOf 22 = .ok (.ireturn, 1) := by decide +kernel
theorem dX11_comesInto_0 : decode cX11_comesInto 0 = .ok (.aload_n 0, 1) := by decide +kernel
theorem dX11_comesInto_1 : decode cX11_comesInto 1 = .ok (.getfield 170, 3) := by decide +kernel
theorem dX11_comesInto_4 : decode cX11_comesInto 4 = .ok (.ifCond .ne 13, 3) := by decide +kernel
theorem dX11_comesInto_7 : decode cX11_comesInto 7 = .ok (.aload_n 0, 1) := by decide +kernel
theorem dX11_comesInto_8 : decode cX11_comesInto 8 = .ok (.getfield 16, 3) := by decide +kernel
theorem dX11_comesInto_11 : decode cX11_comesInto 11 = .ok (.iload_n 1, 1) := by decide +kernel
theorem dX11_comesInto_12 : decode cX11_comesInto 12 = .ok (.iload_n 2, 1) := by decide +kernel
theorem dX11_comesInto_13 : decode cX11_comesInto 13 = .ok (.iastore, 1) := by decide +kernel
theorem dX11_comesInto_14 : decode cX11_comesInto 14 = .ok (.goto 10, 3) := by decide +kernel
theorem dX11_comesInto_17 : decode cX11_comesInto 17 = .ok (.aload_n 0, 1) := by decide +kernel
theorem dX11_comesInto_18 : decode cX11_comesInto 18 = .ok (.getfield 19, 3) := by decide +kernel
theorem dX11_comesInto_21 : decode cX11_comesInto 21 = .ok (.iload_n 1, 1) := by decide +kernel
theorem dX11_comesInto_22 : decode cX11_comesInto 22 = .ok (.iload_n 2, 1) := by decide +kernel
theorem dX11_comesInto_23 : decode cX11_comesInto 23 = .ok (.iastore, 1) := by decide +kernel
theorem dX11_comesInto_24 : decode cX11_comesInto 24 = .ok (.return_, 1) := by decide +kernel
theorem dX11_goesOver_0 : decode cX11_goesOver 0 = .ok (.aload_n 0, 1) := by decide +kernel
theorem dX11_goesOver_1 : decode cX11_goesOver 1 = .ok (.iconst 1, 1) := by decide +kernel
theorem dX11_goesOver_2 : decode cX11_goesOver 2 = .ok (.aload_n 0, 1) := by decide +kernel
theorem dX11_goesOver_3 : decode cX11_goesOver 3 = .ok (.getfield 170, 3) := by decide +kernel
theorem dX11_goesOver_6 : decode cX11_goesOver 6 = .ok (.isub, 1) := by decide +kernel
theorem dX11_goesOver_7 : decode cX11_goesOver 7 = .ok (.putfield 170, 3) := by decide +kernel
theorem dX11_goesOver_10 : decode cX11_goesOver 10 = .ok (.aload_n 0, 1) := by decide +kernel
theorem dX11_goesOver_11 : decode cX11_goesOver 11 = .ok (.dup, 1) := by decide +kernel
theorem dX11_goesOver_12 : decode cX11_goesOver 12 = .ok (.getfield 176, 3) := by decide +kernel
theorem dX11_goesOver_15 : decode cX11_goesOver 15 = .ok (.aload_n 0, 1) := by decide +kernel
theorem dX11_goesOver_16 : decode cX11_goesOver 16 = .ok (.getfield 176, 3) := by decide +kernel
theorem dX11_goesOver_19 : decode cX11_goesOver 19 = .ok (.sipush 9999, 3) := by decide +kernel
theorem dX11_goesOver_22 : decode cX11_goesOver 22 = .ok (.if_icmp .ge 7, 3) := by decide +kernel
theorem dX11_goesOver_25 : decode cX11_goesOver 25 = .ok (.iconst 1, 1) := by decide +kernel
theorem dX11_goesOver_26 : decode cX11_goesOver 26 = .ok (.goto 4, 3) := by decide +kernel
theorem dX11_goesOver_29 : decode cX11_goesOver 29 = .ok (.iconst 0, 1) := by decide +kernel
theorem dX11_goesOver_30 : decode cX11_goesOver 30 = .ok (.iadd, 1) := by decide +kernel
theorem dX11_goesOver_31 : decode cX11_goesOver 31 = .ok (.putfield 176, 3) := by decide +kernel
theorem dX11_goesOver_34 : decode cX11_goesOver 34 = .ok (.return_, 1) := by decide +kernel
theorem dX11_tested_0 : decode cX11_tested 0 = .ok (.aload_n 0, 1) := by decide +kernel
theorem dX11_tested_1 : decode cX11_tested 1 = .ok (.dup, 1) := by decide +kernel
theorem dX11_tested_2 : decode cX11_tested 2 = .ok (.getfield 179, 3) := by decide +kernel
theorem dX11_tested_5 : decode cX11_tested 5 = .ok (.aload_n 0, 1) := by decide +kernel
theorem dX11_tested_6 : decode cX11_tested 6 = .ok (.getfield 179, 3) := by decide +kernel
theorem dX11_tested_9 : decode cX11_tested 9 = .ok (.sipush 9999, 3) := by decide +kernel
theorem dX11_tested_12 : decode cX11_tested 12 = .ok (.if_icmp .ge 7, 3) := by decide +kernel
theorem dX11_tested_15 : decode cX11_tested 15 = .ok (.iconst 1, 1) := by decide +kernel
theorem dX11_tested_16 : decode cX11_tested 16 = .ok (.goto 4, 3) := by decide +kernel
theorem dX11_tested_19 : decode cX11_tested 19 = .ok (.iconst 0, 1) := by decide +kernel
theorem dX11_tested_20 : decode cX11_tested 20 = .ok (.iadd, 1) := by decide +kernel
theorem dX11_tested_21 : decode cX11_tested 21 = .ok (.putfield 179, 3) := by decide +kernel
theorem dX11_tested_24 : decode cX11_tested 24 = .ok (.return_, 1) := by decide +kernel
theorem dX11_tie_0 : decode cX11_tie 0 = .ok (.aload_n 0, 1) := by decide +kernel
theorem dX11_tie_1 : decode cX11_tie 1 = .ok (.iload_n 1, 1) := by decide +kernel
theorem dX11_tie_2 : decode cX11_tie 2 = .ok (.invokevirtual 88, 3) := by decide +kernel
theorem dX11_tie_5 : decode cX11_tie 5 = .ok (.ifCond .ne 6, 3) := by decide +kernel
theorem dX11_tie_8 : decode cX11_tie 8 = .ok (.ldc 215, 2) := by decide +kernel
theorem dX11_tie_10 : decode cX11_tie 10 = .ok (.ireturn, 1) := by decide +kernel
theorem dX11_tie_11 : decode cX11_tie 11 = .ok (.iload_n 2, 1) := by decide +kernel
theorem dX11_tie_12 : decode cX11_tie 12 = .ok (.iconst 0, 1) := by decide +kernel
theorem dX11_tie_13 : decode cX11_tie 13 = .ok (.iconst 3, 1) := by decide +kernel
theorem dX11_tie_14 : decode cX11_tie 14 = .ok (.invokestatic 84, 3) := by decide +kernel
theorem dX11_tie_17 : decode cX11_tie 17 = .ok (.ifCond .ne 6, 3) := by decide +kernel
theorem dX11_tie_20 : decode cX11_tie 20 = .ok (.ldc 106, 2) := by decide +kernel
theorem dX11_tie_22 : decode cX11_tie 22 = .ok (.ireturn, 1) := by decide +kernel
theorem dX11_tie_23 : decode cX11_tie 23 = .ok (.aload_n 0, 1) := by decide +kernel
theorem dX11_tie_24 : decode cX11_tie 24 = .ok (.iload_n 1, 1) := by decide +kernel
theorem dX11_tie_25 : decode cX11_tie 25 = .ok (.invokevirtual 226, 3) := by decide +kernel
theorem dX11_tie_28 : decode cX11_tie 28 = .ok (.istore_n 3, 1) := by decide +kernel
theorem dX11_tie_29 : decode cX11_tie 29 = .ok (.iload_n 3, 1) := by decide +kernel
theorem dX11_tie_30 : decode cX11_tie 30 = .ok (.iload_n 2, 1) := by decide +kernel
theorem dX11_tie_31 : decode cX11_tie 31 = .ok (.if_icmp .ne 6, 3) := by decide +kernel
theorem dX11_tie_34 : decode cX11_tie 34 = .ok (.ldc 230, 2) := by decide +kernel
theorem dX11_tie_36 : decode cX11_tie 36 = .ok (.ireturn, 1) := by decide +kernel
theorem dX11_tie_37 : decode cX11_tie 37 = .ok (.aload_n 0, 1) := by decide +kernel
theorem dX11_tie_38 : decode cX11_tie 38 = .ok (.invokevirtual 231, 3) := by decide +kernel
theorem dX11_tie_41 : decode cX11_tie 41 = .ok (.aload_n 0, 1) := by decide +kernel
theorem dX11_tie_42 : decode cX11_tie 42 = .ok (.iload_n 1, 1) := by decide +kernel
theorem dX11_tie_43 : decode cX11_tie 43 = .ok (.iload_n 2, 1) := by decide +kernel
theorem dX11_tie_44 : decode cX11_tie 44 = .ok (.invokevirtual 234, 3) := by decide +kernel
theorem dX11_tie_47 : decode cX11_tie 47 = .ok (.iload_n 3, 1) := by decide +kernel
theorem dX11_tie_48 : decode cX11_tie 48 = .ok (.ireturn, 1) := by decide +kernel
theorem dX11_cross_0 : decode cX11_cross 0 = .ok (.aload_n 0, 1) := by decide +kernel
theorem dX11_cross_1 : decode cX11_cross 1 = .ok (.getfield 81, 3) := by decide +kernel
theorem dX11_cross_4 : decode cX11_cross 4 = .ok (.ifCond .ne 6, 3) := by decide +kernel
theorem dX11_cross_7 : decode cX11_cross 7 = .ok (.ldc 230, 2) := by decide +kernel
theorem dX11_cross_9 : decode cX11_cross 9 = .ok (.ireturn, 1) := by decide +kernel
theorem dX11_cross_10 : decode cX11_cross 10 = .ok (.aload_n 0, 1) := by decide +kernel
theorem dX11_cross_11 : decode cX11_cross 11 = .ok (.getfield 173, 3) := by decide +kernel
theorem dX11_cross_14 : decode cX11_cross 14 = .ok (.sipush 9000, 3) := by decide +kernel
theorem dX11_cross_17 : decode cX11_cross 17 = .ok (.if_icmp .le 6, 3) := by decide +kernel
theorem dX11_cross_20 : decode cX11_cross 20 = .ok (.ldc 110, 2) := by decide +kernel
theorem dX11_cross_22 : decode cX11_cross 22 = .ok (.ireturn, 1) := by decide +kernel
theorem dX11_cross_23 : decode cX11_cross 23 = .ok (.aload_n 0, 1) := by decide +kernel
theorem dX11_cross_24 : decode cX11_cross 24 = .ok (.invokevirtual 231, 3) := by decide +kernel
theorem dX11_cross_27 : decode cX11_cross 27 = .ok (.aload_n 0, 1) := by decide +kernel
theorem dX11_cross_28 : decode cX11_cross 28 = .ok (.invokevirtual 238, 3) := by decide +kernel
theorem dX11_cross_31 : decode cX11_cross 31 = .ok (.aload_n 0, 1) := by decide +kernel
theorem dX11_cross_32 : decode cX11_cross 32 = .ok (.dup, 1) := by decide +kernel
theorem dX11_cross_33 : decode cX11_cross 33 = .ok (.getfield 173, 3) := by decide +kernel
theorem dX11_cross_36 : decode cX11_cross 36 = .ok (.iconst 1, 1) := by decide +kernel
theorem dX11_cross_37 : decode cX11_cross 37 = .ok (.iadd, 1) := by decide +kernel
theorem dX11_cross_38 : decode cX11_cross 38 = .ok (.putfield 173, 3) := by decide +kernel
theorem dX11_cross_41 : decode cX11_cross 41 = .ok (.aload_n 0, 1) := by decide +kernel
theorem dX11_cross_42 : decode cX11_cross 42 = .ok (.getfield 173, 3) := by decide +kernel
theorem dX11_cross_45 : decode cX11_cross 45 = .ok (.ireturn, 1) := by decide +kernel
theorem dX11_test_0 : decode cX11_test 0 = .ok (.aload_n 0, 1) := by decide +kernel
theorem dX11_test_1 : decode cX11_test 1 = .ok (.iload_n 1, 1) := by decide +kernel
theorem dX11_test_2 : decode cX11_test 2 = .ok (.iload_n 2, 1) := by decide +kernel
theorem dX11_test_3 : decode cX11_test 3 = .ok (.invokevirtual 216, 3) := by decide +kernel
theorem dX11_test_6 : decode cX11_test 6 = .ok (.ifCond .ne 6, 3) := by decide +kernel
theorem dX11_test_9 : decode cX11_test 9 = .ok (.ldc 215, 2) := by decide +kernel
theorem dX11_test_11 : decode cX11_test 11 = .ok (.ireturn, 1) := by decide +kernel
theorem dX11_test_12 : decode cX11_test 12 = .ok (.aload_n 0, 1) := by decide +kernel
theorem dX11_test_13 : decode cX11_test 13 = .ok (.invokevirtual 231, 3) := by decide +kernel
theorem dX11_test_16 : decode cX11_test 16 = .ok (.aload_n 0, 1) := by decide +kernel
theorem dX11_test_17 : decode cX11_test 17 = .ok (.invokevirtual 241, 3) := by decide +kernel
theorem dX11_test_20 : decode cX11_test 20 = .ok (.aload_n 0, 1) := by decide +kernel
theorem dX11_test_21 : decode cX11_test 21 = .ok (.iload_n 1, 1) := by decide +kernel
theorem dX11_test_22 : decode cX11_test 22 = .ok (.iload_n 2, 1) := by decide +kernel
theorem dX11_test_23 : decode cX11_test 23 = .ok (.iconst 0, 1) := by decide +kernel
theorem dX11_test_24 : decode cX11_test 24 = .ok (.invokevirtual 219, 3) := by decide +kernel
theorem dX11_test_27 : decode cX11_test 27 = .ok (.ifCond .eq 7, 3) := by decide +kernel
theorem dX11_test_30 : decode cX11_test 30 = .ok (.iconst 1, 1) := by decide +kernel
theorem dX11_test_31 : decode cX11_test 31 = .ok (.goto 4, 3) := by decide +kernel
theorem dX11_test_34 : decode cX11_test 34 = .ok (.iconst 0, 1) := by decide +kernel
theorem dX11_test_35 : decode cX11_test 35 = .ok (.ireturn, 1) := by decide +kernel
theorem dX11_mayGoOn_0 : decode cX11_mayGoOn 0 = .ok (.iload_n 1, 1) := by decide +kernel
theorem dX11_mayGoOn_1 : decode cX11_mayGoOn 1 = .ok (.iconst 1, 1) := by decide +kernel
theorem dX11_mayGoOn_2 : decode cX11_mayGoOn 2 = .ok (.bipush 60, 2) := by decide +kernel
theorem dX11_mayGoOn_4 : decode cX11_mayGoOn 4 = .ok (.invokestatic 84, 3) := by decide +kernel
theorem dX11_mayGoOn_7 : decode cX11_mayGoOn 7 = .ok (.ifCond .ne 6, 3) := by decide +kernel
theorem dX11_mayGoOn_10 : decode cX11_mayGoOn 10 = .ok (.ldc 106, 2) := by decide +kernel
theorem dX11_mayGoOn_12 : decode cX11_mayGoOn 12 = .ok (.ireturn, 1) := by decide +kernel
theorem dX11_mayGoOn_13 : decode cX11_mayGoOn 13 = .ok (.aload_n 0, 1) := by decide +kernel
theorem dX11_mayGoOn_14 : decode cX11_mayGoOn 14 = .ok (.getfield 81, 3) := by decide +kernel
theorem dX11_mayGoOn_17 : decode cX11_mayGoOn 17 = .ok (.ifCond .ne 8, 3) := by decide +kernel
theorem dX11_mayGoOn_20 : decode cX11_mayGoOn 20 = .ok (.ldc 230, 2) := by decide +kernel
theorem dX11_mayGoOn_22 : decode cX11_mayGoOn 22 = .ok (.goto 19, 3) := by decide +kernel
theorem dX11_mayGoOn_25 : decode cX11_mayGoOn 25 = .ok (.aload_n 0, 1) := by decide +kernel
theorem dX11_mayGoOn_26 : decode cX11_mayGoOn 26 = .ok (.getfield 173, 3) := by decide +kernel
theorem dX11_mayGoOn_29 : decode cX11_mayGoOn 29 = .ok (.sipush 9000, 3) := by decide +kernel
theorem dX11_mayGoOn_32 : decode cX11_mayGoOn 32 = .ok (.if_icmp .le 8, 3) := by decide +kernel
theorem dX11_mayGoOn_35 : decode cX11_mayGoOn 35 = .ok (.ldc 110, 2) := by decide +kernel
theorem dX11_mayGoOn_37 : decode cX11_mayGoOn 37 = .ok (.goto 4, 3) := by decide +kernel
theorem dX11_mayGoOn_40 : decode cX11_mayGoOn 40 = .ok (.iconst 0, 1) := by decide +kernel
theorem dX11_mayGoOn_41 : decode cX11_mayGoOn 41 = .ok (.ireturn, 1) := by decide +kernel
theorem dX11_rest_0 : decode cX11_rest 0 = .ok (.aload_n 0, 1) := by decide +kernel
theorem dX11_rest_1 : decode cX11_rest 1 = .ok (.iload_n 1, 1) := by decide +kernel
theorem dX11_rest_2 : decode cX11_rest 2 = .ok (.invokevirtual 244, 3) := by decide +kernel
theorem dX11_rest_5 : decode cX11_rest 5 = .ok (.istore_n 2, 1) := by decide +kernel
theorem dX11_rest_6 : decode cX11_rest 6 = .ok (.iload_n 2, 1) := by decide +kernel
theorem dX11_rest_7 : decode cX11_rest 7 = .ok (.ifCond .ge 5, 3) := by decide +kernel
theorem dX11_rest_10 : decode cX11_rest 10 = .ok (.iload_n 2, 1) := by decide +kernel
theorem dX11_rest_11 : decode cX11_rest 11 = .ok (.ireturn, 1) := by decide +kernel
theorem dX11_rest_12 : decode cX11_rest 12 = .ok (.aload_n 0, 1) := by decide +kernel
theorem dX11_rest_13 : decode cX11_rest 13 = .ok (.invokevirtual 231, 3) := by decide +kernel
theorem dX11_rest_16 : decode cX11_rest 16 = .ok (.aload_n 0, 1) := by decide +kernel
theorem dX11_rest_17 : decode cX11_rest 17 = .ok (.dup, 1) := by decide +kernel
theorem dX11_rest_18 : decode cX11_rest 18 = .ok (.getfield 173, 3) := by decide +kernel
theorem dX11_rest_21 : decode cX11_rest 21 = .ok (.iload_n 1, 1) := by decide +kernel
theorem dX11_rest_22 : decode cX11_rest 22 = .ok (.iadd, 1) := by decide +kernel
theorem dX11_rest_23 : decode cX11_rest 23 = .ok (.putfield 173, 3) := by decide +kernel
theorem dX11_rest_26 : decode cX11_rest 26 = .ok (.aload_n 0, 1) := by decide +kernel
theorem dX11_rest_27 : decode cX11_rest 27 = .ok (.getfield 173, 3) := by decide +kernel
theorem dX11_rest_30 : decode cX11_rest 30 = .ok (.ireturn, 1) := by decide +kernel
theorem dX11_mend_0 : decode cX11_mend 0 = .ok (.aload_n 0, 1) := by decide +kernel
theorem dX11_mend_1 : decode cX11_mend 1 = .ok (.iload_n 1, 1) := by decide +kernel
theorem dX11_mend_2 : decode cX11_mend 2 = .ok (.invokevirtual 88, 3) := by decide +kernel
theorem dX11_mend_5 : decode cX11_mend 5 = .ok (.ifCond .ne 6, 3) := by decide +kernel
theorem dX11_mend_8 : decode cX11_mend 8 = .ok (.ldc 215, 2) := by decide +kernel
theorem dX11_mend_10 : decode cX11_mend 10 = .ok (.ireturn, 1) := by decide +kernel
theorem dX11_mend_11 : decode cX11_mend 11 = .ok (.iload_n 2, 1) := by decide +kernel
theorem dX11_mend_12 : decode cX11_mend 12 = .ok (.iconst 0, 1) := by decide +kernel
theorem dX11_mend_13 : decode cX11_mend 13 = .ok (.iconst 3, 1) := by decide +kernel
theorem dX11_mend_14 : decode cX11_mend 14 = .ok (.invokestatic 84, 3) := by decide +kernel
theorem dX11_mend_17 : decode cX11_mend 17 = .ok (.ifCond .ne 6, 3) := by decide +kernel
theorem dX11_mend_20 : decode cX11_mend 20 = .ok (.ldc 106, 2) := by decide +kernel
theorem dX11_mend_22 : decode cX11_mend 22 = .ok (.ireturn, 1) := by decide +kernel
theorem dX11_mend_23 : decode cX11_mend 23 = .ok (.aload_n 0, 1) := by decide +kernel
theorem dX11_mend_24 : decode cX11_mend 24 = .ok (.getfield 13, 3) := by decide +kernel
theorem dX11_mend_27 : decode cX11_mend 27 = .ok (.iload_n 1, 1) := by decide +kernel
theorem dX11_mend_28 : decode cX11_mend 28 = .ok (.iaload, 1) := by decide +kernel
theorem dX11_mend_29 : decode cX11_mend 29 = .ok (.istore_n 3, 1) := by decide +kernel
theorem dX11_mend_30 : decode cX11_mend 30 = .ok (.iload_n 3, 1) := by decide +kernel
theorem dX11_mend_31 : decode cX11_mend 31 = .ok (.iload_n 2, 1) := by decide +kernel
theorem dX11_mend_32 : decode cX11_mend 32 = .ok (.if_icmp .ne 6, 3) := by decide +kernel
theorem dX11_mend_35 : decode cX11_mend 35 = .ok (.ldc 230, 2) := by decide +kernel
theorem dX11_mend_37 : decode cX11_mend 37 = .ok (.ireturn, 1) := by decide +kernel
theorem dX11_mend_38 : decode cX11_mend 38 = .ok (.aload_n 0, 1) := by decide +kernel
theorem dX11_mend_39 : decode cX11_mend 39 = .ok (.invokevirtual 231, 3) := by decide +kernel
theorem dX11_mend_42 : decode cX11_mend 42 = .ok (.aload_n 0, 1) := by decide +kernel
theorem dX11_mend_43 : decode cX11_mend 43 = .ok (.getfield 13, 3) := by decide +kernel
theorem dX11_mend_46 : decode cX11_mend 46 = .ok (.iload_n 1, 1) := by decide +kernel
theorem dX11_mend_47 : decode cX11_mend 47 = .ok (.iload_n 2, 1) := by decide +kernel
theorem dX11_mend_48 : decode cX11_mend 48 = .ok (.iastore, 1) := by decide +kernel
theorem dX11_mend_49 : decode cX11_mend 49 = .ok (.iload_n 3, 1) := by decide +kernel
theorem dX11_mend_50 : decode cX11_mend 50 = .ok (.ireturn, 1) := by decide +kernel
theorem dX11_touch_0 : decode cX11_touch 0 = .ok (.aload_n 0, 1) := by decide +kernel
theorem dX11_touch_1 : decode cX11_touch 1 = .ok (.iload_n 1, 1) := by decide +kernel
theorem dX11_touch_2 : decode cX11_touch 2 = .ok (.invokevirtual 88, 3) := by decide +kernel
theorem dX11_touch_5 : decode cX11_touch 5 = .ok (.ifCond .eq 16, 3) := by decide +kernel
theorem dX11_touch_8 : decode cX11_touch 8 = .ok (.aload_n 0, 1) := by decide +kernel
theorem dX11_touch_9 : decode cX11_touch 9 = .ok (.iload_n 2, 1) := by decide +kernel
theorem dX11_touch_10 : decode cX11_touch 10 = .ok (.invokevirtual 88, 3) := by decide +kernel
theorem dX11_touch_13 : decode cX11_touch 13 = .ok (.ifCond .eq 8, 3) := by decide +kernel
theorem dX11_touch_16 : decode cX11_touch 16 = .ok (.iload_n 1, 1) := by decide +kernel
theorem dX11_touch_17 : decode cX11_touch 17 = .ok (.iload_n 2, 1) := by decide +kernel
theorem dX11_touch_18 : decode cX11_touch 18 = .ok (.if_icmp .ne 6, 3) := by decide +kernel
theorem dX11_touch_21 : decode cX11_touch 21 = .ok (.ldc 215, 2) := by decide +kernel
theorem dX11_touch_23 : decode cX11_touch 23 = .ok (.ireturn, 1) := by decide +kernel
theorem dX11_touch_24 : decode cX11_touch 24 = .ok (.aload_n 0, 1) := by decide +kernel
theorem dX11_touch_25 : decode cX11_touch 25 = .ok (.iload_n 1, 1) := by decide +kernel
theorem dX11_touch_26 : decode cX11_touch 26 = .ok (.iload_n 2, 1) := by decide +kernel
theorem dX11_touch_27 : decode cX11_touch 27 = .ok (.invokevirtual 103, 3) := by decide +kernel
theorem dX11_touch_30 : decode cX11_touch 30 = .ok (.iload_n 3, 1) := by decide +kernel
theorem dX11_touch_31 : decode cX11_touch 31 = .ok (.if_icmp .ne 6, 3) := by decide +kernel
theorem dX11_touch_34 : decode cX11_touch 34 = .ok (.ldc 230, 2) := by decide +kernel
theorem dX11_touch_36 : decode cX11_touch 36 = .ok (.ireturn, 1) := by decide +kernel
theorem dX11_touch_37 : decode cX11_touch 37 = .ok (.aload_n 0, 1) := by decide +kernel
theorem dX11_touch_38 : decode cX11_touch 38 = .ok (.invokevirtual 231, 3) := by decide +kernel
theorem dX11_touch_41 : decode cX11_touch 41 = .ok (.aload_n 0, 1) := by decide +kernel
theorem dX11_touch_42 : decode cX11_touch 42 = .ok (.dup, 1) := by decide +kernel
theorem dX11_touch_43 : decode cX11_touch 43 = .ok (.getfield 92, 3) := by decide +kernel
theorem dX11_touch_46 : decode cX11_touch 46 = .ok (.iconst 1, 1) := by decide +kernel
theorem dX11_touch_47 : decode cX11_touch 47 = .ok (.iload_n 1, 1) := by decide +kernel
theorem dX11_touch_48 : decode cX11_touch 48 = .ok (.iload_n 2, 1) := by decide +kernel
theorem dX11_touch_49 : decode cX11_touch 49 = .ok (.invokestatic 95, 3) := by decide +kernel
theorem dX11_touch_52 : decode cX11_touch 52 = .ok (.ishl, 1) := by decide +kernel
theorem dX11_touch_53 : decode cX11_touch 53 = .ok (.ixor, 1) := by decide +kernel
theorem dX11_touch_54 : decode cX11_touch 54 = .ok (.putfield 92, 3) := by decide +kernel
theorem dX11_touch_57 : decode cX11_touch 57 = .ok (.aload_n 0, 1) := by decide +kernel
theorem dX11_touch_58 : decode cX11_touch 58 = .ok (.invokevirtual 247, 3) := by decide +kernel
theorem dX11_touch_61 : decode cX11_touch 61 = .ok (.ireturn, 1) := by decide +kernel
theorem dX11_draw_0 : decode cX11_draw 0 = .ok (.aload_n 0, 1) := by decide +kernel
theorem dX11_draw_1 : decode cX11_draw 1 = .ok (.aload_n 0, 1) := by decide +kernel
theorem dX11_draw_2 : decode cX11_draw 2 = .ok (.getfield 250, 3) := by decide +kernel
theorem dX11_draw_5 : decode cX11_draw 5 = .ok (.ldc2_w 254, 3) := by decide +kernel
theorem dX11_draw_8 : decode cX11_draw 8 = .ok (.lmul, 1) := by decide +kernel
theorem dX11_draw_9 : decode cX11_draw 9 = .ok (.ldc2_w 256, 3) := by decide +kernel
theorem dX11_draw_12 : decode cX11_draw 12 = .ok (.ladd, 1) := by decide +kernel
theorem dX11_draw_13 : decode cX11_draw 13 = .ok (.ldc2_w 258, 3) := by decide +kernel
theorem dX11_draw_16 : decode cX11_draw 16 = .ok (.lrem, 1) := by decide +kernel
theorem dX11_draw_17 : decode cX11_draw 17 = .ok (.putfield 250, 3) := by decide +kernel
theorem dX11_draw_20 : decode cX11_draw 20 = .ok (.aload_n 0, 1) := by decide +kernel
theorem dX11_draw_21 : decode cX11_draw 21 = .ok (.getfield 250, 3) := by decide +kernel
theorem dX11_draw_24 : decode cX11_draw 24 = .ok (.ldc2_w 260, 3) := by decide +kernel
theorem dX11_draw_27 : decode cX11_draw 27 = .ok (.ldiv, 1) := by decide +kernel
theorem dX11_draw_28 : decode cX11_draw 28 = .ok (.iload_n 1, 1) := by decide +kernel
theorem dX11_draw_29 : decode cX11_draw 29 = .ok (.i2l, 1) := by decide +kernel
theorem dX11_draw_30 : decode cX11_draw 30 = .ok (.lrem, 1) := by decide +kernel
theorem dX11_draw_31 : decode cX11_draw 31 = .ok (.l2i, 1) := by decide +kernel
theorem dX11_draw_32 : decode cX11_draw 32 = .ok (.ireturn, 1) := by decide +kernel
theorem dX11_driftsHour_0 : decode cX11_driftsHour 0 = .ok (.aload_n 0, 1) := by decide +kernel
theorem dX11_driftsHour_1 : decode cX11_driftsHour 1 = .ok (.iconst 4, 1) := by decide +kernel
theorem dX11_driftsHour_2 : decode cX11_driftsHour 2 = .ok (.invokevirtual 262, 3) := by decide +kernel
theorem dX11_driftsHour_5 : decode cX11_driftsHour 5 = .ok (.istore_n 1, 1) := by decide +kernel
theorem dX11_driftsHour_6 : decode cX11_driftsHour 6 = .ok (.aload_n 0, 1) := by decide +kernel
theorem dX11_driftsHour_7 : decode cX11_driftsHour 7 = .ok (.aload_n 0, 1) := by decide +kernel
theorem dX11_driftsHour_8 : decode cX11_driftsHour 8 = .ok (.getfield 81, 3) := by decide +kernel
theorem dX11_driftsHour_11 : decode cX11_driftsHour 11 = .ok (.invokevirtual 262, 3) := by decide +kernel
theorem dX11_driftsHour_14 : decode cX11_driftsHour 14 = .ok (.istore_n 2, 1) := by decide +kernel
theorem dX11_driftsHour_15 : decode cX11_driftsHour 15 = .ok (.iload_n 1, 1) := by decide +kernel
theorem dX11_driftsHour_16 : decode cX11_driftsHour 16 = .ok (.ifCond .ne 16, 3) := by decide +kernel
theorem dX11_driftsHour_19 : decode cX11_driftsHour 19 = .ok (.aload_n 0, 1) := by decide +kernel
theorem dX11_driftsHour_20 : decode cX11_driftsHour 20 = .ok (.iload_n 2, 1) := by decide +kernel
theorem dX11_driftsHour_21 : decode cX11_driftsHour 21 = .ok (.aload_n 0, 1) := by decide +kernel
theorem dX11_driftsHour_22 : decode cX11_driftsHour 22 = .ok (.iconst 4, 1) := by decide +kernel
theorem dX11_driftsHour_23 : decode cX11_driftsHour 23 = .ok (.invokevirtual 262, 3) := by decide +kernel
theorem dX11_driftsHour_26 : decode cX11_driftsHour 26 = .ok (.invokevirtual 234, 3) := by decide +kernel
theorem dX11_driftsHour_29 : decode cX11_driftsHour 29 = .ok (.goto 50, 3) := by decide +kernel
theorem dX11_driftsHour_32 : decode cX11_driftsHour 32 = .ok (.iload_n 1, 1) := by decide +kernel
theorem dX11_driftsHour_33 : decode cX11_driftsHour 33 = .ok (.iconst 1, 1) := by decide +kernel
theorem dX11_driftsHour_34 : decode cX11_driftsHour 34 = .ok (.if_icmp .ne 22, 3) := by decide +kernel
theorem dX11_driftsHour_37 : decode cX11_driftsHour 37 = .ok (.aload_n 0, 1) := by decide +kernel
theorem dX11_driftsHour_38 : decode cX11_driftsHour 38 = .ok (.aload_n 0, 1) := by decide +kernel
theorem dX11_driftsHour_39 : decode cX11_driftsHour 39 = .ok (.getfield 81, 3) := by decide +kernel
theorem dX11_driftsHour_42 : decode cX11_driftsHour 42 = .ok (.invokevirtual 262, 3) := by decide +kernel
theorem dX11_driftsHour_45 : decode cX11_driftsHour 45 = .ok (.iload_n 2, 1) := by decide +kernel
theorem dX11_driftsHour_46 : decode cX11_driftsHour 46 = .ok (.if_icmp .eq 33, 3) := by decide +kernel
theorem dX11_driftsHour_49 : decode cX11_driftsHour 49 = .ok (.aload_n 0, 1) := by decide +kernel
theorem dX11_driftsHour_50 : decode cX11_driftsHour 50 = .ok (.invokevirtual 241, 3) := by decide +kernel
theorem dX11_driftsHour_53 : decode cX11_driftsHour 53 = .ok (.goto 26, 3) := by decide +kernel
theorem dX11_driftsHour_56 : decode cX11_driftsHour 56 = .ok (.iload_n 1, 1) := by decide +kernel
theorem dX11_driftsHour_57 : decode cX11_driftsHour 57 = .ok (.iconst 2, 1) := by decide +kernel
theorem dX11_driftsHour_58 : decode cX11_driftsHour 58 = .ok (.if_icmp .ne 10, 3) := by decide +kernel
theorem dX11_driftsHour_61 : decode cX11_driftsHour 61 = .ok (.aload_n 0, 1) := by decide +kernel
theorem dX11_driftsHour_62 : decode cX11_driftsHour 62 = .ok (.invokevirtual 238, 3) := by decide +kernel
theorem dX11_driftsHour_65 : decode cX11_driftsHour 65 = .ok (.goto 14, 3) := by decide +kernel
theorem dX11_driftsHour_68 : decode cX11_driftsHour 68 = .ok (.aload_n 0, 1) := by decide +kernel
theorem dX11_driftsHour_69 : decode cX11_driftsHour 69 = .ok (.getfield 13, 3) := by decide +kernel
theorem dX11_driftsHour_72 : decode cX11_driftsHour 72 = .ok (.iload_n 2, 1) := by decide +kernel
theorem dX11_driftsHour_73 : decode cX11_driftsHour 73 = .ok (.aload_n 0, 1) := by decide +kernel
theorem dX11_driftsHour_74 : decode cX11_driftsHour 74 = .ok (.iconst 4, 1) := by decide +kernel
theorem dX11_driftsHour_75 : decode cX11_driftsHour 75 = .ok (.invokevirtual 262, 3) := by decide +kernel
theorem dX11_driftsHour_78 : decode cX11_driftsHour 78 = .ok (.iastore, 1) := by decide +kernel
theorem dX11_driftsHour_79 : decode cX11_driftsHour 79 = .ok (.aload_n 0, 1) := by decide +kernel
theorem dX11_driftsHour_80 : decode cX11_driftsHour 80 = .ok (.dup, 1) := by decide +kernel
theorem dX11_driftsHour_81 : decode cX11_driftsHour 81 = .ok (.getfield 173, 3) := by decide +kernel
theorem dX11_driftsHour_84 : decode cX11_driftsHour 84 = .ok (.iconst 1, 1) := by decide +kernel
theorem dX11_driftsHour_85 : decode cX11_driftsHour 85 = .ok (.iadd, 1) := by decide +kernel
theorem dX11_driftsHour_86 : decode cX11_driftsHour 86 = .ok (.putfield 173, 3) := by decide +kernel
theorem dX11_driftsHour_89 : decode cX11_driftsHour 89 = .ok (.return_, 1) := by decide +kernel
theorem dX11_drift_0 : decode cX11_drift 0 = .ok (.aload_n 0, 1) := by decide +kernel
theorem dX11_drift_1 : decode cX11_drift 1 = .ok (.iload_n 1, 1) := by decide +kernel
theorem dX11_drift_2 : decode cX11_drift 2 = .ok (.invokevirtual 244, 3) := by decide +kernel
theorem dX11_drift_5 : decode cX11_drift 5 = .ok (.istore_n 2, 1) := by decide +kernel
theorem dX11_drift_6 : decode cX11_drift 6 = .ok (.iload_n 2, 1) := by decide +kernel
theorem dX11_drift_7 : decode cX11_drift 7 = .ok (.ifCond .ge 5, 3) := by decide +kernel
theorem dX11_drift_10 : decode cX11_drift 10 = .ok (.iload_n 2, 1) := by decide +kernel
theorem dX11_drift_11 : decode cX11_drift 11 = .ok (.ireturn, 1) := by decide +kernel
theorem dX11_drift_12 : decode cX11_drift 12 = .ok (.aload_n 0, 1) := by decide +kernel
theorem dX11_drift_13 : decode cX11_drift 13 = .ok (.invokevirtual 231, 3) := by decide +kernel
theorem dX11_drift_16 : decode cX11_drift 16 = .ok (.iconst 0, 1) := by decide +kernel
theorem dX11_drift_17 : decode cX11_drift 17 = .ok (.istore_n 3, 1) := by decide +kernel
theorem dX11_drift_18 : decode cX11_drift 18 = .ok (.iload_n 3, 1) := by decide +kernel
theorem dX11_drift_19 : decode cX11_drift 19 = .ok (.iload_n 1, 1) := by decide +kernel
theorem dX11_drift_20 : decode cX11_drift 20 = .ok (.if_icmp .ge 13, 3) := by decide +kernel
theorem dX11_drift_23 : decode cX11_drift 23 = .ok (.aload_n 0, 1) := by decide +kernel
theorem dX11_drift_24 : decode cX11_drift 24 = .ok (.invokevirtual 265, 3) := by decide +kernel
theorem dX11_drift_27 : decode cX11_drift 27 = .ok (.iinc 3 1, 3) := by decide +kernel
theorem dX11_drift_30 : decode cX11_drift 30 = .ok (.goto (-12), 3) := by decide +kernel
theorem dX11_drift_33 : decode cX11_drift 33 = .ok (.aload_n 0, 1) := by decide +kernel
theorem dX11_drift_34 : decode cX11_drift 34 = .ok (.getfield 173, 3) := by decide +kernel
theorem dX11_drift_37 : decode cX11_drift 37 = .ok (.ireturn, 1) := by decide +kernel
theorem dX11_undo_0 : decode cX11_undo 0 = .ok (.aload_n 0, 1) := by decide +kernel
theorem dX11_undo_1 : decode cX11_undo 1 = .ok (.getfield 188, 3) := by decide +kernel
theorem dX11_undo_4 : decode cX11_undo 4 = .ok (.ifCond .ne 6, 3) := by decide +kernel
theorem dX11_undo_7 : decode cX11_undo 7 = .ok (.ldc 230, 2) := by decide +kernel
theorem dX11_undo_9 : decode cX11_undo 9 = .ok (.ireturn, 1) := by decide +kernel
theorem dX11_undo_10 : decode cX11_undo 10 = .ok (.aload_n 0, 1) := by decide +kernel
theorem dX11_undo_11 : decode cX11_undo 11 = .ok (.dup, 1) := by decide +kernel
theorem dX11_undo_12 : decode cX11_undo 12 = .ok (.getfield 188, 3) := by decide +kernel
theorem dX11_undo_15 : decode cX11_undo 15 = .ok (.iconst 1, 1) := by decide +kernel
theorem dX11_undo_16 : decode cX11_undo 16 = .ok (.isub, 1) := by decide +kernel
theorem dX11_undo_17 : decode cX11_undo 17 = .ok (.putfield 188, 3) := by decide +kernel
theorem dX11_undo_20 : decode cX11_undo 20 = .ok (.aload_n 0, 1) := by decide +kernel
theorem dX11_undo_21 : decode cX11_undo 21 = .ok (.aload_n 0, 1) := by decide +kernel
theorem dX11_undo_22 : decode cX11_undo 22 = .ok (.getfield 44, 3) := by decide +kernel
theorem dX11_undo_25 : decode cX11_undo 25 = .ok (.bipush 20, 2) := by decide +kernel
theorem dX11_undo_27 : decode cX11_undo 27 = .ok (.aload_n 0, 1) := by decide +kernel
theorem dX11_undo_28 : decode cX11_undo 28 = .ok (.getfield 188, 3) := by decide +kernel
theorem dX11_undo_31 : decode cX11_undo 31 = .ok (.imul, 1) := by decide +kernel
theorem dX11_undo_32 : decode cX11_undo 32 = .ok (.invokevirtual 268, 3) := by decide +kernel
theorem dX11_undo_35 : decode cX11_undo 35 = .ok (.aload_n 0, 1) := by decide +kernel
theorem dX11_undo_36 : decode cX11_undo 36 = .ok (.getfield 188, 3) := by decide +kernel
theorem dX11_undo_39 : decode cX11_undo 39 = .ok (.ireturn, 1) := by decide +kernel
theorem dX11_cut_0 : decode cX11_cut 0 = .ok (.iload_n 2, 1) := by decide +kernel
theorem dX11_cut_1 : decode cX11_cut 1 = .ok (.iconst (-1), 1) := by decide +kernel
theorem dX11_cut_2 : decode cX11_cut 2 = .ok (.if_icmp .eq 12, 3) := by decide +kernel
theorem dX11_cut_5 : decode cX11_cut 5 = .ok (.aload_n 0, 1) := by decide +kernel
theorem dX11_cut_6 : decode cX11_cut 6 = .ok (.iload_n 1, 1) := by decide +kernel
theorem dX11_cut_7 : decode cX11_cut 7 = .ok (.iload_n 2, 1) := by decide +kernel
theorem dX11_cut_8 : decode cX11_cut 8 = .ok (.invokevirtual 216, 3) := by decide +kernel
theorem dX11_cut_11 : decode cX11_cut 11 = .ok (.ifCond .ne 6, 3) := by decide +kernel
theorem dX11_cut_14 : decode cX11_cut 14 = .ok (.ldc 215, 2) := by decide +kernel
theorem dX11_cut_16 : decode cX11_cut 16 = .ok (.ireturn, 1) := by decide +kernel
theorem dX11_cut_17 : decode cX11_cut 17 = .ok (.iconst (-1), 1) := by decide +kernel
theorem dX11_cut_18 : decode cX11_cut 18 = .ok (.istore_n 3, 1) := by decide +kernel
theorem dX11_cut_19 : decode cX11_cut 19 = .ok (.ldc_w 271, 3) := by decide +kernel
theorem dX11_cut_22 : decode cX11_cut 22 = .ok (.istore 4, 2) := by decide +kernel
theorem dX11_cut_24 : decode cX11_cut 24 = .ok (.iconst 0, 1) := by decide +kernel
theorem dX11_cut_25 : decode cX11_cut 25 = .ok (.istore 5, 2) := by decide +kernel
theorem dX11_cut_27 : decode cX11_cut 27 = .ok (.iload 5, 2) := by decide +kernel
theorem dX11_cut_29 : decode cX11_cut 29 = .ok (.iconst 1, 1) := by decide +kernel
theorem dX11_cut_30 : decode cX11_cut 30 = .ok (.aload_n 0, 1) := by decide +kernel
theorem dX11_cut_31 : decode cX11_cut 31 = .ok (.getfield 81, 3) := by decide +kernel
theorem dX11_cut_34 : decode cX11_cut 34 = .ok (.ishl, 1) := by decide +kernel
theorem dX11_cut_35 : decode cX11_cut 35 = .ok (.if_icmp .ge 40, 3) := by decide +kernel
theorem dX11_cut_38 : decode cX11_cut 38 = .ok (.iload 5, 2) := by decide +kernel
theorem dX11_cut_40 : decode cX11_cut 40 = .ok (.invokestatic 272, 3) := by decide +kernel
theorem dX11_cut_43 : decode cX11_cut 43 = .ok (.iload 4, 2) := by decide +kernel
theorem dX11_cut_45 : decode cX11_cut 45 = .ok (.if_icmp .ge 24, 3) := by decide +kernel
theorem dX11_cut_48 : decode cX11_cut 48 = .ok (.aload_n 0, 1) := by decide +kernel
theorem dX11_cut_49 : decode cX11_cut 49 = .ok (.iload_n 1, 1) := by decide +kernel
theorem dX11_cut_50 : decode cX11_cut 50 = .ok (.iload_n 2, 1) := by decide +kernel
theorem dX11_cut_51 : decode cX11_cut 51 = .ok (.iload 5, 2) := by decide +kernel
theorem dX11_cut_53 : decode cX11_cut 53 = .ok (.invokevirtual 219, 3) := by decide +kernel
theorem dX11_cut_56 : decode cX11_cut 56 = .ok (.ifCond .ne 13, 3) := by decide +kernel
theorem dX11_cut_59 : decode cX11_cut 59 = .ok (.iload 5, 2) := by decide +kernel
theorem dX11_cut_61 : decode cX11_cut 61 = .ok (.istore_n 3, 1) := by decide +kernel
theorem dX11_cut_62 : decode cX11_cut 62 = .ok (.iload 5, 2) := by decide +kernel
theorem dX11_cut_64 : decode cX11_cut 64 = .ok (.invokestatic 272, 3) := by decide +kernel
theorem dX11_cut_67 : decode cX11_cut 67 = .ok (.istore 4, 2) := by decide +kernel
theorem dX11_cut_69 : decode cX11_cut 69 = .ok (.iinc 5 1, 3) := by decide +kernel
theorem dX11_cut_72 : decode cX11_cut 72 = .ok (.goto (-45), 3) := by decide +kernel
theorem dX11_cut_75 : decode cX11_cut 75 = .ok (.iload_n 3, 1) := by decide +kernel
theorem dX11_cut_76 : decode cX11_cut 76 = .ok (.ireturn, 1) := by decide +kernel
theorem dX11_firstOrder_0 : decode cX11_firstOrder 0 = .ok (.iconst 0, 1) := by decide +kernel
theorem dX11_firstOrder_1 : decode cX11_firstOrder 1 = .ok (.istore_n 1, 1) := by decide +kernel
theorem dX11_firstOrder_2 : decode cX11_firstOrder 2 = .ok (.iload_n 1, 1) := by decide +kernel
theorem dX11_firstOrder_3 : decode cX11_firstOrder 3 = .ok (.iconst 5, 1) := by decide +kernel
theorem dX11_firstOrder_4 : decode cX11_firstOrder 4 = .ok (.if_icmp .ge 16, 3) := by decide +kernel
theorem dX11_firstOrder_7 : decode cX11_firstOrder 7 = .ok (.aload_n 0, 1) := by decide +kernel
theorem dX11_firstOrder_8 : decode cX11_firstOrder 8 = .ok (.getfield 57, 3) := by decide +kernel
theorem dX11_firstOrder_11 : decode cX11_firstOrder 11 = .ok (.iload_n 1, 1) := by decide +kernel
theorem dX11_firstOrder_12 : decode cX11_firstOrder 12 = .ok (.iload_n 1, 1) := by decide +kernel
theorem dX11_firstOrder_13 : decode cX11_firstOrder 13 = .ok (.iastore, 1) := by decide +kernel
theorem dX11_firstOrder_14 : decode cX11_firstOrder 14 = .ok (.iinc 1 1, 3) := by decide +kernel
theorem dX11_firstOrder_17 : decode cX11_firstOrder 17 = .ok (.goto (-15), 3) := by decide +kernel
theorem dX11_firstOrder_20 : decode cX11_firstOrder 20 = .ok (.return_, 1) := by decide +kernel
theorem dX11_nextOrder_0 : decode cX11_nextOrder 0 = .ok (.aload_n 0, 1) := by decide +kernel
theorem dX11_nextOrder_1 : decode cX11_nextOrder 1 = .ok (.getfield 81, 3) := by decide +kernel
theorem dX11_nextOrder_4 : decode cX11_nextOrder 4 = .ok (.iconst 2, 1) := by decide +kernel
theorem dX11_nextOrder_5 : decode cX11_nextOrder 5 = .ok (.isub, 1) := by decide +kernel
theorem dX11_nextOrder_6 : decode cX11_nextOrder 6 = .ok (.istore_n 1, 1) := by decide +kernel
theorem dX11_nextOrder_7 : decode cX11_nextOrder 7 = .ok (.iload_n 1, 1) := by decide +kernel
theorem dX11_nextOrder_8 : decode cX11_nextOrder 8 = .ok (.ifCond .lt 26, 3) := by decide +kernel
theorem dX11_nextOrder_11 : decode cX11_nextOrder 11 = .ok (.aload_n 0, 1) := by decide +kernel
theorem dX11_nextOrder_12 : decode cX11_nextOrder 12 = .ok (.getfield 57, 3) := by decide +kernel
theorem dX11_nextOrder_15 : decode cX11_nextOrder 15 = .ok (.iload_n 1, 1) := by decide +kernel
theorem dX11_nextOrder_16 : decode cX11_nextOrder 16 = .ok (.iaload, 1) := by decide +kernel
theorem dX11_nextOrder_17 : decode cX11_nextOrder 17 = .ok (.aload_n 0, 1) := by decide +kernel
theorem dX11_nextOrder_18 : decode cX11_nextOrder 18 = .ok (.getfield 57, 3) := by decide +kernel
theorem dX11_nextOrder_21 : decode cX11_nextOrder 21 = .ok (.iload_n 1, 1) := by decide +kernel
theorem dX11_nextOrder_22 : decode cX11_nextOrder 22 = .ok (.iconst 1, 1) := by decide +kernel
theorem dX11_nextOrder_23 : decode cX11_nextOrder 23 = .ok (.iadd, 1) := by decide +kernel
theorem dX11_nextOrder_24 : decode cX11_nextOrder 24 = .ok (.iaload, 1) := by decide +kernel
theorem dX11_nextOrder_25 : decode cX11_nextOrder 25 = .ok (.if_icmp .le 9, 3) := by decide +kernel
theorem dX11_nextOrder_28 : decode cX11_nextOrder 28 = .ok (.iinc 1 (-1), 3) := by decide +kernel
theorem dX11_nextOrder_31 : decode cX11_nextOrder 31 = .ok (.goto (-24), 3) := by decide +kernel
theorem dX11_nextOrder_34 : decode cX11_nextOrder 34 = .ok (.iload_n 1, 1) := by decide +kernel
theorem dX11_nextOrder_35 : decode cX11_nextOrder 35 = .ok (.ifCond .ge 5, 3) := by decide +kernel
theorem dX11_nextOrder_38 : decode cX11_nextOrder 38 = .ok (.iconst 0, 1) := by decide +kernel
theorem dX11_nextOrder_39 : decode cX11_nextOrder 39 = .ok (.ireturn, 1) := by decide +kernel
theorem dX11_nextOrder_40 : decode cX11_nextOrder 40 = .ok (.aload_n 0, 1) := by decide +kernel
theorem dX11_nextOrder_41 : decode cX11_nextOrder 41 = .ok (.getfield 81, 3) := by decide +kernel
theorem dX11_nextOrder_44 : decode cX11_nextOrder 44 = .ok (.iconst 1, 1) := by decide +kernel
theorem dX11_nextOrder_45 : decode cX11_nextOrder 45 = .ok (.isub, 1) := by decide +kernel
theorem dX11_nextOrder_46 : decode cX11_nextOrder 46 = .ok (.istore_n 2, 1) := by decide +kernel
theorem dX11_nextOrder_47 : decode cX11_nextOrder 47 = .ok (.aload_n 0, 1) := by decide +kernel
theorem dX11_nextOrder_48 : decode cX11_nextOrder 48 = .ok (.getfield 57, 3) := by decide +kernel
theorem dX11_nextOrder_51 : decode cX11_nextOrder 51 = .ok (.iload_n 2, 1) := by decide +kernel
theorem dX11_nextOrder_52 : decode cX11_nextOrder 52 = .ok (.iaload, 1) := by decide +kernel
theorem dX11_nextOrder_53 : decode cX11_nextOrder 53 = .ok (.aload_n 0, 1) := by decide +kernel
theorem dX11_nextOrder_54 : decode cX11_nextOrder 54 = .ok (.getfield 57, 3) := by decide +kernel
theorem dX11_nextOrder_57 : decode cX11_nextOrder 57 = .ok (.iload_n 1, 1) := by decide +kernel
theorem dX11_nextOrder_58 : decode cX11_nextOrder 58 = .ok (.iaload, 1) := by decide +kernel
theorem dX11_nextOrder_59 : decode cX11_nextOrder 59 = .ok (.if_icmp .ge 9, 3) := by decide +kernel
theorem dX11_nextOrder_62 : decode cX11_nextOrder 62 = .ok (.iinc 2 (-1), 3) := by decide +kernel
theorem dX11_nextOrder_65 : decode cX11_nextOrder 65 = .ok (.goto (-18), 3) := by decide +kernel
theorem dX11_nextOrder_68 : decode cX11_nextOrder 68 = .ok (.aload_n 0, 1) := by decide +kernel
theorem dX11_nextOrder_69 : decode cX11_nextOrder 69 = .ok (.getfield 57, 3) := by decide +kernel
theorem dX11_nextOrder_72 : decode cX11_nextOrder 72 = .ok (.iload_n 1, 1) := by decide +kernel
theorem dX11_nextOrder_73 : decode cX11_nextOrder 73 = .ok (.iaload, 1) := by decide +kernel
theorem dX11_nextOrder_74 : decode cX11_nextOrder 74 = .ok (.istore_n 3, 1) := by decide +kernel
theorem dX11_nextOrder_75 : decode cX11_nextOrder 75 = .ok (.aload_n 0, 1) := by decide +kernel
theorem dX11_nextOrder_76 : decode cX11_nextOrder 76 = .ok (.getfield 57, 3) := by decide +kernel
theorem dX11_nextOrder_79 : decode cX11_nextOrder 79 = .ok (.iload_n 1, 1) := by decide +kernel
theorem dX11_nextOrder_80 : decode cX11_nextOrder 80 = .ok (.aload_n 0, 1) := by decide +kernel
theorem dX11_nextOrder_81 : decode cX11_nextOrder 81 = .ok (.getfield 57, 3) := by decide +kernel
theorem dX11_nextOrder_84 : decode cX11_nextOrder 84 = .ok (.iload_n 2, 1) := by decide +kernel
theorem dX11_nextOrder_85 : decode cX11_nextOrder 85 = .ok (.iaload, 1) := by decide +kernel
theorem dX11_nextOrder_86 : decode cX11_nextOrder 86 = .ok (.iastore, 1) := by decide +kernel
theorem dX11_nextOrder_87 : decode cX11_nextOrder 87 = .ok (.aload_n 0, 1) := by decide +kernel
theorem dX11_nextOrder_88 : decode cX11_nextOrder 88 = .ok (.getfield 57, 3) := by decide +kernel
theorem dX11_nextOrder_91 : decode cX11_nextOrder 91 = .ok (.iload_n 2, 1) := by decide +kernel
theorem dX11_nextOrder_92 : decode cX11_nextOrder 92 = .ok (.iload_n 3, 1) := by decide +kernel
theorem dX11_nextOrder_93 : decode cX11_nextOrder 93 = .ok (.iastore, 1) := by decide +kernel
theorem dX11_nextOrder_94 : decode cX11_nextOrder 94 = .ok (.aload_n 0, 1) := by decide +kernel
theorem dX11_nextOrder_95 : decode cX11_nextOrder 95 = .ok (.getfield 81, 3) := by decide +kernel
theorem dX11_nextOrder_98 : decode cX11_nextOrder 98 = .ok (.iconst 1, 1) := by decide +kernel
theorem dX11_nextOrder_99 : decode cX11_nextOrder 99 = .ok (.isub, 1) := by decide +kernel
theorem dX11_nextOrder_100 : decode cX11_nextOrder 100 = .ok (.istore 4, 2) := by decide +kernel
theorem dX11_nextOrder_102 : decode cX11_nextOrder 102 = .ok (.iload_n 1, 1) := by decide +kernel
theorem dX11_nextOrder_103 : decode cX11_nextOrder 103 = .ok (.iconst 1, 1) := by decide +kernel
theorem dX11_nextOrder_104 : decode cX11_nextOrder 104 = .ok (.iadd, 1) := by decide +kernel
theorem dX11_nextOrder_105 : decode cX11_nextOrder 105 = .ok (.istore 5, 2) := by decide +kernel
theorem dX11_nextOrder_107 : decode cX11_nextOrder 107 = .ok (.iload 5, 2) := by decide +kernel
theorem dX11_nextOrder_109 : decode cX11_nextOrder 109 = .ok (.iload 4, 2) := by decide +kernel
theorem dX11_nextOrder_111 : decode cX11_nextOrder 111 = .ok (.if_icmp .ge 44, 3) := by decide +kernel
theorem dX11_nextOrder_114 : decode cX11_nextOrder 114 = .ok (.aload_n 0, 1) := by decide +kernel
theorem dX11_nextOrder_115 : decode cX11_nextOrder 115 = .ok (.getfield 57, 3) := by decide +kernel
theorem dX11_nextOrder_118 : decode cX11_nextOrder 118 = .ok (.iload 5, 2) := by decide +kernel
theorem dX11_nextOrder_120 : decode cX11_nextOrder 120 = .ok (.iaload, 1) := by decide +kernel
theorem dX11_nextOrder_121 : decode cX11_nextOrder 121 = .ok (.istore 6, 2) := by decide +kernel
theorem dX11_nextOrder_123 : decode cX11_nextOrder 123 = .ok (.aload_n 0, 1) := by decide +kernel
theorem dX11_nextOrder_124 : decode cX11_nextOrder 124 = .ok (.getfield 57, 3) := by decide +kernel
theorem dX11_nextOrder_127 : decode cX11_nextOrder 127 = .ok (.iload 5, 2) := by decide +kernel
theorem dX11_nextOrder_129 : decode cX11_nextOrder 129 = .ok (.aload_n 0, 1) := by decide +kernel
theorem dX11_nextOrder_130 : decode cX11_nextOrder 130 = .ok (.getfield 57, 3) := by decide +kernel
theorem dX11_nextOrder_133 : decode cX11_nextOrder 133 = .ok (.iload 4, 2) := by decide +kernel
theorem dX11_nextOrder_135 : decode cX11_nextOrder 135 = .ok (.iaload, 1) := by decide +kernel
theorem dX11_nextOrder_136 : decode cX11_nextOrder 136 = .ok (.iastore, 1) := by decide +kernel
theorem dX11_nextOrder_137 : decode cX11_nextOrder 137 = .ok (.aload_n 0, 1) := by decide +kernel
theorem dX11_nextOrder_138 : decode cX11_nextOrder 138 = .ok (.getfield 57, 3) := by decide +kernel
theorem dX11_nextOrder_141 : decode cX11_nextOrder 141 = .ok (.iload 4, 2) := by decide +kernel
theorem dX11_nextOrder_143 : decode cX11_nextOrder 143 = .ok (.iload 6, 2) := by decide +kernel
theorem dX11_nextOrder_145 : decode cX11_nextOrder 145 = .ok (.iastore, 1) := by decide +kernel
theorem dX11_nextOrder_146 : decode cX11_nextOrder 146 = .ok (.iinc 4 (-1), 3) := by decide +kernel
theorem dX11_nextOrder_149 : decode cX11_nextOrder 149 = .ok (.iinc 5 1, 3) := by decide +kernel
theorem dX11_nextOrder_152 : decode cX11_nextOrder 152 = .ok (.goto (-45), 3) := by decide +kernel
theorem dX11_nextOrder_155 : decode cX11_nextOrder 155 = .ok (.iconst 1, 1) := by decide +kernel
theorem dX11_nextOrder_156 : decode cX11_nextOrder 156 = .ok (.ireturn, 1) := by decide +kernel
theorem dX11_couldBe_0 : decode cX11_couldBe 0 = .ok (.iconst 1, 1) := by decide +kernel
theorem dX11_couldBe_1 : decode cX11_couldBe 1 = .ok (.istore_n 1, 1) := by decide +kernel
theorem dX11_couldBe_2 : decode cX11_couldBe 2 = .ok (.iconst 0, 1) := by decide +kernel
theorem dX11_couldBe_3 : decode cX11_couldBe 3 = .ok (.istore_n 2, 1) := by decide +kernel
theorem dX11_couldBe_4 : decode cX11_couldBe 4 = .ok (.iload_n 2, 1) := by decide +kernel
theorem dX11_couldBe_5 : decode cX11_couldBe 5 = .ok (.aload_n 0, 1) := by decide +kernel
theorem dX11_couldBe_6 : decode cX11_couldBe 6 = .ok (.getfield 182, 3) := by decide +kernel
theorem dX11_couldBe_9 : decode cX11_couldBe 9 = .ok (.if_icmp .ge 113, 3) := by decide +kernel
theorem dX11_couldBe_12 : decode cX11_couldBe 12 = .ok (.iload_n 1, 1) := by decide +kernel
theorem dX11_couldBe_13 : decode cX11_couldBe 13 = .ok (.ifCond .eq 109, 3) := by decide +kernel
theorem dX11_couldBe_16 : decode cX11_couldBe 16 = .ok (.bipush 14, 2) := by decide +kernel
theorem dX11_couldBe_18 : decode cX11_couldBe 18 = .ok (.iload_n 2, 1) := by decide +kernel
theorem dX11_couldBe_19 : decode cX11_couldBe 19 = .ok (.imul, 1) := by decide +kernel
theorem dX11_couldBe_20 : decode cX11_couldBe 20 = .ok (.istore_n 3, 1) := by decide +kernel
theorem dX11_couldBe_21 : decode cX11_couldBe 21 = .ok (.aload_n 0, 1) := by decide +kernel
theorem dX11_couldBe_22 : decode cX11_couldBe 22 = .ok (.iconst 5, 1) := by decide +kernel
theorem dX11_couldBe_23 : decode cX11_couldBe 23 = .ok (.aload_n 0, 1) := by decide +kernel
theorem dX11_couldBe_24 : decode cX11_couldBe 24 = .ok (.getfield 22, 3) := by decide +kernel
theorem dX11_couldBe_27 : decode cX11_couldBe 27 = .ok (.iload_n 3, 1) := by decide +kernel
theorem dX11_couldBe_28 : decode cX11_couldBe 28 = .ok (.iaload, 1) := by decide +kernel
theorem dX11_couldBe_29 : decode cX11_couldBe 29 = .ok (.imul, 1) := by decide +kernel
theorem dX11_couldBe_30 : decode cX11_couldBe 30 = .ok (.aload_n 0, 1) := by decide +kernel
theorem dX11_couldBe_31 : decode cX11_couldBe 31 = .ok (.getfield 22, 3) := by decide +kernel
theorem dX11_couldBe_34 : decode cX11_couldBe 34 = .ok (.iload_n 3, 1) := by decide +kernel
theorem dX11_couldBe_35 : decode cX11_couldBe 35 = .ok (.iconst 2, 1) := by decide +kernel
theorem dX11_couldBe_36 : decode cX11_couldBe 36 = .ok (.iadd, 1) := by decide +kernel
theorem dX11_couldBe_37 : decode cX11_couldBe 37 = .ok (.iaload, 1) := by decide +kernel
theorem dX11_couldBe_38 : decode cX11_couldBe 38 = .ok (.iadd, 1) := by decide +kernel
theorem dX11_couldBe_39 : decode cX11_couldBe 39 = .ok (.aload_n 0, 1) := by decide +kernel
theorem dX11_couldBe_40 : decode cX11_couldBe 40 = .ok (.getfield 57, 3) := by decide +kernel
theorem dX11_couldBe_43 : decode cX11_couldBe 43 = .ok (.aload_n 0, 1) := by decide +kernel
theorem dX11_couldBe_44 : decode cX11_couldBe 44 = .ok (.getfield 22, 3) := by decide +kernel
theorem dX11_couldBe_47 : decode cX11_couldBe 47 = .ok (.iload_n 3, 1) := by decide +kernel
theorem dX11_couldBe_48 : decode cX11_couldBe 48 = .ok (.iconst 1, 1) := by decide +kernel
theorem dX11_couldBe_49 : decode cX11_couldBe 49 = .ok (.iadd, 1) := by decide +kernel
theorem dX11_couldBe_50 : decode cX11_couldBe 50 = .ok (.iaload, 1) := by decide +kernel
theorem dX11_couldBe_51 : decode cX11_couldBe 51 = .ok (.aload_n 0, 1) := by decide +kernel
theorem dX11_couldBe_52 : decode cX11_couldBe 52 = .ok (.getfield 22, 3) := by decide +kernel
theorem dX11_couldBe_55 : decode cX11_couldBe 55 = .ok (.aload_n 0, 1) := by decide +kernel
theorem dX11_couldBe_56 : decode cX11_couldBe 56 = .ok (.getfield 60, 3) := by decide +kernel
theorem dX11_couldBe_59 : decode cX11_couldBe 59 = .ok (.iload_n 3, 1) := by decide +kernel
theorem dX11_couldBe_60 : decode cX11_couldBe 60 = .ok (.iconst 5, 1) := by decide +kernel
theorem dX11_couldBe_61 : decode cX11_couldBe 61 = .ok (.iadd, 1) := by decide +kernel
theorem dX11_couldBe_62 : decode cX11_couldBe 62 = .ok (.iconst 0, 1) := by decide +kernel
theorem dX11_couldBe_63 : decode cX11_couldBe 63 = .ok (.invokevirtual 205, 3) := by decide +kernel
theorem dX11_couldBe_66 : decode cX11_couldBe 66 = .ok (.istore 4, 2) := by decide +kernel
theorem dX11_couldBe_68 : decode cX11_couldBe 68 = .ok (.iload 4, 2) := by decide +kernel
theorem dX11_couldBe_70 : decode cX11_couldBe 70 = .ok (.aload_n 0, 1) := by decide +kernel
theorem dX11_couldBe_71 : decode cX11_couldBe 71 = .ok (.getfield 22, 3) := by decide +kernel
theorem dX11_couldBe_74 : decode cX11_couldBe 74 = .ok (.iload_n 3, 1) := by decide +kernel
theorem dX11_couldBe_75 : decode cX11_couldBe 75 = .ok (.iaload, 1) := by decide +kernel
theorem dX11_couldBe_76 : decode cX11_couldBe 76 = .ok (.aload_n 0, 1) := by decide +kernel
theorem dX11_couldBe_77 : decode cX11_couldBe 77 = .ok (.getfield 22, 3) := by decide +kernel
theorem dX11_couldBe_80 : decode cX11_couldBe 80 = .ok (.iload_n 3, 1) := by decide +kernel
theorem dX11_couldBe_81 : decode cX11_couldBe 81 = .ok (.iconst 3, 1) := by decide +kernel
theorem dX11_couldBe_82 : decode cX11_couldBe 82 = .ok (.iadd, 1) := by decide +kernel
theorem dX11_couldBe_83 : decode cX11_couldBe 83 = .ok (.iaload, 1) := by decide +kernel
theorem dX11_couldBe_84 : decode cX11_couldBe 84 = .ok (.invokestatic 212, 3) := by decide +kernel
theorem dX11_couldBe_87 : decode cX11_couldBe 87 = .ok (.invokestatic 99, 3) := by decide +kernel
theorem dX11_couldBe_90 : decode cX11_couldBe 90 = .ok (.aload_n 0, 1) := by decide +kernel
theorem dX11_couldBe_91 : decode cX11_couldBe 91 = .ok (.getfield 22, 3) := by decide +kernel
theorem dX11_couldBe_94 : decode cX11_couldBe 94 = .ok (.iload_n 3, 1) := by decide +kernel
theorem dX11_couldBe_95 : decode cX11_couldBe 95 = .ok (.iconst 4, 1) := by decide +kernel
theorem dX11_couldBe_96 : decode cX11_couldBe 96 = .ok (.iadd, 1) := by decide +kernel
theorem dX11_couldBe_97 : decode cX11_couldBe 97 = .ok (.iaload, 1) := by decide +kernel
theorem dX11_couldBe_98 : decode cX11_couldBe 98 = .ok (.iconst 1, 1) := by decide +kernel
theorem dX11_couldBe_99 : decode cX11_couldBe 99 = .ok (.if_icmp .ne 7, 3) := by decide +kernel
theorem dX11_couldBe_102 : decode cX11_couldBe 102 = .ok (.iconst 1, 1) := by decide +kernel
theorem dX11_couldBe_103 : decode cX11_couldBe 103 = .ok (.goto 4, 3) := by decide +kernel
theorem dX11_couldBe_106 : decode cX11_couldBe 106 = .ok (.iconst 0, 1) := by decide +kernel
theorem dX11_couldBe_107 : decode cX11_couldBe 107 = .ok (.if_icmp .ne 7, 3) := by decide +kernel
theorem dX11_couldBe_110 : decode cX11_couldBe 110 = .ok (.iconst 1, 1) := by decide +kernel
theorem dX11_couldBe_111 : decode cX11_couldBe 111 = .ok (.goto 4, 3) := by decide +kernel
theorem dX11_couldBe_114 : decode cX11_couldBe 114 = .ok (.iconst 0, 1) := by decide +kernel
theorem dX11_couldBe_115 : decode cX11_couldBe 115 = .ok (.istore_n 1, 1) := by decide +kernel
theorem dX11_couldBe_116 : decode cX11_couldBe 116 = .ok (.iinc 2 1, 3) := by decide +kernel
theorem dX11_couldBe_119 : decode cX11_couldBe 119 = .ok (.goto (-115), 3) := by decide +kernel
theorem dX11_couldBe_122 : decode cX11_couldBe 122 = .ok (.iload_n 1, 1) := by decide +kernel
theorem dX11_couldBe_123 : decode cX11_couldBe 123 = .ok (.ireturn, 1) := by decide +kernel
theorem dX11_setCould_0 : decode cX11_setCould 0 = .ok (.aload_n 0, 1) := by decide +kernel
theorem dX11_setCould_1 : decode cX11_setCould 1 = .ok (.iconst 0, 1) := by decide +kernel
theorem dX11_setCould_2 : decode cX11_setCould 2 = .ok (.putfield 275, 3) := by decide +kernel
theorem dX11_setCould_5 : decode cX11_setCould 5 = .ok (.iconst 0, 1) := by decide +kernel
theorem dX11_setCould_6 : decode cX11_setCould 6 = .ok (.istore_n 1, 1) := by decide +kernel
theorem dX11_setCould_7 : decode cX11_setCould 7 = .ok (.iload_n 1, 1) := by decide +kernel
theorem dX11_setCould_8 : decode cX11_setCould 8 = .ok (.iconst 5, 1) := by decide +kernel
theorem dX11_setCould_9 : decode cX11_setCould 9 = .ok (.if_icmp .ge 23, 3) := by decide +kernel
theorem dX11_setCould_12 : decode cX11_setCould 12 = .ok (.aload_n 0, 1) := by decide +kernel
theorem dX11_setCould_13 : decode cX11_setCould 13 = .ok (.getfield 63, 3) := by decide +kernel
theorem dX11_setCould_16 : decode cX11_setCould 16 = .ok (.iload_n 1, 1) := by decide +kernel
theorem dX11_setCould_17 : decode cX11_setCould 17 = .ok (.iconst 0, 1) := by decide +kernel
theorem dX11_setCould_18 : decode cX11_setCould 18 = .ok (.iastore, 1) := by decide +kernel
theorem dX11_setCould_19 : decode cX11_setCould 19 = .ok (.aload_n 0, 1) := by decide +kernel
theorem dX11_setCould_20 : decode cX11_setCould 20 = .ok (.getfield 66, 3) := by decide +kernel
theorem dX11_setCould_23 : decode cX11_setCould 23 = .ok (.iload_n 1, 1) := by decide +kernel
theorem dX11_setCould_24 : decode cX11_setCould 24 = .ok (.iconst (-1), 1) := by decide +kernel
theorem dX11_setCould_25 : decode cX11_setCould 25 = .ok (.iastore, 1) := by decide +kernel
theorem dX11_setCould_26 : decode cX11_setCould 26 = .ok (.iinc 1 1, 3) := by decide +kernel
theorem dX11_setCould_29 : decode cX11_setCould 29 = .ok (.goto (-22), 3) := by decide +kernel
theorem dX11_setCould_32 : decode cX11_setCould 32 = .ok (.iconst 0, 1) := by decide +kernel
theorem dX11_setCould_33 : decode cX11_setCould 33 = .ok (.istore_n 1, 1) := by decide +kernel
theorem dX11_setCould_34 : decode cX11_setCould 34 = .ok (.iload_n 1, 1) := by decide +kernel
theorem dX11_setCould_35 : decode cX11_setCould 35 = .ok (.bipush 25, 2) := by decide +kernel
theorem dX11_setCould_37 : decode cX11_setCould 37 = .ok (.if_icmp .ge 16, 3) := by decide +kernel
theorem dX11_setCould_40 : decode cX11_setCould 40 = .ok (.aload_n 0, 1) := by decide +kernel
theorem dX11_setCould_41 : decode cX11_setCould 41 = .ok (.getfield 69, 3) := by decide +kernel
theorem dX11_setCould_44 : decode cX11_setCould 44 = .ok (.iload_n 1, 1) := by decide +kernel
theorem dX11_setCould_45 : decode cX11_setCould 45 = .ok (.iconst 0, 1) := by decide +kernel
theorem dX11_setCould_46 : decode cX11_setCould 46 = .ok (.iastore, 1) := by decide +kernel
theorem dX11_setCould_47 : decode cX11_setCould 47 = .ok (.iinc 1 1, 3) := by decide +kernel
theorem dX11_setCould_50 : decode cX11_setCould 50 = .ok (.goto (-16), 3) := by decide +kernel
theorem dX11_setCould_53 : decode cX11_setCould 53 = .ok (.aload_n 0, 1) := by decide +kernel
theorem dX11_setCould_54 : decode cX11_setCould 54 = .ok (.invokevirtual 278, 3) := by decide +kernel
theorem dX11_setCould_57 : decode cX11_setCould 57 = .ok (.aload_n 0, 1) := by decide +kernel
theorem dX11_setCould_58 : decode cX11_setCould 58 = .ok (.getfield 81, 3) := by decide +kernel
theorem dX11_setCould_61 : decode cX11_setCould 61 = .ok (.ifCond .le 7, 3) := by decide +kernel
theorem dX11_setCould_64 : decode cX11_setCould 64 = .ok (.iconst 1, 1) := by decide +kernel
theorem dX11_setCould_65 : decode cX11_setCould 65 = .ok (.goto 4, 3) := by decide +kernel
theorem dX11_setCould_68 : decode cX11_setCould 68 = .ok (.iconst 0, 1) := by decide +kernel
theorem dX11_setCould_69 : decode cX11_setCould 69 = .ok (.istore_n 1, 1) := by decide +kernel
theorem dX11_setCould_70 : decode cX11_setCould 70 = .ok (.iload_n 1, 1) := by decide +kernel
theorem dX11_setCould_71 : decode cX11_setCould 71 = .ok (.ifCond .eq 22, 3) := by decide +kernel
theorem dX11_setCould_74 : decode cX11_setCould 74 = .ok (.aload_n 0, 1) := by decide +kernel
theorem dX11_setCould_75 : decode cX11_setCould 75 = .ok (.invokevirtual 281, 3) := by decide +kernel
theorem dX11_setCould_78 : decode cX11_setCould 78 = .ok (.ifCond .eq 7, 3) := by decide +kernel
theorem dX11_setCould_81 : decode cX11_setCould 81 = .ok (.aload_n 0, 1) := by decide +kernel
theorem dX11_setCould_82 : decode cX11_setCould 82 = .ok (.invokevirtual 284, 3) := by decide +kernel
theorem dX11_setCould_85 : decode cX11_setCould 85 = .ok (.aload_n 0, 1) := by decide +kernel
theorem dX11_setCould_86 : decode cX11_setCould 86 = .ok (.invokevirtual 287, 3) := by decide +kernel
theorem dX11_setCould_89 : decode cX11_setCould 89 = .ok (.istore_n 1, 1) := by decide +kernel
theorem dX11_setCould_90 : decode cX11_setCould 90 = .ok (.goto (-20), 3) := by decide +kernel
theorem dX11_setCould_93 : decode cX11_setCould 93 = .ok (.return_, 1) := by decide +kernel
theorem dX11_countsOrder_0 : decode cX11_countsOrder 0 = .ok (.iconst 0, 1) := by decide +kernel
theorem dX11_countsOrder_1 : decode cX11_countsOrder 1 = .ok (.istore_n 1, 1) := by decide +kernel
theorem dX11_countsOrder_2 : decode cX11_countsOrder 2 = .ok (.iload_n 1, 1) := by decide +kernel
theorem dX11_countsOrder_3 : decode cX11_countsOrder 3 = .ok (.aload_n 0, 1) := by decide +kernel
theorem dX11_countsOrder_4 : decode cX11_countsOrder 4 = .ok (.getfield 81, 3) := by decide +kernel
theorem dX11_countsOrder_7 : decode cX11_countsOrder 7 = .ok (.if_icmp .ge 136, 3) := by decide +kernel
theorem dX11_countsOrder_10 : decode cX11_countsOrder 10 = .ok (.aload_n 0, 1) := by decide +kernel
theorem dX11_countsOrder_11 : decode cX11_countsOrder 11 = .ok (.getfield 63, 3) := by decide +kernel
theorem dX11_countsOrder_14 : decode cX11_countsOrder 14 = .ok (.iload_n 1, 1) := by decide +kernel
theorem dX11_countsOrder_15 : decode cX11_countsOrder 15 = .ok (.dup2, 1) := by decide +kernel
theorem dX11_countsOrder_16 : decode cX11_countsOrder 16 = .ok (.iaload, 1) := by decide +kernel
theorem dX11_countsOrder_17 : decode cX11_countsOrder 17 = .ok (.iconst 1, 1) := by decide +kernel
theorem dX11_countsOrder_18 : decode cX11_countsOrder 18 = .ok (.aload_n 0, 1) := by decide +kernel
theorem dX11_countsOrder_19 : decode cX11_countsOrder 19 = .ok (.getfield 57, 3) := by decide +kernel
theorem dX11_countsOrder_22 : decode cX11_countsOrder 22 = .ok (.iload_n 1, 1) := by decide +kernel
theorem dX11_countsOrder_23 : decode cX11_countsOrder 23 = .ok (.iaload, 1) := by decide +kernel
theorem dX11_countsOrder_24 : decode cX11_countsOrder 24 = .ok (.ishl, 1) := by decide +kernel
theorem dX11_countsOrder_25 : decode cX11_countsOrder 25 = .ok (.ior, 1) := by decide +kernel
theorem dX11_countsOrder_26 : decode cX11_countsOrder 26 = .ok (.iastore, 1) := by decide +kernel
theorem dX11_countsOrder_27 : decode cX11_countsOrder 27 = .ok (.aload_n 0, 1) := by decide +kernel
theorem dX11_countsOrder_28 : decode cX11_countsOrder 28 = .ok (.getfield 66, 3) := by decide +kernel
theorem dX11_countsOrder_31 : decode cX11_countsOrder 31 = .ok (.iload_n 1, 1) := by decide +kernel
theorem dX11_countsOrder_32 : decode cX11_countsOrder 32 = .ok (.aload_n 0, 1) := by decide +kernel
theorem dX11_countsOrder_33 : decode cX11_countsOrder 33 = .ok (.getfield 275, 3) := by decide +kernel
theorem dX11_countsOrder_36 : decode cX11_countsOrder 36 = .ok (.ifCond .ne 12, 3) := by decide +kernel
theorem dX11_countsOrder_39 : decode cX11_countsOrder 39 = .ok (.aload_n 0, 1) := by decide +kernel
theorem dX11_countsOrder_40 : decode cX11_countsOrder 40 = .ok (.getfield 57, 3) := by decide +kernel
theorem dX11_countsOrder_43 : decode cX11_countsOrder 43 = .ok (.iload_n 1, 1) := by decide +kernel
theorem dX11_countsOrder_44 : decode cX11_countsOrder 44 = .ok (.iaload, 1) := by decide +kernel
theorem dX11_countsOrder_45 : decode cX11_countsOrder 45 = .ok (.goto 9, 3) := by decide +kernel
theorem dX11_countsOrder_48 : decode cX11_countsOrder 48 = .ok (.aload_n 0, 1) := by decide +kernel
theorem dX11_countsOrder_49 : decode cX11_countsOrder 49 = .ok (.getfield 66, 3) := by decide +kernel
theorem dX11_countsOrder_52 : decode cX11_countsOrder 52 = .ok (.iload_n 1, 1) := by decide +kernel
theorem dX11_countsOrder_53 : decode cX11_countsOrder 53 = .ok (.iaload, 1) := by decide +kernel
theorem dX11_countsOrder_54 : decode cX11_countsOrder 54 = .ok (.iastore, 1) := by decide +kernel
theorem dX11_countsOrder_55 : decode cX11_countsOrder 55 = .ok (.aload_n 0, 1) := by decide +kernel
theorem dX11_countsOrder_56 : decode cX11_countsOrder 56 = .ok (.iconst 5, 1) := by decide +kernel
theorem dX11_countsOrder_57 : decode cX11_countsOrder 57 = .ok (.aload_n 0, 1) := by decide +kernel
theorem dX11_countsOrder_58 : decode cX11_countsOrder 58 = .ok (.getfield 170, 3) := by decide +kernel
theorem dX11_countsOrder_61 : decode cX11_countsOrder 61 = .ok (.imul, 1) := by decide +kernel
theorem dX11_countsOrder_62 : decode cX11_countsOrder 62 = .ok (.iload_n 1, 1) := by decide +kernel
theorem dX11_countsOrder_63 : decode cX11_countsOrder 63 = .ok (.iadd, 1) := by decide +kernel
theorem dX11_countsOrder_64 : decode cX11_countsOrder 64 = .ok (.aload_n 0, 1) := by decide +kernel
theorem dX11_countsOrder_65 : decode cX11_countsOrder 65 = .ok (.getfield 57, 3) := by decide +kernel
theorem dX11_countsOrder_68 : decode cX11_countsOrder 68 = .ok (.aload_n 0, 1) := by decide +kernel
theorem dX11_countsOrder_69 : decode cX11_countsOrder 69 = .ok (.getfield 173, 3) := by decide +kernel
theorem dX11_countsOrder_72 : decode cX11_countsOrder 72 = .ok (.aload_n 0, 1) := by decide +kernel
theorem dX11_countsOrder_73 : decode cX11_countsOrder 73 = .ok (.getfield 16, 3) := by decide +kernel
theorem dX11_countsOrder_76 : decode cX11_countsOrder 76 = .ok (.aload_n 0, 1) := by decide +kernel
theorem dX11_countsOrder_77 : decode cX11_countsOrder 77 = .ok (.getfield 19, 3) := by decide +kernel
theorem dX11_countsOrder_80 : decode cX11_countsOrder 80 = .ok (.iconst 0, 1) := by decide +kernel
theorem dX11_countsOrder_81 : decode cX11_countsOrder 81 = .ok (.iconst 0, 1) := by decide +kernel
theorem dX11_countsOrder_82 : decode cX11_countsOrder 82 = .ok (.invokevirtual 205, 3) := by decide +kernel
theorem dX11_countsOrder_85 : decode cX11_countsOrder 85 = .ok (.istore_n 2, 1) := by decide +kernel
theorem dX11_countsOrder_86 : decode cX11_countsOrder 86 = .ok (.iload_n 1, 1) := by decide +kernel
theorem dX11_countsOrder_87 : decode cX11_countsOrder 87 = .ok (.iconst 1, 1) := by decide +kernel
theorem dX11_countsOrder_88 : decode cX11_countsOrder 88 = .ok (.iadd, 1) := by decide +kernel
theorem dX11_countsOrder_89 : decode cX11_countsOrder 89 = .ok (.istore_n 3, 1) := by decide +kernel
theorem dX11_countsOrder_90 : decode cX11_countsOrder 90 = .ok (.iload_n 3, 1) := by decide +kernel
theorem dX11_countsOrder_91 : decode cX11_countsOrder 91 = .ok (.aload_n 0, 1) := by decide +kernel
theorem dX11_countsOrder_92 : decode cX11_countsOrder 92 = .ok (.getfield 81, 3) := by decide +kernel
theorem dX11_countsOrder_95 : decode cX11_countsOrder 95 = .ok (.if_icmp .ge 42, 3) := by decide +kernel
theorem dX11_countsOrder_98 : decode cX11_countsOrder 98 = .ok (.aload_n 0, 1) := by decide +kernel
theorem dX11_countsOrder_99 : decode cX11_countsOrder 99 = .ok (.getfield 69, 3) := by decide +kernel
theorem dX11_countsOrder_102 : decode cX11_countsOrder 102 = .ok (.iload_n 1, 1) := by decide +kernel
theorem dX11_countsOrder_103 : decode cX11_countsOrder 103 = .ok (.iload_n 3, 1) := by decide +kernel
theorem dX11_countsOrder_104 : decode cX11_countsOrder 104 = .ok (.invokestatic 95, 3) := by decide +kernel
theorem dX11_countsOrder_107 : decode cX11_countsOrder 107 = .ok (.dup2, 1) := by decide +kernel
theorem dX11_countsOrder_108 : decode cX11_countsOrder 108 = .ok (.iaload, 1) := by decide +kernel
theorem dX11_countsOrder_109 : decode cX11_countsOrder 109 = .ok (.iload_n 2, 1) := by decide +kernel
theorem dX11_countsOrder_110 : decode cX11_countsOrder 110 = .ok (.iconst 5, 1) := by decide +kernel
theorem dX11_countsOrder_111 : decode cX11_countsOrder 111 = .ok (.aload_n 0, 1) := by decide +kernel
theorem dX11_countsOrder_112 : decode cX11_countsOrder 112 = .ok (.getfield 170, 3) := by decide +kernel
theorem dX11_countsOrder_115 : decode cX11_countsOrder 115 = .ok (.imul, 1) := by decide +kernel
theorem dX11_countsOrder_116 : decode cX11_countsOrder 116 = .ok (.iload_n 3, 1) := by decide +kernel
theorem dX11_countsOrder_117 : decode cX11_countsOrder 117 = .ok (.iadd, 1) := by decide +kernel
theorem dX11_countsOrder_118 : decode cX11_countsOrder 118 = .ok (.invokestatic 99, 3) := by decide +kernel
theorem dX11_countsOrder_121 : decode cX11_countsOrder 121 = .ok (.ifCond .eq 7, 3) := by decide +kernel
theorem dX11_countsOrder_124 : decode cX11_countsOrder 124 = .ok (.iconst 1, 1) := by decide +kernel
theorem dX11_countsOrder_125 : decode cX11_countsOrder 125 = .ok (.goto 4, 3) := by decide +kernel
theorem dX11_countsOrder_128 : decode cX11_countsOrder 128 = .ok (.iconst 0, 1) := by decide +kernel
theorem dX11_countsOrder_129 : decode cX11_countsOrder 129 = .ok (.iadd, 1) := by decide +kernel
theorem dX11_countsOrder_130 : decode cX11_countsOrder 130 = .ok (.iastore, 1) := by decide +kernel
theorem dX11_countsOrder_131 : decode cX11_countsOrder 131 = .ok (.iinc 3 1, 3) := by decide +kernel
theorem dX11_countsOrder_134 : decode cX11_countsOrder 134 = .ok (.goto (-44), 3) := by decide +kernel
theorem dX11_countsOrder_137 : decode cX11_countsOrder 137 = .ok (.iinc 1 1, 3) := by decide +kernel
theorem dX11_countsOrder_140 : decode cX11_countsOrder 140 = .ok (.goto (-138), 3) := by decide +kernel
theorem dX11_countsOrder_143 : decode cX11_countsOrder 143 = .ok (.aload_n 0, 1) := by decide +kernel
theorem dX11_countsOrder_144 : decode cX11_countsOrder 144 = .ok (.dup, 1) := by decide +kernel
theorem dX11_countsOrder_145 : decode cX11_countsOrder 145 = .ok (.getfield 275, 3) := by decide +kernel
theorem dX11_countsOrder_148 : decode cX11_countsOrder 148 = .ok (.iconst 1, 1) := by decide +kernel
theorem dX11_countsOrder_149 : decode cX11_countsOrder 149 = .ok (.iadd, 1) := by decide +kernel
theorem dX11_countsOrder_150 : decode cX11_countsOrder 150 = .ok (.putfield 275, 3) := by decide +kernel
theorem dX11_countsOrder_153 : decode cX11_countsOrder 153 = .ok (.return_, 1) := by decide +kernel
theorem dX11_askPair_0 : decode cX11_askPair 0 = .ok (.aload_n 0, 1) := by decide +kernel
theorem dX11_askPair_1 : decode cX11_askPair 1 = .ok (.invokevirtual 290, 3) := by decide +kernel
theorem dX11_askPair_4 : decode cX11_askPair 4 = .ok (.iconst (-1), 1) := by decide +kernel
theorem dX11_askPair_5 : decode cX11_askPair 5 = .ok (.istore_n 1, 1) := by decide +kernel
theorem dX11_askPair_6 : decode cX11_askPair 6 = .ok (.aload_n 0, 1) := by decide +kernel
theorem dX11_askPair_7 : decode cX11_askPair 7 = .ok (.getfield 275, 3) := by decide +kernel
theorem dX11_askPair_10 : decode cX11_askPair 10 = .ok (.istore_n 2, 1) := by decide +kernel
theorem dX11_askPair_11 : decode cX11_askPair 11 = .ok (.iconst 0, 1) := by decide +kernel
theorem dX11_askPair_12 : decode cX11_askPair 12 = .ok (.istore_n 3, 1) := by decide +kernel
theorem dX11_askPair_13 : decode cX11_askPair 13 = .ok (.iload_n 3, 1) := by decide +kernel
theorem dX11_askPair_14 : decode cX11_askPair 14 = .ok (.aload_n 0, 1) := by decide +kernel
theorem dX11_askPair_15 : decode cX11_askPair 15 = .ok (.getfield 81, 3) := by decide +kernel
theorem dX11_askPair_18 : decode cX11_askPair 18 = .ok (.if_icmp .ge 99, 3) := by decide +kernel
theorem dX11_askPair_21 : decode cX11_askPair 21 = .ok (.iload_n 3, 1) := by decide +kernel
theorem dX11_askPair_22 : decode cX11_askPair 22 = .ok (.iconst 1, 1) := by decide +kernel
theorem dX11_askPair_23 : decode cX11_askPair 23 = .ok (.iadd, 1) := by decide +kernel
theorem dX11_askPair_24 : decode cX11_askPair 24 = .ok (.istore 4, 2) := by decide +kernel
theorem dX11_askPair_26 : decode cX11_askPair 26 = .ok (.iload 4, 2) := by decide +kernel
theorem dX11_askPair_28 : decode cX11_askPair 28 = .ok (.aload_n 0, 1) := by decide +kernel
theorem dX11_askPair_29 : decode cX11_askPair 29 = .ok (.getfield 81, 3) := by decide +kernel
theorem dX11_askPair_32 : decode cX11_askPair 32 = .ok (.if_icmp .ge 79, 3) := by decide +kernel
theorem dX11_askPair_35 : decode cX11_askPair 35 = .ok (.aload_n 0, 1) := by decide +kernel
theorem dX11_askPair_36 : decode cX11_askPair 36 = .ok (.getfield 69, 3) := by decide +kernel
theorem dX11_askPair_39 : decode cX11_askPair 39 = .ok (.iload_n 3, 1) := by decide +kernel
theorem dX11_askPair_40 : decode cX11_askPair 40 = .ok (.iload 4, 2) := by decide +kernel
theorem dX11_askPair_42 : decode cX11_askPair 42 = .ok (.invokestatic 95, 3) := by decide +kernel
theorem dX11_askPair_45 : decode cX11_askPair 45 = .ok (.iaload, 1) := by decide +kernel
theorem dX11_askPair_46 : decode cX11_askPair 46 = .ok (.istore 5, 2) := by decide +kernel
theorem dX11_askPair_48 : decode cX11_askPair 48 = .ok (.iload 5, 2) := by decide +kernel
theorem dX11_askPair_50 : decode cX11_askPair 50 = .ok (.aload_n 0, 1) := by decide +kernel
theorem dX11_askPair_51 : decode cX11_askPair 51 = .ok (.getfield 275, 3) := by decide +kernel
theorem dX11_askPair_54 : decode cX11_askPair 54 = .ok (.iload 5, 2) := by decide +kernel
theorem dX11_askPair_56 : decode cX11_askPair 56 = .ok (.isub, 1) := by decide +kernel
theorem dX11_askPair_57 : decode cX11_askPair 57 = .ok (.if_icmp .le 8, 3) := by decide +kernel
theorem dX11_askPair_60 : decode cX11_askPair 60 = .ok (.iload 5, 2) := by decide +kernel
theorem dX11_askPair_62 : decode cX11_askPair 62 = .ok (.goto 10, 3) := by decide +kernel
theorem dX11_askPair_65 : decode cX11_askPair 65 = .ok (.aload_n 0, 1) := by decide +kernel
theorem dX11_askPair_66 : decode cX11_askPair 66 = .ok (.getfield 275, 3) := by decide +kernel
theorem dX11_askPair_69 : decode cX11_askPair 69 = .ok (.iload 5, 2) := by decide +kernel
theorem dX11_askPair_71 : decode cX11_askPair 71 = .ok (.isub, 1) := by decide +kernel
theorem dX11_askPair_72 : decode cX11_askPair 72 = .ok (.istore 6, 2) := by decide +kernel
theorem dX11_askPair_74 : decode cX11_askPair 74 = .ok (.iload 6, 2) := by decide +kernel
theorem dX11_askPair_76 : decode cX11_askPair 76 = .ok (.iload_n 2, 1) := by decide +kernel
theorem dX11_askPair_77 : decode cX11_askPair 77 = .ok (.if_icmp .ge 13, 3) := by decide +kernel
theorem dX11_askPair_80 : decode cX11_askPair 80 = .ok (.bipush 10, 2) := by decide +kernel
theorem dX11_askPair_82 : decode cX11_askPair 82 = .ok (.iload_n 3, 1) := by decide +kernel
theorem dX11_askPair_83 : decode cX11_askPair 83 = .ok (.imul, 1) := by decide +kernel
theorem dX11_askPair_84 : decode cX11_askPair 84 = .ok (.iload 4, 2) := by decide +kernel
theorem dX11_askPair_86 : decode cX11_askPair 86 = .ok (.iadd, 1) := by decide +kernel
theorem dX11_askPair_87 : decode cX11_askPair 87 = .ok (.goto 4, 3) := by decide +kernel
theorem dX11_askPair_90 : decode cX11_askPair 90 = .ok (.iload_n 1, 1) := by decide +kernel
theorem dX11_askPair_91 : decode cX11_askPair 91 = .ok (.istore_n 1, 1) := by decide +kernel
theorem dX11_askPair_92 : decode cX11_askPair 92 = .ok (.iload 6, 2) := by decide +kernel
theorem dX11_askPair_94 : decode cX11_askPair 94 = .ok (.iload_n 2, 1) := by decide +kernel
theorem dX11_askPair_95 : decode cX11_askPair 95 = .ok (.if_icmp .ge 8, 3) := by decide +kernel
theorem dX11_askPair_98 : decode cX11_askPair 98 = .ok (.iload 6, 2) := by decide +kernel
theorem dX11_askPair_100 : decode cX11_askPair 100 = .ok (.goto 4, 3) := by decide +kernel
theorem dX11_askPair_103 : decode cX11_askPair 103 = .ok (.iload_n 2, 1) := by decide +kernel
theorem dX11_askPair_104 : decode cX11_askPair 104 = .ok (.istore_n 2, 1) := by decide +kernel
theorem dX11_askPair_105 : decode cX11_askPair 105 = .ok (.iinc 4 1, 3) := by decide +kernel
theorem dX11_askPair_108 : decode cX11_askPair 108 = .ok (.goto (-82), 3) := by decide +kernel
theorem dX11_askPair_111 : decode cX11_askPair 111 = .ok (.iinc 3 1, 3) := by decide +kernel
theorem dX11_askPair_114 : decode cX11_askPair 114 = .ok (.goto (-101), 3) := by decide +kernel
theorem dX11_askPair_117 : decode cX11_askPair 117 = .ok (.iload_n 1, 1) := by decide +kernel
theorem dX11_askPair_118 : decode cX11_askPair 118 = .ok (.ireturn, 1) := by decide +kernel
theorem dX11_allRings_0 : decode cX11_allRings 0 = .ok (.iconst 0, 1) := by decide +kernel
theorem dX11_allRings_1 : decode cX11_allRings 1 = .ok (.istore 5, 2) := by decide +kernel
theorem dX11_allRings_3 : decode cX11_allRings 3 = .ok (.iconst 0, 1) := by decide +kernel
theorem dX11_allRings_4 : decode cX11_allRings 4 = .ok (.istore 6, 2) := by decide +kernel
theorem dX11_allRings_6 : decode cX11_allRings 6 = .ok (.iconst 0, 1) := by decide +kernel
theorem dX11_allRings_7 : decode cX11_allRings 7 = .ok (.istore 7, 2) := by decide +kernel
theorem dX11_allRings_9 : decode cX11_allRings 9 = .ok (.iload 7, 2) := by decide +kernel
theorem dX11_allRings_11 : decode cX11_allRings 11 = .ok (.aload_n 0, 1) := by decide +kernel
theorem dX11_allRings_12 : decode cX11_allRings 12 = .ok (.getfield 81, 3) := by decide +kernel
theorem dX11_allRings_15 : decode cX11_allRings 15 = .ok (.if_icmp .ge 96, 3) := by decide +kernel
theorem dX11_allRings_18 : decode cX11_allRings 18 = .ok (.aload_n 0, 1) := by decide +kernel
theorem dX11_allRings_19 : decode cX11_allRings 19 = .ok (.iconst 5, 1) := by decide +kernel
theorem dX11_allRings_20 : decode cX11_allRings 20 = .ok (.iload_n 1, 1) := by decide +kernel
theorem dX11_allRings_21 : decode cX11_allRings 21 = .ok (.imul, 1) := by decide +kernel
theorem dX11_allRings_22 : decode cX11_allRings 22 = .ok (.iload 7, 2) := by decide +kernel
theorem dX11_allRings_24 : decode cX11_allRings 24 = .ok (.iadd, 1) := by decide +kernel
theorem dX11_allRings_25 : decode cX11_allRings 25 = .ok (.aload_n 2, 1) := by decide +kernel
theorem dX11_allRings_26 : decode cX11_allRings 26 = .ok (.aload_n 0, 1) := by decide +kernel
theorem dX11_allRings_27 : decode cX11_allRings 27 = .ok (.getfield 173, 3) := by decide +kernel
theorem dX11_allRings_30 : decode cX11_allRings 30 = .ok (.aload_n 3, 1) := by decide +kernel
theorem dX11_allRings_31 : decode cX11_allRings 31 = .ok (.aload 4, 2) := by decide +kernel
theorem dX11_allRings_33 : decode cX11_allRings 33 = .ok (.iconst 0, 1) := by decide +kernel
theorem dX11_allRings_34 : decode cX11_allRings 34 = .ok (.iconst 0, 1) := by decide +kernel
theorem dX11_allRings_35 : decode cX11_allRings 35 = .ok (.invokevirtual 205, 3) := by decide +kernel
theorem dX11_allRings_38 : decode cX11_allRings 38 = .ok (.istore 8, 2) := by decide +kernel
theorem dX11_allRings_40 : decode cX11_allRings 40 = .ok (.iload 7, 2) := by decide +kernel
theorem dX11_allRings_42 : decode cX11_allRings 42 = .ok (.iconst 1, 1) := by decide +kernel
theorem dX11_allRings_43 : decode cX11_allRings 43 = .ok (.iadd, 1) := by decide +kernel
theorem dX11_allRings_44 : decode cX11_allRings 44 = .ok (.istore 9, 2) := by decide +kernel
theorem dX11_allRings_46 : decode cX11_allRings 46 = .ok (.iload 9, 2) := by decide +kernel
theorem dX11_allRings_48 : decode cX11_allRings 48 = .ok (.aload_n 0, 1) := by decide +kernel
theorem dX11_allRings_49 : decode cX11_allRings 49 = .ok (.getfield 81, 3) := by decide +kernel
theorem dX11_allRings_52 : decode cX11_allRings 52 = .ok (.if_icmp .gt 53, 3) := by decide +kernel
theorem dX11_allRings_55 : decode cX11_allRings 55 = .ok (.iload 5, 2) := by decide +kernel
theorem dX11_allRings_57 : decode cX11_allRings 57 = .ok (.iload 8, 2) := by decide +kernel
theorem dX11_allRings_59 : decode cX11_allRings 59 = .ok (.iload 9, 2) := by decide +kernel
theorem dX11_allRings_61 : decode cX11_allRings 61 = .ok (.aload_n 0, 1) := by decide +kernel
theorem dX11_allRings_62 : decode cX11_allRings 62 = .ok (.getfield 81, 3) := by decide +kernel
theorem dX11_allRings_65 : decode cX11_allRings 65 = .ok (.if_icmp .ne 8, 3) := by decide +kernel
theorem dX11_allRings_68 : decode cX11_allRings 68 = .ok (.bipush 10, 2) := by decide +kernel
theorem dX11_allRings_70 : decode cX11_allRings 70 = .ok (.goto 9, 3) := by decide +kernel
theorem dX11_allRings_73 : decode cX11_allRings 73 = .ok (.iconst 5, 1) := by decide +kernel
theorem dX11_allRings_74 : decode cX11_allRings 74 = .ok (.iload_n 1, 1) := by decide +kernel
theorem dX11_allRings_75 : decode cX11_allRings 75 = .ok (.imul, 1) := by decide +kernel
theorem dX11_allRings_76 : decode cX11_allRings 76 = .ok (.iload 9, 2) := by decide +kernel
theorem dX11_allRings_78 : decode cX11_allRings 78 = .ok (.iadd, 1) := by decide +kernel
theorem dX11_allRings_79 : decode cX11_allRings 79 = .ok (.invokestatic 99, 3) := by decide +kernel
theorem dX11_allRings_82 : decode cX11_allRings 82 = .ok (.ifCond .eq 10, 3) := by decide +kernel
theorem dX11_allRings_85 : decode cX11_allRings 85 = .ok (.iconst 1, 1) := by decide +kernel
theorem dX11_allRings_86 : decode cX11_allRings 86 = .ok (.iload 6, 2) := by decide +kernel
theorem dX11_allRings_88 : decode cX11_allRings 88 = .ok (.ishl, 1) := by decide +kernel
theorem dX11_allRings_89 : decode cX11_allRings 89 = .ok (.goto 4, 3) := by decide +kernel
theorem dX11_allRings_92 : decode cX11_allRings 92 = .ok (.iconst 0, 1) := by decide +kernel
theorem dX11_allRings_93 : decode cX11_allRings 93 = .ok (.ior, 1) := by decide +kernel
theorem dX11_allRings_94 : decode cX11_allRings 94 = .ok (.istore 5, 2) := by decide +kernel
theorem dX11_allRings_96 : decode cX11_allRings 96 = .ok (.iinc 6 1, 3) := by decide +kernel
theorem dX11_allRings_99 : decode cX11_allRings 99 = .ok (.iinc 9 1, 3) := by decide +kernel
theorem dX11_allRings_102 : decode cX11_allRings 102 = .ok (.goto (-56), 3) := by decide +kernel
theorem dX11_allRings_105 : decode cX11_allRings 105 = .ok (.iinc 7 1, 3) := by decide +kernel
theorem dX11_allRings_108 : decode cX11_allRings 108 = .ok (.goto (-99), 3) := by decide +kernel
theorem dX11_allRings_111 : decode cX11_allRings 111 = .ok (.iload 5, 2) := by decide +kernel
theorem dX11_allRings_113 : decode cX11_allRings 113 = .ok (.ireturn, 1) := by decide +kernel
theorem dX11_leftBy_0 : decode cX11_leftBy 0 = .ok (.aload_n 0, 1) := by decide +kernel
theorem dX11_leftBy_1 : decode cX11_leftBy 1 = .ok (.iload_n 1, 1) := by decide +kernel
theorem dX11_leftBy_2 : decode cX11_leftBy 2 = .ok (.aload_n 0, 1) := by decide +kernel
theorem dX11_leftBy_3 : decode cX11_leftBy 3 = .ok (.getfield 7, 3) := by decide +kernel
theorem dX11_leftBy_6 : decode cX11_leftBy 6 = .ok (.aload_n 2, 1) := by decide +kernel
theorem dX11_leftBy_7 : decode cX11_leftBy 7 = .ok (.aload_n 3, 1) := by decide +kernel
theorem dX11_leftBy_8 : decode cX11_leftBy 8 = .ok (.invokevirtual 293, 3) := by decide +kernel
theorem dX11_leftBy_11 : decode cX11_leftBy 11 = .ok (.istore 4, 2) := by decide +kernel
theorem dX11_leftBy_13 : decode cX11_leftBy 13 = .ok (.iconst 0, 1) := by decide +kernel
theorem dX11_leftBy_14 : decode cX11_leftBy 14 = .ok (.istore 5, 2) := by decide +kernel
theorem dX11_leftBy_16 : decode cX11_leftBy 16 = .ok (.aload_n 0, 1) := by decide +kernel
theorem dX11_leftBy_17 : decode cX11_leftBy 17 = .ok (.invokevirtual 278, 3) := by decide +kernel
theorem dX11_leftBy_20 : decode cX11_leftBy 20 = .ok (.aload_n 0, 1) := by decide +kernel
theorem dX11_leftBy_21 : decode cX11_leftBy 21 = .ok (.getfield 81, 3) := by decide +kernel
theorem dX11_leftBy_24 : decode cX11_leftBy 24 = .ok (.ifCond .le 7, 3) := by decide +kernel
theorem dX11_leftBy_27 : decode cX11_leftBy 27 = .ok (.iconst 1, 1) := by decide +kernel
theorem dX11_leftBy_28 : decode cX11_leftBy 28 = .ok (.goto 4, 3) := by decide +kernel
theorem dX11_leftBy_31 : decode cX11_leftBy 31 = .ok (.iconst 0, 1) := by decide +kernel
theorem dX11_leftBy_32 : decode cX11_leftBy 32 = .ok (.istore 6, 2) := by decide +kernel
theorem dX11_leftBy_34 : decode cX11_leftBy 34 = .ok (.iload 6, 2) := by decide +kernel
theorem dX11_leftBy_36 : decode cX11_leftBy 36 = .ok (.ifCond .eq 38, 3) := by decide +kernel
theorem dX11_leftBy_39 : decode cX11_leftBy 39 = .ok (.iload 5, 2) := by decide +kernel
theorem dX11_leftBy_41 : decode cX11_leftBy 41 = .ok (.aload_n 0, 1) := by decide +kernel
theorem dX11_leftBy_42 : decode cX11_leftBy 42 = .ok (.iload_n 1, 1) := by decide +kernel
theorem dX11_leftBy_43 : decode cX11_leftBy 43 = .ok (.aload_n 0, 1) := by decide +kernel
theorem dX11_leftBy_44 : decode cX11_leftBy 44 = .ok (.getfield 57, 3) := by decide +kernel
theorem dX11_leftBy_47 : decode cX11_leftBy 47 = .ok (.aload_n 2, 1) := by decide +kernel
theorem dX11_leftBy_48 : decode cX11_leftBy 48 = .ok (.aload_n 3, 1) := by decide +kernel
theorem dX11_leftBy_49 : decode cX11_leftBy 49 = .ok (.invokevirtual 293, 3) := by decide +kernel
theorem dX11_leftBy_52 : decode cX11_leftBy 52 = .ok (.iload 4, 2) := by decide +kernel
theorem dX11_leftBy_54 : decode cX11_leftBy 54 = .ok (.if_icmp .ne 7, 3) := by decide +kernel
theorem dX11_leftBy_57 : decode cX11_leftBy 57 = .ok (.iconst 1, 1) := by decide +kernel
theorem dX11_leftBy_58 : decode cX11_leftBy 58 = .ok (.goto 4, 3) := by decide +kernel
theorem dX11_leftBy_61 : decode cX11_leftBy 61 = .ok (.iconst 0, 1) := by decide +kernel
theorem dX11_leftBy_62 : decode cX11_leftBy 62 = .ok (.iadd, 1) := by decide +kernel
theorem dX11_leftBy_63 : decode cX11_leftBy 63 = .ok (.istore 5, 2) := by decide +kernel
theorem dX11_leftBy_65 : decode cX11_leftBy 65 = .ok (.aload_n 0, 1) := by decide +kernel
theorem dX11_leftBy_66 : decode cX11_leftBy 66 = .ok (.invokevirtual 287, 3) := by decide +kernel
theorem dX11_leftBy_69 : decode cX11_leftBy 69 = .ok (.istore 6, 2) := by decide +kernel
theorem dX11_leftBy_71 : decode cX11_leftBy 71 = .ok (.goto (-37), 3) := by decide +kernel
theorem dX11_leftBy_74 : decode cX11_leftBy 74 = .ok (.iload 5, 2) := by decide +kernel
theorem dX11_leftBy_76 : decode cX11_leftBy 76 = .ok (.ireturn, 1) := by decide +kernel
theorem dX11_end_0 : decode cX11_end 0 = .ok (.aload_n 0, 1) := by decide +kernel
theorem dX11_end_1 : decode cX11_end 1 = .ok (.iload_n 1, 1) := by decide +kernel
theorem dX11_end_2 : decode cX11_end 2 = .ok (.invokevirtual 88, 3) := by decide +kernel
theorem dX11_end_5 : decode cX11_end 5 = .ok (.ifCond .ne 6, 3) := by decide +kernel
theorem dX11_end_8 : decode cX11_end 8 = .ok (.ldc 215, 2) := by decide +kernel
theorem dX11_end_10 : decode cX11_end 10 = .ok (.ireturn, 1) := by decide +kernel
theorem dX11_end_11 : decode cX11_end 11 = .ok (.iload_n 2, 1) := by decide +kernel
theorem dX11_end_12 : decode cX11_end 12 = .ok (.iconst 0, 1) := by decide +kernel
theorem dX11_end_13 : decode cX11_end 13 = .ok (.iconst 3, 1) := by decide +kernel
theorem dX11_end_14 : decode cX11_end 14 = .ok (.invokestatic 84, 3) := by decide +kernel
theorem dX11_end_17 : decode cX11_end 17 = .ok (.ifCond .ne 6, 3) := by decide +kernel
theorem dX11_end_20 : decode cX11_end 20 = .ok (.ldc 106, 2) := by decide +kernel
theorem dX11_end_22 : decode cX11_end 22 = .ok (.ireturn, 1) := by decide +kernel
theorem dX11_end_23 : decode cX11_end 23 = .ok (.iload_n 2, 1) := by decide +kernel
theorem dX11_end_24 : decode cX11_end 24 = .ok (.iconst 2, 1) := by decide +kernel
theorem dX11_end_25 : decode cX11_end 25 = .ok (.if_icmp .ge 23, 3) := by decide +kernel
theorem dX11_end_28 : decode cX11_end 28 = .ok (.iload_n 2, 1) := by decide +kernel
theorem dX11_end_29 : decode cX11_end 29 = .ok (.ifCond .ne 12, 3) := by decide +kernel
theorem dX11_end_32 : decode cX11_end 32 = .ok (.aload_n 0, 1) := by decide +kernel
theorem dX11_end_33 : decode cX11_end 33 = .ok (.getfield 7, 3) := by decide +kernel
theorem dX11_end_36 : decode cX11_end 36 = .ok (.iload_n 1, 1) := by decide +kernel
theorem dX11_end_37 : decode cX11_end 37 = .ok (.iaload, 1) := by decide +kernel
theorem dX11_end_38 : decode cX11_end 38 = .ok (.goto 9, 3) := by decide +kernel
theorem dX11_end_41 : decode cX11_end 41 = .ok (.aload_n 0, 1) := by decide +kernel
theorem dX11_end_42 : decode cX11_end 42 = .ok (.getfield 19, 3) := by decide +kernel
theorem dX11_end_45 : decode cX11_end 45 = .ok (.iload_n 1, 1) := by decide +kernel
theorem dX11_end_46 : decode cX11_end 46 = .ok (.iaload, 1) := by decide +kernel
theorem dX11_end_47 : decode cX11_end 47 = .ok (.ireturn, 1) := by decide +kernel
theorem dX11_end_48 : decode cX11_end 48 = .ok (.aload_n 0, 1) := by decide +kernel
theorem dX11_end_49 : decode cX11_end 49 = .ok (.invokevirtual 290, 3) := by decide +kernel
theorem dX11_end_52 : decode cX11_end 52 = .ok (.iload_n 2, 1) := by decide +kernel
theorem dX11_end_53 : decode cX11_end 53 = .ok (.iconst 2, 1) := by decide +kernel
theorem dX11_end_54 : decode cX11_end 54 = .ok (.if_icmp .ne 12, 3) := by decide +kernel
theorem dX11_end_57 : decode cX11_end 57 = .ok (.aload_n 0, 1) := by decide +kernel
theorem dX11_end_58 : decode cX11_end 58 = .ok (.getfield 63, 3) := by decide +kernel
theorem dX11_end_61 : decode cX11_end 61 = .ok (.iload_n 1, 1) := by decide +kernel
theorem dX11_end_62 : decode cX11_end 62 = .ok (.iaload, 1) := by decide +kernel
theorem dX11_end_63 : decode cX11_end 63 = .ok (.goto 9, 3) := by decide +kernel
theorem dX11_end_66 : decode cX11_end 66 = .ok (.aload_n 0, 1) := by decide +kernel
theorem dX11_end_67 : decode cX11_end 67 = .ok (.getfield 66, 3) := by decide +kernel
theorem dX11_end_70 : decode cX11_end 70 = .ok (.iload_n 1, 1) := by decide +kernel
theorem dX11_end_71 : decode cX11_end 71 = .ok (.iaload, 1) := by decide +kernel
theorem dX11_end_72 : decode cX11_end 72 = .ok (.ireturn, 1) := by decide +kernel
theorem dX11_nextWay_0 : decode cX11_nextWay 0 = .ok (.aload_n 0, 1) := by decide +kernel
theorem dX11_nextWay_1 : decode cX11_nextWay 1 = .ok (.getfield 81, 3) := by decide +kernel
theorem dX11_nextWay_4 : decode cX11_nextWay 4 = .ok (.iconst 1, 1) := by decide +kernel
theorem dX11_nextWay_5 : decode cX11_nextWay 5 = .ok (.isub, 1) := by decide +kernel
theorem dX11_nextWay_6 : decode cX11_nextWay 6 = .ok (.istore_n 1, 1) := by decide +kernel
theorem dX11_nextWay_7 : decode cX11_nextWay 7 = .ok (.iload_n 1, 1) := by decide +kernel
theorem dX11_nextWay_8 : decode cX11_nextWay 8 = .ok (.ifCond .le 74, 3) := by decide +kernel
theorem dX11_nextWay_11 : decode cX11_nextWay 11 = .ok (.iconst 0, 1) := by decide +kernel
theorem dX11_nextWay_12 : decode cX11_nextWay 12 = .ok (.istore_n 2, 1) := by decide +kernel
theorem dX11_nextWay_13 : decode cX11_nextWay 13 = .ok (.iconst 0, 1) := by decide +kernel
theorem dX11_nextWay_14 : decode cX11_nextWay 14 = .ok (.istore_n 3, 1) := by decide +kernel
theorem dX11_nextWay_15 : decode cX11_nextWay 15 = .ok (.iload_n 3, 1) := by decide +kernel
theorem dX11_nextWay_16 : decode cX11_nextWay 16 = .ok (.iload_n 1, 1) := by decide +kernel
theorem dX11_nextWay_17 : decode cX11_nextWay 17 = .ok (.if_icmp .ge 30, 3) := by decide +kernel
theorem dX11_nextWay_20 : decode cX11_nextWay 20 = .ok (.aload_n 0, 1) := by decide +kernel
theorem dX11_nextWay_21 : decode cX11_nextWay 21 = .ok (.getfield 72, 3) := by decide +kernel
theorem dX11_nextWay_24 : decode cX11_nextWay 24 = .ok (.iload_n 3, 1) := by decide +kernel
theorem dX11_nextWay_25 : decode cX11_nextWay 25 = .ok (.iaload, 1) := by decide +kernel
theorem dX11_nextWay_26 : decode cX11_nextWay 26 = .ok (.iload_n 2, 1) := by decide +kernel
theorem dX11_nextWay_27 : decode cX11_nextWay 27 = .ok (.if_icmp .le 12, 3) := by decide +kernel
theorem dX11_nextWay_30 : decode cX11_nextWay 30 = .ok (.aload_n 0, 1) := by decide +kernel
theorem dX11_nextWay_31 : decode cX11_nextWay 31 = .ok (.getfield 72, 3) := by decide +kernel
theorem dX11_nextWay_34 : decode cX11_nextWay 34 = .ok (.iload_n 3, 1) := by decide +kernel
theorem dX11_nextWay_35 : decode cX11_nextWay 35 = .ok (.iaload, 1) := by decide +kernel
theorem dX11_nextWay_36 : decode cX11_nextWay 36 = .ok (.goto 4, 3) := by decide +kernel
theorem dX11_nextWay_39 : decode cX11_nextWay 39 = .ok (.iload_n 2, 1) := by decide +kernel
theorem dX11_nextWay_40 : decode cX11_nextWay 40 = .ok (.istore_n 2, 1) := by decide +kernel
theorem dX11_nextWay_41 : decode cX11_nextWay 41 = .ok (.iinc 3 1, 3) := by decide +kernel
theorem dX11_nextWay_44 : decode cX11_nextWay 44 = .ok (.goto (-29), 3) := by decide +kernel
theorem dX11_nextWay_47 : decode cX11_nextWay 47 = .ok (.aload_n 0, 1) := by decide +kernel
theorem dX11_nextWay_48 : decode cX11_nextWay 48 = .ok (.getfield 72, 3) := by decide +kernel
theorem dX11_nextWay_51 : decode cX11_nextWay 51 = .ok (.iload_n 1, 1) := by decide +kernel
theorem dX11_nextWay_52 : decode cX11_nextWay 52 = .ok (.iaload, 1) := by decide +kernel
theorem dX11_nextWay_53 : decode cX11_nextWay 53 = .ok (.iload_n 2, 1) := by decide +kernel
theorem dX11_nextWay_54 : decode cX11_nextWay 54 = .ok (.if_icmp .gt 15, 3) := by decide +kernel
theorem dX11_nextWay_57 : decode cX11_nextWay 57 = .ok (.aload_n 0, 1) := by decide +kernel
theorem dX11_nextWay_58 : decode cX11_nextWay 58 = .ok (.getfield 72, 3) := by decide +kernel
theorem dX11_nextWay_61 : decode cX11_nextWay 61 = .ok (.iload_n 1, 1) := by decide +kernel
theorem dX11_nextWay_62 : decode cX11_nextWay 62 = .ok (.dup2, 1) := by decide +kernel
theorem dX11_nextWay_63 : decode cX11_nextWay 63 = .ok (.iaload, 1) := by decide +kernel
theorem dX11_nextWay_64 : decode cX11_nextWay 64 = .ok (.iconst 1, 1) := by decide +kernel
theorem dX11_nextWay_65 : decode cX11_nextWay 65 = .ok (.iadd, 1) := by decide +kernel
theorem dX11_nextWay_66 : decode cX11_nextWay 66 = .ok (.iastore, 1) := by decide +kernel
theorem dX11_nextWay_67 : decode cX11_nextWay 67 = .ok (.iconst 1, 1) := by decide +kernel
theorem dX11_nextWay_68 : decode cX11_nextWay 68 = .ok (.ireturn, 1) := by decide +kernel
theorem dX11_nextWay_69 : decode cX11_nextWay 69 = .ok (.aload_n 0, 1) := by decide +kernel
theorem dX11_nextWay_70 : decode cX11_nextWay 70 = .ok (.getfield 72, 3) := by decide +kernel
theorem dX11_nextWay_73 : decode cX11_nextWay 73 = .ok (.iload_n 1, 1) := by decide +kernel
theorem dX11_nextWay_74 : decode cX11_nextWay 74 = .ok (.iconst 1, 1) := by decide +kernel
theorem dX11_nextWay_75 : decode cX11_nextWay 75 = .ok (.iastore, 1) := by decide +kernel
theorem dX11_nextWay_76 : decode cX11_nextWay 76 = .ok (.iinc 1 (-1), 3) := by decide +kernel
theorem dX11_nextWay_79 : decode cX11_nextWay 79 = .ok (.goto (-72), 3) := by decide +kernel
theorem dX11_nextWay_82 : decode cX11_nextWay 82 = .ok (.iconst 0, 1) := by decide +kernel
theorem dX11_nextWay_83 : decode cX11_nextWay 83 = .ok (.ireturn, 1) := by decide +kernel
theorem dX11_ties_0 : decode cX11_ties 0 = .ok (.iload_n 1, 1) := by decide +kernel
theorem dX11_ties_1 : decode cX11_ties 1 = .ok (.iconst (-1), 1) := by decide +kernel
theorem dX11_ties_2 : decode cX11_ties 2 = .ok (.if_icmp .eq 14, 3) := by decide +kernel
theorem dX11_ties_5 : decode cX11_ties 5 = .ok (.aload_n 0, 1) := by decide +kernel
theorem dX11_ties_6 : decode cX11_ties 6 = .ok (.iload_n 1, 1) := by decide +kernel
theorem dX11_ties_7 : decode cX11_ties 7 = .ok (.invokevirtual 88, 3) := by decide +kernel
theorem dX11_ties_10 : decode cX11_ties 10 = .ok (.ifCond .ne 6, 3) := by decide +kernel
theorem dX11_ties_13 : decode cX11_ties 13 = .ok (.ldc 215, 2) := by decide +kernel
theorem dX11_ties_15 : decode cX11_ties 15 = .ok (.ireturn, 1) := by decide +kernel
theorem dX11_ties_16 : decode cX11_ties 16 = .ok (.aload_n 0, 1) := by decide +kernel
theorem dX11_ties_17 : decode cX11_ties 17 = .ok (.getfield 81, 3) := by decide +kernel
theorem dX11_ties_20 : decode cX11_ties 20 = .ok (.ifCond .ne 6, 3) := by decide +kernel
theorem dX11_ties_23 : decode cX11_ties 23 = .ok (.ldc 230, 2) := by decide +kernel
theorem dX11_ties_25 : decode cX11_ties 25 = .ok (.ireturn, 1) := by decide +kernel
theorem dX11_ties_26 : decode cX11_ties 26 = .ok (.iconst 0, 1) := by decide +kernel
theorem dX11_ties_27 : decode cX11_ties 27 = .ok (.istore_n 2, 1) := by decide +kernel
theorem dX11_ties_28 : decode cX11_ties 28 = .ok (.iload_n 2, 1) := by decide +kernel
theorem dX11_ties_29 : decode cX11_ties 29 = .ok (.iconst 5, 1) := by decide +kernel
theorem dX11_ties_30 : decode cX11_ties 30 = .ok (.if_icmp .ge 16, 3) := by decide +kernel
theorem dX11_ties_33 : decode cX11_ties 33 = .ok (.aload_n 0, 1) := by decide +kernel
theorem dX11_ties_34 : decode cX11_ties 34 = .ok (.getfield 72, 3) := by decide +kernel
theorem dX11_ties_37 : decode cX11_ties 37 = .ok (.iload_n 2, 1) := by decide +kernel
theorem dX11_ties_38 : decode cX11_ties 38 = .ok (.iconst 1, 1) := by decide +kernel
theorem dX11_ties_39 : decode cX11_ties 39 = .ok (.iastore, 1) := by decide +kernel
theorem dX11_ties_40 : decode cX11_ties 40 = .ok (.iinc 2 1, 3) := by decide +kernel
theorem dX11_ties_43 : decode cX11_ties 43 = .ok (.goto (-15), 3) := by decide +kernel
theorem dX11_ties_46 : decode cX11_ties 46 = .ok (.ldc_w 271, 3) := by decide +kernel
theorem dX11_ties_49 : decode cX11_ties 49 = .ok (.istore_n 2, 1) := by decide +kernel
theorem dX11_ties_50 : decode cX11_ties 50 = .ok (.iconst 1, 1) := by decide +kernel
theorem dX11_ties_51 : decode cX11_ties 51 = .ok (.istore_n 3, 1) := by decide +kernel
theorem dX11_ties_52 : decode cX11_ties 52 = .ok (.iload_n 3, 1) := by decide +kernel
theorem dX11_ties_53 : decode cX11_ties 53 = .ok (.ifCond .eq 67, 3) := by decide +kernel
theorem dX11_ties_56 : decode cX11_ties 56 = .ok (.aload_n 0, 1) := by decide +kernel
theorem dX11_ties_57 : decode cX11_ties 57 = .ok (.iconst 1, 1) := by decide +kernel
theorem dX11_ties_58 : decode cX11_ties 58 = .ok (.aload_n 0, 1) := by decide +kernel
theorem dX11_ties_59 : decode cX11_ties 59 = .ok (.getfield 72, 3) := by decide +kernel
theorem dX11_ties_62 : decode cX11_ties 62 = .ok (.aload_n 0, 1) := by decide +kernel
theorem dX11_ties_63 : decode cX11_ties 63 = .ok (.getfield 75, 3) := by decide +kernel
theorem dX11_ties_66 : decode cX11_ties 66 = .ok (.invokevirtual 297, 3) := by decide +kernel
theorem dX11_ties_69 : decode cX11_ties 69 = .ok (.istore 4, 2) := by decide +kernel
theorem dX11_ties_71 : decode cX11_ties 71 = .ok (.iload 4, 2) := by decide +kernel
theorem dX11_ties_73 : decode cX11_ties 73 = .ok (.iload_n 2, 1) := by decide +kernel
theorem dX11_ties_74 : decode cX11_ties 74 = .ok (.if_icmp .ge 38, 3) := by decide +kernel
theorem dX11_ties_77 : decode cX11_ties 77 = .ok (.iload 4, 2) := by decide +kernel
theorem dX11_ties_79 : decode cX11_ties 79 = .ok (.istore_n 2, 1) := by decide +kernel
theorem dX11_ties_80 : decode cX11_ties 80 = .ok (.iconst 0, 1) := by decide +kernel
theorem dX11_ties_81 : decode cX11_ties 81 = .ok (.istore 5, 2) := by decide +kernel
theorem dX11_ties_83 : decode cX11_ties 83 = .ok (.iload 5, 2) := by decide +kernel
theorem dX11_ties_85 : decode cX11_ties 85 = .ok (.aload_n 0, 1) := by decide +kernel
theorem dX11_ties_86 : decode cX11_ties 86 = .ok (.getfield 81, 3) := by decide +kernel
theorem dX11_ties_89 : decode cX11_ties 89 = .ok (.if_icmp .ge 23, 3) := by decide +kernel
theorem dX11_ties_92 : decode cX11_ties 92 = .ok (.aload_n 0, 1) := by decide +kernel
theorem dX11_ties_93 : decode cX11_ties 93 = .ok (.getfield 78, 3) := by decide +kernel
theorem dX11_ties_96 : decode cX11_ties 96 = .ok (.iload 5, 2) := by decide +kernel
theorem dX11_ties_98 : decode cX11_ties 98 = .ok (.aload_n 0, 1) := by decide +kernel
theorem dX11_ties_99 : decode cX11_ties 99 = .ok (.getfield 72, 3) := by decide +kernel
theorem dX11_ties_102 : decode cX11_ties 102 = .ok (.iload 5, 2) := by decide +kernel
theorem dX11_ties_104 : decode cX11_ties 104 = .ok (.iaload, 1) := by decide +kernel
theorem dX11_ties_105 : decode cX11_ties 105 = .ok (.iastore, 1) := by decide +kernel
theorem dX11_ties_106 : decode cX11_ties 106 = .ok (.iinc 5 1, 3) := by decide +kernel
theorem dX11_ties_109 : decode cX11_ties 109 = .ok (.goto (-26), 3) := by decide +kernel
theorem dX11_ties_112 : decode cX11_ties 112 = .ok (.aload_n 0, 1) := by decide +kernel
theorem dX11_ties_113 : decode cX11_ties 113 = .ok (.invokevirtual 301, 3) := by decide +kernel
theorem dX11_ties_116 : decode cX11_ties 116 = .ok (.istore_n 3, 1) := by decide +kernel
theorem dX11_ties_117 : decode cX11_ties 117 = .ok (.goto (-65), 3) := by decide +kernel
theorem dX11_ties_120 : decode cX11_ties 120 = .ok (.iload_n 1, 1) := by decide +kernel
theorem dX11_ties_121 : decode cX11_ties 121 = .ok (.iconst (-1), 1) := by decide +kernel
theorem dX11_ties_122 : decode cX11_ties 122 = .ok (.if_icmp .ne 7, 3) := by decide +kernel
theorem dX11_ties_125 : decode cX11_ties 125 = .ok (.iload_n 2, 1) := by decide +kernel
theorem dX11_ties_126 : decode cX11_ties 126 = .ok (.goto 11, 3) := by decide +kernel
theorem dX11_ties_129 : decode cX11_ties 129 = .ok (.aload_n 0, 1) := by decide +kernel
theorem dX11_ties_130 : decode cX11_ties 130 = .ok (.getfield 78, 3) := by decide +kernel
theorem dX11_ties_133 : decode cX11_ties 133 = .ok (.iload_n 1, 1) := by decide +kernel
theorem dX11_ties_134 : decode cX11_ties 134 = .ok (.iaload, 1) := by decide +kernel
theorem dX11_ties_135 : decode cX11_ties 135 = .ok (.iconst 1, 1) := by decide +kernel
theorem dX11_ties_136 : decode cX11_ties 136 = .ok (.isub, 1) := by decide +kernel
theorem dX11_ties_137 : decode cX11_ties 137 = .ok (.ireturn, 1) := by decide +kernel
theorem dX11_dry_0 : decode cX11_dry 0 = .ok (.iload_n 1, 1) := by decide +kernel
theorem dX11_dry_1 : decode cX11_dry 1 = .ok (.iconst 0, 1) := by decide +kernel
theorem dX11_dry_2 : decode cX11_dry 2 = .ok (.bipush 60, 2) := by decide +kernel
theorem dX11_dry_4 : decode cX11_dry 4 = .ok (.invokestatic 84, 3) := by decide +kernel
theorem dX11_dry_7 : decode cX11_dry 7 = .ok (.ifCond .eq 13, 3) := by decide +kernel
theorem dX11_dry_10 : decode cX11_dry 10 = .ok (.iload_n 2, 1) := by decide +kernel
theorem dX11_dry_11 : decode cX11_dry 11 = .ok (.iconst 0, 1) := by decide +kernel
theorem dX11_dry_12 : decode cX11_dry 12 = .ok (.bipush 100, 2) := by decide +kernel
theorem dX11_dry_14 : decode cX11_dry 14 = .ok (.invokestatic 84, 3) := by decide +kernel
theorem dX11_dry_17 : decode cX11_dry 17 = .ok (.ifCond .ne 6, 3) := by decide +kernel
theorem dX11_dry_20 : decode cX11_dry 20 = .ok (.ldc 106, 2) := by decide +kernel
theorem dX11_dry_22 : decode cX11_dry 22 = .ok (.ireturn, 1) := by decide +kernel
theorem dX11_dry_23 : decode cX11_dry 23 = .ok (.ldc2_w 304, 3) := by decide +kernel
theorem dX11_dry_26 : decode cX11_dry 26 = .ok (.lstore_n 3, 1) := by decide +kernel
theorem dX11_dry_27 : decode cX11_dry 27 = .ok (.iconst 0, 1) := by decide +kernel
theorem dX11_dry_28 : decode cX11_dry 28 = .ok (.istore 5, 2) := by decide +kernel
theorem dX11_dry_30 : decode cX11_dry 30 = .ok (.iload 5, 2) := by decide +kernel
theorem dX11_dry_32 : decode cX11_dry 32 = .ok (.iload_n 1, 1) := by decide +kernel
theorem dX11_dry_33 : decode cX11_dry 33 = .ok (.if_icmp .ge 18, 3) := by decide +kernel
theorem dX11_dry_36 : decode cX11_dry 36 = .ok (.lload_n 3, 1) := by decide +kernel
theorem dX11_dry_37 : decode cX11_dry 37 = .ok (.iload_n 2, 1) := by decide +kernel
theorem dX11_dry_38 : decode cX11_dry 38 = .ok (.i2l, 1) := by decide +kernel
theorem dX11_dry_39 : decode cX11_dry 39 = .ok (.lmul, 1) := by decide +kernel
theorem dX11_dry_40 : decode cX11_dry 40 = .ok (.ldc2_w 306, 3) := by decide +kernel
theorem dX11_dry_43 : decode cX11_dry 43 = .ok (.ldiv, 1) := by decide +kernel
theorem dX11_dry_44 : decode cX11_dry 44 = .ok (.lstore_n 3, 1) := by decide +kernel
theorem dX11_dry_45 : decode cX11_dry 45 = .ok (.iinc 5 1, 3) := by decide +kernel
theorem dX11_dry_48 : decode cX11_dry 48 = .ok (.goto (-18), 3) := by decide +kernel
theorem dX11_dry_51 : decode cX11_dry 51 = .ok (.lload_n 3, 1) := by decide +kernel
theorem dX11_dry_52 : decode cX11_dry 52 = .ok (.l2i, 1) := by decide +kernel
theorem dX11_dry_53 : decode cX11_dry 53 = .ok (.ireturn, 1) := by decide +kernel
theorem dX11_see_0 : decode cX11_see 0 = .ok (.aload_n 0, 1) := by decide +kernel
theorem dX11_see_1 : decode cX11_see 1 = .ok (.iload_n 1, 1) := by decide +kernel
theorem dX11_see_2 : decode cX11_see 2 = .ok (.iload_n 2, 1) := by decide +kernel
theorem dX11_see_3 : decode cX11_see 3 = .ok (.invokevirtual 216, 3) := by decide +kernel
theorem dX11_see_6 : decode cX11_see 6 = .ok (.ifCond .ne 6, 3) := by decide +kernel
theorem dX11_see_9 : decode cX11_see 9 = .ok (.ldc 215, 2) := by decide +kernel
theorem dX11_see_11 : decode cX11_see 11 = .ok (.ireturn, 1) := by decide +kernel
theorem dX11_see_12 : decode cX11_see 12 = .ok (.aload_n 0, 1) := by decide +kernel
theorem dX11_see_13 : decode cX11_see 13 = .ok (.getfield 182, 3) := by decide +kernel
theorem dX11_see_16 : decode cX11_see 16 = .ok (.bipush 8, 2) := by decide +kernel
theorem dX11_see_18 : decode cX11_see 18 = .ok (.if_icmp .ne 6, 3) := by decide +kernel
theorem dX11_see_21 : decode cX11_see 21 = .ok (.ldc 110, 2) := by decide +kernel
theorem dX11_see_23 : decode cX11_see 23 = .ok (.ireturn, 1) := by decide +kernel
theorem dX11_see_24 : decode cX11_see 24 = .ok (.bipush 14, 2) := by decide +kernel
theorem dX11_see_26 : decode cX11_see 26 = .ok (.aload_n 0, 1) := by decide +kernel
theorem dX11_see_27 : decode cX11_see 27 = .ok (.getfield 182, 3) := by decide +kernel
theorem dX11_see_30 : decode cX11_see 30 = .ok (.imul, 1) := by decide +kernel
theorem dX11_see_31 : decode cX11_see 31 = .ok (.istore 4, 2) := by decide +kernel
theorem dX11_see_33 : decode cX11_see 33 = .ok (.aload_n 0, 1) := by decide +kernel
theorem dX11_see_34 : decode cX11_see 34 = .ok (.getfield 22, 3) := by decide +kernel
theorem dX11_see_37 : decode cX11_see 37 = .ok (.iload 4, 2) := by decide +kernel
theorem dX11_see_39 : decode cX11_see 39 = .ok (.aload_n 0, 1) := by decide +kernel
theorem dX11_see_40 : decode cX11_see 40 = .ok (.getfield 170, 3) := by decide +kernel
theorem dX11_see_43 : decode cX11_see 43 = .ok (.iastore, 1) := by decide +kernel
theorem dX11_see_44 : decode cX11_see 44 = .ok (.aload_n 0, 1) := by decide +kernel
theorem dX11_see_45 : decode cX11_see 45 = .ok (.getfield 22, 3) := by decide +kernel
theorem dX11_see_48 : decode cX11_see 48 = .ok (.iload 4, 2) := by decide +kernel
theorem dX11_see_50 : decode cX11_see 50 = .ok (.iconst 1, 1) := by decide +kernel
theorem dX11_see_51 : decode cX11_see 51 = .ok (.iadd, 1) := by decide +kernel
theorem dX11_see_52 : decode cX11_see 52 = .ok (.aload_n 0, 1) := by decide +kernel
theorem dX11_see_53 : decode cX11_see 53 = .ok (.getfield 173, 3) := by decide +kernel
theorem dX11_see_56 : decode cX11_see 56 = .ok (.iastore, 1) := by decide +kernel
theorem dX11_see_57 : decode cX11_see 57 = .ok (.aload_n 0, 1) := by decide +kernel
theorem dX11_see_58 : decode cX11_see 58 = .ok (.getfield 22, 3) := by decide +kernel
theorem dX11_see_61 : decode cX11_see 61 = .ok (.iload 4, 2) := by decide +kernel
theorem dX11_see_63 : decode cX11_see 63 = .ok (.iconst 2, 1) := by decide +kernel
theorem dX11_see_64 : decode cX11_see 64 = .ok (.iadd, 1) := by decide +kernel
theorem dX11_see_65 : decode cX11_see 65 = .ok (.iload_n 1, 1) := by decide +kernel
theorem dX11_see_66 : decode cX11_see 66 = .ok (.iastore, 1) := by decide +kernel
theorem dX11_see_67 : decode cX11_see 67 = .ok (.aload_n 0, 1) := by decide +kernel
theorem dX11_see_68 : decode cX11_see 68 = .ok (.getfield 22, 3) := by decide +kernel
theorem dX11_see_71 : decode cX11_see 71 = .ok (.iload 4, 2) := by decide +kernel
theorem dX11_see_73 : decode cX11_see 73 = .ok (.iconst 3, 1) := by decide +kernel
theorem dX11_see_74 : decode cX11_see 74 = .ok (.iadd, 1) := by decide +kernel
theorem dX11_see_75 : decode cX11_see 75 = .ok (.iload_n 2, 1) := by decide +kernel
theorem dX11_see_76 : decode cX11_see 76 = .ok (.iastore, 1) := by decide +kernel
theorem dX11_see_77 : decode cX11_see 77 = .ok (.aload_n 0, 1) := by decide +kernel
theorem dX11_see_78 : decode cX11_see 78 = .ok (.getfield 22, 3) := by decide +kernel
theorem dX11_see_81 : decode cX11_see 81 = .ok (.iload 4, 2) := by decide +kernel
theorem dX11_see_83 : decode cX11_see 83 = .ok (.iconst 4, 1) := by decide +kernel
theorem dX11_see_84 : decode cX11_see 84 = .ok (.iadd, 1) := by decide +kernel
theorem dX11_see_85 : decode cX11_see 85 = .ok (.iload_n 3, 1) := by decide +kernel
theorem dX11_see_86 : decode cX11_see 86 = .ok (.ifCond .eq 7, 3) := by decide +kernel
theorem dX11_see_89 : decode cX11_see 89 = .ok (.iconst 1, 1) := by decide +kernel
theorem dX11_see_90 : decode cX11_see 90 = .ok (.goto 4, 3) := by decide +kernel
theorem dX11_see_93 : decode cX11_see 93 = .ok (.iconst 0, 1) := by decide +kernel
theorem dX11_see_94 : decode cX11_see 94 = .ok (.iastore, 1) := by decide +kernel
theorem dX11_see_95 : decode cX11_see 95 = .ok (.iconst 0, 1) := by decide +kernel
theorem dX11_see_96 : decode cX11_see 96 = .ok (.istore 5, 2) := by decide +kernel
theorem dX11_see_98 : decode cX11_see 98 = .ok (.iload 5, 2) := by decide +kernel
theorem dX11_see_100 : decode cX11_see 100 = .ok (.iconst 5, 1) := by decide +kernel
theorem dX11_see_101 : decode cX11_see 101 = .ok (.if_icmp .ge 47, 3) := by decide +kernel
theorem dX11_see_104 : decode cX11_see 104 = .ok (.aload_n 0, 1) := by decide +kernel
theorem dX11_see_105 : decode cX11_see 105 = .ok (.getfield 22, 3) := by decide +kernel
theorem dX11_see_108 : decode cX11_see 108 = .ok (.iload 4, 2) := by decide +kernel
theorem dX11_see_110 : decode cX11_see 110 = .ok (.iconst 5, 1) := by decide +kernel
theorem dX11_see_111 : decode cX11_see 111 = .ok (.iadd, 1) := by decide +kernel
theorem dX11_see_112 : decode cX11_see 112 = .ok (.iload 5, 2) := by decide +kernel
theorem dX11_see_114 : decode cX11_see 114 = .ok (.iadd, 1) := by decide +kernel
theorem dX11_see_115 : decode cX11_see 115 = .ok (.aload_n 0, 1) := by decide +kernel
theorem dX11_see_116 : decode cX11_see 116 = .ok (.getfield 16, 3) := by decide +kernel
theorem dX11_see_119 : decode cX11_see 119 = .ok (.iload 5, 2) := by decide +kernel
theorem dX11_see_121 : decode cX11_see 121 = .ok (.iaload, 1) := by decide +kernel
theorem dX11_see_122 : decode cX11_see 122 = .ok (.iastore, 1) := by decide +kernel
theorem dX11_see_123 : decode cX11_see 123 = .ok (.aload_n 0, 1) := by decide +kernel
theorem dX11_see_124 : decode cX11_see 124 = .ok (.getfield 60, 3) := by decide +kernel
theorem dX11_see_127 : decode cX11_see 127 = .ok (.iload 4, 2) := by decide +kernel
theorem dX11_see_129 : decode cX11_see 129 = .ok (.iconst 5, 1) := by decide +kernel
theorem dX11_see_130 : decode cX11_see 130 = .ok (.iadd, 1) := by decide +kernel
theorem dX11_see_131 : decode cX11_see 131 = .ok (.iload 5, 2) := by decide +kernel
theorem dX11_see_133 : decode cX11_see 133 = .ok (.iadd, 1) := by decide +kernel
theorem dX11_see_134 : decode cX11_see 134 = .ok (.aload_n 0, 1) := by decide +kernel
theorem dX11_see_135 : decode cX11_see 135 = .ok (.getfield 19, 3) := by decide +kernel
theorem dX11_see_138 : decode cX11_see 138 = .ok (.iload 5, 2) := by decide +kernel
theorem dX11_see_140 : decode cX11_see 140 = .ok (.iaload, 1) := by decide +kernel
theorem dX11_see_141 : decode cX11_see 141 = .ok (.iastore, 1) := by decide +kernel
theorem dX11_see_142 : decode cX11_see 142 = .ok (.iinc 5 1, 3) := by decide +kernel
theorem dX11_see_145 : decode cX11_see 145 = .ok (.goto (-47), 3) := by decide +kernel
theorem dX11_see_148 : decode cX11_see 148 = .ok (.aload_n 0, 1) := by decide +kernel
theorem dX11_see_149 : decode cX11_see 149 = .ok (.dup, 1) := by decide +kernel
theorem dX11_see_150 : decode cX11_see 150 = .ok (.getfield 182, 3) := by decide +kernel
theorem dX11_see_153 : decode cX11_see 153 = .ok (.iconst 1, 1) := by decide +kernel
theorem dX11_see_154 : decode cX11_see 154 = .ok (.iadd, 1) := by decide +kernel
theorem dX11_see_155 : decode cX11_see 155 = .ok (.putfield 182, 3) := by decide +kernel
theorem dX11_see_158 : decode cX11_see 158 = .ok (.aload_n 0, 1) := by decide +kernel
theorem dX11_see_159 : decode cX11_see 159 = .ok (.getfield 182, 3) := by decide +kernel
theorem dX11_see_162 : decode cX11_see 162 = .ok (.ireturn, 1) := by decide +kernel
theorem dX11_write_0 : decode cX11_write 0 = .ok (.aload_n 0, 1) := by decide +kernel
theorem dX11_write_1 : decode cX11_write 1 = .ok (.iload_n 1, 1) := by decide +kernel
theorem dX11_write_2 : decode cX11_write 2 = .ok (.invokevirtual 88, 3) := by decide +kernel
theorem dX11_write_5 : decode cX11_write 5 = .ok (.ifCond .eq 11, 3) := by decide +kernel
theorem dX11_write_8 : decode cX11_write 8 = .ok (.aload_n 0, 1) := by decide +kernel
theorem dX11_write_9 : decode cX11_write 9 = .ok (.iload_n 2, 1) := by decide +kernel
theorem dX11_write_10 : decode cX11_write 10 = .ok (.invokevirtual 88, 3) := by decide +kernel
theorem dX11_write_13 : decode cX11_write 13 = .ok (.ifCond .ne 6, 3) := by decide +kernel
theorem dX11_write_16 : decode cX11_write 16 = .ok (.ldc 215, 2) := by decide +kernel
theorem dX11_write_18 : decode cX11_write 18 = .ok (.ireturn, 1) := by decide +kernel
theorem dX11_write_19 : decode cX11_write 19 = .ok (.aload_n 0, 1) := by decide +kernel
theorem dX11_write_20 : decode cX11_write 20 = .ok (.getfield 185, 3) := by decide +kernel
theorem dX11_write_23 : decode cX11_write 23 = .ok (.bipush 15, 2) := by decide +kernel
theorem dX11_write_25 : decode cX11_write 25 = .ok (.if_icmp .ne 6, 3) := by decide +kernel
theorem dX11_write_28 : decode cX11_write 28 = .ok (.ldc 110, 2) := by decide +kernel
theorem dX11_write_30 : decode cX11_write 30 = .ok (.ireturn, 1) := by decide +kernel
theorem dX11_write_31 : decode cX11_write 31 = .ok (.aload_n 0, 1) := by decide +kernel
theorem dX11_write_32 : decode cX11_write 32 = .ok (.getfield 25, 3) := by decide +kernel
theorem dX11_write_35 : decode cX11_write 35 = .ok (.aload_n 0, 1) := by decide +kernel
theorem dX11_write_36 : decode cX11_write 36 = .ok (.getfield 185, 3) := by decide +kernel
theorem dX11_write_39 : decode cX11_write 39 = .ok (.iload_n 1, 1) := by decide +kernel
theorem dX11_write_40 : decode cX11_write 40 = .ok (.iastore, 1) := by decide +kernel
theorem dX11_write_41 : decode cX11_write 41 = .ok (.aload_n 0, 1) := by decide +kernel
theorem dX11_write_42 : decode cX11_write 42 = .ok (.getfield 28, 3) := by decide +kernel
theorem dX11_write_45 : decode cX11_write 45 = .ok (.aload_n 0, 1) := by decide +kernel
theorem dX11_write_46 : decode cX11_write 46 = .ok (.getfield 185, 3) := by decide +kernel
theorem dX11_write_49 : decode cX11_write 49 = .ok (.iload_n 2, 1) := by decide +kernel
theorem dX11_write_50 : decode cX11_write 50 = .ok (.iastore, 1) := by decide +kernel
theorem dX11_write_51 : decode cX11_write 51 = .ok (.aload_n 0, 1) := by decide +kernel
theorem dX11_write_52 : decode cX11_write 52 = .ok (.dup, 1) := by decide +kernel
theorem dX11_write_53 : decode cX11_write 53 = .ok (.getfield 185, 3) := by decide +kernel
theorem dX11_write_56 : decode cX11_write 56 = .ok (.iconst 1, 1) := by decide +kernel
theorem dX11_write_57 : decode cX11_write 57 = .ok (.iadd, 1) := by decide +kernel
theorem dX11_write_58 : decode cX11_write 58 = .ok (.putfield 185, 3) := by decide +kernel
theorem dX11_write_61 : decode cX11_write 61 = .ok (.aload_n 0, 1) := by decide +kernel
theorem dX11_write_62 : decode cX11_write 62 = .ok (.getfield 185, 3) := by decide +kernel
theorem dX11_write_65 : decode cX11_write 65 = .ok (.ireturn, 1) := by decide +kernel
theorem dX11_tear_0 : decode cX11_tear 0 = .ok (.aload_n 0, 1) := by decide +kernel
theorem dX11_tear_1 : decode cX11_tear 1 = .ok (.getfield 182, 3) := by decide +kernel
theorem dX11_tear_4 : decode cX11_tear 4 = .ok (.aload_n 0, 1) := by decide +kernel
theorem dX11_tear_5 : decode cX11_tear 5 = .ok (.getfield 185, 3) := by decide +kernel
theorem dX11_tear_8 : decode cX11_tear 8 = .ok (.iadd, 1) := by decide +kernel
theorem dX11_tear_9 : decode cX11_tear 9 = .ok (.istore_n 1, 1) := by decide +kernel
theorem dX11_tear_10 : decode cX11_tear 10 = .ok (.aload_n 0, 1) := by decide +kernel
theorem dX11_tear_11 : decode cX11_tear 11 = .ok (.iconst 0, 1) := by decide +kernel
theorem dX11_tear_12 : decode cX11_tear 12 = .ok (.putfield 182, 3) := by decide +kernel
theorem dX11_tear_15 : decode cX11_tear 15 = .ok (.aload_n 0, 1) := by decide +kernel
theorem dX11_tear_16 : decode cX11_tear 16 = .ok (.iconst 0, 1) := by decide +kernel
theorem dX11_tear_17 : decode cX11_tear 17 = .ok (.putfield 185, 3) := by decide +kernel
theorem dX11_tear_20 : decode cX11_tear 20 = .ok (.iload_n 1, 1) := by decide +kernel
theorem dX11_tear_21 : decode cX11_tear 21 = .ok (.ireturn, 1) := by decide +kernel
theorem dX11_judge_0 : decode cX11_judge 0 = .ok (.iconst (-1), 1) := by decide +kernel
theorem dX11_judge_1 : decode cX11_judge 1 = .ok (.istore_n 1, 1) := by decide +kernel
theorem dX11_judge_2 : decode cX11_judge 2 = .ok (.aload_n 0, 1) := by decide +kernel
theorem dX11_judge_3 : decode cX11_judge 3 = .ok (.getfield 185, 3) := by decide +kernel
theorem dX11_judge_6 : decode cX11_judge 6 = .ok (.iconst 1, 1) := by decide +kernel
theorem dX11_judge_7 : decode cX11_judge 7 = .ok (.isub, 1) := by decide +kernel
theorem dX11_judge_8 : decode cX11_judge 8 = .ok (.istore_n 2, 1) := by decide +kernel
theorem dX11_judge_9 : decode cX11_judge 9 = .ok (.iload_n 2, 1) := by decide +kernel
theorem dX11_judge_10 : decode cX11_judge 10 = .ok (.ifCond .lt 35, 3) := by decide +kernel
theorem dX11_judge_13 : decode cX11_judge 13 = .ok (.aload_n 0, 1) := by decide +kernel
theorem dX11_judge_14 : decode cX11_judge 14 = .ok (.getfield 7, 3) := by decide +kernel
theorem dX11_judge_17 : decode cX11_judge 17 = .ok (.aload_n 0, 1) := by decide +kernel
theorem dX11_judge_18 : decode cX11_judge 18 = .ok (.getfield 25, 3) := by decide +kernel
theorem dX11_judge_21 : decode cX11_judge 21 = .ok (.iload_n 2, 1) := by decide +kernel
theorem dX11_judge_22 : decode cX11_judge 22 = .ok (.iaload, 1) := by decide +kernel
theorem dX11_judge_23 : decode cX11_judge 23 = .ok (.iaload, 1) := by decide +kernel
theorem dX11_judge_24 : decode cX11_judge 24 = .ok (.aload_n 0, 1) := by decide +kernel
theorem dX11_judge_25 : decode cX11_judge 25 = .ok (.getfield 28, 3) := by decide +kernel
theorem dX11_judge_28 : decode cX11_judge 28 = .ok (.iload_n 2, 1) := by decide +kernel
theorem dX11_judge_29 : decode cX11_judge 29 = .ok (.iaload, 1) := by decide +kernel
theorem dX11_judge_30 : decode cX11_judge 30 = .ok (.if_icmp .ne 7, 3) := by decide +kernel
theorem dX11_judge_33 : decode cX11_judge 33 = .ok (.iload_n 1, 1) := by decide +kernel
theorem dX11_judge_34 : decode cX11_judge 34 = .ok (.goto 4, 3) := by decide +kernel
theorem dX11_judge_37 : decode cX11_judge 37 = .ok (.iload_n 2, 1) := by decide +kernel
theorem dX11_judge_38 : decode cX11_judge 38 = .ok (.istore_n 1, 1) := by decide +kernel
theorem dX11_judge_39 : decode cX11_judge 39 = .ok (.iinc 2 (-1), 3) := by decide +kernel
theorem dX11_judge_42 : decode cX11_judge 42 = .ok (.goto (-33), 3) := by decide +kernel
theorem dX11_judge_45 : decode cX11_judge 45 = .ok (.iload_n 1, 1) := by decide +kernel
theorem dX11_judge_46 : decode cX11_judge 46 = .ok (.ireturn, 1) := by decide +kernel
theorem dX11_seed_0 : decode cX11_seed 0 = .ok (.iload_n 1, 1) := by decide +kernel
theorem dX11_seed_1 : decode cX11_seed 1 = .ok (.ifCond .ge 6, 3) := by decide +kernel
theorem dX11_seed_4 : decode cX11_seed 4 = .ok (.ldc 106, 2) := by decide +kernel
theorem dX11_seed_6 : decode cX11_seed 6 = .ok (.ireturn, 1) := by decide +kernel
theorem dX11_seed_7 : decode cX11_seed 7 = .ok (.aload_n 0, 1) := by decide +kernel
theorem dX11_seed_8 : decode cX11_seed 8 = .ok (.getfield 250, 3) := by decide +kernel
theorem dX11_seed_11 : decode cX11_seed 11 = .ok (.l2i, 1) := by decide +kernel
theorem dX11_seed_12 : decode cX11_seed 12 = .ok (.istore_n 2, 1) := by decide +kernel
theorem dX11_seed_13 : decode cX11_seed 13 = .ok (.aload_n 0, 1) := by decide +kernel
theorem dX11_seed_14 : decode cX11_seed 14 = .ok (.iload_n 1, 1) := by decide +kernel
theorem dX11_seed_15 : decode cX11_seed 15 = .ok (.i2l, 1) := by decide +kernel
theorem dX11_seed_16 : decode cX11_seed 16 = .ok (.putfield 250, 3) := by decide +kernel
theorem dX11_seed_19 : decode cX11_seed 19 = .ok (.iload_n 2, 1) := by decide +kernel
theorem dX11_seed_20 : decode cX11_seed 20 = .ok (.ireturn, 1) := by decide +kernel
theorem dX11_keep_0 : decode cX11_keep 0 = .ok (.iload_n 1, 1) := by decide +kernel
theorem dX11_keep_1 : decode cX11_keep 1 = .ok (.iconst 0, 1) := by decide +kernel
theorem dX11_keep_2 : decode cX11_keep 2 = .ok (.iconst 1, 1) := by decide +kernel
theorem dX11_keep_3 : decode cX11_keep 3 = .ok (.invokestatic 84, 3) := by decide +kernel
theorem dX11_keep_6 : decode cX11_keep 6 = .ok (.ifCond .ne 6, 3) := by decide +kernel
theorem dX11_keep_9 : decode cX11_keep 9 = .ok (.ldc 215, 2) := by decide +kernel
theorem dX11_keep_11 : decode cX11_keep 11 = .ok (.ireturn, 1) := by decide +kernel
theorem dX11_keep_12 : decode cX11_keep 12 = .ok (.aload_n 0, 1) := by decide +kernel
theorem dX11_keep_13 : decode cX11_keep 13 = .ok (.aload_n 0, 1) := by decide +kernel
theorem dX11_keep_14 : decode cX11_keep 14 = .ok (.getfield 47, 3) := by decide +kernel
theorem dX11_keep_17 : decode cX11_keep 17 = .ok (.bipush 20, 2) := by decide +kernel
theorem dX11_keep_19 : decode cX11_keep 19 = .ok (.iload_n 1, 1) := by decide +kernel
theorem dX11_keep_20 : decode cX11_keep 20 = .ok (.imul, 1) := by decide +kernel
theorem dX11_keep_21 : decode cX11_keep 21 = .ok (.invokevirtual 222, 3) := by decide +kernel
theorem dX11_keep_24 : decode cX11_keep 24 = .ok (.aload_n 0, 1) := by decide +kernel
theorem dX11_keep_25 : decode cX11_keep 25 = .ok (.getfield 50, 3) := by decide +kernel
theorem dX11_keep_28 : decode cX11_keep 28 = .ok (.iload_n 1, 1) := by decide +kernel
theorem dX11_keep_29 : decode cX11_keep 29 = .ok (.aload_n 0, 1) := by decide +kernel
theorem dX11_keep_30 : decode cX11_keep 30 = .ok (.getfield 250, 3) := by decide +kernel
theorem dX11_keep_33 : decode cX11_keep 33 = .ok (.lastore, 1) := by decide +kernel
theorem dX11_keep_34 : decode cX11_keep 34 = .ok (.aload_n 0, 1) := by decide +kernel
theorem dX11_keep_35 : decode cX11_keep 35 = .ok (.getfield 54, 3) := by decide +kernel
theorem dX11_keep_38 : decode cX11_keep 38 = .ok (.iload_n 1, 1) := by decide +kernel
theorem dX11_keep_39 : decode cX11_keep 39 = .ok (.iconst 1, 1) := by decide +kernel
theorem dX11_keep_40 : decode cX11_keep 40 = .ok (.iastore, 1) := by decide +kernel
theorem dX11_keep_41 : decode cX11_keep 41 = .ok (.aload_n 0, 1) := by decide +kernel
theorem dX11_keep_42 : decode cX11_keep 42 = .ok (.iconst 0, 1) := by decide +kernel
theorem dX11_keep_43 : decode cX11_keep 43 = .ok (.putfield 188, 3) := by decide +kernel
theorem dX11_keep_46 : decode cX11_keep 46 = .ok (.iconst 1, 1) := by decide +kernel
theorem dX11_keep_47 : decode cX11_keep 47 = .ok (.ireturn, 1) := by decide +kernel
theorem dX11_goBack_0 : decode cX11_goBack 0 = .ok (.iload_n 1, 1) := by decide +kernel
theorem dX11_goBack_1 : decode cX11_goBack 1 = .ok (.iconst 0, 1) := by decide +kernel
theorem dX11_goBack_2 : decode cX11_goBack 2 = .ok (.iconst 1, 1) := by decide +kernel
theorem dX11_goBack_3 : decode cX11_goBack 3 = .ok (.invokestatic 84, 3) := by decide +kernel
theorem dX11_goBack_6 : decode cX11_goBack 6 = .ok (.ifCond .ne 6, 3) := by decide +kernel
theorem dX11_goBack_9 : decode cX11_goBack 9 = .ok (.ldc 215, 2) := by decide +kernel
theorem dX11_goBack_11 : decode cX11_goBack 11 = .ok (.ireturn, 1) := by decide +kernel
theorem dX11_goBack_12 : decode cX11_goBack 12 = .ok (.aload_n 0, 1) := by decide +kernel
theorem dX11_goBack_13 : decode cX11_goBack 13 = .ok (.getfield 54, 3) := by decide +kernel
theorem dX11_goBack_16 : decode cX11_goBack 16 = .ok (.iload_n 1, 1) := by decide +kernel
theorem dX11_goBack_17 : decode cX11_goBack 17 = .ok (.iaload, 1) := by decide +kernel
theorem dX11_goBack_18 : decode cX11_goBack 18 = .ok (.ifCond .ne 6, 3) := by decide +kernel
theorem dX11_goBack_21 : decode cX11_goBack 21 = .ok (.ldc 230, 2) := by decide +kernel
theorem dX11_goBack_23 : decode cX11_goBack 23 = .ok (.ireturn, 1) := by decide +kernel
theorem dX11_goBack_24 : decode cX11_goBack 24 = .ok (.aload_n 0, 1) := by decide +kernel
theorem dX11_goBack_25 : decode cX11_goBack 25 = .ok (.aload_n 0, 1) := by decide +kernel
theorem dX11_goBack_26 : decode cX11_goBack 26 = .ok (.getfield 47, 3) := by decide +kernel
theorem dX11_goBack_29 : decode cX11_goBack 29 = .ok (.bipush 20, 2) := by decide +kernel
theorem dX11_goBack_31 : decode cX11_goBack 31 = .ok (.iload_n 1, 1) := by decide +kernel
theorem dX11_goBack_32 : decode cX11_goBack 32 = .ok (.imul, 1) := by decide +kernel
theorem dX11_goBack_33 : decode cX11_goBack 33 = .ok (.invokevirtual 268, 3) := by decide +kernel
theorem dX11_goBack_36 : decode cX11_goBack 36 = .ok (.aload_n 0, 1) := by decide +kernel
theorem dX11_goBack_37 : decode cX11_goBack 37 = .ok (.aload_n 0, 1) := by decide +kernel
theorem dX11_goBack_38 : decode cX11_goBack 38 = .ok (.getfield 50, 3) := by decide +kernel
theorem dX11_goBack_41 : decode cX11_goBack 41 = .ok (.iload_n 1, 1) := by decide +kernel
theorem dX11_goBack_42 : decode cX11_goBack 42 = .ok (.laload, 1) := by decide +kernel
theorem dX11_goBack_43 : decode cX11_goBack 43 = .ok (.putfield 250, 3) := by decide +kernel
theorem dX11_goBack_46 : decode cX11_goBack 46 = .ok (.aload_n 0, 1) := by decide +kernel
theorem dX11_goBack_47 : decode cX11_goBack 47 = .ok (.iconst 0, 1) := by decide +kernel
theorem dX11_goBack_48 : decode cX11_goBack 48 = .ok (.putfield 188, 3) := by decide +kernel
theorem dX11_goBack_51 : decode cX11_goBack 51 = .ok (.iconst 1, 1) := by decide +kernel
theorem dX11_goBack_52 : decode cX11_goBack 52 = .ok (.ireturn, 1) := by decide +kernel
theorem dX11_told_0 : decode cX11_told 0 = .ok (.iload_n 1, 1) := by decide +kernel
theorem dX11_told_1 : decode cX11_told 1 = .ok (.iconst 0, 1) := by decide +kernel
theorem dX11_told_2 : decode cX11_told 2 = .ok (.bipush 13, 2) := by decide +kernel
theorem dX11_told_4 : decode cX11_told 4 = .ok (.invokestatic 84, 3) := by decide +kernel
theorem dX11_told_7 : decode cX11_told 7 = .ok (.ifCond .ne 6, 3) := by decide +kernel
theorem dX11_told_10 : decode cX11_told 10 = .ok (.ldc 106, 2) := by decide +kernel
theorem dX11_told_12 : decode cX11_told 12 = .ok (.ireturn, 1) := by decide +kernel
theorem dX11_told_13 : decode cX11_told 13 = .ok (.iload_n 1, 1) := by decide +kernel
theorem dX11_told_14 : decode cX11_told 14 = .ok (.tableswitch 147 0 12 #[66, 71, 76, 81, 86, 91, 96, 101, 106, 115, 120, 137, 142], 66) := by decide +kernel
theorem dX11_told_80 : decode cX11_told 80 = .ok (.aload_n 0, 1) := by decide +kernel
theorem dX11_told_81 : decode cX11_told 81 = .ok (.getfield 81, 3) := by decide +kernel
theorem dX11_told_84 : decode cX11_told 84 = .ok (.ireturn, 1) := by decide +kernel
theorem dX11_told_85 : decode cX11_told 85 = .ok (.aload_n 0, 1) := by decide +kernel
theorem dX11_told_86 : decode cX11_told 86 = .ok (.getfield 170, 3) := by decide +kernel
theorem dX11_told_89 : decode cX11_told 89 = .ok (.ireturn, 1) := by decide +kernel
theorem dX11_told_90 : decode cX11_told 90 = .ok (.aload_n 0, 1) := by decide +kernel
theorem dX11_told_91 : decode cX11_told 91 = .ok (.getfield 173, 3) := by decide +kernel
theorem dX11_told_94 : decode cX11_told 94 = .ok (.ireturn, 1) := by decide +kernel
theorem dX11_told_95 : decode cX11_told 95 = .ok (.aload_n 0, 1) := by decide +kernel
theorem dX11_told_96 : decode cX11_told 96 = .ok (.getfield 176, 3) := by decide +kernel
theorem dX11_told_99 : decode cX11_told 99 = .ok (.ireturn, 1) := by decide +kernel
theorem dX11_told_100 : decode cX11_told 100 = .ok (.aload_n 0, 1) := by decide +kernel
theorem dX11_told_101 : decode cX11_told 101 = .ok (.getfield 179, 3) := by decide +kernel
theorem dX11_told_104 : decode cX11_told 104 = .ok (.ireturn, 1) := by decide +kernel
theorem dX11_told_105 : decode cX11_told 105 = .ok (.aload_n 0, 1) := by decide +kernel
theorem dX11_told_106 : decode cX11_told 106 = .ok (.getfield 107, 3) := by decide +kernel
theorem dX11_told_109 : decode cX11_told 109 = .ok (.ireturn, 1) := by decide +kernel
theorem dX11_told_110 : decode cX11_told 110 = .ok (.aload_n 0, 1) := by decide +kernel
theorem dX11_told_111 : decode cX11_told 111 = .ok (.invokevirtual 247, 3) := by decide +kernel
theorem dX11_told_114 : decode cX11_told 114 = .ok (.ireturn, 1) := by decide +kernel
theorem dX11_told_115 : decode cX11_told 115 = .ok (.aload_n 0, 1) := by decide +kernel
theorem dX11_told_116 : decode cX11_told 116 = .ok (.invokevirtual 308, 3) := by decide +kernel
theorem dX11_told_119 : decode cX11_told 119 = .ok (.ireturn, 1) := by decide +kernel
theorem dX11_told_120 : decode cX11_told 120 = .ok (.aload_n 0, 1) := by decide +kernel
theorem dX11_told_121 : decode cX11_told 121 = .ok (.invokevirtual 290, 3) := by decide +kernel
theorem dX11_told_124 : decode cX11_told 124 = .ok (.aload_n 0, 1) := by decide +kernel
theorem dX11_told_125 : decode cX11_told 125 = .ok (.getfield 275, 3) := by decide +kernel
theorem dX11_told_128 : decode cX11_told 128 = .ok (.ireturn, 1) := by decide +kernel
theorem dX11_told_129 : decode cX11_told 129 = .ok (.aload_n 0, 1) := by decide +kernel
theorem dX11_told_130 : decode cX11_told 130 = .ok (.invokevirtual 311, 3) := by decide +kernel
theorem dX11_told_133 : decode cX11_told 133 = .ok (.ireturn, 1) := by decide +kernel
theorem dX11_told_134 : decode cX11_told 134 = .ok (.aload_n 0, 1) := by decide +kernel
theorem dX11_told_135 : decode cX11_told 135 = .ok (.aload_n 0, 1) := by decide +kernel
theorem dX11_told_136 : decode cX11_told 136 = .ok (.getfield 170, 3) := by decide +kernel
theorem dX11_told_139 : decode cX11_told 139 = .ok (.aload_n 0, 1) := by decide +kernel
theorem dX11_told_140 : decode cX11_told 140 = .ok (.getfield 16, 3) := by decide +kernel
theorem dX11_told_143 : decode cX11_told 143 = .ok (.aload_n 0, 1) := by decide +kernel
theorem dX11_told_144 : decode cX11_told 144 = .ok (.getfield 19, 3) := by decide +kernel
theorem dX11_told_147 : decode cX11_told 147 = .ok (.invokevirtual 297, 3) := by decide +kernel
theorem dX11_told_150 : decode cX11_told 150 = .ok (.ireturn, 1) := by decide +kernel
theorem dX11_told_151 : decode cX11_told 151 = .ok (.aload_n 0, 1) := by decide +kernel
theorem dX11_told_152 : decode cX11_told 152 = .ok (.getfield 182, 3) := by decide +kernel
theorem dX11_told_155 : decode cX11_told 155 = .ok (.ireturn, 1) := by decide +kernel
theorem dX11_told_156 : decode cX11_told 156 = .ok (.aload_n 0, 1) := by decide +kernel
theorem dX11_told_157 : decode cX11_told 157 = .ok (.getfield 185, 3) := by decide +kernel
theorem dX11_told_160 : decode cX11_told 160 = .ok (.ireturn, 1) := by decide +kernel
theorem dX11_told_161 : decode cX11_told 161 = .ok (.aload_n 0, 1) := by decide +kernel
theorem dX11_told_162 : decode cX11_told 162 = .ok (.getfield 188, 3) := by decide +kernel
theorem dX11_told_165 : decode cX11_told 165 = .ok (.ireturn, 1) := by decide +kernel
theorem dJ6_bitCount_0f7a4_0 : decode cJ6_bitCount_0f7a4 0 = .ok (.iload_n 0, 1) := by decide +kernel
theorem dJ6_bitCount_0f7a4_1 : decode cJ6_bitCount_0f7a4 1 = .ok (.iload_n 0, 1) := by decide +kernel
theorem dJ6_bitCount_0f7a4_2 : decode cJ6_bitCount_0f7a4 2 = .ok (.iconst 1, 1) := by decide +kernel
theorem dJ6_bitCount_0f7a4_3 : decode cJ6_bitCount_0f7a4 3 = .ok (.iushr, 1) := by decide +kernel
theorem dJ6_bitCount_0f7a4_4 : decode cJ6_bitCount_0f7a4 4 = .ok (.ldc_w 265, 3) := by decide +kernel
theorem dJ6_bitCount_0f7a4_7 : decode cJ6_bitCount_0f7a4 7 = .ok (.iand, 1) := by decide +kernel
theorem dJ6_bitCount_0f7a4_8 : decode cJ6_bitCount_0f7a4 8 = .ok (.isub, 1) := by decide +kernel
theorem dJ6_bitCount_0f7a4_9 : decode cJ6_bitCount_0f7a4 9 = .ok (.istore_n 0, 1) := by decide +kernel
theorem dJ6_bitCount_0f7a4_10 : decode cJ6_bitCount_0f7a4 10 = .ok (.iload_n 0, 1) := by decide +kernel
theorem dJ6_bitCount_0f7a4_11 : decode cJ6_bitCount_0f7a4 11 = .ok (.ldc_w 266, 3) := by decide +kernel
theorem dJ6_bitCount_0f7a4_14 : decode cJ6_bitCount_0f7a4 14 = .ok (.iand, 1) := by decide +kernel
theorem dJ6_bitCount_0f7a4_15 : decode cJ6_bitCount_0f7a4 15 = .ok (.iload_n 0, 1) := by decide +kernel
theorem dJ6_bitCount_0f7a4_16 : decode cJ6_bitCount_0f7a4 16 = .ok (.iconst 2, 1) := by decide +kernel
theorem dJ6_bitCount_0f7a4_17 : decode cJ6_bitCount_0f7a4 17 = .ok (.iushr, 1) := by decide +kernel
theorem dJ6_bitCount_0f7a4_18 : decode cJ6_bitCount_0f7a4 18 = .ok (.ldc_w 266, 3) := by decide +kernel
theorem dJ6_bitCount_0f7a4_21 : decode cJ6_bitCount_0f7a4 21 = .ok (.iand, 1) := by decide +kernel
theorem dJ6_bitCount_0f7a4_22 : decode cJ6_bitCount_0f7a4 22 = .ok (.iadd, 1) := by decide +kernel
theorem dJ6_bitCount_0f7a4_23 : decode cJ6_bitCount_0f7a4 23 = .ok (.istore_n 0, 1) := by decide +kernel
theorem dJ6_bitCount_0f7a4_24 : decode cJ6_bitCount_0f7a4 24 = .ok (.iload_n 0, 1) := by decide +kernel
theorem dJ6_bitCount_0f7a4_25 : decode cJ6_bitCount_0f7a4 25 = .ok (.iload_n 0, 1) := by decide +kernel
theorem dJ6_bitCount_0f7a4_26 : decode cJ6_bitCount_0f7a4 26 = .ok (.iconst 4, 1) := by decide +kernel
theorem dJ6_bitCount_0f7a4_27 : decode cJ6_bitCount_0f7a4 27 = .ok (.iushr, 1) := by decide +kernel
theorem dJ6_bitCount_0f7a4_28 : decode cJ6_bitCount_0f7a4 28 = .ok (.iadd, 1) := by decide +kernel
theorem dJ6_bitCount_0f7a4_29 : decode cJ6_bitCount_0f7a4 29 = .ok (.ldc_w 267, 3) := by decide +kernel
theorem dJ6_bitCount_0f7a4_32 : decode cJ6_bitCount_0f7a4 32 = .ok (.iand, 1) := by decide +kernel
theorem dJ6_bitCount_0f7a4_33 : decode cJ6_bitCount_0f7a4 33 = .ok (.istore_n 0, 1) := by decide +kernel
theorem dJ6_bitCount_0f7a4_34 : decode cJ6_bitCount_0f7a4 34 = .ok (.iload_n 0, 1) := by decide +kernel
theorem dJ6_bitCount_0f7a4_35 : decode cJ6_bitCount_0f7a4 35 = .ok (.iload_n 0, 1) := by decide +kernel
theorem dJ6_bitCount_0f7a4_36 : decode cJ6_bitCount_0f7a4 36 = .ok (.bipush 8, 2) := by decide +kernel
theorem dJ6_bitCount_0f7a4_38 : decode cJ6_bitCount_0f7a4 38 = .ok (.iushr, 1) := by decide +kernel
theorem dJ6_bitCount_0f7a4_39 : decode cJ6_bitCount_0f7a4 39 = .ok (.iadd, 1) := by decide +kernel
theorem dJ6_bitCount_0f7a4_40 : decode cJ6_bitCount_0f7a4 40 = .ok (.istore_n 0, 1) := by decide +kernel
theorem dJ6_bitCount_0f7a4_41 : decode cJ6_bitCount_0f7a4 41 = .ok (.iload_n 0, 1) := by decide +kernel
theorem dJ6_bitCount_0f7a4_42 : decode cJ6_bitCount_0f7a4 42 = .ok (.iload_n 0, 1) := by decide +kernel
theorem dJ6_bitCount_0f7a4_43 : decode cJ6_bitCount_0f7a4 43 = .ok (.bipush 16, 2) := by decide +kernel
theorem dJ6_bitCount_0f7a4_45 : decode cJ6_bitCount_0f7a4 45 = .ok (.iushr, 1) := by decide +kernel
theorem dJ6_bitCount_0f7a4_46 : decode cJ6_bitCount_0f7a4 46 = .ok (.iadd, 1) := by decide +kernel
theorem dJ6_bitCount_0f7a4_47 : decode cJ6_bitCount_0f7a4 47 = .ok (.istore_n 0, 1) := by decide +kernel
theorem dJ6_bitCount_0f7a4_48 : decode cJ6_bitCount_0f7a4 48 = .ok (.iload_n 0, 1) := by decide +kernel
theorem dJ6_bitCount_0f7a4_49 : decode cJ6_bitCount_0f7a4 49 = .ok (.bipush 63, 2) := by decide +kernel
theorem dJ6_bitCount_0f7a4_51 : decode cJ6_bitCount_0f7a4 51 = .ok (.iand, 1) := by decide +kernel
theorem dJ6_bitCount_0f7a4_52 : decode cJ6_bitCount_0f7a4 52 = .ok (.ireturn, 1) := by decide +kernel
theorem dJ9_max_7cf53_0 : decode cJ9_max_7cf53 0 = .ok (.iload_n 0, 1) := by decide +kernel
theorem dJ9_max_7cf53_1 : decode cJ9_max_7cf53 1 = .ok (.iload_n 1, 1) := by decide +kernel
theorem dJ9_max_7cf53_2 : decode cJ9_max_7cf53 2 = .ok (.if_icmp .lt 7, 3) := by decide +kernel
theorem dJ9_max_7cf53_5 : decode cJ9_max_7cf53 5 = .ok (.iload_n 0, 1) := by decide +kernel
theorem dJ9_max_7cf53_6 : decode cJ9_max_7cf53 6 = .ok (.goto 4, 3) := by decide +kernel
theorem dJ9_max_7cf53_9 : decode cJ9_max_7cf53 9 = .ok (.iload_n 1, 1) := by decide +kernel
theorem dJ9_max_7cf53_10 : decode cJ9_max_7cf53 10 = .ok (.ireturn, 1) := by decide +kernel
theorem dJ9_min_7cf53_0 : decode cJ9_min_7cf53 0 = .ok (.iload_n 0, 1) := by decide +kernel
theorem dJ9_min_7cf53_1 : decode cJ9_min_7cf53 1 = .ok (.iload_n 1, 1) := by decide +kernel
theorem dJ9_min_7cf53_2 : decode cJ9_min_7cf53 2 = .ok (.if_icmp .gt 7, 3) := by decide +kernel
theorem dJ9_min_7cf53_5 : decode cJ9_min_7cf53 5 = .ok (.iload_n 0, 1) := by decide +kernel
theorem dJ9_min_7cf53_6 : decode cJ9_min_7cf53 6 = .ok (.goto 4, 3) := by decide +kernel
theorem dJ9_min_7cf53_9 : decode cJ9_min_7cf53 9 = .ok (.iload_n 1, 1) := by decide +kernel
theorem dJ9_min_7cf53_10 : decode cJ9_min_7cf53 10 = .ok (.ireturn, 1) := by decide +kernel
theorem dL_law_0 : decode cL_law 0 = .ok (.new 7, 3) := by decide +kernel
theorem dL_law_3 : decode cL_law 3 = .ok (.dup, 1) := by decide +kernel
theorem dL_law_4 : decode cL_law 4 = .ok (.invokespecial 9, 3) := by decide +kernel
theorem dL_law_7 : decode cL_law 7 = .ok (.astore_n 1, 1) := by decide +kernel
theorem dL_law_8 : decode cL_law 8 = .ok (.new 10, 3) := by decide +kernel
theorem dL_law_11 : decode cL_law 11 = .ok (.dup, 1) := by decide +kernel
theorem dL_law_12 : decode cL_law 12 = .ok (.invokespecial 12, 3) := by decide +kernel
theorem dL_law_15 : decode cL_law 15 = .ok (.astore_n 2, 1) := by decide +kernel
theorem dL_law_16 : decode cL_law 16 = .ok (.iconst 0, 1) := by decide +kernel
theorem dL_law_17 : decode cL_law 17 = .ok (.istore_n 3, 1) := by decide +kernel
theorem dL_law_18 : decode cL_law 18 = .ok (.iload_n 3, 1) := by decide +kernel
theorem dL_law_19 : decode cL_law 19 = .ok (.aload_n 0, 1) := by decide +kernel
theorem dL_law_20 : decode cL_law 20 = .ok (.arraylength, 1) := by decide +kernel
theorem dL_law_21 : decode cL_law 21 = .ok (.iconst 4, 1) := by decide +kernel
theorem dL_law_22 : decode cL_law 22 = .ok (.isub, 1) := by decide +kernel
theorem dL_law_23 : decode cL_law 23 = .ok (.if_icmp .gt 882, 3) := by decide +kernel
theorem dL_law_26 : decode cL_law 26 = .ok (.aload_n 0, 1) := by decide +kernel
theorem dL_law_27 : decode cL_law 27 = .ok (.iload_n 3, 1) := by decide +kernel
theorem dL_law_28 : decode cL_law 28 = .ok (.iaload, 1) := by decide +kernel
theorem dL_law_29 : decode cL_law 29 = .ok (.bipush 31, 2) := by decide +kernel
theorem dL_law_31 : decode cL_law 31 = .ok (.iand, 1) := by decide +kernel
theorem dL_law_32 : decode cL_law 32 = .ok (.tableswitch 867 0 26 #[124, 147, 160, 173, 196, 229, 262, 295, 328, 361, 394, 407, 440, 463, 496, 555, 578, 591, 624, 647, 680, 739, 772, 785, 798, 821, 844], 124) := by decide +kernel
theorem dL_law_156 : decode cL_law 156 = .ok (.aload_n 1, 1) := by decide +kernel
theorem dL_law_157 : decode cL_law 157 = .ok (.aload_n 0, 1) := by decide +kernel
theorem dL_law_158 : decode cL_law 158 = .ok (.iload_n 3, 1) := by decide +kernel
theorem dL_law_159 : decode cL_law 159 = .ok (.iconst 1, 1) := by decide +kernel
theorem dL_law_160 : decode cL_law 160 = .ok (.iadd, 1) := by decide +kernel
theorem dL_law_161 : decode cL_law 161 = .ok (.iaload, 1) := by decide +kernel
theorem dL_law_162 : decode cL_law 162 = .ok (.invokevirtual 13, 3) := by decide +kernel
theorem dL_law_165 : decode cL_law 165 = .ok (.aload_n 2, 1) := by decide +kernel
theorem dL_law_166 : decode cL_law 166 = .ok (.aload_n 0, 1) := by decide +kernel
theorem dL_law_167 : decode cL_law 167 = .ok (.iload_n 3, 1) := by decide +kernel
theorem dL_law_168 : decode cL_law 168 = .ok (.iconst 1, 1) := by decide +kernel
theorem dL_law_169 : decode cL_law 169 = .ok (.iadd, 1) := by decide +kernel
theorem dL_law_170 : decode cL_law 170 = .ok (.iaload, 1) := by decide +kernel
theorem dL_law_171 : decode cL_law 171 = .ok (.invokevirtual 17, 3) := by decide +kernel
theorem dL_law_174 : decode cL_law 174 = .ok (.if_icmp .eq 725, 3) := by decide +kernel
theorem dL_law_177 : decode cL_law 177 = .ok (.iconst 0, 1) := by decide +kernel
theorem dL_law_178 : decode cL_law 178 = .ok (.ireturn, 1) := by decide +kernel
theorem dL_law_179 : decode cL_law 179 = .ok (.aload_n 1, 1) := by decide +kernel
theorem dL_law_180 : decode cL_law 180 = .ok (.invokevirtual 18, 3) := by decide +kernel
theorem dL_law_183 : decode cL_law 183 = .ok (.aload_n 2, 1) := by decide +kernel
theorem dL_law_184 : decode cL_law 184 = .ok (.invokevirtual 22, 3) := by decide +kernel
theorem dL_law_187 : decode cL_law 187 = .ok (.if_icmp .eq 712, 3) := by decide +kernel
theorem dL_law_190 : decode cL_law 190 = .ok (.iconst 0, 1) := by decide +kernel
theorem dL_law_191 : decode cL_law 191 = .ok (.ireturn, 1) := by decide +kernel
theorem dL_law_192 : decode cL_law 192 = .ok (.aload_n 1, 1) := by decide +kernel
theorem dL_law_193 : decode cL_law 193 = .ok (.invokevirtual 23, 3) := by decide +kernel
theorem dL_law_196 : decode cL_law 196 = .ok (.aload_n 2, 1) := by decide +kernel
theorem dL_law_197 : decode cL_law 197 = .ok (.invokevirtual 26, 3) := by decide +kernel
theorem dL_law_200 : decode cL_law 200 = .ok (.if_icmp .eq 699, 3) := by decide +kernel
theorem dL_law_203 : decode cL_law 203 = .ok (.iconst 0, 1) := by decide +kernel
theorem dL_law_204 : decode cL_law 204 = .ok (.ireturn, 1) := by decide +kernel
theorem dL_law_205 : decode cL_law 205 = .ok (.aload_n 1, 1) := by decide +kernel
theorem dL_law_206 : decode cL_law 206 = .ok (.aload_n 0, 1) := by decide +kernel
theorem dL_law_207 : decode cL_law 207 = .ok (.iload_n 3, 1) := by decide +kernel
theorem dL_law_208 : decode cL_law 208 = .ok (.iconst 1, 1) := by decide +kernel
theorem dL_law_209 : decode cL_law 209 = .ok (.iadd, 1) := by decide +kernel
theorem dL_law_210 : decode cL_law 210 = .ok (.iaload, 1) := by decide +kernel
theorem dL_law_211 : decode cL_law 211 = .ok (.invokevirtual 27, 3) := by decide +kernel
theorem dL_law_214 : decode cL_law 214 = .ok (.aload_n 2, 1) := by decide +kernel
theorem dL_law_215 : decode cL_law 215 = .ok (.aload_n 0, 1) := by decide +kernel
theorem dL_law_216 : decode cL_law 216 = .ok (.iload_n 3, 1) := by decide +kernel
theorem dL_law_217 : decode cL_law 217 = .ok (.iconst 1, 1) := by decide +kernel
theorem dL_law_218 : decode cL_law 218 = .ok (.iadd, 1) := by decide +kernel
theorem dL_law_219 : decode cL_law 219 = .ok (.iaload, 1) := by decide +kernel
theorem dL_law_220 : decode cL_law 220 = .ok (.invokevirtual 30, 3) := by decide +kernel
theorem dL_law_223 : decode cL_law 223 = .ok (.if_icmp .eq 676, 3) := by decide +kernel
theorem dL_law_226 : decode cL_law 226 = .ok (.iconst 0, 1) := by decide +kernel
theorem dL_law_227 : decode cL_law 227 = .ok (.ireturn, 1) := by decide +kernel
theorem dL_law_228 : decode cL_law 228 = .ok (.aload_n 1, 1) := by decide +kernel
theorem dL_law_229 : decode cL_law 229 = .ok (.aload_n 0, 1) := by decide +kernel
theorem dL_law_230 : decode cL_law 230 = .ok (.iload_n 3, 1) := by decide +kernel
theorem dL_law_231 : decode cL_law 231 = .ok (.iconst 1, 1) := by decide +kernel
theorem dL_law_232 : decode cL_law 232 = .ok (.iadd, 1) := by decide +kernel
theorem dL_law_233 : decode cL_law 233 = .ok (.iaload, 1) := by decide +kernel
theorem dL_law_234 : decode cL_law 234 = .ok (.aload_n 0, 1) := by decide +kernel
theorem dL_law_235 : decode cL_law 235 = .ok (.iload_n 3, 1) := by decide +kernel
theorem dL_law_236 : decode cL_law 236 = .ok (.iconst 2, 1) := by decide +kernel
theorem dL_law_237 : decode cL_law 237 = .ok (.iadd, 1) := by decide +kernel
theorem dL_law_238 : decode cL_law 238 = .ok (.iaload, 1) := by decide +kernel
theorem dL_law_239 : decode cL_law 239 = .ok (.invokevirtual 31, 3) := by decide +kernel
theorem dL_law_242 : decode cL_law 242 = .ok (.aload_n 2, 1) := by decide +kernel
theorem dL_law_243 : decode cL_law 243 = .ok (.aload_n 0, 1) := by decide +kernel
theorem dL_law_244 : decode cL_law 244 = .ok (.iload_n 3, 1) := by decide +kernel
theorem dL_law_245 : decode cL_law 245 = .ok (.iconst 1, 1) := by decide +kernel
theorem dL_law_246 : decode cL_law 246 = .ok (.iadd, 1) := by decide +kernel
theorem dL_law_247 : decode cL_law 247 = .ok (.iaload, 1) := by decide +kernel
theorem dL_law_248 : decode cL_law 248 = .ok (.aload_n 0, 1) := by decide +kernel
theorem dL_law_249 : decode cL_law 249 = .ok (.iload_n 3, 1) := by decide +kernel
theorem dL_law_250 : decode cL_law 250 = .ok (.iconst 2, 1) := by decide +kernel
theorem dL_law_251 : decode cL_law 251 = .ok (.iadd, 1) := by decide +kernel
theorem dL_law_252 : decode cL_law 252 = .ok (.iaload, 1) := by decide +kernel
theorem dL_law_253 : decode cL_law 253 = .ok (.invokevirtual 35, 3) := by decide +kernel
theorem dL_law_256 : decode cL_law 256 = .ok (.if_icmp .eq 643, 3) := by decide +kernel
theorem dL_law_259 : decode cL_law 259 = .ok (.iconst 0, 1) := by decide +kernel
theorem dL_law_260 : decode cL_law 260 = .ok (.ireturn, 1) := by decide +kernel
theorem dL_law_261 : decode cL_law 261 = .ok (.aload_n 1, 1) := by decide +kernel
theorem dL_law_262 : decode cL_law 262 = .ok (.aload_n 0, 1) := by decide +kernel
theorem dL_law_263 : decode cL_law 263 = .ok (.iload_n 3, 1) := by decide +kernel
theorem dL_law_264 : decode cL_law 264 = .ok (.iconst 1, 1) := by decide +kernel
theorem dL_law_265 : decode cL_law 265 = .ok (.iadd, 1) := by decide +kernel
theorem dL_law_266 : decode cL_law 266 = .ok (.iaload, 1) := by decide +kernel
theorem dL_law_267 : decode cL_law 267 = .ok (.aload_n 0, 1) := by decide +kernel
theorem dL_law_268 : decode cL_law 268 = .ok (.iload_n 3, 1) := by decide +kernel
theorem dL_law_269 : decode cL_law 269 = .ok (.iconst 2, 1) := by decide +kernel
theorem dL_law_270 : decode cL_law 270 = .ok (.iadd, 1) := by decide +kernel
theorem dL_law_271 : decode cL_law 271 = .ok (.iaload, 1) := by decide +kernel
theorem dL_law_272 : decode cL_law 272 = .ok (.invokevirtual 36, 3) := by decide +kernel
theorem dL_law_275 : decode cL_law 275 = .ok (.aload_n 2, 1) := by decide +kernel
theorem dL_law_276 : decode cL_law 276 = .ok (.aload_n 0, 1) := by decide +kernel
theorem dL_law_277 : decode cL_law 277 = .ok (.iload_n 3, 1) := by decide +kernel
theorem dL_law_278 : decode cL_law 278 = .ok (.iconst 1, 1) := by decide +kernel
theorem dL_law_279 : decode cL_law 279 = .ok (.iadd, 1) := by decide +kernel
theorem dL_law_280 : decode cL_law 280 = .ok (.iaload, 1) := by decide +kernel
theorem dL_law_281 : decode cL_law 281 = .ok (.aload_n 0, 1) := by decide +kernel
theorem dL_law_282 : decode cL_law 282 = .ok (.iload_n 3, 1) := by decide +kernel
theorem dL_law_283 : decode cL_law 283 = .ok (.iconst 2, 1) := by decide +kernel
theorem dL_law_284 : decode cL_law 284 = .ok (.iadd, 1) := by decide +kernel
theorem dL_law_285 : decode cL_law 285 = .ok (.iaload, 1) := by decide +kernel
theorem dL_law_286 : decode cL_law 286 = .ok (.invokevirtual 39, 3) := by decide +kernel
theorem dL_law_289 : decode cL_law 289 = .ok (.if_icmp .eq 610, 3) := by decide +kernel
theorem dL_law_292 : decode cL_law 292 = .ok (.iconst 0, 1) := by decide +kernel
theorem dL_law_293 : decode cL_law 293 = .ok (.ireturn, 1) := by decide +kernel
theorem dL_law_294 : decode cL_law 294 = .ok (.aload_n 1, 1) := by decide +kernel
theorem dL_law_295 : decode cL_law 295 = .ok (.aload_n 0, 1) := by decide +kernel
theorem dL_law_296 : decode cL_law 296 = .ok (.iload_n 3, 1) := by decide +kernel
theorem dL_law_297 : decode cL_law 297 = .ok (.iconst 1, 1) := by decide +kernel
theorem dL_law_298 : decode cL_law 298 = .ok (.iadd, 1) := by decide +kernel
theorem dL_law_299 : decode cL_law 299 = .ok (.iaload, 1) := by decide +kernel
theorem dL_law_300 : decode cL_law 300 = .ok (.aload_n 0, 1) := by decide +kernel
theorem dL_law_301 : decode cL_law 301 = .ok (.iload_n 3, 1) := by decide +kernel
theorem dL_law_302 : decode cL_law 302 = .ok (.iconst 2, 1) := by decide +kernel
theorem dL_law_303 : decode cL_law 303 = .ok (.iadd, 1) := by decide +kernel
theorem dL_law_304 : decode cL_law 304 = .ok (.iaload, 1) := by decide +kernel
theorem dL_law_305 : decode cL_law 305 = .ok (.invokevirtual 40, 3) := by decide +kernel
theorem dL_law_308 : decode cL_law 308 = .ok (.aload_n 2, 1) := by decide +kernel
theorem dL_law_309 : decode cL_law 309 = .ok (.aload_n 0, 1) := by decide +kernel
theorem dL_law_310 : decode cL_law 310 = .ok (.iload_n 3, 1) := by decide +kernel
theorem dL_law_311 : decode cL_law 311 = .ok (.iconst 1, 1) := by decide +kernel
theorem dL_law_312 : decode cL_law 312 = .ok (.iadd, 1) := by decide +kernel
theorem dL_law_313 : decode cL_law 313 = .ok (.iaload, 1) := by decide +kernel
theorem dL_law_314 : decode cL_law 314 = .ok (.aload_n 0, 1) := by decide +kernel
theorem dL_law_315 : decode cL_law 315 = .ok (.iload_n 3, 1) := by decide +kernel
theorem dL_law_316 : decode cL_law 316 = .ok (.iconst 2, 1) := by decide +kernel
theorem dL_law_317 : decode cL_law 317 = .ok (.iadd, 1) := by decide +kernel
theorem dL_law_318 : decode cL_law 318 = .ok (.iaload, 1) := by decide +kernel
theorem dL_law_319 : decode cL_law 319 = .ok (.invokevirtual 43, 3) := by decide +kernel
theorem dL_law_322 : decode cL_law 322 = .ok (.if_icmp .eq 577, 3) := by decide +kernel
theorem dL_law_325 : decode cL_law 325 = .ok (.iconst 0, 1) := by decide +kernel
theorem dL_law_326 : decode cL_law 326 = .ok (.ireturn, 1) := by decide +kernel
theorem dL_law_327 : decode cL_law 327 = .ok (.aload_n 1, 1) := by decide +kernel
theorem dL_law_328 : decode cL_law 328 = .ok (.aload_n 0, 1) := by decide +kernel
theorem dL_law_329 : decode cL_law 329 = .ok (.iload_n 3, 1) := by decide +kernel
theorem dL_law_330 : decode cL_law 330 = .ok (.iconst 1, 1) := by decide +kernel
theorem dL_law_331 : decode cL_law 331 = .ok (.iadd, 1) := by decide +kernel
theorem dL_law_332 : decode cL_law 332 = .ok (.iaload, 1) := by decide +kernel
theorem dL_law_333 : decode cL_law 333 = .ok (.aload_n 0, 1) := by decide +kernel
theorem dL_law_334 : decode cL_law 334 = .ok (.iload_n 3, 1) := by decide +kernel
theorem dL_law_335 : decode cL_law 335 = .ok (.iconst 2, 1) := by decide +kernel
theorem dL_law_336 : decode cL_law 336 = .ok (.iadd, 1) := by decide +kernel
theorem dL_law_337 : decode cL_law 337 = .ok (.iaload, 1) := by decide +kernel
theorem dL_law_338 : decode cL_law 338 = .ok (.invokevirtual 44, 3) := by decide +kernel
theorem dL_law_341 : decode cL_law 341 = .ok (.aload_n 2, 1) := by decide +kernel
theorem dL_law_342 : decode cL_law 342 = .ok (.aload_n 0, 1) := by decide +kernel
theorem dL_law_343 : decode cL_law 343 = .ok (.iload_n 3, 1) := by decide +kernel
theorem dL_law_344 : decode cL_law 344 = .ok (.iconst 1, 1) := by decide +kernel
theorem dL_law_345 : decode cL_law 345 = .ok (.iadd, 1) := by decide +kernel
theorem dL_law_346 : decode cL_law 346 = .ok (.iaload, 1) := by decide +kernel
theorem dL_law_347 : decode cL_law 347 = .ok (.aload_n 0, 1) := by decide +kernel
theorem dL_law_348 : decode cL_law 348 = .ok (.iload_n 3, 1) := by decide +kernel
theorem dL_law_349 : decode cL_law 349 = .ok (.iconst 2, 1) := by decide +kernel
theorem dL_law_350 : decode cL_law 350 = .ok (.iadd, 1) := by decide +kernel
theorem dL_law_351 : decode cL_law 351 = .ok (.iaload, 1) := by decide +kernel
theorem dL_law_352 : decode cL_law 352 = .ok (.invokevirtual 47, 3) := by decide +kernel
theorem dL_law_355 : decode cL_law 355 = .ok (.if_icmp .eq 544, 3) := by decide +kernel
theorem dL_law_358 : decode cL_law 358 = .ok (.iconst 0, 1) := by decide +kernel
theorem dL_law_359 : decode cL_law 359 = .ok (.ireturn, 1) := by decide +kernel
theorem dL_law_360 : decode cL_law 360 = .ok (.aload_n 1, 1) := by decide +kernel
theorem dL_law_361 : decode cL_law 361 = .ok (.aload_n 0, 1) := by decide +kernel
theorem dL_law_362 : decode cL_law 362 = .ok (.iload_n 3, 1) := by decide +kernel
theorem dL_law_363 : decode cL_law 363 = .ok (.iconst 1, 1) := by decide +kernel
theorem dL_law_364 : decode cL_law 364 = .ok (.iadd, 1) := by decide +kernel
theorem dL_law_365 : decode cL_law 365 = .ok (.iaload, 1) := by decide +kernel
theorem dL_law_366 : decode cL_law 366 = .ok (.aload_n 0, 1) := by decide +kernel
theorem dL_law_367 : decode cL_law 367 = .ok (.iload_n 3, 1) := by decide +kernel
theorem dL_law_368 : decode cL_law 368 = .ok (.iconst 2, 1) := by decide +kernel
theorem dL_law_369 : decode cL_law 369 = .ok (.iadd, 1) := by decide +kernel
theorem dL_law_370 : decode cL_law 370 = .ok (.iaload, 1) := by decide +kernel
theorem dL_law_371 : decode cL_law 371 = .ok (.invokevirtual 48, 3) := by decide +kernel
theorem dL_law_374 : decode cL_law 374 = .ok (.aload_n 2, 1) := by decide +kernel
theorem dL_law_375 : decode cL_law 375 = .ok (.aload_n 0, 1) := by decide +kernel
theorem dL_law_376 : decode cL_law 376 = .ok (.iload_n 3, 1) := by decide +kernel
theorem dL_law_377 : decode cL_law 377 = .ok (.iconst 1, 1) := by decide +kernel
theorem dL_law_378 : decode cL_law 378 = .ok (.iadd, 1) := by decide +kernel
theorem dL_law_379 : decode cL_law 379 = .ok (.iaload, 1) := by decide +kernel
theorem dL_law_380 : decode cL_law 380 = .ok (.aload_n 0, 1) := by decide +kernel
theorem dL_law_381 : decode cL_law 381 = .ok (.iload_n 3, 1) := by decide +kernel
theorem dL_law_382 : decode cL_law 382 = .ok (.iconst 2, 1) := by decide +kernel
theorem dL_law_383 : decode cL_law 383 = .ok (.iadd, 1) := by decide +kernel
theorem dL_law_384 : decode cL_law 384 = .ok (.iaload, 1) := by decide +kernel
theorem dL_law_385 : decode cL_law 385 = .ok (.invokevirtual 51, 3) := by decide +kernel
theorem dL_law_388 : decode cL_law 388 = .ok (.if_icmp .eq 511, 3) := by decide +kernel
theorem dL_law_391 : decode cL_law 391 = .ok (.iconst 0, 1) := by decide +kernel
theorem dL_law_392 : decode cL_law 392 = .ok (.ireturn, 1) := by decide +kernel
theorem dL_law_393 : decode cL_law 393 = .ok (.aload_n 1, 1) := by decide +kernel
theorem dL_law_394 : decode cL_law 394 = .ok (.aload_n 0, 1) := by decide +kernel
theorem dL_law_395 : decode cL_law 395 = .ok (.iload_n 3, 1) := by decide +kernel
theorem dL_law_396 : decode cL_law 396 = .ok (.iconst 1, 1) := by decide +kernel
theorem dL_law_397 : decode cL_law 397 = .ok (.iadd, 1) := by decide +kernel
theorem dL_law_398 : decode cL_law 398 = .ok (.iaload, 1) := by decide +kernel
theorem dL_law_399 : decode cL_law 399 = .ok (.aload_n 0, 1) := by decide +kernel
theorem dL_law_400 : decode cL_law 400 = .ok (.iload_n 3, 1) := by decide +kernel
theorem dL_law_401 : decode cL_law 401 = .ok (.iconst 2, 1) := by decide +kernel
theorem dL_law_402 : decode cL_law 402 = .ok (.iadd, 1) := by decide +kernel
theorem dL_law_403 : decode cL_law 403 = .ok (.iaload, 1) := by decide +kernel
theorem dL_law_404 : decode cL_law 404 = .ok (.invokevirtual 52, 3) := by decide +kernel
theorem dL_law_407 : decode cL_law 407 = .ok (.aload_n 2, 1) := by decide +kernel
theorem dL_law_408 : decode cL_law 408 = .ok (.aload_n 0, 1) := by decide +kernel
theorem dL_law_409 : decode cL_law 409 = .ok (.iload_n 3, 1) := by decide +kernel
theorem dL_law_410 : decode cL_law 410 = .ok (.iconst 1, 1) := by decide +kernel
theorem dL_law_411 : decode cL_law 411 = .ok (.iadd, 1) := by decide +kernel
theorem dL_law_412 : decode cL_law 412 = .ok (.iaload, 1) := by decide +kernel
theorem dL_law_413 : decode cL_law 413 = .ok (.aload_n 0, 1) := by decide +kernel
theorem dL_law_414 : decode cL_law 414 = .ok (.iload_n 3, 1) := by decide +kernel
theorem dL_law_415 : decode cL_law 415 = .ok (.iconst 2, 1) := by decide +kernel
theorem dL_law_416 : decode cL_law 416 = .ok (.iadd, 1) := by decide +kernel
theorem dL_law_417 : decode cL_law 417 = .ok (.iaload, 1) := by decide +kernel
theorem dL_law_418 : decode cL_law 418 = .ok (.invokevirtual 55, 3) := by decide +kernel
theorem dL_law_421 : decode cL_law 421 = .ok (.if_icmp .eq 478, 3) := by decide +kernel
theorem dL_law_424 : decode cL_law 424 = .ok (.iconst 0, 1) := by decide +kernel
theorem dL_law_425 : decode cL_law 425 = .ok (.ireturn, 1) := by decide +kernel
theorem dL_law_426 : decode cL_law 426 = .ok (.aload_n 1, 1) := by decide +kernel
theorem dL_law_427 : decode cL_law 427 = .ok (.invokevirtual 56, 3) := by decide +kernel
theorem dL_law_430 : decode cL_law 430 = .ok (.aload_n 2, 1) := by decide +kernel
theorem dL_law_431 : decode cL_law 431 = .ok (.invokevirtual 59, 3) := by decide +kernel
theorem dL_law_434 : decode cL_law 434 = .ok (.if_icmp .eq 465, 3) := by decide +kernel
theorem dL_law_437 : decode cL_law 437 = .ok (.iconst 0, 1) := by decide +kernel
theorem dL_law_438 : decode cL_law 438 = .ok (.ireturn, 1) := by decide +kernel
theorem dL_law_439 : decode cL_law 439 = .ok (.aload_n 1, 1) := by decide +kernel
theorem dL_law_440 : decode cL_law 440 = .ok (.aload_n 0, 1) := by decide +kernel
theorem dL_law_441 : decode cL_law 441 = .ok (.iload_n 3, 1) := by decide +kernel
theorem dL_law_442 : decode cL_law 442 = .ok (.iconst 1, 1) := by decide +kernel
theorem dL_law_443 : decode cL_law 443 = .ok (.iadd, 1) := by decide +kernel
theorem dL_law_444 : decode cL_law 444 = .ok (.iaload, 1) := by decide +kernel
theorem dL_law_445 : decode cL_law 445 = .ok (.aload_n 0, 1) := by decide +kernel
theorem dL_law_446 : decode cL_law 446 = .ok (.iload_n 3, 1) := by decide +kernel
theorem dL_law_447 : decode cL_law 447 = .ok (.iconst 2, 1) := by decide +kernel
theorem dL_law_448 : decode cL_law 448 = .ok (.iadd, 1) := by decide +kernel
theorem dL_law_449 : decode cL_law 449 = .ok (.iaload, 1) := by decide +kernel
theorem dL_law_450 : decode cL_law 450 = .ok (.invokevirtual 60, 3) := by decide +kernel
theorem dL_law_453 : decode cL_law 453 = .ok (.aload_n 2, 1) := by decide +kernel
theorem dL_law_454 : decode cL_law 454 = .ok (.aload_n 0, 1) := by decide +kernel
theorem dL_law_455 : decode cL_law 455 = .ok (.iload_n 3, 1) := by decide +kernel
theorem dL_law_456 : decode cL_law 456 = .ok (.iconst 1, 1) := by decide +kernel
theorem dL_law_457 : decode cL_law 457 = .ok (.iadd, 1) := by decide +kernel
theorem dL_law_458 : decode cL_law 458 = .ok (.iaload, 1) := by decide +kernel
theorem dL_law_459 : decode cL_law 459 = .ok (.aload_n 0, 1) := by decide +kernel
theorem dL_law_460 : decode cL_law 460 = .ok (.iload_n 3, 1) := by decide +kernel
theorem dL_law_461 : decode cL_law 461 = .ok (.iconst 2, 1) := by decide +kernel
theorem dL_law_462 : decode cL_law 462 = .ok (.iadd, 1) := by decide +kernel
theorem dL_law_463 : decode cL_law 463 = .ok (.iaload, 1) := by decide +kernel
theorem dL_law_464 : decode cL_law 464 = .ok (.invokevirtual 63, 3) := by decide +kernel
theorem dL_law_467 : decode cL_law 467 = .ok (.if_icmp .eq 432, 3) := by decide +kernel
theorem dL_law_470 : decode cL_law 470 = .ok (.iconst 0, 1) := by decide +kernel
theorem dL_law_471 : decode cL_law 471 = .ok (.ireturn, 1) := by decide +kernel
theorem dL_law_472 : decode cL_law 472 = .ok (.aload_n 1, 1) := by decide +kernel
theorem dL_law_473 : decode cL_law 473 = .ok (.aload_n 0, 1) := by decide +kernel
theorem dL_law_474 : decode cL_law 474 = .ok (.iload_n 3, 1) := by decide +kernel
theorem dL_law_475 : decode cL_law 475 = .ok (.iconst 1, 1) := by decide +kernel
theorem dL_law_476 : decode cL_law 476 = .ok (.iadd, 1) := by decide +kernel
theorem dL_law_477 : decode cL_law 477 = .ok (.iaload, 1) := by decide +kernel
theorem dL_law_478 : decode cL_law 478 = .ok (.invokevirtual 64, 3) := by decide +kernel
theorem dL_law_481 : decode cL_law 481 = .ok (.aload_n 2, 1) := by decide +kernel
theorem dL_law_482 : decode cL_law 482 = .ok (.aload_n 0, 1) := by decide +kernel
theorem dL_law_483 : decode cL_law 483 = .ok (.iload_n 3, 1) := by decide +kernel
theorem dL_law_484 : decode cL_law 484 = .ok (.iconst 1, 1) := by decide +kernel
theorem dL_law_485 : decode cL_law 485 = .ok (.iadd, 1) := by decide +kernel
theorem dL_law_486 : decode cL_law 486 = .ok (.iaload, 1) := by decide +kernel
theorem dL_law_487 : decode cL_law 487 = .ok (.invokevirtual 67, 3) := by decide +kernel
theorem dL_law_490 : decode cL_law 490 = .ok (.if_icmp .eq 409, 3) := by decide +kernel
theorem dL_law_493 : decode cL_law 493 = .ok (.iconst 0, 1) := by decide +kernel
theorem dL_law_494 : decode cL_law 494 = .ok (.ireturn, 1) := by decide +kernel
theorem dL_law_495 : decode cL_law 495 = .ok (.aload_n 1, 1) := by decide +kernel
theorem dL_law_496 : decode cL_law 496 = .ok (.aload_n 0, 1) := by decide +kernel
theorem dL_law_497 : decode cL_law 497 = .ok (.iload_n 3, 1) := by decide +kernel
theorem dL_law_498 : decode cL_law 498 = .ok (.iconst 1, 1) := by decide +kernel
theorem dL_law_499 : decode cL_law 499 = .ok (.iadd, 1) := by decide +kernel
theorem dL_law_500 : decode cL_law 500 = .ok (.iaload, 1) := by decide +kernel
theorem dL_law_501 : decode cL_law 501 = .ok (.aload_n 0, 1) := by decide +kernel
theorem dL_law_502 : decode cL_law 502 = .ok (.iload_n 3, 1) := by decide +kernel
theorem dL_law_503 : decode cL_law 503 = .ok (.iconst 2, 1) := by decide +kernel
theorem dL_law_504 : decode cL_law 504 = .ok (.iadd, 1) := by decide +kernel
theorem dL_law_505 : decode cL_law 505 = .ok (.iaload, 1) := by decide +kernel
theorem dL_law_506 : decode cL_law 506 = .ok (.invokevirtual 68, 3) := by decide +kernel
theorem dL_law_509 : decode cL_law 509 = .ok (.aload_n 2, 1) := by decide +kernel
theorem dL_law_510 : decode cL_law 510 = .ok (.aload_n 0, 1) := by decide +kernel
theorem dL_law_511 : decode cL_law 511 = .ok (.iload_n 3, 1) := by decide +kernel
theorem dL_law_512 : decode cL_law 512 = .ok (.iconst 1, 1) := by decide +kernel
theorem dL_law_513 : decode cL_law 513 = .ok (.iadd, 1) := by decide +kernel
theorem dL_law_514 : decode cL_law 514 = .ok (.iaload, 1) := by decide +kernel
theorem dL_law_515 : decode cL_law 515 = .ok (.aload_n 0, 1) := by decide +kernel
theorem dL_law_516 : decode cL_law 516 = .ok (.iload_n 3, 1) := by decide +kernel
theorem dL_law_517 : decode cL_law 517 = .ok (.iconst 2, 1) := by decide +kernel
theorem dL_law_518 : decode cL_law 518 = .ok (.iadd, 1) := by decide +kernel
theorem dL_law_519 : decode cL_law 519 = .ok (.iaload, 1) := by decide +kernel
theorem dL_law_520 : decode cL_law 520 = .ok (.invokevirtual 71, 3) := by decide +kernel
theorem dL_law_523 : decode cL_law 523 = .ok (.if_icmp .eq 376, 3) := by decide +kernel
theorem dL_law_526 : decode cL_law 526 = .ok (.iconst 0, 1) := by decide +kernel
theorem dL_law_527 : decode cL_law 527 = .ok (.ireturn, 1) := by decide +kernel
theorem dL_law_528 : decode cL_law 528 = .ok (.aload_n 1, 1) := by decide +kernel
theorem dL_law_529 : decode cL_law 529 = .ok (.aload_n 0, 1) := by decide +kernel
theorem dL_law_530 : decode cL_law 530 = .ok (.iload_n 3, 1) := by decide +kernel
theorem dL_law_531 : decode cL_law 531 = .ok (.iconst 1, 1) := by decide +kernel
theorem dL_law_532 : decode cL_law 532 = .ok (.iadd, 1) := by decide +kernel
theorem dL_law_533 : decode cL_law 533 = .ok (.iaload, 1) := by decide +kernel
theorem dL_law_534 : decode cL_law 534 = .ok (.aload_n 0, 1) := by decide +kernel
theorem dL_law_535 : decode cL_law 535 = .ok (.iload_n 3, 1) := by decide +kernel
theorem dL_law_536 : decode cL_law 536 = .ok (.iconst 2, 1) := by decide +kernel
theorem dL_law_537 : decode cL_law 537 = .ok (.iadd, 1) := by decide +kernel
theorem dL_law_538 : decode cL_law 538 = .ok (.iaload, 1) := by decide +kernel
theorem dL_law_539 : decode cL_law 539 = .ok (.aload_n 0, 1) := by decide +kernel
theorem dL_law_540 : decode cL_law 540 = .ok (.iload_n 3, 1) := by decide +kernel
theorem dL_law_541 : decode cL_law 541 = .ok (.iconst 3, 1) := by decide +kernel
theorem dL_law_542 : decode cL_law 542 = .ok (.iadd, 1) := by decide +kernel
theorem dL_law_543 : decode cL_law 543 = .ok (.iaload, 1) := by decide +kernel
theorem dL_law_544 : decode cL_law 544 = .ok (.ifCond .eq 7, 3) := by decide +kernel
theorem dL_law_547 : decode cL_law 547 = .ok (.iconst 1, 1) := by decide +kernel
theorem dL_law_548 : decode cL_law 548 = .ok (.goto 4, 3) := by decide +kernel
theorem dL_law_551 : decode cL_law 551 = .ok (.iconst 0, 1) := by decide +kernel
theorem dL_law_552 : decode cL_law 552 = .ok (.invokevirtual 72, 3) := by decide +kernel
theorem dL_law_555 : decode cL_law 555 = .ok (.aload_n 2, 1) := by decide +kernel
theorem dL_law_556 : decode cL_law 556 = .ok (.aload_n 0, 1) := by decide +kernel
theorem dL_law_557 : decode cL_law 557 = .ok (.iload_n 3, 1) := by decide +kernel
theorem dL_law_558 : decode cL_law 558 = .ok (.iconst 1, 1) := by decide +kernel
theorem dL_law_559 : decode cL_law 559 = .ok (.iadd, 1) := by decide +kernel
theorem dL_law_560 : decode cL_law 560 = .ok (.iaload, 1) := by decide +kernel
theorem dL_law_561 : decode cL_law 561 = .ok (.aload_n 0, 1) := by decide +kernel
theorem dL_law_562 : decode cL_law 562 = .ok (.iload_n 3, 1) := by decide +kernel
theorem dL_law_563 : decode cL_law 563 = .ok (.iconst 2, 1) := by decide +kernel
theorem dL_law_564 : decode cL_law 564 = .ok (.iadd, 1) := by decide +kernel
theorem dL_law_565 : decode cL_law 565 = .ok (.iaload, 1) := by decide +kernel
theorem dL_law_566 : decode cL_law 566 = .ok (.aload_n 0, 1) := by decide +kernel
theorem dL_law_567 : decode cL_law 567 = .ok (.iload_n 3, 1) := by decide +kernel
theorem dL_law_568 : decode cL_law 568 = .ok (.iconst 3, 1) := by decide +kernel
theorem dL_law_569 : decode cL_law 569 = .ok (.iadd, 1) := by decide +kernel
theorem dL_law_570 : decode cL_law 570 = .ok (.iaload, 1) := by decide +kernel
theorem dL_law_571 : decode cL_law 571 = .ok (.ifCond .eq 7, 3) := by decide +kernel
theorem dL_law_574 : decode cL_law 574 = .ok (.iconst 1, 1) := by decide +kernel
theorem dL_law_575 : decode cL_law 575 = .ok (.goto 4, 3) := by decide +kernel
theorem dL_law_578 : decode cL_law 578 = .ok (.iconst 0, 1) := by decide +kernel
theorem dL_law_579 : decode cL_law 579 = .ok (.invokevirtual 76, 3) := by decide +kernel
theorem dL_law_582 : decode cL_law 582 = .ok (.if_icmp .eq 317, 3) := by decide +kernel
theorem dL_law_585 : decode cL_law 585 = .ok (.iconst 0, 1) := by decide +kernel
theorem dL_law_586 : decode cL_law 586 = .ok (.ireturn, 1) := by decide +kernel
theorem dL_law_587 : decode cL_law 587 = .ok (.aload_n 1, 1) := by decide +kernel
theorem dL_law_588 : decode cL_law 588 = .ok (.aload_n 0, 1) := by decide +kernel
theorem dL_law_589 : decode cL_law 589 = .ok (.iload_n 3, 1) := by decide +kernel
theorem dL_law_590 : decode cL_law 590 = .ok (.iconst 1, 1) := by decide +kernel
theorem dL_law_591 : decode cL_law 591 = .ok (.iadd, 1) := by decide +kernel
theorem dL_law_592 : decode cL_law 592 = .ok (.iaload, 1) := by decide +kernel
theorem dL_law_593 : decode cL_law 593 = .ok (.invokevirtual 77, 3) := by decide +kernel
theorem dL_law_596 : decode cL_law 596 = .ok (.aload_n 2, 1) := by decide +kernel
theorem dL_law_597 : decode cL_law 597 = .ok (.aload_n 0, 1) := by decide +kernel
theorem dL_law_598 : decode cL_law 598 = .ok (.iload_n 3, 1) := by decide +kernel
theorem dL_law_599 : decode cL_law 599 = .ok (.iconst 1, 1) := by decide +kernel
theorem dL_law_600 : decode cL_law 600 = .ok (.iadd, 1) := by decide +kernel
theorem dL_law_601 : decode cL_law 601 = .ok (.iaload, 1) := by decide +kernel
theorem dL_law_602 : decode cL_law 602 = .ok (.invokevirtual 80, 3) := by decide +kernel
theorem dL_law_605 : decode cL_law 605 = .ok (.if_icmp .eq 294, 3) := by decide +kernel
theorem dL_law_608 : decode cL_law 608 = .ok (.iconst 0, 1) := by decide +kernel
theorem dL_law_609 : decode cL_law 609 = .ok (.ireturn, 1) := by decide +kernel
theorem dL_law_610 : decode cL_law 610 = .ok (.aload_n 1, 1) := by decide +kernel
theorem dL_law_611 : decode cL_law 611 = .ok (.invokevirtual 81, 3) := by decide +kernel
theorem dL_law_614 : decode cL_law 614 = .ok (.aload_n 2, 1) := by decide +kernel
theorem dL_law_615 : decode cL_law 615 = .ok (.invokevirtual 84, 3) := by decide +kernel
theorem dL_law_618 : decode cL_law 618 = .ok (.if_icmp .eq 281, 3) := by decide +kernel
theorem dL_law_621 : decode cL_law 621 = .ok (.iconst 0, 1) := by decide +kernel
theorem dL_law_622 : decode cL_law 622 = .ok (.ireturn, 1) := by decide +kernel
theorem dL_law_623 : decode cL_law 623 = .ok (.aload_n 1, 1) := by decide +kernel
theorem dL_law_624 : decode cL_law 624 = .ok (.aload_n 0, 1) := by decide +kernel
theorem dL_law_625 : decode cL_law 625 = .ok (.iload_n 3, 1) := by decide +kernel
theorem dL_law_626 : decode cL_law 626 = .ok (.iconst 1, 1) := by decide +kernel
theorem dL_law_627 : decode cL_law 627 = .ok (.iadd, 1) := by decide +kernel
theorem dL_law_628 : decode cL_law 628 = .ok (.iaload, 1) := by decide +kernel
theorem dL_law_629 : decode cL_law 629 = .ok (.aload_n 0, 1) := by decide +kernel
theorem dL_law_630 : decode cL_law 630 = .ok (.iload_n 3, 1) := by decide +kernel
theorem dL_law_631 : decode cL_law 631 = .ok (.iconst 2, 1) := by decide +kernel
theorem dL_law_632 : decode cL_law 632 = .ok (.iadd, 1) := by decide +kernel
theorem dL_law_633 : decode cL_law 633 = .ok (.iaload, 1) := by decide +kernel
theorem dL_law_634 : decode cL_law 634 = .ok (.invokevirtual 85, 3) := by decide +kernel
theorem dL_law_637 : decode cL_law 637 = .ok (.aload_n 2, 1) := by decide +kernel
theorem dL_law_638 : decode cL_law 638 = .ok (.aload_n 0, 1) := by decide +kernel
theorem dL_law_639 : decode cL_law 639 = .ok (.iload_n 3, 1) := by decide +kernel
theorem dL_law_640 : decode cL_law 640 = .ok (.iconst 1, 1) := by decide +kernel
theorem dL_law_641 : decode cL_law 641 = .ok (.iadd, 1) := by decide +kernel
theorem dL_law_642 : decode cL_law 642 = .ok (.iaload, 1) := by decide +kernel
theorem dL_law_643 : decode cL_law 643 = .ok (.aload_n 0, 1) := by decide +kernel
theorem dL_law_644 : decode cL_law 644 = .ok (.iload_n 3, 1) := by decide +kernel
theorem dL_law_645 : decode cL_law 645 = .ok (.iconst 2, 1) := by decide +kernel
theorem dL_law_646 : decode cL_law 646 = .ok (.iadd, 1) := by decide +kernel
theorem dL_law_647 : decode cL_law 647 = .ok (.iaload, 1) := by decide +kernel
theorem dL_law_648 : decode cL_law 648 = .ok (.invokevirtual 88, 3) := by decide +kernel
theorem dL_law_651 : decode cL_law 651 = .ok (.if_icmp .eq 248, 3) := by decide +kernel
theorem dL_law_654 : decode cL_law 654 = .ok (.iconst 0, 1) := by decide +kernel
theorem dL_law_655 : decode cL_law 655 = .ok (.ireturn, 1) := by decide +kernel
theorem dL_law_656 : decode cL_law 656 = .ok (.aload_n 1, 1) := by decide +kernel
theorem dL_law_657 : decode cL_law 657 = .ok (.aload_n 0, 1) := by decide +kernel
theorem dL_law_658 : decode cL_law 658 = .ok (.iload_n 3, 1) := by decide +kernel
theorem dL_law_659 : decode cL_law 659 = .ok (.iconst 1, 1) := by decide +kernel
theorem dL_law_660 : decode cL_law 660 = .ok (.iadd, 1) := by decide +kernel
theorem dL_law_661 : decode cL_law 661 = .ok (.iaload, 1) := by decide +kernel
theorem dL_law_662 : decode cL_law 662 = .ok (.invokevirtual 89, 3) := by decide +kernel
theorem dL_law_665 : decode cL_law 665 = .ok (.aload_n 2, 1) := by decide +kernel
theorem dL_law_666 : decode cL_law 666 = .ok (.aload_n 0, 1) := by decide +kernel
theorem dL_law_667 : decode cL_law 667 = .ok (.iload_n 3, 1) := by decide +kernel
theorem dL_law_668 : decode cL_law 668 = .ok (.iconst 1, 1) := by decide +kernel
theorem dL_law_669 : decode cL_law 669 = .ok (.iadd, 1) := by decide +kernel
theorem dL_law_670 : decode cL_law 670 = .ok (.iaload, 1) := by decide +kernel
theorem dL_law_671 : decode cL_law 671 = .ok (.invokevirtual 92, 3) := by decide +kernel
theorem dL_law_674 : decode cL_law 674 = .ok (.if_icmp .eq 225, 3) := by decide +kernel
theorem dL_law_677 : decode cL_law 677 = .ok (.iconst 0, 1) := by decide +kernel
theorem dL_law_678 : decode cL_law 678 = .ok (.ireturn, 1) := by decide +kernel
theorem dL_law_679 : decode cL_law 679 = .ok (.aload_n 1, 1) := by decide +kernel
theorem dL_law_680 : decode cL_law 680 = .ok (.aload_n 0, 1) := by decide +kernel
theorem dL_law_681 : decode cL_law 681 = .ok (.iload_n 3, 1) := by decide +kernel
theorem dL_law_682 : decode cL_law 682 = .ok (.iconst 1, 1) := by decide +kernel
theorem dL_law_683 : decode cL_law 683 = .ok (.iadd, 1) := by decide +kernel
theorem dL_law_684 : decode cL_law 684 = .ok (.iaload, 1) := by decide +kernel
theorem dL_law_685 : decode cL_law 685 = .ok (.aload_n 0, 1) := by decide +kernel
theorem dL_law_686 : decode cL_law 686 = .ok (.iload_n 3, 1) := by decide +kernel
theorem dL_law_687 : decode cL_law 687 = .ok (.iconst 2, 1) := by decide +kernel
theorem dL_law_688 : decode cL_law 688 = .ok (.iadd, 1) := by decide +kernel
theorem dL_law_689 : decode cL_law 689 = .ok (.iaload, 1) := by decide +kernel
theorem dL_law_690 : decode cL_law 690 = .ok (.invokevirtual 93, 3) := by decide +kernel
theorem dL_law_693 : decode cL_law 693 = .ok (.aload_n 2, 1) := by decide +kernel
theorem dL_law_694 : decode cL_law 694 = .ok (.aload_n 0, 1) := by decide +kernel
theorem dL_law_695 : decode cL_law 695 = .ok (.iload_n 3, 1) := by decide +kernel
theorem dL_law_696 : decode cL_law 696 = .ok (.iconst 1, 1) := by decide +kernel
theorem dL_law_697 : decode cL_law 697 = .ok (.iadd, 1) := by decide +kernel
theorem dL_law_698 : decode cL_law 698 = .ok (.iaload, 1) := by decide +kernel
theorem dL_law_699 : decode cL_law 699 = .ok (.aload_n 0, 1) := by decide +kernel
theorem dL_law_700 : decode cL_law 700 = .ok (.iload_n 3, 1) := by decide +kernel
theorem dL_law_701 : decode cL_law 701 = .ok (.iconst 2, 1) := by decide +kernel
theorem dL_law_702 : decode cL_law 702 = .ok (.iadd, 1) := by decide +kernel
theorem dL_law_703 : decode cL_law 703 = .ok (.iaload, 1) := by decide +kernel
theorem dL_law_704 : decode cL_law 704 = .ok (.invokevirtual 96, 3) := by decide +kernel
theorem dL_law_707 : decode cL_law 707 = .ok (.if_icmp .eq 192, 3) := by decide +kernel
theorem dL_law_710 : decode cL_law 710 = .ok (.iconst 0, 1) := by decide +kernel
theorem dL_law_711 : decode cL_law 711 = .ok (.ireturn, 1) := by decide +kernel
theorem dL_law_712 : decode cL_law 712 = .ok (.aload_n 1, 1) := by decide +kernel
theorem dL_law_713 : decode cL_law 713 = .ok (.aload_n 0, 1) := by decide +kernel
theorem dL_law_714 : decode cL_law 714 = .ok (.iload_n 3, 1) := by decide +kernel
theorem dL_law_715 : decode cL_law 715 = .ok (.iconst 1, 1) := by decide +kernel
theorem dL_law_716 : decode cL_law 716 = .ok (.iadd, 1) := by decide +kernel
theorem dL_law_717 : decode cL_law 717 = .ok (.iaload, 1) := by decide +kernel
theorem dL_law_718 : decode cL_law 718 = .ok (.aload_n 0, 1) := by decide +kernel
theorem dL_law_719 : decode cL_law 719 = .ok (.iload_n 3, 1) := by decide +kernel
theorem dL_law_720 : decode cL_law 720 = .ok (.iconst 2, 1) := by decide +kernel
theorem dL_law_721 : decode cL_law 721 = .ok (.iadd, 1) := by decide +kernel
theorem dL_law_722 : decode cL_law 722 = .ok (.iaload, 1) := by decide +kernel
theorem dL_law_723 : decode cL_law 723 = .ok (.aload_n 0, 1) := by decide +kernel
theorem dL_law_724 : decode cL_law 724 = .ok (.iload_n 3, 1) := by decide +kernel
theorem dL_law_725 : decode cL_law 725 = .ok (.iconst 3, 1) := by decide +kernel
theorem dL_law_726 : decode cL_law 726 = .ok (.iadd, 1) := by decide +kernel
theorem dL_law_727 : decode cL_law 727 = .ok (.iaload, 1) := by decide +kernel
theorem dL_law_728 : decode cL_law 728 = .ok (.ifCond .eq 7, 3) := by decide +kernel
theorem dL_law_731 : decode cL_law 731 = .ok (.iconst 1, 1) := by decide +kernel
theorem dL_law_732 : decode cL_law 732 = .ok (.goto 4, 3) := by decide +kernel
theorem dL_law_735 : decode cL_law 735 = .ok (.iconst 0, 1) := by decide +kernel
theorem dL_law_736 : decode cL_law 736 = .ok (.invokevirtual 97, 3) := by decide +kernel
theorem dL_law_739 : decode cL_law 739 = .ok (.aload_n 2, 1) := by decide +kernel
theorem dL_law_740 : decode cL_law 740 = .ok (.aload_n 0, 1) := by decide +kernel
theorem dL_law_741 : decode cL_law 741 = .ok (.iload_n 3, 1) := by decide +kernel
theorem dL_law_742 : decode cL_law 742 = .ok (.iconst 1, 1) := by decide +kernel
theorem dL_law_743 : decode cL_law 743 = .ok (.iadd, 1) := by decide +kernel
theorem dL_law_744 : decode cL_law 744 = .ok (.iaload, 1) := by decide +kernel
theorem dL_law_745 : decode cL_law 745 = .ok (.aload_n 0, 1) := by decide +kernel
theorem dL_law_746 : decode cL_law 746 = .ok (.iload_n 3, 1) := by decide +kernel
theorem dL_law_747 : decode cL_law 747 = .ok (.iconst 2, 1) := by decide +kernel
theorem dL_law_748 : decode cL_law 748 = .ok (.iadd, 1) := by decide +kernel
theorem dL_law_749 : decode cL_law 749 = .ok (.iaload, 1) := by decide +kernel
theorem dL_law_750 : decode cL_law 750 = .ok (.aload_n 0, 1) := by decide +kernel
theorem dL_law_751 : decode cL_law 751 = .ok (.iload_n 3, 1) := by decide +kernel
theorem dL_law_752 : decode cL_law 752 = .ok (.iconst 3, 1) := by decide +kernel
theorem dL_law_753 : decode cL_law 753 = .ok (.iadd, 1) := by decide +kernel
theorem dL_law_754 : decode cL_law 754 = .ok (.iaload, 1) := by decide +kernel
theorem dL_law_755 : decode cL_law 755 = .ok (.ifCond .eq 7, 3) := by decide +kernel
theorem dL_law_758 : decode cL_law 758 = .ok (.iconst 1, 1) := by decide +kernel
theorem dL_law_759 : decode cL_law 759 = .ok (.goto 4, 3) := by decide +kernel
theorem dL_law_762 : decode cL_law 762 = .ok (.iconst 0, 1) := by decide +kernel
theorem dL_law_763 : decode cL_law 763 = .ok (.invokevirtual 100, 3) := by decide +kernel
theorem dL_law_766 : decode cL_law 766 = .ok (.if_icmp .eq 133, 3) := by decide +kernel
theorem dL_law_769 : decode cL_law 769 = .ok (.iconst 0, 1) := by decide +kernel
theorem dL_law_770 : decode cL_law 770 = .ok (.ireturn, 1) := by decide +kernel
theorem dL_law_771 : decode cL_law 771 = .ok (.aload_n 1, 1) := by decide +kernel
theorem dL_law_772 : decode cL_law 772 = .ok (.aload_n 0, 1) := by decide +kernel
theorem dL_law_773 : decode cL_law 773 = .ok (.iload_n 3, 1) := by decide +kernel
theorem dL_law_774 : decode cL_law 774 = .ok (.iconst 1, 1) := by decide +kernel
theorem dL_law_775 : decode cL_law 775 = .ok (.iadd, 1) := by decide +kernel
theorem dL_law_776 : decode cL_law 776 = .ok (.iaload, 1) := by decide +kernel
theorem dL_law_777 : decode cL_law 777 = .ok (.aload_n 0, 1) := by decide +kernel
theorem dL_law_778 : decode cL_law 778 = .ok (.iload_n 3, 1) := by decide +kernel
theorem dL_law_779 : decode cL_law 779 = .ok (.iconst 2, 1) := by decide +kernel
theorem dL_law_780 : decode cL_law 780 = .ok (.iadd, 1) := by decide +kernel
theorem dL_law_781 : decode cL_law 781 = .ok (.iaload, 1) := by decide +kernel
theorem dL_law_782 : decode cL_law 782 = .ok (.invokevirtual 101, 3) := by decide +kernel
theorem dL_law_785 : decode cL_law 785 = .ok (.aload_n 2, 1) := by decide +kernel
theorem dL_law_786 : decode cL_law 786 = .ok (.aload_n 0, 1) := by decide +kernel
theorem dL_law_787 : decode cL_law 787 = .ok (.iload_n 3, 1) := by decide +kernel
theorem dL_law_788 : decode cL_law 788 = .ok (.iconst 1, 1) := by decide +kernel
theorem dL_law_789 : decode cL_law 789 = .ok (.iadd, 1) := by decide +kernel
theorem dL_law_790 : decode cL_law 790 = .ok (.iaload, 1) := by decide +kernel
theorem dL_law_791 : decode cL_law 791 = .ok (.aload_n 0, 1) := by decide +kernel
theorem dL_law_792 : decode cL_law 792 = .ok (.iload_n 3, 1) := by decide +kernel
theorem dL_law_793 : decode cL_law 793 = .ok (.iconst 2, 1) := by decide +kernel
theorem dL_law_794 : decode cL_law 794 = .ok (.iadd, 1) := by decide +kernel
theorem dL_law_795 : decode cL_law 795 = .ok (.iaload, 1) := by decide +kernel
theorem dL_law_796 : decode cL_law 796 = .ok (.invokevirtual 104, 3) := by decide +kernel
theorem dL_law_799 : decode cL_law 799 = .ok (.if_icmp .eq 100, 3) := by decide +kernel
theorem dL_law_802 : decode cL_law 802 = .ok (.iconst 0, 1) := by decide +kernel
theorem dL_law_803 : decode cL_law 803 = .ok (.ireturn, 1) := by decide +kernel
theorem dL_law_804 : decode cL_law 804 = .ok (.aload_n 1, 1) := by decide +kernel
theorem dL_law_805 : decode cL_law 805 = .ok (.invokevirtual 105, 3) := by decide +kernel
theorem dL_law_808 : decode cL_law 808 = .ok (.aload_n 2, 1) := by decide +kernel
theorem dL_law_809 : decode cL_law 809 = .ok (.invokevirtual 108, 3) := by decide +kernel
theorem dL_law_812 : decode cL_law 812 = .ok (.if_icmp .eq 87, 3) := by decide +kernel
theorem dL_law_815 : decode cL_law 815 = .ok (.iconst 0, 1) := by decide +kernel
theorem dL_law_816 : decode cL_law 816 = .ok (.ireturn, 1) := by decide +kernel
theorem dL_law_817 : decode cL_law 817 = .ok (.aload_n 1, 1) := by decide +kernel
theorem dL_law_818 : decode cL_law 818 = .ok (.invokevirtual 109, 3) := by decide +kernel
theorem dL_law_821 : decode cL_law 821 = .ok (.aload_n 2, 1) := by decide +kernel
theorem dL_law_822 : decode cL_law 822 = .ok (.invokevirtual 112, 3) := by decide +kernel
theorem dL_law_825 : decode cL_law 825 = .ok (.if_icmp .eq 74, 3) := by decide +kernel
theorem dL_law_828 : decode cL_law 828 = .ok (.iconst 0, 1) := by decide +kernel
theorem dL_law_829 : decode cL_law 829 = .ok (.ireturn, 1) := by decide +kernel
theorem dL_law_830 : decode cL_law 830 = .ok (.aload_n 1, 1) := by decide +kernel
theorem dL_law_831 : decode cL_law 831 = .ok (.aload_n 0, 1) := by decide +kernel
theorem dL_law_832 : decode cL_law 832 = .ok (.iload_n 3, 1) := by decide +kernel
theorem dL_law_833 : decode cL_law 833 = .ok (.iconst 1, 1) := by decide +kernel
theorem dL_law_834 : decode cL_law 834 = .ok (.iadd, 1) := by decide +kernel
theorem dL_law_835 : decode cL_law 835 = .ok (.iaload, 1) := by decide +kernel
theorem dL_law_836 : decode cL_law 836 = .ok (.invokevirtual 113, 3) := by decide +kernel
theorem dL_law_839 : decode cL_law 839 = .ok (.aload_n 2, 1) := by decide +kernel
theorem dL_law_840 : decode cL_law 840 = .ok (.aload_n 0, 1) := by decide +kernel
theorem dL_law_841 : decode cL_law 841 = .ok (.iload_n 3, 1) := by decide +kernel
theorem dL_law_842 : decode cL_law 842 = .ok (.iconst 1, 1) := by decide +kernel
theorem dL_law_843 : decode cL_law 843 = .ok (.iadd, 1) := by decide +kernel
theorem dL_law_844 : decode cL_law 844 = .ok (.iaload, 1) := by decide +kernel
theorem dL_law_845 : decode cL_law 845 = .ok (.invokevirtual 116, 3) := by decide +kernel
theorem dL_law_848 : decode cL_law 848 = .ok (.if_icmp .eq 51, 3) := by decide +kernel
theorem dL_law_851 : decode cL_law 851 = .ok (.iconst 0, 1) := by decide +kernel
theorem dL_law_852 : decode cL_law 852 = .ok (.ireturn, 1) := by decide +kernel
theorem dL_law_853 : decode cL_law 853 = .ok (.aload_n 1, 1) := by decide +kernel
theorem dL_law_854 : decode cL_law 854 = .ok (.aload_n 0, 1) := by decide +kernel
theorem dL_law_855 : decode cL_law 855 = .ok (.iload_n 3, 1) := by decide +kernel
theorem dL_law_856 : decode cL_law 856 = .ok (.iconst 1, 1) := by decide +kernel
theorem dL_law_857 : decode cL_law 857 = .ok (.iadd, 1) := by decide +kernel
theorem dL_law_858 : decode cL_law 858 = .ok (.iaload, 1) := by decide +kernel
theorem dL_law_859 : decode cL_law 859 = .ok (.invokevirtual 117, 3) := by decide +kernel
theorem dL_law_862 : decode cL_law 862 = .ok (.aload_n 2, 1) := by decide +kernel
theorem dL_law_863 : decode cL_law 863 = .ok (.aload_n 0, 1) := by decide +kernel
theorem dL_law_864 : decode cL_law 864 = .ok (.iload_n 3, 1) := by decide +kernel
theorem dL_law_865 : decode cL_law 865 = .ok (.iconst 1, 1) := by decide +kernel
theorem dL_law_866 : decode cL_law 866 = .ok (.iadd, 1) := by decide +kernel
theorem dL_law_867 : decode cL_law 867 = .ok (.iaload, 1) := by decide +kernel
theorem dL_law_868 : decode cL_law 868 = .ok (.invokevirtual 120, 3) := by decide +kernel
theorem dL_law_871 : decode cL_law 871 = .ok (.if_icmp .eq 28, 3) := by decide +kernel
theorem dL_law_874 : decode cL_law 874 = .ok (.iconst 0, 1) := by decide +kernel
theorem dL_law_875 : decode cL_law 875 = .ok (.ireturn, 1) := by decide +kernel
theorem dL_law_876 : decode cL_law 876 = .ok (.aload_n 1, 1) := by decide +kernel
theorem dL_law_877 : decode cL_law 877 = .ok (.aload_n 0, 1) := by decide +kernel
theorem dL_law_878 : decode cL_law 878 = .ok (.iload_n 3, 1) := by decide +kernel
theorem dL_law_879 : decode cL_law 879 = .ok (.iconst 1, 1) := by decide +kernel
theorem dL_law_880 : decode cL_law 880 = .ok (.iadd, 1) := by decide +kernel
theorem dL_law_881 : decode cL_law 881 = .ok (.iaload, 1) := by decide +kernel
theorem dL_law_882 : decode cL_law 882 = .ok (.invokevirtual 121, 3) := by decide +kernel
theorem dL_law_885 : decode cL_law 885 = .ok (.aload_n 2, 1) := by decide +kernel
theorem dL_law_886 : decode cL_law 886 = .ok (.aload_n 0, 1) := by decide +kernel
theorem dL_law_887 : decode cL_law 887 = .ok (.iload_n 3, 1) := by decide +kernel
theorem dL_law_888 : decode cL_law 888 = .ok (.iconst 1, 1) := by decide +kernel
theorem dL_law_889 : decode cL_law 889 = .ok (.iadd, 1) := by decide +kernel
theorem dL_law_890 : decode cL_law 890 = .ok (.iaload, 1) := by decide +kernel
theorem dL_law_891 : decode cL_law 891 = .ok (.invokevirtual 124, 3) := by decide +kernel
theorem dL_law_894 : decode cL_law 894 = .ok (.if_icmp .eq 5, 3) := by decide +kernel
theorem dL_law_897 : decode cL_law 897 = .ok (.iconst 0, 1) := by decide +kernel
theorem dL_law_898 : decode cL_law 898 = .ok (.ireturn, 1) := by decide +kernel
theorem dL_law_899 : decode cL_law 899 = .ok (.iinc 3 4, 3) := by decide +kernel
theorem dL_law_902 : decode cL_law 902 = .ok (.goto (-884), 3) := by decide +kernel
theorem dL_law_905 : decode cL_law 905 = .ok (.iconst 1, 1) := by decide +kernel
theorem dL_law_906 : decode cL_law 906 = .ok (.ireturn, 1) := by decide +kernel
end
section
section
/-- ints by cell and place, longs by cell and place -/
abbrev Hp : Type := (Nat → Nat → Int32) × (Nat → Nat → Int64)
def wi (h : Hp) (c k : Nat) (v : Int32) : Hp := (fun c' => if c' = c then upd (h.1 c) k v else h.1 c', h.2)
def wl (h : Hp) (c k : Nat) (v : Int64) : Hp := (h.1, fun c' => if c' = c then vp_updL (h.2 c) k v else h.2 c')
def wc (h : Hp) (c1 c2 n : Nat) : Hp := (fun c' => if c' = c2 then va_cpy (h.1 c1) (h.1 c2) 0 0 n else h.1 c', h.2)
def bI (b : Bool) : Int32 := if b = true then 1 else 0
def fac : Nat → Int32 := fun k => match k with | 0 => 1 | 1 => 1 | 2 => 2 | 3 => 6 | 4 => 24 | _ => 120
/-- the kind of a cell -/
def kd (i : Nat) : Nat := if i < 8 then i else if i < 10 then 8 else if i < 29 then 9 else if i < 37 then 10 else if i < 46 then 11 else if i < 64 then 12 else if i = 64 then 13 else if i = 65 then 14 else if i = 66 then 15 else if i = 89 then 16 else if i < 99 then 12 else 17
/-- the length of a row of ints -/
def al (i : Nat) : Nat := if i < 67 then 11 else match i with | 67 => 240 | 70 => 15 | 71 => 15 | 75 => 25 | 81 => 112 | 82 => 15 | 83 => 15 | 84 => 240 | 87 => 320 | 88 => 40 | 90 => 2 | 92 => 112 | 95 => 25 | _ => 5
def en (cs : Nat → ClassId) (φ : Nat → Nat) (h : Hp) (i : Nat) : va_E := match kd i with
  | 0 => .inr (10, [.ref (φ 1), .int (h.1 i 1), .ref (φ 69), .ref (φ 26), .ref (φ 2), .ref (φ 3), .ref (φ 65), .ref (φ 66), .int (h.1 i 8), .ref (φ 70), .ref (φ 71), .int (h.1 i 11), .ref (φ 45), .ref (φ 4), .ref (φ 5), .ref (φ 6)])
  | 1 => .inr (6, [.ref (φ 67), .int (h.1 i 1), .int (h.1 i 2), .int (h.1 i 3), .int (h.1 i 4), .ref (φ 68), .int (h.1 i 6), .int (h.1 i 7), .int (h.1 i 8), .int (h.1 i 9), .int (h.1 i 10)])
  | 2 => .inr (5, [.ref (φ 64), .int (h.1 i 1), .int (h.1 i 2)])
  | 3 => .inr (0, [.int (h.1 i 0)])
  | 4 => .inr (4, [.ref (φ 72)])
  | 5 => .inr (1, [.int (h.1 i 0), .ref (φ 73), .ref (φ 74), .ref (φ 75)])
  | 6 => .inr (9, [.ref (φ 76)])
  | 7 => .inr (11, [.int (h.1 i 0), .ref (φ 77), .int (h.1 i 2), .int (h.1 i 3), .int (h.1 i 4), .int (h.1 i 5), .int (h.1 i 6), .ref (φ 78), .ref (φ 79), .ref (φ 80), .long (h.2 i 10), .int (h.1 i 11), .ref (φ 81), .int (h.1 i 13), .ref (φ 82), .ref (φ 83), .ref (φ 84), .int (h.1 i 17), .int (h.1 i 18), .int (h.1 i 19), .int (h.1 i 20), .int (h.1 i 21), .int (h.1 i 22), .ref (φ 85), .ref (φ 86), .int (h.1 i 25), .int (h.1 i 26), .ref (φ 87), .int (h.1 i 28), .ref (φ 88), .ref (φ 89), .ref (φ 90), .ref (φ 91), .ref (φ 92), .int (h.1 i 34), .ref (φ 93), .ref (φ 94), .ref (φ 95), .ref (φ 96), .ref (φ 97), .ref (φ 98)])
  | 8 => .inr (2, [.ref (φ (i + 19)), .int (h.1 i 1), .int (h.1 i 2)])
  | 9 => .inr (8, [.int (h.1 i 0), .int (h.1 i 1), .int (h.1 i 2), .int (h.1 i 3), .int (h.1 i 4), .int (h.1 i 5), .int (h.1 i 6), .int (h.1 i 7)])
  | 10 => .inr (7, [.int (h.1 i 0), .int (h.1 i 1), .int (h.1 i 2), .int (h.1 i 3), .int (h.1 i 4), .int (h.1 i 5), .int (h.1 i 6), .ref (φ (i + 8))])
  | 11 => .inr (3, [.ref (φ (i + 9)), .ref (φ (i + 18))])
  | 13 => .inl (cs 2, 16, .inr (.inr (.inr (.inr (fun k => some (φ (10 + k)))))))
  | 14 => .inl (cs 3, 2, .inr (.inr (.inr (.inr (fun k => some (φ (8 + k)))))))
  | 15 => .inl (cs 4, 8, .inr (.inr (.inr (.inr (fun k => some (φ (29 + k)))))))
  | 16 => .inl (cs 1, 2, .inr (.inl (h.2 i)))
  | _ => .inl (cs 0, al i, .inl (h.1 i))
theorem en_c {cs : Nat → ClassId} {φ : Nat → Nat} {h h' : Hp} {i : Nat} (a : h.1 i = h'.1 i) (b : h.2 i = h'.2 i) : en cs φ h i = en cs φ h' i := by simp only [en, a, b]
theorem wi_ne {h : Hp} {c k : Nat} {v : Int32} {i : Nat} (hi : i ≠ c) : (wi h c k v).1 i = h.1 i := by simp [wi, hi]
theorem wi_eq {h : Hp} {c k : Nat} {v : Int32} : (wi h c k v).1 c = upd (h.1 c) k v := by simp [wi]
theorem wi_2 {h : Hp} {c k : Nat} {v : Int32} : (wi h c k v).2 = h.2 := rfl
theorem wl_ne {h : Hp} {c k : Nat} {v : Int64} {i : Nat} (hi : i ≠ c) : (wl h c k v).2 i = h.2 i := by simp [wl, hi]
theorem wl_eq {h : Hp} {c k : Nat} {v : Int64} : (wl h c k v).2 c = vp_updL (h.2 c) k v := by simp [wl]
theorem wl_1 {h : Hp} {c k : Nat} {v : Int64} : (wl h c k v).1 = h.1 := rfl
theorem wc_ne {h : Hp} {c1 c2 n i : Nat} (hi : i ≠ c2) : (wc h c1 c2 n).1 i = h.1 i := by simp [wc, hi]
theorem wc_eq {h : Hp} {c1 c2 n : Nat} : (wc h c1 c2 n).1 c2 = va_cpy (h.1 c1) (h.1 c2) 0 0 n := by simp [wc]
theorem wc_2 {h : Hp} {c1 c2 n : Nat} : (wc h c1 c2 n).2 = h.2 := rfl
def tys (cs : Nat → ClassId) : List (ClassId × FieldType) := [(cs 0, .int), (cs 1, .long), (cs 2, .object "FarEnds$State"), (cs 3, .object "FarEnds$Image"), (cs 4, .object "FarEnds$Seen")]
def wlst (cs : Nat → ClassId) (φ : Nat → Nat) (h : Hp) : va_W := (List.range 99).map (fun i => (φ i, en cs φ h i))
def Wh (D : va_G) (cs : Nat → ClassId) (φ : Nat → Nat) (h : Hp) (H : Heap) : Prop := va_P D vwCl (wlst cs φ h) H
def inj (φ : Nat → Nat) : Prop := ∀ i j, i < 99 → j < 99 → φ i = φ j → i = j
theorem wl_get {cs : Nat → ClassId} {φ : Nat → Nat} {h : Hp} {r : Nat} (hr : r < 99) : (wlst cs φ h)[r]? = some (φ r, en cs φ h r) := by simp [wlst, hr]
theorem wl_len {cs : Nat → ClassId} {φ : Nat → Nat} {h : Hp} : (wlst cs φ h).length = 99 := by simp [wlst]
theorem wl_none {cs : Nat → ClassId} {φ : Nat → Nat} {h : Hp} {r : Nat} (hr : ¬ r < 99) : (wlst cs φ h)[r]? = none := by simp [wlst]; omega
theorem wl_lt {cs : Nat → ClassId} {φ : Nat → Nat} {h : Hp} {r : Nat} {q : Nat × va_E} (hq : (wlst cs φ h)[r]? = some q) : r < 99 ∧ q = (φ r, en cs φ h r) := by
  by_cases hr : r < 99
  · rw [wl_get hr] at hq; exact ⟨hr, (Option.some.inj hq).symm⟩
  · rw [wl_none hr] at hq; cases hq
theorem wl_set {cs : Nat → ClassId} {φ : Nat → Nat} {h h' : Hp} {r : Nat} {e : va_E} (he : en cs φ h' r = e) (ho : ∀ i, i ≠ r → en cs φ h' i = en cs φ h i) : (wlst cs φ h).set r (φ r, e) = wlst cs φ h' := by
  subst he
  apply List.ext_getElem?
  intro i
  by_cases hi : i < 99
  · by_cases hr : i = r
    · subst hr
      rw [List.getElem?_set_self (by rw [wl_len]; exact hi), wl_get hi]
    · rw [List.getElem?_set_ne (Ne.symm hr), wl_get hi, wl_get hi, ho i hr]
  · rw [wl_none hi, List.getElem?_eq_none_iff.mpr (by rw [List.length_set, wl_len]; omega)]
theorem wl_D {cs : Nat → ClassId} {φ : Nat → Nat} {h : Hp} {A : Nat → Prop} (hi : inj φ) (hA : ∀ i, i < 99 → A (φ i)) : va_D A (wlst cs φ h) := by
  refine ⟨fun i j p q hp hq e => ?_, fun k q hq => ?_⟩
  · obtain ⟨h1, rfl⟩ := wl_lt hp
    obtain ⟨h2, rfl⟩ := wl_lt hq
    exact hi i j h1 h2 e
  · obtain ⟨h1, rfl⟩ := wl_lt hq
    exact hA k h1
def isNest : Cond → Bool
  | .methodLinkNest .. => true
  | _ => false
def lw_n : List Cond := tables_1.filter isNest
def lw_g : List Cond := lw_tbl.filter goodWord
theorem lw_n_is {w : Cond} (h : w ∈ lw_n) : ∃ a i x b, w = .methodLinkNest a i x b := by
  have h2 := (List.mem_filter.mp h).2
  cases w <;> first | exact ⟨_, _, _, _, rfl⟩ | cases h2
theorem lw_g_good {w : Cond} (h : w ∈ lw_g) : (w.onTables && w.keeps) = true ∨ ∃ ty, w = .arrayClass ty := good_of_word (List.mem_filter.mp h).2
def Af (φ : Nat → Nat) : Nat → Prop := fun q => ∃ i, i < 99 ∧ q = φ i
def Cx (D : va_G) (cs : Nat → ClassId) (φ : Nat → Nat) (A : Nat → Prop) (U : State) : Prop := va_K D vwCl (tys cs) U ∧ inj φ ∧ (∀ w ∈ lw_n, va_Nw w U) ∧ va_Z "FarEnds" "FACTORIAL" "[I" (.ref (φ 99)) A U U.heap ∧ va_X (φ 99) 6 fac U U.heap ∧ φ 99 < U.heap.size ∧ ¬ A (φ 99)
def Wd (D : va_G) (cs : Nat → ClassId) (φ : Nat → Nat) (h : Hp) (U : State) : Prop := Wh D cs φ h U.heap ∧ Cx D cs φ (Af φ) U
theorem Cx_calling {D : va_G} {cs : Nat → ClassId} {φ : Nat → Nat} {A : Nat → Prop} {U : State} {g : JFrame} {mk : MethodId} {a : Array Value} (h : Cx D cs φ A U) : Cx D cs φ A (U.calling g mk a) := by
  obtain ⟨h1, h2, h3, h4, h5, h6, h7⟩ := h
  refine ⟨va_K.moved (u := U) (Vm.Alike.refl U.vm) h1, h2, fun w hw => ?_, va_Z.moved (u := U) (U := U.calling g mk a) (Vm.Alike.refl U.vm) h4, va_X.moved (u := U) (U := U.calling g mk a) (Vm.Alike.refl U.vm) h5, h6, h7⟩
  obtain ⟨x1, x2, x3, x4, rfl⟩ := lw_n_is hw
  exact va_Nw.same rfl rfl (h3 _ hw)
theorem Cx_call {D : va_G} {cs : Nat → ClassId} {φ : Nat → Nat} {A : Nat → Prop} {s U : State} {H : Heap} {locs : List Loc} (h : Cx D cs φ A s) (hA : ∀ i, i < 99 → A (φ i)) (hS : va_S A s.heap H locs) (hU : U.heap = H) (hW : s.WarmedH U.vm) : Cx D cs φ (Af φ) U := by
  obtain ⟨h1, h2, h3, h4, h5, h6, h7⟩ := h
  have hAf : ∀ q, Af φ q → A q := fun q ⟨i, hi, e⟩ => by rw [e]; exact hA i hi
  refine ⟨va_K.moved hW.alike h1, h2, fun w hw => ?_, ?_, ?_, ?_, fun q => h7 (hAf _ q)⟩
  · obtain ⟨x1, x2, x3, x4, rfl⟩ := lw_n_is hw
    exact va_Nw.warmM hW (h3 _ hw)
  · rw [hU]
    exact ((h4.moved hW.alike).kept (H1 := H) hS.2.1).narrow hAf
  · rw [hU]
    exact (h5.moved hW.alike).kept (hS.2.1 _ h6 h7)
  · rw [hU]
    exact Nat.lt_of_lt_of_le h6 hS.1
theorem Wd_calling {D : va_G} {cs : Nat → ClassId} {φ : Nat → Nat} {h : Hp} {U : State} {g : JFrame} {mk : MethodId} {a : Array Value} (q : Wd D cs φ h U) : Wd D cs φ h (U.calling g mk a) := ⟨q.1, Cx_calling q.2⟩
/-- a method: name, code, places, answer, room -/
abbrev Mi : Type := MethodName × ByteArray × Nat × Option FieldType × Room
def QcP (D : va_G) (cs : Nat → ClassId) (φ : Nat → Nat) (post : Option Value → Hp → Prop) : Array Value → State → Outcome → State → Prop := fun _ st oc t => (∃ (r : Option Value) (h' : Hp), oc = .returned r ∧ post r h' ∧ Wh D cs φ h' t.heap) ∧ va_F (Af φ) st t
def wsM (M : Mi) : List Cond := .code M.1 M.2.1 M.2.2.1 M.2.2.2.1 :: lw_g
/-- a method's contract: from the heap h it answers, and leaves a heap, as post says; no cell is made, none but the world's changes -/
def Ct (l : Launch) (D : va_G) (cs : Nat → ClassId) (φ : Nat → Nat) (M : Mi) (av : List Value) (h : Hp) (post : Option Value → Hp → Prop) : Prop :=
  Met l M.1 (wsM M) M.2.2.2.2 (va_Pc av (fun U => Wd D cs φ h U)) (QcP D cs φ post) 0 0 (Af φ)
def asl : Nat → List (Option Value) → List (Nat × Value)
  | _, [] => []
  | n, none :: r => asl (n + 1) r
  | n, some v :: r => (n, v) :: asl (n + 1) r
theorem asl_in {lc : List (Option Value)} : ∀ {n i : Nat} {v : Value}, lc[i]? = some (some v) → (n + i, v) ∈ asl n lc := by
  induction lc with
  | nil => intro n i v h; simp at h
  | cons a r ih =>
    intro n i v h
    cases i with
    | zero =>
      simp at h
      subst h
      simp [asl]
    | succ i =>
      have h2 := ih (n := n + 1) (i := i) (v := v) (by simpa using h)
      rw [Nat.add_right_comm, Nat.add_assoc] at h2
      cases a with
      | none => exact h2
      | some a => exact List.mem_cons_of_mem _ h2
theorem asl_of {lc : List (Option Value)} : ∀ {n : Nat} {q : Nat × Value}, q ∈ asl n lc → ∃ i, q.1 = n + i ∧ lc[i]? = some (some q.2) := by
  induction lc with
  | nil => intro n q h; cases h
  | cons a r ih =>
    intro n q h
    cases a with
    | none =>
      obtain ⟨i, h1, h2⟩ := ih h
      exact ⟨i + 1, by omega, by simpa using h2⟩
    | some a =>
      rcases List.mem_cons.mp h with h | h
      · subst h; exact ⟨0, rfl, rfl⟩
      · obtain ⟨i, h1, h2⟩ := ih h
        exact ⟨i + 1, by omega, by simpa using h2⟩
theorem as_at {ls : Array Slot} {nL : Nat} {lc : List (Option Value)} (h : lv_has ls nL (asl 0 lc)) {i : Nat} {v : Value} (hi : lc[i]? = some (some v)) : ls[i]? = some (.val v) := by
  have h1 := h.2.2 _ (asl_in (n := 0) hi)
  simpa using h1
def stOk (lc : List (Option Value)) : Nat → Bool
  | 0 => true
  | i + 1 => match lc[i]? with
    | some (some v) => v.category != 2
    | _ => true
theorem as_set {ls : Array Slot} {nL i : Nat} {lc : List (Option Value)} {v : Value} (hk : stOk lc i = true) (h : lv_has ls nL ((i, v) :: (asl 0 lc).filter (fun q => !(q.1 == i) && !(q.1 + 1 == i && q.2.category == 2)))) : lv_has ls nL (asl 0 (lc.set i (some v))) := by
  refine ⟨h.1, h.2.1, fun q hq => ?_⟩
  obtain ⟨j, h1, h2⟩ := asl_of hq
  rw [Nat.zero_add] at h1
  apply h.2.2
  by_cases e : j = i
  · subst e
    have hl : j < lc.length := by
      have := (List.getElem?_eq_some_iff.mp h2).1
      simpa using this
    rw [List.getElem?_set_self hl] at h2
    have e2 : q = (j, v) := by
      obtain ⟨q1, q2⟩ := q
      simp at h1 h2
      rw [h1, h2]
    rw [e2]; exact List.mem_cons_self
  · rw [List.getElem?_set_ne (Ne.symm e)] at h2
    apply List.mem_cons_of_mem
    apply List.mem_filter.mpr
    refine ⟨?_, ?_⟩
    · have := asl_in (n := 0) h2
      rw [Nat.zero_add, ← h1] at this
      exact this
    · simp only [h1, Bool.and_eq_true, Bool.not_eq_true', beq_eq_false_iff_ne, ne_eq, Bool.and_eq_false_iff]
      refine ⟨e, ?_⟩
      by_cases e2 : j + 1 = i
      · right
        subst e2
        simpa [stOk, h2] using hk
      · left; simpa using e2
theorem as_set2 {ls : Array Slot} {nL i : Nat} {lc : List (Option Value)} {v : Value} (hk : stOk lc i = true) (h : lv_has ls nL ((i, v) :: (asl 0 lc).filter (fun q => !(q.1 == i) && (!(q.1 == i + 1) && !(q.1 + 1 == i && q.2.category == 2))))) : lv_has ls nL (asl 0 ((lc.set i (some v)).set (i + 1) none)) := by
  refine ⟨h.1, h.2.1, fun q hq => ?_⟩
  obtain ⟨j, h1, h2⟩ := asl_of hq
  rw [Nat.zero_add] at h1
  apply h.2.2
  by_cases e0 : j = i + 1
  · subst e0
    by_cases hl : i + 1 < (lc.set i (some v)).length
    · rw [List.getElem?_set_self hl] at h2; cases h2
    · rw [List.getElem?_eq_none_iff.mpr (by simp at hl ⊢; omega)] at h2; cases h2
  rw [List.getElem?_set_ne (Ne.symm e0)] at h2
  by_cases e : j = i
  · subst e
    have hl : j < lc.length := by
      have := (List.getElem?_eq_some_iff.mp h2).1
      simpa using this
    rw [List.getElem?_set_self hl] at h2
    have e2 : q = (j, v) := by
      obtain ⟨q1, q2⟩ := q
      simp at h1 h2
      rw [h1, h2]
    rw [e2]; exact List.mem_cons_self
  · rw [List.getElem?_set_ne (Ne.symm e)] at h2
    apply List.mem_cons_of_mem
    apply List.mem_filter.mpr
    refine ⟨?_, ?_⟩
    · have := asl_in (n := 0) h2
      rw [Nat.zero_add, ← h1] at this
      exact this
    · simp only [h1, Bool.and_eq_true, Bool.not_eq_true', beq_eq_false_iff_ne, ne_eq, Bool.and_eq_false_iff]
      refine ⟨e, e0, ?_⟩
      by_cases e2 : j + 1 = i
      · right
        subst e2
        simpa [stOk, h2] using hk
      · left; simpa using e2
def Vw (p : Program) (l : Launch) (e : Env) (R : Room) (s : State) (m : MethodId) (args : Array Value) (below : List Frame) (meth : Method) (c : Code) (D : va_G) (cs : Nat → ClassId) (φ : Nat → Nat) (A : Nat → Prop) (nL cells slots : Nat) (Q : State → Prop) (pc : Nat) (lc : List (Option Value)) (st : List Value) (h : Hp) : Prop :=
  ∀ (H : Heap) (locs : List Loc) (ls : Array Slot), Wh D cs φ h H → va_S A s.heap H locs → lv_has ls nL (asl 0 lc) → W p l e R s m args below meth c H locs cells slots Q (F0 m pc ls st)
/-- V is a judgement of the machine in a method of class own with code cc: place, locals, stack, heap -/
def Ru (l : Launch) (D : va_G) (cs : Nat → ClassId) (φ : Nat → Nat) (own : String) (cc : ByteArray) (nL fr lo : Nat) (V : Nat → List (Option Value) → List Value → Hp → Prop) : Prop :=
  ∃ (p : Program) (e : Env) (R : Room) (s : State) (m : MethodId) (args : Array Value) (below : List Frame) (meth : Method) (c : Code) (A : Nat → Prop) (cells slots : Nat) (Q : State → Prop),
    p.tables.exec = Jvm.exec ∧ c.code = cc ∧ c.maxLocals = nL ∧ s.vm.findClass own = some m.cls ∧ (∀ w ∈ lw_g, w.before args s = true) ∧ Cx D cs φ A s ∧ (∀ i, i < 99 → A (φ i)) ∧ R.frames = fr ∧ R.locals = lo ∧ cells ≤ R.cells ∧ slots ≤ R.slots ∧ V = Vw p l e R s m args below meth c D cs φ A nL cells slots Q
theorem Ct.of {l : Launch} {D : va_G} {cs : Nat → ClassId} {φ : Nat → Nat} {M : Mi} {av : List Value} {h : Hp} {post : Option Value → Hp → Prop} (lc : List (Option Value)) (own : String) (fr lo : Nat) (ho : own = M.1.cls) (hy : plainName M.1.cls = true) (hl : asl 0 lc = lv_args 0 av) (hn : (lg_sl av).length ≤ M.2.2.1) (hfr : M.2.2.2.2.frames = fr) (hlo : M.2.2.2.2.locals = lo)
    (body : ∀ V : Nat → List (Option Value) → List Value → Hp → Prop, Ru l D cs φ own M.2.1 M.2.2.1 fr lo V →
      (∀ pc lc v ty h', M.2.2.2.1 = some ty → narrow ty (.int v) = .int v → decode M.2.1 pc = .ok (.ireturn, 1) → post (some (.int v)) h' → V pc lc [.int v] h') →
      (∀ pc lc h', M.2.2.2.1 = none → decode M.2.1 pc = .ok (.return_, 1) → post none h' → V pc lc [] h') → V 0 lc [] h) : Ct l D cs φ M av h post := by
  obtain ⟨y, cc, maxL, ret, rm⟩ := M
  dsimp only at ho hy hn hfr hlo body
  refine Met.ofW (cc := cc) (maxL := maxL) (ret := ret) hy rfl ?_
  intro p e s m args below meth c s₁ B hml hv
  obtain ⟨rfl, hWh, hCx⟩ := hv
  have hts := atoms_spec (ws := wsM (y, cc, maxL, ret, rm)) B.pre
  have hown : s.vm.findClass own = some m.cls := by rw [ho]; exact findClass_of_methodNamed B.named
  have hlocks := B.notSynchronized
  have K := body (Vw p l e (headSpec (wsM (y, cc, maxL, ret, rm)) rm).room s m av.toArray below meth c D cs φ (Af φ) maxL 0 0 (MQ below (QcP D cs φ post) av.toArray s 0 0 (Af φ))) ⟨p, e, _, s, m, av.toArray, below, meth, c, Af φ, 0, 0, _, B.exec, B.bytes, hml, hown, fun w hw => hts w (List.mem_cons_of_mem _ hw), hCx, fun i hi => ⟨i, hi, rfl⟩, hfr, hlo, Nat.zero_le _, Nat.zero_le _, rfl⟩
    (fun pc lc v ty h' e1 e2 hd hp H locs ls hW hS hl => W.zret (ty := ty) B.exec B.bytes (B.returns.trans e1) e2 (fun t ht _ => ⟨⟨_, h', rfl, hp, by rw [ht]; exact hW⟩, hS.F ht⟩) hS.2.2 hd)
    (fun pc lc h' e1 hd hp H locs ls hW hS hl => W.vret B.exec B.bytes (B.returns.trans e1) (fun t ht _ => ⟨⟨_, h', rfl, hp, by rw [ht]; exact hW⟩, hS.F ht⟩) hS.2.2 hd)
  rw [lg_entry_eq]
  exact K s.heap [] _ hWh va_S.rf (by rw [hl]; exact lv_entry av hn)
end
end
section
section
variable {l : Launch} {D : va_G} {cs : Nat → ClassId} {φ : Nat → Nat} {own : String} {cc : ByteArray} {nL fr lo : Nat} {V : Nat → List (Option Value) → List Value → Hp → Prop} {pc : Nat} {lc : List (Option Value)} {st : List Value} {h : Hp}
theorem v_iadd (R : Ru l D cs φ own cc nL fr lo V) {x y : Int32} (d : decode cc pc = .ok (.iadd, 1)) (k : V (pc + 1) lc (.int (x + y) :: st) h) : V pc lc (.int y :: .int x :: st) h := by
  obtain ⟨p, e, Rm, s, m, args, below, meth, c, A, cells, slots, Q, hx, hb, hml, hown, hts, hC, hA, hfr, hlo, hce, hsl, rfl⟩ := R
  exact fun H locs ls hW hS hl => lv_iadd hx hb d (k H locs ls hW hS hl)
theorem v_isub (R : Ru l D cs φ own cc nL fr lo V) {x y : Int32} (d : decode cc pc = .ok (.isub, 1)) (k : V (pc + 1) lc (.int (x - y) :: st) h) : V pc lc (.int y :: .int x :: st) h := by
  obtain ⟨p, e, Rm, s, m, args, below, meth, c, A, cells, slots, Q, hx, hb, hml, hown, hts, hC, hA, hfr, hlo, hce, hsl, rfl⟩ := R
  exact fun H locs ls hW hS hl => lv_isub hx hb d (k H locs ls hW hS hl)
theorem v_imul (R : Ru l D cs φ own cc nL fr lo V) {x y : Int32} (d : decode cc pc = .ok (.imul, 1)) (k : V (pc + 1) lc (.int (x * y) :: st) h) : V pc lc (.int y :: .int x :: st) h := by
  obtain ⟨p, e, Rm, s, m, args, below, meth, c, A, cells, slots, Q, hx, hb, hml, hown, hts, hC, hA, hfr, hlo, hce, hsl, rfl⟩ := R
  exact fun H locs ls hW hS hl => lv_imul hx hb d (k H locs ls hW hS hl)
theorem v_iand (R : Ru l D cs φ own cc nL fr lo V) {x y : Int32} (d : decode cc pc = .ok (.iand, 1)) (k : V (pc + 1) lc (.int (x &&& y) :: st) h) : V pc lc (.int y :: .int x :: st) h := by
  obtain ⟨p, e, Rm, s, m, args, below, meth, c, A, cells, slots, Q, hx, hb, hml, hown, hts, hC, hA, hfr, hlo, hce, hsl, rfl⟩ := R
  exact fun H locs ls hW hS hl => lv_iand hx hb d (k H locs ls hW hS hl)
theorem v_ior (R : Ru l D cs φ own cc nL fr lo V) {x y : Int32} (d : decode cc pc = .ok (.ior, 1)) (k : V (pc + 1) lc (.int (x ||| y) :: st) h) : V pc lc (.int y :: .int x :: st) h := by
  obtain ⟨p, e, Rm, s, m, args, below, meth, c, A, cells, slots, Q, hx, hb, hml, hown, hts, hC, hA, hfr, hlo, hce, hsl, rfl⟩ := R
  exact fun H locs ls hW hS hl => lv_ior hx hb d (k H locs ls hW hS hl)
theorem v_ixor (R : Ru l D cs φ own cc nL fr lo V) {x y : Int32} (d : decode cc pc = .ok (.ixor, 1)) (k : V (pc + 1) lc (.int (x ^^^ y) :: st) h) : V pc lc (.int y :: .int x :: st) h := by
  obtain ⟨p, e, Rm, s, m, args, below, meth, c, A, cells, slots, Q, hx, hb, hml, hown, hts, hC, hA, hfr, hlo, hce, hsl, rfl⟩ := R
  exact fun H locs ls hW hS hl => lv_ixor hx hb d (k H locs ls hW hS hl)
theorem v_ishl (R : Ru l D cs φ own cc nL fr lo V) {x y : Int32} (d : decode cc pc = .ok (.ishl, 1)) (k : V (pc + 1) lc (.int (x <<< (y &&& 31)) :: st) h) : V pc lc (.int y :: .int x :: st) h := by
  obtain ⟨p, e, Rm, s, m, args, below, meth, c, A, cells, slots, Q, hx, hb, hml, hown, hts, hC, hA, hfr, hlo, hce, hsl, rfl⟩ := R
  exact fun H locs ls hW hS hl => lv_ishl hx hb d (k H locs ls hW hS hl)
theorem v_ishr (R : Ru l D cs φ own cc nL fr lo V) {x y : Int32} (d : decode cc pc = .ok (.ishr, 1)) (k : V (pc + 1) lc (.int (x >>> (y &&& 31)) :: st) h) : V pc lc (.int y :: .int x :: st) h := by
  obtain ⟨p, e, Rm, s, m, args, below, meth, c, A, cells, slots, Q, hx, hb, hml, hown, hts, hC, hA, hfr, hlo, hce, hsl, rfl⟩ := R
  exact fun H locs ls hW hS hl => lv_ishr hx hb d (k H locs ls hW hS hl)
theorem v_iushr (R : Ru l D cs φ own cc nL fr lo V) {x y : Int32} (d : decode cc pc = .ok (.iushr, 1)) (k : V (pc + 1) lc (.int ((x.toUInt32 >>> (y.toUInt32 &&& Int32.toUInt32 31)).toInt32) :: st) h) : V pc lc (.int y :: .int x :: st) h := by
  obtain ⟨p, e, Rm, s, m, args, below, meth, c, A, cells, slots, Q, hx, hb, hml, hown, hts, hC, hA, hfr, hlo, hce, hsl, rfl⟩ := R
  exact fun H locs ls hW hS hl => lv_iushr hx hb d rfl (k H locs ls hW hS hl)
theorem v_idiv (R : Ru l D cs φ own cc nL fr lo V) {x y : Int32} (d : decode cc pc = .ok (.idiv, 1)) (hne : ¬ y = 0) (k : V (pc + 1) lc (.int (x / y) :: st) h) : V pc lc (.int y :: .int x :: st) h := by
  obtain ⟨p, e, Rm, s, m, args, below, meth, c, A, cells, slots, Q, hx, hb, hml, hown, hts, hC, hA, hfr, hlo, hce, hsl, rfl⟩ := R
  exact fun H locs ls hW hS hl => lv_idiv hx hb d hne (k H locs ls hW hS hl)
theorem v_irem (R : Ru l D cs φ own cc nL fr lo V) {x y : Int32} (d : decode cc pc = .ok (.irem, 1)) (hne : ¬ y = 0) (k : V (pc + 1) lc (.int (x - x / y * y) :: st) h) : V pc lc (.int y :: .int x :: st) h := by
  obtain ⟨p, e, Rm, s, m, args, below, meth, c, A, cells, slots, Q, hx, hb, hml, hown, hts, hC, hA, hfr, hlo, hce, hsl, rfl⟩ := R
  exact fun H locs ls hW hS hl => lv_irem hx hb d hne (k H locs ls hW hS hl)
theorem v_ladd (R : Ru l D cs φ own cc nL fr lo V) {x y : Int64} (d : decode cc pc = .ok (.ladd, 1)) (k : V (pc + 1) lc (.long (x + y) :: st) h) : V pc lc (.long y :: .long x :: st) h := by
  obtain ⟨p, e, Rm, s, m, args, below, meth, c, A, cells, slots, Q, hx, hb, hml, hown, hts, hC, hA, hfr, hlo, hce, hsl, rfl⟩ := R
  exact fun H locs ls hW hS hl => lv_ladd hx hb d (k H locs ls hW hS hl)
theorem v_lmul (R : Ru l D cs φ own cc nL fr lo V) {x y : Int64} (d : decode cc pc = .ok (.lmul, 1)) (k : V (pc + 1) lc (.long (x * y) :: st) h) : V pc lc (.long y :: .long x :: st) h := by
  obtain ⟨p, e, Rm, s, m, args, below, meth, c, A, cells, slots, Q, hx, hb, hml, hown, hts, hC, hA, hfr, hlo, hce, hsl, rfl⟩ := R
  exact fun H locs ls hW hS hl => lv_lmul hx hb d (k H locs ls hW hS hl)
theorem v_land (R : Ru l D cs φ own cc nL fr lo V) {x y : Int64} (d : decode cc pc = .ok (.land, 1)) (k : V (pc + 1) lc (.long (x &&& y) :: st) h) : V pc lc (.long y :: .long x :: st) h := by
  obtain ⟨p, e, Rm, s, m, args, below, meth, c, A, cells, slots, Q, hx, hb, hml, hown, hts, hC, hA, hfr, hlo, hce, hsl, rfl⟩ := R
  exact fun H locs ls hW hS hl => lv_land hx hb d (k H locs ls hW hS hl)
theorem v_ldiv (R : Ru l D cs φ own cc nL fr lo V) {x y : Int64} (d : decode cc pc = .ok (.ldiv, 1)) (hne : ¬ y = 0) (k : V (pc + 1) lc (.long (x / y) :: st) h) : V pc lc (.long y :: .long x :: st) h := by
  obtain ⟨p, e, Rm, s, m, args, below, meth, c, A, cells, slots, Q, hx, hb, hml, hown, hts, hC, hA, hfr, hlo, hce, hsl, rfl⟩ := R
  exact fun H locs ls hW hS hl => lv_ldiv hx hb d hne (k H locs ls hW hS hl)
theorem v_lrem (R : Ru l D cs φ own cc nL fr lo V) {x y : Int64} (d : decode cc pc = .ok (.lrem, 1)) (hne : ¬ y = 0) (k : V (pc + 1) lc (.long (x - x / y * y) :: st) h) : V pc lc (.long y :: .long x :: st) h := by
  obtain ⟨p, e, Rm, s, m, args, below, meth, c, A, cells, slots, Q, hx, hb, hml, hown, hts, hC, hA, hfr, hlo, hce, hsl, rfl⟩ := R
  exact fun H locs ls hW hS hl => lv_lrem hx hb d hne (k H locs ls hW hS hl)
theorem v_i2l (R : Ru l D cs φ own cc nL fr lo V) {x : Int32} (d : decode cc pc = .ok (.i2l, 1)) (k : V (pc + 1) lc (.long x.toInt64 :: st) h) : V pc lc (.int x :: st) h := by
  obtain ⟨p, e, Rm, s, m, args, below, meth, c, A, cells, slots, Q, hx, hb, hml, hown, hts, hC, hA, hfr, hlo, hce, hsl, rfl⟩ := R
  exact fun H locs ls hW hS hl => lv_i2l hx hb d rfl (k H locs ls hW hS hl)
theorem v_l2i (R : Ru l D cs φ own cc nL fr lo V) {x : Int64} (d : decode cc pc = .ok (.l2i, 1)) (k : V (pc + 1) lc (.int x.toInt32 :: st) h) : V pc lc (.long x :: st) h := by
  obtain ⟨p, e, Rm, s, m, args, below, meth, c, A, cells, slots, Q, hx, hb, hml, hown, hts, hC, hA, hfr, hlo, hce, hsl, rfl⟩ := R
  exact fun H locs ls hW hS hl => lv_l2i hx hb d rfl (k H locs ls hW hS hl)
theorem v_iconst (R : Ru l D cs φ own cc nL fr lo V) {n : Int} {v : Int32} (d : decode cc pc = .ok (.iconst n, 1)) (hv : Int32.ofInt n = v) (k : V (pc + 1) lc (.int v :: st) h) : V pc lc (st) h := by
  obtain ⟨p, e, Rm, s, m, args, below, meth, c, A, cells, slots, Q, hx, hb, hml, hown, hts, hC, hA, hfr, hlo, hce, hsl, rfl⟩ := R
  exact fun H locs ls hW hS hl => lv_iconst hx hb d hv (k H locs ls hW hS hl)
theorem v_bipush (R : Ru l D cs φ own cc nL fr lo V) {n : Int} {v : Int32} (d : decode cc pc = .ok (.bipush n, 2)) (hv : (Int8.ofInt n).toInt32 = v) (k : V (pc + 2) lc (.int v :: st) h) : V pc lc (st) h := by
  obtain ⟨p, e, Rm, s, m, args, below, meth, c, A, cells, slots, Q, hx, hb, hml, hown, hts, hC, hA, hfr, hlo, hce, hsl, rfl⟩ := R
  exact fun H locs ls hW hS hl => lv_bipush hx hb d hv (k H locs ls hW hS hl)
theorem v_sipush (R : Ru l D cs φ own cc nL fr lo V) {n : Int} {v : Int32} (d : decode cc pc = .ok (.sipush n, 3)) (hv : (Int16.ofInt n).toInt32 = v) (k : V (pc + 3) lc (.int v :: st) h) : V pc lc (st) h := by
  obtain ⟨p, e, Rm, s, m, args, below, meth, c, A, cells, slots, Q, hx, hb, hml, hown, hts, hC, hA, hfr, hlo, hce, hsl, rfl⟩ := R
  exact fun H locs ls hW hS hl => lv_sipush hx hb d hv (k H locs ls hW hS hl)
theorem v_ldc (R : Ru l D cs φ own cc nL fr lo V) {n : Nat} {v : Int32} (d : decode cc pc = .ok (.ldc n, 2)) (hm : Cond.constant own n v ∈ lw_g) (k : V (pc + 2) lc (.int v :: st) h) : V pc lc (st) h := by
  obtain ⟨p, e, Rm, s, m, args, below, meth, c, A, cells, slots, Q, hx, hb, hml, hown, hts, hC, hA, hfr, hlo, hce, hsl, rfl⟩ := R
  exact fun H locs ls hW hS hl => lv_ldc hx hb hown (hts _ hm) d (k H locs ls hW hS hl)
theorem v_ldcw (R : Ru l D cs φ own cc nL fr lo V) {n : Nat} {v : Int32} (d : decode cc pc = .ok (.ldc_w n, 3)) (hm : Cond.constant own n v ∈ lw_g) (k : V (pc + 3) lc (.int v :: st) h) : V pc lc (st) h := by
  obtain ⟨p, e, Rm, s, m, args, below, meth, c, A, cells, slots, Q, hx, hb, hml, hown, hts, hC, hA, hfr, hlo, hce, hsl, rfl⟩ := R
  exact fun H locs ls hW hS hl => lv_ldcw hx hb hown (hts _ hm) d (k H locs ls hW hS hl)
theorem v_ldc2 (R : Ru l D cs φ own cc nL fr lo V) {n : Nat} {v : Int64} (d : decode cc pc = .ok (.ldc2_w n, 3)) (hm : Cond.constantLong own n v ∈ lw_g) (k : V (pc + 3) lc (.long v :: st) h) : V pc lc (st) h := by
  obtain ⟨p, e, Rm, s, m, args, below, meth, c, A, cells, slots, Q, hx, hb, hml, hown, hts, hC, hA, hfr, hlo, hce, hsl, rfl⟩ := R
  exact fun H locs ls hW hS hl => lv_ldc2 hx hb hown (hts _ hm) d (k H locs ls hW hS hl)
theorem v_dup (R : Ru l D cs φ own cc nL fr lo V) {a : Value} (d : decode cc pc = .ok (.dup, 1)) (ha : a.category = 1) (k : V (pc + 1) lc (a :: a :: st) h) : V pc lc (a :: st) h := by
  obtain ⟨p, e, Rm, s, m, args, below, meth, c, A, cells, slots, Q, hx, hb, hml, hown, hts, hC, hA, hfr, hlo, hce, hsl, rfl⟩ := R
  exact fun H locs ls hW hS hl => lv_dup hx hb d ha (k H locs ls hW hS hl)
theorem v_dup2 (R : Ru l D cs φ own cc nL fr lo V) {a b : Value} (d : decode cc pc = .ok (.dup2, 1)) (ha : a.category = 1) (hb2 : b.category = 1) (k : V (pc + 1) lc (a :: b :: a :: b :: st) h) : V pc lc (a :: b :: st) h := by
  obtain ⟨p, e, Rm, s, m, args, below, meth, c, A, cells, slots, Q, hx, hb, hml, hown, hts, hC, hA, hfr, hlo, hce, hsl, rfl⟩ := R
  exact fun H locs ls hW hS hl => lv_dup2_11 hx hb d ha hb2 (k H locs ls hW hS hl)
theorem v_pop (R : Ru l D cs φ own cc nL fr lo V) {a : Value} (d : decode cc pc = .ok (.pop, 1)) (ha : a.category = 1) (k : V (pc + 1) lc (st) h) : V pc lc (a :: st) h := by
  obtain ⟨p, e, Rm, s, m, args, below, meth, c, A, cells, slots, Q, hx, hb, hml, hown, hts, hC, hA, hfr, hlo, hce, hsl, rfl⟩ := R
  exact fun H locs ls hW hS hl => lv_pop hx hb d ha (k H locs ls hW hS hl)
theorem v_goto (R : Ru l D cs φ own cc nL fr lo V) {off : Int} {tgt : Nat} (d : decode cc pc = .ok (.goto off, 3)) (ht : (pc : Int) + off = (tgt : Int)) (k : V tgt lc st h) : V pc lc st h := by
  obtain ⟨p, e, Rm, s, m, args, below, meth, c, A, cells, slots, Q, hx, hb, hml, hown, hts, hC, hA, hfr, hlo, hce, hsl, rfl⟩ := R
  exact fun H locs ls hW hS hl => lv_goto hx hb d ht (k H locs ls hW hS hl)
theorem v_icmp_eq (R : Ru l D cs φ own cc nL fr lo V) {x y : Int32} {off : Int} {tgt : Nat} (d : decode cc pc = .ok (.if_icmp .eq off, 3)) (ht : (pc : Int) + off = (tgt : Int)) (kt : x = y → V tgt lc st h) (kf : ¬ x = y → V (pc + 3) lc st h) : V pc lc (.int y :: .int x :: st) h := by
  obtain ⟨p, e, Rm, s, m, args, below, meth, c, A, cells, slots, Q, hx, hb, hml, hown, hts, hC, hA, hfr, hlo, hce, hsl, rfl⟩ := R
  exact fun H locs ls hW hS hl => lv_icmp_eq hx hb d ht (fun q => kt q H locs ls hW hS hl) (fun q => kf q H locs ls hW hS hl)
theorem v_if_eq (R : Ru l D cs φ own cc nL fr lo V) {x : Int32} {off : Int} {tgt : Nat} (d : decode cc pc = .ok (.ifCond .eq off, 3)) (ht : (pc : Int) + off = (tgt : Int)) (kt : x = 0 → V tgt lc st h) (kf : ¬ x = 0 → V (pc + 3) lc st h) : V pc lc (.int x :: st) h := by
  obtain ⟨p, e, Rm, s, m, args, below, meth, c, A, cells, slots, Q, hx, hb, hml, hown, hts, hC, hA, hfr, hlo, hce, hsl, rfl⟩ := R
  exact fun H locs ls hW hS hl => lv_if_eq hx hb d ht (fun q => kt q H locs ls hW hS hl) (fun q => kf q H locs ls hW hS hl)
theorem v_icmp_ne (R : Ru l D cs φ own cc nL fr lo V) {x y : Int32} {off : Int} {tgt : Nat} (d : decode cc pc = .ok (.if_icmp .ne off, 3)) (ht : (pc : Int) + off = (tgt : Int)) (kt : ¬ x = y → V tgt lc st h) (kf : x = y → V (pc + 3) lc st h) : V pc lc (.int y :: .int x :: st) h := by
  obtain ⟨p, e, Rm, s, m, args, below, meth, c, A, cells, slots, Q, hx, hb, hml, hown, hts, hC, hA, hfr, hlo, hce, hsl, rfl⟩ := R
  exact fun H locs ls hW hS hl => lv_icmp_ne hx hb d ht (fun q => kt q H locs ls hW hS hl) (fun q => kf q H locs ls hW hS hl)
theorem v_if_ne (R : Ru l D cs φ own cc nL fr lo V) {x : Int32} {off : Int} {tgt : Nat} (d : decode cc pc = .ok (.ifCond .ne off, 3)) (ht : (pc : Int) + off = (tgt : Int)) (kt : ¬ x = 0 → V tgt lc st h) (kf : x = 0 → V (pc + 3) lc st h) : V pc lc (.int x :: st) h := by
  obtain ⟨p, e, Rm, s, m, args, below, meth, c, A, cells, slots, Q, hx, hb, hml, hown, hts, hC, hA, hfr, hlo, hce, hsl, rfl⟩ := R
  exact fun H locs ls hW hS hl => lv_if_ne hx hb d ht (fun q => kt q H locs ls hW hS hl) (fun q => kf q H locs ls hW hS hl)
theorem v_icmp_lt (R : Ru l D cs φ own cc nL fr lo V) {x y : Int32} {off : Int} {tgt : Nat} (d : decode cc pc = .ok (.if_icmp .lt off, 3)) (ht : (pc : Int) + off = (tgt : Int)) (kt : x < y → V tgt lc st h) (kf : ¬ x < y → V (pc + 3) lc st h) : V pc lc (.int y :: .int x :: st) h := by
  obtain ⟨p, e, Rm, s, m, args, below, meth, c, A, cells, slots, Q, hx, hb, hml, hown, hts, hC, hA, hfr, hlo, hce, hsl, rfl⟩ := R
  exact fun H locs ls hW hS hl => lv_icmp_lt hx hb d ht (fun q => kt q H locs ls hW hS hl) (fun q => kf q H locs ls hW hS hl)
theorem v_if_lt (R : Ru l D cs φ own cc nL fr lo V) {x : Int32} {off : Int} {tgt : Nat} (d : decode cc pc = .ok (.ifCond .lt off, 3)) (ht : (pc : Int) + off = (tgt : Int)) (kt : x < 0 → V tgt lc st h) (kf : ¬ x < 0 → V (pc + 3) lc st h) : V pc lc (.int x :: st) h := by
  obtain ⟨p, e, Rm, s, m, args, below, meth, c, A, cells, slots, Q, hx, hb, hml, hown, hts, hC, hA, hfr, hlo, hce, hsl, rfl⟩ := R
  exact fun H locs ls hW hS hl => lv_if_lt hx hb d ht (fun q => kt q H locs ls hW hS hl) (fun q => kf q H locs ls hW hS hl)
theorem v_icmp_ge (R : Ru l D cs φ own cc nL fr lo V) {x y : Int32} {off : Int} {tgt : Nat} (d : decode cc pc = .ok (.if_icmp .ge off, 3)) (ht : (pc : Int) + off = (tgt : Int)) (kt : y ≤ x → V tgt lc st h) (kf : ¬ y ≤ x → V (pc + 3) lc st h) : V pc lc (.int y :: .int x :: st) h := by
  obtain ⟨p, e, Rm, s, m, args, below, meth, c, A, cells, slots, Q, hx, hb, hml, hown, hts, hC, hA, hfr, hlo, hce, hsl, rfl⟩ := R
  exact fun H locs ls hW hS hl => lv_icmp_ge hx hb d ht (fun q => kt q H locs ls hW hS hl) (fun q => kf q H locs ls hW hS hl)
theorem v_if_ge (R : Ru l D cs φ own cc nL fr lo V) {x : Int32} {off : Int} {tgt : Nat} (d : decode cc pc = .ok (.ifCond .ge off, 3)) (ht : (pc : Int) + off = (tgt : Int)) (kt : 0 ≤ x → V tgt lc st h) (kf : ¬ 0 ≤ x → V (pc + 3) lc st h) : V pc lc (.int x :: st) h := by
  obtain ⟨p, e, Rm, s, m, args, below, meth, c, A, cells, slots, Q, hx, hb, hml, hown, hts, hC, hA, hfr, hlo, hce, hsl, rfl⟩ := R
  exact fun H locs ls hW hS hl => lv_if_ge hx hb d ht (fun q => kt q H locs ls hW hS hl) (fun q => kf q H locs ls hW hS hl)
theorem v_icmp_gt (R : Ru l D cs φ own cc nL fr lo V) {x y : Int32} {off : Int} {tgt : Nat} (d : decode cc pc = .ok (.if_icmp .gt off, 3)) (ht : (pc : Int) + off = (tgt : Int)) (kt : y < x → V tgt lc st h) (kf : ¬ y < x → V (pc + 3) lc st h) : V pc lc (.int y :: .int x :: st) h := by
  obtain ⟨p, e, Rm, s, m, args, below, meth, c, A, cells, slots, Q, hx, hb, hml, hown, hts, hC, hA, hfr, hlo, hce, hsl, rfl⟩ := R
  exact fun H locs ls hW hS hl => lv_icmp_gt hx hb d ht (fun q => kt q H locs ls hW hS hl) (fun q => kf q H locs ls hW hS hl)
theorem v_if_gt (R : Ru l D cs φ own cc nL fr lo V) {x : Int32} {off : Int} {tgt : Nat} (d : decode cc pc = .ok (.ifCond .gt off, 3)) (ht : (pc : Int) + off = (tgt : Int)) (kt : 0 < x → V tgt lc st h) (kf : ¬ 0 < x → V (pc + 3) lc st h) : V pc lc (.int x :: st) h := by
  obtain ⟨p, e, Rm, s, m, args, below, meth, c, A, cells, slots, Q, hx, hb, hml, hown, hts, hC, hA, hfr, hlo, hce, hsl, rfl⟩ := R
  exact fun H locs ls hW hS hl => lv_if_gt hx hb d ht (fun q => kt q H locs ls hW hS hl) (fun q => kf q H locs ls hW hS hl)
theorem v_icmp_le (R : Ru l D cs φ own cc nL fr lo V) {x y : Int32} {off : Int} {tgt : Nat} (d : decode cc pc = .ok (.if_icmp .le off, 3)) (ht : (pc : Int) + off = (tgt : Int)) (kt : x ≤ y → V tgt lc st h) (kf : ¬ x ≤ y → V (pc + 3) lc st h) : V pc lc (.int y :: .int x :: st) h := by
  obtain ⟨p, e, Rm, s, m, args, below, meth, c, A, cells, slots, Q, hx, hb, hml, hown, hts, hC, hA, hfr, hlo, hce, hsl, rfl⟩ := R
  exact fun H locs ls hW hS hl => lv_icmp_le hx hb d ht (fun q => kt q H locs ls hW hS hl) (fun q => kf q H locs ls hW hS hl)
theorem v_if_le (R : Ru l D cs φ own cc nL fr lo V) {x : Int32} {off : Int} {tgt : Nat} (d : decode cc pc = .ok (.ifCond .le off, 3)) (ht : (pc : Int) + off = (tgt : Int)) (kt : x ≤ 0 → V tgt lc st h) (kf : ¬ x ≤ 0 → V (pc + 3) lc st h) : V pc lc (.int x :: st) h := by
  obtain ⟨p, e, Rm, s, m, args, below, meth, c, A, cells, slots, Q, hx, hb, hml, hown, hts, hC, hA, hfr, hlo, hce, hsl, rfl⟩ := R
  exact fun H locs ls hW hS hl => lv_if_le hx hb d ht (fun q => kt q H locs ls hW hS hl) (fun q => kf q H locs ls hW hS hl)
theorem bI_0 {b : Bool} : bI b = 0 ↔ ¬ b = true := by cases b <;> decide
theorem bI_n (b : Bool) : narrow .boolean (.int (bI b)) = .int (bI b) := by cases b <;> rfl
theorem v_ifb_eq (R : Ru l D cs φ own cc nL fr lo V) {b : Bool} {off : Int} {tgt : Nat} (d : decode cc pc = .ok (.ifCond .eq off, 3)) (ht : (pc : Int) + off = (tgt : Int)) (kt : ¬ b = true → V tgt lc st h) (kf : b = true → V (pc + 3) lc st h) : V pc lc (.int (bI b) :: st) h :=
  v_if_eq R d ht (fun q => kt (bI_0.mp q)) (fun q => kf (Decidable.byContradiction fun z => q (bI_0.mpr z)))
theorem v_ifb_ne (R : Ru l D cs φ own cc nL fr lo V) {b : Bool} {off : Int} {tgt : Nat} (d : decode cc pc = .ok (.ifCond .ne off, 3)) (ht : (pc : Int) + off = (tgt : Int)) (kt : b = true → V tgt lc st h) (kf : ¬ b = true → V (pc + 3) lc st h) : V pc lc (.int (bI b) :: st) h :=
  v_if_ne R d ht (fun q => kt (Decidable.byContradiction fun z => q (bI_0.mpr z))) (fun q => kf (bI_0.mp q))
theorem v_tabEq (R : Ru l D cs φ own cc nL fr lo V) {dflt lw hi : Int} {offs : Array Int} {len : Nat} {x : Int32} {off : Int} {tgt : Nat} (d : decode cc pc = .ok (.tableswitch dflt lw hi offs, len)) (j : Int32) (hj : x = j) (h1 : ¬ j.toInt < lw) (h2 : ¬ hi < j.toInt) (ho : offs[(j.toInt - lw).toNat]? = some off) (ht : (pc : Int) + off = (tgt : Int)) (k : V tgt lc st h) : V pc lc (.int x :: st) h := by
  subst hj
  obtain ⟨p, e, Rm, s, m, args, below, meth, c, A, cells, slots, Q, hx, hb, hml, hown, hts, hC, hA, hfr, hlo, hce, hsl, rfl⟩ := R
  exact fun H locs ls hW hS hl => lv_tableIn hx hb d h1 h2 ho ht (k H locs ls hW hS hl)
theorem v_tabDf (R : Ru l D cs φ own cc nL fr lo V) {dflt lw hi : Int} {offs : Array Int} {len : Nat} {x : Int32} {tgt : Nat} (d : decode cc pc = .ok (.tableswitch dflt lw hi offs, len)) (ho : x.toInt < lw ∨ hi < x.toInt) (ht : (pc : Int) + dflt = (tgt : Int)) (k : V tgt lc st h) : V pc lc (.int x :: st) h := by
  obtain ⟨p, e, Rm, s, m, args, below, meth, c, A, cells, slots, Q, hx, hb, hml, hown, hts, hC, hA, hfr, hlo, hce, hsl, rfl⟩ := R
  exact fun H locs ls hW hS hl => lv_tableOut hx hb d ho ht (k H locs ls hW hS hl)
theorem v_iload_0 (R : Ru l D cs φ own cc nL fr lo V) {r : List (Option Value)} {x : Int32} (d : decode cc pc = .ok (.iload_n 0, 1)) (k : V (pc + 1) (some (.int x) :: r) (.int x :: st) h) : V pc (some (.int x) :: r) st h := by
  obtain ⟨p, e, Rm, s, m, args, below, meth, c, A, cells, slots, Q, hx, hb, hml, hown, hts, hC, hA, hfr, hlo, hce, hsl, rfl⟩ := R
  exact fun H locs ls hW hS hl => lv_iload_n hx hb d rfl (as_at hl (i := 0) rfl) (k H locs ls hW hS hl)
theorem v_aload_0 (R : Ru l D cs φ own cc nL fr lo V) {r : List (Option Value)} {x : Nat} (d : decode cc pc = .ok (.aload_n 0, 1)) (k : V (pc + 1) (some (.ref x) :: r) (.ref x :: st) h) : V pc (some (.ref x) :: r) st h := by
  obtain ⟨p, e, Rm, s, m, args, below, meth, c, A, cells, slots, Q, hx, hb, hml, hown, hts, hC, hA, hfr, hlo, hce, hsl, rfl⟩ := R
  exact fun H locs ls hW hS hl => lv_aload_n hx hb d rfl (as_at hl (i := 0) rfl) (k H locs ls hW hS hl)
theorem v_istore_0 (R : Ru l D cs φ own cc nL fr lo V) {z : Option Value} {r : List (Option Value)} {x : Int32} (d : decode cc pc = .ok (.istore_n 0, 1)) (hn : 0 < nL) (hk : stOk (z :: r) 0 = true) (k : V (pc + 1) (some (.int x) :: r) st h) : V pc (z :: r) (.int x :: st) h := by
  obtain ⟨p, e, Rm, s, m, args, below, meth, c, A, cells, slots, Q, hx, hb, hml, hown, hts, hC, hA, hfr, hlo, hce, hsl, rfl⟩ := R
  exact fun H locs ls hW hS hl => lv_istore_n hx hb d rfl hl hn rfl (fun ls2 hl2 => k H locs ls2 hW hS (as_set (i := 0) hk hl2))
theorem v_astore_0 (R : Ru l D cs φ own cc nL fr lo V) {z : Option Value} {r : List (Option Value)} {x : Nat} (d : decode cc pc = .ok (.astore_n 0, 1)) (hn : 0 < nL) (hk : stOk (z :: r) 0 = true) (k : V (pc + 1) (some (.ref x) :: r) st h) : V pc (z :: r) (.ref x :: st) h := by
  obtain ⟨p, e, Rm, s, m, args, below, meth, c, A, cells, slots, Q, hx, hb, hml, hown, hts, hC, hA, hfr, hlo, hce, hsl, rfl⟩ := R
  exact fun H locs ls hW hS hl => lv_astore_n hx hb d rfl hl hn rfl (fun ls2 hl2 => k H locs ls2 hW hS (as_set (i := 0) hk hl2))
theorem v_iinc_0 (R : Ru l D cs φ own cc nL fr lo V) {r : List (Option Value)} {x : Int32} {n : Int} (v : Int32) (d : decode cc pc = .ok (.iinc 0 n, 3)) (hn : 0 < nL) (hk : stOk (some (.int x) :: r) 0 = true) (hv : Int32.ofInt n = v) (k : V (pc + 3) (some (.int (x + v)) :: r) st h) : V pc (some (.int x) :: r) st h := by
  obtain ⟨p, e, Rm, s, m, args, below, meth, c, A, cells, slots, Q, hx, hb, hml, hown, hts, hC, hA, hfr, hlo, hce, hsl, rfl⟩ := R
  subst hv
  intro H locs ls hW hS hl
  obtain ⟨k2, hk2⟩ := List.getElem?_of_mem (asl_in (n := 0) (lc := some (.int x) :: r) (i := 0) (v := .int x) rfl)
  exact lv_iinc hx hb d hl (k := k2) (by rw [hk2]) rfl hn rfl (fun ls2 hl2 => k H locs ls2 hW hS (as_set (i := 0) hk hl2))
theorem v_iload_1 (R : Ru l D cs φ own cc nL fr lo V) {a0 : Option Value} {r : List (Option Value)} {x : Int32} (d : decode cc pc = .ok (.iload_n 1, 1)) (k : V (pc + 1) (a0 :: some (.int x) :: r) (.int x :: st) h) : V pc (a0 :: some (.int x) :: r) st h := by
  obtain ⟨p, e, Rm, s, m, args, below, meth, c, A, cells, slots, Q, hx, hb, hml, hown, hts, hC, hA, hfr, hlo, hce, hsl, rfl⟩ := R
  exact fun H locs ls hW hS hl => lv_iload_n hx hb d rfl (as_at hl (i := 1) rfl) (k H locs ls hW hS hl)
theorem v_aload_1 (R : Ru l D cs φ own cc nL fr lo V) {a0 : Option Value} {r : List (Option Value)} {x : Nat} (d : decode cc pc = .ok (.aload_n 1, 1)) (k : V (pc + 1) (a0 :: some (.ref x) :: r) (.ref x :: st) h) : V pc (a0 :: some (.ref x) :: r) st h := by
  obtain ⟨p, e, Rm, s, m, args, below, meth, c, A, cells, slots, Q, hx, hb, hml, hown, hts, hC, hA, hfr, hlo, hce, hsl, rfl⟩ := R
  exact fun H locs ls hW hS hl => lv_aload_n hx hb d rfl (as_at hl (i := 1) rfl) (k H locs ls hW hS hl)
theorem v_istore_1 (R : Ru l D cs φ own cc nL fr lo V) {a0 : Option Value} {z : Option Value} {r : List (Option Value)} {x : Int32} (d : decode cc pc = .ok (.istore_n 1, 1)) (hn : 1 < nL) (hk : stOk (a0 :: z :: r) 1 = true) (k : V (pc + 1) (a0 :: some (.int x) :: r) st h) : V pc (a0 :: z :: r) (.int x :: st) h := by
  obtain ⟨p, e, Rm, s, m, args, below, meth, c, A, cells, slots, Q, hx, hb, hml, hown, hts, hC, hA, hfr, hlo, hce, hsl, rfl⟩ := R
  exact fun H locs ls hW hS hl => lv_istore_n hx hb d rfl hl hn rfl (fun ls2 hl2 => k H locs ls2 hW hS (as_set (i := 1) hk hl2))
theorem v_astore_1 (R : Ru l D cs φ own cc nL fr lo V) {a0 : Option Value} {z : Option Value} {r : List (Option Value)} {x : Nat} (d : decode cc pc = .ok (.astore_n 1, 1)) (hn : 1 < nL) (hk : stOk (a0 :: z :: r) 1 = true) (k : V (pc + 1) (a0 :: some (.ref x) :: r) st h) : V pc (a0 :: z :: r) (.ref x :: st) h := by
  obtain ⟨p, e, Rm, s, m, args, below, meth, c, A, cells, slots, Q, hx, hb, hml, hown, hts, hC, hA, hfr, hlo, hce, hsl, rfl⟩ := R
  exact fun H locs ls hW hS hl => lv_astore_n hx hb d rfl hl hn rfl (fun ls2 hl2 => k H locs ls2 hW hS (as_set (i := 1) hk hl2))
theorem v_iinc_1 (R : Ru l D cs φ own cc nL fr lo V) {a0 : Option Value} {r : List (Option Value)} {x : Int32} {n : Int} (v : Int32) (d : decode cc pc = .ok (.iinc 1 n, 3)) (hn : 1 < nL) (hk : stOk (a0 :: some (.int x) :: r) 1 = true) (hv : Int32.ofInt n = v) (k : V (pc + 3) (a0 :: some (.int (x + v)) :: r) st h) : V pc (a0 :: some (.int x) :: r) st h := by
  obtain ⟨p, e, Rm, s, m, args, below, meth, c, A, cells, slots, Q, hx, hb, hml, hown, hts, hC, hA, hfr, hlo, hce, hsl, rfl⟩ := R
  subst hv
  intro H locs ls hW hS hl
  obtain ⟨k2, hk2⟩ := List.getElem?_of_mem (asl_in (n := 0) (lc := a0 :: some (.int x) :: r) (i := 1) (v := .int x) rfl)
  exact lv_iinc hx hb d hl (k := k2) (by rw [hk2]) rfl hn rfl (fun ls2 hl2 => k H locs ls2 hW hS (as_set (i := 1) hk hl2))
theorem v_iload_2 (R : Ru l D cs φ own cc nL fr lo V) {a0 a1 : Option Value} {r : List (Option Value)} {x : Int32} (d : decode cc pc = .ok (.iload_n 2, 1)) (k : V (pc + 1) (a0 :: a1 :: some (.int x) :: r) (.int x :: st) h) : V pc (a0 :: a1 :: some (.int x) :: r) st h := by
  obtain ⟨p, e, Rm, s, m, args, below, meth, c, A, cells, slots, Q, hx, hb, hml, hown, hts, hC, hA, hfr, hlo, hce, hsl, rfl⟩ := R
  exact fun H locs ls hW hS hl => lv_iload_n hx hb d rfl (as_at hl (i := 2) rfl) (k H locs ls hW hS hl)
theorem v_aload_2 (R : Ru l D cs φ own cc nL fr lo V) {a0 a1 : Option Value} {r : List (Option Value)} {x : Nat} (d : decode cc pc = .ok (.aload_n 2, 1)) (k : V (pc + 1) (a0 :: a1 :: some (.ref x) :: r) (.ref x :: st) h) : V pc (a0 :: a1 :: some (.ref x) :: r) st h := by
  obtain ⟨p, e, Rm, s, m, args, below, meth, c, A, cells, slots, Q, hx, hb, hml, hown, hts, hC, hA, hfr, hlo, hce, hsl, rfl⟩ := R
  exact fun H locs ls hW hS hl => lv_aload_n hx hb d rfl (as_at hl (i := 2) rfl) (k H locs ls hW hS hl)
theorem v_istore_2 (R : Ru l D cs φ own cc nL fr lo V) {a0 a1 : Option Value} {z : Option Value} {r : List (Option Value)} {x : Int32} (d : decode cc pc = .ok (.istore_n 2, 1)) (hn : 2 < nL) (hk : stOk (a0 :: a1 :: z :: r) 2 = true) (k : V (pc + 1) (a0 :: a1 :: some (.int x) :: r) st h) : V pc (a0 :: a1 :: z :: r) (.int x :: st) h := by
  obtain ⟨p, e, Rm, s, m, args, below, meth, c, A, cells, slots, Q, hx, hb, hml, hown, hts, hC, hA, hfr, hlo, hce, hsl, rfl⟩ := R
  exact fun H locs ls hW hS hl => lv_istore_n hx hb d rfl hl hn rfl (fun ls2 hl2 => k H locs ls2 hW hS (as_set (i := 2) hk hl2))
theorem v_astore_2 (R : Ru l D cs φ own cc nL fr lo V) {a0 a1 : Option Value} {z : Option Value} {r : List (Option Value)} {x : Nat} (d : decode cc pc = .ok (.astore_n 2, 1)) (hn : 2 < nL) (hk : stOk (a0 :: a1 :: z :: r) 2 = true) (k : V (pc + 1) (a0 :: a1 :: some (.ref x) :: r) st h) : V pc (a0 :: a1 :: z :: r) (.ref x :: st) h := by
  obtain ⟨p, e, Rm, s, m, args, below, meth, c, A, cells, slots, Q, hx, hb, hml, hown, hts, hC, hA, hfr, hlo, hce, hsl, rfl⟩ := R
  exact fun H locs ls hW hS hl => lv_astore_n hx hb d rfl hl hn rfl (fun ls2 hl2 => k H locs ls2 hW hS (as_set (i := 2) hk hl2))
theorem v_iinc_2 (R : Ru l D cs φ own cc nL fr lo V) {a0 a1 : Option Value} {r : List (Option Value)} {x : Int32} {n : Int} (v : Int32) (d : decode cc pc = .ok (.iinc 2 n, 3)) (hn : 2 < nL) (hk : stOk (a0 :: a1 :: some (.int x) :: r) 2 = true) (hv : Int32.ofInt n = v) (k : V (pc + 3) (a0 :: a1 :: some (.int (x + v)) :: r) st h) : V pc (a0 :: a1 :: some (.int x) :: r) st h := by
  obtain ⟨p, e, Rm, s, m, args, below, meth, c, A, cells, slots, Q, hx, hb, hml, hown, hts, hC, hA, hfr, hlo, hce, hsl, rfl⟩ := R
  subst hv
  intro H locs ls hW hS hl
  obtain ⟨k2, hk2⟩ := List.getElem?_of_mem (asl_in (n := 0) (lc := a0 :: a1 :: some (.int x) :: r) (i := 2) (v := .int x) rfl)
  exact lv_iinc hx hb d hl (k := k2) (by rw [hk2]) rfl hn rfl (fun ls2 hl2 => k H locs ls2 hW hS (as_set (i := 2) hk hl2))
theorem v_iload_3 (R : Ru l D cs φ own cc nL fr lo V) {a0 a1 a2 : Option Value} {r : List (Option Value)} {x : Int32} (d : decode cc pc = .ok (.iload_n 3, 1)) (k : V (pc + 1) (a0 :: a1 :: a2 :: some (.int x) :: r) (.int x :: st) h) : V pc (a0 :: a1 :: a2 :: some (.int x) :: r) st h := by
  obtain ⟨p, e, Rm, s, m, args, below, meth, c, A, cells, slots, Q, hx, hb, hml, hown, hts, hC, hA, hfr, hlo, hce, hsl, rfl⟩ := R
  exact fun H locs ls hW hS hl => lv_iload_n hx hb d rfl (as_at hl (i := 3) rfl) (k H locs ls hW hS hl)
theorem v_aload_3 (R : Ru l D cs φ own cc nL fr lo V) {a0 a1 a2 : Option Value} {r : List (Option Value)} {x : Nat} (d : decode cc pc = .ok (.aload_n 3, 1)) (k : V (pc + 1) (a0 :: a1 :: a2 :: some (.ref x) :: r) (.ref x :: st) h) : V pc (a0 :: a1 :: a2 :: some (.ref x) :: r) st h := by
  obtain ⟨p, e, Rm, s, m, args, below, meth, c, A, cells, slots, Q, hx, hb, hml, hown, hts, hC, hA, hfr, hlo, hce, hsl, rfl⟩ := R
  exact fun H locs ls hW hS hl => lv_aload_n hx hb d rfl (as_at hl (i := 3) rfl) (k H locs ls hW hS hl)
theorem v_istore_3 (R : Ru l D cs φ own cc nL fr lo V) {a0 a1 a2 : Option Value} {z : Option Value} {r : List (Option Value)} {x : Int32} (d : decode cc pc = .ok (.istore_n 3, 1)) (hn : 3 < nL) (hk : stOk (a0 :: a1 :: a2 :: z :: r) 3 = true) (k : V (pc + 1) (a0 :: a1 :: a2 :: some (.int x) :: r) st h) : V pc (a0 :: a1 :: a2 :: z :: r) (.int x :: st) h := by
  obtain ⟨p, e, Rm, s, m, args, below, meth, c, A, cells, slots, Q, hx, hb, hml, hown, hts, hC, hA, hfr, hlo, hce, hsl, rfl⟩ := R
  exact fun H locs ls hW hS hl => lv_istore_n hx hb d rfl hl hn rfl (fun ls2 hl2 => k H locs ls2 hW hS (as_set (i := 3) hk hl2))
theorem v_astore_3 (R : Ru l D cs φ own cc nL fr lo V) {a0 a1 a2 : Option Value} {z : Option Value} {r : List (Option Value)} {x : Nat} (d : decode cc pc = .ok (.astore_n 3, 1)) (hn : 3 < nL) (hk : stOk (a0 :: a1 :: a2 :: z :: r) 3 = true) (k : V (pc + 1) (a0 :: a1 :: a2 :: some (.ref x) :: r) st h) : V pc (a0 :: a1 :: a2 :: z :: r) (.ref x :: st) h := by
  obtain ⟨p, e, Rm, s, m, args, below, meth, c, A, cells, slots, Q, hx, hb, hml, hown, hts, hC, hA, hfr, hlo, hce, hsl, rfl⟩ := R
  exact fun H locs ls hW hS hl => lv_astore_n hx hb d rfl hl hn rfl (fun ls2 hl2 => k H locs ls2 hW hS (as_set (i := 3) hk hl2))
theorem v_iinc_3 (R : Ru l D cs φ own cc nL fr lo V) {a0 a1 a2 : Option Value} {r : List (Option Value)} {x : Int32} {n : Int} (v : Int32) (d : decode cc pc = .ok (.iinc 3 n, 3)) (hn : 3 < nL) (hk : stOk (a0 :: a1 :: a2 :: some (.int x) :: r) 3 = true) (hv : Int32.ofInt n = v) (k : V (pc + 3) (a0 :: a1 :: a2 :: some (.int (x + v)) :: r) st h) : V pc (a0 :: a1 :: a2 :: some (.int x) :: r) st h := by
  obtain ⟨p, e, Rm, s, m, args, below, meth, c, A, cells, slots, Q, hx, hb, hml, hown, hts, hC, hA, hfr, hlo, hce, hsl, rfl⟩ := R
  subst hv
  intro H locs ls hW hS hl
  obtain ⟨k2, hk2⟩ := List.getElem?_of_mem (asl_in (n := 0) (lc := a0 :: a1 :: a2 :: some (.int x) :: r) (i := 3) (v := .int x) rfl)
  exact lv_iinc hx hb d hl (k := k2) (by rw [hk2]) rfl hn rfl (fun ls2 hl2 => k H locs ls2 hW hS (as_set (i := 3) hk hl2))
theorem v_iload_4 (R : Ru l D cs φ own cc nL fr lo V) {a0 a1 a2 a3 : Option Value} {r : List (Option Value)} {x : Int32} (d : decode cc pc = .ok (.iload 4, 2)) (k : V (pc + 2) (a0 :: a1 :: a2 :: a3 :: some (.int x) :: r) (.int x :: st) h) : V pc (a0 :: a1 :: a2 :: a3 :: some (.int x) :: r) st h := by
  obtain ⟨p, e, Rm, s, m, args, below, meth, c, A, cells, slots, Q, hx, hb, hml, hown, hts, hC, hA, hfr, hlo, hce, hsl, rfl⟩ := R
  exact fun H locs ls hW hS hl => lv_iload hx hb d (as_at hl (i := 4) rfl) (k H locs ls hW hS hl)
theorem v_aload_4 (R : Ru l D cs φ own cc nL fr lo V) {a0 a1 a2 a3 : Option Value} {r : List (Option Value)} {x : Nat} (d : decode cc pc = .ok (.aload 4, 2)) (k : V (pc + 2) (a0 :: a1 :: a2 :: a3 :: some (.ref x) :: r) (.ref x :: st) h) : V pc (a0 :: a1 :: a2 :: a3 :: some (.ref x) :: r) st h := by
  obtain ⟨p, e, Rm, s, m, args, below, meth, c, A, cells, slots, Q, hx, hb, hml, hown, hts, hC, hA, hfr, hlo, hce, hsl, rfl⟩ := R
  exact fun H locs ls hW hS hl => lv_aload hx hb d (as_at hl (i := 4) rfl) (k H locs ls hW hS hl)
theorem v_istore_4 (R : Ru l D cs φ own cc nL fr lo V) {a0 a1 a2 a3 : Option Value} {z : Option Value} {r : List (Option Value)} {x : Int32} (d : decode cc pc = .ok (.istore 4, 2)) (hn : 4 < nL) (hk : stOk (a0 :: a1 :: a2 :: a3 :: z :: r) 4 = true) (k : V (pc + 2) (a0 :: a1 :: a2 :: a3 :: some (.int x) :: r) st h) : V pc (a0 :: a1 :: a2 :: a3 :: z :: r) (.int x :: st) h := by
  obtain ⟨p, e, Rm, s, m, args, below, meth, c, A, cells, slots, Q, hx, hb, hml, hown, hts, hC, hA, hfr, hlo, hce, hsl, rfl⟩ := R
  exact fun H locs ls hW hS hl => lv_istore hx hb d hl hn rfl (fun ls2 hl2 => k H locs ls2 hW hS (as_set (i := 4) hk hl2))
theorem v_astore_4 (R : Ru l D cs φ own cc nL fr lo V) {a0 a1 a2 a3 : Option Value} {z : Option Value} {r : List (Option Value)} {x : Nat} (d : decode cc pc = .ok (.astore 4, 2)) (hn : 4 < nL) (hk : stOk (a0 :: a1 :: a2 :: a3 :: z :: r) 4 = true) (k : V (pc + 2) (a0 :: a1 :: a2 :: a3 :: some (.ref x) :: r) st h) : V pc (a0 :: a1 :: a2 :: a3 :: z :: r) (.ref x :: st) h := by
  obtain ⟨p, e, Rm, s, m, args, below, meth, c, A, cells, slots, Q, hx, hb, hml, hown, hts, hC, hA, hfr, hlo, hce, hsl, rfl⟩ := R
  exact fun H locs ls hW hS hl => lv_astore hx hb d hl hn rfl (fun ls2 hl2 => k H locs ls2 hW hS (as_set (i := 4) hk hl2))
theorem v_iinc_4 (R : Ru l D cs φ own cc nL fr lo V) {a0 a1 a2 a3 : Option Value} {r : List (Option Value)} {x : Int32} {n : Int} (v : Int32) (d : decode cc pc = .ok (.iinc 4 n, 3)) (hn : 4 < nL) (hk : stOk (a0 :: a1 :: a2 :: a3 :: some (.int x) :: r) 4 = true) (hv : Int32.ofInt n = v) (k : V (pc + 3) (a0 :: a1 :: a2 :: a3 :: some (.int (x + v)) :: r) st h) : V pc (a0 :: a1 :: a2 :: a3 :: some (.int x) :: r) st h := by
  obtain ⟨p, e, Rm, s, m, args, below, meth, c, A, cells, slots, Q, hx, hb, hml, hown, hts, hC, hA, hfr, hlo, hce, hsl, rfl⟩ := R
  subst hv
  intro H locs ls hW hS hl
  obtain ⟨k2, hk2⟩ := List.getElem?_of_mem (asl_in (n := 0) (lc := a0 :: a1 :: a2 :: a3 :: some (.int x) :: r) (i := 4) (v := .int x) rfl)
  exact lv_iinc hx hb d hl (k := k2) (by rw [hk2]) rfl hn rfl (fun ls2 hl2 => k H locs ls2 hW hS (as_set (i := 4) hk hl2))
theorem v_iload_5 (R : Ru l D cs φ own cc nL fr lo V) {a0 a1 a2 a3 a4 : Option Value} {r : List (Option Value)} {x : Int32} (d : decode cc pc = .ok (.iload 5, 2)) (k : V (pc + 2) (a0 :: a1 :: a2 :: a3 :: a4 :: some (.int x) :: r) (.int x :: st) h) : V pc (a0 :: a1 :: a2 :: a3 :: a4 :: some (.int x) :: r) st h := by
  obtain ⟨p, e, Rm, s, m, args, below, meth, c, A, cells, slots, Q, hx, hb, hml, hown, hts, hC, hA, hfr, hlo, hce, hsl, rfl⟩ := R
  exact fun H locs ls hW hS hl => lv_iload hx hb d (as_at hl (i := 5) rfl) (k H locs ls hW hS hl)
theorem v_aload_5 (R : Ru l D cs φ own cc nL fr lo V) {a0 a1 a2 a3 a4 : Option Value} {r : List (Option Value)} {x : Nat} (d : decode cc pc = .ok (.aload 5, 2)) (k : V (pc + 2) (a0 :: a1 :: a2 :: a3 :: a4 :: some (.ref x) :: r) (.ref x :: st) h) : V pc (a0 :: a1 :: a2 :: a3 :: a4 :: some (.ref x) :: r) st h := by
  obtain ⟨p, e, Rm, s, m, args, below, meth, c, A, cells, slots, Q, hx, hb, hml, hown, hts, hC, hA, hfr, hlo, hce, hsl, rfl⟩ := R
  exact fun H locs ls hW hS hl => lv_aload hx hb d (as_at hl (i := 5) rfl) (k H locs ls hW hS hl)
theorem v_istore_5 (R : Ru l D cs φ own cc nL fr lo V) {a0 a1 a2 a3 a4 : Option Value} {z : Option Value} {r : List (Option Value)} {x : Int32} (d : decode cc pc = .ok (.istore 5, 2)) (hn : 5 < nL) (hk : stOk (a0 :: a1 :: a2 :: a3 :: a4 :: z :: r) 5 = true) (k : V (pc + 2) (a0 :: a1 :: a2 :: a3 :: a4 :: some (.int x) :: r) st h) : V pc (a0 :: a1 :: a2 :: a3 :: a4 :: z :: r) (.int x :: st) h := by
  obtain ⟨p, e, Rm, s, m, args, below, meth, c, A, cells, slots, Q, hx, hb, hml, hown, hts, hC, hA, hfr, hlo, hce, hsl, rfl⟩ := R
  exact fun H locs ls hW hS hl => lv_istore hx hb d hl hn rfl (fun ls2 hl2 => k H locs ls2 hW hS (as_set (i := 5) hk hl2))
theorem v_astore_5 (R : Ru l D cs φ own cc nL fr lo V) {a0 a1 a2 a3 a4 : Option Value} {z : Option Value} {r : List (Option Value)} {x : Nat} (d : decode cc pc = .ok (.astore 5, 2)) (hn : 5 < nL) (hk : stOk (a0 :: a1 :: a2 :: a3 :: a4 :: z :: r) 5 = true) (k : V (pc + 2) (a0 :: a1 :: a2 :: a3 :: a4 :: some (.ref x) :: r) st h) : V pc (a0 :: a1 :: a2 :: a3 :: a4 :: z :: r) (.ref x :: st) h := by
  obtain ⟨p, e, Rm, s, m, args, below, meth, c, A, cells, slots, Q, hx, hb, hml, hown, hts, hC, hA, hfr, hlo, hce, hsl, rfl⟩ := R
  exact fun H locs ls hW hS hl => lv_astore hx hb d hl hn rfl (fun ls2 hl2 => k H locs ls2 hW hS (as_set (i := 5) hk hl2))
theorem v_iinc_5 (R : Ru l D cs φ own cc nL fr lo V) {a0 a1 a2 a3 a4 : Option Value} {r : List (Option Value)} {x : Int32} {n : Int} (v : Int32) (d : decode cc pc = .ok (.iinc 5 n, 3)) (hn : 5 < nL) (hk : stOk (a0 :: a1 :: a2 :: a3 :: a4 :: some (.int x) :: r) 5 = true) (hv : Int32.ofInt n = v) (k : V (pc + 3) (a0 :: a1 :: a2 :: a3 :: a4 :: some (.int (x + v)) :: r) st h) : V pc (a0 :: a1 :: a2 :: a3 :: a4 :: some (.int x) :: r) st h := by
  obtain ⟨p, e, Rm, s, m, args, below, meth, c, A, cells, slots, Q, hx, hb, hml, hown, hts, hC, hA, hfr, hlo, hce, hsl, rfl⟩ := R
  subst hv
  intro H locs ls hW hS hl
  obtain ⟨k2, hk2⟩ := List.getElem?_of_mem (asl_in (n := 0) (lc := a0 :: a1 :: a2 :: a3 :: a4 :: some (.int x) :: r) (i := 5) (v := .int x) rfl)
  exact lv_iinc hx hb d hl (k := k2) (by rw [hk2]) rfl hn rfl (fun ls2 hl2 => k H locs ls2 hW hS (as_set (i := 5) hk hl2))
theorem v_iload_6 (R : Ru l D cs φ own cc nL fr lo V) {a0 a1 a2 a3 a4 a5 : Option Value} {r : List (Option Value)} {x : Int32} (d : decode cc pc = .ok (.iload 6, 2)) (k : V (pc + 2) (a0 :: a1 :: a2 :: a3 :: a4 :: a5 :: some (.int x) :: r) (.int x :: st) h) : V pc (a0 :: a1 :: a2 :: a3 :: a4 :: a5 :: some (.int x) :: r) st h := by
  obtain ⟨p, e, Rm, s, m, args, below, meth, c, A, cells, slots, Q, hx, hb, hml, hown, hts, hC, hA, hfr, hlo, hce, hsl, rfl⟩ := R
  exact fun H locs ls hW hS hl => lv_iload hx hb d (as_at hl (i := 6) rfl) (k H locs ls hW hS hl)
theorem v_aload_6 (R : Ru l D cs φ own cc nL fr lo V) {a0 a1 a2 a3 a4 a5 : Option Value} {r : List (Option Value)} {x : Nat} (d : decode cc pc = .ok (.aload 6, 2)) (k : V (pc + 2) (a0 :: a1 :: a2 :: a3 :: a4 :: a5 :: some (.ref x) :: r) (.ref x :: st) h) : V pc (a0 :: a1 :: a2 :: a3 :: a4 :: a5 :: some (.ref x) :: r) st h := by
  obtain ⟨p, e, Rm, s, m, args, below, meth, c, A, cells, slots, Q, hx, hb, hml, hown, hts, hC, hA, hfr, hlo, hce, hsl, rfl⟩ := R
  exact fun H locs ls hW hS hl => lv_aload hx hb d (as_at hl (i := 6) rfl) (k H locs ls hW hS hl)
theorem v_istore_6 (R : Ru l D cs φ own cc nL fr lo V) {a0 a1 a2 a3 a4 a5 : Option Value} {z : Option Value} {r : List (Option Value)} {x : Int32} (d : decode cc pc = .ok (.istore 6, 2)) (hn : 6 < nL) (hk : stOk (a0 :: a1 :: a2 :: a3 :: a4 :: a5 :: z :: r) 6 = true) (k : V (pc + 2) (a0 :: a1 :: a2 :: a3 :: a4 :: a5 :: some (.int x) :: r) st h) : V pc (a0 :: a1 :: a2 :: a3 :: a4 :: a5 :: z :: r) (.int x :: st) h := by
  obtain ⟨p, e, Rm, s, m, args, below, meth, c, A, cells, slots, Q, hx, hb, hml, hown, hts, hC, hA, hfr, hlo, hce, hsl, rfl⟩ := R
  exact fun H locs ls hW hS hl => lv_istore hx hb d hl hn rfl (fun ls2 hl2 => k H locs ls2 hW hS (as_set (i := 6) hk hl2))
theorem v_astore_6 (R : Ru l D cs φ own cc nL fr lo V) {a0 a1 a2 a3 a4 a5 : Option Value} {z : Option Value} {r : List (Option Value)} {x : Nat} (d : decode cc pc = .ok (.astore 6, 2)) (hn : 6 < nL) (hk : stOk (a0 :: a1 :: a2 :: a3 :: a4 :: a5 :: z :: r) 6 = true) (k : V (pc + 2) (a0 :: a1 :: a2 :: a3 :: a4 :: a5 :: some (.ref x) :: r) st h) : V pc (a0 :: a1 :: a2 :: a3 :: a4 :: a5 :: z :: r) (.ref x :: st) h := by
  obtain ⟨p, e, Rm, s, m, args, below, meth, c, A, cells, slots, Q, hx, hb, hml, hown, hts, hC, hA, hfr, hlo, hce, hsl, rfl⟩ := R
  exact fun H locs ls hW hS hl => lv_astore hx hb d hl hn rfl (fun ls2 hl2 => k H locs ls2 hW hS (as_set (i := 6) hk hl2))
theorem v_iinc_6 (R : Ru l D cs φ own cc nL fr lo V) {a0 a1 a2 a3 a4 a5 : Option Value} {r : List (Option Value)} {x : Int32} {n : Int} (v : Int32) (d : decode cc pc = .ok (.iinc 6 n, 3)) (hn : 6 < nL) (hk : stOk (a0 :: a1 :: a2 :: a3 :: a4 :: a5 :: some (.int x) :: r) 6 = true) (hv : Int32.ofInt n = v) (k : V (pc + 3) (a0 :: a1 :: a2 :: a3 :: a4 :: a5 :: some (.int (x + v)) :: r) st h) : V pc (a0 :: a1 :: a2 :: a3 :: a4 :: a5 :: some (.int x) :: r) st h := by
  obtain ⟨p, e, Rm, s, m, args, below, meth, c, A, cells, slots, Q, hx, hb, hml, hown, hts, hC, hA, hfr, hlo, hce, hsl, rfl⟩ := R
  subst hv
  intro H locs ls hW hS hl
  obtain ⟨k2, hk2⟩ := List.getElem?_of_mem (asl_in (n := 0) (lc := a0 :: a1 :: a2 :: a3 :: a4 :: a5 :: some (.int x) :: r) (i := 6) (v := .int x) rfl)
  exact lv_iinc hx hb d hl (k := k2) (by rw [hk2]) rfl hn rfl (fun ls2 hl2 => k H locs ls2 hW hS (as_set (i := 6) hk hl2))
theorem v_iload_7 (R : Ru l D cs φ own cc nL fr lo V) {a0 a1 a2 a3 a4 a5 a6 : Option Value} {r : List (Option Value)} {x : Int32} (d : decode cc pc = .ok (.iload 7, 2)) (k : V (pc + 2) (a0 :: a1 :: a2 :: a3 :: a4 :: a5 :: a6 :: some (.int x) :: r) (.int x :: st) h) : V pc (a0 :: a1 :: a2 :: a3 :: a4 :: a5 :: a6 :: some (.int x) :: r) st h := by
  obtain ⟨p, e, Rm, s, m, args, below, meth, c, A, cells, slots, Q, hx, hb, hml, hown, hts, hC, hA, hfr, hlo, hce, hsl, rfl⟩ := R
  exact fun H locs ls hW hS hl => lv_iload hx hb d (as_at hl (i := 7) rfl) (k H locs ls hW hS hl)
theorem v_aload_7 (R : Ru l D cs φ own cc nL fr lo V) {a0 a1 a2 a3 a4 a5 a6 : Option Value} {r : List (Option Value)} {x : Nat} (d : decode cc pc = .ok (.aload 7, 2)) (k : V (pc + 2) (a0 :: a1 :: a2 :: a3 :: a4 :: a5 :: a6 :: some (.ref x) :: r) (.ref x :: st) h) : V pc (a0 :: a1 :: a2 :: a3 :: a4 :: a5 :: a6 :: some (.ref x) :: r) st h := by
  obtain ⟨p, e, Rm, s, m, args, below, meth, c, A, cells, slots, Q, hx, hb, hml, hown, hts, hC, hA, hfr, hlo, hce, hsl, rfl⟩ := R
  exact fun H locs ls hW hS hl => lv_aload hx hb d (as_at hl (i := 7) rfl) (k H locs ls hW hS hl)
theorem v_istore_7 (R : Ru l D cs φ own cc nL fr lo V) {a0 a1 a2 a3 a4 a5 a6 : Option Value} {z : Option Value} {r : List (Option Value)} {x : Int32} (d : decode cc pc = .ok (.istore 7, 2)) (hn : 7 < nL) (hk : stOk (a0 :: a1 :: a2 :: a3 :: a4 :: a5 :: a6 :: z :: r) 7 = true) (k : V (pc + 2) (a0 :: a1 :: a2 :: a3 :: a4 :: a5 :: a6 :: some (.int x) :: r) st h) : V pc (a0 :: a1 :: a2 :: a3 :: a4 :: a5 :: a6 :: z :: r) (.int x :: st) h := by
  obtain ⟨p, e, Rm, s, m, args, below, meth, c, A, cells, slots, Q, hx, hb, hml, hown, hts, hC, hA, hfr, hlo, hce, hsl, rfl⟩ := R
  exact fun H locs ls hW hS hl => lv_istore hx hb d hl hn rfl (fun ls2 hl2 => k H locs ls2 hW hS (as_set (i := 7) hk hl2))
theorem v_astore_7 (R : Ru l D cs φ own cc nL fr lo V) {a0 a1 a2 a3 a4 a5 a6 : Option Value} {z : Option Value} {r : List (Option Value)} {x : Nat} (d : decode cc pc = .ok (.astore 7, 2)) (hn : 7 < nL) (hk : stOk (a0 :: a1 :: a2 :: a3 :: a4 :: a5 :: a6 :: z :: r) 7 = true) (k : V (pc + 2) (a0 :: a1 :: a2 :: a3 :: a4 :: a5 :: a6 :: some (.ref x) :: r) st h) : V pc (a0 :: a1 :: a2 :: a3 :: a4 :: a5 :: a6 :: z :: r) (.ref x :: st) h := by
  obtain ⟨p, e, Rm, s, m, args, below, meth, c, A, cells, slots, Q, hx, hb, hml, hown, hts, hC, hA, hfr, hlo, hce, hsl, rfl⟩ := R
  exact fun H locs ls hW hS hl => lv_astore hx hb d hl hn rfl (fun ls2 hl2 => k H locs ls2 hW hS (as_set (i := 7) hk hl2))
theorem v_iinc_7 (R : Ru l D cs φ own cc nL fr lo V) {a0 a1 a2 a3 a4 a5 a6 : Option Value} {r : List (Option Value)} {x : Int32} {n : Int} (v : Int32) (d : decode cc pc = .ok (.iinc 7 n, 3)) (hn : 7 < nL) (hk : stOk (a0 :: a1 :: a2 :: a3 :: a4 :: a5 :: a6 :: some (.int x) :: r) 7 = true) (hv : Int32.ofInt n = v) (k : V (pc + 3) (a0 :: a1 :: a2 :: a3 :: a4 :: a5 :: a6 :: some (.int (x + v)) :: r) st h) : V pc (a0 :: a1 :: a2 :: a3 :: a4 :: a5 :: a6 :: some (.int x) :: r) st h := by
  obtain ⟨p, e, Rm, s, m, args, below, meth, c, A, cells, slots, Q, hx, hb, hml, hown, hts, hC, hA, hfr, hlo, hce, hsl, rfl⟩ := R
  subst hv
  intro H locs ls hW hS hl
  obtain ⟨k2, hk2⟩ := List.getElem?_of_mem (asl_in (n := 0) (lc := a0 :: a1 :: a2 :: a3 :: a4 :: a5 :: a6 :: some (.int x) :: r) (i := 7) (v := .int x) rfl)
  exact lv_iinc hx hb d hl (k := k2) (by rw [hk2]) rfl hn rfl (fun ls2 hl2 => k H locs ls2 hW hS (as_set (i := 7) hk hl2))
theorem v_iload_8 (R : Ru l D cs φ own cc nL fr lo V) {a0 a1 a2 a3 a4 a5 a6 a7 : Option Value} {r : List (Option Value)} {x : Int32} (d : decode cc pc = .ok (.iload 8, 2)) (k : V (pc + 2) (a0 :: a1 :: a2 :: a3 :: a4 :: a5 :: a6 :: a7 :: some (.int x) :: r) (.int x :: st) h) : V pc (a0 :: a1 :: a2 :: a3 :: a4 :: a5 :: a6 :: a7 :: some (.int x) :: r) st h := by
  obtain ⟨p, e, Rm, s, m, args, below, meth, c, A, cells, slots, Q, hx, hb, hml, hown, hts, hC, hA, hfr, hlo, hce, hsl, rfl⟩ := R
  exact fun H locs ls hW hS hl => lv_iload hx hb d (as_at hl (i := 8) rfl) (k H locs ls hW hS hl)
theorem v_aload_8 (R : Ru l D cs φ own cc nL fr lo V) {a0 a1 a2 a3 a4 a5 a6 a7 : Option Value} {r : List (Option Value)} {x : Nat} (d : decode cc pc = .ok (.aload 8, 2)) (k : V (pc + 2) (a0 :: a1 :: a2 :: a3 :: a4 :: a5 :: a6 :: a7 :: some (.ref x) :: r) (.ref x :: st) h) : V pc (a0 :: a1 :: a2 :: a3 :: a4 :: a5 :: a6 :: a7 :: some (.ref x) :: r) st h := by
  obtain ⟨p, e, Rm, s, m, args, below, meth, c, A, cells, slots, Q, hx, hb, hml, hown, hts, hC, hA, hfr, hlo, hce, hsl, rfl⟩ := R
  exact fun H locs ls hW hS hl => lv_aload hx hb d (as_at hl (i := 8) rfl) (k H locs ls hW hS hl)
theorem v_istore_8 (R : Ru l D cs φ own cc nL fr lo V) {a0 a1 a2 a3 a4 a5 a6 a7 : Option Value} {z : Option Value} {r : List (Option Value)} {x : Int32} (d : decode cc pc = .ok (.istore 8, 2)) (hn : 8 < nL) (hk : stOk (a0 :: a1 :: a2 :: a3 :: a4 :: a5 :: a6 :: a7 :: z :: r) 8 = true) (k : V (pc + 2) (a0 :: a1 :: a2 :: a3 :: a4 :: a5 :: a6 :: a7 :: some (.int x) :: r) st h) : V pc (a0 :: a1 :: a2 :: a3 :: a4 :: a5 :: a6 :: a7 :: z :: r) (.int x :: st) h := by
  obtain ⟨p, e, Rm, s, m, args, below, meth, c, A, cells, slots, Q, hx, hb, hml, hown, hts, hC, hA, hfr, hlo, hce, hsl, rfl⟩ := R
  exact fun H locs ls hW hS hl => lv_istore hx hb d hl hn rfl (fun ls2 hl2 => k H locs ls2 hW hS (as_set (i := 8) hk hl2))
theorem v_astore_8 (R : Ru l D cs φ own cc nL fr lo V) {a0 a1 a2 a3 a4 a5 a6 a7 : Option Value} {z : Option Value} {r : List (Option Value)} {x : Nat} (d : decode cc pc = .ok (.astore 8, 2)) (hn : 8 < nL) (hk : stOk (a0 :: a1 :: a2 :: a3 :: a4 :: a5 :: a6 :: a7 :: z :: r) 8 = true) (k : V (pc + 2) (a0 :: a1 :: a2 :: a3 :: a4 :: a5 :: a6 :: a7 :: some (.ref x) :: r) st h) : V pc (a0 :: a1 :: a2 :: a3 :: a4 :: a5 :: a6 :: a7 :: z :: r) (.ref x :: st) h := by
  obtain ⟨p, e, Rm, s, m, args, below, meth, c, A, cells, slots, Q, hx, hb, hml, hown, hts, hC, hA, hfr, hlo, hce, hsl, rfl⟩ := R
  exact fun H locs ls hW hS hl => lv_astore hx hb d hl hn rfl (fun ls2 hl2 => k H locs ls2 hW hS (as_set (i := 8) hk hl2))
theorem v_iinc_8 (R : Ru l D cs φ own cc nL fr lo V) {a0 a1 a2 a3 a4 a5 a6 a7 : Option Value} {r : List (Option Value)} {x : Int32} {n : Int} (v : Int32) (d : decode cc pc = .ok (.iinc 8 n, 3)) (hn : 8 < nL) (hk : stOk (a0 :: a1 :: a2 :: a3 :: a4 :: a5 :: a6 :: a7 :: some (.int x) :: r) 8 = true) (hv : Int32.ofInt n = v) (k : V (pc + 3) (a0 :: a1 :: a2 :: a3 :: a4 :: a5 :: a6 :: a7 :: some (.int (x + v)) :: r) st h) : V pc (a0 :: a1 :: a2 :: a3 :: a4 :: a5 :: a6 :: a7 :: some (.int x) :: r) st h := by
  obtain ⟨p, e, Rm, s, m, args, below, meth, c, A, cells, slots, Q, hx, hb, hml, hown, hts, hC, hA, hfr, hlo, hce, hsl, rfl⟩ := R
  subst hv
  intro H locs ls hW hS hl
  obtain ⟨k2, hk2⟩ := List.getElem?_of_mem (asl_in (n := 0) (lc := a0 :: a1 :: a2 :: a3 :: a4 :: a5 :: a6 :: a7 :: some (.int x) :: r) (i := 8) (v := .int x) rfl)
  exact lv_iinc hx hb d hl (k := k2) (by rw [hk2]) rfl hn rfl (fun ls2 hl2 => k H locs ls2 hW hS (as_set (i := 8) hk hl2))
theorem v_iload_9 (R : Ru l D cs φ own cc nL fr lo V) {a0 a1 a2 a3 a4 a5 a6 a7 a8 : Option Value} {r : List (Option Value)} {x : Int32} (d : decode cc pc = .ok (.iload 9, 2)) (k : V (pc + 2) (a0 :: a1 :: a2 :: a3 :: a4 :: a5 :: a6 :: a7 :: a8 :: some (.int x) :: r) (.int x :: st) h) : V pc (a0 :: a1 :: a2 :: a3 :: a4 :: a5 :: a6 :: a7 :: a8 :: some (.int x) :: r) st h := by
  obtain ⟨p, e, Rm, s, m, args, below, meth, c, A, cells, slots, Q, hx, hb, hml, hown, hts, hC, hA, hfr, hlo, hce, hsl, rfl⟩ := R
  exact fun H locs ls hW hS hl => lv_iload hx hb d (as_at hl (i := 9) rfl) (k H locs ls hW hS hl)
theorem v_aload_9 (R : Ru l D cs φ own cc nL fr lo V) {a0 a1 a2 a3 a4 a5 a6 a7 a8 : Option Value} {r : List (Option Value)} {x : Nat} (d : decode cc pc = .ok (.aload 9, 2)) (k : V (pc + 2) (a0 :: a1 :: a2 :: a3 :: a4 :: a5 :: a6 :: a7 :: a8 :: some (.ref x) :: r) (.ref x :: st) h) : V pc (a0 :: a1 :: a2 :: a3 :: a4 :: a5 :: a6 :: a7 :: a8 :: some (.ref x) :: r) st h := by
  obtain ⟨p, e, Rm, s, m, args, below, meth, c, A, cells, slots, Q, hx, hb, hml, hown, hts, hC, hA, hfr, hlo, hce, hsl, rfl⟩ := R
  exact fun H locs ls hW hS hl => lv_aload hx hb d (as_at hl (i := 9) rfl) (k H locs ls hW hS hl)
theorem v_istore_9 (R : Ru l D cs φ own cc nL fr lo V) {a0 a1 a2 a3 a4 a5 a6 a7 a8 : Option Value} {z : Option Value} {r : List (Option Value)} {x : Int32} (d : decode cc pc = .ok (.istore 9, 2)) (hn : 9 < nL) (hk : stOk (a0 :: a1 :: a2 :: a3 :: a4 :: a5 :: a6 :: a7 :: a8 :: z :: r) 9 = true) (k : V (pc + 2) (a0 :: a1 :: a2 :: a3 :: a4 :: a5 :: a6 :: a7 :: a8 :: some (.int x) :: r) st h) : V pc (a0 :: a1 :: a2 :: a3 :: a4 :: a5 :: a6 :: a7 :: a8 :: z :: r) (.int x :: st) h := by
  obtain ⟨p, e, Rm, s, m, args, below, meth, c, A, cells, slots, Q, hx, hb, hml, hown, hts, hC, hA, hfr, hlo, hce, hsl, rfl⟩ := R
  exact fun H locs ls hW hS hl => lv_istore hx hb d hl hn rfl (fun ls2 hl2 => k H locs ls2 hW hS (as_set (i := 9) hk hl2))
theorem v_astore_9 (R : Ru l D cs φ own cc nL fr lo V) {a0 a1 a2 a3 a4 a5 a6 a7 a8 : Option Value} {z : Option Value} {r : List (Option Value)} {x : Nat} (d : decode cc pc = .ok (.astore 9, 2)) (hn : 9 < nL) (hk : stOk (a0 :: a1 :: a2 :: a3 :: a4 :: a5 :: a6 :: a7 :: a8 :: z :: r) 9 = true) (k : V (pc + 2) (a0 :: a1 :: a2 :: a3 :: a4 :: a5 :: a6 :: a7 :: a8 :: some (.ref x) :: r) st h) : V pc (a0 :: a1 :: a2 :: a3 :: a4 :: a5 :: a6 :: a7 :: a8 :: z :: r) (.ref x :: st) h := by
  obtain ⟨p, e, Rm, s, m, args, below, meth, c, A, cells, slots, Q, hx, hb, hml, hown, hts, hC, hA, hfr, hlo, hce, hsl, rfl⟩ := R
  exact fun H locs ls hW hS hl => lv_astore hx hb d hl hn rfl (fun ls2 hl2 => k H locs ls2 hW hS (as_set (i := 9) hk hl2))
theorem v_iinc_9 (R : Ru l D cs φ own cc nL fr lo V) {a0 a1 a2 a3 a4 a5 a6 a7 a8 : Option Value} {r : List (Option Value)} {x : Int32} {n : Int} (v : Int32) (d : decode cc pc = .ok (.iinc 9 n, 3)) (hn : 9 < nL) (hk : stOk (a0 :: a1 :: a2 :: a3 :: a4 :: a5 :: a6 :: a7 :: a8 :: some (.int x) :: r) 9 = true) (hv : Int32.ofInt n = v) (k : V (pc + 3) (a0 :: a1 :: a2 :: a3 :: a4 :: a5 :: a6 :: a7 :: a8 :: some (.int (x + v)) :: r) st h) : V pc (a0 :: a1 :: a2 :: a3 :: a4 :: a5 :: a6 :: a7 :: a8 :: some (.int x) :: r) st h := by
  obtain ⟨p, e, Rm, s, m, args, below, meth, c, A, cells, slots, Q, hx, hb, hml, hown, hts, hC, hA, hfr, hlo, hce, hsl, rfl⟩ := R
  subst hv
  intro H locs ls hW hS hl
  obtain ⟨k2, hk2⟩ := List.getElem?_of_mem (asl_in (n := 0) (lc := a0 :: a1 :: a2 :: a3 :: a4 :: a5 :: a6 :: a7 :: a8 :: some (.int x) :: r) (i := 9) (v := .int x) rfl)
  exact lv_iinc hx hb d hl (k := k2) (by rw [hk2]) rfl hn rfl (fun ls2 hl2 => k H locs ls2 hW hS (as_set (i := 9) hk hl2))
theorem v_iload_10 (R : Ru l D cs φ own cc nL fr lo V) {a0 a1 a2 a3 a4 a5 a6 a7 a8 a9 : Option Value} {r : List (Option Value)} {x : Int32} (d : decode cc pc = .ok (.iload 10, 2)) (k : V (pc + 2) (a0 :: a1 :: a2 :: a3 :: a4 :: a5 :: a6 :: a7 :: a8 :: a9 :: some (.int x) :: r) (.int x :: st) h) : V pc (a0 :: a1 :: a2 :: a3 :: a4 :: a5 :: a6 :: a7 :: a8 :: a9 :: some (.int x) :: r) st h := by
  obtain ⟨p, e, Rm, s, m, args, below, meth, c, A, cells, slots, Q, hx, hb, hml, hown, hts, hC, hA, hfr, hlo, hce, hsl, rfl⟩ := R
  exact fun H locs ls hW hS hl => lv_iload hx hb d (as_at hl (i := 10) rfl) (k H locs ls hW hS hl)
theorem v_aload_10 (R : Ru l D cs φ own cc nL fr lo V) {a0 a1 a2 a3 a4 a5 a6 a7 a8 a9 : Option Value} {r : List (Option Value)} {x : Nat} (d : decode cc pc = .ok (.aload 10, 2)) (k : V (pc + 2) (a0 :: a1 :: a2 :: a3 :: a4 :: a5 :: a6 :: a7 :: a8 :: a9 :: some (.ref x) :: r) (.ref x :: st) h) : V pc (a0 :: a1 :: a2 :: a3 :: a4 :: a5 :: a6 :: a7 :: a8 :: a9 :: some (.ref x) :: r) st h := by
  obtain ⟨p, e, Rm, s, m, args, below, meth, c, A, cells, slots, Q, hx, hb, hml, hown, hts, hC, hA, hfr, hlo, hce, hsl, rfl⟩ := R
  exact fun H locs ls hW hS hl => lv_aload hx hb d (as_at hl (i := 10) rfl) (k H locs ls hW hS hl)
theorem v_istore_10 (R : Ru l D cs φ own cc nL fr lo V) {a0 a1 a2 a3 a4 a5 a6 a7 a8 a9 : Option Value} {z : Option Value} {r : List (Option Value)} {x : Int32} (d : decode cc pc = .ok (.istore 10, 2)) (hn : 10 < nL) (hk : stOk (a0 :: a1 :: a2 :: a3 :: a4 :: a5 :: a6 :: a7 :: a8 :: a9 :: z :: r) 10 = true) (k : V (pc + 2) (a0 :: a1 :: a2 :: a3 :: a4 :: a5 :: a6 :: a7 :: a8 :: a9 :: some (.int x) :: r) st h) : V pc (a0 :: a1 :: a2 :: a3 :: a4 :: a5 :: a6 :: a7 :: a8 :: a9 :: z :: r) (.int x :: st) h := by
  obtain ⟨p, e, Rm, s, m, args, below, meth, c, A, cells, slots, Q, hx, hb, hml, hown, hts, hC, hA, hfr, hlo, hce, hsl, rfl⟩ := R
  exact fun H locs ls hW hS hl => lv_istore hx hb d hl hn rfl (fun ls2 hl2 => k H locs ls2 hW hS (as_set (i := 10) hk hl2))
theorem v_astore_10 (R : Ru l D cs φ own cc nL fr lo V) {a0 a1 a2 a3 a4 a5 a6 a7 a8 a9 : Option Value} {z : Option Value} {r : List (Option Value)} {x : Nat} (d : decode cc pc = .ok (.astore 10, 2)) (hn : 10 < nL) (hk : stOk (a0 :: a1 :: a2 :: a3 :: a4 :: a5 :: a6 :: a7 :: a8 :: a9 :: z :: r) 10 = true) (k : V (pc + 2) (a0 :: a1 :: a2 :: a3 :: a4 :: a5 :: a6 :: a7 :: a8 :: a9 :: some (.ref x) :: r) st h) : V pc (a0 :: a1 :: a2 :: a3 :: a4 :: a5 :: a6 :: a7 :: a8 :: a9 :: z :: r) (.ref x :: st) h := by
  obtain ⟨p, e, Rm, s, m, args, below, meth, c, A, cells, slots, Q, hx, hb, hml, hown, hts, hC, hA, hfr, hlo, hce, hsl, rfl⟩ := R
  exact fun H locs ls hW hS hl => lv_astore hx hb d hl hn rfl (fun ls2 hl2 => k H locs ls2 hW hS (as_set (i := 10) hk hl2))
theorem v_iinc_10 (R : Ru l D cs φ own cc nL fr lo V) {a0 a1 a2 a3 a4 a5 a6 a7 a8 a9 : Option Value} {r : List (Option Value)} {x : Int32} {n : Int} (v : Int32) (d : decode cc pc = .ok (.iinc 10 n, 3)) (hn : 10 < nL) (hk : stOk (a0 :: a1 :: a2 :: a3 :: a4 :: a5 :: a6 :: a7 :: a8 :: a9 :: some (.int x) :: r) 10 = true) (hv : Int32.ofInt n = v) (k : V (pc + 3) (a0 :: a1 :: a2 :: a3 :: a4 :: a5 :: a6 :: a7 :: a8 :: a9 :: some (.int (x + v)) :: r) st h) : V pc (a0 :: a1 :: a2 :: a3 :: a4 :: a5 :: a6 :: a7 :: a8 :: a9 :: some (.int x) :: r) st h := by
  obtain ⟨p, e, Rm, s, m, args, below, meth, c, A, cells, slots, Q, hx, hb, hml, hown, hts, hC, hA, hfr, hlo, hce, hsl, rfl⟩ := R
  subst hv
  intro H locs ls hW hS hl
  obtain ⟨k2, hk2⟩ := List.getElem?_of_mem (asl_in (n := 0) (lc := a0 :: a1 :: a2 :: a3 :: a4 :: a5 :: a6 :: a7 :: a8 :: a9 :: some (.int x) :: r) (i := 10) (v := .int x) rfl)
  exact lv_iinc hx hb d hl (k := k2) (by rw [hk2]) rfl hn rfl (fun ls2 hl2 => k H locs ls2 hW hS (as_set (i := 10) hk hl2))
theorem v_iload_11 (R : Ru l D cs φ own cc nL fr lo V) {a0 a1 a2 a3 a4 a5 a6 a7 a8 a9 a10 : Option Value} {r : List (Option Value)} {x : Int32} (d : decode cc pc = .ok (.iload 11, 2)) (k : V (pc + 2) (a0 :: a1 :: a2 :: a3 :: a4 :: a5 :: a6 :: a7 :: a8 :: a9 :: a10 :: some (.int x) :: r) (.int x :: st) h) : V pc (a0 :: a1 :: a2 :: a3 :: a4 :: a5 :: a6 :: a7 :: a8 :: a9 :: a10 :: some (.int x) :: r) st h := by
  obtain ⟨p, e, Rm, s, m, args, below, meth, c, A, cells, slots, Q, hx, hb, hml, hown, hts, hC, hA, hfr, hlo, hce, hsl, rfl⟩ := R
  exact fun H locs ls hW hS hl => lv_iload hx hb d (as_at hl (i := 11) rfl) (k H locs ls hW hS hl)
theorem v_aload_11 (R : Ru l D cs φ own cc nL fr lo V) {a0 a1 a2 a3 a4 a5 a6 a7 a8 a9 a10 : Option Value} {r : List (Option Value)} {x : Nat} (d : decode cc pc = .ok (.aload 11, 2)) (k : V (pc + 2) (a0 :: a1 :: a2 :: a3 :: a4 :: a5 :: a6 :: a7 :: a8 :: a9 :: a10 :: some (.ref x) :: r) (.ref x :: st) h) : V pc (a0 :: a1 :: a2 :: a3 :: a4 :: a5 :: a6 :: a7 :: a8 :: a9 :: a10 :: some (.ref x) :: r) st h := by
  obtain ⟨p, e, Rm, s, m, args, below, meth, c, A, cells, slots, Q, hx, hb, hml, hown, hts, hC, hA, hfr, hlo, hce, hsl, rfl⟩ := R
  exact fun H locs ls hW hS hl => lv_aload hx hb d (as_at hl (i := 11) rfl) (k H locs ls hW hS hl)
theorem v_istore_11 (R : Ru l D cs φ own cc nL fr lo V) {a0 a1 a2 a3 a4 a5 a6 a7 a8 a9 a10 : Option Value} {z : Option Value} {r : List (Option Value)} {x : Int32} (d : decode cc pc = .ok (.istore 11, 2)) (hn : 11 < nL) (hk : stOk (a0 :: a1 :: a2 :: a3 :: a4 :: a5 :: a6 :: a7 :: a8 :: a9 :: a10 :: z :: r) 11 = true) (k : V (pc + 2) (a0 :: a1 :: a2 :: a3 :: a4 :: a5 :: a6 :: a7 :: a8 :: a9 :: a10 :: some (.int x) :: r) st h) : V pc (a0 :: a1 :: a2 :: a3 :: a4 :: a5 :: a6 :: a7 :: a8 :: a9 :: a10 :: z :: r) (.int x :: st) h := by
  obtain ⟨p, e, Rm, s, m, args, below, meth, c, A, cells, slots, Q, hx, hb, hml, hown, hts, hC, hA, hfr, hlo, hce, hsl, rfl⟩ := R
  exact fun H locs ls hW hS hl => lv_istore hx hb d hl hn rfl (fun ls2 hl2 => k H locs ls2 hW hS (as_set (i := 11) hk hl2))
theorem v_astore_11 (R : Ru l D cs φ own cc nL fr lo V) {a0 a1 a2 a3 a4 a5 a6 a7 a8 a9 a10 : Option Value} {z : Option Value} {r : List (Option Value)} {x : Nat} (d : decode cc pc = .ok (.astore 11, 2)) (hn : 11 < nL) (hk : stOk (a0 :: a1 :: a2 :: a3 :: a4 :: a5 :: a6 :: a7 :: a8 :: a9 :: a10 :: z :: r) 11 = true) (k : V (pc + 2) (a0 :: a1 :: a2 :: a3 :: a4 :: a5 :: a6 :: a7 :: a8 :: a9 :: a10 :: some (.ref x) :: r) st h) : V pc (a0 :: a1 :: a2 :: a3 :: a4 :: a5 :: a6 :: a7 :: a8 :: a9 :: a10 :: z :: r) (.ref x :: st) h := by
  obtain ⟨p, e, Rm, s, m, args, below, meth, c, A, cells, slots, Q, hx, hb, hml, hown, hts, hC, hA, hfr, hlo, hce, hsl, rfl⟩ := R
  exact fun H locs ls hW hS hl => lv_astore hx hb d hl hn rfl (fun ls2 hl2 => k H locs ls2 hW hS (as_set (i := 11) hk hl2))
theorem v_iinc_11 (R : Ru l D cs φ own cc nL fr lo V) {a0 a1 a2 a3 a4 a5 a6 a7 a8 a9 a10 : Option Value} {r : List (Option Value)} {x : Int32} {n : Int} (v : Int32) (d : decode cc pc = .ok (.iinc 11 n, 3)) (hn : 11 < nL) (hk : stOk (a0 :: a1 :: a2 :: a3 :: a4 :: a5 :: a6 :: a7 :: a8 :: a9 :: a10 :: some (.int x) :: r) 11 = true) (hv : Int32.ofInt n = v) (k : V (pc + 3) (a0 :: a1 :: a2 :: a3 :: a4 :: a5 :: a6 :: a7 :: a8 :: a9 :: a10 :: some (.int (x + v)) :: r) st h) : V pc (a0 :: a1 :: a2 :: a3 :: a4 :: a5 :: a6 :: a7 :: a8 :: a9 :: a10 :: some (.int x) :: r) st h := by
  obtain ⟨p, e, Rm, s, m, args, below, meth, c, A, cells, slots, Q, hx, hb, hml, hown, hts, hC, hA, hfr, hlo, hce, hsl, rfl⟩ := R
  subst hv
  intro H locs ls hW hS hl
  obtain ⟨k2, hk2⟩ := List.getElem?_of_mem (asl_in (n := 0) (lc := a0 :: a1 :: a2 :: a3 :: a4 :: a5 :: a6 :: a7 :: a8 :: a9 :: a10 :: some (.int x) :: r) (i := 11) (v := .int x) rfl)
  exact lv_iinc hx hb d hl (k := k2) (by rw [hk2]) rfl hn rfl (fun ls2 hl2 => k H locs ls2 hW hS (as_set (i := 11) hk hl2))
theorem v_iload_12 (R : Ru l D cs φ own cc nL fr lo V) {a0 a1 a2 a3 a4 a5 a6 a7 a8 a9 a10 a11 : Option Value} {r : List (Option Value)} {x : Int32} (d : decode cc pc = .ok (.iload 12, 2)) (k : V (pc + 2) (a0 :: a1 :: a2 :: a3 :: a4 :: a5 :: a6 :: a7 :: a8 :: a9 :: a10 :: a11 :: some (.int x) :: r) (.int x :: st) h) : V pc (a0 :: a1 :: a2 :: a3 :: a4 :: a5 :: a6 :: a7 :: a8 :: a9 :: a10 :: a11 :: some (.int x) :: r) st h := by
  obtain ⟨p, e, Rm, s, m, args, below, meth, c, A, cells, slots, Q, hx, hb, hml, hown, hts, hC, hA, hfr, hlo, hce, hsl, rfl⟩ := R
  exact fun H locs ls hW hS hl => lv_iload hx hb d (as_at hl (i := 12) rfl) (k H locs ls hW hS hl)
theorem v_aload_12 (R : Ru l D cs φ own cc nL fr lo V) {a0 a1 a2 a3 a4 a5 a6 a7 a8 a9 a10 a11 : Option Value} {r : List (Option Value)} {x : Nat} (d : decode cc pc = .ok (.aload 12, 2)) (k : V (pc + 2) (a0 :: a1 :: a2 :: a3 :: a4 :: a5 :: a6 :: a7 :: a8 :: a9 :: a10 :: a11 :: some (.ref x) :: r) (.ref x :: st) h) : V pc (a0 :: a1 :: a2 :: a3 :: a4 :: a5 :: a6 :: a7 :: a8 :: a9 :: a10 :: a11 :: some (.ref x) :: r) st h := by
  obtain ⟨p, e, Rm, s, m, args, below, meth, c, A, cells, slots, Q, hx, hb, hml, hown, hts, hC, hA, hfr, hlo, hce, hsl, rfl⟩ := R
  exact fun H locs ls hW hS hl => lv_aload hx hb d (as_at hl (i := 12) rfl) (k H locs ls hW hS hl)
theorem v_istore_12 (R : Ru l D cs φ own cc nL fr lo V) {a0 a1 a2 a3 a4 a5 a6 a7 a8 a9 a10 a11 : Option Value} {z : Option Value} {r : List (Option Value)} {x : Int32} (d : decode cc pc = .ok (.istore 12, 2)) (hn : 12 < nL) (hk : stOk (a0 :: a1 :: a2 :: a3 :: a4 :: a5 :: a6 :: a7 :: a8 :: a9 :: a10 :: a11 :: z :: r) 12 = true) (k : V (pc + 2) (a0 :: a1 :: a2 :: a3 :: a4 :: a5 :: a6 :: a7 :: a8 :: a9 :: a10 :: a11 :: some (.int x) :: r) st h) : V pc (a0 :: a1 :: a2 :: a3 :: a4 :: a5 :: a6 :: a7 :: a8 :: a9 :: a10 :: a11 :: z :: r) (.int x :: st) h := by
  obtain ⟨p, e, Rm, s, m, args, below, meth, c, A, cells, slots, Q, hx, hb, hml, hown, hts, hC, hA, hfr, hlo, hce, hsl, rfl⟩ := R
  exact fun H locs ls hW hS hl => lv_istore hx hb d hl hn rfl (fun ls2 hl2 => k H locs ls2 hW hS (as_set (i := 12) hk hl2))
theorem v_astore_12 (R : Ru l D cs φ own cc nL fr lo V) {a0 a1 a2 a3 a4 a5 a6 a7 a8 a9 a10 a11 : Option Value} {z : Option Value} {r : List (Option Value)} {x : Nat} (d : decode cc pc = .ok (.astore 12, 2)) (hn : 12 < nL) (hk : stOk (a0 :: a1 :: a2 :: a3 :: a4 :: a5 :: a6 :: a7 :: a8 :: a9 :: a10 :: a11 :: z :: r) 12 = true) (k : V (pc + 2) (a0 :: a1 :: a2 :: a3 :: a4 :: a5 :: a6 :: a7 :: a8 :: a9 :: a10 :: a11 :: some (.ref x) :: r) st h) : V pc (a0 :: a1 :: a2 :: a3 :: a4 :: a5 :: a6 :: a7 :: a8 :: a9 :: a10 :: a11 :: z :: r) (.ref x :: st) h := by
  obtain ⟨p, e, Rm, s, m, args, below, meth, c, A, cells, slots, Q, hx, hb, hml, hown, hts, hC, hA, hfr, hlo, hce, hsl, rfl⟩ := R
  exact fun H locs ls hW hS hl => lv_astore hx hb d hl hn rfl (fun ls2 hl2 => k H locs ls2 hW hS (as_set (i := 12) hk hl2))
theorem v_iinc_12 (R : Ru l D cs φ own cc nL fr lo V) {a0 a1 a2 a3 a4 a5 a6 a7 a8 a9 a10 a11 : Option Value} {r : List (Option Value)} {x : Int32} {n : Int} (v : Int32) (d : decode cc pc = .ok (.iinc 12 n, 3)) (hn : 12 < nL) (hk : stOk (a0 :: a1 :: a2 :: a3 :: a4 :: a5 :: a6 :: a7 :: a8 :: a9 :: a10 :: a11 :: some (.int x) :: r) 12 = true) (hv : Int32.ofInt n = v) (k : V (pc + 3) (a0 :: a1 :: a2 :: a3 :: a4 :: a5 :: a6 :: a7 :: a8 :: a9 :: a10 :: a11 :: some (.int (x + v)) :: r) st h) : V pc (a0 :: a1 :: a2 :: a3 :: a4 :: a5 :: a6 :: a7 :: a8 :: a9 :: a10 :: a11 :: some (.int x) :: r) st h := by
  obtain ⟨p, e, Rm, s, m, args, below, meth, c, A, cells, slots, Q, hx, hb, hml, hown, hts, hC, hA, hfr, hlo, hce, hsl, rfl⟩ := R
  subst hv
  intro H locs ls hW hS hl
  obtain ⟨k2, hk2⟩ := List.getElem?_of_mem (asl_in (n := 0) (lc := a0 :: a1 :: a2 :: a3 :: a4 :: a5 :: a6 :: a7 :: a8 :: a9 :: a10 :: a11 :: some (.int x) :: r) (i := 12) (v := .int x) rfl)
  exact lv_iinc hx hb d hl (k := k2) (by rw [hk2]) rfl hn rfl (fun ls2 hl2 => k H locs ls2 hW hS (as_set (i := 12) hk hl2))
theorem v_iload_13 (R : Ru l D cs φ own cc nL fr lo V) {a0 a1 a2 a3 a4 a5 a6 a7 a8 a9 a10 a11 a12 : Option Value} {r : List (Option Value)} {x : Int32} (d : decode cc pc = .ok (.iload 13, 2)) (k : V (pc + 2) (a0 :: a1 :: a2 :: a3 :: a4 :: a5 :: a6 :: a7 :: a8 :: a9 :: a10 :: a11 :: a12 :: some (.int x) :: r) (.int x :: st) h) : V pc (a0 :: a1 :: a2 :: a3 :: a4 :: a5 :: a6 :: a7 :: a8 :: a9 :: a10 :: a11 :: a12 :: some (.int x) :: r) st h := by
  obtain ⟨p, e, Rm, s, m, args, below, meth, c, A, cells, slots, Q, hx, hb, hml, hown, hts, hC, hA, hfr, hlo, hce, hsl, rfl⟩ := R
  exact fun H locs ls hW hS hl => lv_iload hx hb d (as_at hl (i := 13) rfl) (k H locs ls hW hS hl)
theorem v_aload_13 (R : Ru l D cs φ own cc nL fr lo V) {a0 a1 a2 a3 a4 a5 a6 a7 a8 a9 a10 a11 a12 : Option Value} {r : List (Option Value)} {x : Nat} (d : decode cc pc = .ok (.aload 13, 2)) (k : V (pc + 2) (a0 :: a1 :: a2 :: a3 :: a4 :: a5 :: a6 :: a7 :: a8 :: a9 :: a10 :: a11 :: a12 :: some (.ref x) :: r) (.ref x :: st) h) : V pc (a0 :: a1 :: a2 :: a3 :: a4 :: a5 :: a6 :: a7 :: a8 :: a9 :: a10 :: a11 :: a12 :: some (.ref x) :: r) st h := by
  obtain ⟨p, e, Rm, s, m, args, below, meth, c, A, cells, slots, Q, hx, hb, hml, hown, hts, hC, hA, hfr, hlo, hce, hsl, rfl⟩ := R
  exact fun H locs ls hW hS hl => lv_aload hx hb d (as_at hl (i := 13) rfl) (k H locs ls hW hS hl)
theorem v_istore_13 (R : Ru l D cs φ own cc nL fr lo V) {a0 a1 a2 a3 a4 a5 a6 a7 a8 a9 a10 a11 a12 : Option Value} {z : Option Value} {r : List (Option Value)} {x : Int32} (d : decode cc pc = .ok (.istore 13, 2)) (hn : 13 < nL) (hk : stOk (a0 :: a1 :: a2 :: a3 :: a4 :: a5 :: a6 :: a7 :: a8 :: a9 :: a10 :: a11 :: a12 :: z :: r) 13 = true) (k : V (pc + 2) (a0 :: a1 :: a2 :: a3 :: a4 :: a5 :: a6 :: a7 :: a8 :: a9 :: a10 :: a11 :: a12 :: some (.int x) :: r) st h) : V pc (a0 :: a1 :: a2 :: a3 :: a4 :: a5 :: a6 :: a7 :: a8 :: a9 :: a10 :: a11 :: a12 :: z :: r) (.int x :: st) h := by
  obtain ⟨p, e, Rm, s, m, args, below, meth, c, A, cells, slots, Q, hx, hb, hml, hown, hts, hC, hA, hfr, hlo, hce, hsl, rfl⟩ := R
  exact fun H locs ls hW hS hl => lv_istore hx hb d hl hn rfl (fun ls2 hl2 => k H locs ls2 hW hS (as_set (i := 13) hk hl2))
theorem v_astore_13 (R : Ru l D cs φ own cc nL fr lo V) {a0 a1 a2 a3 a4 a5 a6 a7 a8 a9 a10 a11 a12 : Option Value} {z : Option Value} {r : List (Option Value)} {x : Nat} (d : decode cc pc = .ok (.astore 13, 2)) (hn : 13 < nL) (hk : stOk (a0 :: a1 :: a2 :: a3 :: a4 :: a5 :: a6 :: a7 :: a8 :: a9 :: a10 :: a11 :: a12 :: z :: r) 13 = true) (k : V (pc + 2) (a0 :: a1 :: a2 :: a3 :: a4 :: a5 :: a6 :: a7 :: a8 :: a9 :: a10 :: a11 :: a12 :: some (.ref x) :: r) st h) : V pc (a0 :: a1 :: a2 :: a3 :: a4 :: a5 :: a6 :: a7 :: a8 :: a9 :: a10 :: a11 :: a12 :: z :: r) (.ref x :: st) h := by
  obtain ⟨p, e, Rm, s, m, args, below, meth, c, A, cells, slots, Q, hx, hb, hml, hown, hts, hC, hA, hfr, hlo, hce, hsl, rfl⟩ := R
  exact fun H locs ls hW hS hl => lv_astore hx hb d hl hn rfl (fun ls2 hl2 => k H locs ls2 hW hS (as_set (i := 13) hk hl2))
theorem v_iinc_13 (R : Ru l D cs φ own cc nL fr lo V) {a0 a1 a2 a3 a4 a5 a6 a7 a8 a9 a10 a11 a12 : Option Value} {r : List (Option Value)} {x : Int32} {n : Int} (v : Int32) (d : decode cc pc = .ok (.iinc 13 n, 3)) (hn : 13 < nL) (hk : stOk (a0 :: a1 :: a2 :: a3 :: a4 :: a5 :: a6 :: a7 :: a8 :: a9 :: a10 :: a11 :: a12 :: some (.int x) :: r) 13 = true) (hv : Int32.ofInt n = v) (k : V (pc + 3) (a0 :: a1 :: a2 :: a3 :: a4 :: a5 :: a6 :: a7 :: a8 :: a9 :: a10 :: a11 :: a12 :: some (.int (x + v)) :: r) st h) : V pc (a0 :: a1 :: a2 :: a3 :: a4 :: a5 :: a6 :: a7 :: a8 :: a9 :: a10 :: a11 :: a12 :: some (.int x) :: r) st h := by
  obtain ⟨p, e, Rm, s, m, args, below, meth, c, A, cells, slots, Q, hx, hb, hml, hown, hts, hC, hA, hfr, hlo, hce, hsl, rfl⟩ := R
  subst hv
  intro H locs ls hW hS hl
  obtain ⟨k2, hk2⟩ := List.getElem?_of_mem (asl_in (n := 0) (lc := a0 :: a1 :: a2 :: a3 :: a4 :: a5 :: a6 :: a7 :: a8 :: a9 :: a10 :: a11 :: a12 :: some (.int x) :: r) (i := 13) (v := .int x) rfl)
  exact lv_iinc hx hb d hl (k := k2) (by rw [hk2]) rfl hn rfl (fun ls2 hl2 => k H locs ls2 hW hS (as_set (i := 13) hk hl2))
theorem v_lload_3 (R : Ru l D cs φ own cc nL fr lo V) {a0 a1 a2 : Option Value} {r : List (Option Value)} {x : Int64} (d : decode cc pc = .ok (.lload_n 3, 1)) (k : V (pc + 1) (a0 :: a1 :: a2 :: some (.long x) :: r) (.long x :: st) h) : V pc (a0 :: a1 :: a2 :: some (.long x) :: r) st h := by
  obtain ⟨p, e, Rm, s, m, args, below, meth, c, A, cells, slots, Q, hx, hb, hml, hown, hts, hC, hA, hfr, hlo, hce, hsl, rfl⟩ := R
  exact fun H locs ls hW hS hl => lv_lload_n hx hb d rfl (as_at hl (i := 3) rfl) (k H locs ls hW hS hl)
theorem v_lstore_3 (R : Ru l D cs φ own cc nL fr lo V) {a0 a1 a2 z z2 : Option Value} {r : List (Option Value)} {x : Int64} (d : decode cc pc = .ok (.lstore_n 3, 1)) (hn : 4 < nL) (hk : stOk (a0 :: a1 :: a2 :: z :: z2 :: r) 3 = true) (k : V (pc + 1) (a0 :: a1 :: a2 :: some (.long x) :: none :: r) st h) : V pc (a0 :: a1 :: a2 :: z :: z2 :: r) (.long x :: st) h := by
  obtain ⟨p, e, Rm, s, m, args, below, meth, c, A, cells, slots, Q, hx, hb, hml, hown, hts, hC, hA, hfr, hlo, hce, hsl, rfl⟩ := R
  exact fun H locs ls hW hS hl => lv_lstore_n hx hb d rfl hl hn rfl (fun ls2 hl2 => k H locs ls2 hW hS (as_set2 (i := 3) hk hl2))
theorem kd_lt {r K : Nat} (h : kd r = K) (hK : K ≠ 17) : r < 99 := by
  refine Decidable.byContradiction fun q => hK ?_
  rw [← h, kd]
  repeat (first | rw [if_neg (by omega)] | rfl)
theorem v_getG (R : Ru l D cs φ own cc nL fr lo V) {r ci : Nat} {fs : List Value} (hr : r < 99) (he : en cs φ h r = .inr (ci, fs)) {C : String} {T : u_T} {N : Nat} (hc : vwCl[ci]? = some (C, T, N)) (hin : ∀ w ∈ u_ws C T N, w ∈ lw_g) (k : Nat) (hk : k < N) {idx : Nat} (fl : Cond.fieldLink own idx (T k).1 (T k).2.1 (T k).2.2.1 ∈ lw_g) {v : Value} (hv : fs[k]? = some v) (d : decode cc pc = .ok (.getfield idx, 3)) (kk : V (pc + 3) lc (v :: st) h) : V pc lc (.ref (φ r) :: st) h := by
  obtain ⟨p, e, Rm, s, m, args, below, meth, c, A, cells, slots, Q, hx, hb, hml, hown, hts, hC, hA, hfr, hlo, hce, hsl, rfl⟩ := R
  exact fun H locs ls hW hS hl => va_get hx hb hts hin hown hC.1 hW r (by rw [wl_get hr, he]) hc k hk (hts _ fl) (fun _ q => q) hv d (kk H locs ls hW hS hl)
theorem v_putG (R : Ru l D cs φ own cc nL fr lo V) {r ci : Nat} {fs : List Value} (hr : r < 99) (he : en cs φ h r = .inr (ci, fs)) {C : String} {T : u_T} {N : Nat} (hc : vwCl[ci]? = some (C, T, N)) (hin : ∀ w ∈ u_ws C T N, w ∈ lw_g) (ty0 : Nat → FieldType) (hty : ∀ k, k < N → parseFieldDescriptor (T k).2.2.1 = some (ty0 k)) (hnm : ∀ a, a < N → ∀ b, b < N → a ≠ b → (T a).2.1 ≠ (T b).2.1) (k : Nat) (hk : k < N) {idx : Nat} (fl : Cond.fieldLink own idx (T k).1 (T k).2.1 (T k).2.2.1 ∈ lw_g) (hfin : (T k).2.2.2 = false) {ty : FieldType} {v : Value} (hd : parseFieldDescriptor (T k).2.2.1 = some ty) (hn : narrow ty v = v) (hfit : fits ty v = true) (hlen : k < fs.length) {h2 : Hp} (he2 : en cs φ h2 r = .inr (ci, fs.set k v)) (ho : ∀ i, i ≠ r → en cs φ h2 i = en cs φ h i) (d : decode cc pc = .ok (.putfield idx, 3)) (kk : V (pc + 3) lc st h2) : V pc lc (v :: .ref (φ r) :: st) h := by
  obtain ⟨p, e, Rm, s, m, args, below, meth, c, A, cells, slots, Q, hx, hb, hml, hown, hts, hC, hA, hfr, hlo, hce, hsl, rfl⟩ := R
  intro H locs ls hW hS hl
  refine va_put hx hb hts hin ty0 hty hnm hown hC.1 hW (wl_D hC.2.1 hA) hS r (by rw [wl_get hr, he]) hc k hk (hts _ fl) (fun _ q => q) hfin hd hn hfit hlen d (fun H1 locs1 hP hD hS1 => ?_)
  rw [wl_set he2 ho] at hP
  exact kk H1 locs1 ls hP hS1 hl
theorem en_12 {cs : Nat → ClassId} {φ : Nat → Nat} {h : Hp} {r : Nat} (hr : kd r = 12) : en cs φ h r = .inl (cs 0, al r, .inl (h.1 r)) := by unfold en; rw [hr]; rfl
theorem en_16 {cs : Nat → ClassId} {φ : Nat → Nat} {h : Hp} : en cs φ h 89 = .inl (cs 1, 2, .inr (.inl (h.2 89))) := rfl
theorem v_iald (R : Ru l D cs φ own cc nL fr lo V) {r : Nat} {i : Int32} (d : decode cc pc = .ok (.iaload, 1)) (hr : kd r = 12) (hi : vp_in i (al r)) (k : V (pc + 1) lc (.int (h.1 r i.toNatClampNeg) :: st) h) : V pc lc (.int i :: .ref (φ r) :: st) h := by
  obtain ⟨p, e, Rm, s, m, args, below, meth, c, A, cells, slots, Q, hx, hb, hml, hown, hts, hC, hA, hfr, hlo, hce, hsl, rfl⟩ := R
  exact fun H locs ls hW hS hl => va_iald hx hb hC.1 hW r 0 (by rw [wl_get (kd_lt hr (by decide)), en_12 hr]) rfl hi d (k H locs ls hW hS hl)
theorem v_lald (R : Ru l D cs φ own cc nL fr lo V) {i : Int32} (d : decode cc pc = .ok (.laload, 1)) (hi : vp_in i 2) (k : V (pc + 1) lc (.long (h.2 89 i.toNatClampNeg) :: st) h) : V pc lc (.int i :: .ref (φ 89) :: st) h := by
  obtain ⟨p, e, Rm, s, m, args, below, meth, c, A, cells, slots, Q, hx, hb, hml, hown, hts, hC, hA, hfr, hlo, hce, hsl, rfl⟩ := R
  exact fun H locs ls hW hS hl => va_lald hx hb hC.1 hW 89 1 (by rw [wl_get (by decide), en_16]) rfl hi d (k H locs ls hW hS hl)
theorem v_iast (R : Ru l D cs φ own cc nL fr lo V) {r : Nat} {i x : Int32} (d : decode cc pc = .ok (.iastore, 1)) (hr : kd r = 12) (hi : vp_in i (al r)) (k : V (pc + 1) lc st (wi h r i.toNatClampNeg x)) : V pc lc (.int x :: .int i :: .ref (φ r) :: st) h := by
  obtain ⟨p, e, Rm, s, m, args, below, meth, c, A, cells, slots, Q, hx, hb, hml, hown, hts, hC, hA, hfr, hlo, hce, hsl, rfl⟩ := R
  intro H locs ls hW hS hl
  refine va_iast hx hb hC.1 hW (wl_D hC.2.1 hA) hS r 0 (by rw [wl_get (kd_lt hr (by decide)), en_12 hr]) rfl hi d (fun H1 locs1 hP hD hS1 => ?_)
  rw [wl_set (h := h) (h' := wi h r i.toNatClampNeg x) (by rw [en_12 hr, wi_eq]) (fun j hj => en_c (wi_ne hj) rfl)] at hP
  exact k H1 locs1 ls hP hS1 hl
theorem v_last (R : Ru l D cs φ own cc nL fr lo V) {i : Int32} {x : Int64} (d : decode cc pc = .ok (.lastore, 1)) (hi : vp_in i 2) (k : V (pc + 1) lc st (wl h 89 i.toNatClampNeg x)) : V pc lc (.long x :: .int i :: .ref (φ 89) :: st) h := by
  obtain ⟨p, e, Rm, s, m, args, below, meth, c, A, cells, slots, Q, hx, hb, hml, hown, hts, hC, hA, hfr, hlo, hce, hsl, rfl⟩ := R
  intro H locs ls hW hS hl
  refine va_last hx hb hC.1 hW (wl_D hC.2.1 hA) hS 89 1 (by rw [wl_get (by decide), en_16]) rfl hi d (fun H1 locs1 hP hD hS1 => ?_)
  rw [wl_set (h := h) (h' := wl h 89 i.toNatClampNeg x) (by rw [en_16, wl_eq]) (fun j hj => en_c rfl (wl_ne hj))] at hP
  exact k H1 locs1 ls hP hS1 hl
theorem v_alen (R : Ru l D cs φ own cc nL fr lo V) {r : Nat} (d : decode cc pc = .ok (.arraylength, 1)) (hr : kd r = 12) (k : V (pc + 1) lc (.int (Int32.ofNat (al r)) :: st) h) : V pc lc (.ref (φ r) :: st) h := by
  obtain ⟨p, e, Rm, s, m, args, below, meth, c, A, cells, slots, Q, hx, hb, hml, hown, hts, hC, hA, hfr, hlo, hce, hsl, rfl⟩ := R
  exact fun H locs ls hW hS hl => va_alen hx hb hC.1 hW r 0 (by rw [wl_get (kd_lt hr (by decide)), en_12 hr]) rfl rfl d (k H locs ls hW hS hl)
theorem v_aald_64 (R : Ru l D cs φ own cc nL fr lo V) {i : Int32} (d : decode cc pc = .ok (.aaload, 1)) (hi : vp_in i 16) (k : V (pc + 1) lc (.ref (φ (10 + i.toNatClampNeg)) :: st) h) : V pc lc (.int i :: .ref (φ 64) :: st) h := by
  obtain ⟨p, e, Rm, s, m, args, below, meth, c, A, cells, slots, Q, hx, hb, hml, hown, hts, hC, hA, hfr, hlo, hce, hsl, rfl⟩ := R
  exact fun H locs ls hW hS hl => va_aldq hx hb hC.1 hW 64 2 (wl_get (by decide)) rfl hi d (k H locs ls hW hS hl)
theorem v_aald_65 (R : Ru l D cs φ own cc nL fr lo V) {i : Int32} (d : decode cc pc = .ok (.aaload, 1)) (hi : vp_in i 2) (k : V (pc + 1) lc (.ref (φ (8 + i.toNatClampNeg)) :: st) h) : V pc lc (.int i :: .ref (φ 65) :: st) h := by
  obtain ⟨p, e, Rm, s, m, args, below, meth, c, A, cells, slots, Q, hx, hb, hml, hown, hts, hC, hA, hfr, hlo, hce, hsl, rfl⟩ := R
  exact fun H locs ls hW hS hl => va_aldq hx hb hC.1 hW 65 3 (wl_get (by decide)) rfl hi d (k H locs ls hW hS hl)
theorem v_aald_66 (R : Ru l D cs φ own cc nL fr lo V) {i : Int32} (d : decode cc pc = .ok (.aaload, 1)) (hi : vp_in i 8) (k : V (pc + 1) lc (.ref (φ (29 + i.toNatClampNeg)) :: st) h) : V pc lc (.int i :: .ref (φ 66) :: st) h := by
  obtain ⟨p, e, Rm, s, m, args, below, meth, c, A, cells, slots, Q, hx, hb, hml, hown, hts, hC, hA, hfr, hlo, hce, hsl, rfl⟩ := R
  exact fun H locs ls hW hS hl => va_aldq hx hb hC.1 hW 66 4 (wl_get (by decide)) rfl hi d (k H locs ls hW hS hl)
theorem v_facld (R : Ru l D cs φ own cc nL fr lo V) {i : Int32} (d : decode cc pc = .ok (.iaload, 1)) (hi : vp_in i 6) (k : V (pc + 1) lc (.int (fac i.toNatClampNeg) :: st) h) : V pc lc (.int i :: .ref (φ 99) :: st) h := by
  obtain ⟨p, e, Rm, s, m, args, below, meth, c, A, cells, slots, Q, hx, hb, hml, hown, hts, hC, hA, hfr, hlo, hce, hsl, rfl⟩ := R
  exact fun H locs ls hW hS hl => va_sld hx hb hC.2.2.2.2.1 hC.2.2.2.2.2.1 hC.2.2.2.2.2.2 hS hi d (k H locs ls hW hS hl)
theorem v_faclen (R : Ru l D cs φ own cc nL fr lo V) (d : decode cc pc = .ok (.arraylength, 1)) (k : V (pc + 1) lc (.int (Int32.ofNat 6) :: st) h) : V pc lc (.ref (φ 99) :: st) h := by
  obtain ⟨p, e, Rm, s, m, args, below, meth, c, A, cells, slots, Q, hx, hb, hml, hown, hts, hC, hA, hfr, hlo, hce, hsl, rfl⟩ := R
  exact fun H locs ls hW hS hl => va_slen hx hb hC.2.2.2.2.1 hC.2.2.2.2.2.1 hC.2.2.2.2.2.2 hS d (k H locs ls hW hS hl)
theorem v_facget (R : Ru l D cs φ own cc nL fr lo V) {idx : Nat} (d : decode cc pc = .ok (.getstatic idx, 3)) (fl : Cond.fieldLink own idx "FarEnds" "FACTORIAL" "[I" ∈ lw_g) (k : V (pc + 3) lc (.ref (φ 99) :: st) h) : V pc lc st h := by
  obtain ⟨p, e, Rm, s, m, args, below, meth, c, A, cells, slots, Q, hx, hb, hml, hown, hts, hC, hA, hfr, hlo, hce, hsl, rfl⟩ := R
  exact fun H locs ls hW hS hl => va_gets hx hb hC.2.2.2.1 hS hown (hts _ fl) (fun _ q => q) d (k H locs ls hW hS hl)
theorem v_copy (R : Ru l D cs φ own cc nL fr lo V) {c1 c2 idx : Nat} {n : Int32} (d : decode cc pc = .ok (.invokestatic idx, 3)) (hm : Cond.methodLink own idx arraycopyName ∈ lw_g) (hnt : Cond.native arraycopyName ∈ lw_g) (hst : Cond.static arraycopyName ∈ lw_g) (hi : Cond.initialized "java/lang/System" ∈ lw_g) (h1 : kd c1 = 12) (h2 : kd c2 = 12) (hn : ¬ n < 0) (hn1 : n.toNatClampNeg ≤ al c1) (hn2 : n.toNatClampNeg ≤ al c2) (hf : 1 ≤ fr) (hl2 : nativeFrameWords "java/lang/System" "arraycopy" 5 + 11 ≤ lo) (k : V (pc + 3) lc [] (wc h c1 c2 n.toNatClampNeg)) : V pc lc [.int n, .int 0, .ref (φ c2), .int 0, .ref (φ c1)] h := by
  obtain ⟨p, e, Rm, s, m, args, below, meth, c, A, cells, slots, Q, hx, hb, hml, hown, hts, hC, hA, hfr, hlo, hce, hsl, rfl⟩ := R
  intro H locs ls hW hS hl
  subst hfr; subst hlo
  refine va_copyi hx hb (hml.trans hl.1.symm) hown (hts _ hm) (hts _ hnt) (hts _ hst) (hts _ hi) hC.1 hW (wl_D hC.2.1 hA) hS c1 c2 0 0 (by rw [wl_get (kd_lt h1 (by decide)), en_12 h1]) (by rw [wl_get (kd_lt h2 (by decide)), en_12 h2]) rfl rfl rfl (by decide) (by decide) hn (by rw [show (0 : Int32).toNatClampNeg = 0 from rfl, Nat.zero_add]; exact hn1) (by rw [show (0 : Int32).toNatClampNeg = 0 from rfl, Nat.zero_add]; exact hn2) (fun _ _ => rfl) hf (by simpa using hl2) d (fun H1 locs1 hP hD hS1 => ?_)
  rw [wl_set (h := h) (h' := wc h c1 c2 n.toNatClampNeg) (by rw [en_12 h2, wc_eq]; rfl) (fun j hj => en_c (wc_ne hj) rfl)] at hP
  exact k H1 locs1 ls hP hS1 hl
theorem v_mmin (R : Ru l D cs φ own cc nL fr lo V) {idx : Nat} {x y : Int32} (d : decode cc pc = .ok (.invokestatic idx, 3)) (hm : Cond.methodLink own idx Lib.Math.min.name ∈ lw_g) (hst : Cond.static Lib.Math.min.name ∈ lw_g) (hi : Cond.initialized "java/lang/Math" ∈ lw_g) (hco : Cond.code Lib.Math.min.name Lib.Math.min.code 2 (some .int) ∈ lw_g) (hf : 1 ≤ fr) (hl2 : (st.map fun v => v.category).sum + 13 ≤ lo) (k : V (pc + 3) lc (.int (if y < x then y else x) :: st) h) : V pc lc (.int y :: .int x :: st) h := by
  obtain ⟨p, e, Rm, s, m, args, below, meth, c, A, cells, slots, Q, hx, hb, hml, hown, hts, hC, hA, hfr, hlo, hce, hsl, rfl⟩ := R
  subst hfr; subst hlo
  exact fun H locs ls hW hS hl => va_mmin hx hb (hml.trans hl.1.symm) hown (hts _ hm) (hts _ hst) (hts _ hi) (hts _ hco) hf hl2 hce hsl d (k H locs ls hW hS hl)
theorem v_mmax (R : Ru l D cs φ own cc nL fr lo V) {idx : Nat} {x y : Int32} (d : decode cc pc = .ok (.invokestatic idx, 3)) (hm : Cond.methodLink own idx Lib.Math.max.name ∈ lw_g) (hst : Cond.static Lib.Math.max.name ∈ lw_g) (hi : Cond.initialized "java/lang/Math" ∈ lw_g) (hco : Cond.code Lib.Math.max.name Lib.Math.max.code 2 (some .int) ∈ lw_g) (hf : 1 ≤ fr) (hl2 : (st.map fun v => v.category).sum + 13 ≤ lo) (k : V (pc + 3) lc (.int (if x < y then y else x) :: st) h) : V pc lc (.int y :: .int x :: st) h := by
  obtain ⟨p, e, Rm, s, m, args, below, meth, c, A, cells, slots, Q, hx, hb, hml, hown, hts, hC, hA, hfr, hlo, hce, hsl, rfl⟩ := R
  subst hfr; subst hlo
  exact fun H locs ls hW hS hl => va_mmax hx hb (hml.trans hl.1.symm) hown (hts _ hm) (hts _ hst) (hts _ hi) (hts _ hco) hf hl2 hce hsl d (k H locs ls hW hS hl)
theorem gd_all (M : Mi) (w5 : Cond.code M.1 M.2.1 M.2.2.1 M.2.2.2.1 ∈ lw_g) : GoodIn lw_g (wsM M) := fun w hw => by
  rcases List.mem_cons.mp hw with e | e
  · subst e; exact ⟨w5, lw_g_good w5⟩
  · exact ⟨e, lw_g_good e⟩
/-- what the tables say of a method of ours: of an object's, and of a static one -/
def MV (M : Mi) (n : Nat) : Prop := Cond.instanceMethod M.1 ∈ lw_g ∧ Cond.selects M.1.cls M.1 M.1 ∈ lw_g ∧ Cond.initialized M.1.cls ∈ lw_g ∧ Cond.code M.1 M.2.1 M.2.2.1 M.2.2.2.1 ∈ lw_g ∧ (M.1.cls ≠ "java/lang/invoke/MethodHandle" ∧ M.1.cls ≠ "java/lang/invoke/VarHandle" ∧ (parseMethodDescriptor M.1.desc).map (fun d => d.parameters.length) = some n) ∧ M.2.2.2.2.cells = 0 ∧ M.2.2.2.2.slots = 0
def MS (M : Mi) (n : Nat) : Prop := Cond.static M.1 ∈ lw_g ∧ Cond.initialized M.1.cls ∈ lw_g ∧ Cond.code M.1 M.2.1 M.2.2.1 M.2.2.2.1 ∈ lw_g ∧ (M.1.cls ≠ "java/lang/invoke/MethodHandle" ∧ M.1.cls ≠ "java/lang/invoke/VarHandle" ∧ (parseMethodDescriptor M.1.desc).map (fun d => d.parameters.length) = some n) ∧ M.2.2.2.2.cells = 0 ∧ M.2.2.2.2.slots = 0
theorem v_callV (R : Ru l D cs φ own cc nL fr lo V) {M : Mi} {r ci idx n : Nat} {As : List Value} {post : Option Value → Hp → Prop} (d : decode cc pc = .ok (.invokevirtual idx, 3)) (hM : Ct l D cs φ M (.ref (φ r) :: As) h post) (hr : r < 99) {fs : List Value} (he : en cs φ h r = .inr (ci, fs)) {q : vw_C} (hq : vwCl[ci]? = some q) (hcl : q.1 = M.1.cls) (w1 : Cond.methodLink own idx M.1 ∈ lw_g) (mv : MV M n) (hR : M.2.2.2.2.frames + 1 ≤ fr ∧ 8 + (M.2.2.1 + 11) + M.2.2.2.2.locals ≤ lo) (hn : As.length = n) (hrm : (st.map fun v => v.category).sum ≤ 8) (kk : ∀ rv h', post rv h' → V (pc + 3) lc (rv.toList ++ st) h') : V pc lc (As.reverse ++ .ref (φ r) :: st) h := by
  obtain ⟨p, e, Rm, s, m, args, below, meth, c, A, cells, slots, Q, hx, hb, hml, hown, hts, hC, hA, hfr, hlo, hce, hsl, rfl⟩ := R
  subst hfr; subst hlo
  intro H locs ls hW hS hl
  obtain ⟨w2, w3, w4, w5, hd, z1, z2⟩ := mv
  have hG : GoodIn lw_g (wsV own idx M.1.cls M.1 (wsM M)) := fun w hw => by
    rcases List.mem_append.mp hw with e | e
    · simp only [List.mem_cons, List.not_mem_nil, or_false] at e
      rcases e with e | e | e | e <;> subst e
      · exact ⟨w1, lw_g_good w1⟩
      · exact ⟨w2, lw_g_good w2⟩
      · exact ⟨w3, lw_g_good w3⟩
      · exact ⟨w4, lw_g_good w4⟩
    · exact gd_all M w5 w e
  have hrun := va_runV (e := e) (below := below) (meth := meth) (As := As) (rest := st) (b := φ r) (H := H) (locs := locs) (cells := cells) (slots := slots) (g := F0 m pc ls (As.reverse ++ .ref (φ r) :: st)) ⟨hx, hb, hml, hown, hts⟩ hM (cwV n hts hG rfl z1 z2 ⟨rfl, hd⟩ hR) ⟨fun a U g mk ⟨q1, q2⟩ => ⟨q1, Wd_calling q2⟩, by
    have hrec := va_recv hC.1 hW hq (q0 := r) (by rw [wl_get hr, he])
    rw [hcl] at hrec
    exact hrec, fun U hU hWm => ⟨rfl, by rw [hU]; exact hW, Cx_call hC hA hS hU hWm⟩⟩ rfl hn hl.1 rfl (lv_room hrm) d ⟨hce, hsl⟩
  intro T hT X
  obtain ⟨v, st₀, t, T', L, h0, X', hL, e1, e2, ⟨⟨rv, h', hv, hp, hb'⟩, hz, hk⟩, stp⟩ := hrun T hT X
  cases hv
  rw [h0] at hz hk
  have hAf : ∀ q, Af φ q → A q := fun q ⟨i, hi, e⟩ => by rw [e]; exact hA i hi
  obtain ⟨t2, a1, b1⟩ := kk v h' hp T'.heap (locs ++ L) ls (by rw [e1]; exact hb')
    ⟨Nat.le_trans hS.1 (by rw [e1]; exact hz), fun q h1 h2 => by rw [e1, hk q (Nat.lt_of_lt_of_le h1 hS.1) (fun z => h2 (hAf q z))]; exact hS.2.1 q h1 h2, fun q hq => by
      rcases List.mem_append.mp hq with h | h
      · exact hS.2.2 q h
      · exact hAf _ (hL q h)⟩ hl T' rfl X'
  exact ⟨t2, stp t2 a1, b1⟩
theorem v_callS (R : Ru l D cs φ own cc nL fr lo V) {M : Mi} {idx n : Nat} {As : List Value} {post : Option Value → Hp → Prop} (d : decode cc pc = .ok (.invokestatic idx, 3)) (hM : Ct l D cs φ M As h post) (w1 : Cond.methodLink own idx M.1 ∈ lw_g) (mv : MS M n) (hR : M.2.2.2.2.frames + 1 ≤ fr ∧ 8 + (M.2.2.1 + 11) + M.2.2.2.2.locals ≤ lo) (hn : As.length = n) (hrm : (st.map fun v => v.category).sum ≤ 8) (kk : ∀ rv h', post rv h' → V (pc + 3) lc (rv.toList ++ st) h') : V pc lc (As.reverse ++ st) h := by
  obtain ⟨p, e, Rm, s, m, args, below, meth, c, A, cells, slots, Q, hx, hb, hml, hown, hts, hC, hA, hfr, hlo, hce, hsl, rfl⟩ := R
  subst hfr; subst hlo
  intro H locs ls hW hS hl
  obtain ⟨w2, w4, w5, hd, z1, z2⟩ := mv
  have hG : GoodIn lw_g (va_wsS own idx M.1 (wsM M)) := fun w hw => by
    rcases List.mem_append.mp hw with e | e
    · simp only [List.mem_cons, List.not_mem_nil, or_false] at e
      rcases e with e | e | e <;> subst e
      · exact ⟨w1, lw_g_good w1⟩
      · exact ⟨w2, lw_g_good w2⟩
      · exact ⟨w4, lw_g_good w4⟩
    · exact gd_all M w5 w e
  have hrun := va_runS (e := e) (below := below) (meth := meth) (As := As) (rest := st) (H := H) (locs := locs) (cells := cells) (slots := slots) (g := F0 m pc ls (As.reverse ++ st)) ⟨hx, hb, hml, hown, hts⟩ hM (va_cwS n hts hG rfl z1 z2 hd hR) ⟨fun a U g mk ⟨q1, q2⟩ => ⟨q1, Wd_calling q2⟩, fun U hU hWm => ⟨rfl, by rw [hU]; exact hW, Cx_call hC hA hS hU hWm⟩⟩ rfl hn hl.1 rfl (lv_room hrm) d ⟨hce, hsl⟩
  intro T hT X
  obtain ⟨v, st₀, t, T', L, h0, X', hL, e1, e2, ⟨⟨rv, h', hv, hp, hb'⟩, hz, hk⟩, stp⟩ := hrun T hT X
  cases hv
  rw [h0] at hz hk
  have hAf : ∀ q, Af φ q → A q := fun q ⟨i, hi, e⟩ => by rw [e]; exact hA i hi
  obtain ⟨t2, a1, b1⟩ := kk v h' hp T'.heap (locs ++ L) ls (by rw [e1]; exact hb')
    ⟨Nat.le_trans hS.1 (by rw [e1]; exact hz), fun q h1 h2 => by rw [e1, hk q (Nat.lt_of_lt_of_le h1 hS.1) (fun z => h2 (hAf q z))]; exact hS.2.1 q h1 h2, fun q hq => by
      rcases List.mem_append.mp hq with h | h
      · exact hS.2.2 q h
      · exact hAf _ (hL q h)⟩ hl T' rfl X'
  exact ⟨t2, stp t2 a1, b1⟩
theorem v_callSN (R : Ru l D cs φ own cc nL fr lo V) {M : Mi} {idx n : Nat} {As : List Value} {post : Option Value → Hp → Prop} (d : decode cc pc = .ok (.invokestatic idx, 3)) (hM : Ct l D cs φ M As h post) {host : String} (w1 : Cond.methodLinkNest own idx M.1 host ∈ lw_n) (mv : MS M n) (hR : M.2.2.2.2.frames + 1 ≤ fr ∧ 8 + (M.2.2.1 + 11) + M.2.2.2.2.locals ≤ lo) (hn : As.length = n) (hrm : (st.map fun v => v.category).sum ≤ 8) (kk : ∀ rv h', post rv h' → V (pc + 3) lc (rv.toList ++ st) h') : V pc lc (As.reverse ++ st) h := by
  obtain ⟨p, e, Rm, s, m, args, below, meth, c, A, cells, slots, Q, hx, hb, hml, hown, hts, hC, hA, hfr, hlo, hce, hsl, rfl⟩ := R
  subst hfr; subst hlo
  intro H locs ls hW hS hl
  obtain ⟨w2, w4, w5, hd, z1, z2⟩ := mv

  have hrun := va_runSN (e := e) (below := below) (meth := meth) (As := As) (rest := st) (H := H) (locs := locs) (cells := cells) (slots := slots) (g := F0 m pc ls (As.reverse ++ st)) ⟨hx, hb, hml, hown, hts⟩ hM ⟨va_cnB n hts (gd_all M w5) rfl z1 z2 (hC.2.2.1 _ w1) (hts _ w4) hd hR, hts _ w2, trivial⟩ ⟨fun a U g mk ⟨q1, q2⟩ => ⟨q1, Wd_calling q2⟩, fun U hU hWm => ⟨rfl, by rw [hU]; exact hW, Cx_call hC hA hS hU hWm⟩⟩ rfl hn hl.1 rfl (lv_room hrm) d ⟨hce, hsl⟩
  intro T hT X
  obtain ⟨v, st₀, t, T', L, h0, X', hL, e1, e2, ⟨⟨rv, h', hv, hp, hb'⟩, hz, hk⟩, stp⟩ := hrun T hT X
  cases hv
  rw [h0] at hz hk
  have hAf : ∀ q, Af φ q → A q := fun q ⟨i, hi, e⟩ => by rw [e]; exact hA i hi
  obtain ⟨t2, a1, b1⟩ := kk v h' hp T'.heap (locs ++ L) ls (by rw [e1]; exact hb')
    ⟨Nat.le_trans hS.1 (by rw [e1]; exact hz), fun q h1 h2 => by rw [e1, hk q (Nat.lt_of_lt_of_le h1 hS.1) (fun z => h2 (hAf q z))]; exact hS.2.1 q h1 h2, fun q hq => by
      rcases List.mem_append.mp hq with h | h
      · exact hS.2.2 q h
      · exact hAf _ (hL q h)⟩ hl T' rfl X'
  exact ⟨t2, stp t2 a1, b1⟩
end
end
section
section
variable {l : Launch} {D : va_G} {cs : Nat → ClassId} {φ : Nat → Nat} {own : String} {cc : ByteArray} {nL fr lo : Nat} {V : Nat → List (Option Value) → List Value → Hp → Prop} {pc : Nat} {lc : List (Option Value)} {st : List Value} {h : Hp}
def lt {α : Type} (x : α) (f : α → Prop) : Prop := f x
def jn {τ : Type} (K : τ) (F : τ → Prop) : Prop := F K
theorem jn_v {τ : Type} {K : τ} {F : τ → Prop} {G : Prop} (GJ : τ → Prop) (J : GJ K) (k : ∀ K2, GJ K2 → F K2 → G) (hP : jn K F) : G := k K J hP
theorem bI_of {x : Int32} (h : x = 0 ∨ x = 1) : bI (x == 1) = x := by rcases h with rfl | rfl <;> decide
theorem inG0 : ∀ w ∈ u_ws RX0 TX0 1, w ∈ lw_g := by
  have e : u_ws RX0 TX0 1 = [217].filterMap (fun i => lw_tbl[i]?) := by decide +kernel
  have g : (u_ws RX0 TX0 1).all goodWord = true := by decide +kernel
  intro w hw
  refine List.mem_filter.mpr ⟨?_, List.all_eq_true.mp g w hw⟩
  rw [e] at hw
  obtain ⟨i, -, hi⟩ := List.mem_filterMap.mp hw
  exact List.mem_of_getElem? hi
theorem inG1 : ∀ w ∈ u_ws RX1 TX1 4, w ∈ lw_g := by
  have e : u_ws RX1 TX1 4 = [261, 263, 265, 267].filterMap (fun i => lw_tbl[i]?) := by decide +kernel
  have g : (u_ws RX1 TX1 4).all goodWord = true := by decide +kernel
  intro w hw
  refine List.mem_filter.mpr ⟨?_, List.all_eq_true.mp g w hw⟩
  rw [e] at hw
  obtain ⟨i, -, hi⟩ := List.mem_filterMap.mp hw
  exact List.mem_of_getElem? hi
theorem inG2 : ∀ w ∈ u_ws RX2 TX2 3, w ∈ lw_g := by
  have e : u_ws RX2 TX2 3 = [291, 293, 295].filterMap (fun i => lw_tbl[i]?) := by decide +kernel
  have g : (u_ws RX2 TX2 3).all goodWord = true := by decide +kernel
  intro w hw
  refine List.mem_filter.mpr ⟨?_, List.all_eq_true.mp g w hw⟩
  rw [e] at hw
  obtain ⟨i, -, hi⟩ := List.mem_filterMap.mp hw
  exact List.mem_of_getElem? hi
theorem inG3 : ∀ w ∈ u_ws RX3 TX3 2, w ∈ lw_g := by
  have e : u_ws RX3 TX3 2 = [232, 234].filterMap (fun i => lw_tbl[i]?) := by decide +kernel
  have g : (u_ws RX3 TX3 2).all goodWord = true := by decide +kernel
  intro w hw
  refine List.mem_filter.mpr ⟨?_, List.all_eq_true.mp g w hw⟩
  rw [e] at hw
  obtain ⟨i, -, hi⟩ := List.mem_filterMap.mp hw
  exact List.mem_of_getElem? hi
theorem inG4 : ∀ w ∈ u_ws RX4 TX4 1, w ∈ lw_g := by
  have e : u_ws RX4 TX4 1 = [245].filterMap (fun i => lw_tbl[i]?) := by decide +kernel
  have g : (u_ws RX4 TX4 1).all goodWord = true := by decide +kernel
  intro w hw
  refine List.mem_filter.mpr ⟨?_, List.all_eq_true.mp g w hw⟩
  rw [e] at hw
  obtain ⟨i, -, hi⟩ := List.mem_filterMap.mp hw
  exact List.mem_of_getElem? hi
theorem inG5 : ∀ w ∈ u_ws RX5 TX5 3, w ∈ lw_g := by
  have e : u_ws RX5 TX5 3 = [202, 204, 206].filterMap (fun i => lw_tbl[i]?) := by decide +kernel
  have g : (u_ws RX5 TX5 3).all goodWord = true := by decide +kernel
  intro w hw
  refine List.mem_filter.mpr ⟨?_, List.all_eq_true.mp g w hw⟩
  rw [e] at hw
  obtain ⟨i, -, hi⟩ := List.mem_filterMap.mp hw
  exact List.mem_of_getElem? hi
theorem inG6 : ∀ w ∈ u_ws RX6 TX6 11, w ∈ lw_g := by
  have e : u_ws RX6 TX6 11 = [123, 125, 127, 129, 131, 133, 135, 137, 139, 141, 143].filterMap (fun i => lw_tbl[i]?) := by decide +kernel
  have g : (u_ws RX6 TX6 11).all goodWord = true := by decide +kernel
  intro w hw
  refine List.mem_filter.mpr ⟨?_, List.all_eq_true.mp g w hw⟩
  rw [e] at hw
  obtain ⟨i, -, hi⟩ := List.mem_filterMap.mp hw
  exact List.mem_of_getElem? hi
theorem inG7 : ∀ w ∈ u_ws RX7 TX7 8, w ∈ lw_g := by
  have e : u_ws RX7 TX7 8 = [313, 315, 317, 319, 321, 323, 325, 327].filterMap (fun i => lw_tbl[i]?) := by decide +kernel
  have g : (u_ws RX7 TX7 8).all goodWord = true := by decide +kernel
  intro w hw
  refine List.mem_filter.mpr ⟨?_, List.all_eq_true.mp g w hw⟩
  rw [e] at hw
  obtain ⟨i, -, hi⟩ := List.mem_filterMap.mp hw
  exact List.mem_of_getElem? hi
theorem inG8 : ∀ w ∈ u_ws RX8 TX8 8, w ∈ lw_g := by
  have e : u_ws RX8 TX8 8 = [172, 174, 176, 178, 180, 182, 184, 186].filterMap (fun i => lw_tbl[i]?) := by decide +kernel
  have g : (u_ws RX8 TX8 8).all goodWord = true := by decide +kernel
  intro w hw
  refine List.mem_filter.mpr ⟨?_, List.all_eq_true.mp g w hw⟩
  rw [e] at hw
  obtain ⟨i, -, hi⟩ := List.mem_filterMap.mp hw
  exact List.mem_of_getElem? hi
theorem inG9 : ∀ w ∈ u_ws RX9 TX9 1, w ∈ lw_g := by
  have e : u_ws RX9 TX9 1 = [277].filterMap (fun i => lw_tbl[i]?) := by decide +kernel
  have g : (u_ws RX9 TX9 1).all goodWord = true := by decide +kernel
  intro w hw
  refine List.mem_filter.mpr ⟨?_, List.all_eq_true.mp g w hw⟩
  rw [e] at hw
  obtain ⟨i, -, hi⟩ := List.mem_filterMap.mp hw
  exact List.mem_of_getElem? hi
theorem inG10 : ∀ w ∈ u_ws RX10 TX10 16, w ∈ lw_g := by
  have e : u_ws RX10 TX10 16 = [346, 348, 350, 352, 354, 356, 358, 360, 362, 364, 366, 368, 370, 372, 374, 376].filterMap (fun i => lw_tbl[i]?) := by decide +kernel
  have g : (u_ws RX10 TX10 16).all goodWord = true := by decide +kernel
  intro w hw
  refine List.mem_filter.mpr ⟨?_, List.all_eq_true.mp g w hw⟩
  rw [e] at hw
  obtain ⟨i, -, hi⟩ := List.mem_filterMap.mp hw
  exact List.mem_of_getElem? hi
theorem inG11 : ∀ w ∈ u_ws RX11 TX11 41, w ∈ lw_g := by
  have e : u_ws RX11 TX11 41 = [868, 870, 872, 874, 876, 878, 880, 882, 884, 886, 888, 890, 892, 894, 896, 898, 900, 902, 904, 906, 908, 910, 912, 914, 916, 918, 920, 922, 924, 926, 928, 930, 932, 934, 936, 938, 940, 942, 944, 946, 948].filterMap (fun i => lw_tbl[i]?) := by decide +kernel
  have g : (u_ws RX11 TX11 41).all goodWord = true := by decide +kernel
  intro w hw
  refine List.mem_filter.mpr ⟨?_, List.all_eq_true.mp g w hw⟩
  rw [e] at hw
  obtain ⟨i, -, hi⟩ := List.mem_filterMap.mp hw
  exact List.mem_of_getElem? hi
theorem en_0 {cs : Nat → ClassId} {φ : Nat → Nat} {h : Hp} : en cs φ h 0 = .inr (10, [.ref (φ 1), .int (h.1 0 1), .ref (φ 69), .ref (φ 26), .ref (φ 2), .ref (φ 3), .ref (φ 65), .ref (φ 66), .int (h.1 0 8), .ref (φ 70), .ref (φ 71), .int (h.1 0 11), .ref (φ 45), .ref (φ 4), .ref (φ 5), .ref (φ 6)]) := rfl
theorem en_1 {cs : Nat → ClassId} {φ : Nat → Nat} {h : Hp} : en cs φ h 1 = .inr (6, [.ref (φ 67), .int (h.1 1 1), .int (h.1 1 2), .int (h.1 1 3), .int (h.1 1 4), .ref (φ 68), .int (h.1 1 6), .int (h.1 1 7), .int (h.1 1 8), .int (h.1 1 9), .int (h.1 1 10)]) := rfl
theorem en_2 {cs : Nat → ClassId} {φ : Nat → Nat} {h : Hp} : en cs φ h 2 = .inr (5, [.ref (φ 64), .int (h.1 2 1), .int (h.1 2 2)]) := rfl
theorem en_3 {cs : Nat → ClassId} {φ : Nat → Nat} {h : Hp} : en cs φ h 3 = .inr (0, [.int (h.1 3 0)]) := rfl
theorem en_4 {cs : Nat → ClassId} {φ : Nat → Nat} {h : Hp} : en cs φ h 4 = .inr (4, [.ref (φ 72)]) := rfl
theorem en_5 {cs : Nat → ClassId} {φ : Nat → Nat} {h : Hp} : en cs φ h 5 = .inr (1, [.int (h.1 5 0), .ref (φ 73), .ref (φ 74), .ref (φ 75)]) := rfl
theorem en_6 {cs : Nat → ClassId} {φ : Nat → Nat} {h : Hp} : en cs φ h 6 = .inr (9, [.ref (φ 76)]) := rfl
theorem en_7 {cs : Nat → ClassId} {φ : Nat → Nat} {h : Hp} : en cs φ h 7 = .inr (11, [.int (h.1 7 0), .ref (φ 77), .int (h.1 7 2), .int (h.1 7 3), .int (h.1 7 4), .int (h.1 7 5), .int (h.1 7 6), .ref (φ 78), .ref (φ 79), .ref (φ 80), .long (h.2 7 10), .int (h.1 7 11), .ref (φ 81), .int (h.1 7 13), .ref (φ 82), .ref (φ 83), .ref (φ 84), .int (h.1 7 17), .int (h.1 7 18), .int (h.1 7 19), .int (h.1 7 20), .int (h.1 7 21), .int (h.1 7 22), .ref (φ 85), .ref (φ 86), .int (h.1 7 25), .int (h.1 7 26), .ref (φ 87), .int (h.1 7 28), .ref (φ 88), .ref (φ 89), .ref (φ 90), .ref (φ 91), .ref (φ 92), .int (h.1 7 34), .ref (φ 93), .ref (φ 94), .ref (φ 95), .ref (φ 96), .ref (φ 97), .ref (φ 98)]) := rfl
theorem en_8 {cs : Nat → ClassId} {φ : Nat → Nat} {h : Hp} {r : Nat} (hr : kd r = 8) : en cs φ h r = .inr (2, [.ref (φ (r + 19)), .int (h.1 r 1), .int (h.1 r 2)]) := by unfold en; rw [hr]; rfl
theorem en_9 {cs : Nat → ClassId} {φ : Nat → Nat} {h : Hp} {r : Nat} (hr : kd r = 9) : en cs φ h r = .inr (8, [.int (h.1 r 0), .int (h.1 r 1), .int (h.1 r 2), .int (h.1 r 3), .int (h.1 r 4), .int (h.1 r 5), .int (h.1 r 6), .int (h.1 r 7)]) := by unfold en; rw [hr]; rfl
theorem en_10 {cs : Nat → ClassId} {φ : Nat → Nat} {h : Hp} {r : Nat} (hr : kd r = 10) : en cs φ h r = .inr (7, [.int (h.1 r 0), .int (h.1 r 1), .int (h.1 r 2), .int (h.1 r 3), .int (h.1 r 4), .int (h.1 r 5), .int (h.1 r 6), .ref (φ (r + 8))]) := by unfold en; rw [hr]; rfl
theorem en_11 {cs : Nat → ClassId} {φ : Nat → Nat} {h : Hp} {r : Nat} (hr : kd r = 11) : en cs φ h r = .inr (3, [.ref (φ (r + 9)), .ref (φ (r + 18))]) := by unfold en; rw [hr]; rfl
theorem g_Fe_reading (R : Ru l D cs φ own cc nL fr lo V) {idx : Nat} (d : decode cc pc = .ok (.getfield idx, 3)) (fl : Cond.fieldLink own idx "FarEnds" "reading" "LFarEnds$Reading;" ∈ lw_g) (k : V (pc + 3) lc (.ref (φ 1) :: st) h) : V pc lc (.ref (φ 0) :: st) h :=
  v_getG R (by decide) en_0 (C := RX10) (T := TX10) (N := 16) rfl inG10 0 (by decide) fl rfl d k
theorem g_Fe_wires (R : Ru l D cs φ own cc nL fr lo V) {idx : Nat} (d : decode cc pc = .ok (.getfield idx, 3)) (fl : Cond.fieldLink own idx "FarEnds" "wires" "I" ∈ lw_g) (k : V (pc + 3) lc (.int (h.1 0 1) :: st) h) : V pc lc (.ref (φ 0) :: st) h :=
  v_getG R (by decide) en_0 (C := RX10) (T := TX10) (N := 16) rfl inG10 1 (by decide) fl rfl d k
theorem p_Fe_wires (R : Ru l D cs φ own cc nL fr lo V) {idx : Nat} {v : Int32} (d : decode cc pc = .ok (.putfield idx, 3)) (fl : Cond.fieldLink own idx "FarEnds" "wires" "I" ∈ lw_g) {B : Hp → Prop} (hP : lt (wi h 0 1 v) B) (k : ∀ h2, B h2 → V (pc + 3) lc st h2) : V pc lc (.int v :: .ref (φ 0) :: st) h :=
  v_putG R (by decide) en_0 (C := RX10) (T := TX10) (N := 16) rfl inG10 tyX10 tyX10_ok nmX10 1 (by decide) fl rfl (ty := .int) (by decide +kernel) rfl rfl (by simp) (h2 := wi h 0 1 v) (by rw [en_0, wi_eq]; rfl) (fun i hi => en_c (wi_ne hi) rfl) d (k _ hP)
theorem g_Fe_order (R : Ru l D cs φ own cc nL fr lo V) {idx : Nat} (d : decode cc pc = .ok (.getfield idx, 3)) (fl : Cond.fieldLink own idx "FarEnds" "order" "[I" ∈ lw_g) (k : V (pc + 3) lc (.ref (φ 69) :: st) h) : V pc lc (.ref (φ 0) :: st) h :=
  v_getG R (by decide) en_0 (C := RX10) (T := TX10) (N := 16) rfl inG10 2 (by decide) fl rfl d k
theorem g_Fe_now (R : Ru l D cs φ own cc nL fr lo V) {idx : Nat} (d : decode cc pc = .ok (.getfield idx, 3)) (fl : Cond.fieldLink own idx "FarEnds" "now" "LFarEnds$State;" ∈ lw_g) (k : V (pc + 3) lc (.ref (φ 26) :: st) h) : V pc lc (.ref (φ 0) :: st) h :=
  v_getG R (by decide) en_0 (C := RX10) (T := TX10) (N := 16) rfl inG10 3 (by decide) fl rfl d k
theorem g_Fe_past (R : Ru l D cs φ own cc nL fr lo V) {idx : Nat} (d : decode cc pc = .ok (.getfield idx, 3)) (fl : Cond.fieldLink own idx "FarEnds" "past" "LFarEnds$Past;" ∈ lw_g) (k : V (pc + 3) lc (.ref (φ 2) :: st) h) : V pc lc (.ref (φ 0) :: st) h :=
  v_getG R (by decide) en_0 (C := RX10) (T := TX10) (N := 16) rfl inG10 4 (by decide) fl rfl d k
theorem g_Fe_draws (R : Ru l D cs φ own cc nL fr lo V) {idx : Nat} (d : decode cc pc = .ok (.getfield idx, 3)) (fl : Cond.fieldLink own idx "FarEnds" "draws" "LFarEnds$Draws;" ∈ lw_g) (k : V (pc + 3) lc (.ref (φ 3) :: st) h) : V pc lc (.ref (φ 0) :: st) h :=
  v_getG R (by decide) en_0 (C := RX10) (T := TX10) (N := 16) rfl inG10 5 (by decide) fl rfl d k
theorem g_Fe_images (R : Ru l D cs φ own cc nL fr lo V) {idx : Nat} (d : decode cc pc = .ok (.getfield idx, 3)) (fl : Cond.fieldLink own idx "FarEnds" "images" "[LFarEnds$Image;" ∈ lw_g) (k : V (pc + 3) lc (.ref (φ 65) :: st) h) : V pc lc (.ref (φ 0) :: st) h :=
  v_getG R (by decide) en_0 (C := RX10) (T := TX10) (N := 16) rfl inG10 6 (by decide) fl rfl d k
theorem g_Fe_seen (R : Ru l D cs φ own cc nL fr lo V) {idx : Nat} (d : decode cc pc = .ok (.getfield idx, 3)) (fl : Cond.fieldLink own idx "FarEnds" "seen" "[LFarEnds$Seen;" ∈ lw_g) (k : V (pc + 3) lc (.ref (φ 66) :: st) h) : V pc lc (.ref (φ 0) :: st) h :=
  v_getG R (by decide) en_0 (C := RX10) (T := TX10) (N := 16) rfl inG10 7 (by decide) fl rfl d k
theorem g_Fe_seenCount (R : Ru l D cs φ own cc nL fr lo V) {idx : Nat} (d : decode cc pc = .ok (.getfield idx, 3)) (fl : Cond.fieldLink own idx "FarEnds" "seenCount" "I" ∈ lw_g) (k : V (pc + 3) lc (.int (h.1 0 8) :: st) h) : V pc lc (.ref (φ 0) :: st) h :=
  v_getG R (by decide) en_0 (C := RX10) (T := TX10) (N := 16) rfl inG10 8 (by decide) fl rfl d k
theorem p_Fe_seenCount (R : Ru l D cs φ own cc nL fr lo V) {idx : Nat} {v : Int32} (d : decode cc pc = .ok (.putfield idx, 3)) (fl : Cond.fieldLink own idx "FarEnds" "seenCount" "I" ∈ lw_g) {B : Hp → Prop} (hP : lt (wi h 0 8 v) B) (k : ∀ h2, B h2 → V (pc + 3) lc st h2) : V pc lc (.int v :: .ref (φ 0) :: st) h :=
  v_putG R (by decide) en_0 (C := RX10) (T := TX10) (N := 16) rfl inG10 tyX10 tyX10_ok nmX10 8 (by decide) fl rfl (ty := .int) (by decide +kernel) rfl rfl (by simp) (h2 := wi h 0 8 v) (by rw [en_0, wi_eq]; rfl) (fun i hi => en_c (wi_ne hi) rfl) d (k _ hP)
theorem g_Fe_bookEnds (R : Ru l D cs φ own cc nL fr lo V) {idx : Nat} (d : decode cc pc = .ok (.getfield idx, 3)) (fl : Cond.fieldLink own idx "FarEnds" "bookEnds" "[I" ∈ lw_g) (k : V (pc + 3) lc (.ref (φ 70) :: st) h) : V pc lc (.ref (φ 0) :: st) h :=
  v_getG R (by decide) en_0 (C := RX10) (T := TX10) (N := 16) rfl inG10 9 (by decide) fl rfl d k
theorem g_Fe_bookWires (R : Ru l D cs φ own cc nL fr lo V) {idx : Nat} (d : decode cc pc = .ok (.getfield idx, 3)) (fl : Cond.fieldLink own idx "FarEnds" "bookWires" "[I" ∈ lw_g) (k : V (pc + 3) lc (.ref (φ 71) :: st) h) : V pc lc (.ref (φ 0) :: st) h :=
  v_getG R (by decide) en_0 (C := RX10) (T := TX10) (N := 16) rfl inG10 10 (by decide) fl rfl d k
theorem g_Fe_bookCount (R : Ru l D cs φ own cc nL fr lo V) {idx : Nat} (d : decode cc pc = .ok (.getfield idx, 3)) (fl : Cond.fieldLink own idx "FarEnds" "bookCount" "I" ∈ lw_g) (k : V (pc + 3) lc (.int (h.1 0 11) :: st) h) : V pc lc (.ref (φ 0) :: st) h :=
  v_getG R (by decide) en_0 (C := RX10) (T := TX10) (N := 16) rfl inG10 11 (by decide) fl rfl d k
theorem p_Fe_bookCount (R : Ru l D cs φ own cc nL fr lo V) {idx : Nat} {v : Int32} (d : decode cc pc = .ok (.putfield idx, 3)) (fl : Cond.fieldLink own idx "FarEnds" "bookCount" "I" ∈ lw_g) {B : Hp → Prop} (hP : lt (wi h 0 11 v) B) (k : ∀ h2, B h2 → V (pc + 3) lc st h2) : V pc lc (.int v :: .ref (φ 0) :: st) h :=
  v_putG R (by decide) en_0 (C := RX10) (T := TX10) (N := 16) rfl inG10 tyX10 tyX10_ok nmX10 11 (by decide) fl rfl (ty := .int) (by decide +kernel) rfl rfl (by simp) (h2 := wi h 0 11 v) (by rw [en_0, wi_eq]; rfl) (fun i hi => en_c (wi_ne hi) rfl) d (k _ hP)
theorem g_Fe_nets (R : Ru l D cs φ own cc nL fr lo V) {idx : Nat} (d : decode cc pc = .ok (.getfield idx, 3)) (fl : Cond.fieldLink own idx "FarEnds" "nets" "LFarEnds$Nets;" ∈ lw_g) (k : V (pc + 3) lc (.ref (φ 45) :: st) h) : V pc lc (.ref (φ 0) :: st) h :=
  v_getG R (by decide) en_0 (C := RX10) (T := TX10) (N := 16) rfl inG10 12 (by decide) fl rfl d k
theorem g_Fe_orders (R : Ru l D cs φ own cc nL fr lo V) {idx : Nat} (d : decode cc pc = .ok (.getfield idx, 3)) (fl : Cond.fieldLink own idx "FarEnds" "orders" "LFarEnds$Orders;" ∈ lw_g) (k : V (pc + 3) lc (.ref (φ 4) :: st) h) : V pc lc (.ref (φ 0) :: st) h :=
  v_getG R (by decide) en_0 (C := RX10) (T := TX10) (N := 16) rfl inG10 13 (by decide) fl rfl d k
theorem g_Fe_guess (R : Ru l D cs φ own cc nL fr lo V) {idx : Nat} (d : decode cc pc = .ok (.getfield idx, 3)) (fl : Cond.fieldLink own idx "FarEnds" "guess" "LFarEnds$Guess;" ∈ lw_g) (k : V (pc + 3) lc (.ref (φ 5) :: st) h) : V pc lc (.ref (φ 0) :: st) h :=
  v_getG R (by decide) en_0 (C := RX10) (T := TX10) (N := 16) rfl inG10 14 (by decide) fl rfl d k
theorem g_Fe_ways (R : Ru l D cs φ own cc nL fr lo V) {idx : Nat} (d : decode cc pc = .ok (.getfield idx, 3)) (fl : Cond.fieldLink own idx "FarEnds" "ways" "LFarEnds$Ways;" ∈ lw_g) (k : V (pc + 3) lc (.ref (φ 6) :: st) h) : V pc lc (.ref (φ 0) :: st) h :=
  v_getG R (by decide) en_0 (C := RX10) (T := TX10) (N := 16) rfl inG10 15 (by decide) fl rfl d k
theorem g_Reading_text (R : Ru l D cs φ own cc nL fr lo V) {idx : Nat} (d : decode cc pc = .ok (.getfield idx, 3)) (fl : Cond.fieldLink own idx "FarEnds$Reading" "text" "[I" ∈ lw_g) (k : V (pc + 3) lc (.ref (φ 67) :: st) h) : V pc lc (.ref (φ 1) :: st) h :=
  v_getG R (by decide) en_1 (C := RX6) (T := TX6) (N := 11) rfl inG6 0 (by decide) fl rfl d k
theorem g_Reading_length (R : Ru l D cs φ own cc nL fr lo V) {idx : Nat} (d : decode cc pc = .ok (.getfield idx, 3)) (fl : Cond.fieldLink own idx "FarEnds$Reading" "length" "I" ∈ lw_g) (k : V (pc + 3) lc (.int (h.1 1 1) :: st) h) : V pc lc (.ref (φ 1) :: st) h :=
  v_getG R (by decide) en_1 (C := RX6) (T := TX6) (N := 11) rfl inG6 1 (by decide) fl rfl d k
theorem p_Reading_length (R : Ru l D cs φ own cc nL fr lo V) {idx : Nat} {v : Int32} (d : decode cc pc = .ok (.putfield idx, 3)) (fl : Cond.fieldLink own idx "FarEnds$Reading" "length" "I" ∈ lw_g) {B : Hp → Prop} (hP : lt (wi h 1 1 v) B) (k : ∀ h2, B h2 → V (pc + 3) lc st h2) : V pc lc (.int v :: .ref (φ 1) :: st) h :=
  v_putG R (by decide) en_1 (C := RX6) (T := TX6) (N := 11) rfl inG6 tyX6 tyX6_ok nmX6 1 (by decide) fl rfl (ty := .int) (by decide +kernel) rfl rfl (by simp) (h2 := wi h 1 1 v) (by rw [en_1, wi_eq]; rfl) (fun i hi => en_c (wi_ne hi) rfl) d (k _ hP)
theorem g_Reading_faultNumber (R : Ru l D cs φ own cc nL fr lo V) {idx : Nat} (d : decode cc pc = .ok (.getfield idx, 3)) (fl : Cond.fieldLink own idx "FarEnds$Reading" "faultNumber" "I" ∈ lw_g) (k : V (pc + 3) lc (.int (h.1 1 2) :: st) h) : V pc lc (.ref (φ 1) :: st) h :=
  v_getG R (by decide) en_1 (C := RX6) (T := TX6) (N := 11) rfl inG6 2 (by decide) fl rfl d k
theorem p_Reading_faultNumber (R : Ru l D cs φ own cc nL fr lo V) {idx : Nat} {v : Int32} (d : decode cc pc = .ok (.putfield idx, 3)) (fl : Cond.fieldLink own idx "FarEnds$Reading" "faultNumber" "I" ∈ lw_g) {B : Hp → Prop} (hP : lt (wi h 1 2 v) B) (k : ∀ h2, B h2 → V (pc + 3) lc st h2) : V pc lc (.int v :: .ref (φ 1) :: st) h :=
  v_putG R (by decide) en_1 (C := RX6) (T := TX6) (N := 11) rfl inG6 tyX6 tyX6_ok nmX6 2 (by decide) fl rfl (ty := .int) (by decide +kernel) rfl rfl (by simp) (h2 := wi h 1 2 v) (by rw [en_1, wi_eq]; rfl) (fun i hi => en_c (wi_ne hi) rfl) d (k _ hP)
theorem g_Reading_faultAt (R : Ru l D cs φ own cc nL fr lo V) {idx : Nat} (d : decode cc pc = .ok (.getfield idx, 3)) (fl : Cond.fieldLink own idx "FarEnds$Reading" "faultAt" "I" ∈ lw_g) (k : V (pc + 3) lc (.int (h.1 1 3) :: st) h) : V pc lc (.ref (φ 1) :: st) h :=
  v_getG R (by decide) en_1 (C := RX6) (T := TX6) (N := 11) rfl inG6 3 (by decide) fl rfl d k
theorem p_Reading_faultAt (R : Ru l D cs φ own cc nL fr lo V) {idx : Nat} {v : Int32} (d : decode cc pc = .ok (.putfield idx, 3)) (fl : Cond.fieldLink own idx "FarEnds$Reading" "faultAt" "I" ∈ lw_g) {B : Hp → Prop} (hP : lt (wi h 1 3 v) B) (k : ∀ h2, B h2 → V (pc + 3) lc st h2) : V pc lc (.int v :: .ref (φ 1) :: st) h :=
  v_putG R (by decide) en_1 (C := RX6) (T := TX6) (N := 11) rfl inG6 tyX6 tyX6_ok nmX6 3 (by decide) fl rfl (ty := .int) (by decide +kernel) rfl rfl (by simp) (h2 := wi h 1 3 v) (by rw [en_1, wi_eq]; rfl) (fun i hi => en_c (wi_ne hi) rfl) d (k _ hP)
theorem g_Reading_wires (R : Ru l D cs φ own cc nL fr lo V) {idx : Nat} (d : decode cc pc = .ok (.getfield idx, 3)) (fl : Cond.fieldLink own idx "FarEnds$Reading" "wires" "I" ∈ lw_g) (k : V (pc + 3) lc (.int (h.1 1 4) :: st) h) : V pc lc (.ref (φ 1) :: st) h :=
  v_getG R (by decide) en_1 (C := RX6) (T := TX6) (N := 11) rfl inG6 4 (by decide) fl rfl d k
theorem p_Reading_wires (R : Ru l D cs φ own cc nL fr lo V) {idx : Nat} {v : Int32} (d : decode cc pc = .ok (.putfield idx, 3)) (fl : Cond.fieldLink own idx "FarEnds$Reading" "wires" "I" ∈ lw_g) {B : Hp → Prop} (hP : lt (wi h 1 4 v) B) (k : ∀ h2, B h2 → V (pc + 3) lc st h2) : V pc lc (.int v :: .ref (φ 1) :: st) h :=
  v_putG R (by decide) en_1 (C := RX6) (T := TX6) (N := 11) rfl inG6 tyX6 tyX6_ok nmX6 4 (by decide) fl rfl (ty := .int) (by decide +kernel) rfl rfl (by simp) (h2 := wi h 1 4 v) (by rw [en_1, wi_eq]; rfl) (fun i hi => en_c (wi_ne hi) rfl) d (k _ hP)
theorem g_Reading_order (R : Ru l D cs φ own cc nL fr lo V) {idx : Nat} (d : decode cc pc = .ok (.getfield idx, 3)) (fl : Cond.fieldLink own idx "FarEnds$Reading" "order" "[I" ∈ lw_g) (k : V (pc + 3) lc (.ref (φ 68) :: st) h) : V pc lc (.ref (φ 1) :: st) h :=
  v_getG R (by decide) en_1 (C := RX6) (T := TX6) (N := 11) rfl inG6 5 (by decide) fl rfl d k
theorem g_Reading_kinds (R : Ru l D cs φ own cc nL fr lo V) {idx : Nat} (d : decode cc pc = .ok (.getfield idx, 3)) (fl : Cond.fieldLink own idx "FarEnds$Reading" "kinds" "I" ∈ lw_g) (k : V (pc + 3) lc (.int (h.1 1 6) :: st) h) : V pc lc (.ref (φ 1) :: st) h :=
  v_getG R (by decide) en_1 (C := RX6) (T := TX6) (N := 11) rfl inG6 6 (by decide) fl rfl d k
theorem p_Reading_kinds (R : Ru l D cs φ own cc nL fr lo V) {idx : Nat} {v : Int32} (d : decode cc pc = .ok (.putfield idx, 3)) (fl : Cond.fieldLink own idx "FarEnds$Reading" "kinds" "I" ∈ lw_g) {B : Hp → Prop} (hP : lt (wi h 1 6 v) B) (k : ∀ h2, B h2 → V (pc + 3) lc st h2) : V pc lc (.int v :: .ref (φ 1) :: st) h :=
  v_putG R (by decide) en_1 (C := RX6) (T := TX6) (N := 11) rfl inG6 tyX6 tyX6_ok nmX6 6 (by decide) fl rfl (ty := .int) (by decide +kernel) rfl rfl (by simp) (h2 := wi h 1 6 v) (by rw [en_1, wi_eq]; rfl) (fun i hi => en_c (wi_ne hi) rfl) d (k _ hP)
theorem g_Reading_touching (R : Ru l D cs φ own cc nL fr lo V) {idx : Nat} (d : decode cc pc = .ok (.getfield idx, 3)) (fl : Cond.fieldLink own idx "FarEnds$Reading" "touching" "I" ∈ lw_g) (k : V (pc + 3) lc (.int (h.1 1 7) :: st) h) : V pc lc (.ref (φ 1) :: st) h :=
  v_getG R (by decide) en_1 (C := RX6) (T := TX6) (N := 11) rfl inG6 7 (by decide) fl rfl d k
theorem p_Reading_touching (R : Ru l D cs φ own cc nL fr lo V) {idx : Nat} {v : Int32} (d : decode cc pc = .ok (.putfield idx, 3)) (fl : Cond.fieldLink own idx "FarEnds$Reading" "touching" "I" ∈ lw_g) {B : Hp → Prop} (hP : lt (wi h 1 7 v) B) (k : ∀ h2, B h2 → V (pc + 3) lc st h2) : V pc lc (.int v :: .ref (φ 1) :: st) h :=
  v_putG R (by decide) en_1 (C := RX6) (T := TX6) (N := 11) rfl inG6 tyX6 tyX6_ok nmX6 7 (by decide) fl rfl (ty := .int) (by decide +kernel) rfl rfl (by simp) (h2 := wi h 1 7 v) (by rw [en_1, wi_eq]; rfl) (fun i hi => en_c (wi_ne hi) rfl) d (k _ hP)
theorem g_Reading_at (R : Ru l D cs φ own cc nL fr lo V) {idx : Nat} (d : decode cc pc = .ok (.getfield idx, 3)) (fl : Cond.fieldLink own idx "FarEnds$Reading" "at" "I" ∈ lw_g) (k : V (pc + 3) lc (.int (h.1 1 8) :: st) h) : V pc lc (.ref (φ 1) :: st) h :=
  v_getG R (by decide) en_1 (C := RX6) (T := TX6) (N := 11) rfl inG6 8 (by decide) fl rfl d k
theorem p_Reading_at (R : Ru l D cs φ own cc nL fr lo V) {idx : Nat} {v : Int32} (d : decode cc pc = .ok (.putfield idx, 3)) (fl : Cond.fieldLink own idx "FarEnds$Reading" "at" "I" ∈ lw_g) {B : Hp → Prop} (hP : lt (wi h 1 8 v) B) (k : ∀ h2, B h2 → V (pc + 3) lc st h2) : V pc lc (.int v :: .ref (φ 1) :: st) h :=
  v_putG R (by decide) en_1 (C := RX6) (T := TX6) (N := 11) rfl inG6 tyX6 tyX6_ok nmX6 8 (by decide) fl rfl (ty := .int) (by decide +kernel) rfl rfl (by simp) (h2 := wi h 1 8 v) (by rw [en_1, wi_eq]; rfl) (fun i hi => en_c (wi_ne hi) rfl) d (k _ hP)
theorem g_Reading_number (R : Ru l D cs φ own cc nL fr lo V) {idx : Nat} (d : decode cc pc = .ok (.getfield idx, 3)) (fl : Cond.fieldLink own idx "FarEnds$Reading" "number" "I" ∈ lw_g) (k : V (pc + 3) lc (.int (h.1 1 9) :: st) h) : V pc lc (.ref (φ 1) :: st) h :=
  v_getG R (by decide) en_1 (C := RX6) (T := TX6) (N := 11) rfl inG6 9 (by decide) fl rfl d k
theorem p_Reading_number (R : Ru l D cs φ own cc nL fr lo V) {idx : Nat} {v : Int32} (d : decode cc pc = .ok (.putfield idx, 3)) (fl : Cond.fieldLink own idx "FarEnds$Reading" "number" "I" ∈ lw_g) {B : Hp → Prop} (hP : lt (wi h 1 9 v) B) (k : ∀ h2, B h2 → V (pc + 3) lc st h2) : V pc lc (.int v :: .ref (φ 1) :: st) h :=
  v_putG R (by decide) en_1 (C := RX6) (T := TX6) (N := 11) rfl inG6 tyX6 tyX6_ok nmX6 9 (by decide) fl rfl (ty := .int) (by decide +kernel) rfl rfl (by simp) (h2 := wi h 1 9 v) (by rw [en_1, wi_eq]; rfl) (fun i hi => en_c (wi_ne hi) rfl) d (k _ hP)
theorem g_Reading_numberAt (R : Ru l D cs φ own cc nL fr lo V) {idx : Nat} (d : decode cc pc = .ok (.getfield idx, 3)) (fl : Cond.fieldLink own idx "FarEnds$Reading" "numberAt" "I" ∈ lw_g) (k : V (pc + 3) lc (.int (h.1 1 10) :: st) h) : V pc lc (.ref (φ 1) :: st) h :=
  v_getG R (by decide) en_1 (C := RX6) (T := TX6) (N := 11) rfl inG6 10 (by decide) fl rfl d k
theorem p_Reading_numberAt (R : Ru l D cs φ own cc nL fr lo V) {idx : Nat} {v : Int32} (d : decode cc pc = .ok (.putfield idx, 3)) (fl : Cond.fieldLink own idx "FarEnds$Reading" "numberAt" "I" ∈ lw_g) {B : Hp → Prop} (hP : lt (wi h 1 10 v) B) (k : ∀ h2, B h2 → V (pc + 3) lc st h2) : V pc lc (.int v :: .ref (φ 1) :: st) h :=
  v_putG R (by decide) en_1 (C := RX6) (T := TX6) (N := 11) rfl inG6 tyX6 tyX6_ok nmX6 10 (by decide) fl rfl (ty := .int) (by decide +kernel) rfl rfl (by simp) (h2 := wi h 1 10 v) (by rw [en_1, wi_eq]; rfl) (fun i hi => en_c (wi_ne hi) rfl) d (k _ hP)
theorem g_Past_states (R : Ru l D cs φ own cc nL fr lo V) {idx : Nat} (d : decode cc pc = .ok (.getfield idx, 3)) (fl : Cond.fieldLink own idx "FarEnds$Past" "states" "[LFarEnds$State;" ∈ lw_g) (k : V (pc + 3) lc (.ref (φ 64) :: st) h) : V pc lc (.ref (φ 2) :: st) h :=
  v_getG R (by decide) en_2 (C := RX5) (T := TX5) (N := 3) rfl inG5 0 (by decide) fl rfl d k
theorem g_Past_count (R : Ru l D cs φ own cc nL fr lo V) {idx : Nat} (d : decode cc pc = .ok (.getfield idx, 3)) (fl : Cond.fieldLink own idx "FarEnds$Past" "count" "I" ∈ lw_g) (k : V (pc + 3) lc (.int (h.1 2 1) :: st) h) : V pc lc (.ref (φ 2) :: st) h :=
  v_getG R (by decide) en_2 (C := RX5) (T := TX5) (N := 3) rfl inG5 1 (by decide) fl rfl d k
theorem p_Past_count (R : Ru l D cs φ own cc nL fr lo V) {idx : Nat} {v : Int32} (d : decode cc pc = .ok (.putfield idx, 3)) (fl : Cond.fieldLink own idx "FarEnds$Past" "count" "I" ∈ lw_g) {B : Hp → Prop} (hP : lt (wi h 2 1 v) B) (k : ∀ h2, B h2 → V (pc + 3) lc st h2) : V pc lc (.int v :: .ref (φ 2) :: st) h :=
  v_putG R (by decide) en_2 (C := RX5) (T := TX5) (N := 3) rfl inG5 tyX5 tyX5_ok nmX5 1 (by decide) fl rfl (ty := .int) (by decide +kernel) rfl rfl (by simp) (h2 := wi h 2 1 v) (by rw [en_2, wi_eq]; rfl) (fun i hi => en_c (wi_ne hi) rfl) d (k _ hP)
theorem g_Past_next (R : Ru l D cs φ own cc nL fr lo V) {idx : Nat} (d : decode cc pc = .ok (.getfield idx, 3)) (fl : Cond.fieldLink own idx "FarEnds$Past" "next" "I" ∈ lw_g) (k : V (pc + 3) lc (.int (h.1 2 2) :: st) h) : V pc lc (.ref (φ 2) :: st) h :=
  v_getG R (by decide) en_2 (C := RX5) (T := TX5) (N := 3) rfl inG5 2 (by decide) fl rfl d k
theorem p_Past_next (R : Ru l D cs φ own cc nL fr lo V) {idx : Nat} {v : Int32} (d : decode cc pc = .ok (.putfield idx, 3)) (fl : Cond.fieldLink own idx "FarEnds$Past" "next" "I" ∈ lw_g) {B : Hp → Prop} (hP : lt (wi h 2 2 v) B) (k : ∀ h2, B h2 → V (pc + 3) lc st h2) : V pc lc (.int v :: .ref (φ 2) :: st) h :=
  v_putG R (by decide) en_2 (C := RX5) (T := TX5) (N := 3) rfl inG5 tyX5 tyX5_ok nmX5 2 (by decide) fl rfl (ty := .int) (by decide +kernel) rfl rfl (by simp) (h2 := wi h 2 2 v) (by rw [en_2, wi_eq]; rfl) (fun i hi => en_c (wi_ne hi) rfl) d (k _ hP)
theorem g_Draws_seed (R : Ru l D cs φ own cc nL fr lo V) {idx : Nat} (d : decode cc pc = .ok (.getfield idx, 3)) (fl : Cond.fieldLink own idx "FarEnds$Draws" "seed" "I" ∈ lw_g) (k : V (pc + 3) lc (.int (h.1 3 0) :: st) h) : V pc lc (.ref (φ 3) :: st) h :=
  v_getG R (by decide) en_3 (C := RX0) (T := TX0) (N := 1) rfl inG0 0 (by decide) fl rfl d k
theorem p_Draws_seed (R : Ru l D cs φ own cc nL fr lo V) {idx : Nat} {v : Int32} (d : decode cc pc = .ok (.putfield idx, 3)) (fl : Cond.fieldLink own idx "FarEnds$Draws" "seed" "I" ∈ lw_g) {B : Hp → Prop} (hP : lt (wi h 3 0 v) B) (k : ∀ h2, B h2 → V (pc + 3) lc st h2) : V pc lc (.int v :: .ref (φ 3) :: st) h :=
  v_putG R (by decide) en_3 (C := RX0) (T := TX0) (N := 1) rfl inG0 tyX0 tyX0_ok nmX0 0 (by decide) fl rfl (ty := .int) (by decide +kernel) rfl rfl (by simp) (h2 := wi h 3 0 v) (by rw [en_3, wi_eq]; rfl) (fun i hi => en_c (wi_ne hi) rfl) d (k _ hP)
theorem g_Orders_wireOf (R : Ru l D cs φ own cc nL fr lo V) {idx : Nat} (d : decode cc pc = .ok (.getfield idx, 3)) (fl : Cond.fieldLink own idx "FarEnds$Orders" "wireOf" "[I" ∈ lw_g) (k : V (pc + 3) lc (.ref (φ 72) :: st) h) : V pc lc (.ref (φ 4) :: st) h :=
  v_getG R (by decide) en_4 (C := RX4) (T := TX4) (N := 1) rfl inG4 0 (by decide) fl rfl d k
theorem g_Guess_count (R : Ru l D cs φ own cc nL fr lo V) {idx : Nat} (d : decode cc pc = .ok (.getfield idx, 3)) (fl : Cond.fieldLink own idx "FarEnds$Guess" "count" "I" ∈ lw_g) (k : V (pc + 3) lc (.int (h.1 5 0) :: st) h) : V pc lc (.ref (φ 5) :: st) h :=
  v_getG R (by decide) en_5 (C := RX1) (T := TX1) (N := 4) rfl inG1 0 (by decide) fl rfl d k
theorem p_Guess_count (R : Ru l D cs φ own cc nL fr lo V) {idx : Nat} {v : Int32} (d : decode cc pc = .ok (.putfield idx, 3)) (fl : Cond.fieldLink own idx "FarEnds$Guess" "count" "I" ∈ lw_g) {B : Hp → Prop} (hP : lt (wi h 5 0 v) B) (k : ∀ h2, B h2 → V (pc + 3) lc st h2) : V pc lc (.int v :: .ref (φ 5) :: st) h :=
  v_putG R (by decide) en_5 (C := RX1) (T := TX1) (N := 4) rfl inG1 tyX1 tyX1_ok nmX1 0 (by decide) fl rfl (ty := .int) (by decide +kernel) rfl rfl (by simp) (h2 := wi h 5 0 v) (by rw [en_5, wi_eq]; rfl) (fun i hi => en_c (wi_ne hi) rfl) d (k _ hP)
theorem g_Guess_sets (R : Ru l D cs φ own cc nL fr lo V) {idx : Nat} (d : decode cc pc = .ok (.getfield idx, 3)) (fl : Cond.fieldLink own idx "FarEnds$Guess" "sets" "[I" ∈ lw_g) (k : V (pc + 3) lc (.ref (φ 73) :: st) h) : V pc lc (.ref (φ 5) :: st) h :=
  v_getG R (by decide) en_5 (C := RX1) (T := TX1) (N := 4) rfl inG1 1 (by decide) fl rfl d k
theorem g_Guess_first (R : Ru l D cs φ own cc nL fr lo V) {idx : Nat} (d : decode cc pc = .ok (.getfield idx, 3)) (fl : Cond.fieldLink own idx "FarEnds$Guess" "first" "[I" ∈ lw_g) (k : V (pc + 3) lc (.ref (φ 74) :: st) h) : V pc lc (.ref (φ 5) :: st) h :=
  v_getG R (by decide) en_5 (C := RX1) (T := TX1) (N := 4) rfl inG1 2 (by decide) fl rfl d k
theorem g_Guess_ringing (R : Ru l D cs φ own cc nL fr lo V) {idx : Nat} (d : decode cc pc = .ok (.getfield idx, 3)) (fl : Cond.fieldLink own idx "FarEnds$Guess" "ringing" "[I" ∈ lw_g) (k : V (pc + 3) lc (.ref (φ 75) :: st) h) : V pc lc (.ref (φ 5) :: st) h :=
  v_getG R (by decide) en_5 (C := RX1) (T := TX1) (N := 4) rfl inG1 3 (by decide) fl rfl d k
theorem g_Ways_groups (R : Ru l D cs φ own cc nL fr lo V) {idx : Nat} (d : decode cc pc = .ok (.getfield idx, 3)) (fl : Cond.fieldLink own idx "FarEnds$Ways" "groups" "[I" ∈ lw_g) (k : V (pc + 3) lc (.ref (φ 76) :: st) h) : V pc lc (.ref (φ 6) :: st) h :=
  v_getG R (by decide) en_6 (C := RX9) (T := TX9) (N := 1) rfl inG9 0 (by decide) fl rfl d k
theorem g_Md_wires (R : Ru l D cs φ own cc nL fr lo V) {idx : Nat} (d : decode cc pc = .ok (.getfield idx, 3)) (fl : Cond.fieldLink own idx "FarEndsModel" "wires" "I" ∈ lw_g) (k : V (pc + 3) lc (.int (h.1 7 0) :: st) h) : V pc lc (.ref (φ 7) :: st) h :=
  v_getG R (by decide) en_7 (C := RX11) (T := TX11) (N := 41) rfl inG11 0 (by decide) fl rfl d k
theorem p_Md_wires (R : Ru l D cs φ own cc nL fr lo V) {idx : Nat} {v : Int32} (d : decode cc pc = .ok (.putfield idx, 3)) (fl : Cond.fieldLink own idx "FarEndsModel" "wires" "I" ∈ lw_g) {B : Hp → Prop} (hP : lt (wi h 7 0 v) B) (k : ∀ h2, B h2 → V (pc + 3) lc st h2) : V pc lc (.int v :: .ref (φ 7) :: st) h :=
  v_putG R (by decide) en_7 (C := RX11) (T := TX11) (N := 41) rfl inG11 tyX11 tyX11_ok nmX11 0 (by decide) fl rfl (ty := .int) (by decide +kernel) rfl rfl (by simp) (h2 := wi h 7 0 v) (by rw [en_7, wi_eq]; rfl) (fun i hi => en_c (wi_ne hi) rfl) d (k _ hP)
theorem g_Md_truly (R : Ru l D cs φ own cc nL fr lo V) {idx : Nat} (d : decode cc pc = .ok (.getfield idx, 3)) (fl : Cond.fieldLink own idx "FarEndsModel" "truly" "[I" ∈ lw_g) (k : V (pc + 3) lc (.ref (φ 77) :: st) h) : V pc lc (.ref (φ 7) :: st) h :=
  v_getG R (by decide) en_7 (C := RX11) (T := TX11) (N := 41) rfl inG11 1 (by decide) fl rfl d k
theorem g_Md_place (R : Ru l D cs φ own cc nL fr lo V) {idx : Nat} (d : decode cc pc = .ok (.getfield idx, 3)) (fl : Cond.fieldLink own idx "FarEndsModel" "place" "I" ∈ lw_g) (k : V (pc + 3) lc (.int (h.1 7 2) :: st) h) : V pc lc (.ref (φ 7) :: st) h :=
  v_getG R (by decide) en_7 (C := RX11) (T := TX11) (N := 41) rfl inG11 2 (by decide) fl rfl d k
theorem p_Md_place (R : Ru l D cs φ own cc nL fr lo V) {idx : Nat} {v : Int32} (d : decode cc pc = .ok (.putfield idx, 3)) (fl : Cond.fieldLink own idx "FarEndsModel" "place" "I" ∈ lw_g) {B : Hp → Prop} (hP : lt (wi h 7 2 v) B) (k : ∀ h2, B h2 → V (pc + 3) lc st h2) : V pc lc (.int v :: .ref (φ 7) :: st) h :=
  v_putG R (by decide) en_7 (C := RX11) (T := TX11) (N := 41) rfl inG11 tyX11 tyX11_ok nmX11 2 (by decide) fl rfl (ty := .int) (by decide +kernel) rfl rfl (by simp) (h2 := wi h 7 2 v) (by rw [en_7, wi_eq]; rfl) (fun i hi => en_c (wi_ne hi) rfl) d (k _ hP)
theorem g_Md_hour (R : Ru l D cs φ own cc nL fr lo V) {idx : Nat} (d : decode cc pc = .ok (.getfield idx, 3)) (fl : Cond.fieldLink own idx "FarEndsModel" "hour" "I" ∈ lw_g) (k : V (pc + 3) lc (.int (h.1 7 3) :: st) h) : V pc lc (.ref (φ 7) :: st) h :=
  v_getG R (by decide) en_7 (C := RX11) (T := TX11) (N := 41) rfl inG11 3 (by decide) fl rfl d k
theorem p_Md_hour (R : Ru l D cs φ own cc nL fr lo V) {idx : Nat} {v : Int32} (d : decode cc pc = .ok (.putfield idx, 3)) (fl : Cond.fieldLink own idx "FarEndsModel" "hour" "I" ∈ lw_g) {B : Hp → Prop} (hP : lt (wi h 7 3 v) B) (k : ∀ h2, B h2 → V (pc + 3) lc st h2) : V pc lc (.int v :: .ref (φ 7) :: st) h :=
  v_putG R (by decide) en_7 (C := RX11) (T := TX11) (N := 41) rfl inG11 tyX11 tyX11_ok nmX11 3 (by decide) fl rfl (ty := .int) (by decide +kernel) rfl rfl (by simp) (h2 := wi h 7 3 v) (by rw [en_7, wi_eq]; rfl) (fun i hi => en_c (wi_ne hi) rfl) d (k _ hP)
theorem g_Md_crossed (R : Ru l D cs φ own cc nL fr lo V) {idx : Nat} (d : decode cc pc = .ok (.getfield idx, 3)) (fl : Cond.fieldLink own idx "FarEndsModel" "crossed" "I" ∈ lw_g) (k : V (pc + 3) lc (.int (h.1 7 4) :: st) h) : V pc lc (.ref (φ 7) :: st) h :=
  v_getG R (by decide) en_7 (C := RX11) (T := TX11) (N := 41) rfl inG11 4 (by decide) fl rfl d k
theorem p_Md_crossed (R : Ru l D cs φ own cc nL fr lo V) {idx : Nat} {v : Int32} (d : decode cc pc = .ok (.putfield idx, 3)) (fl : Cond.fieldLink own idx "FarEndsModel" "crossed" "I" ∈ lw_g) {B : Hp → Prop} (hP : lt (wi h 7 4 v) B) (k : ∀ h2, B h2 → V (pc + 3) lc st h2) : V pc lc (.int v :: .ref (φ 7) :: st) h :=
  v_putG R (by decide) en_7 (C := RX11) (T := TX11) (N := 41) rfl inG11 tyX11 tyX11_ok nmX11 4 (by decide) fl rfl (ty := .int) (by decide +kernel) rfl rfl (by simp) (h2 := wi h 7 4 v) (by rw [en_7, wi_eq]; rfl) (fun i hi => en_c (wi_ne hi) rfl) d (k _ hP)
theorem g_Md_tests (R : Ru l D cs φ own cc nL fr lo V) {idx : Nat} (d : decode cc pc = .ok (.getfield idx, 3)) (fl : Cond.fieldLink own idx "FarEndsModel" "tests" "I" ∈ lw_g) (k : V (pc + 3) lc (.int (h.1 7 5) :: st) h) : V pc lc (.ref (φ 7) :: st) h :=
  v_getG R (by decide) en_7 (C := RX11) (T := TX11) (N := 41) rfl inG11 5 (by decide) fl rfl d k
theorem p_Md_tests (R : Ru l D cs φ own cc nL fr lo V) {idx : Nat} {v : Int32} (d : decode cc pc = .ok (.putfield idx, 3)) (fl : Cond.fieldLink own idx "FarEndsModel" "tests" "I" ∈ lw_g) {B : Hp → Prop} (hP : lt (wi h 7 5 v) B) (k : ∀ h2, B h2 → V (pc + 3) lc st h2) : V pc lc (.int v :: .ref (φ 7) :: st) h :=
  v_putG R (by decide) en_7 (C := RX11) (T := TX11) (N := 41) rfl inG11 tyX11 tyX11_ok nmX11 5 (by decide) fl rfl (ty := .int) (by decide +kernel) rfl rfl (by simp) (h2 := wi h 7 5 v) (by rw [en_7, wi_eq]; rfl) (fun i hi => en_c (wi_ne hi) rfl) d (k _ hP)
theorem g_Md_touching (R : Ru l D cs φ own cc nL fr lo V) {idx : Nat} (d : decode cc pc = .ok (.getfield idx, 3)) (fl : Cond.fieldLink own idx "FarEndsModel" "touching" "I" ∈ lw_g) (k : V (pc + 3) lc (.int (h.1 7 6) :: st) h) : V pc lc (.ref (φ 7) :: st) h :=
  v_getG R (by decide) en_7 (C := RX11) (T := TX11) (N := 41) rfl inG11 6 (by decide) fl rfl d k
theorem p_Md_touching (R : Ru l D cs φ own cc nL fr lo V) {idx : Nat} {v : Int32} (d : decode cc pc = .ok (.putfield idx, 3)) (fl : Cond.fieldLink own idx "FarEndsModel" "touching" "I" ∈ lw_g) {B : Hp → Prop} (hP : lt (wi h 7 6 v) B) (k : ∀ h2, B h2 → V (pc + 3) lc st h2) : V pc lc (.int v :: .ref (φ 7) :: st) h :=
  v_putG R (by decide) en_7 (C := RX11) (T := TX11) (N := 41) rfl inG11 tyX11 tyX11_ok nmX11 6 (by decide) fl rfl (ty := .int) (by decide +kernel) rfl rfl (by simp) (h2 := wi h 7 6 v) (by rw [en_7, wi_eq]; rfl) (fun i hi => en_c (wi_ne hi) rfl) d (k _ hP)
theorem g_Md_kindOf (R : Ru l D cs φ own cc nL fr lo V) {idx : Nat} (d : decode cc pc = .ok (.getfield idx, 3)) (fl : Cond.fieldLink own idx "FarEndsModel" "kindOf" "[I" ∈ lw_g) (k : V (pc + 3) lc (.ref (φ 78) :: st) h) : V pc lc (.ref (φ 7) :: st) h :=
  v_getG R (by decide) en_7 (C := RX11) (T := TX11) (N := 41) rfl inG11 7 (by decide) fl rfl d k
theorem g_Md_near (R : Ru l D cs φ own cc nL fr lo V) {idx : Nat} (d : decode cc pc = .ok (.getfield idx, 3)) (fl : Cond.fieldLink own idx "FarEndsModel" "near" "[I" ∈ lw_g) (k : V (pc + 3) lc (.ref (φ 79) :: st) h) : V pc lc (.ref (φ 7) :: st) h :=
  v_getG R (by decide) en_7 (C := RX11) (T := TX11) (N := 41) rfl inG11 8 (by decide) fl rfl d k
theorem g_Md_far (R : Ru l D cs φ own cc nL fr lo V) {idx : Nat} (d : decode cc pc = .ok (.getfield idx, 3)) (fl : Cond.fieldLink own idx "FarEndsModel" "far" "[I" ∈ lw_g) (k : V (pc + 3) lc (.ref (φ 80) :: st) h) : V pc lc (.ref (φ 7) :: st) h :=
  v_getG R (by decide) en_7 (C := RX11) (T := TX11) (N := 41) rfl inG11 9 (by decide) fl rfl d k
theorem g_Md_seed (R : Ru l D cs φ own cc nL fr lo V) {idx : Nat} (d : decode cc pc = .ok (.getfield idx, 3)) (fl : Cond.fieldLink own idx "FarEndsModel" "seed" "J" ∈ lw_g) (k : V (pc + 3) lc (.long (h.2 7 10) :: st) h) : V pc lc (.ref (φ 7) :: st) h :=
  v_getG R (by decide) en_7 (C := RX11) (T := TX11) (N := 41) rfl inG11 10 (by decide) fl rfl d k
theorem p_Md_seed (R : Ru l D cs φ own cc nL fr lo V) {idx : Nat} {v : Int64} (d : decode cc pc = .ok (.putfield idx, 3)) (fl : Cond.fieldLink own idx "FarEndsModel" "seed" "J" ∈ lw_g) {B : Hp → Prop} (hP : lt (wl h 7 10 v) B) (k : ∀ h2, B h2 → V (pc + 3) lc st h2) : V pc lc (.long v :: .ref (φ 7) :: st) h :=
  v_putG R (by decide) en_7 (C := RX11) (T := TX11) (N := 41) rfl inG11 tyX11 tyX11_ok nmX11 10 (by decide) fl rfl (ty := .long) (by decide +kernel) rfl rfl (by simp) (h2 := wl h 7 10 v) (by rw [en_7, wl_eq, wl_1]; rfl) (fun i hi => en_c rfl (wl_ne hi)) d (k _ hP)
theorem g_Md_seenMany (R : Ru l D cs φ own cc nL fr lo V) {idx : Nat} (d : decode cc pc = .ok (.getfield idx, 3)) (fl : Cond.fieldLink own idx "FarEndsModel" "seenMany" "I" ∈ lw_g) (k : V (pc + 3) lc (.int (h.1 7 11) :: st) h) : V pc lc (.ref (φ 7) :: st) h :=
  v_getG R (by decide) en_7 (C := RX11) (T := TX11) (N := 41) rfl inG11 11 (by decide) fl rfl d k
theorem p_Md_seenMany (R : Ru l D cs φ own cc nL fr lo V) {idx : Nat} {v : Int32} (d : decode cc pc = .ok (.putfield idx, 3)) (fl : Cond.fieldLink own idx "FarEndsModel" "seenMany" "I" ∈ lw_g) {B : Hp → Prop} (hP : lt (wi h 7 11 v) B) (k : ∀ h2, B h2 → V (pc + 3) lc st h2) : V pc lc (.int v :: .ref (φ 7) :: st) h :=
  v_putG R (by decide) en_7 (C := RX11) (T := TX11) (N := 41) rfl inG11 tyX11 tyX11_ok nmX11 11 (by decide) fl rfl (ty := .int) (by decide +kernel) rfl rfl (by simp) (h2 := wi h 7 11 v) (by rw [en_7, wi_eq]; rfl) (fun i hi => en_c (wi_ne hi) rfl) d (k _ hP)
theorem g_Md_seen (R : Ru l D cs φ own cc nL fr lo V) {idx : Nat} (d : decode cc pc = .ok (.getfield idx, 3)) (fl : Cond.fieldLink own idx "FarEndsModel" "seen" "[I" ∈ lw_g) (k : V (pc + 3) lc (.ref (φ 81) :: st) h) : V pc lc (.ref (φ 7) :: st) h :=
  v_getG R (by decide) en_7 (C := RX11) (T := TX11) (N := 41) rfl inG11 12 (by decide) fl rfl d k
theorem g_Md_bookMany (R : Ru l D cs φ own cc nL fr lo V) {idx : Nat} (d : decode cc pc = .ok (.getfield idx, 3)) (fl : Cond.fieldLink own idx "FarEndsModel" "bookMany" "I" ∈ lw_g) (k : V (pc + 3) lc (.int (h.1 7 13) :: st) h) : V pc lc (.ref (φ 7) :: st) h :=
  v_getG R (by decide) en_7 (C := RX11) (T := TX11) (N := 41) rfl inG11 13 (by decide) fl rfl d k
theorem p_Md_bookMany (R : Ru l D cs φ own cc nL fr lo V) {idx : Nat} {v : Int32} (d : decode cc pc = .ok (.putfield idx, 3)) (fl : Cond.fieldLink own idx "FarEndsModel" "bookMany" "I" ∈ lw_g) {B : Hp → Prop} (hP : lt (wi h 7 13 v) B) (k : ∀ h2, B h2 → V (pc + 3) lc st h2) : V pc lc (.int v :: .ref (φ 7) :: st) h :=
  v_putG R (by decide) en_7 (C := RX11) (T := TX11) (N := 41) rfl inG11 tyX11 tyX11_ok nmX11 13 (by decide) fl rfl (ty := .int) (by decide +kernel) rfl rfl (by simp) (h2 := wi h 7 13 v) (by rw [en_7, wi_eq]; rfl) (fun i hi => en_c (wi_ne hi) rfl) d (k _ hP)
theorem g_Md_bookEnd (R : Ru l D cs φ own cc nL fr lo V) {idx : Nat} (d : decode cc pc = .ok (.getfield idx, 3)) (fl : Cond.fieldLink own idx "FarEndsModel" "bookEnd" "[I" ∈ lw_g) (k : V (pc + 3) lc (.ref (φ 82) :: st) h) : V pc lc (.ref (φ 7) :: st) h :=
  v_getG R (by decide) en_7 (C := RX11) (T := TX11) (N := 41) rfl inG11 14 (by decide) fl rfl d k
theorem g_Md_bookWire (R : Ru l D cs φ own cc nL fr lo V) {idx : Nat} (d : decode cc pc = .ok (.getfield idx, 3)) (fl : Cond.fieldLink own idx "FarEndsModel" "bookWire" "[I" ∈ lw_g) (k : V (pc + 3) lc (.ref (φ 83) :: st) h) : V pc lc (.ref (φ 7) :: st) h :=
  v_getG R (by decide) en_7 (C := RX11) (T := TX11) (N := 41) rfl inG11 15 (by decide) fl rfl d k
theorem g_Md_text (R : Ru l D cs φ own cc nL fr lo V) {idx : Nat} (d : decode cc pc = .ok (.getfield idx, 3)) (fl : Cond.fieldLink own idx "FarEndsModel" "text" "[I" ∈ lw_g) (k : V (pc + 3) lc (.ref (φ 84) :: st) h) : V pc lc (.ref (φ 7) :: st) h :=
  v_getG R (by decide) en_7 (C := RX11) (T := TX11) (N := 41) rfl inG11 16 (by decide) fl rfl d k
theorem g_Md_size (R : Ru l D cs φ own cc nL fr lo V) {idx : Nat} (d : decode cc pc = .ok (.getfield idx, 3)) (fl : Cond.fieldLink own idx "FarEndsModel" "size" "I" ∈ lw_g) (k : V (pc + 3) lc (.int (h.1 7 17) :: st) h) : V pc lc (.ref (φ 7) :: st) h :=
  v_getG R (by decide) en_7 (C := RX11) (T := TX11) (N := 41) rfl inG11 17 (by decide) fl rfl d k
theorem p_Md_size (R : Ru l D cs φ own cc nL fr lo V) {idx : Nat} {v : Int32} (d : decode cc pc = .ok (.putfield idx, 3)) (fl : Cond.fieldLink own idx "FarEndsModel" "size" "I" ∈ lw_g) {B : Hp → Prop} (hP : lt (wi h 7 17 v) B) (k : ∀ h2, B h2 → V (pc + 3) lc st h2) : V pc lc (.int v :: .ref (φ 7) :: st) h :=
  v_putG R (by decide) en_7 (C := RX11) (T := TX11) (N := 41) rfl inG11 tyX11 tyX11_ok nmX11 17 (by decide) fl rfl (ty := .int) (by decide +kernel) rfl rfl (by simp) (h2 := wi h 7 17 v) (by rw [en_7, wi_eq]; rfl) (fun i hi => en_c (wi_ne hi) rfl) d (k _ hP)
theorem g_Md_readAt (R : Ru l D cs φ own cc nL fr lo V) {idx : Nat} (d : decode cc pc = .ok (.getfield idx, 3)) (fl : Cond.fieldLink own idx "FarEndsModel" "readAt" "I" ∈ lw_g) (k : V (pc + 3) lc (.int (h.1 7 18) :: st) h) : V pc lc (.ref (φ 7) :: st) h :=
  v_getG R (by decide) en_7 (C := RX11) (T := TX11) (N := 41) rfl inG11 18 (by decide) fl rfl d k
theorem p_Md_readAt (R : Ru l D cs φ own cc nL fr lo V) {idx : Nat} {v : Int32} (d : decode cc pc = .ok (.putfield idx, 3)) (fl : Cond.fieldLink own idx "FarEndsModel" "readAt" "I" ∈ lw_g) {B : Hp → Prop} (hP : lt (wi h 7 18 v) B) (k : ∀ h2, B h2 → V (pc + 3) lc st h2) : V pc lc (.int v :: .ref (φ 7) :: st) h :=
  v_putG R (by decide) en_7 (C := RX11) (T := TX11) (N := 41) rfl inG11 tyX11 tyX11_ok nmX11 18 (by decide) fl rfl (ty := .int) (by decide +kernel) rfl rfl (by simp) (h2 := wi h 7 18 v) (by rw [en_7, wi_eq]; rfl) (fun i hi => en_c (wi_ne hi) rfl) d (k _ hP)
theorem g_Md_readFault (R : Ru l D cs φ own cc nL fr lo V) {idx : Nat} (d : decode cc pc = .ok (.getfield idx, 3)) (fl : Cond.fieldLink own idx "FarEndsModel" "readFault" "I" ∈ lw_g) (k : V (pc + 3) lc (.int (h.1 7 19) :: st) h) : V pc lc (.ref (φ 7) :: st) h :=
  v_getG R (by decide) en_7 (C := RX11) (T := TX11) (N := 41) rfl inG11 19 (by decide) fl rfl d k
theorem p_Md_readFault (R : Ru l D cs φ own cc nL fr lo V) {idx : Nat} {v : Int32} (d : decode cc pc = .ok (.putfield idx, 3)) (fl : Cond.fieldLink own idx "FarEndsModel" "readFault" "I" ∈ lw_g) {B : Hp → Prop} (hP : lt (wi h 7 19 v) B) (k : ∀ h2, B h2 → V (pc + 3) lc st h2) : V pc lc (.int v :: .ref (φ 7) :: st) h :=
  v_putG R (by decide) en_7 (C := RX11) (T := TX11) (N := 41) rfl inG11 tyX11 tyX11_ok nmX11 19 (by decide) fl rfl (ty := .int) (by decide +kernel) rfl rfl (by simp) (h2 := wi h 7 19 v) (by rw [en_7, wi_eq]; rfl) (fun i hi => en_c (wi_ne hi) rfl) d (k _ hP)
theorem g_Md_faultAt (R : Ru l D cs φ own cc nL fr lo V) {idx : Nat} (d : decode cc pc = .ok (.getfield idx, 3)) (fl : Cond.fieldLink own idx "FarEndsModel" "faultAt" "I" ∈ lw_g) (k : V (pc + 3) lc (.int (h.1 7 20) :: st) h) : V pc lc (.ref (φ 7) :: st) h :=
  v_getG R (by decide) en_7 (C := RX11) (T := TX11) (N := 41) rfl inG11 20 (by decide) fl rfl d k
theorem p_Md_faultAt (R : Ru l D cs φ own cc nL fr lo V) {idx : Nat} {v : Int32} (d : decode cc pc = .ok (.putfield idx, 3)) (fl : Cond.fieldLink own idx "FarEndsModel" "faultAt" "I" ∈ lw_g) {B : Hp → Prop} (hP : lt (wi h 7 20 v) B) (k : ∀ h2, B h2 → V (pc + 3) lc st h2) : V pc lc (.int v :: .ref (φ 7) :: st) h :=
  v_putG R (by decide) en_7 (C := RX11) (T := TX11) (N := 41) rfl inG11 tyX11 tyX11_ok nmX11 20 (by decide) fl rfl (ty := .int) (by decide +kernel) rfl rfl (by simp) (h2 := wi h 7 20 v) (by rw [en_7, wi_eq]; rfl) (fun i hi => en_c (wi_ne hi) rfl) d (k _ hP)
theorem g_Md_readWires (R : Ru l D cs φ own cc nL fr lo V) {idx : Nat} (d : decode cc pc = .ok (.getfield idx, 3)) (fl : Cond.fieldLink own idx "FarEndsModel" "readWires" "I" ∈ lw_g) (k : V (pc + 3) lc (.int (h.1 7 21) :: st) h) : V pc lc (.ref (φ 7) :: st) h :=
  v_getG R (by decide) en_7 (C := RX11) (T := TX11) (N := 41) rfl inG11 21 (by decide) fl rfl d k
theorem p_Md_readWires (R : Ru l D cs φ own cc nL fr lo V) {idx : Nat} {v : Int32} (d : decode cc pc = .ok (.putfield idx, 3)) (fl : Cond.fieldLink own idx "FarEndsModel" "readWires" "I" ∈ lw_g) {B : Hp → Prop} (hP : lt (wi h 7 21 v) B) (k : ∀ h2, B h2 → V (pc + 3) lc st h2) : V pc lc (.int v :: .ref (φ 7) :: st) h :=
  v_putG R (by decide) en_7 (C := RX11) (T := TX11) (N := 41) rfl inG11 tyX11 tyX11_ok nmX11 21 (by decide) fl rfl (ty := .int) (by decide +kernel) rfl rfl (by simp) (h2 := wi h 7 21 v) (by rw [en_7, wi_eq]; rfl) (fun i hi => en_c (wi_ne hi) rfl) d (k _ hP)
theorem g_Md_readTouch (R : Ru l D cs φ own cc nL fr lo V) {idx : Nat} (d : decode cc pc = .ok (.getfield idx, 3)) (fl : Cond.fieldLink own idx "FarEndsModel" "readTouch" "I" ∈ lw_g) (k : V (pc + 3) lc (.int (h.1 7 22) :: st) h) : V pc lc (.ref (φ 7) :: st) h :=
  v_getG R (by decide) en_7 (C := RX11) (T := TX11) (N := 41) rfl inG11 22 (by decide) fl rfl d k
theorem p_Md_readTouch (R : Ru l D cs φ own cc nL fr lo V) {idx : Nat} {v : Int32} (d : decode cc pc = .ok (.putfield idx, 3)) (fl : Cond.fieldLink own idx "FarEndsModel" "readTouch" "I" ∈ lw_g) {B : Hp → Prop} (hP : lt (wi h 7 22 v) B) (k : ∀ h2, B h2 → V (pc + 3) lc st h2) : V pc lc (.int v :: .ref (φ 7) :: st) h :=
  v_putG R (by decide) en_7 (C := RX11) (T := TX11) (N := 41) rfl inG11 tyX11 tyX11_ok nmX11 22 (by decide) fl rfl (ty := .int) (by decide +kernel) rfl rfl (by simp) (h2 := wi h 7 22 v) (by rw [en_7, wi_eq]; rfl) (fun i hi => en_c (wi_ne hi) rfl) d (k _ hP)
theorem g_Md_readTruly (R : Ru l D cs φ own cc nL fr lo V) {idx : Nat} (d : decode cc pc = .ok (.getfield idx, 3)) (fl : Cond.fieldLink own idx "FarEndsModel" "readTruly" "[I" ∈ lw_g) (k : V (pc + 3) lc (.ref (φ 85) :: st) h) : V pc lc (.ref (φ 7) :: st) h :=
  v_getG R (by decide) en_7 (C := RX11) (T := TX11) (N := 41) rfl inG11 23 (by decide) fl rfl d k
theorem g_Md_readKind (R : Ru l D cs φ own cc nL fr lo V) {idx : Nat} (d : decode cc pc = .ok (.getfield idx, 3)) (fl : Cond.fieldLink own idx "FarEndsModel" "readKind" "[I" ∈ lw_g) (k : V (pc + 3) lc (.ref (φ 86) :: st) h) : V pc lc (.ref (φ 7) :: st) h :=
  v_getG R (by decide) en_7 (C := RX11) (T := TX11) (N := 41) rfl inG11 24 (by decide) fl rfl d k
theorem g_Md_readNumber (R : Ru l D cs φ own cc nL fr lo V) {idx : Nat} (d : decode cc pc = .ok (.getfield idx, 3)) (fl : Cond.fieldLink own idx "FarEndsModel" "readNumber" "I" ∈ lw_g) (k : V (pc + 3) lc (.int (h.1 7 25) :: st) h) : V pc lc (.ref (φ 7) :: st) h :=
  v_getG R (by decide) en_7 (C := RX11) (T := TX11) (N := 41) rfl inG11 25 (by decide) fl rfl d k
theorem p_Md_readNumber (R : Ru l D cs φ own cc nL fr lo V) {idx : Nat} {v : Int32} (d : decode cc pc = .ok (.putfield idx, 3)) (fl : Cond.fieldLink own idx "FarEndsModel" "readNumber" "I" ∈ lw_g) {B : Hp → Prop} (hP : lt (wi h 7 25 v) B) (k : ∀ h2, B h2 → V (pc + 3) lc st h2) : V pc lc (.int v :: .ref (φ 7) :: st) h :=
  v_putG R (by decide) en_7 (C := RX11) (T := TX11) (N := 41) rfl inG11 tyX11 tyX11_ok nmX11 25 (by decide) fl rfl (ty := .int) (by decide +kernel) rfl rfl (by simp) (h2 := wi h 7 25 v) (by rw [en_7, wi_eq]; rfl) (fun i hi => en_c (wi_ne hi) rfl) d (k _ hP)
theorem g_Md_numberAt (R : Ru l D cs φ own cc nL fr lo V) {idx : Nat} (d : decode cc pc = .ok (.getfield idx, 3)) (fl : Cond.fieldLink own idx "FarEndsModel" "numberAt" "I" ∈ lw_g) (k : V (pc + 3) lc (.int (h.1 7 26) :: st) h) : V pc lc (.ref (φ 7) :: st) h :=
  v_getG R (by decide) en_7 (C := RX11) (T := TX11) (N := 41) rfl inG11 26 (by decide) fl rfl d k
theorem p_Md_numberAt (R : Ru l D cs φ own cc nL fr lo V) {idx : Nat} {v : Int32} (d : decode cc pc = .ok (.putfield idx, 3)) (fl : Cond.fieldLink own idx "FarEndsModel" "numberAt" "I" ∈ lw_g) {B : Hp → Prop} (hP : lt (wi h 7 26 v) B) (k : ∀ h2, B h2 → V (pc + 3) lc st h2) : V pc lc (.int v :: .ref (φ 7) :: st) h :=
  v_putG R (by decide) en_7 (C := RX11) (T := TX11) (N := 41) rfl inG11 tyX11 tyX11_ok nmX11 26 (by decide) fl rfl (ty := .int) (by decide +kernel) rfl rfl (by simp) (h2 := wi h 7 26 v) (by rw [en_7, wi_eq]; rfl) (fun i hi => en_c (wi_ne hi) rfl) d (k _ hP)
theorem g_Md_ahead (R : Ru l D cs φ own cc nL fr lo V) {idx : Nat} (d : decode cc pc = .ok (.getfield idx, 3)) (fl : Cond.fieldLink own idx "FarEndsModel" "ahead" "[I" ∈ lw_g) (k : V (pc + 3) lc (.ref (φ 87) :: st) h) : V pc lc (.ref (φ 7) :: st) h :=
  v_getG R (by decide) en_7 (C := RX11) (T := TX11) (N := 41) rfl inG11 27 (by decide) fl rfl d k
theorem g_Md_undoMany (R : Ru l D cs φ own cc nL fr lo V) {idx : Nat} (d : decode cc pc = .ok (.getfield idx, 3)) (fl : Cond.fieldLink own idx "FarEndsModel" "undoMany" "I" ∈ lw_g) (k : V (pc + 3) lc (.int (h.1 7 28) :: st) h) : V pc lc (.ref (φ 7) :: st) h :=
  v_getG R (by decide) en_7 (C := RX11) (T := TX11) (N := 41) rfl inG11 28 (by decide) fl rfl d k
theorem p_Md_undoMany (R : Ru l D cs φ own cc nL fr lo V) {idx : Nat} {v : Int32} (d : decode cc pc = .ok (.putfield idx, 3)) (fl : Cond.fieldLink own idx "FarEndsModel" "undoMany" "I" ∈ lw_g) {B : Hp → Prop} (hP : lt (wi h 7 28 v) B) (k : ∀ h2, B h2 → V (pc + 3) lc st h2) : V pc lc (.int v :: .ref (φ 7) :: st) h :=
  v_putG R (by decide) en_7 (C := RX11) (T := TX11) (N := 41) rfl inG11 tyX11 tyX11_ok nmX11 28 (by decide) fl rfl (ty := .int) (by decide +kernel) rfl rfl (by simp) (h2 := wi h 7 28 v) (by rw [en_7, wi_eq]; rfl) (fun i hi => en_c (wi_ne hi) rfl) d (k _ hP)
theorem g_Md_images (R : Ru l D cs φ own cc nL fr lo V) {idx : Nat} (d : decode cc pc = .ok (.getfield idx, 3)) (fl : Cond.fieldLink own idx "FarEndsModel" "images" "[I" ∈ lw_g) (k : V (pc + 3) lc (.ref (φ 88) :: st) h) : V pc lc (.ref (φ 7) :: st) h :=
  v_getG R (by decide) en_7 (C := RX11) (T := TX11) (N := 41) rfl inG11 29 (by decide) fl rfl d k
theorem g_Md_seeds (R : Ru l D cs φ own cc nL fr lo V) {idx : Nat} (d : decode cc pc = .ok (.getfield idx, 3)) (fl : Cond.fieldLink own idx "FarEndsModel" "seeds" "[J" ∈ lw_g) (k : V (pc + 3) lc (.ref (φ 89) :: st) h) : V pc lc (.ref (φ 7) :: st) h :=
  v_getG R (by decide) en_7 (C := RX11) (T := TX11) (N := 41) rfl inG11 30 (by decide) fl rfl d k
theorem g_Md_isKept (R : Ru l D cs φ own cc nL fr lo V) {idx : Nat} (d : decode cc pc = .ok (.getfield idx, 3)) (fl : Cond.fieldLink own idx "FarEndsModel" "isKept" "[I" ∈ lw_g) (k : V (pc + 3) lc (.ref (φ 90) :: st) h) : V pc lc (.ref (φ 7) :: st) h :=
  v_getG R (by decide) en_7 (C := RX11) (T := TX11) (N := 41) rfl inG11 31 (by decide) fl rfl d k
theorem g_Md_order (R : Ru l D cs φ own cc nL fr lo V) {idx : Nat} (d : decode cc pc = .ok (.getfield idx, 3)) (fl : Cond.fieldLink own idx "FarEndsModel" "order" "[I" ∈ lw_g) (k : V (pc + 3) lc (.ref (φ 91) :: st) h) : V pc lc (.ref (φ 7) :: st) h :=
  v_getG R (by decide) en_7 (C := RX11) (T := TX11) (N := 41) rfl inG11 32 (by decide) fl rfl d k
theorem g_Md_seenFar (R : Ru l D cs φ own cc nL fr lo V) {idx : Nat} (d : decode cc pc = .ok (.getfield idx, 3)) (fl : Cond.fieldLink own idx "FarEndsModel" "seenFar" "[I" ∈ lw_g) (k : V (pc + 3) lc (.ref (φ 92) :: st) h) : V pc lc (.ref (φ 7) :: st) h :=
  v_getG R (by decide) en_7 (C := RX11) (T := TX11) (N := 41) rfl inG11 33 (by decide) fl rfl d k
theorem g_Md_couldMany (R : Ru l D cs φ own cc nL fr lo V) {idx : Nat} (d : decode cc pc = .ok (.getfield idx, 3)) (fl : Cond.fieldLink own idx "FarEndsModel" "couldMany" "I" ∈ lw_g) (k : V (pc + 3) lc (.int (h.1 7 34) :: st) h) : V pc lc (.ref (φ 7) :: st) h :=
  v_getG R (by decide) en_7 (C := RX11) (T := TX11) (N := 41) rfl inG11 34 (by decide) fl rfl d k
theorem p_Md_couldMany (R : Ru l D cs φ own cc nL fr lo V) {idx : Nat} {v : Int32} (d : decode cc pc = .ok (.putfield idx, 3)) (fl : Cond.fieldLink own idx "FarEndsModel" "couldMany" "I" ∈ lw_g) {B : Hp → Prop} (hP : lt (wi h 7 34 v) B) (k : ∀ h2, B h2 → V (pc + 3) lc st h2) : V pc lc (.int v :: .ref (φ 7) :: st) h :=
  v_putG R (by decide) en_7 (C := RX11) (T := TX11) (N := 41) rfl inG11 tyX11 tyX11_ok nmX11 34 (by decide) fl rfl (ty := .int) (by decide +kernel) rfl rfl (by simp) (h2 := wi h 7 34 v) (by rw [en_7, wi_eq]; rfl) (fun i hi => en_c (wi_ne hi) rfl) d (k _ hP)
theorem g_Md_couldSets (R : Ru l D cs φ own cc nL fr lo V) {idx : Nat} (d : decode cc pc = .ok (.getfield idx, 3)) (fl : Cond.fieldLink own idx "FarEndsModel" "couldSets" "[I" ∈ lw_g) (k : V (pc + 3) lc (.ref (φ 93) :: st) h) : V pc lc (.ref (φ 7) :: st) h :=
  v_getG R (by decide) en_7 (C := RX11) (T := TX11) (N := 41) rfl inG11 35 (by decide) fl rfl d k
theorem g_Md_firstOnes (R : Ru l D cs φ own cc nL fr lo V) {idx : Nat} (d : decode cc pc = .ok (.getfield idx, 3)) (fl : Cond.fieldLink own idx "FarEndsModel" "firstOnes" "[I" ∈ lw_g) (k : V (pc + 3) lc (.ref (φ 94) :: st) h) : V pc lc (.ref (φ 7) :: st) h :=
  v_getG R (by decide) en_7 (C := RX11) (T := TX11) (N := 41) rfl inG11 36 (by decide) fl rfl d k
theorem g_Md_ringMany (R : Ru l D cs φ own cc nL fr lo V) {idx : Nat} (d : decode cc pc = .ok (.getfield idx, 3)) (fl : Cond.fieldLink own idx "FarEndsModel" "ringMany" "[I" ∈ lw_g) (k : V (pc + 3) lc (.ref (φ 95) :: st) h) : V pc lc (.ref (φ 7) :: st) h :=
  v_getG R (by decide) en_7 (C := RX11) (T := TX11) (N := 41) rfl inG11 37 (by decide) fl rfl d k
theorem g_Md_ways (R : Ru l D cs φ own cc nL fr lo V) {idx : Nat} (d : decode cc pc = .ok (.getfield idx, 3)) (fl : Cond.fieldLink own idx "FarEndsModel" "ways" "[I" ∈ lw_g) (k : V (pc + 3) lc (.ref (φ 96) :: st) h) : V pc lc (.ref (φ 7) :: st) h :=
  v_getG R (by decide) en_7 (C := RX11) (T := TX11) (N := 41) rfl inG11 38 (by decide) fl rfl d k
theorem g_Md_untied (R : Ru l D cs φ own cc nL fr lo V) {idx : Nat} (d : decode cc pc = .ok (.getfield idx, 3)) (fl : Cond.fieldLink own idx "FarEndsModel" "untied" "[I" ∈ lw_g) (k : V (pc + 3) lc (.ref (φ 97) :: st) h) : V pc lc (.ref (φ 7) :: st) h :=
  v_getG R (by decide) en_7 (C := RX11) (T := TX11) (N := 41) rfl inG11 39 (by decide) fl rfl d k
theorem g_Md_bestWays (R : Ru l D cs φ own cc nL fr lo V) {idx : Nat} (d : decode cc pc = .ok (.getfield idx, 3)) (fl : Cond.fieldLink own idx "FarEndsModel" "bestWays" "[I" ∈ lw_g) (k : V (pc + 3) lc (.ref (φ 98) :: st) h) : V pc lc (.ref (φ 7) :: st) h :=
  v_getG R (by decide) en_7 (C := RX11) (T := TX11) (N := 41) rfl inG11 40 (by decide) fl rfl d k
theorem g_Image_state (R : Ru l D cs φ own cc nL fr lo V) {r : Nat} {idx : Nat} (d : decode cc pc = .ok (.getfield idx, 3)) (fl : Cond.fieldLink own idx "FarEnds$Image" "state" "LFarEnds$State;" ∈ lw_g) (hr : kd r = 8) (k : V (pc + 3) lc (.ref (φ (r + 19)) :: st) h) : V pc lc (.ref (φ r) :: st) h :=
  v_getG R (kd_lt hr (by decide)) (en_8 hr) (C := RX2) (T := TX2) (N := 3) rfl inG2 0 (by decide) fl rfl d k
theorem g_Image_seed (R : Ru l D cs φ own cc nL fr lo V) {r : Nat} {idx : Nat} (d : decode cc pc = .ok (.getfield idx, 3)) (fl : Cond.fieldLink own idx "FarEnds$Image" "seed" "I" ∈ lw_g) (hr : kd r = 8) (k : V (pc + 3) lc (.int (h.1 r 1) :: st) h) : V pc lc (.ref (φ r) :: st) h :=
  v_getG R (kd_lt hr (by decide)) (en_8 hr) (C := RX2) (T := TX2) (N := 3) rfl inG2 1 (by decide) fl rfl d k
theorem p_Image_seed (R : Ru l D cs φ own cc nL fr lo V) {r : Nat} {idx : Nat} {v : Int32} (d : decode cc pc = .ok (.putfield idx, 3)) (fl : Cond.fieldLink own idx "FarEnds$Image" "seed" "I" ∈ lw_g) (hr : kd r = 8) {B : Hp → Prop} (hP : lt (wi h r 1 v) B) (k : ∀ h2, B h2 → V (pc + 3) lc st h2) : V pc lc (.int v :: .ref (φ r) :: st) h :=
  v_putG R (kd_lt hr (by decide)) (en_8 hr) (C := RX2) (T := TX2) (N := 3) rfl inG2 tyX2 tyX2_ok nmX2 1 (by decide) fl rfl (ty := .int) (by decide +kernel) rfl rfl (by simp) (h2 := wi h r 1 v) (by rw [(en_8 hr), wi_eq]; rfl) (fun i hi => en_c (wi_ne hi) rfl) d (k _ hP)
theorem g_Image_kept (R : Ru l D cs φ own cc nL fr lo V) {r : Nat} {idx : Nat} (d : decode cc pc = .ok (.getfield idx, 3)) (fl : Cond.fieldLink own idx "FarEnds$Image" "kept" "Z" ∈ lw_g) (hr : kd r = 8) (k : V (pc + 3) lc (.int (h.1 r 2) :: st) h) : V pc lc (.ref (φ r) :: st) h :=
  v_getG R (kd_lt hr (by decide)) (en_8 hr) (C := RX2) (T := TX2) (N := 3) rfl inG2 2 (by decide) fl rfl d k
theorem p_Image_kept (R : Ru l D cs φ own cc nL fr lo V) {r : Nat} {idx : Nat} {v : Int32} (d : decode cc pc = .ok (.putfield idx, 3)) (fl : Cond.fieldLink own idx "FarEnds$Image" "kept" "Z" ∈ lw_g) (hr : kd r = 8) (hb2 : v = 0 ∨ v = 1) {B : Hp → Prop} (hP : lt (wi h r 2 v) B) (k : ∀ h2, B h2 → V (pc + 3) lc st h2) : V pc lc (.int v :: .ref (φ r) :: st) h :=
  v_putG R (kd_lt hr (by decide)) (en_8 hr) (C := RX2) (T := TX2) (N := 3) rfl inG2 tyX2 tyX2_ok nmX2 2 (by decide) fl rfl (ty := .boolean) (by decide +kernel) (by rcases hb2 with rfl | rfl <;> rfl) (by rcases hb2 with rfl | rfl <;> rfl) (by simp) (h2 := wi h r 2 v) (by rw [(en_8 hr), wi_eq]; rfl) (fun i hi => en_c (wi_ne hi) rfl) d (k _ hP)
theorem g_State_kinds (R : Ru l D cs φ own cc nL fr lo V) {r : Nat} {idx : Nat} (d : decode cc pc = .ok (.getfield idx, 3)) (fl : Cond.fieldLink own idx "FarEnds$State" "kinds" "I" ∈ lw_g) (hr : kd r = 9) (k : V (pc + 3) lc (.int (h.1 r 0) :: st) h) : V pc lc (.ref (φ r) :: st) h :=
  v_getG R (kd_lt hr (by decide)) (en_9 hr) (C := RX8) (T := TX8) (N := 8) rfl inG8 0 (by decide) fl rfl d k
theorem p_State_kinds (R : Ru l D cs φ own cc nL fr lo V) {r : Nat} {idx : Nat} {v : Int32} (d : decode cc pc = .ok (.putfield idx, 3)) (fl : Cond.fieldLink own idx "FarEnds$State" "kinds" "I" ∈ lw_g) (hr : kd r = 9) {B : Hp → Prop} (hP : lt (wi h r 0 v) B) (k : ∀ h2, B h2 → V (pc + 3) lc st h2) : V pc lc (.int v :: .ref (φ r) :: st) h :=
  v_putG R (kd_lt hr (by decide)) (en_9 hr) (C := RX8) (T := TX8) (N := 8) rfl inG8 tyX8 tyX8_ok nmX8 0 (by decide) fl rfl (ty := .int) (by decide +kernel) rfl rfl (by simp) (h2 := wi h r 0 v) (by rw [(en_9 hr), wi_eq]; rfl) (fun i hi => en_c (wi_ne hi) rfl) d (k _ hP)
theorem g_State_touching (R : Ru l D cs φ own cc nL fr lo V) {r : Nat} {idx : Nat} (d : decode cc pc = .ok (.getfield idx, 3)) (fl : Cond.fieldLink own idx "FarEnds$State" "touching" "I" ∈ lw_g) (hr : kd r = 9) (k : V (pc + 3) lc (.int (h.1 r 1) :: st) h) : V pc lc (.ref (φ r) :: st) h :=
  v_getG R (kd_lt hr (by decide)) (en_9 hr) (C := RX8) (T := TX8) (N := 8) rfl inG8 1 (by decide) fl rfl d k
theorem p_State_touching (R : Ru l D cs φ own cc nL fr lo V) {r : Nat} {idx : Nat} {v : Int32} (d : decode cc pc = .ok (.putfield idx, 3)) (fl : Cond.fieldLink own idx "FarEnds$State" "touching" "I" ∈ lw_g) (hr : kd r = 9) {B : Hp → Prop} (hP : lt (wi h r 1 v) B) (k : ∀ h2, B h2 → V (pc + 3) lc st h2) : V pc lc (.int v :: .ref (φ r) :: st) h :=
  v_putG R (kd_lt hr (by decide)) (en_9 hr) (C := RX8) (T := TX8) (N := 8) rfl inG8 tyX8 tyX8_ok nmX8 1 (by decide) fl rfl (ty := .int) (by decide +kernel) rfl rfl (by simp) (h2 := wi h r 1 v) (by rw [(en_9 hr), wi_eq]; rfl) (fun i hi => en_c (wi_ne hi) rfl) d (k _ hP)
theorem g_State_nearTies (R : Ru l D cs φ own cc nL fr lo V) {r : Nat} {idx : Nat} (d : decode cc pc = .ok (.getfield idx, 3)) (fl : Cond.fieldLink own idx "FarEnds$State" "nearTies" "I" ∈ lw_g) (hr : kd r = 9) (k : V (pc + 3) lc (.int (h.1 r 2) :: st) h) : V pc lc (.ref (φ r) :: st) h :=
  v_getG R (kd_lt hr (by decide)) (en_9 hr) (C := RX8) (T := TX8) (N := 8) rfl inG8 2 (by decide) fl rfl d k
theorem p_State_nearTies (R : Ru l D cs φ own cc nL fr lo V) {r : Nat} {idx : Nat} {v : Int32} (d : decode cc pc = .ok (.putfield idx, 3)) (fl : Cond.fieldLink own idx "FarEnds$State" "nearTies" "I" ∈ lw_g) (hr : kd r = 9) {B : Hp → Prop} (hP : lt (wi h r 2 v) B) (k : ∀ h2, B h2 → V (pc + 3) lc st h2) : V pc lc (.int v :: .ref (φ r) :: st) h :=
  v_putG R (kd_lt hr (by decide)) (en_9 hr) (C := RX8) (T := TX8) (N := 8) rfl inG8 tyX8 tyX8_ok nmX8 2 (by decide) fl rfl (ty := .int) (by decide +kernel) rfl rfl (by simp) (h2 := wi h r 2 v) (by rw [(en_9 hr), wi_eq]; rfl) (fun i hi => en_c (wi_ne hi) rfl) d (k _ hP)
theorem g_State_farTies (R : Ru l D cs φ own cc nL fr lo V) {r : Nat} {idx : Nat} (d : decode cc pc = .ok (.getfield idx, 3)) (fl : Cond.fieldLink own idx "FarEnds$State" "farTies" "I" ∈ lw_g) (hr : kd r = 9) (k : V (pc + 3) lc (.int (h.1 r 3) :: st) h) : V pc lc (.ref (φ r) :: st) h :=
  v_getG R (kd_lt hr (by decide)) (en_9 hr) (C := RX8) (T := TX8) (N := 8) rfl inG8 3 (by decide) fl rfl d k
theorem p_State_farTies (R : Ru l D cs φ own cc nL fr lo V) {r : Nat} {idx : Nat} {v : Int32} (d : decode cc pc = .ok (.putfield idx, 3)) (fl : Cond.fieldLink own idx "FarEnds$State" "farTies" "I" ∈ lw_g) (hr : kd r = 9) {B : Hp → Prop} (hP : lt (wi h r 3 v) B) (k : ∀ h2, B h2 → V (pc + 3) lc st h2) : V pc lc (.int v :: .ref (φ r) :: st) h :=
  v_putG R (kd_lt hr (by decide)) (en_9 hr) (C := RX8) (T := TX8) (N := 8) rfl inG8 tyX8 tyX8_ok nmX8 3 (by decide) fl rfl (ty := .int) (by decide +kernel) rfl rfl (by simp) (h2 := wi h r 3 v) (by rw [(en_9 hr), wi_eq]; rfl) (fun i hi => en_c (wi_ne hi) rfl) d (k _ hP)
theorem g_State_place (R : Ru l D cs φ own cc nL fr lo V) {r : Nat} {idx : Nat} (d : decode cc pc = .ok (.getfield idx, 3)) (fl : Cond.fieldLink own idx "FarEnds$State" "place" "I" ∈ lw_g) (hr : kd r = 9) (k : V (pc + 3) lc (.int (h.1 r 4) :: st) h) : V pc lc (.ref (φ r) :: st) h :=
  v_getG R (kd_lt hr (by decide)) (en_9 hr) (C := RX8) (T := TX8) (N := 8) rfl inG8 4 (by decide) fl rfl d k
theorem p_State_place (R : Ru l D cs φ own cc nL fr lo V) {r : Nat} {idx : Nat} {v : Int32} (d : decode cc pc = .ok (.putfield idx, 3)) (fl : Cond.fieldLink own idx "FarEnds$State" "place" "I" ∈ lw_g) (hr : kd r = 9) {B : Hp → Prop} (hP : lt (wi h r 4 v) B) (k : ∀ h2, B h2 → V (pc + 3) lc st h2) : V pc lc (.int v :: .ref (φ r) :: st) h :=
  v_putG R (kd_lt hr (by decide)) (en_9 hr) (C := RX8) (T := TX8) (N := 8) rfl inG8 tyX8 tyX8_ok nmX8 4 (by decide) fl rfl (ty := .int) (by decide +kernel) rfl rfl (by simp) (h2 := wi h r 4 v) (by rw [(en_9 hr), wi_eq]; rfl) (fun i hi => en_c (wi_ne hi) rfl) d (k _ hP)
theorem g_State_hours (R : Ru l D cs φ own cc nL fr lo V) {r : Nat} {idx : Nat} (d : decode cc pc = .ok (.getfield idx, 3)) (fl : Cond.fieldLink own idx "FarEnds$State" "hours" "I" ∈ lw_g) (hr : kd r = 9) (k : V (pc + 3) lc (.int (h.1 r 5) :: st) h) : V pc lc (.ref (φ r) :: st) h :=
  v_getG R (kd_lt hr (by decide)) (en_9 hr) (C := RX8) (T := TX8) (N := 8) rfl inG8 5 (by decide) fl rfl d k
theorem p_State_hours (R : Ru l D cs φ own cc nL fr lo V) {r : Nat} {idx : Nat} {v : Int32} (d : decode cc pc = .ok (.putfield idx, 3)) (fl : Cond.fieldLink own idx "FarEnds$State" "hours" "I" ∈ lw_g) (hr : kd r = 9) {B : Hp → Prop} (hP : lt (wi h r 5 v) B) (k : ∀ h2, B h2 → V (pc + 3) lc st h2) : V pc lc (.int v :: .ref (φ r) :: st) h :=
  v_putG R (kd_lt hr (by decide)) (en_9 hr) (C := RX8) (T := TX8) (N := 8) rfl inG8 tyX8 tyX8_ok nmX8 5 (by decide) fl rfl (ty := .int) (by decide +kernel) rfl rfl (by simp) (h2 := wi h r 5 v) (by rw [(en_9 hr), wi_eq]; rfl) (fun i hi => en_c (wi_ne hi) rfl) d (k _ hP)
theorem g_State_crosses (R : Ru l D cs φ own cc nL fr lo V) {r : Nat} {idx : Nat} (d : decode cc pc = .ok (.getfield idx, 3)) (fl : Cond.fieldLink own idx "FarEnds$State" "crosses" "I" ∈ lw_g) (hr : kd r = 9) (k : V (pc + 3) lc (.int (h.1 r 6) :: st) h) : V pc lc (.ref (φ r) :: st) h :=
  v_getG R (kd_lt hr (by decide)) (en_9 hr) (C := RX8) (T := TX8) (N := 8) rfl inG8 6 (by decide) fl rfl d k
theorem p_State_crosses (R : Ru l D cs φ own cc nL fr lo V) {r : Nat} {idx : Nat} {v : Int32} (d : decode cc pc = .ok (.putfield idx, 3)) (fl : Cond.fieldLink own idx "FarEnds$State" "crosses" "I" ∈ lw_g) (hr : kd r = 9) {B : Hp → Prop} (hP : lt (wi h r 6 v) B) (k : ∀ h2, B h2 → V (pc + 3) lc st h2) : V pc lc (.int v :: .ref (φ r) :: st) h :=
  v_putG R (kd_lt hr (by decide)) (en_9 hr) (C := RX8) (T := TX8) (N := 8) rfl inG8 tyX8 tyX8_ok nmX8 6 (by decide) fl rfl (ty := .int) (by decide +kernel) rfl rfl (by simp) (h2 := wi h r 6 v) (by rw [(en_9 hr), wi_eq]; rfl) (fun i hi => en_c (wi_ne hi) rfl) d (k _ hP)
theorem g_State_tests (R : Ru l D cs φ own cc nL fr lo V) {r : Nat} {idx : Nat} (d : decode cc pc = .ok (.getfield idx, 3)) (fl : Cond.fieldLink own idx "FarEnds$State" "tests" "I" ∈ lw_g) (hr : kd r = 9) (k : V (pc + 3) lc (.int (h.1 r 7) :: st) h) : V pc lc (.ref (φ r) :: st) h :=
  v_getG R (kd_lt hr (by decide)) (en_9 hr) (C := RX8) (T := TX8) (N := 8) rfl inG8 7 (by decide) fl rfl d k
theorem p_State_tests (R : Ru l D cs φ own cc nL fr lo V) {r : Nat} {idx : Nat} {v : Int32} (d : decode cc pc = .ok (.putfield idx, 3)) (fl : Cond.fieldLink own idx "FarEnds$State" "tests" "I" ∈ lw_g) (hr : kd r = 9) {B : Hp → Prop} (hP : lt (wi h r 7 v) B) (k : ∀ h2, B h2 → V (pc + 3) lc st h2) : V pc lc (.int v :: .ref (φ r) :: st) h :=
  v_putG R (kd_lt hr (by decide)) (en_9 hr) (C := RX8) (T := TX8) (N := 8) rfl inG8 tyX8 tyX8_ok nmX8 7 (by decide) fl rfl (ty := .int) (by decide +kernel) rfl rfl (by simp) (h2 := wi h r 7 v) (by rw [(en_9 hr), wi_eq]; rfl) (fun i hi => en_c (wi_ne hi) rfl) d (k _ hP)
theorem g_Seen_nearTies (R : Ru l D cs φ own cc nL fr lo V) {r : Nat} {idx : Nat} (d : decode cc pc = .ok (.getfield idx, 3)) (fl : Cond.fieldLink own idx "FarEnds$Seen" "nearTies" "I" ∈ lw_g) (hr : kd r = 10) (k : V (pc + 3) lc (.int (h.1 r 0) :: st) h) : V pc lc (.ref (φ r) :: st) h :=
  v_getG R (kd_lt hr (by decide)) (en_10 hr) (C := RX7) (T := TX7) (N := 8) rfl inG7 0 (by decide) fl rfl d k
theorem p_Seen_nearTies (R : Ru l D cs φ own cc nL fr lo V) {r : Nat} {idx : Nat} {v : Int32} (d : decode cc pc = .ok (.putfield idx, 3)) (fl : Cond.fieldLink own idx "FarEnds$Seen" "nearTies" "I" ∈ lw_g) (hr : kd r = 10) {B : Hp → Prop} (hP : lt (wi h r 0 v) B) (k : ∀ h2, B h2 → V (pc + 3) lc st h2) : V pc lc (.int v :: .ref (φ r) :: st) h :=
  v_putG R (kd_lt hr (by decide)) (en_10 hr) (C := RX7) (T := TX7) (N := 8) rfl inG7 tyX7 tyX7_ok nmX7 0 (by decide) fl rfl (ty := .int) (by decide +kernel) rfl rfl (by simp) (h2 := wi h r 0 v) (by rw [(en_10 hr), wi_eq]; rfl) (fun i hi => en_c (wi_ne hi) rfl) d (k _ hP)
theorem g_Seen_farTies (R : Ru l D cs φ own cc nL fr lo V) {r : Nat} {idx : Nat} (d : decode cc pc = .ok (.getfield idx, 3)) (fl : Cond.fieldLink own idx "FarEnds$Seen" "farTies" "I" ∈ lw_g) (hr : kd r = 10) (k : V (pc + 3) lc (.int (h.1 r 1) :: st) h) : V pc lc (.ref (φ r) :: st) h :=
  v_getG R (kd_lt hr (by decide)) (en_10 hr) (C := RX7) (T := TX7) (N := 8) rfl inG7 1 (by decide) fl rfl d k
theorem p_Seen_farTies (R : Ru l D cs φ own cc nL fr lo V) {r : Nat} {idx : Nat} {v : Int32} (d : decode cc pc = .ok (.putfield idx, 3)) (fl : Cond.fieldLink own idx "FarEnds$Seen" "farTies" "I" ∈ lw_g) (hr : kd r = 10) {B : Hp → Prop} (hP : lt (wi h r 1 v) B) (k : ∀ h2, B h2 → V (pc + 3) lc st h2) : V pc lc (.int v :: .ref (φ r) :: st) h :=
  v_putG R (kd_lt hr (by decide)) (en_10 hr) (C := RX7) (T := TX7) (N := 8) rfl inG7 tyX7 tyX7_ok nmX7 1 (by decide) fl rfl (ty := .int) (by decide +kernel) rfl rfl (by simp) (h2 := wi h r 1 v) (by rw [(en_10 hr), wi_eq]; rfl) (fun i hi => en_c (wi_ne hi) rfl) d (k _ hP)
theorem g_Seen_hour (R : Ru l D cs φ own cc nL fr lo V) {r : Nat} {idx : Nat} (d : decode cc pc = .ok (.getfield idx, 3)) (fl : Cond.fieldLink own idx "FarEnds$Seen" "hour" "I" ∈ lw_g) (hr : kd r = 10) (k : V (pc + 3) lc (.int (h.1 r 2) :: st) h) : V pc lc (.ref (φ r) :: st) h :=
  v_getG R (kd_lt hr (by decide)) (en_10 hr) (C := RX7) (T := TX7) (N := 8) rfl inG7 2 (by decide) fl rfl d k
theorem p_Seen_hour (R : Ru l D cs φ own cc nL fr lo V) {r : Nat} {idx : Nat} {v : Int32} (d : decode cc pc = .ok (.putfield idx, 3)) (fl : Cond.fieldLink own idx "FarEnds$Seen" "hour" "I" ∈ lw_g) (hr : kd r = 10) {B : Hp → Prop} (hP : lt (wi h r 2 v) B) (k : ∀ h2, B h2 → V (pc + 3) lc st h2) : V pc lc (.int v :: .ref (φ r) :: st) h :=
  v_putG R (kd_lt hr (by decide)) (en_10 hr) (C := RX7) (T := TX7) (N := 8) rfl inG7 tyX7 tyX7_ok nmX7 2 (by decide) fl rfl (ty := .int) (by decide +kernel) rfl rfl (by simp) (h2 := wi h r 2 v) (by rw [(en_10 hr), wi_eq]; rfl) (fun i hi => en_c (wi_ne hi) rfl) d (k _ hP)
theorem g_Seen_a (R : Ru l D cs φ own cc nL fr lo V) {r : Nat} {idx : Nat} (d : decode cc pc = .ok (.getfield idx, 3)) (fl : Cond.fieldLink own idx "FarEnds$Seen" "a" "I" ∈ lw_g) (hr : kd r = 10) (k : V (pc + 3) lc (.int (h.1 r 3) :: st) h) : V pc lc (.ref (φ r) :: st) h :=
  v_getG R (kd_lt hr (by decide)) (en_10 hr) (C := RX7) (T := TX7) (N := 8) rfl inG7 3 (by decide) fl rfl d k
theorem p_Seen_a (R : Ru l D cs φ own cc nL fr lo V) {r : Nat} {idx : Nat} {v : Int32} (d : decode cc pc = .ok (.putfield idx, 3)) (fl : Cond.fieldLink own idx "FarEnds$Seen" "a" "I" ∈ lw_g) (hr : kd r = 10) {B : Hp → Prop} (hP : lt (wi h r 3 v) B) (k : ∀ h2, B h2 → V (pc + 3) lc st h2) : V pc lc (.int v :: .ref (φ r) :: st) h :=
  v_putG R (kd_lt hr (by decide)) (en_10 hr) (C := RX7) (T := TX7) (N := 8) rfl inG7 tyX7 tyX7_ok nmX7 3 (by decide) fl rfl (ty := .int) (by decide +kernel) rfl rfl (by simp) (h2 := wi h r 3 v) (by rw [(en_10 hr), wi_eq]; rfl) (fun i hi => en_c (wi_ne hi) rfl) d (k _ hP)
theorem g_Seen_b (R : Ru l D cs φ own cc nL fr lo V) {r : Nat} {idx : Nat} (d : decode cc pc = .ok (.getfield idx, 3)) (fl : Cond.fieldLink own idx "FarEnds$Seen" "b" "I" ∈ lw_g) (hr : kd r = 10) (k : V (pc + 3) lc (.int (h.1 r 4) :: st) h) : V pc lc (.ref (φ r) :: st) h :=
  v_getG R (kd_lt hr (by decide)) (en_10 hr) (C := RX7) (T := TX7) (N := 8) rfl inG7 4 (by decide) fl rfl d k
theorem p_Seen_b (R : Ru l D cs φ own cc nL fr lo V) {r : Nat} {idx : Nat} {v : Int32} (d : decode cc pc = .ok (.putfield idx, 3)) (fl : Cond.fieldLink own idx "FarEnds$Seen" "b" "I" ∈ lw_g) (hr : kd r = 10) {B : Hp → Prop} (hP : lt (wi h r 4 v) B) (k : ∀ h2, B h2 → V (pc + 3) lc st h2) : V pc lc (.int v :: .ref (φ r) :: st) h :=
  v_putG R (kd_lt hr (by decide)) (en_10 hr) (C := RX7) (T := TX7) (N := 8) rfl inG7 tyX7 tyX7_ok nmX7 4 (by decide) fl rfl (ty := .int) (by decide +kernel) rfl rfl (by simp) (h2 := wi h r 4 v) (by rw [(en_10 hr), wi_eq]; rfl) (fun i hi => en_c (wi_ne hi) rfl) d (k _ hP)
theorem g_Seen_rang (R : Ru l D cs φ own cc nL fr lo V) {r : Nat} {idx : Nat} (d : decode cc pc = .ok (.getfield idx, 3)) (fl : Cond.fieldLink own idx "FarEnds$Seen" "rang" "Z" ∈ lw_g) (hr : kd r = 10) (k : V (pc + 3) lc (.int (h.1 r 5) :: st) h) : V pc lc (.ref (φ r) :: st) h :=
  v_getG R (kd_lt hr (by decide)) (en_10 hr) (C := RX7) (T := TX7) (N := 8) rfl inG7 5 (by decide) fl rfl d k
theorem p_Seen_rang (R : Ru l D cs φ own cc nL fr lo V) {r : Nat} {idx : Nat} {v : Int32} (d : decode cc pc = .ok (.putfield idx, 3)) (fl : Cond.fieldLink own idx "FarEnds$Seen" "rang" "Z" ∈ lw_g) (hr : kd r = 10) (hb2 : v = 0 ∨ v = 1) {B : Hp → Prop} (hP : lt (wi h r 5 v) B) (k : ∀ h2, B h2 → V (pc + 3) lc st h2) : V pc lc (.int v :: .ref (φ r) :: st) h :=
  v_putG R (kd_lt hr (by decide)) (en_10 hr) (C := RX7) (T := TX7) (N := 8) rfl inG7 tyX7 tyX7_ok nmX7 5 (by decide) fl rfl (ty := .boolean) (by decide +kernel) (by rcases hb2 with rfl | rfl <;> rfl) (by rcases hb2 with rfl | rfl <;> rfl) (by simp) (h2 := wi h r 5 v) (by rw [(en_10 hr), wi_eq]; rfl) (fun i hi => en_c (wi_ne hi) rfl) d (k _ hP)
theorem g_Seen_passing (R : Ru l D cs φ own cc nL fr lo V) {r : Nat} {idx : Nat} (d : decode cc pc = .ok (.getfield idx, 3)) (fl : Cond.fieldLink own idx "FarEnds$Seen" "passing" "I" ∈ lw_g) (hr : kd r = 10) (k : V (pc + 3) lc (.int (h.1 r 6) :: st) h) : V pc lc (.ref (φ r) :: st) h :=
  v_getG R (kd_lt hr (by decide)) (en_10 hr) (C := RX7) (T := TX7) (N := 8) rfl inG7 6 (by decide) fl rfl d k
theorem p_Seen_passing (R : Ru l D cs φ own cc nL fr lo V) {r : Nat} {idx : Nat} {v : Int32} (d : decode cc pc = .ok (.putfield idx, 3)) (fl : Cond.fieldLink own idx "FarEnds$Seen" "passing" "I" ∈ lw_g) (hr : kd r = 10) {B : Hp → Prop} (hP : lt (wi h r 6 v) B) (k : ∀ h2, B h2 → V (pc + 3) lc st h2) : V pc lc (.int v :: .ref (φ r) :: st) h :=
  v_putG R (kd_lt hr (by decide)) (en_10 hr) (C := RX7) (T := TX7) (N := 8) rfl inG7 tyX7 tyX7_ok nmX7 6 (by decide) fl rfl (ty := .int) (by decide +kernel) rfl rfl (by simp) (h2 := wi h r 6 v) (by rw [(en_10 hr), wi_eq]; rfl) (fun i hi => en_c (wi_ne hi) rfl) d (k _ hP)
theorem g_Seen_nets (R : Ru l D cs φ own cc nL fr lo V) {r : Nat} {idx : Nat} (d : decode cc pc = .ok (.getfield idx, 3)) (fl : Cond.fieldLink own idx "FarEnds$Seen" "nets" "LFarEnds$Nets;" ∈ lw_g) (hr : kd r = 10) (k : V (pc + 3) lc (.ref (φ (r + 8)) :: st) h) : V pc lc (.ref (φ r) :: st) h :=
  v_getG R (kd_lt hr (by decide)) (en_10 hr) (C := RX7) (T := TX7) (N := 8) rfl inG7 7 (by decide) fl rfl d k
theorem g_Nets_bare (R : Ru l D cs φ own cc nL fr lo V) {r : Nat} {idx : Nat} (d : decode cc pc = .ok (.getfield idx, 3)) (fl : Cond.fieldLink own idx "FarEnds$Nets" "bare" "[I" ∈ lw_g) (hr : kd r = 11) (k : V (pc + 3) lc (.ref (φ (r + 9)) :: st) h) : V pc lc (.ref (φ r) :: st) h :=
  v_getG R (kd_lt hr (by decide)) (en_11 hr) (C := RX3) (T := TX3) (N := 2) rfl inG3 0 (by decide) fl rfl d k
theorem g_Nets_whole (R : Ru l D cs φ own cc nL fr lo V) {r : Nat} {idx : Nat} (d : decode cc pc = .ok (.getfield idx, 3)) (fl : Cond.fieldLink own idx "FarEnds$Nets" "whole" "[I" ∈ lw_g) (hr : kd r = 11) (k : V (pc + 3) lc (.ref (φ (r + 18)) :: st) h) : V pc lc (.ref (φ r) :: st) h :=
  v_getG R (kd_lt hr (by decide)) (en_11 hr) (C := RX3) (T := TX3) (N := 2) rfl inG3 1 (by decide) fl rfl d k
theorem v_iastL (R : Ru l D cs φ own cc nL fr lo V) {r : Nat} {i x : Int32} (d : decode cc pc = .ok (.iastore, 1)) (hr : kd r = 12) (hi : vp_in i (al r)) {B : Hp → Prop} (hP : lt (wi h r i.toNatClampNeg x) B) (k : ∀ h2, B h2 → V (pc + 1) lc st h2) : V pc lc (.int x :: .int i :: .ref (φ r) :: st) h := v_iast R d hr hi (k _ hP)
theorem v_lastL (R : Ru l D cs φ own cc nL fr lo V) {i : Int32} {x : Int64} (d : decode cc pc = .ok (.lastore, 1)) (hi : vp_in i 2) {B : Hp → Prop} (hP : lt (wl h 89 i.toNatClampNeg x) B) (k : ∀ h2, B h2 → V (pc + 1) lc st h2) : V pc lc (.long x :: .int i :: .ref (φ 89) :: st) h := v_last R d hi (k _ hP)
theorem v_istoreL_0 (R : Ru l D cs φ own cc nL fr lo V) {z : Option Value} {r : List (Option Value)} {x : Int32} (d : decode cc pc = .ok (.istore_n 0, 1)) (hn : 0 < nL) (hk : stOk (z :: r) 0 = true) {B : Int32 → Prop} (hP : lt x B) (k : ∀ y, B y → V (pc + 1) (some (.int y) :: r) st h) : V pc (z :: r) (.int x :: st) h := v_istore_0 R d hn hk (k _ hP)
theorem v_iincL_0 (R : Ru l D cs φ own cc nL fr lo V) {r : List (Option Value)} {x : Int32} {n : Int} (v : Int32) (d : decode cc pc = .ok (.iinc 0 n, 3)) (hn : 0 < nL) (hk : stOk (some (.int x) :: r) 0 = true) (hv : Int32.ofInt n = v) {B : Int32 → Prop} (hP : lt (x + v) B) (k : ∀ y, B y → V (pc + 3) (some (.int y) :: r) st h) : V pc (some (.int x) :: r) st h := v_iinc_0 R v d hn hk hv (k _ hP)
theorem v_istoreL_1 (R : Ru l D cs φ own cc nL fr lo V) {a0 : Option Value} {z : Option Value} {r : List (Option Value)} {x : Int32} (d : decode cc pc = .ok (.istore_n 1, 1)) (hn : 1 < nL) (hk : stOk (a0 :: z :: r) 1 = true) {B : Int32 → Prop} (hP : lt x B) (k : ∀ y, B y → V (pc + 1) (a0 :: some (.int y) :: r) st h) : V pc (a0 :: z :: r) (.int x :: st) h := v_istore_1 R d hn hk (k _ hP)
theorem v_iincL_1 (R : Ru l D cs φ own cc nL fr lo V) {a0 : Option Value} {r : List (Option Value)} {x : Int32} {n : Int} (v : Int32) (d : decode cc pc = .ok (.iinc 1 n, 3)) (hn : 1 < nL) (hk : stOk (a0 :: some (.int x) :: r) 1 = true) (hv : Int32.ofInt n = v) {B : Int32 → Prop} (hP : lt (x + v) B) (k : ∀ y, B y → V (pc + 3) (a0 :: some (.int y) :: r) st h) : V pc (a0 :: some (.int x) :: r) st h := v_iinc_1 R v d hn hk hv (k _ hP)
theorem v_istoreL_2 (R : Ru l D cs φ own cc nL fr lo V) {a0 a1 : Option Value} {z : Option Value} {r : List (Option Value)} {x : Int32} (d : decode cc pc = .ok (.istore_n 2, 1)) (hn : 2 < nL) (hk : stOk (a0 :: a1 :: z :: r) 2 = true) {B : Int32 → Prop} (hP : lt x B) (k : ∀ y, B y → V (pc + 1) (a0 :: a1 :: some (.int y) :: r) st h) : V pc (a0 :: a1 :: z :: r) (.int x :: st) h := v_istore_2 R d hn hk (k _ hP)
theorem v_iincL_2 (R : Ru l D cs φ own cc nL fr lo V) {a0 a1 : Option Value} {r : List (Option Value)} {x : Int32} {n : Int} (v : Int32) (d : decode cc pc = .ok (.iinc 2 n, 3)) (hn : 2 < nL) (hk : stOk (a0 :: a1 :: some (.int x) :: r) 2 = true) (hv : Int32.ofInt n = v) {B : Int32 → Prop} (hP : lt (x + v) B) (k : ∀ y, B y → V (pc + 3) (a0 :: a1 :: some (.int y) :: r) st h) : V pc (a0 :: a1 :: some (.int x) :: r) st h := v_iinc_2 R v d hn hk hv (k _ hP)
theorem v_istoreL_3 (R : Ru l D cs φ own cc nL fr lo V) {a0 a1 a2 : Option Value} {z : Option Value} {r : List (Option Value)} {x : Int32} (d : decode cc pc = .ok (.istore_n 3, 1)) (hn : 3 < nL) (hk : stOk (a0 :: a1 :: a2 :: z :: r) 3 = true) {B : Int32 → Prop} (hP : lt x B) (k : ∀ y, B y → V (pc + 1) (a0 :: a1 :: a2 :: some (.int y) :: r) st h) : V pc (a0 :: a1 :: a2 :: z :: r) (.int x :: st) h := v_istore_3 R d hn hk (k _ hP)
theorem v_iincL_3 (R : Ru l D cs φ own cc nL fr lo V) {a0 a1 a2 : Option Value} {r : List (Option Value)} {x : Int32} {n : Int} (v : Int32) (d : decode cc pc = .ok (.iinc 3 n, 3)) (hn : 3 < nL) (hk : stOk (a0 :: a1 :: a2 :: some (.int x) :: r) 3 = true) (hv : Int32.ofInt n = v) {B : Int32 → Prop} (hP : lt (x + v) B) (k : ∀ y, B y → V (pc + 3) (a0 :: a1 :: a2 :: some (.int y) :: r) st h) : V pc (a0 :: a1 :: a2 :: some (.int x) :: r) st h := v_iinc_3 R v d hn hk hv (k _ hP)
theorem v_istoreL_4 (R : Ru l D cs φ own cc nL fr lo V) {a0 a1 a2 a3 : Option Value} {z : Option Value} {r : List (Option Value)} {x : Int32} (d : decode cc pc = .ok (.istore 4, 2)) (hn : 4 < nL) (hk : stOk (a0 :: a1 :: a2 :: a3 :: z :: r) 4 = true) {B : Int32 → Prop} (hP : lt x B) (k : ∀ y, B y → V (pc + 2) (a0 :: a1 :: a2 :: a3 :: some (.int y) :: r) st h) : V pc (a0 :: a1 :: a2 :: a3 :: z :: r) (.int x :: st) h := v_istore_4 R d hn hk (k _ hP)
theorem v_iincL_4 (R : Ru l D cs φ own cc nL fr lo V) {a0 a1 a2 a3 : Option Value} {r : List (Option Value)} {x : Int32} {n : Int} (v : Int32) (d : decode cc pc = .ok (.iinc 4 n, 3)) (hn : 4 < nL) (hk : stOk (a0 :: a1 :: a2 :: a3 :: some (.int x) :: r) 4 = true) (hv : Int32.ofInt n = v) {B : Int32 → Prop} (hP : lt (x + v) B) (k : ∀ y, B y → V (pc + 3) (a0 :: a1 :: a2 :: a3 :: some (.int y) :: r) st h) : V pc (a0 :: a1 :: a2 :: a3 :: some (.int x) :: r) st h := v_iinc_4 R v d hn hk hv (k _ hP)
theorem v_istoreL_5 (R : Ru l D cs φ own cc nL fr lo V) {a0 a1 a2 a3 a4 : Option Value} {z : Option Value} {r : List (Option Value)} {x : Int32} (d : decode cc pc = .ok (.istore 5, 2)) (hn : 5 < nL) (hk : stOk (a0 :: a1 :: a2 :: a3 :: a4 :: z :: r) 5 = true) {B : Int32 → Prop} (hP : lt x B) (k : ∀ y, B y → V (pc + 2) (a0 :: a1 :: a2 :: a3 :: a4 :: some (.int y) :: r) st h) : V pc (a0 :: a1 :: a2 :: a3 :: a4 :: z :: r) (.int x :: st) h := v_istore_5 R d hn hk (k _ hP)
theorem v_iincL_5 (R : Ru l D cs φ own cc nL fr lo V) {a0 a1 a2 a3 a4 : Option Value} {r : List (Option Value)} {x : Int32} {n : Int} (v : Int32) (d : decode cc pc = .ok (.iinc 5 n, 3)) (hn : 5 < nL) (hk : stOk (a0 :: a1 :: a2 :: a3 :: a4 :: some (.int x) :: r) 5 = true) (hv : Int32.ofInt n = v) {B : Int32 → Prop} (hP : lt (x + v) B) (k : ∀ y, B y → V (pc + 3) (a0 :: a1 :: a2 :: a3 :: a4 :: some (.int y) :: r) st h) : V pc (a0 :: a1 :: a2 :: a3 :: a4 :: some (.int x) :: r) st h := v_iinc_5 R v d hn hk hv (k _ hP)
theorem v_istoreL_6 (R : Ru l D cs φ own cc nL fr lo V) {a0 a1 a2 a3 a4 a5 : Option Value} {z : Option Value} {r : List (Option Value)} {x : Int32} (d : decode cc pc = .ok (.istore 6, 2)) (hn : 6 < nL) (hk : stOk (a0 :: a1 :: a2 :: a3 :: a4 :: a5 :: z :: r) 6 = true) {B : Int32 → Prop} (hP : lt x B) (k : ∀ y, B y → V (pc + 2) (a0 :: a1 :: a2 :: a3 :: a4 :: a5 :: some (.int y) :: r) st h) : V pc (a0 :: a1 :: a2 :: a3 :: a4 :: a5 :: z :: r) (.int x :: st) h := v_istore_6 R d hn hk (k _ hP)
theorem v_iincL_6 (R : Ru l D cs φ own cc nL fr lo V) {a0 a1 a2 a3 a4 a5 : Option Value} {r : List (Option Value)} {x : Int32} {n : Int} (v : Int32) (d : decode cc pc = .ok (.iinc 6 n, 3)) (hn : 6 < nL) (hk : stOk (a0 :: a1 :: a2 :: a3 :: a4 :: a5 :: some (.int x) :: r) 6 = true) (hv : Int32.ofInt n = v) {B : Int32 → Prop} (hP : lt (x + v) B) (k : ∀ y, B y → V (pc + 3) (a0 :: a1 :: a2 :: a3 :: a4 :: a5 :: some (.int y) :: r) st h) : V pc (a0 :: a1 :: a2 :: a3 :: a4 :: a5 :: some (.int x) :: r) st h := v_iinc_6 R v d hn hk hv (k _ hP)
theorem v_istoreL_7 (R : Ru l D cs φ own cc nL fr lo V) {a0 a1 a2 a3 a4 a5 a6 : Option Value} {z : Option Value} {r : List (Option Value)} {x : Int32} (d : decode cc pc = .ok (.istore 7, 2)) (hn : 7 < nL) (hk : stOk (a0 :: a1 :: a2 :: a3 :: a4 :: a5 :: a6 :: z :: r) 7 = true) {B : Int32 → Prop} (hP : lt x B) (k : ∀ y, B y → V (pc + 2) (a0 :: a1 :: a2 :: a3 :: a4 :: a5 :: a6 :: some (.int y) :: r) st h) : V pc (a0 :: a1 :: a2 :: a3 :: a4 :: a5 :: a6 :: z :: r) (.int x :: st) h := v_istore_7 R d hn hk (k _ hP)
theorem v_iincL_7 (R : Ru l D cs φ own cc nL fr lo V) {a0 a1 a2 a3 a4 a5 a6 : Option Value} {r : List (Option Value)} {x : Int32} {n : Int} (v : Int32) (d : decode cc pc = .ok (.iinc 7 n, 3)) (hn : 7 < nL) (hk : stOk (a0 :: a1 :: a2 :: a3 :: a4 :: a5 :: a6 :: some (.int x) :: r) 7 = true) (hv : Int32.ofInt n = v) {B : Int32 → Prop} (hP : lt (x + v) B) (k : ∀ y, B y → V (pc + 3) (a0 :: a1 :: a2 :: a3 :: a4 :: a5 :: a6 :: some (.int y) :: r) st h) : V pc (a0 :: a1 :: a2 :: a3 :: a4 :: a5 :: a6 :: some (.int x) :: r) st h := v_iinc_7 R v d hn hk hv (k _ hP)
theorem v_istoreL_8 (R : Ru l D cs φ own cc nL fr lo V) {a0 a1 a2 a3 a4 a5 a6 a7 : Option Value} {z : Option Value} {r : List (Option Value)} {x : Int32} (d : decode cc pc = .ok (.istore 8, 2)) (hn : 8 < nL) (hk : stOk (a0 :: a1 :: a2 :: a3 :: a4 :: a5 :: a6 :: a7 :: z :: r) 8 = true) {B : Int32 → Prop} (hP : lt x B) (k : ∀ y, B y → V (pc + 2) (a0 :: a1 :: a2 :: a3 :: a4 :: a5 :: a6 :: a7 :: some (.int y) :: r) st h) : V pc (a0 :: a1 :: a2 :: a3 :: a4 :: a5 :: a6 :: a7 :: z :: r) (.int x :: st) h := v_istore_8 R d hn hk (k _ hP)
theorem v_iincL_8 (R : Ru l D cs φ own cc nL fr lo V) {a0 a1 a2 a3 a4 a5 a6 a7 : Option Value} {r : List (Option Value)} {x : Int32} {n : Int} (v : Int32) (d : decode cc pc = .ok (.iinc 8 n, 3)) (hn : 8 < nL) (hk : stOk (a0 :: a1 :: a2 :: a3 :: a4 :: a5 :: a6 :: a7 :: some (.int x) :: r) 8 = true) (hv : Int32.ofInt n = v) {B : Int32 → Prop} (hP : lt (x + v) B) (k : ∀ y, B y → V (pc + 3) (a0 :: a1 :: a2 :: a3 :: a4 :: a5 :: a6 :: a7 :: some (.int y) :: r) st h) : V pc (a0 :: a1 :: a2 :: a3 :: a4 :: a5 :: a6 :: a7 :: some (.int x) :: r) st h := v_iinc_8 R v d hn hk hv (k _ hP)
theorem v_istoreL_9 (R : Ru l D cs φ own cc nL fr lo V) {a0 a1 a2 a3 a4 a5 a6 a7 a8 : Option Value} {z : Option Value} {r : List (Option Value)} {x : Int32} (d : decode cc pc = .ok (.istore 9, 2)) (hn : 9 < nL) (hk : stOk (a0 :: a1 :: a2 :: a3 :: a4 :: a5 :: a6 :: a7 :: a8 :: z :: r) 9 = true) {B : Int32 → Prop} (hP : lt x B) (k : ∀ y, B y → V (pc + 2) (a0 :: a1 :: a2 :: a3 :: a4 :: a5 :: a6 :: a7 :: a8 :: some (.int y) :: r) st h) : V pc (a0 :: a1 :: a2 :: a3 :: a4 :: a5 :: a6 :: a7 :: a8 :: z :: r) (.int x :: st) h := v_istore_9 R d hn hk (k _ hP)
theorem v_iincL_9 (R : Ru l D cs φ own cc nL fr lo V) {a0 a1 a2 a3 a4 a5 a6 a7 a8 : Option Value} {r : List (Option Value)} {x : Int32} {n : Int} (v : Int32) (d : decode cc pc = .ok (.iinc 9 n, 3)) (hn : 9 < nL) (hk : stOk (a0 :: a1 :: a2 :: a3 :: a4 :: a5 :: a6 :: a7 :: a8 :: some (.int x) :: r) 9 = true) (hv : Int32.ofInt n = v) {B : Int32 → Prop} (hP : lt (x + v) B) (k : ∀ y, B y → V (pc + 3) (a0 :: a1 :: a2 :: a3 :: a4 :: a5 :: a6 :: a7 :: a8 :: some (.int y) :: r) st h) : V pc (a0 :: a1 :: a2 :: a3 :: a4 :: a5 :: a6 :: a7 :: a8 :: some (.int x) :: r) st h := v_iinc_9 R v d hn hk hv (k _ hP)
theorem v_istoreL_10 (R : Ru l D cs φ own cc nL fr lo V) {a0 a1 a2 a3 a4 a5 a6 a7 a8 a9 : Option Value} {z : Option Value} {r : List (Option Value)} {x : Int32} (d : decode cc pc = .ok (.istore 10, 2)) (hn : 10 < nL) (hk : stOk (a0 :: a1 :: a2 :: a3 :: a4 :: a5 :: a6 :: a7 :: a8 :: a9 :: z :: r) 10 = true) {B : Int32 → Prop} (hP : lt x B) (k : ∀ y, B y → V (pc + 2) (a0 :: a1 :: a2 :: a3 :: a4 :: a5 :: a6 :: a7 :: a8 :: a9 :: some (.int y) :: r) st h) : V pc (a0 :: a1 :: a2 :: a3 :: a4 :: a5 :: a6 :: a7 :: a8 :: a9 :: z :: r) (.int x :: st) h := v_istore_10 R d hn hk (k _ hP)
theorem v_iincL_10 (R : Ru l D cs φ own cc nL fr lo V) {a0 a1 a2 a3 a4 a5 a6 a7 a8 a9 : Option Value} {r : List (Option Value)} {x : Int32} {n : Int} (v : Int32) (d : decode cc pc = .ok (.iinc 10 n, 3)) (hn : 10 < nL) (hk : stOk (a0 :: a1 :: a2 :: a3 :: a4 :: a5 :: a6 :: a7 :: a8 :: a9 :: some (.int x) :: r) 10 = true) (hv : Int32.ofInt n = v) {B : Int32 → Prop} (hP : lt (x + v) B) (k : ∀ y, B y → V (pc + 3) (a0 :: a1 :: a2 :: a3 :: a4 :: a5 :: a6 :: a7 :: a8 :: a9 :: some (.int y) :: r) st h) : V pc (a0 :: a1 :: a2 :: a3 :: a4 :: a5 :: a6 :: a7 :: a8 :: a9 :: some (.int x) :: r) st h := v_iinc_10 R v d hn hk hv (k _ hP)
theorem v_istoreL_11 (R : Ru l D cs φ own cc nL fr lo V) {a0 a1 a2 a3 a4 a5 a6 a7 a8 a9 a10 : Option Value} {z : Option Value} {r : List (Option Value)} {x : Int32} (d : decode cc pc = .ok (.istore 11, 2)) (hn : 11 < nL) (hk : stOk (a0 :: a1 :: a2 :: a3 :: a4 :: a5 :: a6 :: a7 :: a8 :: a9 :: a10 :: z :: r) 11 = true) {B : Int32 → Prop} (hP : lt x B) (k : ∀ y, B y → V (pc + 2) (a0 :: a1 :: a2 :: a3 :: a4 :: a5 :: a6 :: a7 :: a8 :: a9 :: a10 :: some (.int y) :: r) st h) : V pc (a0 :: a1 :: a2 :: a3 :: a4 :: a5 :: a6 :: a7 :: a8 :: a9 :: a10 :: z :: r) (.int x :: st) h := v_istore_11 R d hn hk (k _ hP)
theorem v_iincL_11 (R : Ru l D cs φ own cc nL fr lo V) {a0 a1 a2 a3 a4 a5 a6 a7 a8 a9 a10 : Option Value} {r : List (Option Value)} {x : Int32} {n : Int} (v : Int32) (d : decode cc pc = .ok (.iinc 11 n, 3)) (hn : 11 < nL) (hk : stOk (a0 :: a1 :: a2 :: a3 :: a4 :: a5 :: a6 :: a7 :: a8 :: a9 :: a10 :: some (.int x) :: r) 11 = true) (hv : Int32.ofInt n = v) {B : Int32 → Prop} (hP : lt (x + v) B) (k : ∀ y, B y → V (pc + 3) (a0 :: a1 :: a2 :: a3 :: a4 :: a5 :: a6 :: a7 :: a8 :: a9 :: a10 :: some (.int y) :: r) st h) : V pc (a0 :: a1 :: a2 :: a3 :: a4 :: a5 :: a6 :: a7 :: a8 :: a9 :: a10 :: some (.int x) :: r) st h := v_iinc_11 R v d hn hk hv (k _ hP)
theorem v_istoreL_12 (R : Ru l D cs φ own cc nL fr lo V) {a0 a1 a2 a3 a4 a5 a6 a7 a8 a9 a10 a11 : Option Value} {z : Option Value} {r : List (Option Value)} {x : Int32} (d : decode cc pc = .ok (.istore 12, 2)) (hn : 12 < nL) (hk : stOk (a0 :: a1 :: a2 :: a3 :: a4 :: a5 :: a6 :: a7 :: a8 :: a9 :: a10 :: a11 :: z :: r) 12 = true) {B : Int32 → Prop} (hP : lt x B) (k : ∀ y, B y → V (pc + 2) (a0 :: a1 :: a2 :: a3 :: a4 :: a5 :: a6 :: a7 :: a8 :: a9 :: a10 :: a11 :: some (.int y) :: r) st h) : V pc (a0 :: a1 :: a2 :: a3 :: a4 :: a5 :: a6 :: a7 :: a8 :: a9 :: a10 :: a11 :: z :: r) (.int x :: st) h := v_istore_12 R d hn hk (k _ hP)
theorem v_iincL_12 (R : Ru l D cs φ own cc nL fr lo V) {a0 a1 a2 a3 a4 a5 a6 a7 a8 a9 a10 a11 : Option Value} {r : List (Option Value)} {x : Int32} {n : Int} (v : Int32) (d : decode cc pc = .ok (.iinc 12 n, 3)) (hn : 12 < nL) (hk : stOk (a0 :: a1 :: a2 :: a3 :: a4 :: a5 :: a6 :: a7 :: a8 :: a9 :: a10 :: a11 :: some (.int x) :: r) 12 = true) (hv : Int32.ofInt n = v) {B : Int32 → Prop} (hP : lt (x + v) B) (k : ∀ y, B y → V (pc + 3) (a0 :: a1 :: a2 :: a3 :: a4 :: a5 :: a6 :: a7 :: a8 :: a9 :: a10 :: a11 :: some (.int y) :: r) st h) : V pc (a0 :: a1 :: a2 :: a3 :: a4 :: a5 :: a6 :: a7 :: a8 :: a9 :: a10 :: a11 :: some (.int x) :: r) st h := v_iinc_12 R v d hn hk hv (k _ hP)
theorem v_istoreL_13 (R : Ru l D cs φ own cc nL fr lo V) {a0 a1 a2 a3 a4 a5 a6 a7 a8 a9 a10 a11 a12 : Option Value} {z : Option Value} {r : List (Option Value)} {x : Int32} (d : decode cc pc = .ok (.istore 13, 2)) (hn : 13 < nL) (hk : stOk (a0 :: a1 :: a2 :: a3 :: a4 :: a5 :: a6 :: a7 :: a8 :: a9 :: a10 :: a11 :: a12 :: z :: r) 13 = true) {B : Int32 → Prop} (hP : lt x B) (k : ∀ y, B y → V (pc + 2) (a0 :: a1 :: a2 :: a3 :: a4 :: a5 :: a6 :: a7 :: a8 :: a9 :: a10 :: a11 :: a12 :: some (.int y) :: r) st h) : V pc (a0 :: a1 :: a2 :: a3 :: a4 :: a5 :: a6 :: a7 :: a8 :: a9 :: a10 :: a11 :: a12 :: z :: r) (.int x :: st) h := v_istore_13 R d hn hk (k _ hP)
theorem v_iincL_13 (R : Ru l D cs φ own cc nL fr lo V) {a0 a1 a2 a3 a4 a5 a6 a7 a8 a9 a10 a11 a12 : Option Value} {r : List (Option Value)} {x : Int32} {n : Int} (v : Int32) (d : decode cc pc = .ok (.iinc 13 n, 3)) (hn : 13 < nL) (hk : stOk (a0 :: a1 :: a2 :: a3 :: a4 :: a5 :: a6 :: a7 :: a8 :: a9 :: a10 :: a11 :: a12 :: some (.int x) :: r) 13 = true) (hv : Int32.ofInt n = v) {B : Int32 → Prop} (hP : lt (x + v) B) (k : ∀ y, B y → V (pc + 3) (a0 :: a1 :: a2 :: a3 :: a4 :: a5 :: a6 :: a7 :: a8 :: a9 :: a10 :: a11 :: a12 :: some (.int y) :: r) st h) : V pc (a0 :: a1 :: a2 :: a3 :: a4 :: a5 :: a6 :: a7 :: a8 :: a9 :: a10 :: a11 :: a12 :: some (.int x) :: r) st h := v_iinc_13 R v d hn hk hv (k _ hP)
theorem v_lstoreL_3 (R : Ru l D cs φ own cc nL fr lo V) {a0 a1 a2 z z2 : Option Value} {r : List (Option Value)} {x : Int64} (d : decode cc pc = .ok (.lstore_n 3, 1)) (hn : 4 < nL) (hk : stOk (a0 :: a1 :: a2 :: z :: z2 :: r) 3 = true) {B : Int64 → Prop} (hP : lt x B) (k : ∀ y, B y → V (pc + 1) (a0 :: a1 :: a2 :: some (.long y) :: none :: r) st h) : V pc (a0 :: a1 :: a2 :: z :: z2 :: r) (.long x :: st) h := v_lstore_3 R d hn hk (k _ hP)
def subL : List (Option Value) → List (Option Value) → Prop
  | none :: r, _ :: q => subL r q
  | some v :: r, some w :: q => v = w ∧ subL r q
  | [], [] => True
  | _, _ => False
theorem subL_get : ∀ {r q : List (Option Value)} {i : Nat} {v : Value}, subL r q → r[i]? = some (some v) → q[i]? = some (some v)
  | none :: r, b :: q, 0, v, _, h => by simp at h
  | none :: r, b :: q, i + 1, v, hs, h => by
    have := subL_get (r := r) (q := q) (i := i) (v := v) hs (by simpa using h)
    simpa using this
  | some x :: r, some w :: q, 0, v, hs, h => by
    simp at h
    simp [← h, hs.1]
  | some x :: r, some w :: q, i + 1, v, hs, h => by
    have := subL_get (r := r) (q := q) (i := i) (v := v) hs.2 (by simpa using h)
    simpa using this
  | [], [], i, v, _, h => by simp at h
theorem v_wk (R : Ru l D cs φ own cc nL fr lo V) (lc2 : List (Option Value)) (hs : subL lc2 lc) (k : V pc lc2 st h) : V pc lc st h := by
  obtain ⟨p, e, Rm, s, m, args, below, meth, c, A, cells, slots, Q, hx, hb, hml, hown, hts, hC, hA, hfr, hlo, hce, hsl, rfl⟩ := R
  intro H locs ls hW hS hl
  refine k H locs ls hW hS ⟨hl.1, hl.2.1, fun q hq => ?_⟩
  obtain ⟨i, h1, h2⟩ := asl_of hq
  rw [Nat.zero_add] at h1
  rw [h1]
  exact as_at hl (subL_get hs h2)
def Rc (r : Nat) (C : String) : Prop := r < 99 ∧ ∀ (cs : Nat → ClassId) (φ : Nat → Nat) (h : Hp), ∃ (ci : Nat) (fs : List Value) (q : vw_C), en cs φ h r = .inr (ci, fs) ∧ vwCl[ci]? = some q ∧ q.1 = C
theorem rc_Fe : Rc 0 RX10 := ⟨by decide, fun cs φ h => ⟨_, _, _, en_0, rfl, rfl⟩⟩
theorem rc_Reading : Rc 1 RX6 := ⟨by decide, fun cs φ h => ⟨_, _, _, en_1, rfl, rfl⟩⟩
theorem rc_Past : Rc 2 RX5 := ⟨by decide, fun cs φ h => ⟨_, _, _, en_2, rfl, rfl⟩⟩
theorem rc_Draws : Rc 3 RX0 := ⟨by decide, fun cs φ h => ⟨_, _, _, en_3, rfl, rfl⟩⟩
theorem rc_Orders : Rc 4 RX4 := ⟨by decide, fun cs φ h => ⟨_, _, _, en_4, rfl, rfl⟩⟩
theorem rc_Guess : Rc 5 RX1 := ⟨by decide, fun cs φ h => ⟨_, _, _, en_5, rfl, rfl⟩⟩
theorem rc_Ways : Rc 6 RX9 := ⟨by decide, fun cs φ h => ⟨_, _, _, en_6, rfl, rfl⟩⟩
theorem rc_Md : Rc 7 RX11 := ⟨by decide, fun cs φ h => ⟨_, _, _, en_7, rfl, rfl⟩⟩
theorem rc_Image {r : Nat} (hr : kd r = 8) : Rc r RX2 := ⟨kd_lt hr (by decide), fun cs φ h => ⟨_, _, _, en_8 hr, rfl, rfl⟩⟩
theorem rc_State {r : Nat} (hr : kd r = 9) : Rc r RX8 := ⟨kd_lt hr (by decide), fun cs φ h => ⟨_, _, _, en_9 hr, rfl, rfl⟩⟩
theorem rc_Seen {r : Nat} (hr : kd r = 10) : Rc r RX7 := ⟨kd_lt hr (by decide), fun cs φ h => ⟨_, _, _, en_10 hr, rfl, rfl⟩⟩
theorem rc_Nets {r : Nat} (hr : kd r = 11) : Rc r RX3 := ⟨kd_lt hr (by decide), fun cs φ h => ⟨_, _, _, en_11 hr, rfl, rfl⟩⟩
theorem kd_64 {i : Int32} (h : vp_in i 16) : kd (10 + i.toNatClampNeg) = 9 := by
  have hlt : i.toNatClampNeg < 16 := Nat.not_le.mp fun q => h (Or.inr q)
  unfold kd; rw [if_neg (by omega), if_neg (by omega), if_pos (by omega)]
theorem kd_65 {i : Int32} (h : vp_in i 2) : kd (8 + i.toNatClampNeg) = 8 := by
  have hlt : i.toNatClampNeg < 2 := Nat.not_le.mp fun q => h (Or.inr q)
  unfold kd; rw [if_neg (by omega), if_pos (by omega)]
theorem kd_66 {i : Int32} (h : vp_in i 8) : kd (29 + i.toNatClampNeg) = 10 := by
  have hlt : i.toNatClampNeg < 8 := Nat.not_le.mp fun q => h (Or.inr q)
  unfold kd; rw [if_neg (by omega), if_neg (by omega), if_neg (by omega), if_pos (by omega)]
theorem kd_b {r K : Nat} (h : kd r = K) (hK : K ≠ 12 ∧ K ≠ 17) : r < 46 ∨ (64 ≤ r ∧ r ≤ 89) := by
  refine Decidable.byContradiction fun q => ?_
  have h0 := kd_lt h hK.2
  apply hK.1
  rw [← h]
  unfold kd
  rw [if_neg (by omega), if_neg (by omega), if_neg (by omega), if_neg (by omega), if_neg (by omega)]
  by_cases h1 : r < 64
  · rw [if_pos h1]
  · rw [if_neg h1, if_neg (by omega), if_neg (by omega), if_neg (by omega), if_neg (by omega), if_pos h0]
theorem kr_8 {r : Nat} (h : kd r = 8) : 8 ≤ r ∧ r ≤ 9 := by
  have h0 := kd_lt h (by decide)
  have hx : ∀ r : Fin 99, kd r.1 = 8 → 8 ≤ r.1 ∧ r.1 ≤ 9 := by decide +kernel
  exact hx ⟨r, h0⟩ h
theorem kr_9 {r : Nat} (h : kd r = 9) : 10 ≤ r ∧ r ≤ 28 := by
  have h0 := kd_lt h (by decide)
  have hx : ∀ r : Fin 99, kd r.1 = 9 → 10 ≤ r.1 ∧ r.1 ≤ 28 := by decide +kernel
  exact hx ⟨r, h0⟩ h
theorem kr_10 {r : Nat} (h : kd r = 10) : 29 ≤ r ∧ r ≤ 36 := by
  have h0 := kd_lt h (by decide)
  have hx : ∀ r : Fin 99, kd r.1 = 10 → 29 ≤ r.1 ∧ r.1 ≤ 36 := by decide +kernel
  exact hx ⟨r, h0⟩ h
theorem kr_11 {r : Nat} (h : kd r = 11) : 37 ≤ r ∧ r ≤ 45 := by
  have h0 := kd_lt h (by decide)
  have hx : ∀ r : Fin 99, kd r.1 = 11 → 37 ≤ r.1 ∧ r.1 ≤ 45 := by decide +kernel
  exact hx ⟨r, h0⟩ h
theorem kd_img {r : Nat} (h : kd r = 8) : kd (r + 19) = 9 := by
  have h0 := kd_lt h (by decide)
  have hx : ∀ r : Fin 99, kd r.1 = 8 → kd (r.1 + 19) = 9 := by decide +kernel
  exact hx ⟨r, h0⟩ h
theorem kd_sn {r : Nat} (h : kd r = 10) : kd (r + 8) = 11 := by
  have h0 := kd_lt h (by decide)
  have hx : ∀ r : Fin 99, kd r.1 = 10 → kd (r.1 + 8) = 11 := by decide +kernel
  exact hx ⟨r, h0⟩ h
theorem kd_bare {r : Nat} (h : kd r = 11) : kd (r + 9) = 12 := by
  have h0 := kd_lt h (by decide)
  have hx : ∀ r : Fin 99, kd r.1 = 11 → kd (r.1 + 9) = 12 := by decide +kernel
  exact hx ⟨r, h0⟩ h
theorem kd_whole {r : Nat} (h : kd r = 11) : kd (r + 18) = 12 := by
  have h0 := kd_lt h (by decide)
  have hx : ∀ r : Fin 99, kd r.1 = 11 → kd (r.1 + 18) = 12 := by decide +kernel
  exact hx ⟨r, h0⟩ h
theorem al_bare {r : Nat} (h : kd r = 11) : al (r + 9) = 11 := by
  have h0 := kd_lt h (by decide)
  have hx : ∀ r : Fin 99, kd r.1 = 11 → al (r.1 + 9) = 11 := by decide +kernel
  exact hx ⟨r, h0⟩ h
theorem al_whole {r : Nat} (h : kd r = 11) : al (r + 18) = 11 := by
  have h0 := kd_lt h (by decide)
  have hx : ∀ r : Fin 99, kd r.1 = 11 → al (r.1 + 18) = 11 := by decide +kernel
  exact hx ⟨r, h0⟩ h
theorem cV0_ir (R : Ru l D cs φ own cc nL fr lo V) {M : Mi} {r idx : Nat} {P : Int32 → Prop} (d : decode cc pc = .ok (.invokevirtual idx, 3)) (hM : Ct l D cs φ M (.ref (φ r) :: []) h (fun rv h2 => ∃ v, rv = some (.int v) ∧ h2 = h ∧ P v)) (rc : Rc r M.1.cls) (w1 : Cond.methodLink own idx M.1 ∈ lw_g) (mv : MV M 0) (hR : M.2.2.2.2.frames + 1 ≤ fr ∧ 8 + (M.2.2.1 + 11) + M.2.2.2.2.locals ≤ lo) (hrm : (st.map fun v => v.category).sum ≤ 8) (kk : ∀ v, P v → V (pc + 3) lc (.int v :: st) h) : V pc lc (.ref (φ r) :: st) h := by
  obtain ⟨hr, rc2⟩ := rc
  obtain ⟨ci, fs, q, he, hq, hc⟩ := rc2 cs φ h
  exact v_callV R d hM hr he hq hc w1 mv hR rfl hrm (fun rv h2 ⟨v, e, e2, hp⟩ => by subst e; subst e2; exact kk v hp)
theorem cV0_iw (R : Ru l D cs φ own cc nL fr lo V) {M : Mi} {r idx : Nat} {P : Int32 → Hp → Prop} (d : decode cc pc = .ok (.invokevirtual idx, 3)) (hM : Ct l D cs φ M (.ref (φ r) :: []) h (fun rv h2 => ∃ v, rv = some (.int v) ∧ P v h2)) (rc : Rc r M.1.cls) (w1 : Cond.methodLink own idx M.1 ∈ lw_g) (mv : MV M 0) (hR : M.2.2.2.2.frames + 1 ≤ fr ∧ 8 + (M.2.2.1 + 11) + M.2.2.2.2.locals ≤ lo) (hrm : (st.map fun v => v.category).sum ≤ 8) (kk : ∀ v h2, P v h2 → V (pc + 3) lc (.int v :: st) h2) : V pc lc (.ref (φ r) :: st) h := by
  obtain ⟨hr, rc2⟩ := rc
  obtain ⟨ci, fs, q, he, hq, hc⟩ := rc2 cs φ h
  exact v_callV R d hM hr he hq hc w1 mv hR rfl hrm (fun rv h2 ⟨v, e, hp⟩ => by subst e; exact kk v h2 hp)
theorem cV0_br (R : Ru l D cs φ own cc nL fr lo V) {M : Mi} {r idx : Nat} {P : Bool → Prop} (d : decode cc pc = .ok (.invokevirtual idx, 3)) (hM : Ct l D cs φ M (.ref (φ r) :: []) h (fun rv h2 => ∃ v, rv = some (.int (bI v)) ∧ h2 = h ∧ P v)) (rc : Rc r M.1.cls) (w1 : Cond.methodLink own idx M.1 ∈ lw_g) (mv : MV M 0) (hR : M.2.2.2.2.frames + 1 ≤ fr ∧ 8 + (M.2.2.1 + 11) + M.2.2.2.2.locals ≤ lo) (hrm : (st.map fun v => v.category).sum ≤ 8) (kk : ∀ v, P v → V (pc + 3) lc (.int (bI v) :: st) h) : V pc lc (.ref (φ r) :: st) h := by
  obtain ⟨hr, rc2⟩ := rc
  obtain ⟨ci, fs, q, he, hq, hc⟩ := rc2 cs φ h
  exact v_callV R d hM hr he hq hc w1 mv hR rfl hrm (fun rv h2 ⟨v, e, e2, hp⟩ => by subst e; subst e2; exact kk v hp)
theorem cV0_bw (R : Ru l D cs φ own cc nL fr lo V) {M : Mi} {r idx : Nat} {P : Bool → Hp → Prop} (d : decode cc pc = .ok (.invokevirtual idx, 3)) (hM : Ct l D cs φ M (.ref (φ r) :: []) h (fun rv h2 => ∃ v, rv = some (.int (bI v)) ∧ P v h2)) (rc : Rc r M.1.cls) (w1 : Cond.methodLink own idx M.1 ∈ lw_g) (mv : MV M 0) (hR : M.2.2.2.2.frames + 1 ≤ fr ∧ 8 + (M.2.2.1 + 11) + M.2.2.2.2.locals ≤ lo) (hrm : (st.map fun v => v.category).sum ≤ 8) (kk : ∀ v h2, P v h2 → V (pc + 3) lc (.int (bI v) :: st) h2) : V pc lc (.ref (φ r) :: st) h := by
  obtain ⟨hr, rc2⟩ := rc
  obtain ⟨ci, fs, q, he, hq, hc⟩ := rc2 cs φ h
  exact v_callV R d hM hr he hq hc w1 mv hR rfl hrm (fun rv h2 ⟨v, e, hp⟩ => by subst e; exact kk v h2 hp)
theorem cV0_vw (R : Ru l D cs φ own cc nL fr lo V) {M : Mi} {r idx : Nat} {P : Hp → Prop} (d : decode cc pc = .ok (.invokevirtual idx, 3)) (hM : Ct l D cs φ M (.ref (φ r) :: []) h (fun rv h2 => rv = none ∧ P h2)) (rc : Rc r M.1.cls) (w1 : Cond.methodLink own idx M.1 ∈ lw_g) (mv : MV M 0) (hR : M.2.2.2.2.frames + 1 ≤ fr ∧ 8 + (M.2.2.1 + 11) + M.2.2.2.2.locals ≤ lo) (hrm : (st.map fun v => v.category).sum ≤ 8) (kk : ∀ h2, P h2 → V (pc + 3) lc st h2) : V pc lc (.ref (φ r) :: st) h := by
  obtain ⟨hr, rc2⟩ := rc
  obtain ⟨ci, fs, q, he, hq, hc⟩ := rc2 cs φ h
  exact v_callV R d hM hr he hq hc w1 mv hR rfl hrm (fun rv h2 ⟨e, hp⟩ => by subst e; exact kk h2 hp)
theorem cS0_ir (R : Ru l D cs φ own cc nL fr lo V) {M : Mi} {idx : Nat} {P : Int32 → Prop} (d : decode cc pc = .ok (.invokestatic idx, 3)) (hM : Ct l D cs φ M [] h (fun rv h2 => ∃ v, rv = some (.int v) ∧ h2 = h ∧ P v)) (w1 : Cond.methodLink own idx M.1 ∈ lw_g) (mv : MS M 0) (hR : M.2.2.2.2.frames + 1 ≤ fr ∧ 8 + (M.2.2.1 + 11) + M.2.2.2.2.locals ≤ lo) (hrm : (st.map fun v => v.category).sum ≤ 8) (kk : ∀ v, P v → V (pc + 3) lc (.int v :: st) h) : V pc lc (st) h :=
  v_callS R d hM w1 mv hR rfl hrm (fun rv h2 ⟨v, e, e2, hp⟩ => by subst e; subst e2; exact kk v hp)
theorem cS0_iw (R : Ru l D cs φ own cc nL fr lo V) {M : Mi} {idx : Nat} {P : Int32 → Hp → Prop} (d : decode cc pc = .ok (.invokestatic idx, 3)) (hM : Ct l D cs φ M [] h (fun rv h2 => ∃ v, rv = some (.int v) ∧ P v h2)) (w1 : Cond.methodLink own idx M.1 ∈ lw_g) (mv : MS M 0) (hR : M.2.2.2.2.frames + 1 ≤ fr ∧ 8 + (M.2.2.1 + 11) + M.2.2.2.2.locals ≤ lo) (hrm : (st.map fun v => v.category).sum ≤ 8) (kk : ∀ v h2, P v h2 → V (pc + 3) lc (.int v :: st) h2) : V pc lc (st) h :=
  v_callS R d hM w1 mv hR rfl hrm (fun rv h2 ⟨v, e, hp⟩ => by subst e; exact kk v h2 hp)
theorem cS0_br (R : Ru l D cs φ own cc nL fr lo V) {M : Mi} {idx : Nat} {P : Bool → Prop} (d : decode cc pc = .ok (.invokestatic idx, 3)) (hM : Ct l D cs φ M [] h (fun rv h2 => ∃ v, rv = some (.int (bI v)) ∧ h2 = h ∧ P v)) (w1 : Cond.methodLink own idx M.1 ∈ lw_g) (mv : MS M 0) (hR : M.2.2.2.2.frames + 1 ≤ fr ∧ 8 + (M.2.2.1 + 11) + M.2.2.2.2.locals ≤ lo) (hrm : (st.map fun v => v.category).sum ≤ 8) (kk : ∀ v, P v → V (pc + 3) lc (.int (bI v) :: st) h) : V pc lc (st) h :=
  v_callS R d hM w1 mv hR rfl hrm (fun rv h2 ⟨v, e, e2, hp⟩ => by subst e; subst e2; exact kk v hp)
theorem cS0_bw (R : Ru l D cs φ own cc nL fr lo V) {M : Mi} {idx : Nat} {P : Bool → Hp → Prop} (d : decode cc pc = .ok (.invokestatic idx, 3)) (hM : Ct l D cs φ M [] h (fun rv h2 => ∃ v, rv = some (.int (bI v)) ∧ P v h2)) (w1 : Cond.methodLink own idx M.1 ∈ lw_g) (mv : MS M 0) (hR : M.2.2.2.2.frames + 1 ≤ fr ∧ 8 + (M.2.2.1 + 11) + M.2.2.2.2.locals ≤ lo) (hrm : (st.map fun v => v.category).sum ≤ 8) (kk : ∀ v h2, P v h2 → V (pc + 3) lc (.int (bI v) :: st) h2) : V pc lc (st) h :=
  v_callS R d hM w1 mv hR rfl hrm (fun rv h2 ⟨v, e, hp⟩ => by subst e; exact kk v h2 hp)
theorem cS0_vw (R : Ru l D cs φ own cc nL fr lo V) {M : Mi} {idx : Nat} {P : Hp → Prop} (d : decode cc pc = .ok (.invokestatic idx, 3)) (hM : Ct l D cs φ M [] h (fun rv h2 => rv = none ∧ P h2)) (w1 : Cond.methodLink own idx M.1 ∈ lw_g) (mv : MS M 0) (hR : M.2.2.2.2.frames + 1 ≤ fr ∧ 8 + (M.2.2.1 + 11) + M.2.2.2.2.locals ≤ lo) (hrm : (st.map fun v => v.category).sum ≤ 8) (kk : ∀ h2, P h2 → V (pc + 3) lc st h2) : V pc lc (st) h :=
  v_callS R d hM w1 mv hR rfl hrm (fun rv h2 ⟨e, hp⟩ => by subst e; exact kk h2 hp)
theorem cN0_ir (R : Ru l D cs φ own cc nL fr lo V) {M : Mi} {idx : Nat} {P : Int32 → Prop} (d : decode cc pc = .ok (.invokestatic idx, 3)) (hM : Ct l D cs φ M [] h (fun rv h2 => ∃ v, rv = some (.int v) ∧ h2 = h ∧ P v)) {host : String} (w1 : Cond.methodLinkNest own idx M.1 host ∈ lw_n) (mv : MS M 0) (hR : M.2.2.2.2.frames + 1 ≤ fr ∧ 8 + (M.2.2.1 + 11) + M.2.2.2.2.locals ≤ lo) (hrm : (st.map fun v => v.category).sum ≤ 8) (kk : ∀ v, P v → V (pc + 3) lc (.int v :: st) h) : V pc lc (st) h :=
  v_callSN R d hM w1 mv hR rfl hrm (fun rv h2 ⟨v, e, e2, hp⟩ => by subst e; subst e2; exact kk v hp)
theorem cN0_iw (R : Ru l D cs φ own cc nL fr lo V) {M : Mi} {idx : Nat} {P : Int32 → Hp → Prop} (d : decode cc pc = .ok (.invokestatic idx, 3)) (hM : Ct l D cs φ M [] h (fun rv h2 => ∃ v, rv = some (.int v) ∧ P v h2)) {host : String} (w1 : Cond.methodLinkNest own idx M.1 host ∈ lw_n) (mv : MS M 0) (hR : M.2.2.2.2.frames + 1 ≤ fr ∧ 8 + (M.2.2.1 + 11) + M.2.2.2.2.locals ≤ lo) (hrm : (st.map fun v => v.category).sum ≤ 8) (kk : ∀ v h2, P v h2 → V (pc + 3) lc (.int v :: st) h2) : V pc lc (st) h :=
  v_callSN R d hM w1 mv hR rfl hrm (fun rv h2 ⟨v, e, hp⟩ => by subst e; exact kk v h2 hp)
theorem cN0_br (R : Ru l D cs φ own cc nL fr lo V) {M : Mi} {idx : Nat} {P : Bool → Prop} (d : decode cc pc = .ok (.invokestatic idx, 3)) (hM : Ct l D cs φ M [] h (fun rv h2 => ∃ v, rv = some (.int (bI v)) ∧ h2 = h ∧ P v)) {host : String} (w1 : Cond.methodLinkNest own idx M.1 host ∈ lw_n) (mv : MS M 0) (hR : M.2.2.2.2.frames + 1 ≤ fr ∧ 8 + (M.2.2.1 + 11) + M.2.2.2.2.locals ≤ lo) (hrm : (st.map fun v => v.category).sum ≤ 8) (kk : ∀ v, P v → V (pc + 3) lc (.int (bI v) :: st) h) : V pc lc (st) h :=
  v_callSN R d hM w1 mv hR rfl hrm (fun rv h2 ⟨v, e, e2, hp⟩ => by subst e; subst e2; exact kk v hp)
theorem cN0_bw (R : Ru l D cs φ own cc nL fr lo V) {M : Mi} {idx : Nat} {P : Bool → Hp → Prop} (d : decode cc pc = .ok (.invokestatic idx, 3)) (hM : Ct l D cs φ M [] h (fun rv h2 => ∃ v, rv = some (.int (bI v)) ∧ P v h2)) {host : String} (w1 : Cond.methodLinkNest own idx M.1 host ∈ lw_n) (mv : MS M 0) (hR : M.2.2.2.2.frames + 1 ≤ fr ∧ 8 + (M.2.2.1 + 11) + M.2.2.2.2.locals ≤ lo) (hrm : (st.map fun v => v.category).sum ≤ 8) (kk : ∀ v h2, P v h2 → V (pc + 3) lc (.int (bI v) :: st) h2) : V pc lc (st) h :=
  v_callSN R d hM w1 mv hR rfl hrm (fun rv h2 ⟨v, e, hp⟩ => by subst e; exact kk v h2 hp)
theorem cN0_vw (R : Ru l D cs φ own cc nL fr lo V) {M : Mi} {idx : Nat} {P : Hp → Prop} (d : decode cc pc = .ok (.invokestatic idx, 3)) (hM : Ct l D cs φ M [] h (fun rv h2 => rv = none ∧ P h2)) {host : String} (w1 : Cond.methodLinkNest own idx M.1 host ∈ lw_n) (mv : MS M 0) (hR : M.2.2.2.2.frames + 1 ≤ fr ∧ 8 + (M.2.2.1 + 11) + M.2.2.2.2.locals ≤ lo) (hrm : (st.map fun v => v.category).sum ≤ 8) (kk : ∀ h2, P h2 → V (pc + 3) lc st h2) : V pc lc (st) h :=
  v_callSN R d hM w1 mv hR rfl hrm (fun rv h2 ⟨e, hp⟩ => by subst e; exact kk h2 hp)
theorem cV1_ir (R : Ru l D cs φ own cc nL fr lo V) {M : Mi} {r idx : Nat} {a0 : Value} {P : Int32 → Prop} (d : decode cc pc = .ok (.invokevirtual idx, 3)) (hM : Ct l D cs φ M (.ref (φ r) :: [a0]) h (fun rv h2 => ∃ v, rv = some (.int v) ∧ h2 = h ∧ P v)) (rc : Rc r M.1.cls) (w1 : Cond.methodLink own idx M.1 ∈ lw_g) (mv : MV M 1) (hR : M.2.2.2.2.frames + 1 ≤ fr ∧ 8 + (M.2.2.1 + 11) + M.2.2.2.2.locals ≤ lo) (hrm : (st.map fun v => v.category).sum ≤ 8) (kk : ∀ v, P v → V (pc + 3) lc (.int v :: st) h) : V pc lc (a0 :: .ref (φ r) :: st) h := by
  obtain ⟨hr, rc2⟩ := rc
  obtain ⟨ci, fs, q, he, hq, hc⟩ := rc2 cs φ h
  exact v_callV R d hM hr he hq hc w1 mv hR rfl hrm (fun rv h2 ⟨v, e, e2, hp⟩ => by subst e; subst e2; exact kk v hp)
theorem cV1_iw (R : Ru l D cs φ own cc nL fr lo V) {M : Mi} {r idx : Nat} {a0 : Value} {P : Int32 → Hp → Prop} (d : decode cc pc = .ok (.invokevirtual idx, 3)) (hM : Ct l D cs φ M (.ref (φ r) :: [a0]) h (fun rv h2 => ∃ v, rv = some (.int v) ∧ P v h2)) (rc : Rc r M.1.cls) (w1 : Cond.methodLink own idx M.1 ∈ lw_g) (mv : MV M 1) (hR : M.2.2.2.2.frames + 1 ≤ fr ∧ 8 + (M.2.2.1 + 11) + M.2.2.2.2.locals ≤ lo) (hrm : (st.map fun v => v.category).sum ≤ 8) (kk : ∀ v h2, P v h2 → V (pc + 3) lc (.int v :: st) h2) : V pc lc (a0 :: .ref (φ r) :: st) h := by
  obtain ⟨hr, rc2⟩ := rc
  obtain ⟨ci, fs, q, he, hq, hc⟩ := rc2 cs φ h
  exact v_callV R d hM hr he hq hc w1 mv hR rfl hrm (fun rv h2 ⟨v, e, hp⟩ => by subst e; exact kk v h2 hp)
theorem cV1_br (R : Ru l D cs φ own cc nL fr lo V) {M : Mi} {r idx : Nat} {a0 : Value} {P : Bool → Prop} (d : decode cc pc = .ok (.invokevirtual idx, 3)) (hM : Ct l D cs φ M (.ref (φ r) :: [a0]) h (fun rv h2 => ∃ v, rv = some (.int (bI v)) ∧ h2 = h ∧ P v)) (rc : Rc r M.1.cls) (w1 : Cond.methodLink own idx M.1 ∈ lw_g) (mv : MV M 1) (hR : M.2.2.2.2.frames + 1 ≤ fr ∧ 8 + (M.2.2.1 + 11) + M.2.2.2.2.locals ≤ lo) (hrm : (st.map fun v => v.category).sum ≤ 8) (kk : ∀ v, P v → V (pc + 3) lc (.int (bI v) :: st) h) : V pc lc (a0 :: .ref (φ r) :: st) h := by
  obtain ⟨hr, rc2⟩ := rc
  obtain ⟨ci, fs, q, he, hq, hc⟩ := rc2 cs φ h
  exact v_callV R d hM hr he hq hc w1 mv hR rfl hrm (fun rv h2 ⟨v, e, e2, hp⟩ => by subst e; subst e2; exact kk v hp)
theorem cV1_bw (R : Ru l D cs φ own cc nL fr lo V) {M : Mi} {r idx : Nat} {a0 : Value} {P : Bool → Hp → Prop} (d : decode cc pc = .ok (.invokevirtual idx, 3)) (hM : Ct l D cs φ M (.ref (φ r) :: [a0]) h (fun rv h2 => ∃ v, rv = some (.int (bI v)) ∧ P v h2)) (rc : Rc r M.1.cls) (w1 : Cond.methodLink own idx M.1 ∈ lw_g) (mv : MV M 1) (hR : M.2.2.2.2.frames + 1 ≤ fr ∧ 8 + (M.2.2.1 + 11) + M.2.2.2.2.locals ≤ lo) (hrm : (st.map fun v => v.category).sum ≤ 8) (kk : ∀ v h2, P v h2 → V (pc + 3) lc (.int (bI v) :: st) h2) : V pc lc (a0 :: .ref (φ r) :: st) h := by
  obtain ⟨hr, rc2⟩ := rc
  obtain ⟨ci, fs, q, he, hq, hc⟩ := rc2 cs φ h
  exact v_callV R d hM hr he hq hc w1 mv hR rfl hrm (fun rv h2 ⟨v, e, hp⟩ => by subst e; exact kk v h2 hp)
theorem cV1_vw (R : Ru l D cs φ own cc nL fr lo V) {M : Mi} {r idx : Nat} {a0 : Value} {P : Hp → Prop} (d : decode cc pc = .ok (.invokevirtual idx, 3)) (hM : Ct l D cs φ M (.ref (φ r) :: [a0]) h (fun rv h2 => rv = none ∧ P h2)) (rc : Rc r M.1.cls) (w1 : Cond.methodLink own idx M.1 ∈ lw_g) (mv : MV M 1) (hR : M.2.2.2.2.frames + 1 ≤ fr ∧ 8 + (M.2.2.1 + 11) + M.2.2.2.2.locals ≤ lo) (hrm : (st.map fun v => v.category).sum ≤ 8) (kk : ∀ h2, P h2 → V (pc + 3) lc st h2) : V pc lc (a0 :: .ref (φ r) :: st) h := by
  obtain ⟨hr, rc2⟩ := rc
  obtain ⟨ci, fs, q, he, hq, hc⟩ := rc2 cs φ h
  exact v_callV R d hM hr he hq hc w1 mv hR rfl hrm (fun rv h2 ⟨e, hp⟩ => by subst e; exact kk h2 hp)
theorem cS1_ir (R : Ru l D cs φ own cc nL fr lo V) {M : Mi} {idx : Nat} {a0 : Value} {P : Int32 → Prop} (d : decode cc pc = .ok (.invokestatic idx, 3)) (hM : Ct l D cs φ M [a0] h (fun rv h2 => ∃ v, rv = some (.int v) ∧ h2 = h ∧ P v)) (w1 : Cond.methodLink own idx M.1 ∈ lw_g) (mv : MS M 1) (hR : M.2.2.2.2.frames + 1 ≤ fr ∧ 8 + (M.2.2.1 + 11) + M.2.2.2.2.locals ≤ lo) (hrm : (st.map fun v => v.category).sum ≤ 8) (kk : ∀ v, P v → V (pc + 3) lc (.int v :: st) h) : V pc lc (a0 :: st) h :=
  v_callS R d hM w1 mv hR rfl hrm (fun rv h2 ⟨v, e, e2, hp⟩ => by subst e; subst e2; exact kk v hp)
theorem cS1_iw (R : Ru l D cs φ own cc nL fr lo V) {M : Mi} {idx : Nat} {a0 : Value} {P : Int32 → Hp → Prop} (d : decode cc pc = .ok (.invokestatic idx, 3)) (hM : Ct l D cs φ M [a0] h (fun rv h2 => ∃ v, rv = some (.int v) ∧ P v h2)) (w1 : Cond.methodLink own idx M.1 ∈ lw_g) (mv : MS M 1) (hR : M.2.2.2.2.frames + 1 ≤ fr ∧ 8 + (M.2.2.1 + 11) + M.2.2.2.2.locals ≤ lo) (hrm : (st.map fun v => v.category).sum ≤ 8) (kk : ∀ v h2, P v h2 → V (pc + 3) lc (.int v :: st) h2) : V pc lc (a0 :: st) h :=
  v_callS R d hM w1 mv hR rfl hrm (fun rv h2 ⟨v, e, hp⟩ => by subst e; exact kk v h2 hp)
theorem cS1_br (R : Ru l D cs φ own cc nL fr lo V) {M : Mi} {idx : Nat} {a0 : Value} {P : Bool → Prop} (d : decode cc pc = .ok (.invokestatic idx, 3)) (hM : Ct l D cs φ M [a0] h (fun rv h2 => ∃ v, rv = some (.int (bI v)) ∧ h2 = h ∧ P v)) (w1 : Cond.methodLink own idx M.1 ∈ lw_g) (mv : MS M 1) (hR : M.2.2.2.2.frames + 1 ≤ fr ∧ 8 + (M.2.2.1 + 11) + M.2.2.2.2.locals ≤ lo) (hrm : (st.map fun v => v.category).sum ≤ 8) (kk : ∀ v, P v → V (pc + 3) lc (.int (bI v) :: st) h) : V pc lc (a0 :: st) h :=
  v_callS R d hM w1 mv hR rfl hrm (fun rv h2 ⟨v, e, e2, hp⟩ => by subst e; subst e2; exact kk v hp)
theorem cS1_bw (R : Ru l D cs φ own cc nL fr lo V) {M : Mi} {idx : Nat} {a0 : Value} {P : Bool → Hp → Prop} (d : decode cc pc = .ok (.invokestatic idx, 3)) (hM : Ct l D cs φ M [a0] h (fun rv h2 => ∃ v, rv = some (.int (bI v)) ∧ P v h2)) (w1 : Cond.methodLink own idx M.1 ∈ lw_g) (mv : MS M 1) (hR : M.2.2.2.2.frames + 1 ≤ fr ∧ 8 + (M.2.2.1 + 11) + M.2.2.2.2.locals ≤ lo) (hrm : (st.map fun v => v.category).sum ≤ 8) (kk : ∀ v h2, P v h2 → V (pc + 3) lc (.int (bI v) :: st) h2) : V pc lc (a0 :: st) h :=
  v_callS R d hM w1 mv hR rfl hrm (fun rv h2 ⟨v, e, hp⟩ => by subst e; exact kk v h2 hp)
theorem cS1_vw (R : Ru l D cs φ own cc nL fr lo V) {M : Mi} {idx : Nat} {a0 : Value} {P : Hp → Prop} (d : decode cc pc = .ok (.invokestatic idx, 3)) (hM : Ct l D cs φ M [a0] h (fun rv h2 => rv = none ∧ P h2)) (w1 : Cond.methodLink own idx M.1 ∈ lw_g) (mv : MS M 1) (hR : M.2.2.2.2.frames + 1 ≤ fr ∧ 8 + (M.2.2.1 + 11) + M.2.2.2.2.locals ≤ lo) (hrm : (st.map fun v => v.category).sum ≤ 8) (kk : ∀ h2, P h2 → V (pc + 3) lc st h2) : V pc lc (a0 :: st) h :=
  v_callS R d hM w1 mv hR rfl hrm (fun rv h2 ⟨e, hp⟩ => by subst e; exact kk h2 hp)
theorem cN1_ir (R : Ru l D cs φ own cc nL fr lo V) {M : Mi} {idx : Nat} {a0 : Value} {P : Int32 → Prop} (d : decode cc pc = .ok (.invokestatic idx, 3)) (hM : Ct l D cs φ M [a0] h (fun rv h2 => ∃ v, rv = some (.int v) ∧ h2 = h ∧ P v)) {host : String} (w1 : Cond.methodLinkNest own idx M.1 host ∈ lw_n) (mv : MS M 1) (hR : M.2.2.2.2.frames + 1 ≤ fr ∧ 8 + (M.2.2.1 + 11) + M.2.2.2.2.locals ≤ lo) (hrm : (st.map fun v => v.category).sum ≤ 8) (kk : ∀ v, P v → V (pc + 3) lc (.int v :: st) h) : V pc lc (a0 :: st) h :=
  v_callSN R d hM w1 mv hR rfl hrm (fun rv h2 ⟨v, e, e2, hp⟩ => by subst e; subst e2; exact kk v hp)
theorem cN1_iw (R : Ru l D cs φ own cc nL fr lo V) {M : Mi} {idx : Nat} {a0 : Value} {P : Int32 → Hp → Prop} (d : decode cc pc = .ok (.invokestatic idx, 3)) (hM : Ct l D cs φ M [a0] h (fun rv h2 => ∃ v, rv = some (.int v) ∧ P v h2)) {host : String} (w1 : Cond.methodLinkNest own idx M.1 host ∈ lw_n) (mv : MS M 1) (hR : M.2.2.2.2.frames + 1 ≤ fr ∧ 8 + (M.2.2.1 + 11) + M.2.2.2.2.locals ≤ lo) (hrm : (st.map fun v => v.category).sum ≤ 8) (kk : ∀ v h2, P v h2 → V (pc + 3) lc (.int v :: st) h2) : V pc lc (a0 :: st) h :=
  v_callSN R d hM w1 mv hR rfl hrm (fun rv h2 ⟨v, e, hp⟩ => by subst e; exact kk v h2 hp)
theorem cN1_br (R : Ru l D cs φ own cc nL fr lo V) {M : Mi} {idx : Nat} {a0 : Value} {P : Bool → Prop} (d : decode cc pc = .ok (.invokestatic idx, 3)) (hM : Ct l D cs φ M [a0] h (fun rv h2 => ∃ v, rv = some (.int (bI v)) ∧ h2 = h ∧ P v)) {host : String} (w1 : Cond.methodLinkNest own idx M.1 host ∈ lw_n) (mv : MS M 1) (hR : M.2.2.2.2.frames + 1 ≤ fr ∧ 8 + (M.2.2.1 + 11) + M.2.2.2.2.locals ≤ lo) (hrm : (st.map fun v => v.category).sum ≤ 8) (kk : ∀ v, P v → V (pc + 3) lc (.int (bI v) :: st) h) : V pc lc (a0 :: st) h :=
  v_callSN R d hM w1 mv hR rfl hrm (fun rv h2 ⟨v, e, e2, hp⟩ => by subst e; subst e2; exact kk v hp)
theorem cN1_bw (R : Ru l D cs φ own cc nL fr lo V) {M : Mi} {idx : Nat} {a0 : Value} {P : Bool → Hp → Prop} (d : decode cc pc = .ok (.invokestatic idx, 3)) (hM : Ct l D cs φ M [a0] h (fun rv h2 => ∃ v, rv = some (.int (bI v)) ∧ P v h2)) {host : String} (w1 : Cond.methodLinkNest own idx M.1 host ∈ lw_n) (mv : MS M 1) (hR : M.2.2.2.2.frames + 1 ≤ fr ∧ 8 + (M.2.2.1 + 11) + M.2.2.2.2.locals ≤ lo) (hrm : (st.map fun v => v.category).sum ≤ 8) (kk : ∀ v h2, P v h2 → V (pc + 3) lc (.int (bI v) :: st) h2) : V pc lc (a0 :: st) h :=
  v_callSN R d hM w1 mv hR rfl hrm (fun rv h2 ⟨v, e, hp⟩ => by subst e; exact kk v h2 hp)
theorem cN1_vw (R : Ru l D cs φ own cc nL fr lo V) {M : Mi} {idx : Nat} {a0 : Value} {P : Hp → Prop} (d : decode cc pc = .ok (.invokestatic idx, 3)) (hM : Ct l D cs φ M [a0] h (fun rv h2 => rv = none ∧ P h2)) {host : String} (w1 : Cond.methodLinkNest own idx M.1 host ∈ lw_n) (mv : MS M 1) (hR : M.2.2.2.2.frames + 1 ≤ fr ∧ 8 + (M.2.2.1 + 11) + M.2.2.2.2.locals ≤ lo) (hrm : (st.map fun v => v.category).sum ≤ 8) (kk : ∀ h2, P h2 → V (pc + 3) lc st h2) : V pc lc (a0 :: st) h :=
  v_callSN R d hM w1 mv hR rfl hrm (fun rv h2 ⟨e, hp⟩ => by subst e; exact kk h2 hp)
theorem cV2_ir (R : Ru l D cs φ own cc nL fr lo V) {M : Mi} {r idx : Nat} {a0 a1 : Value} {P : Int32 → Prop} (d : decode cc pc = .ok (.invokevirtual idx, 3)) (hM : Ct l D cs φ M (.ref (φ r) :: [a0, a1]) h (fun rv h2 => ∃ v, rv = some (.int v) ∧ h2 = h ∧ P v)) (rc : Rc r M.1.cls) (w1 : Cond.methodLink own idx M.1 ∈ lw_g) (mv : MV M 2) (hR : M.2.2.2.2.frames + 1 ≤ fr ∧ 8 + (M.2.2.1 + 11) + M.2.2.2.2.locals ≤ lo) (hrm : (st.map fun v => v.category).sum ≤ 8) (kk : ∀ v, P v → V (pc + 3) lc (.int v :: st) h) : V pc lc (a1 :: a0 :: .ref (φ r) :: st) h := by
  obtain ⟨hr, rc2⟩ := rc
  obtain ⟨ci, fs, q, he, hq, hc⟩ := rc2 cs φ h
  exact v_callV R d hM hr he hq hc w1 mv hR rfl hrm (fun rv h2 ⟨v, e, e2, hp⟩ => by subst e; subst e2; exact kk v hp)
theorem cV2_iw (R : Ru l D cs φ own cc nL fr lo V) {M : Mi} {r idx : Nat} {a0 a1 : Value} {P : Int32 → Hp → Prop} (d : decode cc pc = .ok (.invokevirtual idx, 3)) (hM : Ct l D cs φ M (.ref (φ r) :: [a0, a1]) h (fun rv h2 => ∃ v, rv = some (.int v) ∧ P v h2)) (rc : Rc r M.1.cls) (w1 : Cond.methodLink own idx M.1 ∈ lw_g) (mv : MV M 2) (hR : M.2.2.2.2.frames + 1 ≤ fr ∧ 8 + (M.2.2.1 + 11) + M.2.2.2.2.locals ≤ lo) (hrm : (st.map fun v => v.category).sum ≤ 8) (kk : ∀ v h2, P v h2 → V (pc + 3) lc (.int v :: st) h2) : V pc lc (a1 :: a0 :: .ref (φ r) :: st) h := by
  obtain ⟨hr, rc2⟩ := rc
  obtain ⟨ci, fs, q, he, hq, hc⟩ := rc2 cs φ h
  exact v_callV R d hM hr he hq hc w1 mv hR rfl hrm (fun rv h2 ⟨v, e, hp⟩ => by subst e; exact kk v h2 hp)
theorem cV2_br (R : Ru l D cs φ own cc nL fr lo V) {M : Mi} {r idx : Nat} {a0 a1 : Value} {P : Bool → Prop} (d : decode cc pc = .ok (.invokevirtual idx, 3)) (hM : Ct l D cs φ M (.ref (φ r) :: [a0, a1]) h (fun rv h2 => ∃ v, rv = some (.int (bI v)) ∧ h2 = h ∧ P v)) (rc : Rc r M.1.cls) (w1 : Cond.methodLink own idx M.1 ∈ lw_g) (mv : MV M 2) (hR : M.2.2.2.2.frames + 1 ≤ fr ∧ 8 + (M.2.2.1 + 11) + M.2.2.2.2.locals ≤ lo) (hrm : (st.map fun v => v.category).sum ≤ 8) (kk : ∀ v, P v → V (pc + 3) lc (.int (bI v) :: st) h) : V pc lc (a1 :: a0 :: .ref (φ r) :: st) h := by
  obtain ⟨hr, rc2⟩ := rc
  obtain ⟨ci, fs, q, he, hq, hc⟩ := rc2 cs φ h
  exact v_callV R d hM hr he hq hc w1 mv hR rfl hrm (fun rv h2 ⟨v, e, e2, hp⟩ => by subst e; subst e2; exact kk v hp)
theorem cV2_bw (R : Ru l D cs φ own cc nL fr lo V) {M : Mi} {r idx : Nat} {a0 a1 : Value} {P : Bool → Hp → Prop} (d : decode cc pc = .ok (.invokevirtual idx, 3)) (hM : Ct l D cs φ M (.ref (φ r) :: [a0, a1]) h (fun rv h2 => ∃ v, rv = some (.int (bI v)) ∧ P v h2)) (rc : Rc r M.1.cls) (w1 : Cond.methodLink own idx M.1 ∈ lw_g) (mv : MV M 2) (hR : M.2.2.2.2.frames + 1 ≤ fr ∧ 8 + (M.2.2.1 + 11) + M.2.2.2.2.locals ≤ lo) (hrm : (st.map fun v => v.category).sum ≤ 8) (kk : ∀ v h2, P v h2 → V (pc + 3) lc (.int (bI v) :: st) h2) : V pc lc (a1 :: a0 :: .ref (φ r) :: st) h := by
  obtain ⟨hr, rc2⟩ := rc
  obtain ⟨ci, fs, q, he, hq, hc⟩ := rc2 cs φ h
  exact v_callV R d hM hr he hq hc w1 mv hR rfl hrm (fun rv h2 ⟨v, e, hp⟩ => by subst e; exact kk v h2 hp)
theorem cV2_vw (R : Ru l D cs φ own cc nL fr lo V) {M : Mi} {r idx : Nat} {a0 a1 : Value} {P : Hp → Prop} (d : decode cc pc = .ok (.invokevirtual idx, 3)) (hM : Ct l D cs φ M (.ref (φ r) :: [a0, a1]) h (fun rv h2 => rv = none ∧ P h2)) (rc : Rc r M.1.cls) (w1 : Cond.methodLink own idx M.1 ∈ lw_g) (mv : MV M 2) (hR : M.2.2.2.2.frames + 1 ≤ fr ∧ 8 + (M.2.2.1 + 11) + M.2.2.2.2.locals ≤ lo) (hrm : (st.map fun v => v.category).sum ≤ 8) (kk : ∀ h2, P h2 → V (pc + 3) lc st h2) : V pc lc (a1 :: a0 :: .ref (φ r) :: st) h := by
  obtain ⟨hr, rc2⟩ := rc
  obtain ⟨ci, fs, q, he, hq, hc⟩ := rc2 cs φ h
  exact v_callV R d hM hr he hq hc w1 mv hR rfl hrm (fun rv h2 ⟨e, hp⟩ => by subst e; exact kk h2 hp)
theorem cS2_ir (R : Ru l D cs φ own cc nL fr lo V) {M : Mi} {idx : Nat} {a0 a1 : Value} {P : Int32 → Prop} (d : decode cc pc = .ok (.invokestatic idx, 3)) (hM : Ct l D cs φ M [a0, a1] h (fun rv h2 => ∃ v, rv = some (.int v) ∧ h2 = h ∧ P v)) (w1 : Cond.methodLink own idx M.1 ∈ lw_g) (mv : MS M 2) (hR : M.2.2.2.2.frames + 1 ≤ fr ∧ 8 + (M.2.2.1 + 11) + M.2.2.2.2.locals ≤ lo) (hrm : (st.map fun v => v.category).sum ≤ 8) (kk : ∀ v, P v → V (pc + 3) lc (.int v :: st) h) : V pc lc (a1 :: a0 :: st) h :=
  v_callS R d hM w1 mv hR rfl hrm (fun rv h2 ⟨v, e, e2, hp⟩ => by subst e; subst e2; exact kk v hp)
theorem cS2_iw (R : Ru l D cs φ own cc nL fr lo V) {M : Mi} {idx : Nat} {a0 a1 : Value} {P : Int32 → Hp → Prop} (d : decode cc pc = .ok (.invokestatic idx, 3)) (hM : Ct l D cs φ M [a0, a1] h (fun rv h2 => ∃ v, rv = some (.int v) ∧ P v h2)) (w1 : Cond.methodLink own idx M.1 ∈ lw_g) (mv : MS M 2) (hR : M.2.2.2.2.frames + 1 ≤ fr ∧ 8 + (M.2.2.1 + 11) + M.2.2.2.2.locals ≤ lo) (hrm : (st.map fun v => v.category).sum ≤ 8) (kk : ∀ v h2, P v h2 → V (pc + 3) lc (.int v :: st) h2) : V pc lc (a1 :: a0 :: st) h :=
  v_callS R d hM w1 mv hR rfl hrm (fun rv h2 ⟨v, e, hp⟩ => by subst e; exact kk v h2 hp)
theorem cS2_br (R : Ru l D cs φ own cc nL fr lo V) {M : Mi} {idx : Nat} {a0 a1 : Value} {P : Bool → Prop} (d : decode cc pc = .ok (.invokestatic idx, 3)) (hM : Ct l D cs φ M [a0, a1] h (fun rv h2 => ∃ v, rv = some (.int (bI v)) ∧ h2 = h ∧ P v)) (w1 : Cond.methodLink own idx M.1 ∈ lw_g) (mv : MS M 2) (hR : M.2.2.2.2.frames + 1 ≤ fr ∧ 8 + (M.2.2.1 + 11) + M.2.2.2.2.locals ≤ lo) (hrm : (st.map fun v => v.category).sum ≤ 8) (kk : ∀ v, P v → V (pc + 3) lc (.int (bI v) :: st) h) : V pc lc (a1 :: a0 :: st) h :=
  v_callS R d hM w1 mv hR rfl hrm (fun rv h2 ⟨v, e, e2, hp⟩ => by subst e; subst e2; exact kk v hp)
theorem cS2_bw (R : Ru l D cs φ own cc nL fr lo V) {M : Mi} {idx : Nat} {a0 a1 : Value} {P : Bool → Hp → Prop} (d : decode cc pc = .ok (.invokestatic idx, 3)) (hM : Ct l D cs φ M [a0, a1] h (fun rv h2 => ∃ v, rv = some (.int (bI v)) ∧ P v h2)) (w1 : Cond.methodLink own idx M.1 ∈ lw_g) (mv : MS M 2) (hR : M.2.2.2.2.frames + 1 ≤ fr ∧ 8 + (M.2.2.1 + 11) + M.2.2.2.2.locals ≤ lo) (hrm : (st.map fun v => v.category).sum ≤ 8) (kk : ∀ v h2, P v h2 → V (pc + 3) lc (.int (bI v) :: st) h2) : V pc lc (a1 :: a0 :: st) h :=
  v_callS R d hM w1 mv hR rfl hrm (fun rv h2 ⟨v, e, hp⟩ => by subst e; exact kk v h2 hp)
theorem cS2_vw (R : Ru l D cs φ own cc nL fr lo V) {M : Mi} {idx : Nat} {a0 a1 : Value} {P : Hp → Prop} (d : decode cc pc = .ok (.invokestatic idx, 3)) (hM : Ct l D cs φ M [a0, a1] h (fun rv h2 => rv = none ∧ P h2)) (w1 : Cond.methodLink own idx M.1 ∈ lw_g) (mv : MS M 2) (hR : M.2.2.2.2.frames + 1 ≤ fr ∧ 8 + (M.2.2.1 + 11) + M.2.2.2.2.locals ≤ lo) (hrm : (st.map fun v => v.category).sum ≤ 8) (kk : ∀ h2, P h2 → V (pc + 3) lc st h2) : V pc lc (a1 :: a0 :: st) h :=
  v_callS R d hM w1 mv hR rfl hrm (fun rv h2 ⟨e, hp⟩ => by subst e; exact kk h2 hp)
theorem cN2_ir (R : Ru l D cs φ own cc nL fr lo V) {M : Mi} {idx : Nat} {a0 a1 : Value} {P : Int32 → Prop} (d : decode cc pc = .ok (.invokestatic idx, 3)) (hM : Ct l D cs φ M [a0, a1] h (fun rv h2 => ∃ v, rv = some (.int v) ∧ h2 = h ∧ P v)) {host : String} (w1 : Cond.methodLinkNest own idx M.1 host ∈ lw_n) (mv : MS M 2) (hR : M.2.2.2.2.frames + 1 ≤ fr ∧ 8 + (M.2.2.1 + 11) + M.2.2.2.2.locals ≤ lo) (hrm : (st.map fun v => v.category).sum ≤ 8) (kk : ∀ v, P v → V (pc + 3) lc (.int v :: st) h) : V pc lc (a1 :: a0 :: st) h :=
  v_callSN R d hM w1 mv hR rfl hrm (fun rv h2 ⟨v, e, e2, hp⟩ => by subst e; subst e2; exact kk v hp)
theorem cN2_iw (R : Ru l D cs φ own cc nL fr lo V) {M : Mi} {idx : Nat} {a0 a1 : Value} {P : Int32 → Hp → Prop} (d : decode cc pc = .ok (.invokestatic idx, 3)) (hM : Ct l D cs φ M [a0, a1] h (fun rv h2 => ∃ v, rv = some (.int v) ∧ P v h2)) {host : String} (w1 : Cond.methodLinkNest own idx M.1 host ∈ lw_n) (mv : MS M 2) (hR : M.2.2.2.2.frames + 1 ≤ fr ∧ 8 + (M.2.2.1 + 11) + M.2.2.2.2.locals ≤ lo) (hrm : (st.map fun v => v.category).sum ≤ 8) (kk : ∀ v h2, P v h2 → V (pc + 3) lc (.int v :: st) h2) : V pc lc (a1 :: a0 :: st) h :=
  v_callSN R d hM w1 mv hR rfl hrm (fun rv h2 ⟨v, e, hp⟩ => by subst e; exact kk v h2 hp)
theorem cN2_br (R : Ru l D cs φ own cc nL fr lo V) {M : Mi} {idx : Nat} {a0 a1 : Value} {P : Bool → Prop} (d : decode cc pc = .ok (.invokestatic idx, 3)) (hM : Ct l D cs φ M [a0, a1] h (fun rv h2 => ∃ v, rv = some (.int (bI v)) ∧ h2 = h ∧ P v)) {host : String} (w1 : Cond.methodLinkNest own idx M.1 host ∈ lw_n) (mv : MS M 2) (hR : M.2.2.2.2.frames + 1 ≤ fr ∧ 8 + (M.2.2.1 + 11) + M.2.2.2.2.locals ≤ lo) (hrm : (st.map fun v => v.category).sum ≤ 8) (kk : ∀ v, P v → V (pc + 3) lc (.int (bI v) :: st) h) : V pc lc (a1 :: a0 :: st) h :=
  v_callSN R d hM w1 mv hR rfl hrm (fun rv h2 ⟨v, e, e2, hp⟩ => by subst e; subst e2; exact kk v hp)
theorem cN2_bw (R : Ru l D cs φ own cc nL fr lo V) {M : Mi} {idx : Nat} {a0 a1 : Value} {P : Bool → Hp → Prop} (d : decode cc pc = .ok (.invokestatic idx, 3)) (hM : Ct l D cs φ M [a0, a1] h (fun rv h2 => ∃ v, rv = some (.int (bI v)) ∧ P v h2)) {host : String} (w1 : Cond.methodLinkNest own idx M.1 host ∈ lw_n) (mv : MS M 2) (hR : M.2.2.2.2.frames + 1 ≤ fr ∧ 8 + (M.2.2.1 + 11) + M.2.2.2.2.locals ≤ lo) (hrm : (st.map fun v => v.category).sum ≤ 8) (kk : ∀ v h2, P v h2 → V (pc + 3) lc (.int (bI v) :: st) h2) : V pc lc (a1 :: a0 :: st) h :=
  v_callSN R d hM w1 mv hR rfl hrm (fun rv h2 ⟨v, e, hp⟩ => by subst e; exact kk v h2 hp)
theorem cN2_vw (R : Ru l D cs φ own cc nL fr lo V) {M : Mi} {idx : Nat} {a0 a1 : Value} {P : Hp → Prop} (d : decode cc pc = .ok (.invokestatic idx, 3)) (hM : Ct l D cs φ M [a0, a1] h (fun rv h2 => rv = none ∧ P h2)) {host : String} (w1 : Cond.methodLinkNest own idx M.1 host ∈ lw_n) (mv : MS M 2) (hR : M.2.2.2.2.frames + 1 ≤ fr ∧ 8 + (M.2.2.1 + 11) + M.2.2.2.2.locals ≤ lo) (hrm : (st.map fun v => v.category).sum ≤ 8) (kk : ∀ h2, P h2 → V (pc + 3) lc st h2) : V pc lc (a1 :: a0 :: st) h :=
  v_callSN R d hM w1 mv hR rfl hrm (fun rv h2 ⟨e, hp⟩ => by subst e; exact kk h2 hp)
theorem cV3_ir (R : Ru l D cs φ own cc nL fr lo V) {M : Mi} {r idx : Nat} {a0 a1 a2 : Value} {P : Int32 → Prop} (d : decode cc pc = .ok (.invokevirtual idx, 3)) (hM : Ct l D cs φ M (.ref (φ r) :: [a0, a1, a2]) h (fun rv h2 => ∃ v, rv = some (.int v) ∧ h2 = h ∧ P v)) (rc : Rc r M.1.cls) (w1 : Cond.methodLink own idx M.1 ∈ lw_g) (mv : MV M 3) (hR : M.2.2.2.2.frames + 1 ≤ fr ∧ 8 + (M.2.2.1 + 11) + M.2.2.2.2.locals ≤ lo) (hrm : (st.map fun v => v.category).sum ≤ 8) (kk : ∀ v, P v → V (pc + 3) lc (.int v :: st) h) : V pc lc (a2 :: a1 :: a0 :: .ref (φ r) :: st) h := by
  obtain ⟨hr, rc2⟩ := rc
  obtain ⟨ci, fs, q, he, hq, hc⟩ := rc2 cs φ h
  exact v_callV R d hM hr he hq hc w1 mv hR rfl hrm (fun rv h2 ⟨v, e, e2, hp⟩ => by subst e; subst e2; exact kk v hp)
theorem cV3_iw (R : Ru l D cs φ own cc nL fr lo V) {M : Mi} {r idx : Nat} {a0 a1 a2 : Value} {P : Int32 → Hp → Prop} (d : decode cc pc = .ok (.invokevirtual idx, 3)) (hM : Ct l D cs φ M (.ref (φ r) :: [a0, a1, a2]) h (fun rv h2 => ∃ v, rv = some (.int v) ∧ P v h2)) (rc : Rc r M.1.cls) (w1 : Cond.methodLink own idx M.1 ∈ lw_g) (mv : MV M 3) (hR : M.2.2.2.2.frames + 1 ≤ fr ∧ 8 + (M.2.2.1 + 11) + M.2.2.2.2.locals ≤ lo) (hrm : (st.map fun v => v.category).sum ≤ 8) (kk : ∀ v h2, P v h2 → V (pc + 3) lc (.int v :: st) h2) : V pc lc (a2 :: a1 :: a0 :: .ref (φ r) :: st) h := by
  obtain ⟨hr, rc2⟩ := rc
  obtain ⟨ci, fs, q, he, hq, hc⟩ := rc2 cs φ h
  exact v_callV R d hM hr he hq hc w1 mv hR rfl hrm (fun rv h2 ⟨v, e, hp⟩ => by subst e; exact kk v h2 hp)
theorem cV3_br (R : Ru l D cs φ own cc nL fr lo V) {M : Mi} {r idx : Nat} {a0 a1 a2 : Value} {P : Bool → Prop} (d : decode cc pc = .ok (.invokevirtual idx, 3)) (hM : Ct l D cs φ M (.ref (φ r) :: [a0, a1, a2]) h (fun rv h2 => ∃ v, rv = some (.int (bI v)) ∧ h2 = h ∧ P v)) (rc : Rc r M.1.cls) (w1 : Cond.methodLink own idx M.1 ∈ lw_g) (mv : MV M 3) (hR : M.2.2.2.2.frames + 1 ≤ fr ∧ 8 + (M.2.2.1 + 11) + M.2.2.2.2.locals ≤ lo) (hrm : (st.map fun v => v.category).sum ≤ 8) (kk : ∀ v, P v → V (pc + 3) lc (.int (bI v) :: st) h) : V pc lc (a2 :: a1 :: a0 :: .ref (φ r) :: st) h := by
  obtain ⟨hr, rc2⟩ := rc
  obtain ⟨ci, fs, q, he, hq, hc⟩ := rc2 cs φ h
  exact v_callV R d hM hr he hq hc w1 mv hR rfl hrm (fun rv h2 ⟨v, e, e2, hp⟩ => by subst e; subst e2; exact kk v hp)
theorem cV3_bw (R : Ru l D cs φ own cc nL fr lo V) {M : Mi} {r idx : Nat} {a0 a1 a2 : Value} {P : Bool → Hp → Prop} (d : decode cc pc = .ok (.invokevirtual idx, 3)) (hM : Ct l D cs φ M (.ref (φ r) :: [a0, a1, a2]) h (fun rv h2 => ∃ v, rv = some (.int (bI v)) ∧ P v h2)) (rc : Rc r M.1.cls) (w1 : Cond.methodLink own idx M.1 ∈ lw_g) (mv : MV M 3) (hR : M.2.2.2.2.frames + 1 ≤ fr ∧ 8 + (M.2.2.1 + 11) + M.2.2.2.2.locals ≤ lo) (hrm : (st.map fun v => v.category).sum ≤ 8) (kk : ∀ v h2, P v h2 → V (pc + 3) lc (.int (bI v) :: st) h2) : V pc lc (a2 :: a1 :: a0 :: .ref (φ r) :: st) h := by
  obtain ⟨hr, rc2⟩ := rc
  obtain ⟨ci, fs, q, he, hq, hc⟩ := rc2 cs φ h
  exact v_callV R d hM hr he hq hc w1 mv hR rfl hrm (fun rv h2 ⟨v, e, hp⟩ => by subst e; exact kk v h2 hp)
theorem cV3_vw (R : Ru l D cs φ own cc nL fr lo V) {M : Mi} {r idx : Nat} {a0 a1 a2 : Value} {P : Hp → Prop} (d : decode cc pc = .ok (.invokevirtual idx, 3)) (hM : Ct l D cs φ M (.ref (φ r) :: [a0, a1, a2]) h (fun rv h2 => rv = none ∧ P h2)) (rc : Rc r M.1.cls) (w1 : Cond.methodLink own idx M.1 ∈ lw_g) (mv : MV M 3) (hR : M.2.2.2.2.frames + 1 ≤ fr ∧ 8 + (M.2.2.1 + 11) + M.2.2.2.2.locals ≤ lo) (hrm : (st.map fun v => v.category).sum ≤ 8) (kk : ∀ h2, P h2 → V (pc + 3) lc st h2) : V pc lc (a2 :: a1 :: a0 :: .ref (φ r) :: st) h := by
  obtain ⟨hr, rc2⟩ := rc
  obtain ⟨ci, fs, q, he, hq, hc⟩ := rc2 cs φ h
  exact v_callV R d hM hr he hq hc w1 mv hR rfl hrm (fun rv h2 ⟨e, hp⟩ => by subst e; exact kk h2 hp)
theorem cS3_ir (R : Ru l D cs φ own cc nL fr lo V) {M : Mi} {idx : Nat} {a0 a1 a2 : Value} {P : Int32 → Prop} (d : decode cc pc = .ok (.invokestatic idx, 3)) (hM : Ct l D cs φ M [a0, a1, a2] h (fun rv h2 => ∃ v, rv = some (.int v) ∧ h2 = h ∧ P v)) (w1 : Cond.methodLink own idx M.1 ∈ lw_g) (mv : MS M 3) (hR : M.2.2.2.2.frames + 1 ≤ fr ∧ 8 + (M.2.2.1 + 11) + M.2.2.2.2.locals ≤ lo) (hrm : (st.map fun v => v.category).sum ≤ 8) (kk : ∀ v, P v → V (pc + 3) lc (.int v :: st) h) : V pc lc (a2 :: a1 :: a0 :: st) h :=
  v_callS R d hM w1 mv hR rfl hrm (fun rv h2 ⟨v, e, e2, hp⟩ => by subst e; subst e2; exact kk v hp)
theorem cS3_iw (R : Ru l D cs φ own cc nL fr lo V) {M : Mi} {idx : Nat} {a0 a1 a2 : Value} {P : Int32 → Hp → Prop} (d : decode cc pc = .ok (.invokestatic idx, 3)) (hM : Ct l D cs φ M [a0, a1, a2] h (fun rv h2 => ∃ v, rv = some (.int v) ∧ P v h2)) (w1 : Cond.methodLink own idx M.1 ∈ lw_g) (mv : MS M 3) (hR : M.2.2.2.2.frames + 1 ≤ fr ∧ 8 + (M.2.2.1 + 11) + M.2.2.2.2.locals ≤ lo) (hrm : (st.map fun v => v.category).sum ≤ 8) (kk : ∀ v h2, P v h2 → V (pc + 3) lc (.int v :: st) h2) : V pc lc (a2 :: a1 :: a0 :: st) h :=
  v_callS R d hM w1 mv hR rfl hrm (fun rv h2 ⟨v, e, hp⟩ => by subst e; exact kk v h2 hp)
theorem cS3_br (R : Ru l D cs φ own cc nL fr lo V) {M : Mi} {idx : Nat} {a0 a1 a2 : Value} {P : Bool → Prop} (d : decode cc pc = .ok (.invokestatic idx, 3)) (hM : Ct l D cs φ M [a0, a1, a2] h (fun rv h2 => ∃ v, rv = some (.int (bI v)) ∧ h2 = h ∧ P v)) (w1 : Cond.methodLink own idx M.1 ∈ lw_g) (mv : MS M 3) (hR : M.2.2.2.2.frames + 1 ≤ fr ∧ 8 + (M.2.2.1 + 11) + M.2.2.2.2.locals ≤ lo) (hrm : (st.map fun v => v.category).sum ≤ 8) (kk : ∀ v, P v → V (pc + 3) lc (.int (bI v) :: st) h) : V pc lc (a2 :: a1 :: a0 :: st) h :=
  v_callS R d hM w1 mv hR rfl hrm (fun rv h2 ⟨v, e, e2, hp⟩ => by subst e; subst e2; exact kk v hp)
theorem cS3_bw (R : Ru l D cs φ own cc nL fr lo V) {M : Mi} {idx : Nat} {a0 a1 a2 : Value} {P : Bool → Hp → Prop} (d : decode cc pc = .ok (.invokestatic idx, 3)) (hM : Ct l D cs φ M [a0, a1, a2] h (fun rv h2 => ∃ v, rv = some (.int (bI v)) ∧ P v h2)) (w1 : Cond.methodLink own idx M.1 ∈ lw_g) (mv : MS M 3) (hR : M.2.2.2.2.frames + 1 ≤ fr ∧ 8 + (M.2.2.1 + 11) + M.2.2.2.2.locals ≤ lo) (hrm : (st.map fun v => v.category).sum ≤ 8) (kk : ∀ v h2, P v h2 → V (pc + 3) lc (.int (bI v) :: st) h2) : V pc lc (a2 :: a1 :: a0 :: st) h :=
  v_callS R d hM w1 mv hR rfl hrm (fun rv h2 ⟨v, e, hp⟩ => by subst e; exact kk v h2 hp)
theorem cS3_vw (R : Ru l D cs φ own cc nL fr lo V) {M : Mi} {idx : Nat} {a0 a1 a2 : Value} {P : Hp → Prop} (d : decode cc pc = .ok (.invokestatic idx, 3)) (hM : Ct l D cs φ M [a0, a1, a2] h (fun rv h2 => rv = none ∧ P h2)) (w1 : Cond.methodLink own idx M.1 ∈ lw_g) (mv : MS M 3) (hR : M.2.2.2.2.frames + 1 ≤ fr ∧ 8 + (M.2.2.1 + 11) + M.2.2.2.2.locals ≤ lo) (hrm : (st.map fun v => v.category).sum ≤ 8) (kk : ∀ h2, P h2 → V (pc + 3) lc st h2) : V pc lc (a2 :: a1 :: a0 :: st) h :=
  v_callS R d hM w1 mv hR rfl hrm (fun rv h2 ⟨e, hp⟩ => by subst e; exact kk h2 hp)
theorem cN3_ir (R : Ru l D cs φ own cc nL fr lo V) {M : Mi} {idx : Nat} {a0 a1 a2 : Value} {P : Int32 → Prop} (d : decode cc pc = .ok (.invokestatic idx, 3)) (hM : Ct l D cs φ M [a0, a1, a2] h (fun rv h2 => ∃ v, rv = some (.int v) ∧ h2 = h ∧ P v)) {host : String} (w1 : Cond.methodLinkNest own idx M.1 host ∈ lw_n) (mv : MS M 3) (hR : M.2.2.2.2.frames + 1 ≤ fr ∧ 8 + (M.2.2.1 + 11) + M.2.2.2.2.locals ≤ lo) (hrm : (st.map fun v => v.category).sum ≤ 8) (kk : ∀ v, P v → V (pc + 3) lc (.int v :: st) h) : V pc lc (a2 :: a1 :: a0 :: st) h :=
  v_callSN R d hM w1 mv hR rfl hrm (fun rv h2 ⟨v, e, e2, hp⟩ => by subst e; subst e2; exact kk v hp)
theorem cN3_iw (R : Ru l D cs φ own cc nL fr lo V) {M : Mi} {idx : Nat} {a0 a1 a2 : Value} {P : Int32 → Hp → Prop} (d : decode cc pc = .ok (.invokestatic idx, 3)) (hM : Ct l D cs φ M [a0, a1, a2] h (fun rv h2 => ∃ v, rv = some (.int v) ∧ P v h2)) {host : String} (w1 : Cond.methodLinkNest own idx M.1 host ∈ lw_n) (mv : MS M 3) (hR : M.2.2.2.2.frames + 1 ≤ fr ∧ 8 + (M.2.2.1 + 11) + M.2.2.2.2.locals ≤ lo) (hrm : (st.map fun v => v.category).sum ≤ 8) (kk : ∀ v h2, P v h2 → V (pc + 3) lc (.int v :: st) h2) : V pc lc (a2 :: a1 :: a0 :: st) h :=
  v_callSN R d hM w1 mv hR rfl hrm (fun rv h2 ⟨v, e, hp⟩ => by subst e; exact kk v h2 hp)
theorem cN3_br (R : Ru l D cs φ own cc nL fr lo V) {M : Mi} {idx : Nat} {a0 a1 a2 : Value} {P : Bool → Prop} (d : decode cc pc = .ok (.invokestatic idx, 3)) (hM : Ct l D cs φ M [a0, a1, a2] h (fun rv h2 => ∃ v, rv = some (.int (bI v)) ∧ h2 = h ∧ P v)) {host : String} (w1 : Cond.methodLinkNest own idx M.1 host ∈ lw_n) (mv : MS M 3) (hR : M.2.2.2.2.frames + 1 ≤ fr ∧ 8 + (M.2.2.1 + 11) + M.2.2.2.2.locals ≤ lo) (hrm : (st.map fun v => v.category).sum ≤ 8) (kk : ∀ v, P v → V (pc + 3) lc (.int (bI v) :: st) h) : V pc lc (a2 :: a1 :: a0 :: st) h :=
  v_callSN R d hM w1 mv hR rfl hrm (fun rv h2 ⟨v, e, e2, hp⟩ => by subst e; subst e2; exact kk v hp)
theorem cN3_bw (R : Ru l D cs φ own cc nL fr lo V) {M : Mi} {idx : Nat} {a0 a1 a2 : Value} {P : Bool → Hp → Prop} (d : decode cc pc = .ok (.invokestatic idx, 3)) (hM : Ct l D cs φ M [a0, a1, a2] h (fun rv h2 => ∃ v, rv = some (.int (bI v)) ∧ P v h2)) {host : String} (w1 : Cond.methodLinkNest own idx M.1 host ∈ lw_n) (mv : MS M 3) (hR : M.2.2.2.2.frames + 1 ≤ fr ∧ 8 + (M.2.2.1 + 11) + M.2.2.2.2.locals ≤ lo) (hrm : (st.map fun v => v.category).sum ≤ 8) (kk : ∀ v h2, P v h2 → V (pc + 3) lc (.int (bI v) :: st) h2) : V pc lc (a2 :: a1 :: a0 :: st) h :=
  v_callSN R d hM w1 mv hR rfl hrm (fun rv h2 ⟨v, e, hp⟩ => by subst e; exact kk v h2 hp)
theorem cN3_vw (R : Ru l D cs φ own cc nL fr lo V) {M : Mi} {idx : Nat} {a0 a1 a2 : Value} {P : Hp → Prop} (d : decode cc pc = .ok (.invokestatic idx, 3)) (hM : Ct l D cs φ M [a0, a1, a2] h (fun rv h2 => rv = none ∧ P h2)) {host : String} (w1 : Cond.methodLinkNest own idx M.1 host ∈ lw_n) (mv : MS M 3) (hR : M.2.2.2.2.frames + 1 ≤ fr ∧ 8 + (M.2.2.1 + 11) + M.2.2.2.2.locals ≤ lo) (hrm : (st.map fun v => v.category).sum ≤ 8) (kk : ∀ h2, P h2 → V (pc + 3) lc st h2) : V pc lc (a2 :: a1 :: a0 :: st) h :=
  v_callSN R d hM w1 mv hR rfl hrm (fun rv h2 ⟨e, hp⟩ => by subst e; exact kk h2 hp)
theorem cV4_ir (R : Ru l D cs φ own cc nL fr lo V) {M : Mi} {r idx : Nat} {a0 a1 a2 a3 : Value} {P : Int32 → Prop} (d : decode cc pc = .ok (.invokevirtual idx, 3)) (hM : Ct l D cs φ M (.ref (φ r) :: [a0, a1, a2, a3]) h (fun rv h2 => ∃ v, rv = some (.int v) ∧ h2 = h ∧ P v)) (rc : Rc r M.1.cls) (w1 : Cond.methodLink own idx M.1 ∈ lw_g) (mv : MV M 4) (hR : M.2.2.2.2.frames + 1 ≤ fr ∧ 8 + (M.2.2.1 + 11) + M.2.2.2.2.locals ≤ lo) (hrm : (st.map fun v => v.category).sum ≤ 8) (kk : ∀ v, P v → V (pc + 3) lc (.int v :: st) h) : V pc lc (a3 :: a2 :: a1 :: a0 :: .ref (φ r) :: st) h := by
  obtain ⟨hr, rc2⟩ := rc
  obtain ⟨ci, fs, q, he, hq, hc⟩ := rc2 cs φ h
  exact v_callV R d hM hr he hq hc w1 mv hR rfl hrm (fun rv h2 ⟨v, e, e2, hp⟩ => by subst e; subst e2; exact kk v hp)
theorem cV4_iw (R : Ru l D cs φ own cc nL fr lo V) {M : Mi} {r idx : Nat} {a0 a1 a2 a3 : Value} {P : Int32 → Hp → Prop} (d : decode cc pc = .ok (.invokevirtual idx, 3)) (hM : Ct l D cs φ M (.ref (φ r) :: [a0, a1, a2, a3]) h (fun rv h2 => ∃ v, rv = some (.int v) ∧ P v h2)) (rc : Rc r M.1.cls) (w1 : Cond.methodLink own idx M.1 ∈ lw_g) (mv : MV M 4) (hR : M.2.2.2.2.frames + 1 ≤ fr ∧ 8 + (M.2.2.1 + 11) + M.2.2.2.2.locals ≤ lo) (hrm : (st.map fun v => v.category).sum ≤ 8) (kk : ∀ v h2, P v h2 → V (pc + 3) lc (.int v :: st) h2) : V pc lc (a3 :: a2 :: a1 :: a0 :: .ref (φ r) :: st) h := by
  obtain ⟨hr, rc2⟩ := rc
  obtain ⟨ci, fs, q, he, hq, hc⟩ := rc2 cs φ h
  exact v_callV R d hM hr he hq hc w1 mv hR rfl hrm (fun rv h2 ⟨v, e, hp⟩ => by subst e; exact kk v h2 hp)
theorem cV4_br (R : Ru l D cs φ own cc nL fr lo V) {M : Mi} {r idx : Nat} {a0 a1 a2 a3 : Value} {P : Bool → Prop} (d : decode cc pc = .ok (.invokevirtual idx, 3)) (hM : Ct l D cs φ M (.ref (φ r) :: [a0, a1, a2, a3]) h (fun rv h2 => ∃ v, rv = some (.int (bI v)) ∧ h2 = h ∧ P v)) (rc : Rc r M.1.cls) (w1 : Cond.methodLink own idx M.1 ∈ lw_g) (mv : MV M 4) (hR : M.2.2.2.2.frames + 1 ≤ fr ∧ 8 + (M.2.2.1 + 11) + M.2.2.2.2.locals ≤ lo) (hrm : (st.map fun v => v.category).sum ≤ 8) (kk : ∀ v, P v → V (pc + 3) lc (.int (bI v) :: st) h) : V pc lc (a3 :: a2 :: a1 :: a0 :: .ref (φ r) :: st) h := by
  obtain ⟨hr, rc2⟩ := rc
  obtain ⟨ci, fs, q, he, hq, hc⟩ := rc2 cs φ h
  exact v_callV R d hM hr he hq hc w1 mv hR rfl hrm (fun rv h2 ⟨v, e, e2, hp⟩ => by subst e; subst e2; exact kk v hp)
theorem cV4_bw (R : Ru l D cs φ own cc nL fr lo V) {M : Mi} {r idx : Nat} {a0 a1 a2 a3 : Value} {P : Bool → Hp → Prop} (d : decode cc pc = .ok (.invokevirtual idx, 3)) (hM : Ct l D cs φ M (.ref (φ r) :: [a0, a1, a2, a3]) h (fun rv h2 => ∃ v, rv = some (.int (bI v)) ∧ P v h2)) (rc : Rc r M.1.cls) (w1 : Cond.methodLink own idx M.1 ∈ lw_g) (mv : MV M 4) (hR : M.2.2.2.2.frames + 1 ≤ fr ∧ 8 + (M.2.2.1 + 11) + M.2.2.2.2.locals ≤ lo) (hrm : (st.map fun v => v.category).sum ≤ 8) (kk : ∀ v h2, P v h2 → V (pc + 3) lc (.int (bI v) :: st) h2) : V pc lc (a3 :: a2 :: a1 :: a0 :: .ref (φ r) :: st) h := by
  obtain ⟨hr, rc2⟩ := rc
  obtain ⟨ci, fs, q, he, hq, hc⟩ := rc2 cs φ h
  exact v_callV R d hM hr he hq hc w1 mv hR rfl hrm (fun rv h2 ⟨v, e, hp⟩ => by subst e; exact kk v h2 hp)
theorem cV4_vw (R : Ru l D cs φ own cc nL fr lo V) {M : Mi} {r idx : Nat} {a0 a1 a2 a3 : Value} {P : Hp → Prop} (d : decode cc pc = .ok (.invokevirtual idx, 3)) (hM : Ct l D cs φ M (.ref (φ r) :: [a0, a1, a2, a3]) h (fun rv h2 => rv = none ∧ P h2)) (rc : Rc r M.1.cls) (w1 : Cond.methodLink own idx M.1 ∈ lw_g) (mv : MV M 4) (hR : M.2.2.2.2.frames + 1 ≤ fr ∧ 8 + (M.2.2.1 + 11) + M.2.2.2.2.locals ≤ lo) (hrm : (st.map fun v => v.category).sum ≤ 8) (kk : ∀ h2, P h2 → V (pc + 3) lc st h2) : V pc lc (a3 :: a2 :: a1 :: a0 :: .ref (φ r) :: st) h := by
  obtain ⟨hr, rc2⟩ := rc
  obtain ⟨ci, fs, q, he, hq, hc⟩ := rc2 cs φ h
  exact v_callV R d hM hr he hq hc w1 mv hR rfl hrm (fun rv h2 ⟨e, hp⟩ => by subst e; exact kk h2 hp)
theorem cS4_ir (R : Ru l D cs φ own cc nL fr lo V) {M : Mi} {idx : Nat} {a0 a1 a2 a3 : Value} {P : Int32 → Prop} (d : decode cc pc = .ok (.invokestatic idx, 3)) (hM : Ct l D cs φ M [a0, a1, a2, a3] h (fun rv h2 => ∃ v, rv = some (.int v) ∧ h2 = h ∧ P v)) (w1 : Cond.methodLink own idx M.1 ∈ lw_g) (mv : MS M 4) (hR : M.2.2.2.2.frames + 1 ≤ fr ∧ 8 + (M.2.2.1 + 11) + M.2.2.2.2.locals ≤ lo) (hrm : (st.map fun v => v.category).sum ≤ 8) (kk : ∀ v, P v → V (pc + 3) lc (.int v :: st) h) : V pc lc (a3 :: a2 :: a1 :: a0 :: st) h :=
  v_callS R d hM w1 mv hR rfl hrm (fun rv h2 ⟨v, e, e2, hp⟩ => by subst e; subst e2; exact kk v hp)
theorem cS4_iw (R : Ru l D cs φ own cc nL fr lo V) {M : Mi} {idx : Nat} {a0 a1 a2 a3 : Value} {P : Int32 → Hp → Prop} (d : decode cc pc = .ok (.invokestatic idx, 3)) (hM : Ct l D cs φ M [a0, a1, a2, a3] h (fun rv h2 => ∃ v, rv = some (.int v) ∧ P v h2)) (w1 : Cond.methodLink own idx M.1 ∈ lw_g) (mv : MS M 4) (hR : M.2.2.2.2.frames + 1 ≤ fr ∧ 8 + (M.2.2.1 + 11) + M.2.2.2.2.locals ≤ lo) (hrm : (st.map fun v => v.category).sum ≤ 8) (kk : ∀ v h2, P v h2 → V (pc + 3) lc (.int v :: st) h2) : V pc lc (a3 :: a2 :: a1 :: a0 :: st) h :=
  v_callS R d hM w1 mv hR rfl hrm (fun rv h2 ⟨v, e, hp⟩ => by subst e; exact kk v h2 hp)
theorem cS4_br (R : Ru l D cs φ own cc nL fr lo V) {M : Mi} {idx : Nat} {a0 a1 a2 a3 : Value} {P : Bool → Prop} (d : decode cc pc = .ok (.invokestatic idx, 3)) (hM : Ct l D cs φ M [a0, a1, a2, a3] h (fun rv h2 => ∃ v, rv = some (.int (bI v)) ∧ h2 = h ∧ P v)) (w1 : Cond.methodLink own idx M.1 ∈ lw_g) (mv : MS M 4) (hR : M.2.2.2.2.frames + 1 ≤ fr ∧ 8 + (M.2.2.1 + 11) + M.2.2.2.2.locals ≤ lo) (hrm : (st.map fun v => v.category).sum ≤ 8) (kk : ∀ v, P v → V (pc + 3) lc (.int (bI v) :: st) h) : V pc lc (a3 :: a2 :: a1 :: a0 :: st) h :=
  v_callS R d hM w1 mv hR rfl hrm (fun rv h2 ⟨v, e, e2, hp⟩ => by subst e; subst e2; exact kk v hp)
theorem cS4_bw (R : Ru l D cs φ own cc nL fr lo V) {M : Mi} {idx : Nat} {a0 a1 a2 a3 : Value} {P : Bool → Hp → Prop} (d : decode cc pc = .ok (.invokestatic idx, 3)) (hM : Ct l D cs φ M [a0, a1, a2, a3] h (fun rv h2 => ∃ v, rv = some (.int (bI v)) ∧ P v h2)) (w1 : Cond.methodLink own idx M.1 ∈ lw_g) (mv : MS M 4) (hR : M.2.2.2.2.frames + 1 ≤ fr ∧ 8 + (M.2.2.1 + 11) + M.2.2.2.2.locals ≤ lo) (hrm : (st.map fun v => v.category).sum ≤ 8) (kk : ∀ v h2, P v h2 → V (pc + 3) lc (.int (bI v) :: st) h2) : V pc lc (a3 :: a2 :: a1 :: a0 :: st) h :=
  v_callS R d hM w1 mv hR rfl hrm (fun rv h2 ⟨v, e, hp⟩ => by subst e; exact kk v h2 hp)
theorem cS4_vw (R : Ru l D cs φ own cc nL fr lo V) {M : Mi} {idx : Nat} {a0 a1 a2 a3 : Value} {P : Hp → Prop} (d : decode cc pc = .ok (.invokestatic idx, 3)) (hM : Ct l D cs φ M [a0, a1, a2, a3] h (fun rv h2 => rv = none ∧ P h2)) (w1 : Cond.methodLink own idx M.1 ∈ lw_g) (mv : MS M 4) (hR : M.2.2.2.2.frames + 1 ≤ fr ∧ 8 + (M.2.2.1 + 11) + M.2.2.2.2.locals ≤ lo) (hrm : (st.map fun v => v.category).sum ≤ 8) (kk : ∀ h2, P h2 → V (pc + 3) lc st h2) : V pc lc (a3 :: a2 :: a1 :: a0 :: st) h :=
  v_callS R d hM w1 mv hR rfl hrm (fun rv h2 ⟨e, hp⟩ => by subst e; exact kk h2 hp)
theorem cN4_ir (R : Ru l D cs φ own cc nL fr lo V) {M : Mi} {idx : Nat} {a0 a1 a2 a3 : Value} {P : Int32 → Prop} (d : decode cc pc = .ok (.invokestatic idx, 3)) (hM : Ct l D cs φ M [a0, a1, a2, a3] h (fun rv h2 => ∃ v, rv = some (.int v) ∧ h2 = h ∧ P v)) {host : String} (w1 : Cond.methodLinkNest own idx M.1 host ∈ lw_n) (mv : MS M 4) (hR : M.2.2.2.2.frames + 1 ≤ fr ∧ 8 + (M.2.2.1 + 11) + M.2.2.2.2.locals ≤ lo) (hrm : (st.map fun v => v.category).sum ≤ 8) (kk : ∀ v, P v → V (pc + 3) lc (.int v :: st) h) : V pc lc (a3 :: a2 :: a1 :: a0 :: st) h :=
  v_callSN R d hM w1 mv hR rfl hrm (fun rv h2 ⟨v, e, e2, hp⟩ => by subst e; subst e2; exact kk v hp)
theorem cN4_iw (R : Ru l D cs φ own cc nL fr lo V) {M : Mi} {idx : Nat} {a0 a1 a2 a3 : Value} {P : Int32 → Hp → Prop} (d : decode cc pc = .ok (.invokestatic idx, 3)) (hM : Ct l D cs φ M [a0, a1, a2, a3] h (fun rv h2 => ∃ v, rv = some (.int v) ∧ P v h2)) {host : String} (w1 : Cond.methodLinkNest own idx M.1 host ∈ lw_n) (mv : MS M 4) (hR : M.2.2.2.2.frames + 1 ≤ fr ∧ 8 + (M.2.2.1 + 11) + M.2.2.2.2.locals ≤ lo) (hrm : (st.map fun v => v.category).sum ≤ 8) (kk : ∀ v h2, P v h2 → V (pc + 3) lc (.int v :: st) h2) : V pc lc (a3 :: a2 :: a1 :: a0 :: st) h :=
  v_callSN R d hM w1 mv hR rfl hrm (fun rv h2 ⟨v, e, hp⟩ => by subst e; exact kk v h2 hp)
theorem cN4_br (R : Ru l D cs φ own cc nL fr lo V) {M : Mi} {idx : Nat} {a0 a1 a2 a3 : Value} {P : Bool → Prop} (d : decode cc pc = .ok (.invokestatic idx, 3)) (hM : Ct l D cs φ M [a0, a1, a2, a3] h (fun rv h2 => ∃ v, rv = some (.int (bI v)) ∧ h2 = h ∧ P v)) {host : String} (w1 : Cond.methodLinkNest own idx M.1 host ∈ lw_n) (mv : MS M 4) (hR : M.2.2.2.2.frames + 1 ≤ fr ∧ 8 + (M.2.2.1 + 11) + M.2.2.2.2.locals ≤ lo) (hrm : (st.map fun v => v.category).sum ≤ 8) (kk : ∀ v, P v → V (pc + 3) lc (.int (bI v) :: st) h) : V pc lc (a3 :: a2 :: a1 :: a0 :: st) h :=
  v_callSN R d hM w1 mv hR rfl hrm (fun rv h2 ⟨v, e, e2, hp⟩ => by subst e; subst e2; exact kk v hp)
theorem cN4_bw (R : Ru l D cs φ own cc nL fr lo V) {M : Mi} {idx : Nat} {a0 a1 a2 a3 : Value} {P : Bool → Hp → Prop} (d : decode cc pc = .ok (.invokestatic idx, 3)) (hM : Ct l D cs φ M [a0, a1, a2, a3] h (fun rv h2 => ∃ v, rv = some (.int (bI v)) ∧ P v h2)) {host : String} (w1 : Cond.methodLinkNest own idx M.1 host ∈ lw_n) (mv : MS M 4) (hR : M.2.2.2.2.frames + 1 ≤ fr ∧ 8 + (M.2.2.1 + 11) + M.2.2.2.2.locals ≤ lo) (hrm : (st.map fun v => v.category).sum ≤ 8) (kk : ∀ v h2, P v h2 → V (pc + 3) lc (.int (bI v) :: st) h2) : V pc lc (a3 :: a2 :: a1 :: a0 :: st) h :=
  v_callSN R d hM w1 mv hR rfl hrm (fun rv h2 ⟨v, e, hp⟩ => by subst e; exact kk v h2 hp)
theorem cN4_vw (R : Ru l D cs φ own cc nL fr lo V) {M : Mi} {idx : Nat} {a0 a1 a2 a3 : Value} {P : Hp → Prop} (d : decode cc pc = .ok (.invokestatic idx, 3)) (hM : Ct l D cs φ M [a0, a1, a2, a3] h (fun rv h2 => rv = none ∧ P h2)) {host : String} (w1 : Cond.methodLinkNest own idx M.1 host ∈ lw_n) (mv : MS M 4) (hR : M.2.2.2.2.frames + 1 ≤ fr ∧ 8 + (M.2.2.1 + 11) + M.2.2.2.2.locals ≤ lo) (hrm : (st.map fun v => v.category).sum ≤ 8) (kk : ∀ h2, P h2 → V (pc + 3) lc st h2) : V pc lc (a3 :: a2 :: a1 :: a0 :: st) h :=
  v_callSN R d hM w1 mv hR rfl hrm (fun rv h2 ⟨e, hp⟩ => by subst e; exact kk h2 hp)
theorem cV5_ir (R : Ru l D cs φ own cc nL fr lo V) {M : Mi} {r idx : Nat} {a0 a1 a2 a3 a4 : Value} {P : Int32 → Prop} (d : decode cc pc = .ok (.invokevirtual idx, 3)) (hM : Ct l D cs φ M (.ref (φ r) :: [a0, a1, a2, a3, a4]) h (fun rv h2 => ∃ v, rv = some (.int v) ∧ h2 = h ∧ P v)) (rc : Rc r M.1.cls) (w1 : Cond.methodLink own idx M.1 ∈ lw_g) (mv : MV M 5) (hR : M.2.2.2.2.frames + 1 ≤ fr ∧ 8 + (M.2.2.1 + 11) + M.2.2.2.2.locals ≤ lo) (hrm : (st.map fun v => v.category).sum ≤ 8) (kk : ∀ v, P v → V (pc + 3) lc (.int v :: st) h) : V pc lc (a4 :: a3 :: a2 :: a1 :: a0 :: .ref (φ r) :: st) h := by
  obtain ⟨hr, rc2⟩ := rc
  obtain ⟨ci, fs, q, he, hq, hc⟩ := rc2 cs φ h
  exact v_callV R d hM hr he hq hc w1 mv hR rfl hrm (fun rv h2 ⟨v, e, e2, hp⟩ => by subst e; subst e2; exact kk v hp)
theorem cV5_iw (R : Ru l D cs φ own cc nL fr lo V) {M : Mi} {r idx : Nat} {a0 a1 a2 a3 a4 : Value} {P : Int32 → Hp → Prop} (d : decode cc pc = .ok (.invokevirtual idx, 3)) (hM : Ct l D cs φ M (.ref (φ r) :: [a0, a1, a2, a3, a4]) h (fun rv h2 => ∃ v, rv = some (.int v) ∧ P v h2)) (rc : Rc r M.1.cls) (w1 : Cond.methodLink own idx M.1 ∈ lw_g) (mv : MV M 5) (hR : M.2.2.2.2.frames + 1 ≤ fr ∧ 8 + (M.2.2.1 + 11) + M.2.2.2.2.locals ≤ lo) (hrm : (st.map fun v => v.category).sum ≤ 8) (kk : ∀ v h2, P v h2 → V (pc + 3) lc (.int v :: st) h2) : V pc lc (a4 :: a3 :: a2 :: a1 :: a0 :: .ref (φ r) :: st) h := by
  obtain ⟨hr, rc2⟩ := rc
  obtain ⟨ci, fs, q, he, hq, hc⟩ := rc2 cs φ h
  exact v_callV R d hM hr he hq hc w1 mv hR rfl hrm (fun rv h2 ⟨v, e, hp⟩ => by subst e; exact kk v h2 hp)
theorem cV5_br (R : Ru l D cs φ own cc nL fr lo V) {M : Mi} {r idx : Nat} {a0 a1 a2 a3 a4 : Value} {P : Bool → Prop} (d : decode cc pc = .ok (.invokevirtual idx, 3)) (hM : Ct l D cs φ M (.ref (φ r) :: [a0, a1, a2, a3, a4]) h (fun rv h2 => ∃ v, rv = some (.int (bI v)) ∧ h2 = h ∧ P v)) (rc : Rc r M.1.cls) (w1 : Cond.methodLink own idx M.1 ∈ lw_g) (mv : MV M 5) (hR : M.2.2.2.2.frames + 1 ≤ fr ∧ 8 + (M.2.2.1 + 11) + M.2.2.2.2.locals ≤ lo) (hrm : (st.map fun v => v.category).sum ≤ 8) (kk : ∀ v, P v → V (pc + 3) lc (.int (bI v) :: st) h) : V pc lc (a4 :: a3 :: a2 :: a1 :: a0 :: .ref (φ r) :: st) h := by
  obtain ⟨hr, rc2⟩ := rc
  obtain ⟨ci, fs, q, he, hq, hc⟩ := rc2 cs φ h
  exact v_callV R d hM hr he hq hc w1 mv hR rfl hrm (fun rv h2 ⟨v, e, e2, hp⟩ => by subst e; subst e2; exact kk v hp)
theorem cV5_bw (R : Ru l D cs φ own cc nL fr lo V) {M : Mi} {r idx : Nat} {a0 a1 a2 a3 a4 : Value} {P : Bool → Hp → Prop} (d : decode cc pc = .ok (.invokevirtual idx, 3)) (hM : Ct l D cs φ M (.ref (φ r) :: [a0, a1, a2, a3, a4]) h (fun rv h2 => ∃ v, rv = some (.int (bI v)) ∧ P v h2)) (rc : Rc r M.1.cls) (w1 : Cond.methodLink own idx M.1 ∈ lw_g) (mv : MV M 5) (hR : M.2.2.2.2.frames + 1 ≤ fr ∧ 8 + (M.2.2.1 + 11) + M.2.2.2.2.locals ≤ lo) (hrm : (st.map fun v => v.category).sum ≤ 8) (kk : ∀ v h2, P v h2 → V (pc + 3) lc (.int (bI v) :: st) h2) : V pc lc (a4 :: a3 :: a2 :: a1 :: a0 :: .ref (φ r) :: st) h := by
  obtain ⟨hr, rc2⟩ := rc
  obtain ⟨ci, fs, q, he, hq, hc⟩ := rc2 cs φ h
  exact v_callV R d hM hr he hq hc w1 mv hR rfl hrm (fun rv h2 ⟨v, e, hp⟩ => by subst e; exact kk v h2 hp)
theorem cV5_vw (R : Ru l D cs φ own cc nL fr lo V) {M : Mi} {r idx : Nat} {a0 a1 a2 a3 a4 : Value} {P : Hp → Prop} (d : decode cc pc = .ok (.invokevirtual idx, 3)) (hM : Ct l D cs φ M (.ref (φ r) :: [a0, a1, a2, a3, a4]) h (fun rv h2 => rv = none ∧ P h2)) (rc : Rc r M.1.cls) (w1 : Cond.methodLink own idx M.1 ∈ lw_g) (mv : MV M 5) (hR : M.2.2.2.2.frames + 1 ≤ fr ∧ 8 + (M.2.2.1 + 11) + M.2.2.2.2.locals ≤ lo) (hrm : (st.map fun v => v.category).sum ≤ 8) (kk : ∀ h2, P h2 → V (pc + 3) lc st h2) : V pc lc (a4 :: a3 :: a2 :: a1 :: a0 :: .ref (φ r) :: st) h := by
  obtain ⟨hr, rc2⟩ := rc
  obtain ⟨ci, fs, q, he, hq, hc⟩ := rc2 cs φ h
  exact v_callV R d hM hr he hq hc w1 mv hR rfl hrm (fun rv h2 ⟨e, hp⟩ => by subst e; exact kk h2 hp)
theorem cS5_ir (R : Ru l D cs φ own cc nL fr lo V) {M : Mi} {idx : Nat} {a0 a1 a2 a3 a4 : Value} {P : Int32 → Prop} (d : decode cc pc = .ok (.invokestatic idx, 3)) (hM : Ct l D cs φ M [a0, a1, a2, a3, a4] h (fun rv h2 => ∃ v, rv = some (.int v) ∧ h2 = h ∧ P v)) (w1 : Cond.methodLink own idx M.1 ∈ lw_g) (mv : MS M 5) (hR : M.2.2.2.2.frames + 1 ≤ fr ∧ 8 + (M.2.2.1 + 11) + M.2.2.2.2.locals ≤ lo) (hrm : (st.map fun v => v.category).sum ≤ 8) (kk : ∀ v, P v → V (pc + 3) lc (.int v :: st) h) : V pc lc (a4 :: a3 :: a2 :: a1 :: a0 :: st) h :=
  v_callS R d hM w1 mv hR rfl hrm (fun rv h2 ⟨v, e, e2, hp⟩ => by subst e; subst e2; exact kk v hp)
theorem cS5_iw (R : Ru l D cs φ own cc nL fr lo V) {M : Mi} {idx : Nat} {a0 a1 a2 a3 a4 : Value} {P : Int32 → Hp → Prop} (d : decode cc pc = .ok (.invokestatic idx, 3)) (hM : Ct l D cs φ M [a0, a1, a2, a3, a4] h (fun rv h2 => ∃ v, rv = some (.int v) ∧ P v h2)) (w1 : Cond.methodLink own idx M.1 ∈ lw_g) (mv : MS M 5) (hR : M.2.2.2.2.frames + 1 ≤ fr ∧ 8 + (M.2.2.1 + 11) + M.2.2.2.2.locals ≤ lo) (hrm : (st.map fun v => v.category).sum ≤ 8) (kk : ∀ v h2, P v h2 → V (pc + 3) lc (.int v :: st) h2) : V pc lc (a4 :: a3 :: a2 :: a1 :: a0 :: st) h :=
  v_callS R d hM w1 mv hR rfl hrm (fun rv h2 ⟨v, e, hp⟩ => by subst e; exact kk v h2 hp)
theorem cS5_br (R : Ru l D cs φ own cc nL fr lo V) {M : Mi} {idx : Nat} {a0 a1 a2 a3 a4 : Value} {P : Bool → Prop} (d : decode cc pc = .ok (.invokestatic idx, 3)) (hM : Ct l D cs φ M [a0, a1, a2, a3, a4] h (fun rv h2 => ∃ v, rv = some (.int (bI v)) ∧ h2 = h ∧ P v)) (w1 : Cond.methodLink own idx M.1 ∈ lw_g) (mv : MS M 5) (hR : M.2.2.2.2.frames + 1 ≤ fr ∧ 8 + (M.2.2.1 + 11) + M.2.2.2.2.locals ≤ lo) (hrm : (st.map fun v => v.category).sum ≤ 8) (kk : ∀ v, P v → V (pc + 3) lc (.int (bI v) :: st) h) : V pc lc (a4 :: a3 :: a2 :: a1 :: a0 :: st) h :=
  v_callS R d hM w1 mv hR rfl hrm (fun rv h2 ⟨v, e, e2, hp⟩ => by subst e; subst e2; exact kk v hp)
theorem cS5_bw (R : Ru l D cs φ own cc nL fr lo V) {M : Mi} {idx : Nat} {a0 a1 a2 a3 a4 : Value} {P : Bool → Hp → Prop} (d : decode cc pc = .ok (.invokestatic idx, 3)) (hM : Ct l D cs φ M [a0, a1, a2, a3, a4] h (fun rv h2 => ∃ v, rv = some (.int (bI v)) ∧ P v h2)) (w1 : Cond.methodLink own idx M.1 ∈ lw_g) (mv : MS M 5) (hR : M.2.2.2.2.frames + 1 ≤ fr ∧ 8 + (M.2.2.1 + 11) + M.2.2.2.2.locals ≤ lo) (hrm : (st.map fun v => v.category).sum ≤ 8) (kk : ∀ v h2, P v h2 → V (pc + 3) lc (.int (bI v) :: st) h2) : V pc lc (a4 :: a3 :: a2 :: a1 :: a0 :: st) h :=
  v_callS R d hM w1 mv hR rfl hrm (fun rv h2 ⟨v, e, hp⟩ => by subst e; exact kk v h2 hp)
theorem cS5_vw (R : Ru l D cs φ own cc nL fr lo V) {M : Mi} {idx : Nat} {a0 a1 a2 a3 a4 : Value} {P : Hp → Prop} (d : decode cc pc = .ok (.invokestatic idx, 3)) (hM : Ct l D cs φ M [a0, a1, a2, a3, a4] h (fun rv h2 => rv = none ∧ P h2)) (w1 : Cond.methodLink own idx M.1 ∈ lw_g) (mv : MS M 5) (hR : M.2.2.2.2.frames + 1 ≤ fr ∧ 8 + (M.2.2.1 + 11) + M.2.2.2.2.locals ≤ lo) (hrm : (st.map fun v => v.category).sum ≤ 8) (kk : ∀ h2, P h2 → V (pc + 3) lc st h2) : V pc lc (a4 :: a3 :: a2 :: a1 :: a0 :: st) h :=
  v_callS R d hM w1 mv hR rfl hrm (fun rv h2 ⟨e, hp⟩ => by subst e; exact kk h2 hp)
theorem cN5_ir (R : Ru l D cs φ own cc nL fr lo V) {M : Mi} {idx : Nat} {a0 a1 a2 a3 a4 : Value} {P : Int32 → Prop} (d : decode cc pc = .ok (.invokestatic idx, 3)) (hM : Ct l D cs φ M [a0, a1, a2, a3, a4] h (fun rv h2 => ∃ v, rv = some (.int v) ∧ h2 = h ∧ P v)) {host : String} (w1 : Cond.methodLinkNest own idx M.1 host ∈ lw_n) (mv : MS M 5) (hR : M.2.2.2.2.frames + 1 ≤ fr ∧ 8 + (M.2.2.1 + 11) + M.2.2.2.2.locals ≤ lo) (hrm : (st.map fun v => v.category).sum ≤ 8) (kk : ∀ v, P v → V (pc + 3) lc (.int v :: st) h) : V pc lc (a4 :: a3 :: a2 :: a1 :: a0 :: st) h :=
  v_callSN R d hM w1 mv hR rfl hrm (fun rv h2 ⟨v, e, e2, hp⟩ => by subst e; subst e2; exact kk v hp)
theorem cN5_iw (R : Ru l D cs φ own cc nL fr lo V) {M : Mi} {idx : Nat} {a0 a1 a2 a3 a4 : Value} {P : Int32 → Hp → Prop} (d : decode cc pc = .ok (.invokestatic idx, 3)) (hM : Ct l D cs φ M [a0, a1, a2, a3, a4] h (fun rv h2 => ∃ v, rv = some (.int v) ∧ P v h2)) {host : String} (w1 : Cond.methodLinkNest own idx M.1 host ∈ lw_n) (mv : MS M 5) (hR : M.2.2.2.2.frames + 1 ≤ fr ∧ 8 + (M.2.2.1 + 11) + M.2.2.2.2.locals ≤ lo) (hrm : (st.map fun v => v.category).sum ≤ 8) (kk : ∀ v h2, P v h2 → V (pc + 3) lc (.int v :: st) h2) : V pc lc (a4 :: a3 :: a2 :: a1 :: a0 :: st) h :=
  v_callSN R d hM w1 mv hR rfl hrm (fun rv h2 ⟨v, e, hp⟩ => by subst e; exact kk v h2 hp)
theorem cN5_br (R : Ru l D cs φ own cc nL fr lo V) {M : Mi} {idx : Nat} {a0 a1 a2 a3 a4 : Value} {P : Bool → Prop} (d : decode cc pc = .ok (.invokestatic idx, 3)) (hM : Ct l D cs φ M [a0, a1, a2, a3, a4] h (fun rv h2 => ∃ v, rv = some (.int (bI v)) ∧ h2 = h ∧ P v)) {host : String} (w1 : Cond.methodLinkNest own idx M.1 host ∈ lw_n) (mv : MS M 5) (hR : M.2.2.2.2.frames + 1 ≤ fr ∧ 8 + (M.2.2.1 + 11) + M.2.2.2.2.locals ≤ lo) (hrm : (st.map fun v => v.category).sum ≤ 8) (kk : ∀ v, P v → V (pc + 3) lc (.int (bI v) :: st) h) : V pc lc (a4 :: a3 :: a2 :: a1 :: a0 :: st) h :=
  v_callSN R d hM w1 mv hR rfl hrm (fun rv h2 ⟨v, e, e2, hp⟩ => by subst e; subst e2; exact kk v hp)
theorem cN5_bw (R : Ru l D cs φ own cc nL fr lo V) {M : Mi} {idx : Nat} {a0 a1 a2 a3 a4 : Value} {P : Bool → Hp → Prop} (d : decode cc pc = .ok (.invokestatic idx, 3)) (hM : Ct l D cs φ M [a0, a1, a2, a3, a4] h (fun rv h2 => ∃ v, rv = some (.int (bI v)) ∧ P v h2)) {host : String} (w1 : Cond.methodLinkNest own idx M.1 host ∈ lw_n) (mv : MS M 5) (hR : M.2.2.2.2.frames + 1 ≤ fr ∧ 8 + (M.2.2.1 + 11) + M.2.2.2.2.locals ≤ lo) (hrm : (st.map fun v => v.category).sum ≤ 8) (kk : ∀ v h2, P v h2 → V (pc + 3) lc (.int (bI v) :: st) h2) : V pc lc (a4 :: a3 :: a2 :: a1 :: a0 :: st) h :=
  v_callSN R d hM w1 mv hR rfl hrm (fun rv h2 ⟨v, e, hp⟩ => by subst e; exact kk v h2 hp)
theorem cN5_vw (R : Ru l D cs φ own cc nL fr lo V) {M : Mi} {idx : Nat} {a0 a1 a2 a3 a4 : Value} {P : Hp → Prop} (d : decode cc pc = .ok (.invokestatic idx, 3)) (hM : Ct l D cs φ M [a0, a1, a2, a3, a4] h (fun rv h2 => rv = none ∧ P h2)) {host : String} (w1 : Cond.methodLinkNest own idx M.1 host ∈ lw_n) (mv : MS M 5) (hR : M.2.2.2.2.frames + 1 ≤ fr ∧ 8 + (M.2.2.1 + 11) + M.2.2.2.2.locals ≤ lo) (hrm : (st.map fun v => v.category).sum ≤ 8) (kk : ∀ h2, P h2 → V (pc + 3) lc st h2) : V pc lc (a4 :: a3 :: a2 :: a1 :: a0 :: st) h :=
  v_callSN R d hM w1 mv hR rfl hrm (fun rv h2 ⟨e, hp⟩ => by subst e; exact kk h2 hp)
theorem cV6_ir (R : Ru l D cs φ own cc nL fr lo V) {M : Mi} {r idx : Nat} {a0 a1 a2 a3 a4 a5 : Value} {P : Int32 → Prop} (d : decode cc pc = .ok (.invokevirtual idx, 3)) (hM : Ct l D cs φ M (.ref (φ r) :: [a0, a1, a2, a3, a4, a5]) h (fun rv h2 => ∃ v, rv = some (.int v) ∧ h2 = h ∧ P v)) (rc : Rc r M.1.cls) (w1 : Cond.methodLink own idx M.1 ∈ lw_g) (mv : MV M 6) (hR : M.2.2.2.2.frames + 1 ≤ fr ∧ 8 + (M.2.2.1 + 11) + M.2.2.2.2.locals ≤ lo) (hrm : (st.map fun v => v.category).sum ≤ 8) (kk : ∀ v, P v → V (pc + 3) lc (.int v :: st) h) : V pc lc (a5 :: a4 :: a3 :: a2 :: a1 :: a0 :: .ref (φ r) :: st) h := by
  obtain ⟨hr, rc2⟩ := rc
  obtain ⟨ci, fs, q, he, hq, hc⟩ := rc2 cs φ h
  exact v_callV R d hM hr he hq hc w1 mv hR rfl hrm (fun rv h2 ⟨v, e, e2, hp⟩ => by subst e; subst e2; exact kk v hp)
theorem cV6_iw (R : Ru l D cs φ own cc nL fr lo V) {M : Mi} {r idx : Nat} {a0 a1 a2 a3 a4 a5 : Value} {P : Int32 → Hp → Prop} (d : decode cc pc = .ok (.invokevirtual idx, 3)) (hM : Ct l D cs φ M (.ref (φ r) :: [a0, a1, a2, a3, a4, a5]) h (fun rv h2 => ∃ v, rv = some (.int v) ∧ P v h2)) (rc : Rc r M.1.cls) (w1 : Cond.methodLink own idx M.1 ∈ lw_g) (mv : MV M 6) (hR : M.2.2.2.2.frames + 1 ≤ fr ∧ 8 + (M.2.2.1 + 11) + M.2.2.2.2.locals ≤ lo) (hrm : (st.map fun v => v.category).sum ≤ 8) (kk : ∀ v h2, P v h2 → V (pc + 3) lc (.int v :: st) h2) : V pc lc (a5 :: a4 :: a3 :: a2 :: a1 :: a0 :: .ref (φ r) :: st) h := by
  obtain ⟨hr, rc2⟩ := rc
  obtain ⟨ci, fs, q, he, hq, hc⟩ := rc2 cs φ h
  exact v_callV R d hM hr he hq hc w1 mv hR rfl hrm (fun rv h2 ⟨v, e, hp⟩ => by subst e; exact kk v h2 hp)
theorem cV6_br (R : Ru l D cs φ own cc nL fr lo V) {M : Mi} {r idx : Nat} {a0 a1 a2 a3 a4 a5 : Value} {P : Bool → Prop} (d : decode cc pc = .ok (.invokevirtual idx, 3)) (hM : Ct l D cs φ M (.ref (φ r) :: [a0, a1, a2, a3, a4, a5]) h (fun rv h2 => ∃ v, rv = some (.int (bI v)) ∧ h2 = h ∧ P v)) (rc : Rc r M.1.cls) (w1 : Cond.methodLink own idx M.1 ∈ lw_g) (mv : MV M 6) (hR : M.2.2.2.2.frames + 1 ≤ fr ∧ 8 + (M.2.2.1 + 11) + M.2.2.2.2.locals ≤ lo) (hrm : (st.map fun v => v.category).sum ≤ 8) (kk : ∀ v, P v → V (pc + 3) lc (.int (bI v) :: st) h) : V pc lc (a5 :: a4 :: a3 :: a2 :: a1 :: a0 :: .ref (φ r) :: st) h := by
  obtain ⟨hr, rc2⟩ := rc
  obtain ⟨ci, fs, q, he, hq, hc⟩ := rc2 cs φ h
  exact v_callV R d hM hr he hq hc w1 mv hR rfl hrm (fun rv h2 ⟨v, e, e2, hp⟩ => by subst e; subst e2; exact kk v hp)
theorem cV6_bw (R : Ru l D cs φ own cc nL fr lo V) {M : Mi} {r idx : Nat} {a0 a1 a2 a3 a4 a5 : Value} {P : Bool → Hp → Prop} (d : decode cc pc = .ok (.invokevirtual idx, 3)) (hM : Ct l D cs φ M (.ref (φ r) :: [a0, a1, a2, a3, a4, a5]) h (fun rv h2 => ∃ v, rv = some (.int (bI v)) ∧ P v h2)) (rc : Rc r M.1.cls) (w1 : Cond.methodLink own idx M.1 ∈ lw_g) (mv : MV M 6) (hR : M.2.2.2.2.frames + 1 ≤ fr ∧ 8 + (M.2.2.1 + 11) + M.2.2.2.2.locals ≤ lo) (hrm : (st.map fun v => v.category).sum ≤ 8) (kk : ∀ v h2, P v h2 → V (pc + 3) lc (.int (bI v) :: st) h2) : V pc lc (a5 :: a4 :: a3 :: a2 :: a1 :: a0 :: .ref (φ r) :: st) h := by
  obtain ⟨hr, rc2⟩ := rc
  obtain ⟨ci, fs, q, he, hq, hc⟩ := rc2 cs φ h
  exact v_callV R d hM hr he hq hc w1 mv hR rfl hrm (fun rv h2 ⟨v, e, hp⟩ => by subst e; exact kk v h2 hp)
theorem cV6_vw (R : Ru l D cs φ own cc nL fr lo V) {M : Mi} {r idx : Nat} {a0 a1 a2 a3 a4 a5 : Value} {P : Hp → Prop} (d : decode cc pc = .ok (.invokevirtual idx, 3)) (hM : Ct l D cs φ M (.ref (φ r) :: [a0, a1, a2, a3, a4, a5]) h (fun rv h2 => rv = none ∧ P h2)) (rc : Rc r M.1.cls) (w1 : Cond.methodLink own idx M.1 ∈ lw_g) (mv : MV M 6) (hR : M.2.2.2.2.frames + 1 ≤ fr ∧ 8 + (M.2.2.1 + 11) + M.2.2.2.2.locals ≤ lo) (hrm : (st.map fun v => v.category).sum ≤ 8) (kk : ∀ h2, P h2 → V (pc + 3) lc st h2) : V pc lc (a5 :: a4 :: a3 :: a2 :: a1 :: a0 :: .ref (φ r) :: st) h := by
  obtain ⟨hr, rc2⟩ := rc
  obtain ⟨ci, fs, q, he, hq, hc⟩ := rc2 cs φ h
  exact v_callV R d hM hr he hq hc w1 mv hR rfl hrm (fun rv h2 ⟨e, hp⟩ => by subst e; exact kk h2 hp)
theorem cS6_ir (R : Ru l D cs φ own cc nL fr lo V) {M : Mi} {idx : Nat} {a0 a1 a2 a3 a4 a5 : Value} {P : Int32 → Prop} (d : decode cc pc = .ok (.invokestatic idx, 3)) (hM : Ct l D cs φ M [a0, a1, a2, a3, a4, a5] h (fun rv h2 => ∃ v, rv = some (.int v) ∧ h2 = h ∧ P v)) (w1 : Cond.methodLink own idx M.1 ∈ lw_g) (mv : MS M 6) (hR : M.2.2.2.2.frames + 1 ≤ fr ∧ 8 + (M.2.2.1 + 11) + M.2.2.2.2.locals ≤ lo) (hrm : (st.map fun v => v.category).sum ≤ 8) (kk : ∀ v, P v → V (pc + 3) lc (.int v :: st) h) : V pc lc (a5 :: a4 :: a3 :: a2 :: a1 :: a0 :: st) h :=
  v_callS R d hM w1 mv hR rfl hrm (fun rv h2 ⟨v, e, e2, hp⟩ => by subst e; subst e2; exact kk v hp)
theorem cS6_iw (R : Ru l D cs φ own cc nL fr lo V) {M : Mi} {idx : Nat} {a0 a1 a2 a3 a4 a5 : Value} {P : Int32 → Hp → Prop} (d : decode cc pc = .ok (.invokestatic idx, 3)) (hM : Ct l D cs φ M [a0, a1, a2, a3, a4, a5] h (fun rv h2 => ∃ v, rv = some (.int v) ∧ P v h2)) (w1 : Cond.methodLink own idx M.1 ∈ lw_g) (mv : MS M 6) (hR : M.2.2.2.2.frames + 1 ≤ fr ∧ 8 + (M.2.2.1 + 11) + M.2.2.2.2.locals ≤ lo) (hrm : (st.map fun v => v.category).sum ≤ 8) (kk : ∀ v h2, P v h2 → V (pc + 3) lc (.int v :: st) h2) : V pc lc (a5 :: a4 :: a3 :: a2 :: a1 :: a0 :: st) h :=
  v_callS R d hM w1 mv hR rfl hrm (fun rv h2 ⟨v, e, hp⟩ => by subst e; exact kk v h2 hp)
theorem cS6_br (R : Ru l D cs φ own cc nL fr lo V) {M : Mi} {idx : Nat} {a0 a1 a2 a3 a4 a5 : Value} {P : Bool → Prop} (d : decode cc pc = .ok (.invokestatic idx, 3)) (hM : Ct l D cs φ M [a0, a1, a2, a3, a4, a5] h (fun rv h2 => ∃ v, rv = some (.int (bI v)) ∧ h2 = h ∧ P v)) (w1 : Cond.methodLink own idx M.1 ∈ lw_g) (mv : MS M 6) (hR : M.2.2.2.2.frames + 1 ≤ fr ∧ 8 + (M.2.2.1 + 11) + M.2.2.2.2.locals ≤ lo) (hrm : (st.map fun v => v.category).sum ≤ 8) (kk : ∀ v, P v → V (pc + 3) lc (.int (bI v) :: st) h) : V pc lc (a5 :: a4 :: a3 :: a2 :: a1 :: a0 :: st) h :=
  v_callS R d hM w1 mv hR rfl hrm (fun rv h2 ⟨v, e, e2, hp⟩ => by subst e; subst e2; exact kk v hp)
theorem cS6_bw (R : Ru l D cs φ own cc nL fr lo V) {M : Mi} {idx : Nat} {a0 a1 a2 a3 a4 a5 : Value} {P : Bool → Hp → Prop} (d : decode cc pc = .ok (.invokestatic idx, 3)) (hM : Ct l D cs φ M [a0, a1, a2, a3, a4, a5] h (fun rv h2 => ∃ v, rv = some (.int (bI v)) ∧ P v h2)) (w1 : Cond.methodLink own idx M.1 ∈ lw_g) (mv : MS M 6) (hR : M.2.2.2.2.frames + 1 ≤ fr ∧ 8 + (M.2.2.1 + 11) + M.2.2.2.2.locals ≤ lo) (hrm : (st.map fun v => v.category).sum ≤ 8) (kk : ∀ v h2, P v h2 → V (pc + 3) lc (.int (bI v) :: st) h2) : V pc lc (a5 :: a4 :: a3 :: a2 :: a1 :: a0 :: st) h :=
  v_callS R d hM w1 mv hR rfl hrm (fun rv h2 ⟨v, e, hp⟩ => by subst e; exact kk v h2 hp)
theorem cS6_vw (R : Ru l D cs φ own cc nL fr lo V) {M : Mi} {idx : Nat} {a0 a1 a2 a3 a4 a5 : Value} {P : Hp → Prop} (d : decode cc pc = .ok (.invokestatic idx, 3)) (hM : Ct l D cs φ M [a0, a1, a2, a3, a4, a5] h (fun rv h2 => rv = none ∧ P h2)) (w1 : Cond.methodLink own idx M.1 ∈ lw_g) (mv : MS M 6) (hR : M.2.2.2.2.frames + 1 ≤ fr ∧ 8 + (M.2.2.1 + 11) + M.2.2.2.2.locals ≤ lo) (hrm : (st.map fun v => v.category).sum ≤ 8) (kk : ∀ h2, P h2 → V (pc + 3) lc st h2) : V pc lc (a5 :: a4 :: a3 :: a2 :: a1 :: a0 :: st) h :=
  v_callS R d hM w1 mv hR rfl hrm (fun rv h2 ⟨e, hp⟩ => by subst e; exact kk h2 hp)
theorem cN6_ir (R : Ru l D cs φ own cc nL fr lo V) {M : Mi} {idx : Nat} {a0 a1 a2 a3 a4 a5 : Value} {P : Int32 → Prop} (d : decode cc pc = .ok (.invokestatic idx, 3)) (hM : Ct l D cs φ M [a0, a1, a2, a3, a4, a5] h (fun rv h2 => ∃ v, rv = some (.int v) ∧ h2 = h ∧ P v)) {host : String} (w1 : Cond.methodLinkNest own idx M.1 host ∈ lw_n) (mv : MS M 6) (hR : M.2.2.2.2.frames + 1 ≤ fr ∧ 8 + (M.2.2.1 + 11) + M.2.2.2.2.locals ≤ lo) (hrm : (st.map fun v => v.category).sum ≤ 8) (kk : ∀ v, P v → V (pc + 3) lc (.int v :: st) h) : V pc lc (a5 :: a4 :: a3 :: a2 :: a1 :: a0 :: st) h :=
  v_callSN R d hM w1 mv hR rfl hrm (fun rv h2 ⟨v, e, e2, hp⟩ => by subst e; subst e2; exact kk v hp)
theorem cN6_iw (R : Ru l D cs φ own cc nL fr lo V) {M : Mi} {idx : Nat} {a0 a1 a2 a3 a4 a5 : Value} {P : Int32 → Hp → Prop} (d : decode cc pc = .ok (.invokestatic idx, 3)) (hM : Ct l D cs φ M [a0, a1, a2, a3, a4, a5] h (fun rv h2 => ∃ v, rv = some (.int v) ∧ P v h2)) {host : String} (w1 : Cond.methodLinkNest own idx M.1 host ∈ lw_n) (mv : MS M 6) (hR : M.2.2.2.2.frames + 1 ≤ fr ∧ 8 + (M.2.2.1 + 11) + M.2.2.2.2.locals ≤ lo) (hrm : (st.map fun v => v.category).sum ≤ 8) (kk : ∀ v h2, P v h2 → V (pc + 3) lc (.int v :: st) h2) : V pc lc (a5 :: a4 :: a3 :: a2 :: a1 :: a0 :: st) h :=
  v_callSN R d hM w1 mv hR rfl hrm (fun rv h2 ⟨v, e, hp⟩ => by subst e; exact kk v h2 hp)
theorem cN6_br (R : Ru l D cs φ own cc nL fr lo V) {M : Mi} {idx : Nat} {a0 a1 a2 a3 a4 a5 : Value} {P : Bool → Prop} (d : decode cc pc = .ok (.invokestatic idx, 3)) (hM : Ct l D cs φ M [a0, a1, a2, a3, a4, a5] h (fun rv h2 => ∃ v, rv = some (.int (bI v)) ∧ h2 = h ∧ P v)) {host : String} (w1 : Cond.methodLinkNest own idx M.1 host ∈ lw_n) (mv : MS M 6) (hR : M.2.2.2.2.frames + 1 ≤ fr ∧ 8 + (M.2.2.1 + 11) + M.2.2.2.2.locals ≤ lo) (hrm : (st.map fun v => v.category).sum ≤ 8) (kk : ∀ v, P v → V (pc + 3) lc (.int (bI v) :: st) h) : V pc lc (a5 :: a4 :: a3 :: a2 :: a1 :: a0 :: st) h :=
  v_callSN R d hM w1 mv hR rfl hrm (fun rv h2 ⟨v, e, e2, hp⟩ => by subst e; subst e2; exact kk v hp)
theorem cN6_bw (R : Ru l D cs φ own cc nL fr lo V) {M : Mi} {idx : Nat} {a0 a1 a2 a3 a4 a5 : Value} {P : Bool → Hp → Prop} (d : decode cc pc = .ok (.invokestatic idx, 3)) (hM : Ct l D cs φ M [a0, a1, a2, a3, a4, a5] h (fun rv h2 => ∃ v, rv = some (.int (bI v)) ∧ P v h2)) {host : String} (w1 : Cond.methodLinkNest own idx M.1 host ∈ lw_n) (mv : MS M 6) (hR : M.2.2.2.2.frames + 1 ≤ fr ∧ 8 + (M.2.2.1 + 11) + M.2.2.2.2.locals ≤ lo) (hrm : (st.map fun v => v.category).sum ≤ 8) (kk : ∀ v h2, P v h2 → V (pc + 3) lc (.int (bI v) :: st) h2) : V pc lc (a5 :: a4 :: a3 :: a2 :: a1 :: a0 :: st) h :=
  v_callSN R d hM w1 mv hR rfl hrm (fun rv h2 ⟨v, e, hp⟩ => by subst e; exact kk v h2 hp)
theorem cN6_vw (R : Ru l D cs φ own cc nL fr lo V) {M : Mi} {idx : Nat} {a0 a1 a2 a3 a4 a5 : Value} {P : Hp → Prop} (d : decode cc pc = .ok (.invokestatic idx, 3)) (hM : Ct l D cs φ M [a0, a1, a2, a3, a4, a5] h (fun rv h2 => rv = none ∧ P h2)) {host : String} (w1 : Cond.methodLinkNest own idx M.1 host ∈ lw_n) (mv : MS M 6) (hR : M.2.2.2.2.frames + 1 ≤ fr ∧ 8 + (M.2.2.1 + 11) + M.2.2.2.2.locals ≤ lo) (hrm : (st.map fun v => v.category).sum ≤ 8) (kk : ∀ h2, P h2 → V (pc + 3) lc st h2) : V pc lc (a5 :: a4 :: a3 :: a2 :: a1 :: a0 :: st) h :=
  v_callSN R d hM w1 mv hR rfl hrm (fun rv h2 ⟨e, hp⟩ => by subst e; exact kk h2 hp)
theorem cV7_ir (R : Ru l D cs φ own cc nL fr lo V) {M : Mi} {r idx : Nat} {a0 a1 a2 a3 a4 a5 a6 : Value} {P : Int32 → Prop} (d : decode cc pc = .ok (.invokevirtual idx, 3)) (hM : Ct l D cs φ M (.ref (φ r) :: [a0, a1, a2, a3, a4, a5, a6]) h (fun rv h2 => ∃ v, rv = some (.int v) ∧ h2 = h ∧ P v)) (rc : Rc r M.1.cls) (w1 : Cond.methodLink own idx M.1 ∈ lw_g) (mv : MV M 7) (hR : M.2.2.2.2.frames + 1 ≤ fr ∧ 8 + (M.2.2.1 + 11) + M.2.2.2.2.locals ≤ lo) (hrm : (st.map fun v => v.category).sum ≤ 8) (kk : ∀ v, P v → V (pc + 3) lc (.int v :: st) h) : V pc lc (a6 :: a5 :: a4 :: a3 :: a2 :: a1 :: a0 :: .ref (φ r) :: st) h := by
  obtain ⟨hr, rc2⟩ := rc
  obtain ⟨ci, fs, q, he, hq, hc⟩ := rc2 cs φ h
  exact v_callV R d hM hr he hq hc w1 mv hR rfl hrm (fun rv h2 ⟨v, e, e2, hp⟩ => by subst e; subst e2; exact kk v hp)
theorem cV7_iw (R : Ru l D cs φ own cc nL fr lo V) {M : Mi} {r idx : Nat} {a0 a1 a2 a3 a4 a5 a6 : Value} {P : Int32 → Hp → Prop} (d : decode cc pc = .ok (.invokevirtual idx, 3)) (hM : Ct l D cs φ M (.ref (φ r) :: [a0, a1, a2, a3, a4, a5, a6]) h (fun rv h2 => ∃ v, rv = some (.int v) ∧ P v h2)) (rc : Rc r M.1.cls) (w1 : Cond.methodLink own idx M.1 ∈ lw_g) (mv : MV M 7) (hR : M.2.2.2.2.frames + 1 ≤ fr ∧ 8 + (M.2.2.1 + 11) + M.2.2.2.2.locals ≤ lo) (hrm : (st.map fun v => v.category).sum ≤ 8) (kk : ∀ v h2, P v h2 → V (pc + 3) lc (.int v :: st) h2) : V pc lc (a6 :: a5 :: a4 :: a3 :: a2 :: a1 :: a0 :: .ref (φ r) :: st) h := by
  obtain ⟨hr, rc2⟩ := rc
  obtain ⟨ci, fs, q, he, hq, hc⟩ := rc2 cs φ h
  exact v_callV R d hM hr he hq hc w1 mv hR rfl hrm (fun rv h2 ⟨v, e, hp⟩ => by subst e; exact kk v h2 hp)
theorem cV7_br (R : Ru l D cs φ own cc nL fr lo V) {M : Mi} {r idx : Nat} {a0 a1 a2 a3 a4 a5 a6 : Value} {P : Bool → Prop} (d : decode cc pc = .ok (.invokevirtual idx, 3)) (hM : Ct l D cs φ M (.ref (φ r) :: [a0, a1, a2, a3, a4, a5, a6]) h (fun rv h2 => ∃ v, rv = some (.int (bI v)) ∧ h2 = h ∧ P v)) (rc : Rc r M.1.cls) (w1 : Cond.methodLink own idx M.1 ∈ lw_g) (mv : MV M 7) (hR : M.2.2.2.2.frames + 1 ≤ fr ∧ 8 + (M.2.2.1 + 11) + M.2.2.2.2.locals ≤ lo) (hrm : (st.map fun v => v.category).sum ≤ 8) (kk : ∀ v, P v → V (pc + 3) lc (.int (bI v) :: st) h) : V pc lc (a6 :: a5 :: a4 :: a3 :: a2 :: a1 :: a0 :: .ref (φ r) :: st) h := by
  obtain ⟨hr, rc2⟩ := rc
  obtain ⟨ci, fs, q, he, hq, hc⟩ := rc2 cs φ h
  exact v_callV R d hM hr he hq hc w1 mv hR rfl hrm (fun rv h2 ⟨v, e, e2, hp⟩ => by subst e; subst e2; exact kk v hp)
theorem cV7_bw (R : Ru l D cs φ own cc nL fr lo V) {M : Mi} {r idx : Nat} {a0 a1 a2 a3 a4 a5 a6 : Value} {P : Bool → Hp → Prop} (d : decode cc pc = .ok (.invokevirtual idx, 3)) (hM : Ct l D cs φ M (.ref (φ r) :: [a0, a1, a2, a3, a4, a5, a6]) h (fun rv h2 => ∃ v, rv = some (.int (bI v)) ∧ P v h2)) (rc : Rc r M.1.cls) (w1 : Cond.methodLink own idx M.1 ∈ lw_g) (mv : MV M 7) (hR : M.2.2.2.2.frames + 1 ≤ fr ∧ 8 + (M.2.2.1 + 11) + M.2.2.2.2.locals ≤ lo) (hrm : (st.map fun v => v.category).sum ≤ 8) (kk : ∀ v h2, P v h2 → V (pc + 3) lc (.int (bI v) :: st) h2) : V pc lc (a6 :: a5 :: a4 :: a3 :: a2 :: a1 :: a0 :: .ref (φ r) :: st) h := by
  obtain ⟨hr, rc2⟩ := rc
  obtain ⟨ci, fs, q, he, hq, hc⟩ := rc2 cs φ h
  exact v_callV R d hM hr he hq hc w1 mv hR rfl hrm (fun rv h2 ⟨v, e, hp⟩ => by subst e; exact kk v h2 hp)
theorem cV7_vw (R : Ru l D cs φ own cc nL fr lo V) {M : Mi} {r idx : Nat} {a0 a1 a2 a3 a4 a5 a6 : Value} {P : Hp → Prop} (d : decode cc pc = .ok (.invokevirtual idx, 3)) (hM : Ct l D cs φ M (.ref (φ r) :: [a0, a1, a2, a3, a4, a5, a6]) h (fun rv h2 => rv = none ∧ P h2)) (rc : Rc r M.1.cls) (w1 : Cond.methodLink own idx M.1 ∈ lw_g) (mv : MV M 7) (hR : M.2.2.2.2.frames + 1 ≤ fr ∧ 8 + (M.2.2.1 + 11) + M.2.2.2.2.locals ≤ lo) (hrm : (st.map fun v => v.category).sum ≤ 8) (kk : ∀ h2, P h2 → V (pc + 3) lc st h2) : V pc lc (a6 :: a5 :: a4 :: a3 :: a2 :: a1 :: a0 :: .ref (φ r) :: st) h := by
  obtain ⟨hr, rc2⟩ := rc
  obtain ⟨ci, fs, q, he, hq, hc⟩ := rc2 cs φ h
  exact v_callV R d hM hr he hq hc w1 mv hR rfl hrm (fun rv h2 ⟨e, hp⟩ => by subst e; exact kk h2 hp)
theorem cS7_ir (R : Ru l D cs φ own cc nL fr lo V) {M : Mi} {idx : Nat} {a0 a1 a2 a3 a4 a5 a6 : Value} {P : Int32 → Prop} (d : decode cc pc = .ok (.invokestatic idx, 3)) (hM : Ct l D cs φ M [a0, a1, a2, a3, a4, a5, a6] h (fun rv h2 => ∃ v, rv = some (.int v) ∧ h2 = h ∧ P v)) (w1 : Cond.methodLink own idx M.1 ∈ lw_g) (mv : MS M 7) (hR : M.2.2.2.2.frames + 1 ≤ fr ∧ 8 + (M.2.2.1 + 11) + M.2.2.2.2.locals ≤ lo) (hrm : (st.map fun v => v.category).sum ≤ 8) (kk : ∀ v, P v → V (pc + 3) lc (.int v :: st) h) : V pc lc (a6 :: a5 :: a4 :: a3 :: a2 :: a1 :: a0 :: st) h :=
  v_callS R d hM w1 mv hR rfl hrm (fun rv h2 ⟨v, e, e2, hp⟩ => by subst e; subst e2; exact kk v hp)
theorem cS7_iw (R : Ru l D cs φ own cc nL fr lo V) {M : Mi} {idx : Nat} {a0 a1 a2 a3 a4 a5 a6 : Value} {P : Int32 → Hp → Prop} (d : decode cc pc = .ok (.invokestatic idx, 3)) (hM : Ct l D cs φ M [a0, a1, a2, a3, a4, a5, a6] h (fun rv h2 => ∃ v, rv = some (.int v) ∧ P v h2)) (w1 : Cond.methodLink own idx M.1 ∈ lw_g) (mv : MS M 7) (hR : M.2.2.2.2.frames + 1 ≤ fr ∧ 8 + (M.2.2.1 + 11) + M.2.2.2.2.locals ≤ lo) (hrm : (st.map fun v => v.category).sum ≤ 8) (kk : ∀ v h2, P v h2 → V (pc + 3) lc (.int v :: st) h2) : V pc lc (a6 :: a5 :: a4 :: a3 :: a2 :: a1 :: a0 :: st) h :=
  v_callS R d hM w1 mv hR rfl hrm (fun rv h2 ⟨v, e, hp⟩ => by subst e; exact kk v h2 hp)
theorem cS7_br (R : Ru l D cs φ own cc nL fr lo V) {M : Mi} {idx : Nat} {a0 a1 a2 a3 a4 a5 a6 : Value} {P : Bool → Prop} (d : decode cc pc = .ok (.invokestatic idx, 3)) (hM : Ct l D cs φ M [a0, a1, a2, a3, a4, a5, a6] h (fun rv h2 => ∃ v, rv = some (.int (bI v)) ∧ h2 = h ∧ P v)) (w1 : Cond.methodLink own idx M.1 ∈ lw_g) (mv : MS M 7) (hR : M.2.2.2.2.frames + 1 ≤ fr ∧ 8 + (M.2.2.1 + 11) + M.2.2.2.2.locals ≤ lo) (hrm : (st.map fun v => v.category).sum ≤ 8) (kk : ∀ v, P v → V (pc + 3) lc (.int (bI v) :: st) h) : V pc lc (a6 :: a5 :: a4 :: a3 :: a2 :: a1 :: a0 :: st) h :=
  v_callS R d hM w1 mv hR rfl hrm (fun rv h2 ⟨v, e, e2, hp⟩ => by subst e; subst e2; exact kk v hp)
theorem cS7_bw (R : Ru l D cs φ own cc nL fr lo V) {M : Mi} {idx : Nat} {a0 a1 a2 a3 a4 a5 a6 : Value} {P : Bool → Hp → Prop} (d : decode cc pc = .ok (.invokestatic idx, 3)) (hM : Ct l D cs φ M [a0, a1, a2, a3, a4, a5, a6] h (fun rv h2 => ∃ v, rv = some (.int (bI v)) ∧ P v h2)) (w1 : Cond.methodLink own idx M.1 ∈ lw_g) (mv : MS M 7) (hR : M.2.2.2.2.frames + 1 ≤ fr ∧ 8 + (M.2.2.1 + 11) + M.2.2.2.2.locals ≤ lo) (hrm : (st.map fun v => v.category).sum ≤ 8) (kk : ∀ v h2, P v h2 → V (pc + 3) lc (.int (bI v) :: st) h2) : V pc lc (a6 :: a5 :: a4 :: a3 :: a2 :: a1 :: a0 :: st) h :=
  v_callS R d hM w1 mv hR rfl hrm (fun rv h2 ⟨v, e, hp⟩ => by subst e; exact kk v h2 hp)
theorem cS7_vw (R : Ru l D cs φ own cc nL fr lo V) {M : Mi} {idx : Nat} {a0 a1 a2 a3 a4 a5 a6 : Value} {P : Hp → Prop} (d : decode cc pc = .ok (.invokestatic idx, 3)) (hM : Ct l D cs φ M [a0, a1, a2, a3, a4, a5, a6] h (fun rv h2 => rv = none ∧ P h2)) (w1 : Cond.methodLink own idx M.1 ∈ lw_g) (mv : MS M 7) (hR : M.2.2.2.2.frames + 1 ≤ fr ∧ 8 + (M.2.2.1 + 11) + M.2.2.2.2.locals ≤ lo) (hrm : (st.map fun v => v.category).sum ≤ 8) (kk : ∀ h2, P h2 → V (pc + 3) lc st h2) : V pc lc (a6 :: a5 :: a4 :: a3 :: a2 :: a1 :: a0 :: st) h :=
  v_callS R d hM w1 mv hR rfl hrm (fun rv h2 ⟨e, hp⟩ => by subst e; exact kk h2 hp)
theorem cN7_ir (R : Ru l D cs φ own cc nL fr lo V) {M : Mi} {idx : Nat} {a0 a1 a2 a3 a4 a5 a6 : Value} {P : Int32 → Prop} (d : decode cc pc = .ok (.invokestatic idx, 3)) (hM : Ct l D cs φ M [a0, a1, a2, a3, a4, a5, a6] h (fun rv h2 => ∃ v, rv = some (.int v) ∧ h2 = h ∧ P v)) {host : String} (w1 : Cond.methodLinkNest own idx M.1 host ∈ lw_n) (mv : MS M 7) (hR : M.2.2.2.2.frames + 1 ≤ fr ∧ 8 + (M.2.2.1 + 11) + M.2.2.2.2.locals ≤ lo) (hrm : (st.map fun v => v.category).sum ≤ 8) (kk : ∀ v, P v → V (pc + 3) lc (.int v :: st) h) : V pc lc (a6 :: a5 :: a4 :: a3 :: a2 :: a1 :: a0 :: st) h :=
  v_callSN R d hM w1 mv hR rfl hrm (fun rv h2 ⟨v, e, e2, hp⟩ => by subst e; subst e2; exact kk v hp)
theorem cN7_iw (R : Ru l D cs φ own cc nL fr lo V) {M : Mi} {idx : Nat} {a0 a1 a2 a3 a4 a5 a6 : Value} {P : Int32 → Hp → Prop} (d : decode cc pc = .ok (.invokestatic idx, 3)) (hM : Ct l D cs φ M [a0, a1, a2, a3, a4, a5, a6] h (fun rv h2 => ∃ v, rv = some (.int v) ∧ P v h2)) {host : String} (w1 : Cond.methodLinkNest own idx M.1 host ∈ lw_n) (mv : MS M 7) (hR : M.2.2.2.2.frames + 1 ≤ fr ∧ 8 + (M.2.2.1 + 11) + M.2.2.2.2.locals ≤ lo) (hrm : (st.map fun v => v.category).sum ≤ 8) (kk : ∀ v h2, P v h2 → V (pc + 3) lc (.int v :: st) h2) : V pc lc (a6 :: a5 :: a4 :: a3 :: a2 :: a1 :: a0 :: st) h :=
  v_callSN R d hM w1 mv hR rfl hrm (fun rv h2 ⟨v, e, hp⟩ => by subst e; exact kk v h2 hp)
theorem cN7_br (R : Ru l D cs φ own cc nL fr lo V) {M : Mi} {idx : Nat} {a0 a1 a2 a3 a4 a5 a6 : Value} {P : Bool → Prop} (d : decode cc pc = .ok (.invokestatic idx, 3)) (hM : Ct l D cs φ M [a0, a1, a2, a3, a4, a5, a6] h (fun rv h2 => ∃ v, rv = some (.int (bI v)) ∧ h2 = h ∧ P v)) {host : String} (w1 : Cond.methodLinkNest own idx M.1 host ∈ lw_n) (mv : MS M 7) (hR : M.2.2.2.2.frames + 1 ≤ fr ∧ 8 + (M.2.2.1 + 11) + M.2.2.2.2.locals ≤ lo) (hrm : (st.map fun v => v.category).sum ≤ 8) (kk : ∀ v, P v → V (pc + 3) lc (.int (bI v) :: st) h) : V pc lc (a6 :: a5 :: a4 :: a3 :: a2 :: a1 :: a0 :: st) h :=
  v_callSN R d hM w1 mv hR rfl hrm (fun rv h2 ⟨v, e, e2, hp⟩ => by subst e; subst e2; exact kk v hp)
theorem cN7_bw (R : Ru l D cs φ own cc nL fr lo V) {M : Mi} {idx : Nat} {a0 a1 a2 a3 a4 a5 a6 : Value} {P : Bool → Hp → Prop} (d : decode cc pc = .ok (.invokestatic idx, 3)) (hM : Ct l D cs φ M [a0, a1, a2, a3, a4, a5, a6] h (fun rv h2 => ∃ v, rv = some (.int (bI v)) ∧ P v h2)) {host : String} (w1 : Cond.methodLinkNest own idx M.1 host ∈ lw_n) (mv : MS M 7) (hR : M.2.2.2.2.frames + 1 ≤ fr ∧ 8 + (M.2.2.1 + 11) + M.2.2.2.2.locals ≤ lo) (hrm : (st.map fun v => v.category).sum ≤ 8) (kk : ∀ v h2, P v h2 → V (pc + 3) lc (.int (bI v) :: st) h2) : V pc lc (a6 :: a5 :: a4 :: a3 :: a2 :: a1 :: a0 :: st) h :=
  v_callSN R d hM w1 mv hR rfl hrm (fun rv h2 ⟨v, e, hp⟩ => by subst e; exact kk v h2 hp)
theorem cN7_vw (R : Ru l D cs φ own cc nL fr lo V) {M : Mi} {idx : Nat} {a0 a1 a2 a3 a4 a5 a6 : Value} {P : Hp → Prop} (d : decode cc pc = .ok (.invokestatic idx, 3)) (hM : Ct l D cs φ M [a0, a1, a2, a3, a4, a5, a6] h (fun rv h2 => rv = none ∧ P h2)) {host : String} (w1 : Cond.methodLinkNest own idx M.1 host ∈ lw_n) (mv : MS M 7) (hR : M.2.2.2.2.frames + 1 ≤ fr ∧ 8 + (M.2.2.1 + 11) + M.2.2.2.2.locals ≤ lo) (hrm : (st.map fun v => v.category).sum ≤ 8) (kk : ∀ h2, P h2 → V (pc + 3) lc st h2) : V pc lc (a6 :: a5 :: a4 :: a3 :: a2 :: a1 :: a0 :: st) h :=
  v_callSN R d hM w1 mv hR rfl hrm (fun rv h2 ⟨e, hp⟩ => by subst e; exact kk h2 hp)
end
end
