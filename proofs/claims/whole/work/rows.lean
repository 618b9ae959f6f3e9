section
-- ===== PART A: goes FIRST, ahead of the names: the tables' words, and 'selects' of the private methods out of them =====
/-- a private method of a class that the tables say can be made, by its rows of tables_1 -/
def lw_okq (q : MethodName × Nat) : Prop := (q.1.cls ≠ "java/lang/invoke/MethodHandle" ∧ q.1.cls ≠ "java/lang/invoke/VarHandle") ∧ Cond.instantiable q.1.cls q.2 ∈ tables_1 ∧ Cond.privateMethod q.1 ∈ tables_1 ∧ Cond.instanceMethod q.1 ∈ tables_1
theorem lw_p0 : lw_okq (⟨"ProcessHeaps", "livingProcess", "(I)LProcessHeaps$HeapProcess;"⟩, 7) := ⟨⟨by decide +kernel, by decide +kernel⟩, List.mem_of_getElem? (i := 19) (by decide +kernel), List.mem_of_getElem? (i := 179) (by decide +kernel), List.mem_of_getElem? (i := 180) (by decide +kernel)⟩
theorem lw_p1 : lw_okq (⟨"ProcessHeaps", "isMade", "(I)Z"⟩, 7) := ⟨⟨by decide +kernel, by decide +kernel⟩, List.mem_of_getElem? (i := 19) (by decide +kernel), List.mem_of_getElem? (i := 183) (by decide +kernel), List.mem_of_getElem? (i := 184) (by decide +kernel)⟩
theorem lw_p2 : lw_okq (⟨"ProcessHeaps", "canPay", "(II)Z"⟩, 7) := ⟨⟨by decide +kernel, by decide +kernel⟩, List.mem_of_getElem? (i := 19) (by decide +kernel), List.mem_of_getElem? (i := 191) (by decide +kernel), List.mem_of_getElem? (i := 192) (by decide +kernel)⟩
theorem lw_p3 : lw_okq (⟨"ProcessHeaps$Limits", "reckonPayments", "([LProcessHeaps$HeapProcess;LProcessHeaps$Memory;)V"⟩, 3) := ⟨⟨by decide +kernel, by decide +kernel⟩, List.mem_of_getElem? (i := 83) (by decide +kernel), List.mem_of_getElem? (i := 199) (by decide +kernel), List.mem_of_getElem? (i := 200) (by decide +kernel)⟩
theorem lw_p4 : lw_okq (⟨"ProcessHeaps$Limits", "addChildren", "([LProcessHeaps$HeapProcess;)V"⟩, 3) := ⟨⟨by decide +kernel, by decide +kernel⟩, List.mem_of_getElem? (i := 83) (by decide +kernel), List.mem_of_getElem? (i := 231) (by decide +kernel), List.mem_of_getElem? (i := 232) (by decide +kernel)⟩
theorem lw_p5 : lw_okq (⟨"ProcessHeaps$Limits", "reckonSpare", "([LProcessHeaps$HeapProcess;)V"⟩, 3) := ⟨⟨by decide +kernel, by decide +kernel⟩, List.mem_of_getElem? (i := 83) (by decide +kernel), List.mem_of_getElem? (i := 235) (by decide +kernel), List.mem_of_getElem? (i := 236) (by decide +kernel)⟩
theorem lw_p6 : lw_okq (⟨"ProcessHeaps", "die", "(LProcessHeaps$HeapProcess;)V"⟩, 7) := ⟨⟨by decide +kernel, by decide +kernel⟩, List.mem_of_getElem? (i := 19) (by decide +kernel), List.mem_of_getElem? (i := 248) (by decide +kernel), List.mem_of_getElem? (i := 249) (by decide +kernel)⟩
theorem lw_p7 : lw_okq (⟨"ProcessHeaps", "dropUnusedCharges", "(LProcessHeaps$HeapProcess;)V"⟩, 7) := ⟨⟨by decide +kernel, by decide +kernel⟩, List.mem_of_getElem? (i := 19) (by decide +kernel), List.mem_of_getElem? (i := 252) (by decide +kernel), List.mem_of_getElem? (i := 253) (by decide +kernel)⟩
theorem lw_p8 : lw_okq (⟨"java/util/ArrayList", "fastRemove", "([Ljava/lang/Object;I)V"⟩, 3) := ⟨⟨by decide +kernel, by decide +kernel⟩, List.mem_of_getElem? (i := 33) (by decide +kernel), List.mem_of_getElem? (i := 286) (by decide +kernel), List.mem_of_getElem? (i := 287) (by decide +kernel)⟩
theorem lw_p9 : lw_okq (⟨"java/util/ArrayList", "add", "(Ljava/lang/Object;[Ljava/lang/Object;I)V"⟩, 3) := ⟨⟨by decide +kernel, by decide +kernel⟩, List.mem_of_getElem? (i := 33) (by decide +kernel), List.mem_of_getElem? (i := 297) (by decide +kernel), List.mem_of_getElem? (i := 298) (by decide +kernel)⟩
theorem lw_p10 : lw_okq (⟨"java/util/ArrayList", "grow", "()[Ljava/lang/Object;"⟩, 3) := ⟨⟨by decide +kernel, by decide +kernel⟩, List.mem_of_getElem? (i := 33) (by decide +kernel), List.mem_of_getElem? (i := 301) (by decide +kernel), List.mem_of_getElem? (i := 302) (by decide +kernel)⟩
theorem lw_p11 : lw_okq (⟨"java/util/ArrayList", "grow", "(I)[Ljava/lang/Object;"⟩, 3) := ⟨⟨by decide +kernel, by decide +kernel⟩, List.mem_of_getElem? (i := 33) (by decide +kernel), List.mem_of_getElem? (i := 305) (by decide +kernel), List.mem_of_getElem? (i := 306) (by decide +kernel)⟩
theorem lw_p12 : lw_okq (⟨"ProcessHeaps", "dropGoneHeaps", "()V"⟩, 7) := ⟨⟨by decide +kernel, by decide +kernel⟩, List.mem_of_getElem? (i := 19) (by decide +kernel), List.mem_of_getElem? (i := 355) (by decide +kernel), List.mem_of_getElem? (i := 356) (by decide +kernel)⟩
theorem lw_p13 : lw_okq (⟨"ProcessHeaps", "isFrozen", "(I)Z"⟩, 7) := ⟨⟨by decide +kernel, by decide +kernel⟩, List.mem_of_getElem? (i := 19) (by decide +kernel), List.mem_of_getElem? (i := 359) (by decide +kernel), List.mem_of_getElem? (i := 360) (by decide +kernel)⟩
theorem lw_p14 : lw_okq (⟨"ProcessHeaps", "isSharedByLiving", "(I)Z"⟩, 7) := ⟨⟨by decide +kernel, by decide +kernel⟩, List.mem_of_getElem? (i := 19) (by decide +kernel), List.mem_of_getElem? (i := 366) (by decide +kernel), List.mem_of_getElem? (i := 367) (by decide +kernel)⟩
theorem lw_p15 : lw_okq (⟨"ProcessHeaps$Memory", "giveBackEmptyPages", "()V"⟩, 2) := ⟨⟨by decide +kernel, by decide +kernel⟩, List.mem_of_getElem? (i := 27) (by decide +kernel), List.mem_of_getElem? (i := 375) (by decide +kernel), List.mem_of_getElem? (i := 376) (by decide +kernel)⟩
def lw_privs_1 : List (MethodName × Nat) := [(⟨"ProcessHeaps", "livingProcess", "(I)LProcessHeaps$HeapProcess;"⟩, 7), (⟨"ProcessHeaps", "isMade", "(I)Z"⟩, 7), (⟨"ProcessHeaps", "canPay", "(II)Z"⟩, 7), (⟨"ProcessHeaps$Limits", "reckonPayments", "([LProcessHeaps$HeapProcess;LProcessHeaps$Memory;)V"⟩, 3), (⟨"ProcessHeaps$Limits", "addChildren", "([LProcessHeaps$HeapProcess;)V"⟩, 3), (⟨"ProcessHeaps$Limits", "reckonSpare", "([LProcessHeaps$HeapProcess;)V"⟩, 3), (⟨"ProcessHeaps", "die", "(LProcessHeaps$HeapProcess;)V"⟩, 7), (⟨"ProcessHeaps", "dropUnusedCharges", "(LProcessHeaps$HeapProcess;)V"⟩, 7), (⟨"java/util/ArrayList", "fastRemove", "([Ljava/lang/Object;I)V"⟩, 3), (⟨"java/util/ArrayList", "add", "(Ljava/lang/Object;[Ljava/lang/Object;I)V"⟩, 3), (⟨"java/util/ArrayList", "grow", "()[Ljava/lang/Object;"⟩, 3), (⟨"java/util/ArrayList", "grow", "(I)[Ljava/lang/Object;"⟩, 3), (⟨"ProcessHeaps", "dropGoneHeaps", "()V"⟩, 7), (⟨"ProcessHeaps", "isFrozen", "(I)Z"⟩, 7), (⟨"ProcessHeaps", "isSharedByLiving", "(I)Z"⟩, 7), (⟨"ProcessHeaps$Memory", "giveBackEmptyPages", "()V"⟩, 2)]
theorem lw_r1 : ∀ q ∈ lw_privs_1, lw_okq q := List.forall_mem_cons.mpr ⟨lw_p0, List.forall_mem_cons.mpr ⟨lw_p1, List.forall_mem_cons.mpr ⟨lw_p2, List.forall_mem_cons.mpr ⟨lw_p3, List.forall_mem_cons.mpr ⟨lw_p4, List.forall_mem_cons.mpr ⟨lw_p5, List.forall_mem_cons.mpr ⟨lw_p6, List.forall_mem_cons.mpr ⟨lw_p7, List.forall_mem_cons.mpr ⟨lw_p8, List.forall_mem_cons.mpr ⟨lw_p9, List.forall_mem_cons.mpr ⟨lw_p10, List.forall_mem_cons.mpr ⟨lw_p11, List.forall_mem_cons.mpr ⟨lw_p12, List.forall_mem_cons.mpr ⟨lw_p13, List.forall_mem_cons.mpr ⟨lw_p14, List.forall_mem_cons.mpr ⟨lw_p15, fun _ h => absurd h List.not_mem_nil⟩⟩⟩⟩⟩⟩⟩⟩⟩⟩⟩⟩⟩⟩⟩⟩
theorem lw_p16 : lw_okq (⟨"ProcessHeaps", "endPaymentOfDead", "(I)V"⟩, 7) := ⟨⟨by decide +kernel, by decide +kernel⟩, List.mem_of_getElem? (i := 19) (by decide +kernel), List.mem_of_getElem? (i := 379) (by decide +kernel), List.mem_of_getElem? (i := 380) (by decide +kernel)⟩
theorem lw_p17 : lw_okq (⟨"ProcessHeaps", "pageForMaking", "(LProcessHeaps$HeapProcess;I)LProcessHeaps$Page;"⟩, 7) := ⟨⟨by decide +kernel, by decide +kernel⟩, List.mem_of_getElem? (i := 19) (by decide +kernel), List.mem_of_getElem? (i := 395) (by decide +kernel), List.mem_of_getElem? (i := 396) (by decide +kernel)⟩
theorem lw_p18 : lw_okq (⟨"ProcessHeaps", "collectHeap", "(I)I"⟩, 7) := ⟨⟨by decide +kernel, by decide +kernel⟩, List.mem_of_getElem? (i := 19) (by decide +kernel), List.mem_of_getElem? (i := 431) (by decide +kernel), List.mem_of_getElem? (i := 432) (by decide +kernel)⟩
theorem lw_p19 : lw_okq (⟨"ProcessHeaps$Collector", "reachHeld", "(I[LProcessHeaps$HeapProcess;)V"⟩, 2) := ⟨⟨by decide +kernel, by decide +kernel⟩, List.mem_of_getElem? (i := 68) (by decide +kernel), List.mem_of_getElem? (i := 439) (by decide +kernel), List.mem_of_getElem? (i := 440) (by decide +kernel)⟩
theorem lw_p20 : lw_okq (⟨"ProcessHeaps$Collector", "reachObject", "(ILProcessHeaps$HeapObject;)V"⟩, 2) := ⟨⟨by decide +kernel, by decide +kernel⟩, List.mem_of_getElem? (i := 68) (by decide +kernel), List.mem_of_getElem? (i := 443) (by decide +kernel), List.mem_of_getElem? (i := 444) (by decide +kernel)⟩
theorem lw_p21 : lw_okq (⟨"ProcessHeaps$Collector", "reachNamedFromOutside", "(ILProcessHeaps$Memory;)V"⟩, 2) := ⟨⟨by decide +kernel, by decide +kernel⟩, List.mem_of_getElem? (i := 68) (by decide +kernel), List.mem_of_getElem? (i := 448) (by decide +kernel), List.mem_of_getElem? (i := 449) (by decide +kernel)⟩
theorem lw_p22 : lw_okq (⟨"ProcessHeaps$Collector", "followFields", "(I)V"⟩, 2) := ⟨⟨by decide +kernel, by decide +kernel⟩, List.mem_of_getElem? (i := 68) (by decide +kernel), List.mem_of_getElem? (i := 458) (by decide +kernel), List.mem_of_getElem? (i := 459) (by decide +kernel)⟩
theorem lw_p23 : lw_okq (⟨"ProcessHeaps$Collector", "loseItems", "(ILProcessHeaps$Memory;)V"⟩, 2) := ⟨⟨by decide +kernel, by decide +kernel⟩, List.mem_of_getElem? (i := 68) (by decide +kernel), List.mem_of_getElem? (i := 463) (by decide +kernel), List.mem_of_getElem? (i := 464) (by decide +kernel)⟩
theorem lw_p24 : lw_okq (⟨"ProcessHeaps$HeapObject", "addItemFor", "(LProcessHeaps$HeapObject;)V"⟩, 6) := ⟨⟨by decide +kernel, by decide +kernel⟩, List.mem_of_getElem? (i := 474) (by decide +kernel), List.mem_of_getElem? (i := 472) (by decide +kernel), List.mem_of_getElem? (i := 473) (by decide +kernel)⟩
theorem lw_p25 : lw_okq (⟨"ProcessHeaps", "dropChargesOfDead", "()V"⟩, 7) := ⟨⟨by decide +kernel, by decide +kernel⟩, List.mem_of_getElem? (i := 19) (by decide +kernel), List.mem_of_getElem? (i := 479) (by decide +kernel), List.mem_of_getElem? (i := 480) (by decide +kernel)⟩
theorem lw_p26 : lw_okq (⟨"ProcessHeaps", "mayChange", "(LProcessHeaps$HeapProcess;LProcessHeaps$HeapObject;)Z"⟩, 7) := ⟨⟨by decide +kernel, by decide +kernel⟩, List.mem_of_getElem? (i := 19) (by decide +kernel), List.mem_of_getElem? (i := 525) (by decide +kernel), List.mem_of_getElem? (i := 526) (by decide +kernel)⟩
theorem lw_p27 : lw_okq (⟨"ProcessHeaps", "mayName", "(LProcessHeaps$HeapProcess;LProcessHeaps$HeapObject;LProcessHeaps$HeapObject;)Z"⟩, 7) := ⟨⟨by decide +kernel, by decide +kernel⟩, List.mem_of_getElem? (i := 19) (by decide +kernel), List.mem_of_getElem? (i := 530) (by decide +kernel), List.mem_of_getElem? (i := 531) (by decide +kernel)⟩
theorem lw_p28 : lw_okq (⟨"ProcessHeaps", "mayHold", "(LProcessHeaps$HeapProcess;LProcessHeaps$HeapObject;)Z"⟩, 7) := ⟨⟨by decide +kernel, by decide +kernel⟩, List.mem_of_getElem? (i := 19) (by decide +kernel), List.mem_of_getElem? (i := 542) (by decide +kernel), List.mem_of_getElem? (i := 543) (by decide +kernel)⟩
theorem lw_p29 : lw_okq (⟨"ProcessHeapsModel", "lives", "(I)Z"⟩, 25) := ⟨⟨by decide +kernel, by decide +kernel⟩, List.mem_of_getElem? (i := 625) (by decide +kernel), List.mem_of_getElem? (i := 711) (by decide +kernel), List.mem_of_getElem? (i := 712) (by decide +kernel)⟩
theorem lw_p30 : lw_okq (⟨"ProcessHeapsModel", "rest", "(I)I"⟩, 25) := ⟨⟨by decide +kernel, by decide +kernel⟩, List.mem_of_getElem? (i := 625) (by decide +kernel), List.mem_of_getElem? (i := 715) (by decide +kernel), List.mem_of_getElem? (i := 716) (by decide +kernel)⟩
theorem lw_p31 : lw_okq (⟨"ProcessHeapsModel", "work", "()V"⟩, 25) := ⟨⟨by decide +kernel, by decide +kernel⟩, List.mem_of_getElem? (i := 625) (by decide +kernel), List.mem_of_getElem? (i := 719) (by decide +kernel), List.mem_of_getElem? (i := 720) (by decide +kernel)⟩
def lw_privs_2 : List (MethodName × Nat) := [(⟨"ProcessHeaps", "endPaymentOfDead", "(I)V"⟩, 7), (⟨"ProcessHeaps", "pageForMaking", "(LProcessHeaps$HeapProcess;I)LProcessHeaps$Page;"⟩, 7), (⟨"ProcessHeaps", "collectHeap", "(I)I"⟩, 7), (⟨"ProcessHeaps$Collector", "reachHeld", "(I[LProcessHeaps$HeapProcess;)V"⟩, 2), (⟨"ProcessHeaps$Collector", "reachObject", "(ILProcessHeaps$HeapObject;)V"⟩, 2), (⟨"ProcessHeaps$Collector", "reachNamedFromOutside", "(ILProcessHeaps$Memory;)V"⟩, 2), (⟨"ProcessHeaps$Collector", "followFields", "(I)V"⟩, 2), (⟨"ProcessHeaps$Collector", "loseItems", "(ILProcessHeaps$Memory;)V"⟩, 2), (⟨"ProcessHeaps$HeapObject", "addItemFor", "(LProcessHeaps$HeapObject;)V"⟩, 6), (⟨"ProcessHeaps", "dropChargesOfDead", "()V"⟩, 7), (⟨"ProcessHeaps", "mayChange", "(LProcessHeaps$HeapProcess;LProcessHeaps$HeapObject;)Z"⟩, 7), (⟨"ProcessHeaps", "mayName", "(LProcessHeaps$HeapProcess;LProcessHeaps$HeapObject;LProcessHeaps$HeapObject;)Z"⟩, 7), (⟨"ProcessHeaps", "mayHold", "(LProcessHeaps$HeapProcess;LProcessHeaps$HeapObject;)Z"⟩, 7), (⟨"ProcessHeapsModel", "lives", "(I)Z"⟩, 25), (⟨"ProcessHeapsModel", "rest", "(I)I"⟩, 25), (⟨"ProcessHeapsModel", "work", "()V"⟩, 25)]
theorem lw_r2 : ∀ q ∈ lw_privs_2, lw_okq q := List.forall_mem_cons.mpr ⟨lw_p16, List.forall_mem_cons.mpr ⟨lw_p17, List.forall_mem_cons.mpr ⟨lw_p18, List.forall_mem_cons.mpr ⟨lw_p19, List.forall_mem_cons.mpr ⟨lw_p20, List.forall_mem_cons.mpr ⟨lw_p21, List.forall_mem_cons.mpr ⟨lw_p22, List.forall_mem_cons.mpr ⟨lw_p23, List.forall_mem_cons.mpr ⟨lw_p24, List.forall_mem_cons.mpr ⟨lw_p25, List.forall_mem_cons.mpr ⟨lw_p26, List.forall_mem_cons.mpr ⟨lw_p27, List.forall_mem_cons.mpr ⟨lw_p28, List.forall_mem_cons.mpr ⟨lw_p29, List.forall_mem_cons.mpr ⟨lw_p30, List.forall_mem_cons.mpr ⟨lw_p31, fun _ h => absurd h List.not_mem_nil⟩⟩⟩⟩⟩⟩⟩⟩⟩⟩⟩⟩⟩⟩⟩⟩
theorem lw_p32 : lw_okq (⟨"ProcessHeapsModel", "frozen", "(I)Z"⟩, 25) := ⟨⟨by decide +kernel, by decide +kernel⟩, List.mem_of_getElem? (i := 625) (by decide +kernel), List.mem_of_getElem? (i := 723) (by decide +kernel), List.mem_of_getElem? (i := 724) (by decide +kernel)⟩
theorem lw_p33 : lw_okq (⟨"ProcessHeapsModel", "die", "(I)V"⟩, 25) := ⟨⟨by decide +kernel, by decide +kernel⟩, List.mem_of_getElem? (i := 625) (by decide +kernel), List.mem_of_getElem? (i := 735) (by decide +kernel), List.mem_of_getElem? (i := 736) (by decide +kernel)⟩
theorem lw_p34 : lw_okq (⟨"ProcessHeapsModel", "names", "(II)Z"⟩, 25) := ⟨⟨by decide +kernel, by decide +kernel⟩, List.mem_of_getElem? (i := 625) (by decide +kernel), List.mem_of_getElem? (i := 739) (by decide +kernel), List.mem_of_getElem? (i := 740) (by decide +kernel)⟩
theorem lw_p35 : lw_okq (⟨"ProcessHeapsModel", "merge", "(I)V"⟩, 25) := ⟨⟨by decide +kernel, by decide +kernel⟩, List.mem_of_getElem? (i := 625) (by decide +kernel), List.mem_of_getElem? (i := 743) (by decide +kernel), List.mem_of_getElem? (i := 744) (by decide +kernel)⟩
theorem lw_p36 : lw_okq (⟨"ProcessHeapsModel", "vanish", "()V"⟩, 25) := ⟨⟨by decide +kernel, by decide +kernel⟩, List.mem_of_getElem? (i := 625) (by decide +kernel), List.mem_of_getElem? (i := 747) (by decide +kernel), List.mem_of_getElem? (i := 748) (by decide +kernel)⟩
theorem lw_p37 : lw_okq (⟨"ProcessHeapsModel", "free", "(I)V"⟩, 25) := ⟨⟨by decide +kernel, by decide +kernel⟩, List.mem_of_getElem? (i := 625) (by decide +kernel), List.mem_of_getElem? (i := 751) (by decide +kernel), List.mem_of_getElem? (i := 752) (by decide +kernel)⟩
theorem lw_p38 : lw_okq (⟨"ProcessHeapsModel", "find", "(III)I"⟩, 25) := ⟨⟨by decide +kernel, by decide +kernel⟩, List.mem_of_getElem? (i := 625) (by decide +kernel), List.mem_of_getElem? (i := 766) (by decide +kernel), List.mem_of_getElem? (i := 767) (by decide +kernel)⟩
theorem lw_p39 : lw_okq (⟨"ProcessHeapsModel", "fitting", "(II)I"⟩, 25) := ⟨⟨by decide +kernel, by decide +kernel⟩, List.mem_of_getElem? (i := 625) (by decide +kernel), List.mem_of_getElem? (i := 770) (by decide +kernel), List.mem_of_getElem? (i := 771) (by decide +kernel)⟩
theorem lw_p40 : lw_okq (⟨"ProcessHeapsModel", "sweep", "(I)I"⟩, 25) := ⟨⟨by decide +kernel, by decide +kernel⟩, List.mem_of_getElem? (i := 625) (by decide +kernel), List.mem_of_getElem? (i := 774) (by decide +kernel), List.mem_of_getElem? (i := 775) (by decide +kernel)⟩
theorem lw_p41 : lw_okq (⟨"ProcessHeapsModel", "reach", "(I)V"⟩, 25) := ⟨⟨by decide +kernel, by decide +kernel⟩, List.mem_of_getElem? (i := 625) (by decide +kernel), List.mem_of_getElem? (i := 778) (by decide +kernel), List.mem_of_getElem? (i := 779) (by decide +kernel)⟩
theorem lw_p42 : lw_okq (⟨"ProcessHeapsModel", "root", "(II)Z"⟩, 25) := ⟨⟨by decide +kernel, by decide +kernel⟩, List.mem_of_getElem? (i := 625) (by decide +kernel), List.mem_of_getElem? (i := 782) (by decide +kernel), List.mem_of_getElem? (i := 783) (by decide +kernel)⟩
theorem lw_p43 : lw_okq (⟨"ProcessHeapsModel", "inField", "(II)Z"⟩, 25) := ⟨⟨by decide +kernel, by decide +kernel⟩, List.mem_of_getElem? (i := 625) (by decide +kernel), List.mem_of_getElem? (i := 786) (by decide +kernel), List.mem_of_getElem? (i := 787) (by decide +kernel)⟩
theorem lw_p44 : lw_okq (⟨"ProcessHeapsModel", "holds", "(II)Z"⟩, 25) := ⟨⟨by decide +kernel, by decide +kernel⟩, List.mem_of_getElem? (i := 625) (by decide +kernel), List.mem_of_getElem? (i := 790) (by decide +kernel), List.mem_of_getElem? (i := 791) (by decide +kernel)⟩
theorem lw_p45 : lw_okq (⟨"ProcessHeapsModel", "exists", "(I)Z"⟩, 25) := ⟨⟨by decide +kernel, by decide +kernel⟩, List.mem_of_getElem? (i := 625) (by decide +kernel), List.mem_of_getElem? (i := 839) (by decide +kernel), List.mem_of_getElem? (i := 840) (by decide +kernel)⟩
def lw_privs_3 : List (MethodName × Nat) := [(⟨"ProcessHeapsModel", "frozen", "(I)Z"⟩, 25), (⟨"ProcessHeapsModel", "die", "(I)V"⟩, 25), (⟨"ProcessHeapsModel", "names", "(II)Z"⟩, 25), (⟨"ProcessHeapsModel", "merge", "(I)V"⟩, 25), (⟨"ProcessHeapsModel", "vanish", "()V"⟩, 25), (⟨"ProcessHeapsModel", "free", "(I)V"⟩, 25), (⟨"ProcessHeapsModel", "find", "(III)I"⟩, 25), (⟨"ProcessHeapsModel", "fitting", "(II)I"⟩, 25), (⟨"ProcessHeapsModel", "sweep", "(I)I"⟩, 25), (⟨"ProcessHeapsModel", "reach", "(I)V"⟩, 25), (⟨"ProcessHeapsModel", "root", "(II)Z"⟩, 25), (⟨"ProcessHeapsModel", "inField", "(II)Z"⟩, 25), (⟨"ProcessHeapsModel", "holds", "(II)Z"⟩, 25), (⟨"ProcessHeapsModel", "exists", "(I)Z"⟩, 25)]
theorem lw_r3 : ∀ q ∈ lw_privs_3, lw_okq q := List.forall_mem_cons.mpr ⟨lw_p32, List.forall_mem_cons.mpr ⟨lw_p33, List.forall_mem_cons.mpr ⟨lw_p34, List.forall_mem_cons.mpr ⟨lw_p35, List.forall_mem_cons.mpr ⟨lw_p36, List.forall_mem_cons.mpr ⟨lw_p37, List.forall_mem_cons.mpr ⟨lw_p38, List.forall_mem_cons.mpr ⟨lw_p39, List.forall_mem_cons.mpr ⟨lw_p40, List.forall_mem_cons.mpr ⟨lw_p41, List.forall_mem_cons.mpr ⟨lw_p42, List.forall_mem_cons.mpr ⟨lw_p43, List.forall_mem_cons.mpr ⟨lw_p44, List.forall_mem_cons.mpr ⟨lw_p45, fun _ h => absurd h List.not_mem_nil⟩⟩⟩⟩⟩⟩⟩⟩⟩⟩⟩⟩⟩⟩
def lw_privs : List (MethodName × Nat) := lw_privs_1 ++ (lw_privs_2 ++ (lw_privs_3))
def lw_tbl : List Cond := k2_sels lw_privs ++ tables_1
theorem lw_privs_ok : ∀ q ∈ lw_privs, lw_okq q := by
  show ∀ q ∈ lw_privs_1 ++ (lw_privs_2 ++ (lw_privs_3)), lw_okq q
  exact List.forall_mem_append.mpr ⟨lw_r1, List.forall_mem_append.mpr ⟨lw_r2, lw_r3⟩⟩
end
section
/-! NAMES (by program, wip/tools/gen_names.py, out of the claim's own Statement): classes and their fields, methods with their rooms, the words of the tables, what each pool entry is -/
def TT0 : u_T := fun k => match k with
  | 0 => ("ProcessHeaps", "memory", "LProcessHeaps$Memory;", true)
  | 1 => ("ProcessHeaps", "collector", "LProcessHeaps$Collector;", true)
  | 2 => ("ProcessHeaps", "limits", "LProcessHeaps$Limits;", true)
  | 3 => ("ProcessHeaps", "processes", "[LProcessHeaps$HeapProcess;", true)
  | 4 => ("ProcessHeaps", "heads", "[LProcessHeaps$HeapObject;", true)
  | 5 => ("ProcessHeaps", "made", "I", false)
  | _ => ("ProcessHeaps", "nextShared", "I", false)
def tt0 : Nat → FieldType := fun k => match k with
  | 0 => .object "ProcessHeaps$Memory"
  | 1 => .object "ProcessHeaps$Collector"
  | 2 => .object "ProcessHeaps$Limits"
  | 3 => .array (.object "ProcessHeaps$HeapProcess")
  | 4 => .array (.object "ProcessHeaps$HeapObject")
  | 5 => .int
  | _ => .int
def TT1 : u_T := fun k => match k with
  | 0 => ("ProcessHeaps$Memory", "pages", "Ljava/util/ArrayList;", true)
  | _ => ("ProcessHeaps$Memory", "objects", "Ljava/util/ArrayList;", true)
def tt1 : Nat → FieldType := fun k => match k with
  | 0 => .object "java/util/ArrayList"
  | _ => .object "java/util/ArrayList"
def TT2 : u_T := fun k => match k with
  | 0 => ("java/util/ArrayList", "elementData", "[Ljava/lang/Object;", false)
  | 1 => ("java/util/ArrayList", "size", "I", false)
  | _ => ("java/util/AbstractList", "modCount", "I", false)
def tt2 : Nat → FieldType := fun k => match k with
  | 0 => .array (.object "java/lang/Object")
  | 1 => .int
  | _ => .int
def TT3 : u_T := fun k => match k with
  | 0 => ("ProcessHeaps$Collector", "reached", "[LProcessHeaps$HeapObject;", true)
  | _ => ("ProcessHeaps$Collector", "count", "I", false)
def tt3 : Nat → FieldType := fun k => match k with
  | 0 => .array (.object "ProcessHeaps$HeapObject")
  | _ => .int
def TT4 : u_T := fun k => match k with
  | 0 => ("ProcessHeaps$Limits", "used", "[I", true)
  | 1 => ("ProcessHeaps$Limits", "spare", "[I", true)
  | _ => ("ProcessHeaps$Limits", "exists", "[Z", true)
def tt4 : Nat → FieldType := fun k => match k with
  | 0 => .array .int
  | 1 => .array .int
  | _ => .array .boolean
def TT5 : u_T := fun k => match k with
  | 0 => ("ProcessHeaps$HeapProcess", "number", "I", true)
  | 1 => ("ProcessHeaps$HeapProcess", "parent", "I", true)
  | 2 => ("ProcessHeaps$HeapProcess", "limit", "I", true)
  | 3 => ("ProcessHeaps$HeapProcess", "hard", "Z", true)
  | 4 => ("ProcessHeaps$HeapProcess", "registers", "[LProcessHeaps$HeapObject;", true)
  | 5 => ("ProcessHeaps$HeapProcess", "state", "I", false)
  | 6 => ("ProcessHeaps$HeapProcess", "building", "I", false)
  | _ => ("ProcessHeaps$HeapProcess", "charges", "I", false)
def tt5 : Nat → FieldType := fun k => match k with
  | 0 => .int
  | 1 => .int
  | 2 => .int
  | 3 => .boolean
  | 4 => .array (.object "ProcessHeaps$HeapObject")
  | 5 => .int
  | 6 => .int
  | _ => .int
def TT6 : u_T := fun k => match k with
  | 0 => ("ProcessHeaps$Page", "heap", "I", false)
  | 1 => ("ProcessHeaps$Page", "payer", "I", false)
  | _ => ("ProcessHeaps$Page", "freeCells", "I", false)
def tt6 : Nat → FieldType := fun k => match k with
  | 0 => .int
  | 1 => .int
  | _ => .int
def TT7 : u_T := fun k => match k with
  | 0 => ("ProcessHeaps$HeapObject", "page", "LProcessHeaps$Page;", true)
  | 1 => ("ProcessHeaps$HeapObject", "size", "I", true)
  | 2 => ("ProcessHeaps$HeapObject", "tag", "I", true)
  | 3 => ("ProcessHeaps$HeapObject", "fields", "[LProcessHeaps$HeapObject;", true)
  | 4 => ("ProcessHeaps$HeapObject", "reached", "Z", false)
  | _ => ("ProcessHeaps$HeapObject", "items", "I", false)
def tt7 : Nat → FieldType := fun k => match k with
  | 0 => .object "ProcessHeaps$Page"
  | 1 => .int
  | 2 => .int
  | 3 => .array (.object "ProcessHeaps$HeapObject")
  | 4 => .boolean
  | _ => .int
def TT8 : u_T := fun k => match k with
  | 0 => ("ProcessHeapsModel", "phase", "[I", true)
  | 1 => ("ProcessHeapsModel", "parent", "[I", true)
  | 2 => ("ProcessHeapsModel", "limit", "[I", true)
  | 3 => ("ProcessHeapsModel", "hard", "[Z", true)
  | 4 => ("ProcessHeapsModel", "made", "I", false)
  | 5 => ("ProcessHeapsModel", "reg", "[I", true)
  | 6 => ("ProcessHeapsModel", "home", "[I", true)
  | 7 => ("ProcessHeapsModel", "size", "[I", true)
  | 8 => ("ProcessHeapsModel", "label", "[I", true)
  | 9 => ("ProcessHeapsModel", "page", "[I", true)
  | 10 => ("ProcessHeapsModel", "field", "[I", true)
  | 11 => ("ProcessHeapsModel", "owner", "[I", true)
  | 12 => ("ProcessHeapsModel", "payer", "[I", true)
  | 13 => ("ProcessHeapsModel", "order", "[I", true)
  | 14 => ("ProcessHeapsModel", "latest", "I", false)
  | 15 => ("ProcessHeapsModel", "stage", "[I", true)
  | 16 => ("ProcessHeapsModel", "builder", "[I", true)
  | 17 => ("ProcessHeapsModel", "first", "[I", true)
  | 18 => ("ProcessHeapsModel", "begun", "I", false)
  | 19 => ("ProcessHeapsModel", "sharing", "[Z", true)
  | 20 => ("ProcessHeapsModel", "paying", "[Z", true)
  | 21 => ("ProcessHeapsModel", "item", "[Z", true)
  | 22 => ("ProcessHeapsModel", "used", "[I", true)
  | 23 => ("ProcessHeapsModel", "there", "[Z", true)
  | _ => ("ProcessHeapsModel", "mark", "[Z", true)
def tt8 : Nat → FieldType := fun k => match k with
  | 0 => .array .int
  | 1 => .array .int
  | 2 => .array .int
  | 3 => .array .boolean
  | 4 => .int
  | 5 => .array .int
  | 6 => .array .int
  | 7 => .array .int
  | 8 => .array .int
  | 9 => .array .int
  | 10 => .array .int
  | 11 => .array .int
  | 12 => .array .int
  | 13 => .array .int
  | 14 => .int
  | 15 => .array .int
  | 16 => .array .int
  | 17 => .array .int
  | 18 => .int
  | 19 => .array .boolean
  | 20 => .array .boolean
  | 21 => .array .boolean
  | 22 => .array .int
  | 23 => .array .boolean
  | _ => .array .boolean
abbrev vwCl : List vw_C := [("ProcessHeaps", TT0, 7), ("ProcessHeaps$Memory", TT1, 2), ("java/util/ArrayList", TT2, 3), ("ProcessHeaps$Collector", TT3, 2), ("ProcessHeaps$Limits", TT4, 3), ("ProcessHeaps$HeapProcess", TT5, 8), ("ProcessHeaps$Page", TT6, 3), ("ProcessHeaps$HeapObject", TT7, 6), ("ProcessHeapsModel", TT8, 25)]
def yy_PH_init : MethodName := ⟨"ProcessHeaps", "<init>", "(I)V"⟩
abbrev Y_PH_init : ByteArray × String × Nat × Option FieldType × Bool × Room := (prog_1_method_1_code, "ProcessHeaps", 3, none, true, { frames := 5, cells := 14, slots := 132, locals := 100 })
def yy_Oj_init : MethodName := ⟨"java/lang/Object", "<init>", "()V"⟩
abbrev Y_Oj_init : ByteArray × String × Nat × Option FieldType × Bool × Room := (object_method_1_code, "java/lang/Object", 1, none, true, { frames := 0, cells := 0, slots := 0, locals := 0 })
def yy_Me_init : MethodName := ⟨"ProcessHeaps$Memory", "<init>", "()V"⟩
abbrev Y_Me_init : ByteArray × String × Nat × Option FieldType × Bool × Room := (prog_6_method_1_code, "ProcessHeaps$Memory", 1, none, true, { frames := 4, cells := 2, slots := 6, locals := 80 })
def yy_AL_init : MethodName := ⟨"java/util/ArrayList", "<init>", "()V"⟩
abbrev Y_AL_init : ByteArray × String × Nat × Option FieldType × Bool × Room := (prog_17_method_2_code, "java/util/ArrayList", 1, none, true, { frames := 3, cells := 0, slots := 0, locals := 60 })
def yy_Ab_init : MethodName := ⟨"java/util/AbstractList", "<init>", "()V"⟩
abbrev Y_Ab_init : ByteArray × String × Nat × Option FieldType × Bool × Room := (prog_16_method_1_code, "java/util/AbstractList", 1, none, true, { frames := 2, cells := 0, slots := 0, locals := 40 })
def yy_Ac_init : MethodName := ⟨"java/util/AbstractCollection", "<init>", "()V"⟩
abbrev Y_Ac_init : ByteArray × String × Nat × Option FieldType × Bool × Room := (prog_15_method_1_code, "java/util/AbstractCollection", 1, none, true, { frames := 1, cells := 0, slots := 0, locals := 20 })
def yy_Co_init : MethodName := ⟨"ProcessHeaps$Collector", "<init>", "()V"⟩
abbrev Y_Co_init : ByteArray × String × Nat × Option FieldType × Bool × Room := (prog_2_method_1_code, "ProcessHeaps$Collector", 1, none, true, { frames := 1, cells := 1, slots := 60, locals := 20 })
def yy_Li_init : MethodName := ⟨"ProcessHeaps$Limits", "<init>", "()V"⟩
abbrev Y_Li_init : ByteArray × String × Nat × Option FieldType × Bool × Room := (prog_5_method_1_code, "ProcessHeaps$Limits", 1, none, true, { frames := 1, cells := 3, slots := 24, locals := 20 })
def yy_Ma_min : MethodName := ⟨"java/lang/Math", "min", "(II)I"⟩
abbrev Y_Ma_min : ByteArray × String × Nat × Option FieldType × Bool × Room := (prog_13_method_69_code, "java/lang/Math", 2, (some .int), false, { frames := 0, cells := 0, slots := 0, locals := 0 })
def yy_Ma_max : MethodName := ⟨"java/lang/Math", "max", "(II)I"⟩
abbrev Y_Ma_max : ByteArray × String × Nat × Option FieldType × Bool × Room := (prog_13_method_65_code, "java/lang/Math", 2, (some .int), false, { frames := 0, cells := 0, slots := 0, locals := 0 })
def yy_Pr_init : MethodName := ⟨"ProcessHeaps$HeapProcess", "<init>", "(IIIZ)V"⟩
abbrev Y_Pr_init : ByteArray × String × Nat × Option FieldType × Bool × Room := (prog_4_method_1_code, "ProcessHeaps$HeapProcess", 5, none, true, { frames := 1, cells := 1, slots := 4, locals := 20 })
def yy_PH_spawn : MethodName := ⟨"ProcessHeaps", "spawn", "(IIZ)I"⟩
abbrev Y_PH_spawn : ByteArray × String × Nat × Option FieldType × Bool × Room := (prog_1_method_2_code, "ProcessHeaps", 5, (some .int), false, { frames := 7, cells := 2, slots := 12, locals := 156 })
def yy_PH_livingProcess : MethodName := ⟨"ProcessHeaps", "livingProcess", "(I)LProcessHeaps$HeapProcess;"⟩
abbrev Y_PH_livingProcess : ByteArray × String × Nat × Option FieldType × Bool × Room := (prog_1_method_27_code, "ProcessHeaps", 2, (some (.object "ProcessHeaps$HeapProcess")), false, { frames := 1, cells := 0, slots := 0, locals := 21 })
def yy_PH_isMade : MethodName := ⟨"ProcessHeaps", "isMade", "(I)Z"⟩
abbrev Y_PH_isMade : ByteArray × String × Nat × Option FieldType × Bool × Room := (prog_1_method_26_code, "ProcessHeaps", 2, (some .boolean), false, { frames := 0, cells := 0, slots := 0, locals := 0 })
def yy_Pr_isLiving : MethodName := ⟨"ProcessHeaps$HeapProcess", "isLiving", "()Z"⟩
abbrev Y_Pr_isLiving : ByteArray × String × Nat × Option FieldType × Bool × Room := (prog_4_method_2_code, "ProcessHeaps$HeapProcess", 1, (some .boolean), false, { frames := 0, cells := 0, slots := 0, locals := 0 })
def yy_PH_canPay : MethodName := ⟨"ProcessHeaps", "canPay", "(II)Z"⟩
abbrev Y_PH_canPay : ByteArray × String × Nat × Option FieldType × Bool × Room := (prog_1_method_28_code, "ProcessHeaps", 3, (some .boolean), false, { frames := 6, cells := 0, slots := 0, locals := 134 })
def yy_Li_reckon : MethodName := ⟨"ProcessHeaps$Limits", "reckon", "([LProcessHeaps$HeapProcess;LProcessHeaps$Memory;)V"⟩
abbrev Y_Li_reckon : ByteArray × String × Nat × Option FieldType × Bool × Room := (prog_5_method_2_code, "ProcessHeaps$Limits", 3, none, false, { frames := 5, cells := 0, slots := 0, locals := 112 })
def yy_Li_reckonPayments : MethodName := ⟨"ProcessHeaps$Limits", "reckonPayments", "([LProcessHeaps$HeapProcess;LProcessHeaps$Memory;)V"⟩
abbrev Y_Li_reckonPayments : ByteArray × String × Nat × Option FieldType × Bool × Room := (prog_5_method_3_code, "ProcessHeaps$Limits", 5, none, false, { frames := 4, cells := 0, slots := 0, locals := 88 })
def yy_Me_countPaidPages : MethodName := ⟨"ProcessHeaps$Memory", "countPaidPages", "(LProcessHeaps$HeapProcess;)I"⟩
abbrev Y_Me_countPaidPages : ByteArray × String × Nat × Option FieldType × Bool × Room := (prog_6_method_3_code, "ProcessHeaps$Memory", 5, (some .int), false, { frames := 3, cells := 0, slots := 0, locals := 64 })
def yy_AL_size : MethodName := ⟨"java/util/ArrayList", "size", "()I"⟩
abbrev Y_AL_size : ByteArray × String × Nat × Option FieldType × Bool × Room := (prog_17_method_8_code, "java/util/ArrayList", 1, (some .int), false, { frames := 0, cells := 0, slots := 0, locals := 0 })
def yy_AL_get : MethodName := ⟨"java/util/ArrayList", "get", "(I)Ljava/lang/Object;"⟩
abbrev Y_AL_get : ByteArray × String × Nat × Option FieldType × Bool × Room := (prog_17_method_20_code, "java/util/ArrayList", 2, (some (.object "java/lang/Object")), false, { frames := 2, cells := 0, slots := 0, locals := 43 })
def yy_Os_checkIndex : MethodName := ⟨"java/util/Objects", "checkIndex", "(II)I"⟩
abbrev Y_Os_checkIndex : ByteArray × String × Nat × Option FieldType × Bool × Room := (prog_21_method_17_code, "java/util/Objects", 2, (some .int), false, { frames := 1, cells := 0, slots := 0, locals := 22 })
def yy_Pc_checkIndex : MethodName := ⟨"jdk/internal/util/Preconditions", "checkIndex", "(IILjava/util/function/BiFunction;)I"⟩
abbrev Y_Pc_checkIndex : ByteArray × String × Nat × Option FieldType × Bool × Room := (prog_25_method_11_code, "jdk/internal/util/Preconditions", 3, (some .int), false, { frames := 0, cells := 0, slots := 0, locals := 0 })
def yy_AL_elementData : MethodName := ⟨"java/util/ArrayList", "elementData", "(I)Ljava/lang/Object;"⟩
abbrev Y_AL_elementData : ByteArray × String × Nat × Option FieldType × Bool × Room := (prog_17_method_18_code, "java/util/ArrayList", 2, (some (.object "java/lang/Object")), false, { frames := 0, cells := 0, slots := 0, locals := 0 })
def yy_Pr_isCharged : MethodName := ⟨"ProcessHeaps$HeapProcess", "isCharged", "(I)Z"⟩
abbrev Y_Pr_isCharged : ByteArray × String × Nat × Option FieldType × Bool × Room := (prog_4_method_4_code, "ProcessHeaps$HeapProcess", 2, (some .boolean), false, { frames := 0, cells := 0, slots := 0, locals := 0 })
def yy_Li_addChildren : MethodName := ⟨"ProcessHeaps$Limits", "addChildren", "([LProcessHeaps$HeapProcess;)V"⟩
abbrev Y_Li_addChildren : ByteArray × String × Nat × Option FieldType × Bool × Room := (prog_5_method_4_code, "ProcessHeaps$Limits", 4, none, false, { frames := 0, cells := 0, slots := 0, locals := 0 })
def yy_Li_reckonSpare : MethodName := ⟨"ProcessHeaps$Limits", "reckonSpare", "([LProcessHeaps$HeapProcess;)V"⟩
abbrev Y_Li_reckonSpare : ByteArray × String × Nat × Option FieldType × Bool × Room := (prog_5_method_5_code, "ProcessHeaps$Limits", 4, none, false, { frames := 1, cells := 0, slots := 0, locals := 21 })
def yy_PH_kill : MethodName := ⟨"ProcessHeaps", "kill", "(I)Z"⟩
abbrev Y_PH_kill : ByteArray × String × Nat × Option FieldType × Bool × Room := (prog_1_method_3_code, "ProcessHeaps", 3, (some .boolean), false, { frames := 9, cells := 0, slots := 0, locals := 216 })
def yy_Pr_isInKernelMode : MethodName := ⟨"ProcessHeaps$HeapProcess", "isInKernelMode", "()Z"⟩
abbrev Y_Pr_isInKernelMode : ByteArray × String × Nat × Option FieldType × Bool × Room := (prog_4_method_3_code, "ProcessHeaps$HeapProcess", 1, (some .boolean), false, { frames := 0, cells := 0, slots := 0, locals := 0 })
def yy_PH_die : MethodName := ⟨"ProcessHeaps", "die", "(LProcessHeaps$HeapProcess;)V"⟩
abbrev Y_PH_die : ByteArray × String × Nat × Option FieldType × Bool × Room := (prog_1_method_34_code, "ProcessHeaps", 3, none, false, { frames := 8, cells := 0, slots := 0, locals := 194 })
def yy_PH_dropUnusedCharges : MethodName := ⟨"ProcessHeaps", "dropUnusedCharges", "(LProcessHeaps$HeapProcess;)V"⟩
abbrev Y_PH_dropUnusedCharges : ByteArray × String × Nat × Option FieldType × Bool × Room := (prog_1_method_35_code, "ProcessHeaps", 3, none, false, { frames := 4, cells := 0, slots := 0, locals := 88 })
def yy_Pr_holdsObjectOf : MethodName := ⟨"ProcessHeaps$HeapProcess", "holdsObjectOf", "(I)Z"⟩
abbrev Y_Pr_holdsObjectOf : ByteArray × String × Nat × Option FieldType × Bool × Room := (prog_4_method_8_code, "ProcessHeaps$HeapProcess", 4, (some .boolean), false, { frames := 1, cells := 0, slots := 0, locals := 20 })
def yy_Ob_heapNumber : MethodName := ⟨"ProcessHeaps$HeapObject", "heapNumber", "()I"⟩
abbrev Y_Ob_heapNumber : ByteArray × String × Nat × Option FieldType × Bool × Room := (prog_3_method_2_code, "ProcessHeaps$HeapObject", 1, (some .int), false, { frames := 0, cells := 0, slots := 0, locals := 0 })
def yy_Me_hasItemInto : MethodName := ⟨"ProcessHeaps$Memory", "hasItemInto", "(II)Z"⟩
abbrev Y_Me_hasItemInto : ByteArray × String × Nat × Option FieldType × Bool × Room := (prog_6_method_6_code, "ProcessHeaps$Memory", 5, (some .boolean), false, { frames := 3, cells := 0, slots := 0, locals := 64 })
def yy_Ob_hasItem : MethodName := ⟨"ProcessHeaps$HeapObject", "hasItem", "(I)Z"⟩
abbrev Y_Ob_hasItem : ByteArray × String × Nat × Option FieldType × Bool × Room := (prog_3_method_7_code, "ProcessHeaps$HeapObject", 2, (some .boolean), false, { frames := 0, cells := 0, slots := 0, locals := 0 })
def yy_Pr_dropCharge : MethodName := ⟨"ProcessHeaps$HeapProcess", "dropCharge", "(I)V"⟩
abbrev Y_Pr_dropCharge : ByteArray × String × Nat × Option FieldType × Bool × Room := (prog_4_method_6_code, "ProcessHeaps$HeapProcess", 2, none, false, { frames := 0, cells := 0, slots := 0, locals := 0 })
def yy_Me_mergeIntoKernel : MethodName := ⟨"ProcessHeaps$Memory", "mergeIntoKernel", "(I)V"⟩
abbrev Y_Me_mergeIntoKernel : ByteArray × String × Nat × Option FieldType × Bool × Room := (prog_6_method_13_code, "ProcessHeaps$Memory", 6, none, false, { frames := 7, cells := 0, slots := 0, locals := 169 })
def yy_AL_remove : MethodName := ⟨"java/util/ArrayList", "remove", "(I)Ljava/lang/Object;"⟩
abbrev Y_AL_remove : ByteArray × String × Nat × Option FieldType × Bool × Room := (prog_17_method_29_code, "java/util/ArrayList", 4, (some (.object "java/lang/Object")), false, { frames := 2, cells := 0, slots := 0, locals := 61 })
def yy_AL_fastRemove : MethodName := ⟨"java/util/ArrayList", "fastRemove", "([Ljava/lang/Object;I)V"⟩
abbrev Y_AL_fastRemove : ByteArray × String × Nat × Option FieldType × Bool × Room := (prog_17_method_39_code, "java/util/ArrayList", 4, none, false, { frames := 1, cells := 0, slots := 0, locals := 38 })
def yy_AL_add : MethodName := ⟨"java/util/ArrayList", "add", "(Ljava/lang/Object;)Z"⟩
abbrev Y_AL_add : ByteArray × String × Nat × Option FieldType × Bool × Room := (prog_17_method_25_code, "java/util/ArrayList", 2, (some .boolean), false, { frames := 6, cells := 1, slots := 100, locals := 148 })
def yy_AL_add2 : MethodName := ⟨"java/util/ArrayList", "add", "(Ljava/lang/Object;[Ljava/lang/Object;I)V"⟩
abbrev Y_AL_add2 : ByteArray × String × Nat × Option FieldType × Bool × Room := (prog_17_method_24_code, "java/util/ArrayList", 4, none, false, { frames := 5, cells := 1, slots := 100, locals := 125 })
def yy_AL_grow : MethodName := ⟨"java/util/ArrayList", "grow", "()[Ljava/lang/Object;"⟩
abbrev Y_AL_grow : ByteArray × String × Nat × Option FieldType × Bool × Room := (prog_17_method_7_code, "java/util/ArrayList", 1, (some (.array (.object "java/lang/Object"))), false, { frames := 4, cells := 1, slots := 100, locals := 105 })
def yy_AL_grow2 : MethodName := ⟨"java/util/ArrayList", "grow", "(I)[Ljava/lang/Object;"⟩
abbrev Y_AL_grow2 : ByteArray × String × Nat × Option FieldType × Bool × Room := (prog_17_method_6_code, "java/util/ArrayList", 4, (some (.array (.object "java/lang/Object"))), false, { frames := 3, cells := 1, slots := 100, locals := 82 })
def yy_As_newLength : MethodName := ⟨"jdk/internal/util/ArraysSupport", "newLength", "(III)I"⟩
abbrev Y_As_newLength : ByteArray × String × Nat × Option FieldType × Bool × Room := (prog_24_method_27_code, "jdk/internal/util/ArraysSupport", 4, (some .int), false, { frames := 1, cells := 0, slots := 0, locals := 22 })
def yy_As_hugeLength : MethodName := ⟨"jdk/internal/util/ArraysSupport", "hugeLength", "(II)I"⟩
abbrev Y_As_hugeLength : ByteArray × String × Nat × Option FieldType × Bool × Room := (prog_24_method_28_code, "jdk/internal/util/ArraysSupport", 3, (some .int), false, { frames := 0, cells := 0, slots := 0, locals := 0 })
def yy_Ar_copyOf : MethodName := ⟨"java/util/Arrays", "copyOf", "([Ljava/lang/Object;I)[Ljava/lang/Object;"⟩
abbrev Y_Ar_copyOf : ByteArray × String × Nat × Option FieldType × Bool × Room := (prog_18_method_119_code, "java/util/Arrays", 2, (some (.array (.object "java/lang/Object"))), false, { frames := 2, cells := 1, slots := 100, locals := 61 })
def yy_Ar_copyOf2 : MethodName := ⟨"java/util/Arrays", "copyOf", "([Ljava/lang/Object;ILjava/lang/Class;)[Ljava/lang/Object;"⟩
abbrev Y_Ar_copyOf2 : ByteArray × String × Nat × Option FieldType × Bool × Room := (prog_18_method_120_code, "java/util/Arrays", 4, (some (.array (.object "java/lang/Object"))), false, { frames := 1, cells := 1, slots := 100, locals := 38 })
def yy_Me_handItemsToKernel : MethodName := ⟨"ProcessHeaps$Memory", "handItemsToKernel", "(I)V"⟩
abbrev Y_Me_handItemsToKernel : ByteArray × String × Nat × Option FieldType × Bool × Room := (prog_6_method_14_code, "ProcessHeaps$Memory", 4, none, false, { frames := 3, cells := 0, slots := 0, locals := 64 })
def yy_Ob_dropItem : MethodName := ⟨"ProcessHeaps$HeapObject", "dropItem", "(I)V"⟩
abbrev Y_Ob_dropItem : ByteArray × String × Nat × Option FieldType × Bool × Room := (prog_3_method_9_code, "ProcessHeaps$HeapObject", 2, none, false, { frames := 0, cells := 0, slots := 0, locals := 0 })
def yy_Ob_addItem : MethodName := ⟨"ProcessHeaps$HeapObject", "addItem", "(I)V"⟩
abbrev Y_Ob_addItem : ByteArray × String × Nat × Option FieldType × Bool × Room := (prog_3_method_8_code, "ProcessHeaps$HeapObject", 2, none, false, { frames := 0, cells := 0, slots := 0, locals := 0 })
def yy_PH_dropGoneHeaps : MethodName := ⟨"ProcessHeaps", "dropGoneHeaps", "()V"⟩
abbrev Y_PH_dropGoneHeaps : ByteArray × String × Nat × Option FieldType × Bool × Room := (prog_1_method_38_code, "ProcessHeaps", 2, none, false, { frames := 5, cells := 0, slots := 0, locals := 129 })
def yy_PH_isFrozen : MethodName := ⟨"ProcessHeaps", "isFrozen", "(I)Z"⟩
abbrev Y_PH_isFrozen : ByteArray × String × Nat × Option FieldType × Bool × Room := (prog_1_method_25_code, "ProcessHeaps", 2, (some .boolean), false, { frames := 1, cells := 0, slots := 0, locals := 20 })
def yy_PH_isHeap : MethodName := ⟨"ProcessHeaps", "isHeap", "(I)Z"⟩
abbrev Y_PH_isHeap : ByteArray × String × Nat × Option FieldType × Bool × Room := (prog_1_method_24_code, "ProcessHeaps", 1, (some .boolean), false, { frames := 0, cells := 0, slots := 0, locals := 0 })
def yy_PH_isSharedByLiving : MethodName := ⟨"ProcessHeaps", "isSharedByLiving", "(I)Z"⟩
abbrev Y_PH_isSharedByLiving : ByteArray × String × Nat × Option FieldType × Bool × Room := (prog_1_method_39_code, "ProcessHeaps", 3, (some .boolean), false, { frames := 1, cells := 0, slots := 0, locals := 21 })
def yy_Me_freeUnreached : MethodName := ⟨"ProcessHeaps$Memory", "freeUnreached", "(I)I"⟩
abbrev Y_Me_freeUnreached : ByteArray × String × Nat × Option FieldType × Bool × Room := (prog_6_method_10_code, "ProcessHeaps$Memory", 5, (some .int), false, { frames := 4, cells := 0, slots := 0, locals := 105 })
def yy_Me_giveBackEmptyPages : MethodName := ⟨"ProcessHeaps$Memory", "giveBackEmptyPages", "()V"⟩
abbrev Y_Me_giveBackEmptyPages : ByteArray × String × Nat × Option FieldType × Bool × Room := (prog_6_method_11_code, "ProcessHeaps$Memory", 2, none, false, { frames := 3, cells := 0, slots := 0, locals := 84 })
def yy_PH_endPaymentOfDead : MethodName := ⟨"ProcessHeaps", "endPaymentOfDead", "(I)V"⟩
abbrev Y_PH_endPaymentOfDead : ByteArray × String × Nat × Option FieldType × Bool × Room := (prog_1_method_37_code, "ProcessHeaps", 3, none, false, { frames := 1, cells := 0, slots := 0, locals := 21 })
def yy_PH_mode : MethodName := ⟨"ProcessHeaps", "mode", "(IZ)Z"⟩
abbrev Y_PH_mode : ByteArray × String × Nat × Option FieldType × Bool × Room := (prog_1_method_4_code, "ProcessHeaps", 4, (some .boolean), false, { frames := 9, cells := 0, slots := 0, locals := 216 })
def yy_PH_make : MethodName := ⟨"ProcessHeaps", "make", "(IIII)I"⟩
abbrev Y_PH_make : ByteArray × String × Nat × Option FieldType × Bool × Room := (prog_1_method_5_code, "ProcessHeaps", 7, (some .int), false, { frames := 9, cells := 7, slots := 315, locals := 217 })
def yy_PH_isRegister : MethodName := ⟨"ProcessHeaps", "isRegister", "(I)Z"⟩
abbrev Y_PH_isRegister : ByteArray × String × Nat × Option FieldType × Bool × Room := (prog_1_method_22_code, "ProcessHeaps", 1, (some .boolean), false, { frames := 0, cells := 0, slots := 0, locals := 0 })
def yy_PH_pageForMaking : MethodName := ⟨"ProcessHeaps", "pageForMaking", "(LProcessHeaps$HeapProcess;I)LProcessHeaps$Page;"⟩
abbrev Y_PH_pageForMaking : ByteArray × String × Nat × Option FieldType × Bool × Room := (prog_1_method_29_code, "ProcessHeaps", 6, (some (.object "ProcessHeaps$Page")), false, { frames := 8, cells := 2, slots := 103, locals := 192 })
def yy_Pr_heapForMaking : MethodName := ⟨"ProcessHeaps$HeapProcess", "heapForMaking", "()I"⟩
abbrev Y_Pr_heapForMaking : ByteArray × String × Nat × Option FieldType × Bool × Room := (prog_4_method_7_code, "ProcessHeaps$HeapProcess", 1, (some .int), false, { frames := 1, cells := 0, slots := 0, locals := 20 })
def yy_Me_findPage : MethodName := ⟨"ProcessHeaps$Memory", "findPage", "(II)LProcessHeaps$Page;"⟩
abbrev Y_Me_findPage : ByteArray × String × Nat × Option FieldType × Bool × Room := (prog_6_method_7_code, "ProcessHeaps$Memory", 5, (some (.object "ProcessHeaps$Page")), false, { frames := 3, cells := 0, slots := 0, locals := 64 })
def yy_Me_addPage : MethodName := ⟨"ProcessHeaps$Memory", "addPage", "(II)LProcessHeaps$Page;"⟩
abbrev Y_Me_addPage : ByteArray × String × Nat × Option FieldType × Bool × Room := (prog_6_method_8_code, "ProcessHeaps$Memory", 4, (some (.object "ProcessHeaps$Page")), false, { frames := 7, cells := 2, slots := 103, locals := 169 })
def yy_Pa_init : MethodName := ⟨"ProcessHeaps$Page", "<init>", "(II)V"⟩
abbrev Y_Pa_init : ByteArray × String × Nat × Option FieldType × Bool × Room := (prog_7_method_1_code, "ProcessHeaps$Page", 3, none, true, { frames := 1, cells := 0, slots := 0, locals := 20 })
def yy_PH_collectHeap : MethodName := ⟨"ProcessHeaps", "collectHeap", "(I)I"⟩
abbrev Y_PH_collectHeap : ByteArray × String × Nat × Option FieldType × Bool × Room := (prog_1_method_33_code, "ProcessHeaps", 3, (some .int), false, { frames := 6, cells := 0, slots := 0, locals := 153 })
def yy_Co_run : MethodName := ⟨"ProcessHeaps$Collector", "run", "(ILProcessHeaps$Memory;[LProcessHeaps$HeapProcess;)I"⟩
abbrev Y_Co_run : ByteArray × String × Nat × Option FieldType × Bool × Room := (prog_2_method_2_code, "ProcessHeaps$Collector", 5, (some .int), false, { frames := 5, cells := 0, slots := 0, locals := 129 })
def yy_Co_reachHeld : MethodName := ⟨"ProcessHeaps$Collector", "reachHeld", "(I[LProcessHeaps$HeapProcess;)V"⟩
abbrev Y_Co_reachHeld : ByteArray × String × Nat × Option FieldType × Bool × Room := (prog_2_method_3_code, "ProcessHeaps$Collector", 5, none, false, { frames := 2, cells := 0, slots := 0, locals := 42 })
def yy_Co_reachObject : MethodName := ⟨"ProcessHeaps$Collector", "reachObject", "(ILProcessHeaps$HeapObject;)V"⟩
abbrev Y_Co_reachObject : ByteArray × String × Nat × Option FieldType × Bool × Room := (prog_2_method_6_code, "ProcessHeaps$Collector", 3, none, false, { frames := 1, cells := 0, slots := 0, locals := 20 })
def yy_Co_reachNamedFromOutside : MethodName := ⟨"ProcessHeaps$Collector", "reachNamedFromOutside", "(ILProcessHeaps$Memory;)V"⟩
abbrev Y_Co_reachNamedFromOutside : ByteArray × String × Nat × Option FieldType × Bool × Room := (prog_2_method_4_code, "ProcessHeaps$Collector", 4, none, false, { frames := 3, cells := 0, slots := 0, locals := 64 })
def yy_Ob_hasAnyItem : MethodName := ⟨"ProcessHeaps$HeapObject", "hasAnyItem", "()Z"⟩
abbrev Y_Ob_hasAnyItem : ByteArray × String × Nat × Option FieldType × Bool × Room := (prog_3_method_6_code, "ProcessHeaps$HeapObject", 1, (some .boolean), false, { frames := 0, cells := 0, slots := 0, locals := 0 })
def yy_Co_followFields : MethodName := ⟨"ProcessHeaps$Collector", "followFields", "(I)V"⟩
abbrev Y_Co_followFields : ByteArray × String × Nat × Option FieldType × Bool × Room := (prog_2_method_5_code, "ProcessHeaps$Collector", 4, none, false, { frames := 2, cells := 0, slots := 0, locals := 42 })
def yy_Co_loseItems : MethodName := ⟨"ProcessHeaps$Collector", "loseItems", "(ILProcessHeaps$Memory;)V"⟩
abbrev Y_Co_loseItems : ByteArray × String × Nat × Option FieldType × Bool × Room := (prog_2_method_7_code, "ProcessHeaps$Collector", 4, none, false, { frames := 3, cells := 0, slots := 0, locals := 64 })
def yy_Ob_addItemsForFields : MethodName := ⟨"ProcessHeaps$HeapObject", "addItemsForFields", "()V"⟩
abbrev Y_Ob_addItemsForFields : ByteArray × String × Nat × Option FieldType × Bool × Room := (prog_3_method_4_code, "ProcessHeaps$HeapObject", 2, none, false, { frames := 2, cells := 0, slots := 0, locals := 42 })
def yy_Ob_addItemFor : MethodName := ⟨"ProcessHeaps$HeapObject", "addItemFor", "(LProcessHeaps$HeapObject;)V"⟩
abbrev Y_Ob_addItemFor : ByteArray × String × Nat × Option FieldType × Bool × Room := (prog_3_method_5_code, "ProcessHeaps$HeapObject", 2, none, false, { frames := 1, cells := 0, slots := 0, locals := 21 })
def yy_PH_dropChargesOfDead : MethodName := ⟨"ProcessHeaps", "dropChargesOfDead", "()V"⟩
abbrev Y_PH_dropChargesOfDead : ByteArray × String × Nat × Option FieldType × Bool × Room := (prog_1_method_36_code, "ProcessHeaps", 2, none, false, { frames := 4, cells := 0, slots := 0, locals := 88 })
def yy_Me_putObject : MethodName := ⟨"ProcessHeaps$Memory", "putObject", "(LProcessHeaps$Page;II)LProcessHeaps$HeapObject;"⟩
abbrev Y_Me_putObject : ByteArray × String × Nat × Option FieldType × Bool × Room := (prog_6_method_9_code, "ProcessHeaps$Memory", 5, (some (.object "ProcessHeaps$HeapObject")), false, { frames := 7, cells := 3, slots := 109, locals := 169 })
def yy_Ob_init : MethodName := ⟨"ProcessHeaps$HeapObject", "<init>", "(LProcessHeaps$Page;II)V"⟩
abbrev Y_Ob_init : ByteArray × String × Nat × Option FieldType × Bool × Room := (prog_3_method_1_code, "ProcessHeaps$HeapObject", 4, none, true, { frames := 1, cells := 1, slots := 3, locals := 20 })
def yy_PH_store : MethodName := ⟨"ProcessHeaps", "store", "(IIII)I"⟩
abbrev Y_PH_store : ByteArray × String × Nat × Option FieldType × Bool × Room := (prog_1_method_6_code, "ProcessHeaps", 8, (some .int), false, { frames := 3, cells := 0, slots := 0, locals := 66 })
def yy_PH_isField : MethodName := ⟨"ProcessHeaps", "isField", "(I)Z"⟩
abbrev Y_PH_isField : ByteArray × String × Nat × Option FieldType × Bool × Room := (prog_1_method_23_code, "ProcessHeaps", 1, (some .boolean), false, { frames := 0, cells := 0, slots := 0, locals := 0 })
def yy_PH_mayChange : MethodName := ⟨"ProcessHeaps", "mayChange", "(LProcessHeaps$HeapProcess;LProcessHeaps$HeapObject;)Z"⟩
abbrev Y_PH_mayChange : ByteArray × String × Nat × Option FieldType × Bool × Room := (prog_1_method_30_code, "ProcessHeaps", 4, (some .boolean), false, { frames := 2, cells := 0, slots := 0, locals := 41 })
def yy_PH_mayName : MethodName := ⟨"ProcessHeaps", "mayName", "(LProcessHeaps$HeapProcess;LProcessHeaps$HeapObject;LProcessHeaps$HeapObject;)Z"⟩
abbrev Y_PH_mayName : ByteArray × String × Nat × Option FieldType × Bool × Room := (prog_1_method_31_code, "ProcessHeaps", 6, (some .boolean), false, { frames := 2, cells := 0, slots := 0, locals := 41 })
def yy_Ob_setField : MethodName := ⟨"ProcessHeaps$HeapObject", "setField", "(ILProcessHeaps$HeapObject;)V"⟩
abbrev Y_Ob_setField : ByteArray × String × Nat × Option FieldType × Bool × Room := (prog_3_method_3_code, "ProcessHeaps$HeapObject", 3, none, false, { frames := 2, cells := 0, slots := 0, locals := 42 })
def yy_PH_load : MethodName := ⟨"ProcessHeaps", "load", "(IIII)I"⟩
abbrev Y_PH_load : ByteArray × String × Nat × Option FieldType × Bool × Room := (prog_1_method_7_code, "ProcessHeaps", 8, (some .int), false, { frames := 3, cells := 0, slots := 0, locals := 64 })
def yy_PH_mayHold : MethodName := ⟨"ProcessHeaps", "mayHold", "(LProcessHeaps$HeapProcess;LProcessHeaps$HeapObject;)Z"⟩
abbrev Y_PH_mayHold : ByteArray × String × Nat × Option FieldType × Bool × Room := (prog_1_method_32_code, "ProcessHeaps", 4, (some .boolean), false, { frames := 2, cells := 0, slots := 0, locals := 41 })
def yy_PH_move : MethodName := ⟨"ProcessHeaps", "move", "(III)Z"⟩
abbrev Y_PH_move : ByteArray × String × Nat × Option FieldType × Bool × Room := (prog_1_method_8_code, "ProcessHeaps", 5, (some .boolean), false, { frames := 2, cells := 0, slots := 0, locals := 42 })
def yy_PH_begin : MethodName := ⟨"ProcessHeaps", "begin", "(I)I"⟩
abbrev Y_PH_begin : ByteArray × String × Nat × Option FieldType × Bool × Room := (prog_1_method_9_code, "ProcessHeaps", 3, (some .int), false, { frames := 2, cells := 0, slots := 0, locals := 42 })
def yy_PH_freeze : MethodName := ⟨"ProcessHeaps", "freeze", "(II)I"⟩
abbrev Y_PH_freeze : ByteArray × String × Nat × Option FieldType × Bool × Room := (prog_1_method_10_code, "ProcessHeaps", 6, (some .int), false, { frames := 4, cells := 0, slots := 0, locals := 87 })
def yy_Me_endSinglePayment : MethodName := ⟨"ProcessHeaps$Memory", "endSinglePayment", "(I)V"⟩
abbrev Y_Me_endSinglePayment : ByteArray × String × Nat × Option FieldType × Bool × Room := (prog_6_method_12_code, "ProcessHeaps$Memory", 4, none, false, { frames := 3, cells := 0, slots := 0, locals := 64 })
def yy_Pr_addCharge : MethodName := ⟨"ProcessHeaps$HeapProcess", "addCharge", "(I)V"⟩
abbrev Y_Pr_addCharge : ByteArray × String × Nat × Option FieldType × Bool × Room := (prog_4_method_5_code, "ProcessHeaps$HeapProcess", 2, none, false, { frames := 0, cells := 0, slots := 0, locals := 0 })
def yy_PH_lookup : MethodName := ⟨"ProcessHeaps", "lookup", "(III)I"⟩
abbrev Y_PH_lookup : ByteArray × String × Nat × Option FieldType × Bool × Room := (prog_1_method_11_code, "ProcessHeaps", 6, (some .int), false, { frames := 7, cells := 0, slots := 0, locals := 175 })
def yy_Me_countPages : MethodName := ⟨"ProcessHeaps$Memory", "countPages", "(I)I"⟩
abbrev Y_Me_countPages : ByteArray × String × Nat × Option FieldType × Bool × Room := (prog_6_method_2_code, "ProcessHeaps$Memory", 4, (some .int), false, { frames := 3, cells := 0, slots := 0, locals := 64 })
def yy_PH_collect : MethodName := ⟨"ProcessHeaps", "collect", "(I)I"⟩
abbrev Y_PH_collect : ByteArray × String × Nat × Option FieldType × Bool × Room := (prog_1_method_12_code, "ProcessHeaps", 2, (some .int), false, { frames := 7, cells := 0, slots := 0, locals := 175 })
def yy_PH_state : MethodName := ⟨"ProcessHeaps", "state", "(I)I"⟩
abbrev Y_PH_state : ByteArray × String × Nat × Option FieldType × Bool × Room := (prog_1_method_13_code, "ProcessHeaps", 2, (some .int), false, { frames := 1, cells := 0, slots := 0, locals := 21 })
def yy_PH_pages : MethodName := ⟨"ProcessHeaps", "pages", "(I)I"⟩
abbrev Y_PH_pages : ByteArray × String × Nat × Option FieldType × Bool × Room := (prog_1_method_14_code, "ProcessHeaps", 2, (some .int), false, { frames := 4, cells := 0, slots := 0, locals := 87 })
def yy_PH_objects : MethodName := ⟨"ProcessHeaps", "objects", "(I)I"⟩
abbrev Y_PH_objects : ByteArray × String × Nat × Option FieldType × Bool × Room := (prog_1_method_15_code, "ProcessHeaps", 2, (some .int), false, { frames := 4, cells := 0, slots := 0, locals := 87 })
def yy_Me_countObjects : MethodName := ⟨"ProcessHeaps$Memory", "countObjects", "(I)I"⟩
abbrev Y_Me_countObjects : ByteArray × String × Nat × Option FieldType × Bool × Room := (prog_6_method_4_code, "ProcessHeaps$Memory", 4, (some .int), false, { frames := 3, cells := 0, slots := 0, locals := 64 })
def yy_PH_items : MethodName := ⟨"ProcessHeaps", "items", "(I)I"⟩
abbrev Y_PH_items : ByteArray × String × Nat × Option FieldType × Bool × Room := (prog_1_method_16_code, "ProcessHeaps", 2, (some .int), false, { frames := 4, cells := 0, slots := 0, locals := 87 })
def yy_Me_countItems : MethodName := ⟨"ProcessHeaps$Memory", "countItems", "(I)I"⟩
abbrev Y_Me_countItems : ByteArray × String × Nat × Option FieldType × Bool × Room := (prog_6_method_5_code, "ProcessHeaps$Memory", 4, (some .int), false, { frames := 3, cells := 0, slots := 0, locals := 64 })
def yy_PH_use : MethodName := ⟨"ProcessHeaps", "use", "(I)I"⟩
abbrev Y_PH_use : ByteArray × String × Nat × Option FieldType × Bool × Room := (prog_1_method_17_code, "ProcessHeaps", 2, (some .int), false, { frames := 6, cells := 0, slots := 0, locals := 134 })
def yy_PH_room : MethodName := ⟨"ProcessHeaps", "room", "(I)I"⟩
abbrev Y_PH_room : ByteArray × String × Nat × Option FieldType × Bool × Room := (prog_1_method_18_code, "ProcessHeaps", 2, (some .int), false, { frames := 6, cells := 0, slots := 0, locals := 134 })
def yy_PH_shares : MethodName := ⟨"ProcessHeaps", "shares", "(II)Z"⟩
abbrev Y_PH_shares : ByteArray × String × Nat × Option FieldType × Bool × Room := (prog_1_method_19_code, "ProcessHeaps", 4, (some .boolean), false, { frames := 2, cells := 0, slots := 0, locals := 42 })
def yy_PH_where : MethodName := ⟨"ProcessHeaps", "where", "(II)I"⟩
abbrev Y_PH_where : ByteArray × String × Nat × Option FieldType × Bool × Room := (prog_1_method_20_code, "ProcessHeaps", 5, (some .int), false, { frames := 2, cells := 0, slots := 0, locals := 42 })
def yy_PH_tag : MethodName := ⟨"ProcessHeaps", "tag", "(II)I"⟩
abbrev Y_PH_tag : ByteArray × String × Nat × Option FieldType × Bool × Room := (prog_1_method_21_code, "ProcessHeaps", 5, (some .int), false, { frames := 2, cells := 0, slots := 0, locals := 42 })
def yy_La_cell : MethodName := ⟨"ProcessHeapsLaw", "cell", "([II)I"⟩
abbrev Y_La_cell : ByteArray × String × Nat × Option FieldType × Bool × Room := (method_2_code, "ProcessHeapsLaw", 2, (some .int), false, { frames := 0, cells := 0, slots := 0, locals := 0 })
def yy_Mo_init : MethodName := ⟨"ProcessHeapsModel", "<init>", "(I)V"⟩
abbrev Y_Mo_init : ByteArray × String × Nat × Option FieldType × Bool × Room := (prog_9_method_1_code, "ProcessHeapsModel", 2, none, true, { frames := 1, cells := 22, slots := 1568, locals := 20 })
def yy_Mo_spawn : MethodName := ⟨"ProcessHeapsModel", "spawn", "(IIZ)I"⟩
abbrev Y_Mo_spawn : ByteArray × String × Nat × Option FieldType × Bool × Room := (prog_9_method_17_code, "ProcessHeapsModel", 4, (some .int), false, { frames := 3, cells := 0, slots := 0, locals := 72 })
def yy_Mo_lives : MethodName := ⟨"ProcessHeapsModel", "lives", "(I)Z"⟩
abbrev Y_Mo_lives : ByteArray × String × Nat × Option FieldType × Bool × Room := (prog_9_method_2_code, "ProcessHeapsModel", 2, (some .boolean), false, { frames := 0, cells := 0, slots := 0, locals := 0 })
def yy_Mo_rest : MethodName := ⟨"ProcessHeapsModel", "rest", "(I)I"⟩
abbrev Y_Mo_rest : ByteArray × String × Nat × Option FieldType × Bool × Room := (prog_9_method_6_code, "ProcessHeapsModel", 5, (some .int), false, { frames := 2, cells := 0, slots := 0, locals := 48 })
def yy_Mo_work : MethodName := ⟨"ProcessHeapsModel", "work", "()V"⟩
abbrev Y_Mo_work : ByteArray × String × Nat × Option FieldType × Bool × Room := (prog_9_method_5_code, "ProcessHeapsModel", 6, none, false, { frames := 1, cells := 0, slots := 0, locals := 23 })
def yy_Mo_frozen : MethodName := ⟨"ProcessHeapsModel", "frozen", "(I)Z"⟩
abbrev Y_Mo_frozen : ByteArray × String × Nat × Option FieldType × Bool × Room := (prog_9_method_4_code, "ProcessHeapsModel", 2, (some .boolean), false, { frames := 0, cells := 0, slots := 0, locals := 0 })
def yy_Mo_pages : MethodName := ⟨"ProcessHeapsModel", "pages", "(I)I"⟩
abbrev Y_Mo_pages : ByteArray × String × Nat × Option FieldType × Bool × Room := (prog_9_method_31_code, "ProcessHeapsModel", 4, (some .int), false, { frames := 0, cells := 0, slots := 0, locals := 0 })
def yy_Mo_kill : MethodName := ⟨"ProcessHeapsModel", "kill", "(I)Z"⟩
abbrev Y_Mo_kill : ByteArray × String × Nat × Option FieldType × Bool × Room := (prog_9_method_18_code, "ProcessHeapsModel", 2, (some .boolean), false, { frames := 3, cells := 0, slots := 0, locals := 70 })
def yy_Mo_die : MethodName := ⟨"ProcessHeapsModel", "die", "(I)V"⟩
abbrev Y_Mo_die : ByteArray × String × Nat × Option FieldType × Bool × Room := (prog_9_method_16_code, "ProcessHeapsModel", 4, none, false, { frames := 2, cells := 0, slots := 0, locals := 47 })
def yy_Mo_names : MethodName := ⟨"ProcessHeapsModel", "names", "(II)Z"⟩
abbrev Y_Mo_names : ByteArray × String × Nat × Option FieldType × Bool × Room := (prog_9_method_8_code, "ProcessHeapsModel", 5, (some .boolean), false, { frames := 0, cells := 0, slots := 0, locals := 0 })
def yy_Mo_merge : MethodName := ⟨"ProcessHeapsModel", "merge", "(I)V"⟩
abbrev Y_Mo_merge : ByteArray × String × Nat × Option FieldType × Bool × Room := (prog_9_method_15_code, "ProcessHeapsModel", 5, none, false, { frames := 0, cells := 0, slots := 0, locals := 0 })
def yy_Mo_vanish : MethodName := ⟨"ProcessHeapsModel", "vanish", "()V"⟩
abbrev Y_Mo_vanish : ByteArray × String × Nat × Option FieldType × Bool × Room := (prog_9_method_14_code, "ProcessHeapsModel", 4, none, false, { frames := 1, cells := 0, slots := 0, locals := 24 })
def yy_Mo_free : MethodName := ⟨"ProcessHeapsModel", "free", "(I)V"⟩
abbrev Y_Mo_free : ByteArray × String × Nat × Option FieldType × Bool × Room := (prog_9_method_7_code, "ProcessHeapsModel", 5, none, false, { frames := 0, cells := 0, slots := 0, locals := 0 })
def yy_Mo_mode : MethodName := ⟨"ProcessHeapsModel", "mode", "(IZ)Z"⟩
abbrev Y_Mo_mode : ByteArray × String × Nat × Option FieldType × Bool × Room := (prog_9_method_19_code, "ProcessHeapsModel", 3, (some .boolean), false, { frames := 3, cells := 0, slots := 0, locals := 70 })
def yy_Mo_make : MethodName := ⟨"ProcessHeapsModel", "make", "(IIII)I"⟩
abbrev Y_Mo_make : ByteArray × String × Nat × Option FieldType × Bool × Room := (prog_9_method_22_code, "ProcessHeapsModel", 11, (some .int), false, { frames := 4, cells := 0, slots := 0, locals := 96 })
def yy_Mo_isRegister : MethodName := ⟨"ProcessHeapsModel", "isRegister", "(I)Z"⟩
abbrev Y_Mo_isRegister : ByteArray × String × Nat × Option FieldType × Bool × Room := (prog_9_method_3_code, "ProcessHeapsModel", 1, (some .boolean), false, { frames := 0, cells := 0, slots := 0, locals := 0 })
def yy_Mo_find : MethodName := ⟨"ProcessHeapsModel", "find", "(III)I"⟩
abbrev Y_Mo_find : ByteArray × String × Nat × Option FieldType × Bool × Room := (prog_9_method_21_code, "ProcessHeapsModel", 5, (some .int), false, { frames := 3, cells := 0, slots := 0, locals := 72 })
def yy_Mo_fitting : MethodName := ⟨"ProcessHeapsModel", "fitting", "(II)I"⟩
abbrev Y_Mo_fitting : ByteArray × String × Nat × Option FieldType × Bool × Room := (prog_9_method_20_code, "ProcessHeapsModel", 7, (some .int), false, { frames := 0, cells := 0, slots := 0, locals := 0 })
def yy_Mo_sweep : MethodName := ⟨"ProcessHeapsModel", "sweep", "(I)I"⟩
abbrev Y_Mo_sweep : ByteArray × String × Nat × Option FieldType × Bool × Room := (prog_9_method_13_code, "ProcessHeapsModel", 6, (some .int), false, { frames := 3, cells := 0, slots := 0, locals := 70 })
def yy_Mo_reach : MethodName := ⟨"ProcessHeapsModel", "reach", "(I)V"⟩
abbrev Y_Mo_reach : ByteArray × String × Nat × Option FieldType × Bool × Room := (prog_9_method_11_code, "ProcessHeapsModel", 6, none, false, { frames := 2, cells := 0, slots := 0, locals := 45 })
def yy_Mo_root : MethodName := ⟨"ProcessHeapsModel", "root", "(II)Z"⟩
abbrev Y_Mo_root : ByteArray × String × Nat × Option FieldType × Bool × Room := (prog_9_method_10_code, "ProcessHeapsModel", 5, (some .boolean), false, { frames := 1, cells := 0, slots := 0, locals := 21 })
def yy_Mo_inField : MethodName := ⟨"ProcessHeapsModel", "inField", "(II)Z"⟩
abbrev Y_Mo_inField : ByteArray × String × Nat × Option FieldType × Bool × Room := (prog_9_method_12_code, "ProcessHeapsModel", 5, (some .boolean), false, { frames := 0, cells := 0, slots := 0, locals := 0 })
def yy_Mo_holds : MethodName := ⟨"ProcessHeapsModel", "holds", "(II)Z"⟩
abbrev Y_Mo_holds : ByteArray × String × Nat × Option FieldType × Bool × Room := (prog_9_method_9_code, "ProcessHeapsModel", 6, (some .boolean), false, { frames := 0, cells := 0, slots := 0, locals := 0 })
def yy_Mo_store : MethodName := ⟨"ProcessHeapsModel", "store", "(IIII)I"⟩
abbrev Y_Mo_store : ByteArray × String × Nat × Option FieldType × Bool × Room := (prog_9_method_23_code, "ProcessHeapsModel", 10, (some .int), false, { frames := 1, cells := 0, slots := 0, locals := 21 })
def yy_Mo_load : MethodName := ⟨"ProcessHeapsModel", "load", "(IIII)I"⟩
abbrev Y_Mo_load : ByteArray × String × Nat × Option FieldType × Bool × Room := (prog_9_method_24_code, "ProcessHeapsModel", 8, (some .int), false, { frames := 1, cells := 0, slots := 0, locals := 21 })
def yy_Mo_move : MethodName := ⟨"ProcessHeapsModel", "move", "(III)Z"⟩
abbrev Y_Mo_move : ByteArray × String × Nat × Option FieldType × Bool × Room := (prog_9_method_25_code, "ProcessHeapsModel", 4, (some .boolean), false, { frames := 1, cells := 0, slots := 0, locals := 21 })
def yy_Mo_begin : MethodName := ⟨"ProcessHeapsModel", "begin", "(I)I"⟩
abbrev Y_Mo_begin : ByteArray × String × Nat × Option FieldType × Bool × Room := (prog_9_method_26_code, "ProcessHeapsModel", 3, (some .int), false, { frames := 1, cells := 0, slots := 0, locals := 21 })
def yy_Mo_freeze : MethodName := ⟨"ProcessHeapsModel", "freeze", "(II)I"⟩
abbrev Y_Mo_freeze : ByteArray × String × Nat × Option FieldType × Bool × Room := (prog_9_method_27_code, "ProcessHeapsModel", 5, (some .int), false, { frames := 1, cells := 0, slots := 0, locals := 21 })
def yy_Mo_lookup : MethodName := ⟨"ProcessHeapsModel", "lookup", "(III)I"⟩
abbrev Y_Mo_lookup : ByteArray × String × Nat × Option FieldType × Bool × Room := (prog_9_method_28_code, "ProcessHeapsModel", 5, (some .int), false, { frames := 4, cells := 0, slots := 0, locals := 95 })
def yy_Mo_collect : MethodName := ⟨"ProcessHeapsModel", "collect", "(I)I"⟩
abbrev Y_Mo_collect : ByteArray × String × Nat × Option FieldType × Bool × Room := (prog_9_method_29_code, "ProcessHeapsModel", 2, (some .int), false, { frames := 4, cells := 0, slots := 0, locals := 95 })
def yy_Mo_state : MethodName := ⟨"ProcessHeapsModel", "state", "(I)I"⟩
abbrev Y_Mo_state : ByteArray × String × Nat × Option FieldType × Bool × Room := (prog_9_method_30_code, "ProcessHeapsModel", 2, (some .int), false, { frames := 0, cells := 0, slots := 0, locals := 0 })
def yy_Mo_objects : MethodName := ⟨"ProcessHeapsModel", "objects", "(I)I"⟩
abbrev Y_Mo_objects : ByteArray × String × Nat × Option FieldType × Bool × Room := (prog_9_method_32_code, "ProcessHeapsModel", 4, (some .int), false, { frames := 0, cells := 0, slots := 0, locals := 0 })
def yy_Mo_items : MethodName := ⟨"ProcessHeapsModel", "items", "(I)I"⟩
abbrev Y_Mo_items : ByteArray × String × Nat × Option FieldType × Bool × Room := (prog_9_method_33_code, "ProcessHeapsModel", 4, (some .int), false, { frames := 0, cells := 0, slots := 0, locals := 0 })
def yy_Mo_use : MethodName := ⟨"ProcessHeapsModel", "use", "(I)I"⟩
abbrev Y_Mo_use : ByteArray × String × Nat × Option FieldType × Bool × Room := (prog_9_method_35_code, "ProcessHeapsModel", 2, (some .int), false, { frames := 3, cells := 0, slots := 0, locals := 69 })
def yy_Mo_exists : MethodName := ⟨"ProcessHeapsModel", "exists", "(I)Z"⟩
abbrev Y_Mo_exists : ByteArray × String × Nat × Option FieldType × Bool × Room := (prog_9_method_34_code, "ProcessHeapsModel", 2, (some .boolean), false, { frames := 2, cells := 0, slots := 0, locals := 48 })
def yy_Mo_room : MethodName := ⟨"ProcessHeapsModel", "room", "(I)I"⟩
abbrev Y_Mo_room : ByteArray × String × Nat × Option FieldType × Bool × Room := (prog_9_method_36_code, "ProcessHeapsModel", 2, (some .int), false, { frames := 3, cells := 0, slots := 0, locals := 72 })
def yy_Mo_shares : MethodName := ⟨"ProcessHeapsModel", "shares", "(II)Z"⟩
abbrev Y_Mo_shares : ByteArray × String × Nat × Option FieldType × Bool × Room := (prog_9_method_37_code, "ProcessHeapsModel", 3, (some .boolean), false, { frames := 1, cells := 0, slots := 0, locals := 21 })
def yy_Mo_where : MethodName := ⟨"ProcessHeapsModel", "where", "(II)I"⟩
abbrev Y_Mo_where : ByteArray × String × Nat × Option FieldType × Bool × Room := (prog_9_method_38_code, "ProcessHeapsModel", 4, (some .int), false, { frames := 1, cells := 0, slots := 0, locals := 21 })
def yy_Mo_tag : MethodName := ⟨"ProcessHeapsModel", "tag", "(II)I"⟩
abbrev Y_Mo_tag : ByteArray × String × Nat × Option FieldType × Bool × Room := (prog_9_method_39_code, "ProcessHeapsModel", 4, (some .int), false, { frames := 1, cells := 0, slots := 0, locals := 21 })
end
section
/-! MEMORY: values, a memory of cells (kind, length, ints, references, the next address), and what it is for a heap to hold it. Kinds: 0 nothing; c + 1 an object of class c of vwCl; 100 + t an array of the type t of mm_ty (105: an array that is never written) -/
abbrev mm_V : Type := Int32 ⊕ Option Nat
def mm_v (x : mm_V) : Value := match x with
  | .inl n => .int n
  | .inr o => va_rf o
theorem mm_v_cat (x : mm_V) : (mm_v x).category = 1 := by
  rcases x with n | o
  · rfl
  · cases o <;> rfl
abbrev mm_M : Type := (Nat → Nat) × (Nat → Nat) × (Nat → Nat → Int32) × (Nat → Nat → Option Nat) × Nat
def mm_k (M : mm_M) (a : Nat) : Nat := M.1 a
def mm_l (M : mm_M) (a : Nat) : Nat := M.2.1 a
def mm_i (M : mm_M) (a j : Nat) : Int32 := M.2.2.1 a j
def mm_p (M : mm_M) (a j : Nat) : Option Nat := M.2.2.2.1 a j
def mm_z (M : mm_M) : Nat := M.2.2.2.2
def mm_si (M : mm_M) (a j : Nat) (x : Int32) : mm_M := (M.1, M.2.1, fun b k => if b = a ∧ k = j then x else M.2.2.1 b k, M.2.2.2.1, M.2.2.2.2)
def mm_sp (M : mm_M) (a j : Nat) (x : Option Nat) : mm_M := (M.1, M.2.1, M.2.2.1, fun b k => if b = a ∧ k = j then x else M.2.2.2.1 b k, M.2.2.2.2)
def mm_sf (M : mm_M) (a : Nat) (f : Nat → Option Nat) : mm_M := (M.1, M.2.1, M.2.2.1, fun b k => if b = a then f k else M.2.2.2.1 b k, M.2.2.2.2)
def mm_nw (M : mm_M) (kd n : Nat) : mm_M := (fun b => if b = M.2.2.2.2 then kd else M.1 b, fun b => if b = M.2.2.2.2 then n else M.2.1 b, fun b k => if b = M.2.2.2.2 then 0 else M.2.2.1 b k, fun b k => if b = M.2.2.2.2 then none else M.2.2.2.1 b k, M.2.2.2.2 + 1)
theorem mm_k_si (M : mm_M) (a j : Nat) (x : Int32) (b : Nat) : mm_k (mm_si M a j x) b = mm_k M b := rfl
theorem mm_l_si (M : mm_M) (a j : Nat) (x : Int32) (b : Nat) : mm_l (mm_si M a j x) b = mm_l M b := rfl
theorem mm_p_si (M : mm_M) (a j : Nat) (x : Int32) (b k : Nat) : mm_p (mm_si M a j x) b k = mm_p M b k := rfl
theorem mm_z_si (M : mm_M) (a j : Nat) (x : Int32) : mm_z (mm_si M a j x) = mm_z M := rfl
theorem mm_i_si (M : mm_M) (a j : Nat) (x : Int32) (b k : Nat) : mm_i (mm_si M a j x) b k = if b = a ∧ k = j then x else mm_i M b k := rfl
theorem mm_k_sp (M : mm_M) (a j : Nat) (x : Option Nat) (b : Nat) : mm_k (mm_sp M a j x) b = mm_k M b := rfl
theorem mm_l_sp (M : mm_M) (a j : Nat) (x : Option Nat) (b : Nat) : mm_l (mm_sp M a j x) b = mm_l M b := rfl
theorem mm_i_sp (M : mm_M) (a j : Nat) (x : Option Nat) (b k : Nat) : mm_i (mm_sp M a j x) b k = mm_i M b k := rfl
theorem mm_z_sp (M : mm_M) (a j : Nat) (x : Option Nat) : mm_z (mm_sp M a j x) = mm_z M := rfl
theorem mm_p_sp (M : mm_M) (a j : Nat) (x : Option Nat) (b k : Nat) : mm_p (mm_sp M a j x) b k = if b = a ∧ k = j then x else mm_p M b k := rfl
theorem mm_k_sf (M : mm_M) (a : Nat) (f : Nat → Option Nat) (b : Nat) : mm_k (mm_sf M a f) b = mm_k M b := rfl
theorem mm_l_sf (M : mm_M) (a : Nat) (f : Nat → Option Nat) (b : Nat) : mm_l (mm_sf M a f) b = mm_l M b := rfl
theorem mm_i_sf (M : mm_M) (a : Nat) (f : Nat → Option Nat) (b k : Nat) : mm_i (mm_sf M a f) b k = mm_i M b k := rfl
theorem mm_z_sf (M : mm_M) (a : Nat) (f : Nat → Option Nat) : mm_z (mm_sf M a f) = mm_z M := rfl
theorem mm_p_sf (M : mm_M) (a : Nat) (f : Nat → Option Nat) (b k : Nat) : mm_p (mm_sf M a f) b k = if b = a then f k else mm_p M b k := rfl
theorem mm_k_nw (M : mm_M) (kd n b : Nat) : mm_k (mm_nw M kd n) b = if b = mm_z M then kd else mm_k M b := rfl
theorem mm_l_nw (M : mm_M) (kd n b : Nat) : mm_l (mm_nw M kd n) b = if b = mm_z M then n else mm_l M b := rfl
theorem mm_i_nw (M : mm_M) (kd n b k : Nat) : mm_i (mm_nw M kd n) b k = if b = mm_z M then 0 else mm_i M b k := rfl
theorem mm_p_nw (M : mm_M) (kd n b k : Nat) : mm_p (mm_nw M kd n) b k = if b = mm_z M then none else mm_p M b k := rfl
theorem mm_z_nw (M : mm_M) (kd n : Nat) : mm_z (mm_nw M kd n) = mm_z M + 1 := rfl
/-- is a slot one of references? -/
def mm_rd (d : String) : Bool := !(decide (d = "I") || decide (d = "Z"))
def mm_rs (k j : Nat) : Bool := if k < 100 then (match vwCl[k - 1]? with | some r => mm_rd (r.2.1 j).2.2.1 | none => false) else decide (102 ≤ k)
def mm_c (M : mm_M) (a j : Nat) : Value := if mm_rs (mm_k M a) j = true then va_rf (mm_p M a j) else .int (mm_i M a j)
/-- the classes' numbers, the arrays' classes, the first address that may be written, the array that is never written, the class object of Object[] -/
abbrev mm_G : Type := va_G × (Nat → ClassId) × Nat × Nat × Nat
def mm_tys (E : Nat → ClassId) : List (ClassId × FieldType) := [(E 0, .int), (E 1, .boolean), (E 2, .object "java/lang/Object"), (E 3, .object "ProcessHeaps$HeapObject"), (E 4, .object "ProcessHeaps$HeapProcess"), (E 5, .object "java/lang/Object")]
def mm_at (G : mm_G) (M : mm_M) (H : Heap) (a : Nat) : Prop :=
  (mm_k M a < 100 ∧ G.2.2.1 ≤ a ∧ ∃ r : vw_C, vwCl[mm_k M a - 1]? = some r ∧ mm_l M a = r.2.2 ∧ t_OB a (G.1.1 (mm_k M a - 1)) r.2.2 (G.1.2 (mm_k M a - 1)) H (mm_c M a)) ∨
  (100 ≤ mm_k M a ∧ mm_k M a < 106 ∧ (mm_k M a ≠ 105 → G.2.2.1 ≤ a) ∧ H[a]? = some (arrV (G.2.1 (mm_k M a - 100)) (mm_l M a) (mm_c M a)))
def mm_H (G : mm_G) (M : mm_M) (H : Heap) : Prop := H.size = mm_z M ∧ ∀ a, mm_k M a ≠ 0 → mm_at G M H a
/-- what a later memory keeps of an earlier one -/
def mm_X (M0 M : mm_M) : Prop := mm_z M0 ≤ mm_z M ∧ (∀ a, mm_k M0 a ≠ 0 → mm_k M a = mm_k M0 a ∧ mm_l M a = mm_l M0 a) ∧ ∀ a, mm_k M a ≠ 0 → mm_k M0 a ≠ 0 ∨ mm_z M0 ≤ a
theorem mm_X.rf (M : mm_M) : mm_X M M := ⟨Nat.le_refl _, fun _ _ => ⟨rfl, rfl⟩, fun _ h => Or.inl h⟩
theorem mm_X.tr {M0 M1 M2 : mm_M} (h1 : mm_X M0 M1) (h2 : mm_X M1 M2) : mm_X M0 M2 := by
  refine ⟨Nat.le_trans h1.1 h2.1, fun a h => ?_, fun a h => ?_⟩
  · have e1 := h1.2.1 a h
    have e2 := h2.2.1 a (by rw [e1.1]; exact h)
    exact ⟨e2.1.trans e1.1, e2.2.trans e1.2⟩
  · rcases h2.2.2 a h with h3 | h3
    · exact h1.2.2 a h3
    · exact Or.inr (Nat.le_trans h1.1 h3)
def mm_A (G : mm_G) (M0 : mm_M) : Nat → Prop := fun q => G.2.2.1 ≤ q ∧ (mm_k M0 q ≠ 0 ∨ mm_z M0 ≤ q)
theorem mm_A.of {G : mm_G} {M0 M : mm_M} (h : mm_X M0 M) {q : Nat} (hq : mm_A G M q) : mm_A G M0 q := by
  refine ⟨hq.1, ?_⟩
  rcases hq.2 with h1 | h1
  · exact h.2.2 q h1
  · exact Or.inr (Nat.le_trans h.1 h1)
theorem mm_at.lt {G : mm_G} {M : mm_M} {H : Heap} {a : Nat} (h : mm_at G M H a) : a < H.size := by
  rcases h with ⟨-, -, r, -, -, cell, h1, -⟩ | ⟨-, -, -, h1⟩
  · exact (Array.getElem?_eq_some_iff.mp h1).1
  · exact (Array.getElem?_eq_some_iff.mp h1).1
theorem mm_at.same {G : mm_G} {M M1 : mm_M} {H H1 : Heap} {a : Nat} (h : mm_at G M H a) (hq : H1[a]? = H[a]?) (hk : mm_k M1 a = mm_k M a) (hl : mm_l M1 a = mm_l M a) (hi : ∀ j, mm_i M1 a j = mm_i M a j) (hp : ∀ j, mm_p M1 a j = mm_p M a j) : mm_at G M1 H1 a := by
  have hc : mm_c M1 a = mm_c M a := by
    funext j
    unfold mm_c
    rw [hk, hi, hp]
  unfold mm_at
  rw [hk, hl, hc]
  rcases h with ⟨h1, h2, r, h3, h4, h5⟩ | ⟨h1, h2, h3, h4⟩
  · exact Or.inl ⟨h1, h2, r, h3, h4, h5.kept hq⟩
  · exact Or.inr ⟨h1, h2, h3, by rw [hq]; exact h4⟩
/-- one cell is written -/
theorem mm_H.put {G : mm_G} {M M1 : mm_M} {H H1 : Heap} {a : Nat} (h : mm_H G M H) (hz : H1.size = H.size) (oq : ∀ q : Nat, q ≠ a → H1[q]? = H[q]?) (e0 : mm_z M1 = mm_z M) (e1 : ∀ b, mm_k M1 b = mm_k M b) (e2 : ∀ b, mm_l M1 b = mm_l M b) (e3 : ∀ b, b ≠ a → ∀ j, mm_i M1 b j = mm_i M b j) (e4 : ∀ b, b ≠ a → ∀ j, mm_p M1 b j = mm_p M b j) (ha : mm_at G M1 H1 a) : mm_H G M1 H1 := by
  refine ⟨by rw [hz, h.1, e0], fun b hb => ?_⟩
  by_cases hba : b = a
  · subst hba
    exact ha
  · exact (h.2 b (by rw [← e1]; exact hb)).same (oq b hba) (e1 b) (e2 b) (e3 b hba) (e4 b hba)
/-- a cell is made -/
theorem mm_H.new {G : mm_G} {M : mm_M} {H H1 : Heap} {kd n : Nat} (h : mm_H G M H) (hz : H1.size = H.size + 1) (oq : ∀ q : Nat, q < H.size → H1[q]? = H[q]?) (ha : mm_at G (mm_nw M kd n) H1 (mm_z M)) : mm_H G (mm_nw M kd n) H1 := by
  refine ⟨by rw [hz, h.1]; rfl, fun b hb => ?_⟩
  by_cases hba : b = mm_z M
  · subst hba
    exact ha
  · have hb' : mm_k M b ≠ 0 := by
      rw [mm_k_nw, if_neg hba] at hb
      exact hb
    have hat := h.2 b hb'
    exact hat.same (oq b hat.lt) (by rw [mm_k_nw, if_neg hba]) (by rw [mm_l_nw, if_neg hba]) (fun j => by rw [mm_i_nw, if_neg hba]) (fun j => by rw [mm_p_nw, if_neg hba])
theorem mm_X.si {M0 M : mm_M} {a j : Nat} {x : Int32} (h : mm_X M0 M) : mm_X M0 (mm_si M a j x) := h
theorem mm_X.sp {M0 M : mm_M} {a j : Nat} {x : Option Nat} (h : mm_X M0 M) : mm_X M0 (mm_sp M a j x) := h
theorem mm_X.sf {M0 M : mm_M} {a : Nat} {f : Nat → Option Nat} (h : mm_X M0 M) : mm_X M0 (mm_sf M a f) := h
theorem mm_fresh {G : mm_G} {M : mm_M} {H : Heap} (h : mm_H G M H) {a : Nat} (ha : mm_k M a ≠ 0) : a < mm_z M := by
  rw [← h.1]
  exact (h.2 a ha).lt
theorem mm_X.nw {G : mm_G} {M0 M : mm_M} {H : Heap} (hH : mm_H G M H) {kd n : Nat} (h : mm_X M0 M) : mm_X M0 (mm_nw M kd n) := by
  have h2 : mm_X M (mm_nw M kd n) := by
    refine ⟨Nat.le_succ _, fun a ha => ?_, fun a ha => ?_⟩
    · have hne : a ≠ mm_z M := Nat.ne_of_lt (mm_fresh hH ha)
      exact ⟨by rw [mm_k_nw, if_neg hne], by rw [mm_l_nw, if_neg hne]⟩
    · by_cases he : a = mm_z M
      · exact Or.inr (Nat.le_of_eq he.symm)
      · rw [mm_k_nw, if_neg he] at ha
        exact Or.inl ha
  exact h.tr h2
/-- locals: what is known of each -/
def mm_ps : Nat → List (Option mm_V) → List (Nat × Value)
  | _, [] => []
  | i, none :: t => mm_ps (i + 1) t
  | i, some v :: t => (i, mm_v v) :: mm_ps (i + 1) t
theorem mm_ps_mem : ∀ (ls : List (Option mm_V)) (i : Nat) (q : Nat × Value), q ∈ mm_ps i ls ↔ ∃ (j : Nat) (v : mm_V), ls[j]? = some (some v) ∧ q = (i + j, mm_v v)
  | [], i, q => by
    constructor
    · intro h
      cases h
    · rintro ⟨j, v, h, -⟩
      simp at h
  | none :: t, i, q => by
    show q ∈ mm_ps (i + 1) t ↔ _
    rw [mm_ps_mem t (i + 1) q]
    constructor
    · rintro ⟨j, v, h, e⟩
      exact ⟨j + 1, v, h, by rw [e]; congr 1; omega⟩
    · rintro ⟨j, v, h, e⟩
      cases j with
      | zero => simp at h
      | succ j => exact ⟨j, v, h, by rw [e]; congr 1; omega⟩
  | some w :: t, i, q => by
    show q ∈ (i, mm_v w) :: mm_ps (i + 1) t ↔ _
    rw [List.mem_cons, mm_ps_mem t (i + 1) q]
    constructor
    · rintro (h | ⟨j, v, h, e⟩)
      · exact ⟨0, w, rfl, h⟩
      · exact ⟨j + 1, v, h, by rw [e]; congr 1; omega⟩
    · rintro ⟨j, v, h, e⟩
      cases j with
      | zero =>
        simp at h
        subst h
        exact Or.inl e
      | succ j => exact Or.inr ⟨j, v, h, by rw [e]; congr 1; omega⟩
abbrev mm_L (la : Array Slot) (nL : Nat) (ls : List (Option mm_V)) : Prop := lv_has la nL (mm_ps 0 ls)
theorem mm_L.at {la : Array Slot} {nL : Nat} {ls : List (Option mm_V)} (h : mm_L la nL ls) {i : Nat} {v : mm_V} (hi : ls[i]? = some (some v)) : la[i]? = some (.val (mm_v v)) :=
  h.2.2 (i, mm_v v) ((mm_ps_mem ls 0 _).mpr ⟨i, v, hi, by rw [Nat.zero_add]⟩)
theorem mm_L.less {la : Array Slot} {nL : Nat} {ls ls' : List (Option mm_V)} (h : mm_L la nL ls) (hs : ∀ (i : Nat) (v : mm_V), ls'[i]? = some (some v) → ls[i]? = some (some v)) : mm_L la nL ls' := by
  refine ⟨h.1, h.2.1, fun q hq => ?_⟩
  obtain ⟨j, v, hj, e⟩ := (mm_ps_mem ls' 0 q).mp hq
  rw [e, Nat.zero_add]
  exact h.at (hs j v hj)
theorem mm_L.store {la : Array Slot} {nL i : Nat} {ls : List (Option mm_V)} {v : mm_V} (h : lv_has la nL ((i, mm_v v) :: (mm_ps 0 ls).filter (fun q => !(q.1 == i) && !(q.1 + 1 == i && q.2.category == 2)))) : mm_L la nL (ls.set i (some v)) := by
  refine ⟨h.1, h.2.1, fun q hq => ?_⟩
  obtain ⟨j, w, hj, e⟩ := (mm_ps_mem _ 0 q).mp hq
  rw [Nat.zero_add] at e
  by_cases hji : i = j
  · subst hji
    rw [List.getElem?_set] at hj
    by_cases hlt : i < ls.length
    · rw [if_pos rfl, if_pos hlt] at hj
      have hw : v = w := by simpa using hj
      subst hw
      rw [e]
      exact h.2.2 _ List.mem_cons_self
    · rw [if_pos rfl, if_neg hlt] at hj
      cases hj
  · rw [List.getElem?_set_ne hji] at hj
    refine h.2.2 q (List.mem_cons_of_mem _ (List.mem_filter.mpr ⟨(mm_ps_mem ls 0 q).mpr ⟨j, w, hj, by rw [e, Nat.zero_add]⟩, ?_⟩))
    rw [e]
    simp [mm_v_cat, Ne.symm hji]
theorem mm_L.entry (vs : List mm_V) {n : Nat} (h : vs.length ≤ n) : mm_L ((lg_sl (vs.map mm_v) ++ List.replicate (n - (lg_sl (vs.map mm_v)).length) Slot.unset).toArray) n (vs.map some) := by
  have e1 : ∀ vs : List mm_V, (lg_sl (vs.map mm_v)).length = vs.length := by
    intro vs
    induction vs with
    | nil => rfl
    | cons v t ih =>
      have hc := mm_v_cat v
      simp only [lg_sl, List.map_cons, List.flatMap_cons, List.length_append, List.length_cons] at ih ⊢
      rw [ih, hc]
      simp
      omega
  have e2 : ∀ (vs : List mm_V) (i : Nat), lv_args i (vs.map mm_v) = mm_ps i (vs.map some) := by
    intro vs
    induction vs with
    | nil => intro i; rfl
    | cons v t ih =>
      intro i
      show (i, mm_v v) :: lv_args (if (mm_v v).category = 2 then i + 2 else i + 1) (t.map mm_v) = (i, mm_v v) :: mm_ps (i + 1) (t.map some)
      rw [mm_v_cat, if_neg (by decide), ih]
  have h1 := lv_entry (vs.map mm_v) (n := n) (by rw [e1]; exact h)
  rw [e2] at h1
  exact h1
end
section
/-! JUDGEMENT: a method's run over the memory (mm_Z), a method's contract (mm_Ok), the entry, the frame -/
/-- the words of the tables that a call hands on -/
def mm_B : List Cond := lw_tbl.filter goodWord
/-- words of nest mates, casts, arrays over classes: they are handed on one by one -/
def mm_isN (w : Cond) : Bool := match w with
  | .fieldLinkNest .. => true
  | .methodLinkNest .. => true
  | .castable .. => true
  | .declares .. => true
  | .arrayOver (.object _) => true
  | _ => false
theorem mm_isN.moved {w : Cond} (hw : mm_isN w = true) {s U : State} (hW : s.WarmedH U.vm) (h : va_Nw w s) : va_Nw w U := by
  unfold mm_isN at hw
  split at hw
  · exact va_Nw.warmF hW h
  · exact va_Nw.warmM hW h
  · exact va_Nw.warmC hW h
  · exact va_Nw.warmD hW h
  · exact va_AO.moved hW.alike h
  · cases hw
abbrev mm_Em (G : mm_G) (s : State) (H : Heap) : Prop := va_Z "java/util/ArrayList" "DEFAULTCAPACITY_EMPTY_ELEMENTDATA" "[Ljava/lang/Object;" (.ref G.2.2.2.1) (fun q => G.2.2.1 ≤ q) s H ∧ va_Mi "[Ljava/lang/Object;" G.2.2.2.2 s
def mm_Cx (G : mm_G) (s : State) : Prop := va_K G.1 vwCl (mm_tys G.2.1) s ∧ mm_Em G s s.heap ∧ (∀ w ∈ lw_tbl.filter mm_isN, va_Nw w s) ∧ G.2.2.1 ≤ s.heap.size
/-- a method: its code, its class, its locals, what it returns, whether it is a constructor, its room -/
abbrev mm_Y : Type := ByteArray × String × Nat × Option FieldType × Bool × Room
def mm_J (G : mm_G) (Y : mm_Y) (M0 : mm_M) (p : Program) (s : State) (m : MethodId) (args : Array Value) (meth : Method) (c : Code) : Prop :=
  p.tables.exec = Jvm.exec ∧ c.code = Y.1 ∧ c.maxLocals = Y.2.2.1 ∧ meth.sig.returnType = Y.2.2.2.1 ∧ meth.locks = false ∧ (Y.2.2.2.2.1 = true → meth.name = "<init>") ∧ s.vm.findClass Y.2.1 = some m.cls ∧ (∀ w ∈ mm_B, w.before args s = true) ∧ mm_Cx G s ∧ s.heap.size = mm_z M0
def mm_T (G : mm_G) (M0 M : mm_M) (s : State) (H : Heap) (locs : List Loc) : Prop := mm_H G M H ∧ va_S (mm_A G M0) s.heap H locs ∧ mm_X M0 M
def mm_Q (G : mm_G) (K : Option mm_V → mm_M → Prop) (M0 : mm_M) : Array Value → State → Outcome → State → Prop := fun _ st oc t =>
  ∃ (r : Option mm_V) (M1 : mm_M), oc = .returned (r.map mm_v) ∧ mm_H G M1 t.heap ∧ mm_X M0 M1 ∧ K r M1 ∧ va_F (mm_A G M0) st t
def mm_Z (l : Launch) (G : mm_G) (Y : mm_Y) (K : Option mm_V → mm_M → Prop) (M0 : mm_M) (bc bs pc : Nat) (ls : List (Option mm_V)) (st : List mm_V) (M : mm_M) : Prop :=
  ∀ (p : Program) (e : Env) (s : State) (m : MethodId) (args : Array Value) (below : List Frame) (meth : Method) (c : Code) (H : Heap) (locs : List Loc) (cells slots : Nat) (la : Array Slot),
    mm_J G Y M0 p s m args meth c → mm_T G M0 M s H locs → mm_L la Y.2.2.1 ls → cells + bc ≤ Y.2.2.2.2.2.cells → slots + bs ≤ Y.2.2.2.2.2.slots →
    W p l e Y.2.2.2.2.2 s m args below meth c H locs cells slots (MQ below (mm_Q G K M0) args s Y.2.2.2.2.2.cells Y.2.2.2.2.2.slots (mm_A G M0)) (F0 m pc la (st.map mm_v))
abbrev mm_ws (y : MethodName) (Y : mm_Y) : List Cond := Cond.code y Y.1 Y.2.2.1 Y.2.2.2.1 :: mm_B
def mm_Ok (l : Launch) (G : mm_G) (y : MethodName) (Y : mm_Y) (vs : List mm_V) (M : mm_M) (K : Option mm_V → mm_M → Prop) : Prop :=
  Met l y (mm_ws y Y) Y.2.2.2.2.2 (va_Pc (vs.map mm_v) (fun U => mm_Cx G U ∧ mm_H G M U.heap)) (mm_Q G K M) Y.2.2.2.2.2.cells Y.2.2.2.2.2.slots (mm_A G M)
section MM
variable {l : Launch} {G : mm_G} {Y : mm_Y} {K : Option mm_V → mm_M → Prop} {M0 M : mm_M} {bc bs pc : Nat} {ls ls' : List (Option mm_V)} {st : List mm_V}
/-- the entry -/
theorem mm_go {y : MethodName} {vs : List mm_V} (hy : plainName y.cls = true) (hcls : y.cls = Y.2.1) (hini : Y.2.2.2.2.1 = true → y.name = "<init>") (hlen : vs.length ≤ Y.2.2.1)
    (h : mm_Z l G Y K M Y.2.2.2.2.2.cells Y.2.2.2.2.2.slots 0 (vs.map some ++ List.replicate (Y.2.2.1 - vs.length) none) [] M) : mm_Ok l G y Y vs M K := by
  refine Met.ofW (cc := Y.1) (maxL := Y.2.2.1) (ret := Y.2.2.2.1) hy rfl ?_
  intro p e s m args below meth c s₁ B hml hv
  obtain ⟨rfl, hCx, hH⟩ := hv
  have hts := atoms_spec (ws := mm_ws y Y) B.pre
  have hown : s.vm.findClass Y.2.1 = some m.cls := hcls ▸ findClass_of_methodNamed B.named
  rw [lg_entry_eq]
  have hl := mm_L.entry vs (n := Y.2.2.1) hlen
  generalize (lg_sl (vs.map mm_v) ++ List.replicate (Y.2.2.1 - (lg_sl (vs.map mm_v)).length) Slot.unset).toArray = la at hl ⊢
  have hl2 : mm_L la Y.2.2.1 (vs.map some ++ List.replicate (Y.2.2.1 - vs.length) none) := hl.less (fun i v hi => by
    by_cases hlt : i < vs.length
    · rw [List.getElem?_append_left (by simpa using hlt)] at hi
      exact hi
    · rw [List.getElem?_append_right (by simpa using hlt), List.getElem?_replicate] at hi
      split at hi <;> simp at hi)
  refine h p e s m _ below meth c s.heap [] 0 0 la ⟨B.exec, B.bytes, hml, B.returns, B.notSynchronized, fun q => ?_, hown, fun w hw => hts w (List.mem_cons_of_mem _ hw), hCx, hH.1⟩ ⟨hH, va_S.rf, mm_X.rf M⟩ hl2 (by rw [Nat.zero_add]; exact Nat.le_refl _) (by rw [Nat.zero_add]; exact Nat.le_refl _)
  rw [(name_of_methodNamed B.named B.method).1]
  exact hini q
/-- a weaker end -/
theorem mm_Ok.mono {y : MethodName} {vs : List mm_V} {K' : Option mm_V → mm_M → Prop} (h : mm_Ok l G y Y vs M K) (hk : ∀ r M1, K r M1 → K' r M1) : mm_Ok l G y Y vs M K' := by
  intro p e h1 h2 h3 s m args below hf ha hP hK
  obtain ⟨n, o, q1, q2, q3, ⟨r, M1, c1, c2, c3, c4, c5⟩, q5⟩ := h p e h1 h2 h3 s m args below hf ha hP hK
  exact ⟨n, o, q1, q2, q3, ⟨r, M1, c1, c2, c3, hk r M1 c4, c5⟩, q5⟩
theorem mm_Z.mono {K' : Option mm_V → mm_M → Prop} (h : mm_Z l G Y K M0 bc bs pc ls st M) (hk : ∀ r M1, K r M1 → K' r M1) : mm_Z l G Y K' M0 bc bs pc ls st M := by
  intro p e s m args below meth c H locs cells slots la hJ hT hL hc hs T hT0 X
  obtain ⟨t, a, o, b1, b2, ⟨r, M1, c1, c2, c3, c4, c5⟩, b4⟩ := h p e s m args below meth c H locs cells slots la hJ hT hL hc hs T hT0 X
  exact ⟨t, a, o, b1, b2, ⟨r, M1, c1, c2, c3, hk r M1 c4, c5⟩, b4⟩
/-- less room is asked -/
theorem mm_less {bc' bs' : Nat} (h1 : bc' ≤ bc) (h2 : bs' ≤ bs) (h : mm_Z l G Y K M0 bc' bs' pc ls st M) : mm_Z l G Y K M0 bc bs pc ls st M :=
  fun p e s m args below meth c H locs cells slots la hJ hT hL hc hs => h p e s m args below meth c H locs cells slots la hJ hT hL (Nat.le_trans (Nat.add_le_add_left h1 _) hc) (Nat.le_trans (Nat.add_le_add_left h2 _) hs)
/-- fewer locals are known -/
theorem mm_fg (hs : ∀ (i : Nat) (v : mm_V), ls'[i]? = some (some v) → ls[i]? = some (some v)) (h : mm_Z l G Y K M0 bc bs pc ls' st M) : mm_Z l G Y K M0 bc bs pc ls st M :=
  fun p e s m args below meth c H locs cells slots la hJ hT hL hc hs' => h p e s m args below meth c H locs cells slots la hJ hT (hL.less hs) hc hs'
end MM
end
section
/-! ROWS: an instruction, a row -/
section RW1
variable {l : Launch} {G : mm_G} {Y : mm_Y} {K : Option mm_V → mm_M → Prop} {M0 M : mm_M} {bc bs pc : Nat} {ls : List (Option mm_V)} {st : List mm_V}
-- constants
theorem mr_iconst {n : Int} (v : Int32) (hd : decode Y.1 pc = .ok (.iconst n, 1)) (hv : Int32.ofInt n = v) (k : mm_Z l G Y K M0 bc bs (pc + 1) ls (.inl v :: st) M) : mm_Z l G Y K M0 bc bs pc ls st M :=
  fun p e s m args below meth c H locs cells slots la hJ hT hL hc hs => lv_iconst hJ.1 hJ.2.1 hd hv (k p e s m args below meth c H locs cells slots la hJ hT hL hc hs)
theorem mr_bipush {n : Int} (v : Int32) (hd : decode Y.1 pc = .ok (.bipush n, 2)) (hv : (Int8.ofInt n).toInt32 = v) (k : mm_Z l G Y K M0 bc bs (pc + 2) ls (.inl v :: st) M) : mm_Z l G Y K M0 bc bs pc ls st M :=
  fun p e s m args below meth c H locs cells slots la hJ hT hL hc hs => lv_bipush hJ.1 hJ.2.1 hd hv (k p e s m args below meth c H locs cells slots la hJ hT hL hc hs)
theorem mr_sipush {n : Int} (v : Int32) (hd : decode Y.1 pc = .ok (.sipush n, 3)) (hv : (Int16.ofInt n).toInt32 = v) (k : mm_Z l G Y K M0 bc bs (pc + 3) ls (.inl v :: st) M) : mm_Z l G Y K M0 bc bs pc ls st M :=
  fun p e s m args below meth c H locs cells slots la hJ hT hL hc hs => lv_sipush hJ.1 hJ.2.1 hd hv (k p e s m args below meth c H locs cells slots la hJ hT hL hc hs)
theorem mr_null (hd : decode Y.1 pc = .ok (.aconst_null, 1)) (k : mm_Z l G Y K M0 bc bs (pc + 1) ls (.inr none :: st) M) : mm_Z l G Y K M0 bc bs pc ls st M :=
  fun p e s m args below meth c H locs cells slots la hJ hT hL hc hs => lv_null hJ.1 hJ.2.1 hd (k p e s m args below meth c H locs cells slots la hJ hT hL hc hs)
-- locals
theorem mr_iload_n {i : Fin 4} {x : Int32} (hd : decode Y.1 pc = .ok (.iload_n i, 1)) (hi : ls[(i : Nat)]? = some (some (.inl x))) (k : mm_Z l G Y K M0 bc bs (pc + 1) ls (.inl x :: st) M) : mm_Z l G Y K M0 bc bs pc ls st M :=
  fun p e s m args below meth c H locs cells slots la hJ hT hL hc hs => lv_iload_n hJ.1 hJ.2.1 hd rfl (hL.at hi) (k p e s m args below meth c H locs cells slots la hJ hT hL hc hs)
theorem mr_iload {i : Nat} {x : Int32} (hd : decode Y.1 pc = .ok (.iload i, 2)) (hi : ls[i]? = some (some (.inl x))) (k : mm_Z l G Y K M0 bc bs (pc + 2) ls (.inl x :: st) M) : mm_Z l G Y K M0 bc bs pc ls st M :=
  fun p e s m args below meth c H locs cells slots la hJ hT hL hc hs => lv_iload hJ.1 hJ.2.1 hd (hL.at hi) (k p e s m args below meth c H locs cells slots la hJ hT hL hc hs)
theorem mr_aload_n {i : Fin 4} {x : Option Nat} (hd : decode Y.1 pc = .ok (.aload_n i, 1)) (hi : ls[(i : Nat)]? = some (some (.inr x))) (k : mm_Z l G Y K M0 bc bs (pc + 1) ls (.inr x :: st) M) : mm_Z l G Y K M0 bc bs pc ls st M := by
  intro p e s m args below meth c H locs cells slots la hJ hT hL hc hs
  have k1 := k p e s m args below meth c H locs cells slots la hJ hT hL hc hs
  have h1 := hL.at hi
  cases x with
  | none => exact lv_aload_nN hJ.1 hJ.2.1 hd rfl h1 k1
  | some a => exact lv_aload_n hJ.1 hJ.2.1 hd rfl h1 k1
theorem mr_aload {i : Nat} {x : Option Nat} (hd : decode Y.1 pc = .ok (.aload i, 2)) (hi : ls[i]? = some (some (.inr x))) (k : mm_Z l G Y K M0 bc bs (pc + 2) ls (.inr x :: st) M) : mm_Z l G Y K M0 bc bs pc ls st M := by
  intro p e s m args below meth c H locs cells slots la hJ hT hL hc hs
  have k1 := k p e s m args below meth c H locs cells slots la hJ hT hL hc hs
  have h1 := hL.at hi
  cases x with
  | none => exact lv_aloadN hJ.1 hJ.2.1 hd h1 k1
  | some a => exact lv_aload hJ.1 hJ.2.1 hd h1 k1
theorem mr_istore_n {i : Fin 4} {x : Int32} (hd : decode Y.1 pc = .ok (.istore_n i, 1)) (hn : (i : Nat) < Y.2.2.1) (k : mm_Z l G Y K M0 bc bs (pc + 1) (ls.set i (some (.inl x))) st M) : mm_Z l G Y K M0 bc bs pc ls (.inl x :: st) M :=
  fun p e s m args below meth c H locs cells slots la hJ hT hL hc hs => lv_istore_n hJ.1 hJ.2.1 hd rfl hL hn rfl (fun la' hL' => k p e s m args below meth c H locs cells slots la' hJ hT (mm_L.store (v := .inl x) hL') hc hs)
theorem mr_istore {i : Nat} {x : Int32} (hd : decode Y.1 pc = .ok (.istore i, 2)) (hn : i < Y.2.2.1) (k : mm_Z l G Y K M0 bc bs (pc + 2) (ls.set i (some (.inl x))) st M) : mm_Z l G Y K M0 bc bs pc ls (.inl x :: st) M :=
  fun p e s m args below meth c H locs cells slots la hJ hT hL hc hs => lv_istore hJ.1 hJ.2.1 hd hL hn rfl (fun la' hL' => k p e s m args below meth c H locs cells slots la' hJ hT (mm_L.store (v := .inl x) hL') hc hs)
theorem mr_astore_n {i : Fin 4} {x : Option Nat} (hd : decode Y.1 pc = .ok (.astore_n i, 1)) (hn : (i : Nat) < Y.2.2.1) (k : mm_Z l G Y K M0 bc bs (pc + 1) (ls.set i (some (.inr x))) st M) : mm_Z l G Y K M0 bc bs pc ls (.inr x :: st) M := by
  intro p e s m args below meth c H locs cells slots la hJ hT hL hc hs
  cases x with
  | none => exact lv_astore_nN hJ.1 hJ.2.1 hd rfl hL hn rfl (fun la' hL' => k p e s m args below meth c H locs cells slots la' hJ hT (mm_L.store (v := .inr none) hL') hc hs)
  | some a => exact lv_astore_n hJ.1 hJ.2.1 hd rfl hL hn rfl (fun la' hL' => k p e s m args below meth c H locs cells slots la' hJ hT (mm_L.store (v := .inr (some a)) hL') hc hs)
theorem mr_astore {i : Nat} {x : Option Nat} (hd : decode Y.1 pc = .ok (.astore i, 2)) (hn : i < Y.2.2.1) (k : mm_Z l G Y K M0 bc bs (pc + 2) (ls.set i (some (.inr x))) st M) : mm_Z l G Y K M0 bc bs pc ls (.inr x :: st) M := by
  intro p e s m args below meth c H locs cells slots la hJ hT hL hc hs
  cases x with
  | none => exact lv_astoreN hJ.1 hJ.2.1 hd hL hn rfl (fun la' hL' => k p e s m args below meth c H locs cells slots la' hJ hT (mm_L.store (v := .inr none) hL') hc hs)
  | some a => exact lv_astore hJ.1 hJ.2.1 hd hL hn rfl (fun la' hL' => k p e s m args below meth c H locs cells slots la' hJ hT (mm_L.store (v := .inr (some a)) hL') hc hs)
theorem mr_iinc {i : Nat} {n : Int} {x : Int32} (d : Int32) (hd : decode Y.1 pc = .ok (.iinc i n, 3)) (hi : ls[i]? = some (some (.inl x))) (hn : i < Y.2.2.1) (he : Int32.ofInt n = d) (k : mm_Z l G Y K M0 bc bs (pc + 3) (ls.set i (some (.inl (x + d)))) st M) : mm_Z l G Y K M0 bc bs pc ls st M := by
  intro p e s m args below meth c H locs cells slots la hJ hT hL hc hs
  subst he
  have h1 := hL.at hi
  have hm : (i, Value.int x) ∈ mm_ps 0 ls := (mm_ps_mem ls 0 _).mpr ⟨i, .inl x, hi, by rw [Nat.zero_add]; rfl⟩
  obtain ⟨kk, hkk⟩ := List.getElem?_of_mem hm
  exact lv_iinc hJ.1 hJ.2.1 hd hL hkk rfl hn rfl (fun la' hL' => k p e s m args below meth c H locs cells slots la' hJ hT (mm_L.store (v := .inl (x + Int32.ofInt n)) hL') hc hs)
-- the stack
theorem mr_dup {x : mm_V} (hd : decode Y.1 pc = .ok (.dup, 1)) (k : mm_Z l G Y K M0 bc bs (pc + 1) ls (x :: x :: st) M) : mm_Z l G Y K M0 bc bs pc ls (x :: st) M :=
  fun p e s m args below meth c H locs cells slots la hJ hT hL hc hs => lv_dup hJ.1 hJ.2.1 hd (mm_v_cat x) (k p e s m args below meth c H locs cells slots la hJ hT hL hc hs)
theorem mr_pop {x : mm_V} (hd : decode Y.1 pc = .ok (.pop, 1)) (k : mm_Z l G Y K M0 bc bs (pc + 1) ls st M) : mm_Z l G Y K M0 bc bs pc ls (x :: st) M :=
  fun p e s m args below meth c H locs cells slots la hJ hT hL hc hs => lv_pop hJ.1 hJ.2.1 hd (mm_v_cat x) (k p e s m args below meth c H locs cells slots la hJ hT hL hc hs)
theorem mr_dup2 {x y : mm_V} (hd : decode Y.1 pc = .ok (.dup2, 1)) (k : mm_Z l G Y K M0 bc bs (pc + 1) ls (x :: y :: x :: y :: st) M) : mm_Z l G Y K M0 bc bs pc ls (x :: y :: st) M :=
  fun p e s m args below meth c H locs cells slots la hJ hT hL hc hs => lv_dup2_11 hJ.1 hJ.2.1 hd (mm_v_cat x) (mm_v_cat y) (k p e s m args below meth c H locs cells slots la hJ hT hL hc hs)
theorem mr_dup_x1 {x y : mm_V} (hd : decode Y.1 pc = .ok (.dup_x1, 1)) (k : mm_Z l G Y K M0 bc bs (pc + 1) ls (x :: y :: x :: st) M) : mm_Z l G Y K M0 bc bs pc ls (x :: y :: st) M :=
  fun p e s m args below meth c H locs cells slots la hJ hT hL hc hs => lv_dup_x1 hJ.1 hJ.2.1 hd (mm_v_cat x) (mm_v_cat y) (k p e s m args below meth c H locs cells slots la hJ hT hL hc hs)
theorem mr_dup_x2 {x y z : mm_V} (hd : decode Y.1 pc = .ok (.dup_x2, 1)) (k : mm_Z l G Y K M0 bc bs (pc + 1) ls (x :: y :: z :: x :: st) M) : mm_Z l G Y K M0 bc bs pc ls (x :: y :: z :: st) M :=
  fun p e s m args below meth c H locs cells slots la hJ hT hL hc hs => lv_dup_x2 hJ.1 hJ.2.1 hd (mm_v_cat x) (mm_v_cat y) (mm_v_cat z) (k p e s m args below meth c H locs cells slots la hJ hT hL hc hs)
-- numbers
theorem mr_iadd {x y : Int32} (hd : decode Y.1 pc = .ok (.iadd, 1)) (k : mm_Z l G Y K M0 bc bs (pc + 1) ls (.inl (x + y) :: st) M) : mm_Z l G Y K M0 bc bs pc ls (.inl y :: .inl x :: st) M :=
  fun p e s m args below meth c H locs cells slots la hJ hT hL hc hs => lv_iadd hJ.1 hJ.2.1 hd (k p e s m args below meth c H locs cells slots la hJ hT hL hc hs)
theorem mr_isub {x y : Int32} (hd : decode Y.1 pc = .ok (.isub, 1)) (k : mm_Z l G Y K M0 bc bs (pc + 1) ls (.inl (x - y) :: st) M) : mm_Z l G Y K M0 bc bs pc ls (.inl y :: .inl x :: st) M :=
  fun p e s m args below meth c H locs cells slots la hJ hT hL hc hs => lv_isub hJ.1 hJ.2.1 hd (k p e s m args below meth c H locs cells slots la hJ hT hL hc hs)
theorem mr_imul {x y : Int32} (hd : decode Y.1 pc = .ok (.imul, 1)) (k : mm_Z l G Y K M0 bc bs (pc + 1) ls (.inl (x * y) :: st) M) : mm_Z l G Y K M0 bc bs pc ls (.inl y :: .inl x :: st) M :=
  fun p e s m args below meth c H locs cells slots la hJ hT hL hc hs => lv_imul hJ.1 hJ.2.1 hd (k p e s m args below meth c H locs cells slots la hJ hT hL hc hs)
theorem mr_iand {x y : Int32} (hd : decode Y.1 pc = .ok (.iand, 1)) (k : mm_Z l G Y K M0 bc bs (pc + 1) ls (.inl (x &&& y) :: st) M) : mm_Z l G Y K M0 bc bs pc ls (.inl y :: .inl x :: st) M :=
  fun p e s m args below meth c H locs cells slots la hJ hT hL hc hs => lv_iand hJ.1 hJ.2.1 hd (k p e s m args below meth c H locs cells slots la hJ hT hL hc hs)
theorem mr_ior {x y : Int32} (hd : decode Y.1 pc = .ok (.ior, 1)) (k : mm_Z l G Y K M0 bc bs (pc + 1) ls (.inl (x ||| y) :: st) M) : mm_Z l G Y K M0 bc bs pc ls (.inl y :: .inl x :: st) M :=
  fun p e s m args below meth c H locs cells slots la hJ hT hL hc hs => lv_ior hJ.1 hJ.2.1 hd (k p e s m args below meth c H locs cells slots la hJ hT hL hc hs)
theorem mr_ixor {x y : Int32} (hd : decode Y.1 pc = .ok (.ixor, 1)) (k : mm_Z l G Y K M0 bc bs (pc + 1) ls (.inl (x ^^^ y) :: st) M) : mm_Z l G Y K M0 bc bs pc ls (.inl y :: .inl x :: st) M :=
  fun p e s m args below meth c H locs cells slots la hJ hT hL hc hs => lv_ixor hJ.1 hJ.2.1 hd (k p e s m args below meth c H locs cells slots la hJ hT hL hc hs)
theorem mr_ishl {x y : Int32} (hd : decode Y.1 pc = .ok (.ishl, 1)) (k : mm_Z l G Y K M0 bc bs (pc + 1) ls (.inl (x <<< (y &&& 31)) :: st) M) : mm_Z l G Y K M0 bc bs pc ls (.inl y :: .inl x :: st) M :=
  fun p e s m args below meth c H locs cells slots la hJ hT hL hc hs => lv_ishl hJ.1 hJ.2.1 hd (k p e s m args below meth c H locs cells slots la hJ hT hL hc hs)
theorem mr_ishr {x y : Int32} (hd : decode Y.1 pc = .ok (.ishr, 1)) (k : mm_Z l G Y K M0 bc bs (pc + 1) ls (.inl (x >>> (y &&& 31)) :: st) M) : mm_Z l G Y K M0 bc bs pc ls (.inl y :: .inl x :: st) M :=
  fun p e s m args below meth c H locs cells slots la hJ hT hL hc hs => lv_ishr hJ.1 hJ.2.1 hd (k p e s m args below meth c H locs cells slots la hJ hT hL hc hs)
theorem mr_idiv {x y : Int32} (hd : decode Y.1 pc = .ok (.idiv, 1)) (hy : ¬ y = 0) (k : mm_Z l G Y K M0 bc bs (pc + 1) ls (.inl (x / y) :: st) M) : mm_Z l G Y K M0 bc bs pc ls (.inl y :: .inl x :: st) M :=
  fun p e s m args below meth c H locs cells slots la hJ hT hL hc hs => lv_idiv hJ.1 hJ.2.1 hd hy (k p e s m args below meth c H locs cells slots la hJ hT hL hc hs)
theorem mr_irem {x y : Int32} (hd : decode Y.1 pc = .ok (.irem, 1)) (hy : ¬ y = 0) (k : mm_Z l G Y K M0 bc bs (pc + 1) ls (.inl (x - x / y * y) :: st) M) : mm_Z l G Y K M0 bc bs pc ls (.inl y :: .inl x :: st) M :=
  fun p e s m args below meth c H locs cells slots la hJ hT hL hc hs => lv_irem hJ.1 hJ.2.1 hd hy (k p e s m args below meth c H locs cells slots la hJ hT hL hc hs)
-- branches
theorem mr_if_eq {x : Int32} {off : Int} (tgt : Nat) (hd : decode Y.1 pc = .ok (.ifCond .eq off, 3)) (ht : (pc : Int) + off = (tgt : Int)) (kt : x = 0 → mm_Z l G Y K M0 bc bs tgt ls st M) (kf : ¬ x = 0 → mm_Z l G Y K M0 bc bs (pc + 3) ls st M) : mm_Z l G Y K M0 bc bs pc ls (.inl x :: st) M :=
  fun p e s m args below meth c H locs cells slots la hJ hT hL hc hs => lv_if_eq hJ.1 hJ.2.1 hd ht (fun q => kt q p e s m args below meth c H locs cells slots la hJ hT hL hc hs) (fun q => kf q p e s m args below meth c H locs cells slots la hJ hT hL hc hs)
theorem mr_icmp_eq {x y : Int32} {off : Int} (tgt : Nat) (hd : decode Y.1 pc = .ok (.if_icmp .eq off, 3)) (ht : (pc : Int) + off = (tgt : Int)) (kt : x = y → mm_Z l G Y K M0 bc bs tgt ls st M) (kf : ¬ x = y → mm_Z l G Y K M0 bc bs (pc + 3) ls st M) : mm_Z l G Y K M0 bc bs pc ls (.inl y :: .inl x :: st) M :=
  fun p e s m args below meth c H locs cells slots la hJ hT hL hc hs => lv_icmp_eq hJ.1 hJ.2.1 hd ht (fun q => kt q p e s m args below meth c H locs cells slots la hJ hT hL hc hs) (fun q => kf q p e s m args below meth c H locs cells slots la hJ hT hL hc hs)
theorem mr_if_ne {x : Int32} {off : Int} (tgt : Nat) (hd : decode Y.1 pc = .ok (.ifCond .ne off, 3)) (ht : (pc : Int) + off = (tgt : Int)) (kt : ¬ x = 0 → mm_Z l G Y K M0 bc bs tgt ls st M) (kf : x = 0 → mm_Z l G Y K M0 bc bs (pc + 3) ls st M) : mm_Z l G Y K M0 bc bs pc ls (.inl x :: st) M :=
  fun p e s m args below meth c H locs cells slots la hJ hT hL hc hs => lv_if_ne hJ.1 hJ.2.1 hd ht (fun q => kt q p e s m args below meth c H locs cells slots la hJ hT hL hc hs) (fun q => kf q p e s m args below meth c H locs cells slots la hJ hT hL hc hs)
theorem mr_icmp_ne {x y : Int32} {off : Int} (tgt : Nat) (hd : decode Y.1 pc = .ok (.if_icmp .ne off, 3)) (ht : (pc : Int) + off = (tgt : Int)) (kt : ¬ x = y → mm_Z l G Y K M0 bc bs tgt ls st M) (kf : x = y → mm_Z l G Y K M0 bc bs (pc + 3) ls st M) : mm_Z l G Y K M0 bc bs pc ls (.inl y :: .inl x :: st) M :=
  fun p e s m args below meth c H locs cells slots la hJ hT hL hc hs => lv_icmp_ne hJ.1 hJ.2.1 hd ht (fun q => kt q p e s m args below meth c H locs cells slots la hJ hT hL hc hs) (fun q => kf q p e s m args below meth c H locs cells slots la hJ hT hL hc hs)
theorem mr_if_lt {x : Int32} {off : Int} (tgt : Nat) (hd : decode Y.1 pc = .ok (.ifCond .lt off, 3)) (ht : (pc : Int) + off = (tgt : Int)) (kt : x < 0 → mm_Z l G Y K M0 bc bs tgt ls st M) (kf : ¬ x < 0 → mm_Z l G Y K M0 bc bs (pc + 3) ls st M) : mm_Z l G Y K M0 bc bs pc ls (.inl x :: st) M :=
  fun p e s m args below meth c H locs cells slots la hJ hT hL hc hs => lv_if_lt hJ.1 hJ.2.1 hd ht (fun q => kt q p e s m args below meth c H locs cells slots la hJ hT hL hc hs) (fun q => kf q p e s m args below meth c H locs cells slots la hJ hT hL hc hs)
theorem mr_icmp_lt {x y : Int32} {off : Int} (tgt : Nat) (hd : decode Y.1 pc = .ok (.if_icmp .lt off, 3)) (ht : (pc : Int) + off = (tgt : Int)) (kt : x < y → mm_Z l G Y K M0 bc bs tgt ls st M) (kf : ¬ x < y → mm_Z l G Y K M0 bc bs (pc + 3) ls st M) : mm_Z l G Y K M0 bc bs pc ls (.inl y :: .inl x :: st) M :=
  fun p e s m args below meth c H locs cells slots la hJ hT hL hc hs => lv_icmp_lt hJ.1 hJ.2.1 hd ht (fun q => kt q p e s m args below meth c H locs cells slots la hJ hT hL hc hs) (fun q => kf q p e s m args below meth c H locs cells slots la hJ hT hL hc hs)
theorem mr_if_ge {x : Int32} {off : Int} (tgt : Nat) (hd : decode Y.1 pc = .ok (.ifCond .ge off, 3)) (ht : (pc : Int) + off = (tgt : Int)) (kt : 0 ≤ x → mm_Z l G Y K M0 bc bs tgt ls st M) (kf : ¬ 0 ≤ x → mm_Z l G Y K M0 bc bs (pc + 3) ls st M) : mm_Z l G Y K M0 bc bs pc ls (.inl x :: st) M :=
  fun p e s m args below meth c H locs cells slots la hJ hT hL hc hs => lv_if_ge hJ.1 hJ.2.1 hd ht (fun q => kt q p e s m args below meth c H locs cells slots la hJ hT hL hc hs) (fun q => kf q p e s m args below meth c H locs cells slots la hJ hT hL hc hs)
theorem mr_icmp_ge {x y : Int32} {off : Int} (tgt : Nat) (hd : decode Y.1 pc = .ok (.if_icmp .ge off, 3)) (ht : (pc : Int) + off = (tgt : Int)) (kt : y ≤ x → mm_Z l G Y K M0 bc bs tgt ls st M) (kf : ¬ y ≤ x → mm_Z l G Y K M0 bc bs (pc + 3) ls st M) : mm_Z l G Y K M0 bc bs pc ls (.inl y :: .inl x :: st) M :=
  fun p e s m args below meth c H locs cells slots la hJ hT hL hc hs => lv_icmp_ge hJ.1 hJ.2.1 hd ht (fun q => kt q p e s m args below meth c H locs cells slots la hJ hT hL hc hs) (fun q => kf q p e s m args below meth c H locs cells slots la hJ hT hL hc hs)
theorem mr_if_gt {x : Int32} {off : Int} (tgt : Nat) (hd : decode Y.1 pc = .ok (.ifCond .gt off, 3)) (ht : (pc : Int) + off = (tgt : Int)) (kt : 0 < x → mm_Z l G Y K M0 bc bs tgt ls st M) (kf : ¬ 0 < x → mm_Z l G Y K M0 bc bs (pc + 3) ls st M) : mm_Z l G Y K M0 bc bs pc ls (.inl x :: st) M :=
  fun p e s m args below meth c H locs cells slots la hJ hT hL hc hs => lv_if_gt hJ.1 hJ.2.1 hd ht (fun q => kt q p e s m args below meth c H locs cells slots la hJ hT hL hc hs) (fun q => kf q p e s m args below meth c H locs cells slots la hJ hT hL hc hs)
theorem mr_icmp_gt {x y : Int32} {off : Int} (tgt : Nat) (hd : decode Y.1 pc = .ok (.if_icmp .gt off, 3)) (ht : (pc : Int) + off = (tgt : Int)) (kt : y < x → mm_Z l G Y K M0 bc bs tgt ls st M) (kf : ¬ y < x → mm_Z l G Y K M0 bc bs (pc + 3) ls st M) : mm_Z l G Y K M0 bc bs pc ls (.inl y :: .inl x :: st) M :=
  fun p e s m args below meth c H locs cells slots la hJ hT hL hc hs => lv_icmp_gt hJ.1 hJ.2.1 hd ht (fun q => kt q p e s m args below meth c H locs cells slots la hJ hT hL hc hs) (fun q => kf q p e s m args below meth c H locs cells slots la hJ hT hL hc hs)
theorem mr_if_le {x : Int32} {off : Int} (tgt : Nat) (hd : decode Y.1 pc = .ok (.ifCond .le off, 3)) (ht : (pc : Int) + off = (tgt : Int)) (kt : x ≤ 0 → mm_Z l G Y K M0 bc bs tgt ls st M) (kf : ¬ x ≤ 0 → mm_Z l G Y K M0 bc bs (pc + 3) ls st M) : mm_Z l G Y K M0 bc bs pc ls (.inl x :: st) M :=
  fun p e s m args below meth c H locs cells slots la hJ hT hL hc hs => lv_if_le hJ.1 hJ.2.1 hd ht (fun q => kt q p e s m args below meth c H locs cells slots la hJ hT hL hc hs) (fun q => kf q p e s m args below meth c H locs cells slots la hJ hT hL hc hs)
theorem mr_icmp_le {x y : Int32} {off : Int} (tgt : Nat) (hd : decode Y.1 pc = .ok (.if_icmp .le off, 3)) (ht : (pc : Int) + off = (tgt : Int)) (kt : x ≤ y → mm_Z l G Y K M0 bc bs tgt ls st M) (kf : ¬ x ≤ y → mm_Z l G Y K M0 bc bs (pc + 3) ls st M) : mm_Z l G Y K M0 bc bs pc ls (.inl y :: .inl x :: st) M :=
  fun p e s m args below meth c H locs cells slots la hJ hT hL hc hs => lv_icmp_le hJ.1 hJ.2.1 hd ht (fun q => kt q p e s m args below meth c H locs cells slots la hJ hT hL hc hs) (fun q => kf q p e s m args below meth c H locs cells slots la hJ hT hL hc hs)
theorem mr_acmp_eq {x y : Option Nat} {off : Int} (tgt : Nat) (hd : decode Y.1 pc = .ok (.if_acmp .eq off, 3)) (ht : (pc : Int) + off = (tgt : Int)) (kt : x = y → mm_Z l G Y K M0 bc bs tgt ls st M) (kf : ¬ x = y → mm_Z l G Y K M0 bc bs (pc + 3) ls st M) : mm_Z l G Y K M0 bc bs pc ls (.inr y :: .inr x :: st) M :=
  fun p e s m args below meth c H locs cells slots la hJ hT hL hc hs => lv_acmp_eq hJ.1 hJ.2.1 hd ht (fun q => kt q p e s m args below meth c H locs cells slots la hJ hT hL hc hs) (fun q => kf q p e s m args below meth c H locs cells slots la hJ hT hL hc hs)
theorem mr_acmp_ne {x y : Option Nat} {off : Int} (tgt : Nat) (hd : decode Y.1 pc = .ok (.if_acmp .ne off, 3)) (ht : (pc : Int) + off = (tgt : Int)) (kt : ¬ x = y → mm_Z l G Y K M0 bc bs tgt ls st M) (kf : x = y → mm_Z l G Y K M0 bc bs (pc + 3) ls st M) : mm_Z l G Y K M0 bc bs pc ls (.inr y :: .inr x :: st) M :=
  fun p e s m args below meth c H locs cells slots la hJ hT hL hc hs => lv_acmp_ne hJ.1 hJ.2.1 hd ht (fun q => kt q p e s m args below meth c H locs cells slots la hJ hT hL hc hs) (fun q => kf q p e s m args below meth c H locs cells slots la hJ hT hL hc hs)
theorem mr_ifnull {x : Option Nat} {off : Int} (tgt : Nat) (hd : decode Y.1 pc = .ok (.ifnull off, 3)) (ht : (pc : Int) + off = (tgt : Int)) (kt : x = none → mm_Z l G Y K M0 bc bs tgt ls st M) (kf : ∀ a, x = some a → mm_Z l G Y K M0 bc bs (pc + 3) ls st M) : mm_Z l G Y K M0 bc bs pc ls (.inr x :: st) M := by
  intro p e s m args below meth c H locs cells slots la hJ hT hL hc hs
  cases x with
  | none => exact lv_ifnullN hJ.1 hJ.2.1 hd ht (kt rfl p e s m args below meth c H locs cells slots la hJ hT hL hc hs)
  | some a => exact lv_ifnull hJ.1 hJ.2.1 hd (kf a rfl p e s m args below meth c H locs cells slots la hJ hT hL hc hs)
theorem mr_ifnonnull {x : Option Nat} {off : Int} (tgt : Nat) (hd : decode Y.1 pc = .ok (.ifnonnull off, 3)) (ht : (pc : Int) + off = (tgt : Int)) (kt : ∀ a, x = some a → mm_Z l G Y K M0 bc bs tgt ls st M) (kf : x = none → mm_Z l G Y K M0 bc bs (pc + 3) ls st M) : mm_Z l G Y K M0 bc bs pc ls (.inr x :: st) M := by
  intro p e s m args below meth c H locs cells slots la hJ hT hL hc hs
  cases x with
  | none => exact lv_ifnonnullN hJ.1 hJ.2.1 hd (kf rfl p e s m args below meth c H locs cells slots la hJ hT hL hc hs)
  | some a => exact lv_ifnonnull hJ.1 hJ.2.1 hd ht (kt a rfl p e s m args below meth c H locs cells slots la hJ hT hL hc hs)
theorem mr_goto {off : Int} (tgt : Nat) (hd : decode Y.1 pc = .ok (.goto off, 3)) (ht : (pc : Int) + off = (tgt : Int)) (k : mm_Z l G Y K M0 bc bs tgt ls st M) : mm_Z l G Y K M0 bc bs pc ls st M :=
  fun p e s m args below meth c H locs cells slots la hJ hT hL hc hs => lv_goto hJ.1 hJ.2.1 hd ht (k p e s m args below meth c H locs cells slots la hJ hT hL hc hs)
-- ends
theorem mr_ireturn {v : Int32} (hd : decode Y.1 pc = .ok (.ireturn, 1)) (hr : Y.2.2.2.1 = some .int) (hk : K (some (.inl v)) M) : mm_Z l G Y K M0 bc bs pc ls [.inl v] M := by
  intro p e s m args below meth c H locs cells slots la hJ hT hL hc hs
  refine W.widen (k := Y.2.2.2.2.2.cells) (n := Y.2.2.2.2.2.slots) (by omega) (by omega) ?_
  have hlocks := hJ.2.2.2.2.1
  exact W.iret (v := v) hJ.1 hJ.2.1 (hJ.2.2.2.1.trans hr) (fun t ht hW => ⟨some (.inl v), M, rfl, by rw [ht]; exact hT.1, hT.2.2, hk, hT.2.1.F ht⟩) hT.2.1.2.2 hd
theorem mr_zreturn {v : Int32} (hd : decode Y.1 pc = .ok (.ireturn, 1)) (hr : Y.2.2.2.1 = some .boolean) (hv : v = 0 ∨ v = 1) (hk : K (some (.inl v)) M) : mm_Z l G Y K M0 bc bs pc ls [.inl v] M := by
  intro p e s m args below meth c H locs cells slots la hJ hT hL hc hs
  refine W.widen (k := Y.2.2.2.2.2.cells) (n := Y.2.2.2.2.2.slots) (by omega) (by omega) ?_
  have hlocks := hJ.2.2.2.2.1
  exact W.zret (v := v) hJ.1 hJ.2.1 (hJ.2.2.2.1.trans hr) (by rcases hv with rfl | rfl <;> decide) (fun t ht hW => ⟨some (.inl v), M, rfl, by rw [ht]; exact hT.1, hT.2.2, hk, hT.2.1.F ht⟩) hT.2.1.2.2 hd
theorem mr_return (hd : decode Y.1 pc = .ok (.return_, 1)) (hr : Y.2.2.2.1 = none) (hk : K none M) : mm_Z l G Y K M0 bc bs pc ls [] M := by
  intro p e s m args below meth c H locs cells slots la hJ hT hL hc hs
  refine W.widen (k := Y.2.2.2.2.2.cells) (n := Y.2.2.2.2.2.slots) (by omega) (by omega) ?_
  have hlocks := hJ.2.2.2.2.1
  exact W.vret hJ.1 hJ.2.1 (hJ.2.2.2.1.trans hr) (fun t ht hW => ⟨none, M, rfl, by rw [ht]; exact hT.1, hT.2.2, hk, hT.2.1.F ht⟩) hT.2.1.2.2 hd
theorem mr_areturn {o : Option Nat} {rt : FieldType} (hd : decode Y.1 pc = .ok (.areturn, 1)) (hr : Y.2.2.2.1 = some rt) (hrt : (∃ n, rt = .object n) ∨ ∃ t, rt = .array t) (hk : K (some (.inr o)) M) : mm_Z l G Y K M0 bc bs pc ls [.inr o] M := by
  intro p e s m args below meth c H locs cells slots la hJ hT hL hc hs
  refine W.widen (k := Y.2.2.2.2.2.cells) (n := Y.2.2.2.2.2.slots) (by omega) (by omega) ?_
  have hlocks := hJ.2.2.2.2.1
  exact W.aret (v := va_rf o) hJ.1 hJ.2.1 (hJ.2.2.2.1.trans hr) hrt (va_rf_or o) (fun t ht hW => ⟨some (.inr o), M, rfl, by rw [ht]; exact hT.1, hT.2.2, hk, hT.2.1.F ht⟩) hT.2.1.2.2 hd
end RW1
end
section
/-! ROWS OF THE HEAP: fields, arrays, new cells, casts -/
/-- words of the tables -/
theorem mm_inB {w : Cond} (h : w ∈ lw_tbl) (hg : goodWord w = true) : w ∈ mm_B := List.mem_filter.mpr ⟨h, hg⟩
theorem mm_goodB {ws : List Cond} (h : ∀ w ∈ ws, w ∈ mm_B) : GoodIn mm_B ws := fun w hw => ⟨h w hw, good_of_word (List.mem_filter.mp (h w hw)).2⟩
/-- a field k of the class number ci, as the pool of own names it at idx: plain, or by the nest -/
def mm_Fg (own : String) (idx ci k : Nat) (C : String) (T : u_T) (N : Nat) : Prop :=
  ci < 99 ∧ vwCl[ci]? = some (C, T, N) ∧ k < N ∧ (∀ w ∈ u_ws C T N, w ∈ mm_B) ∧ ∃ ref : String, (Cond.fieldLink own idx ref (T k).2.1 (T k).2.2.1 ∈ mm_B ∨ ∃ host : String, Cond.fieldLinkNest own idx ref (T k).2.1 (T k).2.2.1 host ∈ lw_tbl.filter mm_isN) ∧ (ref = (T k).1 ∨ Cond.sameField ref (T k).1 (T k).2.1 (T k).2.2.1 ∈ mm_B)
/-- and of what may be put there -/
def mm_Fp (C : String) (T : u_T) (N : Nat) : Prop :=
  (∃ ty : Nat → FieldType, ∀ k, k < N → parseFieldDescriptor (T k).2.2.1 = some (ty k)) ∧ ∀ a, a < N → ∀ b, b < N → a ≠ b → (T a).2.1 ≠ (T b).2.1
theorem mm_obj {G : mm_G} {M : mm_M} {H : Heap} (hH : mm_H G M H) {a ci : Nat} (hk : mm_k M a = ci + 1) (hci : ci < 99) : G.2.2.1 ≤ a ∧ ∃ r : vw_C, vwCl[ci]? = some r ∧ mm_l M a = r.2.2 ∧ t_OB a (G.1.1 ci) r.2.2 (G.1.2 ci) H (mm_c M a) := by
  rcases hH.2 a (by rw [hk]; exact Nat.succ_ne_zero _) with ⟨h1, h2, h3⟩ | ⟨h1, -⟩
  · rw [hk] at h3
    exact ⟨h2, h3⟩
  · rw [hk] at h1
    omega
theorem mm_arr {G : mm_G} {M : mm_M} {H : Heap} (hH : mm_H G M H) {a t : Nat} (hk : mm_k M a = 100 + t) : t < 6 ∧ (t ≠ 5 → G.2.2.1 ≤ a) ∧ H[a]? = some (arrV (G.2.1 t) (mm_l M a) (mm_c M a)) := by
  rcases hH.2 a (by rw [hk]; omega) with ⟨h1, -⟩ | ⟨h1, h2, h3, h4⟩
  · rw [hk] at h1
    omega
  · have e : mm_k M a - 100 = t := by omega
    rw [e] at h4
    exact ⟨by omega, fun q => h3 (by omega), h4⟩
theorem mm_rsO {ci k : Nat} {r : vw_C} (hci : ci < 99) (hcl : vwCl[ci]? = some r) : mm_rs (ci + 1) k = mm_rd (r.2.1 k).2.2.1 := by
  unfold mm_rs
  rw [if_pos (show ci + 1 < 100 by omega), show ci + 1 - 1 = ci from rfl, hcl]
theorem mm_rsA {t k : Nat} (h2 : 2 ≤ t) : mm_rs (100 + t) k = true := by
  unfold mm_rs
  rw [if_neg (show ¬ 100 + t < 100 by omega)]
  simp
  omega
theorem mm_rs0 (k : Nat) : mm_rs 100 k = false := rfl
theorem mm_rs1 (k : Nat) : mm_rs 101 k = false := rfl
theorem mm_cI {M : mm_M} {a j : Nat} (h : mm_rs (mm_k M a) j = false) : mm_c M a j = .int (mm_i M a j) := by
  unfold mm_c
  rw [h]
  rfl
theorem mm_cR {M : mm_M} {a j : Nat} (h : mm_rs (mm_k M a) j = true) : mm_c M a j = va_rf (mm_p M a j) := by
  unfold mm_c
  rw [h]
  rfl
section RW2
variable {l : Launch} {G : mm_G} {Y : mm_Y} {K : Option mm_V → mm_M → Prop} {M0 M : mm_M} {bc bs pc : Nat} {ls : List (Option mm_V)} {st : List mm_V}
theorem mr_get {idx ci k a : Nat} {C : String} {T : u_T} {N : Nat} {o : Option Nat} (hF : mm_Fg Y.2.1 idx ci k C T N) (hd : decode Y.1 pc = .ok (.getfield idx, 3)) (ho : o = some a) (hk : mm_k M a = ci + 1) (w : mm_V) (hw : mm_v w = mm_c M a k)
    (kk : mm_Z l G Y K M0 bc bs (pc + 3) ls (w :: st) M) : mm_Z l G Y K M0 bc bs pc ls (.inr o :: st) M := by
  subst ho
  intro p e s m args below meth c H locs cells slots la hJ hT hL hc hs
  have k1 := kk p e s m args below meth c H locs cells slots la hJ hT hL hc hs
  obtain ⟨hci, hcl, hkN, hin, ref, hlk, hsm⟩ := hF
  obtain ⟨hba, r, hr, hl, hob⟩ := mm_obj hT.1 hk hci
  have hre : r = (C, T, N) := Option.some.inj (hr.symm.trans hcl)
  subst hre
  obtain ⟨hx, hb, -, -, -, -, hown, hts, ⟨hK, -, hN, -⟩, -⟩ := hJ
  have hv : ((List.range N).map (mm_c M a))[k]? = some (mm_v w) := by
    rw [hw, List.getElem?_map, List.getElem?_range hkN]
    rfl
  have hP : va_P G.1 vwCl [(a, .inr (ci, (List.range N).map (mm_c M a)))] H := by
    intro j q hj
    have hz : j < 1 := (List.getElem?_eq_some_iff.mp hj).1
    rw [show j = 0 by omega] at hj
    cases hj
    refine ⟨_, hcl, hob.to (fun i hi => ?_)⟩
    simp [vp_V, List.getElem?_range hi]
  have hsame : ∀ x, s.fieldFound? (T k).1 (T k).2.1 (T k).2.2.1 = some x → s.fieldFound? ref (T k).2.1 (T k).2.2.1 = some x := by
    rcases hsm with h | h
    · intro x hx'
      rw [h]
      exact hx'
    · exact fun x hx' => u_same (hts _ h) x hx'
  rcases hlk with h | ⟨host, h⟩
  · exact va_get (D := G.1) (ci := ci) (v := mm_v w) hx hb hts hin hown hK hP 0 rfl hcl k hkN (hts _ h) hsame hv hd k1
  · exact va_getN (D := G.1) (ci := ci) (v := mm_v w) hx hb hts hin hown hK hP 0 rfl hcl k hkN (va_Nw.use rfl (hN _ h)) hsame hv hd k1
theorem mr_geti {idx ci k a : Nat} {C : String} {T : u_T} {N : Nat} {o : Option Nat} (hF : mm_Fg Y.2.1 idx ci k C T N) (hd : decode Y.1 pc = .ok (.getfield idx, 3)) (hrs : mm_rs (ci + 1) k = false) (ho : o = some a) (hk : mm_k M a = ci + 1)
    (kk : mm_Z l G Y K M0 bc bs (pc + 3) ls (.inl (mm_i M a k) :: st) M) : mm_Z l G Y K M0 bc bs pc ls (.inr o :: st) M :=
  mr_get hF hd ho hk (.inl (mm_i M a k)) (by unfold mm_c; rw [hk, hrs]; rfl) kk
theorem mr_getr {idx ci k a : Nat} {C : String} {T : u_T} {N : Nat} {o : Option Nat} (hF : mm_Fg Y.2.1 idx ci k C T N) (hd : decode Y.1 pc = .ok (.getfield idx, 3)) (hrs : mm_rs (ci + 1) k = true) (ho : o = some a) (hk : mm_k M a = ci + 1)
    (kk : mm_Z l G Y K M0 bc bs (pc + 3) ls (.inr (mm_p M a k) :: st) M) : mm_Z l G Y K M0 bc bs pc ls (.inr o :: st) M :=
  mr_get hF hd ho hk (.inr (mm_p M a k)) (by unfold mm_c; rw [hk, hrs]; rfl) kk
theorem mr_put {idx ci k a : Nat} {C : String} {T : u_T} {N : Nat} {o : Option Nat} {w : mm_V} {M1 : mm_M} (hF : mm_Fg Y.2.1 idx ci k C T N) (hP : mm_Fp C T N) (hfin : (T k).2.2.2 = false ∨ (Y.2.2.2.2.1 = true ∧ (T k).1 = Y.2.1 ∧ Cond.fieldLink Y.2.1 idx (T k).1 (T k).2.1 (T k).2.2.1 ∈ mm_B)) (hd : decode Y.1 pc = .ok (.putfield idx, 3)) {ty : FieldType} (hty : parseFieldDescriptor (T k).2.2.1 = some ty) (hn : narrow ty (mm_v w) = mm_v w) (hfit : fits ty (mm_v w) = true) (ho : o = some a) (hk : mm_k M a = ci + 1)
    (e0 : mm_z M1 = mm_z M) (e1 : ∀ b, mm_k M1 b = mm_k M b) (e2 : ∀ b, mm_l M1 b = mm_l M b) (e3 : ∀ b, b ≠ a → ∀ j, mm_i M1 b j = mm_i M b j) (e4 : ∀ b, b ≠ a → ∀ j, mm_p M1 b j = mm_p M b j) (e5 : ∀ j, j ≠ k → mm_c M1 a j = mm_c M a j) (e6 : mm_c M1 a k = mm_v w)
    (kk : mm_Z l G Y K M0 bc bs (pc + 3) ls st M1) : mm_Z l G Y K M0 bc bs pc ls (w :: .inr o :: st) M := by
  subst ho
  intro p e s m args below meth c H locs cells slots la hJ hT hL hc hs
  have hJ0 := hJ
  obtain ⟨hci, hcl, hkN, hin, ref, hlk, hsm⟩ := hF
  obtain ⟨hba, r, hr, hl, hob⟩ := mm_obj hT.1 hk hci
  have hre : r = (C, T, N) := Option.some.inj (hr.symm.trans hcl)
  subst hre
  obtain ⟨hx, hb, -, -, -, hini, hown, hts, ⟨hK, -, hNn, -⟩, -⟩ := hJ
  obtain ⟨⟨ty0, hty0⟩, hnm⟩ := hP
  have hap := va_apart (own := Y.2.1) hts hin ty0 hty0 hnm hK hcl
  obtain ⟨cell, q1, q2, q3, q4⟩ := hob
  obtain ⟨hS, hfc, kC, hkC, hkind⟩ := hK.1 ci _ hcl
  obtain ⟨cf, kf, fi, f, hi, hsl⟩ := hS k hkN
  have hst := (u_facts hfc hkC (u_lays hts hin hkN) hi).1
  have hlay := hts _ (hin _ (u_in_lay hkN))
  have hsame : ∀ x, s.fieldFound? (T k).1 (T k).2.1 (T k).2.2.1 = some x → s.fieldFound? ref (T k).2.1 (T k).2.2.1 = some x := by
    rcases hsm with h | h
    · intro x hx'
      rw [h]
      exact hx'
    · exact fun x hx' => u_same (hts _ h) x hx'
  have hA : mm_A G M0 a := mm_A.of hT.2.2 ⟨hba, Or.inl (by rw [hk]; exact Nat.succ_ne_zero _)⟩
  have fin : ∀ H' : Heap, H'[a]? = some (cell.setSlot f.slot (mm_v w)) → H'.size = H.size → (∀ q, q ≠ a → H'[q]? = H[q]?) → W p l e Y.2.2.2.2.2 s m args below meth c H' (locs ++ [⟨a, f.slot⟩]) cells slots (MQ below (mm_Q G K M0) args s Y.2.2.2.2.2.cells Y.2.2.2.2.2.slots (mm_A G M0)) (F0 m (pc + 3) la (st.map mm_v)) := by
    intro H' g1 g2 g3
    refine kk p e s m args below meth c H' _ cells slots la hJ0 ⟨hT.1.put g2 g3 e0 e1 e2 e3 e4 (Or.inl ⟨by rw [e1, hk]; omega, hba, ?_⟩), hT.2.1.put g2 g3 hA, ?_⟩ hL hc hs
    · rw [e1, hk]
      refine ⟨_, hcl, by rw [e2]; exact hl, t_OB.to (V := updV (mm_c M a) k (mm_v w)) ⟨_, g1, q2, q3, by rw [hsl]; exact t_set q4 hap hkN (mm_v w)⟩ (fun j _ => ?_)⟩
      by_cases hjk : j = k
      · subst hjk
        rw [e6]
        simp [updV]
      · rw [e5 j hjk]
        simp [updV, hjk]
    · refine ⟨by rw [e0]; exact hT.2.2.1, fun b hb => ?_, fun b hb => ?_⟩
      · rw [e1, e2]
        exact hT.2.2.2.1 b hb
      · rw [e1] at hb
        exact hT.2.2.2.2 b hb
  rcases hfin with hfin | ⟨hin1, hdecl, hlkF⟩
  · unfold u_lay at hlay
    rw [if_neg (by rw [hfin]; decide)] at hlay
    have h6 := u_store hfc hkC hkind hlay hi hty hn hfit
    rcases hlk with h | ⟨host, h⟩
    · exact W.putK hx hb (f := f) ⟨hown, hts _ h, ⟨_, _, _, hsame _ hi⟩, hst⟩ (by rw [q2]; exact h6) q1 q3 (by rw [hsl]; exact k2_hasslot (q4 k hkN)) rfl rfl hd fin
    · exact va_WputK hx hb (f := f) hown (va_Nw.use rfl (hNn _ h)) (hsame _ hi) hst (by rw [q2]; exact h6) q1 q3 (by rw [hsl]; exact k2_hasslot (q4 k hkN)) rfl rfl hd fin
  · by_cases hf2 : (T k).2.2.2 = true
    · unfold u_lay at hlay
      rw [if_pos hf2] at hlay
      have hcf : m.cls = cf := by
        obtain ⟨_, _, c', _, _, _, -, -, hf', -, -, -, hown2, -⟩ := Cond.laysFinal_spec hlay
        have z1 : c' = cf := by have := hi.symm.trans hf'; simp at this; exact this.1.symm
        rw [hdecl] at hown2
        rw [← z1]; exact Option.some.inj (hown.symm.trans hown2)
      have h6 := u_fits hfc hkC hkind (Or.inr hlay) hi hty hn hfit
      exact W.putFinK hx hb hown (hts _ hlkF) hi hst hcf (hini hin1) (by rw [q2]; exact h6) q1 q3 (by rw [hsl]; exact k2_hasslot (q4 k hkN)) rfl rfl hd fin
    · unfold u_lay at hlay
      rw [if_neg hf2] at hlay
      have h6 := u_store hfc hkC hkind hlay hi hty hn hfit
      exact W.putK hx hb (f := f) ⟨hown, hts _ hlkF, ⟨_, _, _, hi⟩, hst⟩ (by rw [q2]; exact h6) q1 q3 (by rw [hsl]; exact k2_hasslot (q4 k hkN)) rfl rfl hd fin
theorem mm_c_si {a ci k : Nat} {x : Int32} (hk : mm_k M a = ci + 1) (hrs : mm_rs (ci + 1) k = false) : (∀ j, j ≠ k → mm_c (mm_si M a k x) a j = mm_c M a j) ∧ mm_c (mm_si M a k x) a k = .int x := by
  refine ⟨fun j hj => ?_, ?_⟩
  · unfold mm_c
    have hn : ¬ (a = a ∧ j = k) := fun q => hj q.2
    rw [mm_k_si, mm_p_si, mm_i_si, if_neg hn]
  · rw [mm_cI (by rw [mm_k_si, hk]; exact hrs), mm_i_si, if_pos (⟨rfl, rfl⟩ : a = a ∧ k = k)]
theorem mm_c_sp {a ci k : Nat} {x : Option Nat} (hk : mm_k M a = ci + 1) (hrs : mm_rs (ci + 1) k = true) : (∀ j, j ≠ k → mm_c (mm_sp M a k x) a j = mm_c M a j) ∧ mm_c (mm_sp M a k x) a k = va_rf x := by
  refine ⟨fun j hj => ?_, ?_⟩
  · unfold mm_c
    have hn : ¬ (a = a ∧ j = k) := fun q => hj q.2
    rw [mm_k_sp, mm_i_sp, mm_p_sp, if_neg hn]
  · rw [mm_cR (by rw [mm_k_sp, hk]; exact hrs), mm_p_sp, if_pos (⟨rfl, rfl⟩ : a = a ∧ k = k)]
theorem mr_puti {idx ci k a : Nat} {C : String} {T : u_T} {N : Nat} {o : Option Nat} {x : Int32} (hF : mm_Fg Y.2.1 idx ci k C T N) (hP : mm_Fp C T N) (hfin : (T k).2.2.2 = false ∨ (Y.2.2.2.2.1 = true ∧ (T k).1 = Y.2.1 ∧ Cond.fieldLink Y.2.1 idx (T k).1 (T k).2.1 (T k).2.2.1 ∈ mm_B)) (hd : decode Y.1 pc = .ok (.putfield idx, 3)) (hty : parseFieldDescriptor (T k).2.2.1 = some .int ∨ (parseFieldDescriptor (T k).2.2.1 = some .boolean ∧ (x = 0 ∨ x = 1))) (hrs : mm_rs (ci + 1) k = false) (ho : o = some a) (hk : mm_k M a = ci + 1)
    (kk : mm_Z l G Y K M0 bc bs (pc + 3) ls st (mm_si M a k x)) : mm_Z l G Y K M0 bc bs pc ls (.inl x :: .inr o :: st) M := by
  have hc := mm_c_si (x := x) hk hrs
  rcases hty with hty | ⟨hty, hx⟩
  · exact mr_put (w := .inl x) (M1 := mm_si M a k x) hF hP hfin hd hty rfl rfl ho hk rfl (fun _ => rfl) (fun _ => rfl) (fun b hb j => by rw [mm_i_si, if_neg (fun q => hb q.1)]) (fun _ _ _ => rfl) hc.1 hc.2 kk
  · exact mr_put (w := .inl x) (M1 := mm_si M a k x) hF hP hfin hd hty (by rcases hx with rfl | rfl <;> decide) (by rcases hx with rfl | rfl <;> decide) ho hk rfl (fun _ => rfl) (fun _ => rfl) (fun b hb j => by rw [mm_i_si, if_neg (fun q => hb q.1)]) (fun _ _ _ => rfl) hc.1 hc.2 kk
theorem mr_putr {idx ci k a : Nat} {C : String} {T : u_T} {N : Nat} {o x : Option Nat} (hF : mm_Fg Y.2.1 idx ci k C T N) (hP : mm_Fp C T N) (hfin : (T k).2.2.2 = false ∨ (Y.2.2.2.2.1 = true ∧ (T k).1 = Y.2.1 ∧ Cond.fieldLink Y.2.1 idx (T k).1 (T k).2.1 (T k).2.2.1 ∈ mm_B)) (hd : decode Y.1 pc = .ok (.putfield idx, 3)) {ty : FieldType} (hty : parseFieldDescriptor (T k).2.2.1 = some ty) (hrt : (∃ n, ty = .object n) ∨ ∃ t, ty = .array t) (hrs : mm_rs (ci + 1) k = true) (ho : o = some a) (hk : mm_k M a = ci + 1)
    (kk : mm_Z l G Y K M0 bc bs (pc + 3) ls st (mm_sp M a k x)) : mm_Z l G Y K M0 bc bs pc ls (.inr x :: .inr o :: st) M := by
  have hc := mm_c_sp (x := x) hk hrs
  exact mr_put (w := .inr x) (M1 := mm_sp M a k x) hF hP hfin hd hty (by rcases hrt with ⟨n, rfl⟩ | ⟨t, rfl⟩ <;> cases x <;> rfl) (by rcases hrt with ⟨n, rfl⟩ | ⟨t, rfl⟩ <;> cases x <;> rfl) ho hk rfl (fun _ => rfl) (fun _ => rfl) (fun _ _ _ => rfl) (fun b hb j => by rw [mm_p_sp, if_neg (fun q => hb q.1)]) hc.1 hc.2 kk
-- arrays
theorem mm_tyAt (E : Nat → ClassId) {t : Nat} {ty : FieldType} (h : (mm_tys E)[t]? = some (E t, ty)) : (mm_tys E)[t]? = some (E t, ty) := h
theorem mm_ix {j n : Nat} (hm : j < 2147483648) (hj : j < n) : vp_in (nI j) n := by
  intro q
  rcases q with q | q
  · exact nI_pos (by omega) q
  · rw [nI_clamp (by omega)] at q
    omega
theorem mr_alen {a t : Nat} {o : Option Nat} {ty : FieldType} (hd : decode Y.1 pc = .ok (.arraylength, 1)) (ho : o = some a) (hk : mm_k M a = 100 + t) (ht : ∀ E, (mm_tys E)[t]? = some (E t, ty))
    (kk : mm_Z l G Y K M0 bc bs (pc + 1) ls (.inl (nI (mm_l M a)) :: st) M) : mm_Z l G Y K M0 bc bs pc ls (.inr o :: st) M := by
  subst ho
  intro p e s m args below meth c H locs cells slots la hJ hT hL hc hs
  have k1 := kk p e s m args below meth c H locs cells slots la hJ hT hL hc hs
  obtain ⟨h6, -, hA⟩ := mm_arr hT.1 hk
  obtain ⟨hx, hb, -, -, -, -, hown, hts, ⟨hK, -, -, -⟩, -⟩ := hJ
  exact W.alen (n := Int32.ofNat (mm_l M a)) hx hb hA ((hK.2 t _ (ht G.2.1)).1 _ _) (by rw [arrV_size] <;> rfl) rfl rfl hd k1
theorem mr_iald {a j : Nat} {o : Option Nat} {x : Int32} (hd : decode Y.1 pc = .ok (.iaload, 1)) (ho : o = some a) (hk : mm_k M a = 100) (hx : x = nI j) (hm : j < 2147483648) (hj : j < mm_l M a)
    (kk : mm_Z l G Y K M0 bc bs (pc + 1) ls (.inl (mm_i M a j) :: st) M) : mm_Z l G Y K M0 bc bs pc ls (.inl x :: .inr o :: st) M := by
  subst ho hx
  intro p e s m args below meth c H locs cells slots la hJ hT hL hc hs
  have k1 := kk p e s m args below meth c H locs cells slots la hJ hT hL hc hs
  obtain ⟨h6, -, hA⟩ := mm_arr (t := 0) hT.1 hk
  obtain ⟨hx, hb, -, -, -, -, hown, hts, ⟨hK, -, -, -⟩, -⟩ := hJ
  have e1 : mm_c M a j = .int (mm_i M a j) := by unfold mm_c; rw [hk]; rfl
  refine W.iald (v := .int (mm_i M a j)) hx hb hA ((hK.2 0 _ rfl).1 _ _) (fun q => by cases q) (by rw [arrV_size]; exact mm_ix hm hj) (by rw [nI_clamp (by omega), arrV_read _ _ hj, e1]) rfl rfl hd k1
theorem mr_zald {a j : Nat} {o : Option Nat} {x : Int32} (hd : decode Y.1 pc = .ok (.baload, 1)) (ho : o = some a) (hk : mm_k M a = 101) (hx : x = nI j) (hm : j < 2147483648) (hj : j < mm_l M a)
    (kk : mm_Z l G Y K M0 bc bs (pc + 1) ls (.inl (mm_i M a j) :: st) M) : mm_Z l G Y K M0 bc bs pc ls (.inl x :: .inr o :: st) M := by
  subst ho hx
  intro p e s m args below meth c H locs cells slots la hJ hT hL hc hs
  have k1 := kk p e s m args below meth c H locs cells slots la hJ hT hL hc hs
  obtain ⟨h6, -, hA⟩ := mm_arr (t := 1) hT.1 hk
  obtain ⟨hx, hb, -, -, -, -, hown, hts, ⟨hK, -, -, -⟩, -⟩ := hJ
  have e1 : mm_c M a j = .int (mm_i M a j) := by unfold mm_c; rw [hk]; rfl
  refine W.zald (v := .int (mm_i M a j)) hx hb hA ((hK.2 1 _ rfl).1 _ _) (fun q => by cases q) (by rw [arrV_size]; exact mm_ix hm hj) (by rw [nI_clamp (by omega), arrV_read _ _ hj, e1]) rfl rfl hd k1
theorem mr_aald {a j t : Nat} {o : Option Nat} {x : Int32} {C : String} (hd : decode Y.1 pc = .ok (.aaload, 1)) (ho : o = some a) (hk : mm_k M a = 100 + t) (ht : ∀ E, (mm_tys E)[t]? = some (E t, .object C)) (h2 : 2 ≤ t) (hx : x = nI j) (hm : j < 2147483648) (hj : j < mm_l M a)
    (kk : mm_Z l G Y K M0 bc bs (pc + 1) ls (.inr (mm_p M a j) :: st) M) : mm_Z l G Y K M0 bc bs pc ls (.inl x :: .inr o :: st) M := by
  subst ho hx
  intro p e s m args below meth c H locs cells slots la hJ hT hL hc hs
  have k1 := kk p e s m args below meth c H locs cells slots la hJ hT hL hc hs
  obtain ⟨h6, -, hA⟩ := mm_arr hT.1 hk
  obtain ⟨hx, hb, -, -, -, -, hown, hts, ⟨hK, -, -, -⟩, -⟩ := hJ
  have e1 : mm_c M a j = va_rf (mm_p M a j) := mm_cR (by rw [hk]; exact mm_rsA h2)
  refine W.aald (v := va_rf (mm_p M a j)) (ty := .object C) hx hb hA ((hK.2 t _ (ht G.2.1)).1 _ _) rfl (fun q => by cases q) (by rw [arrV_size]; exact mm_ix hm hj) (by rw [nI_clamp (by omega), arrV_read _ _ hj, e1]) rfl rfl hd k1
/-- an array's cell is written -/
theorem mm_T.arr {M1 : mm_M} {s : State} {H H1 : Heap} {locs : List Loc} {a t i : Nat} (hT : mm_T G M0 M s H locs) (hk : mm_k M a = 100 + t) (h5 : t ≠ 5) (z : H1.size = H.size) (oq : ∀ q : Nat, q ≠ a → H1[q]? = H[q]?) (e0 : mm_z M1 = mm_z M) (e1 : ∀ b, mm_k M1 b = mm_k M b) (e2 : ∀ b, mm_l M1 b = mm_l M b) (e3 : ∀ b, b ≠ a → ∀ j, mm_i M1 b j = mm_i M b j) (e4 : ∀ b, b ≠ a → ∀ j, mm_p M1 b j = mm_p M b j) (ha : H1[a]? = some (arrV (G.2.1 t) (mm_l M a) (mm_c M1 a))) : mm_T G M0 M1 s H1 (locs ++ [⟨a, i⟩]) := by
  obtain ⟨h6, hba, hA⟩ := mm_arr hT.1 hk
  refine ⟨hT.1.put z oq e0 e1 e2 e3 e4 (Or.inr ?_), hT.2.1.put z oq (mm_A.of hT.2.2 ⟨hba h5, Or.inl (by rw [hk]; omega)⟩), ?_⟩
  · rw [e1, e2, hk]
    exact ⟨by omega, by omega, fun _ => hba h5, by rw [show 100 + t - 100 = t by omega]; exact ha⟩
  · refine ⟨by rw [e0]; exact hT.2.2.1, fun b hb => ?_, fun b hb => ?_⟩
    · rw [e1, e2]
      exact hT.2.2.2.1 b hb
    · rw [e1] at hb
      exact hT.2.2.2.2 b hb
theorem mr_iast {a j : Nat} {o : Option Nat} {x y : Int32} (hd : decode Y.1 pc = .ok (.iastore, 1)) (ho : o = some a) (hk : mm_k M a = 100) (hx : x = nI j) (hm : j < 2147483648) (hj : j < mm_l M a)
    (kk : mm_Z l G Y K M0 bc bs (pc + 1) ls st (mm_si M a j y)) : mm_Z l G Y K M0 bc bs pc ls (.inl y :: .inl x :: .inr o :: st) M := by
  subst ho hx
  intro p e s m args below meth c H locs cells slots la hJ hT hL hc hs
  have hJ0 := hJ
  obtain ⟨h6, -, hA⟩ := mm_arr (t := 0) hT.1 hk
  obtain ⟨hx, hb, -, -, -, -, hown, hts, ⟨hK, -, -, -⟩, -⟩ := hJ
  refine W.iast hx hb hA ((hK.2 0 _ rfl).1 _ _) (fun q => by cases q) (by rw [arrV_size]; exact mm_ix hm hj) rfl rfl hd fun H1 g1 g2 g3 => ?_
  refine kk p e s m args below meth c H1 _ cells slots la hJ0 (hT.arr (t := 0) hk (by decide) g2 g3 rfl (fun _ => rfl) (fun _ => rfl) (fun b hb j' => by rw [mm_i_si, if_neg (fun q => hb q.1)]) (fun _ _ _ => rfl) ?_) hL hc hs
  rw [g1, arrV_store, nI_clamp (by omega)]
  congr 2
  funext q
  unfold updV mm_c
  rw [mm_k_si, hk, mm_p_si, mm_i_si]
  by_cases hq : q = j
  · subst hq
    simp [mm_rs]
  · simp [hq]
theorem mr_zast {a j : Nat} {o : Option Nat} {x y : Int32} (hd : decode Y.1 pc = .ok (.bastore, 1)) (ho : o = some a) (hk : mm_k M a = 101) (hx : x = nI j) (hm : j < 2147483648) (hj : j < mm_l M a) (hy : y = 0 ∨ y = 1)
    (kk : mm_Z l G Y K M0 bc bs (pc + 1) ls st (mm_si M a j y)) : mm_Z l G Y K M0 bc bs pc ls (.inl y :: .inl x :: .inr o :: st) M := by
  subst ho hx
  intro p e s m args below meth c H locs cells slots la hJ hT hL hc hs
  have hJ0 := hJ
  obtain ⟨h6, -, hA⟩ := mm_arr (t := 1) hT.1 hk
  obtain ⟨hx, hb, -, -, -, -, hown, hts, ⟨hK, -, -, -⟩, -⟩ := hJ
  refine W.zast hx hb hA ((hK.2 1 _ rfl).1 _ _) (fun q => by cases q) (by rw [arrV_size]; exact mm_ix hm hj) rfl rfl hd fun H1 g1 g2 g3 => ?_
  refine kk p e s m args below meth c H1 _ cells slots la hJ0 (hT.arr (t := 1) hk (by decide) g2 g3 rfl (fun _ => rfl) (fun _ => rfl) (fun b hb j' => by rw [mm_i_si, if_neg (fun q => hb q.1)]) (fun _ _ _ => rfl) ?_) hL hc hs
  have hn : narrow .boolean (.int y) = .int y := by rcases hy with rfl | rfl <;> decide
  rw [g1, hn, arrV_store, nI_clamp (by omega)]
  congr 2
  funext q
  unfold updV mm_c
  rw [mm_k_si, hk, mm_p_si, mm_i_si]
  by_cases hq : q = j
  · subst hq
    simp [mm_rs]
  · simp [hq]
/-- an object of class number ci may stand in an array of E -/
def mm_As (E : String) (ci : Nat) : Prop := ci < 99 ∧ ∃ (C : String) (T : u_T) (N : Nat), vwCl[ci]? = some (C, T, N) ∧ (C = E ∨ Cond.castable C E ∈ lw_tbl.filter mm_isN)
theorem mm_any {s : State} {H : Heap} {E : String} {ci v : Nat} (hCx : mm_Cx G s) (hH : mm_H G M H) (hv : mm_k M v = ci + 1) (ha : mm_As E ci) : va_Any E s H v := by
  obtain ⟨hci, C, T, N, hcl, hc⟩ := ha
  obtain ⟨-, r, hr, -, cell, q1, q2, q3, -⟩ := mm_obj hH hv hci
  obtain ⟨hK, -, hN, -⟩ := hCx
  have hkn := hK.1 ci _ hcl
  obtain ⟨-, hfc, kC, hkC, hkind⟩ := hkn
  refine ⟨cell, q1, by rw [q3]; rfl, ⟨kC, by rw [q2]; exact hkC⟩, fun comp h => ?_⟩
  rw [q2]
  rcases hc with h1 | h1
  · subst h1
    have : comp = G.1.1 ci := Option.some.inj (h.symm.trans hfc)
    rw [this]
    exact va_assign ⟨hfc, kC, hkC, hkind⟩
  · obtain ⟨c0, t0, f1, f2, f3⟩ := Cond.castable_spec (va_Nw.use (A := #[]) rfl (hN _ h1))
    cases hfc.symm.trans f1
    cases h.symm.trans f2
    exact f3
theorem mr_aast {a j t : Nat} {o v : Option Nat} {x : Int32} {E : String} (hd : decode Y.1 pc = .ok (.aastore, 1)) (ho : o = some a) (hk : mm_k M a = 100 + t) (ht : ∀ E', (mm_tys E')[t]? = some (E' t, .object E)) (h2 : 2 ≤ t) (h5 : t ≠ 5) (hx : x = nI j) (hm : j < 2147483648) (hj : j < mm_l M a) (hv : ∀ q, v = some q → ∃ ci, mm_k M q = ci + 1 ∧ mm_As E ci)
    (kk : mm_Z l G Y K M0 bc bs (pc + 1) ls st (mm_sp M a j v)) : mm_Z l G Y K M0 bc bs pc ls (.inr v :: .inl x :: .inr o :: st) M := by
  subst ho hx
  intro p e s m args below meth c H locs cells slots la hJ hT hL hc hs
  have hJ0 := hJ
  obtain ⟨h6, -, hA⟩ := mm_arr hT.1 hk
  obtain ⟨hx, hb, -, -, -, -, hown, hts, hCx, -⟩ := hJ
  have hK := hCx.1
  have fin : ∀ H1 : Heap, H1[a]? = some ((arrV (G.2.1 t) (mm_l M a) (mm_c M a)).setSlot (nI j).toNatClampNeg (va_rf v)) → H1.size = H.size → (∀ q, q ≠ a → H1[q]? = H[q]?) → W p l e Y.2.2.2.2.2 s m args below meth c H1 (locs ++ [⟨a, (nI j).toNatClampNeg⟩]) cells slots (MQ below (mm_Q G K M0) args s Y.2.2.2.2.2.cells Y.2.2.2.2.2.slots (mm_A G M0)) (F0 m (pc + 1) la (st.map mm_v)) := by
    intro H1 g1 g2 g3
    refine kk p e s m args below meth c H1 _ cells slots la hJ0 (hT.arr hk h5 g2 g3 rfl (fun _ => rfl) (fun _ => rfl) (fun _ _ _ => rfl) (fun b hb j' => by rw [mm_p_sp, if_neg (fun q => hb q.1)]) ?_) hL hc hs
    rw [g1, arrV_store, nI_clamp (by omega)]
    congr 2
    funext q
    have hrs : mm_rs (100 + t) q = true := mm_rsA h2
    unfold updV mm_c
    rw [mm_k_sp, hk, mm_i_sp, mm_p_sp, if_pos hrs, if_pos hrs]
    by_cases hq : q = j
    · subst hq
      simp
    · simp [hq]
  cases v with
  | none => exact va_WaastN (C := E) hx hb hA ((hK.2 t _ (ht G.2.1)).1 _ _) (fun h => by cases h) (by rw [arrV_size]; exact mm_ix hm hj) rfl rfl hd fin
  | some q =>
    obtain ⟨ci, hq, hAs⟩ := hv q rfl
    obtain ⟨cellV, g1, g3, ⟨kC, hkC⟩, hasg⟩ := mm_any hCx hT.1 hq hAs
    obtain ⟨kA, comp, k1, k2, k3, -⟩ := (hK.2 t _ (ht G.2.1)).2
    obtain ⟨kE, hkE, -⟩ := Vm.findClass_spec k3
    exact W.aast hx hb hA (fun q h => by cases h) (fun h => by cases h) k1 k2 rfl hkE ⟨nI_pos (by omega), by rw [arrV_size, nI_clamp (by omega)]; exact hj⟩ g1 (fun q h => by rw [h] at g3; cases g3) hkC (hasg _ k3) rfl rfl hd fin
-- new cells
def mm_Fn (own : String) (idx ci : Nat) (C : String) (T : u_T) (N : Nat) : Prop :=
  ci < 99 ∧ vwCl[ci]? = some (C, T, N) ∧ (∀ w ∈ u_ws C T N, w ∈ mm_B) ∧ Cond.classLink own idx C ∈ mm_B ∧ Cond.instantiable C N ∈ mm_B ∧ Cond.initialized C ∈ mm_B ∧ ∃ ty : Nat → FieldType, (∀ k, k < N → parseFieldDescriptor (T k).2.2.1 = some (ty k)) ∧ ∀ k, k < N → defaultValue (ty k) = if mm_rd (T k).2.2.1 = true then .null else .int 0
theorem mr_new {idx ci : Nat} {C : String} {T : u_T} {N : Nat} (hF : mm_Fn Y.2.1 idx ci C T N) (hd : decode Y.1 pc = .ok (.new idx, 3))
    (kk : mm_Z l G Y K M0 bc bs (pc + 3) ls (.inr (some (mm_z M)) :: st) (mm_nw M (ci + 1) N)) : mm_Z l G Y K M0 (bc + 1) (bs + N) pc ls st M := by
  intro p e s m args below meth c H locs cells slots la hJ hT hL hc hs
  have hJ0 := hJ
  obtain ⟨hx, hb, -, -, -, -, hown, hts, ⟨hK, hE, hNn, hbs⟩, hsz⟩ := hJ
  obtain ⟨hci, hcl, hin, h1, h2, h3, ty, hty, hdf⟩ := hF
  have hKn := hK.1 ci _ hcl
  refine W.newcK hx hb hown (hts _ h1) (hts _ h2) (hts _ h3) rfl hd (by omega) (by omega) hKn.2.1 hT.1.1 fun H1 kC hkC e1 z1 o1 => ?_
  have z1' : H1.size = H.size + 1 := by rw [z1, hT.1.1]
  have o1' : ∀ q, q < H.size → H1[q]? = H[q]? := fun q hq => o1 q (by rw [← hT.1.1]; exact hq)
  have hba : G.2.2.1 ≤ mm_z M := by
    have h4 := hT.2.1.1
    rw [hT.1.1] at h4
    omega
  refine kk p e s m args below meth c H1 locs (cells + 1) (slots + N) la hJ0 ⟨hT.1.new z1' o1' (Or.inl ?_), ⟨by have := hT.2.1.1; omega, fun q g1 g2 => (o1' q (Nat.lt_of_lt_of_le g1 hT.2.1.1)).trans (hT.2.1.2.1 q g1 g2), hT.2.1.2.2⟩, hT.2.2.nw hT.1⟩ hL (by omega) (by omega)
  have hkk : mm_k (mm_nw M (ci + 1) N) (mm_z M) = ci + 1 := by rw [mm_k_nw, if_pos rfl]
  rw [hkk]
  refine ⟨by omega, hba, _, hcl, by rw [mm_l_nw, if_pos rfl], (u_born ty hts hin hKn hkC e1 hty).to (fun k hk => ?_)⟩
  rw [hdf k hk]
  unfold mm_c
  rw [hkk, mm_rsO hci hcl, mm_p_nw, mm_i_nw, if_pos (rfl : mm_z M = mm_z M), if_pos (rfl : mm_z M = mm_z M)]
  rfl
theorem mr_newa {t n : Nat} {x : Int32} {atype : ArrayType} {ty : FieldType} (hd : decode Y.1 pc = .ok (.newarray atype, 2)) (hty : newarray.typeOf atype = ty) (hw : Cond.arrayClass ty ∈ mm_B) (ht : (t = 0 ∧ ty = .int) ∨ (t = 1 ∧ ty = .boolean)) (hx : x = nI n) (hn : n < 100000)
    (kk : mm_Z l G Y K M0 bc bs (pc + 2) ls (.inr (some (mm_z M)) :: st) (mm_nw M (100 + t) n)) : mm_Z l G Y K M0 (bc + 1) (bs + n) pc ls (.inl x :: st) M := by
  subst hx hty
  intro p e s m args below meth c H locs cells slots la hJ hT hL hc hs
  have hJ0 := hJ
  obtain ⟨hx, hb, -, -, -, -, hown, hts, ⟨hK, hE, hNn, hbs⟩, hsz⟩ := hJ
  have hb2 : n * componentBytes (newarray.typeOf atype) ≤ 536870912 := by
    have hc8 : componentBytes (newarray.typeOf atype) ≤ 8 := by cases atype <;> decide
    calc n * componentBytes (newarray.typeOf atype) ≤ n * 8 := Nat.mul_le_mul_left n hc8
      _ ≤ 536870912 := by omega
  refine va_newaK hx hb (hts _ hw) rfl hd rfl (nI_pos (by omega)) (nI_clamp (by omega)) hb2 (by omega) (by omega) hT.1.1 fun H1 cA e1 z1 o1 hAr hNm => ?_
  have z1' : H1.size = H.size + 1 := by rw [z1, hT.1.1]
  have o1' : ∀ q, q < H.size → H1[q]? = H[q]? := fun q hq => o1 q (by rw [← hT.1.1]; exact hq)
  have hba : G.2.2.1 ≤ mm_z M := by
    have h4 := hT.2.1.1
    rw [hT.1.1] at h4
    omega
  refine kk p e s m args below meth c H1 locs (cells + 1) (slots + n) la hJ0 ⟨hT.1.new z1' o1' (Or.inr ?_), ⟨by have := hT.2.1.1; omega, fun q g1 g2 => (o1' q (Nat.lt_of_lt_of_le g1 hT.2.1.1)).trans (hT.2.1.2.1 q g1 g2), hT.2.1.2.2⟩, hT.2.2.nw hT.1⟩ hL (by omega) (by omega)
  have hkk : mm_k (mm_nw M (100 + t) n) (mm_z M) = 100 + t := by rw [mm_k_nw, if_pos rfl]
  rw [hkk]
  refine ⟨by omega, by rcases ht with ⟨rfl, -⟩ | ⟨rfl, -⟩ <;> omega, fun _ => hba, ?_⟩
  rw [e1, mm_l_nw, if_pos rfl, show 100 + t - 100 = t by omega]
  have hcA : cA = G.2.1 t := by
    rcases ht with ⟨rfl, h⟩ | ⟨rfl, h⟩
    · have h3 := (hK.2 0 _ rfl).2
      rw [h] at hNm
      exact Option.some.inj (hNm.symm.trans h3)
    · have h3 := (hK.2 1 _ rfl).2
      rw [h] at hNm
      exact Option.some.inj (hNm.symm.trans h3)
  rw [hcA]
  congr 2
  funext q
  rw [mm_cI (by rw [hkk]; rcases ht with ⟨rfl, -⟩ | ⟨rfl, -⟩ <;> rfl), mm_i_nw, if_pos (rfl : mm_z M = mm_z M)]
  rcases ht with ⟨-, h⟩ | ⟨-, h⟩ <;> rw [h] <;> rfl
theorem mr_newq {t n idx : Nat} {x : Int32} {C : String} (hd : decode Y.1 pc = .ok (.anewarray idx, 3)) (hw : Cond.classLink Y.2.1 idx C ∈ mm_B) (hov : Cond.arrayOver (.object C) ∈ lw_tbl.filter mm_isN) (h2 : 2 ≤ t) (h5 : t < 5) (ht : ∀ E', (mm_tys E')[t]? = some (E' t, .object C)) (hx : x = nI n) (hn : n < 100000)
    (kk : mm_Z l G Y K M0 bc bs (pc + 3) ls (.inr (some (mm_z M)) :: st) (mm_nw M (100 + t) n)) : mm_Z l G Y K M0 (bc + 1) (bs + n) pc ls (.inl x :: st) M := by
  subst hx
  intro p e s m args below meth c H locs cells slots la hJ hT hL hc hs
  have hJ0 := hJ
  obtain ⟨hx, hb, -, -, -, -, hown, hts, ⟨hK, hE, hNn, hbs⟩, hsz⟩ := hJ
  have hcl : (nI n).toNatClampNeg = n := nI_clamp (by omega)
  refine W.anew hx hb hown (hts _ hw) (va_AO.use (hNn _ hov)) rfl hd rfl (nI_pos (by omega)) (by rw [hcl]; omega) (by omega) (by rw [hcl]; omega) fun cA kA comp f1 f2 f3 f4 => ?_
  rw [hcl, hT.1.1]
  generalize hH1 : H.push ({ cls := cA, slots := Array.replicate n .null, vm := .none } : Cell) = H1
  have z1' : H1.size = H.size + 1 := by rw [← hH1, Array.size_push]
  have e1 : H1[H.size]? = some (arrV cA n (fun _ => .null)) := by rw [← hH1, Array.getElem?_push_size, ← arrV_new]
  have o1' : ∀ q, q < H.size → H1[q]? = H[q]? := fun q hq => by rw [← hH1, Array.getElem?_push, if_neg (Nat.ne_of_lt hq)]
  have hba : G.2.2.1 ≤ mm_z M := by
    have h4 := hT.2.1.1
    rw [hT.1.1] at h4
    omega
  refine kk p e s m args below meth c H1 locs (cells + 1) (slots + n) la hJ0 ⟨hT.1.new z1' o1' (Or.inr ?_), ⟨by have := hT.2.1.1; omega, fun q g1 g2 => (o1' q (Nat.lt_of_lt_of_le g1 hT.2.1.1)).trans (hT.2.1.2.1 q g1 g2), hT.2.1.2.2⟩, hT.2.2.nw hT.1⟩ hL (by omega) (by omega)
  have hkk : mm_k (mm_nw M (100 + t) n) (mm_z M) = 100 + t := by rw [mm_k_nw, if_pos rfl]
  rw [hkk]
  refine ⟨by omega, by omega, fun _ => hba, ?_⟩
  rw [← hT.1.1, e1, hT.1.1, mm_l_nw, if_pos rfl, show 100 + t - 100 = t by omega]
  have hcA : cA = G.2.1 t := by
    obtain ⟨_, _, _, _, _, h3⟩ := (hK.2 t _ (ht G.2.1)).2
    exact Option.some.inj (f1.symm.trans h3)
  rw [hcA]
  congr 2
  funext q
  rw [mm_cR (by rw [hkk]; exact mm_rsA h2), mm_p_nw, if_pos (rfl : mm_z M = mm_z M)]
  rfl
-- a cast
theorem mr_cast {idx ci : Nat} {nm : String} {o : Option Nat} (hd : decode Y.1 pc = .ok (.checkcast idx, 3)) (hw : Cond.classLink Y.2.1 idx nm ∈ mm_B) (ho : ∀ a, o = some a → mm_k M a = ci + 1) (hA : mm_As nm ci)
    (kk : mm_Z l G Y K M0 bc bs (pc + 3) ls (.inr o :: st) M) : mm_Z l G Y K M0 bc bs pc ls (.inr o :: st) M := by
  intro p e s m args below meth c H locs cells slots la hJ hT hL hc hs
  have k1 := kk p e s m args below meth c H locs cells slots la hJ hT hL hc hs
  obtain ⟨hx, hb, -, -, -, -, hown, hts, hCx, hsz⟩ := hJ
  cases o with
  | none => exact lv_castN hx hb hd k1
  | some a =>
    obtain ⟨hci, C, T, N, hcl, hC⟩ := hA
    obtain ⟨-, r, hr, -, cell, q1, q2, q3, -⟩ := mm_obj hT.1 (ho a rfl) hci
    have hkn := (hCx.1.1 ci _ hcl).2
    rcases hC with h | h
    · subst h
      exact va_castS hx hb hown (hts _ hw) hkn ⟨cell, q1, by rw [q3]; rfl, by rw [q2]; exact hkn.1⟩ hd k1
    · exact va_castY hx hb hown (hts _ hw) (hCx.2.2.1 _ h) ⟨cell, q1, by rw [q3]; rfl, by rw [q2]; exact hkn.1⟩ hd k1
-- the empty list's array
theorem mr_empty {idx : Nat} {ref : String} (hd : decode Y.1 pc = .ok (.getstatic idx, 3)) (hw : Cond.fieldLink Y.2.1 idx ref "DEFAULTCAPACITY_EMPTY_ELEMENTDATA" "[Ljava/lang/Object;" ∈ mm_B) (hr : ref = "java/util/ArrayList")
    (kk : mm_Z l G Y K M0 bc bs (pc + 3) ls (.inr (some G.2.2.2.1) :: st) M) : mm_Z l G Y K M0 bc bs pc ls st M := by
  subst hr
  intro p e s m args below meth c H locs cells slots la hJ hT hL hc hs
  have k1 := kk p e s m args below meth c H locs cells slots la hJ hT hL hc hs
  obtain ⟨hx, hb, -, -, -, -, hown, hts, hCx, hsz⟩ := hJ
  have hS : va_S (fun q => G.2.2.1 ≤ q) s.heap H locs := ⟨hT.2.1.1, fun q h1 h2 => hT.2.1.2.1 q h1 (fun z => h2 z.1), fun q hq => (hT.2.1.2.2 q hq).1⟩
  exact va_gets hx hb hCx.2.1.1 hS hown (hts _ hw) (fun x h => h) hd k1
end RW2
end
section
/-! CALLS -/
theorem mm_Cx.same {G : mm_G} {u U : State} (hv : u.vm = U.vm) (hh : u.heap = U.heap) (h : mm_Cx G u) : mm_Cx G U := by
  have hal : u.vm.Alike U.vm := hv ▸ Vm.Alike.refl u.vm
  refine ⟨va_K.moved hal h.1, ?_, fun w hw => ?_, by rw [← hh]; exact h.2.2.2⟩
  · rw [← hh]
    exact ⟨va_Z.moved hal h.2.1.1, va_Mi.moved hal h.2.1.2⟩
  · have hn := (List.mem_filter.mp hw).2
    have h1 := h.2.2.1 w hw
    unfold mm_isN at hn
    split at hn
    · exact va_Nw.same rfl hv h1
    · exact va_Nw.same rfl hv h1
    · exact va_Nw.same rfl hv h1
    · exact va_Nw.same rfl hv h1
    · exact va_AO.moved hal h1
    · cases hn
theorem mm_Cx.later {G : mm_G} {s U : State} (hW : s.WarmedH U.vm) (hz : s.heap.size ≤ U.heap.size) (hq : ∀ a : Nat, a < s.heap.size → ¬ G.2.2.1 ≤ a → U.heap[a]? = s.heap[a]?) (h : mm_Cx G s) : mm_Cx G U := by
  refine ⟨va_K.moved hW.alike h.1, ⟨(va_Z.moved hW.alike h.2.1.1).kept hq, va_Mi.moved hW.alike h.2.1.2⟩, fun w hw => mm_isN.moved (List.mem_filter.mp hw).2 hW (h.2.2.1 w hw), Nat.le_trans h.2.2.2 hz⟩
theorem mm_sumcat (st : List mm_V) : ((st.map mm_v).map fun v => v.category).sum = st.length := by
  induction st with
  | nil => rfl
  | cons v t ih =>
    simp only [List.map_cons, List.sum_cons, List.length_cons, mm_v_cat]
    rw [ih]
    omega
section RW3
variable {l : Launch} {G : mm_G} {Y : mm_Y} {K : Option mm_V → mm_M → Prop} {M0 M : mm_M} {bc bs pc : Nat} {ls : List (Option mm_V)} {st : List mm_V}
theorem mm_blind {vs : List mm_V} : FrameBlind (va_Pc (vs.map mm_v) (fun U => mm_Cx G U ∧ mm_H G M U.heap)) := by
  intro a U g mk q
  obtain ⟨q0, q1, q2⟩ := q
  exact ⟨q0, mm_Cx.same (u := U) (U := U.calling g mk a) rfl rfl q1, q2⟩
theorem mm_pre {vs : List mm_V} {p : Program} {s : State} {m : MethodId} {args : Array Value} {meth : Method} {c : Code} {H : Heap} {locs : List Loc} (hJ : mm_J G Y M0 p s m args meth c) (hT : mm_T G M0 M s H locs) : ∀ U : State, U.heap = H → s.WarmedH U.vm → va_Pc (vs.map mm_v) (fun U => mm_Cx G U ∧ mm_H G M U.heap) (vs.map mm_v).toArray U := by
  intro U hU hW
  refine ⟨rfl, mm_Cx.later hW (by rw [hU]; exact hT.2.1.1) (fun a h1 h2 => by rw [hU]; exact hT.2.1.2.1 a h1 (fun z => h2 z.1)) hJ.2.2.2.2.2.2.2.2.1, by rw [hU]; exact hT.1⟩
theorem mm_ret {K' : Option mm_V → mm_M → Prop} {mc ms : Nat} {p : Program} {e : Env} {s : State} {m : MethodId} {args : Array Value} {below : List Frame} {meth : Method} {c : Code} {H : Heap} {locs : List Loc} {cells slots : Nat} {la : Array Slot} {st0 : List Value} {a : Array Value}
    (hr : va_Run p l e Y.2.2.2.2.2 s m args below meth c H locs cells slots mc ms (F0 m pc la st0) (st.map mm_v) (mm_Q G K' M a) (mm_A G M)) (hJ : mm_J G Y M0 p s m args meth c) (hT : mm_T G M0 M s H locs) (hL : mm_L la Y.2.2.1 ls) (hc : cells + (bc + mc) ≤ Y.2.2.2.2.2.cells) (hs : slots + (bs + ms) ≤ Y.2.2.2.2.2.slots)
    (kk : ∀ r M1, mm_X M M1 → K' r M1 → mm_Z l G Y K M0 bc bs (pc + 3) ls (r.toList ++ st) M1) : W p l e Y.2.2.2.2.2 s m args below meth c H locs cells slots (MQ below (mm_Q G K M0) args s Y.2.2.2.2.2.cells Y.2.2.2.2.2.slots (mm_A G M0)) (F0 m pc la st0) := by
  intro T hT0 X
  obtain ⟨v, st₀, t, T', L, h0, X', hLc, e1, e2, ⟨r, M1, hv, hH1, hX1, hK1, hF⟩, hgo⟩ := hr T hT0 X
  have hvr : v = r.map mm_v := by
    cases hv
    rfl
  subst hvr
  have hz : H.size ≤ T'.heap.size := by rw [e1, ← h0]; exact hF.1
  have k1 := kk r M1 hX1 hK1 p e s m args below meth c T'.heap (locs ++ L) (cells + mc) (slots + ms) la hJ ⟨by rw [e1]; exact hH1, ⟨Nat.le_trans hT.2.1.1 hz, fun q g1 g2 => ?_, fun q hq => ?_⟩, hT.2.2.tr hX1⟩ hL (by omega) (by omega)
  · obtain ⟨t2, a1, b1⟩ := k1 T' rfl X'
    have est : (r.toList ++ st).map mm_v = (r.map mm_v).toList ++ st.map mm_v := by
      cases r <;> rfl
    rw [est] at a1
    exact ⟨t2, hgo t2 a1, b1⟩
  · rw [e1, hF.2 q (by rw [h0]; exact Nat.lt_of_lt_of_le g1 hT.2.1.1) (fun z => g2 (mm_A.of hT.2.2 z)), h0]
    exact hT.2.1.2.1 q g1 g2
  · rcases List.mem_append.mp hq with h | h
    · exact hT.2.1.2.2 q h
    · exact mm_A.of hT.2.2 (hLc q h)
/-- what a call stands on -/
def mm_Fc (own : String) (idx : Nat) (y : MethodName) (Yc : mm_Y) (n : Nat) : Prop :=
  Cond.code y Yc.1 Yc.2.2.1 Yc.2.2.2.1 ∈ mm_B ∧ Cond.initialized y.cls ∈ mm_B ∧ (y.cls ≠ "java/lang/invoke/MethodHandle" ∧ y.cls ≠ "java/lang/invoke/VarHandle" ∧ (parseMethodDescriptor y.desc).map (fun d => d.parameters.length) = some n) ∧ (Cond.methodLink own idx y ∈ mm_B ∨ ∃ host : String, Cond.methodLinkNest own idx y host ∈ lw_tbl.filter mm_isN)
def mm_Rm (R Rc : Room) (nL : Nat) : Prop := Rc.frames + 1 ≤ R.frames ∧ 8 + (nL + 11) + Rc.locals ≤ R.locals
theorem mm_wsB {y : MethodName} {Yc : mm_Y} (h : Cond.code y Yc.1 Yc.2.2.1 Yc.2.2.2.1 ∈ mm_B) : GoodIn mm_B (mm_ws y Yc) := mm_goodB (fun w hw => by
  rcases List.mem_cons.mp hw with h1 | h1
  · rw [h1]; exact h
  · exact h1)
theorem mr_callV {idx ci b : Nat} {y : MethodName} {Yc : mm_Y} {vs : List mm_V} {st0 : List mm_V} {o : Option Nat} {K' : Option mm_V → mm_M → Prop} {T : u_T} {N : Nat} (hF : mm_Fc Y.2.1 idx y Yc vs.length) (h1 : Cond.instanceMethod y ∈ mm_B) (h2 : Cond.selects y.cls y y ∈ mm_B) (hd : decode Y.1 pc = .ok (.invokevirtual idx, 3)) (hR : mm_Rm Y.2.2.2.2.2 Yc.2.2.2.2.2 Yc.2.2.1) (hci : ci < 99) (hcl : vwCl[ci]? = some (y.cls, T, N)) (hst : st0 = vs.reverse ++ .inr o :: st) (hlen : st.length ≤ 8) (ho : o = some b) (hk : mm_k M b = ci + 1) (hOk : mm_Ok l G y Yc (.inr (some b) :: vs) M K')
    (kk : ∀ r M1, mm_X M M1 → K' r M1 → mm_Z l G Y K M0 bc bs (pc + 3) ls (r.toList ++ st) M1) : mm_Z l G Y K M0 (bc + Yc.2.2.2.2.2.cells) (bs + Yc.2.2.2.2.2.slots) pc ls st0 M := by
  subst hst ho
  intro p e s m args below meth c H locs cells slots la hJ hT hL hc hs
  have hJ0 := hJ
  obtain ⟨hx, hb, hml, -, -, -, hown, hts, hCx, hsz⟩ := hJ
  obtain ⟨hcode, hini, hy, hlk⟩ := hF
  obtain ⟨-, r, hr, -, cell, q1, q2, q3, -⟩ := mm_obj hT.1 hk hci
  have hkn := (hCx.1.1 ci _ hcl).2.1
  have hpre : PreV s H y.cls b (va_Pc ((.inr (some b) :: vs).map mm_v) (fun U => mm_Cx G U ∧ mm_H G M U.heap)) (vs.map mm_v) := ⟨mm_blind, ⟨cell, q1, by rw [q3]; rfl, by rw [q2]; exact hkn⟩, mm_pre (vs := .inr (some b) :: vs) hJ0 hT⟩
  have hstk : ((vs.reverse ++ .inr (some b) :: st).map mm_v) = (vs.map mm_v).reverse ++ .ref b :: st.map mm_v := by
    rw [List.map_append, List.map_reverse]
    rfl
  have hroom : 2 * (F0 m pc la ((vs.reverse ++ .inr (some b) :: st).map mm_v)).monitorRoom + ((st.map mm_v).map fun v => v.category).sum ≤ 8 := lv_room (by rw [mm_sumcat]; exact hlen)
  rcases hlk with h | ⟨host, h⟩
  · have cw : CallW Y.2.2.2.2.2 s args Y.2.1 y.cls idx y Yc.1 Yc.2.2.1 Yc.2.2.2.1 (mm_ws y Yc) Yc.2.2.2.2.2 Yc.2.2.2.2.2.cells Yc.2.2.2.2.2.slots vs.length := ⟨callB_of _ hts (mm_wsB hcode) rfl rfl rfl (hts _ hini) (hts _ h) hy hR, hts _ h1, hts _ h2⟩
    exact mm_ret (va_runV (Ts := mm_B) ⟨hx, hb, hml, hown, hts⟩ hOk cw hpre rfl (by simp) hL.1 hstk hroom hd ⟨by omega, by omega⟩) hJ0 hT hL hc hs kk
  · have cw : va_CN Y.2.2.2.2.2 s args Y.2.1 idx y host Yc.1 Yc.2.2.1 Yc.2.2.2.1 (mm_ws y Yc) Yc.2.2.2.2.2 Yc.2.2.2.2.2.cells Yc.2.2.2.2.2.slots vs.length := va_cnB _ hts (mm_wsB hcode) rfl rfl rfl (hCx.2.2.1 _ h) (hts _ hini) hy hR
    exact mm_ret (va_runVN (Ts := mm_B) ⟨hx, hb, hml, hown, hts⟩ hOk ⟨cw, hts _ h1, hts _ h2⟩ hpre rfl (by simp) hL.1 hstk hroom hd ⟨by omega, by omega⟩) hJ0 hT hL hc hs kk
theorem mr_callI {idx b : Nat} {y : MethodName} {Yc : mm_Y} {vs : List mm_V} {st0 : List mm_V} {o : Option Nat} {K' : Option mm_V → mm_M → Prop} (hF : mm_Fc Y.2.1 idx y Yc vs.length) (h1 : Cond.instanceMethod y ∈ mm_B) (h2 : y.name = "<init>" ∧ Yc.2.2.2.1 = none) (hd : decode Y.1 pc = .ok (.invokespecial idx, 3)) (hR : mm_Rm Y.2.2.2.2.2 Yc.2.2.2.2.2 Yc.2.2.1) (hst : st0 = vs.reverse ++ .inr o :: st) (hlen : st.length ≤ 8) (ho : o = some b) (hOk : mm_Ok l G y Yc (.inr (some b) :: vs) M K')
    (kk : ∀ r M1, mm_X M M1 → K' r M1 → mm_Z l G Y K M0 bc bs (pc + 3) ls (r.toList ++ st) M1) : mm_Z l G Y K M0 (bc + Yc.2.2.2.2.2.cells) (bs + Yc.2.2.2.2.2.slots) pc ls st0 M := by
  subst hst ho
  intro p e s m args below meth c H locs cells slots la hJ hT hL hc hs
  have hJ0 := hJ
  obtain ⟨hx, hb, hml, -, -, -, hown, hts, hCx, hsz⟩ := hJ
  obtain ⟨hcode, hini, hy, hlk⟩ := hF
  have hpre : PreS s H (va_Pc ((.inr (some b) :: vs).map mm_v) (fun U => mm_Cx G U ∧ mm_H G M U.heap)) (.ref b :: vs.map mm_v) := ⟨mm_blind, mm_pre (vs := .inr (some b) :: vs) hJ0 hT⟩
  have hstk : ((vs.reverse ++ .inr (some b) :: st).map mm_v) = (vs.map mm_v).reverse ++ .ref b :: st.map mm_v := by
    rw [List.map_append, List.map_reverse]
    rfl
  have hroom : 2 * (F0 m pc la ((vs.reverse ++ .inr (some b) :: st).map mm_v)).monitorRoom + ((st.map mm_v).map fun v => v.category).sum ≤ 8 := lv_room (by rw [mm_sumcat]; exact hlen)
  rcases hlk with h | ⟨host, h⟩
  · have cw : CallB Y.2.2.2.2.2 s args Y.2.1 idx y Yc.1 Yc.2.2.1 none (mm_ws y Yc) Yc.2.2.2.2.2 Yc.2.2.2.2.2.cells Yc.2.2.2.2.2.slots vs.length := h2.2 ▸ callB_of _ hts (mm_wsB hcode) rfl rfl rfl (hts _ hini) (hts _ h) hy hR
    exact mm_ret (va_runI (Ts := mm_B) ⟨hx, hb, hml, hown, hts⟩ hOk ⟨cw, h2.1, hts _ h1⟩ hpre rfl (by simp) hL.1 hstk hroom hd ⟨by omega, by omega⟩) hJ0 hT hL hc hs kk
  · have cw : va_CN Y.2.2.2.2.2 s args Y.2.1 idx y host Yc.1 Yc.2.2.1 none (mm_ws y Yc) Yc.2.2.2.2.2 Yc.2.2.2.2.2.cells Yc.2.2.2.2.2.slots vs.length := h2.2 ▸ va_cnB _ hts (mm_wsB hcode) rfl rfl rfl (hCx.2.2.1 _ h) (hts _ hini) hy hR
    exact mm_ret (va_runIN (Ts := mm_B) ⟨hx, hb, hml, hown, hts⟩ hOk ⟨cw, h2.1, hts _ h1⟩ hpre rfl (by simp) hL.1 hstk hroom hd ⟨by omega, by omega⟩) hJ0 hT hL hc hs kk
theorem mr_callS {idx : Nat} {y : MethodName} {Yc : mm_Y} {vs : List mm_V} {st0 : List mm_V} {K' : Option mm_V → mm_M → Prop} (hF : mm_Fc Y.2.1 idx y Yc vs.length) (h1 : Cond.static y ∈ mm_B) (hd : decode Y.1 pc = .ok (.invokestatic idx, 3)) (hR : mm_Rm Y.2.2.2.2.2 Yc.2.2.2.2.2 Yc.2.2.1) (hst : st0 = vs.reverse ++ st) (hlen : st.length ≤ 8) (hOk : mm_Ok l G y Yc vs M K')
    (kk : ∀ r M1, mm_X M M1 → K' r M1 → mm_Z l G Y K M0 bc bs (pc + 3) ls (r.toList ++ st) M1) : mm_Z l G Y K M0 (bc + Yc.2.2.2.2.2.cells) (bs + Yc.2.2.2.2.2.slots) pc ls st0 M := by
  subst hst
  intro p e s m args below meth c H locs cells slots la hJ hT hL hc hs
  have hJ0 := hJ
  obtain ⟨hx, hb, hml, -, -, -, hown, hts, hCx, hsz⟩ := hJ
  obtain ⟨hcode, hini, hy, hlk⟩ := hF
  have hpre : PreS s H (va_Pc (vs.map mm_v) (fun U => mm_Cx G U ∧ mm_H G M U.heap)) (vs.map mm_v) := ⟨mm_blind, mm_pre (vs := vs) hJ0 hT⟩
  have hstk : ((vs.reverse ++ st).map mm_v) = (vs.map mm_v).reverse ++ st.map mm_v := by
    rw [List.map_append, List.map_reverse]
  have hroom : 2 * (F0 m pc la ((vs.reverse ++ st).map mm_v)).monitorRoom + ((st.map mm_v).map fun v => v.category).sum ≤ 8 := lv_room (by rw [mm_sumcat]; exact hlen)
  rcases hlk with h | ⟨host, h⟩
  · have cw : CallB Y.2.2.2.2.2 s args Y.2.1 idx y Yc.1 Yc.2.2.1 Yc.2.2.2.1 (mm_ws y Yc) Yc.2.2.2.2.2 Yc.2.2.2.2.2.cells Yc.2.2.2.2.2.slots vs.length := callB_of _ hts (mm_wsB hcode) rfl rfl rfl (hts _ hini) (hts _ h) hy hR
    exact mm_ret (va_runS (Ts := mm_B) ⟨hx, hb, hml, hown, hts⟩ hOk ⟨cw, hts _ h1⟩ hpre rfl (by simp) hL.1 hstk hroom hd ⟨by omega, by omega⟩) hJ0 hT hL hc hs kk
  · have cw : va_CN Y.2.2.2.2.2 s args Y.2.1 idx y host Yc.1 Yc.2.2.1 Yc.2.2.2.1 (mm_ws y Yc) Yc.2.2.2.2.2 Yc.2.2.2.2.2.cells Yc.2.2.2.2.2.slots vs.length := va_cnB _ hts (mm_wsB hcode) rfl rfl rfl (hCx.2.2.1 _ h) (hts _ hini) hy hR
    exact mm_ret (va_runSN (Ts := mm_B) ⟨hx, hb, hml, hown, hts⟩ hOk ⟨cw, hts _ h1, trivial⟩ hpre rfl (by simp) hL.1 hstk hroom hd ⟨by omega, by omega⟩) hJ0 hT hL hc hs kk
theorem mr_obji {idx : Nat} {x : Option Nat} (hd : decode Y.1 pc = .ok (.invokespecial idx, 3)) (h1 : Cond.methodLink Y.2.1 idx Lib.objectInit ∈ mm_B) (h2 : Cond.instanceMethod Lib.objectInit ∈ mm_B) (h3 : Cond.code Lib.objectInit ⟨#[0xb1]⟩ 1 none ∈ mm_B) (hR : 1 ≤ Y.2.2.2.2.2.frames ∧ st.length + 12 ≤ Y.2.2.2.2.2.locals) {a : Nat} (ho : x = some a)
    (kk : mm_Z l G Y K M0 bc bs (pc + 3) ls st M) : mm_Z l G Y K M0 bc bs pc ls (.inr x :: st) M := by
  subst ho
  intro p e s m args below meth c H locs cells slots la hJ hT hL hc hs
  have k1 := kk p e s m args below meth c H locs cells slots la hJ hT hL hc hs
  obtain ⟨hx, hb, hml, -, -, -, hown, hts, hCx, hsz⟩ := hJ
  exact W.objInit hx hb hown (hts _ h1) (hts _ h2) (hts _ h3) rfl (by rw [hml]; exact hL.1) rfl hd hR.1 (by show 2 * 0 + ((st.map mm_v).map fun v => v.category).sum + 12 ≤ _; rw [mm_sumcat]; omega) k1
theorem mr_mmax {idx : Nat} {x y : Int32} (hd : decode Y.1 pc = .ok (.invokestatic idx, 3)) (h1 : Cond.methodLink Y.2.1 idx Lib.Math.max.name ∈ mm_B) (h2 : Cond.static Lib.Math.max.name ∈ mm_B) (h3 : Cond.initialized "java/lang/Math" ∈ mm_B) (h4 : Cond.code Lib.Math.max.name Lib.Math.max.code 2 (some .int) ∈ mm_B) (hR : 1 ≤ Y.2.2.2.2.2.frames ∧ st.length + 13 ≤ Y.2.2.2.2.2.locals)
    (kk : mm_Z l G Y K M0 bc bs (pc + 3) ls (.inl (if x < y then y else x) :: st) M) : mm_Z l G Y K M0 bc bs pc ls (.inl y :: .inl x :: st) M := by
  intro p e s m args below meth c H locs cells slots la hJ hT hL hc hs
  have k1 := kk p e s m args below meth c H locs cells slots la hJ hT hL hc hs
  obtain ⟨hx, hb, hml, -, -, -, hown, hts, hCx, hsz⟩ := hJ
  exact va_mmax hx hb (by rw [hml]; exact hL.1.symm) hown (hts _ h1) (hts _ h2) (hts _ h3) (hts _ h4) hR.1 (by rw [mm_sumcat]; exact hR.2) (by omega) (by omega) hd k1
theorem mr_mmin {idx : Nat} {x y : Int32} (hd : decode Y.1 pc = .ok (.invokestatic idx, 3)) (h1 : Cond.methodLink Y.2.1 idx Lib.Math.min.name ∈ mm_B) (h2 : Cond.static Lib.Math.min.name ∈ mm_B) (h3 : Cond.initialized "java/lang/Math" ∈ mm_B) (h4 : Cond.code Lib.Math.min.name Lib.Math.min.code 2 (some .int) ∈ mm_B) (hR : 1 ≤ Y.2.2.2.2.2.frames ∧ st.length + 13 ≤ Y.2.2.2.2.2.locals)
    (kk : mm_Z l G Y K M0 bc bs (pc + 3) ls (.inl (if y < x then y else x) :: st) M) : mm_Z l G Y K M0 bc bs pc ls (.inl y :: .inl x :: st) M := by
  intro p e s m args below meth c H locs cells slots la hJ hT hL hc hs
  have k1 := kk p e s m args below meth c H locs cells slots la hJ hT hL hc hs
  obtain ⟨hx, hb, hml, -, -, -, hown, hts, hCx, hsz⟩ := hJ
  exact va_mmin hx hb (by rw [hml]; exact hL.1.symm) hown (hts _ h1) (hts _ h2) (hts _ h3) (hts _ h4) hR.1 (by rw [mm_sumcat]; exact hR.2) (by omega) (by omega) hd k1
end RW3
end
section
/-! THE TABLES' WORDS, each by its place (by program) -/
theorem tb_0 : (Jvm.Cond.initialized "ProcessHeapsLaw") ∈ mm_B := mm_inB (List.mem_append_right _ (List.mem_of_getElem? (l := tables_1) (i := 0) (by decide +kernel))) rfl
theorem tb_1 : (Jvm.Cond.initialized "ProcessHeaps") ∈ mm_B := mm_inB (List.mem_append_right _ (List.mem_of_getElem? (l := tables_1) (i := 1) (by decide +kernel))) rfl
theorem tb_2 : (Jvm.Cond.initialized "ProcessHeaps$Memory") ∈ mm_B := mm_inB (List.mem_append_right _ (List.mem_of_getElem? (l := tables_1) (i := 2) (by decide +kernel))) rfl
theorem tb_3 : (Jvm.Cond.initialized "java/util/AbstractCollection") ∈ mm_B := mm_inB (List.mem_append_right _ (List.mem_of_getElem? (l := tables_1) (i := 3) (by decide +kernel))) rfl
theorem tb_4 : (Jvm.Cond.initialized "java/util/AbstractList") ∈ mm_B := mm_inB (List.mem_append_right _ (List.mem_of_getElem? (l := tables_1) (i := 4) (by decide +kernel))) rfl
theorem tb_5 : (Jvm.Cond.initialized "java/util/ArrayList") ∈ mm_B := mm_inB (List.mem_append_right _ (List.mem_of_getElem? (l := tables_1) (i := 5) (by decide +kernel))) rfl
theorem tb_6 : (Jvm.Cond.initialized "ProcessHeaps$Collector") ∈ mm_B := mm_inB (List.mem_append_right _ (List.mem_of_getElem? (l := tables_1) (i := 6) (by decide +kernel))) rfl
theorem tb_7 : (Jvm.Cond.initialized "ProcessHeaps$Limits") ∈ mm_B := mm_inB (List.mem_append_right _ (List.mem_of_getElem? (l := tables_1) (i := 7) (by decide +kernel))) rfl
theorem tb_8 : (Jvm.Cond.initialized "java/lang/Math") ∈ mm_B := mm_inB (List.mem_append_right _ (List.mem_of_getElem? (l := tables_1) (i := 8) (by decide +kernel))) rfl
theorem tb_9 : (Jvm.Cond.initialized "ProcessHeaps$HeapProcess") ∈ mm_B := mm_inB (List.mem_append_right _ (List.mem_of_getElem? (l := tables_1) (i := 9) (by decide +kernel))) rfl
theorem tb_10 : (Jvm.Cond.initialized "ProcessHeapsModel") ∈ mm_B := mm_inB (List.mem_append_right _ (List.mem_of_getElem? (l := tables_1) (i := 10) (by decide +kernel))) rfl
theorem tb_11 : (Jvm.Cond.initialized "java/util/Objects") ∈ mm_B := mm_inB (List.mem_append_right _ (List.mem_of_getElem? (l := tables_1) (i := 11) (by decide +kernel))) rfl
theorem tb_12 : (Jvm.Cond.initialized "jdk/internal/util/Preconditions") ∈ mm_B := mm_inB (List.mem_append_right _ (List.mem_of_getElem? (l := tables_1) (i := 12) (by decide +kernel))) rfl
theorem tb_13 : (Jvm.Cond.initialized "java/lang/System") ∈ mm_B := mm_inB (List.mem_append_right _ (List.mem_of_getElem? (l := tables_1) (i := 13) (by decide +kernel))) rfl
theorem tb_14 : (Jvm.Cond.initialized "jdk/internal/util/ArraysSupport") ∈ mm_B := mm_inB (List.mem_append_right _ (List.mem_of_getElem? (l := tables_1) (i := 14) (by decide +kernel))) rfl
theorem tb_15 : (Jvm.Cond.initialized "java/util/Arrays") ∈ mm_B := mm_inB (List.mem_append_right _ (List.mem_of_getElem? (l := tables_1) (i := 15) (by decide +kernel))) rfl
theorem tb_16 : (Jvm.Cond.initialized "ProcessHeaps$Page") ∈ mm_B := mm_inB (List.mem_append_right _ (List.mem_of_getElem? (l := tables_1) (i := 16) (by decide +kernel))) rfl
theorem tb_17 : (Jvm.Cond.initialized "ProcessHeaps$HeapObject") ∈ mm_B := mm_inB (List.mem_append_right _ (List.mem_of_getElem? (l := tables_1) (i := 17) (by decide +kernel))) rfl
theorem tb_18 : (Jvm.Cond.classLink "ProcessHeapsLaw" (7 : Nat) "ProcessHeaps") ∈ mm_B := mm_inB (List.mem_append_right _ (List.mem_of_getElem? (l := tables_1) (i := 18) (by decide +kernel))) rfl
theorem tb_19 : (Jvm.Cond.instantiable "ProcessHeaps" (7 : Nat)) ∈ mm_B := mm_inB (List.mem_append_right _ (List.mem_of_getElem? (l := tables_1) (i := 19) (by decide +kernel))) rfl
theorem tb_20 : (Jvm.Cond.methodLink "ProcessHeapsLaw" (15 : Nat) ({ cls := "ProcessHeaps", name := "<init>", desc := "(I)V" } : Jvm.MethodName)) ∈ mm_B := mm_inB (List.mem_append_right _ (List.mem_of_getElem? (l := tables_1) (i := 20) (by decide +kernel))) rfl
theorem tb_21 : (Jvm.Cond.instanceMethod ({ cls := "ProcessHeaps", name := "<init>", desc := "(I)V" } : Jvm.MethodName)) ∈ mm_B := mm_inB (List.mem_append_right _ (List.mem_of_getElem? (l := tables_1) (i := 21) (by decide +kernel))) rfl
theorem tb_22 : (Jvm.Cond.code ({ cls := "ProcessHeaps", name := "<init>", desc := "(I)V" } : Jvm.MethodName) prog_1_method_1_code (3 : Nat) (Option.none : Option Jvm.ClassFile.FieldType)) ∈ mm_B := mm_inB (List.mem_append_right _ (List.mem_of_getElem? (l := tables_1) (i := 22) (by decide +kernel))) rfl
theorem tb_23 : (Jvm.Cond.methodLink "ProcessHeaps" (1 : Nat) ({ cls := "java/lang/Object", name := "<init>", desc := "()V" } : Jvm.MethodName)) ∈ mm_B := mm_inB (List.mem_append_right _ (List.mem_of_getElem? (l := tables_1) (i := 23) (by decide +kernel))) rfl
theorem tb_24 : (Jvm.Cond.instanceMethod ({ cls := "java/lang/Object", name := "<init>", desc := "()V" } : Jvm.MethodName)) ∈ mm_B := mm_inB (List.mem_append_right _ (List.mem_of_getElem? (l := tables_1) (i := 24) (by decide +kernel))) rfl
theorem tb_25 : (Jvm.Cond.code ({ cls := "java/lang/Object", name := "<init>", desc := "()V" } : Jvm.MethodName) object_method_1_code (1 : Nat) (Option.none : Option Jvm.ClassFile.FieldType)) ∈ mm_B := mm_inB (List.mem_append_right _ (List.mem_of_getElem? (l := tables_1) (i := 25) (by decide +kernel))) rfl
theorem tb_26 : (Jvm.Cond.classLink "ProcessHeaps" (7 : Nat) "ProcessHeaps$Memory") ∈ mm_B := mm_inB (List.mem_append_right _ (List.mem_of_getElem? (l := tables_1) (i := 26) (by decide +kernel))) rfl
theorem tb_27 : (Jvm.Cond.instantiable "ProcessHeaps$Memory" (2 : Nat)) ∈ mm_B := mm_inB (List.mem_append_right _ (List.mem_of_getElem? (l := tables_1) (i := 27) (by decide +kernel))) rfl
theorem tn_28 : (Jvm.Cond.methodLinkNest "ProcessHeaps" (9 : Nat) ({ cls := "ProcessHeaps$Memory", name := "<init>", desc := "()V" } : Jvm.MethodName) "ProcessHeaps") ∈ lw_tbl.filter mm_isN := List.mem_filter.mpr ⟨List.mem_append_right _ (List.mem_of_getElem? (l := tables_1) (i := 28) (by decide +kernel)), rfl⟩
theorem tb_29 : (Jvm.Cond.instanceMethod ({ cls := "ProcessHeaps$Memory", name := "<init>", desc := "()V" } : Jvm.MethodName)) ∈ mm_B := mm_inB (List.mem_append_right _ (List.mem_of_getElem? (l := tables_1) (i := 29) (by decide +kernel))) rfl
theorem tb_30 : (Jvm.Cond.code ({ cls := "ProcessHeaps$Memory", name := "<init>", desc := "()V" } : Jvm.MethodName) prog_6_method_1_code (1 : Nat) (Option.none : Option Jvm.ClassFile.FieldType)) ∈ mm_B := mm_inB (List.mem_append_right _ (List.mem_of_getElem? (l := tables_1) (i := 30) (by decide +kernel))) rfl
theorem tb_31 : (Jvm.Cond.methodLink "ProcessHeaps$Memory" (3 : Nat) ({ cls := "java/lang/Object", name := "<init>", desc := "()V" } : Jvm.MethodName)) ∈ mm_B := mm_inB (List.mem_append_right _ (List.mem_of_getElem? (l := tables_1) (i := 31) (by decide +kernel))) rfl
theorem tb_32 : (Jvm.Cond.classLink "ProcessHeaps$Memory" (9 : Nat) "java/util/ArrayList") ∈ mm_B := mm_inB (List.mem_append_right _ (List.mem_of_getElem? (l := tables_1) (i := 32) (by decide +kernel))) rfl
theorem tb_33 : (Jvm.Cond.instantiable "java/util/ArrayList" (3 : Nat)) ∈ mm_B := mm_inB (List.mem_append_right _ (List.mem_of_getElem? (l := tables_1) (i := 33) (by decide +kernel))) rfl
theorem tb_34 : (Jvm.Cond.methodLink "ProcessHeaps$Memory" (11 : Nat) ({ cls := "java/util/ArrayList", name := "<init>", desc := "()V" } : Jvm.MethodName)) ∈ mm_B := mm_inB (List.mem_append_right _ (List.mem_of_getElem? (l := tables_1) (i := 34) (by decide +kernel))) rfl
theorem tb_35 : (Jvm.Cond.instanceMethod ({ cls := "java/util/ArrayList", name := "<init>", desc := "()V" } : Jvm.MethodName)) ∈ mm_B := mm_inB (List.mem_append_right _ (List.mem_of_getElem? (l := tables_1) (i := 35) (by decide +kernel))) rfl
theorem tb_36 : (Jvm.Cond.code ({ cls := "java/util/ArrayList", name := "<init>", desc := "()V" } : Jvm.MethodName) prog_17_method_2_code (1 : Nat) (Option.none : Option Jvm.ClassFile.FieldType)) ∈ mm_B := mm_inB (List.mem_append_right _ (List.mem_of_getElem? (l := tables_1) (i := 36) (by decide +kernel))) rfl
theorem tb_37 : (Jvm.Cond.methodLink "java/util/ArrayList" (1 : Nat) ({ cls := "java/util/AbstractList", name := "<init>", desc := "()V" } : Jvm.MethodName)) ∈ mm_B := mm_inB (List.mem_append_right _ (List.mem_of_getElem? (l := tables_1) (i := 37) (by decide +kernel))) rfl
theorem tb_38 : (Jvm.Cond.instanceMethod ({ cls := "java/util/AbstractList", name := "<init>", desc := "()V" } : Jvm.MethodName)) ∈ mm_B := mm_inB (List.mem_append_right _ (List.mem_of_getElem? (l := tables_1) (i := 38) (by decide +kernel))) rfl
theorem tb_39 : (Jvm.Cond.code ({ cls := "java/util/AbstractList", name := "<init>", desc := "()V" } : Jvm.MethodName) prog_16_method_1_code (1 : Nat) (Option.none : Option Jvm.ClassFile.FieldType)) ∈ mm_B := mm_inB (List.mem_append_right _ (List.mem_of_getElem? (l := tables_1) (i := 39) (by decide +kernel))) rfl
theorem tb_40 : (Jvm.Cond.methodLink "java/util/AbstractList" (1 : Nat) ({ cls := "java/util/AbstractCollection", name := "<init>", desc := "()V" } : Jvm.MethodName)) ∈ mm_B := mm_inB (List.mem_append_right _ (List.mem_of_getElem? (l := tables_1) (i := 40) (by decide +kernel))) rfl
theorem tb_41 : (Jvm.Cond.instanceMethod ({ cls := "java/util/AbstractCollection", name := "<init>", desc := "()V" } : Jvm.MethodName)) ∈ mm_B := mm_inB (List.mem_append_right _ (List.mem_of_getElem? (l := tables_1) (i := 41) (by decide +kernel))) rfl
theorem tb_42 : (Jvm.Cond.code ({ cls := "java/util/AbstractCollection", name := "<init>", desc := "()V" } : Jvm.MethodName) prog_15_method_1_code (1 : Nat) (Option.none : Option Jvm.ClassFile.FieldType)) ∈ mm_B := mm_inB (List.mem_append_right _ (List.mem_of_getElem? (l := tables_1) (i := 42) (by decide +kernel))) rfl
theorem tb_43 : (Jvm.Cond.methodLink "java/util/AbstractCollection" (1 : Nat) ({ cls := "java/lang/Object", name := "<init>", desc := "()V" } : Jvm.MethodName)) ∈ mm_B := mm_inB (List.mem_append_right _ (List.mem_of_getElem? (l := tables_1) (i := 43) (by decide +kernel))) rfl
theorem tb_44 : (Jvm.Cond.fieldLink "java/util/ArrayList" (39 : Nat) "java/util/ArrayList" "DEFAULTCAPACITY_EMPTY_ELEMENTDATA" "[Ljava/lang/Object;") ∈ mm_B := mm_inB (List.mem_append_right _ (List.mem_of_getElem? (l := tables_1) (i := 44) (by decide +kernel))) rfl
theorem tb_46 : (Jvm.Cond.fieldLink "java/util/ArrayList" (9 : Nat) "java/util/ArrayList" "elementData" "[Ljava/lang/Object;") ∈ mm_B := mm_inB (List.mem_append_right _ (List.mem_of_getElem? (l := tables_1) (i := 46) (by decide +kernel))) rfl
theorem tb_47 : (Jvm.Cond.fieldLink "java/util/ArrayList" (48 : Nat) "java/util/ArrayList" "size" "I") ∈ mm_B := mm_inB (List.mem_append_right _ (List.mem_of_getElem? (l := tables_1) (i := 47) (by decide +kernel))) rfl
theorem tb_48 : (Jvm.Cond.fieldLink "java/util/AbstractList" (7 : Nat) "java/util/AbstractList" "modCount" "I") ∈ mm_B := mm_inB (List.mem_append_right _ (List.mem_of_getElem? (l := tables_1) (i := 48) (by decide +kernel))) rfl
theorem tb_49 : (Jvm.Cond.fieldLink "java/util/ArrayList" (63 : Nat) "java/util/ArrayList" "modCount" "I") ∈ mm_B := mm_inB (List.mem_append_right _ (List.mem_of_getElem? (l := tables_1) (i := 49) (by decide +kernel))) rfl
theorem tb_50 : (Jvm.Cond.sameField "java/util/ArrayList" "java/util/AbstractList" "modCount" "I") ∈ mm_B := mm_inB (List.mem_append_right _ (List.mem_of_getElem? (l := tables_1) (i := 50) (by decide +kernel))) rfl
theorem tb_51 : (Jvm.Cond.lays "java/util/ArrayList" "java/util/ArrayList" "elementData" "[Ljava/lang/Object;") ∈ mm_B := mm_inB (List.mem_append_right _ (List.mem_of_getElem? (l := tables_1) (i := 51) (by decide +kernel))) rfl
theorem tb_53 : (Jvm.Cond.lays "java/util/ArrayList" "java/util/ArrayList" "size" "I") ∈ mm_B := mm_inB (List.mem_append_right _ (List.mem_of_getElem? (l := tables_1) (i := 53) (by decide +kernel))) rfl
theorem tb_55 : (Jvm.Cond.lays "java/util/ArrayList" "java/util/AbstractList" "modCount" "I") ∈ mm_B := mm_inB (List.mem_append_right _ (List.mem_of_getElem? (l := tables_1) (i := 55) (by decide +kernel))) rfl
theorem tb_58 : (Jvm.Cond.fieldLink "ProcessHeaps$Memory" (12 : Nat) "ProcessHeaps$Memory" "pages" "Ljava/util/ArrayList;") ∈ mm_B := mm_inB (List.mem_append_right _ (List.mem_of_getElem? (l := tables_1) (i := 58) (by decide +kernel))) rfl
theorem tb_59 : (Jvm.Cond.fieldLink "ProcessHeaps$Memory" (18 : Nat) "ProcessHeaps$Memory" "objects" "Ljava/util/ArrayList;") ∈ mm_B := mm_inB (List.mem_append_right _ (List.mem_of_getElem? (l := tables_1) (i := 59) (by decide +kernel))) rfl
theorem tb_60 : (Jvm.Cond.fieldLink "ProcessHeaps$Collector" (51 : Nat) "ProcessHeaps$Memory" "objects" "Ljava/util/ArrayList;") ∈ mm_B := mm_inB (List.mem_append_right _ (List.mem_of_getElem? (l := tables_1) (i := 60) (by decide +kernel))) rfl
theorem tb_61 : (Jvm.Cond.fieldLink "ProcessHeaps" (84 : Nat) "ProcessHeaps$Memory" "objects" "Ljava/util/ArrayList;") ∈ mm_B := mm_inB (List.mem_append_right _ (List.mem_of_getElem? (l := tables_1) (i := 61) (by decide +kernel))) rfl
theorem tb_62 : (Jvm.Cond.laysFinal "ProcessHeaps$Memory" "ProcessHeaps$Memory" "pages" "Ljava/util/ArrayList;") ∈ mm_B := mm_inB (List.mem_append_right _ (List.mem_of_getElem? (l := tables_1) (i := 62) (by decide +kernel))) rfl
theorem tb_64 : (Jvm.Cond.laysFinal "ProcessHeaps$Memory" "ProcessHeaps$Memory" "objects" "Ljava/util/ArrayList;") ∈ mm_B := mm_inB (List.mem_append_right _ (List.mem_of_getElem? (l := tables_1) (i := 64) (by decide +kernel))) rfl
theorem tb_67 : (Jvm.Cond.classLink "ProcessHeaps" (16 : Nat) "ProcessHeaps$Collector") ∈ mm_B := mm_inB (List.mem_append_right _ (List.mem_of_getElem? (l := tables_1) (i := 67) (by decide +kernel))) rfl
theorem tb_68 : (Jvm.Cond.instantiable "ProcessHeaps$Collector" (2 : Nat)) ∈ mm_B := mm_inB (List.mem_append_right _ (List.mem_of_getElem? (l := tables_1) (i := 68) (by decide +kernel))) rfl
theorem tn_69 : (Jvm.Cond.methodLinkNest "ProcessHeaps" (18 : Nat) ({ cls := "ProcessHeaps$Collector", name := "<init>", desc := "()V" } : Jvm.MethodName) "ProcessHeaps") ∈ lw_tbl.filter mm_isN := List.mem_filter.mpr ⟨List.mem_append_right _ (List.mem_of_getElem? (l := tables_1) (i := 69) (by decide +kernel)), rfl⟩
theorem tb_70 : (Jvm.Cond.instanceMethod ({ cls := "ProcessHeaps$Collector", name := "<init>", desc := "()V" } : Jvm.MethodName)) ∈ mm_B := mm_inB (List.mem_append_right _ (List.mem_of_getElem? (l := tables_1) (i := 70) (by decide +kernel))) rfl
theorem tb_71 : (Jvm.Cond.code ({ cls := "ProcessHeaps$Collector", name := "<init>", desc := "()V" } : Jvm.MethodName) prog_2_method_1_code (1 : Nat) (Option.none : Option Jvm.ClassFile.FieldType)) ∈ mm_B := mm_inB (List.mem_append_right _ (List.mem_of_getElem? (l := tables_1) (i := 71) (by decide +kernel))) rfl
theorem tb_72 : (Jvm.Cond.methodLink "ProcessHeaps$Collector" (3 : Nat) ({ cls := "java/lang/Object", name := "<init>", desc := "()V" } : Jvm.MethodName)) ∈ mm_B := mm_inB (List.mem_append_right _ (List.mem_of_getElem? (l := tables_1) (i := 72) (by decide +kernel))) rfl
theorem tb_73 : (Jvm.Cond.classLink "ProcessHeaps$Collector" (9 : Nat) "ProcessHeaps$HeapObject") ∈ mm_B := mm_inB (List.mem_append_right _ (List.mem_of_getElem? (l := tables_1) (i := 73) (by decide +kernel))) rfl
theorem tn_74 : (Jvm.Cond.arrayOver (Jvm.ClassFile.FieldType.object "ProcessHeaps$HeapObject")) ∈ lw_tbl.filter mm_isN := List.mem_filter.mpr ⟨List.mem_append_right _ (List.mem_of_getElem? (l := tables_1) (i := 74) (by decide +kernel)), rfl⟩
theorem tb_75 : (Jvm.Cond.fieldLink "ProcessHeaps$Collector" (11 : Nat) "ProcessHeaps$Collector" "reached" "[LProcessHeaps$HeapObject;") ∈ mm_B := mm_inB (List.mem_append_right _ (List.mem_of_getElem? (l := tables_1) (i := 75) (by decide +kernel))) rfl
theorem tb_76 : (Jvm.Cond.fieldLink "ProcessHeaps$Collector" (17 : Nat) "ProcessHeaps$Collector" "count" "I") ∈ mm_B := mm_inB (List.mem_append_right _ (List.mem_of_getElem? (l := tables_1) (i := 76) (by decide +kernel))) rfl
theorem tb_77 : (Jvm.Cond.laysFinal "ProcessHeaps$Collector" "ProcessHeaps$Collector" "reached" "[LProcessHeaps$HeapObject;") ∈ mm_B := mm_inB (List.mem_append_right _ (List.mem_of_getElem? (l := tables_1) (i := 77) (by decide +kernel))) rfl
theorem tb_79 : (Jvm.Cond.lays "ProcessHeaps$Collector" "ProcessHeaps$Collector" "count" "I") ∈ mm_B := mm_inB (List.mem_append_right _ (List.mem_of_getElem? (l := tables_1) (i := 79) (by decide +kernel))) rfl
theorem tb_82 : (Jvm.Cond.classLink "ProcessHeaps" (23 : Nat) "ProcessHeaps$Limits") ∈ mm_B := mm_inB (List.mem_append_right _ (List.mem_of_getElem? (l := tables_1) (i := 82) (by decide +kernel))) rfl
theorem tb_83 : (Jvm.Cond.instantiable "ProcessHeaps$Limits" (3 : Nat)) ∈ mm_B := mm_inB (List.mem_append_right _ (List.mem_of_getElem? (l := tables_1) (i := 83) (by decide +kernel))) rfl
theorem tn_84 : (Jvm.Cond.methodLinkNest "ProcessHeaps" (25 : Nat) ({ cls := "ProcessHeaps$Limits", name := "<init>", desc := "()V" } : Jvm.MethodName) "ProcessHeaps") ∈ lw_tbl.filter mm_isN := List.mem_filter.mpr ⟨List.mem_append_right _ (List.mem_of_getElem? (l := tables_1) (i := 84) (by decide +kernel)), rfl⟩
theorem tb_85 : (Jvm.Cond.instanceMethod ({ cls := "ProcessHeaps$Limits", name := "<init>", desc := "()V" } : Jvm.MethodName)) ∈ mm_B := mm_inB (List.mem_append_right _ (List.mem_of_getElem? (l := tables_1) (i := 85) (by decide +kernel))) rfl
theorem tb_86 : (Jvm.Cond.code ({ cls := "ProcessHeaps$Limits", name := "<init>", desc := "()V" } : Jvm.MethodName) prog_5_method_1_code (1 : Nat) (Option.none : Option Jvm.ClassFile.FieldType)) ∈ mm_B := mm_inB (List.mem_append_right _ (List.mem_of_getElem? (l := tables_1) (i := 86) (by decide +kernel))) rfl
theorem tb_87 : (Jvm.Cond.methodLink "ProcessHeaps$Limits" (3 : Nat) ({ cls := "java/lang/Object", name := "<init>", desc := "()V" } : Jvm.MethodName)) ∈ mm_B := mm_inB (List.mem_append_right _ (List.mem_of_getElem? (l := tables_1) (i := 87) (by decide +kernel))) rfl
theorem tb_88 : (Jvm.Cond.fieldLink "ProcessHeaps$Limits" (9 : Nat) "ProcessHeaps$Limits" "used" "[I") ∈ mm_B := mm_inB (List.mem_append_right _ (List.mem_of_getElem? (l := tables_1) (i := 88) (by decide +kernel))) rfl
theorem tb_89 : (Jvm.Cond.fieldLink "ProcessHeaps" (172 : Nat) "ProcessHeaps$Limits" "used" "[I") ∈ mm_B := mm_inB (List.mem_append_right _ (List.mem_of_getElem? (l := tables_1) (i := 89) (by decide +kernel))) rfl
theorem tb_90 : (Jvm.Cond.fieldLink "ProcessHeaps$Limits" (15 : Nat) "ProcessHeaps$Limits" "spare" "[I") ∈ mm_B := mm_inB (List.mem_append_right _ (List.mem_of_getElem? (l := tables_1) (i := 90) (by decide +kernel))) rfl
theorem tb_91 : (Jvm.Cond.fieldLink "ProcessHeaps" (176 : Nat) "ProcessHeaps$Limits" "spare" "[I") ∈ mm_B := mm_inB (List.mem_append_right _ (List.mem_of_getElem? (l := tables_1) (i := 91) (by decide +kernel))) rfl
theorem tb_92 : (Jvm.Cond.fieldLink "ProcessHeaps$Limits" (18 : Nat) "ProcessHeaps$Limits" "exists" "[Z") ∈ mm_B := mm_inB (List.mem_append_right _ (List.mem_of_getElem? (l := tables_1) (i := 92) (by decide +kernel))) rfl
theorem tb_93 : (Jvm.Cond.fieldLink "ProcessHeaps" (168 : Nat) "ProcessHeaps$Limits" "exists" "[Z") ∈ mm_B := mm_inB (List.mem_append_right _ (List.mem_of_getElem? (l := tables_1) (i := 93) (by decide +kernel))) rfl
theorem tb_94 : (Jvm.Cond.laysFinal "ProcessHeaps$Limits" "ProcessHeaps$Limits" "used" "[I") ∈ mm_B := mm_inB (List.mem_append_right _ (List.mem_of_getElem? (l := tables_1) (i := 94) (by decide +kernel))) rfl
theorem tb_96 : (Jvm.Cond.laysFinal "ProcessHeaps$Limits" "ProcessHeaps$Limits" "spare" "[I") ∈ mm_B := mm_inB (List.mem_append_right _ (List.mem_of_getElem? (l := tables_1) (i := 96) (by decide +kernel))) rfl
theorem tb_98 : (Jvm.Cond.laysFinal "ProcessHeaps$Limits" "ProcessHeaps$Limits" "exists" "[Z") ∈ mm_B := mm_inB (List.mem_append_right _ (List.mem_of_getElem? (l := tables_1) (i := 98) (by decide +kernel))) rfl
theorem tb_101 : (Jvm.Cond.arrayClass Jvm.ClassFile.FieldType.int) ∈ mm_B := mm_inB (List.mem_append_right _ (List.mem_of_getElem? (l := tables_1) (i := 101) (by decide +kernel))) rfl
theorem tb_102 : (Jvm.Cond.arrayClass Jvm.ClassFile.FieldType.boolean) ∈ mm_B := mm_inB (List.mem_append_right _ (List.mem_of_getElem? (l := tables_1) (i := 102) (by decide +kernel))) rfl
theorem tb_103 : (Jvm.Cond.classLink "ProcessHeaps" (30 : Nat) "ProcessHeaps$HeapProcess") ∈ mm_B := mm_inB (List.mem_append_right _ (List.mem_of_getElem? (l := tables_1) (i := 103) (by decide +kernel))) rfl
theorem tn_104 : (Jvm.Cond.arrayOver (Jvm.ClassFile.FieldType.object "ProcessHeaps$HeapProcess")) ∈ lw_tbl.filter mm_isN := List.mem_filter.mpr ⟨List.mem_append_right _ (List.mem_of_getElem? (l := tables_1) (i := 104) (by decide +kernel)), rfl⟩
theorem tb_105 : (Jvm.Cond.classLink "ProcessHeaps" (36 : Nat) "ProcessHeaps$HeapObject") ∈ mm_B := mm_inB (List.mem_append_right _ (List.mem_of_getElem? (l := tables_1) (i := 105) (by decide +kernel))) rfl
theorem tb_106 : (Jvm.Cond.methodLink "ProcessHeaps" (49 : Nat) ({ cls := "java/lang/Math", name := "min", desc := "(II)I" } : Jvm.MethodName)) ∈ mm_B := mm_inB (List.mem_append_right _ (List.mem_of_getElem? (l := tables_1) (i := 106) (by decide +kernel))) rfl
theorem tb_107 : (Jvm.Cond.static ({ cls := "java/lang/Math", name := "min", desc := "(II)I" } : Jvm.MethodName)) ∈ mm_B := mm_inB (List.mem_append_right _ (List.mem_of_getElem? (l := tables_1) (i := 107) (by decide +kernel))) rfl
theorem tb_108 : (Jvm.Cond.code ({ cls := "java/lang/Math", name := "min", desc := "(II)I" } : Jvm.MethodName) prog_13_method_69_code (2 : Nat) (Option.some Jvm.ClassFile.FieldType.int)) ∈ mm_B := mm_inB (List.mem_append_right _ (List.mem_of_getElem? (l := tables_1) (i := 108) (by decide +kernel))) rfl
theorem tb_109 : (Jvm.Cond.methodLink "ProcessHeaps" (55 : Nat) ({ cls := "java/lang/Math", name := "max", desc := "(II)I" } : Jvm.MethodName)) ∈ mm_B := mm_inB (List.mem_append_right _ (List.mem_of_getElem? (l := tables_1) (i := 109) (by decide +kernel))) rfl
theorem tb_110 : (Jvm.Cond.static ({ cls := "java/lang/Math", name := "max", desc := "(II)I" } : Jvm.MethodName)) ∈ mm_B := mm_inB (List.mem_append_right _ (List.mem_of_getElem? (l := tables_1) (i := 110) (by decide +kernel))) rfl
theorem tb_111 : (Jvm.Cond.code ({ cls := "java/lang/Math", name := "max", desc := "(II)I" } : Jvm.MethodName) prog_13_method_65_code (2 : Nat) (Option.some Jvm.ClassFile.FieldType.int)) ∈ mm_B := mm_inB (List.mem_append_right _ (List.mem_of_getElem? (l := tables_1) (i := 111) (by decide +kernel))) rfl
theorem tb_112 : (Jvm.Cond.instantiable "ProcessHeaps$HeapProcess" (8 : Nat)) ∈ mm_B := mm_inB (List.mem_append_right _ (List.mem_of_getElem? (l := tables_1) (i := 112) (by decide +kernel))) rfl
theorem tb_113 : (Jvm.Cond.methodLink "ProcessHeaps" (58 : Nat) ({ cls := "ProcessHeaps$HeapProcess", name := "<init>", desc := "(IIIZ)V" } : Jvm.MethodName)) ∈ mm_B := mm_inB (List.mem_append_right _ (List.mem_of_getElem? (l := tables_1) (i := 113) (by decide +kernel))) rfl
theorem tb_114 : (Jvm.Cond.instanceMethod ({ cls := "ProcessHeaps$HeapProcess", name := "<init>", desc := "(IIIZ)V" } : Jvm.MethodName)) ∈ mm_B := mm_inB (List.mem_append_right _ (List.mem_of_getElem? (l := tables_1) (i := 114) (by decide +kernel))) rfl
theorem tb_115 : (Jvm.Cond.code ({ cls := "ProcessHeaps$HeapProcess", name := "<init>", desc := "(IIIZ)V" } : Jvm.MethodName) prog_4_method_1_code (5 : Nat) (Option.none : Option Jvm.ClassFile.FieldType)) ∈ mm_B := mm_inB (List.mem_append_right _ (List.mem_of_getElem? (l := tables_1) (i := 115) (by decide +kernel))) rfl
theorem tb_116 : (Jvm.Cond.methodLink "ProcessHeaps$HeapProcess" (3 : Nat) ({ cls := "java/lang/Object", name := "<init>", desc := "()V" } : Jvm.MethodName)) ∈ mm_B := mm_inB (List.mem_append_right _ (List.mem_of_getElem? (l := tables_1) (i := 116) (by decide +kernel))) rfl
theorem tb_117 : (Jvm.Cond.classLink "ProcessHeaps$HeapProcess" (9 : Nat) "ProcessHeaps$HeapObject") ∈ mm_B := mm_inB (List.mem_append_right _ (List.mem_of_getElem? (l := tables_1) (i := 117) (by decide +kernel))) rfl
theorem tb_118 : (Jvm.Cond.fieldLink "ProcessHeaps$HeapProcess" (27 : Nat) "ProcessHeaps$HeapProcess" "number" "I") ∈ mm_B := mm_inB (List.mem_append_right _ (List.mem_of_getElem? (l := tables_1) (i := 118) (by decide +kernel))) rfl
theorem tb_119 : (Jvm.Cond.fieldLink "ProcessHeaps$Memory" (38 : Nat) "ProcessHeaps$HeapProcess" "number" "I") ∈ mm_B := mm_inB (List.mem_append_right _ (List.mem_of_getElem? (l := tables_1) (i := 119) (by decide +kernel))) rfl
theorem tb_120 : (Jvm.Cond.fieldLink "ProcessHeaps" (192 : Nat) "ProcessHeaps$HeapProcess" "number" "I") ∈ mm_B := mm_inB (List.mem_append_right _ (List.mem_of_getElem? (l := tables_1) (i := 120) (by decide +kernel))) rfl
theorem tb_121 : (Jvm.Cond.fieldLink "ProcessHeaps$HeapProcess" (30 : Nat) "ProcessHeaps$HeapProcess" "parent" "I") ∈ mm_B := mm_inB (List.mem_append_right _ (List.mem_of_getElem? (l := tables_1) (i := 121) (by decide +kernel))) rfl
theorem tb_122 : (Jvm.Cond.fieldLink "ProcessHeaps$Limits" (45 : Nat) "ProcessHeaps$HeapProcess" "parent" "I") ∈ mm_B := mm_inB (List.mem_append_right _ (List.mem_of_getElem? (l := tables_1) (i := 122) (by decide +kernel))) rfl
theorem tb_123 : (Jvm.Cond.fieldLink "ProcessHeaps$HeapProcess" (33 : Nat) "ProcessHeaps$HeapProcess" "limit" "I") ∈ mm_B := mm_inB (List.mem_append_right _ (List.mem_of_getElem? (l := tables_1) (i := 123) (by decide +kernel))) rfl
theorem tb_124 : (Jvm.Cond.fieldLink "ProcessHeaps$Limits" (53 : Nat) "ProcessHeaps$HeapProcess" "limit" "I") ∈ mm_B := mm_inB (List.mem_append_right _ (List.mem_of_getElem? (l := tables_1) (i := 124) (by decide +kernel))) rfl
theorem tb_125 : (Jvm.Cond.fieldLink "ProcessHeaps$HeapProcess" (36 : Nat) "ProcessHeaps$HeapProcess" "hard" "Z") ∈ mm_B := mm_inB (List.mem_append_right _ (List.mem_of_getElem? (l := tables_1) (i := 125) (by decide +kernel))) rfl
theorem tb_126 : (Jvm.Cond.fieldLink "ProcessHeaps$Limits" (49 : Nat) "ProcessHeaps$HeapProcess" "hard" "Z") ∈ mm_B := mm_inB (List.mem_append_right _ (List.mem_of_getElem? (l := tables_1) (i := 126) (by decide +kernel))) rfl
theorem tb_127 : (Jvm.Cond.fieldLink "ProcessHeaps$HeapProcess" (11 : Nat) "ProcessHeaps$HeapProcess" "registers" "[LProcessHeaps$HeapObject;") ∈ mm_B := mm_inB (List.mem_append_right _ (List.mem_of_getElem? (l := tables_1) (i := 127) (by decide +kernel))) rfl
theorem tb_128 : (Jvm.Cond.fieldLink "ProcessHeaps$Collector" (42 : Nat) "ProcessHeaps$HeapProcess" "registers" "[LProcessHeaps$HeapObject;") ∈ mm_B := mm_inB (List.mem_append_right _ (List.mem_of_getElem? (l := tables_1) (i := 128) (by decide +kernel))) rfl
theorem tb_129 : (Jvm.Cond.fieldLink "ProcessHeaps" (102 : Nat) "ProcessHeaps$HeapProcess" "registers" "[LProcessHeaps$HeapObject;") ∈ mm_B := mm_inB (List.mem_append_right _ (List.mem_of_getElem? (l := tables_1) (i := 129) (by decide +kernel))) rfl
theorem tb_130 : (Jvm.Cond.fieldLink "ProcessHeaps$HeapProcess" (17 : Nat) "ProcessHeaps$HeapProcess" "state" "I") ∈ mm_B := mm_inB (List.mem_append_right _ (List.mem_of_getElem? (l := tables_1) (i := 130) (by decide +kernel))) rfl
theorem tb_131 : (Jvm.Cond.fieldLink "ProcessHeaps" (69 : Nat) "ProcessHeaps$HeapProcess" "state" "I") ∈ mm_B := mm_inB (List.mem_append_right _ (List.mem_of_getElem? (l := tables_1) (i := 131) (by decide +kernel))) rfl
theorem tb_132 : (Jvm.Cond.fieldLink "ProcessHeaps$HeapProcess" (21 : Nat) "ProcessHeaps$HeapProcess" "building" "I") ∈ mm_B := mm_inB (List.mem_append_right _ (List.mem_of_getElem? (l := tables_1) (i := 132) (by decide +kernel))) rfl
theorem tb_133 : (Jvm.Cond.fieldLink "ProcessHeaps" (130 : Nat) "ProcessHeaps$HeapProcess" "building" "I") ∈ mm_B := mm_inB (List.mem_append_right _ (List.mem_of_getElem? (l := tables_1) (i := 133) (by decide +kernel))) rfl
theorem tb_134 : (Jvm.Cond.fieldLink "ProcessHeaps$HeapProcess" (24 : Nat) "ProcessHeaps$HeapProcess" "charges" "I") ∈ mm_B := mm_inB (List.mem_append_right _ (List.mem_of_getElem? (l := tables_1) (i := 134) (by decide +kernel))) rfl
theorem tb_135 : (Jvm.Cond.laysFinal "ProcessHeaps$HeapProcess" "ProcessHeaps$HeapProcess" "number" "I") ∈ mm_B := mm_inB (List.mem_append_right _ (List.mem_of_getElem? (l := tables_1) (i := 135) (by decide +kernel))) rfl
theorem tb_137 : (Jvm.Cond.laysFinal "ProcessHeaps$HeapProcess" "ProcessHeaps$HeapProcess" "parent" "I") ∈ mm_B := mm_inB (List.mem_append_right _ (List.mem_of_getElem? (l := tables_1) (i := 137) (by decide +kernel))) rfl
theorem tb_139 : (Jvm.Cond.laysFinal "ProcessHeaps$HeapProcess" "ProcessHeaps$HeapProcess" "limit" "I") ∈ mm_B := mm_inB (List.mem_append_right _ (List.mem_of_getElem? (l := tables_1) (i := 139) (by decide +kernel))) rfl
theorem tb_141 : (Jvm.Cond.laysFinal "ProcessHeaps$HeapProcess" "ProcessHeaps$HeapProcess" "hard" "Z") ∈ mm_B := mm_inB (List.mem_append_right _ (List.mem_of_getElem? (l := tables_1) (i := 141) (by decide +kernel))) rfl
theorem tb_143 : (Jvm.Cond.laysFinal "ProcessHeaps$HeapProcess" "ProcessHeaps$HeapProcess" "registers" "[LProcessHeaps$HeapObject;") ∈ mm_B := mm_inB (List.mem_append_right _ (List.mem_of_getElem? (l := tables_1) (i := 143) (by decide +kernel))) rfl
theorem tb_145 : (Jvm.Cond.lays "ProcessHeaps$HeapProcess" "ProcessHeaps$HeapProcess" "state" "I") ∈ mm_B := mm_inB (List.mem_append_right _ (List.mem_of_getElem? (l := tables_1) (i := 145) (by decide +kernel))) rfl
theorem tb_147 : (Jvm.Cond.lays "ProcessHeaps$HeapProcess" "ProcessHeaps$HeapProcess" "building" "I") ∈ mm_B := mm_inB (List.mem_append_right _ (List.mem_of_getElem? (l := tables_1) (i := 147) (by decide +kernel))) rfl
theorem tb_149 : (Jvm.Cond.lays "ProcessHeaps$HeapProcess" "ProcessHeaps$HeapProcess" "charges" "I") ∈ mm_B := mm_inB (List.mem_append_right _ (List.mem_of_getElem? (l := tables_1) (i := 149) (by decide +kernel))) rfl
theorem tb_152 : (Jvm.Cond.fieldLink "ProcessHeaps" (10 : Nat) "ProcessHeaps" "memory" "LProcessHeaps$Memory;") ∈ mm_B := mm_inB (List.mem_append_right _ (List.mem_of_getElem? (l := tables_1) (i := 152) (by decide +kernel))) rfl
theorem tb_153 : (Jvm.Cond.fieldLink "ProcessHeaps" (19 : Nat) "ProcessHeaps" "collector" "LProcessHeaps$Collector;") ∈ mm_B := mm_inB (List.mem_append_right _ (List.mem_of_getElem? (l := tables_1) (i := 153) (by decide +kernel))) rfl
theorem tb_154 : (Jvm.Cond.fieldLink "ProcessHeaps" (26 : Nat) "ProcessHeaps" "limits" "LProcessHeaps$Limits;") ∈ mm_B := mm_inB (List.mem_append_right _ (List.mem_of_getElem? (l := tables_1) (i := 154) (by decide +kernel))) rfl
theorem tb_155 : (Jvm.Cond.fieldLink "ProcessHeaps" (32 : Nat) "ProcessHeaps" "processes" "[LProcessHeaps$HeapProcess;") ∈ mm_B := mm_inB (List.mem_append_right _ (List.mem_of_getElem? (l := tables_1) (i := 155) (by decide +kernel))) rfl
theorem tb_156 : (Jvm.Cond.fieldLink "ProcessHeaps" (38 : Nat) "ProcessHeaps" "heads" "[LProcessHeaps$HeapObject;") ∈ mm_B := mm_inB (List.mem_append_right _ (List.mem_of_getElem? (l := tables_1) (i := 156) (by decide +kernel))) rfl
theorem tb_157 : (Jvm.Cond.fieldLink "ProcessHeaps" (42 : Nat) "ProcessHeaps" "made" "I") ∈ mm_B := mm_inB (List.mem_append_right _ (List.mem_of_getElem? (l := tables_1) (i := 157) (by decide +kernel))) rfl
theorem tb_158 : (Jvm.Cond.fieldLink "ProcessHeaps" (46 : Nat) "ProcessHeaps" "nextShared" "I") ∈ mm_B := mm_inB (List.mem_append_right _ (List.mem_of_getElem? (l := tables_1) (i := 158) (by decide +kernel))) rfl
theorem tb_159 : (Jvm.Cond.laysFinal "ProcessHeaps" "ProcessHeaps" "memory" "LProcessHeaps$Memory;") ∈ mm_B := mm_inB (List.mem_append_right _ (List.mem_of_getElem? (l := tables_1) (i := 159) (by decide +kernel))) rfl
theorem tb_161 : (Jvm.Cond.laysFinal "ProcessHeaps" "ProcessHeaps" "collector" "LProcessHeaps$Collector;") ∈ mm_B := mm_inB (List.mem_append_right _ (List.mem_of_getElem? (l := tables_1) (i := 161) (by decide +kernel))) rfl
theorem tb_163 : (Jvm.Cond.laysFinal "ProcessHeaps" "ProcessHeaps" "limits" "LProcessHeaps$Limits;") ∈ mm_B := mm_inB (List.mem_append_right _ (List.mem_of_getElem? (l := tables_1) (i := 163) (by decide +kernel))) rfl
theorem tb_165 : (Jvm.Cond.laysFinal "ProcessHeaps" "ProcessHeaps" "processes" "[LProcessHeaps$HeapProcess;") ∈ mm_B := mm_inB (List.mem_append_right _ (List.mem_of_getElem? (l := tables_1) (i := 165) (by decide +kernel))) rfl
theorem tb_167 : (Jvm.Cond.laysFinal "ProcessHeaps" "ProcessHeaps" "heads" "[LProcessHeaps$HeapObject;") ∈ mm_B := mm_inB (List.mem_append_right _ (List.mem_of_getElem? (l := tables_1) (i := 167) (by decide +kernel))) rfl
theorem tb_169 : (Jvm.Cond.lays "ProcessHeaps" "ProcessHeaps" "made" "I") ∈ mm_B := mm_inB (List.mem_append_right _ (List.mem_of_getElem? (l := tables_1) (i := 169) (by decide +kernel))) rfl
theorem tb_171 : (Jvm.Cond.lays "ProcessHeaps" "ProcessHeaps" "nextShared" "I") ∈ mm_B := mm_inB (List.mem_append_right _ (List.mem_of_getElem? (l := tables_1) (i := 171) (by decide +kernel))) rfl
theorem tb_174 : (Jvm.Cond.methodLink "ProcessHeapsLaw" (21 : Nat) ({ cls := "ProcessHeaps", name := "spawn", desc := "(IIZ)I" } : Jvm.MethodName)) ∈ mm_B := mm_inB (List.mem_append_right _ (List.mem_of_getElem? (l := tables_1) (i := 174) (by decide +kernel))) rfl
theorem tb_175 : (Jvm.Cond.instanceMethod ({ cls := "ProcessHeaps", name := "spawn", desc := "(IIZ)I" } : Jvm.MethodName)) ∈ mm_B := mm_inB (List.mem_append_right _ (List.mem_of_getElem? (l := tables_1) (i := 175) (by decide +kernel))) rfl
theorem tb_176 : (Jvm.Cond.selects "ProcessHeaps" ({ cls := "ProcessHeaps", name := "spawn", desc := "(IIZ)I" } : Jvm.MethodName) ({ cls := "ProcessHeaps", name := "spawn", desc := "(IIZ)I" } : Jvm.MethodName)) ∈ mm_B := mm_inB (List.mem_append_right _ (List.mem_of_getElem? (l := tables_1) (i := 176) (by decide +kernel))) rfl
theorem tb_177 : (Jvm.Cond.code ({ cls := "ProcessHeaps", name := "spawn", desc := "(IIZ)I" } : Jvm.MethodName) prog_1_method_2_code (5 : Nat) (Option.some Jvm.ClassFile.FieldType.int)) ∈ mm_B := mm_inB (List.mem_append_right _ (List.mem_of_getElem? (l := tables_1) (i := 177) (by decide +kernel))) rfl
theorem tb_178 : (Jvm.Cond.methodLink "ProcessHeaps" (61 : Nat) ({ cls := "ProcessHeaps", name := "livingProcess", desc := "(I)LProcessHeaps$HeapProcess;" } : Jvm.MethodName)) ∈ mm_B := mm_inB (List.mem_append_right _ (List.mem_of_getElem? (l := tables_1) (i := 178) (by decide +kernel))) rfl
theorem tb_180 : (Jvm.Cond.instanceMethod ({ cls := "ProcessHeaps", name := "livingProcess", desc := "(I)LProcessHeaps$HeapProcess;" } : Jvm.MethodName)) ∈ mm_B := mm_inB (List.mem_append_right _ (List.mem_of_getElem? (l := tables_1) (i := 180) (by decide +kernel))) rfl
theorem tb_181 : (Jvm.Cond.code ({ cls := "ProcessHeaps", name := "livingProcess", desc := "(I)LProcessHeaps$HeapProcess;" } : Jvm.MethodName) prog_1_method_27_code (2 : Nat) (Option.some (Jvm.ClassFile.FieldType.object "ProcessHeaps$HeapProcess"))) ∈ mm_B := mm_inB (List.mem_append_right _ (List.mem_of_getElem? (l := tables_1) (i := 181) (by decide +kernel))) rfl
theorem tb_182 : (Jvm.Cond.methodLink "ProcessHeaps" (152 : Nat) ({ cls := "ProcessHeaps", name := "isMade", desc := "(I)Z" } : Jvm.MethodName)) ∈ mm_B := mm_inB (List.mem_append_right _ (List.mem_of_getElem? (l := tables_1) (i := 182) (by decide +kernel))) rfl
theorem tb_184 : (Jvm.Cond.instanceMethod ({ cls := "ProcessHeaps", name := "isMade", desc := "(I)Z" } : Jvm.MethodName)) ∈ mm_B := mm_inB (List.mem_append_right _ (List.mem_of_getElem? (l := tables_1) (i := 184) (by decide +kernel))) rfl
theorem tb_185 : (Jvm.Cond.code ({ cls := "ProcessHeaps", name := "isMade", desc := "(I)Z" } : Jvm.MethodName) prog_1_method_26_code (2 : Nat) (Option.some Jvm.ClassFile.FieldType.boolean)) ∈ mm_B := mm_inB (List.mem_append_right _ (List.mem_of_getElem? (l := tables_1) (i := 185) (by decide +kernel))) rfl
theorem tb_186 : (Jvm.Cond.methodLink "ProcessHeaps" (182 : Nat) ({ cls := "ProcessHeaps$HeapProcess", name := "isLiving", desc := "()Z" } : Jvm.MethodName)) ∈ mm_B := mm_inB (List.mem_append_right _ (List.mem_of_getElem? (l := tables_1) (i := 186) (by decide +kernel))) rfl
theorem tb_187 : (Jvm.Cond.instanceMethod ({ cls := "ProcessHeaps$HeapProcess", name := "isLiving", desc := "()Z" } : Jvm.MethodName)) ∈ mm_B := mm_inB (List.mem_append_right _ (List.mem_of_getElem? (l := tables_1) (i := 187) (by decide +kernel))) rfl
theorem tb_188 : (Jvm.Cond.selects "ProcessHeaps$HeapProcess" ({ cls := "ProcessHeaps$HeapProcess", name := "isLiving", desc := "()Z" } : Jvm.MethodName) ({ cls := "ProcessHeaps$HeapProcess", name := "isLiving", desc := "()Z" } : Jvm.MethodName)) ∈ mm_B := mm_inB (List.mem_append_right _ (List.mem_of_getElem? (l := tables_1) (i := 188) (by decide +kernel))) rfl
theorem tb_189 : (Jvm.Cond.code ({ cls := "ProcessHeaps$HeapProcess", name := "isLiving", desc := "()Z" } : Jvm.MethodName) prog_4_method_2_code (1 : Nat) (Option.some Jvm.ClassFile.FieldType.boolean)) ∈ mm_B := mm_inB (List.mem_append_right _ (List.mem_of_getElem? (l := tables_1) (i := 189) (by decide +kernel))) rfl
theorem tb_190 : (Jvm.Cond.methodLink "ProcessHeaps" (65 : Nat) ({ cls := "ProcessHeaps", name := "canPay", desc := "(II)Z" } : Jvm.MethodName)) ∈ mm_B := mm_inB (List.mem_append_right _ (List.mem_of_getElem? (l := tables_1) (i := 190) (by decide +kernel))) rfl
theorem tb_192 : (Jvm.Cond.instanceMethod ({ cls := "ProcessHeaps", name := "canPay", desc := "(II)Z" } : Jvm.MethodName)) ∈ mm_B := mm_inB (List.mem_append_right _ (List.mem_of_getElem? (l := tables_1) (i := 192) (by decide +kernel))) rfl
theorem tb_193 : (Jvm.Cond.code ({ cls := "ProcessHeaps", name := "canPay", desc := "(II)Z" } : Jvm.MethodName) prog_1_method_28_code (3 : Nat) (Option.some Jvm.ClassFile.FieldType.boolean)) ∈ mm_B := mm_inB (List.mem_append_right _ (List.mem_of_getElem? (l := tables_1) (i := 193) (by decide +kernel))) rfl
theorem tb_194 : (Jvm.Cond.methodLink "ProcessHeaps" (164 : Nat) ({ cls := "ProcessHeaps$Limits", name := "reckon", desc := "([LProcessHeaps$HeapProcess;LProcessHeaps$Memory;)V" } : Jvm.MethodName)) ∈ mm_B := mm_inB (List.mem_append_right _ (List.mem_of_getElem? (l := tables_1) (i := 194) (by decide +kernel))) rfl
theorem tb_195 : (Jvm.Cond.instanceMethod ({ cls := "ProcessHeaps$Limits", name := "reckon", desc := "([LProcessHeaps$HeapProcess;LProcessHeaps$Memory;)V" } : Jvm.MethodName)) ∈ mm_B := mm_inB (List.mem_append_right _ (List.mem_of_getElem? (l := tables_1) (i := 195) (by decide +kernel))) rfl
theorem tb_196 : (Jvm.Cond.selects "ProcessHeaps$Limits" ({ cls := "ProcessHeaps$Limits", name := "reckon", desc := "([LProcessHeaps$HeapProcess;LProcessHeaps$Memory;)V" } : Jvm.MethodName) ({ cls := "ProcessHeaps$Limits", name := "reckon", desc := "([LProcessHeaps$HeapProcess;LProcessHeaps$Memory;)V" } : Jvm.MethodName)) ∈ mm_B := mm_inB (List.mem_append_right _ (List.mem_of_getElem? (l := tables_1) (i := 196) (by decide +kernel))) rfl
theorem tb_197 : (Jvm.Cond.code ({ cls := "ProcessHeaps$Limits", name := "reckon", desc := "([LProcessHeaps$HeapProcess;LProcessHeaps$Memory;)V" } : Jvm.MethodName) prog_5_method_2_code (3 : Nat) (Option.none : Option Jvm.ClassFile.FieldType)) ∈ mm_B := mm_inB (List.mem_append_right _ (List.mem_of_getElem? (l := tables_1) (i := 197) (by decide +kernel))) rfl
theorem tb_198 : (Jvm.Cond.methodLink "ProcessHeaps$Limits" (22 : Nat) ({ cls := "ProcessHeaps$Limits", name := "reckonPayments", desc := "([LProcessHeaps$HeapProcess;LProcessHeaps$Memory;)V" } : Jvm.MethodName)) ∈ mm_B := mm_inB (List.mem_append_right _ (List.mem_of_getElem? (l := tables_1) (i := 198) (by decide +kernel))) rfl
theorem tb_200 : (Jvm.Cond.instanceMethod ({ cls := "ProcessHeaps$Limits", name := "reckonPayments", desc := "([LProcessHeaps$HeapProcess;LProcessHeaps$Memory;)V" } : Jvm.MethodName)) ∈ mm_B := mm_inB (List.mem_append_right _ (List.mem_of_getElem? (l := tables_1) (i := 200) (by decide +kernel))) rfl
theorem tb_201 : (Jvm.Cond.code ({ cls := "ProcessHeaps$Limits", name := "reckonPayments", desc := "([LProcessHeaps$HeapProcess;LProcessHeaps$Memory;)V" } : Jvm.MethodName) prog_5_method_3_code (5 : Nat) (Option.none : Option Jvm.ClassFile.FieldType)) ∈ mm_B := mm_inB (List.mem_append_right _ (List.mem_of_getElem? (l := tables_1) (i := 201) (by decide +kernel))) rfl
theorem tb_202 : (Jvm.Cond.methodLink "ProcessHeaps$Limits" (33 : Nat) ({ cls := "ProcessHeaps$Memory", name := "countPaidPages", desc := "(LProcessHeaps$HeapProcess;)I" } : Jvm.MethodName)) ∈ mm_B := mm_inB (List.mem_append_right _ (List.mem_of_getElem? (l := tables_1) (i := 202) (by decide +kernel))) rfl
theorem tb_203 : (Jvm.Cond.instanceMethod ({ cls := "ProcessHeaps$Memory", name := "countPaidPages", desc := "(LProcessHeaps$HeapProcess;)I" } : Jvm.MethodName)) ∈ mm_B := mm_inB (List.mem_append_right _ (List.mem_of_getElem? (l := tables_1) (i := 203) (by decide +kernel))) rfl
theorem tb_204 : (Jvm.Cond.selects "ProcessHeaps$Memory" ({ cls := "ProcessHeaps$Memory", name := "countPaidPages", desc := "(LProcessHeaps$HeapProcess;)I" } : Jvm.MethodName) ({ cls := "ProcessHeaps$Memory", name := "countPaidPages", desc := "(LProcessHeaps$HeapProcess;)I" } : Jvm.MethodName)) ∈ mm_B := mm_inB (List.mem_append_right _ (List.mem_of_getElem? (l := tables_1) (i := 204) (by decide +kernel))) rfl
theorem tb_205 : (Jvm.Cond.code ({ cls := "ProcessHeaps$Memory", name := "countPaidPages", desc := "(LProcessHeaps$HeapProcess;)I" } : Jvm.MethodName) prog_6_method_3_code (5 : Nat) (Option.some Jvm.ClassFile.FieldType.int)) ∈ mm_B := mm_inB (List.mem_append_right _ (List.mem_of_getElem? (l := tables_1) (i := 205) (by decide +kernel))) rfl
theorem tb_206 : (Jvm.Cond.methodLink "ProcessHeaps$Memory" (21 : Nat) ({ cls := "java/util/ArrayList", name := "size", desc := "()I" } : Jvm.MethodName)) ∈ mm_B := mm_inB (List.mem_append_right _ (List.mem_of_getElem? (l := tables_1) (i := 206) (by decide +kernel))) rfl
theorem tb_207 : (Jvm.Cond.instanceMethod ({ cls := "java/util/ArrayList", name := "size", desc := "()I" } : Jvm.MethodName)) ∈ mm_B := mm_inB (List.mem_append_right _ (List.mem_of_getElem? (l := tables_1) (i := 207) (by decide +kernel))) rfl
theorem tb_208 : (Jvm.Cond.selects "java/util/ArrayList" ({ cls := "java/util/ArrayList", name := "size", desc := "()I" } : Jvm.MethodName) ({ cls := "java/util/ArrayList", name := "size", desc := "()I" } : Jvm.MethodName)) ∈ mm_B := mm_inB (List.mem_append_right _ (List.mem_of_getElem? (l := tables_1) (i := 208) (by decide +kernel))) rfl
theorem tb_209 : (Jvm.Cond.code ({ cls := "java/util/ArrayList", name := "size", desc := "()I" } : Jvm.MethodName) prog_17_method_8_code (1 : Nat) (Option.some Jvm.ClassFile.FieldType.int)) ∈ mm_B := mm_inB (List.mem_append_right _ (List.mem_of_getElem? (l := tables_1) (i := 209) (by decide +kernel))) rfl
theorem tb_210 : (Jvm.Cond.methodLink "ProcessHeaps$Memory" (25 : Nat) ({ cls := "java/util/ArrayList", name := "get", desc := "(I)Ljava/lang/Object;" } : Jvm.MethodName)) ∈ mm_B := mm_inB (List.mem_append_right _ (List.mem_of_getElem? (l := tables_1) (i := 210) (by decide +kernel))) rfl
theorem tb_211 : (Jvm.Cond.instanceMethod ({ cls := "java/util/ArrayList", name := "get", desc := "(I)Ljava/lang/Object;" } : Jvm.MethodName)) ∈ mm_B := mm_inB (List.mem_append_right _ (List.mem_of_getElem? (l := tables_1) (i := 211) (by decide +kernel))) rfl
theorem tb_212 : (Jvm.Cond.selects "java/util/ArrayList" ({ cls := "java/util/ArrayList", name := "get", desc := "(I)Ljava/lang/Object;" } : Jvm.MethodName) ({ cls := "java/util/ArrayList", name := "get", desc := "(I)Ljava/lang/Object;" } : Jvm.MethodName)) ∈ mm_B := mm_inB (List.mem_append_right _ (List.mem_of_getElem? (l := tables_1) (i := 212) (by decide +kernel))) rfl
theorem tb_213 : (Jvm.Cond.code ({ cls := "java/util/ArrayList", name := "get", desc := "(I)Ljava/lang/Object;" } : Jvm.MethodName) prog_17_method_20_code (2 : Nat) (Option.some (Jvm.ClassFile.FieldType.object "java/lang/Object"))) ∈ mm_B := mm_inB (List.mem_append_right _ (List.mem_of_getElem? (l := tables_1) (i := 213) (by decide +kernel))) rfl
theorem tb_214 : (Jvm.Cond.methodLink "java/util/ArrayList" (118 : Nat) ({ cls := "java/util/Objects", name := "checkIndex", desc := "(II)I" } : Jvm.MethodName)) ∈ mm_B := mm_inB (List.mem_append_right _ (List.mem_of_getElem? (l := tables_1) (i := 214) (by decide +kernel))) rfl
theorem tb_215 : (Jvm.Cond.static ({ cls := "java/util/Objects", name := "checkIndex", desc := "(II)I" } : Jvm.MethodName)) ∈ mm_B := mm_inB (List.mem_append_right _ (List.mem_of_getElem? (l := tables_1) (i := 215) (by decide +kernel))) rfl
theorem tb_216 : (Jvm.Cond.code ({ cls := "java/util/Objects", name := "checkIndex", desc := "(II)I" } : Jvm.MethodName) prog_21_method_17_code (2 : Nat) (Option.some Jvm.ClassFile.FieldType.int)) ∈ mm_B := mm_inB (List.mem_append_right _ (List.mem_of_getElem? (l := tables_1) (i := 216) (by decide +kernel))) rfl
theorem tb_217 : (Jvm.Cond.methodLink "java/util/Objects" (105 : Nat) ({ cls := "jdk/internal/util/Preconditions", name := "checkIndex", desc := "(IILjava/util/function/BiFunction;)I" } : Jvm.MethodName)) ∈ mm_B := mm_inB (List.mem_append_right _ (List.mem_of_getElem? (l := tables_1) (i := 217) (by decide +kernel))) rfl
theorem tb_218 : (Jvm.Cond.static ({ cls := "jdk/internal/util/Preconditions", name := "checkIndex", desc := "(IILjava/util/function/BiFunction;)I" } : Jvm.MethodName)) ∈ mm_B := mm_inB (List.mem_append_right _ (List.mem_of_getElem? (l := tables_1) (i := 218) (by decide +kernel))) rfl
theorem tb_219 : (Jvm.Cond.code ({ cls := "jdk/internal/util/Preconditions", name := "checkIndex", desc := "(IILjava/util/function/BiFunction;)I" } : Jvm.MethodName) prog_25_method_11_code (3 : Nat) (Option.some Jvm.ClassFile.FieldType.int)) ∈ mm_B := mm_inB (List.mem_append_right _ (List.mem_of_getElem? (l := tables_1) (i := 219) (by decide +kernel))) rfl
theorem tb_220 : (Jvm.Cond.methodLink "java/util/ArrayList" (123 : Nat) ({ cls := "java/util/ArrayList", name := "elementData", desc := "(I)Ljava/lang/Object;" } : Jvm.MethodName)) ∈ mm_B := mm_inB (List.mem_append_right _ (List.mem_of_getElem? (l := tables_1) (i := 220) (by decide +kernel))) rfl
theorem tb_221 : (Jvm.Cond.instanceMethod ({ cls := "java/util/ArrayList", name := "elementData", desc := "(I)Ljava/lang/Object;" } : Jvm.MethodName)) ∈ mm_B := mm_inB (List.mem_append_right _ (List.mem_of_getElem? (l := tables_1) (i := 221) (by decide +kernel))) rfl
theorem tb_222 : (Jvm.Cond.selects "java/util/ArrayList" ({ cls := "java/util/ArrayList", name := "elementData", desc := "(I)Ljava/lang/Object;" } : Jvm.MethodName) ({ cls := "java/util/ArrayList", name := "elementData", desc := "(I)Ljava/lang/Object;" } : Jvm.MethodName)) ∈ mm_B := mm_inB (List.mem_append_right _ (List.mem_of_getElem? (l := tables_1) (i := 222) (by decide +kernel))) rfl
theorem tb_223 : (Jvm.Cond.code ({ cls := "java/util/ArrayList", name := "elementData", desc := "(I)Ljava/lang/Object;" } : Jvm.MethodName) prog_17_method_18_code (2 : Nat) (Option.some (Jvm.ClassFile.FieldType.object "java/lang/Object"))) ∈ mm_B := mm_inB (List.mem_append_right _ (List.mem_of_getElem? (l := tables_1) (i := 223) (by decide +kernel))) rfl
theorem tb_224 : (Jvm.Cond.classLink "ProcessHeaps$Memory" (29 : Nat) "ProcessHeaps$Page") ∈ mm_B := mm_inB (List.mem_append_right _ (List.mem_of_getElem? (l := tables_1) (i := 224) (by decide +kernel))) rfl
theorem tb_225 : (Jvm.Cond.methodLink "ProcessHeaps$Memory" (43 : Nat) ({ cls := "ProcessHeaps$HeapProcess", name := "isCharged", desc := "(I)Z" } : Jvm.MethodName)) ∈ mm_B := mm_inB (List.mem_append_right _ (List.mem_of_getElem? (l := tables_1) (i := 225) (by decide +kernel))) rfl
theorem tb_226 : (Jvm.Cond.instanceMethod ({ cls := "ProcessHeaps$HeapProcess", name := "isCharged", desc := "(I)Z" } : Jvm.MethodName)) ∈ mm_B := mm_inB (List.mem_append_right _ (List.mem_of_getElem? (l := tables_1) (i := 226) (by decide +kernel))) rfl
theorem tb_227 : (Jvm.Cond.selects "ProcessHeaps$HeapProcess" ({ cls := "ProcessHeaps$HeapProcess", name := "isCharged", desc := "(I)Z" } : Jvm.MethodName) ({ cls := "ProcessHeaps$HeapProcess", name := "isCharged", desc := "(I)Z" } : Jvm.MethodName)) ∈ mm_B := mm_inB (List.mem_append_right _ (List.mem_of_getElem? (l := tables_1) (i := 227) (by decide +kernel))) rfl
theorem tb_228 : (Jvm.Cond.code ({ cls := "ProcessHeaps$HeapProcess", name := "isCharged", desc := "(I)Z" } : Jvm.MethodName) prog_4_method_4_code (2 : Nat) (Option.some Jvm.ClassFile.FieldType.boolean)) ∈ mm_B := mm_inB (List.mem_append_right _ (List.mem_of_getElem? (l := tables_1) (i := 228) (by decide +kernel))) rfl
theorem tb_229 : (Jvm.Cond.methodLink "ProcessHeaps$Limits" (39 : Nat) ({ cls := "ProcessHeaps$HeapProcess", name := "isLiving", desc := "()Z" } : Jvm.MethodName)) ∈ mm_B := mm_inB (List.mem_append_right _ (List.mem_of_getElem? (l := tables_1) (i := 229) (by decide +kernel))) rfl
theorem tb_230 : (Jvm.Cond.methodLink "ProcessHeaps$Limits" (26 : Nat) ({ cls := "ProcessHeaps$Limits", name := "addChildren", desc := "([LProcessHeaps$HeapProcess;)V" } : Jvm.MethodName)) ∈ mm_B := mm_inB (List.mem_append_right _ (List.mem_of_getElem? (l := tables_1) (i := 230) (by decide +kernel))) rfl
theorem tb_232 : (Jvm.Cond.instanceMethod ({ cls := "ProcessHeaps$Limits", name := "addChildren", desc := "([LProcessHeaps$HeapProcess;)V" } : Jvm.MethodName)) ∈ mm_B := mm_inB (List.mem_append_right _ (List.mem_of_getElem? (l := tables_1) (i := 232) (by decide +kernel))) rfl
theorem tb_233 : (Jvm.Cond.code ({ cls := "ProcessHeaps$Limits", name := "addChildren", desc := "([LProcessHeaps$HeapProcess;)V" } : Jvm.MethodName) prog_5_method_4_code (4 : Nat) (Option.none : Option Jvm.ClassFile.FieldType)) ∈ mm_B := mm_inB (List.mem_append_right _ (List.mem_of_getElem? (l := tables_1) (i := 233) (by decide +kernel))) rfl
theorem tb_234 : (Jvm.Cond.methodLink "ProcessHeaps$Limits" (30 : Nat) ({ cls := "ProcessHeaps$Limits", name := "reckonSpare", desc := "([LProcessHeaps$HeapProcess;)V" } : Jvm.MethodName)) ∈ mm_B := mm_inB (List.mem_append_right _ (List.mem_of_getElem? (l := tables_1) (i := 234) (by decide +kernel))) rfl
theorem tb_236 : (Jvm.Cond.instanceMethod ({ cls := "ProcessHeaps$Limits", name := "reckonSpare", desc := "([LProcessHeaps$HeapProcess;)V" } : Jvm.MethodName)) ∈ mm_B := mm_inB (List.mem_append_right _ (List.mem_of_getElem? (l := tables_1) (i := 236) (by decide +kernel))) rfl
theorem tb_237 : (Jvm.Cond.code ({ cls := "ProcessHeaps$Limits", name := "reckonSpare", desc := "([LProcessHeaps$HeapProcess;)V" } : Jvm.MethodName) prog_5_method_5_code (4 : Nat) (Option.none : Option Jvm.ClassFile.FieldType)) ∈ mm_B := mm_inB (List.mem_append_right _ (List.mem_of_getElem? (l := tables_1) (i := 237) (by decide +kernel))) rfl
theorem tb_238 : (Jvm.Cond.methodLink "ProcessHeaps$Limits" (56 : Nat) ({ cls := "java/lang/Math", name := "min", desc := "(II)I" } : Jvm.MethodName)) ∈ mm_B := mm_inB (List.mem_append_right _ (List.mem_of_getElem? (l := tables_1) (i := 238) (by decide +kernel))) rfl
theorem tb_239 : (Jvm.Cond.methodLink "ProcessHeapsLaw" (26 : Nat) ({ cls := "ProcessHeaps", name := "kill", desc := "(I)Z" } : Jvm.MethodName)) ∈ mm_B := mm_inB (List.mem_append_right _ (List.mem_of_getElem? (l := tables_1) (i := 239) (by decide +kernel))) rfl
theorem tb_240 : (Jvm.Cond.instanceMethod ({ cls := "ProcessHeaps", name := "kill", desc := "(I)Z" } : Jvm.MethodName)) ∈ mm_B := mm_inB (List.mem_append_right _ (List.mem_of_getElem? (l := tables_1) (i := 240) (by decide +kernel))) rfl
theorem tb_241 : (Jvm.Cond.selects "ProcessHeaps" ({ cls := "ProcessHeaps", name := "kill", desc := "(I)Z" } : Jvm.MethodName) ({ cls := "ProcessHeaps", name := "kill", desc := "(I)Z" } : Jvm.MethodName)) ∈ mm_B := mm_inB (List.mem_append_right _ (List.mem_of_getElem? (l := tables_1) (i := 241) (by decide +kernel))) rfl
theorem tb_242 : (Jvm.Cond.code ({ cls := "ProcessHeaps", name := "kill", desc := "(I)Z" } : Jvm.MethodName) prog_1_method_3_code (3 : Nat) (Option.some Jvm.ClassFile.FieldType.boolean)) ∈ mm_B := mm_inB (List.mem_append_right _ (List.mem_of_getElem? (l := tables_1) (i := 242) (by decide +kernel))) rfl
theorem tb_243 : (Jvm.Cond.methodLink "ProcessHeaps" (72 : Nat) ({ cls := "ProcessHeaps$HeapProcess", name := "isInKernelMode", desc := "()Z" } : Jvm.MethodName)) ∈ mm_B := mm_inB (List.mem_append_right _ (List.mem_of_getElem? (l := tables_1) (i := 243) (by decide +kernel))) rfl
theorem tb_244 : (Jvm.Cond.instanceMethod ({ cls := "ProcessHeaps$HeapProcess", name := "isInKernelMode", desc := "()Z" } : Jvm.MethodName)) ∈ mm_B := mm_inB (List.mem_append_right _ (List.mem_of_getElem? (l := tables_1) (i := 244) (by decide +kernel))) rfl
theorem tb_245 : (Jvm.Cond.selects "ProcessHeaps$HeapProcess" ({ cls := "ProcessHeaps$HeapProcess", name := "isInKernelMode", desc := "()Z" } : Jvm.MethodName) ({ cls := "ProcessHeaps$HeapProcess", name := "isInKernelMode", desc := "()Z" } : Jvm.MethodName)) ∈ mm_B := mm_inB (List.mem_append_right _ (List.mem_of_getElem? (l := tables_1) (i := 245) (by decide +kernel))) rfl
theorem tb_246 : (Jvm.Cond.code ({ cls := "ProcessHeaps$HeapProcess", name := "isInKernelMode", desc := "()Z" } : Jvm.MethodName) prog_4_method_3_code (1 : Nat) (Option.some Jvm.ClassFile.FieldType.boolean)) ∈ mm_B := mm_inB (List.mem_append_right _ (List.mem_of_getElem? (l := tables_1) (i := 246) (by decide +kernel))) rfl
theorem tb_247 : (Jvm.Cond.methodLink "ProcessHeaps" (76 : Nat) ({ cls := "ProcessHeaps", name := "die", desc := "(LProcessHeaps$HeapProcess;)V" } : Jvm.MethodName)) ∈ mm_B := mm_inB (List.mem_append_right _ (List.mem_of_getElem? (l := tables_1) (i := 247) (by decide +kernel))) rfl
theorem tb_249 : (Jvm.Cond.instanceMethod ({ cls := "ProcessHeaps", name := "die", desc := "(LProcessHeaps$HeapProcess;)V" } : Jvm.MethodName)) ∈ mm_B := mm_inB (List.mem_append_right _ (List.mem_of_getElem? (l := tables_1) (i := 249) (by decide +kernel))) rfl
theorem tb_250 : (Jvm.Cond.code ({ cls := "ProcessHeaps", name := "die", desc := "(LProcessHeaps$HeapProcess;)V" } : Jvm.MethodName) prog_1_method_34_code (3 : Nat) (Option.none : Option Jvm.ClassFile.FieldType)) ∈ mm_B := mm_inB (List.mem_append_right _ (List.mem_of_getElem? (l := tables_1) (i := 250) (by decide +kernel))) rfl
theorem tb_251 : (Jvm.Cond.methodLink "ProcessHeaps" (205 : Nat) ({ cls := "ProcessHeaps", name := "dropUnusedCharges", desc := "(LProcessHeaps$HeapProcess;)V" } : Jvm.MethodName)) ∈ mm_B := mm_inB (List.mem_append_right _ (List.mem_of_getElem? (l := tables_1) (i := 251) (by decide +kernel))) rfl
theorem tb_253 : (Jvm.Cond.instanceMethod ({ cls := "ProcessHeaps", name := "dropUnusedCharges", desc := "(LProcessHeaps$HeapProcess;)V" } : Jvm.MethodName)) ∈ mm_B := mm_inB (List.mem_append_right _ (List.mem_of_getElem? (l := tables_1) (i := 253) (by decide +kernel))) rfl
theorem tb_254 : (Jvm.Cond.code ({ cls := "ProcessHeaps", name := "dropUnusedCharges", desc := "(LProcessHeaps$HeapProcess;)V" } : Jvm.MethodName) prog_1_method_35_code (3 : Nat) (Option.none : Option Jvm.ClassFile.FieldType)) ∈ mm_B := mm_inB (List.mem_append_right _ (List.mem_of_getElem? (l := tables_1) (i := 254) (by decide +kernel))) rfl
theorem tb_255 : (Jvm.Cond.methodLink "ProcessHeaps" (217 : Nat) ({ cls := "ProcessHeaps$HeapProcess", name := "holdsObjectOf", desc := "(I)Z" } : Jvm.MethodName)) ∈ mm_B := mm_inB (List.mem_append_right _ (List.mem_of_getElem? (l := tables_1) (i := 255) (by decide +kernel))) rfl
theorem tb_256 : (Jvm.Cond.instanceMethod ({ cls := "ProcessHeaps$HeapProcess", name := "holdsObjectOf", desc := "(I)Z" } : Jvm.MethodName)) ∈ mm_B := mm_inB (List.mem_append_right _ (List.mem_of_getElem? (l := tables_1) (i := 256) (by decide +kernel))) rfl
theorem tb_257 : (Jvm.Cond.selects "ProcessHeaps$HeapProcess" ({ cls := "ProcessHeaps$HeapProcess", name := "holdsObjectOf", desc := "(I)Z" } : Jvm.MethodName) ({ cls := "ProcessHeaps$HeapProcess", name := "holdsObjectOf", desc := "(I)Z" } : Jvm.MethodName)) ∈ mm_B := mm_inB (List.mem_append_right _ (List.mem_of_getElem? (l := tables_1) (i := 257) (by decide +kernel))) rfl
theorem tb_258 : (Jvm.Cond.code ({ cls := "ProcessHeaps$HeapProcess", name := "holdsObjectOf", desc := "(I)Z" } : Jvm.MethodName) prog_4_method_8_code (4 : Nat) (Option.some Jvm.ClassFile.FieldType.boolean)) ∈ mm_B := mm_inB (List.mem_append_right _ (List.mem_of_getElem? (l := tables_1) (i := 258) (by decide +kernel))) rfl
theorem tb_259 : (Jvm.Cond.methodLink "ProcessHeaps$HeapProcess" (44 : Nat) ({ cls := "ProcessHeaps$HeapObject", name := "heapNumber", desc := "()I" } : Jvm.MethodName)) ∈ mm_B := mm_inB (List.mem_append_right _ (List.mem_of_getElem? (l := tables_1) (i := 259) (by decide +kernel))) rfl
theorem tb_260 : (Jvm.Cond.instanceMethod ({ cls := "ProcessHeaps$HeapObject", name := "heapNumber", desc := "()I" } : Jvm.MethodName)) ∈ mm_B := mm_inB (List.mem_append_right _ (List.mem_of_getElem? (l := tables_1) (i := 260) (by decide +kernel))) rfl
theorem tb_261 : (Jvm.Cond.selects "ProcessHeaps$HeapObject" ({ cls := "ProcessHeaps$HeapObject", name := "heapNumber", desc := "()I" } : Jvm.MethodName) ({ cls := "ProcessHeaps$HeapObject", name := "heapNumber", desc := "()I" } : Jvm.MethodName)) ∈ mm_B := mm_inB (List.mem_append_right _ (List.mem_of_getElem? (l := tables_1) (i := 261) (by decide +kernel))) rfl
theorem tb_262 : (Jvm.Cond.code ({ cls := "ProcessHeaps$HeapObject", name := "heapNumber", desc := "()I" } : Jvm.MethodName) prog_3_method_2_code (1 : Nat) (Option.some Jvm.ClassFile.FieldType.int)) ∈ mm_B := mm_inB (List.mem_append_right _ (List.mem_of_getElem? (l := tables_1) (i := 262) (by decide +kernel))) rfl
theorem tb_263 : (Jvm.Cond.methodLink "ProcessHeaps" (220 : Nat) ({ cls := "ProcessHeaps$Memory", name := "hasItemInto", desc := "(II)Z" } : Jvm.MethodName)) ∈ mm_B := mm_inB (List.mem_append_right _ (List.mem_of_getElem? (l := tables_1) (i := 263) (by decide +kernel))) rfl
theorem tb_264 : (Jvm.Cond.instanceMethod ({ cls := "ProcessHeaps$Memory", name := "hasItemInto", desc := "(II)Z" } : Jvm.MethodName)) ∈ mm_B := mm_inB (List.mem_append_right _ (List.mem_of_getElem? (l := tables_1) (i := 264) (by decide +kernel))) rfl
theorem tb_265 : (Jvm.Cond.selects "ProcessHeaps$Memory" ({ cls := "ProcessHeaps$Memory", name := "hasItemInto", desc := "(II)Z" } : Jvm.MethodName) ({ cls := "ProcessHeaps$Memory", name := "hasItemInto", desc := "(II)Z" } : Jvm.MethodName)) ∈ mm_B := mm_inB (List.mem_append_right _ (List.mem_of_getElem? (l := tables_1) (i := 265) (by decide +kernel))) rfl
theorem tb_266 : (Jvm.Cond.code ({ cls := "ProcessHeaps$Memory", name := "hasItemInto", desc := "(II)Z" } : Jvm.MethodName) prog_6_method_6_code (5 : Nat) (Option.some Jvm.ClassFile.FieldType.boolean)) ∈ mm_B := mm_inB (List.mem_append_right _ (List.mem_of_getElem? (l := tables_1) (i := 266) (by decide +kernel))) rfl
theorem tb_267 : (Jvm.Cond.classLink "ProcessHeaps$Memory" (47 : Nat) "ProcessHeaps$HeapObject") ∈ mm_B := mm_inB (List.mem_append_right _ (List.mem_of_getElem? (l := tables_1) (i := 267) (by decide +kernel))) rfl
theorem tb_268 : (Jvm.Cond.methodLink "ProcessHeaps$Memory" (49 : Nat) ({ cls := "ProcessHeaps$HeapObject", name := "heapNumber", desc := "()I" } : Jvm.MethodName)) ∈ mm_B := mm_inB (List.mem_append_right _ (List.mem_of_getElem? (l := tables_1) (i := 268) (by decide +kernel))) rfl
theorem tb_269 : (Jvm.Cond.methodLink "ProcessHeaps$Memory" (52 : Nat) ({ cls := "ProcessHeaps$HeapObject", name := "hasItem", desc := "(I)Z" } : Jvm.MethodName)) ∈ mm_B := mm_inB (List.mem_append_right _ (List.mem_of_getElem? (l := tables_1) (i := 269) (by decide +kernel))) rfl
theorem tb_270 : (Jvm.Cond.instanceMethod ({ cls := "ProcessHeaps$HeapObject", name := "hasItem", desc := "(I)Z" } : Jvm.MethodName)) ∈ mm_B := mm_inB (List.mem_append_right _ (List.mem_of_getElem? (l := tables_1) (i := 270) (by decide +kernel))) rfl
theorem tb_271 : (Jvm.Cond.selects "ProcessHeaps$HeapObject" ({ cls := "ProcessHeaps$HeapObject", name := "hasItem", desc := "(I)Z" } : Jvm.MethodName) ({ cls := "ProcessHeaps$HeapObject", name := "hasItem", desc := "(I)Z" } : Jvm.MethodName)) ∈ mm_B := mm_inB (List.mem_append_right _ (List.mem_of_getElem? (l := tables_1) (i := 271) (by decide +kernel))) rfl
theorem tb_272 : (Jvm.Cond.code ({ cls := "ProcessHeaps$HeapObject", name := "hasItem", desc := "(I)Z" } : Jvm.MethodName) prog_3_method_7_code (2 : Nat) (Option.some Jvm.ClassFile.FieldType.boolean)) ∈ mm_B := mm_inB (List.mem_append_right _ (List.mem_of_getElem? (l := tables_1) (i := 272) (by decide +kernel))) rfl
theorem tb_273 : (Jvm.Cond.methodLink "ProcessHeaps" (223 : Nat) ({ cls := "ProcessHeaps$HeapProcess", name := "dropCharge", desc := "(I)V" } : Jvm.MethodName)) ∈ mm_B := mm_inB (List.mem_append_right _ (List.mem_of_getElem? (l := tables_1) (i := 273) (by decide +kernel))) rfl
theorem tb_274 : (Jvm.Cond.instanceMethod ({ cls := "ProcessHeaps$HeapProcess", name := "dropCharge", desc := "(I)V" } : Jvm.MethodName)) ∈ mm_B := mm_inB (List.mem_append_right _ (List.mem_of_getElem? (l := tables_1) (i := 274) (by decide +kernel))) rfl
theorem tb_275 : (Jvm.Cond.selects "ProcessHeaps$HeapProcess" ({ cls := "ProcessHeaps$HeapProcess", name := "dropCharge", desc := "(I)V" } : Jvm.MethodName) ({ cls := "ProcessHeaps$HeapProcess", name := "dropCharge", desc := "(I)V" } : Jvm.MethodName)) ∈ mm_B := mm_inB (List.mem_append_right _ (List.mem_of_getElem? (l := tables_1) (i := 275) (by decide +kernel))) rfl
theorem tb_276 : (Jvm.Cond.code ({ cls := "ProcessHeaps$HeapProcess", name := "dropCharge", desc := "(I)V" } : Jvm.MethodName) prog_4_method_6_code (2 : Nat) (Option.none : Option Jvm.ClassFile.FieldType)) ∈ mm_B := mm_inB (List.mem_append_right _ (List.mem_of_getElem? (l := tables_1) (i := 276) (by decide +kernel))) rfl
theorem tb_277 : (Jvm.Cond.methodLink "ProcessHeaps" (211 : Nat) ({ cls := "ProcessHeaps$Memory", name := "mergeIntoKernel", desc := "(I)V" } : Jvm.MethodName)) ∈ mm_B := mm_inB (List.mem_append_right _ (List.mem_of_getElem? (l := tables_1) (i := 277) (by decide +kernel))) rfl
theorem tb_278 : (Jvm.Cond.instanceMethod ({ cls := "ProcessHeaps$Memory", name := "mergeIntoKernel", desc := "(I)V" } : Jvm.MethodName)) ∈ mm_B := mm_inB (List.mem_append_right _ (List.mem_of_getElem? (l := tables_1) (i := 278) (by decide +kernel))) rfl
theorem tb_279 : (Jvm.Cond.selects "ProcessHeaps$Memory" ({ cls := "ProcessHeaps$Memory", name := "mergeIntoKernel", desc := "(I)V" } : Jvm.MethodName) ({ cls := "ProcessHeaps$Memory", name := "mergeIntoKernel", desc := "(I)V" } : Jvm.MethodName)) ∈ mm_B := mm_inB (List.mem_append_right _ (List.mem_of_getElem? (l := tables_1) (i := 279) (by decide +kernel))) rfl
theorem tb_280 : (Jvm.Cond.code ({ cls := "ProcessHeaps$Memory", name := "mergeIntoKernel", desc := "(I)V" } : Jvm.MethodName) prog_6_method_13_code (6 : Nat) (Option.none : Option Jvm.ClassFile.FieldType)) ∈ mm_B := mm_inB (List.mem_append_right _ (List.mem_of_getElem? (l := tables_1) (i := 280) (by decide +kernel))) rfl
theorem tb_281 : (Jvm.Cond.methodLink "ProcessHeaps$Memory" (78 : Nat) ({ cls := "java/util/ArrayList", name := "remove", desc := "(I)Ljava/lang/Object;" } : Jvm.MethodName)) ∈ mm_B := mm_inB (List.mem_append_right _ (List.mem_of_getElem? (l := tables_1) (i := 281) (by decide +kernel))) rfl
theorem tb_282 : (Jvm.Cond.instanceMethod ({ cls := "java/util/ArrayList", name := "remove", desc := "(I)Ljava/lang/Object;" } : Jvm.MethodName)) ∈ mm_B := mm_inB (List.mem_append_right _ (List.mem_of_getElem? (l := tables_1) (i := 282) (by decide +kernel))) rfl
theorem tb_283 : (Jvm.Cond.selects "java/util/ArrayList" ({ cls := "java/util/ArrayList", name := "remove", desc := "(I)Ljava/lang/Object;" } : Jvm.MethodName) ({ cls := "java/util/ArrayList", name := "remove", desc := "(I)Ljava/lang/Object;" } : Jvm.MethodName)) ∈ mm_B := mm_inB (List.mem_append_right _ (List.mem_of_getElem? (l := tables_1) (i := 283) (by decide +kernel))) rfl
theorem tb_284 : (Jvm.Cond.code ({ cls := "java/util/ArrayList", name := "remove", desc := "(I)Ljava/lang/Object;" } : Jvm.MethodName) prog_17_method_29_code (4 : Nat) (Option.some (Jvm.ClassFile.FieldType.object "java/lang/Object"))) ∈ mm_B := mm_inB (List.mem_append_right _ (List.mem_of_getElem? (l := tables_1) (i := 284) (by decide +kernel))) rfl
theorem tb_285 : (Jvm.Cond.methodLink "java/util/ArrayList" (144 : Nat) ({ cls := "java/util/ArrayList", name := "fastRemove", desc := "([Ljava/lang/Object;I)V" } : Jvm.MethodName)) ∈ mm_B := mm_inB (List.mem_append_right _ (List.mem_of_getElem? (l := tables_1) (i := 285) (by decide +kernel))) rfl
theorem tb_287 : (Jvm.Cond.instanceMethod ({ cls := "java/util/ArrayList", name := "fastRemove", desc := "([Ljava/lang/Object;I)V" } : Jvm.MethodName)) ∈ mm_B := mm_inB (List.mem_append_right _ (List.mem_of_getElem? (l := tables_1) (i := 287) (by decide +kernel))) rfl
theorem tb_288 : (Jvm.Cond.code ({ cls := "java/util/ArrayList", name := "fastRemove", desc := "([Ljava/lang/Object;I)V" } : Jvm.MethodName) prog_17_method_39_code (4 : Nat) (Option.none : Option Jvm.ClassFile.FieldType)) ∈ mm_B := mm_inB (List.mem_append_right _ (List.mem_of_getElem? (l := tables_1) (i := 288) (by decide +kernel))) rfl
theorem tb_289 : (Jvm.Cond.methodLink "java/util/ArrayList" (112 : Nat) ({ cls := "java/lang/System", name := "arraycopy", desc := "(Ljava/lang/Object;ILjava/lang/Object;II)V" } : Jvm.MethodName)) ∈ mm_B := mm_inB (List.mem_append_right _ (List.mem_of_getElem? (l := tables_1) (i := 289) (by decide +kernel))) rfl
theorem tb_290 : (Jvm.Cond.static ({ cls := "java/lang/System", name := "arraycopy", desc := "(Ljava/lang/Object;ILjava/lang/Object;II)V" } : Jvm.MethodName)) ∈ mm_B := mm_inB (List.mem_append_right _ (List.mem_of_getElem? (l := tables_1) (i := 290) (by decide +kernel))) rfl
theorem tb_291 : (Jvm.Cond.native ({ cls := "java/lang/System", name := "arraycopy", desc := "(Ljava/lang/Object;ILjava/lang/Object;II)V" } : Jvm.MethodName)) ∈ mm_B := mm_inB (List.mem_append_right _ (List.mem_of_getElem? (l := tables_1) (i := 291) (by decide +kernel))) rfl
theorem tb_292 : (Jvm.Cond.methodLink "ProcessHeaps$Memory" (61 : Nat) ({ cls := "java/util/ArrayList", name := "add", desc := "(Ljava/lang/Object;)Z" } : Jvm.MethodName)) ∈ mm_B := mm_inB (List.mem_append_right _ (List.mem_of_getElem? (l := tables_1) (i := 292) (by decide +kernel))) rfl
theorem tb_293 : (Jvm.Cond.instanceMethod ({ cls := "java/util/ArrayList", name := "add", desc := "(Ljava/lang/Object;)Z" } : Jvm.MethodName)) ∈ mm_B := mm_inB (List.mem_append_right _ (List.mem_of_getElem? (l := tables_1) (i := 293) (by decide +kernel))) rfl
theorem tb_294 : (Jvm.Cond.selects "java/util/ArrayList" ({ cls := "java/util/ArrayList", name := "add", desc := "(Ljava/lang/Object;)Z" } : Jvm.MethodName) ({ cls := "java/util/ArrayList", name := "add", desc := "(Ljava/lang/Object;)Z" } : Jvm.MethodName)) ∈ mm_B := mm_inB (List.mem_append_right _ (List.mem_of_getElem? (l := tables_1) (i := 294) (by decide +kernel))) rfl
theorem tb_295 : (Jvm.Cond.code ({ cls := "java/util/ArrayList", name := "add", desc := "(Ljava/lang/Object;)Z" } : Jvm.MethodName) prog_17_method_25_code (2 : Nat) (Option.some Jvm.ClassFile.FieldType.boolean)) ∈ mm_B := mm_inB (List.mem_append_right _ (List.mem_of_getElem? (l := tables_1) (i := 295) (by decide +kernel))) rfl
theorem tb_296 : (Jvm.Cond.methodLink "java/util/ArrayList" (131 : Nat) ({ cls := "java/util/ArrayList", name := "add", desc := "(Ljava/lang/Object;[Ljava/lang/Object;I)V" } : Jvm.MethodName)) ∈ mm_B := mm_inB (List.mem_append_right _ (List.mem_of_getElem? (l := tables_1) (i := 296) (by decide +kernel))) rfl
theorem tb_298 : (Jvm.Cond.instanceMethod ({ cls := "java/util/ArrayList", name := "add", desc := "(Ljava/lang/Object;[Ljava/lang/Object;I)V" } : Jvm.MethodName)) ∈ mm_B := mm_inB (List.mem_append_right _ (List.mem_of_getElem? (l := tables_1) (i := 298) (by decide +kernel))) rfl
theorem tb_299 : (Jvm.Cond.code ({ cls := "java/util/ArrayList", name := "add", desc := "(Ljava/lang/Object;[Ljava/lang/Object;I)V" } : Jvm.MethodName) prog_17_method_24_code (4 : Nat) (Option.none : Option Jvm.ClassFile.FieldType)) ∈ mm_B := mm_inB (List.mem_append_right _ (List.mem_of_getElem? (l := tables_1) (i := 299) (by decide +kernel))) rfl
theorem tb_300 : (Jvm.Cond.methodLink "java/util/ArrayList" (129 : Nat) ({ cls := "java/util/ArrayList", name := "grow", desc := "()[Ljava/lang/Object;" } : Jvm.MethodName)) ∈ mm_B := mm_inB (List.mem_append_right _ (List.mem_of_getElem? (l := tables_1) (i := 300) (by decide +kernel))) rfl
theorem tb_302 : (Jvm.Cond.instanceMethod ({ cls := "java/util/ArrayList", name := "grow", desc := "()[Ljava/lang/Object;" } : Jvm.MethodName)) ∈ mm_B := mm_inB (List.mem_append_right _ (List.mem_of_getElem? (l := tables_1) (i := 302) (by decide +kernel))) rfl
theorem tb_303 : (Jvm.Cond.code ({ cls := "java/util/ArrayList", name := "grow", desc := "()[Ljava/lang/Object;" } : Jvm.MethodName) prog_17_method_7_code (1 : Nat) (Option.some (Jvm.ClassFile.FieldType.array (Jvm.ClassFile.FieldType.object "java/lang/Object")))) ∈ mm_B := mm_inB (List.mem_append_right _ (List.mem_of_getElem? (l := tables_1) (i := 303) (by decide +kernel))) rfl
theorem tb_304 : (Jvm.Cond.methodLink "java/util/ArrayList" (69 : Nat) ({ cls := "java/util/ArrayList", name := "grow", desc := "(I)[Ljava/lang/Object;" } : Jvm.MethodName)) ∈ mm_B := mm_inB (List.mem_append_right _ (List.mem_of_getElem? (l := tables_1) (i := 304) (by decide +kernel))) rfl
theorem tb_306 : (Jvm.Cond.instanceMethod ({ cls := "java/util/ArrayList", name := "grow", desc := "(I)[Ljava/lang/Object;" } : Jvm.MethodName)) ∈ mm_B := mm_inB (List.mem_append_right _ (List.mem_of_getElem? (l := tables_1) (i := 306) (by decide +kernel))) rfl
theorem tb_307 : (Jvm.Cond.code ({ cls := "java/util/ArrayList", name := "grow", desc := "(I)[Ljava/lang/Object;" } : Jvm.MethodName) prog_17_method_6_code (4 : Nat) (Option.some (Jvm.ClassFile.FieldType.array (Jvm.ClassFile.FieldType.object "java/lang/Object")))) ∈ mm_B := mm_inB (List.mem_append_right _ (List.mem_of_getElem? (l := tables_1) (i := 307) (by decide +kernel))) rfl
theorem tb_308 : (Jvm.Cond.methodLink "java/util/ArrayList" (73 : Nat) ({ cls := "jdk/internal/util/ArraysSupport", name := "newLength", desc := "(III)I" } : Jvm.MethodName)) ∈ mm_B := mm_inB (List.mem_append_right _ (List.mem_of_getElem? (l := tables_1) (i := 308) (by decide +kernel))) rfl
theorem tb_309 : (Jvm.Cond.static ({ cls := "jdk/internal/util/ArraysSupport", name := "newLength", desc := "(III)I" } : Jvm.MethodName)) ∈ mm_B := mm_inB (List.mem_append_right _ (List.mem_of_getElem? (l := tables_1) (i := 309) (by decide +kernel))) rfl
theorem tb_310 : (Jvm.Cond.code ({ cls := "jdk/internal/util/ArraysSupport", name := "newLength", desc := "(III)I" } : Jvm.MethodName) prog_24_method_27_code (4 : Nat) (Option.some Jvm.ClassFile.FieldType.int)) ∈ mm_B := mm_inB (List.mem_append_right _ (List.mem_of_getElem? (l := tables_1) (i := 310) (by decide +kernel))) rfl
theorem tb_311 : (Jvm.Cond.methodLink "jdk/internal/util/ArraysSupport" (194 : Nat) ({ cls := "java/lang/Math", name := "max", desc := "(II)I" } : Jvm.MethodName)) ∈ mm_B := mm_inB (List.mem_append_right _ (List.mem_of_getElem? (l := tables_1) (i := 311) (by decide +kernel))) rfl
theorem tb_312 : (Jvm.Cond.constant "jdk/internal/util/ArraysSupport" (200 : Nat) (2147483639 : Int32)) ∈ mm_B := mm_inB (List.mem_append_right _ (List.mem_of_getElem? (l := tables_1) (i := 312) (by decide +kernel))) rfl
theorem tb_313 : (Jvm.Cond.methodLink "jdk/internal/util/ArraysSupport" (201 : Nat) ({ cls := "jdk/internal/util/ArraysSupport", name := "hugeLength", desc := "(II)I" } : Jvm.MethodName)) ∈ mm_B := mm_inB (List.mem_append_right _ (List.mem_of_getElem? (l := tables_1) (i := 313) (by decide +kernel))) rfl
theorem tb_314 : (Jvm.Cond.static ({ cls := "jdk/internal/util/ArraysSupport", name := "hugeLength", desc := "(II)I" } : Jvm.MethodName)) ∈ mm_B := mm_inB (List.mem_append_right _ (List.mem_of_getElem? (l := tables_1) (i := 314) (by decide +kernel))) rfl
theorem tb_315 : (Jvm.Cond.code ({ cls := "jdk/internal/util/ArraysSupport", name := "hugeLength", desc := "(II)I" } : Jvm.MethodName) prog_24_method_28_code (3 : Nat) (Option.some Jvm.ClassFile.FieldType.int)) ∈ mm_B := mm_inB (List.mem_append_right _ (List.mem_of_getElem? (l := tables_1) (i := 315) (by decide +kernel))) rfl
theorem tb_316 : (Jvm.Cond.methodLink "java/util/ArrayList" (66 : Nat) ({ cls := "java/util/Arrays", name := "copyOf", desc := "([Ljava/lang/Object;I)[Ljava/lang/Object;" } : Jvm.MethodName)) ∈ mm_B := mm_inB (List.mem_append_right _ (List.mem_of_getElem? (l := tables_1) (i := 316) (by decide +kernel))) rfl
theorem tb_317 : (Jvm.Cond.static ({ cls := "java/util/Arrays", name := "copyOf", desc := "([Ljava/lang/Object;I)[Ljava/lang/Object;" } : Jvm.MethodName)) ∈ mm_B := mm_inB (List.mem_append_right _ (List.mem_of_getElem? (l := tables_1) (i := 317) (by decide +kernel))) rfl
theorem tb_318 : (Jvm.Cond.code ({ cls := "java/util/Arrays", name := "copyOf", desc := "([Ljava/lang/Object;I)[Ljava/lang/Object;" } : Jvm.MethodName) prog_18_method_119_code (2 : Nat) (Option.some (Jvm.ClassFile.FieldType.array (Jvm.ClassFile.FieldType.object "java/lang/Object")))) ∈ mm_B := mm_inB (List.mem_append_right _ (List.mem_of_getElem? (l := tables_1) (i := 318) (by decide +kernel))) rfl
theorem tb_319 : (Jvm.Cond.methodLink "java/util/Arrays" (86 : Nat) ({ cls := "java/lang/Object", name := "getClass", desc := "()Ljava/lang/Class;" } : Jvm.MethodName)) ∈ mm_B := mm_inB (List.mem_append_right _ (List.mem_of_getElem? (l := tables_1) (i := 319) (by decide +kernel))) rfl
theorem tb_320 : (Jvm.Cond.instanceMethod ({ cls := "java/lang/Object", name := "getClass", desc := "()Ljava/lang/Class;" } : Jvm.MethodName)) ∈ mm_B := mm_inB (List.mem_append_right _ (List.mem_of_getElem? (l := tables_1) (i := 320) (by decide +kernel))) rfl
theorem tb_322 : (Jvm.Cond.selects "ProcessHeaps" ({ cls := "java/lang/Object", name := "getClass", desc := "()Ljava/lang/Class;" } : Jvm.MethodName) ({ cls := "java/lang/Object", name := "getClass", desc := "()Ljava/lang/Class;" } : Jvm.MethodName)) ∈ mm_B := mm_inB (List.mem_append_right _ (List.mem_of_getElem? (l := tables_1) (i := 322) (by decide +kernel))) rfl
theorem tb_323 : (Jvm.Cond.selects "ProcessHeaps$Collector" ({ cls := "java/lang/Object", name := "getClass", desc := "()Ljava/lang/Class;" } : Jvm.MethodName) ({ cls := "java/lang/Object", name := "getClass", desc := "()Ljava/lang/Class;" } : Jvm.MethodName)) ∈ mm_B := mm_inB (List.mem_append_right _ (List.mem_of_getElem? (l := tables_1) (i := 323) (by decide +kernel))) rfl
theorem tb_324 : (Jvm.Cond.selects "ProcessHeaps$HeapObject" ({ cls := "java/lang/Object", name := "getClass", desc := "()Ljava/lang/Class;" } : Jvm.MethodName) ({ cls := "java/lang/Object", name := "getClass", desc := "()Ljava/lang/Class;" } : Jvm.MethodName)) ∈ mm_B := mm_inB (List.mem_append_right _ (List.mem_of_getElem? (l := tables_1) (i := 324) (by decide +kernel))) rfl
theorem tb_325 : (Jvm.Cond.selects "ProcessHeaps$HeapProcess" ({ cls := "java/lang/Object", name := "getClass", desc := "()Ljava/lang/Class;" } : Jvm.MethodName) ({ cls := "java/lang/Object", name := "getClass", desc := "()Ljava/lang/Class;" } : Jvm.MethodName)) ∈ mm_B := mm_inB (List.mem_append_right _ (List.mem_of_getElem? (l := tables_1) (i := 325) (by decide +kernel))) rfl
theorem tb_326 : (Jvm.Cond.selects "ProcessHeaps$Limits" ({ cls := "java/lang/Object", name := "getClass", desc := "()Ljava/lang/Class;" } : Jvm.MethodName) ({ cls := "java/lang/Object", name := "getClass", desc := "()Ljava/lang/Class;" } : Jvm.MethodName)) ∈ mm_B := mm_inB (List.mem_append_right _ (List.mem_of_getElem? (l := tables_1) (i := 326) (by decide +kernel))) rfl
theorem tb_327 : (Jvm.Cond.selects "ProcessHeaps$Memory" ({ cls := "java/lang/Object", name := "getClass", desc := "()Ljava/lang/Class;" } : Jvm.MethodName) ({ cls := "java/lang/Object", name := "getClass", desc := "()Ljava/lang/Class;" } : Jvm.MethodName)) ∈ mm_B := mm_inB (List.mem_append_right _ (List.mem_of_getElem? (l := tables_1) (i := 327) (by decide +kernel))) rfl
theorem tb_328 : (Jvm.Cond.selects "ProcessHeaps$Page" ({ cls := "java/lang/Object", name := "getClass", desc := "()Ljava/lang/Class;" } : Jvm.MethodName) ({ cls := "java/lang/Object", name := "getClass", desc := "()Ljava/lang/Class;" } : Jvm.MethodName)) ∈ mm_B := mm_inB (List.mem_append_right _ (List.mem_of_getElem? (l := tables_1) (i := 328) (by decide +kernel))) rfl
theorem tb_329 : (Jvm.Cond.selects "ProcessHeapsModel" ({ cls := "java/lang/Object", name := "getClass", desc := "()Ljava/lang/Class;" } : Jvm.MethodName) ({ cls := "java/lang/Object", name := "getClass", desc := "()Ljava/lang/Class;" } : Jvm.MethodName)) ∈ mm_B := mm_inB (List.mem_append_right _ (List.mem_of_getElem? (l := tables_1) (i := 329) (by decide +kernel))) rfl
theorem tb_330 : (Jvm.Cond.selects "java/util/ArrayList" ({ cls := "java/lang/Object", name := "getClass", desc := "()Ljava/lang/Class;" } : Jvm.MethodName) ({ cls := "java/lang/Object", name := "getClass", desc := "()Ljava/lang/Class;" } : Jvm.MethodName)) ∈ mm_B := mm_inB (List.mem_append_right _ (List.mem_of_getElem? (l := tables_1) (i := 330) (by decide +kernel))) rfl
theorem tb_331 : (Jvm.Cond.native ({ cls := "java/lang/Object", name := "getClass", desc := "()Ljava/lang/Class;" } : Jvm.MethodName)) ∈ mm_B := mm_inB (List.mem_append_right _ (List.mem_of_getElem? (l := tables_1) (i := 331) (by decide +kernel))) rfl
theorem tb_332 : (Jvm.Cond.methodLink "java/util/Arrays" (300 : Nat) ({ cls := "java/util/Arrays", name := "copyOf", desc := "([Ljava/lang/Object;ILjava/lang/Class;)[Ljava/lang/Object;" } : Jvm.MethodName)) ∈ mm_B := mm_inB (List.mem_append_right _ (List.mem_of_getElem? (l := tables_1) (i := 332) (by decide +kernel))) rfl
theorem tb_333 : (Jvm.Cond.static ({ cls := "java/util/Arrays", name := "copyOf", desc := "([Ljava/lang/Object;ILjava/lang/Class;)[Ljava/lang/Object;" } : Jvm.MethodName)) ∈ mm_B := mm_inB (List.mem_append_right _ (List.mem_of_getElem? (l := tables_1) (i := 333) (by decide +kernel))) rfl
theorem tb_334 : (Jvm.Cond.code ({ cls := "java/util/Arrays", name := "copyOf", desc := "([Ljava/lang/Object;ILjava/lang/Class;)[Ljava/lang/Object;" } : Jvm.MethodName) prog_18_method_120_code (4 : Nat) (Option.some (Jvm.ClassFile.FieldType.array (Jvm.ClassFile.FieldType.object "java/lang/Object")))) ∈ mm_B := mm_inB (List.mem_append_right _ (List.mem_of_getElem? (l := tables_1) (i := 334) (by decide +kernel))) rfl
theorem tb_335 : (Jvm.Cond.classLink "java/util/Arrays" (110 : Nat) "[Ljava/lang/Object;") ∈ mm_B := mm_inB (List.mem_append_right _ (List.mem_of_getElem? (l := tables_1) (i := 335) (by decide +kernel))) rfl
theorem tn_336 : (Jvm.Cond.arrayOver (Jvm.ClassFile.FieldType.object "java/lang/Object")) ∈ lw_tbl.filter mm_isN := List.mem_filter.mpr ⟨List.mem_append_right _ (List.mem_of_getElem? (l := tables_1) (i := 336) (by decide +kernel)), rfl⟩
theorem tb_337 : (Jvm.Cond.classLink "java/util/Arrays" (2 : Nat) "java/lang/Object") ∈ mm_B := mm_inB (List.mem_append_right _ (List.mem_of_getElem? (l := tables_1) (i := 337) (by decide +kernel))) rfl
theorem tb_338 : (Jvm.Cond.methodLink "java/util/Arrays" (304 : Nat) ({ cls := "java/lang/Math", name := "min", desc := "(II)I" } : Jvm.MethodName)) ∈ mm_B := mm_inB (List.mem_append_right _ (List.mem_of_getElem? (l := tables_1) (i := 338) (by decide +kernel))) rfl
theorem tb_339 : (Jvm.Cond.methodLink "java/util/Arrays" (150 : Nat) ({ cls := "java/lang/System", name := "arraycopy", desc := "(Ljava/lang/Object;ILjava/lang/Object;II)V" } : Jvm.MethodName)) ∈ mm_B := mm_inB (List.mem_append_right _ (List.mem_of_getElem? (l := tables_1) (i := 339) (by decide +kernel))) rfl
theorem tb_340 : (Jvm.Cond.methodLink "java/util/ArrayList" (79 : Nat) ({ cls := "java/lang/Math", name := "max", desc := "(II)I" } : Jvm.MethodName)) ∈ mm_B := mm_inB (List.mem_append_right _ (List.mem_of_getElem? (l := tables_1) (i := 340) (by decide +kernel))) rfl
theorem tb_341 : (Jvm.Cond.classLink "java/util/ArrayList" (7 : Nat) "java/lang/Object") ∈ mm_B := mm_inB (List.mem_append_right _ (List.mem_of_getElem? (l := tables_1) (i := 341) (by decide +kernel))) rfl
theorem tb_342 : (Jvm.Cond.methodLink "ProcessHeaps" (214 : Nat) ({ cls := "ProcessHeaps$Memory", name := "handItemsToKernel", desc := "(I)V" } : Jvm.MethodName)) ∈ mm_B := mm_inB (List.mem_append_right _ (List.mem_of_getElem? (l := tables_1) (i := 342) (by decide +kernel))) rfl
theorem tb_343 : (Jvm.Cond.instanceMethod ({ cls := "ProcessHeaps$Memory", name := "handItemsToKernel", desc := "(I)V" } : Jvm.MethodName)) ∈ mm_B := mm_inB (List.mem_append_right _ (List.mem_of_getElem? (l := tables_1) (i := 343) (by decide +kernel))) rfl
theorem tb_344 : (Jvm.Cond.selects "ProcessHeaps$Memory" ({ cls := "ProcessHeaps$Memory", name := "handItemsToKernel", desc := "(I)V" } : Jvm.MethodName) ({ cls := "ProcessHeaps$Memory", name := "handItemsToKernel", desc := "(I)V" } : Jvm.MethodName)) ∈ mm_B := mm_inB (List.mem_append_right _ (List.mem_of_getElem? (l := tables_1) (i := 344) (by decide +kernel))) rfl
theorem tb_345 : (Jvm.Cond.code ({ cls := "ProcessHeaps$Memory", name := "handItemsToKernel", desc := "(I)V" } : Jvm.MethodName) prog_6_method_14_code (4 : Nat) (Option.none : Option Jvm.ClassFile.FieldType)) ∈ mm_B := mm_inB (List.mem_append_right _ (List.mem_of_getElem? (l := tables_1) (i := 345) (by decide +kernel))) rfl
theorem tb_346 : (Jvm.Cond.methodLink "ProcessHeaps$Memory" (84 : Nat) ({ cls := "ProcessHeaps$HeapObject", name := "dropItem", desc := "(I)V" } : Jvm.MethodName)) ∈ mm_B := mm_inB (List.mem_append_right _ (List.mem_of_getElem? (l := tables_1) (i := 346) (by decide +kernel))) rfl
theorem tb_347 : (Jvm.Cond.instanceMethod ({ cls := "ProcessHeaps$HeapObject", name := "dropItem", desc := "(I)V" } : Jvm.MethodName)) ∈ mm_B := mm_inB (List.mem_append_right _ (List.mem_of_getElem? (l := tables_1) (i := 347) (by decide +kernel))) rfl
theorem tb_348 : (Jvm.Cond.selects "ProcessHeaps$HeapObject" ({ cls := "ProcessHeaps$HeapObject", name := "dropItem", desc := "(I)V" } : Jvm.MethodName) ({ cls := "ProcessHeaps$HeapObject", name := "dropItem", desc := "(I)V" } : Jvm.MethodName)) ∈ mm_B := mm_inB (List.mem_append_right _ (List.mem_of_getElem? (l := tables_1) (i := 348) (by decide +kernel))) rfl
theorem tb_349 : (Jvm.Cond.code ({ cls := "ProcessHeaps$HeapObject", name := "dropItem", desc := "(I)V" } : Jvm.MethodName) prog_3_method_9_code (2 : Nat) (Option.none : Option Jvm.ClassFile.FieldType)) ∈ mm_B := mm_inB (List.mem_append_right _ (List.mem_of_getElem? (l := tables_1) (i := 349) (by decide +kernel))) rfl
theorem tb_350 : (Jvm.Cond.methodLink "ProcessHeaps$Memory" (88 : Nat) ({ cls := "ProcessHeaps$HeapObject", name := "addItem", desc := "(I)V" } : Jvm.MethodName)) ∈ mm_B := mm_inB (List.mem_append_right _ (List.mem_of_getElem? (l := tables_1) (i := 350) (by decide +kernel))) rfl
theorem tb_351 : (Jvm.Cond.instanceMethod ({ cls := "ProcessHeaps$HeapObject", name := "addItem", desc := "(I)V" } : Jvm.MethodName)) ∈ mm_B := mm_inB (List.mem_append_right _ (List.mem_of_getElem? (l := tables_1) (i := 351) (by decide +kernel))) rfl
theorem tb_352 : (Jvm.Cond.selects "ProcessHeaps$HeapObject" ({ cls := "ProcessHeaps$HeapObject", name := "addItem", desc := "(I)V" } : Jvm.MethodName) ({ cls := "ProcessHeaps$HeapObject", name := "addItem", desc := "(I)V" } : Jvm.MethodName)) ∈ mm_B := mm_inB (List.mem_append_right _ (List.mem_of_getElem? (l := tables_1) (i := 352) (by decide +kernel))) rfl
theorem tb_353 : (Jvm.Cond.code ({ cls := "ProcessHeaps$HeapObject", name := "addItem", desc := "(I)V" } : Jvm.MethodName) prog_3_method_8_code (2 : Nat) (Option.none : Option Jvm.ClassFile.FieldType)) ∈ mm_B := mm_inB (List.mem_append_right _ (List.mem_of_getElem? (l := tables_1) (i := 353) (by decide +kernel))) rfl
theorem tb_354 : (Jvm.Cond.methodLink "ProcessHeaps" (208 : Nat) ({ cls := "ProcessHeaps", name := "dropGoneHeaps", desc := "()V" } : Jvm.MethodName)) ∈ mm_B := mm_inB (List.mem_append_right _ (List.mem_of_getElem? (l := tables_1) (i := 354) (by decide +kernel))) rfl
theorem tb_356 : (Jvm.Cond.instanceMethod ({ cls := "ProcessHeaps", name := "dropGoneHeaps", desc := "()V" } : Jvm.MethodName)) ∈ mm_B := mm_inB (List.mem_append_right _ (List.mem_of_getElem? (l := tables_1) (i := 356) (by decide +kernel))) rfl
theorem tb_357 : (Jvm.Cond.code ({ cls := "ProcessHeaps", name := "dropGoneHeaps", desc := "()V" } : Jvm.MethodName) prog_1_method_38_code (2 : Nat) (Option.none : Option Jvm.ClassFile.FieldType)) ∈ mm_B := mm_inB (List.mem_append_right _ (List.mem_of_getElem? (l := tables_1) (i := 357) (by decide +kernel))) rfl
theorem tb_358 : (Jvm.Cond.methodLink "ProcessHeaps" (143 : Nat) ({ cls := "ProcessHeaps", name := "isFrozen", desc := "(I)Z" } : Jvm.MethodName)) ∈ mm_B := mm_inB (List.mem_append_right _ (List.mem_of_getElem? (l := tables_1) (i := 358) (by decide +kernel))) rfl
theorem tb_360 : (Jvm.Cond.instanceMethod ({ cls := "ProcessHeaps", name := "isFrozen", desc := "(I)Z" } : Jvm.MethodName)) ∈ mm_B := mm_inB (List.mem_append_right _ (List.mem_of_getElem? (l := tables_1) (i := 360) (by decide +kernel))) rfl
theorem tb_361 : (Jvm.Cond.code ({ cls := "ProcessHeaps", name := "isFrozen", desc := "(I)Z" } : Jvm.MethodName) prog_1_method_25_code (2 : Nat) (Option.some Jvm.ClassFile.FieldType.boolean)) ∈ mm_B := mm_inB (List.mem_append_right _ (List.mem_of_getElem? (l := tables_1) (i := 361) (by decide +kernel))) rfl
theorem tb_362 : (Jvm.Cond.methodLink "ProcessHeaps" (158 : Nat) ({ cls := "ProcessHeaps", name := "isHeap", desc := "(I)Z" } : Jvm.MethodName)) ∈ mm_B := mm_inB (List.mem_append_right _ (List.mem_of_getElem? (l := tables_1) (i := 362) (by decide +kernel))) rfl
theorem tb_363 : (Jvm.Cond.static ({ cls := "ProcessHeaps", name := "isHeap", desc := "(I)Z" } : Jvm.MethodName)) ∈ mm_B := mm_inB (List.mem_append_right _ (List.mem_of_getElem? (l := tables_1) (i := 363) (by decide +kernel))) rfl
theorem tb_364 : (Jvm.Cond.code ({ cls := "ProcessHeaps", name := "isHeap", desc := "(I)Z" } : Jvm.MethodName) prog_1_method_24_code (1 : Nat) (Option.some Jvm.ClassFile.FieldType.boolean)) ∈ mm_B := mm_inB (List.mem_append_right _ (List.mem_of_getElem? (l := tables_1) (i := 364) (by decide +kernel))) rfl
theorem tb_365 : (Jvm.Cond.methodLink "ProcessHeaps" (229 : Nat) ({ cls := "ProcessHeaps", name := "isSharedByLiving", desc := "(I)Z" } : Jvm.MethodName)) ∈ mm_B := mm_inB (List.mem_append_right _ (List.mem_of_getElem? (l := tables_1) (i := 365) (by decide +kernel))) rfl
theorem tb_367 : (Jvm.Cond.instanceMethod ({ cls := "ProcessHeaps", name := "isSharedByLiving", desc := "(I)Z" } : Jvm.MethodName)) ∈ mm_B := mm_inB (List.mem_append_right _ (List.mem_of_getElem? (l := tables_1) (i := 367) (by decide +kernel))) rfl
theorem tb_368 : (Jvm.Cond.code ({ cls := "ProcessHeaps", name := "isSharedByLiving", desc := "(I)Z" } : Jvm.MethodName) prog_1_method_39_code (3 : Nat) (Option.some Jvm.ClassFile.FieldType.boolean)) ∈ mm_B := mm_inB (List.mem_append_right _ (List.mem_of_getElem? (l := tables_1) (i := 368) (by decide +kernel))) rfl
theorem tb_369 : (Jvm.Cond.methodLink "ProcessHeaps" (146 : Nat) ({ cls := "ProcessHeaps$HeapProcess", name := "isCharged", desc := "(I)Z" } : Jvm.MethodName)) ∈ mm_B := mm_inB (List.mem_append_right _ (List.mem_of_getElem? (l := tables_1) (i := 369) (by decide +kernel))) rfl
theorem tb_370 : (Jvm.Cond.methodLink "ProcessHeaps" (232 : Nat) ({ cls := "ProcessHeaps$Memory", name := "freeUnreached", desc := "(I)I" } : Jvm.MethodName)) ∈ mm_B := mm_inB (List.mem_append_right _ (List.mem_of_getElem? (l := tables_1) (i := 370) (by decide +kernel))) rfl
theorem tb_371 : (Jvm.Cond.instanceMethod ({ cls := "ProcessHeaps$Memory", name := "freeUnreached", desc := "(I)I" } : Jvm.MethodName)) ∈ mm_B := mm_inB (List.mem_append_right _ (List.mem_of_getElem? (l := tables_1) (i := 371) (by decide +kernel))) rfl
theorem tb_372 : (Jvm.Cond.selects "ProcessHeaps$Memory" ({ cls := "ProcessHeaps$Memory", name := "freeUnreached", desc := "(I)I" } : Jvm.MethodName) ({ cls := "ProcessHeaps$Memory", name := "freeUnreached", desc := "(I)I" } : Jvm.MethodName)) ∈ mm_B := mm_inB (List.mem_append_right _ (List.mem_of_getElem? (l := tables_1) (i := 372) (by decide +kernel))) rfl
theorem tb_373 : (Jvm.Cond.code ({ cls := "ProcessHeaps$Memory", name := "freeUnreached", desc := "(I)I" } : Jvm.MethodName) prog_6_method_10_code (5 : Nat) (Option.some Jvm.ClassFile.FieldType.int)) ∈ mm_B := mm_inB (List.mem_append_right _ (List.mem_of_getElem? (l := tables_1) (i := 373) (by decide +kernel))) rfl
theorem tb_374 : (Jvm.Cond.methodLink "ProcessHeaps$Memory" (81 : Nat) ({ cls := "ProcessHeaps$Memory", name := "giveBackEmptyPages", desc := "()V" } : Jvm.MethodName)) ∈ mm_B := mm_inB (List.mem_append_right _ (List.mem_of_getElem? (l := tables_1) (i := 374) (by decide +kernel))) rfl
theorem tb_376 : (Jvm.Cond.instanceMethod ({ cls := "ProcessHeaps$Memory", name := "giveBackEmptyPages", desc := "()V" } : Jvm.MethodName)) ∈ mm_B := mm_inB (List.mem_append_right _ (List.mem_of_getElem? (l := tables_1) (i := 376) (by decide +kernel))) rfl
theorem tb_377 : (Jvm.Cond.code ({ cls := "ProcessHeaps$Memory", name := "giveBackEmptyPages", desc := "()V" } : Jvm.MethodName) prog_6_method_11_code (2 : Nat) (Option.none : Option Jvm.ClassFile.FieldType)) ∈ mm_B := mm_inB (List.mem_append_right _ (List.mem_of_getElem? (l := tables_1) (i := 377) (by decide +kernel))) rfl
theorem tb_378 : (Jvm.Cond.methodLink "ProcessHeaps" (226 : Nat) ({ cls := "ProcessHeaps", name := "endPaymentOfDead", desc := "(I)V" } : Jvm.MethodName)) ∈ mm_B := mm_inB (List.mem_append_right _ (List.mem_of_getElem? (l := tables_1) (i := 378) (by decide +kernel))) rfl
theorem tb_380 : (Jvm.Cond.instanceMethod ({ cls := "ProcessHeaps", name := "endPaymentOfDead", desc := "(I)V" } : Jvm.MethodName)) ∈ mm_B := mm_inB (List.mem_append_right _ (List.mem_of_getElem? (l := tables_1) (i := 380) (by decide +kernel))) rfl
theorem tb_381 : (Jvm.Cond.code ({ cls := "ProcessHeaps", name := "endPaymentOfDead", desc := "(I)V" } : Jvm.MethodName) prog_1_method_37_code (3 : Nat) (Option.none : Option Jvm.ClassFile.FieldType)) ∈ mm_B := mm_inB (List.mem_append_right _ (List.mem_of_getElem? (l := tables_1) (i := 381) (by decide +kernel))) rfl
theorem tb_382 : (Jvm.Cond.methodLink "ProcessHeapsLaw" (31 : Nat) ({ cls := "ProcessHeaps", name := "mode", desc := "(IZ)Z" } : Jvm.MethodName)) ∈ mm_B := mm_inB (List.mem_append_right _ (List.mem_of_getElem? (l := tables_1) (i := 382) (by decide +kernel))) rfl
theorem tb_383 : (Jvm.Cond.instanceMethod ({ cls := "ProcessHeaps", name := "mode", desc := "(IZ)Z" } : Jvm.MethodName)) ∈ mm_B := mm_inB (List.mem_append_right _ (List.mem_of_getElem? (l := tables_1) (i := 383) (by decide +kernel))) rfl
theorem tb_384 : (Jvm.Cond.selects "ProcessHeaps" ({ cls := "ProcessHeaps", name := "mode", desc := "(IZ)Z" } : Jvm.MethodName) ({ cls := "ProcessHeaps", name := "mode", desc := "(IZ)Z" } : Jvm.MethodName)) ∈ mm_B := mm_inB (List.mem_append_right _ (List.mem_of_getElem? (l := tables_1) (i := 384) (by decide +kernel))) rfl
theorem tb_385 : (Jvm.Cond.code ({ cls := "ProcessHeaps", name := "mode", desc := "(IZ)Z" } : Jvm.MethodName) prog_1_method_4_code (4 : Nat) (Option.some Jvm.ClassFile.FieldType.boolean)) ∈ mm_B := mm_inB (List.mem_append_right _ (List.mem_of_getElem? (l := tables_1) (i := 385) (by decide +kernel))) rfl
theorem tb_386 : (Jvm.Cond.methodLink "ProcessHeapsLaw" (36 : Nat) ({ cls := "ProcessHeaps", name := "make", desc := "(IIII)I" } : Jvm.MethodName)) ∈ mm_B := mm_inB (List.mem_append_right _ (List.mem_of_getElem? (l := tables_1) (i := 386) (by decide +kernel))) rfl
theorem tb_387 : (Jvm.Cond.instanceMethod ({ cls := "ProcessHeaps", name := "make", desc := "(IIII)I" } : Jvm.MethodName)) ∈ mm_B := mm_inB (List.mem_append_right _ (List.mem_of_getElem? (l := tables_1) (i := 387) (by decide +kernel))) rfl
theorem tb_388 : (Jvm.Cond.selects "ProcessHeaps" ({ cls := "ProcessHeaps", name := "make", desc := "(IIII)I" } : Jvm.MethodName) ({ cls := "ProcessHeaps", name := "make", desc := "(IIII)I" } : Jvm.MethodName)) ∈ mm_B := mm_inB (List.mem_append_right _ (List.mem_of_getElem? (l := tables_1) (i := 388) (by decide +kernel))) rfl
theorem tb_389 : (Jvm.Cond.code ({ cls := "ProcessHeaps", name := "make", desc := "(IIII)I" } : Jvm.MethodName) prog_1_method_5_code (7 : Nat) (Option.some Jvm.ClassFile.FieldType.int)) ∈ mm_B := mm_inB (List.mem_append_right _ (List.mem_of_getElem? (l := tables_1) (i := 389) (by decide +kernel))) rfl
theorem tb_390 : (Jvm.Cond.methodLink "ProcessHeaps" (80 : Nat) ({ cls := "ProcessHeaps", name := "isRegister", desc := "(I)Z" } : Jvm.MethodName)) ∈ mm_B := mm_inB (List.mem_append_right _ (List.mem_of_getElem? (l := tables_1) (i := 390) (by decide +kernel))) rfl
theorem tb_391 : (Jvm.Cond.static ({ cls := "ProcessHeaps", name := "isRegister", desc := "(I)Z" } : Jvm.MethodName)) ∈ mm_B := mm_inB (List.mem_append_right _ (List.mem_of_getElem? (l := tables_1) (i := 391) (by decide +kernel))) rfl
theorem tb_392 : (Jvm.Cond.code ({ cls := "ProcessHeaps", name := "isRegister", desc := "(I)Z" } : Jvm.MethodName) prog_1_method_22_code (1 : Nat) (Option.some Jvm.ClassFile.FieldType.boolean)) ∈ mm_B := mm_inB (List.mem_append_right _ (List.mem_of_getElem? (l := tables_1) (i := 392) (by decide +kernel))) rfl
theorem tb_393 : (Jvm.Cond.methodLink "ProcessHeaps" (88 : Nat) ({ cls := "java/util/ArrayList", name := "size", desc := "()I" } : Jvm.MethodName)) ∈ mm_B := mm_inB (List.mem_append_right _ (List.mem_of_getElem? (l := tables_1) (i := 393) (by decide +kernel))) rfl
theorem tb_394 : (Jvm.Cond.methodLink "ProcessHeaps" (94 : Nat) ({ cls := "ProcessHeaps", name := "pageForMaking", desc := "(LProcessHeaps$HeapProcess;I)LProcessHeaps$Page;" } : Jvm.MethodName)) ∈ mm_B := mm_inB (List.mem_append_right _ (List.mem_of_getElem? (l := tables_1) (i := 394) (by decide +kernel))) rfl
theorem tb_396 : (Jvm.Cond.instanceMethod ({ cls := "ProcessHeaps", name := "pageForMaking", desc := "(LProcessHeaps$HeapProcess;I)LProcessHeaps$Page;" } : Jvm.MethodName)) ∈ mm_B := mm_inB (List.mem_append_right _ (List.mem_of_getElem? (l := tables_1) (i := 396) (by decide +kernel))) rfl
theorem tb_397 : (Jvm.Cond.code ({ cls := "ProcessHeaps", name := "pageForMaking", desc := "(LProcessHeaps$HeapProcess;I)LProcessHeaps$Page;" } : Jvm.MethodName) prog_1_method_29_code (6 : Nat) (Option.some (Jvm.ClassFile.FieldType.object "ProcessHeaps$Page"))) ∈ mm_B := mm_inB (List.mem_append_right _ (List.mem_of_getElem? (l := tables_1) (i := 397) (by decide +kernel))) rfl
theorem tb_398 : (Jvm.Cond.methodLink "ProcessHeaps" (185 : Nat) ({ cls := "ProcessHeaps$HeapProcess", name := "heapForMaking", desc := "()I" } : Jvm.MethodName)) ∈ mm_B := mm_inB (List.mem_append_right _ (List.mem_of_getElem? (l := tables_1) (i := 398) (by decide +kernel))) rfl
theorem tb_399 : (Jvm.Cond.instanceMethod ({ cls := "ProcessHeaps$HeapProcess", name := "heapForMaking", desc := "()I" } : Jvm.MethodName)) ∈ mm_B := mm_inB (List.mem_append_right _ (List.mem_of_getElem? (l := tables_1) (i := 399) (by decide +kernel))) rfl
theorem tb_400 : (Jvm.Cond.selects "ProcessHeaps$HeapProcess" ({ cls := "ProcessHeaps$HeapProcess", name := "heapForMaking", desc := "()I" } : Jvm.MethodName) ({ cls := "ProcessHeaps$HeapProcess", name := "heapForMaking", desc := "()I" } : Jvm.MethodName)) ∈ mm_B := mm_inB (List.mem_append_right _ (List.mem_of_getElem? (l := tables_1) (i := 400) (by decide +kernel))) rfl
theorem tb_401 : (Jvm.Cond.code ({ cls := "ProcessHeaps$HeapProcess", name := "heapForMaking", desc := "()I" } : Jvm.MethodName) prog_4_method_7_code (1 : Nat) (Option.some Jvm.ClassFile.FieldType.int)) ∈ mm_B := mm_inB (List.mem_append_right _ (List.mem_of_getElem? (l := tables_1) (i := 401) (by decide +kernel))) rfl
theorem tb_402 : (Jvm.Cond.methodLink "ProcessHeaps$HeapProcess" (40 : Nat) ({ cls := "ProcessHeaps$HeapProcess", name := "isInKernelMode", desc := "()Z" } : Jvm.MethodName)) ∈ mm_B := mm_inB (List.mem_append_right _ (List.mem_of_getElem? (l := tables_1) (i := 402) (by decide +kernel))) rfl
theorem tb_403 : (Jvm.Cond.methodLink "ProcessHeaps" (188 : Nat) ({ cls := "ProcessHeaps$Memory", name := "findPage", desc := "(II)LProcessHeaps$Page;" } : Jvm.MethodName)) ∈ mm_B := mm_inB (List.mem_append_right _ (List.mem_of_getElem? (l := tables_1) (i := 403) (by decide +kernel))) rfl
theorem tb_404 : (Jvm.Cond.instanceMethod ({ cls := "ProcessHeaps$Memory", name := "findPage", desc := "(II)LProcessHeaps$Page;" } : Jvm.MethodName)) ∈ mm_B := mm_inB (List.mem_append_right _ (List.mem_of_getElem? (l := tables_1) (i := 404) (by decide +kernel))) rfl
theorem tb_405 : (Jvm.Cond.selects "ProcessHeaps$Memory" ({ cls := "ProcessHeaps$Memory", name := "findPage", desc := "(II)LProcessHeaps$Page;" } : Jvm.MethodName) ({ cls := "ProcessHeaps$Memory", name := "findPage", desc := "(II)LProcessHeaps$Page;" } : Jvm.MethodName)) ∈ mm_B := mm_inB (List.mem_append_right _ (List.mem_of_getElem? (l := tables_1) (i := 405) (by decide +kernel))) rfl
theorem tb_406 : (Jvm.Cond.code ({ cls := "ProcessHeaps$Memory", name := "findPage", desc := "(II)LProcessHeaps$Page;" } : Jvm.MethodName) prog_6_method_7_code (5 : Nat) (Option.some (Jvm.ClassFile.FieldType.object "ProcessHeaps$Page"))) ∈ mm_B := mm_inB (List.mem_append_right _ (List.mem_of_getElem? (l := tables_1) (i := 406) (by decide +kernel))) rfl
theorem tb_407 : (Jvm.Cond.methodLink "ProcessHeaps" (195 : Nat) ({ cls := "ProcessHeaps$Memory", name := "addPage", desc := "(II)LProcessHeaps$Page;" } : Jvm.MethodName)) ∈ mm_B := mm_inB (List.mem_append_right _ (List.mem_of_getElem? (l := tables_1) (i := 407) (by decide +kernel))) rfl
theorem tb_408 : (Jvm.Cond.instanceMethod ({ cls := "ProcessHeaps$Memory", name := "addPage", desc := "(II)LProcessHeaps$Page;" } : Jvm.MethodName)) ∈ mm_B := mm_inB (List.mem_append_right _ (List.mem_of_getElem? (l := tables_1) (i := 408) (by decide +kernel))) rfl
theorem tb_409 : (Jvm.Cond.selects "ProcessHeaps$Memory" ({ cls := "ProcessHeaps$Memory", name := "addPage", desc := "(II)LProcessHeaps$Page;" } : Jvm.MethodName) ({ cls := "ProcessHeaps$Memory", name := "addPage", desc := "(II)LProcessHeaps$Page;" } : Jvm.MethodName)) ∈ mm_B := mm_inB (List.mem_append_right _ (List.mem_of_getElem? (l := tables_1) (i := 409) (by decide +kernel))) rfl
theorem tb_410 : (Jvm.Cond.code ({ cls := "ProcessHeaps$Memory", name := "addPage", desc := "(II)LProcessHeaps$Page;" } : Jvm.MethodName) prog_6_method_8_code (4 : Nat) (Option.some (Jvm.ClassFile.FieldType.object "ProcessHeaps$Page"))) ∈ mm_B := mm_inB (List.mem_append_right _ (List.mem_of_getElem? (l := tables_1) (i := 410) (by decide +kernel))) rfl
theorem tb_411 : (Jvm.Cond.instantiable "ProcessHeaps$Page" (3 : Nat)) ∈ mm_B := mm_inB (List.mem_append_right _ (List.mem_of_getElem? (l := tables_1) (i := 411) (by decide +kernel))) rfl
theorem tb_412 : (Jvm.Cond.methodLink "ProcessHeaps$Memory" (58 : Nat) ({ cls := "ProcessHeaps$Page", name := "<init>", desc := "(II)V" } : Jvm.MethodName)) ∈ mm_B := mm_inB (List.mem_append_right _ (List.mem_of_getElem? (l := tables_1) (i := 412) (by decide +kernel))) rfl
theorem tb_413 : (Jvm.Cond.instanceMethod ({ cls := "ProcessHeaps$Page", name := "<init>", desc := "(II)V" } : Jvm.MethodName)) ∈ mm_B := mm_inB (List.mem_append_right _ (List.mem_of_getElem? (l := tables_1) (i := 413) (by decide +kernel))) rfl
theorem tb_414 : (Jvm.Cond.code ({ cls := "ProcessHeaps$Page", name := "<init>", desc := "(II)V" } : Jvm.MethodName) prog_7_method_1_code (3 : Nat) (Option.none : Option Jvm.ClassFile.FieldType)) ∈ mm_B := mm_inB (List.mem_append_right _ (List.mem_of_getElem? (l := tables_1) (i := 414) (by decide +kernel))) rfl
theorem tb_415 : (Jvm.Cond.methodLink "ProcessHeaps$Page" (3 : Nat) ({ cls := "java/lang/Object", name := "<init>", desc := "()V" } : Jvm.MethodName)) ∈ mm_B := mm_inB (List.mem_append_right _ (List.mem_of_getElem? (l := tables_1) (i := 415) (by decide +kernel))) rfl
theorem tb_416 : (Jvm.Cond.fieldLink "ProcessHeaps$Page" (15 : Nat) "ProcessHeaps$Page" "heap" "I") ∈ mm_B := mm_inB (List.mem_append_right _ (List.mem_of_getElem? (l := tables_1) (i := 416) (by decide +kernel))) rfl
theorem tb_417 : (Jvm.Cond.fieldLink "ProcessHeaps$HeapObject" (33 : Nat) "ProcessHeaps$Page" "heap" "I") ∈ mm_B := mm_inB (List.mem_append_right _ (List.mem_of_getElem? (l := tables_1) (i := 417) (by decide +kernel))) rfl
theorem tb_418 : (Jvm.Cond.fieldLink "ProcessHeaps$Memory" (31 : Nat) "ProcessHeaps$Page" "heap" "I") ∈ mm_B := mm_inB (List.mem_append_right _ (List.mem_of_getElem? (l := tables_1) (i := 418) (by decide +kernel))) rfl
theorem tb_419 : (Jvm.Cond.fieldLink "ProcessHeaps$Page" (18 : Nat) "ProcessHeaps$Page" "payer" "I") ∈ mm_B := mm_inB (List.mem_append_right _ (List.mem_of_getElem? (l := tables_1) (i := 419) (by decide +kernel))) rfl
theorem tb_420 : (Jvm.Cond.fieldLink "ProcessHeaps$Memory" (35 : Nat) "ProcessHeaps$Page" "payer" "I") ∈ mm_B := mm_inB (List.mem_append_right _ (List.mem_of_getElem? (l := tables_1) (i := 420) (by decide +kernel))) rfl
theorem tb_421 : (Jvm.Cond.fieldLink "ProcessHeaps$Page" (9 : Nat) "ProcessHeaps$Page" "freeCells" "I") ∈ mm_B := mm_inB (List.mem_append_right _ (List.mem_of_getElem? (l := tables_1) (i := 421) (by decide +kernel))) rfl
theorem tb_422 : (Jvm.Cond.fieldLink "ProcessHeaps$Memory" (55 : Nat) "ProcessHeaps$Page" "freeCells" "I") ∈ mm_B := mm_inB (List.mem_append_right _ (List.mem_of_getElem? (l := tables_1) (i := 422) (by decide +kernel))) rfl
theorem tb_423 : (Jvm.Cond.lays "ProcessHeaps$Page" "ProcessHeaps$Page" "heap" "I") ∈ mm_B := mm_inB (List.mem_append_right _ (List.mem_of_getElem? (l := tables_1) (i := 423) (by decide +kernel))) rfl
theorem tb_425 : (Jvm.Cond.lays "ProcessHeaps$Page" "ProcessHeaps$Page" "payer" "I") ∈ mm_B := mm_inB (List.mem_append_right _ (List.mem_of_getElem? (l := tables_1) (i := 425) (by decide +kernel))) rfl
theorem tb_427 : (Jvm.Cond.lays "ProcessHeaps$Page" "ProcessHeaps$Page" "freeCells" "I") ∈ mm_B := mm_inB (List.mem_append_right _ (List.mem_of_getElem? (l := tables_1) (i := 427) (by decide +kernel))) rfl
theorem tb_430 : (Jvm.Cond.methodLink "ProcessHeaps" (98 : Nat) ({ cls := "ProcessHeaps", name := "collectHeap", desc := "(I)I" } : Jvm.MethodName)) ∈ mm_B := mm_inB (List.mem_append_right _ (List.mem_of_getElem? (l := tables_1) (i := 430) (by decide +kernel))) rfl
theorem tb_432 : (Jvm.Cond.instanceMethod ({ cls := "ProcessHeaps", name := "collectHeap", desc := "(I)I" } : Jvm.MethodName)) ∈ mm_B := mm_inB (List.mem_append_right _ (List.mem_of_getElem? (l := tables_1) (i := 432) (by decide +kernel))) rfl
theorem tb_433 : (Jvm.Cond.code ({ cls := "ProcessHeaps", name := "collectHeap", desc := "(I)I" } : Jvm.MethodName) prog_1_method_33_code (3 : Nat) (Option.some Jvm.ClassFile.FieldType.int)) ∈ mm_B := mm_inB (List.mem_append_right _ (List.mem_of_getElem? (l := tables_1) (i := 433) (by decide +kernel))) rfl
theorem tb_434 : (Jvm.Cond.methodLink "ProcessHeaps" (198 : Nat) ({ cls := "ProcessHeaps$Collector", name := "run", desc := "(ILProcessHeaps$Memory;[LProcessHeaps$HeapProcess;)I" } : Jvm.MethodName)) ∈ mm_B := mm_inB (List.mem_append_right _ (List.mem_of_getElem? (l := tables_1) (i := 434) (by decide +kernel))) rfl
theorem tb_435 : (Jvm.Cond.instanceMethod ({ cls := "ProcessHeaps$Collector", name := "run", desc := "(ILProcessHeaps$Memory;[LProcessHeaps$HeapProcess;)I" } : Jvm.MethodName)) ∈ mm_B := mm_inB (List.mem_append_right _ (List.mem_of_getElem? (l := tables_1) (i := 435) (by decide +kernel))) rfl
theorem tb_436 : (Jvm.Cond.selects "ProcessHeaps$Collector" ({ cls := "ProcessHeaps$Collector", name := "run", desc := "(ILProcessHeaps$Memory;[LProcessHeaps$HeapProcess;)I" } : Jvm.MethodName) ({ cls := "ProcessHeaps$Collector", name := "run", desc := "(ILProcessHeaps$Memory;[LProcessHeaps$HeapProcess;)I" } : Jvm.MethodName)) ∈ mm_B := mm_inB (List.mem_append_right _ (List.mem_of_getElem? (l := tables_1) (i := 436) (by decide +kernel))) rfl
theorem tb_437 : (Jvm.Cond.code ({ cls := "ProcessHeaps$Collector", name := "run", desc := "(ILProcessHeaps$Memory;[LProcessHeaps$HeapProcess;)I" } : Jvm.MethodName) prog_2_method_2_code (5 : Nat) (Option.some Jvm.ClassFile.FieldType.int)) ∈ mm_B := mm_inB (List.mem_append_right _ (List.mem_of_getElem? (l := tables_1) (i := 437) (by decide +kernel))) rfl
theorem tb_438 : (Jvm.Cond.methodLink "ProcessHeaps$Collector" (21 : Nat) ({ cls := "ProcessHeaps$Collector", name := "reachHeld", desc := "(I[LProcessHeaps$HeapProcess;)V" } : Jvm.MethodName)) ∈ mm_B := mm_inB (List.mem_append_right _ (List.mem_of_getElem? (l := tables_1) (i := 438) (by decide +kernel))) rfl
theorem tb_440 : (Jvm.Cond.instanceMethod ({ cls := "ProcessHeaps$Collector", name := "reachHeld", desc := "(I[LProcessHeaps$HeapProcess;)V" } : Jvm.MethodName)) ∈ mm_B := mm_inB (List.mem_append_right _ (List.mem_of_getElem? (l := tables_1) (i := 440) (by decide +kernel))) rfl
theorem tb_441 : (Jvm.Cond.code ({ cls := "ProcessHeaps$Collector", name := "reachHeld", desc := "(I[LProcessHeaps$HeapProcess;)V" } : Jvm.MethodName) prog_2_method_3_code (5 : Nat) (Option.none : Option Jvm.ClassFile.FieldType)) ∈ mm_B := mm_inB (List.mem_append_right _ (List.mem_of_getElem? (l := tables_1) (i := 441) (by decide +kernel))) rfl
theorem tb_442 : (Jvm.Cond.methodLink "ProcessHeaps$Collector" (47 : Nat) ({ cls := "ProcessHeaps$Collector", name := "reachObject", desc := "(ILProcessHeaps$HeapObject;)V" } : Jvm.MethodName)) ∈ mm_B := mm_inB (List.mem_append_right _ (List.mem_of_getElem? (l := tables_1) (i := 442) (by decide +kernel))) rfl
theorem tb_444 : (Jvm.Cond.instanceMethod ({ cls := "ProcessHeaps$Collector", name := "reachObject", desc := "(ILProcessHeaps$HeapObject;)V" } : Jvm.MethodName)) ∈ mm_B := mm_inB (List.mem_append_right _ (List.mem_of_getElem? (l := tables_1) (i := 444) (by decide +kernel))) rfl
theorem tb_445 : (Jvm.Cond.code ({ cls := "ProcessHeaps$Collector", name := "reachObject", desc := "(ILProcessHeaps$HeapObject;)V" } : Jvm.MethodName) prog_2_method_6_code (3 : Nat) (Option.none : Option Jvm.ClassFile.FieldType)) ∈ mm_B := mm_inB (List.mem_append_right _ (List.mem_of_getElem? (l := tables_1) (i := 445) (by decide +kernel))) rfl
theorem tb_446 : (Jvm.Cond.methodLink "ProcessHeaps$Collector" (72 : Nat) ({ cls := "ProcessHeaps$HeapObject", name := "heapNumber", desc := "()I" } : Jvm.MethodName)) ∈ mm_B := mm_inB (List.mem_append_right _ (List.mem_of_getElem? (l := tables_1) (i := 446) (by decide +kernel))) rfl
theorem tb_447 : (Jvm.Cond.methodLink "ProcessHeaps$Collector" (25 : Nat) ({ cls := "ProcessHeaps$Collector", name := "reachNamedFromOutside", desc := "(ILProcessHeaps$Memory;)V" } : Jvm.MethodName)) ∈ mm_B := mm_inB (List.mem_append_right _ (List.mem_of_getElem? (l := tables_1) (i := 447) (by decide +kernel))) rfl
theorem tb_449 : (Jvm.Cond.instanceMethod ({ cls := "ProcessHeaps$Collector", name := "reachNamedFromOutside", desc := "(ILProcessHeaps$Memory;)V" } : Jvm.MethodName)) ∈ mm_B := mm_inB (List.mem_append_right _ (List.mem_of_getElem? (l := tables_1) (i := 449) (by decide +kernel))) rfl
theorem tb_450 : (Jvm.Cond.code ({ cls := "ProcessHeaps$Collector", name := "reachNamedFromOutside", desc := "(ILProcessHeaps$Memory;)V" } : Jvm.MethodName) prog_2_method_4_code (4 : Nat) (Option.none : Option Jvm.ClassFile.FieldType)) ∈ mm_B := mm_inB (List.mem_append_right _ (List.mem_of_getElem? (l := tables_1) (i := 450) (by decide +kernel))) rfl
theorem tb_451 : (Jvm.Cond.methodLink "ProcessHeaps$Collector" (55 : Nat) ({ cls := "java/util/ArrayList", name := "size", desc := "()I" } : Jvm.MethodName)) ∈ mm_B := mm_inB (List.mem_append_right _ (List.mem_of_getElem? (l := tables_1) (i := 451) (by decide +kernel))) rfl
theorem tb_452 : (Jvm.Cond.methodLink "ProcessHeaps$Collector" (61 : Nat) ({ cls := "java/util/ArrayList", name := "get", desc := "(I)Ljava/lang/Object;" } : Jvm.MethodName)) ∈ mm_B := mm_inB (List.mem_append_right _ (List.mem_of_getElem? (l := tables_1) (i := 452) (by decide +kernel))) rfl
theorem tb_453 : (Jvm.Cond.methodLink "ProcessHeaps$Collector" (65 : Nat) ({ cls := "ProcessHeaps$HeapObject", name := "hasAnyItem", desc := "()Z" } : Jvm.MethodName)) ∈ mm_B := mm_inB (List.mem_append_right _ (List.mem_of_getElem? (l := tables_1) (i := 453) (by decide +kernel))) rfl
theorem tb_454 : (Jvm.Cond.instanceMethod ({ cls := "ProcessHeaps$HeapObject", name := "hasAnyItem", desc := "()Z" } : Jvm.MethodName)) ∈ mm_B := mm_inB (List.mem_append_right _ (List.mem_of_getElem? (l := tables_1) (i := 454) (by decide +kernel))) rfl
theorem tb_455 : (Jvm.Cond.selects "ProcessHeaps$HeapObject" ({ cls := "ProcessHeaps$HeapObject", name := "hasAnyItem", desc := "()Z" } : Jvm.MethodName) ({ cls := "ProcessHeaps$HeapObject", name := "hasAnyItem", desc := "()Z" } : Jvm.MethodName)) ∈ mm_B := mm_inB (List.mem_append_right _ (List.mem_of_getElem? (l := tables_1) (i := 455) (by decide +kernel))) rfl
theorem tb_456 : (Jvm.Cond.code ({ cls := "ProcessHeaps$HeapObject", name := "hasAnyItem", desc := "()Z" } : Jvm.MethodName) prog_3_method_6_code (1 : Nat) (Option.some Jvm.ClassFile.FieldType.boolean)) ∈ mm_B := mm_inB (List.mem_append_right _ (List.mem_of_getElem? (l := tables_1) (i := 456) (by decide +kernel))) rfl
theorem tb_457 : (Jvm.Cond.methodLink "ProcessHeaps$Collector" (29 : Nat) ({ cls := "ProcessHeaps$Collector", name := "followFields", desc := "(I)V" } : Jvm.MethodName)) ∈ mm_B := mm_inB (List.mem_append_right _ (List.mem_of_getElem? (l := tables_1) (i := 457) (by decide +kernel))) rfl
theorem tb_459 : (Jvm.Cond.instanceMethod ({ cls := "ProcessHeaps$Collector", name := "followFields", desc := "(I)V" } : Jvm.MethodName)) ∈ mm_B := mm_inB (List.mem_append_right _ (List.mem_of_getElem? (l := tables_1) (i := 459) (by decide +kernel))) rfl
theorem tb_460 : (Jvm.Cond.code ({ cls := "ProcessHeaps$Collector", name := "followFields", desc := "(I)V" } : Jvm.MethodName) prog_2_method_5_code (4 : Nat) (Option.none : Option Jvm.ClassFile.FieldType)) ∈ mm_B := mm_inB (List.mem_append_right _ (List.mem_of_getElem? (l := tables_1) (i := 460) (by decide +kernel))) rfl
theorem tb_461 : (Jvm.Cond.methodLink "ProcessHeaps$Collector" (33 : Nat) ({ cls := "ProcessHeaps$Memory", name := "freeUnreached", desc := "(I)I" } : Jvm.MethodName)) ∈ mm_B := mm_inB (List.mem_append_right _ (List.mem_of_getElem? (l := tables_1) (i := 461) (by decide +kernel))) rfl
theorem tb_462 : (Jvm.Cond.methodLink "ProcessHeaps$Collector" (39 : Nat) ({ cls := "ProcessHeaps$Collector", name := "loseItems", desc := "(ILProcessHeaps$Memory;)V" } : Jvm.MethodName)) ∈ mm_B := mm_inB (List.mem_append_right _ (List.mem_of_getElem? (l := tables_1) (i := 462) (by decide +kernel))) rfl
theorem tb_464 : (Jvm.Cond.instanceMethod ({ cls := "ProcessHeaps$Collector", name := "loseItems", desc := "(ILProcessHeaps$Memory;)V" } : Jvm.MethodName)) ∈ mm_B := mm_inB (List.mem_append_right _ (List.mem_of_getElem? (l := tables_1) (i := 464) (by decide +kernel))) rfl
theorem tb_465 : (Jvm.Cond.code ({ cls := "ProcessHeaps$Collector", name := "loseItems", desc := "(ILProcessHeaps$Memory;)V" } : Jvm.MethodName) prog_2_method_7_code (4 : Nat) (Option.none : Option Jvm.ClassFile.FieldType)) ∈ mm_B := mm_inB (List.mem_append_right _ (List.mem_of_getElem? (l := tables_1) (i := 465) (by decide +kernel))) rfl
theorem tb_466 : (Jvm.Cond.methodLink "ProcessHeaps$Collector" (78 : Nat) ({ cls := "ProcessHeaps$HeapObject", name := "dropItem", desc := "(I)V" } : Jvm.MethodName)) ∈ mm_B := mm_inB (List.mem_append_right _ (List.mem_of_getElem? (l := tables_1) (i := 466) (by decide +kernel))) rfl
theorem tb_467 : (Jvm.Cond.methodLink "ProcessHeaps$Collector" (81 : Nat) ({ cls := "ProcessHeaps$HeapObject", name := "addItemsForFields", desc := "()V" } : Jvm.MethodName)) ∈ mm_B := mm_inB (List.mem_append_right _ (List.mem_of_getElem? (l := tables_1) (i := 467) (by decide +kernel))) rfl
theorem tb_468 : (Jvm.Cond.instanceMethod ({ cls := "ProcessHeaps$HeapObject", name := "addItemsForFields", desc := "()V" } : Jvm.MethodName)) ∈ mm_B := mm_inB (List.mem_append_right _ (List.mem_of_getElem? (l := tables_1) (i := 468) (by decide +kernel))) rfl
theorem tb_469 : (Jvm.Cond.selects "ProcessHeaps$HeapObject" ({ cls := "ProcessHeaps$HeapObject", name := "addItemsForFields", desc := "()V" } : Jvm.MethodName) ({ cls := "ProcessHeaps$HeapObject", name := "addItemsForFields", desc := "()V" } : Jvm.MethodName)) ∈ mm_B := mm_inB (List.mem_append_right _ (List.mem_of_getElem? (l := tables_1) (i := 469) (by decide +kernel))) rfl
theorem tb_470 : (Jvm.Cond.code ({ cls := "ProcessHeaps$HeapObject", name := "addItemsForFields", desc := "()V" } : Jvm.MethodName) prog_3_method_4_code (2 : Nat) (Option.none : Option Jvm.ClassFile.FieldType)) ∈ mm_B := mm_inB (List.mem_append_right _ (List.mem_of_getElem? (l := tables_1) (i := 470) (by decide +kernel))) rfl
theorem tb_471 : (Jvm.Cond.methodLink "ProcessHeaps$HeapObject" (38 : Nat) ({ cls := "ProcessHeaps$HeapObject", name := "addItemFor", desc := "(LProcessHeaps$HeapObject;)V" } : Jvm.MethodName)) ∈ mm_B := mm_inB (List.mem_append_right _ (List.mem_of_getElem? (l := tables_1) (i := 471) (by decide +kernel))) rfl
theorem tb_473 : (Jvm.Cond.instanceMethod ({ cls := "ProcessHeaps$HeapObject", name := "addItemFor", desc := "(LProcessHeaps$HeapObject;)V" } : Jvm.MethodName)) ∈ mm_B := mm_inB (List.mem_append_right _ (List.mem_of_getElem? (l := tables_1) (i := 473) (by decide +kernel))) rfl
theorem tb_474 : (Jvm.Cond.instantiable "ProcessHeaps$HeapObject" (6 : Nat)) ∈ mm_B := mm_inB (List.mem_append_right _ (List.mem_of_getElem? (l := tables_1) (i := 474) (by decide +kernel))) rfl
theorem tb_475 : (Jvm.Cond.code ({ cls := "ProcessHeaps$HeapObject", name := "addItemFor", desc := "(LProcessHeaps$HeapObject;)V" } : Jvm.MethodName) prog_3_method_5_code (2 : Nat) (Option.none : Option Jvm.ClassFile.FieldType)) ∈ mm_B := mm_inB (List.mem_append_right _ (List.mem_of_getElem? (l := tables_1) (i := 475) (by decide +kernel))) rfl
theorem tb_476 : (Jvm.Cond.methodLink "ProcessHeaps$HeapObject" (42 : Nat) ({ cls := "ProcessHeaps$HeapObject", name := "heapNumber", desc := "()I" } : Jvm.MethodName)) ∈ mm_B := mm_inB (List.mem_append_right _ (List.mem_of_getElem? (l := tables_1) (i := 476) (by decide +kernel))) rfl
theorem tb_477 : (Jvm.Cond.methodLink "ProcessHeaps$HeapObject" (46 : Nat) ({ cls := "ProcessHeaps$HeapObject", name := "addItem", desc := "(I)V" } : Jvm.MethodName)) ∈ mm_B := mm_inB (List.mem_append_right _ (List.mem_of_getElem? (l := tables_1) (i := 477) (by decide +kernel))) rfl
theorem tb_478 : (Jvm.Cond.methodLink "ProcessHeaps" (202 : Nat) ({ cls := "ProcessHeaps", name := "dropChargesOfDead", desc := "()V" } : Jvm.MethodName)) ∈ mm_B := mm_inB (List.mem_append_right _ (List.mem_of_getElem? (l := tables_1) (i := 478) (by decide +kernel))) rfl
theorem tb_480 : (Jvm.Cond.instanceMethod ({ cls := "ProcessHeaps", name := "dropChargesOfDead", desc := "()V" } : Jvm.MethodName)) ∈ mm_B := mm_inB (List.mem_append_right _ (List.mem_of_getElem? (l := tables_1) (i := 480) (by decide +kernel))) rfl
theorem tb_481 : (Jvm.Cond.code ({ cls := "ProcessHeaps", name := "dropChargesOfDead", desc := "()V" } : Jvm.MethodName) prog_1_method_36_code (2 : Nat) (Option.none : Option Jvm.ClassFile.FieldType)) ∈ mm_B := mm_inB (List.mem_append_right _ (List.mem_of_getElem? (l := tables_1) (i := 481) (by decide +kernel))) rfl
theorem tb_482 : (Jvm.Cond.methodLink "ProcessHeaps" (105 : Nat) ({ cls := "ProcessHeaps$Memory", name := "putObject", desc := "(LProcessHeaps$Page;II)LProcessHeaps$HeapObject;" } : Jvm.MethodName)) ∈ mm_B := mm_inB (List.mem_append_right _ (List.mem_of_getElem? (l := tables_1) (i := 482) (by decide +kernel))) rfl
theorem tb_483 : (Jvm.Cond.instanceMethod ({ cls := "ProcessHeaps$Memory", name := "putObject", desc := "(LProcessHeaps$Page;II)LProcessHeaps$HeapObject;" } : Jvm.MethodName)) ∈ mm_B := mm_inB (List.mem_append_right _ (List.mem_of_getElem? (l := tables_1) (i := 483) (by decide +kernel))) rfl
theorem tb_484 : (Jvm.Cond.selects "ProcessHeaps$Memory" ({ cls := "ProcessHeaps$Memory", name := "putObject", desc := "(LProcessHeaps$Page;II)LProcessHeaps$HeapObject;" } : Jvm.MethodName) ({ cls := "ProcessHeaps$Memory", name := "putObject", desc := "(LProcessHeaps$Page;II)LProcessHeaps$HeapObject;" } : Jvm.MethodName)) ∈ mm_B := mm_inB (List.mem_append_right _ (List.mem_of_getElem? (l := tables_1) (i := 484) (by decide +kernel))) rfl
theorem tb_485 : (Jvm.Cond.code ({ cls := "ProcessHeaps$Memory", name := "putObject", desc := "(LProcessHeaps$Page;II)LProcessHeaps$HeapObject;" } : Jvm.MethodName) prog_6_method_9_code (5 : Nat) (Option.some (Jvm.ClassFile.FieldType.object "ProcessHeaps$HeapObject"))) ∈ mm_B := mm_inB (List.mem_append_right _ (List.mem_of_getElem? (l := tables_1) (i := 485) (by decide +kernel))) rfl
theorem tb_486 : (Jvm.Cond.methodLink "ProcessHeaps$Memory" (65 : Nat) ({ cls := "ProcessHeaps$HeapObject", name := "<init>", desc := "(LProcessHeaps$Page;II)V" } : Jvm.MethodName)) ∈ mm_B := mm_inB (List.mem_append_right _ (List.mem_of_getElem? (l := tables_1) (i := 486) (by decide +kernel))) rfl
theorem tb_487 : (Jvm.Cond.instanceMethod ({ cls := "ProcessHeaps$HeapObject", name := "<init>", desc := "(LProcessHeaps$Page;II)V" } : Jvm.MethodName)) ∈ mm_B := mm_inB (List.mem_append_right _ (List.mem_of_getElem? (l := tables_1) (i := 487) (by decide +kernel))) rfl
theorem tb_488 : (Jvm.Cond.code ({ cls := "ProcessHeaps$HeapObject", name := "<init>", desc := "(LProcessHeaps$Page;II)V" } : Jvm.MethodName) prog_3_method_1_code (4 : Nat) (Option.none : Option Jvm.ClassFile.FieldType)) ∈ mm_B := mm_inB (List.mem_append_right _ (List.mem_of_getElem? (l := tables_1) (i := 488) (by decide +kernel))) rfl
theorem tb_489 : (Jvm.Cond.methodLink "ProcessHeaps$HeapObject" (3 : Nat) ({ cls := "java/lang/Object", name := "<init>", desc := "()V" } : Jvm.MethodName)) ∈ mm_B := mm_inB (List.mem_append_right _ (List.mem_of_getElem? (l := tables_1) (i := 489) (by decide +kernel))) rfl
theorem tb_490 : (Jvm.Cond.classLink "ProcessHeaps$HeapObject" (9 : Nat) "ProcessHeaps$HeapObject") ∈ mm_B := mm_inB (List.mem_append_right _ (List.mem_of_getElem? (l := tables_1) (i := 490) (by decide +kernel))) rfl
theorem tb_491 : (Jvm.Cond.fieldLink "ProcessHeaps$HeapObject" (23 : Nat) "ProcessHeaps$HeapObject" "page" "LProcessHeaps$Page;") ∈ mm_B := mm_inB (List.mem_append_right _ (List.mem_of_getElem? (l := tables_1) (i := 491) (by decide +kernel))) rfl
theorem tb_492 : (Jvm.Cond.fieldLink "ProcessHeaps$Memory" (72 : Nat) "ProcessHeaps$HeapObject" "page" "LProcessHeaps$Page;") ∈ mm_B := mm_inB (List.mem_append_right _ (List.mem_of_getElem? (l := tables_1) (i := 492) (by decide +kernel))) rfl
theorem tb_493 : (Jvm.Cond.fieldLink "ProcessHeaps$HeapObject" (27 : Nat) "ProcessHeaps$HeapObject" "size" "I") ∈ mm_B := mm_inB (List.mem_append_right _ (List.mem_of_getElem? (l := tables_1) (i := 493) (by decide +kernel))) rfl
theorem tb_494 : (Jvm.Cond.fieldLink "ProcessHeaps$Memory" (76 : Nat) "ProcessHeaps$HeapObject" "size" "I") ∈ mm_B := mm_inB (List.mem_append_right _ (List.mem_of_getElem? (l := tables_1) (i := 494) (by decide +kernel))) rfl
theorem tb_495 : (Jvm.Cond.fieldLink "ProcessHeaps$HeapObject" (30 : Nat) "ProcessHeaps$HeapObject" "tag" "I") ∈ mm_B := mm_inB (List.mem_append_right _ (List.mem_of_getElem? (l := tables_1) (i := 495) (by decide +kernel))) rfl
theorem tb_496 : (Jvm.Cond.fieldLink "ProcessHeaps" (179 : Nat) "ProcessHeaps$HeapObject" "tag" "I") ∈ mm_B := mm_inB (List.mem_append_right _ (List.mem_of_getElem? (l := tables_1) (i := 496) (by decide +kernel))) rfl
theorem tb_497 : (Jvm.Cond.fieldLink "ProcessHeaps$HeapObject" (11 : Nat) "ProcessHeaps$HeapObject" "fields" "[LProcessHeaps$HeapObject;") ∈ mm_B := mm_inB (List.mem_append_right _ (List.mem_of_getElem? (l := tables_1) (i := 497) (by decide +kernel))) rfl
theorem tb_498 : (Jvm.Cond.fieldLink "ProcessHeaps$Collector" (69 : Nat) "ProcessHeaps$HeapObject" "fields" "[LProcessHeaps$HeapObject;") ∈ mm_B := mm_inB (List.mem_append_right _ (List.mem_of_getElem? (l := tables_1) (i := 498) (by decide +kernel))) rfl
theorem tb_499 : (Jvm.Cond.fieldLink "ProcessHeaps" (124 : Nat) "ProcessHeaps$HeapObject" "fields" "[LProcessHeaps$HeapObject;") ∈ mm_B := mm_inB (List.mem_append_right _ (List.mem_of_getElem? (l := tables_1) (i := 499) (by decide +kernel))) rfl
theorem tb_500 : (Jvm.Cond.fieldLink "ProcessHeaps$HeapObject" (15 : Nat) "ProcessHeaps$HeapObject" "reached" "Z") ∈ mm_B := mm_inB (List.mem_append_right _ (List.mem_of_getElem? (l := tables_1) (i := 500) (by decide +kernel))) rfl
theorem tb_501 : (Jvm.Cond.fieldLink "ProcessHeaps$Collector" (75 : Nat) "ProcessHeaps$HeapObject" "reached" "Z") ∈ mm_B := mm_inB (List.mem_append_right _ (List.mem_of_getElem? (l := tables_1) (i := 501) (by decide +kernel))) rfl
theorem tb_502 : (Jvm.Cond.fieldLink "ProcessHeaps$Memory" (68 : Nat) "ProcessHeaps$HeapObject" "reached" "Z") ∈ mm_B := mm_inB (List.mem_append_right _ (List.mem_of_getElem? (l := tables_1) (i := 502) (by decide +kernel))) rfl
theorem tb_503 : (Jvm.Cond.fieldLink "ProcessHeaps$HeapObject" (19 : Nat) "ProcessHeaps$HeapObject" "items" "I") ∈ mm_B := mm_inB (List.mem_append_right _ (List.mem_of_getElem? (l := tables_1) (i := 503) (by decide +kernel))) rfl
theorem tb_504 : (Jvm.Cond.laysFinal "ProcessHeaps$HeapObject" "ProcessHeaps$HeapObject" "page" "LProcessHeaps$Page;") ∈ mm_B := mm_inB (List.mem_append_right _ (List.mem_of_getElem? (l := tables_1) (i := 504) (by decide +kernel))) rfl
theorem tb_506 : (Jvm.Cond.laysFinal "ProcessHeaps$HeapObject" "ProcessHeaps$HeapObject" "size" "I") ∈ mm_B := mm_inB (List.mem_append_right _ (List.mem_of_getElem? (l := tables_1) (i := 506) (by decide +kernel))) rfl
theorem tb_508 : (Jvm.Cond.laysFinal "ProcessHeaps$HeapObject" "ProcessHeaps$HeapObject" "tag" "I") ∈ mm_B := mm_inB (List.mem_append_right _ (List.mem_of_getElem? (l := tables_1) (i := 508) (by decide +kernel))) rfl
theorem tb_510 : (Jvm.Cond.laysFinal "ProcessHeaps$HeapObject" "ProcessHeaps$HeapObject" "fields" "[LProcessHeaps$HeapObject;") ∈ mm_B := mm_inB (List.mem_append_right _ (List.mem_of_getElem? (l := tables_1) (i := 510) (by decide +kernel))) rfl
theorem tb_512 : (Jvm.Cond.lays "ProcessHeaps$HeapObject" "ProcessHeaps$HeapObject" "reached" "Z") ∈ mm_B := mm_inB (List.mem_append_right _ (List.mem_of_getElem? (l := tables_1) (i := 512) (by decide +kernel))) rfl
theorem tb_514 : (Jvm.Cond.lays "ProcessHeaps$HeapObject" "ProcessHeaps$HeapObject" "items" "I") ∈ mm_B := mm_inB (List.mem_append_right _ (List.mem_of_getElem? (l := tables_1) (i := 514) (by decide +kernel))) rfl
theorem tb_517 : (Jvm.Cond.methodLink "ProcessHeapsLaw" (41 : Nat) ({ cls := "ProcessHeaps", name := "store", desc := "(IIII)I" } : Jvm.MethodName)) ∈ mm_B := mm_inB (List.mem_append_right _ (List.mem_of_getElem? (l := tables_1) (i := 517) (by decide +kernel))) rfl
theorem tb_518 : (Jvm.Cond.instanceMethod ({ cls := "ProcessHeaps", name := "store", desc := "(IIII)I" } : Jvm.MethodName)) ∈ mm_B := mm_inB (List.mem_append_right _ (List.mem_of_getElem? (l := tables_1) (i := 518) (by decide +kernel))) rfl
theorem tb_519 : (Jvm.Cond.selects "ProcessHeaps" ({ cls := "ProcessHeaps", name := "store", desc := "(IIII)I" } : Jvm.MethodName) ({ cls := "ProcessHeaps", name := "store", desc := "(IIII)I" } : Jvm.MethodName)) ∈ mm_B := mm_inB (List.mem_append_right _ (List.mem_of_getElem? (l := tables_1) (i := 519) (by decide +kernel))) rfl
theorem tb_520 : (Jvm.Cond.code ({ cls := "ProcessHeaps", name := "store", desc := "(IIII)I" } : Jvm.MethodName) prog_1_method_6_code (8 : Nat) (Option.some Jvm.ClassFile.FieldType.int)) ∈ mm_B := mm_inB (List.mem_append_right _ (List.mem_of_getElem? (l := tables_1) (i := 520) (by decide +kernel))) rfl
theorem tb_521 : (Jvm.Cond.methodLink "ProcessHeaps" (109 : Nat) ({ cls := "ProcessHeaps", name := "isField", desc := "(I)Z" } : Jvm.MethodName)) ∈ mm_B := mm_inB (List.mem_append_right _ (List.mem_of_getElem? (l := tables_1) (i := 521) (by decide +kernel))) rfl
theorem tb_522 : (Jvm.Cond.static ({ cls := "ProcessHeaps", name := "isField", desc := "(I)Z" } : Jvm.MethodName)) ∈ mm_B := mm_inB (List.mem_append_right _ (List.mem_of_getElem? (l := tables_1) (i := 522) (by decide +kernel))) rfl
theorem tb_523 : (Jvm.Cond.code ({ cls := "ProcessHeaps", name := "isField", desc := "(I)Z" } : Jvm.MethodName) prog_1_method_23_code (1 : Nat) (Option.some Jvm.ClassFile.FieldType.boolean)) ∈ mm_B := mm_inB (List.mem_append_right _ (List.mem_of_getElem? (l := tables_1) (i := 523) (by decide +kernel))) rfl
theorem tb_524 : (Jvm.Cond.methodLink "ProcessHeaps" (112 : Nat) ({ cls := "ProcessHeaps", name := "mayChange", desc := "(LProcessHeaps$HeapProcess;LProcessHeaps$HeapObject;)Z" } : Jvm.MethodName)) ∈ mm_B := mm_inB (List.mem_append_right _ (List.mem_of_getElem? (l := tables_1) (i := 524) (by decide +kernel))) rfl
theorem tb_526 : (Jvm.Cond.instanceMethod ({ cls := "ProcessHeaps", name := "mayChange", desc := "(LProcessHeaps$HeapProcess;LProcessHeaps$HeapObject;)Z" } : Jvm.MethodName)) ∈ mm_B := mm_inB (List.mem_append_right _ (List.mem_of_getElem? (l := tables_1) (i := 526) (by decide +kernel))) rfl
theorem tb_527 : (Jvm.Cond.code ({ cls := "ProcessHeaps", name := "mayChange", desc := "(LProcessHeaps$HeapProcess;LProcessHeaps$HeapObject;)Z" } : Jvm.MethodName) prog_1_method_30_code (4 : Nat) (Option.some Jvm.ClassFile.FieldType.boolean)) ∈ mm_B := mm_inB (List.mem_append_right _ (List.mem_of_getElem? (l := tables_1) (i := 527) (by decide +kernel))) rfl
theorem tb_528 : (Jvm.Cond.methodLink "ProcessHeaps" (133 : Nat) ({ cls := "ProcessHeaps$HeapObject", name := "heapNumber", desc := "()I" } : Jvm.MethodName)) ∈ mm_B := mm_inB (List.mem_append_right _ (List.mem_of_getElem? (l := tables_1) (i := 528) (by decide +kernel))) rfl
theorem tb_529 : (Jvm.Cond.methodLink "ProcessHeaps" (116 : Nat) ({ cls := "ProcessHeaps", name := "mayName", desc := "(LProcessHeaps$HeapProcess;LProcessHeaps$HeapObject;LProcessHeaps$HeapObject;)Z" } : Jvm.MethodName)) ∈ mm_B := mm_inB (List.mem_append_right _ (List.mem_of_getElem? (l := tables_1) (i := 529) (by decide +kernel))) rfl
theorem tb_531 : (Jvm.Cond.instanceMethod ({ cls := "ProcessHeaps", name := "mayName", desc := "(LProcessHeaps$HeapProcess;LProcessHeaps$HeapObject;LProcessHeaps$HeapObject;)Z" } : Jvm.MethodName)) ∈ mm_B := mm_inB (List.mem_append_right _ (List.mem_of_getElem? (l := tables_1) (i := 531) (by decide +kernel))) rfl
theorem tb_532 : (Jvm.Cond.code ({ cls := "ProcessHeaps", name := "mayName", desc := "(LProcessHeaps$HeapProcess;LProcessHeaps$HeapObject;LProcessHeaps$HeapObject;)Z" } : Jvm.MethodName) prog_1_method_31_code (6 : Nat) (Option.some Jvm.ClassFile.FieldType.boolean)) ∈ mm_B := mm_inB (List.mem_append_right _ (List.mem_of_getElem? (l := tables_1) (i := 532) (by decide +kernel))) rfl
theorem tb_533 : (Jvm.Cond.methodLink "ProcessHeaps" (120 : Nat) ({ cls := "ProcessHeaps$HeapObject", name := "setField", desc := "(ILProcessHeaps$HeapObject;)V" } : Jvm.MethodName)) ∈ mm_B := mm_inB (List.mem_append_right _ (List.mem_of_getElem? (l := tables_1) (i := 533) (by decide +kernel))) rfl
theorem tb_534 : (Jvm.Cond.instanceMethod ({ cls := "ProcessHeaps$HeapObject", name := "setField", desc := "(ILProcessHeaps$HeapObject;)V" } : Jvm.MethodName)) ∈ mm_B := mm_inB (List.mem_append_right _ (List.mem_of_getElem? (l := tables_1) (i := 534) (by decide +kernel))) rfl
theorem tb_535 : (Jvm.Cond.selects "ProcessHeaps$HeapObject" ({ cls := "ProcessHeaps$HeapObject", name := "setField", desc := "(ILProcessHeaps$HeapObject;)V" } : Jvm.MethodName) ({ cls := "ProcessHeaps$HeapObject", name := "setField", desc := "(ILProcessHeaps$HeapObject;)V" } : Jvm.MethodName)) ∈ mm_B := mm_inB (List.mem_append_right _ (List.mem_of_getElem? (l := tables_1) (i := 535) (by decide +kernel))) rfl
theorem tb_536 : (Jvm.Cond.code ({ cls := "ProcessHeaps$HeapObject", name := "setField", desc := "(ILProcessHeaps$HeapObject;)V" } : Jvm.MethodName) prog_3_method_3_code (3 : Nat) (Option.none : Option Jvm.ClassFile.FieldType)) ∈ mm_B := mm_inB (List.mem_append_right _ (List.mem_of_getElem? (l := tables_1) (i := 536) (by decide +kernel))) rfl
theorem tb_537 : (Jvm.Cond.methodLink "ProcessHeapsLaw" (45 : Nat) ({ cls := "ProcessHeaps", name := "load", desc := "(IIII)I" } : Jvm.MethodName)) ∈ mm_B := mm_inB (List.mem_append_right _ (List.mem_of_getElem? (l := tables_1) (i := 537) (by decide +kernel))) rfl
theorem tb_538 : (Jvm.Cond.instanceMethod ({ cls := "ProcessHeaps", name := "load", desc := "(IIII)I" } : Jvm.MethodName)) ∈ mm_B := mm_inB (List.mem_append_right _ (List.mem_of_getElem? (l := tables_1) (i := 538) (by decide +kernel))) rfl
theorem tb_539 : (Jvm.Cond.selects "ProcessHeaps" ({ cls := "ProcessHeaps", name := "load", desc := "(IIII)I" } : Jvm.MethodName) ({ cls := "ProcessHeaps", name := "load", desc := "(IIII)I" } : Jvm.MethodName)) ∈ mm_B := mm_inB (List.mem_append_right _ (List.mem_of_getElem? (l := tables_1) (i := 539) (by decide +kernel))) rfl
theorem tb_540 : (Jvm.Cond.code ({ cls := "ProcessHeaps", name := "load", desc := "(IIII)I" } : Jvm.MethodName) prog_1_method_7_code (8 : Nat) (Option.some Jvm.ClassFile.FieldType.int)) ∈ mm_B := mm_inB (List.mem_append_right _ (List.mem_of_getElem? (l := tables_1) (i := 540) (by decide +kernel))) rfl
theorem tb_541 : (Jvm.Cond.methodLink "ProcessHeaps" (127 : Nat) ({ cls := "ProcessHeaps", name := "mayHold", desc := "(LProcessHeaps$HeapProcess;LProcessHeaps$HeapObject;)Z" } : Jvm.MethodName)) ∈ mm_B := mm_inB (List.mem_append_right _ (List.mem_of_getElem? (l := tables_1) (i := 541) (by decide +kernel))) rfl
theorem tb_543 : (Jvm.Cond.instanceMethod ({ cls := "ProcessHeaps", name := "mayHold", desc := "(LProcessHeaps$HeapProcess;LProcessHeaps$HeapObject;)Z" } : Jvm.MethodName)) ∈ mm_B := mm_inB (List.mem_append_right _ (List.mem_of_getElem? (l := tables_1) (i := 543) (by decide +kernel))) rfl
theorem tb_544 : (Jvm.Cond.code ({ cls := "ProcessHeaps", name := "mayHold", desc := "(LProcessHeaps$HeapProcess;LProcessHeaps$HeapObject;)Z" } : Jvm.MethodName) prog_1_method_32_code (4 : Nat) (Option.some Jvm.ClassFile.FieldType.boolean)) ∈ mm_B := mm_inB (List.mem_append_right _ (List.mem_of_getElem? (l := tables_1) (i := 544) (by decide +kernel))) rfl
theorem tb_545 : (Jvm.Cond.methodLink "ProcessHeapsLaw" (49 : Nat) ({ cls := "ProcessHeaps", name := "move", desc := "(III)Z" } : Jvm.MethodName)) ∈ mm_B := mm_inB (List.mem_append_right _ (List.mem_of_getElem? (l := tables_1) (i := 545) (by decide +kernel))) rfl
theorem tb_546 : (Jvm.Cond.instanceMethod ({ cls := "ProcessHeaps", name := "move", desc := "(III)Z" } : Jvm.MethodName)) ∈ mm_B := mm_inB (List.mem_append_right _ (List.mem_of_getElem? (l := tables_1) (i := 546) (by decide +kernel))) rfl
theorem tb_547 : (Jvm.Cond.selects "ProcessHeaps" ({ cls := "ProcessHeaps", name := "move", desc := "(III)Z" } : Jvm.MethodName) ({ cls := "ProcessHeaps", name := "move", desc := "(III)Z" } : Jvm.MethodName)) ∈ mm_B := mm_inB (List.mem_append_right _ (List.mem_of_getElem? (l := tables_1) (i := 547) (by decide +kernel))) rfl
theorem tb_548 : (Jvm.Cond.code ({ cls := "ProcessHeaps", name := "move", desc := "(III)Z" } : Jvm.MethodName) prog_1_method_8_code (5 : Nat) (Option.some Jvm.ClassFile.FieldType.boolean)) ∈ mm_B := mm_inB (List.mem_append_right _ (List.mem_of_getElem? (l := tables_1) (i := 548) (by decide +kernel))) rfl
theorem tb_549 : (Jvm.Cond.methodLink "ProcessHeapsLaw" (54 : Nat) ({ cls := "ProcessHeaps", name := "begin", desc := "(I)I" } : Jvm.MethodName)) ∈ mm_B := mm_inB (List.mem_append_right _ (List.mem_of_getElem? (l := tables_1) (i := 549) (by decide +kernel))) rfl
theorem tb_550 : (Jvm.Cond.instanceMethod ({ cls := "ProcessHeaps", name := "begin", desc := "(I)I" } : Jvm.MethodName)) ∈ mm_B := mm_inB (List.mem_append_right _ (List.mem_of_getElem? (l := tables_1) (i := 550) (by decide +kernel))) rfl
theorem tb_551 : (Jvm.Cond.selects "ProcessHeaps" ({ cls := "ProcessHeaps", name := "begin", desc := "(I)I" } : Jvm.MethodName) ({ cls := "ProcessHeaps", name := "begin", desc := "(I)I" } : Jvm.MethodName)) ∈ mm_B := mm_inB (List.mem_append_right _ (List.mem_of_getElem? (l := tables_1) (i := 551) (by decide +kernel))) rfl
theorem tb_552 : (Jvm.Cond.code ({ cls := "ProcessHeaps", name := "begin", desc := "(I)I" } : Jvm.MethodName) prog_1_method_9_code (3 : Nat) (Option.some Jvm.ClassFile.FieldType.int)) ∈ mm_B := mm_inB (List.mem_append_right _ (List.mem_of_getElem? (l := tables_1) (i := 552) (by decide +kernel))) rfl
theorem tb_553 : (Jvm.Cond.methodLink "ProcessHeapsLaw" (59 : Nat) ({ cls := "ProcessHeaps", name := "freeze", desc := "(II)I" } : Jvm.MethodName)) ∈ mm_B := mm_inB (List.mem_append_right _ (List.mem_of_getElem? (l := tables_1) (i := 553) (by decide +kernel))) rfl
theorem tb_554 : (Jvm.Cond.instanceMethod ({ cls := "ProcessHeaps", name := "freeze", desc := "(II)I" } : Jvm.MethodName)) ∈ mm_B := mm_inB (List.mem_append_right _ (List.mem_of_getElem? (l := tables_1) (i := 554) (by decide +kernel))) rfl
theorem tb_555 : (Jvm.Cond.selects "ProcessHeaps" ({ cls := "ProcessHeaps", name := "freeze", desc := "(II)I" } : Jvm.MethodName) ({ cls := "ProcessHeaps", name := "freeze", desc := "(II)I" } : Jvm.MethodName)) ∈ mm_B := mm_inB (List.mem_append_right _ (List.mem_of_getElem? (l := tables_1) (i := 555) (by decide +kernel))) rfl
theorem tb_556 : (Jvm.Cond.code ({ cls := "ProcessHeaps", name := "freeze", desc := "(II)I" } : Jvm.MethodName) prog_1_method_10_code (6 : Nat) (Option.some Jvm.ClassFile.FieldType.int)) ∈ mm_B := mm_inB (List.mem_append_right _ (List.mem_of_getElem? (l := tables_1) (i := 556) (by decide +kernel))) rfl
theorem tb_557 : (Jvm.Cond.methodLink "ProcessHeaps" (136 : Nat) ({ cls := "ProcessHeaps$Memory", name := "endSinglePayment", desc := "(I)V" } : Jvm.MethodName)) ∈ mm_B := mm_inB (List.mem_append_right _ (List.mem_of_getElem? (l := tables_1) (i := 557) (by decide +kernel))) rfl
theorem tb_558 : (Jvm.Cond.instanceMethod ({ cls := "ProcessHeaps$Memory", name := "endSinglePayment", desc := "(I)V" } : Jvm.MethodName)) ∈ mm_B := mm_inB (List.mem_append_right _ (List.mem_of_getElem? (l := tables_1) (i := 558) (by decide +kernel))) rfl
theorem tb_559 : (Jvm.Cond.selects "ProcessHeaps$Memory" ({ cls := "ProcessHeaps$Memory", name := "endSinglePayment", desc := "(I)V" } : Jvm.MethodName) ({ cls := "ProcessHeaps$Memory", name := "endSinglePayment", desc := "(I)V" } : Jvm.MethodName)) ∈ mm_B := mm_inB (List.mem_append_right _ (List.mem_of_getElem? (l := tables_1) (i := 559) (by decide +kernel))) rfl
theorem tb_560 : (Jvm.Cond.code ({ cls := "ProcessHeaps$Memory", name := "endSinglePayment", desc := "(I)V" } : Jvm.MethodName) prog_6_method_12_code (4 : Nat) (Option.none : Option Jvm.ClassFile.FieldType)) ∈ mm_B := mm_inB (List.mem_append_right _ (List.mem_of_getElem? (l := tables_1) (i := 560) (by decide +kernel))) rfl
theorem tb_561 : (Jvm.Cond.methodLink "ProcessHeaps" (140 : Nat) ({ cls := "ProcessHeaps$HeapProcess", name := "addCharge", desc := "(I)V" } : Jvm.MethodName)) ∈ mm_B := mm_inB (List.mem_append_right _ (List.mem_of_getElem? (l := tables_1) (i := 561) (by decide +kernel))) rfl
theorem tb_562 : (Jvm.Cond.instanceMethod ({ cls := "ProcessHeaps$HeapProcess", name := "addCharge", desc := "(I)V" } : Jvm.MethodName)) ∈ mm_B := mm_inB (List.mem_append_right _ (List.mem_of_getElem? (l := tables_1) (i := 562) (by decide +kernel))) rfl
theorem tb_563 : (Jvm.Cond.selects "ProcessHeaps$HeapProcess" ({ cls := "ProcessHeaps$HeapProcess", name := "addCharge", desc := "(I)V" } : Jvm.MethodName) ({ cls := "ProcessHeaps$HeapProcess", name := "addCharge", desc := "(I)V" } : Jvm.MethodName)) ∈ mm_B := mm_inB (List.mem_append_right _ (List.mem_of_getElem? (l := tables_1) (i := 563) (by decide +kernel))) rfl
theorem tb_564 : (Jvm.Cond.code ({ cls := "ProcessHeaps$HeapProcess", name := "addCharge", desc := "(I)V" } : Jvm.MethodName) prog_4_method_5_code (2 : Nat) (Option.none : Option Jvm.ClassFile.FieldType)) ∈ mm_B := mm_inB (List.mem_append_right _ (List.mem_of_getElem? (l := tables_1) (i := 564) (by decide +kernel))) rfl
theorem tb_565 : (Jvm.Cond.methodLink "ProcessHeapsLaw" (64 : Nat) ({ cls := "ProcessHeaps", name := "lookup", desc := "(III)I" } : Jvm.MethodName)) ∈ mm_B := mm_inB (List.mem_append_right _ (List.mem_of_getElem? (l := tables_1) (i := 565) (by decide +kernel))) rfl
theorem tb_566 : (Jvm.Cond.instanceMethod ({ cls := "ProcessHeaps", name := "lookup", desc := "(III)I" } : Jvm.MethodName)) ∈ mm_B := mm_inB (List.mem_append_right _ (List.mem_of_getElem? (l := tables_1) (i := 566) (by decide +kernel))) rfl
theorem tb_567 : (Jvm.Cond.selects "ProcessHeaps" ({ cls := "ProcessHeaps", name := "lookup", desc := "(III)I" } : Jvm.MethodName) ({ cls := "ProcessHeaps", name := "lookup", desc := "(III)I" } : Jvm.MethodName)) ∈ mm_B := mm_inB (List.mem_append_right _ (List.mem_of_getElem? (l := tables_1) (i := 567) (by decide +kernel))) rfl
theorem tb_568 : (Jvm.Cond.code ({ cls := "ProcessHeaps", name := "lookup", desc := "(III)I" } : Jvm.MethodName) prog_1_method_11_code (6 : Nat) (Option.some Jvm.ClassFile.FieldType.int)) ∈ mm_B := mm_inB (List.mem_append_right _ (List.mem_of_getElem? (l := tables_1) (i := 568) (by decide +kernel))) rfl
theorem tb_569 : (Jvm.Cond.methodLink "ProcessHeaps" (149 : Nat) ({ cls := "ProcessHeaps$Memory", name := "countPages", desc := "(I)I" } : Jvm.MethodName)) ∈ mm_B := mm_inB (List.mem_append_right _ (List.mem_of_getElem? (l := tables_1) (i := 569) (by decide +kernel))) rfl
theorem tb_570 : (Jvm.Cond.instanceMethod ({ cls := "ProcessHeaps$Memory", name := "countPages", desc := "(I)I" } : Jvm.MethodName)) ∈ mm_B := mm_inB (List.mem_append_right _ (List.mem_of_getElem? (l := tables_1) (i := 570) (by decide +kernel))) rfl
theorem tb_571 : (Jvm.Cond.selects "ProcessHeaps$Memory" ({ cls := "ProcessHeaps$Memory", name := "countPages", desc := "(I)I" } : Jvm.MethodName) ({ cls := "ProcessHeaps$Memory", name := "countPages", desc := "(I)I" } : Jvm.MethodName)) ∈ mm_B := mm_inB (List.mem_append_right _ (List.mem_of_getElem? (l := tables_1) (i := 571) (by decide +kernel))) rfl
theorem tb_572 : (Jvm.Cond.code ({ cls := "ProcessHeaps$Memory", name := "countPages", desc := "(I)I" } : Jvm.MethodName) prog_6_method_2_code (4 : Nat) (Option.some Jvm.ClassFile.FieldType.int)) ∈ mm_B := mm_inB (List.mem_append_right _ (List.mem_of_getElem? (l := tables_1) (i := 572) (by decide +kernel))) rfl
theorem tb_573 : (Jvm.Cond.methodLink "ProcessHeapsLaw" (69 : Nat) ({ cls := "ProcessHeaps", name := "collect", desc := "(I)I" } : Jvm.MethodName)) ∈ mm_B := mm_inB (List.mem_append_right _ (List.mem_of_getElem? (l := tables_1) (i := 573) (by decide +kernel))) rfl
theorem tb_574 : (Jvm.Cond.instanceMethod ({ cls := "ProcessHeaps", name := "collect", desc := "(I)I" } : Jvm.MethodName)) ∈ mm_B := mm_inB (List.mem_append_right _ (List.mem_of_getElem? (l := tables_1) (i := 574) (by decide +kernel))) rfl
theorem tb_575 : (Jvm.Cond.selects "ProcessHeaps" ({ cls := "ProcessHeaps", name := "collect", desc := "(I)I" } : Jvm.MethodName) ({ cls := "ProcessHeaps", name := "collect", desc := "(I)I" } : Jvm.MethodName)) ∈ mm_B := mm_inB (List.mem_append_right _ (List.mem_of_getElem? (l := tables_1) (i := 575) (by decide +kernel))) rfl
theorem tb_576 : (Jvm.Cond.code ({ cls := "ProcessHeaps", name := "collect", desc := "(I)I" } : Jvm.MethodName) prog_1_method_12_code (2 : Nat) (Option.some Jvm.ClassFile.FieldType.int)) ∈ mm_B := mm_inB (List.mem_append_right _ (List.mem_of_getElem? (l := tables_1) (i := 576) (by decide +kernel))) rfl
theorem tb_577 : (Jvm.Cond.methodLink "ProcessHeapsLaw" (73 : Nat) ({ cls := "ProcessHeaps", name := "state", desc := "(I)I" } : Jvm.MethodName)) ∈ mm_B := mm_inB (List.mem_append_right _ (List.mem_of_getElem? (l := tables_1) (i := 577) (by decide +kernel))) rfl
theorem tb_578 : (Jvm.Cond.instanceMethod ({ cls := "ProcessHeaps", name := "state", desc := "(I)I" } : Jvm.MethodName)) ∈ mm_B := mm_inB (List.mem_append_right _ (List.mem_of_getElem? (l := tables_1) (i := 578) (by decide +kernel))) rfl
theorem tb_579 : (Jvm.Cond.selects "ProcessHeaps" ({ cls := "ProcessHeaps", name := "state", desc := "(I)I" } : Jvm.MethodName) ({ cls := "ProcessHeaps", name := "state", desc := "(I)I" } : Jvm.MethodName)) ∈ mm_B := mm_inB (List.mem_append_right _ (List.mem_of_getElem? (l := tables_1) (i := 579) (by decide +kernel))) rfl
theorem tb_580 : (Jvm.Cond.code ({ cls := "ProcessHeaps", name := "state", desc := "(I)I" } : Jvm.MethodName) prog_1_method_13_code (2 : Nat) (Option.some Jvm.ClassFile.FieldType.int)) ∈ mm_B := mm_inB (List.mem_append_right _ (List.mem_of_getElem? (l := tables_1) (i := 580) (by decide +kernel))) rfl
theorem tb_581 : (Jvm.Cond.methodLink "ProcessHeapsLaw" (77 : Nat) ({ cls := "ProcessHeaps", name := "pages", desc := "(I)I" } : Jvm.MethodName)) ∈ mm_B := mm_inB (List.mem_append_right _ (List.mem_of_getElem? (l := tables_1) (i := 581) (by decide +kernel))) rfl
theorem tb_582 : (Jvm.Cond.instanceMethod ({ cls := "ProcessHeaps", name := "pages", desc := "(I)I" } : Jvm.MethodName)) ∈ mm_B := mm_inB (List.mem_append_right _ (List.mem_of_getElem? (l := tables_1) (i := 582) (by decide +kernel))) rfl
theorem tb_583 : (Jvm.Cond.selects "ProcessHeaps" ({ cls := "ProcessHeaps", name := "pages", desc := "(I)I" } : Jvm.MethodName) ({ cls := "ProcessHeaps", name := "pages", desc := "(I)I" } : Jvm.MethodName)) ∈ mm_B := mm_inB (List.mem_append_right _ (List.mem_of_getElem? (l := tables_1) (i := 583) (by decide +kernel))) rfl
theorem tb_584 : (Jvm.Cond.code ({ cls := "ProcessHeaps", name := "pages", desc := "(I)I" } : Jvm.MethodName) prog_1_method_14_code (2 : Nat) (Option.some Jvm.ClassFile.FieldType.int)) ∈ mm_B := mm_inB (List.mem_append_right _ (List.mem_of_getElem? (l := tables_1) (i := 584) (by decide +kernel))) rfl
theorem tb_585 : (Jvm.Cond.methodLink "ProcessHeapsLaw" (81 : Nat) ({ cls := "ProcessHeaps", name := "objects", desc := "(I)I" } : Jvm.MethodName)) ∈ mm_B := mm_inB (List.mem_append_right _ (List.mem_of_getElem? (l := tables_1) (i := 585) (by decide +kernel))) rfl
theorem tb_586 : (Jvm.Cond.instanceMethod ({ cls := "ProcessHeaps", name := "objects", desc := "(I)I" } : Jvm.MethodName)) ∈ mm_B := mm_inB (List.mem_append_right _ (List.mem_of_getElem? (l := tables_1) (i := 586) (by decide +kernel))) rfl
theorem tb_587 : (Jvm.Cond.selects "ProcessHeaps" ({ cls := "ProcessHeaps", name := "objects", desc := "(I)I" } : Jvm.MethodName) ({ cls := "ProcessHeaps", name := "objects", desc := "(I)I" } : Jvm.MethodName)) ∈ mm_B := mm_inB (List.mem_append_right _ (List.mem_of_getElem? (l := tables_1) (i := 587) (by decide +kernel))) rfl
theorem tb_588 : (Jvm.Cond.code ({ cls := "ProcessHeaps", name := "objects", desc := "(I)I" } : Jvm.MethodName) prog_1_method_15_code (2 : Nat) (Option.some Jvm.ClassFile.FieldType.int)) ∈ mm_B := mm_inB (List.mem_append_right _ (List.mem_of_getElem? (l := tables_1) (i := 588) (by decide +kernel))) rfl
theorem tb_589 : (Jvm.Cond.methodLink "ProcessHeaps" (155 : Nat) ({ cls := "ProcessHeaps$Memory", name := "countObjects", desc := "(I)I" } : Jvm.MethodName)) ∈ mm_B := mm_inB (List.mem_append_right _ (List.mem_of_getElem? (l := tables_1) (i := 589) (by decide +kernel))) rfl
theorem tb_590 : (Jvm.Cond.instanceMethod ({ cls := "ProcessHeaps$Memory", name := "countObjects", desc := "(I)I" } : Jvm.MethodName)) ∈ mm_B := mm_inB (List.mem_append_right _ (List.mem_of_getElem? (l := tables_1) (i := 590) (by decide +kernel))) rfl
theorem tb_591 : (Jvm.Cond.selects "ProcessHeaps$Memory" ({ cls := "ProcessHeaps$Memory", name := "countObjects", desc := "(I)I" } : Jvm.MethodName) ({ cls := "ProcessHeaps$Memory", name := "countObjects", desc := "(I)I" } : Jvm.MethodName)) ∈ mm_B := mm_inB (List.mem_append_right _ (List.mem_of_getElem? (l := tables_1) (i := 591) (by decide +kernel))) rfl
theorem tb_592 : (Jvm.Cond.code ({ cls := "ProcessHeaps$Memory", name := "countObjects", desc := "(I)I" } : Jvm.MethodName) prog_6_method_4_code (4 : Nat) (Option.some Jvm.ClassFile.FieldType.int)) ∈ mm_B := mm_inB (List.mem_append_right _ (List.mem_of_getElem? (l := tables_1) (i := 592) (by decide +kernel))) rfl
theorem tb_593 : (Jvm.Cond.methodLink "ProcessHeapsLaw" (85 : Nat) ({ cls := "ProcessHeaps", name := "items", desc := "(I)I" } : Jvm.MethodName)) ∈ mm_B := mm_inB (List.mem_append_right _ (List.mem_of_getElem? (l := tables_1) (i := 593) (by decide +kernel))) rfl
theorem tb_594 : (Jvm.Cond.instanceMethod ({ cls := "ProcessHeaps", name := "items", desc := "(I)I" } : Jvm.MethodName)) ∈ mm_B := mm_inB (List.mem_append_right _ (List.mem_of_getElem? (l := tables_1) (i := 594) (by decide +kernel))) rfl
theorem tb_595 : (Jvm.Cond.selects "ProcessHeaps" ({ cls := "ProcessHeaps", name := "items", desc := "(I)I" } : Jvm.MethodName) ({ cls := "ProcessHeaps", name := "items", desc := "(I)I" } : Jvm.MethodName)) ∈ mm_B := mm_inB (List.mem_append_right _ (List.mem_of_getElem? (l := tables_1) (i := 595) (by decide +kernel))) rfl
theorem tb_596 : (Jvm.Cond.code ({ cls := "ProcessHeaps", name := "items", desc := "(I)I" } : Jvm.MethodName) prog_1_method_16_code (2 : Nat) (Option.some Jvm.ClassFile.FieldType.int)) ∈ mm_B := mm_inB (List.mem_append_right _ (List.mem_of_getElem? (l := tables_1) (i := 596) (by decide +kernel))) rfl
theorem tb_597 : (Jvm.Cond.methodLink "ProcessHeaps" (161 : Nat) ({ cls := "ProcessHeaps$Memory", name := "countItems", desc := "(I)I" } : Jvm.MethodName)) ∈ mm_B := mm_inB (List.mem_append_right _ (List.mem_of_getElem? (l := tables_1) (i := 597) (by decide +kernel))) rfl
theorem tb_598 : (Jvm.Cond.instanceMethod ({ cls := "ProcessHeaps$Memory", name := "countItems", desc := "(I)I" } : Jvm.MethodName)) ∈ mm_B := mm_inB (List.mem_append_right _ (List.mem_of_getElem? (l := tables_1) (i := 598) (by decide +kernel))) rfl
theorem tb_599 : (Jvm.Cond.selects "ProcessHeaps$Memory" ({ cls := "ProcessHeaps$Memory", name := "countItems", desc := "(I)I" } : Jvm.MethodName) ({ cls := "ProcessHeaps$Memory", name := "countItems", desc := "(I)I" } : Jvm.MethodName)) ∈ mm_B := mm_inB (List.mem_append_right _ (List.mem_of_getElem? (l := tables_1) (i := 599) (by decide +kernel))) rfl
theorem tb_600 : (Jvm.Cond.code ({ cls := "ProcessHeaps$Memory", name := "countItems", desc := "(I)I" } : Jvm.MethodName) prog_6_method_5_code (4 : Nat) (Option.some Jvm.ClassFile.FieldType.int)) ∈ mm_B := mm_inB (List.mem_append_right _ (List.mem_of_getElem? (l := tables_1) (i := 600) (by decide +kernel))) rfl
theorem tb_601 : (Jvm.Cond.methodLink "ProcessHeapsLaw" (89 : Nat) ({ cls := "ProcessHeaps", name := "use", desc := "(I)I" } : Jvm.MethodName)) ∈ mm_B := mm_inB (List.mem_append_right _ (List.mem_of_getElem? (l := tables_1) (i := 601) (by decide +kernel))) rfl
theorem tb_602 : (Jvm.Cond.instanceMethod ({ cls := "ProcessHeaps", name := "use", desc := "(I)I" } : Jvm.MethodName)) ∈ mm_B := mm_inB (List.mem_append_right _ (List.mem_of_getElem? (l := tables_1) (i := 602) (by decide +kernel))) rfl
theorem tb_603 : (Jvm.Cond.selects "ProcessHeaps" ({ cls := "ProcessHeaps", name := "use", desc := "(I)I" } : Jvm.MethodName) ({ cls := "ProcessHeaps", name := "use", desc := "(I)I" } : Jvm.MethodName)) ∈ mm_B := mm_inB (List.mem_append_right _ (List.mem_of_getElem? (l := tables_1) (i := 603) (by decide +kernel))) rfl
theorem tb_604 : (Jvm.Cond.code ({ cls := "ProcessHeaps", name := "use", desc := "(I)I" } : Jvm.MethodName) prog_1_method_17_code (2 : Nat) (Option.some Jvm.ClassFile.FieldType.int)) ∈ mm_B := mm_inB (List.mem_append_right _ (List.mem_of_getElem? (l := tables_1) (i := 604) (by decide +kernel))) rfl
theorem tb_605 : (Jvm.Cond.methodLink "ProcessHeapsLaw" (93 : Nat) ({ cls := "ProcessHeaps", name := "room", desc := "(I)I" } : Jvm.MethodName)) ∈ mm_B := mm_inB (List.mem_append_right _ (List.mem_of_getElem? (l := tables_1) (i := 605) (by decide +kernel))) rfl
theorem tb_606 : (Jvm.Cond.instanceMethod ({ cls := "ProcessHeaps", name := "room", desc := "(I)I" } : Jvm.MethodName)) ∈ mm_B := mm_inB (List.mem_append_right _ (List.mem_of_getElem? (l := tables_1) (i := 606) (by decide +kernel))) rfl
theorem tb_607 : (Jvm.Cond.selects "ProcessHeaps" ({ cls := "ProcessHeaps", name := "room", desc := "(I)I" } : Jvm.MethodName) ({ cls := "ProcessHeaps", name := "room", desc := "(I)I" } : Jvm.MethodName)) ∈ mm_B := mm_inB (List.mem_append_right _ (List.mem_of_getElem? (l := tables_1) (i := 607) (by decide +kernel))) rfl
theorem tb_608 : (Jvm.Cond.code ({ cls := "ProcessHeaps", name := "room", desc := "(I)I" } : Jvm.MethodName) prog_1_method_18_code (2 : Nat) (Option.some Jvm.ClassFile.FieldType.int)) ∈ mm_B := mm_inB (List.mem_append_right _ (List.mem_of_getElem? (l := tables_1) (i := 608) (by decide +kernel))) rfl
theorem tb_609 : (Jvm.Cond.methodLink "ProcessHeapsLaw" (97 : Nat) ({ cls := "ProcessHeaps", name := "shares", desc := "(II)Z" } : Jvm.MethodName)) ∈ mm_B := mm_inB (List.mem_append_right _ (List.mem_of_getElem? (l := tables_1) (i := 609) (by decide +kernel))) rfl
theorem tb_610 : (Jvm.Cond.instanceMethod ({ cls := "ProcessHeaps", name := "shares", desc := "(II)Z" } : Jvm.MethodName)) ∈ mm_B := mm_inB (List.mem_append_right _ (List.mem_of_getElem? (l := tables_1) (i := 610) (by decide +kernel))) rfl
theorem tb_611 : (Jvm.Cond.selects "ProcessHeaps" ({ cls := "ProcessHeaps", name := "shares", desc := "(II)Z" } : Jvm.MethodName) ({ cls := "ProcessHeaps", name := "shares", desc := "(II)Z" } : Jvm.MethodName)) ∈ mm_B := mm_inB (List.mem_append_right _ (List.mem_of_getElem? (l := tables_1) (i := 611) (by decide +kernel))) rfl
theorem tb_612 : (Jvm.Cond.code ({ cls := "ProcessHeaps", name := "shares", desc := "(II)Z" } : Jvm.MethodName) prog_1_method_19_code (4 : Nat) (Option.some Jvm.ClassFile.FieldType.boolean)) ∈ mm_B := mm_inB (List.mem_append_right _ (List.mem_of_getElem? (l := tables_1) (i := 612) (by decide +kernel))) rfl
theorem tb_613 : (Jvm.Cond.methodLink "ProcessHeapsLaw" (102 : Nat) ({ cls := "ProcessHeaps", name := "where", desc := "(II)I" } : Jvm.MethodName)) ∈ mm_B := mm_inB (List.mem_append_right _ (List.mem_of_getElem? (l := tables_1) (i := 613) (by decide +kernel))) rfl
theorem tb_614 : (Jvm.Cond.instanceMethod ({ cls := "ProcessHeaps", name := "where", desc := "(II)I" } : Jvm.MethodName)) ∈ mm_B := mm_inB (List.mem_append_right _ (List.mem_of_getElem? (l := tables_1) (i := 614) (by decide +kernel))) rfl
theorem tb_615 : (Jvm.Cond.selects "ProcessHeaps" ({ cls := "ProcessHeaps", name := "where", desc := "(II)I" } : Jvm.MethodName) ({ cls := "ProcessHeaps", name := "where", desc := "(II)I" } : Jvm.MethodName)) ∈ mm_B := mm_inB (List.mem_append_right _ (List.mem_of_getElem? (l := tables_1) (i := 615) (by decide +kernel))) rfl
theorem tb_616 : (Jvm.Cond.code ({ cls := "ProcessHeaps", name := "where", desc := "(II)I" } : Jvm.MethodName) prog_1_method_20_code (5 : Nat) (Option.some Jvm.ClassFile.FieldType.int)) ∈ mm_B := mm_inB (List.mem_append_right _ (List.mem_of_getElem? (l := tables_1) (i := 616) (by decide +kernel))) rfl
theorem tb_617 : (Jvm.Cond.methodLink "ProcessHeapsLaw" (106 : Nat) ({ cls := "ProcessHeaps", name := "tag", desc := "(II)I" } : Jvm.MethodName)) ∈ mm_B := mm_inB (List.mem_append_right _ (List.mem_of_getElem? (l := tables_1) (i := 617) (by decide +kernel))) rfl
theorem tb_618 : (Jvm.Cond.instanceMethod ({ cls := "ProcessHeaps", name := "tag", desc := "(II)I" } : Jvm.MethodName)) ∈ mm_B := mm_inB (List.mem_append_right _ (List.mem_of_getElem? (l := tables_1) (i := 618) (by decide +kernel))) rfl
theorem tb_619 : (Jvm.Cond.selects "ProcessHeaps" ({ cls := "ProcessHeaps", name := "tag", desc := "(II)I" } : Jvm.MethodName) ({ cls := "ProcessHeaps", name := "tag", desc := "(II)I" } : Jvm.MethodName)) ∈ mm_B := mm_inB (List.mem_append_right _ (List.mem_of_getElem? (l := tables_1) (i := 619) (by decide +kernel))) rfl
theorem tb_620 : (Jvm.Cond.code ({ cls := "ProcessHeaps", name := "tag", desc := "(II)I" } : Jvm.MethodName) prog_1_method_21_code (5 : Nat) (Option.some Jvm.ClassFile.FieldType.int)) ∈ mm_B := mm_inB (List.mem_append_right _ (List.mem_of_getElem? (l := tables_1) (i := 620) (by decide +kernel))) rfl
theorem tb_621 : (Jvm.Cond.methodLink "ProcessHeapsLaw" (9 : Nat) ({ cls := "ProcessHeapsLaw", name := "cell", desc := "([II)I" } : Jvm.MethodName)) ∈ mm_B := mm_inB (List.mem_append_right _ (List.mem_of_getElem? (l := tables_1) (i := 621) (by decide +kernel))) rfl
theorem tb_622 : (Jvm.Cond.static ({ cls := "ProcessHeapsLaw", name := "cell", desc := "([II)I" } : Jvm.MethodName)) ∈ mm_B := mm_inB (List.mem_append_right _ (List.mem_of_getElem? (l := tables_1) (i := 622) (by decide +kernel))) rfl
theorem tb_623 : (Jvm.Cond.code ({ cls := "ProcessHeapsLaw", name := "cell", desc := "([II)I" } : Jvm.MethodName) method_2_code (2 : Nat) (Option.some Jvm.ClassFile.FieldType.int)) ∈ mm_B := mm_inB (List.mem_append_right _ (List.mem_of_getElem? (l := tables_1) (i := 623) (by decide +kernel))) rfl
theorem tb_624 : (Jvm.Cond.classLink "ProcessHeapsLaw" (18 : Nat) "ProcessHeapsModel") ∈ mm_B := mm_inB (List.mem_append_right _ (List.mem_of_getElem? (l := tables_1) (i := 624) (by decide +kernel))) rfl
theorem tb_625 : (Jvm.Cond.instantiable "ProcessHeapsModel" (25 : Nat)) ∈ mm_B := mm_inB (List.mem_append_right _ (List.mem_of_getElem? (l := tables_1) (i := 625) (by decide +kernel))) rfl
theorem tb_626 : (Jvm.Cond.methodLink "ProcessHeapsLaw" (20 : Nat) ({ cls := "ProcessHeapsModel", name := "<init>", desc := "(I)V" } : Jvm.MethodName)) ∈ mm_B := mm_inB (List.mem_append_right _ (List.mem_of_getElem? (l := tables_1) (i := 626) (by decide +kernel))) rfl
theorem tb_627 : (Jvm.Cond.instanceMethod ({ cls := "ProcessHeapsModel", name := "<init>", desc := "(I)V" } : Jvm.MethodName)) ∈ mm_B := mm_inB (List.mem_append_right _ (List.mem_of_getElem? (l := tables_1) (i := 627) (by decide +kernel))) rfl
theorem tb_628 : (Jvm.Cond.code ({ cls := "ProcessHeapsModel", name := "<init>", desc := "(I)V" } : Jvm.MethodName) prog_9_method_1_code (2 : Nat) (Option.none : Option Jvm.ClassFile.FieldType)) ∈ mm_B := mm_inB (List.mem_append_right _ (List.mem_of_getElem? (l := tables_1) (i := 628) (by decide +kernel))) rfl
theorem tb_629 : (Jvm.Cond.methodLink "ProcessHeapsModel" (1 : Nat) ({ cls := "java/lang/Object", name := "<init>", desc := "()V" } : Jvm.MethodName)) ∈ mm_B := mm_inB (List.mem_append_right _ (List.mem_of_getElem? (l := tables_1) (i := 629) (by decide +kernel))) rfl
theorem tb_630 : (Jvm.Cond.fieldLink "ProcessHeapsModel" (7 : Nat) "ProcessHeapsModel" "phase" "[I") ∈ mm_B := mm_inB (List.mem_append_right _ (List.mem_of_getElem? (l := tables_1) (i := 630) (by decide +kernel))) rfl
theorem tb_631 : (Jvm.Cond.fieldLink "ProcessHeapsModel" (13 : Nat) "ProcessHeapsModel" "parent" "[I") ∈ mm_B := mm_inB (List.mem_append_right _ (List.mem_of_getElem? (l := tables_1) (i := 631) (by decide +kernel))) rfl
theorem tb_632 : (Jvm.Cond.fieldLink "ProcessHeapsModel" (16 : Nat) "ProcessHeapsModel" "limit" "[I") ∈ mm_B := mm_inB (List.mem_append_right _ (List.mem_of_getElem? (l := tables_1) (i := 632) (by decide +kernel))) rfl
theorem tb_633 : (Jvm.Cond.fieldLink "ProcessHeapsModel" (19 : Nat) "ProcessHeapsModel" "hard" "[Z") ∈ mm_B := mm_inB (List.mem_append_right _ (List.mem_of_getElem? (l := tables_1) (i := 633) (by decide +kernel))) rfl
theorem tb_634 : (Jvm.Cond.fieldLink "ProcessHeapsModel" (77 : Nat) "ProcessHeapsModel" "made" "I") ∈ mm_B := mm_inB (List.mem_append_right _ (List.mem_of_getElem? (l := tables_1) (i := 634) (by decide +kernel))) rfl
theorem tb_635 : (Jvm.Cond.fieldLink "ProcessHeapsModel" (23 : Nat) "ProcessHeapsModel" "reg" "[I") ∈ mm_B := mm_inB (List.mem_append_right _ (List.mem_of_getElem? (l := tables_1) (i := 635) (by decide +kernel))) rfl
theorem tb_636 : (Jvm.Cond.fieldLink "ProcessHeapsModel" (26 : Nat) "ProcessHeapsModel" "home" "[I") ∈ mm_B := mm_inB (List.mem_append_right _ (List.mem_of_getElem? (l := tables_1) (i := 636) (by decide +kernel))) rfl
theorem tb_637 : (Jvm.Cond.fieldLink "ProcessHeapsModel" (29 : Nat) "ProcessHeapsModel" "size" "[I") ∈ mm_B := mm_inB (List.mem_append_right _ (List.mem_of_getElem? (l := tables_1) (i := 637) (by decide +kernel))) rfl
theorem tb_638 : (Jvm.Cond.fieldLink "ProcessHeapsModel" (32 : Nat) "ProcessHeapsModel" "label" "[I") ∈ mm_B := mm_inB (List.mem_append_right _ (List.mem_of_getElem? (l := tables_1) (i := 638) (by decide +kernel))) rfl
theorem tb_639 : (Jvm.Cond.fieldLink "ProcessHeapsModel" (35 : Nat) "ProcessHeapsModel" "page" "[I") ∈ mm_B := mm_inB (List.mem_append_right _ (List.mem_of_getElem? (l := tables_1) (i := 639) (by decide +kernel))) rfl
theorem tb_640 : (Jvm.Cond.fieldLink "ProcessHeapsModel" (38 : Nat) "ProcessHeapsModel" "field" "[I") ∈ mm_B := mm_inB (List.mem_append_right _ (List.mem_of_getElem? (l := tables_1) (i := 640) (by decide +kernel))) rfl
theorem tb_641 : (Jvm.Cond.fieldLink "ProcessHeapsModel" (41 : Nat) "ProcessHeapsModel" "owner" "[I") ∈ mm_B := mm_inB (List.mem_append_right _ (List.mem_of_getElem? (l := tables_1) (i := 641) (by decide +kernel))) rfl
theorem tb_642 : (Jvm.Cond.fieldLink "ProcessHeapsModel" (44 : Nat) "ProcessHeapsModel" "payer" "[I") ∈ mm_B := mm_inB (List.mem_append_right _ (List.mem_of_getElem? (l := tables_1) (i := 642) (by decide +kernel))) rfl
theorem tb_643 : (Jvm.Cond.fieldLink "ProcessHeapsModel" (47 : Nat) "ProcessHeapsModel" "order" "[I") ∈ mm_B := mm_inB (List.mem_append_right _ (List.mem_of_getElem? (l := tables_1) (i := 643) (by decide +kernel))) rfl
theorem tb_644 : (Jvm.Cond.fieldLink "ProcessHeapsModel" (118 : Nat) "ProcessHeapsModel" "latest" "I") ∈ mm_B := mm_inB (List.mem_append_right _ (List.mem_of_getElem? (l := tables_1) (i := 644) (by decide +kernel))) rfl
theorem tb_645 : (Jvm.Cond.fieldLink "ProcessHeapsModel" (50 : Nat) "ProcessHeapsModel" "stage" "[I") ∈ mm_B := mm_inB (List.mem_append_right _ (List.mem_of_getElem? (l := tables_1) (i := 645) (by decide +kernel))) rfl
theorem tb_646 : (Jvm.Cond.fieldLink "ProcessHeapsModel" (53 : Nat) "ProcessHeapsModel" "builder" "[I") ∈ mm_B := mm_inB (List.mem_append_right _ (List.mem_of_getElem? (l := tables_1) (i := 646) (by decide +kernel))) rfl
theorem tb_647 : (Jvm.Cond.fieldLink "ProcessHeapsModel" (56 : Nat) "ProcessHeapsModel" "first" "[I") ∈ mm_B := mm_inB (List.mem_append_right _ (List.mem_of_getElem? (l := tables_1) (i := 647) (by decide +kernel))) rfl
theorem tb_648 : (Jvm.Cond.fieldLink "ProcessHeapsModel" (144 : Nat) "ProcessHeapsModel" "begun" "I") ∈ mm_B := mm_inB (List.mem_append_right _ (List.mem_of_getElem? (l := tables_1) (i := 648) (by decide +kernel))) rfl
theorem tb_649 : (Jvm.Cond.fieldLink "ProcessHeapsModel" (59 : Nat) "ProcessHeapsModel" "sharing" "[Z") ∈ mm_B := mm_inB (List.mem_append_right _ (List.mem_of_getElem? (l := tables_1) (i := 649) (by decide +kernel))) rfl
theorem tb_650 : (Jvm.Cond.fieldLink "ProcessHeapsModel" (62 : Nat) "ProcessHeapsModel" "paying" "[Z") ∈ mm_B := mm_inB (List.mem_append_right _ (List.mem_of_getElem? (l := tables_1) (i := 650) (by decide +kernel))) rfl
theorem tb_651 : (Jvm.Cond.fieldLink "ProcessHeapsModel" (65 : Nat) "ProcessHeapsModel" "item" "[Z") ∈ mm_B := mm_inB (List.mem_append_right _ (List.mem_of_getElem? (l := tables_1) (i := 651) (by decide +kernel))) rfl
theorem tb_652 : (Jvm.Cond.fieldLink "ProcessHeapsModel" (68 : Nat) "ProcessHeapsModel" "used" "[I") ∈ mm_B := mm_inB (List.mem_append_right _ (List.mem_of_getElem? (l := tables_1) (i := 652) (by decide +kernel))) rfl
theorem tb_653 : (Jvm.Cond.fieldLink "ProcessHeapsModel" (71 : Nat) "ProcessHeapsModel" "there" "[Z") ∈ mm_B := mm_inB (List.mem_append_right _ (List.mem_of_getElem? (l := tables_1) (i := 653) (by decide +kernel))) rfl
theorem tb_654 : (Jvm.Cond.fieldLink "ProcessHeapsModel" (74 : Nat) "ProcessHeapsModel" "mark" "[Z") ∈ mm_B := mm_inB (List.mem_append_right _ (List.mem_of_getElem? (l := tables_1) (i := 654) (by decide +kernel))) rfl
theorem tb_655 : (Jvm.Cond.laysFinal "ProcessHeapsModel" "ProcessHeapsModel" "phase" "[I") ∈ mm_B := mm_inB (List.mem_append_right _ (List.mem_of_getElem? (l := tables_1) (i := 655) (by decide +kernel))) rfl
theorem tb_657 : (Jvm.Cond.laysFinal "ProcessHeapsModel" "ProcessHeapsModel" "parent" "[I") ∈ mm_B := mm_inB (List.mem_append_right _ (List.mem_of_getElem? (l := tables_1) (i := 657) (by decide +kernel))) rfl
theorem tb_659 : (Jvm.Cond.laysFinal "ProcessHeapsModel" "ProcessHeapsModel" "limit" "[I") ∈ mm_B := mm_inB (List.mem_append_right _ (List.mem_of_getElem? (l := tables_1) (i := 659) (by decide +kernel))) rfl
theorem tb_661 : (Jvm.Cond.laysFinal "ProcessHeapsModel" "ProcessHeapsModel" "hard" "[Z") ∈ mm_B := mm_inB (List.mem_append_right _ (List.mem_of_getElem? (l := tables_1) (i := 661) (by decide +kernel))) rfl
theorem tb_663 : (Jvm.Cond.lays "ProcessHeapsModel" "ProcessHeapsModel" "made" "I") ∈ mm_B := mm_inB (List.mem_append_right _ (List.mem_of_getElem? (l := tables_1) (i := 663) (by decide +kernel))) rfl
theorem tb_665 : (Jvm.Cond.laysFinal "ProcessHeapsModel" "ProcessHeapsModel" "reg" "[I") ∈ mm_B := mm_inB (List.mem_append_right _ (List.mem_of_getElem? (l := tables_1) (i := 665) (by decide +kernel))) rfl
theorem tb_667 : (Jvm.Cond.laysFinal "ProcessHeapsModel" "ProcessHeapsModel" "home" "[I") ∈ mm_B := mm_inB (List.mem_append_right _ (List.mem_of_getElem? (l := tables_1) (i := 667) (by decide +kernel))) rfl
theorem tb_669 : (Jvm.Cond.laysFinal "ProcessHeapsModel" "ProcessHeapsModel" "size" "[I") ∈ mm_B := mm_inB (List.mem_append_right _ (List.mem_of_getElem? (l := tables_1) (i := 669) (by decide +kernel))) rfl
theorem tb_671 : (Jvm.Cond.laysFinal "ProcessHeapsModel" "ProcessHeapsModel" "label" "[I") ∈ mm_B := mm_inB (List.mem_append_right _ (List.mem_of_getElem? (l := tables_1) (i := 671) (by decide +kernel))) rfl
theorem tb_673 : (Jvm.Cond.laysFinal "ProcessHeapsModel" "ProcessHeapsModel" "page" "[I") ∈ mm_B := mm_inB (List.mem_append_right _ (List.mem_of_getElem? (l := tables_1) (i := 673) (by decide +kernel))) rfl
theorem tb_675 : (Jvm.Cond.laysFinal "ProcessHeapsModel" "ProcessHeapsModel" "field" "[I") ∈ mm_B := mm_inB (List.mem_append_right _ (List.mem_of_getElem? (l := tables_1) (i := 675) (by decide +kernel))) rfl
theorem tb_677 : (Jvm.Cond.laysFinal "ProcessHeapsModel" "ProcessHeapsModel" "owner" "[I") ∈ mm_B := mm_inB (List.mem_append_right _ (List.mem_of_getElem? (l := tables_1) (i := 677) (by decide +kernel))) rfl
theorem tb_679 : (Jvm.Cond.laysFinal "ProcessHeapsModel" "ProcessHeapsModel" "payer" "[I") ∈ mm_B := mm_inB (List.mem_append_right _ (List.mem_of_getElem? (l := tables_1) (i := 679) (by decide +kernel))) rfl
theorem tb_681 : (Jvm.Cond.laysFinal "ProcessHeapsModel" "ProcessHeapsModel" "order" "[I") ∈ mm_B := mm_inB (List.mem_append_right _ (List.mem_of_getElem? (l := tables_1) (i := 681) (by decide +kernel))) rfl
theorem tb_683 : (Jvm.Cond.lays "ProcessHeapsModel" "ProcessHeapsModel" "latest" "I") ∈ mm_B := mm_inB (List.mem_append_right _ (List.mem_of_getElem? (l := tables_1) (i := 683) (by decide +kernel))) rfl
theorem tb_685 : (Jvm.Cond.laysFinal "ProcessHeapsModel" "ProcessHeapsModel" "stage" "[I") ∈ mm_B := mm_inB (List.mem_append_right _ (List.mem_of_getElem? (l := tables_1) (i := 685) (by decide +kernel))) rfl
theorem tb_687 : (Jvm.Cond.laysFinal "ProcessHeapsModel" "ProcessHeapsModel" "builder" "[I") ∈ mm_B := mm_inB (List.mem_append_right _ (List.mem_of_getElem? (l := tables_1) (i := 687) (by decide +kernel))) rfl
theorem tb_689 : (Jvm.Cond.laysFinal "ProcessHeapsModel" "ProcessHeapsModel" "first" "[I") ∈ mm_B := mm_inB (List.mem_append_right _ (List.mem_of_getElem? (l := tables_1) (i := 689) (by decide +kernel))) rfl
theorem tb_691 : (Jvm.Cond.lays "ProcessHeapsModel" "ProcessHeapsModel" "begun" "I") ∈ mm_B := mm_inB (List.mem_append_right _ (List.mem_of_getElem? (l := tables_1) (i := 691) (by decide +kernel))) rfl
theorem tb_693 : (Jvm.Cond.laysFinal "ProcessHeapsModel" "ProcessHeapsModel" "sharing" "[Z") ∈ mm_B := mm_inB (List.mem_append_right _ (List.mem_of_getElem? (l := tables_1) (i := 693) (by decide +kernel))) rfl
theorem tb_695 : (Jvm.Cond.laysFinal "ProcessHeapsModel" "ProcessHeapsModel" "paying" "[Z") ∈ mm_B := mm_inB (List.mem_append_right _ (List.mem_of_getElem? (l := tables_1) (i := 695) (by decide +kernel))) rfl
theorem tb_697 : (Jvm.Cond.laysFinal "ProcessHeapsModel" "ProcessHeapsModel" "item" "[Z") ∈ mm_B := mm_inB (List.mem_append_right _ (List.mem_of_getElem? (l := tables_1) (i := 697) (by decide +kernel))) rfl
theorem tb_699 : (Jvm.Cond.laysFinal "ProcessHeapsModel" "ProcessHeapsModel" "used" "[I") ∈ mm_B := mm_inB (List.mem_append_right _ (List.mem_of_getElem? (l := tables_1) (i := 699) (by decide +kernel))) rfl
theorem tb_701 : (Jvm.Cond.laysFinal "ProcessHeapsModel" "ProcessHeapsModel" "there" "[Z") ∈ mm_B := mm_inB (List.mem_append_right _ (List.mem_of_getElem? (l := tables_1) (i := 701) (by decide +kernel))) rfl
theorem tb_703 : (Jvm.Cond.laysFinal "ProcessHeapsModel" "ProcessHeapsModel" "mark" "[Z") ∈ mm_B := mm_inB (List.mem_append_right _ (List.mem_of_getElem? (l := tables_1) (i := 703) (by decide +kernel))) rfl
theorem tb_706 : (Jvm.Cond.methodLink "ProcessHeapsLaw" (25 : Nat) ({ cls := "ProcessHeapsModel", name := "spawn", desc := "(IIZ)I" } : Jvm.MethodName)) ∈ mm_B := mm_inB (List.mem_append_right _ (List.mem_of_getElem? (l := tables_1) (i := 706) (by decide +kernel))) rfl
theorem tb_707 : (Jvm.Cond.instanceMethod ({ cls := "ProcessHeapsModel", name := "spawn", desc := "(IIZ)I" } : Jvm.MethodName)) ∈ mm_B := mm_inB (List.mem_append_right _ (List.mem_of_getElem? (l := tables_1) (i := 707) (by decide +kernel))) rfl
theorem tb_708 : (Jvm.Cond.selects "ProcessHeapsModel" ({ cls := "ProcessHeapsModel", name := "spawn", desc := "(IIZ)I" } : Jvm.MethodName) ({ cls := "ProcessHeapsModel", name := "spawn", desc := "(IIZ)I" } : Jvm.MethodName)) ∈ mm_B := mm_inB (List.mem_append_right _ (List.mem_of_getElem? (l := tables_1) (i := 708) (by decide +kernel))) rfl
theorem tb_709 : (Jvm.Cond.code ({ cls := "ProcessHeapsModel", name := "spawn", desc := "(IIZ)I" } : Jvm.MethodName) prog_9_method_17_code (4 : Nat) (Option.some Jvm.ClassFile.FieldType.int)) ∈ mm_B := mm_inB (List.mem_append_right _ (List.mem_of_getElem? (l := tables_1) (i := 709) (by decide +kernel))) rfl
theorem tb_710 : (Jvm.Cond.methodLink "ProcessHeapsModel" (89 : Nat) ({ cls := "ProcessHeapsModel", name := "lives", desc := "(I)Z" } : Jvm.MethodName)) ∈ mm_B := mm_inB (List.mem_append_right _ (List.mem_of_getElem? (l := tables_1) (i := 710) (by decide +kernel))) rfl
theorem tb_712 : (Jvm.Cond.instanceMethod ({ cls := "ProcessHeapsModel", name := "lives", desc := "(I)Z" } : Jvm.MethodName)) ∈ mm_B := mm_inB (List.mem_append_right _ (List.mem_of_getElem? (l := tables_1) (i := 712) (by decide +kernel))) rfl
theorem tb_713 : (Jvm.Cond.code ({ cls := "ProcessHeapsModel", name := "lives", desc := "(I)Z" } : Jvm.MethodName) prog_9_method_2_code (2 : Nat) (Option.some Jvm.ClassFile.FieldType.boolean)) ∈ mm_B := mm_inB (List.mem_append_right _ (List.mem_of_getElem? (l := tables_1) (i := 713) (by decide +kernel))) rfl
theorem tb_714 : (Jvm.Cond.methodLink "ProcessHeapsModel" (124 : Nat) ({ cls := "ProcessHeapsModel", name := "rest", desc := "(I)I" } : Jvm.MethodName)) ∈ mm_B := mm_inB (List.mem_append_right _ (List.mem_of_getElem? (l := tables_1) (i := 714) (by decide +kernel))) rfl
theorem tb_716 : (Jvm.Cond.instanceMethod ({ cls := "ProcessHeapsModel", name := "rest", desc := "(I)I" } : Jvm.MethodName)) ∈ mm_B := mm_inB (List.mem_append_right _ (List.mem_of_getElem? (l := tables_1) (i := 716) (by decide +kernel))) rfl
theorem tb_717 : (Jvm.Cond.code ({ cls := "ProcessHeapsModel", name := "rest", desc := "(I)I" } : Jvm.MethodName) prog_9_method_6_code (5 : Nat) (Option.some Jvm.ClassFile.FieldType.int)) ∈ mm_B := mm_inB (List.mem_append_right _ (List.mem_of_getElem? (l := tables_1) (i := 717) (by decide +kernel))) rfl
theorem tb_718 : (Jvm.Cond.methodLink "ProcessHeapsModel" (92 : Nat) ({ cls := "ProcessHeapsModel", name := "work", desc := "()V" } : Jvm.MethodName)) ∈ mm_B := mm_inB (List.mem_append_right _ (List.mem_of_getElem? (l := tables_1) (i := 718) (by decide +kernel))) rfl
theorem tb_720 : (Jvm.Cond.instanceMethod ({ cls := "ProcessHeapsModel", name := "work", desc := "()V" } : Jvm.MethodName)) ∈ mm_B := mm_inB (List.mem_append_right _ (List.mem_of_getElem? (l := tables_1) (i := 720) (by decide +kernel))) rfl
theorem tb_721 : (Jvm.Cond.code ({ cls := "ProcessHeapsModel", name := "work", desc := "()V" } : Jvm.MethodName) prog_9_method_5_code (6 : Nat) (Option.none : Option Jvm.ClassFile.FieldType)) ∈ mm_B := mm_inB (List.mem_append_right _ (List.mem_of_getElem? (l := tables_1) (i := 721) (by decide +kernel))) rfl
theorem tb_722 : (Jvm.Cond.methodLink "ProcessHeapsModel" (81 : Nat) ({ cls := "ProcessHeapsModel", name := "frozen", desc := "(I)Z" } : Jvm.MethodName)) ∈ mm_B := mm_inB (List.mem_append_right _ (List.mem_of_getElem? (l := tables_1) (i := 722) (by decide +kernel))) rfl
theorem tb_724 : (Jvm.Cond.instanceMethod ({ cls := "ProcessHeapsModel", name := "frozen", desc := "(I)Z" } : Jvm.MethodName)) ∈ mm_B := mm_inB (List.mem_append_right _ (List.mem_of_getElem? (l := tables_1) (i := 724) (by decide +kernel))) rfl
theorem tb_725 : (Jvm.Cond.code ({ cls := "ProcessHeapsModel", name := "frozen", desc := "(I)Z" } : Jvm.MethodName) prog_9_method_4_code (2 : Nat) (Option.some Jvm.ClassFile.FieldType.boolean)) ∈ mm_B := mm_inB (List.mem_append_right _ (List.mem_of_getElem? (l := tables_1) (i := 725) (by decide +kernel))) rfl
theorem tb_726 : (Jvm.Cond.methodLink "ProcessHeapsModel" (85 : Nat) ({ cls := "ProcessHeapsModel", name := "pages", desc := "(I)I" } : Jvm.MethodName)) ∈ mm_B := mm_inB (List.mem_append_right _ (List.mem_of_getElem? (l := tables_1) (i := 726) (by decide +kernel))) rfl
theorem tb_727 : (Jvm.Cond.instanceMethod ({ cls := "ProcessHeapsModel", name := "pages", desc := "(I)I" } : Jvm.MethodName)) ∈ mm_B := mm_inB (List.mem_append_right _ (List.mem_of_getElem? (l := tables_1) (i := 727) (by decide +kernel))) rfl
theorem tb_728 : (Jvm.Cond.selects "ProcessHeapsModel" ({ cls := "ProcessHeapsModel", name := "pages", desc := "(I)I" } : Jvm.MethodName) ({ cls := "ProcessHeapsModel", name := "pages", desc := "(I)I" } : Jvm.MethodName)) ∈ mm_B := mm_inB (List.mem_append_right _ (List.mem_of_getElem? (l := tables_1) (i := 728) (by decide +kernel))) rfl
theorem tb_729 : (Jvm.Cond.code ({ cls := "ProcessHeapsModel", name := "pages", desc := "(I)I" } : Jvm.MethodName) prog_9_method_31_code (4 : Nat) (Option.some Jvm.ClassFile.FieldType.int)) ∈ mm_B := mm_inB (List.mem_append_right _ (List.mem_of_getElem? (l := tables_1) (i := 729) (by decide +kernel))) rfl
theorem tb_730 : (Jvm.Cond.methodLink "ProcessHeapsLaw" (30 : Nat) ({ cls := "ProcessHeapsModel", name := "kill", desc := "(I)Z" } : Jvm.MethodName)) ∈ mm_B := mm_inB (List.mem_append_right _ (List.mem_of_getElem? (l := tables_1) (i := 730) (by decide +kernel))) rfl
theorem tb_731 : (Jvm.Cond.instanceMethod ({ cls := "ProcessHeapsModel", name := "kill", desc := "(I)Z" } : Jvm.MethodName)) ∈ mm_B := mm_inB (List.mem_append_right _ (List.mem_of_getElem? (l := tables_1) (i := 731) (by decide +kernel))) rfl
theorem tb_732 : (Jvm.Cond.selects "ProcessHeapsModel" ({ cls := "ProcessHeapsModel", name := "kill", desc := "(I)Z" } : Jvm.MethodName) ({ cls := "ProcessHeapsModel", name := "kill", desc := "(I)Z" } : Jvm.MethodName)) ∈ mm_B := mm_inB (List.mem_append_right _ (List.mem_of_getElem? (l := tables_1) (i := 732) (by decide +kernel))) rfl
theorem tb_733 : (Jvm.Cond.code ({ cls := "ProcessHeapsModel", name := "kill", desc := "(I)Z" } : Jvm.MethodName) prog_9_method_18_code (2 : Nat) (Option.some Jvm.ClassFile.FieldType.boolean)) ∈ mm_B := mm_inB (List.mem_append_right _ (List.mem_of_getElem? (l := tables_1) (i := 733) (by decide +kernel))) rfl
theorem tb_734 : (Jvm.Cond.methodLink "ProcessHeapsModel" (127 : Nat) ({ cls := "ProcessHeapsModel", name := "die", desc := "(I)V" } : Jvm.MethodName)) ∈ mm_B := mm_inB (List.mem_append_right _ (List.mem_of_getElem? (l := tables_1) (i := 734) (by decide +kernel))) rfl
theorem tb_736 : (Jvm.Cond.instanceMethod ({ cls := "ProcessHeapsModel", name := "die", desc := "(I)V" } : Jvm.MethodName)) ∈ mm_B := mm_inB (List.mem_append_right _ (List.mem_of_getElem? (l := tables_1) (i := 736) (by decide +kernel))) rfl
theorem tb_737 : (Jvm.Cond.code ({ cls := "ProcessHeapsModel", name := "die", desc := "(I)V" } : Jvm.MethodName) prog_9_method_16_code (4 : Nat) (Option.none : Option Jvm.ClassFile.FieldType)) ∈ mm_B := mm_inB (List.mem_append_right _ (List.mem_of_getElem? (l := tables_1) (i := 737) (by decide +kernel))) rfl
theorem tb_738 : (Jvm.Cond.methodLink "ProcessHeapsModel" (109 : Nat) ({ cls := "ProcessHeapsModel", name := "names", desc := "(II)Z" } : Jvm.MethodName)) ∈ mm_B := mm_inB (List.mem_append_right _ (List.mem_of_getElem? (l := tables_1) (i := 738) (by decide +kernel))) rfl
theorem tb_740 : (Jvm.Cond.instanceMethod ({ cls := "ProcessHeapsModel", name := "names", desc := "(II)Z" } : Jvm.MethodName)) ∈ mm_B := mm_inB (List.mem_append_right _ (List.mem_of_getElem? (l := tables_1) (i := 740) (by decide +kernel))) rfl
theorem tb_741 : (Jvm.Cond.code ({ cls := "ProcessHeapsModel", name := "names", desc := "(II)Z" } : Jvm.MethodName) prog_9_method_8_code (5 : Nat) (Option.some Jvm.ClassFile.FieldType.boolean)) ∈ mm_B := mm_inB (List.mem_append_right _ (List.mem_of_getElem? (l := tables_1) (i := 741) (by decide +kernel))) rfl
theorem tb_742 : (Jvm.Cond.methodLink "ProcessHeapsModel" (121 : Nat) ({ cls := "ProcessHeapsModel", name := "merge", desc := "(I)V" } : Jvm.MethodName)) ∈ mm_B := mm_inB (List.mem_append_right _ (List.mem_of_getElem? (l := tables_1) (i := 742) (by decide +kernel))) rfl
theorem tb_744 : (Jvm.Cond.instanceMethod ({ cls := "ProcessHeapsModel", name := "merge", desc := "(I)V" } : Jvm.MethodName)) ∈ mm_B := mm_inB (List.mem_append_right _ (List.mem_of_getElem? (l := tables_1) (i := 744) (by decide +kernel))) rfl
theorem tb_745 : (Jvm.Cond.code ({ cls := "ProcessHeapsModel", name := "merge", desc := "(I)V" } : Jvm.MethodName) prog_9_method_15_code (5 : Nat) (Option.none : Option Jvm.ClassFile.FieldType)) ∈ mm_B := mm_inB (List.mem_append_right _ (List.mem_of_getElem? (l := tables_1) (i := 745) (by decide +kernel))) rfl
theorem tb_746 : (Jvm.Cond.methodLink "ProcessHeapsModel" (115 : Nat) ({ cls := "ProcessHeapsModel", name := "vanish", desc := "()V" } : Jvm.MethodName)) ∈ mm_B := mm_inB (List.mem_append_right _ (List.mem_of_getElem? (l := tables_1) (i := 746) (by decide +kernel))) rfl
theorem tb_748 : (Jvm.Cond.instanceMethod ({ cls := "ProcessHeapsModel", name := "vanish", desc := "()V" } : Jvm.MethodName)) ∈ mm_B := mm_inB (List.mem_append_right _ (List.mem_of_getElem? (l := tables_1) (i := 748) (by decide +kernel))) rfl
theorem tb_749 : (Jvm.Cond.code ({ cls := "ProcessHeapsModel", name := "vanish", desc := "()V" } : Jvm.MethodName) prog_9_method_14_code (4 : Nat) (Option.none : Option Jvm.ClassFile.FieldType)) ∈ mm_B := mm_inB (List.mem_append_right _ (List.mem_of_getElem? (l := tables_1) (i := 749) (by decide +kernel))) rfl
theorem tb_750 : (Jvm.Cond.methodLink "ProcessHeapsModel" (103 : Nat) ({ cls := "ProcessHeapsModel", name := "free", desc := "(I)V" } : Jvm.MethodName)) ∈ mm_B := mm_inB (List.mem_append_right _ (List.mem_of_getElem? (l := tables_1) (i := 750) (by decide +kernel))) rfl
theorem tb_752 : (Jvm.Cond.instanceMethod ({ cls := "ProcessHeapsModel", name := "free", desc := "(I)V" } : Jvm.MethodName)) ∈ mm_B := mm_inB (List.mem_append_right _ (List.mem_of_getElem? (l := tables_1) (i := 752) (by decide +kernel))) rfl
theorem tb_753 : (Jvm.Cond.code ({ cls := "ProcessHeapsModel", name := "free", desc := "(I)V" } : Jvm.MethodName) prog_9_method_7_code (5 : Nat) (Option.none : Option Jvm.ClassFile.FieldType)) ∈ mm_B := mm_inB (List.mem_append_right _ (List.mem_of_getElem? (l := tables_1) (i := 753) (by decide +kernel))) rfl
theorem tb_754 : (Jvm.Cond.methodLink "ProcessHeapsLaw" (35 : Nat) ({ cls := "ProcessHeapsModel", name := "mode", desc := "(IZ)Z" } : Jvm.MethodName)) ∈ mm_B := mm_inB (List.mem_append_right _ (List.mem_of_getElem? (l := tables_1) (i := 754) (by decide +kernel))) rfl
theorem tb_755 : (Jvm.Cond.instanceMethod ({ cls := "ProcessHeapsModel", name := "mode", desc := "(IZ)Z" } : Jvm.MethodName)) ∈ mm_B := mm_inB (List.mem_append_right _ (List.mem_of_getElem? (l := tables_1) (i := 755) (by decide +kernel))) rfl
theorem tb_756 : (Jvm.Cond.selects "ProcessHeapsModel" ({ cls := "ProcessHeapsModel", name := "mode", desc := "(IZ)Z" } : Jvm.MethodName) ({ cls := "ProcessHeapsModel", name := "mode", desc := "(IZ)Z" } : Jvm.MethodName)) ∈ mm_B := mm_inB (List.mem_append_right _ (List.mem_of_getElem? (l := tables_1) (i := 756) (by decide +kernel))) rfl
theorem tb_757 : (Jvm.Cond.code ({ cls := "ProcessHeapsModel", name := "mode", desc := "(IZ)Z" } : Jvm.MethodName) prog_9_method_19_code (3 : Nat) (Option.some Jvm.ClassFile.FieldType.boolean)) ∈ mm_B := mm_inB (List.mem_append_right _ (List.mem_of_getElem? (l := tables_1) (i := 757) (by decide +kernel))) rfl
theorem tb_758 : (Jvm.Cond.methodLink "ProcessHeapsLaw" (40 : Nat) ({ cls := "ProcessHeapsModel", name := "make", desc := "(IIII)I" } : Jvm.MethodName)) ∈ mm_B := mm_inB (List.mem_append_right _ (List.mem_of_getElem? (l := tables_1) (i := 758) (by decide +kernel))) rfl
theorem tb_759 : (Jvm.Cond.instanceMethod ({ cls := "ProcessHeapsModel", name := "make", desc := "(IIII)I" } : Jvm.MethodName)) ∈ mm_B := mm_inB (List.mem_append_right _ (List.mem_of_getElem? (l := tables_1) (i := 759) (by decide +kernel))) rfl
theorem tb_760 : (Jvm.Cond.selects "ProcessHeapsModel" ({ cls := "ProcessHeapsModel", name := "make", desc := "(IIII)I" } : Jvm.MethodName) ({ cls := "ProcessHeapsModel", name := "make", desc := "(IIII)I" } : Jvm.MethodName)) ∈ mm_B := mm_inB (List.mem_append_right _ (List.mem_of_getElem? (l := tables_1) (i := 760) (by decide +kernel))) rfl
theorem tb_761 : (Jvm.Cond.code ({ cls := "ProcessHeapsModel", name := "make", desc := "(IIII)I" } : Jvm.MethodName) prog_9_method_22_code (11 : Nat) (Option.some Jvm.ClassFile.FieldType.int)) ∈ mm_B := mm_inB (List.mem_append_right _ (List.mem_of_getElem? (l := tables_1) (i := 761) (by decide +kernel))) rfl
theorem tb_762 : (Jvm.Cond.methodLink "ProcessHeapsModel" (134 : Nat) ({ cls := "ProcessHeapsModel", name := "isRegister", desc := "(I)Z" } : Jvm.MethodName)) ∈ mm_B := mm_inB (List.mem_append_right _ (List.mem_of_getElem? (l := tables_1) (i := 762) (by decide +kernel))) rfl
theorem tb_763 : (Jvm.Cond.static ({ cls := "ProcessHeapsModel", name := "isRegister", desc := "(I)Z" } : Jvm.MethodName)) ∈ mm_B := mm_inB (List.mem_append_right _ (List.mem_of_getElem? (l := tables_1) (i := 763) (by decide +kernel))) rfl
theorem tb_764 : (Jvm.Cond.code ({ cls := "ProcessHeapsModel", name := "isRegister", desc := "(I)Z" } : Jvm.MethodName) prog_9_method_3_code (1 : Nat) (Option.some Jvm.ClassFile.FieldType.boolean)) ∈ mm_B := mm_inB (List.mem_append_right _ (List.mem_of_getElem? (l := tables_1) (i := 764) (by decide +kernel))) rfl
theorem tb_765 : (Jvm.Cond.methodLink "ProcessHeapsModel" (137 : Nat) ({ cls := "ProcessHeapsModel", name := "find", desc := "(III)I" } : Jvm.MethodName)) ∈ mm_B := mm_inB (List.mem_append_right _ (List.mem_of_getElem? (l := tables_1) (i := 765) (by decide +kernel))) rfl
theorem tb_767 : (Jvm.Cond.instanceMethod ({ cls := "ProcessHeapsModel", name := "find", desc := "(III)I" } : Jvm.MethodName)) ∈ mm_B := mm_inB (List.mem_append_right _ (List.mem_of_getElem? (l := tables_1) (i := 767) (by decide +kernel))) rfl
theorem tb_768 : (Jvm.Cond.code ({ cls := "ProcessHeapsModel", name := "find", desc := "(III)I" } : Jvm.MethodName) prog_9_method_21_code (5 : Nat) (Option.some Jvm.ClassFile.FieldType.int)) ∈ mm_B := mm_inB (List.mem_append_right _ (List.mem_of_getElem? (l := tables_1) (i := 768) (by decide +kernel))) rfl
theorem tb_769 : (Jvm.Cond.methodLink "ProcessHeapsModel" (130 : Nat) ({ cls := "ProcessHeapsModel", name := "fitting", desc := "(II)I" } : Jvm.MethodName)) ∈ mm_B := mm_inB (List.mem_append_right _ (List.mem_of_getElem? (l := tables_1) (i := 769) (by decide +kernel))) rfl
theorem tb_771 : (Jvm.Cond.instanceMethod ({ cls := "ProcessHeapsModel", name := "fitting", desc := "(II)I" } : Jvm.MethodName)) ∈ mm_B := mm_inB (List.mem_append_right _ (List.mem_of_getElem? (l := tables_1) (i := 771) (by decide +kernel))) rfl
theorem tb_772 : (Jvm.Cond.code ({ cls := "ProcessHeapsModel", name := "fitting", desc := "(II)I" } : Jvm.MethodName) prog_9_method_20_code (7 : Nat) (Option.some Jvm.ClassFile.FieldType.int)) ∈ mm_B := mm_inB (List.mem_append_right _ (List.mem_of_getElem? (l := tables_1) (i := 772) (by decide +kernel))) rfl
theorem tb_773 : (Jvm.Cond.methodLink "ProcessHeapsModel" (141 : Nat) ({ cls := "ProcessHeapsModel", name := "sweep", desc := "(I)I" } : Jvm.MethodName)) ∈ mm_B := mm_inB (List.mem_append_right _ (List.mem_of_getElem? (l := tables_1) (i := 773) (by decide +kernel))) rfl
theorem tb_775 : (Jvm.Cond.instanceMethod ({ cls := "ProcessHeapsModel", name := "sweep", desc := "(I)I" } : Jvm.MethodName)) ∈ mm_B := mm_inB (List.mem_append_right _ (List.mem_of_getElem? (l := tables_1) (i := 775) (by decide +kernel))) rfl
theorem tb_776 : (Jvm.Cond.code ({ cls := "ProcessHeapsModel", name := "sweep", desc := "(I)I" } : Jvm.MethodName) prog_9_method_13_code (6 : Nat) (Option.some Jvm.ClassFile.FieldType.int)) ∈ mm_B := mm_inB (List.mem_append_right _ (List.mem_of_getElem? (l := tables_1) (i := 776) (by decide +kernel))) rfl
theorem tb_777 : (Jvm.Cond.methodLink "ProcessHeapsModel" (99 : Nat) ({ cls := "ProcessHeapsModel", name := "reach", desc := "(I)V" } : Jvm.MethodName)) ∈ mm_B := mm_inB (List.mem_append_right _ (List.mem_of_getElem? (l := tables_1) (i := 777) (by decide +kernel))) rfl
theorem tb_779 : (Jvm.Cond.instanceMethod ({ cls := "ProcessHeapsModel", name := "reach", desc := "(I)V" } : Jvm.MethodName)) ∈ mm_B := mm_inB (List.mem_append_right _ (List.mem_of_getElem? (l := tables_1) (i := 779) (by decide +kernel))) rfl
theorem tb_780 : (Jvm.Cond.code ({ cls := "ProcessHeapsModel", name := "reach", desc := "(I)V" } : Jvm.MethodName) prog_9_method_11_code (6 : Nat) (Option.none : Option Jvm.ClassFile.FieldType)) ∈ mm_B := mm_inB (List.mem_append_right _ (List.mem_of_getElem? (l := tables_1) (i := 780) (by decide +kernel))) rfl
theorem tb_781 : (Jvm.Cond.methodLink "ProcessHeapsModel" (95 : Nat) ({ cls := "ProcessHeapsModel", name := "root", desc := "(II)Z" } : Jvm.MethodName)) ∈ mm_B := mm_inB (List.mem_append_right _ (List.mem_of_getElem? (l := tables_1) (i := 781) (by decide +kernel))) rfl
theorem tb_783 : (Jvm.Cond.instanceMethod ({ cls := "ProcessHeapsModel", name := "root", desc := "(II)Z" } : Jvm.MethodName)) ∈ mm_B := mm_inB (List.mem_append_right _ (List.mem_of_getElem? (l := tables_1) (i := 783) (by decide +kernel))) rfl
theorem tb_784 : (Jvm.Cond.code ({ cls := "ProcessHeapsModel", name := "root", desc := "(II)Z" } : Jvm.MethodName) prog_9_method_10_code (5 : Nat) (Option.some Jvm.ClassFile.FieldType.boolean)) ∈ mm_B := mm_inB (List.mem_append_right _ (List.mem_of_getElem? (l := tables_1) (i := 784) (by decide +kernel))) rfl
theorem tb_785 : (Jvm.Cond.methodLink "ProcessHeapsModel" (106 : Nat) ({ cls := "ProcessHeapsModel", name := "inField", desc := "(II)Z" } : Jvm.MethodName)) ∈ mm_B := mm_inB (List.mem_append_right _ (List.mem_of_getElem? (l := tables_1) (i := 785) (by decide +kernel))) rfl
theorem tb_787 : (Jvm.Cond.instanceMethod ({ cls := "ProcessHeapsModel", name := "inField", desc := "(II)Z" } : Jvm.MethodName)) ∈ mm_B := mm_inB (List.mem_append_right _ (List.mem_of_getElem? (l := tables_1) (i := 787) (by decide +kernel))) rfl
theorem tb_788 : (Jvm.Cond.code ({ cls := "ProcessHeapsModel", name := "inField", desc := "(II)Z" } : Jvm.MethodName) prog_9_method_12_code (5 : Nat) (Option.some Jvm.ClassFile.FieldType.boolean)) ∈ mm_B := mm_inB (List.mem_append_right _ (List.mem_of_getElem? (l := tables_1) (i := 788) (by decide +kernel))) rfl
theorem tb_789 : (Jvm.Cond.methodLink "ProcessHeapsModel" (112 : Nat) ({ cls := "ProcessHeapsModel", name := "holds", desc := "(II)Z" } : Jvm.MethodName)) ∈ mm_B := mm_inB (List.mem_append_right _ (List.mem_of_getElem? (l := tables_1) (i := 789) (by decide +kernel))) rfl
theorem tb_791 : (Jvm.Cond.instanceMethod ({ cls := "ProcessHeapsModel", name := "holds", desc := "(II)Z" } : Jvm.MethodName)) ∈ mm_B := mm_inB (List.mem_append_right _ (List.mem_of_getElem? (l := tables_1) (i := 791) (by decide +kernel))) rfl
theorem tb_792 : (Jvm.Cond.code ({ cls := "ProcessHeapsModel", name := "holds", desc := "(II)Z" } : Jvm.MethodName) prog_9_method_9_code (6 : Nat) (Option.some Jvm.ClassFile.FieldType.boolean)) ∈ mm_B := mm_inB (List.mem_append_right _ (List.mem_of_getElem? (l := tables_1) (i := 792) (by decide +kernel))) rfl
theorem tb_793 : (Jvm.Cond.methodLink "ProcessHeapsLaw" (44 : Nat) ({ cls := "ProcessHeapsModel", name := "store", desc := "(IIII)I" } : Jvm.MethodName)) ∈ mm_B := mm_inB (List.mem_append_right _ (List.mem_of_getElem? (l := tables_1) (i := 793) (by decide +kernel))) rfl
theorem tb_794 : (Jvm.Cond.instanceMethod ({ cls := "ProcessHeapsModel", name := "store", desc := "(IIII)I" } : Jvm.MethodName)) ∈ mm_B := mm_inB (List.mem_append_right _ (List.mem_of_getElem? (l := tables_1) (i := 794) (by decide +kernel))) rfl
theorem tb_795 : (Jvm.Cond.selects "ProcessHeapsModel" ({ cls := "ProcessHeapsModel", name := "store", desc := "(IIII)I" } : Jvm.MethodName) ({ cls := "ProcessHeapsModel", name := "store", desc := "(IIII)I" } : Jvm.MethodName)) ∈ mm_B := mm_inB (List.mem_append_right _ (List.mem_of_getElem? (l := tables_1) (i := 795) (by decide +kernel))) rfl
theorem tb_796 : (Jvm.Cond.code ({ cls := "ProcessHeapsModel", name := "store", desc := "(IIII)I" } : Jvm.MethodName) prog_9_method_23_code (10 : Nat) (Option.some Jvm.ClassFile.FieldType.int)) ∈ mm_B := mm_inB (List.mem_append_right _ (List.mem_of_getElem? (l := tables_1) (i := 796) (by decide +kernel))) rfl
theorem tb_797 : (Jvm.Cond.methodLink "ProcessHeapsLaw" (48 : Nat) ({ cls := "ProcessHeapsModel", name := "load", desc := "(IIII)I" } : Jvm.MethodName)) ∈ mm_B := mm_inB (List.mem_append_right _ (List.mem_of_getElem? (l := tables_1) (i := 797) (by decide +kernel))) rfl
theorem tb_798 : (Jvm.Cond.instanceMethod ({ cls := "ProcessHeapsModel", name := "load", desc := "(IIII)I" } : Jvm.MethodName)) ∈ mm_B := mm_inB (List.mem_append_right _ (List.mem_of_getElem? (l := tables_1) (i := 798) (by decide +kernel))) rfl
theorem tb_799 : (Jvm.Cond.selects "ProcessHeapsModel" ({ cls := "ProcessHeapsModel", name := "load", desc := "(IIII)I" } : Jvm.MethodName) ({ cls := "ProcessHeapsModel", name := "load", desc := "(IIII)I" } : Jvm.MethodName)) ∈ mm_B := mm_inB (List.mem_append_right _ (List.mem_of_getElem? (l := tables_1) (i := 799) (by decide +kernel))) rfl
theorem tb_800 : (Jvm.Cond.code ({ cls := "ProcessHeapsModel", name := "load", desc := "(IIII)I" } : Jvm.MethodName) prog_9_method_24_code (8 : Nat) (Option.some Jvm.ClassFile.FieldType.int)) ∈ mm_B := mm_inB (List.mem_append_right _ (List.mem_of_getElem? (l := tables_1) (i := 800) (by decide +kernel))) rfl
theorem tb_801 : (Jvm.Cond.methodLink "ProcessHeapsLaw" (53 : Nat) ({ cls := "ProcessHeapsModel", name := "move", desc := "(III)Z" } : Jvm.MethodName)) ∈ mm_B := mm_inB (List.mem_append_right _ (List.mem_of_getElem? (l := tables_1) (i := 801) (by decide +kernel))) rfl
theorem tb_802 : (Jvm.Cond.instanceMethod ({ cls := "ProcessHeapsModel", name := "move", desc := "(III)Z" } : Jvm.MethodName)) ∈ mm_B := mm_inB (List.mem_append_right _ (List.mem_of_getElem? (l := tables_1) (i := 802) (by decide +kernel))) rfl
theorem tb_803 : (Jvm.Cond.selects "ProcessHeapsModel" ({ cls := "ProcessHeapsModel", name := "move", desc := "(III)Z" } : Jvm.MethodName) ({ cls := "ProcessHeapsModel", name := "move", desc := "(III)Z" } : Jvm.MethodName)) ∈ mm_B := mm_inB (List.mem_append_right _ (List.mem_of_getElem? (l := tables_1) (i := 803) (by decide +kernel))) rfl
theorem tb_804 : (Jvm.Cond.code ({ cls := "ProcessHeapsModel", name := "move", desc := "(III)Z" } : Jvm.MethodName) prog_9_method_25_code (4 : Nat) (Option.some Jvm.ClassFile.FieldType.boolean)) ∈ mm_B := mm_inB (List.mem_append_right _ (List.mem_of_getElem? (l := tables_1) (i := 804) (by decide +kernel))) rfl
theorem tb_805 : (Jvm.Cond.methodLink "ProcessHeapsLaw" (58 : Nat) ({ cls := "ProcessHeapsModel", name := "begin", desc := "(I)I" } : Jvm.MethodName)) ∈ mm_B := mm_inB (List.mem_append_right _ (List.mem_of_getElem? (l := tables_1) (i := 805) (by decide +kernel))) rfl
theorem tb_806 : (Jvm.Cond.instanceMethod ({ cls := "ProcessHeapsModel", name := "begin", desc := "(I)I" } : Jvm.MethodName)) ∈ mm_B := mm_inB (List.mem_append_right _ (List.mem_of_getElem? (l := tables_1) (i := 806) (by decide +kernel))) rfl
theorem tb_807 : (Jvm.Cond.selects "ProcessHeapsModel" ({ cls := "ProcessHeapsModel", name := "begin", desc := "(I)I" } : Jvm.MethodName) ({ cls := "ProcessHeapsModel", name := "begin", desc := "(I)I" } : Jvm.MethodName)) ∈ mm_B := mm_inB (List.mem_append_right _ (List.mem_of_getElem? (l := tables_1) (i := 807) (by decide +kernel))) rfl
theorem tb_808 : (Jvm.Cond.code ({ cls := "ProcessHeapsModel", name := "begin", desc := "(I)I" } : Jvm.MethodName) prog_9_method_26_code (3 : Nat) (Option.some Jvm.ClassFile.FieldType.int)) ∈ mm_B := mm_inB (List.mem_append_right _ (List.mem_of_getElem? (l := tables_1) (i := 808) (by decide +kernel))) rfl
theorem tb_809 : (Jvm.Cond.methodLink "ProcessHeapsLaw" (63 : Nat) ({ cls := "ProcessHeapsModel", name := "freeze", desc := "(II)I" } : Jvm.MethodName)) ∈ mm_B := mm_inB (List.mem_append_right _ (List.mem_of_getElem? (l := tables_1) (i := 809) (by decide +kernel))) rfl
theorem tb_810 : (Jvm.Cond.instanceMethod ({ cls := "ProcessHeapsModel", name := "freeze", desc := "(II)I" } : Jvm.MethodName)) ∈ mm_B := mm_inB (List.mem_append_right _ (List.mem_of_getElem? (l := tables_1) (i := 810) (by decide +kernel))) rfl
theorem tb_811 : (Jvm.Cond.selects "ProcessHeapsModel" ({ cls := "ProcessHeapsModel", name := "freeze", desc := "(II)I" } : Jvm.MethodName) ({ cls := "ProcessHeapsModel", name := "freeze", desc := "(II)I" } : Jvm.MethodName)) ∈ mm_B := mm_inB (List.mem_append_right _ (List.mem_of_getElem? (l := tables_1) (i := 811) (by decide +kernel))) rfl
theorem tb_812 : (Jvm.Cond.code ({ cls := "ProcessHeapsModel", name := "freeze", desc := "(II)I" } : Jvm.MethodName) prog_9_method_27_code (5 : Nat) (Option.some Jvm.ClassFile.FieldType.int)) ∈ mm_B := mm_inB (List.mem_append_right _ (List.mem_of_getElem? (l := tables_1) (i := 812) (by decide +kernel))) rfl
theorem tb_813 : (Jvm.Cond.methodLink "ProcessHeapsLaw" (68 : Nat) ({ cls := "ProcessHeapsModel", name := "lookup", desc := "(III)I" } : Jvm.MethodName)) ∈ mm_B := mm_inB (List.mem_append_right _ (List.mem_of_getElem? (l := tables_1) (i := 813) (by decide +kernel))) rfl
theorem tb_814 : (Jvm.Cond.instanceMethod ({ cls := "ProcessHeapsModel", name := "lookup", desc := "(III)I" } : Jvm.MethodName)) ∈ mm_B := mm_inB (List.mem_append_right _ (List.mem_of_getElem? (l := tables_1) (i := 814) (by decide +kernel))) rfl
theorem tb_815 : (Jvm.Cond.selects "ProcessHeapsModel" ({ cls := "ProcessHeapsModel", name := "lookup", desc := "(III)I" } : Jvm.MethodName) ({ cls := "ProcessHeapsModel", name := "lookup", desc := "(III)I" } : Jvm.MethodName)) ∈ mm_B := mm_inB (List.mem_append_right _ (List.mem_of_getElem? (l := tables_1) (i := 815) (by decide +kernel))) rfl
theorem tb_816 : (Jvm.Cond.code ({ cls := "ProcessHeapsModel", name := "lookup", desc := "(III)I" } : Jvm.MethodName) prog_9_method_28_code (5 : Nat) (Option.some Jvm.ClassFile.FieldType.int)) ∈ mm_B := mm_inB (List.mem_append_right _ (List.mem_of_getElem? (l := tables_1) (i := 816) (by decide +kernel))) rfl
theorem tb_817 : (Jvm.Cond.methodLink "ProcessHeapsLaw" (72 : Nat) ({ cls := "ProcessHeapsModel", name := "collect", desc := "(I)I" } : Jvm.MethodName)) ∈ mm_B := mm_inB (List.mem_append_right _ (List.mem_of_getElem? (l := tables_1) (i := 817) (by decide +kernel))) rfl
theorem tb_818 : (Jvm.Cond.instanceMethod ({ cls := "ProcessHeapsModel", name := "collect", desc := "(I)I" } : Jvm.MethodName)) ∈ mm_B := mm_inB (List.mem_append_right _ (List.mem_of_getElem? (l := tables_1) (i := 818) (by decide +kernel))) rfl
theorem tb_819 : (Jvm.Cond.selects "ProcessHeapsModel" ({ cls := "ProcessHeapsModel", name := "collect", desc := "(I)I" } : Jvm.MethodName) ({ cls := "ProcessHeapsModel", name := "collect", desc := "(I)I" } : Jvm.MethodName)) ∈ mm_B := mm_inB (List.mem_append_right _ (List.mem_of_getElem? (l := tables_1) (i := 819) (by decide +kernel))) rfl
theorem tb_820 : (Jvm.Cond.code ({ cls := "ProcessHeapsModel", name := "collect", desc := "(I)I" } : Jvm.MethodName) prog_9_method_29_code (2 : Nat) (Option.some Jvm.ClassFile.FieldType.int)) ∈ mm_B := mm_inB (List.mem_append_right _ (List.mem_of_getElem? (l := tables_1) (i := 820) (by decide +kernel))) rfl
theorem tb_821 : (Jvm.Cond.methodLink "ProcessHeapsLaw" (76 : Nat) ({ cls := "ProcessHeapsModel", name := "state", desc := "(I)I" } : Jvm.MethodName)) ∈ mm_B := mm_inB (List.mem_append_right _ (List.mem_of_getElem? (l := tables_1) (i := 821) (by decide +kernel))) rfl
theorem tb_822 : (Jvm.Cond.instanceMethod ({ cls := "ProcessHeapsModel", name := "state", desc := "(I)I" } : Jvm.MethodName)) ∈ mm_B := mm_inB (List.mem_append_right _ (List.mem_of_getElem? (l := tables_1) (i := 822) (by decide +kernel))) rfl
theorem tb_823 : (Jvm.Cond.selects "ProcessHeapsModel" ({ cls := "ProcessHeapsModel", name := "state", desc := "(I)I" } : Jvm.MethodName) ({ cls := "ProcessHeapsModel", name := "state", desc := "(I)I" } : Jvm.MethodName)) ∈ mm_B := mm_inB (List.mem_append_right _ (List.mem_of_getElem? (l := tables_1) (i := 823) (by decide +kernel))) rfl
theorem tb_824 : (Jvm.Cond.code ({ cls := "ProcessHeapsModel", name := "state", desc := "(I)I" } : Jvm.MethodName) prog_9_method_30_code (2 : Nat) (Option.some Jvm.ClassFile.FieldType.int)) ∈ mm_B := mm_inB (List.mem_append_right _ (List.mem_of_getElem? (l := tables_1) (i := 824) (by decide +kernel))) rfl
theorem tb_825 : (Jvm.Cond.methodLink "ProcessHeapsLaw" (80 : Nat) ({ cls := "ProcessHeapsModel", name := "pages", desc := "(I)I" } : Jvm.MethodName)) ∈ mm_B := mm_inB (List.mem_append_right _ (List.mem_of_getElem? (l := tables_1) (i := 825) (by decide +kernel))) rfl
theorem tb_826 : (Jvm.Cond.methodLink "ProcessHeapsLaw" (84 : Nat) ({ cls := "ProcessHeapsModel", name := "objects", desc := "(I)I" } : Jvm.MethodName)) ∈ mm_B := mm_inB (List.mem_append_right _ (List.mem_of_getElem? (l := tables_1) (i := 826) (by decide +kernel))) rfl
theorem tb_827 : (Jvm.Cond.instanceMethod ({ cls := "ProcessHeapsModel", name := "objects", desc := "(I)I" } : Jvm.MethodName)) ∈ mm_B := mm_inB (List.mem_append_right _ (List.mem_of_getElem? (l := tables_1) (i := 827) (by decide +kernel))) rfl
theorem tb_828 : (Jvm.Cond.selects "ProcessHeapsModel" ({ cls := "ProcessHeapsModel", name := "objects", desc := "(I)I" } : Jvm.MethodName) ({ cls := "ProcessHeapsModel", name := "objects", desc := "(I)I" } : Jvm.MethodName)) ∈ mm_B := mm_inB (List.mem_append_right _ (List.mem_of_getElem? (l := tables_1) (i := 828) (by decide +kernel))) rfl
theorem tb_829 : (Jvm.Cond.code ({ cls := "ProcessHeapsModel", name := "objects", desc := "(I)I" } : Jvm.MethodName) prog_9_method_32_code (4 : Nat) (Option.some Jvm.ClassFile.FieldType.int)) ∈ mm_B := mm_inB (List.mem_append_right _ (List.mem_of_getElem? (l := tables_1) (i := 829) (by decide +kernel))) rfl
theorem tb_830 : (Jvm.Cond.methodLink "ProcessHeapsLaw" (88 : Nat) ({ cls := "ProcessHeapsModel", name := "items", desc := "(I)I" } : Jvm.MethodName)) ∈ mm_B := mm_inB (List.mem_append_right _ (List.mem_of_getElem? (l := tables_1) (i := 830) (by decide +kernel))) rfl
theorem tb_831 : (Jvm.Cond.instanceMethod ({ cls := "ProcessHeapsModel", name := "items", desc := "(I)I" } : Jvm.MethodName)) ∈ mm_B := mm_inB (List.mem_append_right _ (List.mem_of_getElem? (l := tables_1) (i := 831) (by decide +kernel))) rfl
theorem tb_832 : (Jvm.Cond.selects "ProcessHeapsModel" ({ cls := "ProcessHeapsModel", name := "items", desc := "(I)I" } : Jvm.MethodName) ({ cls := "ProcessHeapsModel", name := "items", desc := "(I)I" } : Jvm.MethodName)) ∈ mm_B := mm_inB (List.mem_append_right _ (List.mem_of_getElem? (l := tables_1) (i := 832) (by decide +kernel))) rfl
theorem tb_833 : (Jvm.Cond.code ({ cls := "ProcessHeapsModel", name := "items", desc := "(I)I" } : Jvm.MethodName) prog_9_method_33_code (4 : Nat) (Option.some Jvm.ClassFile.FieldType.int)) ∈ mm_B := mm_inB (List.mem_append_right _ (List.mem_of_getElem? (l := tables_1) (i := 833) (by decide +kernel))) rfl
theorem tb_834 : (Jvm.Cond.methodLink "ProcessHeapsLaw" (92 : Nat) ({ cls := "ProcessHeapsModel", name := "use", desc := "(I)I" } : Jvm.MethodName)) ∈ mm_B := mm_inB (List.mem_append_right _ (List.mem_of_getElem? (l := tables_1) (i := 834) (by decide +kernel))) rfl
theorem tb_835 : (Jvm.Cond.instanceMethod ({ cls := "ProcessHeapsModel", name := "use", desc := "(I)I" } : Jvm.MethodName)) ∈ mm_B := mm_inB (List.mem_append_right _ (List.mem_of_getElem? (l := tables_1) (i := 835) (by decide +kernel))) rfl
theorem tb_836 : (Jvm.Cond.selects "ProcessHeapsModel" ({ cls := "ProcessHeapsModel", name := "use", desc := "(I)I" } : Jvm.MethodName) ({ cls := "ProcessHeapsModel", name := "use", desc := "(I)I" } : Jvm.MethodName)) ∈ mm_B := mm_inB (List.mem_append_right _ (List.mem_of_getElem? (l := tables_1) (i := 836) (by decide +kernel))) rfl
theorem tb_837 : (Jvm.Cond.code ({ cls := "ProcessHeapsModel", name := "use", desc := "(I)I" } : Jvm.MethodName) prog_9_method_35_code (2 : Nat) (Option.some Jvm.ClassFile.FieldType.int)) ∈ mm_B := mm_inB (List.mem_append_right _ (List.mem_of_getElem? (l := tables_1) (i := 837) (by decide +kernel))) rfl
theorem tb_838 : (Jvm.Cond.methodLink "ProcessHeapsModel" (147 : Nat) ({ cls := "ProcessHeapsModel", name := "exists", desc := "(I)Z" } : Jvm.MethodName)) ∈ mm_B := mm_inB (List.mem_append_right _ (List.mem_of_getElem? (l := tables_1) (i := 838) (by decide +kernel))) rfl
theorem tb_840 : (Jvm.Cond.instanceMethod ({ cls := "ProcessHeapsModel", name := "exists", desc := "(I)Z" } : Jvm.MethodName)) ∈ mm_B := mm_inB (List.mem_append_right _ (List.mem_of_getElem? (l := tables_1) (i := 840) (by decide +kernel))) rfl
theorem tb_841 : (Jvm.Cond.code ({ cls := "ProcessHeapsModel", name := "exists", desc := "(I)Z" } : Jvm.MethodName) prog_9_method_34_code (2 : Nat) (Option.some Jvm.ClassFile.FieldType.boolean)) ∈ mm_B := mm_inB (List.mem_append_right _ (List.mem_of_getElem? (l := tables_1) (i := 841) (by decide +kernel))) rfl
theorem tb_842 : (Jvm.Cond.methodLink "ProcessHeapsLaw" (96 : Nat) ({ cls := "ProcessHeapsModel", name := "room", desc := "(I)I" } : Jvm.MethodName)) ∈ mm_B := mm_inB (List.mem_append_right _ (List.mem_of_getElem? (l := tables_1) (i := 842) (by decide +kernel))) rfl
theorem tb_843 : (Jvm.Cond.instanceMethod ({ cls := "ProcessHeapsModel", name := "room", desc := "(I)I" } : Jvm.MethodName)) ∈ mm_B := mm_inB (List.mem_append_right _ (List.mem_of_getElem? (l := tables_1) (i := 843) (by decide +kernel))) rfl
theorem tb_844 : (Jvm.Cond.selects "ProcessHeapsModel" ({ cls := "ProcessHeapsModel", name := "room", desc := "(I)I" } : Jvm.MethodName) ({ cls := "ProcessHeapsModel", name := "room", desc := "(I)I" } : Jvm.MethodName)) ∈ mm_B := mm_inB (List.mem_append_right _ (List.mem_of_getElem? (l := tables_1) (i := 844) (by decide +kernel))) rfl
theorem tb_845 : (Jvm.Cond.code ({ cls := "ProcessHeapsModel", name := "room", desc := "(I)I" } : Jvm.MethodName) prog_9_method_36_code (2 : Nat) (Option.some Jvm.ClassFile.FieldType.int)) ∈ mm_B := mm_inB (List.mem_append_right _ (List.mem_of_getElem? (l := tables_1) (i := 845) (by decide +kernel))) rfl
theorem tb_846 : (Jvm.Cond.methodLink "ProcessHeapsLaw" (101 : Nat) ({ cls := "ProcessHeapsModel", name := "shares", desc := "(II)Z" } : Jvm.MethodName)) ∈ mm_B := mm_inB (List.mem_append_right _ (List.mem_of_getElem? (l := tables_1) (i := 846) (by decide +kernel))) rfl
theorem tb_847 : (Jvm.Cond.instanceMethod ({ cls := "ProcessHeapsModel", name := "shares", desc := "(II)Z" } : Jvm.MethodName)) ∈ mm_B := mm_inB (List.mem_append_right _ (List.mem_of_getElem? (l := tables_1) (i := 847) (by decide +kernel))) rfl
theorem tb_848 : (Jvm.Cond.selects "ProcessHeapsModel" ({ cls := "ProcessHeapsModel", name := "shares", desc := "(II)Z" } : Jvm.MethodName) ({ cls := "ProcessHeapsModel", name := "shares", desc := "(II)Z" } : Jvm.MethodName)) ∈ mm_B := mm_inB (List.mem_append_right _ (List.mem_of_getElem? (l := tables_1) (i := 848) (by decide +kernel))) rfl
theorem tb_849 : (Jvm.Cond.code ({ cls := "ProcessHeapsModel", name := "shares", desc := "(II)Z" } : Jvm.MethodName) prog_9_method_37_code (3 : Nat) (Option.some Jvm.ClassFile.FieldType.boolean)) ∈ mm_B := mm_inB (List.mem_append_right _ (List.mem_of_getElem? (l := tables_1) (i := 849) (by decide +kernel))) rfl
theorem tb_850 : (Jvm.Cond.methodLink "ProcessHeapsLaw" (105 : Nat) ({ cls := "ProcessHeapsModel", name := "where", desc := "(II)I" } : Jvm.MethodName)) ∈ mm_B := mm_inB (List.mem_append_right _ (List.mem_of_getElem? (l := tables_1) (i := 850) (by decide +kernel))) rfl
theorem tb_851 : (Jvm.Cond.instanceMethod ({ cls := "ProcessHeapsModel", name := "where", desc := "(II)I" } : Jvm.MethodName)) ∈ mm_B := mm_inB (List.mem_append_right _ (List.mem_of_getElem? (l := tables_1) (i := 851) (by decide +kernel))) rfl
theorem tb_852 : (Jvm.Cond.selects "ProcessHeapsModel" ({ cls := "ProcessHeapsModel", name := "where", desc := "(II)I" } : Jvm.MethodName) ({ cls := "ProcessHeapsModel", name := "where", desc := "(II)I" } : Jvm.MethodName)) ∈ mm_B := mm_inB (List.mem_append_right _ (List.mem_of_getElem? (l := tables_1) (i := 852) (by decide +kernel))) rfl
theorem tb_853 : (Jvm.Cond.code ({ cls := "ProcessHeapsModel", name := "where", desc := "(II)I" } : Jvm.MethodName) prog_9_method_38_code (4 : Nat) (Option.some Jvm.ClassFile.FieldType.int)) ∈ mm_B := mm_inB (List.mem_append_right _ (List.mem_of_getElem? (l := tables_1) (i := 853) (by decide +kernel))) rfl
theorem tb_854 : (Jvm.Cond.methodLink "ProcessHeapsLaw" (109 : Nat) ({ cls := "ProcessHeapsModel", name := "tag", desc := "(II)I" } : Jvm.MethodName)) ∈ mm_B := mm_inB (List.mem_append_right _ (List.mem_of_getElem? (l := tables_1) (i := 854) (by decide +kernel))) rfl
theorem tb_855 : (Jvm.Cond.instanceMethod ({ cls := "ProcessHeapsModel", name := "tag", desc := "(II)I" } : Jvm.MethodName)) ∈ mm_B := mm_inB (List.mem_append_right _ (List.mem_of_getElem? (l := tables_1) (i := 855) (by decide +kernel))) rfl
theorem tb_856 : (Jvm.Cond.selects "ProcessHeapsModel" ({ cls := "ProcessHeapsModel", name := "tag", desc := "(II)I" } : Jvm.MethodName) ({ cls := "ProcessHeapsModel", name := "tag", desc := "(II)I" } : Jvm.MethodName)) ∈ mm_B := mm_inB (List.mem_append_right _ (List.mem_of_getElem? (l := tables_1) (i := 856) (by decide +kernel))) rfl
theorem tb_857 : (Jvm.Cond.code ({ cls := "ProcessHeapsModel", name := "tag", desc := "(II)I" } : Jvm.MethodName) prog_9_method_39_code (4 : Nat) (Option.some Jvm.ClassFile.FieldType.int)) ∈ mm_B := mm_inB (List.mem_append_right _ (List.mem_of_getElem? (l := tables_1) (i := 857) (by decide +kernel))) rfl
theorem tn_858 : (Jvm.Cond.castable "ProcessHeaps$Page" "ProcessHeaps$Page") ∈ lw_tbl.filter mm_isN := List.mem_filter.mpr ⟨List.mem_append_right _ (List.mem_of_getElem? (l := tables_1) (i := 858) (by decide +kernel)), rfl⟩
theorem tn_859 : (Jvm.Cond.castable "ProcessHeaps$HeapObject" "ProcessHeaps$HeapObject") ∈ lw_tbl.filter mm_isN := List.mem_filter.mpr ⟨List.mem_append_right _ (List.mem_of_getElem? (l := tables_1) (i := 859) (by decide +kernel)), rfl⟩
theorem tb_861 : (Jvm.Cond.selects "[Ljava/lang/Object;" ({ cls := "java/lang/Object", name := "getClass", desc := "()Ljava/lang/Class;" } : Jvm.MethodName) ({ cls := "java/lang/Object", name := "getClass", desc := "()Ljava/lang/Class;" } : Jvm.MethodName)) ∈ mm_B := mm_inB (List.mem_append_right _ (List.mem_of_getElem? (l := tables_1) (i := 861) (by decide +kernel))) rfl
theorem tn_862 : (Jvm.Cond.declares ({ cls := "java/lang/Object", name := "getClass", desc := "()Ljava/lang/Class;" } : Jvm.MethodName)) ∈ lw_tbl.filter mm_isN := List.mem_filter.mpr ⟨List.mem_append_right _ (List.mem_of_getElem? (l := tables_1) (i := 862) (by decide +kernel)), rfl⟩
theorem tn_863 : (Jvm.Cond.castable "ProcessHeaps" "java/lang/Object") ∈ lw_tbl.filter mm_isN := List.mem_filter.mpr ⟨List.mem_append_right _ (List.mem_of_getElem? (l := tables_1) (i := 863) (by decide +kernel)), rfl⟩
theorem tn_864 : (Jvm.Cond.castable "ProcessHeaps$Memory" "java/lang/Object") ∈ lw_tbl.filter mm_isN := List.mem_filter.mpr ⟨List.mem_append_right _ (List.mem_of_getElem? (l := tables_1) (i := 864) (by decide +kernel)), rfl⟩
theorem tn_865 : (Jvm.Cond.castable "ProcessHeaps$Collector" "java/lang/Object") ∈ lw_tbl.filter mm_isN := List.mem_filter.mpr ⟨List.mem_append_right _ (List.mem_of_getElem? (l := tables_1) (i := 865) (by decide +kernel)), rfl⟩
theorem tn_866 : (Jvm.Cond.castable "ProcessHeaps$Limits" "java/lang/Object") ∈ lw_tbl.filter mm_isN := List.mem_filter.mpr ⟨List.mem_append_right _ (List.mem_of_getElem? (l := tables_1) (i := 866) (by decide +kernel)), rfl⟩
theorem tn_867 : (Jvm.Cond.castable "ProcessHeaps$HeapProcess" "java/lang/Object") ∈ lw_tbl.filter mm_isN := List.mem_filter.mpr ⟨List.mem_append_right _ (List.mem_of_getElem? (l := tables_1) (i := 867) (by decide +kernel)), rfl⟩
theorem tn_868 : (Jvm.Cond.castable "ProcessHeapsModel" "java/lang/Object") ∈ lw_tbl.filter mm_isN := List.mem_filter.mpr ⟨List.mem_append_right _ (List.mem_of_getElem? (l := tables_1) (i := 868) (by decide +kernel)), rfl⟩
theorem tn_869 : (Jvm.Cond.castable "ProcessHeaps$Page" "java/lang/Object") ∈ lw_tbl.filter mm_isN := List.mem_filter.mpr ⟨List.mem_append_right _ (List.mem_of_getElem? (l := tables_1) (i := 869) (by decide +kernel)), rfl⟩
theorem tn_870 : (Jvm.Cond.castable "ProcessHeaps$HeapObject" "java/lang/Object") ∈ lw_tbl.filter mm_isN := List.mem_filter.mpr ⟨List.mem_append_right _ (List.mem_of_getElem? (l := tables_1) (i := 870) (by decide +kernel)), rfl⟩
theorem tp_0 : Cond.selects "ProcessHeaps" ({ cls := "ProcessHeaps", name := "livingProcess", desc := "(I)LProcessHeaps$HeapProcess;" } : Jvm.MethodName) ({ cls := "ProcessHeaps", name := "livingProcess", desc := "(I)LProcessHeaps$HeapProcess;" } : Jvm.MethodName) ∈ mm_B := mm_inB (List.mem_append_left _ (List.mem_of_getElem? (l := k2_sels lw_privs) (i := 0) (by decide +kernel))) rfl
theorem tp_1 : Cond.selects "ProcessHeaps" ({ cls := "ProcessHeaps", name := "isMade", desc := "(I)Z" } : Jvm.MethodName) ({ cls := "ProcessHeaps", name := "isMade", desc := "(I)Z" } : Jvm.MethodName) ∈ mm_B := mm_inB (List.mem_append_left _ (List.mem_of_getElem? (l := k2_sels lw_privs) (i := 1) (by decide +kernel))) rfl
theorem tp_2 : Cond.selects "ProcessHeaps" ({ cls := "ProcessHeaps", name := "canPay", desc := "(II)Z" } : Jvm.MethodName) ({ cls := "ProcessHeaps", name := "canPay", desc := "(II)Z" } : Jvm.MethodName) ∈ mm_B := mm_inB (List.mem_append_left _ (List.mem_of_getElem? (l := k2_sels lw_privs) (i := 2) (by decide +kernel))) rfl
theorem tp_3 : Cond.selects "ProcessHeaps$Limits" ({ cls := "ProcessHeaps$Limits", name := "reckonPayments", desc := "([LProcessHeaps$HeapProcess;LProcessHeaps$Memory;)V" } : Jvm.MethodName) ({ cls := "ProcessHeaps$Limits", name := "reckonPayments", desc := "([LProcessHeaps$HeapProcess;LProcessHeaps$Memory;)V" } : Jvm.MethodName) ∈ mm_B := mm_inB (List.mem_append_left _ (List.mem_of_getElem? (l := k2_sels lw_privs) (i := 3) (by decide +kernel))) rfl
theorem tp_4 : Cond.selects "ProcessHeaps$Limits" ({ cls := "ProcessHeaps$Limits", name := "addChildren", desc := "([LProcessHeaps$HeapProcess;)V" } : Jvm.MethodName) ({ cls := "ProcessHeaps$Limits", name := "addChildren", desc := "([LProcessHeaps$HeapProcess;)V" } : Jvm.MethodName) ∈ mm_B := mm_inB (List.mem_append_left _ (List.mem_of_getElem? (l := k2_sels lw_privs) (i := 4) (by decide +kernel))) rfl
theorem tp_5 : Cond.selects "ProcessHeaps$Limits" ({ cls := "ProcessHeaps$Limits", name := "reckonSpare", desc := "([LProcessHeaps$HeapProcess;)V" } : Jvm.MethodName) ({ cls := "ProcessHeaps$Limits", name := "reckonSpare", desc := "([LProcessHeaps$HeapProcess;)V" } : Jvm.MethodName) ∈ mm_B := mm_inB (List.mem_append_left _ (List.mem_of_getElem? (l := k2_sels lw_privs) (i := 5) (by decide +kernel))) rfl
theorem tp_6 : Cond.selects "ProcessHeaps" ({ cls := "ProcessHeaps", name := "die", desc := "(LProcessHeaps$HeapProcess;)V" } : Jvm.MethodName) ({ cls := "ProcessHeaps", name := "die", desc := "(LProcessHeaps$HeapProcess;)V" } : Jvm.MethodName) ∈ mm_B := mm_inB (List.mem_append_left _ (List.mem_of_getElem? (l := k2_sels lw_privs) (i := 6) (by decide +kernel))) rfl
theorem tp_7 : Cond.selects "ProcessHeaps" ({ cls := "ProcessHeaps", name := "dropUnusedCharges", desc := "(LProcessHeaps$HeapProcess;)V" } : Jvm.MethodName) ({ cls := "ProcessHeaps", name := "dropUnusedCharges", desc := "(LProcessHeaps$HeapProcess;)V" } : Jvm.MethodName) ∈ mm_B := mm_inB (List.mem_append_left _ (List.mem_of_getElem? (l := k2_sels lw_privs) (i := 7) (by decide +kernel))) rfl
theorem tp_8 : Cond.selects "java/util/ArrayList" ({ cls := "java/util/ArrayList", name := "fastRemove", desc := "([Ljava/lang/Object;I)V" } : Jvm.MethodName) ({ cls := "java/util/ArrayList", name := "fastRemove", desc := "([Ljava/lang/Object;I)V" } : Jvm.MethodName) ∈ mm_B := mm_inB (List.mem_append_left _ (List.mem_of_getElem? (l := k2_sels lw_privs) (i := 8) (by decide +kernel))) rfl
theorem tp_9 : Cond.selects "java/util/ArrayList" ({ cls := "java/util/ArrayList", name := "add", desc := "(Ljava/lang/Object;[Ljava/lang/Object;I)V" } : Jvm.MethodName) ({ cls := "java/util/ArrayList", name := "add", desc := "(Ljava/lang/Object;[Ljava/lang/Object;I)V" } : Jvm.MethodName) ∈ mm_B := mm_inB (List.mem_append_left _ (List.mem_of_getElem? (l := k2_sels lw_privs) (i := 9) (by decide +kernel))) rfl
theorem tp_10 : Cond.selects "java/util/ArrayList" ({ cls := "java/util/ArrayList", name := "grow", desc := "()[Ljava/lang/Object;" } : Jvm.MethodName) ({ cls := "java/util/ArrayList", name := "grow", desc := "()[Ljava/lang/Object;" } : Jvm.MethodName) ∈ mm_B := mm_inB (List.mem_append_left _ (List.mem_of_getElem? (l := k2_sels lw_privs) (i := 10) (by decide +kernel))) rfl
theorem tp_11 : Cond.selects "java/util/ArrayList" ({ cls := "java/util/ArrayList", name := "grow", desc := "(I)[Ljava/lang/Object;" } : Jvm.MethodName) ({ cls := "java/util/ArrayList", name := "grow", desc := "(I)[Ljava/lang/Object;" } : Jvm.MethodName) ∈ mm_B := mm_inB (List.mem_append_left _ (List.mem_of_getElem? (l := k2_sels lw_privs) (i := 11) (by decide +kernel))) rfl
theorem tp_12 : Cond.selects "ProcessHeaps" ({ cls := "ProcessHeaps", name := "dropGoneHeaps", desc := "()V" } : Jvm.MethodName) ({ cls := "ProcessHeaps", name := "dropGoneHeaps", desc := "()V" } : Jvm.MethodName) ∈ mm_B := mm_inB (List.mem_append_left _ (List.mem_of_getElem? (l := k2_sels lw_privs) (i := 12) (by decide +kernel))) rfl
theorem tp_13 : Cond.selects "ProcessHeaps" ({ cls := "ProcessHeaps", name := "isFrozen", desc := "(I)Z" } : Jvm.MethodName) ({ cls := "ProcessHeaps", name := "isFrozen", desc := "(I)Z" } : Jvm.MethodName) ∈ mm_B := mm_inB (List.mem_append_left _ (List.mem_of_getElem? (l := k2_sels lw_privs) (i := 13) (by decide +kernel))) rfl
theorem tp_14 : Cond.selects "ProcessHeaps" ({ cls := "ProcessHeaps", name := "isSharedByLiving", desc := "(I)Z" } : Jvm.MethodName) ({ cls := "ProcessHeaps", name := "isSharedByLiving", desc := "(I)Z" } : Jvm.MethodName) ∈ mm_B := mm_inB (List.mem_append_left _ (List.mem_of_getElem? (l := k2_sels lw_privs) (i := 14) (by decide +kernel))) rfl
theorem tp_15 : Cond.selects "ProcessHeaps$Memory" ({ cls := "ProcessHeaps$Memory", name := "giveBackEmptyPages", desc := "()V" } : Jvm.MethodName) ({ cls := "ProcessHeaps$Memory", name := "giveBackEmptyPages", desc := "()V" } : Jvm.MethodName) ∈ mm_B := mm_inB (List.mem_append_left _ (List.mem_of_getElem? (l := k2_sels lw_privs) (i := 15) (by decide +kernel))) rfl
theorem tp_16 : Cond.selects "ProcessHeaps" ({ cls := "ProcessHeaps", name := "endPaymentOfDead", desc := "(I)V" } : Jvm.MethodName) ({ cls := "ProcessHeaps", name := "endPaymentOfDead", desc := "(I)V" } : Jvm.MethodName) ∈ mm_B := mm_inB (List.mem_append_left _ (List.mem_of_getElem? (l := k2_sels lw_privs) (i := 16) (by decide +kernel))) rfl
theorem tp_17 : Cond.selects "ProcessHeaps" ({ cls := "ProcessHeaps", name := "pageForMaking", desc := "(LProcessHeaps$HeapProcess;I)LProcessHeaps$Page;" } : Jvm.MethodName) ({ cls := "ProcessHeaps", name := "pageForMaking", desc := "(LProcessHeaps$HeapProcess;I)LProcessHeaps$Page;" } : Jvm.MethodName) ∈ mm_B := mm_inB (List.mem_append_left _ (List.mem_of_getElem? (l := k2_sels lw_privs) (i := 17) (by decide +kernel))) rfl
theorem tp_18 : Cond.selects "ProcessHeaps" ({ cls := "ProcessHeaps", name := "collectHeap", desc := "(I)I" } : Jvm.MethodName) ({ cls := "ProcessHeaps", name := "collectHeap", desc := "(I)I" } : Jvm.MethodName) ∈ mm_B := mm_inB (List.mem_append_left _ (List.mem_of_getElem? (l := k2_sels lw_privs) (i := 18) (by decide +kernel))) rfl
theorem tp_19 : Cond.selects "ProcessHeaps$Collector" ({ cls := "ProcessHeaps$Collector", name := "reachHeld", desc := "(I[LProcessHeaps$HeapProcess;)V" } : Jvm.MethodName) ({ cls := "ProcessHeaps$Collector", name := "reachHeld", desc := "(I[LProcessHeaps$HeapProcess;)V" } : Jvm.MethodName) ∈ mm_B := mm_inB (List.mem_append_left _ (List.mem_of_getElem? (l := k2_sels lw_privs) (i := 19) (by decide +kernel))) rfl
theorem tp_20 : Cond.selects "ProcessHeaps$Collector" ({ cls := "ProcessHeaps$Collector", name := "reachObject", desc := "(ILProcessHeaps$HeapObject;)V" } : Jvm.MethodName) ({ cls := "ProcessHeaps$Collector", name := "reachObject", desc := "(ILProcessHeaps$HeapObject;)V" } : Jvm.MethodName) ∈ mm_B := mm_inB (List.mem_append_left _ (List.mem_of_getElem? (l := k2_sels lw_privs) (i := 20) (by decide +kernel))) rfl
theorem tp_21 : Cond.selects "ProcessHeaps$Collector" ({ cls := "ProcessHeaps$Collector", name := "reachNamedFromOutside", desc := "(ILProcessHeaps$Memory;)V" } : Jvm.MethodName) ({ cls := "ProcessHeaps$Collector", name := "reachNamedFromOutside", desc := "(ILProcessHeaps$Memory;)V" } : Jvm.MethodName) ∈ mm_B := mm_inB (List.mem_append_left _ (List.mem_of_getElem? (l := k2_sels lw_privs) (i := 21) (by decide +kernel))) rfl
theorem tp_22 : Cond.selects "ProcessHeaps$Collector" ({ cls := "ProcessHeaps$Collector", name := "followFields", desc := "(I)V" } : Jvm.MethodName) ({ cls := "ProcessHeaps$Collector", name := "followFields", desc := "(I)V" } : Jvm.MethodName) ∈ mm_B := mm_inB (List.mem_append_left _ (List.mem_of_getElem? (l := k2_sels lw_privs) (i := 22) (by decide +kernel))) rfl
theorem tp_23 : Cond.selects "ProcessHeaps$Collector" ({ cls := "ProcessHeaps$Collector", name := "loseItems", desc := "(ILProcessHeaps$Memory;)V" } : Jvm.MethodName) ({ cls := "ProcessHeaps$Collector", name := "loseItems", desc := "(ILProcessHeaps$Memory;)V" } : Jvm.MethodName) ∈ mm_B := mm_inB (List.mem_append_left _ (List.mem_of_getElem? (l := k2_sels lw_privs) (i := 23) (by decide +kernel))) rfl
theorem tp_24 : Cond.selects "ProcessHeaps$HeapObject" ({ cls := "ProcessHeaps$HeapObject", name := "addItemFor", desc := "(LProcessHeaps$HeapObject;)V" } : Jvm.MethodName) ({ cls := "ProcessHeaps$HeapObject", name := "addItemFor", desc := "(LProcessHeaps$HeapObject;)V" } : Jvm.MethodName) ∈ mm_B := mm_inB (List.mem_append_left _ (List.mem_of_getElem? (l := k2_sels lw_privs) (i := 24) (by decide +kernel))) rfl
theorem tp_25 : Cond.selects "ProcessHeaps" ({ cls := "ProcessHeaps", name := "dropChargesOfDead", desc := "()V" } : Jvm.MethodName) ({ cls := "ProcessHeaps", name := "dropChargesOfDead", desc := "()V" } : Jvm.MethodName) ∈ mm_B := mm_inB (List.mem_append_left _ (List.mem_of_getElem? (l := k2_sels lw_privs) (i := 25) (by decide +kernel))) rfl
theorem tp_26 : Cond.selects "ProcessHeaps" ({ cls := "ProcessHeaps", name := "mayChange", desc := "(LProcessHeaps$HeapProcess;LProcessHeaps$HeapObject;)Z" } : Jvm.MethodName) ({ cls := "ProcessHeaps", name := "mayChange", desc := "(LProcessHeaps$HeapProcess;LProcessHeaps$HeapObject;)Z" } : Jvm.MethodName) ∈ mm_B := mm_inB (List.mem_append_left _ (List.mem_of_getElem? (l := k2_sels lw_privs) (i := 26) (by decide +kernel))) rfl
theorem tp_27 : Cond.selects "ProcessHeaps" ({ cls := "ProcessHeaps", name := "mayName", desc := "(LProcessHeaps$HeapProcess;LProcessHeaps$HeapObject;LProcessHeaps$HeapObject;)Z" } : Jvm.MethodName) ({ cls := "ProcessHeaps", name := "mayName", desc := "(LProcessHeaps$HeapProcess;LProcessHeaps$HeapObject;LProcessHeaps$HeapObject;)Z" } : Jvm.MethodName) ∈ mm_B := mm_inB (List.mem_append_left _ (List.mem_of_getElem? (l := k2_sels lw_privs) (i := 27) (by decide +kernel))) rfl
theorem tp_28 : Cond.selects "ProcessHeaps" ({ cls := "ProcessHeaps", name := "mayHold", desc := "(LProcessHeaps$HeapProcess;LProcessHeaps$HeapObject;)Z" } : Jvm.MethodName) ({ cls := "ProcessHeaps", name := "mayHold", desc := "(LProcessHeaps$HeapProcess;LProcessHeaps$HeapObject;)Z" } : Jvm.MethodName) ∈ mm_B := mm_inB (List.mem_append_left _ (List.mem_of_getElem? (l := k2_sels lw_privs) (i := 28) (by decide +kernel))) rfl
theorem tp_29 : Cond.selects "ProcessHeapsModel" ({ cls := "ProcessHeapsModel", name := "lives", desc := "(I)Z" } : Jvm.MethodName) ({ cls := "ProcessHeapsModel", name := "lives", desc := "(I)Z" } : Jvm.MethodName) ∈ mm_B := mm_inB (List.mem_append_left _ (List.mem_of_getElem? (l := k2_sels lw_privs) (i := 29) (by decide +kernel))) rfl
theorem tp_30 : Cond.selects "ProcessHeapsModel" ({ cls := "ProcessHeapsModel", name := "rest", desc := "(I)I" } : Jvm.MethodName) ({ cls := "ProcessHeapsModel", name := "rest", desc := "(I)I" } : Jvm.MethodName) ∈ mm_B := mm_inB (List.mem_append_left _ (List.mem_of_getElem? (l := k2_sels lw_privs) (i := 30) (by decide +kernel))) rfl
theorem tp_31 : Cond.selects "ProcessHeapsModel" ({ cls := "ProcessHeapsModel", name := "work", desc := "()V" } : Jvm.MethodName) ({ cls := "ProcessHeapsModel", name := "work", desc := "()V" } : Jvm.MethodName) ∈ mm_B := mm_inB (List.mem_append_left _ (List.mem_of_getElem? (l := k2_sels lw_privs) (i := 31) (by decide +kernel))) rfl
theorem tp_32 : Cond.selects "ProcessHeapsModel" ({ cls := "ProcessHeapsModel", name := "frozen", desc := "(I)Z" } : Jvm.MethodName) ({ cls := "ProcessHeapsModel", name := "frozen", desc := "(I)Z" } : Jvm.MethodName) ∈ mm_B := mm_inB (List.mem_append_left _ (List.mem_of_getElem? (l := k2_sels lw_privs) (i := 32) (by decide +kernel))) rfl
theorem tp_33 : Cond.selects "ProcessHeapsModel" ({ cls := "ProcessHeapsModel", name := "die", desc := "(I)V" } : Jvm.MethodName) ({ cls := "ProcessHeapsModel", name := "die", desc := "(I)V" } : Jvm.MethodName) ∈ mm_B := mm_inB (List.mem_append_left _ (List.mem_of_getElem? (l := k2_sels lw_privs) (i := 33) (by decide +kernel))) rfl
theorem tp_34 : Cond.selects "ProcessHeapsModel" ({ cls := "ProcessHeapsModel", name := "names", desc := "(II)Z" } : Jvm.MethodName) ({ cls := "ProcessHeapsModel", name := "names", desc := "(II)Z" } : Jvm.MethodName) ∈ mm_B := mm_inB (List.mem_append_left _ (List.mem_of_getElem? (l := k2_sels lw_privs) (i := 34) (by decide +kernel))) rfl
theorem tp_35 : Cond.selects "ProcessHeapsModel" ({ cls := "ProcessHeapsModel", name := "merge", desc := "(I)V" } : Jvm.MethodName) ({ cls := "ProcessHeapsModel", name := "merge", desc := "(I)V" } : Jvm.MethodName) ∈ mm_B := mm_inB (List.mem_append_left _ (List.mem_of_getElem? (l := k2_sels lw_privs) (i := 35) (by decide +kernel))) rfl
theorem tp_36 : Cond.selects "ProcessHeapsModel" ({ cls := "ProcessHeapsModel", name := "vanish", desc := "()V" } : Jvm.MethodName) ({ cls := "ProcessHeapsModel", name := "vanish", desc := "()V" } : Jvm.MethodName) ∈ mm_B := mm_inB (List.mem_append_left _ (List.mem_of_getElem? (l := k2_sels lw_privs) (i := 36) (by decide +kernel))) rfl
theorem tp_37 : Cond.selects "ProcessHeapsModel" ({ cls := "ProcessHeapsModel", name := "free", desc := "(I)V" } : Jvm.MethodName) ({ cls := "ProcessHeapsModel", name := "free", desc := "(I)V" } : Jvm.MethodName) ∈ mm_B := mm_inB (List.mem_append_left _ (List.mem_of_getElem? (l := k2_sels lw_privs) (i := 37) (by decide +kernel))) rfl
theorem tp_38 : Cond.selects "ProcessHeapsModel" ({ cls := "ProcessHeapsModel", name := "find", desc := "(III)I" } : Jvm.MethodName) ({ cls := "ProcessHeapsModel", name := "find", desc := "(III)I" } : Jvm.MethodName) ∈ mm_B := mm_inB (List.mem_append_left _ (List.mem_of_getElem? (l := k2_sels lw_privs) (i := 38) (by decide +kernel))) rfl
theorem tp_39 : Cond.selects "ProcessHeapsModel" ({ cls := "ProcessHeapsModel", name := "fitting", desc := "(II)I" } : Jvm.MethodName) ({ cls := "ProcessHeapsModel", name := "fitting", desc := "(II)I" } : Jvm.MethodName) ∈ mm_B := mm_inB (List.mem_append_left _ (List.mem_of_getElem? (l := k2_sels lw_privs) (i := 39) (by decide +kernel))) rfl
theorem tp_40 : Cond.selects "ProcessHeapsModel" ({ cls := "ProcessHeapsModel", name := "sweep", desc := "(I)I" } : Jvm.MethodName) ({ cls := "ProcessHeapsModel", name := "sweep", desc := "(I)I" } : Jvm.MethodName) ∈ mm_B := mm_inB (List.mem_append_left _ (List.mem_of_getElem? (l := k2_sels lw_privs) (i := 40) (by decide +kernel))) rfl
theorem tp_41 : Cond.selects "ProcessHeapsModel" ({ cls := "ProcessHeapsModel", name := "reach", desc := "(I)V" } : Jvm.MethodName) ({ cls := "ProcessHeapsModel", name := "reach", desc := "(I)V" } : Jvm.MethodName) ∈ mm_B := mm_inB (List.mem_append_left _ (List.mem_of_getElem? (l := k2_sels lw_privs) (i := 41) (by decide +kernel))) rfl
theorem tp_42 : Cond.selects "ProcessHeapsModel" ({ cls := "ProcessHeapsModel", name := "root", desc := "(II)Z" } : Jvm.MethodName) ({ cls := "ProcessHeapsModel", name := "root", desc := "(II)Z" } : Jvm.MethodName) ∈ mm_B := mm_inB (List.mem_append_left _ (List.mem_of_getElem? (l := k2_sels lw_privs) (i := 42) (by decide +kernel))) rfl
theorem tp_43 : Cond.selects "ProcessHeapsModel" ({ cls := "ProcessHeapsModel", name := "inField", desc := "(II)Z" } : Jvm.MethodName) ({ cls := "ProcessHeapsModel", name := "inField", desc := "(II)Z" } : Jvm.MethodName) ∈ mm_B := mm_inB (List.mem_append_left _ (List.mem_of_getElem? (l := k2_sels lw_privs) (i := 43) (by decide +kernel))) rfl
theorem tp_44 : Cond.selects "ProcessHeapsModel" ({ cls := "ProcessHeapsModel", name := "holds", desc := "(II)Z" } : Jvm.MethodName) ({ cls := "ProcessHeapsModel", name := "holds", desc := "(II)Z" } : Jvm.MethodName) ∈ mm_B := mm_inB (List.mem_append_left _ (List.mem_of_getElem? (l := k2_sels lw_privs) (i := 44) (by decide +kernel))) rfl
theorem tp_45 : Cond.selects "ProcessHeapsModel" ({ cls := "ProcessHeapsModel", name := "exists", desc := "(I)Z" } : Jvm.MethodName) ({ cls := "ProcessHeapsModel", name := "exists", desc := "(I)Z" } : Jvm.MethodName) ∈ mm_B := mm_inB (List.mem_append_left _ (List.mem_of_getElem? (l := k2_sels lw_privs) (i := 45) (by decide +kernel))) rfl
end
section
/-! WHAT THE POOLS' ENTRIES ARE (by program) -/
theorem uw_0 : ∀ w ∈ u_ws "ProcessHeaps" TT0 7, w ∈ mm_B := by
  intro w hw
  obtain ⟨k, hk, rfl⟩ := List.mem_map.mp hw
  have hk := List.mem_range.mp hk
  match k, hk with
  | 0, _ => exact tb_159
  | 1, _ => exact tb_161
  | 2, _ => exact tb_163
  | 3, _ => exact tb_165
  | 4, _ => exact tb_167
  | 5, _ => exact tb_169
  | 6, _ => exact tb_171
  | n + 7, h => omega
theorem fp_0 : mm_Fp "ProcessHeaps" TT0 7 := ⟨⟨tt0, by decide +kernel⟩, by decide +kernel⟩
theorem rs_0_0 : mm_rs 1 0 = true := by decide +kernel
theorem rs_0_1 : mm_rs 1 1 = true := by decide +kernel
theorem rs_0_2 : mm_rs 1 2 = true := by decide +kernel
theorem rs_0_3 : mm_rs 1 3 = true := by decide +kernel
theorem rs_0_4 : mm_rs 1 4 = true := by decide +kernel
theorem rs_0_5 : mm_rs 1 5 = false := by decide +kernel
theorem rs_0_6 : mm_rs 1 6 = false := by decide +kernel
theorem uw_1 : ∀ w ∈ u_ws "ProcessHeaps$Memory" TT1 2, w ∈ mm_B := by
  intro w hw
  obtain ⟨k, hk, rfl⟩ := List.mem_map.mp hw
  have hk := List.mem_range.mp hk
  match k, hk with
  | 0, _ => exact tb_62
  | 1, _ => exact tb_64
  | n + 2, h => omega
theorem fp_1 : mm_Fp "ProcessHeaps$Memory" TT1 2 := ⟨⟨tt1, by decide +kernel⟩, by decide +kernel⟩
theorem rs_1_0 : mm_rs 2 0 = true := by decide +kernel
theorem rs_1_1 : mm_rs 2 1 = true := by decide +kernel
theorem uw_2 : ∀ w ∈ u_ws "java/util/ArrayList" TT2 3, w ∈ mm_B := by
  intro w hw
  obtain ⟨k, hk, rfl⟩ := List.mem_map.mp hw
  have hk := List.mem_range.mp hk
  match k, hk with
  | 0, _ => exact tb_51
  | 1, _ => exact tb_53
  | 2, _ => exact tb_55
  | n + 3, h => omega
theorem fp_2 : mm_Fp "java/util/ArrayList" TT2 3 := ⟨⟨tt2, by decide +kernel⟩, by decide +kernel⟩
theorem rs_2_0 : mm_rs 3 0 = true := by decide +kernel
theorem rs_2_1 : mm_rs 3 1 = false := by decide +kernel
theorem rs_2_2 : mm_rs 3 2 = false := by decide +kernel
theorem uw_3 : ∀ w ∈ u_ws "ProcessHeaps$Collector" TT3 2, w ∈ mm_B := by
  intro w hw
  obtain ⟨k, hk, rfl⟩ := List.mem_map.mp hw
  have hk := List.mem_range.mp hk
  match k, hk with
  | 0, _ => exact tb_77
  | 1, _ => exact tb_79
  | n + 2, h => omega
theorem fp_3 : mm_Fp "ProcessHeaps$Collector" TT3 2 := ⟨⟨tt3, by decide +kernel⟩, by decide +kernel⟩
theorem rs_3_0 : mm_rs 4 0 = true := by decide +kernel
theorem rs_3_1 : mm_rs 4 1 = false := by decide +kernel
theorem uw_4 : ∀ w ∈ u_ws "ProcessHeaps$Limits" TT4 3, w ∈ mm_B := by
  intro w hw
  obtain ⟨k, hk, rfl⟩ := List.mem_map.mp hw
  have hk := List.mem_range.mp hk
  match k, hk with
  | 0, _ => exact tb_94
  | 1, _ => exact tb_96
  | 2, _ => exact tb_98
  | n + 3, h => omega
theorem fp_4 : mm_Fp "ProcessHeaps$Limits" TT4 3 := ⟨⟨tt4, by decide +kernel⟩, by decide +kernel⟩
theorem rs_4_0 : mm_rs 5 0 = true := by decide +kernel
theorem rs_4_1 : mm_rs 5 1 = true := by decide +kernel
theorem rs_4_2 : mm_rs 5 2 = true := by decide +kernel
theorem uw_5 : ∀ w ∈ u_ws "ProcessHeaps$HeapProcess" TT5 8, w ∈ mm_B := by
  intro w hw
  obtain ⟨k, hk, rfl⟩ := List.mem_map.mp hw
  have hk := List.mem_range.mp hk
  match k, hk with
  | 0, _ => exact tb_135
  | 1, _ => exact tb_137
  | 2, _ => exact tb_139
  | 3, _ => exact tb_141
  | 4, _ => exact tb_143
  | 5, _ => exact tb_145
  | 6, _ => exact tb_147
  | 7, _ => exact tb_149
  | n + 8, h => omega
theorem fp_5 : mm_Fp "ProcessHeaps$HeapProcess" TT5 8 := ⟨⟨tt5, by decide +kernel⟩, by decide +kernel⟩
theorem rs_5_0 : mm_rs 6 0 = false := by decide +kernel
theorem rs_5_1 : mm_rs 6 1 = false := by decide +kernel
theorem rs_5_2 : mm_rs 6 2 = false := by decide +kernel
theorem rs_5_3 : mm_rs 6 3 = false := by decide +kernel
theorem rs_5_4 : mm_rs 6 4 = true := by decide +kernel
theorem rs_5_5 : mm_rs 6 5 = false := by decide +kernel
theorem rs_5_6 : mm_rs 6 6 = false := by decide +kernel
theorem rs_5_7 : mm_rs 6 7 = false := by decide +kernel
theorem uw_6 : ∀ w ∈ u_ws "ProcessHeaps$Page" TT6 3, w ∈ mm_B := by
  intro w hw
  obtain ⟨k, hk, rfl⟩ := List.mem_map.mp hw
  have hk := List.mem_range.mp hk
  match k, hk with
  | 0, _ => exact tb_423
  | 1, _ => exact tb_425
  | 2, _ => exact tb_427
  | n + 3, h => omega
theorem fp_6 : mm_Fp "ProcessHeaps$Page" TT6 3 := ⟨⟨tt6, by decide +kernel⟩, by decide +kernel⟩
theorem rs_6_0 : mm_rs 7 0 = false := by decide +kernel
theorem rs_6_1 : mm_rs 7 1 = false := by decide +kernel
theorem rs_6_2 : mm_rs 7 2 = false := by decide +kernel
theorem uw_7 : ∀ w ∈ u_ws "ProcessHeaps$HeapObject" TT7 6, w ∈ mm_B := by
  intro w hw
  obtain ⟨k, hk, rfl⟩ := List.mem_map.mp hw
  have hk := List.mem_range.mp hk
  match k, hk with
  | 0, _ => exact tb_504
  | 1, _ => exact tb_506
  | 2, _ => exact tb_508
  | 3, _ => exact tb_510
  | 4, _ => exact tb_512
  | 5, _ => exact tb_514
  | n + 6, h => omega
theorem fp_7 : mm_Fp "ProcessHeaps$HeapObject" TT7 6 := ⟨⟨tt7, by decide +kernel⟩, by decide +kernel⟩
theorem rs_7_0 : mm_rs 8 0 = true := by decide +kernel
theorem rs_7_1 : mm_rs 8 1 = false := by decide +kernel
theorem rs_7_2 : mm_rs 8 2 = false := by decide +kernel
theorem rs_7_3 : mm_rs 8 3 = true := by decide +kernel
theorem rs_7_4 : mm_rs 8 4 = false := by decide +kernel
theorem rs_7_5 : mm_rs 8 5 = false := by decide +kernel
theorem uw_8 : ∀ w ∈ u_ws "ProcessHeapsModel" TT8 25, w ∈ mm_B := by
  intro w hw
  obtain ⟨k, hk, rfl⟩ := List.mem_map.mp hw
  have hk := List.mem_range.mp hk
  match k, hk with
  | 0, _ => exact tb_655
  | 1, _ => exact tb_657
  | 2, _ => exact tb_659
  | 3, _ => exact tb_661
  | 4, _ => exact tb_663
  | 5, _ => exact tb_665
  | 6, _ => exact tb_667
  | 7, _ => exact tb_669
  | 8, _ => exact tb_671
  | 9, _ => exact tb_673
  | 10, _ => exact tb_675
  | 11, _ => exact tb_677
  | 12, _ => exact tb_679
  | 13, _ => exact tb_681
  | 14, _ => exact tb_683
  | 15, _ => exact tb_685
  | 16, _ => exact tb_687
  | 17, _ => exact tb_689
  | 18, _ => exact tb_691
  | 19, _ => exact tb_693
  | 20, _ => exact tb_695
  | 21, _ => exact tb_697
  | 22, _ => exact tb_699
  | 23, _ => exact tb_701
  | 24, _ => exact tb_703
  | n + 25, h => omega
theorem fp_8 : mm_Fp "ProcessHeapsModel" TT8 25 := ⟨⟨tt8, by decide +kernel⟩, by decide +kernel⟩
theorem rs_8_0 : mm_rs 9 0 = true := by decide +kernel
theorem rs_8_1 : mm_rs 9 1 = true := by decide +kernel
theorem rs_8_2 : mm_rs 9 2 = true := by decide +kernel
theorem rs_8_3 : mm_rs 9 3 = true := by decide +kernel
theorem rs_8_4 : mm_rs 9 4 = false := by decide +kernel
theorem rs_8_5 : mm_rs 9 5 = true := by decide +kernel
theorem rs_8_6 : mm_rs 9 6 = true := by decide +kernel
theorem rs_8_7 : mm_rs 9 7 = true := by decide +kernel
theorem rs_8_8 : mm_rs 9 8 = true := by decide +kernel
theorem rs_8_9 : mm_rs 9 9 = true := by decide +kernel
theorem rs_8_10 : mm_rs 9 10 = true := by decide +kernel
theorem rs_8_11 : mm_rs 9 11 = true := by decide +kernel
theorem rs_8_12 : mm_rs 9 12 = true := by decide +kernel
theorem rs_8_13 : mm_rs 9 13 = true := by decide +kernel
theorem rs_8_14 : mm_rs 9 14 = false := by decide +kernel
theorem rs_8_15 : mm_rs 9 15 = true := by decide +kernel
theorem rs_8_16 : mm_rs 9 16 = true := by decide +kernel
theorem rs_8_17 : mm_rs 9 17 = true := by decide +kernel
theorem rs_8_18 : mm_rs 9 18 = false := by decide +kernel
theorem rs_8_19 : mm_rs 9 19 = true := by decide +kernel
theorem rs_8_20 : mm_rs 9 20 = true := by decide +kernel
theorem rs_8_21 : mm_rs 9 21 = true := by decide +kernel
theorem rs_8_22 : mm_rs 9 22 = true := by decide +kernel
theorem rs_8_23 : mm_rs 9 23 = true := by decide +kernel
theorem rs_8_24 : mm_rs 9 24 = true := by decide +kernel
theorem fn_PH_7 : mm_Fn "ProcessHeaps" 7 1 "ProcessHeaps$Memory" TT1 2 := ⟨by decide, rfl, uw_1, tb_26, tb_27, tb_2, tt1, by decide +kernel, fun k hk => by
  match k, hk with
  | 0, _ => rfl
  | 1, _ => rfl
  | n + 2, h => omega⟩
theorem fc_PH_9 : mm_Fc "ProcessHeaps" 9 yy_Me_init Y_Me_init 0 := ⟨tb_30, tb_2, ⟨by decide, by decide, by decide +kernel⟩, Or.inr ⟨"ProcessHeaps", tn_28⟩⟩
theorem ff_PH_10 : mm_Fg "ProcessHeaps" 10 0 0 "ProcessHeaps" TT0 7 := ⟨by decide, rfl, by decide, uw_0, "ProcessHeaps", Or.inl tb_152, Or.inl rfl⟩
theorem fn_PH_16 : mm_Fn "ProcessHeaps" 16 3 "ProcessHeaps$Collector" TT3 2 := ⟨by decide, rfl, uw_3, tb_67, tb_68, tb_6, tt3, by decide +kernel, fun k hk => by
  match k, hk with
  | 0, _ => rfl
  | 1, _ => rfl
  | n + 2, h => omega⟩
theorem fc_PH_18 : mm_Fc "ProcessHeaps" 18 yy_Co_init Y_Co_init 0 := ⟨tb_71, tb_6, ⟨by decide, by decide, by decide +kernel⟩, Or.inr ⟨"ProcessHeaps", tn_69⟩⟩
theorem ff_PH_19 : mm_Fg "ProcessHeaps" 19 0 1 "ProcessHeaps" TT0 7 := ⟨by decide, rfl, by decide, uw_0, "ProcessHeaps", Or.inl tb_153, Or.inl rfl⟩
theorem fn_PH_23 : mm_Fn "ProcessHeaps" 23 4 "ProcessHeaps$Limits" TT4 3 := ⟨by decide, rfl, uw_4, tb_82, tb_83, tb_7, tt4, by decide +kernel, fun k hk => by
  match k, hk with
  | 0, _ => rfl
  | 1, _ => rfl
  | 2, _ => rfl
  | n + 3, h => omega⟩
theorem fc_PH_25 : mm_Fc "ProcessHeaps" 25 yy_Li_init Y_Li_init 0 := ⟨tb_86, tb_7, ⟨by decide, by decide, by decide +kernel⟩, Or.inr ⟨"ProcessHeaps", tn_84⟩⟩
theorem ff_PH_26 : mm_Fg "ProcessHeaps" 26 0 2 "ProcessHeaps" TT0 7 := ⟨by decide, rfl, by decide, uw_0, "ProcessHeaps", Or.inl tb_154, Or.inl rfl⟩
theorem fn_PH_30 : mm_Fn "ProcessHeaps" 30 5 "ProcessHeaps$HeapProcess" TT5 8 := ⟨by decide, rfl, uw_5, tb_103, tb_112, tb_9, tt5, by decide +kernel, fun k hk => by
  match k, hk with
  | 0, _ => rfl
  | 1, _ => rfl
  | 2, _ => rfl
  | 3, _ => rfl
  | 4, _ => rfl
  | 5, _ => rfl
  | 6, _ => rfl
  | 7, _ => rfl
  | n + 8, h => omega⟩
theorem ff_PH_32 : mm_Fg "ProcessHeaps" 32 0 3 "ProcessHeaps" TT0 7 := ⟨by decide, rfl, by decide, uw_0, "ProcessHeaps", Or.inl tb_155, Or.inl rfl⟩
theorem fn_PH_36 : mm_Fn "ProcessHeaps" 36 7 "ProcessHeaps$HeapObject" TT7 6 := ⟨by decide, rfl, uw_7, tb_105, tb_474, tb_17, tt7, by decide +kernel, fun k hk => by
  match k, hk with
  | 0, _ => rfl
  | 1, _ => rfl
  | 2, _ => rfl
  | 3, _ => rfl
  | 4, _ => rfl
  | 5, _ => rfl
  | n + 6, h => omega⟩
theorem ff_PH_38 : mm_Fg "ProcessHeaps" 38 0 4 "ProcessHeaps" TT0 7 := ⟨by decide, rfl, by decide, uw_0, "ProcessHeaps", Or.inl tb_156, Or.inl rfl⟩
theorem ff_PH_42 : mm_Fg "ProcessHeaps" 42 0 5 "ProcessHeaps" TT0 7 := ⟨by decide, rfl, by decide, uw_0, "ProcessHeaps", Or.inl tb_157, Or.inl rfl⟩
theorem ff_PH_46 : mm_Fg "ProcessHeaps" 46 0 6 "ProcessHeaps" TT0 7 := ⟨by decide, rfl, by decide, uw_0, "ProcessHeaps", Or.inl tb_158, Or.inl rfl⟩
theorem fc_PH_58 : mm_Fc "ProcessHeaps" 58 yy_Pr_init Y_Pr_init 4 := ⟨tb_115, tb_9, ⟨by decide, by decide, by decide +kernel⟩, Or.inl tb_113⟩
theorem fc_PH_61 : mm_Fc "ProcessHeaps" 61 yy_PH_livingProcess Y_PH_livingProcess 1 := ⟨tb_181, tb_1, ⟨by decide, by decide, by decide +kernel⟩, Or.inl tb_178⟩
theorem fc_PH_65 : mm_Fc "ProcessHeaps" 65 yy_PH_canPay Y_PH_canPay 2 := ⟨tb_193, tb_1, ⟨by decide, by decide, by decide +kernel⟩, Or.inl tb_190⟩
theorem ff_PH_69 : mm_Fg "ProcessHeaps" 69 5 5 "ProcessHeaps$HeapProcess" TT5 8 := ⟨by decide, rfl, by decide, uw_5, "ProcessHeaps$HeapProcess", Or.inl tb_131, Or.inl rfl⟩
theorem fc_PH_72 : mm_Fc "ProcessHeaps" 72 yy_Pr_isInKernelMode Y_Pr_isInKernelMode 0 := ⟨tb_246, tb_9, ⟨by decide, by decide, by decide +kernel⟩, Or.inl tb_243⟩
theorem fc_PH_76 : mm_Fc "ProcessHeaps" 76 yy_PH_die Y_PH_die 1 := ⟨tb_250, tb_1, ⟨by decide, by decide, by decide +kernel⟩, Or.inl tb_247⟩
theorem fc_PH_80 : mm_Fc "ProcessHeaps" 80 yy_PH_isRegister Y_PH_isRegister 1 := ⟨tb_392, tb_1, ⟨by decide, by decide, by decide +kernel⟩, Or.inl tb_390⟩
theorem ff_PH_84 : mm_Fg "ProcessHeaps" 84 1 1 "ProcessHeaps$Memory" TT1 2 := ⟨by decide, rfl, by decide, uw_1, "ProcessHeaps$Memory", Or.inl tb_61, Or.inl rfl⟩
theorem fc_PH_88 : mm_Fc "ProcessHeaps" 88 yy_AL_size Y_AL_size 0 := ⟨tb_209, tb_5, ⟨by decide, by decide, by decide +kernel⟩, Or.inl tb_393⟩
theorem fc_PH_94 : mm_Fc "ProcessHeaps" 94 yy_PH_pageForMaking Y_PH_pageForMaking 2 := ⟨tb_397, tb_1, ⟨by decide, by decide, by decide +kernel⟩, Or.inl tb_394⟩
theorem fc_PH_98 : mm_Fc "ProcessHeaps" 98 yy_PH_collectHeap Y_PH_collectHeap 1 := ⟨tb_433, tb_1, ⟨by decide, by decide, by decide +kernel⟩, Or.inl tb_430⟩
theorem ff_PH_102 : mm_Fg "ProcessHeaps" 102 5 4 "ProcessHeaps$HeapProcess" TT5 8 := ⟨by decide, rfl, by decide, uw_5, "ProcessHeaps$HeapProcess", Or.inl tb_129, Or.inl rfl⟩
theorem fc_PH_105 : mm_Fc "ProcessHeaps" 105 yy_Me_putObject Y_Me_putObject 3 := ⟨tb_485, tb_2, ⟨by decide, by decide, by decide +kernel⟩, Or.inl tb_482⟩
theorem fc_PH_109 : mm_Fc "ProcessHeaps" 109 yy_PH_isField Y_PH_isField 1 := ⟨tb_523, tb_1, ⟨by decide, by decide, by decide +kernel⟩, Or.inl tb_521⟩
theorem fc_PH_112 : mm_Fc "ProcessHeaps" 112 yy_PH_mayChange Y_PH_mayChange 2 := ⟨tb_527, tb_1, ⟨by decide, by decide, by decide +kernel⟩, Or.inl tb_524⟩
theorem fc_PH_116 : mm_Fc "ProcessHeaps" 116 yy_PH_mayName Y_PH_mayName 3 := ⟨tb_532, tb_1, ⟨by decide, by decide, by decide +kernel⟩, Or.inl tb_529⟩
theorem fc_PH_120 : mm_Fc "ProcessHeaps" 120 yy_Ob_setField Y_Ob_setField 2 := ⟨tb_536, tb_17, ⟨by decide, by decide, by decide +kernel⟩, Or.inl tb_533⟩
theorem ff_PH_124 : mm_Fg "ProcessHeaps" 124 7 3 "ProcessHeaps$HeapObject" TT7 6 := ⟨by decide, rfl, by decide, uw_7, "ProcessHeaps$HeapObject", Or.inl tb_499, Or.inl rfl⟩
theorem fc_PH_127 : mm_Fc "ProcessHeaps" 127 yy_PH_mayHold Y_PH_mayHold 2 := ⟨tb_544, tb_1, ⟨by decide, by decide, by decide +kernel⟩, Or.inl tb_541⟩
theorem ff_PH_130 : mm_Fg "ProcessHeaps" 130 5 6 "ProcessHeaps$HeapProcess" TT5 8 := ⟨by decide, rfl, by decide, uw_5, "ProcessHeaps$HeapProcess", Or.inl tb_133, Or.inl rfl⟩
theorem fc_PH_133 : mm_Fc "ProcessHeaps" 133 yy_Ob_heapNumber Y_Ob_heapNumber 0 := ⟨tb_262, tb_17, ⟨by decide, by decide, by decide +kernel⟩, Or.inl tb_528⟩
theorem fc_PH_136 : mm_Fc "ProcessHeaps" 136 yy_Me_endSinglePayment Y_Me_endSinglePayment 1 := ⟨tb_560, tb_2, ⟨by decide, by decide, by decide +kernel⟩, Or.inl tb_557⟩
theorem fc_PH_140 : mm_Fc "ProcessHeaps" 140 yy_Pr_addCharge Y_Pr_addCharge 1 := ⟨tb_564, tb_9, ⟨by decide, by decide, by decide +kernel⟩, Or.inl tb_561⟩
theorem fc_PH_143 : mm_Fc "ProcessHeaps" 143 yy_PH_isFrozen Y_PH_isFrozen 1 := ⟨tb_361, tb_1, ⟨by decide, by decide, by decide +kernel⟩, Or.inl tb_358⟩
theorem fc_PH_146 : mm_Fc "ProcessHeaps" 146 yy_Pr_isCharged Y_Pr_isCharged 1 := ⟨tb_228, tb_9, ⟨by decide, by decide, by decide +kernel⟩, Or.inl tb_369⟩
theorem fc_PH_149 : mm_Fc "ProcessHeaps" 149 yy_Me_countPages Y_Me_countPages 1 := ⟨tb_572, tb_2, ⟨by decide, by decide, by decide +kernel⟩, Or.inl tb_569⟩
theorem fc_PH_152 : mm_Fc "ProcessHeaps" 152 yy_PH_isMade Y_PH_isMade 1 := ⟨tb_185, tb_1, ⟨by decide, by decide, by decide +kernel⟩, Or.inl tb_182⟩
theorem fc_PH_155 : mm_Fc "ProcessHeaps" 155 yy_Me_countObjects Y_Me_countObjects 1 := ⟨tb_592, tb_2, ⟨by decide, by decide, by decide +kernel⟩, Or.inl tb_589⟩
theorem fc_PH_158 : mm_Fc "ProcessHeaps" 158 yy_PH_isHeap Y_PH_isHeap 1 := ⟨tb_364, tb_1, ⟨by decide, by decide, by decide +kernel⟩, Or.inl tb_362⟩
theorem fc_PH_161 : mm_Fc "ProcessHeaps" 161 yy_Me_countItems Y_Me_countItems 1 := ⟨tb_600, tb_2, ⟨by decide, by decide, by decide +kernel⟩, Or.inl tb_597⟩
theorem fc_PH_164 : mm_Fc "ProcessHeaps" 164 yy_Li_reckon Y_Li_reckon 2 := ⟨tb_197, tb_7, ⟨by decide, by decide, by decide +kernel⟩, Or.inl tb_194⟩
theorem ff_PH_168 : mm_Fg "ProcessHeaps" 168 4 2 "ProcessHeaps$Limits" TT4 3 := ⟨by decide, rfl, by decide, uw_4, "ProcessHeaps$Limits", Or.inl tb_93, Or.inl rfl⟩
theorem ff_PH_172 : mm_Fg "ProcessHeaps" 172 4 0 "ProcessHeaps$Limits" TT4 3 := ⟨by decide, rfl, by decide, uw_4, "ProcessHeaps$Limits", Or.inl tb_89, Or.inl rfl⟩
theorem ff_PH_176 : mm_Fg "ProcessHeaps" 176 4 1 "ProcessHeaps$Limits" TT4 3 := ⟨by decide, rfl, by decide, uw_4, "ProcessHeaps$Limits", Or.inl tb_91, Or.inl rfl⟩
theorem ff_PH_179 : mm_Fg "ProcessHeaps" 179 7 2 "ProcessHeaps$HeapObject" TT7 6 := ⟨by decide, rfl, by decide, uw_7, "ProcessHeaps$HeapObject", Or.inl tb_496, Or.inl rfl⟩
theorem fc_PH_182 : mm_Fc "ProcessHeaps" 182 yy_Pr_isLiving Y_Pr_isLiving 0 := ⟨tb_189, tb_9, ⟨by decide, by decide, by decide +kernel⟩, Or.inl tb_186⟩
theorem fc_PH_185 : mm_Fc "ProcessHeaps" 185 yy_Pr_heapForMaking Y_Pr_heapForMaking 0 := ⟨tb_401, tb_9, ⟨by decide, by decide, by decide +kernel⟩, Or.inl tb_398⟩
theorem fc_PH_188 : mm_Fc "ProcessHeaps" 188 yy_Me_findPage Y_Me_findPage 2 := ⟨tb_406, tb_2, ⟨by decide, by decide, by decide +kernel⟩, Or.inl tb_403⟩
theorem ff_PH_192 : mm_Fg "ProcessHeaps" 192 5 0 "ProcessHeaps$HeapProcess" TT5 8 := ⟨by decide, rfl, by decide, uw_5, "ProcessHeaps$HeapProcess", Or.inl tb_120, Or.inl rfl⟩
theorem fc_PH_195 : mm_Fc "ProcessHeaps" 195 yy_Me_addPage Y_Me_addPage 2 := ⟨tb_410, tb_2, ⟨by decide, by decide, by decide +kernel⟩, Or.inl tb_407⟩
theorem fc_PH_198 : mm_Fc "ProcessHeaps" 198 yy_Co_run Y_Co_run 3 := ⟨tb_437, tb_6, ⟨by decide, by decide, by decide +kernel⟩, Or.inl tb_434⟩
theorem fc_PH_202 : mm_Fc "ProcessHeaps" 202 yy_PH_dropChargesOfDead Y_PH_dropChargesOfDead 0 := ⟨tb_481, tb_1, ⟨by decide, by decide, by decide +kernel⟩, Or.inl tb_478⟩
theorem fc_PH_205 : mm_Fc "ProcessHeaps" 205 yy_PH_dropUnusedCharges Y_PH_dropUnusedCharges 1 := ⟨tb_254, tb_1, ⟨by decide, by decide, by decide +kernel⟩, Or.inl tb_251⟩
theorem fc_PH_208 : mm_Fc "ProcessHeaps" 208 yy_PH_dropGoneHeaps Y_PH_dropGoneHeaps 0 := ⟨tb_357, tb_1, ⟨by decide, by decide, by decide +kernel⟩, Or.inl tb_354⟩
theorem fc_PH_211 : mm_Fc "ProcessHeaps" 211 yy_Me_mergeIntoKernel Y_Me_mergeIntoKernel 1 := ⟨tb_280, tb_2, ⟨by decide, by decide, by decide +kernel⟩, Or.inl tb_277⟩
theorem fc_PH_214 : mm_Fc "ProcessHeaps" 214 yy_Me_handItemsToKernel Y_Me_handItemsToKernel 1 := ⟨tb_345, tb_2, ⟨by decide, by decide, by decide +kernel⟩, Or.inl tb_342⟩
theorem fc_PH_217 : mm_Fc "ProcessHeaps" 217 yy_Pr_holdsObjectOf Y_Pr_holdsObjectOf 1 := ⟨tb_258, tb_9, ⟨by decide, by decide, by decide +kernel⟩, Or.inl tb_255⟩
theorem fc_PH_220 : mm_Fc "ProcessHeaps" 220 yy_Me_hasItemInto Y_Me_hasItemInto 2 := ⟨tb_266, tb_2, ⟨by decide, by decide, by decide +kernel⟩, Or.inl tb_263⟩
theorem fc_PH_223 : mm_Fc "ProcessHeaps" 223 yy_Pr_dropCharge Y_Pr_dropCharge 1 := ⟨tb_276, tb_9, ⟨by decide, by decide, by decide +kernel⟩, Or.inl tb_273⟩
theorem fc_PH_226 : mm_Fc "ProcessHeaps" 226 yy_PH_endPaymentOfDead Y_PH_endPaymentOfDead 1 := ⟨tb_381, tb_1, ⟨by decide, by decide, by decide +kernel⟩, Or.inl tb_378⟩
theorem fc_PH_229 : mm_Fc "ProcessHeaps" 229 yy_PH_isSharedByLiving Y_PH_isSharedByLiving 1 := ⟨tb_368, tb_1, ⟨by decide, by decide, by decide +kernel⟩, Or.inl tb_365⟩
theorem fc_PH_232 : mm_Fc "ProcessHeaps" 232 yy_Me_freeUnreached Y_Me_freeUnreached 1 := ⟨tb_373, tb_2, ⟨by decide, by decide, by decide +kernel⟩, Or.inl tb_370⟩
theorem fn_Co_9 : mm_Fn "ProcessHeaps$Collector" 9 7 "ProcessHeaps$HeapObject" TT7 6 := ⟨by decide, rfl, uw_7, tb_73, tb_474, tb_17, tt7, by decide +kernel, fun k hk => by
  match k, hk with
  | 0, _ => rfl
  | 1, _ => rfl
  | 2, _ => rfl
  | 3, _ => rfl
  | 4, _ => rfl
  | 5, _ => rfl
  | n + 6, h => omega⟩
theorem ff_Co_11 : mm_Fg "ProcessHeaps$Collector" 11 3 0 "ProcessHeaps$Collector" TT3 2 := ⟨by decide, rfl, by decide, uw_3, "ProcessHeaps$Collector", Or.inl tb_75, Or.inl rfl⟩
theorem ff_Co_17 : mm_Fg "ProcessHeaps$Collector" 17 3 1 "ProcessHeaps$Collector" TT3 2 := ⟨by decide, rfl, by decide, uw_3, "ProcessHeaps$Collector", Or.inl tb_76, Or.inl rfl⟩
theorem fc_Co_21 : mm_Fc "ProcessHeaps$Collector" 21 yy_Co_reachHeld Y_Co_reachHeld 2 := ⟨tb_441, tb_6, ⟨by decide, by decide, by decide +kernel⟩, Or.inl tb_438⟩
theorem fc_Co_25 : mm_Fc "ProcessHeaps$Collector" 25 yy_Co_reachNamedFromOutside Y_Co_reachNamedFromOutside 2 := ⟨tb_450, tb_6, ⟨by decide, by decide, by decide +kernel⟩, Or.inl tb_447⟩
theorem fc_Co_29 : mm_Fc "ProcessHeaps$Collector" 29 yy_Co_followFields Y_Co_followFields 1 := ⟨tb_460, tb_6, ⟨by decide, by decide, by decide +kernel⟩, Or.inl tb_457⟩
theorem fc_Co_33 : mm_Fc "ProcessHeaps$Collector" 33 yy_Me_freeUnreached Y_Me_freeUnreached 1 := ⟨tb_373, tb_2, ⟨by decide, by decide, by decide +kernel⟩, Or.inl tb_461⟩
theorem fc_Co_39 : mm_Fc "ProcessHeaps$Collector" 39 yy_Co_loseItems Y_Co_loseItems 2 := ⟨tb_465, tb_6, ⟨by decide, by decide, by decide +kernel⟩, Or.inl tb_462⟩
theorem ff_Co_42 : mm_Fg "ProcessHeaps$Collector" 42 5 4 "ProcessHeaps$HeapProcess" TT5 8 := ⟨by decide, rfl, by decide, uw_5, "ProcessHeaps$HeapProcess", Or.inl tb_128, Or.inl rfl⟩
theorem fc_Co_47 : mm_Fc "ProcessHeaps$Collector" 47 yy_Co_reachObject Y_Co_reachObject 2 := ⟨tb_445, tb_6, ⟨by decide, by decide, by decide +kernel⟩, Or.inl tb_442⟩
theorem ff_Co_51 : mm_Fg "ProcessHeaps$Collector" 51 1 1 "ProcessHeaps$Memory" TT1 2 := ⟨by decide, rfl, by decide, uw_1, "ProcessHeaps$Memory", Or.inl tb_60, Or.inl rfl⟩
theorem fc_Co_55 : mm_Fc "ProcessHeaps$Collector" 55 yy_AL_size Y_AL_size 0 := ⟨tb_209, tb_5, ⟨by decide, by decide, by decide +kernel⟩, Or.inl tb_451⟩
theorem fc_Co_61 : mm_Fc "ProcessHeaps$Collector" 61 yy_AL_get Y_AL_get 1 := ⟨tb_213, tb_5, ⟨by decide, by decide, by decide +kernel⟩, Or.inl tb_452⟩
theorem fc_Co_65 : mm_Fc "ProcessHeaps$Collector" 65 yy_Ob_hasAnyItem Y_Ob_hasAnyItem 0 := ⟨tb_456, tb_17, ⟨by decide, by decide, by decide +kernel⟩, Or.inl tb_453⟩
theorem ff_Co_69 : mm_Fg "ProcessHeaps$Collector" 69 7 3 "ProcessHeaps$HeapObject" TT7 6 := ⟨by decide, rfl, by decide, uw_7, "ProcessHeaps$HeapObject", Or.inl tb_498, Or.inl rfl⟩
theorem fc_Co_72 : mm_Fc "ProcessHeaps$Collector" 72 yy_Ob_heapNumber Y_Ob_heapNumber 0 := ⟨tb_262, tb_17, ⟨by decide, by decide, by decide +kernel⟩, Or.inl tb_446⟩
theorem ff_Co_75 : mm_Fg "ProcessHeaps$Collector" 75 7 4 "ProcessHeaps$HeapObject" TT7 6 := ⟨by decide, rfl, by decide, uw_7, "ProcessHeaps$HeapObject", Or.inl tb_501, Or.inl rfl⟩
theorem fc_Co_78 : mm_Fc "ProcessHeaps$Collector" 78 yy_Ob_dropItem Y_Ob_dropItem 1 := ⟨tb_349, tb_17, ⟨by decide, by decide, by decide +kernel⟩, Or.inl tb_466⟩
theorem fc_Co_81 : mm_Fc "ProcessHeaps$Collector" 81 yy_Ob_addItemsForFields Y_Ob_addItemsForFields 0 := ⟨tb_470, tb_17, ⟨by decide, by decide, by decide +kernel⟩, Or.inl tb_467⟩
theorem fn_Ob_9 : mm_Fn "ProcessHeaps$HeapObject" 9 7 "ProcessHeaps$HeapObject" TT7 6 := ⟨by decide, rfl, uw_7, tb_490, tb_474, tb_17, tt7, by decide +kernel, fun k hk => by
  match k, hk with
  | 0, _ => rfl
  | 1, _ => rfl
  | 2, _ => rfl
  | 3, _ => rfl
  | 4, _ => rfl
  | 5, _ => rfl
  | n + 6, h => omega⟩
theorem ff_Ob_11 : mm_Fg "ProcessHeaps$HeapObject" 11 7 3 "ProcessHeaps$HeapObject" TT7 6 := ⟨by decide, rfl, by decide, uw_7, "ProcessHeaps$HeapObject", Or.inl tb_497, Or.inl rfl⟩
theorem ff_Ob_15 : mm_Fg "ProcessHeaps$HeapObject" 15 7 4 "ProcessHeaps$HeapObject" TT7 6 := ⟨by decide, rfl, by decide, uw_7, "ProcessHeaps$HeapObject", Or.inl tb_500, Or.inl rfl⟩
theorem ff_Ob_19 : mm_Fg "ProcessHeaps$HeapObject" 19 7 5 "ProcessHeaps$HeapObject" TT7 6 := ⟨by decide, rfl, by decide, uw_7, "ProcessHeaps$HeapObject", Or.inl tb_503, Or.inl rfl⟩
theorem ff_Ob_23 : mm_Fg "ProcessHeaps$HeapObject" 23 7 0 "ProcessHeaps$HeapObject" TT7 6 := ⟨by decide, rfl, by decide, uw_7, "ProcessHeaps$HeapObject", Or.inl tb_491, Or.inl rfl⟩
theorem ff_Ob_27 : mm_Fg "ProcessHeaps$HeapObject" 27 7 1 "ProcessHeaps$HeapObject" TT7 6 := ⟨by decide, rfl, by decide, uw_7, "ProcessHeaps$HeapObject", Or.inl tb_493, Or.inl rfl⟩
theorem ff_Ob_30 : mm_Fg "ProcessHeaps$HeapObject" 30 7 2 "ProcessHeaps$HeapObject" TT7 6 := ⟨by decide, rfl, by decide, uw_7, "ProcessHeaps$HeapObject", Or.inl tb_495, Or.inl rfl⟩
theorem ff_Ob_33 : mm_Fg "ProcessHeaps$HeapObject" 33 6 0 "ProcessHeaps$Page" TT6 3 := ⟨by decide, rfl, by decide, uw_6, "ProcessHeaps$Page", Or.inl tb_417, Or.inl rfl⟩
theorem fc_Ob_38 : mm_Fc "ProcessHeaps$HeapObject" 38 yy_Ob_addItemFor Y_Ob_addItemFor 1 := ⟨tb_475, tb_17, ⟨by decide, by decide, by decide +kernel⟩, Or.inl tb_471⟩
theorem fc_Ob_42 : mm_Fc "ProcessHeaps$HeapObject" 42 yy_Ob_heapNumber Y_Ob_heapNumber 0 := ⟨tb_262, tb_17, ⟨by decide, by decide, by decide +kernel⟩, Or.inl tb_476⟩
theorem fc_Ob_46 : mm_Fc "ProcessHeaps$HeapObject" 46 yy_Ob_addItem Y_Ob_addItem 1 := ⟨tb_353, tb_17, ⟨by decide, by decide, by decide +kernel⟩, Or.inl tb_477⟩
theorem fn_Pr_9 : mm_Fn "ProcessHeaps$HeapProcess" 9 7 "ProcessHeaps$HeapObject" TT7 6 := ⟨by decide, rfl, uw_7, tb_117, tb_474, tb_17, tt7, by decide +kernel, fun k hk => by
  match k, hk with
  | 0, _ => rfl
  | 1, _ => rfl
  | 2, _ => rfl
  | 3, _ => rfl
  | 4, _ => rfl
  | 5, _ => rfl
  | n + 6, h => omega⟩
theorem ff_Pr_11 : mm_Fg "ProcessHeaps$HeapProcess" 11 5 4 "ProcessHeaps$HeapProcess" TT5 8 := ⟨by decide, rfl, by decide, uw_5, "ProcessHeaps$HeapProcess", Or.inl tb_127, Or.inl rfl⟩
theorem ff_Pr_17 : mm_Fg "ProcessHeaps$HeapProcess" 17 5 5 "ProcessHeaps$HeapProcess" TT5 8 := ⟨by decide, rfl, by decide, uw_5, "ProcessHeaps$HeapProcess", Or.inl tb_130, Or.inl rfl⟩
theorem ff_Pr_21 : mm_Fg "ProcessHeaps$HeapProcess" 21 5 6 "ProcessHeaps$HeapProcess" TT5 8 := ⟨by decide, rfl, by decide, uw_5, "ProcessHeaps$HeapProcess", Or.inl tb_132, Or.inl rfl⟩
theorem ff_Pr_24 : mm_Fg "ProcessHeaps$HeapProcess" 24 5 7 "ProcessHeaps$HeapProcess" TT5 8 := ⟨by decide, rfl, by decide, uw_5, "ProcessHeaps$HeapProcess", Or.inl tb_134, Or.inl rfl⟩
theorem ff_Pr_27 : mm_Fg "ProcessHeaps$HeapProcess" 27 5 0 "ProcessHeaps$HeapProcess" TT5 8 := ⟨by decide, rfl, by decide, uw_5, "ProcessHeaps$HeapProcess", Or.inl tb_118, Or.inl rfl⟩
theorem ff_Pr_30 : mm_Fg "ProcessHeaps$HeapProcess" 30 5 1 "ProcessHeaps$HeapProcess" TT5 8 := ⟨by decide, rfl, by decide, uw_5, "ProcessHeaps$HeapProcess", Or.inl tb_121, Or.inl rfl⟩
theorem ff_Pr_33 : mm_Fg "ProcessHeaps$HeapProcess" 33 5 2 "ProcessHeaps$HeapProcess" TT5 8 := ⟨by decide, rfl, by decide, uw_5, "ProcessHeaps$HeapProcess", Or.inl tb_123, Or.inl rfl⟩
theorem ff_Pr_36 : mm_Fg "ProcessHeaps$HeapProcess" 36 5 3 "ProcessHeaps$HeapProcess" TT5 8 := ⟨by decide, rfl, by decide, uw_5, "ProcessHeaps$HeapProcess", Or.inl tb_125, Or.inl rfl⟩
theorem fc_Pr_40 : mm_Fc "ProcessHeaps$HeapProcess" 40 yy_Pr_isInKernelMode Y_Pr_isInKernelMode 0 := ⟨tb_246, tb_9, ⟨by decide, by decide, by decide +kernel⟩, Or.inl tb_402⟩
theorem fc_Pr_44 : mm_Fc "ProcessHeaps$HeapProcess" 44 yy_Ob_heapNumber Y_Ob_heapNumber 0 := ⟨tb_262, tb_17, ⟨by decide, by decide, by decide +kernel⟩, Or.inl tb_259⟩
theorem ff_Li_9 : mm_Fg "ProcessHeaps$Limits" 9 4 0 "ProcessHeaps$Limits" TT4 3 := ⟨by decide, rfl, by decide, uw_4, "ProcessHeaps$Limits", Or.inl tb_88, Or.inl rfl⟩
theorem ff_Li_15 : mm_Fg "ProcessHeaps$Limits" 15 4 1 "ProcessHeaps$Limits" TT4 3 := ⟨by decide, rfl, by decide, uw_4, "ProcessHeaps$Limits", Or.inl tb_90, Or.inl rfl⟩
theorem ff_Li_18 : mm_Fg "ProcessHeaps$Limits" 18 4 2 "ProcessHeaps$Limits" TT4 3 := ⟨by decide, rfl, by decide, uw_4, "ProcessHeaps$Limits", Or.inl tb_92, Or.inl rfl⟩
theorem fc_Li_22 : mm_Fc "ProcessHeaps$Limits" 22 yy_Li_reckonPayments Y_Li_reckonPayments 2 := ⟨tb_201, tb_7, ⟨by decide, by decide, by decide +kernel⟩, Or.inl tb_198⟩
theorem fc_Li_26 : mm_Fc "ProcessHeaps$Limits" 26 yy_Li_addChildren Y_Li_addChildren 1 := ⟨tb_233, tb_7, ⟨by decide, by decide, by decide +kernel⟩, Or.inl tb_230⟩
theorem fc_Li_30 : mm_Fc "ProcessHeaps$Limits" 30 yy_Li_reckonSpare Y_Li_reckonSpare 1 := ⟨tb_237, tb_7, ⟨by decide, by decide, by decide +kernel⟩, Or.inl tb_234⟩
theorem fc_Li_33 : mm_Fc "ProcessHeaps$Limits" 33 yy_Me_countPaidPages Y_Me_countPaidPages 1 := ⟨tb_205, tb_2, ⟨by decide, by decide, by decide +kernel⟩, Or.inl tb_202⟩
theorem fc_Li_39 : mm_Fc "ProcessHeaps$Limits" 39 yy_Pr_isLiving Y_Pr_isLiving 0 := ⟨tb_189, tb_9, ⟨by decide, by decide, by decide +kernel⟩, Or.inl tb_229⟩
theorem ff_Li_45 : mm_Fg "ProcessHeaps$Limits" 45 5 1 "ProcessHeaps$HeapProcess" TT5 8 := ⟨by decide, rfl, by decide, uw_5, "ProcessHeaps$HeapProcess", Or.inl tb_122, Or.inl rfl⟩
theorem ff_Li_49 : mm_Fg "ProcessHeaps$Limits" 49 5 3 "ProcessHeaps$HeapProcess" TT5 8 := ⟨by decide, rfl, by decide, uw_5, "ProcessHeaps$HeapProcess", Or.inl tb_126, Or.inl rfl⟩
theorem ff_Li_53 : mm_Fg "ProcessHeaps$Limits" 53 5 2 "ProcessHeaps$HeapProcess" TT5 8 := ⟨by decide, rfl, by decide, uw_5, "ProcessHeaps$HeapProcess", Or.inl tb_124, Or.inl rfl⟩
theorem fn_Me_9 : mm_Fn "ProcessHeaps$Memory" 9 2 "java/util/ArrayList" TT2 3 := ⟨by decide, rfl, uw_2, tb_32, tb_33, tb_5, tt2, by decide +kernel, fun k hk => by
  match k, hk with
  | 0, _ => rfl
  | 1, _ => rfl
  | 2, _ => rfl
  | n + 3, h => omega⟩
theorem fc_Me_11 : mm_Fc "ProcessHeaps$Memory" 11 yy_AL_init Y_AL_init 0 := ⟨tb_36, tb_5, ⟨by decide, by decide, by decide +kernel⟩, Or.inl tb_34⟩
theorem ff_Me_12 : mm_Fg "ProcessHeaps$Memory" 12 1 0 "ProcessHeaps$Memory" TT1 2 := ⟨by decide, rfl, by decide, uw_1, "ProcessHeaps$Memory", Or.inl tb_58, Or.inl rfl⟩
theorem ff_Me_18 : mm_Fg "ProcessHeaps$Memory" 18 1 1 "ProcessHeaps$Memory" TT1 2 := ⟨by decide, rfl, by decide, uw_1, "ProcessHeaps$Memory", Or.inl tb_59, Or.inl rfl⟩
theorem fc_Me_21 : mm_Fc "ProcessHeaps$Memory" 21 yy_AL_size Y_AL_size 0 := ⟨tb_209, tb_5, ⟨by decide, by decide, by decide +kernel⟩, Or.inl tb_206⟩
theorem fc_Me_25 : mm_Fc "ProcessHeaps$Memory" 25 yy_AL_get Y_AL_get 1 := ⟨tb_213, tb_5, ⟨by decide, by decide, by decide +kernel⟩, Or.inl tb_210⟩
theorem fn_Me_29 : mm_Fn "ProcessHeaps$Memory" 29 6 "ProcessHeaps$Page" TT6 3 := ⟨by decide, rfl, uw_6, tb_224, tb_411, tb_16, tt6, by decide +kernel, fun k hk => by
  match k, hk with
  | 0, _ => rfl
  | 1, _ => rfl
  | 2, _ => rfl
  | n + 3, h => omega⟩
theorem ff_Me_31 : mm_Fg "ProcessHeaps$Memory" 31 6 0 "ProcessHeaps$Page" TT6 3 := ⟨by decide, rfl, by decide, uw_6, "ProcessHeaps$Page", Or.inl tb_418, Or.inl rfl⟩
theorem ff_Me_35 : mm_Fg "ProcessHeaps$Memory" 35 6 1 "ProcessHeaps$Page" TT6 3 := ⟨by decide, rfl, by decide, uw_6, "ProcessHeaps$Page", Or.inl tb_420, Or.inl rfl⟩
theorem ff_Me_38 : mm_Fg "ProcessHeaps$Memory" 38 5 0 "ProcessHeaps$HeapProcess" TT5 8 := ⟨by decide, rfl, by decide, uw_5, "ProcessHeaps$HeapProcess", Or.inl tb_119, Or.inl rfl⟩
theorem fc_Me_43 : mm_Fc "ProcessHeaps$Memory" 43 yy_Pr_isCharged Y_Pr_isCharged 1 := ⟨tb_228, tb_9, ⟨by decide, by decide, by decide +kernel⟩, Or.inl tb_225⟩
theorem fn_Me_47 : mm_Fn "ProcessHeaps$Memory" 47 7 "ProcessHeaps$HeapObject" TT7 6 := ⟨by decide, rfl, uw_7, tb_267, tb_474, tb_17, tt7, by decide +kernel, fun k hk => by
  match k, hk with
  | 0, _ => rfl
  | 1, _ => rfl
  | 2, _ => rfl
  | 3, _ => rfl
  | 4, _ => rfl
  | 5, _ => rfl
  | n + 6, h => omega⟩
theorem fc_Me_49 : mm_Fc "ProcessHeaps$Memory" 49 yy_Ob_heapNumber Y_Ob_heapNumber 0 := ⟨tb_262, tb_17, ⟨by decide, by decide, by decide +kernel⟩, Or.inl tb_268⟩
theorem fc_Me_52 : mm_Fc "ProcessHeaps$Memory" 52 yy_Ob_hasItem Y_Ob_hasItem 1 := ⟨tb_272, tb_17, ⟨by decide, by decide, by decide +kernel⟩, Or.inl tb_269⟩
theorem ff_Me_55 : mm_Fg "ProcessHeaps$Memory" 55 6 2 "ProcessHeaps$Page" TT6 3 := ⟨by decide, rfl, by decide, uw_6, "ProcessHeaps$Page", Or.inl tb_422, Or.inl rfl⟩
theorem fc_Me_58 : mm_Fc "ProcessHeaps$Memory" 58 yy_Pa_init Y_Pa_init 2 := ⟨tb_414, tb_16, ⟨by decide, by decide, by decide +kernel⟩, Or.inl tb_412⟩
theorem fc_Me_61 : mm_Fc "ProcessHeaps$Memory" 61 yy_AL_add Y_AL_add 1 := ⟨tb_295, tb_5, ⟨by decide, by decide, by decide +kernel⟩, Or.inl tb_292⟩
theorem fc_Me_65 : mm_Fc "ProcessHeaps$Memory" 65 yy_Ob_init Y_Ob_init 3 := ⟨tb_488, tb_17, ⟨by decide, by decide, by decide +kernel⟩, Or.inl tb_486⟩
theorem ff_Me_68 : mm_Fg "ProcessHeaps$Memory" 68 7 4 "ProcessHeaps$HeapObject" TT7 6 := ⟨by decide, rfl, by decide, uw_7, "ProcessHeaps$HeapObject", Or.inl tb_502, Or.inl rfl⟩
theorem ff_Me_72 : mm_Fg "ProcessHeaps$Memory" 72 7 0 "ProcessHeaps$HeapObject" TT7 6 := ⟨by decide, rfl, by decide, uw_7, "ProcessHeaps$HeapObject", Or.inl tb_492, Or.inl rfl⟩
theorem ff_Me_76 : mm_Fg "ProcessHeaps$Memory" 76 7 1 "ProcessHeaps$HeapObject" TT7 6 := ⟨by decide, rfl, by decide, uw_7, "ProcessHeaps$HeapObject", Or.inl tb_494, Or.inl rfl⟩
theorem fc_Me_78 : mm_Fc "ProcessHeaps$Memory" 78 yy_AL_remove Y_AL_remove 1 := ⟨tb_284, tb_5, ⟨by decide, by decide, by decide +kernel⟩, Or.inl tb_281⟩
theorem fc_Me_81 : mm_Fc "ProcessHeaps$Memory" 81 yy_Me_giveBackEmptyPages Y_Me_giveBackEmptyPages 0 := ⟨tb_377, tb_2, ⟨by decide, by decide, by decide +kernel⟩, Or.inl tb_374⟩
theorem fc_Me_84 : mm_Fc "ProcessHeaps$Memory" 84 yy_Ob_dropItem Y_Ob_dropItem 1 := ⟨tb_349, tb_17, ⟨by decide, by decide, by decide +kernel⟩, Or.inl tb_346⟩
theorem fc_Me_88 : mm_Fc "ProcessHeaps$Memory" 88 yy_Ob_addItem Y_Ob_addItem 1 := ⟨tb_353, tb_17, ⟨by decide, by decide, by decide +kernel⟩, Or.inl tb_350⟩
theorem ff_Pa_9 : mm_Fg "ProcessHeaps$Page" 9 6 2 "ProcessHeaps$Page" TT6 3 := ⟨by decide, rfl, by decide, uw_6, "ProcessHeaps$Page", Or.inl tb_421, Or.inl rfl⟩
theorem ff_Pa_15 : mm_Fg "ProcessHeaps$Page" 15 6 0 "ProcessHeaps$Page" TT6 3 := ⟨by decide, rfl, by decide, uw_6, "ProcessHeaps$Page", Or.inl tb_416, Or.inl rfl⟩
theorem ff_Pa_18 : mm_Fg "ProcessHeaps$Page" 18 6 1 "ProcessHeaps$Page" TT6 3 := ⟨by decide, rfl, by decide, uw_6, "ProcessHeaps$Page", Or.inl tb_419, Or.inl rfl⟩
theorem fn_La_7 : mm_Fn "ProcessHeapsLaw" 7 0 "ProcessHeaps" TT0 7 := ⟨by decide, rfl, uw_0, tb_18, tb_19, tb_1, tt0, by decide +kernel, fun k hk => by
  match k, hk with
  | 0, _ => rfl
  | 1, _ => rfl
  | 2, _ => rfl
  | 3, _ => rfl
  | 4, _ => rfl
  | 5, _ => rfl
  | 6, _ => rfl
  | n + 7, h => omega⟩
theorem fc_La_9 : mm_Fc "ProcessHeapsLaw" 9 yy_La_cell Y_La_cell 2 := ⟨tb_623, tb_0, ⟨by decide, by decide, by decide +kernel⟩, Or.inl tb_621⟩
theorem fc_La_15 : mm_Fc "ProcessHeapsLaw" 15 yy_PH_init Y_PH_init 1 := ⟨tb_22, tb_1, ⟨by decide, by decide, by decide +kernel⟩, Or.inl tb_20⟩
theorem fn_La_18 : mm_Fn "ProcessHeapsLaw" 18 8 "ProcessHeapsModel" TT8 25 := ⟨by decide, rfl, uw_8, tb_624, tb_625, tb_10, tt8, by decide +kernel, fun k hk => by
  match k, hk with
  | 0, _ => rfl
  | 1, _ => rfl
  | 2, _ => rfl
  | 3, _ => rfl
  | 4, _ => rfl
  | 5, _ => rfl
  | 6, _ => rfl
  | 7, _ => rfl
  | 8, _ => rfl
  | 9, _ => rfl
  | 10, _ => rfl
  | 11, _ => rfl
  | 12, _ => rfl
  | 13, _ => rfl
  | 14, _ => rfl
  | 15, _ => rfl
  | 16, _ => rfl
  | 17, _ => rfl
  | 18, _ => rfl
  | 19, _ => rfl
  | 20, _ => rfl
  | 21, _ => rfl
  | 22, _ => rfl
  | 23, _ => rfl
  | 24, _ => rfl
  | n + 25, h => omega⟩
theorem fc_La_20 : mm_Fc "ProcessHeapsLaw" 20 yy_Mo_init Y_Mo_init 1 := ⟨tb_628, tb_10, ⟨by decide, by decide, by decide +kernel⟩, Or.inl tb_626⟩
theorem fc_La_21 : mm_Fc "ProcessHeapsLaw" 21 yy_PH_spawn Y_PH_spawn 3 := ⟨tb_177, tb_1, ⟨by decide, by decide, by decide +kernel⟩, Or.inl tb_174⟩
theorem fc_La_25 : mm_Fc "ProcessHeapsLaw" 25 yy_Mo_spawn Y_Mo_spawn 3 := ⟨tb_709, tb_10, ⟨by decide, by decide, by decide +kernel⟩, Or.inl tb_706⟩
theorem fc_La_26 : mm_Fc "ProcessHeapsLaw" 26 yy_PH_kill Y_PH_kill 1 := ⟨tb_242, tb_1, ⟨by decide, by decide, by decide +kernel⟩, Or.inl tb_239⟩
theorem fc_La_30 : mm_Fc "ProcessHeapsLaw" 30 yy_Mo_kill Y_Mo_kill 1 := ⟨tb_733, tb_10, ⟨by decide, by decide, by decide +kernel⟩, Or.inl tb_730⟩
theorem fc_La_31 : mm_Fc "ProcessHeapsLaw" 31 yy_PH_mode Y_PH_mode 2 := ⟨tb_385, tb_1, ⟨by decide, by decide, by decide +kernel⟩, Or.inl tb_382⟩
theorem fc_La_35 : mm_Fc "ProcessHeapsLaw" 35 yy_Mo_mode Y_Mo_mode 2 := ⟨tb_757, tb_10, ⟨by decide, by decide, by decide +kernel⟩, Or.inl tb_754⟩
theorem fc_La_36 : mm_Fc "ProcessHeapsLaw" 36 yy_PH_make Y_PH_make 4 := ⟨tb_389, tb_1, ⟨by decide, by decide, by decide +kernel⟩, Or.inl tb_386⟩
theorem fc_La_40 : mm_Fc "ProcessHeapsLaw" 40 yy_Mo_make Y_Mo_make 4 := ⟨tb_761, tb_10, ⟨by decide, by decide, by decide +kernel⟩, Or.inl tb_758⟩
theorem fc_La_41 : mm_Fc "ProcessHeapsLaw" 41 yy_PH_store Y_PH_store 4 := ⟨tb_520, tb_1, ⟨by decide, by decide, by decide +kernel⟩, Or.inl tb_517⟩
theorem fc_La_44 : mm_Fc "ProcessHeapsLaw" 44 yy_Mo_store Y_Mo_store 4 := ⟨tb_796, tb_10, ⟨by decide, by decide, by decide +kernel⟩, Or.inl tb_793⟩
theorem fc_La_45 : mm_Fc "ProcessHeapsLaw" 45 yy_PH_load Y_PH_load 4 := ⟨tb_540, tb_1, ⟨by decide, by decide, by decide +kernel⟩, Or.inl tb_537⟩
theorem fc_La_48 : mm_Fc "ProcessHeapsLaw" 48 yy_Mo_load Y_Mo_load 4 := ⟨tb_800, tb_10, ⟨by decide, by decide, by decide +kernel⟩, Or.inl tb_797⟩
theorem fc_La_49 : mm_Fc "ProcessHeapsLaw" 49 yy_PH_move Y_PH_move 3 := ⟨tb_548, tb_1, ⟨by decide, by decide, by decide +kernel⟩, Or.inl tb_545⟩
theorem fc_La_53 : mm_Fc "ProcessHeapsLaw" 53 yy_Mo_move Y_Mo_move 3 := ⟨tb_804, tb_10, ⟨by decide, by decide, by decide +kernel⟩, Or.inl tb_801⟩
theorem fc_La_54 : mm_Fc "ProcessHeapsLaw" 54 yy_PH_begin Y_PH_begin 1 := ⟨tb_552, tb_1, ⟨by decide, by decide, by decide +kernel⟩, Or.inl tb_549⟩
theorem fc_La_58 : mm_Fc "ProcessHeapsLaw" 58 yy_Mo_begin Y_Mo_begin 1 := ⟨tb_808, tb_10, ⟨by decide, by decide, by decide +kernel⟩, Or.inl tb_805⟩
theorem fc_La_59 : mm_Fc "ProcessHeapsLaw" 59 yy_PH_freeze Y_PH_freeze 2 := ⟨tb_556, tb_1, ⟨by decide, by decide, by decide +kernel⟩, Or.inl tb_553⟩
theorem fc_La_63 : mm_Fc "ProcessHeapsLaw" 63 yy_Mo_freeze Y_Mo_freeze 2 := ⟨tb_812, tb_10, ⟨by decide, by decide, by decide +kernel⟩, Or.inl tb_809⟩
theorem fc_La_64 : mm_Fc "ProcessHeapsLaw" 64 yy_PH_lookup Y_PH_lookup 3 := ⟨tb_568, tb_1, ⟨by decide, by decide, by decide +kernel⟩, Or.inl tb_565⟩
theorem fc_La_68 : mm_Fc "ProcessHeapsLaw" 68 yy_Mo_lookup Y_Mo_lookup 3 := ⟨tb_816, tb_10, ⟨by decide, by decide, by decide +kernel⟩, Or.inl tb_813⟩
theorem fc_La_69 : mm_Fc "ProcessHeapsLaw" 69 yy_PH_collect Y_PH_collect 1 := ⟨tb_576, tb_1, ⟨by decide, by decide, by decide +kernel⟩, Or.inl tb_573⟩
theorem fc_La_72 : mm_Fc "ProcessHeapsLaw" 72 yy_Mo_collect Y_Mo_collect 1 := ⟨tb_820, tb_10, ⟨by decide, by decide, by decide +kernel⟩, Or.inl tb_817⟩
theorem fc_La_73 : mm_Fc "ProcessHeapsLaw" 73 yy_PH_state Y_PH_state 1 := ⟨tb_580, tb_1, ⟨by decide, by decide, by decide +kernel⟩, Or.inl tb_577⟩
theorem fc_La_76 : mm_Fc "ProcessHeapsLaw" 76 yy_Mo_state Y_Mo_state 1 := ⟨tb_824, tb_10, ⟨by decide, by decide, by decide +kernel⟩, Or.inl tb_821⟩
theorem fc_La_77 : mm_Fc "ProcessHeapsLaw" 77 yy_PH_pages Y_PH_pages 1 := ⟨tb_584, tb_1, ⟨by decide, by decide, by decide +kernel⟩, Or.inl tb_581⟩
theorem fc_La_80 : mm_Fc "ProcessHeapsLaw" 80 yy_Mo_pages Y_Mo_pages 1 := ⟨tb_729, tb_10, ⟨by decide, by decide, by decide +kernel⟩, Or.inl tb_825⟩
theorem fc_La_81 : mm_Fc "ProcessHeapsLaw" 81 yy_PH_objects Y_PH_objects 1 := ⟨tb_588, tb_1, ⟨by decide, by decide, by decide +kernel⟩, Or.inl tb_585⟩
theorem fc_La_84 : mm_Fc "ProcessHeapsLaw" 84 yy_Mo_objects Y_Mo_objects 1 := ⟨tb_829, tb_10, ⟨by decide, by decide, by decide +kernel⟩, Or.inl tb_826⟩
theorem fc_La_85 : mm_Fc "ProcessHeapsLaw" 85 yy_PH_items Y_PH_items 1 := ⟨tb_596, tb_1, ⟨by decide, by decide, by decide +kernel⟩, Or.inl tb_593⟩
theorem fc_La_88 : mm_Fc "ProcessHeapsLaw" 88 yy_Mo_items Y_Mo_items 1 := ⟨tb_833, tb_10, ⟨by decide, by decide, by decide +kernel⟩, Or.inl tb_830⟩
theorem fc_La_89 : mm_Fc "ProcessHeapsLaw" 89 yy_PH_use Y_PH_use 1 := ⟨tb_604, tb_1, ⟨by decide, by decide, by decide +kernel⟩, Or.inl tb_601⟩
theorem fc_La_92 : mm_Fc "ProcessHeapsLaw" 92 yy_Mo_use Y_Mo_use 1 := ⟨tb_837, tb_10, ⟨by decide, by decide, by decide +kernel⟩, Or.inl tb_834⟩
theorem fc_La_93 : mm_Fc "ProcessHeapsLaw" 93 yy_PH_room Y_PH_room 1 := ⟨tb_608, tb_1, ⟨by decide, by decide, by decide +kernel⟩, Or.inl tb_605⟩
theorem fc_La_96 : mm_Fc "ProcessHeapsLaw" 96 yy_Mo_room Y_Mo_room 1 := ⟨tb_845, tb_10, ⟨by decide, by decide, by decide +kernel⟩, Or.inl tb_842⟩
theorem fc_La_97 : mm_Fc "ProcessHeapsLaw" 97 yy_PH_shares Y_PH_shares 2 := ⟨tb_612, tb_1, ⟨by decide, by decide, by decide +kernel⟩, Or.inl tb_609⟩
theorem fc_La_101 : mm_Fc "ProcessHeapsLaw" 101 yy_Mo_shares Y_Mo_shares 2 := ⟨tb_849, tb_10, ⟨by decide, by decide, by decide +kernel⟩, Or.inl tb_846⟩
theorem fc_La_102 : mm_Fc "ProcessHeapsLaw" 102 yy_PH_where Y_PH_where 2 := ⟨tb_616, tb_1, ⟨by decide, by decide, by decide +kernel⟩, Or.inl tb_613⟩
theorem fc_La_105 : mm_Fc "ProcessHeapsLaw" 105 yy_Mo_where Y_Mo_where 2 := ⟨tb_853, tb_10, ⟨by decide, by decide, by decide +kernel⟩, Or.inl tb_850⟩
theorem fc_La_106 : mm_Fc "ProcessHeapsLaw" 106 yy_PH_tag Y_PH_tag 2 := ⟨tb_620, tb_1, ⟨by decide, by decide, by decide +kernel⟩, Or.inl tb_617⟩
theorem fc_La_109 : mm_Fc "ProcessHeapsLaw" 109 yy_Mo_tag Y_Mo_tag 2 := ⟨tb_857, tb_10, ⟨by decide, by decide, by decide +kernel⟩, Or.inl tb_854⟩
theorem ff_Mo_7 : mm_Fg "ProcessHeapsModel" 7 8 0 "ProcessHeapsModel" TT8 25 := ⟨by decide, rfl, by decide, uw_8, "ProcessHeapsModel", Or.inl tb_630, Or.inl rfl⟩
theorem ff_Mo_13 : mm_Fg "ProcessHeapsModel" 13 8 1 "ProcessHeapsModel" TT8 25 := ⟨by decide, rfl, by decide, uw_8, "ProcessHeapsModel", Or.inl tb_631, Or.inl rfl⟩
theorem ff_Mo_16 : mm_Fg "ProcessHeapsModel" 16 8 2 "ProcessHeapsModel" TT8 25 := ⟨by decide, rfl, by decide, uw_8, "ProcessHeapsModel", Or.inl tb_632, Or.inl rfl⟩
theorem ff_Mo_19 : mm_Fg "ProcessHeapsModel" 19 8 3 "ProcessHeapsModel" TT8 25 := ⟨by decide, rfl, by decide, uw_8, "ProcessHeapsModel", Or.inl tb_633, Or.inl rfl⟩
theorem ff_Mo_23 : mm_Fg "ProcessHeapsModel" 23 8 5 "ProcessHeapsModel" TT8 25 := ⟨by decide, rfl, by decide, uw_8, "ProcessHeapsModel", Or.inl tb_635, Or.inl rfl⟩
theorem ff_Mo_26 : mm_Fg "ProcessHeapsModel" 26 8 6 "ProcessHeapsModel" TT8 25 := ⟨by decide, rfl, by decide, uw_8, "ProcessHeapsModel", Or.inl tb_636, Or.inl rfl⟩
theorem ff_Mo_29 : mm_Fg "ProcessHeapsModel" 29 8 7 "ProcessHeapsModel" TT8 25 := ⟨by decide, rfl, by decide, uw_8, "ProcessHeapsModel", Or.inl tb_637, Or.inl rfl⟩
theorem ff_Mo_32 : mm_Fg "ProcessHeapsModel" 32 8 8 "ProcessHeapsModel" TT8 25 := ⟨by decide, rfl, by decide, uw_8, "ProcessHeapsModel", Or.inl tb_638, Or.inl rfl⟩
theorem ff_Mo_35 : mm_Fg "ProcessHeapsModel" 35 8 9 "ProcessHeapsModel" TT8 25 := ⟨by decide, rfl, by decide, uw_8, "ProcessHeapsModel", Or.inl tb_639, Or.inl rfl⟩
theorem ff_Mo_38 : mm_Fg "ProcessHeapsModel" 38 8 10 "ProcessHeapsModel" TT8 25 := ⟨by decide, rfl, by decide, uw_8, "ProcessHeapsModel", Or.inl tb_640, Or.inl rfl⟩
theorem ff_Mo_41 : mm_Fg "ProcessHeapsModel" 41 8 11 "ProcessHeapsModel" TT8 25 := ⟨by decide, rfl, by decide, uw_8, "ProcessHeapsModel", Or.inl tb_641, Or.inl rfl⟩
theorem ff_Mo_44 : mm_Fg "ProcessHeapsModel" 44 8 12 "ProcessHeapsModel" TT8 25 := ⟨by decide, rfl, by decide, uw_8, "ProcessHeapsModel", Or.inl tb_642, Or.inl rfl⟩
theorem ff_Mo_47 : mm_Fg "ProcessHeapsModel" 47 8 13 "ProcessHeapsModel" TT8 25 := ⟨by decide, rfl, by decide, uw_8, "ProcessHeapsModel", Or.inl tb_643, Or.inl rfl⟩
theorem ff_Mo_50 : mm_Fg "ProcessHeapsModel" 50 8 15 "ProcessHeapsModel" TT8 25 := ⟨by decide, rfl, by decide, uw_8, "ProcessHeapsModel", Or.inl tb_645, Or.inl rfl⟩
theorem ff_Mo_53 : mm_Fg "ProcessHeapsModel" 53 8 16 "ProcessHeapsModel" TT8 25 := ⟨by decide, rfl, by decide, uw_8, "ProcessHeapsModel", Or.inl tb_646, Or.inl rfl⟩
theorem ff_Mo_56 : mm_Fg "ProcessHeapsModel" 56 8 17 "ProcessHeapsModel" TT8 25 := ⟨by decide, rfl, by decide, uw_8, "ProcessHeapsModel", Or.inl tb_647, Or.inl rfl⟩
theorem ff_Mo_59 : mm_Fg "ProcessHeapsModel" 59 8 19 "ProcessHeapsModel" TT8 25 := ⟨by decide, rfl, by decide, uw_8, "ProcessHeapsModel", Or.inl tb_649, Or.inl rfl⟩
theorem ff_Mo_62 : mm_Fg "ProcessHeapsModel" 62 8 20 "ProcessHeapsModel" TT8 25 := ⟨by decide, rfl, by decide, uw_8, "ProcessHeapsModel", Or.inl tb_650, Or.inl rfl⟩
theorem ff_Mo_65 : mm_Fg "ProcessHeapsModel" 65 8 21 "ProcessHeapsModel" TT8 25 := ⟨by decide, rfl, by decide, uw_8, "ProcessHeapsModel", Or.inl tb_651, Or.inl rfl⟩
theorem ff_Mo_68 : mm_Fg "ProcessHeapsModel" 68 8 22 "ProcessHeapsModel" TT8 25 := ⟨by decide, rfl, by decide, uw_8, "ProcessHeapsModel", Or.inl tb_652, Or.inl rfl⟩
theorem ff_Mo_71 : mm_Fg "ProcessHeapsModel" 71 8 23 "ProcessHeapsModel" TT8 25 := ⟨by decide, rfl, by decide, uw_8, "ProcessHeapsModel", Or.inl tb_653, Or.inl rfl⟩
theorem ff_Mo_74 : mm_Fg "ProcessHeapsModel" 74 8 24 "ProcessHeapsModel" TT8 25 := ⟨by decide, rfl, by decide, uw_8, "ProcessHeapsModel", Or.inl tb_654, Or.inl rfl⟩
theorem ff_Mo_77 : mm_Fg "ProcessHeapsModel" 77 8 4 "ProcessHeapsModel" TT8 25 := ⟨by decide, rfl, by decide, uw_8, "ProcessHeapsModel", Or.inl tb_634, Or.inl rfl⟩
theorem fc_Mo_81 : mm_Fc "ProcessHeapsModel" 81 yy_Mo_frozen Y_Mo_frozen 1 := ⟨tb_725, tb_10, ⟨by decide, by decide, by decide +kernel⟩, Or.inl tb_722⟩
theorem fc_Mo_85 : mm_Fc "ProcessHeapsModel" 85 yy_Mo_pages Y_Mo_pages 1 := ⟨tb_729, tb_10, ⟨by decide, by decide, by decide +kernel⟩, Or.inl tb_726⟩
theorem fc_Mo_89 : mm_Fc "ProcessHeapsModel" 89 yy_Mo_lives Y_Mo_lives 1 := ⟨tb_713, tb_10, ⟨by decide, by decide, by decide +kernel⟩, Or.inl tb_710⟩
theorem fc_Mo_92 : mm_Fc "ProcessHeapsModel" 92 yy_Mo_work Y_Mo_work 0 := ⟨tb_721, tb_10, ⟨by decide, by decide, by decide +kernel⟩, Or.inl tb_718⟩
theorem fc_Mo_95 : mm_Fc "ProcessHeapsModel" 95 yy_Mo_root Y_Mo_root 2 := ⟨tb_784, tb_10, ⟨by decide, by decide, by decide +kernel⟩, Or.inl tb_781⟩
theorem fc_Mo_99 : mm_Fc "ProcessHeapsModel" 99 yy_Mo_reach Y_Mo_reach 1 := ⟨tb_780, tb_10, ⟨by decide, by decide, by decide +kernel⟩, Or.inl tb_777⟩
theorem fc_Mo_103 : mm_Fc "ProcessHeapsModel" 103 yy_Mo_free Y_Mo_free 1 := ⟨tb_753, tb_10, ⟨by decide, by decide, by decide +kernel⟩, Or.inl tb_750⟩
theorem fc_Mo_106 : mm_Fc "ProcessHeapsModel" 106 yy_Mo_inField Y_Mo_inField 2 := ⟨tb_788, tb_10, ⟨by decide, by decide, by decide +kernel⟩, Or.inl tb_785⟩
theorem fc_Mo_109 : mm_Fc "ProcessHeapsModel" 109 yy_Mo_names Y_Mo_names 2 := ⟨tb_741, tb_10, ⟨by decide, by decide, by decide +kernel⟩, Or.inl tb_738⟩
theorem fc_Mo_112 : mm_Fc "ProcessHeapsModel" 112 yy_Mo_holds Y_Mo_holds 2 := ⟨tb_792, tb_10, ⟨by decide, by decide, by decide +kernel⟩, Or.inl tb_789⟩
theorem fc_Mo_115 : mm_Fc "ProcessHeapsModel" 115 yy_Mo_vanish Y_Mo_vanish 0 := ⟨tb_749, tb_10, ⟨by decide, by decide, by decide +kernel⟩, Or.inl tb_746⟩
theorem ff_Mo_118 : mm_Fg "ProcessHeapsModel" 118 8 14 "ProcessHeapsModel" TT8 25 := ⟨by decide, rfl, by decide, uw_8, "ProcessHeapsModel", Or.inl tb_644, Or.inl rfl⟩
theorem fc_Mo_121 : mm_Fc "ProcessHeapsModel" 121 yy_Mo_merge Y_Mo_merge 1 := ⟨tb_745, tb_10, ⟨by decide, by decide, by decide +kernel⟩, Or.inl tb_742⟩
theorem fc_Mo_124 : mm_Fc "ProcessHeapsModel" 124 yy_Mo_rest Y_Mo_rest 1 := ⟨tb_717, tb_10, ⟨by decide, by decide, by decide +kernel⟩, Or.inl tb_714⟩
theorem fc_Mo_127 : mm_Fc "ProcessHeapsModel" 127 yy_Mo_die Y_Mo_die 1 := ⟨tb_737, tb_10, ⟨by decide, by decide, by decide +kernel⟩, Or.inl tb_734⟩
theorem fc_Mo_130 : mm_Fc "ProcessHeapsModel" 130 yy_Mo_fitting Y_Mo_fitting 2 := ⟨tb_772, tb_10, ⟨by decide, by decide, by decide +kernel⟩, Or.inl tb_769⟩
theorem fc_Mo_134 : mm_Fc "ProcessHeapsModel" 134 yy_Mo_isRegister Y_Mo_isRegister 1 := ⟨tb_764, tb_10, ⟨by decide, by decide, by decide +kernel⟩, Or.inl tb_762⟩
theorem fc_Mo_137 : mm_Fc "ProcessHeapsModel" 137 yy_Mo_find Y_Mo_find 3 := ⟨tb_768, tb_10, ⟨by decide, by decide, by decide +kernel⟩, Or.inl tb_765⟩
theorem fc_Mo_141 : mm_Fc "ProcessHeapsModel" 141 yy_Mo_sweep Y_Mo_sweep 1 := ⟨tb_776, tb_10, ⟨by decide, by decide, by decide +kernel⟩, Or.inl tb_773⟩
theorem ff_Mo_144 : mm_Fg "ProcessHeapsModel" 144 8 18 "ProcessHeapsModel" TT8 25 := ⟨by decide, rfl, by decide, uw_8, "ProcessHeapsModel", Or.inl tb_648, Or.inl rfl⟩
theorem fc_Mo_147 : mm_Fc "ProcessHeapsModel" 147 yy_Mo_exists Y_Mo_exists 1 := ⟨tb_841, tb_10, ⟨by decide, by decide, by decide +kernel⟩, Or.inl tb_838⟩
theorem fc_Ab_1 : mm_Fc "java/util/AbstractList" 1 yy_Ac_init Y_Ac_init 0 := ⟨tb_42, tb_3, ⟨by decide, by decide, by decide +kernel⟩, Or.inl tb_40⟩
theorem ff_Ab_7 : mm_Fg "java/util/AbstractList" 7 2 2 "java/util/ArrayList" TT2 3 := ⟨by decide, rfl, by decide, uw_2, "java/util/AbstractList", Or.inl tb_48, Or.inl rfl⟩
theorem fc_AL_1 : mm_Fc "java/util/ArrayList" 1 yy_Ab_init Y_Ab_init 0 := ⟨tb_39, tb_4, ⟨by decide, by decide, by decide +kernel⟩, Or.inl tb_37⟩
theorem ff_AL_9 : mm_Fg "java/util/ArrayList" 9 2 0 "java/util/ArrayList" TT2 3 := ⟨by decide, rfl, by decide, uw_2, "java/util/ArrayList", Or.inl tb_46, Or.inl rfl⟩
theorem ff_AL_48 : mm_Fg "java/util/ArrayList" 48 2 1 "java/util/ArrayList" TT2 3 := ⟨by decide, rfl, by decide, uw_2, "java/util/ArrayList", Or.inl tb_47, Or.inl rfl⟩
theorem ff_AL_63 : mm_Fg "java/util/ArrayList" 63 2 2 "java/util/ArrayList" TT2 3 := ⟨by decide, rfl, by decide, uw_2, "java/util/ArrayList", Or.inl tb_49, Or.inr tb_50⟩
theorem fc_AL_66 : mm_Fc "java/util/ArrayList" 66 yy_Ar_copyOf Y_Ar_copyOf 2 := ⟨tb_318, tb_15, ⟨by decide, by decide, by decide +kernel⟩, Or.inl tb_316⟩
theorem fc_AL_69 : mm_Fc "java/util/ArrayList" 69 yy_AL_grow2 Y_AL_grow2 1 := ⟨tb_307, tb_5, ⟨by decide, by decide, by decide +kernel⟩, Or.inl tb_304⟩
theorem fc_AL_73 : mm_Fc "java/util/ArrayList" 73 yy_As_newLength Y_As_newLength 3 := ⟨tb_310, tb_14, ⟨by decide, by decide, by decide +kernel⟩, Or.inl tb_308⟩
theorem fc_AL_118 : mm_Fc "java/util/ArrayList" 118 yy_Os_checkIndex Y_Os_checkIndex 2 := ⟨tb_216, tb_11, ⟨by decide, by decide, by decide +kernel⟩, Or.inl tb_214⟩
theorem fc_AL_123 : mm_Fc "java/util/ArrayList" 123 yy_AL_elementData Y_AL_elementData 1 := ⟨tb_223, tb_5, ⟨by decide, by decide, by decide +kernel⟩, Or.inl tb_220⟩
theorem fc_AL_129 : mm_Fc "java/util/ArrayList" 129 yy_AL_grow Y_AL_grow 0 := ⟨tb_303, tb_5, ⟨by decide, by decide, by decide +kernel⟩, Or.inl tb_300⟩
theorem fc_AL_131 : mm_Fc "java/util/ArrayList" 131 yy_AL_add2 Y_AL_add2 3 := ⟨tb_299, tb_5, ⟨by decide, by decide, by decide +kernel⟩, Or.inl tb_296⟩
theorem fc_AL_144 : mm_Fc "java/util/ArrayList" 144 yy_AL_fastRemove Y_AL_fastRemove 2 := ⟨tb_288, tb_5, ⟨by decide, by decide, by decide +kernel⟩, Or.inl tb_285⟩
theorem fc_Ar_300 : mm_Fc "java/util/Arrays" 300 yy_Ar_copyOf2 Y_Ar_copyOf2 3 := ⟨tb_334, tb_15, ⟨by decide, by decide, by decide +kernel⟩, Or.inl tb_332⟩
theorem fc_Os_105 : mm_Fc "java/util/Objects" 105 yy_Pc_checkIndex Y_Pc_checkIndex 3 := ⟨tb_219, tb_12, ⟨by decide, by decide, by decide +kernel⟩, Or.inl tb_217⟩
theorem iv_PH_init : Cond.instanceMethod yy_PH_init ∈ mm_B := tb_21
theorem iv_Me_init : Cond.instanceMethod yy_Me_init ∈ mm_B := tb_29
theorem iv_AL_init : Cond.instanceMethod yy_AL_init ∈ mm_B := tb_35
theorem iv_Ab_init : Cond.instanceMethod yy_Ab_init ∈ mm_B := tb_38
theorem iv_Ac_init : Cond.instanceMethod yy_Ac_init ∈ mm_B := tb_41
theorem iv_Co_init : Cond.instanceMethod yy_Co_init ∈ mm_B := tb_70
theorem iv_Li_init : Cond.instanceMethod yy_Li_init ∈ mm_B := tb_85
theorem iv_Pr_init : Cond.instanceMethod yy_Pr_init ∈ mm_B := tb_114
theorem iv_PH_spawn : Cond.instanceMethod yy_PH_spawn ∈ mm_B := tb_175
theorem sv_PH_spawn : Cond.selects yy_PH_spawn.cls yy_PH_spawn yy_PH_spawn ∈ mm_B := tb_176
theorem iv_PH_livingProcess : Cond.instanceMethod yy_PH_livingProcess ∈ mm_B := tb_180
theorem sv_PH_livingProcess : Cond.selects yy_PH_livingProcess.cls yy_PH_livingProcess yy_PH_livingProcess ∈ mm_B := tp_0
theorem iv_PH_isMade : Cond.instanceMethod yy_PH_isMade ∈ mm_B := tb_184
theorem sv_PH_isMade : Cond.selects yy_PH_isMade.cls yy_PH_isMade yy_PH_isMade ∈ mm_B := tp_1
theorem iv_Pr_isLiving : Cond.instanceMethod yy_Pr_isLiving ∈ mm_B := tb_187
theorem sv_Pr_isLiving : Cond.selects yy_Pr_isLiving.cls yy_Pr_isLiving yy_Pr_isLiving ∈ mm_B := tb_188
theorem iv_PH_canPay : Cond.instanceMethod yy_PH_canPay ∈ mm_B := tb_192
theorem sv_PH_canPay : Cond.selects yy_PH_canPay.cls yy_PH_canPay yy_PH_canPay ∈ mm_B := tp_2
theorem iv_Li_reckon : Cond.instanceMethod yy_Li_reckon ∈ mm_B := tb_195
theorem sv_Li_reckon : Cond.selects yy_Li_reckon.cls yy_Li_reckon yy_Li_reckon ∈ mm_B := tb_196
theorem iv_Li_reckonPayments : Cond.instanceMethod yy_Li_reckonPayments ∈ mm_B := tb_200
theorem sv_Li_reckonPayments : Cond.selects yy_Li_reckonPayments.cls yy_Li_reckonPayments yy_Li_reckonPayments ∈ mm_B := tp_3
theorem iv_Me_countPaidPages : Cond.instanceMethod yy_Me_countPaidPages ∈ mm_B := tb_203
theorem sv_Me_countPaidPages : Cond.selects yy_Me_countPaidPages.cls yy_Me_countPaidPages yy_Me_countPaidPages ∈ mm_B := tb_204
theorem iv_AL_size : Cond.instanceMethod yy_AL_size ∈ mm_B := tb_207
theorem sv_AL_size : Cond.selects yy_AL_size.cls yy_AL_size yy_AL_size ∈ mm_B := tb_208
theorem iv_AL_get : Cond.instanceMethod yy_AL_get ∈ mm_B := tb_211
theorem sv_AL_get : Cond.selects yy_AL_get.cls yy_AL_get yy_AL_get ∈ mm_B := tb_212
theorem si_Os_checkIndex : Cond.static yy_Os_checkIndex ∈ mm_B := tb_215
theorem si_Pc_checkIndex : Cond.static yy_Pc_checkIndex ∈ mm_B := tb_218
theorem iv_AL_elementData : Cond.instanceMethod yy_AL_elementData ∈ mm_B := tb_221
theorem sv_AL_elementData : Cond.selects yy_AL_elementData.cls yy_AL_elementData yy_AL_elementData ∈ mm_B := tb_222
theorem iv_Pr_isCharged : Cond.instanceMethod yy_Pr_isCharged ∈ mm_B := tb_226
theorem sv_Pr_isCharged : Cond.selects yy_Pr_isCharged.cls yy_Pr_isCharged yy_Pr_isCharged ∈ mm_B := tb_227
theorem iv_Li_addChildren : Cond.instanceMethod yy_Li_addChildren ∈ mm_B := tb_232
theorem sv_Li_addChildren : Cond.selects yy_Li_addChildren.cls yy_Li_addChildren yy_Li_addChildren ∈ mm_B := tp_4
theorem iv_Li_reckonSpare : Cond.instanceMethod yy_Li_reckonSpare ∈ mm_B := tb_236
theorem sv_Li_reckonSpare : Cond.selects yy_Li_reckonSpare.cls yy_Li_reckonSpare yy_Li_reckonSpare ∈ mm_B := tp_5
theorem iv_PH_kill : Cond.instanceMethod yy_PH_kill ∈ mm_B := tb_240
theorem sv_PH_kill : Cond.selects yy_PH_kill.cls yy_PH_kill yy_PH_kill ∈ mm_B := tb_241
theorem iv_Pr_isInKernelMode : Cond.instanceMethod yy_Pr_isInKernelMode ∈ mm_B := tb_244
theorem sv_Pr_isInKernelMode : Cond.selects yy_Pr_isInKernelMode.cls yy_Pr_isInKernelMode yy_Pr_isInKernelMode ∈ mm_B := tb_245
theorem iv_PH_die : Cond.instanceMethod yy_PH_die ∈ mm_B := tb_249
theorem sv_PH_die : Cond.selects yy_PH_die.cls yy_PH_die yy_PH_die ∈ mm_B := tp_6
theorem iv_PH_dropUnusedCharges : Cond.instanceMethod yy_PH_dropUnusedCharges ∈ mm_B := tb_253
theorem sv_PH_dropUnusedCharges : Cond.selects yy_PH_dropUnusedCharges.cls yy_PH_dropUnusedCharges yy_PH_dropUnusedCharges ∈ mm_B := tp_7
theorem iv_Pr_holdsObjectOf : Cond.instanceMethod yy_Pr_holdsObjectOf ∈ mm_B := tb_256
theorem sv_Pr_holdsObjectOf : Cond.selects yy_Pr_holdsObjectOf.cls yy_Pr_holdsObjectOf yy_Pr_holdsObjectOf ∈ mm_B := tb_257
theorem iv_Ob_heapNumber : Cond.instanceMethod yy_Ob_heapNumber ∈ mm_B := tb_260
theorem sv_Ob_heapNumber : Cond.selects yy_Ob_heapNumber.cls yy_Ob_heapNumber yy_Ob_heapNumber ∈ mm_B := tb_261
theorem iv_Me_hasItemInto : Cond.instanceMethod yy_Me_hasItemInto ∈ mm_B := tb_264
theorem sv_Me_hasItemInto : Cond.selects yy_Me_hasItemInto.cls yy_Me_hasItemInto yy_Me_hasItemInto ∈ mm_B := tb_265
theorem iv_Ob_hasItem : Cond.instanceMethod yy_Ob_hasItem ∈ mm_B := tb_270
theorem sv_Ob_hasItem : Cond.selects yy_Ob_hasItem.cls yy_Ob_hasItem yy_Ob_hasItem ∈ mm_B := tb_271
theorem iv_Pr_dropCharge : Cond.instanceMethod yy_Pr_dropCharge ∈ mm_B := tb_274
theorem sv_Pr_dropCharge : Cond.selects yy_Pr_dropCharge.cls yy_Pr_dropCharge yy_Pr_dropCharge ∈ mm_B := tb_275
theorem iv_Me_mergeIntoKernel : Cond.instanceMethod yy_Me_mergeIntoKernel ∈ mm_B := tb_278
theorem sv_Me_mergeIntoKernel : Cond.selects yy_Me_mergeIntoKernel.cls yy_Me_mergeIntoKernel yy_Me_mergeIntoKernel ∈ mm_B := tb_279
theorem iv_AL_remove : Cond.instanceMethod yy_AL_remove ∈ mm_B := tb_282
theorem sv_AL_remove : Cond.selects yy_AL_remove.cls yy_AL_remove yy_AL_remove ∈ mm_B := tb_283
theorem iv_AL_fastRemove : Cond.instanceMethod yy_AL_fastRemove ∈ mm_B := tb_287
theorem sv_AL_fastRemove : Cond.selects yy_AL_fastRemove.cls yy_AL_fastRemove yy_AL_fastRemove ∈ mm_B := tp_8
theorem iv_AL_add : Cond.instanceMethod yy_AL_add ∈ mm_B := tb_293
theorem sv_AL_add : Cond.selects yy_AL_add.cls yy_AL_add yy_AL_add ∈ mm_B := tb_294
theorem iv_AL_add2 : Cond.instanceMethod yy_AL_add2 ∈ mm_B := tb_298
theorem sv_AL_add2 : Cond.selects yy_AL_add2.cls yy_AL_add2 yy_AL_add2 ∈ mm_B := tp_9
theorem iv_AL_grow : Cond.instanceMethod yy_AL_grow ∈ mm_B := tb_302
theorem sv_AL_grow : Cond.selects yy_AL_grow.cls yy_AL_grow yy_AL_grow ∈ mm_B := tp_10
theorem iv_AL_grow2 : Cond.instanceMethod yy_AL_grow2 ∈ mm_B := tb_306
theorem sv_AL_grow2 : Cond.selects yy_AL_grow2.cls yy_AL_grow2 yy_AL_grow2 ∈ mm_B := tp_11
theorem si_As_newLength : Cond.static yy_As_newLength ∈ mm_B := tb_309
theorem si_Ar_copyOf : Cond.static yy_Ar_copyOf ∈ mm_B := tb_317
theorem si_Ar_copyOf2 : Cond.static yy_Ar_copyOf2 ∈ mm_B := tb_333
theorem iv_Me_handItemsToKernel : Cond.instanceMethod yy_Me_handItemsToKernel ∈ mm_B := tb_343
theorem sv_Me_handItemsToKernel : Cond.selects yy_Me_handItemsToKernel.cls yy_Me_handItemsToKernel yy_Me_handItemsToKernel ∈ mm_B := tb_344
theorem iv_Ob_dropItem : Cond.instanceMethod yy_Ob_dropItem ∈ mm_B := tb_347
theorem sv_Ob_dropItem : Cond.selects yy_Ob_dropItem.cls yy_Ob_dropItem yy_Ob_dropItem ∈ mm_B := tb_348
theorem iv_Ob_addItem : Cond.instanceMethod yy_Ob_addItem ∈ mm_B := tb_351
theorem sv_Ob_addItem : Cond.selects yy_Ob_addItem.cls yy_Ob_addItem yy_Ob_addItem ∈ mm_B := tb_352
theorem iv_PH_dropGoneHeaps : Cond.instanceMethod yy_PH_dropGoneHeaps ∈ mm_B := tb_356
theorem sv_PH_dropGoneHeaps : Cond.selects yy_PH_dropGoneHeaps.cls yy_PH_dropGoneHeaps yy_PH_dropGoneHeaps ∈ mm_B := tp_12
theorem iv_PH_isFrozen : Cond.instanceMethod yy_PH_isFrozen ∈ mm_B := tb_360
theorem sv_PH_isFrozen : Cond.selects yy_PH_isFrozen.cls yy_PH_isFrozen yy_PH_isFrozen ∈ mm_B := tp_13
theorem si_PH_isHeap : Cond.static yy_PH_isHeap ∈ mm_B := tb_363
theorem iv_PH_isSharedByLiving : Cond.instanceMethod yy_PH_isSharedByLiving ∈ mm_B := tb_367
theorem sv_PH_isSharedByLiving : Cond.selects yy_PH_isSharedByLiving.cls yy_PH_isSharedByLiving yy_PH_isSharedByLiving ∈ mm_B := tp_14
theorem iv_Me_freeUnreached : Cond.instanceMethod yy_Me_freeUnreached ∈ mm_B := tb_371
theorem sv_Me_freeUnreached : Cond.selects yy_Me_freeUnreached.cls yy_Me_freeUnreached yy_Me_freeUnreached ∈ mm_B := tb_372
theorem iv_Me_giveBackEmptyPages : Cond.instanceMethod yy_Me_giveBackEmptyPages ∈ mm_B := tb_376
theorem sv_Me_giveBackEmptyPages : Cond.selects yy_Me_giveBackEmptyPages.cls yy_Me_giveBackEmptyPages yy_Me_giveBackEmptyPages ∈ mm_B := tp_15
theorem iv_PH_endPaymentOfDead : Cond.instanceMethod yy_PH_endPaymentOfDead ∈ mm_B := tb_380
theorem sv_PH_endPaymentOfDead : Cond.selects yy_PH_endPaymentOfDead.cls yy_PH_endPaymentOfDead yy_PH_endPaymentOfDead ∈ mm_B := tp_16
theorem iv_PH_mode : Cond.instanceMethod yy_PH_mode ∈ mm_B := tb_383
theorem sv_PH_mode : Cond.selects yy_PH_mode.cls yy_PH_mode yy_PH_mode ∈ mm_B := tb_384
theorem iv_PH_make : Cond.instanceMethod yy_PH_make ∈ mm_B := tb_387
theorem sv_PH_make : Cond.selects yy_PH_make.cls yy_PH_make yy_PH_make ∈ mm_B := tb_388
theorem si_PH_isRegister : Cond.static yy_PH_isRegister ∈ mm_B := tb_391
theorem iv_PH_pageForMaking : Cond.instanceMethod yy_PH_pageForMaking ∈ mm_B := tb_396
theorem sv_PH_pageForMaking : Cond.selects yy_PH_pageForMaking.cls yy_PH_pageForMaking yy_PH_pageForMaking ∈ mm_B := tp_17
theorem iv_Pr_heapForMaking : Cond.instanceMethod yy_Pr_heapForMaking ∈ mm_B := tb_399
theorem sv_Pr_heapForMaking : Cond.selects yy_Pr_heapForMaking.cls yy_Pr_heapForMaking yy_Pr_heapForMaking ∈ mm_B := tb_400
theorem iv_Me_findPage : Cond.instanceMethod yy_Me_findPage ∈ mm_B := tb_404
theorem sv_Me_findPage : Cond.selects yy_Me_findPage.cls yy_Me_findPage yy_Me_findPage ∈ mm_B := tb_405
theorem iv_Me_addPage : Cond.instanceMethod yy_Me_addPage ∈ mm_B := tb_408
theorem sv_Me_addPage : Cond.selects yy_Me_addPage.cls yy_Me_addPage yy_Me_addPage ∈ mm_B := tb_409
theorem iv_Pa_init : Cond.instanceMethod yy_Pa_init ∈ mm_B := tb_413
theorem iv_PH_collectHeap : Cond.instanceMethod yy_PH_collectHeap ∈ mm_B := tb_432
theorem sv_PH_collectHeap : Cond.selects yy_PH_collectHeap.cls yy_PH_collectHeap yy_PH_collectHeap ∈ mm_B := tp_18
theorem iv_Co_run : Cond.instanceMethod yy_Co_run ∈ mm_B := tb_435
theorem sv_Co_run : Cond.selects yy_Co_run.cls yy_Co_run yy_Co_run ∈ mm_B := tb_436
theorem iv_Co_reachHeld : Cond.instanceMethod yy_Co_reachHeld ∈ mm_B := tb_440
theorem sv_Co_reachHeld : Cond.selects yy_Co_reachHeld.cls yy_Co_reachHeld yy_Co_reachHeld ∈ mm_B := tp_19
theorem iv_Co_reachObject : Cond.instanceMethod yy_Co_reachObject ∈ mm_B := tb_444
theorem sv_Co_reachObject : Cond.selects yy_Co_reachObject.cls yy_Co_reachObject yy_Co_reachObject ∈ mm_B := tp_20
theorem iv_Co_reachNamedFromOutside : Cond.instanceMethod yy_Co_reachNamedFromOutside ∈ mm_B := tb_449
theorem sv_Co_reachNamedFromOutside : Cond.selects yy_Co_reachNamedFromOutside.cls yy_Co_reachNamedFromOutside yy_Co_reachNamedFromOutside ∈ mm_B := tp_21
theorem iv_Ob_hasAnyItem : Cond.instanceMethod yy_Ob_hasAnyItem ∈ mm_B := tb_454
theorem sv_Ob_hasAnyItem : Cond.selects yy_Ob_hasAnyItem.cls yy_Ob_hasAnyItem yy_Ob_hasAnyItem ∈ mm_B := tb_455
theorem iv_Co_followFields : Cond.instanceMethod yy_Co_followFields ∈ mm_B := tb_459
theorem sv_Co_followFields : Cond.selects yy_Co_followFields.cls yy_Co_followFields yy_Co_followFields ∈ mm_B := tp_22
theorem iv_Co_loseItems : Cond.instanceMethod yy_Co_loseItems ∈ mm_B := tb_464
theorem sv_Co_loseItems : Cond.selects yy_Co_loseItems.cls yy_Co_loseItems yy_Co_loseItems ∈ mm_B := tp_23
theorem iv_Ob_addItemsForFields : Cond.instanceMethod yy_Ob_addItemsForFields ∈ mm_B := tb_468
theorem sv_Ob_addItemsForFields : Cond.selects yy_Ob_addItemsForFields.cls yy_Ob_addItemsForFields yy_Ob_addItemsForFields ∈ mm_B := tb_469
theorem iv_Ob_addItemFor : Cond.instanceMethod yy_Ob_addItemFor ∈ mm_B := tb_473
theorem sv_Ob_addItemFor : Cond.selects yy_Ob_addItemFor.cls yy_Ob_addItemFor yy_Ob_addItemFor ∈ mm_B := tp_24
theorem iv_PH_dropChargesOfDead : Cond.instanceMethod yy_PH_dropChargesOfDead ∈ mm_B := tb_480
theorem sv_PH_dropChargesOfDead : Cond.selects yy_PH_dropChargesOfDead.cls yy_PH_dropChargesOfDead yy_PH_dropChargesOfDead ∈ mm_B := tp_25
theorem iv_Me_putObject : Cond.instanceMethod yy_Me_putObject ∈ mm_B := tb_483
theorem sv_Me_putObject : Cond.selects yy_Me_putObject.cls yy_Me_putObject yy_Me_putObject ∈ mm_B := tb_484
theorem iv_Ob_init : Cond.instanceMethod yy_Ob_init ∈ mm_B := tb_487
theorem iv_PH_store : Cond.instanceMethod yy_PH_store ∈ mm_B := tb_518
theorem sv_PH_store : Cond.selects yy_PH_store.cls yy_PH_store yy_PH_store ∈ mm_B := tb_519
theorem si_PH_isField : Cond.static yy_PH_isField ∈ mm_B := tb_522
theorem iv_PH_mayChange : Cond.instanceMethod yy_PH_mayChange ∈ mm_B := tb_526
theorem sv_PH_mayChange : Cond.selects yy_PH_mayChange.cls yy_PH_mayChange yy_PH_mayChange ∈ mm_B := tp_26
theorem iv_PH_mayName : Cond.instanceMethod yy_PH_mayName ∈ mm_B := tb_531
theorem sv_PH_mayName : Cond.selects yy_PH_mayName.cls yy_PH_mayName yy_PH_mayName ∈ mm_B := tp_27
theorem iv_Ob_setField : Cond.instanceMethod yy_Ob_setField ∈ mm_B := tb_534
theorem sv_Ob_setField : Cond.selects yy_Ob_setField.cls yy_Ob_setField yy_Ob_setField ∈ mm_B := tb_535
theorem iv_PH_load : Cond.instanceMethod yy_PH_load ∈ mm_B := tb_538
theorem sv_PH_load : Cond.selects yy_PH_load.cls yy_PH_load yy_PH_load ∈ mm_B := tb_539
theorem iv_PH_mayHold : Cond.instanceMethod yy_PH_mayHold ∈ mm_B := tb_543
theorem sv_PH_mayHold : Cond.selects yy_PH_mayHold.cls yy_PH_mayHold yy_PH_mayHold ∈ mm_B := tp_28
theorem iv_PH_move : Cond.instanceMethod yy_PH_move ∈ mm_B := tb_546
theorem sv_PH_move : Cond.selects yy_PH_move.cls yy_PH_move yy_PH_move ∈ mm_B := tb_547
theorem iv_PH_begin : Cond.instanceMethod yy_PH_begin ∈ mm_B := tb_550
theorem sv_PH_begin : Cond.selects yy_PH_begin.cls yy_PH_begin yy_PH_begin ∈ mm_B := tb_551
theorem iv_PH_freeze : Cond.instanceMethod yy_PH_freeze ∈ mm_B := tb_554
theorem sv_PH_freeze : Cond.selects yy_PH_freeze.cls yy_PH_freeze yy_PH_freeze ∈ mm_B := tb_555
theorem iv_Me_endSinglePayment : Cond.instanceMethod yy_Me_endSinglePayment ∈ mm_B := tb_558
theorem sv_Me_endSinglePayment : Cond.selects yy_Me_endSinglePayment.cls yy_Me_endSinglePayment yy_Me_endSinglePayment ∈ mm_B := tb_559
theorem iv_Pr_addCharge : Cond.instanceMethod yy_Pr_addCharge ∈ mm_B := tb_562
theorem sv_Pr_addCharge : Cond.selects yy_Pr_addCharge.cls yy_Pr_addCharge yy_Pr_addCharge ∈ mm_B := tb_563
theorem iv_PH_lookup : Cond.instanceMethod yy_PH_lookup ∈ mm_B := tb_566
theorem sv_PH_lookup : Cond.selects yy_PH_lookup.cls yy_PH_lookup yy_PH_lookup ∈ mm_B := tb_567
theorem iv_Me_countPages : Cond.instanceMethod yy_Me_countPages ∈ mm_B := tb_570
theorem sv_Me_countPages : Cond.selects yy_Me_countPages.cls yy_Me_countPages yy_Me_countPages ∈ mm_B := tb_571
theorem iv_PH_collect : Cond.instanceMethod yy_PH_collect ∈ mm_B := tb_574
theorem sv_PH_collect : Cond.selects yy_PH_collect.cls yy_PH_collect yy_PH_collect ∈ mm_B := tb_575
theorem iv_PH_state : Cond.instanceMethod yy_PH_state ∈ mm_B := tb_578
theorem sv_PH_state : Cond.selects yy_PH_state.cls yy_PH_state yy_PH_state ∈ mm_B := tb_579
theorem iv_PH_pages : Cond.instanceMethod yy_PH_pages ∈ mm_B := tb_582
theorem sv_PH_pages : Cond.selects yy_PH_pages.cls yy_PH_pages yy_PH_pages ∈ mm_B := tb_583
theorem iv_PH_objects : Cond.instanceMethod yy_PH_objects ∈ mm_B := tb_586
theorem sv_PH_objects : Cond.selects yy_PH_objects.cls yy_PH_objects yy_PH_objects ∈ mm_B := tb_587
theorem iv_Me_countObjects : Cond.instanceMethod yy_Me_countObjects ∈ mm_B := tb_590
theorem sv_Me_countObjects : Cond.selects yy_Me_countObjects.cls yy_Me_countObjects yy_Me_countObjects ∈ mm_B := tb_591
theorem iv_PH_items : Cond.instanceMethod yy_PH_items ∈ mm_B := tb_594
theorem sv_PH_items : Cond.selects yy_PH_items.cls yy_PH_items yy_PH_items ∈ mm_B := tb_595
theorem iv_Me_countItems : Cond.instanceMethod yy_Me_countItems ∈ mm_B := tb_598
theorem sv_Me_countItems : Cond.selects yy_Me_countItems.cls yy_Me_countItems yy_Me_countItems ∈ mm_B := tb_599
theorem iv_PH_use : Cond.instanceMethod yy_PH_use ∈ mm_B := tb_602
theorem sv_PH_use : Cond.selects yy_PH_use.cls yy_PH_use yy_PH_use ∈ mm_B := tb_603
theorem iv_PH_room : Cond.instanceMethod yy_PH_room ∈ mm_B := tb_606
theorem sv_PH_room : Cond.selects yy_PH_room.cls yy_PH_room yy_PH_room ∈ mm_B := tb_607
theorem iv_PH_shares : Cond.instanceMethod yy_PH_shares ∈ mm_B := tb_610
theorem sv_PH_shares : Cond.selects yy_PH_shares.cls yy_PH_shares yy_PH_shares ∈ mm_B := tb_611
theorem iv_PH_where : Cond.instanceMethod yy_PH_where ∈ mm_B := tb_614
theorem sv_PH_where : Cond.selects yy_PH_where.cls yy_PH_where yy_PH_where ∈ mm_B := tb_615
theorem iv_PH_tag : Cond.instanceMethod yy_PH_tag ∈ mm_B := tb_618
theorem sv_PH_tag : Cond.selects yy_PH_tag.cls yy_PH_tag yy_PH_tag ∈ mm_B := tb_619
theorem si_La_cell : Cond.static yy_La_cell ∈ mm_B := tb_622
theorem iv_Mo_init : Cond.instanceMethod yy_Mo_init ∈ mm_B := tb_627
theorem iv_Mo_spawn : Cond.instanceMethod yy_Mo_spawn ∈ mm_B := tb_707
theorem sv_Mo_spawn : Cond.selects yy_Mo_spawn.cls yy_Mo_spawn yy_Mo_spawn ∈ mm_B := tb_708
theorem iv_Mo_lives : Cond.instanceMethod yy_Mo_lives ∈ mm_B := tb_712
theorem sv_Mo_lives : Cond.selects yy_Mo_lives.cls yy_Mo_lives yy_Mo_lives ∈ mm_B := tp_29
theorem iv_Mo_rest : Cond.instanceMethod yy_Mo_rest ∈ mm_B := tb_716
theorem sv_Mo_rest : Cond.selects yy_Mo_rest.cls yy_Mo_rest yy_Mo_rest ∈ mm_B := tp_30
theorem iv_Mo_work : Cond.instanceMethod yy_Mo_work ∈ mm_B := tb_720
theorem sv_Mo_work : Cond.selects yy_Mo_work.cls yy_Mo_work yy_Mo_work ∈ mm_B := tp_31
theorem iv_Mo_frozen : Cond.instanceMethod yy_Mo_frozen ∈ mm_B := tb_724
theorem sv_Mo_frozen : Cond.selects yy_Mo_frozen.cls yy_Mo_frozen yy_Mo_frozen ∈ mm_B := tp_32
theorem iv_Mo_pages : Cond.instanceMethod yy_Mo_pages ∈ mm_B := tb_727
theorem sv_Mo_pages : Cond.selects yy_Mo_pages.cls yy_Mo_pages yy_Mo_pages ∈ mm_B := tb_728
theorem iv_Mo_kill : Cond.instanceMethod yy_Mo_kill ∈ mm_B := tb_731
theorem sv_Mo_kill : Cond.selects yy_Mo_kill.cls yy_Mo_kill yy_Mo_kill ∈ mm_B := tb_732
theorem iv_Mo_die : Cond.instanceMethod yy_Mo_die ∈ mm_B := tb_736
theorem sv_Mo_die : Cond.selects yy_Mo_die.cls yy_Mo_die yy_Mo_die ∈ mm_B := tp_33
theorem iv_Mo_names : Cond.instanceMethod yy_Mo_names ∈ mm_B := tb_740
theorem sv_Mo_names : Cond.selects yy_Mo_names.cls yy_Mo_names yy_Mo_names ∈ mm_B := tp_34
theorem iv_Mo_merge : Cond.instanceMethod yy_Mo_merge ∈ mm_B := tb_744
theorem sv_Mo_merge : Cond.selects yy_Mo_merge.cls yy_Mo_merge yy_Mo_merge ∈ mm_B := tp_35
theorem iv_Mo_vanish : Cond.instanceMethod yy_Mo_vanish ∈ mm_B := tb_748
theorem sv_Mo_vanish : Cond.selects yy_Mo_vanish.cls yy_Mo_vanish yy_Mo_vanish ∈ mm_B := tp_36
theorem iv_Mo_free : Cond.instanceMethod yy_Mo_free ∈ mm_B := tb_752
theorem sv_Mo_free : Cond.selects yy_Mo_free.cls yy_Mo_free yy_Mo_free ∈ mm_B := tp_37
theorem iv_Mo_mode : Cond.instanceMethod yy_Mo_mode ∈ mm_B := tb_755
theorem sv_Mo_mode : Cond.selects yy_Mo_mode.cls yy_Mo_mode yy_Mo_mode ∈ mm_B := tb_756
theorem iv_Mo_make : Cond.instanceMethod yy_Mo_make ∈ mm_B := tb_759
theorem sv_Mo_make : Cond.selects yy_Mo_make.cls yy_Mo_make yy_Mo_make ∈ mm_B := tb_760
theorem si_Mo_isRegister : Cond.static yy_Mo_isRegister ∈ mm_B := tb_763
theorem iv_Mo_find : Cond.instanceMethod yy_Mo_find ∈ mm_B := tb_767
theorem sv_Mo_find : Cond.selects yy_Mo_find.cls yy_Mo_find yy_Mo_find ∈ mm_B := tp_38
theorem iv_Mo_fitting : Cond.instanceMethod yy_Mo_fitting ∈ mm_B := tb_771
theorem sv_Mo_fitting : Cond.selects yy_Mo_fitting.cls yy_Mo_fitting yy_Mo_fitting ∈ mm_B := tp_39
theorem iv_Mo_sweep : Cond.instanceMethod yy_Mo_sweep ∈ mm_B := tb_775
theorem sv_Mo_sweep : Cond.selects yy_Mo_sweep.cls yy_Mo_sweep yy_Mo_sweep ∈ mm_B := tp_40
theorem iv_Mo_reach : Cond.instanceMethod yy_Mo_reach ∈ mm_B := tb_779
theorem sv_Mo_reach : Cond.selects yy_Mo_reach.cls yy_Mo_reach yy_Mo_reach ∈ mm_B := tp_41
theorem iv_Mo_root : Cond.instanceMethod yy_Mo_root ∈ mm_B := tb_783
theorem sv_Mo_root : Cond.selects yy_Mo_root.cls yy_Mo_root yy_Mo_root ∈ mm_B := tp_42
theorem iv_Mo_inField : Cond.instanceMethod yy_Mo_inField ∈ mm_B := tb_787
theorem sv_Mo_inField : Cond.selects yy_Mo_inField.cls yy_Mo_inField yy_Mo_inField ∈ mm_B := tp_43
theorem iv_Mo_holds : Cond.instanceMethod yy_Mo_holds ∈ mm_B := tb_791
theorem sv_Mo_holds : Cond.selects yy_Mo_holds.cls yy_Mo_holds yy_Mo_holds ∈ mm_B := tp_44
theorem iv_Mo_store : Cond.instanceMethod yy_Mo_store ∈ mm_B := tb_794
theorem sv_Mo_store : Cond.selects yy_Mo_store.cls yy_Mo_store yy_Mo_store ∈ mm_B := tb_795
theorem iv_Mo_load : Cond.instanceMethod yy_Mo_load ∈ mm_B := tb_798
theorem sv_Mo_load : Cond.selects yy_Mo_load.cls yy_Mo_load yy_Mo_load ∈ mm_B := tb_799
theorem iv_Mo_move : Cond.instanceMethod yy_Mo_move ∈ mm_B := tb_802
theorem sv_Mo_move : Cond.selects yy_Mo_move.cls yy_Mo_move yy_Mo_move ∈ mm_B := tb_803
theorem iv_Mo_begin : Cond.instanceMethod yy_Mo_begin ∈ mm_B := tb_806
theorem sv_Mo_begin : Cond.selects yy_Mo_begin.cls yy_Mo_begin yy_Mo_begin ∈ mm_B := tb_807
theorem iv_Mo_freeze : Cond.instanceMethod yy_Mo_freeze ∈ mm_B := tb_810
theorem sv_Mo_freeze : Cond.selects yy_Mo_freeze.cls yy_Mo_freeze yy_Mo_freeze ∈ mm_B := tb_811
theorem iv_Mo_lookup : Cond.instanceMethod yy_Mo_lookup ∈ mm_B := tb_814
theorem sv_Mo_lookup : Cond.selects yy_Mo_lookup.cls yy_Mo_lookup yy_Mo_lookup ∈ mm_B := tb_815
theorem iv_Mo_collect : Cond.instanceMethod yy_Mo_collect ∈ mm_B := tb_818
theorem sv_Mo_collect : Cond.selects yy_Mo_collect.cls yy_Mo_collect yy_Mo_collect ∈ mm_B := tb_819
theorem iv_Mo_state : Cond.instanceMethod yy_Mo_state ∈ mm_B := tb_822
theorem sv_Mo_state : Cond.selects yy_Mo_state.cls yy_Mo_state yy_Mo_state ∈ mm_B := tb_823
theorem iv_Mo_objects : Cond.instanceMethod yy_Mo_objects ∈ mm_B := tb_827
theorem sv_Mo_objects : Cond.selects yy_Mo_objects.cls yy_Mo_objects yy_Mo_objects ∈ mm_B := tb_828
theorem iv_Mo_items : Cond.instanceMethod yy_Mo_items ∈ mm_B := tb_831
theorem sv_Mo_items : Cond.selects yy_Mo_items.cls yy_Mo_items yy_Mo_items ∈ mm_B := tb_832
theorem iv_Mo_use : Cond.instanceMethod yy_Mo_use ∈ mm_B := tb_835
theorem sv_Mo_use : Cond.selects yy_Mo_use.cls yy_Mo_use yy_Mo_use ∈ mm_B := tb_836
theorem iv_Mo_exists : Cond.instanceMethod yy_Mo_exists ∈ mm_B := tb_840
theorem sv_Mo_exists : Cond.selects yy_Mo_exists.cls yy_Mo_exists yy_Mo_exists ∈ mm_B := tp_45
theorem iv_Mo_room : Cond.instanceMethod yy_Mo_room ∈ mm_B := tb_843
theorem sv_Mo_room : Cond.selects yy_Mo_room.cls yy_Mo_room yy_Mo_room ∈ mm_B := tb_844
theorem iv_Mo_shares : Cond.instanceMethod yy_Mo_shares ∈ mm_B := tb_847
theorem sv_Mo_shares : Cond.selects yy_Mo_shares.cls yy_Mo_shares yy_Mo_shares ∈ mm_B := tb_848
theorem iv_Mo_where : Cond.instanceMethod yy_Mo_where ∈ mm_B := tb_851
theorem sv_Mo_where : Cond.selects yy_Mo_where.cls yy_Mo_where yy_Mo_where ∈ mm_B := tb_852
theorem iv_Mo_tag : Cond.instanceMethod yy_Mo_tag ∈ mm_B := tb_855
theorem sv_Mo_tag : Cond.selects yy_Mo_tag.cls yy_Mo_tag yy_Mo_tag ∈ mm_B := tb_856
theorem ca_0 : mm_As "java/lang/Object" 0 := ⟨by decide, _, _, _, rfl, Or.inr tn_863⟩
theorem ca_1 : mm_As "java/lang/Object" 1 := ⟨by decide, _, _, _, rfl, Or.inr tn_864⟩
theorem ca_3 : mm_As "java/lang/Object" 3 := ⟨by decide, _, _, _, rfl, Or.inr tn_865⟩
theorem ca_4 : mm_As "java/lang/Object" 4 := ⟨by decide, _, _, _, rfl, Or.inr tn_866⟩
theorem ca_5 : mm_As "java/lang/Object" 5 := ⟨by decide, _, _, _, rfl, Or.inr tn_867⟩
theorem ca_6 : mm_As "java/lang/Object" 6 := ⟨by decide, _, _, _, rfl, Or.inr tn_869⟩
theorem ca_7 : mm_As "java/lang/Object" 7 := ⟨by decide, _, _, _, rfl, Or.inr tn_870⟩
theorem ca_8 : mm_As "java/lang/Object" 8 := ⟨by decide, _, _, _, rfl, Or.inr tn_868⟩
theorem cs_0 : mm_As "ProcessHeaps" 0 := ⟨by decide, _, _, _, rfl, Or.inl rfl⟩
theorem cs_1 : mm_As "ProcessHeaps$Memory" 1 := ⟨by decide, _, _, _, rfl, Or.inl rfl⟩
theorem cs_2 : mm_As "java/util/ArrayList" 2 := ⟨by decide, _, _, _, rfl, Or.inl rfl⟩
theorem cs_3 : mm_As "ProcessHeaps$Collector" 3 := ⟨by decide, _, _, _, rfl, Or.inl rfl⟩
theorem cs_4 : mm_As "ProcessHeaps$Limits" 4 := ⟨by decide, _, _, _, rfl, Or.inl rfl⟩
theorem cs_5 : mm_As "ProcessHeaps$HeapProcess" 5 := ⟨by decide, _, _, _, rfl, Or.inl rfl⟩
theorem cs_6 : mm_As "ProcessHeaps$Page" 6 := ⟨by decide, _, _, _, rfl, Or.inl rfl⟩
theorem cs_7 : mm_As "ProcessHeaps$HeapObject" 7 := ⟨by decide, _, _, _, rfl, Or.inl rfl⟩
theorem cs_8 : mm_As "ProcessHeapsModel" 8 := ⟨by decide, _, _, _, rfl, Or.inl rfl⟩
end
section
/-! NATIVES AND CONSTANTS that the lists' own methods come to -/
theorem mm_aq {G : mm_G} {M : mm_M} {H : Heap} (hH : mm_H G M H) {a t : Nat} (h2 : 2 ≤ t) (hk : mm_k M a = 100 + t) : H[a]? = some (arrV (G.2.1 t) (mm_l M a) (fun j => va_rf (mm_p M a j))) := by
  rw [(mm_arr hH hk).2.2]
  congr 2
  funext j
  exact mm_cR (by rw [hk]; exact mm_rsA h2)
section RW4
variable {l : Launch} {G : mm_G} {Y : mm_Y} {K : Option mm_V → mm_M → Prop} {M0 M : mm_M} {bc bs pc : Nat} {ls : List (Option mm_V)} {st : List mm_V}
theorem mr_ldci {idx : Nat} {v : Int32} (hd : decode Y.1 pc = .ok (.ldc idx, 2)) (hw : Cond.constant Y.2.1 idx v ∈ mm_B) (kk : mm_Z l G Y K M0 bc bs (pc + 2) ls (.inl v :: st) M) : mm_Z l G Y K M0 bc bs pc ls st M := by
  intro p e s m args below meth c H locs cells slots la hJ hT hL hc hs
  have k1 := kk p e s m args below meth c H locs cells slots la hJ hT hL hc hs
  obtain ⟨hx, hb, hml, -, -, -, hown, hts, hCx, hsz⟩ := hJ
  exact W.ldc hx hb hown (hts _ hw) rfl hd k1
theorem mr_ldcM {idx : Nat} (hd : decode Y.1 pc = .ok (.ldc idx, 2)) (hw : Cond.classLink Y.2.1 idx "[Ljava/lang/Object;" ∈ mm_B) (kk : mm_Z l G Y K M0 bc bs (pc + 2) ls (.inr (some G.2.2.2.2) :: st) M) : mm_Z l G Y K M0 bc bs pc ls st M := by
  intro p e s m args below meth c H locs cells slots la hJ hT hL hc hs
  have k1 := kk p e s m args below meth c H locs cells slots la hJ hT hL hc hs
  obtain ⟨hx, hb, hml, -, -, -, hown, hts, hCx, hsz⟩ := hJ
  exact va_ldcM hx hb hown (hts _ hw) hCx.2.1.2 hd k1
theorem mr_getC {idx a : Nat} {o : Option Nat} (hd : decode Y.1 pc = .ok (.invokevirtual idx, 3)) (hw : Cond.methodLink Y.2.1 idx ⟨"java/lang/Object", "getClass", "()Ljava/lang/Class;"⟩ ∈ mm_B) (ho : o = some a) (hk : mm_k M a = 102) (hR : 1 ≤ Y.2.2.2.2.2.frames ∧ st.length + 14 ≤ Y.2.2.2.2.2.locals) (kk : mm_Z l G Y K M0 bc bs (pc + 3) ls (.inr (some G.2.2.2.2) :: st) M) : mm_Z l G Y K M0 bc bs pc ls (.inr o :: st) M := by
  subst ho
  intro p e s m args below meth c H locs cells slots la hJ hT hL hc hs
  have k1 := kk p e s m args below meth c H locs cells slots la hJ hT hL hc hs
  obtain ⟨hx, hb, hml, -, -, -, hown, hts, hCx, hsz⟩ := hJ
  have hA := mm_aq hT.1 (t := 2) (by decide) hk
  have hcls : s.vm.findClass "[Ljava/lang/Object;" = some (G.2.1 2) := va_nmO ((hCx.1.2 2 _ rfl).2) (by decide)
  exact va_getC (C := "[Ljava/lang/Object;") hx hb (by rw [hml]; exact hL.1.symm) hown (hts _ hw) (va_Nw.use rfl (hCx.2.2.1 _ tn_862)) (hts _ tb_861) (hts _ tb_320) (hts _ tb_331) hCx.2.1.2 ⟨_, hA, rfl, hcls⟩ hR.1 (by rw [mm_sumcat]; exact hR.2) hd k1
theorem mr_copy {idx a0 a i0 i1 n : Nat} {x0 x1 : Option Nat} {sp dp len : Int32} (hd : decode Y.1 pc = .ok (.invokestatic idx, 3)) (hw : Cond.methodLink Y.2.1 idx arraycopyName ∈ mm_B) (hx0 : x0 = some a0) (hx1 : x1 = some a) (hk0 : mm_k M a0 = 102) (hk1 : mm_k M a = 102) (hsp : sp = nI i0) (hdp : dp = nI i1) (hn : len = nI n) (h1 : i0 + n ≤ mm_l M a0) (h2 : i1 + n ≤ mm_l M a) (hb0 : i0 + n < 2147483648) (hb1 : i1 + n < 2147483648) (hel : ∀ i, i < n → ∀ y, mm_p M a0 (i0 + i) = some y → ∃ ci, mm_k M y = ci + 1 ∧ mm_As "java/lang/Object" ci) (hR : 1 ≤ Y.2.2.2.2.2.frames ∧ st.length + 18 ≤ Y.2.2.2.2.2.locals)
    (kk : mm_Z l G Y K M0 bc bs (pc + 3) ls st (mm_sf M a (va_cpy (mm_p M a0) (mm_p M a) i0 i1 n))) : mm_Z l G Y K M0 bc bs pc ls (.inl len :: .inl dp :: .inr x1 :: .inl sp :: .inr x0 :: st) M := by
  subst hx0 hx1 hsp hdp hn
  intro p e s m args below meth c H locs cells slots la hJ hT hL hc hs
  have hJ0 := hJ
  obtain ⟨hx, hb, hml, -, -, -, hown, hts, hCx, hsz⟩ := hJ
  have hK := hCx.1
  have hc0 : H[a0]? = some (vp_cell (G.2.1 2) (mm_l M a0, .inr (.inr (.inr (.inr (mm_p M a0)))))) := mm_aq hT.1 (t := 2) (by decide) hk0
  have hc1 : H[a]? = some (vp_cell (G.2.1 2) (mm_l M a, .inr (.inr (.inr (.inr (mm_p M a)))))) := mm_aq hT.1 (t := 2) (by decide) hk1
  have ht0 : (mm_tys G.2.1)[2]? = some (G.2.1 2, .object "java/lang/Object") := rfl
  have e0 : (nI i0).toNatClampNeg = i0 := nI_clamp (by omega)
  have e1' : (nI i1).toNatClampNeg = i1 := nI_clamp (by omega)
  have e2 : (nI n).toNatClampNeg = n := nI_clamp (by omega)
  have t0 : (nI i0).toInt = (i0 : Int) := nI_toInt (by omega)
  have t1 : (nI i1).toInt = (i1 : Int) := nI_toInt (by omega)
  have t2 : (nI n).toInt = (n : Int) := nI_toInt (by omega)
  intro T hT0 X
  obtain ⟨-, k0, hk0', cm0, hkk0⟩ := (hK.2 2 _ ht0).1 (mm_l M a0) (fun j => va_rf (mm_p M a0 j))
  obtain ⟨-, k1, hk1', cm1, hkk1⟩ := (hK.2 2 _ ht0).1 (mm_l M a) (fun j => va_rf (mm_p M a j))
  obtain ⟨vm', X', step⟩ := X.arraycopy hx hown (hts _ hw) (hts _ tb_291) (hts _ tb_290) (hts _ tb_13) (src := a0) (dst := a) (cs := vp_cell (G.2.1 2) (mm_l M a0, .inr (.inr (.inr (.inr (mm_p M a0)))))) (cd := vp_cell (G.2.1 2) (mm_l M a, .inr (.inr (.inr (.inr (mm_p M a)))))) (srcPos := nI i0) (destPos := nI i1) (n := nI n) (by rw [hT0]; exact hc0) (by rw [hT0]; exact hc1)
    (fun _ h => by cases h) (fun _ h => by cases h) (fun h => by cases h) (fun h => by cases h) hk0' hk1' hkk0 hkk1 rfl (nI_pos (by omega)) (nI_pos (by omega)) (nI_pos (by omega))
    (by rw [t0, t2]; show ¬ _ > ((arrV (G.2.1 2) (mm_l M a0) (fun j => va_rf (mm_p M a0 j))).slots.size : Int); rw [arrV_size]; omega)
    (by rw [t1, t2]; show ¬ _ > ((arrV (G.2.1 2) (mm_l M a) (fun j => va_rf (mm_p M a j))).slots.size : Int); rw [arrV_size]; omega)
    (fun vm₁ hal i hi => by
      rw [e2] at hi
      have ee : (vp_cell (G.2.1 2) (mm_l M a0, .inr (.inr (.inr (.inr (mm_p M a0)))))).slots.getD ((nI i0).toNatClampNeg + i) .null = va_rf (mm_p M a0 (i0 + i)) := by
        show (arrV (G.2.1 2) (mm_l M a0) (fun j => va_rf (mm_p M a0 j))).slots.getD _ _ = _
        rw [e0, Array.getD_eq_getD_getElem?, arrV_read _ _ (by omega)]
        rfl
      rw [ee]
      cases hy : mm_p M a0 (i0 + i) with
      | none => exact ⟨rfl, trivial⟩
      | some y =>
        obtain ⟨ci, hky, hAs⟩ := hel i hi y hy
        obtain ⟨cellV, g1, g2, ⟨kC, hkC⟩, hasg⟩ := mm_any hCx hT.1 hky hAs
        obtain ⟨kA, comp, r1, r2, r3, -⟩ := (hK.2 2 _ ht0).2
        cases hk1'.symm.trans r1
        cases hkk1.symm.trans r2
        obtain ⟨kE, hkE, -⟩ := Vm.findClass_spec r3
        obtain ⟨kC', hkC', -⟩ := hal.2.2 _ _ hkC
        obtain ⟨kE', hkE', -⟩ := hal.2.2 _ _ hkE
        refine ⟨rfl, cellV, (show T.heap[y]? = some cellV by rw [hT0]; exact g1), (fun q h => by rw [h] at g2; cases g2), ⟨kC', hkC'⟩, ?_, ?_⟩
        · exact ⟨kE', hkE'⟩
        · show vm₁.assignable _ _ = true
          rw [hal.assignable]
          exact hasg _ r3)
    (g := F0 m pc la (List.map mm_v (.inl (nI n) :: .inl (nI i1) :: .inr (some a) :: .inl (nI i0) :: .inr (some a0) :: st))) rfl (by rw [hml]; exact hL.1) (rest := st.map mm_v) rfl (by rw [hb]; exact hd) hR.1 (by show 2 * 0 + _ + _ ≤ _; rw [mm_sumcat]; have hw : nativeFrameWords "java/lang/System" "arraycopy" 5 = 7 := (by decide); omega)
  have e1 : copied (vp_cell (G.2.1 2) (mm_l M a0, .inr (.inr (.inr (.inr (mm_p M a0)))))) (vp_cell (G.2.1 2) (mm_l M a, .inr (.inr (.inr (.inr (mm_p M a)))))) (nI i0) (nI i1) (nI n) = vp_cell (G.2.1 2) (mm_l M a, .inr (.inr (.inr (.inr (va_cpy (mm_p M a0) (mm_p M a) i0 i1 n))))) := by
    rw [vp_cell_q, vp_cell_q, vp_cell_q]
    have h9 := va_copied (n1 := mm_l M a) (dp := (nI i1).toNatClampNeg) (fun z => va_rf z) (G.2.1 2) (G.2.1 2) (mm_p M a0) (mm_p M a) (n0 := mm_l M a0) (sp := (nI i0).toNatClampNeg) (n := (nI n).toNatClampNeg) (by rw [e0, e2]; exact h1)
    exact h9.trans (by rw [e0, e1', e2])
  rw [e1] at X' step
  have hl : a < H.size := (Array.getElem?_eq_some_iff.mp hc1).1
  generalize hH1 : H.setIfInBounds a (vp_cell (G.2.1 2) (mm_l M a, .inr (.inr (.inr (.inr (va_cpy (mm_p M a0) (mm_p M a) i0 i1 n)))))) = H1
  have hheap : ((T.setVm vm').setCell a (vp_cell (G.2.1 2) (mm_l M a, .inr (.inr (.inr (.inr (va_cpy (mm_p M a0) (mm_p M a) i0 i1 n))))))).heap = H1 := by rw [← hH1, ← hT0]; rfl
  have oq : ∀ q : Nat, q ≠ a → H1[q]? = H[q]? := fun q hq => by rw [← hH1]; simp [Array.getElem?_setIfInBounds, Ne.symm hq]
  have haq : H1[a]? = some (vp_cell (G.2.1 2) (mm_l M a, .inr (.inr (.inr (.inr (va_cpy (mm_p M a0) (mm_p M a) i0 i1 n)))))) := by rw [← hH1]; simp [Array.getElem?_setIfInBounds, hl]
  have hz : H1.size = H.size := by rw [← hH1]; simp
  obtain ⟨-, hba, -⟩ := mm_arr hT.1 (t := 2) hk1
  have hA : mm_A G M0 a := mm_A.of hT.2.2 ⟨hba (by decide), Or.inl (by rw [hk1]; decide)⟩
  have hH2 : mm_H G (mm_sf M a (va_cpy (mm_p M a0) (mm_p M a) i0 i1 n)) H1 := by
    refine hT.1.put hz oq rfl (fun _ => rfl) (fun _ => rfl) (fun _ _ _ => rfl) (fun b hb j => by rw [mm_p_sf, if_neg hb]) (Or.inr ?_)
    rw [mm_k_sf, mm_l_sf, hk1]
    refine ⟨by decide, by decide, fun _ => hba (by decide), ?_⟩
    rw [haq, vp_cell_q, show 102 - 100 = 2 from rfl]
    congr 2
    funext j
    rw [mm_cR (M := mm_sf M a _) (by rw [mm_k_sf, hk1]; rfl), mm_p_sf, if_pos (rfl : a = a)]
  obtain ⟨t, a1, b1⟩ := kk p e s m args below meth c H1 _ cells slots la hJ0 ⟨hH2, ⟨by rw [hz]; exact hT.2.1.1, fun q g1 g2 => by
      rw [oq q (fun e => g2 (by rw [e]; exact hA))]
      exact hT.2.1.2.1 q g1 g2, fun q hq => by
      rcases List.mem_append.mp hq with h | h
      · exact hT.2.1.2.2 q h
      · obtain ⟨z, -, hz⟩ := List.mem_map.mp h
        rw [← hz]
        exact hA⟩, hT.2.2⟩ hL hc hs _ hheap X'
  exact ⟨t, step t a1, b1⟩
end RW4
end
