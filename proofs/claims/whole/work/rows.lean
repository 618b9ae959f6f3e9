section
-- ===== PART A: goes FIRST, ahead of the names: the tables' words, and 'selects' of the private methods out of them =====
/-- a private method of a class that the tables say can be made, by its rows of tables_1 -/
def lw_okq (q : MethodName × Nat) : Prop := (q.1.cls ≠ "java/lang/invoke/MethodHandle" ∧ q.1.cls ≠ "java/lang/invoke/VarHandle") ∧ Cond.instantiable q.1.cls q.2 ∈ tables_1 ∧ Cond.privateMethod q.1 ∈ tables_1 ∧ Cond.instanceMethod q.1 ∈ tables_1
theorem lw_p0 : lw_okq (⟨"ProcessHeaps", "livingProcess", "(I)LProcessHeaps$HeapProcess;"⟩, 7) := ⟨⟨by decide +kernel, by decide +kernel⟩, List.mem_of_getElem? (i := 19) (by decide +kernel), List.mem_of_getElem? (i := 179) (by decide +kernel), List.mem_of_getElem? (i := 180) (by decide +kernel)⟩
theorem lw_p1 : lw_okq (⟨"ProcessHeaps", "isMade", "(I)Z"⟩, 7) := ⟨⟨by decide +kernel, by decide +kernel⟩, List.mem_of_getElem? (i := 19) (by decide +kernel), List.mem_of_getElem? (i := 183) (by decide +kernel), List.mem_of_getElem? (i := 184) (by decide +kernel)⟩
theorem lw_p2 : lw_okq (⟨"ProcessHeaps", "canPay", "(II)Z"⟩, 7) := ⟨⟨by decide +kernel, by decide +kernel⟩, List.mem_of_getElem? (i := 19) (by decide +kernel), List.mem_of_getElem? (i := 191) (by decide +kernel), List.mem_of_getElem? (i := 192) (by decide +kernel)⟩
theorem lw_p3 : lw_okq (⟨"ProcessHeaps$Limits", "reckonPayments", "([LProcessHeaps$HeapProcess;LProcessHeaps$Memory;)V"⟩, 3) := ⟨⟨by decide +kernel, by decide +kernel⟩, List.mem_of_getElem? (i := 83) (by decide +kernel), List.mem_of_getElem? (i := 199) (by decide +kernel), List.mem_of_getElem? (i := 200) (by decide +kernel)⟩
theorem lw_p4 : lw_okq (⟨"ProcessHeaps$Limits", "addChildren", "([LProcessHeaps$HeapProcess;)V"⟩, 3) := ⟨⟨by decide +kernel, by decide +kernel⟩, List.mem_of_getElem? (i := 83) (by decide +kernel), List.mem_of_getElem? (i := 231) (by decide +kernel), List.mem_of_getElem? (i := 232) (by decide +kernel)⟩
theorem lw_p5 : lw_okq (⟨"ProcessHeaps$Limits", "reckonSpare", "([LProcessHeaps$HeapProcess;)V"⟩, 3) := ⟨⟨by decide +kernel, by decide +kernel⟩, List.mem_of_getElem? (i := 83) (by decide +kernel), List.mem_of_getElem? (i := 235) (by decide +kernel), List.mem_of_getElem? (i := 236) (by decide +kernel)⟩
theorem lw_p6 : lw_okq (⟨"ProcessHeaps", "die", "(LProcessHeaps$HeapProcess;)V"⟩, 7) := ⟨⟨by decide +kernel, by decide +kernel⟩, List.mem_of_getElem? (i := 19) (by decide +kernel), List.mem_of_getElem? (i := 248) (by decide +kernel), List.mem_of_getElem? (i := 249) (by decide +kernel)⟩
theorem lw_p7 : lw_okq (⟨"ProcessHeaps", "dropUnusedCharges", "(LProcessHeaps$HeapProcess;)V"⟩, 7) := ⟨⟨by decide +kernel, by decide +kernel⟩, List.mem_of_getElem? (i := 19) (by decide +kernel), List.mem_of_getElem? (i := 252) (by decide +kernel), List.mem_of_getElem? (i := 253) (by decide +kernel)⟩
theorem lw_p8 : lw_okq (⟨"java/util/ArrayList", "fastRemove", "([Ljava/lang/Object;I)V"⟩, 3) := ⟨⟨by decide +kernel, by decide +kernel⟩, List.mem_of_getElem? (i := 33) (by decide +kernel), List.mem_of_getElem? (i := 286) (by decide +kernel), List.mem_of_getElem? (i := 287) (by decide +kernel)⟩
theorem lw_p9 : lw_okq (⟨"java/util/ArrayList", "add", "(Ljava/lang/Object;[Ljava/lang/Object;I)V"⟩, 3) := ⟨⟨by decide +kernel, by decide +kernel⟩, List.mem_of_getElem? (i := 33) (by decide +kernel), List.mem_of_getElem? (i := 297) (by decide +kernel), List.mem_of_getElem? (i := 298) (by decide +kernel)⟩
theorem lw_p10 : lw_okq (⟨"java/util/ArrayList", "grow", "()[Ljava/lang/Object;"⟩, 3) := ⟨⟨by decide +kernel, by decide +kernel⟩, List.mem_of_getElem? (i := 33) (by decide +kernel), List.mem_of_getElem? (i := 301) (by decide +kernel), List.mem_of_getElem? (i := 302) (by decide +kernel)⟩
theorem lw_p11 : lw_okq (⟨"java/util/ArrayList", "grow", "(I)[Ljava/lang/Object;"⟩, 3) := ⟨⟨by decide +kernel, by decide +kernel⟩, List.mem_of_getElem? (i := 33) (by decide +kernel), List.mem_of_getElem? (i := 305) (by decide +kernel), List.mem_of_getElem? (i := 306) (by decide +kernel)⟩
theorem lw_p12 : lw_okq (⟨"ProcessHeaps", "dropGoneHeaps", "()V"⟩, 7) := ⟨⟨by decide +kernel, by decide +kernel⟩, List.mem_of_getElem? (i := 19) (by decide +kernel), List.mem_of_getElem? (i := 355) (by decide +kernel), List.mem_of_getElem? (i := 356) (by decide +kernel)⟩
theorem lw_p13 : lw_okq (⟨"ProcessHeaps", "isFrozen", "(I)Z"⟩, 7) := ⟨⟨by decide +kernel, by decide +kernel⟩, List.mem_of_getElem? (i := 19) (by decide +kernel), List.mem_of_getElem? (i := 359) (by decide +kernel), List.mem_of_getElem? (i := 360) (by decide +kernel)⟩
theorem lw_p14 : lw_okq (⟨"ProcessHeaps", "isSharedByLiving", "(I)Z"⟩, 7) := ⟨⟨by decide +kernel, by decide +kernel⟩, List.mem_of_getElem? (i := 19) (by decide +kernel), List.mem_of_getElem? (i := 366) (by decide +kernel), List.mem_of_getElem? (i := 367) (by decide +kernel)⟩
theorem lw_p15 : lw_okq (⟨"ProcessHeaps$Memory", "giveBackEmptyPages", "()V"⟩, 2) := ⟨⟨by decide +kernel, by decide +kernel⟩, List.mem_of_getElem? (i := 27) (by decide +kernel), List.mem_of_getElem? (i := 375) (by decide +kernel), List.mem_of_getElem? (i := 376) (by decide +kernel)⟩
def lw_privs_1 : List (MethodName × Nat) := [(⟨"ProcessHeaps", "livingProcess", "(I)LProcessHeaps$HeapProcess;"⟩, 7), (⟨"ProcessHeaps", "isMade", "(I)Z"⟩, 7), (⟨"ProcessHeaps", "canPay", "(II)Z"⟩, 7), (⟨"ProcessHeaps$Limits", "reckonPayments", "([LProcessHeaps$HeapProcess;LProcessHeaps$Memory;)V"⟩, 3), (⟨"ProcessHeaps$Limits", "addChildren", "([LProcessHeaps$HeapProcess;)V"⟩, 3), (⟨"ProcessHeaps$Limits", "reckonSpare", "([LProcessHeaps$HeapProcess;)V"⟩, 3), (⟨"ProcessHeaps", "die", "(LProcessHeaps$HeapProcess;)V"⟩, 7), (⟨"ProcessHeaps", "dropUnusedCharges", "(LProcessHeaps$HeapProcess;)V"⟩, 7), (⟨"java/util/ArrayList", "fastRemove", "([Ljava/lang/Object;I)V"⟩, 3), (⟨"java/util/ArrayList", "add", "(Ljava/lang/Object;[Ljava/lang/Object;I)V"⟩, 3), (⟨"java/util/ArrayList", "grow", "()[Ljava/lang/Object;"⟩, 3), (⟨"java/util/ArrayList", "grow", "(I)[Ljava/lang/Object;"⟩, 3), (⟨"ProcessHeaps", "dropGoneHeaps", "()V"⟩, 7), (⟨"ProcessHeaps", "isFrozen", "(I)Z"⟩, 7), (⟨"ProcessHeaps", "isSharedByLiving", "(I)Z"⟩, 7), (⟨"ProcessHeaps$Memory", "giveBackEmptyPages", "()V"⟩, 2)]
theorem lw_r1 : ∀ q ∈ lw_privs_1, lw_okq q := List.forall_mem_cons.mpr ⟨lw_p0, List.forall_mem_cons.mpr ⟨lw_p1, List.forall_mem_cons.mpr ⟨lw_p2, List.forall_mem_cons.mpr ⟨lw_p3, List.forall_mem_cons.mpr ⟨lw_p4, List.forall_mem_cons.mpr ⟨lw_p5, List.forall_mem_cons.mpr ⟨lw_p6, List.forall_mem_cons.mpr ⟨lw_p7, List.forall_mem_cons.mpr ⟨lw_p8, List.forall_mem_cons.mpr ⟨lw_p9, List.forall_mem_cons.mpr ⟨lw_p10, List.forall_mem_cons.mpr ⟨lw_p11, List.forall_mem_cons.mpr ⟨lw_p12, List.forall_mem_cons.mpr ⟨lw_p13, List.forall_mem_cons.mpr ⟨lw_p14, List.forall_mem_cons.mpr ⟨lw_p15, fun _ h => absurd h List.not_mem_nil⟩⟩⟩⟩⟩⟩⟩⟩⟩⟩⟩⟩⟩⟩⟩⟩
theorem lw_p16 : lw_okq (⟨"ProcessHeaps", "endPaymentOfDead", "(I)V"⟩, 7) := ⟨⟨by decide +kernel, by decide +kernel⟩, List.mem_of_getElem? (i := 19) (by decide +kernel), List.mem_of_getElem? (i := 379) (by decide +kernel), List.mem_of_getElem? (i := 380) (by decide +kernel)⟩
theorem lw_p17 : lw_okq (⟨"ProcessHeaps", "pageForMaking", "(LProcessHeaps$HeapProcess;I)LProcessHeaps$Page;"⟩, 7) := ⟨⟨by decide +kernel, by decide +kernel⟩, List.mem_of_getElem? (i := 19) (by decide +kernel), List.mem_of_getElem? (i := 395) (by decide +kernel), List.mem_of_getElem? (i := 396) (by decide +kernel)⟩
theorem lw_p18 : lw_okq (⟨"ProcessHeaps", "collectHeap", "(I)I"⟩, 7) := ⟨⟨by decide +kernel, by decide +kernel⟩, List.mem_of_getElem? (i := 19) (by decide +kernel), List.mem_of_getElem? (i := 431) (by decide +kernel), List.mem_of_getElem? (i := 432) (by decide +kernel)⟩
theorem lw_p19 : lw_okq (⟨"ProcessHeaps$Collector", "reachHeld", "(I[LProcessHeaps$HeapProcess;)V"⟩, 2) := ⟨⟨by decide +kernel, by decide +kernel⟩, List.mem_of_getElem? (i := 68) (by decide +kernel), List.mem_of_getElem? (i := 439) (by decide +kernel), List.mem_of_getElem? (i := 440) (by decide +kernel)⟩
theorem lw_p20 : lw_okq (⟨"ProcessHeaps$Collector", "reachObject", "(ILProcessHeaps$HeapObject;)V"⟩, 2) := ⟨⟨by decide +kernel, by decide +kernel⟩, List.mem_of_getElem? (i := 68) (by decide +kernel), List.mem_of_getElem? (i := 443) (by decide +kernel), List.mem_of_getElem? (i := 444) (by decide +kernel)⟩
theorem lw_p21 : lw_okq (⟨"ProcessHeaps$Collector", "reachNamedFromOutside", "(ILProcessHeaps$Memory;)V"⟩, 2) := ⟨⟨by decide +kernel, by decide +kernel⟩, List.mem_of_getElem? (i := 68) (by decide +kernel), List.mem_of_getElem? (i := 448) (by decide +kernel), List.mem_of_getElem? (i := 449) (by decide +kernel)⟩
theorem lw_p22 : lw_okq (⟨"ProcessHeaps$Collector", "followFields", "(I)V"⟩, 2) := ⟨⟨by decide +kernel, by decide +kernel⟩, List.mem_of_getElem? (i := 68) (by decide +kernel), List.mem_of_getElem? (i := 458) (by decide +kernel), List.mem_of_getElem? (i := 459) (by decide +kernel)⟩
theorem lw_p23 : lw_okq (⟨"ProcessHeaps$Collector", "loseItems", "(ILProcessHeaps$Memory;)V"⟩, 2) := ⟨⟨by decide +kernel, by decide +kernel⟩, List.mem_of_getElem? (i := 68) (by decide +kernel), List.mem_of_getElem? (i := 463) (by decide +kernel), List.mem_of_getElem? (i := 464) (by decide +kernel)⟩
theorem lw_p24 : lw_okq (⟨"ProcessHeaps$HeapObject", "addItemFor", "(LProcessHeaps$HeapObject;)V"⟩, 6) := ⟨⟨by decide +kernel, by decide +kernel⟩, List.mem_of_getElem? (i := 474) (by decide +kernel), List.mem_of_getElem? (i := 472) (by decide +kernel), List.mem_of_getElem? (i := 473) (by decide +kernel)⟩
theorem lw_p25 : lw_okq (⟨"ProcessHeaps", "dropChargesOfDead", "()V"⟩, 7) := ⟨⟨by decide +kernel, by decide +kernel⟩, List.mem_of_getElem? (i := 19) (by decide +kernel), List.mem_of_getElem? (i := 479) (by decide +kernel), List.mem_of_getElem? (i := 480) (by decide +kernel)⟩
theorem lw_p26 : lw_okq (⟨"ProcessHeaps", "mayChange", "(LProcessHeaps$HeapProcess;LProcessHeaps$HeapObject;)Z"⟩, 7) := ⟨⟨by decide +kernel, by decide +kernel⟩, List.mem_of_getElem? (i := 19) (by decide +kernel), List.mem_of_getElem? (i := 525) (by decide +kernel), List.mem_of_getElem? (i := 526) (by decide +kernel)⟩
theorem lw_p27 : lw_okq (⟨"ProcessHeaps", "mayName", "(LProcessHeaps$HeapProcess;LProcessHeaps$HeapObject;LProcessHeaps$HeapObject;)Z"⟩, 7) := ⟨⟨by decide +kernel, by decide +kernel⟩, List.mem_of_getElem? (i := 19) (by decide +kernel), List.mem_of_getElem? (i := 530) (by decide +kernel), List.mem_of_getElem? (i := 531) (by decide +kernel)⟩
theorem lw_p28 : lw_okq (⟨"ProcessHeaps", "mayHold", "(LProcessHeaps$HeapProcess;LProcessHeaps$HeapObject;)Z"⟩, 7) := ⟨⟨by decide +kernel, by decide +kernel⟩, List.mem_of_getElem? (i := 19) (by decide +kernel), List.mem_of_getElem? (i := 542) (by decide +kernel), List.mem_of_getElem? (i := 543) (by decide +kernel)⟩
theorem lw_p29 : lw_okq (⟨"ProcessHeapsModel", "lives", "(I)Z"⟩, 25) := ⟨⟨by decide +kernel, by decide +kernel⟩, List.mem_of_getElem? (i := 625) (by decide +kernel), List.mem_of_getElem? (i := 711) (by decide +kernel), List.mem_of_getElem? (i := 712) (by decide +kernel)⟩
theorem lw_p30 : lw_okq (⟨"ProcessHeapsModel", "rest", "(I)I"⟩, 25) := ⟨⟨by decide +kernel, by decide +kernel⟩, List.mem_of_getElem? (i := 625) (by decide +kernel), List.mem_of_getElem? (i := 715) (by decide +kernel), List.mem_of_getElem? (i := 716) (by decide +kernel)⟩
theorem lw_p31 : lw_okq (⟨"ProcessHeapsModel", "work", "()V"⟩, 25) := ⟨⟨by decide +kernel, by decide +kernel⟩, List.mem_of_getElem? (i := 625) (by decide +kernel), List.mem_of_getElem? (i := 719) (by decide +kernel), List.mem_of_getElem? (i := 720) (by decide +kernel)⟩
def lw_privs_2 : List (MethodName × Nat) := [(⟨"ProcessHeaps", "endPaymentOfDead", "(I)V"⟩, 7), (⟨"ProcessHeaps", "pageForMaking", "(LProcessHeaps$HeapProcess;I)LProcessHeaps$Page;"⟩, 7), (⟨"ProcessHeaps", "collectHeap", "(I)I"⟩, 7), (⟨"ProcessHeaps$Collector", "reachHeld", "(I[LProcessHeaps$HeapProcess;)V"⟩, 2), (⟨"ProcessHeaps$Collector", "reachObject", "(ILProcessHeaps$HeapObject;)V"⟩, 2), (⟨"ProcessHeaps$Collector", "reachNamedFromOutside", "(ILProcessHeaps$Memory;)V"⟩, 2), (⟨"ProcessHeaps$Collector", "followFields", "(I)V"⟩, 2), (⟨"ProcessHeaps$Collector", "loseItems", "(ILProcessHeaps$Memory;)V"⟩, 2), (⟨"ProcessHeaps$HeapObject", "addItemFor", "(LProcessHeaps$HeapObject;)V"⟩, 6), (⟨"ProcessHeaps", "dropChargesOfDead", "()V"⟩, 7), (⟨"ProcessHeaps", "mayChange", "(LProcessHeaps$HeapProcess;LProcessHeaps$HeapObject;)Z"⟩, 7), (⟨"ProcessHeaps", "mayName", "(LProcessHeaps$HeapProcess;LProcessHeaps$HeapObject;LProcessHeaps$HeapObject;)Z"⟩, 7), (⟨"ProcessHeaps", "mayHold", "(LProcessHeaps$HeapProcess;LProcessHeaps$HeapObject;)Z"⟩, 7), (⟨"ProcessHeapsModel", "lives", "(I)Z"⟩, 25), (⟨"ProcessHeapsModel", "rest", "(I)I"⟩, 25), (⟨"ProcessHeapsModel", "work", "()V"⟩, 25)]
theorem lw_r2 : ∀ q ∈ lw_privs_2, lw_okq q := List.forall_mem_cons.mpr ⟨lw_p16, List.forall_mem_cons.mpr ⟨lw_p17, List.forall_mem_cons.mpr ⟨lw_p18, List.forall_mem_cons.mpr ⟨lw_p19, List.forall_mem_cons.mpr ⟨lw_p20, List.forall_mem_cons.mpr ⟨lw_p21, List.forall_mem_cons.mpr ⟨lw_p22, List.forall_mem_cons.mpr ⟨lw_p23, List.forall_mem_cons.mpr ⟨lw_p24, List.forall_mem_cons.mpr ⟨lw_p25, List.forall_mem_cons.mpr ⟨lw_p26, List.forall_mem_cons.mpr ⟨lw_p27, List.forall_mem_cons.mpr ⟨lw_p28, List.forall_mem_cons.mpr ⟨lw_p29, List.forall_mem_cons.mpr ⟨lw_p30, List.forall_mem_cons.mpr ⟨lw_p31, fun _ h => absurd h List.not_mem_nil⟩⟩⟩⟩⟩⟩⟩⟩⟩⟩⟩⟩⟩⟩⟩⟩
theorem lw_p32 : lw_okq (⟨"ProcessHeapsModel", "frozen", "(I)Z"⟩, 25) := ⟨⟨by decide +kernel, by decide +kernel⟩, List.mem_of_getElem? (i := 625) (by decide +kernel), List.mem_of_getElem? (i := 723) (by decide +kernel), List.mem_of_getElem? (i := 724) (by decide +kernel)⟩
theorem lw_p33 : lw_okq (⟨"ProcessHeapsModel", "die", "(I)V"⟩, 25) := ⟨⟨by decide +kernel, by decide +kernel⟩, List.mem_of_getElem? (i := 625) (by decide +kernel), List.mem_of_getElem? (i := 735) (by decide +kernel), List.mem_of_getElem? (i := 736) (by decide +kernel)⟩
theorem lw_p34 : lw_okq (⟨"ProcessHeapsModel", "names", "(II)Z"⟩, 25) := ⟨⟨by decide +kernel, by decide +kernel⟩, List.mem_of_getElem? (i := 625) (by decide +kernel), List.mem_of_getElem? (i := 739) (by decide +kernel), List.mem_of_getElem? (i := 740) (by decide +kernel)⟩
theorem lw_p35 : lw_okq (⟨"ProcessHeapsModel", "merge", "(I)V"⟩, 25) := ⟨⟨by decide +kernel, by decide +kernel⟩, List.mem_of_getElem? (i := 625) (by decide +kernel), List.mem_of_getElem? (i := 743) (by decide +kernel), List.mem_of_getElem? (i := 744) (by decide +kernel)⟩
theorem lw_p36 : lw_okq (⟨"ProcessHeapsModel", "vanish", "()V"⟩, 25) := ⟨⟨by decide +kernel, by decide +kernel⟩, List.mem_of_getElem? (i := 625) (by decide +kernel), List.mem_of_getElem? (i := 747) (by decide +kernel), List.mem_of_getElem? (i := 748) (by decide +kernel)⟩
theorem lw_p37 : lw_okq (⟨"ProcessHeapsModel", "free", "(I)V"⟩, 25) := ⟨⟨by decide +kernel, by decide +kernel⟩, List.mem_of_getElem? (i := 625) (by decide +kernel), List.mem_of_getElem? (i := 751) (by decide +kernel), List.mem_of_getElem? (i := 752) (by decide +kernel)⟩
theorem lw_p38 : lw_okq (⟨"ProcessHeapsModel", "find", "(III)I"⟩, 25) := ⟨⟨by decide +kernel, by decide +kernel⟩, List.mem_of_getElem? (i := 625) (by decide +kernel), List.mem_of_getElem? (i := 766) (by decide +kernel), List.mem_of_getElem? (i := 767) (by decide +kernel)⟩
theorem lw_p39 : lw_okq (⟨"ProcessHeapsModel", "fitting", "(II)I"⟩, 25) := ⟨⟨by decide +kernel, by decide +kernel⟩, List.mem_of_getElem? (i := 625) (by decide +kernel), List.mem_of_getElem? (i := 770) (by decide +kernel), List.mem_of_getElem? (i := 771) (by decide +kernel)⟩
theorem lw_p40 : lw_okq (⟨"ProcessHeapsModel", "sweep", "(I)I"⟩, 25) := ⟨⟨by decide +kernel, by decide +kernel⟩, List.mem_of_getElem? (i := 625) (by decide +kernel), List.mem_of_getElem? (i := 774) (by decide +kernel), List.mem_of_getElem? (i := 775) (by decide +kernel)⟩
theorem lw_p41 : lw_okq (⟨"ProcessHeapsModel", "reach", "(I)V"⟩, 25) := ⟨⟨by decide +kernel, by decide +kernel⟩, List.mem_of_getElem? (i := 625) (by decide +kernel), List.mem_of_getElem? (i := 778) (by decide +kernel), List.mem_of_getElem? (i := 779) (by decide +kernel)⟩
theorem lw_p42 : lw_okq (⟨"ProcessHeapsModel", "root", "(II)Z"⟩, 25) := ⟨⟨by decide +kernel, by decide +kernel⟩, List.mem_of_getElem? (i := 625) (by decide +kernel), List.mem_of_getElem? (i := 782) (by decide +kernel), List.mem_of_getElem? (i := 783) (by decide +kernel)⟩
theorem lw_p43 : lw_okq (⟨"ProcessHeapsModel", "inField", "(II)Z"⟩, 25) := ⟨⟨by decide +kernel, by decide +kernel⟩, List.mem_of_getElem? (i := 625) (by decide +kernel), List.mem_of_getElem? (i := 786) (by decide +kernel), List.mem_of_getElem? (i := 787) (by decide +kernel)⟩
theorem lw_p44 : lw_okq (⟨"ProcessHeapsModel", "holds", "(II)Z"⟩, 25) := ⟨⟨by decide +kernel, by decide +kernel⟩, List.mem_of_getElem? (i := 625) (by decide +kernel), List.mem_of_getElem? (i := 790) (by decide +kernel), List.mem_of_getElem? (i := 791) (by decide +kernel)⟩
theorem lw_p45 : lw_okq (⟨"ProcessHeapsModel", "exists", "(I)Z"⟩, 25) := ⟨⟨by decide +kernel, by decide +kernel⟩, List.mem_of_getElem? (i := 625) (by decide +kernel), List.mem_of_getElem? (i := 839) (by decide +kernel), List.mem_of_getElem? (i := 840) (by decide +kernel)⟩
def lw_privs_3 : List (MethodName × Nat) := [(⟨"ProcessHeapsModel", "frozen", "(I)Z"⟩, 25), (⟨"ProcessHeapsModel", "die", "(I)V"⟩, 25), (⟨"ProcessHeapsModel", "names", "(II)Z"⟩, 25), (⟨"ProcessHeapsModel", "merge", "(I)V"⟩, 25), (⟨"ProcessHeapsModel", "vanish", "()V"⟩, 25), (⟨"ProcessHeapsModel", "free", "(I)V"⟩, 25), (⟨"ProcessHeapsModel", "find", "(III)I"⟩, 25), (⟨"ProcessHeapsModel", "fitting", "(II)I"⟩, 25), (⟨"ProcessHeapsModel", "sweep", "(I)I"⟩, 25), (⟨"ProcessHeapsModel", "reach", "(I)V"⟩, 25), (⟨"ProcessHeapsModel", "root", "(II)Z"⟩, 25), (⟨"ProcessHeapsModel", "inField", "(II)Z"⟩, 25), (⟨"ProcessHeapsModel", "holds", "(II)Z"⟩, 25), (⟨"ProcessHeapsModel", "exists", "(I)Z"⟩, 25)]
theorem lw_r3 : ∀ q ∈ lw_privs_3, lw_okq q := List.forall_mem_cons.mpr ⟨lw_p32, List.forall_mem_cons.mpr ⟨lw_p33, List.forall_mem_cons.mpr ⟨lw_p34, List.forall_mem_cons.mpr ⟨lw_p35, List.forall_mem_cons.mpr ⟨lw_p36, List.forall_mem_cons.mpr ⟨lw_p37, List.forall_mem_cons.mpr ⟨lw_p38, List.forall_mem_cons.mpr ⟨lw_p39, List.forall_mem_cons.mpr ⟨lw_p40, List.forall_mem_cons.mpr ⟨lw_p41, List.forall_mem_cons.mpr ⟨lw_p42, List.forall_mem_cons.mpr ⟨lw_p43, List.forall_mem_cons.mpr ⟨lw_p44, List.forall_mem_cons.mpr ⟨lw_p45, fun _ h => absurd h List.not_mem_nil⟩⟩⟩⟩⟩⟩⟩⟩⟩⟩⟩⟩⟩⟩
def lw_privs : List (MethodName × Nat) := lw_privs_1 ++ (lw_privs_2 ++ (lw_privs_3))
def lw_tbl : List Cond := k2_sels lw_privs ++ tables_1
theorem lw_privs_ok : ∀ q ∈ lw_privs, lw_okq q := by
  show ∀ q ∈ lw_privs_1 ++ (lw_privs_2 ++ (lw_privs_3)), lw_okq q
  exact List.forall_mem_append.mpr ⟨lw_r1, List.forall_mem_append.mpr ⟨lw_r2, lw_r3⟩⟩
end
section
/-! NAMES (by program, wip/tools/gen_names.py, out of the claim's own Statement): classes and their fields, methods with their rooms, the words of the tables, what each pool entry is -/
def TT0 : u_T := fun k => match k with
  | 0 => ("ProcessHeaps", "memory", "LProcessHeaps$Memory;", true)
  | 1 => ("ProcessHeaps", "collector", "LProcessHeaps$Collector;", true)
  | 2 => ("ProcessHeaps", "limits", "LProcessHeaps$Limits;", true)
  | 3 => ("ProcessHeaps", "processes", "[LProcessHeaps$HeapProcess;", true)
  | 4 => ("ProcessHeaps", "heads", "[LProcessHeaps$HeapObject;", true)
  | 5 => ("ProcessHeaps", "made", "I", false)
  | _ => ("ProcessHeaps", "nextShared", "I", false)
def tt0 : Nat → FieldType := fun k => match k with
  | 0 => .object "ProcessHeaps$Memory"
  | 1 => .object "ProcessHeaps$Collector"
  | 2 => .object "ProcessHeaps$Limits"
  | 3 => .array (.object "ProcessHeaps$HeapProcess")
  | 4 => .array (.object "ProcessHeaps$HeapObject")
  | 5 => .int
  | _ => .int
def TT1 : u_T := fun k => match k with
  | 0 => ("ProcessHeaps$Memory", "pages", "Ljava/util/ArrayList;", true)
  | _ => ("ProcessHeaps$Memory", "objects", "Ljava/util/ArrayList;", true)
def tt1 : Nat → FieldType := fun k => match k with
  | 0 => .object "java/util/ArrayList"
  | _ => .object "java/util/ArrayList"
def TT2 : u_T := fun k => match k with
  | 0 => ("java/util/ArrayList", "elementData", "[Ljava/lang/Object;", false)
  | 1 => ("java/util/ArrayList", "size", "I", false)
  | _ => ("java/util/AbstractList", "modCount", "I", false)
def tt2 : Nat → FieldType := fun k => match k with
  | 0 => .array (.object "java/lang/Object")
  | 1 => .int
  | _ => .int
def TT3 : u_T := fun k => match k with
  | 0 => ("ProcessHeaps$Collector", "reached", "[LProcessHeaps$HeapObject;", true)
  | _ => ("ProcessHeaps$Collector", "count", "I", false)
def tt3 : Nat → FieldType := fun k => match k with
  | 0 => .array (.object "ProcessHeaps$HeapObject")
  | _ => .int
def TT4 : u_T := fun k => match k with
  | 0 => ("ProcessHeaps$Limits", "used", "[I", true)
  | 1 => ("ProcessHeaps$Limits", "spare", "[I", true)
  | _ => ("ProcessHeaps$Limits", "exists", "[Z", true)
def tt4 : Nat → FieldType := fun k => match k with
  | 0 => .array .int
  | 1 => .array .int
  | _ => .array .boolean
def TT5 : u_T := fun k => match k with
  | 0 => ("ProcessHeaps$HeapProcess", "number", "I", true)
  | 1 => ("ProcessHeaps$HeapProcess", "parent", "I", true)
  | 2 => ("ProcessHeaps$HeapProcess", "limit", "I", true)
  | 3 => ("ProcessHeaps$HeapProcess", "hard", "Z", true)
  | 4 => ("ProcessHeaps$HeapProcess", "registers", "[LProcessHeaps$HeapObject;", true)
  | 5 => ("ProcessHeaps$HeapProcess", "state", "I", false)
  | 6 => ("ProcessHeaps$HeapProcess", "building", "I", false)
  | _ => ("ProcessHeaps$HeapProcess", "charges", "I", false)
def tt5 : Nat → FieldType := fun k => match k with
  | 0 => .int
  | 1 => .int
  | 2 => .int
  | 3 => .boolean
  | 4 => .array (.object "ProcessHeaps$HeapObject")
  | 5 => .int
  | 6 => .int
  | _ => .int
def TT6 : u_T := fun k => match k with
  | 0 => ("ProcessHeaps$Page", "heap", "I", false)
  | 1 => ("ProcessHeaps$Page", "payer", "I", false)
  | _ => ("ProcessHeaps$Page", "freeCells", "I", false)
def tt6 : Nat → FieldType := fun k => match k with
  | 0 => .int
  | 1 => .int
  | _ => .int
def TT7 : u_T := fun k => match k with
  | 0 => ("ProcessHeaps$HeapObject", "page", "LProcessHeaps$Page;", true)
  | 1 => ("ProcessHeaps$HeapObject", "size", "I", true)
  | 2 => ("ProcessHeaps$HeapObject", "tag", "I", true)
  | 3 => ("ProcessHeaps$HeapObject", "fields", "[LProcessHeaps$HeapObject;", true)
  | 4 => ("ProcessHeaps$HeapObject", "reached", "Z", false)
  | _ => ("ProcessHeaps$HeapObject", "items", "I", false)
def tt7 : Nat → FieldType := fun k => match k with
  | 0 => .object "ProcessHeaps$Page"
  | 1 => .int
  | 2 => .int
  | 3 => .array (.object "ProcessHeaps$HeapObject")
  | 4 => .boolean
  | _ => .int
def TT8 : u_T := fun k => match k with
  | 0 => ("ProcessHeapsModel", "phase", "[I", true)
  | 1 => ("ProcessHeapsModel", "parent", "[I", true)
  | 2 => ("ProcessHeapsModel", "limit", "[I", true)
  | 3 => ("ProcessHeapsModel", "hard", "[Z", true)
  | 4 => ("ProcessHeapsModel", "made", "I", false)
  | 5 => ("ProcessHeapsModel", "reg", "[I", true)
  | 6 => ("ProcessHeapsModel", "home", "[I", true)
  | 7 => ("ProcessHeapsModel", "size", "[I", true)
  | 8 => ("ProcessHeapsModel", "label", "[I", true)
  | 9 => ("ProcessHeapsModel", "page", "[I", true)
  | 10 => ("ProcessHeapsModel", "field", "[I", true)
  | 11 => ("ProcessHeapsModel", "owner", "[I", true)
  | 12 => ("ProcessHeapsModel", "payer", "[I", true)
  | 13 => ("ProcessHeapsModel", "order", "[I", true)
  | 14 => ("ProcessHeapsModel", "latest", "I", false)
  | 15 => ("ProcessHeapsModel", "stage", "[I", true)
  | 16 => ("ProcessHeapsModel", "builder", "[I", true)
  | 17 => ("ProcessHeapsModel", "first", "[I", true)
  | 18 => ("ProcessHeapsModel", "begun", "I", false)
  | 19 => ("ProcessHeapsModel", "sharing", "[Z", true)
  | 20 => ("ProcessHeapsModel", "paying", "[Z", true)
  | 21 => ("ProcessHeapsModel", "item", "[Z", true)
  | 22 => ("ProcessHeapsModel", "used", "[I", true)
  | 23 => ("ProcessHeapsModel", "there", "[Z", true)
  | _ => ("ProcessHeapsModel", "mark", "[Z", true)
def tt8 : Nat → FieldType := fun k => match k with
  | 0 => .array .int
  | 1 => .array .int
  | 2 => .array .int
  | 3 => .array .boolean
  | 4 => .int
  | 5 => .array .int
  | 6 => .array .int
  | 7 => .array .int
  | 8 => .array .int
  | 9 => .array .int
  | 10 => .array .int
  | 11 => .array .int
  | 12 => .array .int
  | 13 => .array .int
  | 14 => .int
  | 15 => .array .int
  | 16 => .array .int
  | 17 => .array .int
  | 18 => .int
  | 19 => .array .boolean
  | 20 => .array .boolean
  | 21 => .array .boolean
  | 22 => .array .int
  | 23 => .array .boolean
  | _ => .array .boolean
abbrev vwCl : List vw_C := [("ProcessHeaps", TT0, 7), ("ProcessHeaps$Memory", TT1, 2), ("java/util/ArrayList", TT2, 3), ("ProcessHeaps$Collector", TT3, 2), ("ProcessHeaps$Limits", TT4, 3), ("ProcessHeaps$HeapProcess", TT5, 8), ("ProcessHeaps$Page", TT6, 3), ("ProcessHeaps$HeapObject", TT7, 6), ("ProcessHeapsModel", TT8, 25)]
def yy_PH_init : MethodName := ⟨"ProcessHeaps", "<init>", "(I)V"⟩
abbrev Y_PH_init : ByteArray × String × Nat × Option FieldType × Bool × Room := (prog_1_method_1_code, "ProcessHeaps", 3, none, true, { frames := 5, cells := 14, slots := 132, locals := 100 })
def yy_Oj_init : MethodName := ⟨"java/lang/Object", "<init>", "()V"⟩
abbrev Y_Oj_init : ByteArray × String × Nat × Option FieldType × Bool × Room := (object_method_1_code, "java/lang/Object", 1, none, true, { frames := 0, cells := 0, slots := 0, locals := 0 })
def yy_Me_init : MethodName := ⟨"ProcessHeaps$Memory", "<init>", "()V"⟩
abbrev Y_Me_init : ByteArray × String × Nat × Option FieldType × Bool × Room := (prog_6_method_1_code, "ProcessHeaps$Memory", 1, none, true, { frames := 4, cells := 2, slots := 6, locals := 80 })
def yy_AL_init : MethodName := ⟨"java/util/ArrayList", "<init>", "()V"⟩
abbrev Y_AL_init : ByteArray × String × Nat × Option FieldType × Bool × Room := (prog_17_method_2_code, "java/util/ArrayList", 1, none, true, { frames := 3, cells := 0, slots := 0, locals := 60 })
def yy_Ab_init : MethodName := ⟨"java/util/AbstractList", "<init>", "()V"⟩
abbrev Y_Ab_init : ByteArray × String × Nat × Option FieldType × Bool × Room := (prog_16_method_1_code, "java/util/AbstractList", 1, none, true, { frames := 2, cells := 0, slots := 0, locals := 40 })
def yy_Ac_init : MethodName := ⟨"java/util/AbstractCollection", "<init>", "()V"⟩
abbrev Y_Ac_init : ByteArray × String × Nat × Option FieldType × Bool × Room := (prog_15_method_1_code, "java/util/AbstractCollection", 1, none, true, { frames := 1, cells := 0, slots := 0, locals := 20 })
def yy_Co_init : MethodName := ⟨"ProcessHeaps$Collector", "<init>", "()V"⟩
abbrev Y_Co_init : ByteArray × String × Nat × Option FieldType × Bool × Room := (prog_2_method_1_code, "ProcessHeaps$Collector", 1, none, true, { frames := 1, cells := 1, slots := 60, locals := 20 })
def yy_Li_init : MethodName := ⟨"ProcessHeaps$Limits", "<init>", "()V"⟩
abbrev Y_Li_init : ByteArray × String × Nat × Option FieldType × Bool × Room := (prog_5_method_1_code, "ProcessHeaps$Limits", 1, none, true, { frames := 1, cells := 3, slots := 24, locals := 20 })
def yy_Ma_min : MethodName := ⟨"java/lang/Math", "min", "(II)I"⟩
abbrev Y_Ma_min : ByteArray × String × Nat × Option FieldType × Bool × Room := (prog_13_method_69_code, "java/lang/Math", 2, (some .int), false, { frames := 0, cells := 0, slots := 0, locals := 0 })
def yy_Ma_max : MethodName := ⟨"java/lang/Math", "max", "(II)I"⟩
abbrev Y_Ma_max : ByteArray × String × Nat × Option FieldType × Bool × Room := (prog_13_method_65_code, "java/lang/Math", 2, (some .int), false, { frames := 0, cells := 0, slots := 0, locals := 0 })
def yy_Pr_init : MethodName := ⟨"ProcessHeaps$HeapProcess", "<init>", "(IIIZ)V"⟩
abbrev Y_Pr_init : ByteArray × String × Nat × Option FieldType × Bool × Room := (prog_4_method_1_code, "ProcessHeaps$HeapProcess", 5, none, true, { frames := 1, cells := 1, slots := 4, locals := 20 })
def yy_PH_spawn : MethodName := ⟨"ProcessHeaps", "spawn", "(IIZ)I"⟩
abbrev Y_PH_spawn : ByteArray × String × Nat × Option FieldType × Bool × Room := (prog_1_method_2_code, "ProcessHeaps", 5, (some .int), false, { frames := 7, cells := 2, slots := 12, locals := 156 })
def yy_PH_livingProcess : MethodName := ⟨"ProcessHeaps", "livingProcess", "(I)LProcessHeaps$HeapProcess;"⟩
abbrev Y_PH_livingProcess : ByteArray × String × Nat × Option FieldType × Bool × Room := (prog_1_method_27_code, "ProcessHeaps", 2, (some (.object "ProcessHeaps$HeapProcess")), false, { frames := 1, cells := 0, slots := 0, locals := 21 })
def yy_PH_isMade : MethodName := ⟨"ProcessHeaps", "isMade", "(I)Z"⟩
abbrev Y_PH_isMade : ByteArray × String × Nat × Option FieldType × Bool × Room := (prog_1_method_26_code, "ProcessHeaps", 2, (some .boolean), false, { frames := 0, cells := 0, slots := 0, locals := 0 })
def yy_Pr_isLiving : MethodName := ⟨"ProcessHeaps$HeapProcess", "isLiving", "()Z"⟩
abbrev Y_Pr_isLiving : ByteArray × String × Nat × Option FieldType × Bool × Room := (prog_4_method_2_code, "ProcessHeaps$HeapProcess", 1, (some .boolean), false, { frames := 0, cells := 0, slots := 0, locals := 0 })
def yy_PH_canPay : MethodName := ⟨"ProcessHeaps", "canPay", "(II)Z"⟩
abbrev Y_PH_canPay : ByteArray × String × Nat × Option FieldType × Bool × Room := (prog_1_method_28_code, "ProcessHeaps", 3, (some .boolean), false, { frames := 6, cells := 0, slots := 0, locals := 134 })
def yy_Li_reckon : MethodName := ⟨"ProcessHeaps$Limits", "reckon", "([LProcessHeaps$HeapProcess;LProcessHeaps$Memory;)V"⟩
abbrev Y_Li_reckon : ByteArray × String × Nat × Option FieldType × Bool × Room := (prog_5_method_2_code, "ProcessHeaps$Limits", 3, none, false, { frames := 5, cells := 0, slots := 0, locals := 112 })
def yy_Li_reckonPayments : MethodName := ⟨"ProcessHeaps$Limits", "reckonPayments", "([LProcessHeaps$HeapProcess;LProcessHeaps$Memory;)V"⟩
abbrev Y_Li_reckonPayments : ByteArray × String × Nat × Option FieldType × Bool × Room := (prog_5_method_3_code, "ProcessHeaps$Limits", 5, none, false, { frames := 4, cells := 0, slots := 0, locals := 88 })
def yy_Me_countPaidPages : MethodName := ⟨"ProcessHeaps$Memory", "countPaidPages", "(LProcessHeaps$HeapProcess;)I"⟩
abbrev Y_Me_countPaidPages : ByteArray × String × Nat × Option FieldType × Bool × Room := (prog_6_method_3_code, "ProcessHeaps$Memory", 5, (some .int), false, { frames := 3, cells := 0, slots := 0, locals := 64 })
def yy_AL_size : MethodName := ⟨"java/util/ArrayList", "size", "()I"⟩
abbrev Y_AL_size : ByteArray × String × Nat × Option FieldType × Bool × Room := (prog_17_method_8_code, "java/util/ArrayList", 1, (some .int), false, { frames := 0, cells := 0, slots := 0, locals := 0 })
def yy_AL_get : MethodName := ⟨"java/util/ArrayList", "get", "(I)Ljava/lang/Object;"⟩
abbrev Y_AL_get : ByteArray × String × Nat × Option FieldType × Bool × Room := (prog_17_method_20_code, "java/util/ArrayList", 2, (some (.object "java/lang/Object")), false, { frames := 2, cells := 0, slots := 0, locals := 43 })
def yy_Os_checkIndex : MethodName := ⟨"java/util/Objects", "checkIndex", "(II)I"⟩
abbrev Y_Os_checkIndex : ByteArray × String × Nat × Option FieldType × Bool × Room := (prog_21_method_17_code, "java/util/Objects", 2, (some .int), false, { frames := 1, cells := 0, slots := 0, locals := 22 })
def yy_Pc_checkIndex : MethodName := ⟨"jdk/internal/util/Preconditions", "checkIndex", "(IILjava/util/function/BiFunction;)I"⟩
abbrev Y_Pc_checkIndex : ByteArray × String × Nat × Option FieldType × Bool × Room := (prog_25_method_11_code, "jdk/internal/util/Preconditions", 3, (some .int), false, { frames := 0, cells := 0, slots := 0, locals := 0 })
def yy_AL_elementData : MethodName := ⟨"java/util/ArrayList", "elementData", "(I)Ljava/lang/Object;"⟩
abbrev Y_AL_elementData : ByteArray × String × Nat × Option FieldType × Bool × Room := (prog_17_method_18_code, "java/util/ArrayList", 2, (some (.object "java/lang/Object")), false, { frames := 0, cells := 0, slots := 0, locals := 0 })
def yy_Pr_isCharged : MethodName := ⟨"ProcessHeaps$HeapProcess", "isCharged", "(I)Z"⟩
abbrev Y_Pr_isCharged : ByteArray × String × Nat × Option FieldType × Bool × Room := (prog_4_method_4_code, "ProcessHeaps$HeapProcess", 2, (some .boolean), false, { frames := 0, cells := 0, slots := 0, locals := 0 })
def yy_Li_addChildren : MethodName := ⟨"ProcessHeaps$Limits", "addChildren", "([LProcessHeaps$HeapProcess;)V"⟩
abbrev Y_Li_addChildren : ByteArray × String × Nat × Option FieldType × Bool × Room := (prog_5_method_4_code, "ProcessHeaps$Limits", 4, none, false, { frames := 0, cells := 0, slots := 0, locals := 0 })
def yy_Li_reckonSpare : MethodName := ⟨"ProcessHeaps$Limits", "reckonSpare", "([LProcessHeaps$HeapProcess;)V"⟩
abbrev Y_Li_reckonSpare : ByteArray × String × Nat × Option FieldType × Bool × Room := (prog_5_method_5_code, "ProcessHeaps$Limits", 4, none, false, { frames := 1, cells := 0, slots := 0, locals := 21 })
def yy_PH_kill : MethodName := ⟨"ProcessHeaps", "kill", "(I)Z"⟩
abbrev Y_PH_kill : ByteArray × String × Nat × Option FieldType × Bool × Room := (prog_1_method_3_code, "ProcessHeaps", 3, (some .boolean), false, { frames := 9, cells := 0, slots := 0, locals := 216 })
def yy_Pr_isInKernelMode : MethodName := ⟨"ProcessHeaps$HeapProcess", "isInKernelMode", "()Z"⟩
abbrev Y_Pr_isInKernelMode : ByteArray × String × Nat × Option FieldType × Bool × Room := (prog_4_method_3_code, "ProcessHeaps$HeapProcess", 1, (some .boolean), false, { frames := 0, cells := 0, slots := 0, locals := 0 })
def yy_PH_die : MethodName := ⟨"ProcessHeaps", "die", "(LProcessHeaps$HeapProcess;)V"⟩
abbrev Y_PH_die : ByteArray × String × Nat × Option FieldType × Bool × Room := (prog_1_method_34_code, "ProcessHeaps", 3, none, false, { frames := 8, cells := 0, slots := 0, locals := 194 })
def yy_PH_dropUnusedCharges : MethodName := ⟨"ProcessHeaps", "dropUnusedCharges", "(LProcessHeaps$HeapProcess;)V"⟩
abbrev Y_PH_dropUnusedCharges : ByteArray × String × Nat × Option FieldType × Bool × Room := (prog_1_method_35_code, "ProcessHeaps", 3, none, false, { frames := 4, cells := 0, slots := 0, locals := 88 })
def yy_Pr_holdsObjectOf : MethodName := ⟨"ProcessHeaps$HeapProcess", "holdsObjectOf", "(I)Z"⟩
abbrev Y_Pr_holdsObjectOf : ByteArray × String × Nat × Option FieldType × Bool × Room := (prog_4_method_8_code, "ProcessHeaps$HeapProcess", 4, (some .boolean), false, { frames := 1, cells := 0, slots := 0, locals := 20 })
def yy_Ob_heapNumber : MethodName := ⟨"ProcessHeaps$HeapObject", "heapNumber", "()I"⟩
abbrev Y_Ob_heapNumber : ByteArray × String × Nat × Option FieldType × Bool × Room := (prog_3_method_2_code, "ProcessHeaps$HeapObject", 1, (some .int), false, { frames := 0, cells := 0, slots := 0, locals := 0 })
def yy_Me_hasItemInto : MethodName := ⟨"ProcessHeaps$Memory", "hasItemInto", "(II)Z"⟩
abbrev Y_Me_hasItemInto : ByteArray × String × Nat × Option FieldType × Bool × Room := (prog_6_method_6_code, "ProcessHeaps$Memory", 5, (some .boolean), false, { frames := 3, cells := 0, slots := 0, locals := 64 })
def yy_Ob_hasItem : MethodName := ⟨"ProcessHeaps$HeapObject", "hasItem", "(I)Z"⟩
abbrev Y_Ob_hasItem : ByteArray × String × Nat × Option FieldType × Bool × Room := (prog_3_method_7_code, "ProcessHeaps$HeapObject", 2, (some .boolean), false, { frames := 0, cells := 0, slots := 0, locals := 0 })
def yy_Pr_dropCharge : MethodName := ⟨"ProcessHeaps$HeapProcess", "dropCharge", "(I)V"⟩
abbrev Y_Pr_dropCharge : ByteArray × String × Nat × Option FieldType × Bool × Room := (prog_4_method_6_code, "ProcessHeaps$HeapProcess", 2, none, false, { frames := 0, cells := 0, slots := 0, locals := 0 })
def yy_Me_mergeIntoKernel : MethodName := ⟨"ProcessHeaps$Memory", "mergeIntoKernel", "(I)V"⟩
abbrev Y_Me_mergeIntoKernel : ByteArray × String × Nat × Option FieldType × Bool × Room := (prog_6_method_13_code, "ProcessHeaps$Memory", 6, none, false, { frames := 7, cells := 0, slots := 0, locals := 169 })
def yy_AL_remove : MethodName := ⟨"java/util/ArrayList", "remove", "(I)Ljava/lang/Object;"⟩
abbrev Y_AL_remove : ByteArray × String × Nat × Option FieldType × Bool × Room := (prog_17_method_29_code, "java/util/ArrayList", 4, (some (.object "java/lang/Object")), false, { frames := 2, cells := 0, slots := 0, locals := 61 })
def yy_AL_fastRemove : MethodName := ⟨"java/util/ArrayList", "fastRemove", "([Ljava/lang/Object;I)V"⟩
abbrev Y_AL_fastRemove : ByteArray × String × Nat × Option FieldType × Bool × Room := (prog_17_method_39_code, "java/util/ArrayList", 4, none, false, { frames := 1, cells := 0, slots := 0, locals := 38 })
def yy_AL_add : MethodName := ⟨"java/util/ArrayList", "add", "(Ljava/lang/Object;)Z"⟩
abbrev Y_AL_add : ByteArray × String × Nat × Option FieldType × Bool × Room := (prog_17_method_25_code, "java/util/ArrayList", 2, (some .boolean), false, { frames := 6, cells := 1, slots := 100, locals := 148 })
def yy_AL_add2 : MethodName := ⟨"java/util/ArrayList", "add", "(Ljava/lang/Object;[Ljava/lang/Object;I)V"⟩
abbrev Y_AL_add2 : ByteArray × String × Nat × Option FieldType × Bool × Room := (prog_17_method_24_code, "java/util/ArrayList", 4, none, false, { frames := 5, cells := 1, slots := 100, locals := 125 })
def yy_AL_grow : MethodName := ⟨"java/util/ArrayList", "grow", "()[Ljava/lang/Object;"⟩
abbrev Y_AL_grow : ByteArray × String × Nat × Option FieldType × Bool × Room := (prog_17_method_7_code, "java/util/ArrayList", 1, (some (.array (.object "java/lang/Object"))), false, { frames := 4, cells := 1, slots := 100, locals := 105 })
def yy_AL_grow2 : MethodName := ⟨"java/util/ArrayList", "grow", "(I)[Ljava/lang/Object;"⟩
abbrev Y_AL_grow2 : ByteArray × String × Nat × Option FieldType × Bool × Room := (prog_17_method_6_code, "java/util/ArrayList", 4, (some (.array (.object "java/lang/Object"))), false, { frames := 3, cells := 1, slots := 100, locals := 82 })
def yy_As_newLength : MethodName := ⟨"jdk/internal/util/ArraysSupport", "newLength", "(III)I"⟩
abbrev Y_As_newLength : ByteArray × String × Nat × Option FieldType × Bool × Room := (prog_24_method_27_code, "jdk/internal/util/ArraysSupport", 4, (some .int), false, { frames := 1, cells := 0, slots := 0, locals := 22 })
def yy_As_hugeLength : MethodName := ⟨"jdk/internal/util/ArraysSupport", "hugeLength", "(II)I"⟩
abbrev Y_As_hugeLength : ByteArray × String × Nat × Option FieldType × Bool × Room := (prog_24_method_28_code, "jdk/internal/util/ArraysSupport", 3, (some .int), false, { frames := 0, cells := 0, slots := 0, locals := 0 })
def yy_Ar_copyOf : MethodName := ⟨"java/util/Arrays", "copyOf", "([Ljava/lang/Object;I)[Ljava/lang/Object;"⟩
abbrev Y_Ar_copyOf : ByteArray × String × Nat × Option FieldType × Bool × Room := (prog_18_method_119_code, "java/util/Arrays", 2, (some (.array (.object "java/lang/Object"))), false, { frames := 2, cells := 1, slots := 100, locals := 61 })
def yy_Ar_copyOf2 : MethodName := ⟨"java/util/Arrays", "copyOf", "([Ljava/lang/Object;ILjava/lang/Class;)[Ljava/lang/Object;"⟩
abbrev Y_Ar_copyOf2 : ByteArray × String × Nat × Option FieldType × Bool × Room := (prog_18_method_120_code, "java/util/Arrays", 4, (some (.array (.object "java/lang/Object"))), false, { frames := 1, cells := 1, slots := 100, locals := 38 })
def yy_Me_handItemsToKernel : MethodName := ⟨"ProcessHeaps$Memory", "handItemsToKernel", "(I)V"⟩
abbrev Y_Me_handItemsToKernel : ByteArray × String × Nat × Option FieldType × Bool × Room := (prog_6_method_14_code, "ProcessHeaps$Memory", 4, none, false, { frames := 3, cells := 0, slots := 0, locals := 64 })
def yy_Ob_dropItem : MethodName := ⟨"ProcessHeaps$HeapObject", "dropItem", "(I)V"⟩
abbrev Y_Ob_dropItem : ByteArray × String × Nat × Option FieldType × Bool × Room := (prog_3_method_9_code, "ProcessHeaps$HeapObject", 2, none, false, { frames := 0, cells := 0, slots := 0, locals := 0 })
def yy_Ob_addItem : MethodName := ⟨"ProcessHeaps$HeapObject", "addItem", "(I)V"⟩
abbrev Y_Ob_addItem : ByteArray × String × Nat × Option FieldType × Bool × Room := (prog_3_method_8_code, "ProcessHeaps$HeapObject", 2, none, false, { frames := 0, cells := 0, slots := 0, locals := 0 })
def yy_PH_dropGoneHeaps : MethodName := ⟨"ProcessHeaps", "dropGoneHeaps", "()V"⟩
abbrev Y_PH_dropGoneHeaps : ByteArray × String × Nat × Option FieldType × Bool × Room := (prog_1_method_38_code, "ProcessHeaps", 2, none, false, { frames := 5, cells := 0, slots := 0, locals := 129 })
def yy_PH_isFrozen : MethodName := ⟨"ProcessHeaps", "isFrozen", "(I)Z"⟩
abbrev Y_PH_isFrozen : ByteArray × String × Nat × Option FieldType × Bool × Room := (prog_1_method_25_code, "ProcessHeaps", 2, (some .boolean), false, { frames := 1, cells := 0, slots := 0, locals := 20 })
def yy_PH_isHeap : MethodName := ⟨"ProcessHeaps", "isHeap", "(I)Z"⟩
abbrev Y_PH_isHeap : ByteArray × String × Nat × Option FieldType × Bool × Room := (prog_1_method_24_code, "ProcessHeaps", 1, (some .boolean), false, { frames := 0, cells := 0, slots := 0, locals := 0 })
def yy_PH_isSharedByLiving : MethodName := ⟨"ProcessHeaps", "isSharedByLiving", "(I)Z"⟩
abbrev Y_PH_isSharedByLiving : ByteArray × String × Nat × Option FieldType × Bool × Room := (prog_1_method_39_code, "ProcessHeaps", 3, (some .boolean), false, { frames := 1, cells := 0, slots := 0, locals := 21 })
def yy_Me_freeUnreached : MethodName := ⟨"ProcessHeaps$Memory", "freeUnreached", "(I)I"⟩
abbrev Y_Me_freeUnreached : ByteArray × String × Nat × Option FieldType × Bool × Room := (prog_6_method_10_code, "ProcessHeaps$Memory", 5, (some .int), false, { frames := 4, cells := 0, slots := 0, locals := 105 })
def yy_Me_giveBackEmptyPages : MethodName := ⟨"ProcessHeaps$Memory", "giveBackEmptyPages", "()V"⟩
abbrev Y_Me_giveBackEmptyPages : ByteArray × String × Nat × Option FieldType × Bool × Room := (prog_6_method_11_code, "ProcessHeaps$Memory", 2, none, false, { frames := 3, cells := 0, slots := 0, locals := 84 })
def yy_PH_endPaymentOfDead : MethodName := ⟨"ProcessHeaps", "endPaymentOfDead", "(I)V"⟩
abbrev Y_PH_endPaymentOfDead : ByteArray × String × Nat × Option FieldType × Bool × Room := (prog_1_method_37_code, "ProcessHeaps", 3, none, false, { frames := 1, cells := 0, slots := 0, locals := 21 })
def yy_PH_mode : MethodName := ⟨"ProcessHeaps", "mode", "(IZ)Z"⟩
abbrev Y_PH_mode : ByteArray × String × Nat × Option FieldType × Bool × Room := (prog_1_method_4_code, "ProcessHeaps", 4, (some .boolean), false, { frames := 9, cells := 0, slots := 0, locals := 216 })
def yy_PH_make : MethodName := ⟨"ProcessHeaps", "make", "(IIII)I"⟩
abbrev Y_PH_make : ByteArray × String × Nat × Option FieldType × Bool × Room := (prog_1_method_5_code, "ProcessHeaps", 7, (some .int), false, { frames := 9, cells := 7, slots := 315, locals := 217 })
def yy_PH_isRegister : MethodName := ⟨"ProcessHeaps", "isRegister", "(I)Z"⟩
abbrev Y_PH_isRegister : ByteArray × String × Nat × Option FieldType × Bool × Room := (prog_1_method_22_code, "ProcessHeaps", 1, (some .boolean), false, { frames := 0, cells := 0, slots := 0, locals := 0 })
def yy_PH_pageForMaking : MethodName := ⟨"ProcessHeaps", "pageForMaking", "(LProcessHeaps$HeapProcess;I)LProcessHeaps$Page;"⟩
abbrev Y_PH_pageForMaking : ByteArray × String × Nat × Option FieldType × Bool × Room := (prog_1_method_29_code, "ProcessHeaps", 6, (some (.object "ProcessHeaps$Page")), false, { frames := 8, cells := 2, slots := 103, locals := 192 })
def yy_Pr_heapForMaking : MethodName := ⟨"ProcessHeaps$HeapProcess", "heapForMaking", "()I"⟩
abbrev Y_Pr_heapForMaking : ByteArray × String × Nat × Option FieldType × Bool × Room := (prog_4_method_7_code, "ProcessHeaps$HeapProcess", 1, (some .int), false, { frames := 1, cells := 0, slots := 0, locals := 20 })
def yy_Me_findPage : MethodName := ⟨"ProcessHeaps$Memory", "findPage", "(II)LProcessHeaps$Page;"⟩
abbrev Y_Me_findPage : ByteArray × String × Nat × Option FieldType × Bool × Room := (prog_6_method_7_code, "ProcessHeaps$Memory", 5, (some (.object "ProcessHeaps$Page")), false, { frames := 3, cells := 0, slots := 0, locals := 64 })
def yy_Me_addPage : MethodName := ⟨"ProcessHeaps$Memory", "addPage", "(II)LProcessHeaps$Page;"⟩
abbrev Y_Me_addPage : ByteArray × String × Nat × Option FieldType × Bool × Room := (prog_6_method_8_code, "ProcessHeaps$Memory", 4, (some (.object "ProcessHeaps$Page")), false, { frames := 7, cells := 2, slots := 103, locals := 169 })
def yy_Pa_init : MethodName := ⟨"ProcessHeaps$Page", "<init>", "(II)V"⟩
abbrev Y_Pa_init : ByteArray × String × Nat × Option FieldType × Bool × Room := (prog_7_method_1_code, "ProcessHeaps$Page", 3, none, true, { frames := 1, cells := 0, slots := 0, locals := 20 })
def yy_PH_collectHeap : MethodName := ⟨"ProcessHeaps", "collectHeap", "(I)I"⟩
abbrev Y_PH_collectHeap : ByteArray × String × Nat × Option FieldType × Bool × Room := (prog_1_method_33_code, "ProcessHeaps", 3, (some .int), false, { frames := 6, cells := 0, slots := 0, locals := 153 })
def yy_Co_run : MethodName := ⟨"ProcessHeaps$Collector", "run", "(ILProcessHeaps$Memory;[LProcessHeaps$HeapProcess;)I"⟩
abbrev Y_Co_run : ByteArray × String × Nat × Option FieldType × Bool × Room := (prog_2_method_2_code, "ProcessHeaps$Collector", 5, (some .int), false, { frames := 5, cells := 0, slots := 0, locals := 129 })
def yy_Co_reachHeld : MethodName := ⟨"ProcessHeaps$Collector", "reachHeld", "(I[LProcessHeaps$HeapProcess;)V"⟩
abbrev Y_Co_reachHeld : ByteArray × String × Nat × Option FieldType × Bool × Room := (prog_2_method_3_code, "ProcessHeaps$Collector", 5, none, false, { frames := 2, cells := 0, slots := 0, locals := 42 })
def yy_Co_reachObject : MethodName := ⟨"ProcessHeaps$Collector", "reachObject", "(ILProcessHeaps$HeapObject;)V"⟩
abbrev Y_Co_reachObject : ByteArray × String × Nat × Option FieldType × Bool × Room := (prog_2_method_6_code, "ProcessHeaps$Collector", 3, none, false, { frames := 1, cells := 0, slots := 0, locals := 20 })
def yy_Co_reachNamedFromOutside : MethodName := ⟨"ProcessHeaps$Collector", "reachNamedFromOutside", "(ILProcessHeaps$Memory;)V"⟩
abbrev Y_Co_reachNamedFromOutside : ByteArray × String × Nat × Option FieldType × Bool × Room := (prog_2_method_4_code, "ProcessHeaps$Collector", 4, none, false, { frames := 3, cells := 0, slots := 0, locals := 64 })
def yy_Ob_hasAnyItem : MethodName := ⟨"ProcessHeaps$HeapObject", "hasAnyItem", "()Z"⟩
abbrev Y_Ob_hasAnyItem : ByteArray × String × Nat × Option FieldType × Bool × Room := (prog_3_method_6_code, "ProcessHeaps$HeapObject", 1, (some .boolean), false, { frames := 0, cells := 0, slots := 0, locals := 0 })
def yy_Co_followFields : MethodName := ⟨"ProcessHeaps$Collector", "followFields", "(I)V"⟩
abbrev Y_Co_followFields : ByteArray × String × Nat × Option FieldType × Bool × Room := (prog_2_method_5_code, "ProcessHeaps$Collector", 4, none, false, { frames := 2, cells := 0, slots := 0, locals := 42 })
def yy_Co_loseItems : MethodName := ⟨"ProcessHeaps$Collector", "loseItems", "(ILProcessHeaps$Memory;)V"⟩
abbrev Y_Co_loseItems : ByteArray × String × Nat × Option FieldType × Bool × Room := (prog_2_method_7_code, "ProcessHeaps$Collector", 4, none, false, { frames := 3, cells := 0, slots := 0, locals := 64 })
def yy_Ob_addItemsForFields : MethodName := ⟨"ProcessHeaps$HeapObject", "addItemsForFields", "()V"⟩
abbrev Y_Ob_addItemsForFields : ByteArray × String × Nat × Option FieldType × Bool × Room := (prog_3_method_4_code, "ProcessHeaps$HeapObject", 2, none, false, { frames := 2, cells := 0, slots := 0, locals := 42 })
def yy_Ob_addItemFor : MethodName := ⟨"ProcessHeaps$HeapObject", "addItemFor", "(LProcessHeaps$HeapObject;)V"⟩
abbrev Y_Ob_addItemFor : ByteArray × String × Nat × Option FieldType × Bool × Room := (prog_3_method_5_code, "ProcessHeaps$HeapObject", 2, none, false, { frames := 1, cells := 0, slots := 0, locals := 21 })
def yy_PH_dropChargesOfDead : MethodName := ⟨"ProcessHeaps", "dropChargesOfDead", "()V"⟩
abbrev Y_PH_dropChargesOfDead : ByteArray × String × Nat × Option FieldType × Bool × Room := (prog_1_method_36_code, "ProcessHeaps", 2, none, false, { frames := 4, cells := 0, slots := 0, locals := 88 })
def yy_Me_putObject : MethodName := ⟨"ProcessHeaps$Memory", "putObject", "(LProcessHeaps$Page;II)LProcessHeaps$HeapObject;"⟩
abbrev Y_Me_putObject : ByteArray × String × Nat × Option FieldType × Bool × Room := (prog_6_method_9_code, "ProcessHeaps$Memory", 5, (some (.object "ProcessHeaps$HeapObject")), false, { frames := 7, cells := 3, slots := 109, locals := 169 })
def yy_Ob_init : MethodName := ⟨"ProcessHeaps$HeapObject", "<init>", "(LProcessHeaps$Page;II)V"⟩
abbrev Y_Ob_init : ByteArray × String × Nat × Option FieldType × Bool × Room := (prog_3_method_1_code, "ProcessHeaps$HeapObject", 4, none, true, { frames := 1, cells := 1, slots := 3, locals := 20 })
def yy_PH_store : MethodName := ⟨"ProcessHeaps", "store", "(IIII)I"⟩
abbrev Y_PH_store : ByteArray × String × Nat × Option FieldType × Bool × Room := (prog_1_method_6_code, "ProcessHeaps", 8, (some .int), false, { frames := 3, cells := 0, slots := 0, locals := 66 })
def yy_PH_isField : MethodName := ⟨"ProcessHeaps", "isField", "(I)Z"⟩
abbrev Y_PH_isField : ByteArray × String × Nat × Option FieldType × Bool × Room := (prog_1_method_23_code, "ProcessHeaps", 1, (some .boolean), false, { frames := 0, cells := 0, slots := 0, locals := 0 })
def yy_PH_mayChange : MethodName := ⟨"ProcessHeaps", "mayChange", "(LProcessHeaps$HeapProcess;LProcessHeaps$HeapObject;)Z"⟩
abbrev Y_PH_mayChange : ByteArray × String × Nat × Option FieldType × Bool × Room := (prog_1_method_30_code, "ProcessHeaps", 4, (some .boolean), false, { frames := 2, cells := 0, slots := 0, locals := 41 })
def yy_PH_mayName : MethodName := ⟨"ProcessHeaps", "mayName", "(LProcessHeaps$HeapProcess;LProcessHeaps$HeapObject;LProcessHeaps$HeapObject;)Z"⟩
abbrev Y_PH_mayName : ByteArray × String × Nat × Option FieldType × Bool × Room := (prog_1_method_31_code, "ProcessHeaps", 6, (some .boolean), false, { frames := 2, cells := 0, slots := 0, locals := 41 })
def yy_Ob_setField : MethodName := ⟨"ProcessHeaps$HeapObject", "setField", "(ILProcessHeaps$HeapObject;)V"⟩
abbrev Y_Ob_setField : ByteArray × String × Nat × Option FieldType × Bool × Room := (prog_3_method_3_code, "ProcessHeaps$HeapObject", 3, none, false, { frames := 2, cells := 0, slots := 0, locals := 42 })
def yy_PH_load : MethodName := ⟨"ProcessHeaps", "load", "(IIII)I"⟩
abbrev Y_PH_load : ByteArray × String × Nat × Option FieldType × Bool × Room := (prog_1_method_7_code, "ProcessHeaps", 8, (some .int), false, { frames := 3, cells := 0, slots := 0, locals := 64 })
def yy_PH_mayHold : MethodName := ⟨"ProcessHeaps", "mayHold", "(LProcessHeaps$HeapProcess;LProcessHeaps$HeapObject;)Z"⟩
abbrev Y_PH_mayHold : ByteArray × String × Nat × Option FieldType × Bool × Room := (prog_1_method_32_code, "ProcessHeaps", 4, (some .boolean), false, { frames := 2, cells := 0, slots := 0, locals := 41 })
def yy_PH_move : MethodName := ⟨"ProcessHeaps", "move", "(III)Z"⟩
abbrev Y_PH_move : ByteArray × String × Nat × Option FieldType × Bool × Room := (prog_1_method_8_code, "ProcessHeaps", 5, (some .boolean), false, { frames := 2, cells := 0, slots := 0, locals := 42 })
def yy_PH_begin : MethodName := ⟨"ProcessHeaps", "begin", "(I)I"⟩
abbrev Y_PH_begin : ByteArray × String × Nat × Option FieldType × Bool × Room := (prog_1_method_9_code, "ProcessHeaps", 3, (some .int), false, { frames := 2, cells := 0, slots := 0, locals := 42 })
def yy_PH_freeze : MethodName := ⟨"ProcessHeaps", "freeze", "(II)I"⟩
abbrev Y_PH_freeze : ByteArray × String × Nat × Option FieldType × Bool × Room := (prog_1_method_10_code, "ProcessHeaps", 6, (some .int), false, { frames := 4, cells := 0, slots := 0, locals := 87 })
def yy_Me_endSinglePayment : MethodName := ⟨"ProcessHeaps$Memory", "endSinglePayment", "(I)V"⟩
abbrev Y_Me_endSinglePayment : ByteArray × String × Nat × Option FieldType × Bool × Room := (prog_6_method_12_code, "ProcessHeaps$Memory", 4, none, false, { frames := 3, cells := 0, slots := 0, locals := 64 })
def yy_Pr_addCharge : MethodName := ⟨"ProcessHeaps$HeapProcess", "addCharge", "(I)V"⟩
abbrev Y_Pr_addCharge : ByteArray × String × Nat × Option FieldType × Bool × Room := (prog_4_method_5_code, "ProcessHeaps$HeapProcess", 2, none, false, { frames := 0, cells := 0, slots := 0, locals := 0 })
def yy_PH_lookup : MethodName := ⟨"ProcessHeaps", "lookup", "(III)I"⟩
abbrev Y_PH_lookup : ByteArray × String × Nat × Option FieldType × Bool × Room := (prog_1_method_11_code, "ProcessHeaps", 6, (some .int), false, { frames := 7, cells := 0, slots := 0, locals := 175 })
def yy_Me_countPages : MethodName := ⟨"ProcessHeaps$Memory", "countPages", "(I)I"⟩
abbrev Y_Me_countPages : ByteArray × String × Nat × Option FieldType × Bool × Room := (prog_6_method_2_code, "ProcessHeaps$Memory", 4, (some .int), false, { frames := 3, cells := 0, slots := 0, locals := 64 })
def yy_PH_collect : MethodName := ⟨"ProcessHeaps", "collect", "(I)I"⟩
abbrev Y_PH_collect : ByteArray × String × Nat × Option FieldType × Bool × Room := (prog_1_method_12_code, "ProcessHeaps", 2, (some .int), false, { frames := 7, cells := 0, slots := 0, locals := 175 })
def yy_PH_state : MethodName := ⟨"ProcessHeaps", "state", "(I)I"⟩
abbrev Y_PH_state : ByteArray × String × Nat × Option FieldType × Bool × Room := (prog_1_method_13_code, "ProcessHeaps", 2, (some .int), false, { frames := 1, cells := 0, slots := 0, locals := 21 })
def yy_PH_pages : MethodName := ⟨"ProcessHeaps", "pages", "(I)I"⟩
abbrev Y_PH_pages : ByteArray × String × Nat × Option FieldType × Bool × Room := (prog_1_method_14_code, "ProcessHeaps", 2, (some .int), false, { frames := 4, cells := 0, slots := 0, locals := 87 })
def yy_PH_objects : MethodName := ⟨"ProcessHeaps", "objects", "(I)I"⟩
abbrev Y_PH_objects : ByteArray × String × Nat × Option FieldType × Bool × Room := (prog_1_method_15_code, "ProcessHeaps", 2, (some .int), false, { frames := 4, cells := 0, slots := 0, locals := 87 })
def yy_Me_countObjects : MethodName := ⟨"ProcessHeaps$Memory", "countObjects", "(I)I"⟩
abbrev Y_Me_countObjects : ByteArray × String × Nat × Option FieldType × Bool × Room := (prog_6_method_4_code, "ProcessHeaps$Memory", 4, (some .int), false, { frames := 3, cells := 0, slots := 0, locals := 64 })
def yy_PH_items : MethodName := ⟨"ProcessHeaps", "items", "(I)I"⟩
abbrev Y_PH_items : ByteArray × String × Nat × Option FieldType × Bool × Room := (prog_1_method_16_code, "ProcessHeaps", 2, (some .int), false, { frames := 4, cells := 0, slots := 0, locals := 87 })
def yy_Me_countItems : MethodName := ⟨"ProcessHeaps$Memory", "countItems", "(I)I"⟩
abbrev Y_Me_countItems : ByteArray × String × Nat × Option FieldType × Bool × Room := (prog_6_method_5_code, "ProcessHeaps$Memory", 4, (some .int), false, { frames := 3, cells := 0, slots := 0, locals := 64 })
def yy_PH_use : MethodName := ⟨"ProcessHeaps", "use", "(I)I"⟩
abbrev Y_PH_use : ByteArray × String × Nat × Option FieldType × Bool × Room := (prog_1_method_17_code, "ProcessHeaps", 2, (some .int), false, { frames := 6, cells := 0, slots := 0, locals := 134 })
def yy_PH_room : MethodName := ⟨"ProcessHeaps", "room", "(I)I"⟩
abbrev Y_PH_room : ByteArray × String × Nat × Option FieldType × Bool × Room := (prog_1_method_18_code, "ProcessHeaps", 2, (some .int), false, { frames := 6, cells := 0, slots := 0, locals := 134 })
def yy_PH_shares : MethodName := ⟨"ProcessHeaps", "shares", "(II)Z"⟩
abbrev Y_PH_shares : ByteArray × String × Nat × Option FieldType × Bool × Room := (prog_1_method_19_code, "ProcessHeaps", 4, (some .boolean), false, { frames := 2, cells := 0, slots := 0, locals := 42 })
def yy_PH_where : MethodName := ⟨"ProcessHeaps", "where", "(II)I"⟩
abbrev Y_PH_where : ByteArray × String × Nat × Option FieldType × Bool × Room := (prog_1_method_20_code, "ProcessHeaps", 5, (some .int), false, { frames := 2, cells := 0, slots := 0, locals := 42 })
def yy_PH_tag : MethodName := ⟨"ProcessHeaps", "tag", "(II)I"⟩
abbrev Y_PH_tag : ByteArray × String × Nat × Option FieldType × Bool × Room := (prog_1_method_21_code, "ProcessHeaps", 5, (some .int), false, { frames := 2, cells := 0, slots := 0, locals := 42 })
def yy_La_cell : MethodName := ⟨"ProcessHeapsLaw", "cell", "([II)I"⟩
abbrev Y_La_cell : ByteArray × String × Nat × Option FieldType × Bool × Room := (method_2_code, "ProcessHeapsLaw", 2, (some .int), false, { frames := 0, cells := 0, slots := 0, locals := 0 })
def yy_Mo_init : MethodName := ⟨"ProcessHeapsModel", "<init>", "(I)V"⟩
abbrev Y_Mo_init : ByteArray × String × Nat × Option FieldType × Bool × Room := (prog_9_method_1_code, "ProcessHeapsModel", 2, none, true, { frames := 1, cells := 22, slots := 1568, locals := 20 })
def yy_Mo_spawn : MethodName := ⟨"ProcessHeapsModel", "spawn", "(IIZ)I"⟩
abbrev Y_Mo_spawn : ByteArray × String × Nat × Option FieldType × Bool × Room := (prog_9_method_17_code, "ProcessHeapsModel", 4, (some .int), false, { frames := 3, cells := 0, slots := 0, locals := 72 })
def yy_Mo_lives : MethodName := ⟨"ProcessHeapsModel", "lives", "(I)Z"⟩
abbrev Y_Mo_lives : ByteArray × String × Nat × Option FieldType × Bool × Room := (prog_9_method_2_code, "ProcessHeapsModel", 2, (some .boolean), false, { frames := 0, cells := 0, slots := 0, locals := 0 })
def yy_Mo_rest : MethodName := ⟨"ProcessHeapsModel", "rest", "(I)I"⟩
abbrev Y_Mo_rest : ByteArray × String × Nat × Option FieldType × Bool × Room := (prog_9_method_6_code, "ProcessHeapsModel", 5, (some .int), false, { frames := 2, cells := 0, slots := 0, locals := 48 })
def yy_Mo_work : MethodName := ⟨"ProcessHeapsModel", "work", "()V"⟩
abbrev Y_Mo_work : ByteArray × String × Nat × Option FieldType × Bool × Room := (prog_9_method_5_code, "ProcessHeapsModel", 6, none, false, { frames := 1, cells := 0, slots := 0, locals := 23 })
def yy_Mo_frozen : MethodName := ⟨"ProcessHeapsModel", "frozen", "(I)Z"⟩
abbrev Y_Mo_frozen : ByteArray × String × Nat × Option FieldType × Bool × Room := (prog_9_method_4_code, "ProcessHeapsModel", 2, (some .boolean), false, { frames := 0, cells := 0, slots := 0, locals := 0 })
def yy_Mo_pages : MethodName := ⟨"ProcessHeapsModel", "pages", "(I)I"⟩
abbrev Y_Mo_pages : ByteArray × String × Nat × Option FieldType × Bool × Room := (prog_9_method_31_code, "ProcessHeapsModel", 4, (some .int), false, { frames := 0, cells := 0, slots := 0, locals := 0 })
def yy_Mo_kill : MethodName := ⟨"ProcessHeapsModel", "kill", "(I)Z"⟩
abbrev Y_Mo_kill : ByteArray × String × Nat × Option FieldType × Bool × Room := (prog_9_method_18_code, "ProcessHeapsModel", 2, (some .boolean), false, { frames := 3, cells := 0, slots := 0, locals := 70 })
def yy_Mo_die : MethodName := ⟨"ProcessHeapsModel", "die", "(I)V"⟩
abbrev Y_Mo_die : ByteArray × String × Nat × Option FieldType × Bool × Room := (prog_9_method_16_code, "ProcessHeapsModel", 4, none, false, { frames := 2, cells := 0, slots := 0, locals := 47 })
def yy_Mo_names : MethodName := ⟨"ProcessHeapsModel", "names", "(II)Z"⟩
abbrev Y_Mo_names : ByteArray × String × Nat × Option FieldType × Bool × Room := (prog_9_method_8_code, "ProcessHeapsModel", 5, (some .boolean), false, { frames := 0, cells := 0, slots := 0, locals := 0 })
def yy_Mo_merge : MethodName := ⟨"ProcessHeapsModel", "merge", "(I)V"⟩
abbrev Y_Mo_merge : ByteArray × String × Nat × Option FieldType × Bool × Room := (prog_9_method_15_code, "ProcessHeapsModel", 5, none, false, { frames := 0, cells := 0, slots := 0, locals := 0 })
def yy_Mo_vanish : MethodName := ⟨"ProcessHeapsModel", "vanish", "()V"⟩
abbrev Y_Mo_vanish : ByteArray × String × Nat × Option FieldType × Bool × Room := (prog_9_method_14_code, "ProcessHeapsModel", 4, none, false, { frames := 1, cells := 0, slots := 0, locals := 24 })
def yy_Mo_free : MethodName := ⟨"ProcessHeapsModel", "free", "(I)V"⟩
abbrev Y_Mo_free : ByteArray × String × Nat × Option FieldType × Bool × Room := (prog_9_method_7_code, "ProcessHeapsModel", 5, none, false, { frames := 0, cells := 0, slots := 0, locals := 0 })
def yy_Mo_mode : MethodName := ⟨"ProcessHeapsModel", "mode", "(IZ)Z"⟩
abbrev Y_Mo_mode : ByteArray × String × Nat × Option FieldType × Bool × Room := (prog_9_method_19_code, "ProcessHeapsModel", 3, (some .boolean), false, { frames := 3, cells := 0, slots := 0, locals := 70 })
def yy_Mo_make : MethodName := ⟨"ProcessHeapsModel", "make", "(IIII)I"⟩
abbrev Y_Mo_make : ByteArray × String × Nat × Option FieldType × Bool × Room := (prog_9_method_22_code, "ProcessHeapsModel", 11, (some .int), false, { frames := 4, cells := 0, slots := 0, locals := 96 })
def yy_Mo_isRegister : MethodName := ⟨"ProcessHeapsModel", "isRegister", "(I)Z"⟩
abbrev Y_Mo_isRegister : ByteArray × String × Nat × Option FieldType × Bool × Room := (prog_9_method_3_code, "ProcessHeapsModel", 1, (some .boolean), false, { frames := 0, cells := 0, slots := 0, locals := 0 })
def yy_Mo_find : MethodName := ⟨"ProcessHeapsModel", "find", "(III)I"⟩
abbrev Y_Mo_find : ByteArray × String × Nat × Option FieldType × Bool × Room := (prog_9_method_21_code, "ProcessHeapsModel", 5, (some .int), false, { frames := 3, cells := 0, slots := 0, locals := 72 })
def yy_Mo_fitting : MethodName := ⟨"ProcessHeapsModel", "fitting", "(II)I"⟩
abbrev Y_Mo_fitting : ByteArray × String × Nat × Option FieldType × Bool × Room := (prog_9_method_20_code, "ProcessHeapsModel", 7, (some .int), false, { frames := 0, cells := 0, slots := 0, locals := 0 })
def yy_Mo_sweep : MethodName := ⟨"ProcessHeapsModel", "sweep", "(I)I"⟩
abbrev Y_Mo_sweep : ByteArray × String × Nat × Option FieldType × Bool × Room := (prog_9_method_13_code, "ProcessHeapsModel", 6, (some .int), false, { frames := 3, cells := 0, slots := 0, locals := 70 })
def yy_Mo_reach : MethodName := ⟨"ProcessHeapsModel", "reach", "(I)V"⟩
abbrev Y_Mo_reach : ByteArray × String × Nat × Option FieldType × Bool × Room := (prog_9_method_11_code, "ProcessHeapsModel", 6, none, false, { frames := 2, cells := 0, slots := 0, locals := 45 })
def yy_Mo_root : MethodName := ⟨"ProcessHeapsModel", "root", "(II)Z"⟩
abbrev Y_Mo_root : ByteArray × String × Nat × Option FieldType × Bool × Room := (prog_9_method_10_code, "ProcessHeapsModel", 5, (some .boolean), false, { frames := 1, cells := 0, slots := 0, locals := 21 })
def yy_Mo_inField : MethodName := ⟨"ProcessHeapsModel", "inField", "(II)Z"⟩
abbrev Y_Mo_inField : ByteArray × String × Nat × Option FieldType × Bool × Room := (prog_9_method_12_code, "ProcessHeapsModel", 5, (some .boolean), false, { frames := 0, cells := 0, slots := 0, locals := 0 })
def yy_Mo_holds : MethodName := ⟨"ProcessHeapsModel", "holds", "(II)Z"⟩
abbrev Y_Mo_holds : ByteArray × String × Nat × Option FieldType × Bool × Room := (prog_9_method_9_code, "ProcessHeapsModel", 6, (some .boolean), false, { frames := 0, cells := 0, slots := 0, locals := 0 })
def yy_Mo_store : MethodName := ⟨"ProcessHeapsModel", "store", "(IIII)I"⟩
abbrev Y_Mo_store : ByteArray × String × Nat × Option FieldType × Bool × Room := (prog_9_method_23_code, "ProcessHeapsModel", 10, (some .int), false, { frames := 1, cells := 0, slots := 0, locals := 21 })
def yy_Mo_load : MethodName := ⟨"ProcessHeapsModel", "load", "(IIII)I"⟩
abbrev Y_Mo_load : ByteArray × String × Nat × Option FieldType × Bool × Room := (prog_9_method_24_code, "ProcessHeapsModel", 8, (some .int), false, { frames := 1, cells := 0, slots := 0, locals := 21 })
def yy_Mo_move : MethodName := ⟨"ProcessHeapsModel", "move", "(III)Z"⟩
abbrev Y_Mo_move : ByteArray × String × Nat × Option FieldType × Bool × Room := (prog_9_method_25_code, "ProcessHeapsModel", 4, (some .boolean), false, { frames := 1, cells := 0, slots := 0, locals := 21 })
def yy_Mo_begin : MethodName := ⟨"ProcessHeapsModel", "begin", "(I)I"⟩
abbrev Y_Mo_begin : ByteArray × String × Nat × Option FieldType × Bool × Room := (prog_9_method_26_code, "ProcessHeapsModel", 3, (some .int), false, { frames := 1, cells := 0, slots := 0, locals := 21 })
def yy_Mo_freeze : MethodName := ⟨"ProcessHeapsModel", "freeze", "(II)I"⟩
abbrev Y_Mo_freeze : ByteArray × String × Nat × Option FieldType × Bool × Room := (prog_9_method_27_code, "ProcessHeapsModel", 5, (some .int), false, { frames := 1, cells := 0, slots := 0, locals := 21 })
def yy_Mo_lookup : MethodName := ⟨"ProcessHeapsModel", "lookup", "(III)I"⟩
abbrev Y_Mo_lookup : ByteArray × String × Nat × Option FieldType × Bool × Room := (prog_9_method_28_code, "ProcessHeapsModel", 5, (some .int), false, { frames := 4, cells := 0, slots := 0, locals := 95 })
def yy_Mo_collect : MethodName := ⟨"ProcessHeapsModel", "collect", "(I)I"⟩
abbrev Y_Mo_collect : ByteArray × String × Nat × Option FieldType × Bool × Room := (prog_9_method_29_code, "ProcessHeapsModel", 2, (some .int), false, { frames := 4, cells := 0, slots := 0, locals := 95 })
def yy_Mo_state : MethodName := ⟨"ProcessHeapsModel", "state", "(I)I"⟩
abbrev Y_Mo_state : ByteArray × String × Nat × Option FieldType × Bool × Room := (prog_9_method_30_code, "ProcessHeapsModel", 2, (some .int), false, { frames := 0, cells := 0, slots := 0, locals := 0 })
def yy_Mo_objects : MethodName := ⟨"ProcessHeapsModel", "objects", "(I)I"⟩
abbrev Y_Mo_objects : ByteArray × String × Nat × Option FieldType × Bool × Room := (prog_9_method_32_code, "ProcessHeapsModel", 4, (some .int), false, { frames := 0, cells := 0, slots := 0, locals := 0 })
def yy_Mo_items : MethodName := ⟨"ProcessHeapsModel", "items", "(I)I"⟩
abbrev Y_Mo_items : ByteArray × String × Nat × Option FieldType × Bool × Room := (prog_9_method_33_code, "ProcessHeapsModel", 4, (some .int), false, { frames := 0, cells := 0, slots := 0, locals := 0 })
def yy_Mo_use : MethodName := ⟨"ProcessHeapsModel", "use", "(I)I"⟩
abbrev Y_Mo_use : ByteArray × String × Nat × Option FieldType × Bool × Room := (prog_9_method_35_code, "ProcessHeapsModel", 2, (some .int), false, { frames := 3, cells := 0, slots := 0, locals := 69 })
def yy_Mo_exists : MethodName := ⟨"ProcessHeapsModel", "exists", "(I)Z"⟩
abbrev Y_Mo_exists : ByteArray × String × Nat × Option FieldType × Bool × Room := (prog_9_method_34_code, "ProcessHeapsModel", 2, (some .boolean), false, { frames := 2, cells := 0, slots := 0, locals := 48 })
def yy_Mo_room : MethodName := ⟨"ProcessHeapsModel", "room", "(I)I"⟩
abbrev Y_Mo_room : ByteArray × String × Nat × Option FieldType × Bool × Room := (prog_9_method_36_code, "ProcessHeapsModel", 2, (some .int), false, { frames := 3, cells := 0, slots := 0, locals := 72 })
def yy_Mo_shares : MethodName := ⟨"ProcessHeapsModel", "shares", "(II)Z"⟩
abbrev Y_Mo_shares : ByteArray × String × Nat × Option FieldType × Bool × Room := (prog_9_method_37_code, "ProcessHeapsModel", 3, (some .boolean), false, { frames := 1, cells := 0, slots := 0, locals := 21 })
def yy_Mo_where : MethodName := ⟨"ProcessHeapsModel", "where", "(II)I"⟩
abbrev Y_Mo_where : ByteArray × String × Nat × Option FieldType × Bool × Room := (prog_9_method_38_code, "ProcessHeapsModel", 4, (some .int), false, { frames := 1, cells := 0, slots := 0, locals := 21 })
def yy_Mo_tag : MethodName := ⟨"ProcessHeapsModel", "tag", "(II)I"⟩
abbrev Y_Mo_tag : ByteArray × String × Nat × Option FieldType × Bool × Room := (prog_9_method_39_code, "ProcessHeapsModel", 4, (some .int), false, { frames := 1, cells := 0, slots := 0, locals := 21 })
end
section
/-! THE TABLES' WORDS: which a call hands on, and which are handed on one by one -/
/-- the words of the tables that a call hands on -/
def mm_B : List Cond := lw_tbl.filter goodWord
/-- words of nest mates, casts, arrays over classes: they are handed on one by one -/
def mm_isN (w : Cond) : Bool := match w with
  | .fieldLinkNest .. => true
  | .methodLinkNest .. => true
  | .castable .. => true
  | .declares .. => true
  | .arrayOver (.object _) => true
  | _ => false
theorem mm_isN.moved {w : Cond} (hw : mm_isN w = true) {s U : State} (hW : s.WarmedH U.vm) (h : va_Nw w s) : va_Nw w U := by
  unfold mm_isN at hw
  split at hw
  · exact va_Nw.warmF hW h
  · exact va_Nw.warmM hW h
  · exact va_Nw.warmC hW h
  · exact va_Nw.warmD hW h
  · exact va_AO.moved hW.alike h
  · cases hw
/-- words of the tables -/
theorem mm_inB {w : Cond} (h : w ∈ lw_tbl) (hg : goodWord w = true) : w ∈ mm_B := List.mem_filter.mpr ⟨h, hg⟩
theorem mm_goodB {ws : List Cond} (h : ∀ w ∈ ws, w ∈ mm_B) : GoodIn mm_B ws := fun w hw => ⟨h w hw, good_of_word (List.mem_filter.mp (h w hw)).2⟩
end
section
/-! MEMORY: values, a memory of cells (kind, length, ints, references, the next address), and what it is for a heap to hold it. Kinds: 0 nothing; c + 1 an object of class c of vwCl; 100 + t an array of the type t of mm_ty (105: an array that is never written) -/
abbrev mm_V : Type := Int32 ⊕ Option Nat
def mm_v (x : mm_V) : Value := match x with
  | .inl n => .int n
  | .inr o => va_rf o
theorem mm_v_cat (x : mm_V) : (mm_v x).category = 1 := by
  rcases x with n | o
  · rfl
  · cases o <;> rfl
abbrev mm_M : Type := (Nat → Nat) × (Nat → Nat) × (Nat → Nat → Int32) × (Nat → Nat → Option Nat) × Nat
def mm_k (M : mm_M) (a : Nat) : Nat := M.1 a
def mm_l (M : mm_M) (a : Nat) : Nat := M.2.1 a
def mm_i (M : mm_M) (a j : Nat) : Int32 := M.2.2.1 a j
def mm_p (M : mm_M) (a j : Nat) : Option Nat := M.2.2.2.1 a j
def mm_z (M : mm_M) : Nat := M.2.2.2.2
def mm_si (M : mm_M) (a j : Nat) (x : Int32) : mm_M := (M.1, M.2.1, fun b k => if b = a ∧ k = j then x else M.2.2.1 b k, M.2.2.2.1, M.2.2.2.2)
def mm_sp (M : mm_M) (a j : Nat) (x : Option Nat) : mm_M := (M.1, M.2.1, M.2.2.1, fun b k => if b = a ∧ k = j then x else M.2.2.2.1 b k, M.2.2.2.2)
def mm_sf (M : mm_M) (a : Nat) (f : Nat → Option Nat) : mm_M := (M.1, M.2.1, M.2.2.1, fun b k => if b = a then f k else M.2.2.2.1 b k, M.2.2.2.2)
def mm_nw (M : mm_M) (kd n : Nat) : mm_M := (fun b => if b = M.2.2.2.2 then kd else M.1 b, fun b => if b = M.2.2.2.2 then n else M.2.1 b, fun b k => if b = M.2.2.2.2 then 0 else M.2.2.1 b k, fun b k => if b = M.2.2.2.2 then none else M.2.2.2.1 b k, M.2.2.2.2 + 1)
theorem mm_k_si (M : mm_M) (a j : Nat) (x : Int32) (b : Nat) : mm_k (mm_si M a j x) b = mm_k M b := rfl
theorem mm_l_si (M : mm_M) (a j : Nat) (x : Int32) (b : Nat) : mm_l (mm_si M a j x) b = mm_l M b := rfl
theorem mm_p_si (M : mm_M) (a j : Nat) (x : Int32) (b k : Nat) : mm_p (mm_si M a j x) b k = mm_p M b k := rfl
theorem mm_z_si (M : mm_M) (a j : Nat) (x : Int32) : mm_z (mm_si M a j x) = mm_z M := rfl
theorem mm_i_si (M : mm_M) (a j : Nat) (x : Int32) (b k : Nat) : mm_i (mm_si M a j x) b k = if b = a ∧ k = j then x else mm_i M b k := rfl
theorem mm_k_sp (M : mm_M) (a j : Nat) (x : Option Nat) (b : Nat) : mm_k (mm_sp M a j x) b = mm_k M b := rfl
theorem mm_l_sp (M : mm_M) (a j : Nat) (x : Option Nat) (b : Nat) : mm_l (mm_sp M a j x) b = mm_l M b := rfl
theorem mm_i_sp (M : mm_M) (a j : Nat) (x : Option Nat) (b k : Nat) : mm_i (mm_sp M a j x) b k = mm_i M b k := rfl
theorem mm_z_sp (M : mm_M) (a j : Nat) (x : Option Nat) : mm_z (mm_sp M a j x) = mm_z M := rfl
theorem mm_p_sp (M : mm_M) (a j : Nat) (x : Option Nat) (b k : Nat) : mm_p (mm_sp M a j x) b k = if b = a ∧ k = j then x else mm_p M b k := rfl
theorem mm_k_sf (M : mm_M) (a : Nat) (f : Nat → Option Nat) (b : Nat) : mm_k (mm_sf M a f) b = mm_k M b := rfl
theorem mm_l_sf (M : mm_M) (a : Nat) (f : Nat → Option Nat) (b : Nat) : mm_l (mm_sf M a f) b = mm_l M b := rfl
theorem mm_i_sf (M : mm_M) (a : Nat) (f : Nat → Option Nat) (b k : Nat) : mm_i (mm_sf M a f) b k = mm_i M b k := rfl
theorem mm_z_sf (M : mm_M) (a : Nat) (f : Nat → Option Nat) : mm_z (mm_sf M a f) = mm_z M := rfl
theorem mm_p_sf (M : mm_M) (a : Nat) (f : Nat → Option Nat) (b k : Nat) : mm_p (mm_sf M a f) b k = if b = a then f k else mm_p M b k := rfl
theorem mm_k_nw (M : mm_M) (kd n b : Nat) : mm_k (mm_nw M kd n) b = if b = mm_z M then kd else mm_k M b := rfl
theorem mm_l_nw (M : mm_M) (kd n b : Nat) : mm_l (mm_nw M kd n) b = if b = mm_z M then n else mm_l M b := rfl
theorem mm_i_nw (M : mm_M) (kd n b k : Nat) : mm_i (mm_nw M kd n) b k = if b = mm_z M then 0 else mm_i M b k := rfl
theorem mm_p_nw (M : mm_M) (kd n b k : Nat) : mm_p (mm_nw M kd n) b k = if b = mm_z M then none else mm_p M b k := rfl
theorem mm_z_nw (M : mm_M) (kd n : Nat) : mm_z (mm_nw M kd n) = mm_z M + 1 := rfl
/-- is a slot one of references? -/
def mm_rd (d : String) : Bool := !(decide (d = "I") || decide (d = "Z"))
def mm_rs (k j : Nat) : Bool := if k < 100 then (match vwCl[k - 1]? with | some r => mm_rd (r.2.1 j).2.2.1 | none => false) else decide (102 ≤ k)
def mm_c (M : mm_M) (a j : Nat) : Value := if mm_rs (mm_k M a) j = true then va_rf (mm_p M a j) else .int (mm_i M a j)
/-- the classes' numbers, the arrays' classes, the first address that may be written, the array that is never written, the class object of Object[] -/
abbrev mm_G : Type := va_G × (Nat → ClassId) × Nat × Nat × Nat
def mm_tys (E : Nat → ClassId) : List (ClassId × FieldType) := [(E 0, .int), (E 1, .boolean), (E 2, .object "java/lang/Object"), (E 3, .object "ProcessHeaps$HeapObject"), (E 4, .object "ProcessHeaps$HeapProcess"), (E 5, .object "java/lang/Object")]
def mm_at (G : mm_G) (M : mm_M) (H : Heap) (a : Nat) : Prop :=
  (mm_k M a < 100 ∧ G.2.2.1 ≤ a ∧ ∃ r : vw_C, vwCl[mm_k M a - 1]? = some r ∧ mm_l M a = r.2.2 ∧ t_OB a (G.1.1 (mm_k M a - 1)) r.2.2 (G.1.2 (mm_k M a - 1)) H (mm_c M a)) ∨
  (100 ≤ mm_k M a ∧ mm_k M a < 106 ∧ (mm_k M a ≠ 105 → G.2.2.1 ≤ a) ∧ H[a]? = some (arrV (G.2.1 (mm_k M a - 100)) (mm_l M a) (mm_c M a)))
def mm_H (G : mm_G) (M : mm_M) (H : Heap) : Prop := H.size = mm_z M ∧ ∀ a, mm_k M a ≠ 0 → mm_at G M H a
/-- what a later memory keeps of an earlier one -/
def mm_X (M0 M : mm_M) : Prop := mm_z M0 ≤ mm_z M ∧ (∀ a, mm_k M0 a ≠ 0 → mm_k M a = mm_k M0 a ∧ mm_l M a = mm_l M0 a) ∧ ∀ a, mm_k M a ≠ 0 → mm_k M0 a ≠ 0 ∨ mm_z M0 ≤ a
theorem mm_X.rf (M : mm_M) : mm_X M M := ⟨Nat.le_refl _, fun _ _ => ⟨rfl, rfl⟩, fun _ h => Or.inl h⟩
theorem mm_X.tr {M0 M1 M2 : mm_M} (h1 : mm_X M0 M1) (h2 : mm_X M1 M2) : mm_X M0 M2 := by
  refine ⟨Nat.le_trans h1.1 h2.1, fun a h => ?_, fun a h => ?_⟩
  · have e1 := h1.2.1 a h
    have e2 := h2.2.1 a (by rw [e1.1]; exact h)
    exact ⟨e2.1.trans e1.1, e2.2.trans e1.2⟩
  · rcases h2.2.2 a h with h3 | h3
    · exact h1.2.2 a h3
    · exact Or.inr (Nat.le_trans h1.1 h3)
def mm_A (G : mm_G) (M0 : mm_M) : Nat → Prop := fun q => G.2.2.1 ≤ q ∧ (mm_k M0 q ≠ 0 ∨ mm_z M0 ≤ q)
theorem mm_A.of {G : mm_G} {M0 M : mm_M} (h : mm_X M0 M) {q : Nat} (hq : mm_A G M q) : mm_A G M0 q := by
  refine ⟨hq.1, ?_⟩
  rcases hq.2 with h1 | h1
  · exact h.2.2 q h1
  · exact Or.inr (Nat.le_trans h.1 h1)
theorem mm_at.lt {G : mm_G} {M : mm_M} {H : Heap} {a : Nat} (h : mm_at G M H a) : a < H.size := by
  rcases h with ⟨-, -, r, -, -, cell, h1, -⟩ | ⟨-, -, -, h1⟩
  · exact (Array.getElem?_eq_some_iff.mp h1).1
  · exact (Array.getElem?_eq_some_iff.mp h1).1
theorem mm_at.same {G : mm_G} {M M1 : mm_M} {H H1 : Heap} {a : Nat} (h : mm_at G M H a) (hq : H1[a]? = H[a]?) (hk : mm_k M1 a = mm_k M a) (hl : mm_l M1 a = mm_l M a) (hi : ∀ j, mm_i M1 a j = mm_i M a j) (hp : ∀ j, mm_p M1 a j = mm_p M a j) : mm_at G M1 H1 a := by
  have hc : mm_c M1 a = mm_c M a := by
    funext j
    unfold mm_c
    rw [hk, hi, hp]
  unfold mm_at
  rw [hk, hl, hc]
  rcases h with ⟨h1, h2, r, h3, h4, h5⟩ | ⟨h1, h2, h3, h4⟩
  · exact Or.inl ⟨h1, h2, r, h3, h4, h5.kept hq⟩
  · exact Or.inr ⟨h1, h2, h3, by rw [hq]; exact h4⟩
/-- one cell is written -/
theorem mm_H.put {G : mm_G} {M M1 : mm_M} {H H1 : Heap} {a : Nat} (h : mm_H G M H) (hz : H1.size = H.size) (oq : ∀ q : Nat, q ≠ a → H1[q]? = H[q]?) (e0 : mm_z M1 = mm_z M) (e1 : ∀ b, mm_k M1 b = mm_k M b) (e2 : ∀ b, mm_l M1 b = mm_l M b) (e3 : ∀ b, b ≠ a → ∀ j, mm_i M1 b j = mm_i M b j) (e4 : ∀ b, b ≠ a → ∀ j, mm_p M1 b j = mm_p M b j) (ha : mm_at G M1 H1 a) : mm_H G M1 H1 := by
  refine ⟨by rw [hz, h.1, e0], fun b hb => ?_⟩
  by_cases hba : b = a
  · subst hba
    exact ha
  · exact (h.2 b (by rw [← e1]; exact hb)).same (oq b hba) (e1 b) (e2 b) (e3 b hba) (e4 b hba)
/-- a cell is made -/
theorem mm_H.new {G : mm_G} {M : mm_M} {H H1 : Heap} {kd n : Nat} (h : mm_H G M H) (hz : H1.size = H.size + 1) (oq : ∀ q : Nat, q < H.size → H1[q]? = H[q]?) (ha : mm_at G (mm_nw M kd n) H1 (mm_z M)) : mm_H G (mm_nw M kd n) H1 := by
  refine ⟨by rw [hz, h.1]; rfl, fun b hb => ?_⟩
  by_cases hba : b = mm_z M
  · subst hba
    exact ha
  · have hb' : mm_k M b ≠ 0 := by
      rw [mm_k_nw, if_neg hba] at hb
      exact hb
    have hat := h.2 b hb'
    exact hat.same (oq b hat.lt) (by rw [mm_k_nw, if_neg hba]) (by rw [mm_l_nw, if_neg hba]) (fun j => by rw [mm_i_nw, if_neg hba]) (fun j => by rw [mm_p_nw, if_neg hba])
theorem mm_X.si {M0 M : mm_M} {a j : Nat} {x : Int32} (h : mm_X M0 M) : mm_X M0 (mm_si M a j x) := h
theorem mm_X.sp {M0 M : mm_M} {a j : Nat} {x : Option Nat} (h : mm_X M0 M) : mm_X M0 (mm_sp M a j x) := h
theorem mm_X.sf {M0 M : mm_M} {a : Nat} {f : Nat → Option Nat} (h : mm_X M0 M) : mm_X M0 (mm_sf M a f) := h
theorem mm_fresh {G : mm_G} {M : mm_M} {H : Heap} (h : mm_H G M H) {a : Nat} (ha : mm_k M a ≠ 0) : a < mm_z M := by
  rw [← h.1]
  exact (h.2 a ha).lt
theorem mm_X.nw {G : mm_G} {M0 M : mm_M} {H : Heap} (hH : mm_H G M H) {kd n : Nat} (h : mm_X M0 M) : mm_X M0 (mm_nw M kd n) := by
  have h2 : mm_X M (mm_nw M kd n) := by
    refine ⟨Nat.le_succ _, fun a ha => ?_, fun a ha => ?_⟩
    · have hne : a ≠ mm_z M := Nat.ne_of_lt (mm_fresh hH ha)
      exact ⟨by rw [mm_k_nw, if_neg hne], by rw [mm_l_nw, if_neg hne]⟩
    · by_cases he : a = mm_z M
      · exact Or.inr (Nat.le_of_eq he.symm)
      · rw [mm_k_nw, if_neg he] at ha
        exact Or.inl ha
  exact h.tr h2
/-- locals: what is known of each -/
def mm_ps : Nat → List (Option mm_V) → List (Nat × Value)
  | _, [] => []
  | i, none :: t => mm_ps (i + 1) t
  | i, some v :: t => (i, mm_v v) :: mm_ps (i + 1) t
theorem mm_ps_mem : ∀ (ls : List (Option mm_V)) (i : Nat) (q : Nat × Value), q ∈ mm_ps i ls ↔ ∃ (j : Nat) (v : mm_V), ls[j]? = some (some v) ∧ q = (i + j, mm_v v)
  | [], i, q => by
    constructor
    · intro h
      cases h
    · rintro ⟨j, v, h, -⟩
      simp at h
  | none :: t, i, q => by
    show q ∈ mm_ps (i + 1) t ↔ _
    rw [mm_ps_mem t (i + 1) q]
    constructor
    · rintro ⟨j, v, h, e⟩
      exact ⟨j + 1, v, h, by rw [e]; congr 1; omega⟩
    · rintro ⟨j, v, h, e⟩
      cases j with
      | zero => simp at h
      | succ j => exact ⟨j, v, h, by rw [e]; congr 1; omega⟩
  | some w :: t, i, q => by
    show q ∈ (i, mm_v w) :: mm_ps (i + 1) t ↔ _
    rw [List.mem_cons, mm_ps_mem t (i + 1) q]
    constructor
    · rintro (h | ⟨j, v, h, e⟩)
      · exact ⟨0, w, rfl, h⟩
      · exact ⟨j + 1, v, h, by rw [e]; congr 1; omega⟩
    · rintro ⟨j, v, h, e⟩
      cases j with
      | zero =>
        simp at h
        subst h
        exact Or.inl e
      | succ j => exact Or.inr ⟨j, v, h, by rw [e]; congr 1; omega⟩
abbrev mm_L (la : Array Slot) (nL : Nat) (ls : List (Option mm_V)) : Prop := lv_has la nL (mm_ps 0 ls)
theorem mm_L.at {la : Array Slot} {nL : Nat} {ls : List (Option mm_V)} (h : mm_L la nL ls) {i : Nat} {v : mm_V} (hi : ls[i]? = some (some v)) : la[i]? = some (.val (mm_v v)) :=
  h.2.2 (i, mm_v v) ((mm_ps_mem ls 0 _).mpr ⟨i, v, hi, by rw [Nat.zero_add]⟩)
theorem mm_L.less {la : Array Slot} {nL : Nat} {ls ls' : List (Option mm_V)} (h : mm_L la nL ls) (hs : ∀ (i : Nat) (v : mm_V), ls'[i]? = some (some v) → ls[i]? = some (some v)) : mm_L la nL ls' := by
  refine ⟨h.1, h.2.1, fun q hq => ?_⟩
  obtain ⟨j, v, hj, e⟩ := (mm_ps_mem ls' 0 q).mp hq
  rw [e, Nat.zero_add]
  exact h.at (hs j v hj)
theorem mm_L.store {la : Array Slot} {nL i : Nat} {ls : List (Option mm_V)} {v : mm_V} (h : lv_has la nL ((i, mm_v v) :: (mm_ps 0 ls).filter (fun q => !(q.1 == i) && !(q.1 + 1 == i && q.2.category == 2)))) : mm_L la nL (ls.set i (some v)) := by
  refine ⟨h.1, h.2.1, fun q hq => ?_⟩
  obtain ⟨j, w, hj, e⟩ := (mm_ps_mem _ 0 q).mp hq
  rw [Nat.zero_add] at e
  by_cases hji : i = j
  · subst hji
    rw [List.getElem?_set] at hj
    by_cases hlt : i < ls.length
    · rw [if_pos rfl, if_pos hlt] at hj
      have hw : v = w := by simpa using hj
      subst hw
      rw [e]
      exact h.2.2 _ List.mem_cons_self
    · rw [if_pos rfl, if_neg hlt] at hj
      cases hj
  · rw [List.getElem?_set_ne hji] at hj
    refine h.2.2 q (List.mem_cons_of_mem _ (List.mem_filter.mpr ⟨(mm_ps_mem ls 0 q).mpr ⟨j, w, hj, by rw [e, Nat.zero_add]⟩, ?_⟩))
    rw [e]
    simp [mm_v_cat, Ne.symm hji]
theorem mm_L.entry (vs : List mm_V) {n : Nat} (h : vs.length ≤ n) : mm_L ((lg_sl (vs.map mm_v) ++ List.replicate (n - (lg_sl (vs.map mm_v)).length) Slot.unset).toArray) n (vs.map some) := by
  have e1 : ∀ vs : List mm_V, (lg_sl (vs.map mm_v)).length = vs.length := by
    intro vs
    induction vs with
    | nil => rfl
    | cons v t ih =>
      have hc := mm_v_cat v
      simp only [lg_sl, List.map_cons, List.flatMap_cons, List.length_append, List.length_cons] at ih ⊢
      rw [ih, hc]
      simp
      omega
  have e2 : ∀ (vs : List mm_V) (i : Nat), lv_args i (vs.map mm_v) = mm_ps i (vs.map some) := by
    intro vs
    induction vs with
    | nil => intro i; rfl
    | cons v t ih =>
      intro i
      show (i, mm_v v) :: lv_args (if (mm_v v).category = 2 then i + 2 else i + 1) (t.map mm_v) = (i, mm_v v) :: mm_ps (i + 1) (t.map some)
      rw [mm_v_cat, if_neg (by decide), ih]
  have h1 := lv_entry (vs.map mm_v) (n := n) (by rw [e1]; exact h)
  rw [e2] at h1
  exact h1
end
section
/-! JUDGEMENT: a method's run over the memory (mm_Z), a method's contract (mm_Ok), the entry, the frame -/
abbrev mm_Em (G : mm_G) (s : State) (H : Heap) : Prop := va_Z "java/util/ArrayList" "DEFAULTCAPACITY_EMPTY_ELEMENTDATA" "[Ljava/lang/Object;" (.ref G.2.2.2.1) (fun q => G.2.2.1 ≤ q) s H ∧ va_Mi "[Ljava/lang/Object;" G.2.2.2.2 s
def mm_Cx (G : mm_G) (s : State) : Prop := va_K G.1 vwCl (mm_tys G.2.1) s ∧ mm_Em G s s.heap ∧ (∀ w ∈ lw_tbl.filter mm_isN, va_Nw w s) ∧ G.2.2.1 ≤ s.heap.size
/-- a method: its code, its class, its locals, what it returns, whether it is a constructor, its room -/
abbrev mm_Y : Type := ByteArray × String × Nat × Option FieldType × Bool × Room
def mm_J (G : mm_G) (Y : mm_Y) (Ex : State → Array Value → Prop) (M0 : mm_M) (p : Program) (s : State) (m : MethodId) (args : Array Value) (meth : Method) (c : Code) : Prop :=
  p.tables.exec = Jvm.exec ∧ c.code = Y.1 ∧ c.maxLocals = Y.2.2.1 ∧ meth.sig.returnType = Y.2.2.2.1 ∧ meth.locks = false ∧ (Y.2.2.2.2.1 = true → meth.name = "<init>") ∧ s.vm.findClass Y.2.1 = some m.cls ∧ (∀ w ∈ mm_B, w.before args s = true) ∧ mm_Cx G s ∧ s.heap.size = mm_z M0 ∧ Ex s args
def mm_T (G : mm_G) (M0 M : mm_M) (s : State) (H : Heap) (locs : List Loc) : Prop := mm_H G M H ∧ va_S (mm_A G M0) s.heap H locs ∧ mm_X M0 M
def mm_Q (G : mm_G) (K : Option mm_V → mm_M → Prop) (M0 : mm_M) : Array Value → State → Outcome → State → Prop := fun _ st oc t =>
  ∃ (r : Option mm_V) (M1 : mm_M), oc = .returned (r.map mm_v) ∧ mm_H G M1 t.heap ∧ mm_X M0 M1 ∧ K r M1 ∧ va_F (mm_A G M0) st t
def mm_Zq (l : Launch) (G : mm_G) (Y : mm_Y) (Ex : State → Array Value → Prop) (Qf : List Frame → Array Value → State → State → Prop) (M0 : mm_M) (bc bs pc : Nat) (ls : List (Option mm_V)) (st : List mm_V) (M : mm_M) : Prop :=
  ∀ (p : Program) (e : Env) (s : State) (m : MethodId) (args : Array Value) (below : List Frame) (meth : Method) (c : Code) (H : Heap) (locs : List Loc) (cells slots : Nat) (la : Array Slot),
    mm_J G Y Ex M0 p s m args meth c → mm_T G M0 M s H locs → mm_L la Y.2.2.1 ls → cells + bc ≤ Y.2.2.2.2.2.cells → slots + bs ≤ Y.2.2.2.2.2.slots →
    W p l e Y.2.2.2.2.2 s m args below meth c H locs cells slots (Qf below args s) (F0 m pc la (st.map mm_v))
abbrev mm_Qf (G : mm_G) (Y : mm_Y) (K : Option mm_V → mm_M → Prop) (M0 : mm_M) : List Frame → Array Value → State → State → Prop := fun below args s => MQ below (mm_Q G K M0) args s Y.2.2.2.2.2.cells Y.2.2.2.2.2.slots (mm_A G M0)
abbrev mm_Tt : State → Array Value → Prop := fun _ _ => True
abbrev mm_Z (l : Launch) (G : mm_G) (Y : mm_Y) (K : Option mm_V → mm_M → Prop) (M0 : mm_M) (bc bs pc : Nat) (ls : List (Option mm_V)) (st : List mm_V) (M : mm_M) : Prop := mm_Zq l G Y mm_Tt (mm_Qf G Y K M0) M0 bc bs pc ls st M
abbrev mm_ws (y : MethodName) (Y : mm_Y) : List Cond := Cond.code y Y.1 Y.2.2.1 Y.2.2.2.1 :: mm_B
def mm_Ok (l : Launch) (G : mm_G) (y : MethodName) (Y : mm_Y) (vs : List mm_V) (M : mm_M) (K : Option mm_V → mm_M → Prop) : Prop :=
  Met l y (mm_ws y Y) Y.2.2.2.2.2 (va_Pc (vs.map mm_v) (fun U => mm_Cx G U ∧ mm_H G M U.heap)) (mm_Q G K M) Y.2.2.2.2.2.cells Y.2.2.2.2.2.slots (mm_A G M)
section MM
variable {l : Launch} {G : mm_G} {Y : mm_Y} {K : Option mm_V → mm_M → Prop} {Ex : State → Array Value → Prop} {Qf : List Frame → Array Value → State → State → Prop} {M0 M : mm_M} {bc bs pc : Nat} {ls ls' : List (Option mm_V)} {st : List mm_V}
/-- the entry -/
theorem mm_go {y : MethodName} {vs : List mm_V} (hy : plainName y.cls = true) (hcls : y.cls = Y.2.1) (hini : Y.2.2.2.2.1 = true → y.name = "<init>") (hlen : vs.length ≤ Y.2.2.1)
    (h : mm_Z l G Y K M Y.2.2.2.2.2.cells Y.2.2.2.2.2.slots 0 (vs.map some ++ List.replicate (Y.2.2.1 - vs.length) none) [] M) : mm_Ok l G y Y vs M K := by
  refine Met.ofW (cc := Y.1) (maxL := Y.2.2.1) (ret := Y.2.2.2.1) hy rfl ?_
  intro p e s m args below meth c s₁ B hml hv
  obtain ⟨rfl, hCx, hH⟩ := hv
  have hts := atoms_spec (ws := mm_ws y Y) B.pre
  have hown : s.vm.findClass Y.2.1 = some m.cls := hcls ▸ findClass_of_methodNamed B.named
  rw [lg_entry_eq]
  have hl := mm_L.entry vs (n := Y.2.2.1) hlen
  generalize (lg_sl (vs.map mm_v) ++ List.replicate (Y.2.2.1 - (lg_sl (vs.map mm_v)).length) Slot.unset).toArray = la at hl ⊢
  have hl2 : mm_L la Y.2.2.1 (vs.map some ++ List.replicate (Y.2.2.1 - vs.length) none) := hl.less (fun i v hi => by
    by_cases hlt : i < vs.length
    · rw [List.getElem?_append_left (by simpa using hlt)] at hi
      exact hi
    · rw [List.getElem?_append_right (by simpa using hlt), List.getElem?_replicate] at hi
      split at hi <;> simp at hi)
  refine h p e s m _ below meth c s.heap [] 0 0 la ⟨B.exec, B.bytes, hml, B.returns, B.notSynchronized, fun q => ?_, hown, fun w hw => hts w (List.mem_cons_of_mem _ hw), hCx, hH.1, trivial⟩ ⟨hH, va_S.rf, mm_X.rf M⟩ hl2 (by rw [Nat.zero_add]; exact Nat.le_refl _) (by rw [Nat.zero_add]; exact Nat.le_refl _)
  rw [(name_of_methodNamed B.named B.method).1]
  exact hini q
/-- a weaker end -/
theorem mm_Ok.mono {y : MethodName} {vs : List mm_V} {K' : Option mm_V → mm_M → Prop} (h : mm_Ok l G y Y vs M K) (hk : ∀ r M1, K r M1 → K' r M1) : mm_Ok l G y Y vs M K' := by
  intro p e h1 h2 h3 s m args below hf ha hP hK
  obtain ⟨n, o, q1, q2, q3, ⟨r, M1, c1, c2, c3, c4, c5⟩, q5⟩ := h p e h1 h2 h3 s m args below hf ha hP hK
  exact ⟨n, o, q1, q2, q3, ⟨r, M1, c1, c2, c3, hk r M1 c4, c5⟩, q5⟩
theorem mm_Z.mono {K' : Option mm_V → mm_M → Prop} (h : mm_Z l G Y K M0 bc bs pc ls st M) (hk : ∀ r M1, K r M1 → K' r M1) : mm_Z l G Y K' M0 bc bs pc ls st M := by
  intro p e s m args below meth c H locs cells slots la hJ hT hL hc hs T hT0 X
  obtain ⟨t, a, o, b1, b2, ⟨r, M1, c1, c2, c3, c4, c5⟩, b4⟩ := h p e s m args below meth c H locs cells slots la hJ hT hL hc hs T hT0 X
  exact ⟨t, a, o, b1, b2, ⟨r, M1, c1, c2, c3, hk r M1 c4, c5⟩, b4⟩
/-- less room is asked -/
theorem mm_less {bc' bs' : Nat} (h1 : bc' ≤ bc) (h2 : bs' ≤ bs) (h : mm_Zq l G Y Ex Qf M0 bc' bs' pc ls st M) : mm_Zq l G Y Ex Qf M0 bc bs pc ls st M :=
  fun p e s m args below meth c H locs cells slots la hJ hT hL hc hs => h p e s m args below meth c H locs cells slots la hJ hT hL (Nat.le_trans (Nat.add_le_add_left h1 _) hc) (Nat.le_trans (Nat.add_le_add_left h2 _) hs)
/-- fewer locals are known -/
theorem mm_fg (hs : ∀ (i : Nat) (v : mm_V), ls'[i]? = some (some v) → ls[i]? = some (some v)) (h : mm_Zq l G Y Ex Qf M0 bc bs pc ls' st M) : mm_Zq l G Y Ex Qf M0 bc bs pc ls st M :=
  fun p e s m args below meth c H locs cells slots la hJ hT hL hc hs' => h p e s m args below meth c H locs cells slots la hJ hT (hL.less hs) hc hs'
end MM
end
section
/-! ROWS: an instruction, a row -/
section RW1
variable {l : Launch} {G : mm_G} {Y : mm_Y} {K : Option mm_V → mm_M → Prop} {Ex : State → Array Value → Prop} {Qf : List Frame → Array Value → State → State → Prop} {M0 M : mm_M} {bc bs pc : Nat} {ls : List (Option mm_V)} {st : List mm_V}
-- constants
theorem mr_iconst {n : Int} (v : Int32) (hd : decode Y.1 pc = .ok (.iconst n, 1)) (hv : Int32.ofInt n = v) (k : mm_Zq l G Y Ex Qf M0 bc bs (pc + 1) ls (.inl v :: st) M) : mm_Zq l G Y Ex Qf M0 bc bs pc ls st M :=
  fun p e s m args below meth c H locs cells slots la hJ hT hL hc hs => lv_iconst hJ.1 hJ.2.1 hd hv (k p e s m args below meth c H locs cells slots la hJ hT hL hc hs)
theorem mr_bipush {n : Int} (v : Int32) (hd : decode Y.1 pc = .ok (.bipush n, 2)) (hv : (Int8.ofInt n).toInt32 = v) (k : mm_Zq l G Y Ex Qf M0 bc bs (pc + 2) ls (.inl v :: st) M) : mm_Zq l G Y Ex Qf M0 bc bs pc ls st M :=
  fun p e s m args below meth c H locs cells slots la hJ hT hL hc hs => lv_bipush hJ.1 hJ.2.1 hd hv (k p e s m args below meth c H locs cells slots la hJ hT hL hc hs)
theorem mr_sipush {n : Int} (v : Int32) (hd : decode Y.1 pc = .ok (.sipush n, 3)) (hv : (Int16.ofInt n).toInt32 = v) (k : mm_Zq l G Y Ex Qf M0 bc bs (pc + 3) ls (.inl v :: st) M) : mm_Zq l G Y Ex Qf M0 bc bs pc ls st M :=
  fun p e s m args below meth c H locs cells slots la hJ hT hL hc hs => lv_sipush hJ.1 hJ.2.1 hd hv (k p e s m args below meth c H locs cells slots la hJ hT hL hc hs)
theorem mr_null (hd : decode Y.1 pc = .ok (.aconst_null, 1)) (k : mm_Zq l G Y Ex Qf M0 bc bs (pc + 1) ls (.inr none :: st) M) : mm_Zq l G Y Ex Qf M0 bc bs pc ls st M :=
  fun p e s m args below meth c H locs cells slots la hJ hT hL hc hs => lv_null hJ.1 hJ.2.1 hd (k p e s m args below meth c H locs cells slots la hJ hT hL hc hs)
-- locals
theorem mr_iload_n {i : Fin 4} {x : Int32} (hd : decode Y.1 pc = .ok (.iload_n i, 1)) (hi : ls[(i : Nat)]? = some (some (.inl x))) (k : mm_Zq l G Y Ex Qf M0 bc bs (pc + 1) ls (.inl x :: st) M) : mm_Zq l G Y Ex Qf M0 bc bs pc ls st M :=
  fun p e s m args below meth c H locs cells slots la hJ hT hL hc hs => lv_iload_n hJ.1 hJ.2.1 hd rfl (hL.at hi) (k p e s m args below meth c H locs cells slots la hJ hT hL hc hs)
theorem mr_iload {i : Nat} {x : Int32} (hd : decode Y.1 pc = .ok (.iload i, 2)) (hi : ls[i]? = some (some (.inl x))) (k : mm_Zq l G Y Ex Qf M0 bc bs (pc + 2) ls (.inl x :: st) M) : mm_Zq l G Y Ex Qf M0 bc bs pc ls st M :=
  fun p e s m args below meth c H locs cells slots la hJ hT hL hc hs => lv_iload hJ.1 hJ.2.1 hd (hL.at hi) (k p e s m args below meth c H locs cells slots la hJ hT hL hc hs)
theorem mr_aload_n {i : Fin 4} {x : Option Nat} (hd : decode Y.1 pc = .ok (.aload_n i, 1)) (hi : ls[(i : Nat)]? = some (some (.inr x))) (k : mm_Zq l G Y Ex Qf M0 bc bs (pc + 1) ls (.inr x :: st) M) : mm_Zq l G Y Ex Qf M0 bc bs pc ls st M := by
  intro p e s m args below meth c H locs cells slots la hJ hT hL hc hs
  have k1 := k p e s m args below meth c H locs cells slots la hJ hT hL hc hs
  have h1 := hL.at hi
  cases x with
  | none => exact lv_aload_nN hJ.1 hJ.2.1 hd rfl h1 k1
  | some a => exact lv_aload_n hJ.1 hJ.2.1 hd rfl h1 k1
theorem mr_aload {i : Nat} {x : Option Nat} (hd : decode Y.1 pc = .ok (.aload i, 2)) (hi : ls[i]? = some (some (.inr x))) (k : mm_Zq l G Y Ex Qf M0 bc bs (pc + 2) ls (.inr x :: st) M) : mm_Zq l G Y Ex Qf M0 bc bs pc ls st M := by
  intro p e s m args below meth c H locs cells slots la hJ hT hL hc hs
  have k1 := k p e s m args below meth c H locs cells slots la hJ hT hL hc hs
  have h1 := hL.at hi
  cases x with
  | none => exact lv_aloadN hJ.1 hJ.2.1 hd h1 k1
  | some a => exact lv_aload hJ.1 hJ.2.1 hd h1 k1
theorem mr_istore_n {i : Fin 4} {x : Int32} (hd : decode Y.1 pc = .ok (.istore_n i, 1)) (hn : (i : Nat) < Y.2.2.1) (k : mm_Zq l G Y Ex Qf M0 bc bs (pc + 1) (ls.set i (some (.inl x))) st M) : mm_Zq l G Y Ex Qf M0 bc bs pc ls (.inl x :: st) M :=
  fun p e s m args below meth c H locs cells slots la hJ hT hL hc hs => lv_istore_n hJ.1 hJ.2.1 hd rfl hL hn rfl (fun la' hL' => k p e s m args below meth c H locs cells slots la' hJ hT (mm_L.store (v := .inl x) hL') hc hs)
theorem mr_istore {i : Nat} {x : Int32} (hd : decode Y.1 pc = .ok (.istore i, 2)) (hn : i < Y.2.2.1) (k : mm_Zq l G Y Ex Qf M0 bc bs (pc + 2) (ls.set i (some (.inl x))) st M) : mm_Zq l G Y Ex Qf M0 bc bs pc ls (.inl x :: st) M :=
  fun p e s m args below meth c H locs cells slots la hJ hT hL hc hs => lv_istore hJ.1 hJ.2.1 hd hL hn rfl (fun la' hL' => k p e s m args below meth c H locs cells slots la' hJ hT (mm_L.store (v := .inl x) hL') hc hs)
theorem mr_astore_n {i : Fin 4} {x : Option Nat} (hd : decode Y.1 pc = .ok (.astore_n i, 1)) (hn : (i : Nat) < Y.2.2.1) (k : mm_Zq l G Y Ex Qf M0 bc bs (pc + 1) (ls.set i (some (.inr x))) st M) : mm_Zq l G Y Ex Qf M0 bc bs pc ls (.inr x :: st) M := by
  intro p e s m args below meth c H locs cells slots la hJ hT hL hc hs
  cases x with
  | none => exact lv_astore_nN hJ.1 hJ.2.1 hd rfl hL hn rfl (fun la' hL' => k p e s m args below meth c H locs cells slots la' hJ hT (mm_L.store (v := .inr none) hL') hc hs)
  | some a => exact lv_astore_n hJ.1 hJ.2.1 hd rfl hL hn rfl (fun la' hL' => k p e s m args below meth c H locs cells slots la' hJ hT (mm_L.store (v := .inr (some a)) hL') hc hs)
theorem mr_astore {i : Nat} {x : Option Nat} (hd : decode Y.1 pc = .ok (.astore i, 2)) (hn : i < Y.2.2.1) (k : mm_Zq l G Y Ex Qf M0 bc bs (pc + 2) (ls.set i (some (.inr x))) st M) : mm_Zq l G Y Ex Qf M0 bc bs pc ls (.inr x :: st) M := by
  intro p e s m args below meth c H locs cells slots la hJ hT hL hc hs
  cases x with
  | none => exact lv_astoreN hJ.1 hJ.2.1 hd hL hn rfl (fun la' hL' => k p e s m args below meth c H locs cells slots la' hJ hT (mm_L.store (v := .inr none) hL') hc hs)
  | some a => exact lv_astore hJ.1 hJ.2.1 hd hL hn rfl (fun la' hL' => k p e s m args below meth c H locs cells slots la' hJ hT (mm_L.store (v := .inr (some a)) hL') hc hs)
theorem mr_iinc {i : Nat} {n : Int} {x : Int32} (d : Int32) (hd : decode Y.1 pc = .ok (.iinc i n, 3)) (hi : ls[i]? = some (some (.inl x))) (hn : i < Y.2.2.1) (he : Int32.ofInt n = d) (k : mm_Zq l G Y Ex Qf M0 bc bs (pc + 3) (ls.set i (some (.inl (x + d)))) st M) : mm_Zq l G Y Ex Qf M0 bc bs pc ls st M := by
  intro p e s m args below meth c H locs cells slots la hJ hT hL hc hs
  subst he
  have h1 := hL.at hi
  have hm : (i, Value.int x) ∈ mm_ps 0 ls := (mm_ps_mem ls 0 _).mpr ⟨i, .inl x, hi, by rw [Nat.zero_add]; rfl⟩
  obtain ⟨kk, hkk⟩ := List.getElem?_of_mem hm
  exact lv_iinc hJ.1 hJ.2.1 hd hL hkk rfl hn rfl (fun la' hL' => k p e s m args below meth c H locs cells slots la' hJ hT (mm_L.store (v := .inl (x + Int32.ofInt n)) hL') hc hs)
-- the stack
theorem mr_dup {x : mm_V} (hd : decode Y.1 pc = .ok (.dup, 1)) (k : mm_Zq l G Y Ex Qf M0 bc bs (pc + 1) ls (x :: x :: st) M) : mm_Zq l G Y Ex Qf M0 bc bs pc ls (x :: st) M :=
  fun p e s m args below meth c H locs cells slots la hJ hT hL hc hs => lv_dup hJ.1 hJ.2.1 hd (mm_v_cat x) (k p e s m args below meth c H locs cells slots la hJ hT hL hc hs)
theorem mr_pop {x : mm_V} (hd : decode Y.1 pc = .ok (.pop, 1)) (k : mm_Zq l G Y Ex Qf M0 bc bs (pc + 1) ls st M) : mm_Zq l G Y Ex Qf M0 bc bs pc ls (x :: st) M :=
  fun p e s m args below meth c H locs cells slots la hJ hT hL hc hs => lv_pop hJ.1 hJ.2.1 hd (mm_v_cat x) (k p e s m args below meth c H locs cells slots la hJ hT hL hc hs)
theorem mr_dup2 {x y : mm_V} (hd : decode Y.1 pc = .ok (.dup2, 1)) (k : mm_Zq l G Y Ex Qf M0 bc bs (pc + 1) ls (x :: y :: x :: y :: st) M) : mm_Zq l G Y Ex Qf M0 bc bs pc ls (x :: y :: st) M :=
  fun p e s m args below meth c H locs cells slots la hJ hT hL hc hs => lv_dup2_11 hJ.1 hJ.2.1 hd (mm_v_cat x) (mm_v_cat y) (k p e s m args below meth c H locs cells slots la hJ hT hL hc hs)
theorem mr_dup_x1 {x y : mm_V} (hd : decode Y.1 pc = .ok (.dup_x1, 1)) (k : mm_Zq l G Y Ex Qf M0 bc bs (pc + 1) ls (x :: y :: x :: st) M) : mm_Zq l G Y Ex Qf M0 bc bs pc ls (x :: y :: st) M :=
  fun p e s m args below meth c H locs cells slots la hJ hT hL hc hs => lv_dup_x1 hJ.1 hJ.2.1 hd (mm_v_cat x) (mm_v_cat y) (k p e s m args below meth c H locs cells slots la hJ hT hL hc hs)
theorem mr_dup_x2 {x y z : mm_V} (hd : decode Y.1 pc = .ok (.dup_x2, 1)) (k : mm_Zq l G Y Ex Qf M0 bc bs (pc + 1) ls (x :: y :: z :: x :: st) M) : mm_Zq l G Y Ex Qf M0 bc bs pc ls (x :: y :: z :: st) M :=
  fun p e s m args below meth c H locs cells slots la hJ hT hL hc hs => lv_dup_x2 hJ.1 hJ.2.1 hd (mm_v_cat x) (mm_v_cat y) (mm_v_cat z) (k p e s m args below meth c H locs cells slots la hJ hT hL hc hs)
-- numbers
theorem mr_iadd {x y : Int32} (hd : decode Y.1 pc = .ok (.iadd, 1)) (k : mm_Zq l G Y Ex Qf M0 bc bs (pc + 1) ls (.inl (x + y) :: st) M) : mm_Zq l G Y Ex Qf M0 bc bs pc ls (.inl y :: .inl x :: st) M :=
  fun p e s m args below meth c H locs cells slots la hJ hT hL hc hs => lv_iadd hJ.1 hJ.2.1 hd (k p e s m args below meth c H locs cells slots la hJ hT hL hc hs)
theorem mr_isub {x y : Int32} (hd : decode Y.1 pc = .ok (.isub, 1)) (k : mm_Zq l G Y Ex Qf M0 bc bs (pc + 1) ls (.inl (x - y) :: st) M) : mm_Zq l G Y Ex Qf M0 bc bs pc ls (.inl y :: .inl x :: st) M :=
  fun p e s m args below meth c H locs cells slots la hJ hT hL hc hs => lv_isub hJ.1 hJ.2.1 hd (k p e s m args below meth c H locs cells slots la hJ hT hL hc hs)
theorem mr_imul {x y : Int32} (hd : decode Y.1 pc = .ok (.imul, 1)) (k : mm_Zq l G Y Ex Qf M0 bc bs (pc + 1) ls (.inl (x * y) :: st) M) : mm_Zq l G Y Ex Qf M0 bc bs pc ls (.inl y :: .inl x :: st) M :=
  fun p e s m args below meth c H locs cells slots la hJ hT hL hc hs => lv_imul hJ.1 hJ.2.1 hd (k p e s m args below meth c H locs cells slots la hJ hT hL hc hs)
theorem mr_iand {x y : Int32} (hd : decode Y.1 pc = .ok (.iand, 1)) (k : mm_Zq l G Y Ex Qf M0 bc bs (pc + 1) ls (.inl (x &&& y) :: st) M) : mm_Zq l G Y Ex Qf M0 bc bs pc ls (.inl y :: .inl x :: st) M :=
  fun p e s m args below meth c H locs cells slots la hJ hT hL hc hs => lv_iand hJ.1 hJ.2.1 hd (k p e s m args below meth c H locs cells slots la hJ hT hL hc hs)
theorem mr_ior {x y : Int32} (hd : decode Y.1 pc = .ok (.ior, 1)) (k : mm_Zq l G Y Ex Qf M0 bc bs (pc + 1) ls (.inl (x ||| y) :: st) M) : mm_Zq l G Y Ex Qf M0 bc bs pc ls (.inl y :: .inl x :: st) M :=
  fun p e s m args below meth c H locs cells slots la hJ hT hL hc hs => lv_ior hJ.1 hJ.2.1 hd (k p e s m args below meth c H locs cells slots la hJ hT hL hc hs)
theorem mr_ixor {x y : Int32} (hd : decode Y.1 pc = .ok (.ixor, 1)) (k : mm_Zq l G Y Ex Qf M0 bc bs (pc + 1) ls (.inl (x ^^^ y) :: st) M) : mm_Zq l G Y Ex Qf M0 bc bs pc ls (.inl y :: .inl x :: st) M :=
  fun p e s m args below meth c H locs cells slots la hJ hT hL hc hs => lv_ixor hJ.1 hJ.2.1 hd (k p e s m args below meth c H locs cells slots la hJ hT hL hc hs)
theorem mr_ishl {x y : Int32} (hd : decode Y.1 pc = .ok (.ishl, 1)) (k : mm_Zq l G Y Ex Qf M0 bc bs (pc + 1) ls (.inl (x <<< (y &&& 31)) :: st) M) : mm_Zq l G Y Ex Qf M0 bc bs pc ls (.inl y :: .inl x :: st) M :=
  fun p e s m args below meth c H locs cells slots la hJ hT hL hc hs => lv_ishl hJ.1 hJ.2.1 hd (k p e s m args below meth c H locs cells slots la hJ hT hL hc hs)
theorem mr_ishr {x y : Int32} (hd : decode Y.1 pc = .ok (.ishr, 1)) (k : mm_Zq l G Y Ex Qf M0 bc bs (pc + 1) ls (.inl (x >>> (y &&& 31)) :: st) M) : mm_Zq l G Y Ex Qf M0 bc bs pc ls (.inl y :: .inl x :: st) M :=
  fun p e s m args below meth c H locs cells slots la hJ hT hL hc hs => lv_ishr hJ.1 hJ.2.1 hd (k p e s m args below meth c H locs cells slots la hJ hT hL hc hs)
theorem mr_idiv {x y : Int32} (hd : decode Y.1 pc = .ok (.idiv, 1)) (hy : ¬ y = 0) (k : mm_Zq l G Y Ex Qf M0 bc bs (pc + 1) ls (.inl (x / y) :: st) M) : mm_Zq l G Y Ex Qf M0 bc bs pc ls (.inl y :: .inl x :: st) M :=
  fun p e s m args below meth c H locs cells slots la hJ hT hL hc hs => lv_idiv hJ.1 hJ.2.1 hd hy (k p e s m args below meth c H locs cells slots la hJ hT hL hc hs)
theorem mr_irem {x y : Int32} (hd : decode Y.1 pc = .ok (.irem, 1)) (hy : ¬ y = 0) (k : mm_Zq l G Y Ex Qf M0 bc bs (pc + 1) ls (.inl (x - x / y * y) :: st) M) : mm_Zq l G Y Ex Qf M0 bc bs pc ls (.inl y :: .inl x :: st) M :=
  fun p e s m args below meth c H locs cells slots la hJ hT hL hc hs => lv_irem hJ.1 hJ.2.1 hd hy (k p e s m args below meth c H locs cells slots la hJ hT hL hc hs)
-- branches
theorem mr_if_eq {x : Int32} {off : Int} (tgt : Nat) (hd : decode Y.1 pc = .ok (.ifCond .eq off, 3)) (ht : (pc : Int) + off = (tgt : Int)) (kt : x = 0 → mm_Zq l G Y Ex Qf M0 bc bs tgt ls st M) (kf : ¬ x = 0 → mm_Zq l G Y Ex Qf M0 bc bs (pc + 3) ls st M) : mm_Zq l G Y Ex Qf M0 bc bs pc ls (.inl x :: st) M :=
  fun p e s m args below meth c H locs cells slots la hJ hT hL hc hs => lv_if_eq hJ.1 hJ.2.1 hd ht (fun q => kt q p e s m args below meth c H locs cells slots la hJ hT hL hc hs) (fun q => kf q p e s m args below meth c H locs cells slots la hJ hT hL hc hs)
theorem mr_icmp_eq {x y : Int32} {off : Int} (tgt : Nat) (hd : decode Y.1 pc = .ok (.if_icmp .eq off, 3)) (ht : (pc : Int) + off = (tgt : Int)) (kt : x = y → mm_Zq l G Y Ex Qf M0 bc bs tgt ls st M) (kf : ¬ x = y → mm_Zq l G Y Ex Qf M0 bc bs (pc + 3) ls st M) : mm_Zq l G Y Ex Qf M0 bc bs pc ls (.inl y :: .inl x :: st) M :=
  fun p e s m args below meth c H locs cells slots la hJ hT hL hc hs => lv_icmp_eq hJ.1 hJ.2.1 hd ht (fun q => kt q p e s m args below meth c H locs cells slots la hJ hT hL hc hs) (fun q => kf q p e s m args below meth c H locs cells slots la hJ hT hL hc hs)
theorem mr_if_ne {x : Int32} {off : Int} (tgt : Nat) (hd : decode Y.1 pc = .ok (.ifCond .ne off, 3)) (ht : (pc : Int) + off = (tgt : Int)) (kt : ¬ x = 0 → mm_Zq l G Y Ex Qf M0 bc bs tgt ls st M) (kf : x = 0 → mm_Zq l G Y Ex Qf M0 bc bs (pc + 3) ls st M) : mm_Zq l G Y Ex Qf M0 bc bs pc ls (.inl x :: st) M :=
  fun p e s m args below meth c H locs cells slots la hJ hT hL hc hs => lv_if_ne hJ.1 hJ.2.1 hd ht (fun q => kt q p e s m args below meth c H locs cells slots la hJ hT hL hc hs) (fun q => kf q p e s m args below meth c H locs cells slots la hJ hT hL hc hs)
theorem mr_icmp_ne {x y : Int32} {off : Int} (tgt : Nat) (hd : decode Y.1 pc = .ok (.if_icmp .ne off, 3)) (ht : (pc : Int) + off = (tgt : Int)) (kt : ¬ x = y → mm_Zq l G Y Ex Qf M0 bc bs tgt ls st M) (kf : x = y → mm_Zq l G Y Ex Qf M0 bc bs (pc + 3) ls st M) : mm_Zq l G Y Ex Qf M0 bc bs pc ls (.inl y :: .inl x :: st) M :=
  fun p e s m args below meth c H locs cells slots la hJ hT hL hc hs => lv_icmp_ne hJ.1 hJ.2.1 hd ht (fun q => kt q p e s m args below meth c H locs cells slots la hJ hT hL hc hs) (fun q => kf q p e s m args below meth c H locs cells slots la hJ hT hL hc hs)
theorem mr_if_lt {x : Int32} {off : Int} (tgt : Nat) (hd : decode Y.1 pc = .ok (.ifCond .lt off, 3)) (ht : (pc : Int) + off = (tgt : Int)) (kt : x < 0 → mm_Zq l G Y Ex Qf M0 bc bs tgt ls st M) (kf : ¬ x < 0 → mm_Zq l G Y Ex Qf M0 bc bs (pc + 3) ls st M) : mm_Zq l G Y Ex Qf M0 bc bs pc ls (.inl x :: st) M :=
  fun p e s m args below meth c H locs cells slots la hJ hT hL hc hs => lv_if_lt hJ.1 hJ.2.1 hd ht (fun q => kt q p e s m args below meth c H locs cells slots la hJ hT hL hc hs) (fun q => kf q p e s m args below meth c H locs cells slots la hJ hT hL hc hs)
theorem mr_icmp_lt {x y : Int32} {off : Int} (tgt : Nat) (hd : decode Y.1 pc = .ok (.if_icmp .lt off, 3)) (ht : (pc : Int) + off = (tgt : Int)) (kt : x < y → mm_Zq l G Y Ex Qf M0 bc bs tgt ls st M) (kf : ¬ x < y → mm_Zq l G Y Ex Qf M0 bc bs (pc + 3) ls st M) : mm_Zq l G Y Ex Qf M0 bc bs pc ls (.inl y :: .inl x :: st) M :=
  fun p e s m args below meth c H locs cells slots la hJ hT hL hc hs => lv_icmp_lt hJ.1 hJ.2.1 hd ht (fun q => kt q p e s m args below meth c H locs cells slots la hJ hT hL hc hs) (fun q => kf q p e s m args below meth c H locs cells slots la hJ hT hL hc hs)
theorem mr_if_ge {x : Int32} {off : Int} (tgt : Nat) (hd : decode Y.1 pc = .ok (.ifCond .ge off, 3)) (ht : (pc : Int) + off = (tgt : Int)) (kt : 0 ≤ x → mm_Zq l G Y Ex Qf M0 bc bs tgt ls st M) (kf : ¬ 0 ≤ x → mm_Zq l G Y Ex Qf M0 bc bs (pc + 3) ls st M) : mm_Zq l G Y Ex Qf M0 bc bs pc ls (.inl x :: st) M :=
  fun p e s m args below meth c H locs cells slots la hJ hT hL hc hs => lv_if_ge hJ.1 hJ.2.1 hd ht (fun q => kt q p e s m args below meth c H locs cells slots la hJ hT hL hc hs) (fun q => kf q p e s m args below meth c H locs cells slots la hJ hT hL hc hs)
theorem mr_icmp_ge {x y : Int32} {off : Int} (tgt : Nat) (hd : decode Y.1 pc = .ok (.if_icmp .ge off, 3)) (ht : (pc : Int) + off = (tgt : Int)) (kt : y ≤ x → mm_Zq l G Y Ex Qf M0 bc bs tgt ls st M) (kf : ¬ y ≤ x → mm_Zq l G Y Ex Qf M0 bc bs (pc + 3) ls st M) : mm_Zq l G Y Ex Qf M0 bc bs pc ls (.inl y :: .inl x :: st) M :=
  fun p e s m args below meth c H locs cells slots la hJ hT hL hc hs => lv_icmp_ge hJ.1 hJ.2.1 hd ht (fun q => kt q p e s m args below meth c H locs cells slots la hJ hT hL hc hs) (fun q => kf q p e s m args below meth c H locs cells slots la hJ hT hL hc hs)
theorem mr_if_gt {x : Int32} {off : Int} (tgt : Nat) (hd : decode Y.1 pc = .ok (.ifCond .gt off, 3)) (ht : (pc : Int) + off = (tgt : Int)) (kt : 0 < x → mm_Zq l G Y Ex Qf M0 bc bs tgt ls st M) (kf : ¬ 0 < x → mm_Zq l G Y Ex Qf M0 bc bs (pc + 3) ls st M) : mm_Zq l G Y Ex Qf M0 bc bs pc ls (.inl x :: st) M :=
  fun p e s m args below meth c H locs cells slots la hJ hT hL hc hs => lv_if_gt hJ.1 hJ.2.1 hd ht (fun q => kt q p e s m args below meth c H locs cells slots la hJ hT hL hc hs) (fun q => kf q p e s m args below meth c H locs cells slots la hJ hT hL hc hs)
theorem mr_icmp_gt {x y : Int32} {off : Int} (tgt : Nat) (hd : decode Y.1 pc = .ok (.if_icmp .gt off, 3)) (ht : (pc : Int) + off = (tgt : Int)) (kt : y < x → mm_Zq l G Y Ex Qf M0 bc bs tgt ls st M) (kf : ¬ y < x → mm_Zq l G Y Ex Qf M0 bc bs (pc + 3) ls st M) : mm_Zq l G Y Ex Qf M0 bc bs pc ls (.inl y :: .inl x :: st) M :=
  fun p e s m args below meth c H locs cells slots la hJ hT hL hc hs => lv_icmp_gt hJ.1 hJ.2.1 hd ht (fun q => kt q p e s m args below meth c H locs cells slots la hJ hT hL hc hs) (fun q => kf q p e s m args below meth c H locs cells slots la hJ hT hL hc hs)
theorem mr_if_le {x : Int32} {off : Int} (tgt : Nat) (hd : decode Y.1 pc = .ok (.ifCond .le off, 3)) (ht : (pc : Int) + off = (tgt : Int)) (kt : x ≤ 0 → mm_Zq l G Y Ex Qf M0 bc bs tgt ls st M) (kf : ¬ x ≤ 0 → mm_Zq l G Y Ex Qf M0 bc bs (pc + 3) ls st M) : mm_Zq l G Y Ex Qf M0 bc bs pc ls (.inl x :: st) M :=
  fun p e s m args below meth c H locs cells slots la hJ hT hL hc hs => lv_if_le hJ.1 hJ.2.1 hd ht (fun q => kt q p e s m args below meth c H locs cells slots la hJ hT hL hc hs) (fun q => kf q p e s m args below meth c H locs cells slots la hJ hT hL hc hs)
theorem mr_icmp_le {x y : Int32} {off : Int} (tgt : Nat) (hd : decode Y.1 pc = .ok (.if_icmp .le off, 3)) (ht : (pc : Int) + off = (tgt : Int)) (kt : x ≤ y → mm_Zq l G Y Ex Qf M0 bc bs tgt ls st M) (kf : ¬ x ≤ y → mm_Zq l G Y Ex Qf M0 bc bs (pc + 3) ls st M) : mm_Zq l G Y Ex Qf M0 bc bs pc ls (.inl y :: .inl x :: st) M :=
  fun p e s m args below meth c H locs cells slots la hJ hT hL hc hs => lv_icmp_le hJ.1 hJ.2.1 hd ht (fun q => kt q p e s m args below meth c H locs cells slots la hJ hT hL hc hs) (fun q => kf q p e s m args below meth c H locs cells slots la hJ hT hL hc hs)
theorem mr_acmp_eq {x y : Option Nat} {off : Int} (tgt : Nat) (hd : decode Y.1 pc = .ok (.if_acmp .eq off, 3)) (ht : (pc : Int) + off = (tgt : Int)) (kt : x = y → mm_Zq l G Y Ex Qf M0 bc bs tgt ls st M) (kf : ¬ x = y → mm_Zq l G Y Ex Qf M0 bc bs (pc + 3) ls st M) : mm_Zq l G Y Ex Qf M0 bc bs pc ls (.inr y :: .inr x :: st) M :=
  fun p e s m args below meth c H locs cells slots la hJ hT hL hc hs => lv_acmp_eq hJ.1 hJ.2.1 hd ht (fun q => kt q p e s m args below meth c H locs cells slots la hJ hT hL hc hs) (fun q => kf q p e s m args below meth c H locs cells slots la hJ hT hL hc hs)
theorem mr_acmp_ne {x y : Option Nat} {off : Int} (tgt : Nat) (hd : decode Y.1 pc = .ok (.if_acmp .ne off, 3)) (ht : (pc : Int) + off = (tgt : Int)) (kt : ¬ x = y → mm_Zq l G Y Ex Qf M0 bc bs tgt ls st M) (kf : x = y → mm_Zq l G Y Ex Qf M0 bc bs (pc + 3) ls st M) : mm_Zq l G Y Ex Qf M0 bc bs pc ls (.inr y :: .inr x :: st) M :=
  fun p e s m args below meth c H locs cells slots la hJ hT hL hc hs => lv_acmp_ne hJ.1 hJ.2.1 hd ht (fun q => kt q p e s m args below meth c H locs cells slots la hJ hT hL hc hs) (fun q => kf q p e s m args below meth c H locs cells slots la hJ hT hL hc hs)
theorem mr_ifnull {x : Option Nat} {off : Int} (tgt : Nat) (hd : decode Y.1 pc = .ok (.ifnull off, 3)) (ht : (pc : Int) + off = (tgt : Int)) (kt : x = none → mm_Zq l G Y Ex Qf M0 bc bs tgt ls st M) (kf : ∀ a, x = some a → mm_Zq l G Y Ex Qf M0 bc bs (pc + 3) ls st M) : mm_Zq l G Y Ex Qf M0 bc bs pc ls (.inr x :: st) M := by
  intro p e s m args below meth c H locs cells slots la hJ hT hL hc hs
  cases x with
  | none => exact lv_ifnullN hJ.1 hJ.2.1 hd ht (kt rfl p e s m args below meth c H locs cells slots la hJ hT hL hc hs)
  | some a => exact lv_ifnull hJ.1 hJ.2.1 hd (kf a rfl p e s m args below meth c H locs cells slots la hJ hT hL hc hs)
theorem mr_ifnonnull {x : Option Nat} {off : Int} (tgt : Nat) (hd : decode Y.1 pc = .ok (.ifnonnull off, 3)) (ht : (pc : Int) + off = (tgt : Int)) (kt : ∀ a, x = some a → mm_Zq l G Y Ex Qf M0 bc bs tgt ls st M) (kf : x = none → mm_Zq l G Y Ex Qf M0 bc bs (pc + 3) ls st M) : mm_Zq l G Y Ex Qf M0 bc bs pc ls (.inr x :: st) M := by
  intro p e s m args below meth c H locs cells slots la hJ hT hL hc hs
  cases x with
  | none => exact lv_ifnonnullN hJ.1 hJ.2.1 hd (kf rfl p e s m args below meth c H locs cells slots la hJ hT hL hc hs)
  | some a => exact lv_ifnonnull hJ.1 hJ.2.1 hd ht (kt a rfl p e s m args below meth c H locs cells slots la hJ hT hL hc hs)
theorem mr_goto {off : Int} (tgt : Nat) (hd : decode Y.1 pc = .ok (.goto off, 3)) (ht : (pc : Int) + off = (tgt : Int)) (k : mm_Zq l G Y Ex Qf M0 bc bs tgt ls st M) : mm_Zq l G Y Ex Qf M0 bc bs pc ls st M :=
  fun p e s m args below meth c H locs cells slots la hJ hT hL hc hs => lv_goto hJ.1 hJ.2.1 hd ht (k p e s m args below meth c H locs cells slots la hJ hT hL hc hs)
-- ends
theorem mr_ireturn {v : Int32} (hd : decode Y.1 pc = .ok (.ireturn, 1)) (hr : Y.2.2.2.1 = some .int) (hk : K (some (.inl v)) M) : mm_Z l G Y K M0 bc bs pc ls [.inl v] M := by
  intro p e s m args below meth c H locs cells slots la hJ hT hL hc hs
  refine W.widen (k := Y.2.2.2.2.2.cells) (n := Y.2.2.2.2.2.slots) (by omega) (by omega) ?_
  have hlocks := hJ.2.2.2.2.1
  exact W.iret (v := v) hJ.1 hJ.2.1 (hJ.2.2.2.1.trans hr) (fun t ht hW => ⟨some (.inl v), M, rfl, by rw [ht]; exact hT.1, hT.2.2, hk, hT.2.1.F ht⟩) hT.2.1.2.2 hd
theorem mr_zreturn {v : Int32} (hd : decode Y.1 pc = .ok (.ireturn, 1)) (hr : Y.2.2.2.1 = some .boolean) (hv : v = 0 ∨ v = 1) (hk : K (some (.inl v)) M) : mm_Z l G Y K M0 bc bs pc ls [.inl v] M := by
  intro p e s m args below meth c H locs cells slots la hJ hT hL hc hs
  refine W.widen (k := Y.2.2.2.2.2.cells) (n := Y.2.2.2.2.2.slots) (by omega) (by omega) ?_
  have hlocks := hJ.2.2.2.2.1
  exact W.zret (v := v) hJ.1 hJ.2.1 (hJ.2.2.2.1.trans hr) (by rcases hv with rfl | rfl <;> decide) (fun t ht hW => ⟨some (.inl v), M, rfl, by rw [ht]; exact hT.1, hT.2.2, hk, hT.2.1.F ht⟩) hT.2.1.2.2 hd
theorem mr_return (hd : decode Y.1 pc = .ok (.return_, 1)) (hr : Y.2.2.2.1 = none) (hk : K none M) : mm_Z l G Y K M0 bc bs pc ls [] M := by
  intro p e s m args below meth c H locs cells slots la hJ hT hL hc hs
  refine W.widen (k := Y.2.2.2.2.2.cells) (n := Y.2.2.2.2.2.slots) (by omega) (by omega) ?_
  have hlocks := hJ.2.2.2.2.1
  exact W.vret hJ.1 hJ.2.1 (hJ.2.2.2.1.trans hr) (fun t ht hW => ⟨none, M, rfl, by rw [ht]; exact hT.1, hT.2.2, hk, hT.2.1.F ht⟩) hT.2.1.2.2 hd
theorem mr_areturn {o : Option Nat} {rt : FieldType} (hd : decode Y.1 pc = .ok (.areturn, 1)) (hr : Y.2.2.2.1 = some rt) (hrt : (∃ n, rt = .object n) ∨ ∃ t, rt = .array t) (hk : K (some (.inr o)) M) : mm_Z l G Y K M0 bc bs pc ls [.inr o] M := by
  intro p e s m args below meth c H locs cells slots la hJ hT hL hc hs
  refine W.widen (k := Y.2.2.2.2.2.cells) (n := Y.2.2.2.2.2.slots) (by omega) (by omega) ?_
  have hlocks := hJ.2.2.2.2.1
  exact W.aret (v := va_rf o) hJ.1 hJ.2.1 (hJ.2.2.2.1.trans hr) hrt (va_rf_or o) (fun t ht hW => ⟨some (.inr o), M, rfl, by rw [ht]; exact hT.1, hT.2.2, hk, hT.2.1.F ht⟩) hT.2.1.2.2 hd
end RW1
end
section
/-! ROWS OF THE HEAP: fields, arrays, new cells, casts -/
/-- a field k of the class number ci, as the pool of own names it at idx: plain, or by the nest -/
def mm_Fg (own : String) (idx ci k : Nat) (C : String) (T : u_T) (N : Nat) : Prop :=
  ci < 99 ∧ vwCl[ci]? = some (C, T, N) ∧ k < N ∧ (∀ w ∈ u_ws C T N, w ∈ mm_B) ∧ ∃ ref : String, (Cond.fieldLink own idx ref (T k).2.1 (T k).2.2.1 ∈ mm_B ∨ ∃ host : String, Cond.fieldLinkNest own idx ref (T k).2.1 (T k).2.2.1 host ∈ lw_tbl.filter mm_isN) ∧ (ref = (T k).1 ∨ Cond.sameField ref (T k).1 (T k).2.1 (T k).2.2.1 ∈ mm_B)
/-- and of what may be put there -/
def mm_Fp (C : String) (T : u_T) (N : Nat) : Prop :=
  (∃ ty : Nat → FieldType, ∀ k, k < N → parseFieldDescriptor (T k).2.2.1 = some (ty k)) ∧ ∀ a, a < N → ∀ b, b < N → a ≠ b → (T a).2.1 ≠ (T b).2.1
theorem mm_obj {G : mm_G} {M : mm_M} {H : Heap} (hH : mm_H G M H) {a ci : Nat} (hk : mm_k M a = ci + 1) (hci : ci < 99) : G.2.2.1 ≤ a ∧ ∃ r : vw_C, vwCl[ci]? = some r ∧ mm_l M a = r.2.2 ∧ t_OB a (G.1.1 ci) r.2.2 (G.1.2 ci) H (mm_c M a) := by
  rcases hH.2 a (by rw [hk]; exact Nat.succ_ne_zero _) with ⟨h1, h2, h3⟩ | ⟨h1, -⟩
  · rw [hk] at h3
    exact ⟨h2, h3⟩
  · rw [hk] at h1
    omega
theorem mm_arr {G : mm_G} {M : mm_M} {H : Heap} (hH : mm_H G M H) {a t : Nat} (hk : mm_k M a = 100 + t) : t < 6 ∧ (t ≠ 5 → G.2.2.1 ≤ a) ∧ H[a]? = some (arrV (G.2.1 t) (mm_l M a) (mm_c M a)) := by
  rcases hH.2 a (by rw [hk]; omega) with ⟨h1, -⟩ | ⟨h1, h2, h3, h4⟩
  · rw [hk] at h1
    omega
  · have e : mm_k M a - 100 = t := by omega
    rw [e] at h4
    exact ⟨by omega, fun q => h3 (by omega), h4⟩
theorem mm_rsO {ci k : Nat} {r : vw_C} (hci : ci < 99) (hcl : vwCl[ci]? = some r) : mm_rs (ci + 1) k = mm_rd (r.2.1 k).2.2.1 := by
  unfold mm_rs
  rw [if_pos (show ci + 1 < 100 by omega), show ci + 1 - 1 = ci from rfl, hcl]
theorem mm_rsA {t k : Nat} (h2 : 2 ≤ t) : mm_rs (100 + t) k = true := by
  unfold mm_rs
  rw [if_neg (show ¬ 100 + t < 100 by omega)]
  simp
  omega
theorem mm_rs0 (k : Nat) : mm_rs 100 k = false := rfl
theorem mm_rs1 (k : Nat) : mm_rs 101 k = false := rfl
theorem mm_cI {M : mm_M} {a j : Nat} (h : mm_rs (mm_k M a) j = false) : mm_c M a j = .int (mm_i M a j) := by
  unfold mm_c
  rw [h]
  rfl
theorem mm_cR {M : mm_M} {a j : Nat} (h : mm_rs (mm_k M a) j = true) : mm_c M a j = va_rf (mm_p M a j) := by
  unfold mm_c
  rw [h]
  rfl
section RW2
variable {l : Launch} {G : mm_G} {Y : mm_Y} {K : Option mm_V → mm_M → Prop} {Ex : State → Array Value → Prop} {Qf : List Frame → Array Value → State → State → Prop} {M0 M : mm_M} {bc bs pc : Nat} {ls : List (Option mm_V)} {st : List mm_V}
theorem mr_get {idx ci k a : Nat} {C : String} {T : u_T} {N : Nat} {o : Option Nat} (hF : mm_Fg Y.2.1 idx ci k C T N) (hd : decode Y.1 pc = .ok (.getfield idx, 3)) (ho : o = some a) (hk : mm_k M a = ci + 1) (w : mm_V) (hw : mm_v w = mm_c M a k)
    (kk : mm_Zq l G Y Ex Qf M0 bc bs (pc + 3) ls (w :: st) M) : mm_Zq l G Y Ex Qf M0 bc bs pc ls (.inr o :: st) M := by
  subst ho
  intro p e s m args below meth c H locs cells slots la hJ hT hL hc hs
  have k1 := kk p e s m args below meth c H locs cells slots la hJ hT hL hc hs
  obtain ⟨hci, hcl, hkN, hin, ref, hlk, hsm⟩ := hF
  obtain ⟨hba, r, hr, hl, hob⟩ := mm_obj hT.1 hk hci
  have hre : r = (C, T, N) := Option.some.inj (hr.symm.trans hcl)
  subst hre
  obtain ⟨hx, hb, -, -, -, -, hown, hts, ⟨hK, -, hN, -⟩, -⟩ := hJ
  have hv : ((List.range N).map (mm_c M a))[k]? = some (mm_v w) := by
    rw [hw, List.getElem?_map, List.getElem?_range hkN]
    rfl
  have hP : va_P G.1 vwCl [(a, .inr (ci, (List.range N).map (mm_c M a)))] H := by
    intro j q hj
    have hz : j < 1 := (List.getElem?_eq_some_iff.mp hj).1
    rw [show j = 0 by omega] at hj
    cases hj
    refine ⟨_, hcl, hob.to (fun i hi => ?_)⟩
    simp [vp_V, List.getElem?_range hi]
  have hsame : ∀ x, s.fieldFound? (T k).1 (T k).2.1 (T k).2.2.1 = some x → s.fieldFound? ref (T k).2.1 (T k).2.2.1 = some x := by
    rcases hsm with h | h
    · intro x hx'
      rw [h]
      exact hx'
    · exact fun x hx' => u_same (hts _ h) x hx'
  rcases hlk with h | ⟨host, h⟩
  · exact va_get (D := G.1) (ci := ci) (v := mm_v w) hx hb hts hin hown hK hP 0 rfl hcl k hkN (hts _ h) hsame hv hd k1
  · exact va_getN (D := G.1) (ci := ci) (v := mm_v w) hx hb hts hin hown hK hP 0 rfl hcl k hkN (va_Nw.use rfl (hN _ h)) hsame hv hd k1
theorem mr_geti {idx ci k a : Nat} {C : String} {T : u_T} {N : Nat} {o : Option Nat} (hF : mm_Fg Y.2.1 idx ci k C T N) (hd : decode Y.1 pc = .ok (.getfield idx, 3)) (hrs : mm_rs (ci + 1) k = false) (ho : o = some a) (hk : mm_k M a = ci + 1)
    (kk : mm_Zq l G Y Ex Qf M0 bc bs (pc + 3) ls (.inl (mm_i M a k) :: st) M) : mm_Zq l G Y Ex Qf M0 bc bs pc ls (.inr o :: st) M :=
  mr_get hF hd ho hk (.inl (mm_i M a k)) (by unfold mm_c; rw [hk, hrs]; rfl) kk
theorem mr_getr {idx ci k a : Nat} {C : String} {T : u_T} {N : Nat} {o : Option Nat} (hF : mm_Fg Y.2.1 idx ci k C T N) (hd : decode Y.1 pc = .ok (.getfield idx, 3)) (hrs : mm_rs (ci + 1) k = true) (ho : o = some a) (hk : mm_k M a = ci + 1)
    (kk : mm_Zq l G Y Ex Qf M0 bc bs (pc + 3) ls (.inr (mm_p M a k) :: st) M) : mm_Zq l G Y Ex Qf M0 bc bs pc ls (.inr o :: st) M :=
  mr_get hF hd ho hk (.inr (mm_p M a k)) (by unfold mm_c; rw [hk, hrs]; rfl) kk
theorem mr_put {idx ci k a : Nat} {C : String} {T : u_T} {N : Nat} {o : Option Nat} {w : mm_V} {M1 : mm_M} (hF : mm_Fg Y.2.1 idx ci k C T N) (hP : mm_Fp C T N) (hfin : (T k).2.2.2 = false ∨ (Y.2.2.2.2.1 = true ∧ (T k).1 = Y.2.1 ∧ Cond.fieldLink Y.2.1 idx (T k).1 (T k).2.1 (T k).2.2.1 ∈ mm_B)) (hd : decode Y.1 pc = .ok (.putfield idx, 3)) {ty : FieldType} (hty : parseFieldDescriptor (T k).2.2.1 = some ty) (hn : narrow ty (mm_v w) = mm_v w) (hfit : fits ty (mm_v w) = true) (ho : o = some a) (hk : mm_k M a = ci + 1)
    (e0 : mm_z M1 = mm_z M) (e1 : ∀ b, mm_k M1 b = mm_k M b) (e2 : ∀ b, mm_l M1 b = mm_l M b) (e3 : ∀ b, b ≠ a → ∀ j, mm_i M1 b j = mm_i M b j) (e4 : ∀ b, b ≠ a → ∀ j, mm_p M1 b j = mm_p M b j) (e5 : ∀ j, j ≠ k → mm_c M1 a j = mm_c M a j) (e6 : mm_c M1 a k = mm_v w)
    (kk : mm_Zq l G Y Ex Qf M0 bc bs (pc + 3) ls st M1) : mm_Zq l G Y Ex Qf M0 bc bs pc ls (w :: .inr o :: st) M := by
  subst ho
  intro p e s m args below meth c H locs cells slots la hJ hT hL hc hs
  have hJ0 := hJ
  obtain ⟨hci, hcl, hkN, hin, ref, hlk, hsm⟩ := hF
  obtain ⟨hba, r, hr, hl, hob⟩ := mm_obj hT.1 hk hci
  have hre : r = (C, T, N) := Option.some.inj (hr.symm.trans hcl)
  subst hre
  obtain ⟨hx, hb, -, -, -, hini, hown, hts, ⟨hK, -, hNn, -⟩, -⟩ := hJ
  obtain ⟨⟨ty0, hty0⟩, hnm⟩ := hP
  have hap := va_apart (own := Y.2.1) hts hin ty0 hty0 hnm hK hcl
  obtain ⟨cell, q1, q2, q3, q4⟩ := hob
  obtain ⟨hS, hfc, kC, hkC, hkind⟩ := hK.1 ci _ hcl
  obtain ⟨cf, kf, fi, f, hi, hsl⟩ := hS k hkN
  have hst := (u_facts hfc hkC (u_lays hts hin hkN) hi).1
  have hlay := hts _ (hin _ (u_in_lay hkN))
  have hsame : ∀ x, s.fieldFound? (T k).1 (T k).2.1 (T k).2.2.1 = some x → s.fieldFound? ref (T k).2.1 (T k).2.2.1 = some x := by
    rcases hsm with h | h
    · intro x hx'
      rw [h]
      exact hx'
    · exact fun x hx' => u_same (hts _ h) x hx'
  have hA : mm_A G M0 a := mm_A.of hT.2.2 ⟨hba, Or.inl (by rw [hk]; exact Nat.succ_ne_zero _)⟩
  have fin : ∀ H' : Heap, H'[a]? = some (cell.setSlot f.slot (mm_v w)) → H'.size = H.size → (∀ q, q ≠ a → H'[q]? = H[q]?) → W p l e Y.2.2.2.2.2 s m args below meth c H' (locs ++ [⟨a, f.slot⟩]) cells slots (Qf below args s) (F0 m (pc + 3) la (st.map mm_v)) := by
    intro H' g1 g2 g3
    refine kk p e s m args below meth c H' _ cells slots la hJ0 ⟨hT.1.put g2 g3 e0 e1 e2 e3 e4 (Or.inl ⟨by rw [e1, hk]; omega, hba, ?_⟩), hT.2.1.put g2 g3 hA, ?_⟩ hL hc hs
    · rw [e1, hk]
      refine ⟨_, hcl, by rw [e2]; exact hl, t_OB.to (V := updV (mm_c M a) k (mm_v w)) ⟨_, g1, q2, q3, by rw [hsl]; exact t_set q4 hap hkN (mm_v w)⟩ (fun j _ => ?_)⟩
      by_cases hjk : j = k
      · subst hjk
        rw [e6]
        simp [updV]
      · rw [e5 j hjk]
        simp [updV, hjk]
    · refine ⟨by rw [e0]; exact hT.2.2.1, fun b hb => ?_, fun b hb => ?_⟩
      · rw [e1, e2]
        exact hT.2.2.2.1 b hb
      · rw [e1] at hb
        exact hT.2.2.2.2 b hb
  rcases hfin with hfin | ⟨hin1, hdecl, hlkF⟩
  · unfold u_lay at hlay
    rw [if_neg (by rw [hfin]; decide)] at hlay
    have h6 := u_store hfc hkC hkind hlay hi hty hn hfit
    rcases hlk with h | ⟨host, h⟩
    · exact W.putK hx hb (f := f) ⟨hown, hts _ h, ⟨_, _, _, hsame _ hi⟩, hst⟩ (by rw [q2]; exact h6) q1 q3 (by rw [hsl]; exact k2_hasslot (q4 k hkN)) rfl rfl hd fin
    · exact va_WputK hx hb (f := f) hown (va_Nw.use rfl (hNn _ h)) (hsame _ hi) hst (by rw [q2]; exact h6) q1 q3 (by rw [hsl]; exact k2_hasslot (q4 k hkN)) rfl rfl hd fin
  · by_cases hf2 : (T k).2.2.2 = true
    · unfold u_lay at hlay
      rw [if_pos hf2] at hlay
      have hcf : m.cls = cf := by
        obtain ⟨_, _, c', _, _, _, -, -, hf', -, -, -, hown2, -⟩ := Cond.laysFinal_spec hlay
        have z1 : c' = cf := by have := hi.symm.trans hf'; simp at this; exact this.1.symm
        rw [hdecl] at hown2
        rw [← z1]; exact Option.some.inj (hown.symm.trans hown2)
      have h6 := u_fits hfc hkC hkind (Or.inr hlay) hi hty hn hfit
      exact W.putFinK hx hb hown (hts _ hlkF) hi hst hcf (hini hin1) (by rw [q2]; exact h6) q1 q3 (by rw [hsl]; exact k2_hasslot (q4 k hkN)) rfl rfl hd fin
    · unfold u_lay at hlay
      rw [if_neg hf2] at hlay
      have h6 := u_store hfc hkC hkind hlay hi hty hn hfit
      exact W.putK hx hb (f := f) ⟨hown, hts _ hlkF, ⟨_, _, _, hi⟩, hst⟩ (by rw [q2]; exact h6) q1 q3 (by rw [hsl]; exact k2_hasslot (q4 k hkN)) rfl rfl hd fin
theorem mm_c_si {a ci k : Nat} {x : Int32} (hk : mm_k M a = ci + 1) (hrs : mm_rs (ci + 1) k = false) : (∀ j, j ≠ k → mm_c (mm_si M a k x) a j = mm_c M a j) ∧ mm_c (mm_si M a k x) a k = .int x := by
  refine ⟨fun j hj => ?_, ?_⟩
  · unfold mm_c
    have hn : ¬ (a = a ∧ j = k) := fun q => hj q.2
    rw [mm_k_si, mm_p_si, mm_i_si, if_neg hn]
  · rw [mm_cI (by rw [mm_k_si, hk]; exact hrs), mm_i_si, if_pos (⟨rfl, rfl⟩ : a = a ∧ k = k)]
theorem mm_c_sp {a ci k : Nat} {x : Option Nat} (hk : mm_k M a = ci + 1) (hrs : mm_rs (ci + 1) k = true) : (∀ j, j ≠ k → mm_c (mm_sp M a k x) a j = mm_c M a j) ∧ mm_c (mm_sp M a k x) a k = va_rf x := by
  refine ⟨fun j hj => ?_, ?_⟩
  · unfold mm_c
    have hn : ¬ (a = a ∧ j = k) := fun q => hj q.2
    rw [mm_k_sp, mm_i_sp, mm_p_sp, if_neg hn]
  · rw [mm_cR (by rw [mm_k_sp, hk]; exact hrs), mm_p_sp, if_pos (⟨rfl, rfl⟩ : a = a ∧ k = k)]
theorem mr_puti {idx ci k a : Nat} {C : String} {T : u_T} {N : Nat} {o : Option Nat} {x : Int32} (hF : mm_Fg Y.2.1 idx ci k C T N) (hP : mm_Fp C T N) (hfin : (T k).2.2.2 = false ∨ (Y.2.2.2.2.1 = true ∧ (T k).1 = Y.2.1 ∧ Cond.fieldLink Y.2.1 idx (T k).1 (T k).2.1 (T k).2.2.1 ∈ mm_B)) (hd : decode Y.1 pc = .ok (.putfield idx, 3)) (hty : parseFieldDescriptor (T k).2.2.1 = some .int ∨ (parseFieldDescriptor (T k).2.2.1 = some .boolean ∧ (x = 0 ∨ x = 1))) (hrs : mm_rs (ci + 1) k = false) (ho : o = some a) (hk : mm_k M a = ci + 1)
    (kk : mm_Zq l G Y Ex Qf M0 bc bs (pc + 3) ls st (mm_si M a k x)) : mm_Zq l G Y Ex Qf M0 bc bs pc ls (.inl x :: .inr o :: st) M := by
  have hc := mm_c_si (x := x) hk hrs
  rcases hty with hty | ⟨hty, hx⟩
  · exact mr_put (w := .inl x) (M1 := mm_si M a k x) hF hP hfin hd hty rfl rfl ho hk rfl (fun _ => rfl) (fun _ => rfl) (fun b hb j => by rw [mm_i_si, if_neg (fun q => hb q.1)]) (fun _ _ _ => rfl) hc.1 hc.2 kk
  · exact mr_put (w := .inl x) (M1 := mm_si M a k x) hF hP hfin hd hty (by rcases hx with rfl | rfl <;> decide) (by rcases hx with rfl | rfl <;> decide) ho hk rfl (fun _ => rfl) (fun _ => rfl) (fun b hb j => by rw [mm_i_si, if_neg (fun q => hb q.1)]) (fun _ _ _ => rfl) hc.1 hc.2 kk
theorem mr_putr {idx ci k a : Nat} {C : String} {T : u_T} {N : Nat} {o x : Option Nat} (hF : mm_Fg Y.2.1 idx ci k C T N) (hP : mm_Fp C T N) (hfin : (T k).2.2.2 = false ∨ (Y.2.2.2.2.1 = true ∧ (T k).1 = Y.2.1 ∧ Cond.fieldLink Y.2.1 idx (T k).1 (T k).2.1 (T k).2.2.1 ∈ mm_B)) (hd : decode Y.1 pc = .ok (.putfield idx, 3)) {ty : FieldType} (hty : parseFieldDescriptor (T k).2.2.1 = some ty) (hrt : (∃ n, ty = .object n) ∨ ∃ t, ty = .array t) (hrs : mm_rs (ci + 1) k = true) (ho : o = some a) (hk : mm_k M a = ci + 1)
    (kk : mm_Zq l G Y Ex Qf M0 bc bs (pc + 3) ls st (mm_sp M a k x)) : mm_Zq l G Y Ex Qf M0 bc bs pc ls (.inr x :: .inr o :: st) M := by
  have hc := mm_c_sp (x := x) hk hrs
  exact mr_put (w := .inr x) (M1 := mm_sp M a k x) hF hP hfin hd hty (by rcases hrt with ⟨n, rfl⟩ | ⟨t, rfl⟩ <;> cases x <;> rfl) (by rcases hrt with ⟨n, rfl⟩ | ⟨t, rfl⟩ <;> cases x <;> rfl) ho hk rfl (fun _ => rfl) (fun _ => rfl) (fun _ _ _ => rfl) (fun b hb j => by rw [mm_p_sp, if_neg (fun q => hb q.1)]) hc.1 hc.2 kk
-- arrays
theorem mm_tyAt (E : Nat → ClassId) {t : Nat} {ty : FieldType} (h : (mm_tys E)[t]? = some (E t, ty)) : (mm_tys E)[t]? = some (E t, ty) := h
theorem mm_ix {j n : Nat} (hm : j < 2147483648) (hj : j < n) : vp_in (nI j) n := by
  intro q
  rcases q with q | q
  · exact nI_pos (by omega) q
  · rw [nI_clamp (by omega)] at q
    omega
theorem mr_alen {a t : Nat} {o : Option Nat} {ty : FieldType} (hd : decode Y.1 pc = .ok (.arraylength, 1)) (ho : o = some a) (hk : mm_k M a = 100 + t) (ht : ∀ E, (mm_tys E)[t]? = some (E t, ty))
    (kk : mm_Zq l G Y Ex Qf M0 bc bs (pc + 1) ls (.inl (nI (mm_l M a)) :: st) M) : mm_Zq l G Y Ex Qf M0 bc bs pc ls (.inr o :: st) M := by
  subst ho
  intro p e s m args below meth c H locs cells slots la hJ hT hL hc hs
  have k1 := kk p e s m args below meth c H locs cells slots la hJ hT hL hc hs
  obtain ⟨h6, -, hA⟩ := mm_arr hT.1 hk
  obtain ⟨hx, hb, -, -, -, -, hown, hts, ⟨hK, -, -, -⟩, -⟩ := hJ
  exact W.alen (n := Int32.ofNat (mm_l M a)) hx hb hA ((hK.2 t _ (ht G.2.1)).1 _ _) (by rw [arrV_size] <;> rfl) rfl rfl hd k1
theorem mr_iald {a j : Nat} {o : Option Nat} {x : Int32} (hd : decode Y.1 pc = .ok (.iaload, 1)) (ho : o = some a) (hk : mm_k M a = 100) (hx : x = nI j) (hm : j < 2147483648) (hj : j < mm_l M a)
    (kk : mm_Zq l G Y Ex Qf M0 bc bs (pc + 1) ls (.inl (mm_i M a j) :: st) M) : mm_Zq l G Y Ex Qf M0 bc bs pc ls (.inl x :: .inr o :: st) M := by
  subst ho hx
  intro p e s m args below meth c H locs cells slots la hJ hT hL hc hs
  have k1 := kk p e s m args below meth c H locs cells slots la hJ hT hL hc hs
  obtain ⟨h6, -, hA⟩ := mm_arr (t := 0) hT.1 hk
  obtain ⟨hx, hb, -, -, -, -, hown, hts, ⟨hK, -, -, -⟩, -⟩ := hJ
  have e1 : mm_c M a j = .int (mm_i M a j) := by unfold mm_c; rw [hk]; rfl
  refine W.iald (v := .int (mm_i M a j)) hx hb hA ((hK.2 0 _ rfl).1 _ _) (fun q => by cases q) (by rw [arrV_size]; exact mm_ix hm hj) (by rw [nI_clamp (by omega), arrV_read _ _ hj, e1]) rfl rfl hd k1
theorem mr_zald {a j : Nat} {o : Option Nat} {x : Int32} (hd : decode Y.1 pc = .ok (.baload, 1)) (ho : o = some a) (hk : mm_k M a = 101) (hx : x = nI j) (hm : j < 2147483648) (hj : j < mm_l M a)
    (kk : mm_Zq l G Y Ex Qf M0 bc bs (pc + 1) ls (.inl (mm_i M a j) :: st) M) : mm_Zq l G Y Ex Qf M0 bc bs pc ls (.inl x :: .inr o :: st) M := by
  subst ho hx
  intro p e s m args below meth c H locs cells slots la hJ hT hL hc hs
  have k1 := kk p e s m args below meth c H locs cells slots la hJ hT hL hc hs
  obtain ⟨h6, -, hA⟩ := mm_arr (t := 1) hT.1 hk
  obtain ⟨hx, hb, -, -, -, -, hown, hts, ⟨hK, -, -, -⟩, -⟩ := hJ
  have e1 : mm_c M a j = .int (mm_i M a j) := by unfold mm_c; rw [hk]; rfl
  refine W.zald (v := .int (mm_i M a j)) hx hb hA ((hK.2 1 _ rfl).1 _ _) (fun q => by cases q) (by rw [arrV_size]; exact mm_ix hm hj) (by rw [nI_clamp (by omega), arrV_read _ _ hj, e1]) rfl rfl hd k1
theorem mr_aald {a j t : Nat} {o : Option Nat} {x : Int32} {C : String} (hd : decode Y.1 pc = .ok (.aaload, 1)) (ho : o = some a) (hk : mm_k M a = 100 + t) (ht : ∀ E, (mm_tys E)[t]? = some (E t, .object C)) (h2 : 2 ≤ t) (hx : x = nI j) (hm : j < 2147483648) (hj : j < mm_l M a)
    (kk : mm_Zq l G Y Ex Qf M0 bc bs (pc + 1) ls (.inr (mm_p M a j) :: st) M) : mm_Zq l G Y Ex Qf M0 bc bs pc ls (.inl x :: .inr o :: st) M := by
  subst ho hx
  intro p e s m args below meth c H locs cells slots la hJ hT hL hc hs
  have k1 := kk p e s m args below meth c H locs cells slots la hJ hT hL hc hs
  obtain ⟨h6, -, hA⟩ := mm_arr hT.1 hk
  obtain ⟨hx, hb, -, -, -, -, hown, hts, ⟨hK, -, -, -⟩, -⟩ := hJ
  have e1 : mm_c M a j = va_rf (mm_p M a j) := mm_cR (by rw [hk]; exact mm_rsA h2)
  refine W.aald (v := va_rf (mm_p M a j)) (ty := .object C) hx hb hA ((hK.2 t _ (ht G.2.1)).1 _ _) rfl (fun q => by cases q) (by rw [arrV_size]; exact mm_ix hm hj) (by rw [nI_clamp (by omega), arrV_read _ _ hj, e1]) rfl rfl hd k1
/-- an array's cell is written -/
theorem mm_T.arr {M1 : mm_M} {s : State} {H H1 : Heap} {locs : List Loc} {a t i : Nat} (hT : mm_T G M0 M s H locs) (hk : mm_k M a = 100 + t) (h5 : t ≠ 5) (z : H1.size = H.size) (oq : ∀ q : Nat, q ≠ a → H1[q]? = H[q]?) (e0 : mm_z M1 = mm_z M) (e1 : ∀ b, mm_k M1 b = mm_k M b) (e2 : ∀ b, mm_l M1 b = mm_l M b) (e3 : ∀ b, b ≠ a → ∀ j, mm_i M1 b j = mm_i M b j) (e4 : ∀ b, b ≠ a → ∀ j, mm_p M1 b j = mm_p M b j) (ha : H1[a]? = some (arrV (G.2.1 t) (mm_l M a) (mm_c M1 a))) : mm_T G M0 M1 s H1 (locs ++ [⟨a, i⟩]) := by
  obtain ⟨h6, hba, hA⟩ := mm_arr hT.1 hk
  refine ⟨hT.1.put z oq e0 e1 e2 e3 e4 (Or.inr ?_), hT.2.1.put z oq (mm_A.of hT.2.2 ⟨hba h5, Or.inl (by rw [hk]; omega)⟩), ?_⟩
  · rw [e1, e2, hk]
    exact ⟨by omega, by omega, fun _ => hba h5, by rw [show 100 + t - 100 = t by omega]; exact ha⟩
  · refine ⟨by rw [e0]; exact hT.2.2.1, fun b hb => ?_, fun b hb => ?_⟩
    · rw [e1, e2]
      exact hT.2.2.2.1 b hb
    · rw [e1] at hb
      exact hT.2.2.2.2 b hb
theorem mr_iast {a j : Nat} {o : Option Nat} {x y : Int32} (hd : decode Y.1 pc = .ok (.iastore, 1)) (ho : o = some a) (hk : mm_k M a = 100) (hx : x = nI j) (hm : j < 2147483648) (hj : j < mm_l M a)
    (kk : mm_Zq l G Y Ex Qf M0 bc bs (pc + 1) ls st (mm_si M a j y)) : mm_Zq l G Y Ex Qf M0 bc bs pc ls (.inl y :: .inl x :: .inr o :: st) M := by
  subst ho hx
  intro p e s m args below meth c H locs cells slots la hJ hT hL hc hs
  have hJ0 := hJ
  obtain ⟨h6, -, hA⟩ := mm_arr (t := 0) hT.1 hk
  obtain ⟨hx, hb, -, -, -, -, hown, hts, ⟨hK, -, -, -⟩, -⟩ := hJ
  refine W.iast hx hb hA ((hK.2 0 _ rfl).1 _ _) (fun q => by cases q) (by rw [arrV_size]; exact mm_ix hm hj) rfl rfl hd fun H1 g1 g2 g3 => ?_
  refine kk p e s m args below meth c H1 _ cells slots la hJ0 (hT.arr (t := 0) hk (by decide) g2 g3 rfl (fun _ => rfl) (fun _ => rfl) (fun b hb j' => by rw [mm_i_si, if_neg (fun q => hb q.1)]) (fun _ _ _ => rfl) ?_) hL hc hs
  rw [g1, arrV_store, nI_clamp (by omega)]
  congr 2
  funext q
  unfold updV mm_c
  rw [mm_k_si, hk, mm_p_si, mm_i_si]
  by_cases hq : q = j
  · subst hq
    simp [mm_rs]
  · simp [hq]
theorem mr_zast {a j : Nat} {o : Option Nat} {x y : Int32} (hd : decode Y.1 pc = .ok (.bastore, 1)) (ho : o = some a) (hk : mm_k M a = 101) (hx : x = nI j) (hm : j < 2147483648) (hj : j < mm_l M a) (hy : y = 0 ∨ y = 1)
    (kk : mm_Zq l G Y Ex Qf M0 bc bs (pc + 1) ls st (mm_si M a j y)) : mm_Zq l G Y Ex Qf M0 bc bs pc ls (.inl y :: .inl x :: .inr o :: st) M := by
  subst ho hx
  intro p e s m args below meth c H locs cells slots la hJ hT hL hc hs
  have hJ0 := hJ
  obtain ⟨h6, -, hA⟩ := mm_arr (t := 1) hT.1 hk
  obtain ⟨hx, hb, -, -, -, -, hown, hts, ⟨hK, -, -, -⟩, -⟩ := hJ
  refine W.zast hx hb hA ((hK.2 1 _ rfl).1 _ _) (fun q => by cases q) (by rw [arrV_size]; exact mm_ix hm hj) rfl rfl hd fun H1 g1 g2 g3 => ?_
  refine kk p e s m args below meth c H1 _ cells slots la hJ0 (hT.arr (t := 1) hk (by decide) g2 g3 rfl (fun _ => rfl) (fun _ => rfl) (fun b hb j' => by rw [mm_i_si, if_neg (fun q => hb q.1)]) (fun _ _ _ => rfl) ?_) hL hc hs
  have hn : narrow .boolean (.int y) = .int y := by rcases hy with rfl | rfl <;> decide
  rw [g1, hn, arrV_store, nI_clamp (by omega)]
  congr 2
  funext q
  unfold updV mm_c
  rw [mm_k_si, hk, mm_p_si, mm_i_si]
  by_cases hq : q = j
  · subst hq
    simp [mm_rs]
  · simp [hq]
/-- an object of class number ci may stand in an array of E -/
def mm_As (E : String) (ci : Nat) : Prop := ci < 99 ∧ ∃ (C : String) (T : u_T) (N : Nat), vwCl[ci]? = some (C, T, N) ∧ (C = E ∨ Cond.castable C E ∈ lw_tbl.filter mm_isN)
theorem mm_any {s : State} {H : Heap} {E : String} {ci v : Nat} (hCx : mm_Cx G s) (hH : mm_H G M H) (hv : mm_k M v = ci + 1) (ha : mm_As E ci) : va_Any E s H v := by
  obtain ⟨hci, C, T, N, hcl, hc⟩ := ha
  obtain ⟨-, r, hr, -, cell, q1, q2, q3, -⟩ := mm_obj hH hv hci
  obtain ⟨hK, -, hN, -⟩ := hCx
  have hkn := hK.1 ci _ hcl
  obtain ⟨-, hfc, kC, hkC, hkind⟩ := hkn
  refine ⟨cell, q1, by rw [q3]; rfl, ⟨kC, by rw [q2]; exact hkC⟩, fun comp h => ?_⟩
  rw [q2]
  rcases hc with h1 | h1
  · subst h1
    have : comp = G.1.1 ci := Option.some.inj (h.symm.trans hfc)
    rw [this]
    exact va_assign ⟨hfc, kC, hkC, hkind⟩
  · obtain ⟨c0, t0, f1, f2, f3⟩ := Cond.castable_spec (va_Nw.use (A := #[]) rfl (hN _ h1))
    cases hfc.symm.trans f1
    cases h.symm.trans f2
    exact f3
theorem mr_aast {a j t : Nat} {o v : Option Nat} {x : Int32} {E : String} (hd : decode Y.1 pc = .ok (.aastore, 1)) (ho : o = some a) (hk : mm_k M a = 100 + t) (ht : ∀ E', (mm_tys E')[t]? = some (E' t, .object E)) (h2 : 2 ≤ t) (h5 : t ≠ 5) (hx : x = nI j) (hm : j < 2147483648) (hj : j < mm_l M a) (hv : ∀ q, v = some q → ∃ ci, mm_k M q = ci + 1 ∧ mm_As E ci)
    (kk : mm_Zq l G Y Ex Qf M0 bc bs (pc + 1) ls st (mm_sp M a j v)) : mm_Zq l G Y Ex Qf M0 bc bs pc ls (.inr v :: .inl x :: .inr o :: st) M := by
  subst ho hx
  intro p e s m args below meth c H locs cells slots la hJ hT hL hc hs
  have hJ0 := hJ
  obtain ⟨h6, -, hA⟩ := mm_arr hT.1 hk
  obtain ⟨hx, hb, -, -, -, -, hown, hts, hCx, -⟩ := hJ
  have hK := hCx.1
  have fin : ∀ H1 : Heap, H1[a]? = some ((arrV (G.2.1 t) (mm_l M a) (mm_c M a)).setSlot (nI j).toNatClampNeg (va_rf v)) → H1.size = H.size → (∀ q, q ≠ a → H1[q]? = H[q]?) → W p l e Y.2.2.2.2.2 s m args below meth c H1 (locs ++ [⟨a, (nI j).toNatClampNeg⟩]) cells slots (Qf below args s) (F0 m (pc + 1) la (st.map mm_v)) := by
    intro H1 g1 g2 g3
    refine kk p e s m args below meth c H1 _ cells slots la hJ0 (hT.arr hk h5 g2 g3 rfl (fun _ => rfl) (fun _ => rfl) (fun _ _ _ => rfl) (fun b hb j' => by rw [mm_p_sp, if_neg (fun q => hb q.1)]) ?_) hL hc hs
    rw [g1, arrV_store, nI_clamp (by omega)]
    congr 2
    funext q
    have hrs : mm_rs (100 + t) q = true := mm_rsA h2
    unfold updV mm_c
    rw [mm_k_sp, hk, mm_i_sp, mm_p_sp, if_pos hrs, if_pos hrs]
    by_cases hq : q = j
    · subst hq
      simp
    · simp [hq]
  cases v with
  | none => exact va_WaastN (C := E) hx hb hA ((hK.2 t _ (ht G.2.1)).1 _ _) (fun h => by cases h) (by rw [arrV_size]; exact mm_ix hm hj) rfl rfl hd fin
  | some q =>
    obtain ⟨ci, hq, hAs⟩ := hv q rfl
    obtain ⟨cellV, g1, g3, ⟨kC, hkC⟩, hasg⟩ := mm_any hCx hT.1 hq hAs
    obtain ⟨kA, comp, k1, k2, k3, -⟩ := (hK.2 t _ (ht G.2.1)).2
    obtain ⟨kE, hkE, -⟩ := Vm.findClass_spec k3
    exact W.aast hx hb hA (fun q h => by cases h) (fun h => by cases h) k1 k2 rfl hkE ⟨nI_pos (by omega), by rw [arrV_size, nI_clamp (by omega)]; exact hj⟩ g1 (fun q h => by rw [h] at g3; cases g3) hkC (hasg _ k3) rfl rfl hd fin
-- new cells
def mm_Fn (own : String) (idx ci : Nat) (C : String) (T : u_T) (N : Nat) : Prop :=
  ci < 99 ∧ vwCl[ci]? = some (C, T, N) ∧ (∀ w ∈ u_ws C T N, w ∈ mm_B) ∧ Cond.classLink own idx C ∈ mm_B ∧ Cond.instantiable C N ∈ mm_B ∧ Cond.initialized C ∈ mm_B ∧ ∃ ty : Nat → FieldType, (∀ k, k < N → parseFieldDescriptor (T k).2.2.1 = some (ty k)) ∧ ∀ k, k < N → defaultValue (ty k) = if mm_rd (T k).2.2.1 = true then .null else .int 0
theorem mr_new {idx ci : Nat} {C : String} {T : u_T} {N : Nat} (hF : mm_Fn Y.2.1 idx ci C T N) (hd : decode Y.1 pc = .ok (.new idx, 3))
    (kk : mm_Zq l G Y Ex Qf M0 bc bs (pc + 3) ls (.inr (some (mm_z M)) :: st) (mm_nw M (ci + 1) N)) : mm_Zq l G Y Ex Qf M0 (bc + 1) (bs + N) pc ls st M := by
  intro p e s m args below meth c H locs cells slots la hJ hT hL hc hs
  have hJ0 := hJ
  obtain ⟨hx, hb, -, -, -, -, hown, hts, ⟨hK, hE, hNn, hbs⟩, hsz⟩ := hJ
  obtain ⟨hci, hcl, hin, h1, h2, h3, ty, hty, hdf⟩ := hF
  have hKn := hK.1 ci _ hcl
  refine W.newcK hx hb hown (hts _ h1) (hts _ h2) (hts _ h3) rfl hd (by omega) (by omega) hKn.2.1 hT.1.1 fun H1 kC hkC e1 z1 o1 => ?_
  have z1' : H1.size = H.size + 1 := by rw [z1, hT.1.1]
  have o1' : ∀ q, q < H.size → H1[q]? = H[q]? := fun q hq => o1 q (by rw [← hT.1.1]; exact hq)
  have hba : G.2.2.1 ≤ mm_z M := by
    have h4 := hT.2.1.1
    rw [hT.1.1] at h4
    omega
  refine kk p e s m args below meth c H1 locs (cells + 1) (slots + N) la hJ0 ⟨hT.1.new z1' o1' (Or.inl ?_), ⟨by have := hT.2.1.1; omega, fun q g1 g2 => (o1' q (Nat.lt_of_lt_of_le g1 hT.2.1.1)).trans (hT.2.1.2.1 q g1 g2), hT.2.1.2.2⟩, hT.2.2.nw hT.1⟩ hL (by omega) (by omega)
  have hkk : mm_k (mm_nw M (ci + 1) N) (mm_z M) = ci + 1 := by rw [mm_k_nw, if_pos rfl]
  rw [hkk]
  refine ⟨by omega, hba, _, hcl, by rw [mm_l_nw, if_pos rfl], (u_born ty hts hin hKn hkC e1 hty).to (fun k hk => ?_)⟩
  rw [hdf k hk]
  unfold mm_c
  rw [hkk, mm_rsO hci hcl, mm_p_nw, mm_i_nw, if_pos (rfl : mm_z M = mm_z M), if_pos (rfl : mm_z M = mm_z M)]
  rfl
theorem mr_newa {t n : Nat} {x : Int32} {atype : ArrayType} {ty : FieldType} (hd : decode Y.1 pc = .ok (.newarray atype, 2)) (hty : newarray.typeOf atype = ty) (hw : Cond.arrayClass ty ∈ mm_B) (ht : (t = 0 ∧ ty = .int) ∨ (t = 1 ∧ ty = .boolean)) (hx : x = nI n) (hn : n < 100000)
    (kk : mm_Zq l G Y Ex Qf M0 bc bs (pc + 2) ls (.inr (some (mm_z M)) :: st) (mm_nw M (100 + t) n)) : mm_Zq l G Y Ex Qf M0 (bc + 1) (bs + n) pc ls (.inl x :: st) M := by
  subst hx hty
  intro p e s m args below meth c H locs cells slots la hJ hT hL hc hs
  have hJ0 := hJ
  obtain ⟨hx, hb, -, -, -, -, hown, hts, ⟨hK, hE, hNn, hbs⟩, hsz⟩ := hJ
  have hb2 : n * componentBytes (newarray.typeOf atype) ≤ 536870912 := by
    have hc8 : componentBytes (newarray.typeOf atype) ≤ 8 := by cases atype <;> decide
    calc n * componentBytes (newarray.typeOf atype) ≤ n * 8 := Nat.mul_le_mul_left n hc8
      _ ≤ 536870912 := by omega
  refine va_newaK hx hb (hts _ hw) rfl hd rfl (nI_pos (by omega)) (nI_clamp (by omega)) hb2 (by omega) (by omega) hT.1.1 fun H1 cA e1 z1 o1 hAr hNm => ?_
  have z1' : H1.size = H.size + 1 := by rw [z1, hT.1.1]
  have o1' : ∀ q, q < H.size → H1[q]? = H[q]? := fun q hq => o1 q (by rw [← hT.1.1]; exact hq)
  have hba : G.2.2.1 ≤ mm_z M := by
    have h4 := hT.2.1.1
    rw [hT.1.1] at h4
    omega
  refine kk p e s m args below meth c H1 locs (cells + 1) (slots + n) la hJ0 ⟨hT.1.new z1' o1' (Or.inr ?_), ⟨by have := hT.2.1.1; omega, fun q g1 g2 => (o1' q (Nat.lt_of_lt_of_le g1 hT.2.1.1)).trans (hT.2.1.2.1 q g1 g2), hT.2.1.2.2⟩, hT.2.2.nw hT.1⟩ hL (by omega) (by omega)
  have hkk : mm_k (mm_nw M (100 + t) n) (mm_z M) = 100 + t := by rw [mm_k_nw, if_pos rfl]
  rw [hkk]
  refine ⟨by omega, by rcases ht with ⟨rfl, -⟩ | ⟨rfl, -⟩ <;> omega, fun _ => hba, ?_⟩
  rw [e1, mm_l_nw, if_pos rfl, show 100 + t - 100 = t by omega]
  have hcA : cA = G.2.1 t := by
    rcases ht with ⟨rfl, h⟩ | ⟨rfl, h⟩
    · have h3 := (hK.2 0 _ rfl).2
      rw [h] at hNm
      exact Option.some.inj (hNm.symm.trans h3)
    · have h3 := (hK.2 1 _ rfl).2
      rw [h] at hNm
      exact Option.some.inj (hNm.symm.trans h3)
  rw [hcA]
  congr 2
  funext q
  rw [mm_cI (by rw [hkk]; rcases ht with ⟨rfl, -⟩ | ⟨rfl, -⟩ <;> rfl), mm_i_nw, if_pos (rfl : mm_z M = mm_z M)]
  rcases ht with ⟨-, h⟩ | ⟨-, h⟩ <;> rw [h] <;> rfl
theorem mr_newq {t n idx : Nat} {x : Int32} {C : String} (hd : decode Y.1 pc = .ok (.anewarray idx, 3)) (hw : Cond.classLink Y.2.1 idx C ∈ mm_B) (hov : Cond.arrayOver (.object C) ∈ lw_tbl.filter mm_isN) (h2 : 2 ≤ t) (h5 : t < 5) (ht : ∀ E', (mm_tys E')[t]? = some (E' t, .object C)) (hx : x = nI n) (hn : n < 100000)
    (kk : mm_Zq l G Y Ex Qf M0 bc bs (pc + 3) ls (.inr (some (mm_z M)) :: st) (mm_nw M (100 + t) n)) : mm_Zq l G Y Ex Qf M0 (bc + 1) (bs + n) pc ls (.inl x :: st) M := by
  subst hx
  intro p e s m args below meth c H locs cells slots la hJ hT hL hc hs
  have hJ0 := hJ
  obtain ⟨hx, hb, -, -, -, -, hown, hts, ⟨hK, hE, hNn, hbs⟩, hsz⟩ := hJ
  have hcl : (nI n).toNatClampNeg = n := nI_clamp (by omega)
  refine W.anew hx hb hown (hts _ hw) (va_AO.use (hNn _ hov)) rfl hd rfl (nI_pos (by omega)) (by rw [hcl]; omega) (by omega) (by rw [hcl]; omega) fun cA kA comp f1 f2 f3 f4 => ?_
  rw [hcl, hT.1.1]
  generalize hH1 : H.push ({ cls := cA, slots := Array.replicate n .null, vm := .none } : Cell) = H1
  have z1' : H1.size = H.size + 1 := by rw [← hH1, Array.size_push]
  have e1 : H1[H.size]? = some (arrV cA n (fun _ => .null)) := by rw [← hH1, Array.getElem?_push_size, ← arrV_new]
  have o1' : ∀ q, q < H.size → H1[q]? = H[q]? := fun q hq => by rw [← hH1, Array.getElem?_push, if_neg (Nat.ne_of_lt hq)]
  have hba : G.2.2.1 ≤ mm_z M := by
    have h4 := hT.2.1.1
    rw [hT.1.1] at h4
    omega
  refine kk p e s m args below meth c H1 locs (cells + 1) (slots + n) la hJ0 ⟨hT.1.new z1' o1' (Or.inr ?_), ⟨by have := hT.2.1.1; omega, fun q g1 g2 => (o1' q (Nat.lt_of_lt_of_le g1 hT.2.1.1)).trans (hT.2.1.2.1 q g1 g2), hT.2.1.2.2⟩, hT.2.2.nw hT.1⟩ hL (by omega) (by omega)
  have hkk : mm_k (mm_nw M (100 + t) n) (mm_z M) = 100 + t := by rw [mm_k_nw, if_pos rfl]
  rw [hkk]
  refine ⟨by omega, by omega, fun _ => hba, ?_⟩
  rw [← hT.1.1, e1, hT.1.1, mm_l_nw, if_pos rfl, show 100 + t - 100 = t by omega]
  have hcA : cA = G.2.1 t := by
    obtain ⟨_, _, _, _, _, h3⟩ := (hK.2 t _ (ht G.2.1)).2
    exact Option.some.inj (f1.symm.trans h3)
  rw [hcA]
  congr 2
  funext q
  rw [mm_cR (by rw [hkk]; exact mm_rsA h2), mm_p_nw, if_pos (rfl : mm_z M = mm_z M)]
  rfl
-- a cast
theorem mr_cast {idx ci : Nat} {nm : String} {o : Option Nat} (hd : decode Y.1 pc = .ok (.checkcast idx, 3)) (hw : Cond.classLink Y.2.1 idx nm ∈ mm_B) (ho : ∀ a, o = some a → mm_k M a = ci + 1) (hA : mm_As nm ci)
    (kk : mm_Zq l G Y Ex Qf M0 bc bs (pc + 3) ls (.inr o :: st) M) : mm_Zq l G Y Ex Qf M0 bc bs pc ls (.inr o :: st) M := by
  intro p e s m args below meth c H locs cells slots la hJ hT hL hc hs
  have k1 := kk p e s m args below meth c H locs cells slots la hJ hT hL hc hs
  obtain ⟨hx, hb, -, -, -, -, hown, hts, hCx, hsz⟩ := hJ
  cases o with
  | none => exact lv_castN hx hb hd k1
  | some a =>
    obtain ⟨hci, C, T, N, hcl, hC⟩ := hA
    obtain ⟨-, r, hr, -, cell, q1, q2, q3, -⟩ := mm_obj hT.1 (ho a rfl) hci
    have hkn := (hCx.1.1 ci _ hcl).2
    rcases hC with h | h
    · subst h
      exact va_castS hx hb hown (hts _ hw) hkn ⟨cell, q1, by rw [q3]; rfl, by rw [q2]; exact hkn.1⟩ hd k1
    · exact va_castY hx hb hown (hts _ hw) (hCx.2.2.1 _ h) ⟨cell, q1, by rw [q3]; rfl, by rw [q2]; exact hkn.1⟩ hd k1
-- the empty list's array
theorem mr_empty {idx : Nat} {ref : String} (hd : decode Y.1 pc = .ok (.getstatic idx, 3)) (hw : Cond.fieldLink Y.2.1 idx ref "DEFAULTCAPACITY_EMPTY_ELEMENTDATA" "[Ljava/lang/Object;" ∈ mm_B) (hr : ref = "java/util/ArrayList")
    (kk : mm_Zq l G Y Ex Qf M0 bc bs (pc + 3) ls (.inr (some G.2.2.2.1) :: st) M) : mm_Zq l G Y Ex Qf M0 bc bs pc ls st M := by
  subst hr
  intro p e s m args below meth c H locs cells slots la hJ hT hL hc hs
  have k1 := kk p e s m args below meth c H locs cells slots la hJ hT hL hc hs
  obtain ⟨hx, hb, -, -, -, -, hown, hts, hCx, hsz⟩ := hJ
  have hS : va_S (fun q => G.2.2.1 ≤ q) s.heap H locs := ⟨hT.2.1.1, fun q h1 h2 => hT.2.1.2.1 q h1 (fun z => h2 z.1), fun q hq => (hT.2.1.2.2 q hq).1⟩
  exact va_gets hx hb hCx.2.1.1 hS hown (hts _ hw) (fun x h => h) hd k1
end RW2
end
section
/-! CALLS -/
theorem mm_Cx.same {G : mm_G} {u U : State} (hv : u.vm = U.vm) (hh : u.heap = U.heap) (h : mm_Cx G u) : mm_Cx G U := by
  have hal : u.vm.Alike U.vm := hv ▸ Vm.Alike.refl u.vm
  refine ⟨va_K.moved hal h.1, ?_, fun w hw => ?_, by rw [← hh]; exact h.2.2.2⟩
  · rw [← hh]
    exact ⟨va_Z.moved hal h.2.1.1, va_Mi.moved hal h.2.1.2⟩
  · have hn := (List.mem_filter.mp hw).2
    have h1 := h.2.2.1 w hw
    unfold mm_isN at hn
    split at hn
    · exact va_Nw.same rfl hv h1
    · exact va_Nw.same rfl hv h1
    · exact va_Nw.same rfl hv h1
    · exact va_Nw.same rfl hv h1
    · exact va_AO.moved hal h1
    · cases hn
theorem mm_Cx.later {G : mm_G} {s U : State} (hW : s.WarmedH U.vm) (hz : s.heap.size ≤ U.heap.size) (hq : ∀ a : Nat, a < s.heap.size → ¬ G.2.2.1 ≤ a → U.heap[a]? = s.heap[a]?) (h : mm_Cx G s) : mm_Cx G U := by
  refine ⟨va_K.moved hW.alike h.1, ⟨(va_Z.moved hW.alike h.2.1.1).kept hq, va_Mi.moved hW.alike h.2.1.2⟩, fun w hw => mm_isN.moved (List.mem_filter.mp hw).2 hW (h.2.2.1 w hw), Nat.le_trans h.2.2.2 hz⟩
theorem mm_sumcat (st : List mm_V) : ((st.map mm_v).map fun v => v.category).sum = st.length := by
  induction st with
  | nil => rfl
  | cons v t ih =>
    simp only [List.map_cons, List.sum_cons, List.length_cons, mm_v_cat]
    rw [ih]
    omega
section RW3
variable {l : Launch} {G : mm_G} {Y : mm_Y} {K : Option mm_V → mm_M → Prop} {Ex : State → Array Value → Prop} {Qf : List Frame → Array Value → State → State → Prop} {M0 M : mm_M} {bc bs pc : Nat} {ls : List (Option mm_V)} {st : List mm_V}
theorem mm_blind {vs : List mm_V} : FrameBlind (va_Pc (vs.map mm_v) (fun U => mm_Cx G U ∧ mm_H G M U.heap)) := by
  intro a U g mk q
  obtain ⟨q0, q1, q2⟩ := q
  exact ⟨q0, mm_Cx.same (u := U) (U := U.calling g mk a) rfl rfl q1, q2⟩
theorem mm_pre {vs : List mm_V} {p : Program} {s : State} {m : MethodId} {args : Array Value} {meth : Method} {c : Code} {H : Heap} {locs : List Loc} (hJ : mm_J G Y Ex M0 p s m args meth c) (hT : mm_T G M0 M s H locs) : ∀ U : State, U.heap = H → s.WarmedH U.vm → va_Pc (vs.map mm_v) (fun U => mm_Cx G U ∧ mm_H G M U.heap) (vs.map mm_v).toArray U := by
  intro U hU hW
  refine ⟨rfl, mm_Cx.later hW (by rw [hU]; exact hT.2.1.1) (fun a h1 h2 => by rw [hU]; exact hT.2.1.2.1 a h1 (fun z => h2 z.1)) hJ.2.2.2.2.2.2.2.2.1, by rw [hU]; exact hT.1⟩
theorem mm_ret {K' : Option mm_V → mm_M → Prop} {mc ms : Nat} {p : Program} {e : Env} {s : State} {m : MethodId} {args : Array Value} {below : List Frame} {meth : Method} {c : Code} {H : Heap} {locs : List Loc} {cells slots : Nat} {la : Array Slot} {st0 : List Value} {a : Array Value}
    (hr : va_Run p l e Y.2.2.2.2.2 s m args below meth c H locs cells slots mc ms (F0 m pc la st0) (st.map mm_v) (mm_Q G K' M a) (mm_A G M)) (hJ : mm_J G Y Ex M0 p s m args meth c) (hT : mm_T G M0 M s H locs) (hL : mm_L la Y.2.2.1 ls) (hc : cells + (bc + mc) ≤ Y.2.2.2.2.2.cells) (hs : slots + (bs + ms) ≤ Y.2.2.2.2.2.slots)
    (kk : ∀ r M1, mm_X M M1 → K' r M1 → mm_Zq l G Y Ex Qf M0 bc bs (pc + 3) ls (r.toList ++ st) M1) : W p l e Y.2.2.2.2.2 s m args below meth c H locs cells slots (Qf below args s) (F0 m pc la st0) := by
  intro T hT0 X
  obtain ⟨v, st₀, t, T', L, h0, X', hLc, e1, e2, ⟨r, M1, hv, hH1, hX1, hK1, hF⟩, hgo⟩ := hr T hT0 X
  have hvr : v = r.map mm_v := by
    cases hv
    rfl
  subst hvr
  have hz : H.size ≤ T'.heap.size := by rw [e1, ← h0]; exact hF.1
  have k1 := kk r M1 hX1 hK1 p e s m args below meth c T'.heap (locs ++ L) (cells + mc) (slots + ms) la hJ ⟨by rw [e1]; exact hH1, ⟨Nat.le_trans hT.2.1.1 hz, fun q g1 g2 => ?_, fun q hq => ?_⟩, hT.2.2.tr hX1⟩ hL (by omega) (by omega)
  · obtain ⟨t2, a1, b1⟩ := k1 T' rfl X'
    have est : (r.toList ++ st).map mm_v = (r.map mm_v).toList ++ st.map mm_v := by
      cases r <;> rfl
    rw [est] at a1
    exact ⟨t2, hgo t2 a1, b1⟩
  · rw [e1, hF.2 q (by rw [h0]; exact Nat.lt_of_lt_of_le g1 hT.2.1.1) (fun z => g2 (mm_A.of hT.2.2 z)), h0]
    exact hT.2.1.2.1 q g1 g2
  · rcases List.mem_append.mp hq with h | h
    · exact hT.2.1.2.2 q h
    · exact mm_A.of hT.2.2 (hLc q h)
/-- what a call stands on -/
def mm_Fc (own : String) (idx : Nat) (y : MethodName) (Yc : mm_Y) (n : Nat) : Prop :=
  Cond.code y Yc.1 Yc.2.2.1 Yc.2.2.2.1 ∈ mm_B ∧ Cond.initialized y.cls ∈ mm_B ∧ (y.cls ≠ "java/lang/invoke/MethodHandle" ∧ y.cls ≠ "java/lang/invoke/VarHandle" ∧ (parseMethodDescriptor y.desc).map (fun d => d.parameters.length) = some n) ∧ (Cond.methodLink own idx y ∈ mm_B ∨ ∃ host : String, Cond.methodLinkNest own idx y host ∈ lw_tbl.filter mm_isN)
def mm_Rm (R Rc : Room) (nL : Nat) : Prop := Rc.frames + 1 ≤ R.frames ∧ 8 + (nL + 11) + Rc.locals ≤ R.locals
theorem mm_wsB {y : MethodName} {Yc : mm_Y} (h : Cond.code y Yc.1 Yc.2.2.1 Yc.2.2.2.1 ∈ mm_B) : GoodIn mm_B (mm_ws y Yc) := mm_goodB (fun w hw => by
  rcases List.mem_cons.mp hw with h1 | h1
  · rw [h1]; exact h
  · exact h1)
theorem mr_callV {idx ci b : Nat} {y : MethodName} {Yc : mm_Y} {vs : List mm_V} {st0 : List mm_V} {o : Option Nat} {K' : Option mm_V → mm_M → Prop} {T : u_T} {N : Nat} (hF : mm_Fc Y.2.1 idx y Yc vs.length) (h1 : Cond.instanceMethod y ∈ mm_B) (h2 : Cond.selects y.cls y y ∈ mm_B) (hd : decode Y.1 pc = .ok (.invokevirtual idx, 3)) (hR : mm_Rm Y.2.2.2.2.2 Yc.2.2.2.2.2 Yc.2.2.1) (hci : ci < 99) (hcl : vwCl[ci]? = some (y.cls, T, N)) (hst : st0 = vs.reverse ++ .inr o :: st) (hlen : st.length ≤ 8) (ho : o = some b) (hk : mm_k M b = ci + 1) (hOk : mm_Ok l G y Yc (.inr (some b) :: vs) M K')
    (kk : ∀ r M1, mm_X M M1 → K' r M1 → mm_Zq l G Y Ex Qf M0 bc bs (pc + 3) ls (r.toList ++ st) M1) : mm_Zq l G Y Ex Qf M0 (bc + Yc.2.2.2.2.2.cells) (bs + Yc.2.2.2.2.2.slots) pc ls st0 M := by
  subst hst ho
  intro p e s m args below meth c H locs cells slots la hJ hT hL hc hs
  have hJ0 := hJ
  obtain ⟨hx, hb, hml, -, -, -, hown, hts, hCx, hsz⟩ := hJ
  obtain ⟨hcode, hini, hy, hlk⟩ := hF
  obtain ⟨-, r, hr, -, cell, q1, q2, q3, -⟩ := mm_obj hT.1 hk hci
  have hkn := (hCx.1.1 ci _ hcl).2.1
  have hpre : PreV s H y.cls b (va_Pc ((.inr (some b) :: vs).map mm_v) (fun U => mm_Cx G U ∧ mm_H G M U.heap)) (vs.map mm_v) := ⟨mm_blind, ⟨cell, q1, by rw [q3]; rfl, by rw [q2]; exact hkn⟩, mm_pre (vs := .inr (some b) :: vs) hJ0 hT⟩
  have hstk : ((vs.reverse ++ .inr (some b) :: st).map mm_v) = (vs.map mm_v).reverse ++ .ref b :: st.map mm_v := by
    rw [List.map_append, List.map_reverse]
    rfl
  have hroom : 2 * (F0 m pc la ((vs.reverse ++ .inr (some b) :: st).map mm_v)).monitorRoom + ((st.map mm_v).map fun v => v.category).sum ≤ 8 := lv_room (by rw [mm_sumcat]; exact hlen)
  rcases hlk with h | ⟨host, h⟩
  · have cw : CallW Y.2.2.2.2.2 s args Y.2.1 y.cls idx y Yc.1 Yc.2.2.1 Yc.2.2.2.1 (mm_ws y Yc) Yc.2.2.2.2.2 Yc.2.2.2.2.2.cells Yc.2.2.2.2.2.slots vs.length := ⟨callB_of _ hts (mm_wsB hcode) rfl rfl rfl (hts _ hini) (hts _ h) hy hR, hts _ h1, hts _ h2⟩
    exact mm_ret (va_runV (Ts := mm_B) ⟨hx, hb, hml, hown, hts⟩ hOk cw hpre rfl (by simp) hL.1 hstk hroom hd ⟨by omega, by omega⟩) hJ0 hT hL hc hs kk
  · have cw : va_CN Y.2.2.2.2.2 s args Y.2.1 idx y host Yc.1 Yc.2.2.1 Yc.2.2.2.1 (mm_ws y Yc) Yc.2.2.2.2.2 Yc.2.2.2.2.2.cells Yc.2.2.2.2.2.slots vs.length := va_cnB _ hts (mm_wsB hcode) rfl rfl rfl (hCx.2.2.1 _ h) (hts _ hini) hy hR
    exact mm_ret (va_runVN (Ts := mm_B) ⟨hx, hb, hml, hown, hts⟩ hOk ⟨cw, hts _ h1, hts _ h2⟩ hpre rfl (by simp) hL.1 hstk hroom hd ⟨by omega, by omega⟩) hJ0 hT hL hc hs kk
theorem mr_callI {idx b : Nat} {y : MethodName} {Yc : mm_Y} {vs : List mm_V} {st0 : List mm_V} {o : Option Nat} {K' : Option mm_V → mm_M → Prop} (hF : mm_Fc Y.2.1 idx y Yc vs.length) (h1 : Cond.instanceMethod y ∈ mm_B) (h2 : y.name = "<init>" ∧ Yc.2.2.2.1 = none) (hd : decode Y.1 pc = .ok (.invokespecial idx, 3)) (hR : mm_Rm Y.2.2.2.2.2 Yc.2.2.2.2.2 Yc.2.2.1) (hst : st0 = vs.reverse ++ .inr o :: st) (hlen : st.length ≤ 8) (ho : o = some b) (hOk : mm_Ok l G y Yc (.inr (some b) :: vs) M K')
    (kk : ∀ r M1, mm_X M M1 → K' r M1 → mm_Zq l G Y Ex Qf M0 bc bs (pc + 3) ls (r.toList ++ st) M1) : mm_Zq l G Y Ex Qf M0 (bc + Yc.2.2.2.2.2.cells) (bs + Yc.2.2.2.2.2.slots) pc ls st0 M := by
  subst hst ho
  intro p e s m args below meth c H locs cells slots la hJ hT hL hc hs
  have hJ0 := hJ
  obtain ⟨hx, hb, hml, -, -, -, hown, hts, hCx, hsz⟩ := hJ
  obtain ⟨hcode, hini, hy, hlk⟩ := hF
  have hpre : PreS s H (va_Pc ((.inr (some b) :: vs).map mm_v) (fun U => mm_Cx G U ∧ mm_H G M U.heap)) (.ref b :: vs.map mm_v) := ⟨mm_blind, mm_pre (vs := .inr (some b) :: vs) hJ0 hT⟩
  have hstk : ((vs.reverse ++ .inr (some b) :: st).map mm_v) = (vs.map mm_v).reverse ++ .ref b :: st.map mm_v := by
    rw [List.map_append, List.map_reverse]
    rfl
  have hroom : 2 * (F0 m pc la ((vs.reverse ++ .inr (some b) :: st).map mm_v)).monitorRoom + ((st.map mm_v).map fun v => v.category).sum ≤ 8 := lv_room (by rw [mm_sumcat]; exact hlen)
  rcases hlk with h | ⟨host, h⟩
  · have cw : CallB Y.2.2.2.2.2 s args Y.2.1 idx y Yc.1 Yc.2.2.1 none (mm_ws y Yc) Yc.2.2.2.2.2 Yc.2.2.2.2.2.cells Yc.2.2.2.2.2.slots vs.length := h2.2 ▸ callB_of _ hts (mm_wsB hcode) rfl rfl rfl (hts _ hini) (hts _ h) hy hR
    exact mm_ret (va_runI (Ts := mm_B) ⟨hx, hb, hml, hown, hts⟩ hOk ⟨cw, h2.1, hts _ h1⟩ hpre rfl (by simp) hL.1 hstk hroom hd ⟨by omega, by omega⟩) hJ0 hT hL hc hs kk
  · have cw : va_CN Y.2.2.2.2.2 s args Y.2.1 idx y host Yc.1 Yc.2.2.1 none (mm_ws y Yc) Yc.2.2.2.2.2 Yc.2.2.2.2.2.cells Yc.2.2.2.2.2.slots vs.length := h2.2 ▸ va_cnB _ hts (mm_wsB hcode) rfl rfl rfl (hCx.2.2.1 _ h) (hts _ hini) hy hR
    exact mm_ret (va_runIN (Ts := mm_B) ⟨hx, hb, hml, hown, hts⟩ hOk ⟨cw, h2.1, hts _ h1⟩ hpre rfl (by simp) hL.1 hstk hroom hd ⟨by omega, by omega⟩) hJ0 hT hL hc hs kk
theorem mr_callS {idx : Nat} {y : MethodName} {Yc : mm_Y} {vs : List mm_V} {st0 : List mm_V} {K' : Option mm_V → mm_M → Prop} (hF : mm_Fc Y.2.1 idx y Yc vs.length) (h1 : Cond.static y ∈ mm_B) (hd : decode Y.1 pc = .ok (.invokestatic idx, 3)) (hR : mm_Rm Y.2.2.2.2.2 Yc.2.2.2.2.2 Yc.2.2.1) (hst : st0 = vs.reverse ++ st) (hlen : st.length ≤ 8) (hOk : mm_Ok l G y Yc vs M K')
    (kk : ∀ r M1, mm_X M M1 → K' r M1 → mm_Zq l G Y Ex Qf M0 bc bs (pc + 3) ls (r.toList ++ st) M1) : mm_Zq l G Y Ex Qf M0 (bc + Yc.2.2.2.2.2.cells) (bs + Yc.2.2.2.2.2.slots) pc ls st0 M := by
  subst hst
  intro p e s m args below meth c H locs cells slots la hJ hT hL hc hs
  have hJ0 := hJ
  obtain ⟨hx, hb, hml, -, -, -, hown, hts, hCx, hsz⟩ := hJ
  obtain ⟨hcode, hini, hy, hlk⟩ := hF
  have hpre : PreS s H (va_Pc (vs.map mm_v) (fun U => mm_Cx G U ∧ mm_H G M U.heap)) (vs.map mm_v) := ⟨mm_blind, mm_pre (vs := vs) hJ0 hT⟩
  have hstk : ((vs.reverse ++ st).map mm_v) = (vs.map mm_v).reverse ++ st.map mm_v := by
    rw [List.map_append, List.map_reverse]
  have hroom : 2 * (F0 m pc la ((vs.reverse ++ st).map mm_v)).monitorRoom + ((st.map mm_v).map fun v => v.category).sum ≤ 8 := lv_room (by rw [mm_sumcat]; exact hlen)
  rcases hlk with h | ⟨host, h⟩
  · have cw : CallB Y.2.2.2.2.2 s args Y.2.1 idx y Yc.1 Yc.2.2.1 Yc.2.2.2.1 (mm_ws y Yc) Yc.2.2.2.2.2 Yc.2.2.2.2.2.cells Yc.2.2.2.2.2.slots vs.length := callB_of _ hts (mm_wsB hcode) rfl rfl rfl (hts _ hini) (hts _ h) hy hR
    exact mm_ret (va_runS (Ts := mm_B) ⟨hx, hb, hml, hown, hts⟩ hOk ⟨cw, hts _ h1⟩ hpre rfl (by simp) hL.1 hstk hroom hd ⟨by omega, by omega⟩) hJ0 hT hL hc hs kk
  · have cw : va_CN Y.2.2.2.2.2 s args Y.2.1 idx y host Yc.1 Yc.2.2.1 Yc.2.2.2.1 (mm_ws y Yc) Yc.2.2.2.2.2 Yc.2.2.2.2.2.cells Yc.2.2.2.2.2.slots vs.length := va_cnB _ hts (mm_wsB hcode) rfl rfl rfl (hCx.2.2.1 _ h) (hts _ hini) hy hR
    exact mm_ret (va_runSN (Ts := mm_B) ⟨hx, hb, hml, hown, hts⟩ hOk ⟨cw, hts _ h1, trivial⟩ hpre rfl (by simp) hL.1 hstk hroom hd ⟨by omega, by omega⟩) hJ0 hT hL hc hs kk
theorem mr_obji {idx : Nat} {x : Option Nat} (hd : decode Y.1 pc = .ok (.invokespecial idx, 3)) (h1 : Cond.methodLink Y.2.1 idx Lib.objectInit ∈ mm_B) (h2 : Cond.instanceMethod Lib.objectInit ∈ mm_B) (h3 : Cond.code Lib.objectInit ⟨#[0xb1]⟩ 1 none ∈ mm_B) (hR : 1 ≤ Y.2.2.2.2.2.frames ∧ st.length + 12 ≤ Y.2.2.2.2.2.locals) {a : Nat} (ho : x = some a)
    (kk : mm_Zq l G Y Ex Qf M0 bc bs (pc + 3) ls st M) : mm_Zq l G Y Ex Qf M0 bc bs pc ls (.inr x :: st) M := by
  subst ho
  intro p e s m args below meth c H locs cells slots la hJ hT hL hc hs
  have k1 := kk p e s m args below meth c H locs cells slots la hJ hT hL hc hs
  obtain ⟨hx, hb, hml, -, -, -, hown, hts, hCx, hsz⟩ := hJ
  exact W.objInit hx hb hown (hts _ h1) (hts _ h2) (hts _ h3) rfl (by rw [hml]; exact hL.1) rfl hd hR.1 (by show 2 * 0 + ((st.map mm_v).map fun v => v.category).sum + 12 ≤ _; rw [mm_sumcat]; omega) k1
theorem mr_mmax {idx : Nat} {x y : Int32} (hd : decode Y.1 pc = .ok (.invokestatic idx, 3)) (h1 : Cond.methodLink Y.2.1 idx Lib.Math.max.name ∈ mm_B) (h2 : Cond.static Lib.Math.max.name ∈ mm_B) (h3 : Cond.initialized "java/lang/Math" ∈ mm_B) (h4 : Cond.code Lib.Math.max.name Lib.Math.max.code 2 (some .int) ∈ mm_B) (hR : 1 ≤ Y.2.2.2.2.2.frames ∧ st.length + 13 ≤ Y.2.2.2.2.2.locals)
    (kk : mm_Zq l G Y Ex Qf M0 bc bs (pc + 3) ls (.inl (if x < y then y else x) :: st) M) : mm_Zq l G Y Ex Qf M0 bc bs pc ls (.inl y :: .inl x :: st) M := by
  intro p e s m args below meth c H locs cells slots la hJ hT hL hc hs
  have k1 := kk p e s m args below meth c H locs cells slots la hJ hT hL hc hs
  obtain ⟨hx, hb, hml, -, -, -, hown, hts, hCx, hsz⟩ := hJ
  exact va_mmax hx hb (by rw [hml]; exact hL.1.symm) hown (hts _ h1) (hts _ h2) (hts _ h3) (hts _ h4) hR.1 (by rw [mm_sumcat]; exact hR.2) (by omega) (by omega) hd k1
theorem mr_mmin {idx : Nat} {x y : Int32} (hd : decode Y.1 pc = .ok (.invokestatic idx, 3)) (h1 : Cond.methodLink Y.2.1 idx Lib.Math.min.name ∈ mm_B) (h2 : Cond.static Lib.Math.min.name ∈ mm_B) (h3 : Cond.initialized "java/lang/Math" ∈ mm_B) (h4 : Cond.code Lib.Math.min.name Lib.Math.min.code 2 (some .int) ∈ mm_B) (hR : 1 ≤ Y.2.2.2.2.2.frames ∧ st.length + 13 ≤ Y.2.2.2.2.2.locals)
    (kk : mm_Zq l G Y Ex Qf M0 bc bs (pc + 3) ls (.inl (if y < x then y else x) :: st) M) : mm_Zq l G Y Ex Qf M0 bc bs pc ls (.inl y :: .inl x :: st) M := by
  intro p e s m args below meth c H locs cells slots la hJ hT hL hc hs
  have k1 := kk p e s m args below meth c H locs cells slots la hJ hT hL hc hs
  obtain ⟨hx, hb, hml, -, -, -, hown, hts, hCx, hsz⟩ := hJ
  exact va_mmin hx hb (by rw [hml]; exact hL.1.symm) hown (hts _ h1) (hts _ h2) (hts _ h3) (hts _ h4) hR.1 (by rw [mm_sumcat]; exact hR.2) (by omega) (by omega) hd k1
end RW3
end
section
/-! HELPERS of the laid stretches -/
def mm_le : List (Option mm_V) → List (Option mm_V) → Prop
  | [], _ => True
  | none :: t, _ :: u => mm_le t u
  | some v :: t, x :: u => x = some v ∧ mm_le t u
  | _ :: _, [] => False
theorem mm_le_e {u : List (Option mm_V)} : mm_le [] u := trivial
theorem mm_le_n {t u : List (Option mm_V)} {x : Option mm_V} (h : mm_le t u) : mm_le (none :: t) (x :: u) := h
theorem mm_le_s {t u : List (Option mm_V)} {v : mm_V} (h : mm_le t u) : mm_le (some v :: t) (some v :: u) := ⟨rfl, h⟩
theorem mm_leq : ∀ {ls' ls : List (Option mm_V)}, mm_le ls' ls → ∀ (i : Nat) (v : mm_V), ls'[i]? = some (some v) → ls[i]? = some (some v)
  | [], _, _, i, v, h => by simp at h
  | none :: t, [], hl, _, _, _ => False.elim hl
  | some _ :: t, [], hl, _, _, _ => False.elim hl
  | none :: t, x :: u, hl, i, v, h => by
    cases i with
    | zero => simp at h
    | succ i => exact mm_leq (ls' := t) (ls := u) hl i v (by simpa using h)
  | some w :: t, x :: u, hl, i, v, h => by
    cases i with
    | zero =>
      have h1 : w = v := by simpa using h
      subst h1
      have h2 : x = some w := hl.1
      simp [h2]
    | succ i => exact mm_leq (ls' := t) (ls := u) hl.2 i v (by simpa using h)
theorem mm_Xk {M M1 : mm_M} {a k : Nat} (hX : mm_X M M1) (hk : mm_k M a = k) (h0 : k ≠ 0) : mm_k M1 a = k := (hX.2.1 a (by rw [hk]; exact h0)).1.trans hk
theorem mm_Xl {M M1 : mm_M} {a n : Nat} (hX : mm_X M M1) (hk : mm_k M a ≠ 0) (hl : mm_l M a = n) : mm_l M1 a = n := (hX.2.1 a hk).2.trans hl
section RW5
variable {l : Launch} {G : mm_G} {Y : mm_Y} {K : Option mm_V → mm_M → Prop} {Ex : State → Array Value → Prop} {Qf : List Frame → Array Value → State → State → Prop} {M0 M : mm_M} {bc bs pc : Nat} {ls : List (Option mm_V)} {st : List mm_V}
theorem mr_alen2 {a : Nat} {o : Option Nat} (hd : decode Y.1 pc = .ok (.arraylength, 1)) (ho : o = some a) (hk : mm_k M a = 102 ∨ mm_k M a = 105)
    (kk : mm_Zq l G Y Ex Qf M0 bc bs (pc + 1) ls (.inl (nI (mm_l M a)) :: st) M) : mm_Zq l G Y Ex Qf M0 bc bs pc ls (.inr o :: st) M := by
  rcases hk with hk | hk
  · exact mr_alen (t := 2) hd ho hk (fun _ => rfl) kk
  · exact mr_alen (t := 5) hd ho hk (fun _ => rfl) kk
theorem mr_callV0 {idx ci b : Nat} {y : MethodName} {Yc : mm_Y} {vs : List mm_V} {st0 : List mm_V} {o : Option Nat} {K' : Option mm_V → mm_M → Prop} {T : u_T} {N : Nat} (hF : mm_Fc Y.2.1 idx y Yc vs.length) (h1 : Cond.instanceMethod y ∈ mm_B) (h2 : Cond.selects y.cls y y ∈ mm_B) (hd : decode Y.1 pc = .ok (.invokevirtual idx, 3)) (hR : mm_Rm Y.2.2.2.2.2 Yc.2.2.2.2.2 Yc.2.2.1) (hci : ci < 99) (hcl : vwCl[ci]? = some (y.cls, T, N)) (hst : st0 = vs.reverse ++ .inr o :: st) (hlen : st.length ≤ 8) (ho : o = some b) (hk : mm_k M b = ci + 1) (hc0 : Yc.2.2.2.2.2.cells = 0) (hs0 : Yc.2.2.2.2.2.slots = 0) (hOk : mm_Ok l G y Yc (.inr (some b) :: vs) M K')
    (kk : ∀ r M1, mm_X M M1 → K' r M1 → mm_Zq l G Y Ex Qf M0 bc bs (pc + 3) ls (r.toList ++ st) M1) : mm_Zq l G Y Ex Qf M0 bc bs pc ls st0 M := by
  have h := mr_callV (bc := bc) (bs := bs) hF h1 h2 hd hR hci hcl hst hlen ho hk hOk kk
  rw [hc0, hs0] at h
  exact h
theorem mr_callI0 {idx b : Nat} {y : MethodName} {Yc : mm_Y} {vs : List mm_V} {st0 : List mm_V} {o : Option Nat} {K' : Option mm_V → mm_M → Prop} (hF : mm_Fc Y.2.1 idx y Yc vs.length) (h1 : Cond.instanceMethod y ∈ mm_B) (h2 : y.name = "<init>" ∧ Yc.2.2.2.1 = none) (hd : decode Y.1 pc = .ok (.invokespecial idx, 3)) (hR : mm_Rm Y.2.2.2.2.2 Yc.2.2.2.2.2 Yc.2.2.1) (hst : st0 = vs.reverse ++ .inr o :: st) (hlen : st.length ≤ 8) (ho : o = some b) (hc0 : Yc.2.2.2.2.2.cells = 0) (hs0 : Yc.2.2.2.2.2.slots = 0) (hOk : mm_Ok l G y Yc (.inr (some b) :: vs) M K')
    (kk : ∀ r M1, mm_X M M1 → K' r M1 → mm_Zq l G Y Ex Qf M0 bc bs (pc + 3) ls (r.toList ++ st) M1) : mm_Zq l G Y Ex Qf M0 bc bs pc ls st0 M := by
  have h := mr_callI (bc := bc) (bs := bs) hF h1 h2 hd hR hst hlen ho hOk kk
  rw [hc0, hs0] at h
  exact h
theorem mr_callS0 {idx : Nat} {y : MethodName} {Yc : mm_Y} {vs : List mm_V} {st0 : List mm_V} {K' : Option mm_V → mm_M → Prop} (hF : mm_Fc Y.2.1 idx y Yc vs.length) (h1 : Cond.static y ∈ mm_B) (hd : decode Y.1 pc = .ok (.invokestatic idx, 3)) (hR : mm_Rm Y.2.2.2.2.2 Yc.2.2.2.2.2 Yc.2.2.1) (hst : st0 = vs.reverse ++ st) (hlen : st.length ≤ 8) (hc0 : Yc.2.2.2.2.2.cells = 0) (hs0 : Yc.2.2.2.2.2.slots = 0) (hOk : mm_Ok l G y Yc vs M K')
    (kk : ∀ r M1, mm_X M M1 → K' r M1 → mm_Zq l G Y Ex Qf M0 bc bs (pc + 3) ls (r.toList ++ st) M1) : mm_Zq l G Y Ex Qf M0 bc bs pc ls st0 M := by
  have h := mr_callS (bc := bc) (bs := bs) hF h1 hd hR hst hlen hOk kk
  rw [hc0, hs0] at h
  exact h
end RW5
end
