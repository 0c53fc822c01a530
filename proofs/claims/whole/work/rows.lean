section
-- ===== PART A: goes FIRST, ahead of the names: the tables' words, and 'selects' of the private methods out of them =====
/-- a private method of a class that the tables say can be made, by its rows of tables_1 -/
def lw_okq (q : MethodName × Nat) : Prop := (q.1.cls ≠ "java/lang/invoke/MethodHandle" ∧ q.1.cls ≠ "java/lang/invoke/VarHandle") ∧ Cond.instantiable q.1.cls q.2 ∈ tables_1 ∧ Cond.privateMethod q.1 ∈ tables_1 ∧ Cond.instanceMethod q.1 ∈ tables_1
theorem lw_p0 : lw_okq (⟨"ThrowFlow$Flow", "raiseOwn", "()V"⟩, 7) := ⟨⟨by decide +kernel, by decide +kernel⟩, List.mem_of_getElem? (i := 108) (by decide +kernel), List.mem_of_getElem? (i := 219) (by decide +kernel), List.mem_of_getElem? (i := 220) (by decide +kernel)⟩
theorem lw_p1 : lw_okq (⟨"ThrowFlow$Flow", "ownKinds", "(II)I"⟩, 7) := ⟨⟨by decide +kernel, by decide +kernel⟩, List.mem_of_getElem? (i := 108) (by decide +kernel), List.mem_of_getElem? (i := 223) (by decide +kernel), List.mem_of_getElem? (i := 224) (by decide +kernel)⟩
theorem lw_p2 : lw_okq (⟨"ThrowFlow$Flow", "note", "(IIII)V"⟩, 7) := ⟨⟨by decide +kernel, by decide +kernel⟩, List.mem_of_getElem? (i := 108) (by decide +kernel), List.mem_of_getElem? (i := 227) (by decide +kernel), List.mem_of_getElem? (i := 228) (by decide +kernel)⟩
theorem lw_p3 : lw_okq (⟨"ThrowFlow$Flow", "goesThrough", "(III)I"⟩, 7) := ⟨⟨by decide +kernel, by decide +kernel⟩, List.mem_of_getElem? (i := 108) (by decide +kernel), List.mem_of_getElem? (i := 234) (by decide +kernel), List.mem_of_getElem? (i := 235) (by decide +kernel)⟩
theorem lw_p4 : lw_okq (⟨"ThrowFlow$Flow", "openDoors", "()Z"⟩, 7) := ⟨⟨by decide +kernel, by decide +kernel⟩, List.mem_of_getElem? (i := 108) (by decide +kernel), List.mem_of_getElem? (i := 253) (by decide +kernel), List.mem_of_getElem? (i := 254) (by decide +kernel)⟩
theorem lw_p5 : lw_okq (⟨"ThrowFlow$Flow", "raiseFresh", "(I)V"⟩, 7) := ⟨⟨by decide +kernel, by decide +kernel⟩, List.mem_of_getElem? (i := 108) (by decide +kernel), List.mem_of_getElem? (i := 257) (by decide +kernel), List.mem_of_getElem? (i := 258) (by decide +kernel)⟩
theorem lw_p6 : lw_okq (⟨"ThrowFlow$Flow", "sourceDoor", "(II)I"⟩, 7) := ⟨⟨by decide +kernel, by decide +kernel⟩, List.mem_of_getElem? (i := 108) (by decide +kernel), List.mem_of_getElem? (i := 261) (by decide +kernel), List.mem_of_getElem? (i := 262) (by decide +kernel)⟩
theorem lw_p7 : lw_okq (⟨"ThrowFlow$Flow", "nearest", "(II)I"⟩, 7) := ⟨⟨by decide +kernel, by decide +kernel⟩, List.mem_of_getElem? (i := 108) (by decide +kernel), List.mem_of_getElem? (i := 306) (by decide +kernel), List.mem_of_getElem? (i := 307) (by decide +kernel)⟩
theorem lw_p8 : lw_okq (⟨"ThrowFlow$Flow", "lengthAt", "(III)I"⟩, 7) := ⟨⟨by decide +kernel, by decide +kernel⟩, List.mem_of_getElem? (i := 108) (by decide +kernel), List.mem_of_getElem? (i := 310) (by decide +kernel), List.mem_of_getElem? (i := 311) (by decide +kernel)⟩
theorem lw_p9 : lw_okq (⟨"java/lang/Throwable", "fillInStackTrace", "(I)Ljava/lang/Throwable;"⟩, 6) := ⟨⟨by decide +kernel, by decide +kernel⟩, List.mem_of_getElem? (i := 378) (by decide +kernel), List.mem_of_getElem? (i := 376) (by decide +kernel), List.mem_of_getElem? (i := 377) (by decide +kernel)⟩
theorem lw_p10 : lw_okq (⟨"ThrowFlow$Machine", "enter", "(II)V"⟩, 9) := ⟨⟨by decide +kernel, by decide +kernel⟩, List.mem_of_getElem? (i := 137) (by decide +kernel), List.mem_of_getElem? (i := 525) (by decide +kernel), List.mem_of_getElem? (i := 526) (by decide +kernel)⟩
theorem lw_p11 : lw_okq (⟨"ThrowFlow$Machine", "giveAtEnds", "()V"⟩, 9) := ⟨⟨by decide +kernel, by decide +kernel⟩, List.mem_of_getElem? (i := 137) (by decide +kernel), List.mem_of_getElem? (i := 529) (by decide +kernel), List.mem_of_getElem? (i := 530) (by decide +kernel)⟩
theorem lw_p12 : lw_okq (⟨"ThrowFlow$Machine", "isAtEnd", "()Z"⟩, 9) := ⟨⟨by decide +kernel, by decide +kernel⟩, List.mem_of_getElem? (i := 137) (by decide +kernel), List.mem_of_getElem? (i := 533) (by decide +kernel), List.mem_of_getElem? (i := 534) (by decide +kernel)⟩
theorem lw_p13 : lw_okq (⟨"ThrowFlow$Machine", "body", "()LThrowFlow$Body;"⟩, 9) := ⟨⟨by decide +kernel, by decide +kernel⟩, List.mem_of_getElem? (i := 137) (by decide +kernel), List.mem_of_getElem? (i := 537) (by decide +kernel), List.mem_of_getElem? (i := 538) (by decide +kernel)⟩
theorem lw_p14 : lw_okq (⟨"ThrowFlow$Machine", "content", "(I)I"⟩, 9) := ⟨⟨by decide +kernel, by decide +kernel⟩, List.mem_of_getElem? (i := 137) (by decide +kernel), List.mem_of_getElem? (i := 541) (by decide +kernel), List.mem_of_getElem? (i := 542) (by decide +kernel)⟩
theorem lw_p15 : lw_okq (⟨"ThrowFlow$Machine", "giveBack", "(I)V"⟩, 9) := ⟨⟨by decide +kernel, by decide +kernel⟩, List.mem_of_getElem? (i := 137) (by decide +kernel), List.mem_of_getElem? (i := 545) (by decide +kernel), List.mem_of_getElem? (i := 546) (by decide +kernel)⟩
def lw_privs_1 : List (MethodName × Nat) := [(⟨"ThrowFlow$Flow", "raiseOwn", "()V"⟩, 7), (⟨"ThrowFlow$Flow", "ownKinds", "(II)I"⟩, 7), (⟨"ThrowFlow$Flow", "note", "(IIII)V"⟩, 7), (⟨"ThrowFlow$Flow", "goesThrough", "(III)I"⟩, 7), (⟨"ThrowFlow$Flow", "openDoors", "()Z"⟩, 7), (⟨"ThrowFlow$Flow", "raiseFresh", "(I)V"⟩, 7), (⟨"ThrowFlow$Flow", "sourceDoor", "(II)I"⟩, 7), (⟨"ThrowFlow$Flow", "nearest", "(II)I"⟩, 7), (⟨"ThrowFlow$Flow", "lengthAt", "(III)I"⟩, 7), (⟨"java/lang/Throwable", "fillInStackTrace", "(I)Ljava/lang/Throwable;"⟩, 6), (⟨"ThrowFlow$Machine", "enter", "(II)V"⟩, 9), (⟨"ThrowFlow$Machine", "giveAtEnds", "()V"⟩, 9), (⟨"ThrowFlow$Machine", "isAtEnd", "()Z"⟩, 9), (⟨"ThrowFlow$Machine", "body", "()LThrowFlow$Body;"⟩, 9), (⟨"ThrowFlow$Machine", "content", "(I)I"⟩, 9), (⟨"ThrowFlow$Machine", "giveBack", "(I)V"⟩, 9)]
theorem lw_r1 : ∀ q ∈ lw_privs_1, lw_okq q := List.forall_mem_cons.mpr ⟨lw_p0, List.forall_mem_cons.mpr ⟨lw_p1, List.forall_mem_cons.mpr ⟨lw_p2, List.forall_mem_cons.mpr ⟨lw_p3, List.forall_mem_cons.mpr ⟨lw_p4, List.forall_mem_cons.mpr ⟨lw_p5, List.forall_mem_cons.mpr ⟨lw_p6, List.forall_mem_cons.mpr ⟨lw_p7, List.forall_mem_cons.mpr ⟨lw_p8, List.forall_mem_cons.mpr ⟨lw_p9, List.forall_mem_cons.mpr ⟨lw_p10, List.forall_mem_cons.mpr ⟨lw_p11, List.forall_mem_cons.mpr ⟨lw_p12, List.forall_mem_cons.mpr ⟨lw_p13, List.forall_mem_cons.mpr ⟨lw_p14, List.forall_mem_cons.mpr ⟨lw_p15, fun _ h => absurd h List.not_mem_nil⟩⟩⟩⟩⟩⟩⟩⟩⟩⟩⟩⟩⟩⟩⟩⟩
theorem lw_p16 : lw_okq (⟨"ThrowFlow$Machine", "become", "(II)V"⟩, 9) := ⟨⟨by decide +kernel, by decide +kernel⟩, List.mem_of_getElem? (i := 137) (by decide +kernel), List.mem_of_getElem? (i := 549) (by decide +kernel), List.mem_of_getElem? (i := 550) (by decide +kernel)⟩
theorem lw_p17 : lw_okq (⟨"ThrowFlow$Machine", "goOn", "()V"⟩, 9) := ⟨⟨by decide +kernel, by decide +kernel⟩, List.mem_of_getElem? (i := 137) (by decide +kernel), List.mem_of_getElem? (i := 553) (by decide +kernel), List.mem_of_getElem? (i := 554) (by decide +kernel)⟩
theorem lw_p18 : lw_okq (⟨"ThrowFlow$Machine", "doInstruction", "()V"⟩, 9) := ⟨⟨by decide +kernel, by decide +kernel⟩, List.mem_of_getElem? (i := 137) (by decide +kernel), List.mem_of_getElem? (i := 557) (by decide +kernel), List.mem_of_getElem? (i := 558) (by decide +kernel)⟩
theorem lw_p19 : lw_okq (⟨"ThrowFlow$Machine", "divide", "(II)V"⟩, 9) := ⟨⟨by decide +kernel, by decide +kernel⟩, List.mem_of_getElem? (i := 137) (by decide +kernel), List.mem_of_getElem? (i := 561) (by decide +kernel), List.mem_of_getElem? (i := 562) (by decide +kernel)⟩
theorem lw_p20 : lw_okq (⟨"ThrowFlow$Machine", "throwHere", "(I)V"⟩, 9) := ⟨⟨by decide +kernel, by decide +kernel⟩, List.mem_of_getElem? (i := 137) (by decide +kernel), List.mem_of_getElem? (i := 565) (by decide +kernel), List.mem_of_getElem? (i := 566) (by decide +kernel)⟩
theorem lw_p21 : lw_okq (⟨"ThrowFlow$Machine", "goTo", "(I)V"⟩, 9) := ⟨⟨by decide +kernel, by decide +kernel⟩, List.mem_of_getElem? (i := 137) (by decide +kernel), List.mem_of_getElem? (i := 570) (by decide +kernel), List.mem_of_getElem? (i := 571) (by decide +kernel)⟩
theorem lw_p22 : lw_okq (⟨"ThrowFlow$Machine", "callMethod", "(II)V"⟩, 9) := ⟨⟨by decide +kernel, by decide +kernel⟩, List.mem_of_getElem? (i := 137) (by decide +kernel), List.mem_of_getElem? (i := 574) (by decide +kernel), List.mem_of_getElem? (i := 575) (by decide +kernel)⟩
theorem lw_p23 : lw_okq (⟨"ThrowFlow$Machine", "throwAgain", "(I)V"⟩, 9) := ⟨⟨by decide +kernel, by decide +kernel⟩, List.mem_of_getElem? (i := 137) (by decide +kernel), List.mem_of_getElem? (i := 579) (by decide +kernel), List.mem_of_getElem? (i := 580) (by decide +kernel)⟩
theorem lw_p24 : lw_okq (⟨"ThrowFlowModel", "isKind", "(I)Z"⟩, 23) := ⟨⟨by decide +kernel, by decide +kernel⟩, List.mem_of_getElem? (i := 604) (by decide +kernel), List.mem_of_getElem? (i := 688) (by decide +kernel), List.mem_of_getElem? (i := 689) (by decide +kernel)⟩
theorem lw_p25 : lw_okq (⟨"ThrowFlowModel", "isOne", "(II)Z"⟩, 23) := ⟨⟨by decide +kernel, by decide +kernel⟩, List.mem_of_getElem? (i := 604) (by decide +kernel), List.mem_of_getElem? (i := 696) (by decide +kernel), List.mem_of_getElem? (i := 697) (by decide +kernel)⟩
theorem lw_p26 : lw_okq (⟨"ThrowFlowModel", "isMethod", "(I)Z"⟩, 23) := ⟨⟨by decide +kernel, by decide +kernel⟩, List.mem_of_getElem? (i := 604) (by decide +kernel), List.mem_of_getElem? (i := 708) (by decide +kernel), List.mem_of_getElem? (i := 709) (by decide +kernel)⟩
theorem lw_p27 : lw_okq (⟨"ThrowFlowModel", "fits", "(III)Z"⟩, 23) := ⟨⟨by decide +kernel, by decide +kernel⟩, List.mem_of_getElem? (i := 604) (by decide +kernel), List.mem_of_getElem? (i := 712) (by decide +kernel), List.mem_of_getElem? (i := 713) (by decide +kernel)⟩
theorem lw_p28 : lw_okq (⟨"ThrowFlowModel", "write", "(IIIII)V"⟩, 23) := ⟨⟨by decide +kernel, by decide +kernel⟩, List.mem_of_getElem? (i := 604) (by decide +kernel), List.mem_of_getElem? (i := 719) (by decide +kernel), List.mem_of_getElem? (i := 720) (by decide +kernel)⟩
theorem lw_p29 : lw_okq (⟨"ThrowFlowModel", "isPlace", "(II)Z"⟩, 23) := ⟨⟨by decide +kernel, by decide +kernel⟩, List.mem_of_getElem? (i := 604) (by decide +kernel), List.mem_of_getElem? (i := 731) (by decide +kernel), List.mem_of_getElem? (i := 732) (by decide +kernel)⟩
theorem lw_p30 : lw_okq (⟨"ThrowFlowModel", "settle", "()V"⟩, 23) := ⟨⟨by decide +kernel, by decide +kernel⟩, List.mem_of_getElem? (i := 604) (by decide +kernel), List.mem_of_getElem? (i := 739) (by decide +kernel), List.mem_of_getElem? (i := 740) (by decide +kernel)⟩
theorem lw_p31 : lw_okq (⟨"ThrowFlowModel", "lower", "()Z"⟩, 23) := ⟨⟨by decide +kernel, by decide +kernel⟩, List.mem_of_getElem? (i := 604) (by decide +kernel), List.mem_of_getElem? (i := 744) (by decide +kernel), List.mem_of_getElem? (i := 745) (by decide +kernel)⟩
def lw_privs_2 : List (MethodName × Nat) := [(⟨"ThrowFlow$Machine", "become", "(II)V"⟩, 9), (⟨"ThrowFlow$Machine", "goOn", "()V"⟩, 9), (⟨"ThrowFlow$Machine", "doInstruction", "()V"⟩, 9), (⟨"ThrowFlow$Machine", "divide", "(II)V"⟩, 9), (⟨"ThrowFlow$Machine", "throwHere", "(I)V"⟩, 9), (⟨"ThrowFlow$Machine", "goTo", "(I)V"⟩, 9), (⟨"ThrowFlow$Machine", "callMethod", "(II)V"⟩, 9), (⟨"ThrowFlow$Machine", "throwAgain", "(I)V"⟩, 9), (⟨"ThrowFlowModel", "isKind", "(I)Z"⟩, 23), (⟨"ThrowFlowModel", "isOne", "(II)Z"⟩, 23), (⟨"ThrowFlowModel", "isMethod", "(I)Z"⟩, 23), (⟨"ThrowFlowModel", "fits", "(III)Z"⟩, 23), (⟨"ThrowFlowModel", "write", "(IIIII)V"⟩, 23), (⟨"ThrowFlowModel", "isPlace", "(II)Z"⟩, 23), (⟨"ThrowFlowModel", "settle", "()V"⟩, 23), (⟨"ThrowFlowModel", "lower", "()Z"⟩, 23)]
theorem lw_r2 : ∀ q ∈ lw_privs_2, lw_okq q := List.forall_mem_cons.mpr ⟨lw_p16, List.forall_mem_cons.mpr ⟨lw_p17, List.forall_mem_cons.mpr ⟨lw_p18, List.forall_mem_cons.mpr ⟨lw_p19, List.forall_mem_cons.mpr ⟨lw_p20, List.forall_mem_cons.mpr ⟨lw_p21, List.forall_mem_cons.mpr ⟨lw_p22, List.forall_mem_cons.mpr ⟨lw_p23, List.forall_mem_cons.mpr ⟨lw_p24, List.forall_mem_cons.mpr ⟨lw_p25, List.forall_mem_cons.mpr ⟨lw_p26, List.forall_mem_cons.mpr ⟨lw_p27, List.forall_mem_cons.mpr ⟨lw_p28, List.forall_mem_cons.mpr ⟨lw_p29, List.forall_mem_cons.mpr ⟨lw_p30, List.forall_mem_cons.mpr ⟨lw_p31, fun _ h => absurd h List.not_mem_nil⟩⟩⟩⟩⟩⟩⟩⟩⟩⟩⟩⟩⟩⟩⟩⟩
theorem lw_p32 : lw_okq (⟨"ThrowFlowModel", "reckon", "(III)I"⟩, 23) := ⟨⟨by decide +kernel, by decide +kernel⟩, List.mem_of_getElem? (i := 604) (by decide +kernel), List.mem_of_getElem? (i := 748) (by decide +kernel), List.mem_of_getElem? (i := 749) (by decide +kernel)⟩
theorem lw_p33 : lw_okq (⟨"ThrowFlowModel", "nearest", "(III)I"⟩, 23) := ⟨⟨by decide +kernel, by decide +kernel⟩, List.mem_of_getElem? (i := 604) (by decide +kernel), List.mem_of_getElem? (i := 752) (by decide +kernel), List.mem_of_getElem? (i := 753) (by decide +kernel)⟩
theorem lw_p34 : lw_okq (⟨"ThrowFlowModel", "catcher", "(III)I"⟩, 23) := ⟨⟨by decide +kernel, by decide +kernel⟩, List.mem_of_getElem? (i := 604) (by decide +kernel), List.mem_of_getElem? (i := 756) (by decide +kernel), List.mem_of_getElem? (i := 757) (by decide +kernel)⟩
theorem lw_p35 : lw_okq (⟨"ThrowFlowModel", "where", "(II)I"⟩, 23) := ⟨⟨by decide +kernel, by decide +kernel⟩, List.mem_of_getElem? (i := 604) (by decide +kernel), List.mem_of_getElem? (i := 760) (by decide +kernel), List.mem_of_getElem? (i := 761) (by decide +kernel)⟩
theorem lw_p36 : lw_okq (⟨"ThrowFlowModel", "raisedAt", "(II)I"⟩, 23) := ⟨⟨by decide +kernel, by decide +kernel⟩, List.mem_of_getElem? (i := 604) (by decide +kernel), List.mem_of_getElem? (i := 768) (by decide +kernel), List.mem_of_getElem? (i := 769) (by decide +kernel)⟩
theorem lw_p37 : lw_okq (⟨"ThrowFlowModel", "wayOf", "(II)I"⟩, 23) := ⟨⟨by decide +kernel, by decide +kernel⟩, List.mem_of_getElem? (i := 604) (by decide +kernel), List.mem_of_getElem? (i := 780) (by decide +kernel), List.mem_of_getElem? (i := 781) (by decide +kernel)⟩
theorem lw_p38 : lw_okq (⟨"ThrowFlowModel", "firstWith", "(IIII)I"⟩, 23) := ⟨⟨by decide +kernel, by decide +kernel⟩, List.mem_of_getElem? (i := 604) (by decide +kernel), List.mem_of_getElem? (i := 788) (by decide +kernel), List.mem_of_getElem? (i := 789) (by decide +kernel)⟩
theorem lw_p39 : lw_okq (⟨"ThrowFlowModel", "enter", "(II)V"⟩, 23) := ⟨⟨by decide +kernel, by decide +kernel⟩, List.mem_of_getElem? (i := 604) (by decide +kernel), List.mem_of_getElem? (i := 796) (by decide +kernel), List.mem_of_getElem? (i := 797) (by decide +kernel)⟩
theorem lw_p40 : lw_okq (⟨"ThrowFlowModel", "leave", "(I)V"⟩, 23) := ⟨⟨by decide +kernel, by decide +kernel⟩, List.mem_of_getElem? (i := 604) (by decide +kernel), List.mem_of_getElem? (i := 800) (by decide +kernel), List.mem_of_getElem? (i := 801) (by decide +kernel)⟩
theorem lw_p41 : lw_okq (⟨"ThrowFlowModel", "act", "()V"⟩, 23) := ⟨⟨by decide +kernel, by decide +kernel⟩, List.mem_of_getElem? (i := 604) (by decide +kernel), List.mem_of_getElem? (i := 804) (by decide +kernel), List.mem_of_getElem? (i := 805) (by decide +kernel)⟩
theorem lw_p42 : lw_okq (⟨"ThrowFlowModel", "divide", "(III)V"⟩, 23) := ⟨⟨by decide +kernel, by decide +kernel⟩, List.mem_of_getElem? (i := 604) (by decide +kernel), List.mem_of_getElem? (i := 808) (by decide +kernel), List.mem_of_getElem? (i := 809) (by decide +kernel)⟩
theorem lw_p43 : lw_okq (⟨"ThrowFlowModel", "raise", "(I)V"⟩, 23) := ⟨⟨by decide +kernel, by decide +kernel⟩, List.mem_of_getElem? (i := 604) (by decide +kernel), List.mem_of_getElem? (i := 812) (by decide +kernel), List.mem_of_getElem? (i := 813) (by decide +kernel)⟩
theorem lw_p44 : lw_okq (⟨"ThrowFlowModel", "call", "(III)V"⟩, 23) := ⟨⟨by decide +kernel, by decide +kernel⟩, List.mem_of_getElem? (i := 604) (by decide +kernel), List.mem_of_getElem? (i := 816) (by decide +kernel), List.mem_of_getElem? (i := 817) (by decide +kernel)⟩
theorem lw_p45 : lw_okq (⟨"ThrowFlowModel", "again", "(II)V"⟩, 23) := ⟨⟨by decide +kernel, by decide +kernel⟩, List.mem_of_getElem? (i := 604) (by decide +kernel), List.mem_of_getElem? (i := 820) (by decide +kernel), List.mem_of_getElem? (i := 821) (by decide +kernel)⟩
def lw_privs_3 : List (MethodName × Nat) := [(⟨"ThrowFlowModel", "reckon", "(III)I"⟩, 23), (⟨"ThrowFlowModel", "nearest", "(III)I"⟩, 23), (⟨"ThrowFlowModel", "catcher", "(III)I"⟩, 23), (⟨"ThrowFlowModel", "where", "(II)I"⟩, 23), (⟨"ThrowFlowModel", "raisedAt", "(II)I"⟩, 23), (⟨"ThrowFlowModel", "wayOf", "(II)I"⟩, 23), (⟨"ThrowFlowModel", "firstWith", "(IIII)I"⟩, 23), (⟨"ThrowFlowModel", "enter", "(II)V"⟩, 23), (⟨"ThrowFlowModel", "leave", "(I)V"⟩, 23), (⟨"ThrowFlowModel", "act", "()V"⟩, 23), (⟨"ThrowFlowModel", "divide", "(III)V"⟩, 23), (⟨"ThrowFlowModel", "raise", "(I)V"⟩, 23), (⟨"ThrowFlowModel", "call", "(III)V"⟩, 23), (⟨"ThrowFlowModel", "again", "(II)V"⟩, 23)]
theorem lw_r3 : ∀ q ∈ lw_privs_3, lw_okq q := List.forall_mem_cons.mpr ⟨lw_p32, List.forall_mem_cons.mpr ⟨lw_p33, List.forall_mem_cons.mpr ⟨lw_p34, List.forall_mem_cons.mpr ⟨lw_p35, List.forall_mem_cons.mpr ⟨lw_p36, List.forall_mem_cons.mpr ⟨lw_p37, List.forall_mem_cons.mpr ⟨lw_p38, List.forall_mem_cons.mpr ⟨lw_p39, List.forall_mem_cons.mpr ⟨lw_p40, List.forall_mem_cons.mpr ⟨lw_p41, List.forall_mem_cons.mpr ⟨lw_p42, List.forall_mem_cons.mpr ⟨lw_p43, List.forall_mem_cons.mpr ⟨lw_p44, List.forall_mem_cons.mpr ⟨lw_p45, fun _ h => absurd h List.not_mem_nil⟩⟩⟩⟩⟩⟩⟩⟩⟩⟩⟩⟩⟩⟩
def lw_privs : List (MethodName × Nat) := lw_privs_1 ++ (lw_privs_2 ++ (lw_privs_3))
def lw_tbl : List Cond := k2_sels lw_privs ++ tables_1
theorem lw_privs_ok : ∀ q ∈ lw_privs, lw_okq q := by
  show ∀ q ∈ lw_privs_1 ++ (lw_privs_2 ++ (lw_privs_3)), lw_okq q
  exact List.forall_mem_append.mpr ⟨lw_r1, List.forall_mem_append.mpr ⟨lw_r2, lw_r3⟩⟩
end
section
abbrev PV : Type := Int32 ⊕ (Int64 ⊕ (Nat × Nat))
abbrev PM : Type := Nat → Nat → Nat → Int32
abbrev PL : Type := List (Option PV)
abbrev PE : Type := Nat × Nat × Nat × Nat
def pgt {α : Type} : List α → Nat → Option α
  | [], _ => none
  | a :: _, 0 => some a
  | _ :: t, k + 1 => pgt t k
def pgd {α : Type} (l : List α) (k : Nat) (d : α) : α := match pgt l k with
  | some a => a
  | none => d
def cnL : List Nat := [0, 1, 2, 91, 3, 90, 90, 90, 90, 90, 4, 90, 90, 90, 90, 90, 6, 90, 90, 90, 90, 90, 90, 90, 90, 90, 90, 90, 90, 90, 90, 90, 99, 99, 92, 99, 99, 99, 99, 99, 5, 90, 90, 90, 90, 90, 90, 90]
def cn (t : Nat) : Nat := pgd cnL t 99
def fkL : List (List (Option Nat)) := [[some 1, some 4, some 10], [some 2, some 3, none], [some 15, none], [], [some 1, none, some 5, some 6, some 7, some 8, some 9], [], [], [], [], [], [some 1, some 11, some 12, some 13, some 14, none, none, none, none], [], [], [], [], [], [none, none, some 17, none, some 18, some 19, some 20, some 21, some 22, some 23, some 24, some 25, some 26, none, some 27, none, some 28, some 29, some 30, some 31, none, none, none], [], [], [], [], [], [], [], [], [], [], [], [], [], [], [], [], [], [], [], [], [], [], [], [some 41, some 42, some 43, none, some 44, some 45, some 46, some 47, none], [], [], [], [], [], [], []]
def fk (t : Nat) : List (Option Nat) := pgd fkL t []
def alL : List Nat := [0, 0, 0, 0, 0, 192, 1920, 40, 40, 40, 0, 12, 12, 48, 48, 10, 0, 10, 8, 192, 192, 192, 8, 32, 32, 32, 32, 1920, 12, 12, 48, 48, 0, 0, 0, 0, 0, 0, 0, 0, 0, 24, 24, 24, 4, 4, 4, 4]
def al (t : Nat) : Nat := pgd alL t 0
def mxlL : List Nat := [2, 3, 1, 6, 7, 8, 2, 3, 3, 3, 5, 4, 1, 1, 1, 2, 4, 2, 3, 2, 3, 1, 2, 4, 6, 6, 9, 7, 6, 7, 6, 7, 2, 5, 5, 2, 3, 3, 4, 3, 7, 10, 4, 4, 6, 4, 5, 3, 5, 6, 1, 1, 1, 1, 5, 5, 6, 3, 5, 2, 1, 2, 2, 3, 4, 7, 9, 6, 5, 4, 4, 2, 3, 5, 3, 8, 2, 1, 3, 4, 1, 4, 5, 2, 1, 1, 2, 5, 2, 1, 3, 4, 3, 2, 3, 4, 1, 2, 2, 3, 3, 4, 5, 1, 1, 7, 4]
def mxl (i : Nat) : Nat := pgd mxlL i 0
def depL : List Nat := [2, 1, 1, 2, 2, 2, 6, 6, 6, 6, 6, 6, 0, 0, 0, 0, 0, 1, 1, 0, 1, 0, 0, 1, 0, 2, 1, 2, 1, 2, 3, 4, 5, 0, 3, 6, 6, 6, 6, 7, 2, 7, 0, 0, 2, 3, 3, 3, 4, 5, 0, 0, 0, 0, 1, 0, 0, 0, 1, 0, 0, 0, 0, 1, 4, 4, 3, 1, 2, 1, 0, 5, 4, 4, 0, 3, 0, 0, 0, 1, 0, 5, 0, 3, 1, 0, 0, 4, 0, 0, 1, 3, 3, 2, 3, 2, 0, 0, 0, 1, 1, 1, 1, 0, 0, 8, 0]
def dep (i : Nat) : Nat := pgd depL i 0
def lcmL : List Nat := [45, 22, 21, 48, 45, 44, 142, 142, 142, 142, 142, 139, 0, 0, 0, 0, 0, 21, 23, 0, 21, 0, 0, 21, 0, 44, 21, 44, 23, 48, 74, 99, 125, 0, 74, 146, 146, 146, 146, 169, 48, 169, 0, 0, 48, 73, 73, 73, 97, 121, 0, 0, 0, 0, 24, 0, 0, 0, 22, 0, 0, 0, 0, 21, 98, 98, 70, 21, 46, 21, 0, 121, 97, 97, 0, 70, 0, 0, 0, 22, 0, 116, 0, 63, 20, 0, 0, 92, 0, 0, 20, 69, 69, 42, 69, 46, 0, 0, 0, 21, 21, 21, 21, 0, 0, 198, 0]
def lcm (i : Nat) : Nat := pgd lcmL i 0
def kmL : List Nat := [0, 0, 0, 0, 0, 0, 0, 0, 0, 0, 0, 0, 0, 0, 6, 6, 6, 6, 6, 6, 6, 6, 99, 6, 6, 6, 6, 6, 6, 6, 6, 6, 6, 6, 6, 6, 6, 6, 6, 6, 6, 6, 6, 6, 6, 6, 6, 6, 6, 6, 6, 6, 5, 5, 5, 5, 5, 5, 5, 99, 99, 99, 3, 3, 3, 3, 3, 3, 3, 3, 3, 3, 3, 3, 3, 3, 2, 2, 2, 2, 4, 4, 4, 4, 4, 4, 4, 4, 4, 4, 4, 4, 4, 4, 4, 4, 1, 1, 1, 1, 1, 1, 1, 99, 99, 99, 99]
def km (i : Nat) : Nat := pgd kmL i 99
abbrev lawi : Nat := 105
def pswL : List (List (Nat × Nat)) := [[(0, 56), (1, 62), (2, 62), (3, 62), (4, 84), (5, 91), (6, 114), (7, 137), (8, 56), (9, 56)], [(0, 96), (1, 121), (2, 166), (3, 211), (4, 222), (5, 232), (6, 267), (7, 278), (8, 286)], [(6, 44), (8, 54)], [(3, 61), (4, 65), (5, 65), (6, 63), (7, 52)], [(0, 88), (1, 98), (2, 118), (3, 138), (4, 148), (5, 156), (6, 179), (7, 189), (8, 197)], [(0, 56), (1, 61), (2, 61), (3, 61), (4, 81), (5, 86), (6, 106), (7, 129), (8, 138), (9, 56)], [(0, 112), (1, 168), (2, 205), (3, 218), (4, 310), (5, 414), (6, 518), (7, 543), (8, 580), (9, 617), (10, 654), (11, 703), (12, 783), (13, 796)]]
def pswt (i : Nat) : List (Nat × Nat) := pgd pswL i []
-- 0: ThrowFlow.kind(I)I
def k_0 (pc : Nat) : Option PE := bif Nat.ble 28 pc then (bif Nat.ble 48 pc then (bif Nat.ble 54 pc then (bif Nat.ble 55 pc then (bif Nat.ble 58 pc then (bif Nat.beq pc 58 then some (80, 1, 0, 0) else none) else (bif Nat.beq pc 55 then some (70, 79, 2, 58) else none)) else (bif Nat.beq pc 54 then some (2, 1, 0, 55) else none)) else (bif Nat.ble 51 pc then (bif Nat.beq pc 51 then some (16, 1, 0, 54) else none) else (bif Nat.beq pc 48 then some (16, 0, 0, 51) else none))) else (bif Nat.ble 34 pc then (bif Nat.ble 37 pc then (bif Nat.ble 47 pc then (bif Nat.beq pc 47 then some (3, 0, 0, 48) else none) else (bif Nat.beq pc 37 then some (90, 1, 0, 40) else none)) else (bif Nat.beq pc 34 then some (50, 47, 0, 37) else none)) else (bif Nat.ble 31 pc then (bif Nat.beq pc 31 then some (70, 77, 1, 34) else none) else (bif Nat.beq pc 28 then some (16, 1, 0, 31) else none)))) else (bif Nat.ble 8 pc then (bif Nat.ble 14 pc then (bif Nat.ble 24 pc then (bif Nat.ble 25 pc then (bif Nat.beq pc 25 then some (16, 0, 0, 28) else none) else (bif Nat.beq pc 24 then some (3, 0, 0, 25) else none)) else (bif Nat.beq pc 14 then some (90, 0, 0, 17) else none)) else (bif Nat.ble 11 pc then (bif Nat.beq pc 11 then some (51, 24, 0, 14) else none) else (bif Nat.beq pc 8 then some (70, 76, 2, 11) else none))) else (bif Nat.ble 4 pc then (bif Nat.ble 7 pc then (bif Nat.beq pc 7 then some (2, 1, 0, 8) else none) else (bif Nat.beq pc 4 then some (16, 1, 0, 7) else none)) else (bif Nat.ble 1 pc then (bif Nat.beq pc 1 then some (16, 0, 0, 4) else none) else (bif Nat.beq pc 0 then some (3, 0, 0, 1) else none))))
-- 1: ThrowFlow.is(II)Z
def k_1 (pc : Nat) : Option PE := bif Nat.ble 25 pc then (bif Nat.ble 37 pc then (bif Nat.ble 44 pc then (bif Nat.ble 47 pc then (bif Nat.ble 48 pc then (bif Nat.beq pc 48 then some (80, 2, 0, 0) else none) else (bif Nat.beq pc 47 then some (0, 0, 0, 48) else none)) else (bif Nat.beq pc 44 then some (18, 0, 0, 48) else none)) else (bif Nat.ble 40 pc then (bif Nat.ble 43 pc then (bif Nat.beq pc 43 then some (0, 1, 0, 44) else none) else (bif Nat.beq pc 40 then some (50, 47, 0, 43) else none)) else (bif Nat.beq pc 37 then some (70, 78, 3, 40) else none))) else (bif Nat.ble 32 pc then (bif Nat.ble 35 pc then (bif Nat.ble 36 pc then (bif Nat.beq pc 36 then some (2, 2, 0, 37) else none) else (bif Nat.beq pc 35 then some (2, 1, 0, 36) else none)) else (bif Nat.beq pc 32 then some (16, 1, 0, 35) else none)) else (bif Nat.ble 28 pc then (bif Nat.ble 29 pc then (bif Nat.beq pc 29 then some (16, 0, 0, 32) else none) else (bif Nat.beq pc 28 then some (3, 0, 0, 29) else none)) else (bif Nat.beq pc 25 then some (50, 47, 0, 28) else none)))) else (bif Nat.ble 11 pc then (bif Nat.ble 18 pc then (bif Nat.ble 21 pc then (bif Nat.ble 22 pc then (bif Nat.beq pc 22 then some (70, 76, 2, 25) else none) else (bif Nat.beq pc 21 then some (2, 2, 0, 22) else none)) else (bif Nat.beq pc 18 then some (16, 1, 0, 21) else none)) else (bif Nat.ble 14 pc then (bif Nat.ble 15 pc then (bif Nat.beq pc 15 then some (16, 0, 0, 18) else none) else (bif Nat.beq pc 14 then some (3, 0, 0, 15) else none)) else (bif Nat.beq pc 11 then some (50, 47, 0, 14) else none))) else (bif Nat.ble 4 pc then (bif Nat.ble 7 pc then (bif Nat.ble 8 pc then (bif Nat.beq pc 8 then some (70, 76, 2, 11) else none) else (bif Nat.beq pc 7 then some (2, 1, 0, 8) else none)) else (bif Nat.beq pc 4 then some (16, 1, 0, 7) else none)) else (bif Nat.ble 1 pc then (bif Nat.beq pc 1 then some (16, 0, 0, 4) else none) else (bif Nat.beq pc 0 then some (3, 0, 0, 1) else none))))
-- 2: ThrowFlow.method()I
def k_2 (pc : Nat) : Option PE := bif Nat.ble 11 pc then (bif Nat.ble 15 pc then (bif Nat.ble 18 pc then (bif Nat.ble 21 pc then (bif Nat.beq pc 21 then some (80, 1, 0, 0) else none) else (bif Nat.beq pc 18 then some (70, 97, 1, 21) else none)) else (bif Nat.beq pc 15 then some (16, 0, 0, 18) else none)) else (bif Nat.ble 14 pc then (bif Nat.beq pc 14 then some (3, 0, 0, 15) else none) else (bif Nat.beq pc 11 then some (18, 0, 0, 21) else none))) else (bif Nat.ble 4 pc then (bif Nat.ble 7 pc then (bif Nat.ble 10 pc then (bif Nat.beq pc 10 then some (1, 0, 0, 11) else none) else (bif Nat.beq pc 7 then some (50, 14, 0, 10) else none)) else (bif Nat.beq pc 4 then some (70, 96, 1, 7) else none)) else (bif Nat.ble 1 pc then (bif Nat.beq pc 1 then some (16, 0, 0, 4) else none) else (bif Nat.beq pc 0 then some (3, 0, 0, 1) else none)))
-- 3: ThrowFlow.add(IIII)I
def k_3 (pc : Nat) : Option PE := bif Nat.ble 51 pc then (bif Nat.ble 75 pc then (bif Nat.ble 84 pc then (bif Nat.ble 86 pc then (bif Nat.ble 88 pc then (bif Nat.ble 91 pc then (bif Nat.beq pc 91 then some (80, 1, 0, 0) else none) else (bif Nat.beq pc 88 then some (70, 54, 4, 91) else none)) else (bif Nat.beq pc 86 then some (2, 4, 0, 88) else none)) else (bif Nat.ble 85 pc then (bif Nat.beq pc 85 then some (2, 3, 0, 86) else none) else (bif Nat.beq pc 84 then some (2, 2, 0, 85) else none))) else (bif Nat.ble 79 pc then (bif Nat.ble 82 pc then (bif Nat.beq pc 82 then some (3, 5, 0, 84) else none) else (bif Nat.beq pc 79 then some (34, 3, 1, 82) else none)) else (bif Nat.ble 78 pc then (bif Nat.beq pc 78 then some (0, 1, 0, 79) else none) else (bif Nat.beq pc 75 then some (16, 0, 1, 78) else none)))) else (bif Nat.ble 58 pc then (bif Nat.ble 64 pc then (bif Nat.ble 74 pc then (bif Nat.beq pc 74 then some (3, 0, 0, 75) else none) else (bif Nat.beq pc 64 then some (90, 0, 0, 67) else none)) else (bif Nat.ble 61 pc then (bif Nat.beq pc 61 then some (51, 74, 0, 64) else none) else (bif Nat.beq pc 58 then some (70, 101, 4, 61) else none))) else (bif Nat.ble 55 pc then (bif Nat.ble 56 pc then (bif Nat.beq pc 56 then some (2, 4, 0, 58) else none) else (bif Nat.beq pc 55 then some (2, 3, 0, 56) else none)) else (bif Nat.ble 54 pc then (bif Nat.beq pc 54 then some (2, 2, 0, 55) else none) else (bif Nat.beq pc 51 then some (16, 0, 0, 54) else none))))) else (bif Nat.ble 25 pc then (bif Nat.ble 32 pc then (bif Nat.ble 37 pc then (bif Nat.ble 40 pc then (bif Nat.ble 50 pc then (bif Nat.beq pc 50 then some (3, 0, 0, 51) else none) else (bif Nat.beq pc 40 then some (90, 1, 0, 43) else none)) else (bif Nat.beq pc 37 then some (50, 50, 0, 40) else none)) else (bif Nat.ble 34 pc then (bif Nat.beq pc 34 then some (70, 52, 1, 37) else none) else (bif Nat.beq pc 32 then some (3, 5, 0, 34) else none))) else (bif Nat.ble 29 pc then (bif Nat.ble 30 pc then (bif Nat.beq pc 30 then some (5, 5, 0, 32) else none) else (bif Nat.beq pc 29 then some (32, 0, 0, 30) else none)) else (bif Nat.ble 28 pc then (bif Nat.beq pc 28 then some (2, 1, 0, 29) else none) else (bif Nat.beq pc 25 then some (16, 1, 1, 28) else none)))) else (bif Nat.ble 8 pc then (bif Nat.ble 21 pc then (bif Nat.ble 22 pc then (bif Nat.beq pc 22 then some (16, 0, 0, 25) else none) else (bif Nat.beq pc 21 then some (3, 0, 0, 22) else none)) else (bif Nat.ble 11 pc then (bif Nat.beq pc 11 then some (90, 2, 0, 14) else none) else (bif Nat.beq pc 8 then some (51, 21, 0, 11) else none))) else (bif Nat.ble 4 pc then (bif Nat.ble 5 pc then (bif Nat.beq pc 5 then some (70, 98, 2, 8) else none) else (bif Nat.beq pc 4 then some (2, 1, 0, 5) else none)) else (bif Nat.ble 1 pc then (bif Nat.beq pc 1 then some (16, 0, 0, 4) else none) else (bif Nat.beq pc 0 then some (3, 0, 0, 1) else none)))))
-- 4: ThrowFlow.handler(IIIII)I
def k_4 (pc : Nat) : Option PE := bif Nat.ble 54 pc then (bif Nat.ble 80 pc then (bif Nat.ble 87 pc then (bif Nat.ble 90 pc then (bif Nat.ble 92 pc then (bif Nat.ble 95 pc then (bif Nat.beq pc 95 then some (80, 1, 0, 0) else none) else (bif Nat.beq pc 92 then some (70, 56, 5, 95) else none)) else (bif Nat.beq pc 90 then some (2, 5, 0, 92) else none)) else (bif Nat.ble 88 pc then (bif Nat.beq pc 88 then some (2, 4, 0, 90) else none) else (bif Nat.beq pc 87 then some (2, 3, 0, 88) else none))) else (bif Nat.ble 84 pc then (bif Nat.ble 86 pc then (bif Nat.beq pc 86 then some (2, 2, 0, 87) else none) else (bif Nat.beq pc 84 then some (3, 6, 0, 86) else none)) else (bif Nat.ble 81 pc then (bif Nat.beq pc 81 then some (34, 3, 1, 84) else none) else (bif Nat.beq pc 80 then some (0, 1, 0, 81) else none)))) else (bif Nat.ble 60 pc then (bif Nat.ble 66 pc then (bif Nat.ble 76 pc then (bif Nat.ble 77 pc then (bif Nat.beq pc 77 then some (16, 0, 1, 80) else none) else (bif Nat.beq pc 76 then some (3, 0, 0, 77) else none)) else (bif Nat.beq pc 66 then some (90, 0, 0, 69) else none)) else (bif Nat.ble 63 pc then (bif Nat.beq pc 63 then some (51, 76, 0, 66) else none) else (bif Nat.beq pc 60 then some (70, 102, 5, 63) else none))) else (bif Nat.ble 56 pc then (bif Nat.ble 58 pc then (bif Nat.beq pc 58 then some (2, 5, 0, 60) else none) else (bif Nat.beq pc 56 then some (2, 4, 0, 58) else none)) else (bif Nat.ble 55 pc then (bif Nat.beq pc 55 then some (2, 3, 0, 56) else none) else (bif Nat.beq pc 54 then some (2, 2, 0, 55) else none))))) else (bif Nat.ble 28 pc then (bif Nat.ble 34 pc then (bif Nat.ble 40 pc then (bif Nat.ble 50 pc then (bif Nat.ble 51 pc then (bif Nat.beq pc 51 then some (16, 0, 0, 54) else none) else (bif Nat.beq pc 50 then some (3, 0, 0, 51) else none)) else (bif Nat.beq pc 40 then some (90, 1, 0, 43) else none)) else (bif Nat.ble 37 pc then (bif Nat.beq pc 37 then some (50, 50, 0, 40) else none) else (bif Nat.beq pc 34 then some (70, 53, 1, 37) else none))) else (bif Nat.ble 30 pc then (bif Nat.ble 32 pc then (bif Nat.beq pc 32 then some (3, 6, 0, 34) else none) else (bif Nat.beq pc 30 then some (5, 6, 0, 32) else none)) else (bif Nat.ble 29 pc then (bif Nat.beq pc 29 then some (32, 0, 0, 30) else none) else (bif Nat.beq pc 28 then some (2, 1, 0, 29) else none)))) else (bif Nat.ble 8 pc then (bif Nat.ble 21 pc then (bif Nat.ble 22 pc then (bif Nat.ble 25 pc then (bif Nat.beq pc 25 then some (16, 1, 1, 28) else none) else (bif Nat.beq pc 22 then some (16, 0, 0, 25) else none)) else (bif Nat.beq pc 21 then some (3, 0, 0, 22) else none)) else (bif Nat.ble 11 pc then (bif Nat.beq pc 11 then some (90, 2, 0, 14) else none) else (bif Nat.beq pc 8 then some (51, 21, 0, 11) else none))) else (bif Nat.ble 4 pc then (bif Nat.ble 5 pc then (bif Nat.beq pc 5 then some (70, 98, 2, 8) else none) else (bif Nat.beq pc 4 then some (2, 1, 0, 5) else none)) else (bif Nat.ble 1 pc then (bif Nat.beq pc 1 then some (16, 0, 0, 4) else none) else (bif Nat.beq pc 0 then some (3, 0, 0, 1) else none)))))
-- 5: ThrowFlow.change(IIIII)I
def k_5 (pc : Nat) : Option PE := bif Nat.ble 55 pc then (bif Nat.ble 70 pc then (bif Nat.ble 79 pc then (bif Nat.ble 83 pc then (bif Nat.ble 86 pc then (bif Nat.ble 88 pc then (bif Nat.beq pc 88 then some (80, 1, 0, 0) else none) else (bif Nat.beq pc 86 then some (2, 7, 0, 88) else none)) else (bif Nat.beq pc 83 then some (34, 3, 1, 86) else none)) else (bif Nat.ble 82 pc then (bif Nat.beq pc 82 then some (0, 1, 0, 83) else none) else (bif Nat.beq pc 79 then some (16, 0, 1, 82) else none))) else (bif Nat.ble 73 pc then (bif Nat.ble 75 pc then (bif Nat.ble 78 pc then (bif Nat.beq pc 78 then some (3, 0, 0, 79) else none) else (bif Nat.beq pc 75 then some (70, 55, 5, 78) else none)) else (bif Nat.beq pc 73 then some (2, 5, 0, 75) else none)) else (bif Nat.ble 71 pc then (bif Nat.beq pc 71 then some (2, 4, 0, 73) else none) else (bif Nat.beq pc 70 then some (2, 3, 0, 71) else none)))) else (bif Nat.ble 63 pc then (bif Nat.ble 65 pc then (bif Nat.ble 67 pc then (bif Nat.ble 69 pc then (bif Nat.beq pc 69 then some (2, 2, 0, 70) else none) else (bif Nat.beq pc 67 then some (3, 6, 0, 69) else none)) else (bif Nat.beq pc 65 then some (4, 7, 0, 67) else none)) else (bif Nat.ble 64 pc then (bif Nat.beq pc 64 then some (30, 0, 0, 65) else none) else (bif Nat.beq pc 63 then some (2, 2, 0, 64) else none))) else (bif Nat.ble 58 pc then (bif Nat.ble 60 pc then (bif Nat.beq pc 60 then some (16, 5, 0, 63) else none) else (bif Nat.beq pc 58 then some (3, 6, 0, 60) else none)) else (bif Nat.ble 56 pc then (bif Nat.beq pc 56 then some (5, 6, 0, 58) else none) else (bif Nat.beq pc 55 then some (32, 0, 0, 56) else none))))) else (bif Nat.ble 26 pc then (bif Nat.ble 37 pc then (bif Nat.ble 48 pc then (bif Nat.ble 51 pc then (bif Nat.ble 54 pc then (bif Nat.beq pc 54 then some (2, 1, 0, 55) else none) else (bif Nat.beq pc 51 then some (16, 1, 1, 54) else none)) else (bif Nat.beq pc 48 then some (16, 0, 0, 51) else none)) else (bif Nat.ble 47 pc then (bif Nat.beq pc 47 then some (3, 0, 0, 48) else none) else (bif Nat.beq pc 37 then some (90, 0, 0, 40) else none))) else (bif Nat.ble 29 pc then (bif Nat.ble 31 pc then (bif Nat.ble 34 pc then (bif Nat.beq pc 34 then some (51, 47, 0, 37) else none) else (bif Nat.beq pc 31 then some (70, 101, 4, 34) else none)) else (bif Nat.beq pc 29 then some (2, 5, 0, 31) else none)) else (bif Nat.ble 27 pc then (bif Nat.beq pc 27 then some (2, 4, 0, 29) else none) else (bif Nat.beq pc 26 then some (2, 3, 0, 27) else none)))) else (bif Nat.ble 6 pc then (bif Nat.ble 12 pc then (bif Nat.ble 22 pc then (bif Nat.ble 23 pc then (bif Nat.beq pc 23 then some (16, 0, 0, 26) else none) else (bif Nat.beq pc 22 then some (3, 0, 0, 23) else none)) else (bif Nat.beq pc 12 then some (90, 2, 0, 15) else none)) else (bif Nat.ble 9 pc then (bif Nat.beq pc 9 then some (51, 22, 0, 12) else none) else (bif Nat.beq pc 6 then some (70, 99, 3, 9) else none))) else (bif Nat.ble 4 pc then (bif Nat.ble 5 pc then (bif Nat.beq pc 5 then some (2, 2, 0, 6) else none) else (bif Nat.beq pc 4 then some (2, 1, 0, 5) else none)) else (bif Nat.ble 1 pc then (bif Nat.beq pc 1 then some (16, 0, 0, 4) else none) else (bif Nat.beq pc 0 then some (3, 0, 0, 1) else none)))))
-- 6: ThrowFlow.out(I)I
def k_6 (pc : Nat) : Option PE := bif Nat.ble 18 pc then (bif Nat.ble 26 pc then (bif Nat.ble 32 pc then (bif Nat.ble 33 pc then (bif Nat.beq pc 33 then some (80, 1, 0, 0) else none) else (bif Nat.beq pc 32 then some (0, 0, 0, 33) else none)) else (bif Nat.ble 29 pc then (bif Nat.beq pc 29 then some (18, 0, 0, 33) else none) else (bif Nat.beq pc 26 then some (70, 62, 2, 29) else none))) else (bif Nat.ble 22 pc then (bif Nat.ble 23 pc then (bif Nat.beq pc 23 then some (70, 60, 1, 26) else none) else (bif Nat.beq pc 22 then some (2, 1, 0, 23) else none)) else (bif Nat.ble 19 pc then (bif Nat.beq pc 19 then some (16, 0, 1, 22) else none) else (bif Nat.beq pc 18 then some (3, 0, 0, 19) else none)))) else (bif Nat.ble 8 pc then (bif Nat.ble 12 pc then (bif Nat.ble 15 pc then (bif Nat.beq pc 15 then some (50, 32, 0, 18) else none) else (bif Nat.beq pc 12 then some (70, 98, 2, 15) else none)) else (bif Nat.ble 11 pc then (bif Nat.beq pc 11 then some (2, 1, 0, 12) else none) else (bif Nat.beq pc 8 then some (16, 0, 0, 11) else none))) else (bif Nat.ble 4 pc then (bif Nat.ble 7 pc then (bif Nat.beq pc 7 then some (3, 0, 0, 8) else none) else (bif Nat.beq pc 4 then some (70, 71, 1, 7) else none)) else (bif Nat.ble 1 pc then (bif Nat.beq pc 1 then some (16, 0, 1, 4) else none) else (bif Nat.beq pc 0 then some (3, 0, 0, 1) else none))))
-- 7: ThrowFlow.raises(II)I
def k_7 (pc : Nat) : Option PE := bif Nat.ble 16 pc then (bif Nat.ble 24 pc then (bif Nat.ble 28 pc then (bif Nat.ble 31 pc then (bif Nat.ble 32 pc then (bif Nat.beq pc 32 then some (80, 1, 0, 0) else none) else (bif Nat.beq pc 31 then some (0, 0, 0, 32) else none)) else (bif Nat.beq pc 28 then some (18, 0, 0, 32) else none)) else (bif Nat.ble 25 pc then (bif Nat.beq pc 25 then some (70, 63, 3, 28) else none) else (bif Nat.beq pc 24 then some (2, 2, 0, 25) else none))) else (bif Nat.ble 20 pc then (bif Nat.ble 23 pc then (bif Nat.beq pc 23 then some (2, 1, 0, 24) else none) else (bif Nat.beq pc 20 then some (16, 0, 1, 23) else none)) else (bif Nat.ble 19 pc then (bif Nat.beq pc 19 then some (3, 0, 0, 20) else none) else (bif Nat.beq pc 16 then some (50, 31, 0, 19) else none)))) else (bif Nat.ble 8 pc then (bif Nat.ble 12 pc then (bif Nat.ble 13 pc then (bif Nat.beq pc 13 then some (70, 99, 3, 16) else none) else (bif Nat.beq pc 12 then some (2, 2, 0, 13) else none)) else (bif Nat.ble 11 pc then (bif Nat.beq pc 11 then some (2, 1, 0, 12) else none) else (bif Nat.beq pc 8 then some (16, 0, 0, 11) else none))) else (bif Nat.ble 4 pc then (bif Nat.ble 7 pc then (bif Nat.beq pc 7 then some (3, 0, 0, 8) else none) else (bif Nat.beq pc 4 then some (70, 71, 1, 7) else none)) else (bif Nat.ble 1 pc then (bif Nat.beq pc 1 then some (16, 0, 1, 4) else none) else (bif Nat.beq pc 0 then some (3, 0, 0, 1) else none))))
-- 8: ThrowFlow.catches(II)I
def k_8 (pc : Nat) : Option PE := bif Nat.ble 19 pc then (bif Nat.ble 25 pc then (bif Nat.ble 31 pc then (bif Nat.ble 34 pc then (bif Nat.ble 35 pc then (bif Nat.beq pc 35 then some (80, 1, 0, 0) else none) else (bif Nat.beq pc 34 then some (0, 0, 0, 35) else none)) else (bif Nat.beq pc 31 then some (18, 0, 0, 35) else none)) else (bif Nat.ble 28 pc then (bif Nat.beq pc 28 then some (70, 62, 2, 31) else none) else (bif Nat.beq pc 25 then some (70, 59, 2, 28) else none))) else (bif Nat.ble 23 pc then (bif Nat.ble 24 pc then (bif Nat.beq pc 24 then some (2, 2, 0, 25) else none) else (bif Nat.beq pc 23 then some (2, 1, 0, 24) else none)) else (bif Nat.ble 20 pc then (bif Nat.beq pc 20 then some (16, 0, 1, 23) else none) else (bif Nat.beq pc 19 then some (3, 0, 0, 20) else none)))) else (bif Nat.ble 8 pc then (bif Nat.ble 12 pc then (bif Nat.ble 13 pc then (bif Nat.ble 16 pc then (bif Nat.beq pc 16 then some (50, 34, 0, 19) else none) else (bif Nat.beq pc 13 then some (70, 100, 3, 16) else none)) else (bif Nat.beq pc 12 then some (2, 2, 0, 13) else none)) else (bif Nat.ble 11 pc then (bif Nat.beq pc 11 then some (2, 1, 0, 12) else none) else (bif Nat.beq pc 8 then some (16, 0, 0, 11) else none))) else (bif Nat.ble 4 pc then (bif Nat.ble 7 pc then (bif Nat.beq pc 7 then some (3, 0, 0, 8) else none) else (bif Nat.beq pc 4 then some (70, 71, 1, 7) else none)) else (bif Nat.ble 1 pc then (bif Nat.beq pc 1 then some (16, 0, 1, 4) else none) else (bif Nat.beq pc 0 then some (3, 0, 0, 1) else none))))
-- 9: ThrowFlow.way(II)I
def k_9 (pc : Nat) : Option PE := bif Nat.ble 8 pc then (bif Nat.ble 12 pc then (bif Nat.ble 13 pc then (bif Nat.ble 16 pc then (bif Nat.beq pc 16 then some (80, 1, 0, 0) else none) else (bif Nat.beq pc 13 then some (70, 64, 3, 16) else none)) else (bif Nat.beq pc 12 then some (2, 2, 0, 13) else none)) else (bif Nat.ble 11 pc then (bif Nat.beq pc 11 then some (2, 1, 0, 12) else none) else (bif Nat.beq pc 8 then some (16, 0, 1, 11) else none))) else (bif Nat.ble 4 pc then (bif Nat.ble 7 pc then (bif Nat.beq pc 7 then some (3, 0, 0, 8) else none) else (bif Nat.beq pc 4 then some (70, 71, 1, 7) else none)) else (bif Nat.ble 1 pc then (bif Nat.beq pc 1 then some (16, 0, 1, 4) else none) else (bif Nat.beq pc 0 then some (3, 0, 0, 1) else none)))
-- 10: ThrowFlow.step(III)I
def k_10 (pc : Nat) : Option PE := bif Nat.ble 25 pc then (bif Nat.ble 40 pc then (bif Nat.ble 43 pc then (bif Nat.ble 49 pc then (bif Nat.ble 50 pc then (bif Nat.beq pc 50 then some (80, 1, 0, 0) else none) else (bif Nat.beq pc 49 then some (1, 0, 0, 50) else none)) else (bif Nat.ble 46 pc then (bif Nat.beq pc 46 then some (18, 0, 0, 50) else none) else (bif Nat.beq pc 43 then some (70, 65, 4, 46) else none))) else (bif Nat.ble 41 pc then (bif Nat.ble 42 pc then (bif Nat.beq pc 42 then some (2, 3, 0, 43) else none) else (bif Nat.beq pc 41 then some (2, 2, 0, 42) else none)) else (bif Nat.beq pc 40 then some (2, 1, 0, 41) else none))) else (bif Nat.ble 31 pc then (bif Nat.ble 36 pc then (bif Nat.ble 37 pc then (bif Nat.beq pc 37 then some (16, 0, 1, 40) else none) else (bif Nat.beq pc 36 then some (3, 0, 0, 37) else none)) else (bif Nat.ble 33 pc then (bif Nat.beq pc 33 then some (50, 49, 0, 36) else none) else (bif Nat.beq pc 31 then some (2, 4, 0, 33) else none))) else (bif Nat.ble 28 pc then (bif Nat.ble 29 pc then (bif Nat.beq pc 29 then some (4, 4, 0, 31) else none) else (bif Nat.beq pc 28 then some (0, 0, 0, 29) else none)) else (bif Nat.beq pc 25 then some (18, 0, 0, 29) else none)))) else (bif Nat.ble 12 pc then (bif Nat.ble 17 pc then (bif Nat.ble 21 pc then (bif Nat.ble 24 pc then (bif Nat.beq pc 24 then some (0, 1, 0, 25) else none) else (bif Nat.beq pc 21 then some (59, 28, 0, 24) else none)) else (bif Nat.ble 18 pc then (bif Nat.beq pc 18 then some (70, 64, 3, 21) else none) else (bif Nat.beq pc 17 then some (2, 2, 0, 18) else none))) else (bif Nat.ble 13 pc then (bif Nat.ble 16 pc then (bif Nat.beq pc 16 then some (2, 1, 0, 17) else none) else (bif Nat.beq pc 13 then some (16, 0, 1, 16) else none)) else (bif Nat.beq pc 12 then some (3, 0, 0, 13) else none))) else (bif Nat.ble 7 pc then (bif Nat.ble 8 pc then (bif Nat.ble 11 pc then (bif Nat.beq pc 11 then some (2, 3, 0, 12) else none) else (bif Nat.beq pc 8 then some (52, 28, 0, 11) else none)) else (bif Nat.beq pc 7 then some (2, 3, 0, 8) else none)) else (bif Nat.ble 1 pc then (bif Nat.ble 4 pc then (bif Nat.beq pc 4 then some (70, 71, 1, 7) else none) else (bif Nat.beq pc 1 then some (16, 0, 1, 4) else none)) else (bif Nat.beq pc 0 then some (3, 0, 0, 1) else none))))
-- 11: ThrowFlow.run(III)I
def k_11 (pc : Nat) : Option PE := bif Nat.ble 48 pc then (bif Nat.ble 73 pc then (bif Nat.ble 83 pc then (bif Nat.ble 94 pc then (bif Nat.ble 97 pc then (bif Nat.ble 100 pc then (bif Nat.beq pc 100 then some (80, 1, 0, 0) else none) else (bif Nat.beq pc 97 then some (16, 4, 7, 100) else none)) else (bif Nat.beq pc 94 then some (16, 0, 2, 97) else none)) else (bif Nat.ble 93 pc then (bif Nat.beq pc 93 then some (3, 0, 0, 94) else none) else (bif Nat.beq pc 83 then some (90, 1, 0, 86) else none))) else (bif Nat.ble 79 pc then (bif Nat.ble 80 pc then (bif Nat.beq pc 80 then some (56, 93, 0, 83) else none) else (bif Nat.beq pc 79 then some (1, 0, 0, 80) else none)) else (bif Nat.ble 76 pc then (bif Nat.beq pc 76 then some (16, 4, 8, 79) else none) else (bif Nat.beq pc 73 then some (16, 0, 2, 76) else none)))) else (bif Nat.ble 56 pc then (bif Nat.ble 62 pc then (bif Nat.ble 72 pc then (bif Nat.beq pc 72 then some (3, 0, 0, 73) else none) else (bif Nat.beq pc 62 then some (90, 3, 0, 65) else none)) else (bif Nat.ble 59 pc then (bif Nat.beq pc 59 then some (50, 72, 0, 62) else none) else (bif Nat.beq pc 56 then some (70, 80, 1, 59) else none))) else (bif Nat.ble 52 pc then (bif Nat.ble 53 pc then (bif Nat.beq pc 53 then some (16, 0, 2, 56) else none) else (bif Nat.beq pc 52 then some (3, 0, 0, 53) else none)) else (bif Nat.ble 49 pc then (bif Nat.beq pc 49 then some (70, 81, 4, 52) else none) else (bif Nat.beq pc 48 then some (2, 3, 0, 49) else none))))) else (bif Nat.ble 25 pc then (bif Nat.ble 42 pc then (bif Nat.ble 46 pc then (bif Nat.ble 47 pc then (bif Nat.beq pc 47 then some (2, 2, 0, 48) else none) else (bif Nat.beq pc 46 then some (2, 1, 0, 47) else none)) else (bif Nat.ble 43 pc then (bif Nat.beq pc 43 then some (16, 0, 2, 46) else none) else (bif Nat.beq pc 42 then some (3, 0, 0, 43) else none))) else (bif Nat.ble 29 pc then (bif Nat.ble 32 pc then (bif Nat.beq pc 32 then some (90, 0, 0, 35) else none) else (bif Nat.beq pc 29 then some (61, 42, 0, 32) else none)) else (bif Nat.ble 26 pc then (bif Nat.beq pc 26 then some (0, 3000, 0, 29) else none) else (bif Nat.beq pc 25 then some (2, 3, 0, 26) else none)))) else (bif Nat.ble 8 pc then (bif Nat.ble 21 pc then (bif Nat.ble 22 pc then (bif Nat.beq pc 22 then some (52, 32, 0, 25) else none) else (bif Nat.beq pc 21 then some (2, 3, 0, 22) else none)) else (bif Nat.ble 11 pc then (bif Nat.beq pc 11 then some (90, 2, 0, 14) else none) else (bif Nat.beq pc 8 then some (51, 21, 0, 11) else none))) else (bif Nat.ble 4 pc then (bif Nat.ble 5 pc then (bif Nat.beq pc 5 then some (70, 98, 2, 8) else none) else (bif Nat.beq pc 4 then some (2, 1, 0, 5) else none)) else (bif Nat.ble 1 pc then (bif Nat.beq pc 1 then some (16, 0, 0, 4) else none) else (bif Nat.beq pc 0 then some (3, 0, 0, 1) else none)))))
-- 12: ThrowFlow.spent()I
def k_12 (pc : Nat) : Option PE := bif Nat.ble 4 pc then (bif Nat.ble 7 pc then (bif Nat.beq pc 7 then some (80, 1, 0, 0) else none) else (bif Nat.beq pc 4 then some (16, 4, 6, 7) else none)) else (bif Nat.ble 1 pc then (bif Nat.beq pc 1 then some (16, 0, 2, 4) else none) else (bif Nat.beq pc 0 then some (3, 0, 0, 1) else none))
-- 13: ThrowFlow.escaped()I
def k_13 (pc : Nat) : Option PE := bif Nat.ble 4 pc then (bif Nat.ble 7 pc then (bif Nat.beq pc 7 then some (80, 1, 0, 0) else none) else (bif Nat.beq pc 4 then some (16, 4, 8, 7) else none)) else (bif Nat.ble 1 pc then (bif Nat.beq pc 1 then some (16, 0, 2, 4) else none) else (bif Nat.beq pc 0 then some (3, 0, 0, 1) else none))
-- 14: ThrowFlowModel.thrown()I
def k_14 (pc : Nat) : Option PE := bif Nat.ble 1 pc then (bif Nat.ble 4 pc then (bif Nat.beq pc 4 then some (80, 1, 0, 0) else none) else (bif Nat.beq pc 1 then some (16, 6, 0, 4) else none)) else (bif Nat.beq pc 0 then some (3, 0, 0, 1) else none)
-- 15: ThrowFlowModel.isKind(I)Z
def k_15 (pc : Nat) : Option PE := bif Nat.ble 9 pc then (bif Nat.ble 13 pc then (bif Nat.ble 16 pc then (bif Nat.ble 17 pc then (bif Nat.beq pc 17 then some (80, 2, 0, 0) else none) else (bif Nat.beq pc 16 then some (0, 0, 0, 17) else none)) else (bif Nat.beq pc 13 then some (18, 0, 0, 17) else none)) else (bif Nat.ble 12 pc then (bif Nat.beq pc 12 then some (0, 1, 0, 13) else none) else (bif Nat.beq pc 9 then some (59, 16, 0, 12) else none))) else (bif Nat.ble 4 pc then (bif Nat.ble 5 pc then (bif Nat.ble 6 pc then (bif Nat.beq pc 6 then some (16, 6, 1, 9) else none) else (bif Nat.beq pc 5 then some (3, 0, 0, 6) else none)) else (bif Nat.beq pc 4 then some (2, 1, 0, 5) else none)) else (bif Nat.ble 1 pc then (bif Nat.beq pc 1 then some (52, 16, 0, 4) else none) else (bif Nat.beq pc 0 then some (2, 1, 0, 1) else none)))
-- 16: ThrowFlowModel.isOne(II)Z
def k_16 (pc : Nat) : Option PE := bif Nat.ble 16 pc then (bif Nat.ble 23 pc then (bif Nat.ble 27 pc then (bif Nat.ble 30 pc then (bif Nat.ble 31 pc then (bif Nat.beq pc 31 then some (80, 2, 0, 0) else none) else (bif Nat.beq pc 30 then some (0, 0, 0, 31) else none)) else (bif Nat.beq pc 27 then some (18, 0, 0, 31) else none)) else (bif Nat.ble 26 pc then (bif Nat.beq pc 26 then some (0, 1, 0, 27) else none) else (bif Nat.beq pc 23 then some (57, 30, 0, 26) else none))) else (bif Nat.ble 18 pc then (bif Nat.ble 21 pc then (bif Nat.ble 22 pc then (bif Nat.beq pc 22 then some (2, 2, 0, 23) else none) else (bif Nat.beq pc 21 then some (2, 3, 0, 22) else none)) else (bif Nat.beq pc 18 then some (18, 0, 0, 2) else none)) else (bif Nat.ble 17 pc then (bif Nat.beq pc 17 then some (4, 3, 0, 18) else none) else (bif Nat.beq pc 16 then some (30, 0, 0, 17) else none)))) else (bif Nat.ble 7 pc then (bif Nat.ble 11 pc then (bif Nat.ble 12 pc then (bif Nat.ble 15 pc then (bif Nat.beq pc 15 then some (2, 3, 0, 16) else none) else (bif Nat.beq pc 12 then some (16, 6, 2, 15) else none)) else (bif Nat.beq pc 11 then some (3, 0, 0, 12) else none)) else (bif Nat.ble 8 pc then (bif Nat.beq pc 8 then some (56, 21, 0, 11) else none) else (bif Nat.beq pc 7 then some (2, 2, 0, 8) else none))) else (bif Nat.ble 2 pc then (bif Nat.ble 3 pc then (bif Nat.ble 6 pc then (bif Nat.beq pc 6 then some (2, 3, 0, 7) else none) else (bif Nat.beq pc 3 then some (52, 21, 0, 6) else none)) else (bif Nat.beq pc 2 then some (2, 3, 0, 3) else none)) else (bif Nat.ble 1 pc then (bif Nat.beq pc 1 then some (4, 3, 0, 2) else none) else (bif Nat.beq pc 0 then some (2, 1, 0, 1) else none))))
-- 17: ThrowFlowModel.kind(I)I
def k_17 (pc : Nat) : Option PE := bif Nat.ble 39 pc then (bif Nat.ble 55 pc then (bif Nat.ble 64 pc then (bif Nat.ble 68 pc then (bif Nat.ble 69 pc then (bif Nat.ble 70 pc then (bif Nat.beq pc 70 then some (80, 1, 0, 0) else none) else (bif Nat.beq pc 69 then some (7, 0, 0, 70) else none)) else (bif Nat.beq pc 68 then some (0, 1, 0, 69) else none)) else (bif Nat.ble 65 pc then (bif Nat.beq pc 65 then some (16, 6, 1, 68) else none) else (bif Nat.beq pc 64 then some (3, 0, 0, 65) else none))) else (bif Nat.ble 59 pc then (bif Nat.ble 60 pc then (bif Nat.ble 61 pc then (bif Nat.beq pc 61 then some (34, 6, 13, 64) else none) else (bif Nat.beq pc 60 then some (0, 1, 0, 61) else none)) else (bif Nat.beq pc 59 then some (3, 0, 0, 60) else none)) else (bif Nat.ble 56 pc then (bif Nat.beq pc 56 then some (17, 6, 1, 59) else none) else (bif Nat.beq pc 55 then some (6, 0, 0, 56) else none)))) else (bif Nat.ble 48 pc then (bif Nat.ble 50 pc then (bif Nat.ble 51 pc then (bif Nat.ble 54 pc then (bif Nat.beq pc 54 then some (0, 1, 0, 55) else none) else (bif Nat.beq pc 51 then some (16, 6, 1, 54) else none)) else (bif Nat.beq pc 50 then some (14, 0, 0, 51) else none)) else (bif Nat.ble 49 pc then (bif Nat.beq pc 49 then some (3, 0, 0, 50) else none) else (bif Nat.beq pc 48 then some (31, 0, 0, 49) else none))) else (bif Nat.ble 43 pc then (bif Nat.ble 44 pc then (bif Nat.ble 47 pc then (bif Nat.beq pc 47 then some (2, 1, 0, 48) else none) else (bif Nat.beq pc 44 then some (16, 6, 1, 47) else none)) else (bif Nat.beq pc 43 then some (3, 0, 0, 44) else none)) else (bif Nat.ble 40 pc then (bif Nat.beq pc 40 then some (16, 6, 2, 43) else none) else (bif Nat.beq pc 39 then some (3, 0, 0, 40) else none))))) else (bif Nat.ble 19 pc then (bif Nat.ble 30 pc then (bif Nat.ble 34 pc then (bif Nat.ble 37 pc then (bif Nat.ble 38 pc then (bif Nat.beq pc 38 then some (80, 1, 0, 0) else none) else (bif Nat.beq pc 37 then some (0, 0, 0, 38) else none)) else (bif Nat.beq pc 34 then some (55, 39, 0, 37) else none)) else (bif Nat.ble 31 pc then (bif Nat.beq pc 31 then some (16, 6, 0, 34) else none) else (bif Nat.beq pc 30 then some (3, 0, 0, 31) else none))) else (bif Nat.ble 23 pc then (bif Nat.ble 26 pc then (bif Nat.ble 27 pc then (bif Nat.beq pc 27 then some (17, 6, 0, 30) else none) else (bif Nat.beq pc 26 then some (0, 0, 0, 27) else none)) else (bif Nat.beq pc 23 then some (18, 0, 0, 27) else none)) else (bif Nat.ble 22 pc then (bif Nat.beq pc 22 then some (0, 2, 0, 23) else none) else (bif Nat.beq pc 19 then some (57, 26, 0, 22) else none)))) else (bif Nat.ble 9 pc then (bif Nat.ble 13 pc then (bif Nat.ble 14 pc then (bif Nat.ble 17 pc then (bif Nat.beq pc 17 then some (0, 10, 0, 19) else none) else (bif Nat.beq pc 14 then some (16, 6, 1, 17) else none)) else (bif Nat.beq pc 13 then some (3, 0, 0, 14) else none)) else (bif Nat.ble 10 pc then (bif Nat.beq pc 10 then some (18, 0, 0, 27) else none) else (bif Nat.beq pc 9 then some (0, 1, 0, 10) else none))) else (bif Nat.ble 2 pc then (bif Nat.ble 3 pc then (bif Nat.ble 6 pc then (bif Nat.beq pc 6 then some (51, 13, 0, 9) else none) else (bif Nat.beq pc 3 then some (70, 15, 2, 6) else none)) else (bif Nat.beq pc 2 then some (2, 1, 0, 3) else none)) else (bif Nat.ble 1 pc then (bif Nat.beq pc 1 then some (3, 0, 0, 2) else none) else (bif Nat.beq pc 0 then some (3, 0, 0, 1) else none)))))
-- 18: ThrowFlowModel.is(II)Z
def k_18 (pc : Nat) : Option PE := bif Nat.ble 18 pc then (bif Nat.ble 27 pc then (bif Nat.ble 31 pc then (bif Nat.ble 34 pc then (bif Nat.ble 35 pc then (bif Nat.beq pc 35 then some (80, 2, 0, 0) else none) else (bif Nat.beq pc 34 then some (0, 0, 0, 35) else none)) else (bif Nat.beq pc 31 then some (18, 0, 0, 35) else none)) else (bif Nat.ble 30 pc then (bif Nat.beq pc 30 then some (0, 1, 0, 31) else none) else (bif Nat.beq pc 27 then some (50, 34, 0, 30) else none))) else (bif Nat.ble 22 pc then (bif Nat.ble 23 pc then (bif Nat.ble 24 pc then (bif Nat.beq pc 24 then some (70, 16, 3, 27) else none) else (bif Nat.beq pc 23 then some (2, 2, 0, 24) else none)) else (bif Nat.beq pc 22 then some (2, 1, 0, 23) else none)) else (bif Nat.ble 21 pc then (bif Nat.beq pc 21 then some (3, 0, 0, 22) else none) else (bif Nat.beq pc 18 then some (50, 34, 0, 21) else none)))) else (bif Nat.ble 7 pc then (bif Nat.ble 13 pc then (bif Nat.ble 14 pc then (bif Nat.ble 15 pc then (bif Nat.beq pc 15 then some (70, 15, 2, 18) else none) else (bif Nat.beq pc 14 then some (2, 2, 0, 15) else none)) else (bif Nat.beq pc 13 then some (3, 0, 0, 14) else none)) else (bif Nat.ble 10 pc then (bif Nat.beq pc 10 then some (50, 34, 0, 13) else none) else (bif Nat.beq pc 7 then some (70, 15, 2, 10) else none))) else (bif Nat.ble 2 pc then (bif Nat.ble 5 pc then (bif Nat.ble 6 pc then (bif Nat.beq pc 6 then some (2, 1, 0, 7) else none) else (bif Nat.beq pc 5 then some (3, 0, 0, 6) else none)) else (bif Nat.beq pc 2 then some (17, 6, 0, 5) else none)) else (bif Nat.ble 1 pc then (bif Nat.beq pc 1 then some (0, 0, 0, 2) else none) else (bif Nat.beq pc 0 then some (3, 0, 0, 1) else none))))
-- 19: ThrowFlowModel.isMethod(I)Z
def k_19 (pc : Nat) : Option PE := bif Nat.ble 9 pc then (bif Nat.ble 13 pc then (bif Nat.ble 16 pc then (bif Nat.ble 17 pc then (bif Nat.beq pc 17 then some (80, 2, 0, 0) else none) else (bif Nat.beq pc 16 then some (0, 0, 0, 17) else none)) else (bif Nat.beq pc 13 then some (18, 0, 0, 17) else none)) else (bif Nat.ble 12 pc then (bif Nat.beq pc 12 then some (0, 1, 0, 13) else none) else (bif Nat.beq pc 9 then some (59, 16, 0, 12) else none))) else (bif Nat.ble 4 pc then (bif Nat.ble 5 pc then (bif Nat.ble 6 pc then (bif Nat.beq pc 6 then some (16, 6, 3, 9) else none) else (bif Nat.beq pc 5 then some (3, 0, 0, 6) else none)) else (bif Nat.beq pc 4 then some (2, 1, 0, 5) else none)) else (bif Nat.ble 1 pc then (bif Nat.beq pc 1 then some (52, 16, 0, 4) else none) else (bif Nat.beq pc 0 then some (2, 1, 0, 1) else none)))
-- 20: ThrowFlowModel.isPlace(II)Z
def k_20 (pc : Nat) : Option PE := bif Nat.ble 14 pc then (bif Nat.ble 22 pc then (bif Nat.ble 26 pc then (bif Nat.ble 27 pc then (bif Nat.beq pc 27 then some (80, 2, 0, 0) else none) else (bif Nat.beq pc 26 then some (0, 0, 0, 27) else none)) else (bif Nat.ble 23 pc then (bif Nat.beq pc 23 then some (18, 0, 0, 27) else none) else (bif Nat.beq pc 22 then some (0, 1, 0, 23) else none))) else (bif Nat.ble 18 pc then (bif Nat.ble 19 pc then (bif Nat.beq pc 19 then some (59, 26, 0, 22) else none) else (bif Nat.beq pc 18 then some (30, 0, 0, 19) else none)) else (bif Nat.ble 17 pc then (bif Nat.beq pc 17 then some (2, 1, 0, 18) else none) else (bif Nat.beq pc 14 then some (16, 6, 4, 17) else none)))) else (bif Nat.ble 8 pc then (bif Nat.ble 12 pc then (bif Nat.ble 13 pc then (bif Nat.beq pc 13 then some (3, 0, 0, 14) else none) else (bif Nat.beq pc 12 then some (2, 2, 0, 13) else none)) else (bif Nat.ble 9 pc then (bif Nat.beq pc 9 then some (52, 26, 0, 12) else none) else (bif Nat.beq pc 8 then some (2, 2, 0, 9) else none))) else (bif Nat.ble 2 pc then (bif Nat.ble 5 pc then (bif Nat.beq pc 5 then some (50, 26, 0, 8) else none) else (bif Nat.beq pc 2 then some (70, 19, 2, 5) else none)) else (bif Nat.ble 1 pc then (bif Nat.beq pc 1 then some (2, 1, 0, 2) else none) else (bif Nat.beq pc 0 then some (3, 0, 0, 1) else none))))
-- 21: ThrowFlowModel.method()I
def k_21 (pc : Nat) : Option PE := bif Nat.ble 30 pc then (bif Nat.ble 43 pc then (bif Nat.ble 51 pc then (bif Nat.ble 55 pc then (bif Nat.ble 56 pc then (bif Nat.ble 57 pc then (bif Nat.beq pc 57 then some (80, 1, 0, 0) else none) else (bif Nat.beq pc 56 then some (7, 0, 0, 57) else none)) else (bif Nat.beq pc 55 then some (0, 1, 0, 56) else none)) else (bif Nat.ble 52 pc then (bif Nat.beq pc 52 then some (16, 6, 3, 55) else none) else (bif Nat.beq pc 51 then some (3, 0, 0, 52) else none))) else (bif Nat.ble 47 pc then (bif Nat.ble 48 pc then (bif Nat.beq pc 48 then some (34, 6, 13, 51) else none) else (bif Nat.beq pc 47 then some (0, 1, 0, 48) else none)) else (bif Nat.ble 46 pc then (bif Nat.beq pc 46 then some (3, 0, 0, 47) else none) else (bif Nat.beq pc 43 then some (17, 6, 3, 46) else none)))) else (bif Nat.ble 36 pc then (bif Nat.ble 38 pc then (bif Nat.ble 41 pc then (bif Nat.ble 42 pc then (bif Nat.beq pc 42 then some (6, 0, 0, 43) else none) else (bif Nat.beq pc 41 then some (0, 1, 0, 42) else none)) else (bif Nat.beq pc 38 then some (16, 6, 3, 41) else none)) else (bif Nat.ble 37 pc then (bif Nat.beq pc 37 then some (14, 0, 0, 38) else none) else (bif Nat.beq pc 36 then some (3, 0, 0, 37) else none))) else (bif Nat.ble 34 pc then (bif Nat.ble 35 pc then (bif Nat.beq pc 35 then some (31, 0, 0, 36) else none) else (bif Nat.beq pc 34 then some (0, 0, 0, 35) else none)) else (bif Nat.ble 31 pc then (bif Nat.beq pc 31 then some (16, 6, 3, 34) else none) else (bif Nat.beq pc 30 then some (3, 0, 0, 31) else none))))) else (bif Nat.ble 15 pc then (bif Nat.ble 21 pc then (bif Nat.ble 25 pc then (bif Nat.ble 26 pc then (bif Nat.ble 27 pc then (bif Nat.beq pc 27 then some (16, 6, 8, 30) else none) else (bif Nat.beq pc 26 then some (3, 0, 0, 27) else none)) else (bif Nat.beq pc 25 then some (31, 0, 0, 26) else none)) else (bif Nat.ble 24 pc then (bif Nat.beq pc 24 then some (0, 0, 0, 25) else none) else (bif Nat.beq pc 21 then some (16, 6, 3, 24) else none))) else (bif Nat.ble 17 pc then (bif Nat.ble 20 pc then (bif Nat.beq pc 20 then some (3, 0, 0, 21) else none) else (bif Nat.beq pc 17 then some (16, 6, 4, 20) else none)) else (bif Nat.ble 16 pc then (bif Nat.beq pc 16 then some (3, 0, 0, 17) else none) else (bif Nat.beq pc 15 then some (80, 1, 0, 0) else none)))) else (bif Nat.ble 6 pc then (bif Nat.ble 11 pc then (bif Nat.ble 14 pc then (bif Nat.beq pc 14 then some (1, 0, 0, 15) else none) else (bif Nat.beq pc 11 then some (57, 16, 0, 14) else none)) else (bif Nat.ble 9 pc then (bif Nat.beq pc 9 then some (0, 8, 0, 11) else none) else (bif Nat.beq pc 6 then some (16, 6, 3, 9) else none))) else (bif Nat.ble 2 pc then (bif Nat.ble 5 pc then (bif Nat.beq pc 5 then some (3, 0, 0, 6) else none) else (bif Nat.beq pc 2 then some (17, 6, 0, 5) else none)) else (bif Nat.ble 1 pc then (bif Nat.beq pc 1 then some (0, 0, 0, 2) else none) else (bif Nat.beq pc 0 then some (3, 0, 0, 1) else none)))))
-- 22: ThrowFlowModel.isIn(II)Z
def k_22 (pc : Nat) : Option PE := bif Nat.ble 6 pc then (bif Nat.ble 10 pc then (bif Nat.ble 13 pc then (bif Nat.ble 14 pc then (bif Nat.beq pc 14 then some (80, 2, 0, 0) else none) else (bif Nat.beq pc 13 then some (0, 0, 0, 14) else none)) else (bif Nat.beq pc 10 then some (18, 0, 0, 14) else none)) else (bif Nat.ble 9 pc then (bif Nat.beq pc 9 then some (0, 1, 0, 10) else none) else (bif Nat.beq pc 6 then some (60, 13, 0, 9) else none))) else (bif Nat.ble 4 pc then (bif Nat.ble 5 pc then (bif Nat.beq pc 5 then some (2, 1, 0, 6) else none) else (bif Nat.beq pc 4 then some (2, 0, 0, 5) else none)) else (bif Nat.ble 1 pc then (bif Nat.beq pc 1 then some (52, 13, 0, 4) else none) else (bif Nat.beq pc 0 then some (2, 0, 0, 1) else none)))
-- 23: ThrowFlowModel.fits(III)Z
def k_23 (pc : Nat) : Option PE := bif Nat.ble 99 pc then (bif Nat.ble 123 pc then (bif Nat.ble 136 pc then (bif Nat.ble 139 pc then (bif Nat.ble 143 pc then (bif Nat.ble 144 pc then (bif Nat.beq pc 144 then some (80, 2, 0, 0) else none) else (bif Nat.beq pc 143 then some (0, 0, 0, 144) else none)) else (bif Nat.ble 142 pc then (bif Nat.beq pc 142 then some (80, 2, 0, 0) else none) else (bif Nat.beq pc 139 then some (70, 15, 2, 142) else none))) else (bif Nat.ble 137 pc then (bif Nat.ble 138 pc then (bif Nat.beq pc 138 then some (2, 2, 0, 139) else none) else (bif Nat.beq pc 137 then some (3, 0, 0, 138) else none)) else (bif Nat.beq pc 136 then some (80, 2, 0, 0) else none))) else (bif Nat.ble 131 pc then (bif Nat.ble 132 pc then (bif Nat.ble 135 pc then (bif Nat.beq pc 135 then some (0, 0, 0, 136) else none) else (bif Nat.beq pc 132 then some (18, 0, 0, 136) else none)) else (bif Nat.beq pc 131 then some (0, 1, 0, 132) else none)) else (bif Nat.ble 125 pc then (bif Nat.ble 128 pc then (bif Nat.beq pc 128 then some (50, 135, 0, 131) else none) else (bif Nat.beq pc 125 then some (70, 22, 2, 128) else none)) else (bif Nat.beq pc 123 then some (0, 7, 0, 125) else none)))) else (bif Nat.ble 112 pc then (bif Nat.ble 115 pc then (bif Nat.ble 119 pc then (bif Nat.ble 122 pc then (bif Nat.beq pc 122 then some (2, 3, 0, 123) else none) else (bif Nat.beq pc 119 then some (50, 135, 0, 122) else none)) else (bif Nat.ble 116 pc then (bif Nat.beq pc 116 then some (70, 22, 2, 119) else none) else (bif Nat.beq pc 115 then some (0, 3, 0, 116) else none))) else (bif Nat.ble 113 pc then (bif Nat.ble 114 pc then (bif Nat.beq pc 114 then some (2, 2, 0, 115) else none) else (bif Nat.beq pc 113 then some (80, 2, 0, 0) else none)) else (bif Nat.beq pc 112 then some (0, 0, 0, 113) else none))) else (bif Nat.ble 105 pc then (bif Nat.ble 108 pc then (bif Nat.ble 109 pc then (bif Nat.beq pc 109 then some (18, 0, 0, 113) else none) else (bif Nat.beq pc 108 then some (0, 1, 0, 109) else none)) else (bif Nat.beq pc 105 then some (50, 112, 0, 108) else none)) else (bif Nat.ble 100 pc then (bif Nat.ble 102 pc then (bif Nat.beq pc 102 then some (70, 22, 2, 105) else none) else (bif Nat.beq pc 100 then some (0, 23, 0, 102) else none)) else (bif Nat.beq pc 99 then some (2, 3, 0, 100) else none))))) else (bif Nat.ble 75 pc then (bif Nat.ble 85 pc then (bif Nat.ble 91 pc then (bif Nat.ble 93 pc then (bif Nat.ble 96 pc then (bif Nat.beq pc 96 then some (50, 112, 0, 99) else none) else (bif Nat.beq pc 93 then some (70, 22, 2, 96) else none)) else (bif Nat.ble 92 pc then (bif Nat.beq pc 92 then some (0, 3, 0, 93) else none) else (bif Nat.beq pc 91 then some (2, 2, 0, 92) else none))) else (bif Nat.ble 87 pc then (bif Nat.ble 90 pc then (bif Nat.beq pc 90 then some (80, 2, 0, 0) else none) else (bif Nat.beq pc 87 then some (70, 22, 2, 90) else none)) else (bif Nat.beq pc 85 then some (0, 23, 0, 87) else none))) else (bif Nat.ble 82 pc then (bif Nat.ble 83 pc then (bif Nat.ble 84 pc then (bif Nat.beq pc 84 then some (2, 2, 0, 85) else none) else (bif Nat.beq pc 83 then some (80, 2, 0, 0) else none)) else (bif Nat.beq pc 82 then some (0, 0, 0, 83) else none)) else (bif Nat.ble 78 pc then (bif Nat.ble 79 pc then (bif Nat.beq pc 79 then some (18, 0, 0, 83) else none) else (bif Nat.beq pc 78 then some (0, 1, 0, 79) else none)) else (bif Nat.beq pc 75 then some (50, 82, 0, 78) else none)))) else (bif Nat.ble 62 pc then (bif Nat.ble 67 pc then (bif Nat.ble 71 pc then (bif Nat.ble 72 pc then (bif Nat.beq pc 72 then some (70, 22, 2, 75) else none) else (bif Nat.beq pc 71 then some (0, 3, 0, 72) else none)) else (bif Nat.ble 70 pc then (bif Nat.beq pc 70 then some (2, 3, 0, 71) else none) else (bif Nat.beq pc 67 then some (50, 82, 0, 70) else none))) else (bif Nat.ble 63 pc then (bif Nat.ble 64 pc then (bif Nat.beq pc 64 then some (70, 22, 2, 67) else none) else (bif Nat.beq pc 63 then some (0, 3, 0, 64) else none)) else (bif Nat.beq pc 62 then some (2, 2, 0, 63) else none))) else (bif Nat.ble 57 pc then (bif Nat.ble 58 pc then (bif Nat.ble 61 pc then (bif Nat.beq pc 61 then some (80, 2, 0, 0) else none) else (bif Nat.beq pc 58 then some (70, 22, 2, 61) else none)) else (bif Nat.beq pc 57 then some (0, 3, 0, 58) else none)) else (bif Nat.ble 1 pc then (bif Nat.ble 56 pc then (bif Nat.beq pc 56 then some (2, 2, 0, 57) else none) else (bif Nat.beq pc 1 then some (62, 0, 143, 0) else none)) else (bif Nat.beq pc 0 then some (2, 1, 0, 1) else none)))))
-- 24: ThrowFlowModel.write(IIIII)V
def k_24 (pc : Nat) : Option PE := bif Nat.ble 21 pc then (bif Nat.ble 33 pc then (bif Nat.ble 38 pc then (bif Nat.ble 40 pc then (bif Nat.ble 43 pc then (bif Nat.beq pc 43 then some (81, 0, 0, 0) else none) else (bif Nat.beq pc 40 then some (34, 6, 13, 43) else none)) else (bif Nat.ble 39 pc then (bif Nat.beq pc 39 then some (0, 1, 0, 40) else none) else (bif Nat.beq pc 38 then some (3, 0, 0, 39) else none))) else (bif Nat.ble 35 pc then (bif Nat.ble 37 pc then (bif Nat.beq pc 37 then some (31, 0, 0, 38) else none) else (bif Nat.beq pc 35 then some (2, 5, 0, 37) else none)) else (bif Nat.ble 34 pc then (bif Nat.beq pc 34 then some (6, 0, 0, 35) else none) else (bif Nat.beq pc 33 then some (2, 2, 0, 34) else none)))) else (bif Nat.ble 26 pc then (bif Nat.ble 31 pc then (bif Nat.ble 32 pc then (bif Nat.beq pc 32 then some (8, 0, 0, 33) else none) else (bif Nat.beq pc 31 then some (2, 1, 0, 32) else none)) else (bif Nat.ble 29 pc then (bif Nat.beq pc 29 then some (0, 24, 0, 31) else none) else (bif Nat.beq pc 26 then some (16, 6, 7, 29) else none))) else (bif Nat.ble 24 pc then (bif Nat.ble 25 pc then (bif Nat.beq pc 25 then some (3, 0, 0, 26) else none) else (bif Nat.beq pc 24 then some (31, 0, 0, 25) else none)) else (bif Nat.ble 22 pc then (bif Nat.beq pc 22 then some (2, 4, 0, 24) else none) else (bif Nat.beq pc 21 then some (6, 0, 0, 22) else none))))) else (bif Nat.ble 10 pc then (bif Nat.ble 16 pc then (bif Nat.ble 19 pc then (bif Nat.ble 20 pc then (bif Nat.beq pc 20 then some (2, 2, 0, 21) else none) else (bif Nat.beq pc 19 then some (8, 0, 0, 20) else none)) else (bif Nat.ble 18 pc then (bif Nat.beq pc 18 then some (2, 1, 0, 19) else none) else (bif Nat.beq pc 16 then some (0, 24, 0, 18) else none))) else (bif Nat.ble 12 pc then (bif Nat.ble 13 pc then (bif Nat.beq pc 13 then some (16, 6, 6, 16) else none) else (bif Nat.beq pc 12 then some (3, 0, 0, 13) else none)) else (bif Nat.ble 11 pc then (bif Nat.beq pc 11 then some (31, 0, 0, 12) else none) else (bif Nat.beq pc 10 then some (2, 3, 0, 11) else none)))) else (bif Nat.ble 6 pc then (bif Nat.ble 8 pc then (bif Nat.ble 9 pc then (bif Nat.beq pc 9 then some (6, 0, 0, 10) else none) else (bif Nat.beq pc 8 then some (2, 2, 0, 9) else none)) else (bif Nat.ble 7 pc then (bif Nat.beq pc 7 then some (8, 0, 0, 8) else none) else (bif Nat.beq pc 6 then some (2, 1, 0, 7) else none))) else (bif Nat.ble 1 pc then (bif Nat.ble 4 pc then (bif Nat.beq pc 4 then some (0, 24, 0, 6) else none) else (bif Nat.beq pc 1 then some (16, 6, 5, 4) else none)) else (bif Nat.beq pc 0 then some (3, 0, 0, 1) else none))))
-- 25: ThrowFlowModel.add(IIII)I
def k_25 (pc : Nat) : Option PE := bif Nat.ble 56 pc then (bif Nat.ble 80 pc then (bif Nat.ble 92 pc then (bif Nat.ble 98 pc then (bif Nat.ble 100 pc then (bif Nat.ble 101 pc then (bif Nat.beq pc 101 then some (80, 1, 0, 0) else none) else (bif Nat.beq pc 100 then some (7, 0, 0, 101) else none)) else (bif Nat.ble 99 pc then (bif Nat.beq pc 99 then some (0, 1, 0, 100) else none) else (bif Nat.beq pc 98 then some (30, 0, 0, 99) else none))) else (bif Nat.ble 94 pc then (bif Nat.ble 97 pc then (bif Nat.beq pc 97 then some (2, 1, 0, 98) else none) else (bif Nat.beq pc 94 then some (16, 6, 4, 97) else none)) else (bif Nat.ble 93 pc then (bif Nat.beq pc 93 then some (3, 0, 0, 94) else none) else (bif Nat.beq pc 92 then some (31, 0, 0, 93) else none)))) else (bif Nat.ble 88 pc then (bif Nat.ble 90 pc then (bif Nat.ble 91 pc then (bif Nat.beq pc 91 then some (6, 0, 0, 92) else none) else (bif Nat.beq pc 90 then some (0, 1, 0, 91) else none)) else (bif Nat.ble 89 pc then (bif Nat.beq pc 89 then some (30, 0, 0, 90) else none) else (bif Nat.beq pc 88 then some (15, 0, 0, 89) else none))) else (bif Nat.ble 84 pc then (bif Nat.ble 87 pc then (bif Nat.beq pc 87 then some (2, 1, 0, 88) else none) else (bif Nat.beq pc 84 then some (16, 6, 4, 87) else none)) else (bif Nat.ble 83 pc then (bif Nat.beq pc 83 then some (3, 0, 0, 84) else none) else (bif Nat.beq pc 80 then some (70, 24, 6, 83) else none))))) else (bif Nat.ble 69 pc then (bif Nat.ble 75 pc then (bif Nat.ble 77 pc then (bif Nat.ble 78 pc then (bif Nat.beq pc 78 then some (2, 4, 0, 80) else none) else (bif Nat.beq pc 77 then some (2, 3, 0, 78) else none)) else (bif Nat.ble 76 pc then (bif Nat.beq pc 76 then some (2, 2, 0, 77) else none) else (bif Nat.beq pc 75 then some (30, 0, 0, 76) else none))) else (bif Nat.ble 71 pc then (bif Nat.ble 74 pc then (bif Nat.beq pc 74 then some (2, 1, 0, 75) else none) else (bif Nat.beq pc 71 then some (16, 6, 4, 74) else none)) else (bif Nat.ble 70 pc then (bif Nat.beq pc 70 then some (3, 0, 0, 71) else none) else (bif Nat.beq pc 69 then some (2, 1, 0, 70) else none)))) else (bif Nat.ble 63 pc then (bif Nat.ble 67 pc then (bif Nat.ble 68 pc then (bif Nat.beq pc 68 then some (3, 0, 0, 69) else none) else (bif Nat.beq pc 67 then some (80, 1, 0, 0) else none)) else (bif Nat.ble 66 pc then (bif Nat.beq pc 66 then some (0, 0, 0, 67) else none) else (bif Nat.beq pc 63 then some (55, 68, 0, 66) else none))) else (bif Nat.ble 59 pc then (bif Nat.ble 60 pc then (bif Nat.beq pc 60 then some (16, 6, 0, 63) else none) else (bif Nat.beq pc 59 then some (3, 0, 0, 60) else none)) else (bif Nat.beq pc 56 then some (17, 6, 0, 59) else none))))) else (bif Nat.ble 29 pc then (bif Nat.ble 41 pc then (bif Nat.ble 48 pc then (bif Nat.ble 52 pc then (bif Nat.ble 55 pc then (bif Nat.beq pc 55 then some (0, 3, 0, 56) else none) else (bif Nat.beq pc 52 then some (18, 0, 0, 56) else none)) else (bif Nat.ble 51 pc then (bif Nat.beq pc 51 then some (0, 0, 0, 52) else none) else (bif Nat.beq pc 48 then some (50, 55, 0, 51) else none))) else (bif Nat.ble 43 pc then (bif Nat.ble 45 pc then (bif Nat.beq pc 45 then some (70, 23, 4, 48) else none) else (bif Nat.beq pc 43 then some (2, 4, 0, 45) else none)) else (bif Nat.ble 42 pc then (bif Nat.beq pc 42 then some (2, 3, 0, 43) else none) else (bif Nat.beq pc 41 then some (2, 2, 0, 42) else none)))) else (bif Nat.ble 33 pc then (bif Nat.ble 37 pc then (bif Nat.ble 40 pc then (bif Nat.beq pc 40 then some (3, 0, 0, 41) else none) else (bif Nat.beq pc 37 then some (18, 0, 0, 56) else none)) else (bif Nat.ble 36 pc then (bif Nat.beq pc 36 then some (0, 2, 0, 37) else none) else (bif Nat.beq pc 33 then some (57, 40, 0, 36) else none))) else (bif Nat.ble 30 pc then (bif Nat.ble 31 pc then (bif Nat.beq pc 31 then some (0, 24, 0, 33) else none) else (bif Nat.beq pc 30 then some (30, 0, 0, 31) else none)) else (bif Nat.beq pc 29 then some (2, 1, 0, 30) else none)))) else (bif Nat.ble 13 pc then (bif Nat.ble 21 pc then (bif Nat.ble 25 pc then (bif Nat.ble 26 pc then (bif Nat.beq pc 26 then some (16, 6, 4, 29) else none) else (bif Nat.beq pc 25 then some (3, 0, 0, 26) else none)) else (bif Nat.ble 22 pc then (bif Nat.beq pc 22 then some (18, 0, 0, 56) else none) else (bif Nat.beq pc 21 then some (0, 1, 0, 22) else none))) else (bif Nat.ble 16 pc then (bif Nat.ble 18 pc then (bif Nat.beq pc 18 then some (50, 25, 0, 21) else none) else (bif Nat.beq pc 16 then some (2, 5, 0, 18) else none)) else (bif Nat.ble 15 pc then (bif Nat.beq pc 15 then some (3, 0, 0, 16) else none) else (bif Nat.beq pc 13 then some (4, 5, 0, 15) else none)))) else (bif Nat.ble 5 pc then (bif Nat.ble 9 pc then (bif Nat.ble 12 pc then (bif Nat.beq pc 12 then some (0, 0, 0, 13) else none) else (bif Nat.beq pc 9 then some (18, 0, 0, 13) else none)) else (bif Nat.ble 8 pc then (bif Nat.beq pc 8 then some (0, 1, 0, 9) else none) else (bif Nat.beq pc 5 then some (51, 12, 0, 8) else none))) else (bif Nat.ble 1 pc then (bif Nat.ble 2 pc then (bif Nat.beq pc 2 then some (70, 19, 2, 5) else none) else (bif Nat.beq pc 1 then some (2, 1, 0, 2) else none)) else (bif Nat.beq pc 0 then some (3, 0, 0, 1) else none)))))
-- 26: ThrowFlowModel.handler(IIIII)I
def k_26 (pc : Nat) : Option PE := bif Nat.ble 102 pc then (bif Nat.ble 142 pc then (bif Nat.ble 163 pc then (bif Nat.ble 171 pc then (bif Nat.ble 176 pc then (bif Nat.ble 178 pc then (bif Nat.ble 179 pc then (bif Nat.beq pc 179 then some (80, 1, 0, 0) else none) else (bif Nat.beq pc 178 then some (7, 0, 0, 179) else none)) else (bif Nat.ble 177 pc then (bif Nat.beq pc 177 then some (0, 1, 0, 178) else none) else (bif Nat.beq pc 176 then some (30, 0, 0, 177) else none))) else (bif Nat.ble 172 pc then (bif Nat.ble 175 pc then (bif Nat.beq pc 175 then some (2, 1, 0, 176) else none) else (bif Nat.beq pc 172 then some (16, 6, 8, 175) else none)) else (bif Nat.beq pc 171 then some (3, 0, 0, 172) else none))) else (bif Nat.ble 166 pc then (bif Nat.ble 167 pc then (bif Nat.ble 168 pc then (bif Nat.beq pc 168 then some (34, 6, 13, 171) else none) else (bif Nat.beq pc 167 then some (0, 1, 0, 168) else none)) else (bif Nat.beq pc 166 then some (3, 0, 0, 167) else none)) else (bif Nat.ble 164 pc then (bif Nat.ble 165 pc then (bif Nat.beq pc 165 then some (31, 0, 0, 166) else none) else (bif Nat.beq pc 164 then some (6, 0, 0, 165) else none)) else (bif Nat.beq pc 163 then some (0, 1, 0, 164) else none)))) else (bif Nat.ble 153 pc then (bif Nat.ble 157 pc then (bif Nat.ble 161 pc then (bif Nat.ble 162 pc then (bif Nat.beq pc 162 then some (30, 0, 0, 163) else none) else (bif Nat.beq pc 161 then some (15, 0, 0, 162) else none)) else (bif Nat.ble 160 pc then (bif Nat.beq pc 160 then some (2, 1, 0, 161) else none) else (bif Nat.beq pc 157 then some (16, 6, 8, 160) else none))) else (bif Nat.ble 155 pc then (bif Nat.ble 156 pc then (bif Nat.beq pc 156 then some (3, 0, 0, 157) else none) else (bif Nat.beq pc 155 then some (31, 0, 0, 156) else none)) else (bif Nat.beq pc 153 then some (2, 5, 0, 155) else none))) else (bif Nat.ble 147 pc then (bif Nat.ble 148 pc then (bif Nat.ble 151 pc then (bif Nat.beq pc 151 then some (2, 8, 0, 153) else none) else (bif Nat.beq pc 148 then some (16, 6, 12, 151) else none)) else (bif Nat.beq pc 147 then some (3, 0, 0, 148) else none)) else (bif Nat.ble 144 pc then (bif Nat.ble 146 pc then (bif Nat.beq pc 146 then some (31, 0, 0, 147) else none) else (bif Nat.beq pc 144 then some (2, 4, 0, 146) else none)) else (bif Nat.beq pc 142 then some (2, 8, 0, 144) else none))))) else (bif Nat.ble 120 pc then (bif Nat.ble 130 pc then (bif Nat.ble 136 pc then (bif Nat.ble 138 pc then (bif Nat.ble 139 pc then (bif Nat.beq pc 139 then some (16, 6, 11, 142) else none) else (bif Nat.beq pc 138 then some (3, 0, 0, 139) else none)) else (bif Nat.ble 137 pc then (bif Nat.beq pc 137 then some (31, 0, 0, 138) else none) else (bif Nat.beq pc 136 then some (2, 3, 0, 137) else none))) else (bif Nat.ble 131 pc then (bif Nat.ble 134 pc then (bif Nat.beq pc 134 then some (2, 8, 0, 136) else none) else (bif Nat.beq pc 131 then some (16, 6, 10, 134) else none)) else (bif Nat.beq pc 130 then some (3, 0, 0, 131) else none))) else (bif Nat.ble 126 pc then (bif Nat.ble 128 pc then (bif Nat.ble 129 pc then (bif Nat.beq pc 129 then some (31, 0, 0, 130) else none) else (bif Nat.beq pc 128 then some (2, 2, 0, 129) else none)) else (bif Nat.beq pc 126 then some (2, 8, 0, 128) else none)) else (bif Nat.ble 122 pc then (bif Nat.ble 123 pc then (bif Nat.beq pc 123 then some (16, 6, 9, 126) else none) else (bif Nat.beq pc 122 then some (3, 0, 0, 123) else none)) else (bif Nat.beq pc 120 then some (4, 8, 0, 122) else none)))) else (bif Nat.ble 112 pc then (bif Nat.ble 117 pc then (bif Nat.ble 118 pc then (bif Nat.ble 119 pc then (bif Nat.beq pc 119 then some (6, 0, 0, 120) else none) else (bif Nat.beq pc 118 then some (30, 0, 0, 119) else none)) else (bif Nat.beq pc 117 then some (2, 1, 0, 118) else none)) else (bif Nat.ble 113 pc then (bif Nat.ble 114 pc then (bif Nat.beq pc 114 then some (16, 6, 8, 117) else none) else (bif Nat.beq pc 113 then some (3, 0, 0, 114) else none)) else (bif Nat.beq pc 112 then some (8, 0, 0, 113) else none))) else (bif Nat.ble 109 pc then (bif Nat.ble 110 pc then (bif Nat.ble 111 pc then (bif Nat.beq pc 111 then some (2, 1, 0, 112) else none) else (bif Nat.beq pc 110 then some (0, 4, 0, 111) else none)) else (bif Nat.beq pc 109 then some (80, 1, 0, 0) else none)) else (bif Nat.ble 105 pc then (bif Nat.ble 108 pc then (bif Nat.beq pc 108 then some (0, 0, 0, 109) else none) else (bif Nat.beq pc 105 then some (55, 110, 0, 108) else none)) else (bif Nat.beq pc 102 then some (16, 6, 0, 105) else none)))))) else (bif Nat.ble 51 pc then (bif Nat.ble 78 pc then (bif Nat.ble 88 pc then (bif Nat.ble 94 pc then (bif Nat.ble 98 pc then (bif Nat.ble 101 pc then (bif Nat.beq pc 101 then some (3, 0, 0, 102) else none) else (bif Nat.beq pc 98 then some (17, 6, 0, 101) else none)) else (bif Nat.ble 97 pc then (bif Nat.beq pc 97 then some (0, 3, 0, 98) else none) else (bif Nat.beq pc 94 then some (18, 0, 0, 98) else none))) else (bif Nat.ble 90 pc then (bif Nat.ble 93 pc then (bif Nat.beq pc 93 then some (0, 0, 0, 94) else none) else (bif Nat.beq pc 90 then some (50, 97, 0, 93) else none)) else (bif Nat.beq pc 88 then some (2, 7, 0, 90) else none))) else (bif Nat.ble 81 pc then (bif Nat.ble 84 pc then (bif Nat.ble 85 pc then (bif Nat.beq pc 85 then some (18, 0, 0, 98) else none) else (bif Nat.beq pc 84 then some (0, 2, 0, 85) else none)) else (bif Nat.beq pc 81 then some (57, 88, 0, 84) else none)) else (bif Nat.ble 79 pc then (bif Nat.ble 80 pc then (bif Nat.beq pc 80 then some (0, 4, 0, 81) else none) else (bif Nat.beq pc 79 then some (30, 0, 0, 80) else none)) else (bif Nat.beq pc 78 then some (2, 1, 0, 79) else none)))) else (bif Nat.ble 64 pc then (bif Nat.ble 70 pc then (bif Nat.ble 74 pc then (bif Nat.ble 75 pc then (bif Nat.beq pc 75 then some (16, 6, 8, 78) else none) else (bif Nat.beq pc 74 then some (3, 0, 0, 75) else none)) else (bif Nat.ble 71 pc then (bif Nat.beq pc 71 then some (18, 0, 0, 98) else none) else (bif Nat.beq pc 70 then some (0, 1, 0, 71) else none))) else (bif Nat.ble 65 pc then (bif Nat.ble 67 pc then (bif Nat.beq pc 67 then some (50, 74, 0, 70) else none) else (bif Nat.beq pc 65 then some (2, 6, 0, 67) else none)) else (bif Nat.beq pc 64 then some (3, 0, 0, 65) else none))) else (bif Nat.ble 58 pc then (bif Nat.ble 61 pc then (bif Nat.ble 62 pc then (bif Nat.beq pc 62 then some (4, 7, 0, 64) else none) else (bif Nat.beq pc 61 then some (0, 0, 0, 62) else none)) else (bif Nat.beq pc 58 then some (18, 0, 0, 62) else none)) else (bif Nat.ble 54 pc then (bif Nat.ble 57 pc then (bif Nat.beq pc 57 then some (0, 1, 0, 58) else none) else (bif Nat.beq pc 54 then some (50, 61, 0, 57) else none)) else (bif Nat.beq pc 51 then some (70, 15, 2, 54) else none))))) else (bif Nat.ble 24 pc then (bif Nat.ble 37 pc then (bif Nat.ble 44 pc then (bif Nat.ble 48 pc then (bif Nat.ble 49 pc then (bif Nat.beq pc 49 then some (2, 4, 0, 51) else none) else (bif Nat.beq pc 48 then some (3, 0, 0, 49) else none)) else (bif Nat.ble 45 pc then (bif Nat.beq pc 45 then some (60, 61, 0, 48) else none) else (bif Nat.beq pc 44 then some (2, 3, 0, 45) else none))) else (bif Nat.ble 40 pc then (bif Nat.ble 43 pc then (bif Nat.beq pc 43 then some (2, 2, 0, 44) else none) else (bif Nat.beq pc 40 then some (50, 61, 0, 43) else none)) else (bif Nat.beq pc 37 then some (70, 22, 2, 40) else none))) else (bif Nat.ble 30 pc then (bif Nat.ble 33 pc then (bif Nat.ble 35 pc then (bif Nat.beq pc 35 then some (0, 23, 0, 37) else none) else (bif Nat.beq pc 33 then some (2, 5, 0, 35) else none)) else (bif Nat.beq pc 30 then some (50, 61, 0, 33) else none)) else (bif Nat.ble 25 pc then (bif Nat.ble 27 pc then (bif Nat.beq pc 27 then some (70, 22, 2, 30) else none) else (bif Nat.beq pc 25 then some (0, 23, 0, 27) else none)) else (bif Nat.beq pc 24 then some (2, 3, 0, 25) else none)))) else (bif Nat.ble 12 pc then (bif Nat.ble 16 pc then (bif Nat.ble 18 pc then (bif Nat.ble 21 pc then (bif Nat.beq pc 21 then some (50, 61, 0, 24) else none) else (bif Nat.beq pc 18 then some (70, 22, 2, 21) else none)) else (bif Nat.beq pc 16 then some (0, 23, 0, 18) else none)) else (bif Nat.ble 13 pc then (bif Nat.ble 15 pc then (bif Nat.beq pc 15 then some (2, 2, 0, 16) else none) else (bif Nat.beq pc 13 then some (4, 6, 0, 15) else none)) else (bif Nat.beq pc 12 then some (0, 0, 0, 13) else none))) else (bif Nat.ble 5 pc then (bif Nat.ble 8 pc then (bif Nat.ble 9 pc then (bif Nat.beq pc 9 then some (18, 0, 0, 13) else none) else (bif Nat.beq pc 8 then some (0, 1, 0, 9) else none)) else (bif Nat.beq pc 5 then some (51, 12, 0, 8) else none)) else (bif Nat.ble 1 pc then (bif Nat.ble 2 pc then (bif Nat.beq pc 2 then some (70, 19, 2, 5) else none) else (bif Nat.beq pc 1 then some (2, 1, 0, 2) else none)) else (bif Nat.beq pc 0 then some (3, 0, 0, 1) else none))))))
-- 27: ThrowFlowModel.change(IIIII)I
def k_27 (pc : Nat) : Option PE := bif Nat.ble 38 pc then (bif Nat.ble 53 pc then (bif Nat.ble 59 pc then (bif Nat.ble 64 pc then (bif Nat.ble 67 pc then (bif Nat.ble 69 pc then (bif Nat.beq pc 69 then some (80, 1, 0, 0) else none) else (bif Nat.beq pc 67 then some (2, 6, 0, 69) else none)) else (bif Nat.beq pc 64 then some (70, 24, 6, 67) else none)) else (bif Nat.ble 60 pc then (bif Nat.ble 62 pc then (bif Nat.beq pc 62 then some (2, 5, 0, 64) else none) else (bif Nat.beq pc 60 then some (2, 4, 0, 62) else none)) else (bif Nat.beq pc 59 then some (2, 3, 0, 60) else none))) else (bif Nat.ble 56 pc then (bif Nat.ble 57 pc then (bif Nat.ble 58 pc then (bif Nat.beq pc 58 then some (2, 2, 0, 59) else none) else (bif Nat.beq pc 57 then some (2, 1, 0, 58) else none)) else (bif Nat.beq pc 56 then some (3, 0, 0, 57) else none)) else (bif Nat.ble 54 pc then (bif Nat.beq pc 54 then some (4, 6, 0, 56) else none) else (bif Nat.beq pc 53 then some (30, 0, 0, 54) else none)))) else (bif Nat.ble 47 pc then (bif Nat.ble 50 pc then (bif Nat.ble 51 pc then (bif Nat.ble 52 pc then (bif Nat.beq pc 52 then some (6, 0, 0, 53) else none) else (bif Nat.beq pc 51 then some (2, 2, 0, 52) else none)) else (bif Nat.beq pc 50 then some (8, 0, 0, 51) else none)) else (bif Nat.ble 49 pc then (bif Nat.beq pc 49 then some (2, 1, 0, 50) else none) else (bif Nat.beq pc 47 then some (0, 24, 0, 49) else none))) else (bif Nat.ble 42 pc then (bif Nat.ble 43 pc then (bif Nat.ble 44 pc then (bif Nat.beq pc 44 then some (16, 6, 5, 47) else none) else (bif Nat.beq pc 43 then some (3, 0, 0, 44) else none)) else (bif Nat.beq pc 42 then some (80, 1, 0, 0) else none)) else (bif Nat.ble 41 pc then (bif Nat.beq pc 41 then some (0, 0, 0, 42) else none) else (bif Nat.beq pc 38 then some (55, 43, 0, 41) else none))))) else (bif Nat.ble 16 pc then (bif Nat.ble 27 pc then (bif Nat.ble 31 pc then (bif Nat.ble 34 pc then (bif Nat.ble 35 pc then (bif Nat.beq pc 35 then some (16, 6, 0, 38) else none) else (bif Nat.beq pc 34 then some (3, 0, 0, 35) else none)) else (bif Nat.beq pc 31 then some (17, 6, 0, 34) else none)) else (bif Nat.ble 30 pc then (bif Nat.beq pc 30 then some (0, 2, 0, 31) else none) else (bif Nat.beq pc 27 then some (18, 0, 0, 31) else none))) else (bif Nat.ble 20 pc then (bif Nat.ble 23 pc then (bif Nat.ble 26 pc then (bif Nat.beq pc 26 then some (0, 0, 0, 27) else none) else (bif Nat.beq pc 23 then some (50, 30, 0, 26) else none)) else (bif Nat.beq pc 20 then some (70, 23, 4, 23) else none)) else (bif Nat.ble 18 pc then (bif Nat.beq pc 18 then some (2, 5, 0, 20) else none) else (bif Nat.beq pc 16 then some (2, 4, 0, 18) else none)))) else (bif Nat.ble 7 pc then (bif Nat.ble 11 pc then (bif Nat.ble 14 pc then (bif Nat.ble 15 pc then (bif Nat.beq pc 15 then some (2, 3, 0, 16) else none) else (bif Nat.beq pc 14 then some (3, 0, 0, 15) else none)) else (bif Nat.beq pc 11 then some (18, 0, 0, 31) else none)) else (bif Nat.ble 10 pc then (bif Nat.beq pc 10 then some (0, 1, 0, 11) else none) else (bif Nat.beq pc 7 then some (51, 14, 0, 10) else none))) else (bif Nat.ble 2 pc then (bif Nat.ble 3 pc then (bif Nat.ble 4 pc then (bif Nat.beq pc 4 then some (70, 20, 3, 7) else none) else (bif Nat.beq pc 3 then some (2, 2, 0, 4) else none)) else (bif Nat.beq pc 2 then some (2, 1, 0, 3) else none)) else (bif Nat.ble 1 pc then (bif Nat.beq pc 1 then some (3, 0, 0, 2) else none) else (bif Nat.beq pc 0 then some (3, 0, 0, 1) else none)))))
-- 28: ThrowFlowModel.catcher(III)I
def k_28 (pc : Nat) : Option PE := bif Nat.ble 33 pc then (bif Nat.ble 50 pc then (bif Nat.ble 61 pc then (bif Nat.ble 65 pc then (bif Nat.ble 68 pc then (bif Nat.ble 69 pc then (bif Nat.beq pc 69 then some (80, 1, 0, 0) else none) else (bif Nat.beq pc 68 then some (1, 0, 0, 69) else none)) else (bif Nat.beq pc 65 then some (18, 0, 0, 3) else none)) else (bif Nat.ble 62 pc then (bif Nat.beq pc 62 then some (19, 4, 1, 65) else none) else (bif Nat.beq pc 61 then some (80, 1, 0, 0) else none))) else (bif Nat.ble 53 pc then (bif Nat.ble 56 pc then (bif Nat.ble 59 pc then (bif Nat.beq pc 59 then some (2, 4, 0, 61) else none) else (bif Nat.beq pc 56 then some (50, 62, 0, 59) else none)) else (bif Nat.beq pc 53 then some (70, 16, 3, 56) else none)) else (bif Nat.ble 52 pc then (bif Nat.beq pc 52 then some (30, 0, 0, 53) else none) else (bif Nat.beq pc 50 then some (2, 5, 0, 52) else none)))) else (bif Nat.ble 41 pc then (bif Nat.ble 45 pc then (bif Nat.ble 46 pc then (bif Nat.ble 47 pc then (bif Nat.beq pc 47 then some (16, 6, 11, 50) else none) else (bif Nat.beq pc 46 then some (3, 0, 0, 47) else none)) else (bif Nat.beq pc 45 then some (2, 3, 0, 46) else none)) else (bif Nat.ble 44 pc then (bif Nat.beq pc 44 then some (3, 0, 0, 45) else none) else (bif Nat.beq pc 41 then some (60, 62, 0, 44) else none))) else (bif Nat.ble 35 pc then (bif Nat.ble 38 pc then (bif Nat.ble 40 pc then (bif Nat.beq pc 40 then some (30, 0, 0, 41) else none) else (bif Nat.beq pc 38 then some (2, 5, 0, 40) else none)) else (bif Nat.beq pc 35 then some (16, 6, 10, 38) else none)) else (bif Nat.ble 34 pc then (bif Nat.beq pc 34 then some (3, 0, 0, 35) else none) else (bif Nat.beq pc 33 then some (2, 2, 0, 34) else none))))) else (bif Nat.ble 16 pc then (bif Nat.ble 23 pc then (bif Nat.ble 27 pc then (bif Nat.ble 29 pc then (bif Nat.ble 30 pc then (bif Nat.beq pc 30 then some (58, 62, 0, 33) else none) else (bif Nat.beq pc 29 then some (30, 0, 0, 30) else none)) else (bif Nat.beq pc 27 then some (2, 5, 0, 29) else none)) else (bif Nat.ble 24 pc then (bif Nat.beq pc 24 then some (16, 6, 9, 27) else none) else (bif Nat.beq pc 23 then some (3, 0, 0, 24) else none))) else (bif Nat.ble 19 pc then (bif Nat.ble 20 pc then (bif Nat.ble 22 pc then (bif Nat.beq pc 22 then some (2, 2, 0, 23) else none) else (bif Nat.beq pc 20 then some (4, 5, 0, 22) else none)) else (bif Nat.beq pc 19 then some (6, 0, 0, 20) else none)) else (bif Nat.ble 17 pc then (bif Nat.beq pc 17 then some (2, 4, 0, 19) else none) else (bif Nat.beq pc 16 then some (8, 0, 0, 17) else none)))) else (bif Nat.ble 9 pc then (bif Nat.ble 11 pc then (bif Nat.ble 14 pc then (bif Nat.ble 15 pc then (bif Nat.beq pc 15 then some (2, 1, 0, 16) else none) else (bif Nat.beq pc 14 then some (0, 4, 0, 15) else none)) else (bif Nat.beq pc 11 then some (59, 68, 0, 14) else none)) else (bif Nat.ble 10 pc then (bif Nat.beq pc 10 then some (30, 0, 0, 11) else none) else (bif Nat.beq pc 9 then some (2, 1, 0, 10) else none))) else (bif Nat.ble 3 pc then (bif Nat.ble 5 pc then (bif Nat.ble 6 pc then (bif Nat.beq pc 6 then some (16, 6, 8, 9) else none) else (bif Nat.beq pc 5 then some (3, 0, 0, 6) else none)) else (bif Nat.beq pc 3 then some (2, 4, 0, 5) else none)) else (bif Nat.ble 1 pc then (bif Nat.beq pc 1 then some (4, 4, 0, 3) else none) else (bif Nat.beq pc 0 then some (0, 0, 0, 1) else none)))))
-- 29: ThrowFlowModel.nearest(III)I
def k_29 (pc : Nat) : Option PE := bif Nat.ble 33 pc then (bif Nat.ble 49 pc then (bif Nat.ble 61 pc then (bif Nat.ble 68 pc then (bif Nat.ble 71 pc then (bif Nat.ble 73 pc then (bif Nat.beq pc 73 then some (80, 1, 0, 0) else none) else (bif Nat.beq pc 71 then some (2, 4, 0, 73) else none)) else (bif Nat.beq pc 68 then some (18, 0, 0, 7) else none)) else (bif Nat.ble 63 pc then (bif Nat.ble 65 pc then (bif Nat.beq pc 65 then some (19, 5, 1, 68) else none) else (bif Nat.beq pc 63 then some (4, 4, 0, 65) else none)) else (bif Nat.beq pc 61 then some (2, 4, 0, 63) else none))) else (bif Nat.ble 53 pc then (bif Nat.ble 56 pc then (bif Nat.ble 58 pc then (bif Nat.beq pc 58 then some (18, 0, 0, 63) else none) else (bif Nat.beq pc 56 then some (2, 6, 0, 58) else none)) else (bif Nat.beq pc 53 then some (57, 61, 0, 56) else none)) else (bif Nat.ble 52 pc then (bif Nat.beq pc 52 then some (2, 2, 0, 53) else none) else (bif Nat.beq pc 49 then some (70, 28, 4, 52) else none)))) else (bif Nat.ble 41 pc then (bif Nat.ble 45 pc then (bif Nat.ble 46 pc then (bif Nat.ble 48 pc then (bif Nat.beq pc 48 then some (2, 3, 0, 49) else none) else (bif Nat.beq pc 46 then some (2, 5, 0, 48) else none)) else (bif Nat.beq pc 45 then some (2, 1, 0, 46) else none)) else (bif Nat.ble 44 pc then (bif Nat.beq pc 44 then some (3, 0, 0, 45) else none) else (bif Nat.beq pc 41 then some (59, 61, 0, 44) else none))) else (bif Nat.ble 35 pc then (bif Nat.ble 37 pc then (bif Nat.ble 39 pc then (bif Nat.beq pc 39 then some (2, 4, 0, 41) else none) else (bif Nat.beq pc 37 then some (2, 6, 0, 39) else none)) else (bif Nat.beq pc 35 then some (4, 6, 0, 37) else none)) else (bif Nat.ble 34 pc then (bif Nat.beq pc 34 then some (30, 0, 0, 35) else none) else (bif Nat.beq pc 33 then some (6, 0, 0, 34) else none))))) else (bif Nat.ble 18 pc then (bif Nat.ble 27 pc then (bif Nat.ble 30 pc then (bif Nat.ble 31 pc then (bif Nat.ble 32 pc then (bif Nat.beq pc 32 then some (2, 3, 0, 33) else none) else (bif Nat.beq pc 31 then some (8, 0, 0, 32) else none)) else (bif Nat.beq pc 30 then some (6, 0, 0, 31) else none)) else (bif Nat.ble 28 pc then (bif Nat.beq pc 28 then some (2, 5, 0, 30) else none) else (bif Nat.beq pc 27 then some (8, 0, 0, 28) else none))) else (bif Nat.ble 22 pc then (bif Nat.ble 24 pc then (bif Nat.ble 26 pc then (bif Nat.beq pc 26 then some (2, 1, 0, 27) else none) else (bif Nat.beq pc 24 then some (0, 24, 0, 26) else none)) else (bif Nat.beq pc 22 then some (0, 10, 0, 24) else none)) else (bif Nat.ble 19 pc then (bif Nat.beq pc 19 then some (16, 6, 14, 22) else none) else (bif Nat.beq pc 18 then some (3, 0, 0, 19) else none)))) else (bif Nat.ble 9 pc then (bif Nat.ble 13 pc then (bif Nat.ble 14 pc then (bif Nat.ble 15 pc then (bif Nat.beq pc 15 then some (59, 71, 0, 18) else none) else (bif Nat.beq pc 14 then some (30, 0, 0, 15) else none)) else (bif Nat.beq pc 13 then some (2, 1, 0, 14) else none)) else (bif Nat.ble 10 pc then (bif Nat.beq pc 10 then some (16, 6, 4, 13) else none) else (bif Nat.beq pc 9 then some (3, 0, 0, 10) else none))) else (bif Nat.ble 4 pc then (bif Nat.ble 5 pc then (bif Nat.ble 7 pc then (bif Nat.beq pc 7 then some (2, 5, 0, 9) else none) else (bif Nat.beq pc 5 then some (4, 5, 0, 7) else none)) else (bif Nat.beq pc 4 then some (0, 0, 0, 5) else none)) else (bif Nat.ble 2 pc then (bif Nat.beq pc 2 then some (4, 4, 0, 4) else none) else (bif Nat.beq pc 0 then some (0, 1000000, 0, 2) else none)))))
-- 30: ThrowFlowModel.reckon(III)I
def k_30 (pc : Nat) : Option PE := bif Nat.ble 72 pc then (bif Nat.ble 108 pc then (bif Nat.ble 123 pc then (bif Nat.ble 131 pc then (bif Nat.ble 135 pc then (bif Nat.ble 136 pc then (bif Nat.ble 138 pc then (bif Nat.beq pc 138 then some (80, 1, 0, 0) else none) else (bif Nat.beq pc 136 then some (0, 1000000, 0, 138) else none)) else (bif Nat.beq pc 135 then some (80, 1, 0, 0) else none)) else (bif Nat.ble 134 pc then (bif Nat.beq pc 134 then some (6, 0, 0, 135) else none) else (bif Nat.beq pc 131 then some (70, 29, 4, 134) else none))) else (bif Nat.ble 127 pc then (bif Nat.ble 129 pc then (bif Nat.ble 130 pc then (bif Nat.beq pc 130 then some (2, 3, 0, 131) else none) else (bif Nat.beq pc 129 then some (30, 0, 0, 130) else none)) else (bif Nat.beq pc 127 then some (2, 4, 0, 129) else none)) else (bif Nat.ble 124 pc then (bif Nat.beq pc 124 then some (16, 6, 6, 127) else none) else (bif Nat.beq pc 123 then some (3, 0, 0, 124) else none)))) else (bif Nat.ble 116 pc then (bif Nat.ble 120 pc then (bif Nat.ble 121 pc then (bif Nat.ble 122 pc then (bif Nat.beq pc 122 then some (2, 1, 0, 123) else none) else (bif Nat.beq pc 121 then some (3, 0, 0, 122) else none)) else (bif Nat.beq pc 120 then some (0, 1, 0, 121) else none)) else (bif Nat.ble 117 pc then (bif Nat.beq pc 117 then some (59, 136, 0, 120) else none) else (bif Nat.beq pc 116 then some (30, 0, 0, 117) else none))) else (bif Nat.ble 111 pc then (bif Nat.ble 112 pc then (bif Nat.ble 115 pc then (bif Nat.beq pc 115 then some (2, 1, 0, 116) else none) else (bif Nat.beq pc 112 then some (16, 6, 8, 115) else none)) else (bif Nat.beq pc 111 then some (3, 0, 0, 112) else none)) else (bif Nat.ble 110 pc then (bif Nat.beq pc 110 then some (30, 0, 0, 111) else none) else (bif Nat.beq pc 108 then some (2, 4, 0, 110) else none))))) else (bif Nat.ble 90 pc then (bif Nat.ble 97 pc then (bif Nat.ble 101 pc then (bif Nat.ble 104 pc then (bif Nat.ble 105 pc then (bif Nat.beq pc 105 then some (16, 6, 6, 108) else none) else (bif Nat.beq pc 104 then some (3, 0, 0, 105) else none)) else (bif Nat.beq pc 101 then some (57, 136, 0, 104) else none)) else (bif Nat.ble 99 pc then (bif Nat.beq pc 99 then some (0, 8, 0, 101) else none) else (bif Nat.beq pc 97 then some (2, 5, 0, 99) else none))) else (bif Nat.ble 92 pc then (bif Nat.ble 95 pc then (bif Nat.ble 96 pc then (bif Nat.beq pc 96 then some (80, 1, 0, 0) else none) else (bif Nat.beq pc 95 then some (6, 0, 0, 96) else none)) else (bif Nat.beq pc 92 then some (70, 29, 4, 95) else none)) else (bif Nat.ble 91 pc then (bif Nat.beq pc 91 then some (2, 3, 0, 92) else none) else (bif Nat.beq pc 90 then some (1, 0, 0, 91) else none)))) else (bif Nat.ble 82 pc then (bif Nat.ble 84 pc then (bif Nat.ble 87 pc then (bif Nat.ble 89 pc then (bif Nat.beq pc 89 then some (30, 0, 0, 90) else none) else (bif Nat.beq pc 87 then some (2, 4, 0, 89) else none)) else (bif Nat.beq pc 84 then some (16, 6, 7, 87) else none)) else (bif Nat.ble 83 pc then (bif Nat.beq pc 83 then some (3, 0, 0, 84) else none) else (bif Nat.beq pc 82 then some (3, 0, 0, 83) else none))) else (bif Nat.ble 75 pc then (bif Nat.ble 78 pc then (bif Nat.ble 81 pc then (bif Nat.beq pc 81 then some (0, 1, 0, 82) else none) else (bif Nat.beq pc 78 then some (50, 97, 0, 81) else none)) else (bif Nat.beq pc 75 then some (70, 19, 2, 78) else none)) else (bif Nat.ble 74 pc then (bif Nat.beq pc 74 then some (30, 0, 0, 75) else none) else (bif Nat.beq pc 72 then some (2, 4, 0, 74) else none)))))) else (bif Nat.ble 35 pc then (bif Nat.ble 54 pc then (bif Nat.ble 62 pc then (bif Nat.ble 67 pc then (bif Nat.ble 68 pc then (bif Nat.ble 69 pc then (bif Nat.beq pc 69 then some (16, 6, 7, 72) else none) else (bif Nat.beq pc 68 then some (3, 0, 0, 69) else none)) else (bif Nat.beq pc 67 then some (3, 0, 0, 68) else none)) else (bif Nat.ble 64 pc then (bif Nat.beq pc 64 then some (57, 97, 0, 67) else none) else (bif Nat.beq pc 62 then some (0, 6, 0, 64) else none))) else (bif Nat.ble 58 pc then (bif Nat.ble 59 pc then (bif Nat.ble 60 pc then (bif Nat.beq pc 60 then some (2, 5, 0, 62) else none) else (bif Nat.beq pc 59 then some (80, 1, 0, 0) else none)) else (bif Nat.beq pc 58 then some (0, 1, 0, 59) else none)) else (bif Nat.ble 55 pc then (bif Nat.beq pc 55 then some (57, 60, 0, 58) else none) else (bif Nat.beq pc 54 then some (0, 2, 0, 55) else none)))) else (bif Nat.ble 43 pc then (bif Nat.ble 48 pc then (bif Nat.ble 50 pc then (bif Nat.ble 53 pc then (bif Nat.beq pc 53 then some (2, 3, 0, 54) else none) else (bif Nat.beq pc 50 then some (57, 60, 0, 53) else none)) else (bif Nat.beq pc 48 then some (0, 6, 0, 50) else none)) else (bif Nat.ble 46 pc then (bif Nat.beq pc 46 then some (2, 5, 0, 48) else none) else (bif Nat.beq pc 43 then some (56, 58, 0, 46) else none))) else (bif Nat.ble 38 pc then (bif Nat.ble 41 pc then (bif Nat.ble 42 pc then (bif Nat.beq pc 42 then some (0, 1, 0, 43) else none) else (bif Nat.beq pc 41 then some (2, 3, 0, 42) else none)) else (bif Nat.beq pc 38 then some (57, 46, 0, 41) else none)) else (bif Nat.ble 37 pc then (bif Nat.beq pc 37 then some (0, 3, 0, 38) else none) else (bif Nat.beq pc 35 then some (2, 5, 0, 37) else none))))) else (bif Nat.ble 15 pc then (bif Nat.ble 25 pc then (bif Nat.ble 30 pc then (bif Nat.ble 31 pc then (bif Nat.ble 32 pc then (bif Nat.beq pc 32 then some (56, 58, 0, 35) else none) else (bif Nat.beq pc 31 then some (2, 3, 0, 32) else none)) else (bif Nat.beq pc 30 then some (30, 0, 0, 31) else none)) else (bif Nat.ble 28 pc then (bif Nat.beq pc 28 then some (2, 4, 0, 30) else none) else (bif Nat.beq pc 25 then some (16, 6, 6, 28) else none))) else (bif Nat.ble 19 pc then (bif Nat.ble 21 pc then (bif Nat.ble 24 pc then (bif Nat.beq pc 24 then some (3, 0, 0, 25) else none) else (bif Nat.beq pc 21 then some (57, 35, 0, 24) else none)) else (bif Nat.beq pc 19 then some (0, 7, 0, 21) else none)) else (bif Nat.ble 17 pc then (bif Nat.beq pc 17 then some (2, 5, 0, 19) else none) else (bif Nat.beq pc 15 then some (4, 5, 0, 17) else none)))) else (bif Nat.ble 6 pc then (bif Nat.ble 9 pc then (bif Nat.ble 12 pc then (bif Nat.ble 14 pc then (bif Nat.beq pc 14 then some (30, 0, 0, 15) else none) else (bif Nat.beq pc 12 then some (2, 4, 0, 14) else none)) else (bif Nat.beq pc 9 then some (16, 6, 5, 12) else none)) else (bif Nat.ble 8 pc then (bif Nat.beq pc 8 then some (3, 0, 0, 9) else none) else (bif Nat.beq pc 6 then some (4, 4, 0, 8) else none))) else (bif Nat.ble 3 pc then (bif Nat.ble 4 pc then (bif Nat.ble 5 pc then (bif Nat.beq pc 5 then some (6, 0, 0, 6) else none) else (bif Nat.beq pc 4 then some (2, 2, 0, 5) else none)) else (bif Nat.beq pc 3 then some (8, 0, 0, 4) else none)) else (bif Nat.ble 2 pc then (bif Nat.beq pc 2 then some (2, 1, 0, 3) else none) else (bif Nat.beq pc 0 then some (0, 24, 0, 2) else none))))))
-- 31: ThrowFlowModel.lower()Z
def k_31 (pc : Nat) : Option PE := bif Nat.ble 48 pc then (bif Nat.ble 72 pc then (bif Nat.ble 83 pc then (bif Nat.ble 95 pc then (bif Nat.ble 101 pc then (bif Nat.ble 102 pc then (bif Nat.beq pc 102 then some (80, 2, 0, 0) else none) else (bif Nat.beq pc 101 then some (2, 1, 0, 102) else none)) else (bif Nat.ble 98 pc then (bif Nat.beq pc 98 then some (18, 0, 0, 4) else none) else (bif Nat.beq pc 95 then some (19, 2, 1, 98) else none))) else (bif Nat.ble 89 pc then (bif Nat.ble 92 pc then (bif Nat.beq pc 92 then some (18, 0, 0, 14) else none) else (bif Nat.beq pc 89 then some (19, 3, 1, 92) else none)) else (bif Nat.ble 86 pc then (bif Nat.beq pc 86 then some (18, 0, 0, 27) else none) else (bif Nat.beq pc 83 then some (19, 4, 1, 86) else none)))) else (bif Nat.ble 78 pc then (bif Nat.ble 81 pc then (bif Nat.ble 82 pc then (bif Nat.beq pc 82 then some (4, 1, 0, 83) else none) else (bif Nat.beq pc 81 then some (0, 1, 0, 82) else none)) else (bif Nat.ble 80 pc then (bif Nat.beq pc 80 then some (31, 0, 0, 81) else none) else (bif Nat.beq pc 78 then some (2, 5, 0, 80) else none))) else (bif Nat.ble 73 pc then (bif Nat.ble 76 pc then (bif Nat.beq pc 76 then some (2, 6, 0, 78) else none) else (bif Nat.beq pc 73 then some (16, 6, 14, 76) else none)) else (bif Nat.beq pc 72 then some (3, 0, 0, 73) else none)))) else (bif Nat.ble 57 pc then (bif Nat.ble 63 pc then (bif Nat.ble 68 pc then (bif Nat.ble 69 pc then (bif Nat.beq pc 69 then some (59, 83, 0, 72) else none) else (bif Nat.beq pc 68 then some (30, 0, 0, 69) else none)) else (bif Nat.ble 66 pc then (bif Nat.beq pc 66 then some (2, 6, 0, 68) else none) else (bif Nat.beq pc 63 then some (16, 6, 14, 66) else none))) else (bif Nat.ble 60 pc then (bif Nat.ble 62 pc then (bif Nat.beq pc 62 then some (3, 0, 0, 63) else none) else (bif Nat.beq pc 60 then some (2, 5, 0, 62) else none)) else (bif Nat.ble 58 pc then (bif Nat.beq pc 58 then some (4, 6, 0, 60) else none) else (bif Nat.beq pc 57 then some (6, 0, 0, 58) else none)))) else (bif Nat.ble 52 pc then (bif Nat.ble 54 pc then (bif Nat.ble 55 pc then (bif Nat.beq pc 55 then some (2, 4, 0, 57) else none) else (bif Nat.beq pc 54 then some (8, 0, 0, 55) else none)) else (bif Nat.ble 53 pc then (bif Nat.beq pc 53 then some (6, 0, 0, 54) else none) else (bif Nat.beq pc 52 then some (2, 3, 0, 53) else none))) else (bif Nat.ble 50 pc then (bif Nat.ble 51 pc then (bif Nat.beq pc 51 then some (8, 0, 0, 52) else none) else (bif Nat.beq pc 50 then some (2, 2, 0, 51) else none)) else (bif Nat.beq pc 48 then some (0, 24, 0, 50) else none))))) else (bif Nat.ble 20 pc then (bif Nat.ble 33 pc then (bif Nat.ble 39 pc then (bif Nat.ble 44 pc then (bif Nat.ble 46 pc then (bif Nat.beq pc 46 then some (0, 10, 0, 48) else none) else (bif Nat.beq pc 44 then some (4, 5, 0, 46) else none)) else (bif Nat.ble 41 pc then (bif Nat.beq pc 41 then some (70, 30, 4, 44) else none) else (bif Nat.beq pc 39 then some (2, 4, 0, 41) else none))) else (bif Nat.ble 37 pc then (bif Nat.ble 38 pc then (bif Nat.beq pc 38 then some (2, 3, 0, 39) else none) else (bif Nat.beq pc 37 then some (2, 2, 0, 38) else none)) else (bif Nat.ble 36 pc then (bif Nat.beq pc 36 then some (3, 0, 0, 37) else none) else (bif Nat.beq pc 33 then some (59, 89, 0, 36) else none)))) else (bif Nat.ble 25 pc then (bif Nat.ble 29 pc then (bif Nat.ble 30 pc then (bif Nat.beq pc 30 then some (16, 6, 1, 33) else none) else (bif Nat.beq pc 29 then some (3, 0, 0, 30) else none)) else (bif Nat.ble 27 pc then (bif Nat.beq pc 27 then some (2, 4, 0, 29) else none) else (bif Nat.beq pc 25 then some (4, 4, 0, 27) else none))) else (bif Nat.ble 21 pc then (bif Nat.ble 24 pc then (bif Nat.beq pc 24 then some (0, 0, 0, 25) else none) else (bif Nat.beq pc 21 then some (59, 95, 0, 24) else none)) else (bif Nat.beq pc 20 then some (30, 0, 0, 21) else none)))) else (bif Nat.ble 9 pc then (bif Nat.ble 14 pc then (bif Nat.ble 16 pc then (bif Nat.ble 19 pc then (bif Nat.beq pc 19 then some (2, 2, 0, 20) else none) else (bif Nat.beq pc 16 then some (16, 6, 4, 19) else none)) else (bif Nat.ble 15 pc then (bif Nat.beq pc 15 then some (3, 0, 0, 16) else none) else (bif Nat.beq pc 14 then some (2, 3, 0, 15) else none))) else (bif Nat.ble 12 pc then (bif Nat.ble 13 pc then (bif Nat.beq pc 13 then some (4, 3, 0, 14) else none) else (bif Nat.beq pc 12 then some (0, 0, 0, 13) else none)) else (bif Nat.beq pc 9 then some (59, 101, 0, 12) else none))) else (bif Nat.ble 3 pc then (bif Nat.ble 5 pc then (bif Nat.ble 6 pc then (bif Nat.beq pc 6 then some (16, 6, 3, 9) else none) else (bif Nat.beq pc 5 then some (3, 0, 0, 6) else none)) else (bif Nat.ble 4 pc then (bif Nat.beq pc 4 then some (2, 2, 0, 5) else none) else (bif Nat.beq pc 3 then some (4, 2, 0, 4) else none))) else (bif Nat.ble 1 pc then (bif Nat.ble 2 pc then (bif Nat.beq pc 2 then some (0, 0, 0, 3) else none) else (bif Nat.beq pc 1 then some (4, 1, 0, 2) else none)) else (bif Nat.beq pc 0 then some (0, 0, 0, 1) else none)))))
-- 32: ThrowFlowModel.settle()V
def k_32 (pc : Nat) : Option PE := bif Nat.ble 25 pc then (bif Nat.ble 38 pc then (bif Nat.ble 45 pc then (bif Nat.ble 47 pc then (bif Nat.ble 50 pc then (bif Nat.beq pc 50 then some (81, 0, 0, 0) else none) else (bif Nat.beq pc 47 then some (34, 6, 13, 50) else none)) else (bif Nat.ble 46 pc then (bif Nat.beq pc 46 then some (0, 0, 0, 47) else none) else (bif Nat.beq pc 45 then some (3, 0, 0, 46) else none))) else (bif Nat.ble 41 pc then (bif Nat.ble 42 pc then (bif Nat.beq pc 42 then some (18, 0, 0, 33) else none) else (bif Nat.beq pc 41 then some (4, 1, 0, 42) else none)) else (bif Nat.beq pc 38 then some (70, 31, 1, 41) else none))) else (bif Nat.ble 32 pc then (bif Nat.ble 34 pc then (bif Nat.ble 37 pc then (bif Nat.beq pc 37 then some (3, 0, 0, 38) else none) else (bif Nat.beq pc 34 then some (50, 45, 0, 37) else none)) else (bif Nat.ble 33 pc then (bif Nat.beq pc 33 then some (2, 1, 0, 34) else none) else (bif Nat.beq pc 32 then some (4, 1, 0, 33) else none))) else (bif Nat.ble 28 pc then (bif Nat.ble 31 pc then (bif Nat.beq pc 31 then some (0, 1, 0, 32) else none) else (bif Nat.beq pc 28 then some (18, 0, 0, 10) else none)) else (bif Nat.beq pc 25 then some (19, 1, 1, 28) else none)))) else (bif Nat.ble 11 pc then (bif Nat.ble 18 pc then (bif Nat.ble 22 pc then (bif Nat.ble 24 pc then (bif Nat.beq pc 24 then some (31, 0, 0, 25) else none) else (bif Nat.beq pc 22 then some (0, 1000000, 0, 24) else none)) else (bif Nat.ble 21 pc then (bif Nat.beq pc 21 then some (2, 1, 0, 22) else none) else (bif Nat.beq pc 18 then some (16, 6, 14, 21) else none))) else (bif Nat.ble 14 pc then (bif Nat.ble 17 pc then (bif Nat.beq pc 17 then some (3, 0, 0, 18) else none) else (bif Nat.beq pc 14 then some (59, 31, 0, 17) else none)) else (bif Nat.beq pc 11 then some (0, 1920, 0, 14) else none))) else (bif Nat.ble 7 pc then (bif Nat.ble 9 pc then (bif Nat.ble 10 pc then (bif Nat.beq pc 10 then some (2, 1, 0, 11) else none) else (bif Nat.beq pc 9 then some (4, 1, 0, 10) else none)) else (bif Nat.ble 8 pc then (bif Nat.beq pc 8 then some (0, 0, 0, 9) else none) else (bif Nat.beq pc 7 then some (81, 0, 0, 0) else none))) else (bif Nat.ble 1 pc then (bif Nat.ble 4 pc then (bif Nat.beq pc 4 then some (51, 8, 0, 7) else none) else (bif Nat.beq pc 1 then some (16, 6, 13, 4) else none)) else (bif Nat.beq pc 0 then some (3, 0, 0, 1) else none))))
-- 33: ThrowFlowModel.raisedAt(II)I
def k_33 (pc : Nat) : Option PE := bif Nat.ble 27 pc then (bif Nat.ble 40 pc then (bif Nat.ble 46 pc then (bif Nat.ble 50 pc then (bif Nat.ble 53 pc then (bif Nat.ble 54 pc then (bif Nat.beq pc 54 then some (80, 1, 0, 0) else none) else (bif Nat.beq pc 53 then some (2, 3, 0, 54) else none)) else (bif Nat.beq pc 50 then some (18, 0, 0, 5) else none)) else (bif Nat.ble 47 pc then (bif Nat.beq pc 47 then some (19, 4, 1, 50) else none) else (bif Nat.beq pc 46 then some (4, 3, 0, 47) else none))) else (bif Nat.ble 42 pc then (bif Nat.ble 45 pc then (bif Nat.beq pc 45 then some (2, 3, 0, 46) else none) else (bif Nat.beq pc 42 then some (18, 0, 0, 46) else none)) else (bif Nat.ble 41 pc then (bif Nat.beq pc 41 then some (9, 0, 0, 42) else none) else (bif Nat.beq pc 40 then some (12, 0, 0, 41) else none)))) else (bif Nat.ble 33 pc then (bif Nat.ble 37 pc then (bif Nat.ble 38 pc then (bif Nat.beq pc 38 then some (2, 4, 0, 40) else none) else (bif Nat.beq pc 37 then some (0, 1, 0, 38) else none)) else (bif Nat.ble 36 pc then (bif Nat.beq pc 36 then some (2, 3, 0, 37) else none) else (bif Nat.beq pc 33 then some (59, 45, 0, 36) else none))) else (bif Nat.ble 30 pc then (bif Nat.ble 31 pc then (bif Nat.beq pc 31 then some (0, 1000000, 0, 33) else none) else (bif Nat.beq pc 30 then some (30, 0, 0, 31) else none)) else (bif Nat.ble 29 pc then (bif Nat.beq pc 29 then some (6, 0, 0, 30) else none) else (bif Nat.beq pc 27 then some (2, 4, 0, 29) else none))))) else (bif Nat.ble 14 pc then (bif Nat.ble 22 pc then (bif Nat.ble 24 pc then (bif Nat.ble 25 pc then (bif Nat.ble 26 pc then (bif Nat.beq pc 26 then some (8, 0, 0, 27) else none) else (bif Nat.beq pc 25 then some (6, 0, 0, 26) else none)) else (bif Nat.beq pc 24 then some (2, 2, 0, 25) else none)) else (bif Nat.ble 23 pc then (bif Nat.beq pc 23 then some (8, 0, 0, 24) else none) else (bif Nat.beq pc 22 then some (2, 1, 0, 23) else none))) else (bif Nat.ble 18 pc then (bif Nat.ble 20 pc then (bif Nat.beq pc 20 then some (0, 24, 0, 22) else none) else (bif Nat.beq pc 18 then some (0, 10, 0, 20) else none)) else (bif Nat.ble 15 pc then (bif Nat.beq pc 15 then some (16, 6, 14, 18) else none) else (bif Nat.beq pc 14 then some (3, 0, 0, 15) else none)))) else (bif Nat.ble 5 pc then (bif Nat.ble 8 pc then (bif Nat.ble 11 pc then (bif Nat.beq pc 11 then some (59, 53, 0, 14) else none) else (bif Nat.beq pc 8 then some (16, 6, 1, 11) else none)) else (bif Nat.ble 7 pc then (bif Nat.beq pc 7 then some (3, 0, 0, 8) else none) else (bif Nat.beq pc 5 then some (2, 4, 0, 7) else none))) else (bif Nat.ble 2 pc then (bif Nat.ble 3 pc then (bif Nat.beq pc 3 then some (4, 4, 0, 5) else none) else (bif Nat.beq pc 2 then some (0, 0, 0, 3) else none)) else (bif Nat.ble 1 pc then (bif Nat.beq pc 1 then some (4, 3, 0, 2) else none) else (bif Nat.beq pc 0 then some (0, 0, 0, 1) else none)))))
-- 34: ThrowFlowModel.where(II)I
def k_34 (pc : Nat) : Option PE := bif Nat.ble 22 pc then (bif Nat.ble 33 pc then (bif Nat.ble 38 pc then (bif Nat.ble 44 pc then (bif Nat.ble 45 pc then (bif Nat.beq pc 45 then some (80, 1, 0, 0) else none) else (bif Nat.beq pc 44 then some (2, 3, 0, 45) else none)) else (bif Nat.ble 41 pc then (bif Nat.beq pc 41 then some (18, 0, 0, 5) else none) else (bif Nat.beq pc 38 then some (19, 4, 1, 41) else none))) else (bif Nat.ble 36 pc then (bif Nat.ble 37 pc then (bif Nat.beq pc 37 then some (4, 3, 0, 38) else none) else (bif Nat.beq pc 36 then some (2, 3, 0, 37) else none)) else (bif Nat.beq pc 33 then some (18, 0, 0, 37) else none))) else (bif Nat.ble 28 pc then (bif Nat.ble 31 pc then (bif Nat.ble 32 pc then (bif Nat.beq pc 32 then some (9, 0, 0, 33) else none) else (bif Nat.beq pc 31 then some (12, 0, 0, 32) else none)) else (bif Nat.ble 29 pc then (bif Nat.beq pc 29 then some (2, 4, 0, 31) else none) else (bif Nat.beq pc 28 then some (0, 1, 0, 29) else none))) else (bif Nat.ble 24 pc then (bif Nat.ble 27 pc then (bif Nat.beq pc 27 then some (2, 3, 0, 28) else none) else (bif Nat.beq pc 24 then some (59, 36, 0, 27) else none)) else (bif Nat.beq pc 22 then some (0, 1000000, 0, 24) else none)))) else (bif Nat.ble 8 pc then (bif Nat.ble 15 pc then (bif Nat.ble 17 pc then (bif Nat.ble 19 pc then (bif Nat.beq pc 19 then some (70, 29, 4, 22) else none) else (bif Nat.beq pc 17 then some (2, 4, 0, 19) else none)) else (bif Nat.ble 16 pc then (bif Nat.beq pc 16 then some (2, 2, 0, 17) else none) else (bif Nat.beq pc 15 then some (2, 1, 0, 16) else none))) else (bif Nat.ble 11 pc then (bif Nat.ble 14 pc then (bif Nat.beq pc 14 then some (3, 0, 0, 15) else none) else (bif Nat.beq pc 11 then some (59, 44, 0, 14) else none)) else (bif Nat.beq pc 8 then some (16, 6, 1, 11) else none))) else (bif Nat.ble 3 pc then (bif Nat.ble 5 pc then (bif Nat.ble 7 pc then (bif Nat.beq pc 7 then some (3, 0, 0, 8) else none) else (bif Nat.beq pc 5 then some (2, 4, 0, 7) else none)) else (bif Nat.beq pc 3 then some (4, 4, 0, 5) else none)) else (bif Nat.ble 1 pc then (bif Nat.ble 2 pc then (bif Nat.beq pc 2 then some (0, 0, 0, 3) else none) else (bif Nat.beq pc 1 then some (4, 3, 0, 2) else none)) else (bif Nat.beq pc 0 then some (0, 0, 0, 1) else none))))
-- 35: ThrowFlowModel.out(I)I
def k_35 (pc : Nat) : Option PE := bif Nat.ble 14 pc then (bif Nat.ble 20 pc then (bif Nat.ble 26 pc then (bif Nat.ble 27 pc then (bif Nat.beq pc 27 then some (80, 1, 0, 0) else none) else (bif Nat.beq pc 26 then some (0, 0, 0, 27) else none)) else (bif Nat.ble 23 pc then (bif Nat.beq pc 23 then some (18, 0, 0, 27) else none) else (bif Nat.beq pc 20 then some (70, 34, 3, 23) else none))) else (bif Nat.ble 18 pc then (bif Nat.ble 19 pc then (bif Nat.beq pc 19 then some (1, 0, 0, 20) else none) else (bif Nat.beq pc 18 then some (2, 1, 0, 19) else none)) else (bif Nat.ble 17 pc then (bif Nat.beq pc 17 then some (3, 0, 0, 18) else none) else (bif Nat.beq pc 14 then some (50, 26, 0, 17) else none)))) else (bif Nat.ble 6 pc then (bif Nat.ble 10 pc then (bif Nat.ble 11 pc then (bif Nat.beq pc 11 then some (70, 19, 2, 14) else none) else (bif Nat.beq pc 10 then some (2, 1, 0, 11) else none)) else (bif Nat.ble 9 pc then (bif Nat.beq pc 9 then some (3, 0, 0, 10) else none) else (bif Nat.beq pc 6 then some (70, 32, 1, 9) else none))) else (bif Nat.ble 2 pc then (bif Nat.ble 5 pc then (bif Nat.beq pc 5 then some (3, 0, 0, 6) else none) else (bif Nat.beq pc 2 then some (17, 6, 0, 5) else none)) else (bif Nat.ble 1 pc then (bif Nat.beq pc 1 then some (0, 0, 0, 2) else none) else (bif Nat.beq pc 0 then some (3, 0, 0, 1) else none))))
-- 36: ThrowFlowModel.raises(II)I
def k_36 (pc : Nat) : Option PE := bif Nat.ble 12 pc then (bif Nat.ble 20 pc then (bif Nat.ble 24 pc then (bif Nat.ble 27 pc then (bif Nat.ble 28 pc then (bif Nat.beq pc 28 then some (80, 1, 0, 0) else none) else (bif Nat.beq pc 27 then some (0, 0, 0, 28) else none)) else (bif Nat.beq pc 24 then some (18, 0, 0, 28) else none)) else (bif Nat.ble 21 pc then (bif Nat.beq pc 21 then some (70, 33, 3, 24) else none) else (bif Nat.beq pc 20 then some (2, 2, 0, 21) else none))) else (bif Nat.ble 18 pc then (bif Nat.ble 19 pc then (bif Nat.beq pc 19 then some (2, 1, 0, 20) else none) else (bif Nat.beq pc 18 then some (3, 0, 0, 19) else none)) else (bif Nat.ble 15 pc then (bif Nat.beq pc 15 then some (50, 27, 0, 18) else none) else (bif Nat.beq pc 12 then some (70, 20, 3, 15) else none)))) else (bif Nat.ble 6 pc then (bif Nat.ble 10 pc then (bif Nat.ble 11 pc then (bif Nat.beq pc 11 then some (2, 2, 0, 12) else none) else (bif Nat.beq pc 10 then some (2, 1, 0, 11) else none)) else (bif Nat.ble 9 pc then (bif Nat.beq pc 9 then some (3, 0, 0, 10) else none) else (bif Nat.beq pc 6 then some (70, 32, 1, 9) else none))) else (bif Nat.ble 2 pc then (bif Nat.ble 5 pc then (bif Nat.beq pc 5 then some (3, 0, 0, 6) else none) else (bif Nat.beq pc 2 then some (17, 6, 0, 5) else none)) else (bif Nat.ble 1 pc then (bif Nat.beq pc 1 then some (0, 0, 0, 2) else none) else (bif Nat.beq pc 0 then some (3, 0, 0, 1) else none))))
-- 37: ThrowFlowModel.catches(II)I
def k_37 (pc : Nat) : Option PE := bif Nat.ble 22 pc then (bif Nat.ble 32 pc then (bif Nat.ble 37 pc then (bif Nat.ble 40 pc then (bif Nat.ble 41 pc then (bif Nat.beq pc 41 then some (80, 1, 0, 0) else none) else (bif Nat.beq pc 40 then some (0, 0, 0, 41) else none)) else (bif Nat.beq pc 37 then some (18, 0, 0, 41) else none)) else (bif Nat.ble 33 pc then (bif Nat.ble 34 pc then (bif Nat.beq pc 34 then some (70, 34, 3, 37) else none) else (bif Nat.beq pc 33 then some (2, 2, 0, 34) else none)) else (bif Nat.beq pc 32 then some (2, 1, 0, 33) else none))) else (bif Nat.ble 27 pc then (bif Nat.ble 28 pc then (bif Nat.ble 31 pc then (bif Nat.beq pc 31 then some (3, 0, 0, 32) else none) else (bif Nat.beq pc 28 then some (59, 40, 0, 31) else none)) else (bif Nat.beq pc 27 then some (30, 0, 0, 28) else none)) else (bif Nat.ble 23 pc then (bif Nat.ble 26 pc then (bif Nat.beq pc 26 then some (2, 1, 0, 27) else none) else (bif Nat.beq pc 23 then some (16, 6, 8, 26) else none)) else (bif Nat.beq pc 22 then some (3, 0, 0, 23) else none)))) else (bif Nat.ble 10 pc then (bif Nat.ble 17 pc then (bif Nat.ble 18 pc then (bif Nat.ble 21 pc then (bif Nat.beq pc 21 then some (2, 2, 0, 22) else none) else (bif Nat.beq pc 18 then some (52, 40, 0, 21) else none)) else (bif Nat.beq pc 17 then some (2, 2, 0, 18) else none)) else (bif Nat.ble 11 pc then (bif Nat.ble 14 pc then (bif Nat.beq pc 14 then some (50, 40, 0, 17) else none) else (bif Nat.beq pc 11 then some (70, 19, 2, 14) else none)) else (bif Nat.beq pc 10 then some (2, 1, 0, 11) else none))) else (bif Nat.ble 5 pc then (bif Nat.ble 6 pc then (bif Nat.ble 9 pc then (bif Nat.beq pc 9 then some (3, 0, 0, 10) else none) else (bif Nat.beq pc 6 then some (70, 32, 1, 9) else none)) else (bif Nat.beq pc 5 then some (3, 0, 0, 6) else none)) else (bif Nat.ble 1 pc then (bif Nat.ble 2 pc then (bif Nat.beq pc 2 then some (17, 6, 0, 5) else none) else (bif Nat.beq pc 1 then some (0, 0, 0, 2) else none)) else (bif Nat.beq pc 0 then some (3, 0, 0, 1) else none))))
-- 38: ThrowFlowModel.wayOf(II)I
def k_38 (pc : Nat) : Option PE := bif Nat.ble 22 pc then (bif Nat.ble 33 pc then (bif Nat.ble 39 pc then (bif Nat.ble 43 pc then (bif Nat.ble 44 pc then (bif Nat.beq pc 44 then some (80, 1, 0, 0) else none) else (bif Nat.beq pc 43 then some (0, 0, 0, 44) else none)) else (bif Nat.ble 40 pc then (bif Nat.beq pc 40 then some (18, 0, 0, 44) else none) else (bif Nat.beq pc 39 then some (2, 3, 0, 40) else none))) else (bif Nat.ble 34 pc then (bif Nat.ble 36 pc then (bif Nat.beq pc 36 then some (59, 43, 0, 39) else none) else (bif Nat.beq pc 34 then some (0, 1000000, 0, 36) else none)) else (bif Nat.beq pc 33 then some (2, 3, 0, 34) else none))) else (bif Nat.ble 27 pc then (bif Nat.ble 30 pc then (bif Nat.ble 32 pc then (bif Nat.beq pc 32 then some (4, 3, 0, 33) else none) else (bif Nat.beq pc 30 then some (0, 1000000, 0, 32) else none)) else (bif Nat.beq pc 27 then some (18, 0, 0, 32) else none)) else (bif Nat.ble 23 pc then (bif Nat.ble 24 pc then (bif Nat.beq pc 24 then some (70, 29, 4, 27) else none) else (bif Nat.beq pc 23 then some (2, 2, 0, 24) else none)) else (bif Nat.beq pc 22 then some (1, 0, 0, 23) else none)))) else (bif Nat.ble 12 pc then (bif Nat.ble 17 pc then (bif Nat.ble 20 pc then (bif Nat.ble 21 pc then (bif Nat.beq pc 21 then some (2, 1, 0, 22) else none) else (bif Nat.beq pc 20 then some (3, 0, 0, 21) else none)) else (bif Nat.beq pc 17 then some (50, 30, 0, 20) else none)) else (bif Nat.ble 13 pc then (bif Nat.ble 14 pc then (bif Nat.beq pc 14 then some (70, 15, 2, 17) else none) else (bif Nat.beq pc 13 then some (2, 2, 0, 14) else none)) else (bif Nat.beq pc 12 then some (3, 0, 0, 13) else none))) else (bif Nat.ble 5 pc then (bif Nat.ble 6 pc then (bif Nat.ble 9 pc then (bif Nat.beq pc 9 then some (50, 30, 0, 12) else none) else (bif Nat.beq pc 6 then some (70, 19, 2, 9) else none)) else (bif Nat.beq pc 5 then some (2, 1, 0, 6) else none)) else (bif Nat.ble 1 pc then (bif Nat.ble 4 pc then (bif Nat.beq pc 4 then some (3, 0, 0, 5) else none) else (bif Nat.beq pc 1 then some (70, 32, 1, 4) else none)) else (bif Nat.beq pc 0 then some (3, 0, 0, 1) else none))))
-- 39: ThrowFlowModel.way(II)I
def k_39 (pc : Nat) : Option PE := bif Nat.ble 6 pc then (bif Nat.ble 8 pc then (bif Nat.ble 11 pc then (bif Nat.beq pc 11 then some (80, 1, 0, 0) else none) else (bif Nat.beq pc 8 then some (70, 38, 3, 11) else none)) else (bif Nat.ble 7 pc then (bif Nat.beq pc 7 then some (2, 2, 0, 8) else none) else (bif Nat.beq pc 6 then some (2, 1, 0, 7) else none))) else (bif Nat.ble 2 pc then (bif Nat.ble 5 pc then (bif Nat.beq pc 5 then some (3, 0, 0, 6) else none) else (bif Nat.beq pc 2 then some (17, 6, 0, 5) else none)) else (bif Nat.ble 1 pc then (bif Nat.beq pc 1 then some (0, 0, 0, 2) else none) else (bif Nat.beq pc 0 then some (3, 0, 0, 1) else none)))
-- 40: ThrowFlowModel.firstWith(IIII)I
def k_40 (pc : Nat) : Option PE := bif Nat.ble 32 pc then (bif Nat.ble 48 pc then (bif Nat.ble 59 pc then (bif Nat.ble 64 pc then (bif Nat.ble 67 pc then (bif Nat.ble 69 pc then (bif Nat.beq pc 69 then some (80, 1, 0, 0) else none) else (bif Nat.beq pc 67 then some (2, 5, 0, 69) else none)) else (bif Nat.beq pc 64 then some (18, 0, 0, 13) else none)) else (bif Nat.ble 61 pc then (bif Nat.beq pc 61 then some (20, 6, 0, 64) else none) else (bif Nat.beq pc 59 then some (4, 5, 0, 61) else none))) else (bif Nat.ble 52 pc then (bif Nat.ble 54 pc then (bif Nat.ble 57 pc then (bif Nat.beq pc 57 then some (2, 5, 0, 59) else none) else (bif Nat.beq pc 54 then some (18, 0, 0, 59) else none)) else (bif Nat.beq pc 52 then some (2, 6, 0, 54) else none)) else (bif Nat.ble 49 pc then (bif Nat.beq pc 49 then some (57, 57, 0, 52) else none) else (bif Nat.beq pc 48 then some (2, 2, 0, 49) else none)))) else (bif Nat.ble 40 pc then (bif Nat.ble 42 pc then (bif Nat.ble 44 pc then (bif Nat.ble 45 pc then (bif Nat.beq pc 45 then some (70, 28, 4, 48) else none) else (bif Nat.beq pc 44 then some (2, 3, 0, 45) else none)) else (bif Nat.beq pc 42 then some (2, 6, 0, 44) else none)) else (bif Nat.ble 41 pc then (bif Nat.beq pc 41 then some (2, 1, 0, 42) else none) else (bif Nat.beq pc 40 then some (3, 0, 0, 41) else none))) else (bif Nat.ble 34 pc then (bif Nat.ble 35 pc then (bif Nat.ble 37 pc then (bif Nat.beq pc 37 then some (57, 57, 0, 40) else none) else (bif Nat.beq pc 35 then some (2, 4, 0, 37) else none)) else (bif Nat.beq pc 34 then some (30, 0, 0, 35) else none)) else (bif Nat.ble 33 pc then (bif Nat.beq pc 33 then some (6, 0, 0, 34) else none) else (bif Nat.beq pc 32 then some (2, 3, 0, 33) else none))))) else (bif Nat.ble 15 pc then (bif Nat.ble 26 pc then (bif Nat.ble 28 pc then (bif Nat.ble 30 pc then (bif Nat.ble 31 pc then (bif Nat.beq pc 31 then some (8, 0, 0, 32) else none) else (bif Nat.beq pc 30 then some (6, 0, 0, 31) else none)) else (bif Nat.beq pc 28 then some (2, 6, 0, 30) else none)) else (bif Nat.ble 27 pc then (bif Nat.beq pc 27 then some (8, 0, 0, 28) else none) else (bif Nat.beq pc 26 then some (2, 1, 0, 27) else none))) else (bif Nat.ble 19 pc then (bif Nat.ble 22 pc then (bif Nat.ble 24 pc then (bif Nat.beq pc 24 then some (0, 24, 0, 26) else none) else (bif Nat.beq pc 22 then some (0, 10, 0, 24) else none)) else (bif Nat.beq pc 19 then some (16, 6, 14, 22) else none)) else (bif Nat.ble 18 pc then (bif Nat.beq pc 18 then some (3, 0, 0, 19) else none) else (bif Nat.beq pc 15 then some (52, 67, 0, 18) else none)))) else (bif Nat.ble 8 pc then (bif Nat.ble 10 pc then (bif Nat.ble 11 pc then (bif Nat.ble 13 pc then (bif Nat.beq pc 13 then some (2, 6, 0, 15) else none) else (bif Nat.beq pc 11 then some (4, 6, 0, 13) else none)) else (bif Nat.beq pc 10 then some (7, 0, 0, 11) else none)) else (bif Nat.ble 9 pc then (bif Nat.beq pc 9 then some (0, 1, 0, 10) else none) else (bif Nat.beq pc 8 then some (30, 0, 0, 9) else none))) else (bif Nat.ble 3 pc then (bif Nat.ble 4 pc then (bif Nat.ble 7 pc then (bif Nat.beq pc 7 then some (2, 1, 0, 8) else none) else (bif Nat.beq pc 4 then some (16, 6, 4, 7) else none)) else (bif Nat.beq pc 3 then some (3, 0, 0, 4) else none)) else (bif Nat.ble 1 pc then (bif Nat.beq pc 1 then some (4, 5, 0, 3) else none) else (bif Nat.beq pc 0 then some (1, 0, 0, 1) else none)))))
-- 41: ThrowFlowModel.step(III)I
def k_41 (pc : Nat) : Option PE := bif Nat.ble 70 pc then (bif Nat.ble 111 pc then (bif Nat.ble 126 pc then (bif Nat.ble 138 pc then (bif Nat.ble 143 pc then (bif Nat.ble 145 pc then (bif Nat.ble 146 pc then (bif Nat.beq pc 146 then some (80, 1, 0, 0) else none) else (bif Nat.beq pc 145 then some (6, 0, 0, 146) else none)) else (bif Nat.beq pc 143 then some (2, 7, 0, 145) else none)) else (bif Nat.ble 140 pc then (bif Nat.ble 142 pc then (bif Nat.beq pc 142 then some (8, 0, 0, 143) else none) else (bif Nat.beq pc 140 then some (2, 5, 0, 142) else none)) else (bif Nat.beq pc 138 then some (0, 24, 0, 140) else none))) else (bif Nat.ble 130 pc then (bif Nat.ble 132 pc then (bif Nat.ble 135 pc then (bif Nat.beq pc 135 then some (18, 0, 0, 47) else none) else (bif Nat.beq pc 132 then some (19, 8, 1, 135) else none)) else (bif Nat.beq pc 130 then some (4, 7, 0, 132) else none)) else (bif Nat.ble 127 pc then (bif Nat.beq pc 127 then some (70, 40, 5, 130) else none) else (bif Nat.beq pc 126 then some (7, 0, 0, 127) else none)))) else (bif Nat.ble 119 pc then (bif Nat.ble 122 pc then (bif Nat.ble 124 pc then (bif Nat.ble 125 pc then (bif Nat.beq pc 125 then some (0, 1, 0, 126) else none) else (bif Nat.beq pc 124 then some (7, 0, 0, 125) else none)) else (bif Nat.beq pc 122 then some (2, 8, 0, 124) else none)) else (bif Nat.ble 120 pc then (bif Nat.beq pc 120 then some (2, 4, 0, 122) else none) else (bif Nat.beq pc 119 then some (2, 2, 0, 120) else none))) else (bif Nat.ble 114 pc then (bif Nat.ble 115 pc then (bif Nat.ble 117 pc then (bif Nat.beq pc 117 then some (2, 6, 0, 119) else none) else (bif Nat.beq pc 115 then some (2, 5, 0, 117) else none)) else (bif Nat.beq pc 114 then some (3, 0, 0, 115) else none)) else (bif Nat.ble 112 pc then (bif Nat.beq pc 112 then some (4, 5, 0, 114) else none) else (bif Nat.beq pc 111 then some (30, 0, 0, 112) else none))))) else (bif Nat.ble 89 pc then (bif Nat.ble 100 pc then (bif Nat.ble 105 pc then (bif Nat.ble 106 pc then (bif Nat.ble 109 pc then (bif Nat.beq pc 109 then some (2, 9, 0, 111) else none) else (bif Nat.beq pc 106 then some (16, 6, 7, 109) else none)) else (bif Nat.beq pc 105 then some (3, 0, 0, 106) else none)) else (bif Nat.ble 102 pc then (bif Nat.beq pc 102 then some (18, 0, 0, 112) else none) else (bif Nat.beq pc 100 then some (2, 5, 0, 102) else none))) else (bif Nat.ble 94 pc then (bif Nat.ble 95 pc then (bif Nat.ble 97 pc then (bif Nat.beq pc 97 then some (57, 105, 0, 100) else none) else (bif Nat.beq pc 95 then some (0, 8, 0, 97) else none)) else (bif Nat.beq pc 94 then some (30, 0, 0, 95) else none)) else (bif Nat.ble 92 pc then (bif Nat.beq pc 92 then some (2, 9, 0, 94) else none) else (bif Nat.beq pc 89 then some (16, 6, 5, 92) else none)))) else (bif Nat.ble 81 pc then (bif Nat.ble 85 pc then (bif Nat.ble 86 pc then (bif Nat.ble 88 pc then (bif Nat.beq pc 88 then some (3, 0, 0, 89) else none) else (bif Nat.beq pc 86 then some (4, 6, 0, 88) else none)) else (bif Nat.beq pc 85 then some (1, 0, 0, 86) else none)) else (bif Nat.ble 82 pc then (bif Nat.beq pc 82 then some (18, 0, 0, 86) else none) else (bif Nat.beq pc 81 then some (30, 0, 0, 82) else none))) else (bif Nat.ble 75 pc then (bif Nat.ble 76 pc then (bif Nat.ble 79 pc then (bif Nat.beq pc 79 then some (2, 9, 0, 81) else none) else (bif Nat.beq pc 76 then some (16, 6, 6, 79) else none)) else (bif Nat.beq pc 75 then some (3, 0, 0, 76) else none)) else (bif Nat.ble 72 pc then (bif Nat.beq pc 72 then some (57, 85, 0, 75) else none) else (bif Nat.beq pc 70 then some (0, 8, 0, 72) else none)))))) else (bif Nat.ble 32 pc then (bif Nat.ble 50 pc then (bif Nat.ble 60 pc then (bif Nat.ble 64 pc then (bif Nat.ble 67 pc then (bif Nat.ble 69 pc then (bif Nat.beq pc 69 then some (30, 0, 0, 70) else none) else (bif Nat.beq pc 67 then some (2, 9, 0, 69) else none)) else (bif Nat.beq pc 64 then some (16, 6, 5, 67) else none)) else (bif Nat.ble 61 pc then (bif Nat.ble 63 pc then (bif Nat.beq pc 63 then some (3, 0, 0, 64) else none) else (bif Nat.beq pc 61 then some (4, 9, 0, 63) else none)) else (bif Nat.beq pc 60 then some (6, 0, 0, 61) else none))) else (bif Nat.ble 55 pc then (bif Nat.ble 57 pc then (bif Nat.ble 58 pc then (bif Nat.beq pc 58 then some (2, 7, 0, 60) else none) else (bif Nat.beq pc 57 then some (8, 0, 0, 58) else none)) else (bif Nat.beq pc 55 then some (2, 5, 0, 57) else none)) else (bif Nat.ble 53 pc then (bif Nat.beq pc 53 then some (0, 24, 0, 55) else none) else (bif Nat.beq pc 50 then some (59, 138, 0, 53) else none)))) else (bif Nat.ble 42 pc then (bif Nat.ble 45 pc then (bif Nat.ble 47 pc then (bif Nat.ble 49 pc then (bif Nat.beq pc 49 then some (2, 3, 0, 50) else none) else (bif Nat.beq pc 47 then some (2, 8, 0, 49) else none)) else (bif Nat.beq pc 45 then some (4, 8, 0, 47) else none)) else (bif Nat.ble 44 pc then (bif Nat.beq pc 44 then some (0, 0, 0, 45) else none) else (bif Nat.beq pc 42 then some (4, 7, 0, 44) else none))) else (bif Nat.ble 36 pc then (bif Nat.ble 37 pc then (bif Nat.ble 39 pc then (bif Nat.beq pc 39 then some (70, 40, 5, 42) else none) else (bif Nat.beq pc 37 then some (2, 4, 0, 39) else none)) else (bif Nat.beq pc 36 then some (2, 2, 0, 37) else none)) else (bif Nat.ble 34 pc then (bif Nat.beq pc 34 then some (2, 6, 0, 36) else none) else (bif Nat.beq pc 32 then some (2, 5, 0, 34) else none))))) else (bif Nat.ble 17 pc then (bif Nat.ble 25 pc then (bif Nat.ble 28 pc then (bif Nat.ble 29 pc then (bif Nat.ble 31 pc then (bif Nat.beq pc 31 then some (3, 0, 0, 32) else none) else (bif Nat.beq pc 29 then some (4, 6, 0, 31) else none)) else (bif Nat.beq pc 28 then some (1, 0, 0, 29) else none)) else (bif Nat.ble 26 pc then (bif Nat.beq pc 26 then some (4, 5, 0, 28) else none) else (bif Nat.beq pc 25 then some (2, 1, 0, 26) else none))) else (bif Nat.ble 20 pc then (bif Nat.ble 23 pc then (bif Nat.ble 24 pc then (bif Nat.beq pc 24 then some (80, 1, 0, 0) else none) else (bif Nat.beq pc 23 then some (1, 0, 0, 24) else none)) else (bif Nat.beq pc 20 then some (58, 25, 0, 23) else none)) else (bif Nat.ble 18 pc then (bif Nat.beq pc 18 then some (2, 4, 0, 20) else none) else (bif Nat.beq pc 17 then some (2, 3, 0, 18) else none)))) else (bif Nat.ble 7 pc then (bif Nat.ble 11 pc then (bif Nat.ble 13 pc then (bif Nat.ble 14 pc then (bif Nat.beq pc 14 then some (52, 23, 0, 17) else none) else (bif Nat.beq pc 13 then some (2, 3, 0, 14) else none)) else (bif Nat.beq pc 11 then some (4, 4, 0, 13) else none)) else (bif Nat.ble 8 pc then (bif Nat.beq pc 8 then some (70, 38, 3, 11) else none) else (bif Nat.beq pc 7 then some (2, 2, 0, 8) else none))) else (bif Nat.ble 2 pc then (bif Nat.ble 5 pc then (bif Nat.ble 6 pc then (bif Nat.beq pc 6 then some (2, 1, 0, 7) else none) else (bif Nat.beq pc 5 then some (3, 0, 0, 6) else none)) else (bif Nat.beq pc 2 then some (17, 6, 0, 5) else none)) else (bif Nat.ble 1 pc then (bif Nat.beq pc 1 then some (0, 0, 0, 2) else none) else (bif Nat.beq pc 0 then some (3, 0, 0, 1) else none))))))
-- 42: ThrowFlowModel.enter(II)V
def k_42 (pc : Nat) : Option PE := bif Nat.ble 39 pc then (bif Nat.ble 59 pc then (bif Nat.ble 69 pc then (bif Nat.ble 74 pc then (bif Nat.ble 76 pc then (bif Nat.ble 79 pc then (bif Nat.beq pc 79 then some (81, 0, 0, 0) else none) else (bif Nat.beq pc 76 then some (17, 6, 15, 79) else none)) else (bif Nat.ble 75 pc then (bif Nat.beq pc 75 then some (6, 0, 0, 76) else none) else (bif Nat.beq pc 74 then some (0, 1, 0, 75) else none))) else (bif Nat.ble 70 pc then (bif Nat.ble 71 pc then (bif Nat.beq pc 71 then some (16, 6, 15, 74) else none) else (bif Nat.beq pc 70 then some (14, 0, 0, 71) else none)) else (bif Nat.beq pc 69 then some (3, 0, 0, 70) else none))) else (bif Nat.ble 62 pc then (bif Nat.ble 63 pc then (bif Nat.ble 66 pc then (bif Nat.beq pc 66 then some (18, 0, 0, 22) else none) else (bif Nat.beq pc 63 then some (19, 3, 1, 66) else none)) else (bif Nat.beq pc 62 then some (31, 0, 0, 63) else none)) else (bif Nat.ble 60 pc then (bif Nat.ble 61 pc then (bif Nat.beq pc 61 then some (1, 0, 0, 62) else none) else (bif Nat.beq pc 60 then some (6, 0, 0, 61) else none)) else (bif Nat.beq pc 59 then some (2, 3, 0, 60) else none)))) else (bif Nat.ble 49 pc then (bif Nat.ble 54 pc then (bif Nat.ble 55 pc then (bif Nat.ble 58 pc then (bif Nat.beq pc 58 then some (8, 0, 0, 59) else none) else (bif Nat.beq pc 55 then some (16, 6, 15, 58) else none)) else (bif Nat.beq pc 54 then some (3, 0, 0, 55) else none)) else (bif Nat.ble 50 pc then (bif Nat.ble 53 pc then (bif Nat.beq pc 53 then some (0, 4, 0, 54) else none) else (bif Nat.beq pc 50 then some (16, 6, 19, 53) else none)) else (bif Nat.beq pc 49 then some (3, 0, 0, 50) else none))) else (bif Nat.ble 44 pc then (bif Nat.ble 47 pc then (bif Nat.ble 48 pc then (bif Nat.beq pc 48 then some (31, 0, 0, 49) else none) else (bif Nat.beq pc 47 then some (0, 0, 0, 48) else none)) else (bif Nat.beq pc 44 then some (18, 0, 0, 48) else none)) else (bif Nat.ble 40 pc then (bif Nat.ble 43 pc then (bif Nat.beq pc 43 then some (2, 2, 0, 44) else none) else (bif Nat.beq pc 40 then some (51, 47, 0, 43) else none)) else (bif Nat.beq pc 39 then some (2, 3, 0, 40) else none))))) else (bif Nat.ble 20 pc then (bif Nat.ble 28 pc then (bif Nat.ble 33 pc then (bif Nat.ble 37 pc then (bif Nat.ble 38 pc then (bif Nat.beq pc 38 then some (6, 0, 0, 39) else none) else (bif Nat.beq pc 37 then some (2, 3, 0, 38) else none)) else (bif Nat.ble 36 pc then (bif Nat.beq pc 36 then some (8, 0, 0, 37) else none) else (bif Nat.beq pc 33 then some (16, 6, 15, 36) else none))) else (bif Nat.ble 31 pc then (bif Nat.ble 32 pc then (bif Nat.beq pc 32 then some (3, 0, 0, 33) else none) else (bif Nat.beq pc 31 then some (0, 4, 0, 32) else none)) else (bif Nat.beq pc 28 then some (16, 6, 18, 31) else none))) else (bif Nat.ble 23 pc then (bif Nat.ble 24 pc then (bif Nat.ble 27 pc then (bif Nat.beq pc 27 then some (3, 0, 0, 28) else none) else (bif Nat.beq pc 24 then some (59, 69, 0, 27) else none)) else (bif Nat.beq pc 23 then some (0, 4, 0, 24) else none)) else (bif Nat.ble 21 pc then (bif Nat.ble 22 pc then (bif Nat.beq pc 22 then some (2, 3, 0, 23) else none) else (bif Nat.beq pc 21 then some (4, 3, 0, 22) else none)) else (bif Nat.beq pc 20 then some (0, 0, 0, 21) else none)))) else (bif Nat.ble 10 pc then (bif Nat.ble 15 pc then (bif Nat.ble 18 pc then (bif Nat.ble 19 pc then (bif Nat.beq pc 19 then some (31, 0, 0, 20) else none) else (bif Nat.beq pc 18 then some (0, 0, 0, 19) else none)) else (bif Nat.beq pc 15 then some (16, 6, 15, 18) else none)) else (bif Nat.ble 11 pc then (bif Nat.ble 14 pc then (bif Nat.beq pc 14 then some (3, 0, 0, 15) else none) else (bif Nat.beq pc 11 then some (16, 6, 17, 14) else none)) else (bif Nat.beq pc 10 then some (3, 0, 0, 11) else none))) else (bif Nat.ble 5 pc then (bif Nat.ble 8 pc then (bif Nat.ble 9 pc then (bif Nat.beq pc 9 then some (31, 0, 0, 10) else none) else (bif Nat.beq pc 8 then some (2, 1, 0, 9) else none)) else (bif Nat.beq pc 5 then some (16, 6, 15, 8) else none)) else (bif Nat.ble 1 pc then (bif Nat.ble 4 pc then (bif Nat.beq pc 4 then some (3, 0, 0, 5) else none) else (bif Nat.beq pc 1 then some (16, 6, 16, 4) else none)) else (bif Nat.beq pc 0 then some (3, 0, 0, 1) else none)))))
-- 43: ThrowFlowModel.leave(I)V
def k_43 (pc : Nat) : Option PE := bif Nat.ble 42 pc then (bif Nat.ble 58 pc then (bif Nat.ble 66 pc then (bif Nat.ble 69 pc then (bif Nat.ble 71 pc then (bif Nat.ble 72 pc then (bif Nat.beq pc 72 then some (81, 0, 0, 0) else none) else (bif Nat.beq pc 71 then some (31, 0, 0, 72) else none)) else (bif Nat.ble 70 pc then (bif Nat.beq pc 70 then some (6, 0, 0, 71) else none) else (bif Nat.beq pc 69 then some (0, 1, 0, 70) else none))) else (bif Nat.ble 67 pc then (bif Nat.ble 68 pc then (bif Nat.beq pc 68 then some (30, 0, 0, 69) else none) else (bif Nat.beq pc 67 then some (15, 0, 0, 68) else none)) else (bif Nat.beq pc 66 then some (2, 2, 0, 67) else none))) else (bif Nat.ble 61 pc then (bif Nat.ble 62 pc then (bif Nat.ble 63 pc then (bif Nat.beq pc 63 then some (16, 6, 17, 66) else none) else (bif Nat.beq pc 62 then some (3, 0, 0, 63) else none)) else (bif Nat.beq pc 61 then some (31, 0, 0, 62) else none)) else (bif Nat.ble 59 pc then (bif Nat.ble 60 pc then (bif Nat.beq pc 60 then some (2, 1, 0, 61) else none) else (bif Nat.beq pc 59 then some (6, 0, 0, 60) else none)) else (bif Nat.beq pc 58 then some (30, 0, 0, 59) else none)))) else (bif Nat.ble 50 pc then (bif Nat.ble 53 pc then (bif Nat.ble 54 pc then (bif Nat.ble 57 pc then (bif Nat.beq pc 57 then some (2, 3, 0, 58) else none) else (bif Nat.beq pc 54 then some (16, 6, 6, 57) else none)) else (bif Nat.beq pc 53 then some (3, 0, 0, 54) else none)) else (bif Nat.ble 51 pc then (bif Nat.ble 52 pc then (bif Nat.beq pc 52 then some (8, 0, 0, 53) else none) else (bif Nat.beq pc 51 then some (2, 2, 0, 52) else none)) else (bif Nat.beq pc 50 then some (0, 4, 0, 51) else none))) else (bif Nat.ble 45 pc then (bif Nat.ble 46 pc then (bif Nat.ble 47 pc then (bif Nat.beq pc 47 then some (16, 6, 18, 50) else none) else (bif Nat.beq pc 46 then some (3, 0, 0, 47) else none)) else (bif Nat.beq pc 45 then some (4, 3, 0, 46) else none)) else (bif Nat.ble 43 pc then (bif Nat.ble 44 pc then (bif Nat.beq pc 44 then some (6, 0, 0, 45) else none) else (bif Nat.beq pc 43 then some (30, 0, 0, 44) else none)) else (bif Nat.beq pc 42 then some (2, 2, 0, 43) else none))))) else (bif Nat.ble 22 pc then (bif Nat.ble 31 pc then (bif Nat.ble 36 pc then (bif Nat.ble 38 pc then (bif Nat.ble 39 pc then (bif Nat.beq pc 39 then some (16, 6, 17, 42) else none) else (bif Nat.beq pc 38 then some (3, 0, 0, 39) else none)) else (bif Nat.ble 37 pc then (bif Nat.beq pc 37 then some (8, 0, 0, 38) else none) else (bif Nat.beq pc 36 then some (30, 0, 0, 37) else none))) else (bif Nat.ble 32 pc then (bif Nat.ble 35 pc then (bif Nat.beq pc 35 then some (2, 2, 0, 36) else none) else (bif Nat.beq pc 32 then some (16, 6, 16, 35) else none)) else (bif Nat.beq pc 31 then some (3, 0, 0, 32) else none))) else (bif Nat.ble 27 pc then (bif Nat.ble 28 pc then (bif Nat.ble 29 pc then (bif Nat.beq pc 29 then some (0, 24, 0, 31) else none) else (bif Nat.beq pc 28 then some (4, 2, 0, 29) else none)) else (bif Nat.beq pc 27 then some (7, 0, 0, 28) else none)) else (bif Nat.ble 23 pc then (bif Nat.ble 26 pc then (bif Nat.beq pc 26 then some (0, 1, 0, 27) else none) else (bif Nat.beq pc 23 then some (16, 6, 15, 26) else none)) else (bif Nat.beq pc 22 then some (3, 0, 0, 23) else none)))) else (bif Nat.ble 10 pc then (bif Nat.ble 15 pc then (bif Nat.ble 16 pc then (bif Nat.ble 19 pc then (bif Nat.beq pc 19 then some (55, 72, 0, 22) else none) else (bif Nat.beq pc 16 then some (16, 6, 15, 19) else none)) else (bif Nat.beq pc 15 then some (3, 0, 0, 16) else none)) else (bif Nat.ble 11 pc then (bif Nat.ble 12 pc then (bif Nat.beq pc 12 then some (17, 6, 22, 15) else none) else (bif Nat.beq pc 11 then some (2, 1, 0, 12) else none)) else (bif Nat.beq pc 10 then some (3, 0, 0, 11) else none))) else (bif Nat.ble 5 pc then (bif Nat.ble 6 pc then (bif Nat.ble 7 pc then (bif Nat.beq pc 7 then some (17, 6, 15, 10) else none) else (bif Nat.beq pc 6 then some (7, 0, 0, 7) else none)) else (bif Nat.beq pc 5 then some (0, 1, 0, 6) else none)) else (bif Nat.ble 1 pc then (bif Nat.ble 2 pc then (bif Nat.beq pc 2 then some (16, 6, 15, 5) else none) else (bif Nat.beq pc 1 then some (14, 0, 0, 2) else none)) else (bif Nat.beq pc 0 then some (3, 0, 0, 1) else none)))))
-- 44: ThrowFlowModel.raise(I)V
def k_44 (pc : Nat) : Option PE := bif Nat.ble 55 pc then (bif Nat.ble 79 pc then (bif Nat.ble 93 pc then (bif Nat.ble 101 pc then (bif Nat.ble 105 pc then (bif Nat.ble 106 pc then (bif Nat.ble 109 pc then (bif Nat.beq pc 109 then some (81, 0, 0, 0) else none) else (bif Nat.beq pc 106 then some (17, 6, 21, 109) else none)) else (bif Nat.beq pc 105 then some (1, 0, 0, 106) else none)) else (bif Nat.ble 102 pc then (bif Nat.beq pc 102 then some (18, 0, 0, 106) else none) else (bif Nat.beq pc 101 then some (2, 1, 0, 102) else none))) else (bif Nat.ble 97 pc then (bif Nat.ble 98 pc then (bif Nat.beq pc 98 then some (50, 105, 0, 101) else none) else (bif Nat.beq pc 97 then some (2, 2, 0, 98) else none)) else (bif Nat.ble 96 pc then (bif Nat.beq pc 96 then some (3, 0, 0, 97) else none) else (bif Nat.beq pc 93 then some (18, 0, 0, 2) else none)))) else (bif Nat.ble 85 pc then (bif Nat.ble 89 pc then (bif Nat.ble 90 pc then (bif Nat.beq pc 90 then some (17, 6, 15, 93) else none) else (bif Nat.beq pc 89 then some (7, 0, 0, 90) else none)) else (bif Nat.ble 88 pc then (bif Nat.beq pc 88 then some (0, 1, 0, 89) else none) else (bif Nat.beq pc 85 then some (16, 6, 15, 88) else none))) else (bif Nat.ble 83 pc then (bif Nat.ble 84 pc then (bif Nat.beq pc 84 then some (14, 0, 0, 85) else none) else (bif Nat.beq pc 83 then some (3, 0, 0, 84) else none)) else (bif Nat.ble 80 pc then (bif Nat.beq pc 80 then some (18, 0, 0, 93) else none) else (bif Nat.beq pc 79 then some (4, 2, 0, 80) else none))))) else (bif Nat.ble 66 pc then (bif Nat.ble 73 pc then (bif Nat.ble 76 pc then (bif Nat.ble 77 pc then (bif Nat.ble 78 pc then (bif Nat.beq pc 78 then some (0, 0, 0, 79) else none) else (bif Nat.beq pc 77 then some (31, 0, 0, 78) else none)) else (bif Nat.beq pc 76 then some (30, 0, 0, 77) else none)) else (bif Nat.ble 75 pc then (bif Nat.beq pc 75 then some (6, 0, 0, 76) else none) else (bif Nat.beq pc 73 then some (2, 5, 0, 75) else none))) else (bif Nat.ble 70 pc then (bif Nat.ble 72 pc then (bif Nat.beq pc 72 then some (8, 0, 0, 73) else none) else (bif Nat.beq pc 70 then some (2, 4, 0, 72) else none)) else (bif Nat.ble 69 pc then (bif Nat.beq pc 69 then some (0, 4, 0, 70) else none) else (bif Nat.beq pc 66 then some (16, 6, 12, 69) else none)))) else (bif Nat.ble 60 pc then (bif Nat.ble 64 pc then (bif Nat.ble 65 pc then (bif Nat.beq pc 65 then some (3, 0, 0, 66) else none) else (bif Nat.beq pc 64 then some (2, 3, 0, 65) else none)) else (bif Nat.ble 61 pc then (bif Nat.beq pc 61 then some (16, 6, 17, 64) else none) else (bif Nat.beq pc 60 then some (3, 0, 0, 61) else none))) else (bif Nat.ble 58 pc then (bif Nat.ble 59 pc then (bif Nat.beq pc 59 then some (31, 0, 0, 60) else none) else (bif Nat.beq pc 58 then some (2, 1, 0, 59) else none)) else (bif Nat.ble 57 pc then (bif Nat.beq pc 57 then some (6, 0, 0, 58) else none) else (bif Nat.beq pc 55 then some (2, 5, 0, 57) else none)))))) else (bif Nat.ble 26 pc then (bif Nat.ble 38 pc then (bif Nat.ble 48 pc then (bif Nat.ble 52 pc then (bif Nat.ble 53 pc then (bif Nat.ble 54 pc then (bif Nat.beq pc 54 then some (8, 0, 0, 55) else none) else (bif Nat.beq pc 53 then some (2, 3, 0, 54) else none)) else (bif Nat.beq pc 52 then some (0, 4, 0, 53) else none)) else (bif Nat.ble 49 pc then (bif Nat.beq pc 49 then some (16, 6, 19, 52) else none) else (bif Nat.beq pc 48 then some (3, 0, 0, 49) else none))) else (bif Nat.ble 43 pc then (bif Nat.ble 45 pc then (bif Nat.beq pc 45 then some (52, 83, 0, 48) else none) else (bif Nat.beq pc 43 then some (2, 5, 0, 45) else none)) else (bif Nat.ble 41 pc then (bif Nat.beq pc 41 then some (4, 5, 0, 43) else none) else (bif Nat.beq pc 38 then some (70, 28, 4, 41) else none)))) else (bif Nat.ble 32 pc then (bif Nat.ble 36 pc then (bif Nat.ble 37 pc then (bif Nat.beq pc 37 then some (2, 1, 0, 38) else none) else (bif Nat.beq pc 36 then some (30, 0, 0, 37) else none)) else (bif Nat.ble 35 pc then (bif Nat.beq pc 35 then some (2, 3, 0, 36) else none) else (bif Nat.beq pc 32 then some (16, 6, 17, 35) else none))) else (bif Nat.ble 29 pc then (bif Nat.ble 31 pc then (bif Nat.beq pc 31 then some (3, 0, 0, 32) else none) else (bif Nat.beq pc 29 then some (2, 4, 0, 31) else none)) else (bif Nat.ble 28 pc then (bif Nat.beq pc 28 then some (3, 0, 0, 29) else none) else (bif Nat.beq pc 26 then some (4, 4, 0, 28) else none))))) else (bif Nat.ble 14 pc then (bif Nat.ble 20 pc then (bif Nat.ble 24 pc then (bif Nat.ble 25 pc then (bif Nat.beq pc 25 then some (30, 0, 0, 26) else none) else (bif Nat.beq pc 24 then some (2, 3, 0, 25) else none)) else (bif Nat.ble 21 pc then (bif Nat.beq pc 21 then some (16, 6, 16, 24) else none) else (bif Nat.beq pc 20 then some (3, 0, 0, 21) else none))) else (bif Nat.ble 18 pc then (bif Nat.ble 19 pc then (bif Nat.beq pc 19 then some (4, 3, 0, 20) else none) else (bif Nat.beq pc 18 then some (7, 0, 0, 19) else none)) else (bif Nat.ble 17 pc then (bif Nat.beq pc 17 then some (0, 1, 0, 18) else none) else (bif Nat.beq pc 14 then some (16, 6, 15, 17) else none)))) else (bif Nat.ble 6 pc then (bif Nat.ble 10 pc then (bif Nat.ble 13 pc then (bif Nat.beq pc 13 then some (3, 0, 0, 14) else none) else (bif Nat.beq pc 10 then some (55, 96, 0, 13) else none)) else (bif Nat.ble 7 pc then (bif Nat.beq pc 7 then some (16, 6, 15, 10) else none) else (bif Nat.beq pc 6 then some (3, 0, 0, 7) else none))) else (bif Nat.ble 2 pc then (bif Nat.ble 3 pc then (bif Nat.beq pc 3 then some (50, 96, 0, 6) else none) else (bif Nat.beq pc 2 then some (2, 2, 0, 3) else none)) else (bif Nat.ble 1 pc then (bif Nat.beq pc 1 then some (4, 2, 0, 2) else none) else (bif Nat.beq pc 0 then some (0, 1, 0, 1) else none))))))
-- 45: ThrowFlowModel.call(III)V
def k_45 (pc : Nat) : Option PE := bif Nat.ble 36 pc then (bif Nat.ble 52 pc then (bif Nat.ble 59 pc then (bif Nat.ble 62 pc then (bif Nat.ble 63 pc then (bif Nat.ble 64 pc then (bif Nat.beq pc 64 then some (81, 0, 0, 0) else none) else (bif Nat.beq pc 63 then some (31, 0, 0, 64) else none)) else (bif Nat.beq pc 62 then some (6, 0, 0, 63) else none)) else (bif Nat.ble 60 pc then (bif Nat.ble 61 pc then (bif Nat.beq pc 61 then some (0, 1, 0, 62) else none) else (bif Nat.beq pc 60 then some (30, 0, 0, 61) else none)) else (bif Nat.beq pc 59 then some (15, 0, 0, 60) else none))) else (bif Nat.ble 54 pc then (bif Nat.ble 55 pc then (bif Nat.ble 58 pc then (bif Nat.beq pc 58 then some (2, 1, 0, 59) else none) else (bif Nat.beq pc 55 then some (16, 6, 17, 58) else none)) else (bif Nat.beq pc 54 then some (3, 0, 0, 55) else none)) else (bif Nat.ble 53 pc then (bif Nat.beq pc 53 then some (31, 0, 0, 54) else none) else (bif Nat.beq pc 52 then some (0, 0, 0, 53) else none)))) else (bif Nat.ble 47 pc then (bif Nat.ble 49 pc then (bif Nat.ble 50 pc then (bif Nat.ble 51 pc then (bif Nat.beq pc 51 then some (6, 0, 0, 52) else none) else (bif Nat.beq pc 50 then some (2, 2, 0, 51) else none)) else (bif Nat.beq pc 49 then some (8, 0, 0, 50) else none)) else (bif Nat.ble 48 pc then (bif Nat.beq pc 48 then some (2, 1, 0, 49) else none) else (bif Nat.beq pc 47 then some (0, 4, 0, 48) else none))) else (bif Nat.ble 40 pc then (bif Nat.ble 43 pc then (bif Nat.ble 44 pc then (bif Nat.beq pc 44 then some (16, 6, 18, 47) else none) else (bif Nat.beq pc 43 then some (3, 0, 0, 44) else none)) else (bif Nat.beq pc 40 then some (18, 0, 0, 64) else none)) else (bif Nat.ble 37 pc then (bif Nat.beq pc 37 then some (70, 42, 3, 40) else none) else (bif Nat.beq pc 36 then some (30, 0, 0, 37) else none))))) else (bif Nat.ble 19 pc then (bif Nat.ble 28 pc then (bif Nat.ble 33 pc then (bif Nat.ble 34 pc then (bif Nat.ble 35 pc then (bif Nat.beq pc 35 then some (6, 0, 0, 36) else none) else (bif Nat.beq pc 34 then some (2, 2, 0, 35) else none)) else (bif Nat.beq pc 33 then some (8, 0, 0, 34) else none)) else (bif Nat.ble 31 pc then (bif Nat.ble 32 pc then (bif Nat.beq pc 32 then some (2, 1, 0, 33) else none) else (bif Nat.beq pc 31 then some (0, 4, 0, 32) else none)) else (bif Nat.beq pc 28 then some (16, 6, 18, 31) else none))) else (bif Nat.ble 25 pc then (bif Nat.ble 26 pc then (bif Nat.ble 27 pc then (bif Nat.beq pc 27 then some (3, 0, 0, 28) else none) else (bif Nat.beq pc 26 then some (2, 3, 0, 27) else none)) else (bif Nat.beq pc 25 then some (3, 0, 0, 26) else none)) else (bif Nat.ble 22 pc then (bif Nat.beq pc 22 then some (50, 43, 0, 25) else none) else (bif Nat.beq pc 19 then some (70, 19, 2, 22) else none)))) else (bif Nat.ble 10 pc then (bif Nat.ble 14 pc then (bif Nat.ble 17 pc then (bif Nat.ble 18 pc then (bif Nat.beq pc 18 then some (2, 3, 0, 19) else none) else (bif Nat.beq pc 17 then some (3, 0, 0, 18) else none)) else (bif Nat.beq pc 14 then some (18, 0, 0, 64) else none)) else (bif Nat.ble 11 pc then (bif Nat.beq pc 11 then some (70, 44, 2, 14) else none) else (bif Nat.beq pc 10 then some (0, 2, 0, 11) else none))) else (bif Nat.ble 4 pc then (bif Nat.ble 6 pc then (bif Nat.ble 9 pc then (bif Nat.beq pc 9 then some (3, 0, 0, 10) else none) else (bif Nat.beq pc 6 then some (57, 17, 0, 9) else none)) else (bif Nat.beq pc 4 then some (0, 12, 0, 6) else none)) else (bif Nat.ble 1 pc then (bif Nat.beq pc 1 then some (16, 6, 15, 4) else none) else (bif Nat.beq pc 0 then some (3, 0, 0, 1) else none)))))
-- 46: ThrowFlowModel.divide(III)V
def k_46 (pc : Nat) : Option PE := bif Nat.ble 33 pc then (bif Nat.ble 46 pc then (bif Nat.ble 53 pc then (bif Nat.ble 56 pc then (bif Nat.ble 57 pc then (bif Nat.ble 58 pc then (bif Nat.beq pc 58 then some (81, 0, 0, 0) else none) else (bif Nat.beq pc 57 then some (31, 0, 0, 58) else none)) else (bif Nat.beq pc 56 then some (6, 0, 0, 57) else none)) else (bif Nat.ble 54 pc then (bif Nat.ble 55 pc then (bif Nat.beq pc 55 then some (0, 1, 0, 56) else none) else (bif Nat.beq pc 54 then some (30, 0, 0, 55) else none)) else (bif Nat.beq pc 53 then some (15, 0, 0, 54) else none))) else (bif Nat.ble 48 pc then (bif Nat.ble 49 pc then (bif Nat.ble 52 pc then (bif Nat.beq pc 52 then some (2, 1, 0, 53) else none) else (bif Nat.beq pc 49 then some (16, 6, 17, 52) else none)) else (bif Nat.beq pc 48 then some (3, 0, 0, 49) else none)) else (bif Nat.ble 47 pc then (bif Nat.beq pc 47 then some (31, 0, 0, 48) else none) else (bif Nat.beq pc 46 then some (33, 0, 0, 47) else none)))) else (bif Nat.ble 40 pc then (bif Nat.ble 42 pc then (bif Nat.ble 43 pc then (bif Nat.ble 44 pc then (bif Nat.beq pc 44 then some (2, 4, 0, 46) else none) else (bif Nat.beq pc 43 then some (30, 0, 0, 44) else none)) else (bif Nat.beq pc 42 then some (6, 0, 0, 43) else none)) else (bif Nat.ble 41 pc then (bif Nat.beq pc 41 then some (2, 2, 0, 42) else none) else (bif Nat.beq pc 40 then some (8, 0, 0, 41) else none))) else (bif Nat.ble 35 pc then (bif Nat.ble 38 pc then (bif Nat.ble 39 pc then (bif Nat.beq pc 39 then some (2, 1, 0, 40) else none) else (bif Nat.beq pc 38 then some (0, 4, 0, 39) else none)) else (bif Nat.beq pc 35 then some (16, 6, 18, 38) else none)) else (bif Nat.ble 34 pc then (bif Nat.beq pc 34 then some (3, 0, 0, 35) else none) else (bif Nat.beq pc 33 then some (6, 0, 0, 34) else none))))) else (bif Nat.ble 14 pc then (bif Nat.ble 25 pc then (bif Nat.ble 30 pc then (bif Nat.ble 31 pc then (bif Nat.ble 32 pc then (bif Nat.beq pc 32 then some (2, 2, 0, 33) else none) else (bif Nat.beq pc 31 then some (8, 0, 0, 32) else none)) else (bif Nat.beq pc 30 then some (2, 1, 0, 31) else none)) else (bif Nat.ble 26 pc then (bif Nat.ble 29 pc then (bif Nat.beq pc 29 then some (0, 4, 0, 30) else none) else (bif Nat.beq pc 26 then some (16, 6, 18, 29) else none)) else (bif Nat.beq pc 25 then some (3, 0, 0, 26) else none))) else (bif Nat.ble 18 pc then (bif Nat.ble 19 pc then (bif Nat.ble 22 pc then (bif Nat.beq pc 22 then some (18, 0, 0, 58) else none) else (bif Nat.beq pc 19 then some (70, 44, 2, 22) else none)) else (bif Nat.beq pc 18 then some (0, 1, 0, 19) else none)) else (bif Nat.ble 17 pc then (bif Nat.beq pc 17 then some (3, 0, 0, 18) else none) else (bif Nat.beq pc 14 then some (51, 25, 0, 17) else none)))) else (bif Nat.ble 7 pc then (bif Nat.ble 9 pc then (bif Nat.ble 10 pc then (bif Nat.ble 12 pc then (bif Nat.beq pc 12 then some (2, 4, 0, 14) else none) else (bif Nat.beq pc 10 then some (4, 4, 0, 12) else none)) else (bif Nat.beq pc 9 then some (30, 0, 0, 10) else none)) else (bif Nat.ble 8 pc then (bif Nat.beq pc 8 then some (6, 0, 0, 9) else none) else (bif Nat.beq pc 7 then some (2, 3, 0, 8) else none))) else (bif Nat.ble 4 pc then (bif Nat.ble 5 pc then (bif Nat.ble 6 pc then (bif Nat.beq pc 6 then some (8, 0, 0, 7) else none) else (bif Nat.beq pc 5 then some (2, 1, 0, 6) else none)) else (bif Nat.beq pc 4 then some (0, 4, 0, 5) else none)) else (bif Nat.ble 1 pc then (bif Nat.beq pc 1 then some (16, 6, 18, 4) else none) else (bif Nat.beq pc 0 then some (3, 0, 0, 1) else none)))))
-- 47: ThrowFlowModel.again(II)V
def k_47 (pc : Nat) : Option PE := bif Nat.ble 20 pc then (bif Nat.ble 31 pc then (bif Nat.ble 37 pc then (bif Nat.ble 39 pc then (bif Nat.ble 40 pc then (bif Nat.beq pc 40 then some (81, 0, 0, 0) else none) else (bif Nat.beq pc 39 then some (31, 0, 0, 40) else none)) else (bif Nat.ble 38 pc then (bif Nat.beq pc 38 then some (6, 0, 0, 39) else none) else (bif Nat.beq pc 37 then some (0, 1, 0, 38) else none))) else (bif Nat.ble 35 pc then (bif Nat.ble 36 pc then (bif Nat.beq pc 36 then some (30, 0, 0, 37) else none) else (bif Nat.beq pc 35 then some (15, 0, 0, 36) else none)) else (bif Nat.ble 34 pc then (bif Nat.beq pc 34 then some (2, 1, 0, 35) else none) else (bif Nat.beq pc 31 then some (16, 6, 17, 34) else none)))) else (bif Nat.ble 23 pc then (bif Nat.ble 27 pc then (bif Nat.ble 30 pc then (bif Nat.beq pc 30 then some (3, 0, 0, 31) else none) else (bif Nat.beq pc 27 then some (18, 0, 0, 40) else none)) else (bif Nat.ble 24 pc then (bif Nat.beq pc 24 then some (70, 44, 2, 27) else none) else (bif Nat.beq pc 23 then some (30, 0, 0, 24) else none))) else (bif Nat.ble 21 pc then (bif Nat.ble 22 pc then (bif Nat.beq pc 22 then some (6, 0, 0, 23) else none) else (bif Nat.beq pc 21 then some (2, 2, 0, 22) else none)) else (bif Nat.beq pc 20 then some (8, 0, 0, 21) else none)))) else (bif Nat.ble 9 pc then (bif Nat.ble 14 pc then (bif Nat.ble 18 pc then (bif Nat.ble 19 pc then (bif Nat.beq pc 19 then some (2, 1, 0, 20) else none) else (bif Nat.beq pc 18 then some (0, 4, 0, 19) else none)) else (bif Nat.ble 15 pc then (bif Nat.beq pc 15 then some (16, 6, 19, 18) else none) else (bif Nat.beq pc 14 then some (3, 0, 0, 15) else none))) else (bif Nat.ble 10 pc then (bif Nat.ble 13 pc then (bif Nat.beq pc 13 then some (3, 0, 0, 14) else none) else (bif Nat.beq pc 10 then some (52, 30, 0, 13) else none)) else (bif Nat.beq pc 9 then some (30, 0, 0, 10) else none))) else (bif Nat.ble 5 pc then (bif Nat.ble 7 pc then (bif Nat.ble 8 pc then (bif Nat.beq pc 8 then some (6, 0, 0, 9) else none) else (bif Nat.beq pc 7 then some (2, 2, 0, 8) else none)) else (bif Nat.ble 6 pc then (bif Nat.beq pc 6 then some (8, 0, 0, 7) else none) else (bif Nat.beq pc 5 then some (2, 1, 0, 6) else none))) else (bif Nat.ble 1 pc then (bif Nat.ble 4 pc then (bif Nat.beq pc 4 then some (0, 4, 0, 5) else none) else (bif Nat.beq pc 1 then some (16, 6, 19, 4) else none)) else (bif Nat.beq pc 0 then some (3, 0, 0, 1) else none))))
-- 48: ThrowFlowModel.act()V
def k_48 (pc : Nat) : Option PE := bif Nat.ble 173 pc then (bif Nat.ble 237 pc then (bif Nat.ble 270 pc then (bif Nat.ble 292 pc then (bif Nat.ble 302 pc then (bif Nat.ble 305 pc then (bif Nat.ble 306 pc then (bif Nat.ble 309 pc then (bif Nat.beq pc 309 then some (81, 0, 0, 0) else none) else (bif Nat.beq pc 306 then some (70, 43, 2, 309) else none)) else (bif Nat.beq pc 305 then some (30, 0, 0, 306) else none)) else (bif Nat.ble 303 pc then (bif Nat.ble 304 pc then (bif Nat.beq pc 304 then some (6, 0, 0, 305) else none) else (bif Nat.beq pc 303 then some (2, 3, 0, 304) else none)) else (bif Nat.beq pc 302 then some (8, 0, 0, 303) else none))) else (bif Nat.ble 297 pc then (bif Nat.ble 300 pc then (bif Nat.ble 301 pc then (bif Nat.beq pc 301 then some (2, 1, 0, 302) else none) else (bif Nat.beq pc 300 then some (0, 4, 0, 301) else none)) else (bif Nat.beq pc 297 then some (16, 6, 18, 300) else none)) else (bif Nat.ble 295 pc then (bif Nat.ble 296 pc then (bif Nat.beq pc 296 then some (3, 0, 0, 297) else none) else (bif Nat.beq pc 295 then some (3, 0, 0, 296) else none)) else (bif Nat.beq pc 292 then some (18, 0, 0, 309) else none)))) else (bif Nat.ble 280 pc then (bif Nat.ble 287 pc then (bif Nat.ble 288 pc then (bif Nat.ble 289 pc then (bif Nat.beq pc 289 then some (70, 47, 3, 292) else none) else (bif Nat.beq pc 288 then some (2, 3, 0, 289) else none)) else (bif Nat.beq pc 287 then some (2, 1, 0, 288) else none)) else (bif Nat.ble 283 pc then (bif Nat.ble 286 pc then (bif Nat.beq pc 286 then some (3, 0, 0, 287) else none) else (bif Nat.beq pc 283 then some (18, 0, 0, 309) else none)) else (bif Nat.beq pc 280 then some (70, 44, 2, 283) else none))) else (bif Nat.ble 275 pc then (bif Nat.ble 278 pc then (bif Nat.ble 279 pc then (bif Nat.beq pc 279 then some (2, 3, 0, 280) else none) else (bif Nat.beq pc 278 then some (3, 0, 0, 279) else none)) else (bif Nat.beq pc 275 then some (18, 0, 0, 309) else none)) else (bif Nat.ble 272 pc then (bif Nat.beq pc 272 then some (70, 45, 4, 275) else none) else (bif Nat.beq pc 270 then some (2, 4, 0, 272) else none))))) else (bif Nat.ble 255 pc then (bif Nat.ble 262 pc then (bif Nat.ble 267 pc then (bif Nat.ble 268 pc then (bif Nat.ble 269 pc then (bif Nat.beq pc 269 then some (2, 3, 0, 270) else none) else (bif Nat.beq pc 268 then some (2, 1, 0, 269) else none)) else (bif Nat.beq pc 267 then some (3, 0, 0, 268) else none)) else (bif Nat.ble 263 pc then (bif Nat.ble 264 pc then (bif Nat.beq pc 264 then some (18, 0, 0, 309) else none) else (bif Nat.beq pc 263 then some (31, 0, 0, 264) else none)) else (bif Nat.beq pc 262 then some (6, 0, 0, 263) else none))) else (bif Nat.ble 259 pc then (bif Nat.ble 260 pc then (bif Nat.ble 261 pc then (bif Nat.beq pc 261 then some (0, 1, 0, 262) else none) else (bif Nat.beq pc 260 then some (30, 0, 0, 261) else none)) else (bif Nat.beq pc 259 then some (2, 1, 0, 260) else none)) else (bif Nat.ble 256 pc then (bif Nat.beq pc 256 then some (16, 6, 17, 259) else none) else (bif Nat.beq pc 255 then some (3, 0, 0, 256) else none)))) else (bif Nat.ble 244 pc then (bif Nat.ble 247 pc then (bif Nat.ble 250 pc then (bif Nat.ble 252 pc then (bif Nat.beq pc 252 then some (18, 0, 0, 263) else none) else (bif Nat.beq pc 250 then some (2, 4, 0, 252) else none)) else (bif Nat.beq pc 247 then some (51, 255, 0, 250) else none)) else (bif Nat.ble 245 pc then (bif Nat.ble 246 pc then (bif Nat.beq pc 246 then some (30, 0, 0, 247) else none) else (bif Nat.beq pc 245 then some (6, 0, 0, 246) else none)) else (bif Nat.beq pc 244 then some (2, 3, 0, 245) else none))) else (bif Nat.ble 241 pc then (bif Nat.ble 242 pc then (bif Nat.ble 243 pc then (bif Nat.beq pc 243 then some (8, 0, 0, 244) else none) else (bif Nat.beq pc 242 then some (2, 1, 0, 243) else none)) else (bif Nat.beq pc 241 then some (0, 4, 0, 242) else none)) else (bif Nat.ble 238 pc then (bif Nat.beq pc 238 then some (16, 6, 18, 241) else none) else (bif Nat.beq pc 237 then some (3, 0, 0, 238) else none)))))) else (bif Nat.ble 202 pc then (bif Nat.ble 216 pc then (bif Nat.ble 227 pc then (bif Nat.ble 232 pc then (bif Nat.ble 233 pc then (bif Nat.ble 236 pc then (bif Nat.beq pc 236 then some (2, 1, 0, 237) else none) else (bif Nat.beq pc 233 then some (16, 6, 17, 236) else none)) else (bif Nat.beq pc 232 then some (3, 0, 0, 233) else none)) else (bif Nat.ble 228 pc then (bif Nat.ble 229 pc then (bif Nat.beq pc 229 then some (18, 0, 0, 309) else none) else (bif Nat.beq pc 228 then some (31, 0, 0, 229) else none)) else (bif Nat.beq pc 227 then some (2, 3, 0, 228) else none))) else (bif Nat.ble 222 pc then (bif Nat.ble 223 pc then (bif Nat.ble 226 pc then (bif Nat.beq pc 226 then some (2, 1, 0, 227) else none) else (bif Nat.beq pc 223 then some (16, 6, 17, 226) else none)) else (bif Nat.beq pc 222 then some (3, 0, 0, 223) else none)) else (bif Nat.ble 219 pc then (bif Nat.beq pc 219 then some (18, 0, 0, 309) else none) else (bif Nat.beq pc 216 then some (70, 46, 4, 219) else none)))) else (bif Nat.ble 207 pc then (bif Nat.ble 212 pc then (bif Nat.ble 213 pc then (bif Nat.ble 214 pc then (bif Nat.beq pc 214 then some (2, 4, 0, 216) else none) else (bif Nat.beq pc 213 then some (2, 3, 0, 214) else none)) else (bif Nat.beq pc 212 then some (2, 1, 0, 213) else none)) else (bif Nat.ble 208 pc then (bif Nat.ble 211 pc then (bif Nat.beq pc 211 then some (3, 0, 0, 212) else none) else (bif Nat.beq pc 208 then some (18, 0, 0, 309) else none)) else (bif Nat.beq pc 207 then some (31, 0, 0, 208) else none))) else (bif Nat.ble 204 pc then (bif Nat.ble 205 pc then (bif Nat.ble 206 pc then (bif Nat.beq pc 206 then some (6, 0, 0, 207) else none) else (bif Nat.beq pc 205 then some (0, 1, 0, 206) else none)) else (bif Nat.beq pc 204 then some (30, 0, 0, 205) else none)) else (bif Nat.ble 203 pc then (bif Nat.beq pc 203 then some (15, 0, 0, 204) else none) else (bif Nat.beq pc 202 then some (2, 1, 0, 203) else none))))) else (bif Nat.ble 186 pc then (bif Nat.ble 194 pc then (bif Nat.ble 197 pc then (bif Nat.ble 198 pc then (bif Nat.ble 199 pc then (bif Nat.beq pc 199 then some (16, 6, 17, 202) else none) else (bif Nat.beq pc 198 then some (3, 0, 0, 199) else none)) else (bif Nat.beq pc 197 then some (31, 0, 0, 198) else none)) else (bif Nat.ble 195 pc then (bif Nat.ble 196 pc then (bif Nat.beq pc 196 then some (7, 0, 0, 197) else none) else (bif Nat.beq pc 195 then some (30, 0, 0, 196) else none)) else (bif Nat.beq pc 194 then some (6, 0, 0, 195) else none))) else (bif Nat.ble 190 pc then (bif Nat.ble 191 pc then (bif Nat.ble 192 pc then (bif Nat.beq pc 192 then some (2, 4, 0, 194) else none) else (bif Nat.beq pc 191 then some (8, 0, 0, 192) else none)) else (bif Nat.beq pc 190 then some (2, 1, 0, 191) else none)) else (bif Nat.ble 189 pc then (bif Nat.beq pc 189 then some (0, 4, 0, 190) else none) else (bif Nat.beq pc 186 then some (16, 6, 18, 189) else none)))) else (bif Nat.ble 180 pc then (bif Nat.ble 183 pc then (bif Nat.ble 184 pc then (bif Nat.ble 185 pc then (bif Nat.beq pc 185 then some (3, 0, 0, 186) else none) else (bif Nat.beq pc 184 then some (30, 0, 0, 185) else none)) else (bif Nat.beq pc 183 then some (6, 0, 0, 184) else none)) else (bif Nat.ble 181 pc then (bif Nat.ble 182 pc then (bif Nat.beq pc 182 then some (2, 3, 0, 183) else none) else (bif Nat.beq pc 181 then some (8, 0, 0, 182) else none)) else (bif Nat.beq pc 180 then some (2, 1, 0, 181) else none))) else (bif Nat.ble 175 pc then (bif Nat.ble 176 pc then (bif Nat.ble 179 pc then (bif Nat.beq pc 179 then some (0, 4, 0, 180) else none) else (bif Nat.beq pc 176 then some (16, 6, 18, 179) else none)) else (bif Nat.beq pc 175 then some (3, 0, 0, 176) else none)) else (bif Nat.ble 174 pc then (bif Nat.beq pc 174 then some (6, 0, 0, 175) else none) else (bif Nat.beq pc 173 then some (2, 3, 0, 174) else none))))))) else (bif Nat.ble 113 pc then (bif Nat.ble 141 pc then (bif Nat.ble 157 pc then (bif Nat.ble 163 pc then (bif Nat.ble 170 pc then (bif Nat.ble 171 pc then (bif Nat.ble 172 pc then (bif Nat.beq pc 172 then some (8, 0, 0, 173) else none) else (bif Nat.beq pc 171 then some (2, 1, 0, 172) else none)) else (bif Nat.beq pc 170 then some (0, 4, 0, 171) else none)) else (bif Nat.ble 166 pc then (bif Nat.ble 167 pc then (bif Nat.beq pc 167 then some (16, 6, 18, 170) else none) else (bif Nat.beq pc 166 then some (3, 0, 0, 167) else none)) else (bif Nat.beq pc 163 then some (18, 0, 0, 309) else none))) else (bif Nat.ble 160 pc then (bif Nat.ble 161 pc then (bif Nat.ble 162 pc then (bif Nat.beq pc 162 then some (31, 0, 0, 163) else none) else (bif Nat.beq pc 161 then some (6, 0, 0, 162) else none)) else (bif Nat.beq pc 160 then some (0, 1, 0, 161) else none)) else (bif Nat.ble 158 pc then (bif Nat.ble 159 pc then (bif Nat.beq pc 159 then some (30, 0, 0, 160) else none) else (bif Nat.beq pc 158 then some (15, 0, 0, 159) else none)) else (bif Nat.beq pc 157 then some (2, 1, 0, 158) else none)))) else (bif Nat.ble 149 pc then (bif Nat.ble 152 pc then (bif Nat.ble 153 pc then (bif Nat.ble 154 pc then (bif Nat.beq pc 154 then some (16, 6, 17, 157) else none) else (bif Nat.beq pc 153 then some (3, 0, 0, 154) else none)) else (bif Nat.beq pc 152 then some (31, 0, 0, 153) else none)) else (bif Nat.ble 150 pc then (bif Nat.ble 151 pc then (bif Nat.beq pc 151 then some (6, 0, 0, 152) else none) else (bif Nat.beq pc 150 then some (30, 0, 0, 151) else none)) else (bif Nat.beq pc 149 then some (6, 0, 0, 150) else none))) else (bif Nat.ble 145 pc then (bif Nat.ble 146 pc then (bif Nat.ble 147 pc then (bif Nat.beq pc 147 then some (2, 4, 0, 149) else none) else (bif Nat.beq pc 146 then some (8, 0, 0, 147) else none)) else (bif Nat.beq pc 145 then some (2, 1, 0, 146) else none)) else (bif Nat.ble 144 pc then (bif Nat.beq pc 144 then some (0, 4, 0, 145) else none) else (bif Nat.beq pc 141 then some (16, 6, 18, 144) else none))))) else (bif Nat.ble 128 pc then (bif Nat.ble 135 pc then (bif Nat.ble 138 pc then (bif Nat.ble 139 pc then (bif Nat.ble 140 pc then (bif Nat.beq pc 140 then some (3, 0, 0, 141) else none) else (bif Nat.beq pc 139 then some (30, 0, 0, 140) else none)) else (bif Nat.beq pc 138 then some (6, 0, 0, 139) else none)) else (bif Nat.ble 136 pc then (bif Nat.ble 137 pc then (bif Nat.beq pc 137 then some (2, 3, 0, 138) else none) else (bif Nat.beq pc 136 then some (8, 0, 0, 137) else none)) else (bif Nat.beq pc 135 then some (2, 1, 0, 136) else none))) else (bif Nat.ble 130 pc then (bif Nat.ble 131 pc then (bif Nat.ble 134 pc then (bif Nat.beq pc 134 then some (0, 4, 0, 135) else none) else (bif Nat.beq pc 131 then some (16, 6, 18, 134) else none)) else (bif Nat.beq pc 130 then some (3, 0, 0, 131) else none)) else (bif Nat.ble 129 pc then (bif Nat.beq pc 129 then some (6, 0, 0, 130) else none) else (bif Nat.beq pc 128 then some (2, 3, 0, 129) else none)))) else (bif Nat.ble 118 pc then (bif Nat.ble 125 pc then (bif Nat.ble 126 pc then (bif Nat.ble 127 pc then (bif Nat.beq pc 127 then some (8, 0, 0, 128) else none) else (bif Nat.beq pc 126 then some (2, 1, 0, 127) else none)) else (bif Nat.beq pc 125 then some (0, 4, 0, 126) else none)) else (bif Nat.ble 121 pc then (bif Nat.ble 122 pc then (bif Nat.beq pc 122 then some (16, 6, 18, 125) else none) else (bif Nat.beq pc 121 then some (3, 0, 0, 122) else none)) else (bif Nat.beq pc 118 then some (18, 0, 0, 309) else none))) else (bif Nat.ble 115 pc then (bif Nat.ble 116 pc then (bif Nat.ble 117 pc then (bif Nat.beq pc 117 then some (31, 0, 0, 118) else none) else (bif Nat.beq pc 116 then some (6, 0, 0, 117) else none)) else (bif Nat.beq pc 115 then some (0, 1, 0, 116) else none)) else (bif Nat.ble 114 pc then (bif Nat.beq pc 114 then some (30, 0, 0, 115) else none) else (bif Nat.beq pc 113 then some (15, 0, 0, 114) else none)))))) else (bif Nat.ble 31 pc then (bif Nat.ble 97 pc then (bif Nat.ble 104 pc then (bif Nat.ble 108 pc then (bif Nat.ble 109 pc then (bif Nat.ble 112 pc then (bif Nat.beq pc 112 then some (2, 1, 0, 113) else none) else (bif Nat.beq pc 109 then some (16, 6, 17, 112) else none)) else (bif Nat.beq pc 108 then some (3, 0, 0, 109) else none)) else (bif Nat.ble 105 pc then (bif Nat.ble 107 pc then (bif Nat.beq pc 107 then some (31, 0, 0, 108) else none) else (bif Nat.beq pc 105 then some (2, 4, 0, 107) else none)) else (bif Nat.beq pc 104 then some (6, 0, 0, 105) else none))) else (bif Nat.ble 101 pc then (bif Nat.ble 102 pc then (bif Nat.ble 103 pc then (bif Nat.beq pc 103 then some (2, 3, 0, 104) else none) else (bif Nat.beq pc 102 then some (8, 0, 0, 103) else none)) else (bif Nat.beq pc 101 then some (2, 1, 0, 102) else none)) else (bif Nat.ble 100 pc then (bif Nat.beq pc 100 then some (0, 4, 0, 101) else none) else (bif Nat.beq pc 97 then some (16, 6, 18, 100) else none)))) else (bif Nat.ble 39 pc then (bif Nat.ble 44 pc then (bif Nat.ble 45 pc then (bif Nat.ble 96 pc then (bif Nat.beq pc 96 then some (3, 0, 0, 97) else none) else (bif Nat.beq pc 45 then some (62, 1, 295, 0) else none)) else (bif Nat.beq pc 44 then some (30, 0, 0, 45) else none)) else (bif Nat.ble 40 pc then (bif Nat.ble 43 pc then (bif Nat.beq pc 43 then some (2, 2, 0, 44) else none) else (bif Nat.beq pc 40 then some (16, 6, 5, 43) else none)) else (bif Nat.beq pc 39 then some (3, 0, 0, 40) else none))) else (bif Nat.ble 35 pc then (bif Nat.ble 36 pc then (bif Nat.ble 37 pc then (bif Nat.beq pc 37 then some (4, 4, 0, 39) else none) else (bif Nat.beq pc 36 then some (30, 0, 0, 37) else none)) else (bif Nat.beq pc 35 then some (2, 2, 0, 36) else none)) else (bif Nat.ble 32 pc then (bif Nat.beq pc 32 then some (16, 6, 7, 35) else none) else (bif Nat.beq pc 31 then some (3, 0, 0, 32) else none))))) else (bif Nat.ble 16 pc then (bif Nat.ble 23 pc then (bif Nat.ble 28 pc then (bif Nat.ble 29 pc then (bif Nat.ble 30 pc then (bif Nat.beq pc 30 then some (4, 3, 0, 31) else none) else (bif Nat.beq pc 29 then some (30, 0, 0, 30) else none)) else (bif Nat.beq pc 28 then some (2, 2, 0, 29) else none)) else (bif Nat.ble 24 pc then (bif Nat.ble 25 pc then (bif Nat.beq pc 25 then some (16, 6, 6, 28) else none) else (bif Nat.beq pc 24 then some (3, 0, 0, 25) else none)) else (bif Nat.beq pc 23 then some (4, 2, 0, 24) else none))) else (bif Nat.ble 20 pc then (bif Nat.ble 21 pc then (bif Nat.ble 22 pc then (bif Nat.beq pc 22 then some (6, 0, 0, 23) else none) else (bif Nat.beq pc 21 then some (30, 0, 0, 22) else none)) else (bif Nat.beq pc 20 then some (2, 1, 0, 21) else none)) else (bif Nat.ble 17 pc then (bif Nat.beq pc 17 then some (16, 6, 17, 20) else none) else (bif Nat.beq pc 16 then some (3, 0, 0, 17) else none)))) else (bif Nat.ble 7 pc then (bif Nat.ble 13 pc then (bif Nat.ble 14 pc then (bif Nat.ble 15 pc then (bif Nat.beq pc 15 then some (8, 0, 0, 16) else none) else (bif Nat.beq pc 14 then some (30, 0, 0, 15) else none)) else (bif Nat.beq pc 13 then some (2, 1, 0, 14) else none)) else (bif Nat.ble 9 pc then (bif Nat.ble 10 pc then (bif Nat.beq pc 10 then some (16, 6, 16, 13) else none) else (bif Nat.beq pc 9 then some (3, 0, 0, 10) else none)) else (bif Nat.beq pc 7 then some (0, 24, 0, 9) else none))) else (bif Nat.ble 4 pc then (bif Nat.ble 5 pc then (bif Nat.ble 6 pc then (bif Nat.beq pc 6 then some (4, 1, 0, 7) else none) else (bif Nat.beq pc 5 then some (7, 0, 0, 6) else none)) else (bif Nat.beq pc 4 then some (0, 1, 0, 5) else none)) else (bif Nat.ble 1 pc then (bif Nat.beq pc 1 then some (16, 6, 15, 4) else none) else (bif Nat.beq pc 0 then some (3, 0, 0, 1) else none)))))))
-- 49: ThrowFlowModel.run(III)I
def k_49 (pc : Nat) : Option PE := bif Nat.ble 97 pc then (bif Nat.ble 144 pc then (bif Nat.ble 170 pc then (bif Nat.ble 185 pc then (bif Nat.ble 192 pc then (bif Nat.ble 196 pc then (bif Nat.ble 199 pc then (bif Nat.beq pc 199 then some (80, 1, 0, 0) else none) else (bif Nat.beq pc 196 then some (16, 6, 22, 199) else none)) else (bif Nat.ble 195 pc then (bif Nat.beq pc 195 then some (3, 0, 0, 196) else none) else (bif Nat.beq pc 192 then some (18, 0, 0, 199) else none))) else (bif Nat.ble 188 pc then (bif Nat.ble 191 pc then (bif Nat.beq pc 191 then some (0, 0, 0, 192) else none) else (bif Nat.beq pc 188 then some (55, 195, 0, 191) else none)) else (bif Nat.beq pc 185 then some (16, 6, 0, 188) else none))) else (bif Nat.ble 177 pc then (bif Nat.ble 181 pc then (bif Nat.ble 184 pc then (bif Nat.beq pc 184 then some (3, 0, 0, 185) else none) else (bif Nat.beq pc 181 then some (17, 6, 0, 184) else none)) else (bif Nat.ble 180 pc then (bif Nat.beq pc 180 then some (0, 0, 0, 181) else none) else (bif Nat.beq pc 177 then some (18, 0, 0, 181) else none))) else (bif Nat.ble 173 pc then (bif Nat.ble 176 pc then (bif Nat.beq pc 176 then some (0, 4, 0, 177) else none) else (bif Nat.beq pc 173 then some (52, 180, 0, 176) else none)) else (bif Nat.beq pc 170 then some (16, 6, 21, 173) else none)))) else (bif Nat.ble 156 pc then (bif Nat.ble 162 pc then (bif Nat.ble 166 pc then (bif Nat.ble 169 pc then (bif Nat.beq pc 169 then some (3, 0, 0, 170) else none) else (bif Nat.beq pc 166 then some (18, 0, 0, 181) else none)) else (bif Nat.ble 165 pc then (bif Nat.beq pc 165 then some (0, 3, 0, 166) else none) else (bif Nat.beq pc 162 then some (50, 169, 0, 165) else none))) else (bif Nat.ble 159 pc then (bif Nat.ble 160 pc then (bif Nat.beq pc 160 then some (2, 4, 0, 162) else none) else (bif Nat.beq pc 159 then some (3, 0, 0, 160) else none)) else (bif Nat.beq pc 156 then some (18, 0, 0, 70) else none))) else (bif Nat.ble 149 pc then (bif Nat.ble 152 pc then (bif Nat.ble 153 pc then (bif Nat.beq pc 153 then some (70, 48, 1, 156) else none) else (bif Nat.beq pc 152 then some (3, 0, 0, 153) else none)) else (bif Nat.beq pc 149 then some (17, 6, 20, 152) else none)) else (bif Nat.ble 147 pc then (bif Nat.ble 148 pc then (bif Nat.beq pc 148 then some (6, 0, 0, 149) else none) else (bif Nat.beq pc 147 then some (0, 1, 0, 148) else none)) else (bif Nat.beq pc 144 then some (16, 6, 20, 147) else none))))) else (bif Nat.ble 120 pc then (bif Nat.ble 132 pc then (bif Nat.ble 137 pc then (bif Nat.ble 142 pc then (bif Nat.ble 143 pc then (bif Nat.beq pc 143 then some (14, 0, 0, 144) else none) else (bif Nat.beq pc 142 then some (3, 0, 0, 143) else none)) else (bif Nat.ble 139 pc then (bif Nat.beq pc 139 then some (18, 0, 0, 156) else none) else (bif Nat.beq pc 137 then some (4, 4, 0, 139) else none))) else (bif Nat.ble 133 pc then (bif Nat.ble 136 pc then (bif Nat.beq pc 136 then some (0, 1, 0, 137) else none) else (bif Nat.beq pc 133 then some (57, 142, 0, 136) else none)) else (bif Nat.beq pc 132 then some (2, 3, 0, 133) else none))) else (bif Nat.ble 125 pc then (bif Nat.ble 128 pc then (bif Nat.ble 129 pc then (bif Nat.beq pc 129 then some (16, 6, 20, 132) else none) else (bif Nat.beq pc 128 then some (3, 0, 0, 129) else none)) else (bif Nat.beq pc 125 then some (18, 0, 0, 156) else none)) else (bif Nat.ble 121 pc then (bif Nat.ble 122 pc then (bif Nat.beq pc 122 then some (70, 43, 2, 125) else none) else (bif Nat.beq pc 121 then some (30, 0, 0, 122) else none)) else (bif Nat.beq pc 120 then some (8, 0, 0, 121) else none)))) else (bif Nat.ble 108 pc then (bif Nat.ble 113 pc then (bif Nat.ble 117 pc then (bif Nat.ble 118 pc then (bif Nat.beq pc 118 then some (2, 5, 0, 120) else none) else (bif Nat.beq pc 117 then some (0, 4, 0, 118) else none)) else (bif Nat.ble 114 pc then (bif Nat.beq pc 114 then some (16, 6, 18, 117) else none) else (bif Nat.beq pc 113 then some (3, 0, 0, 114) else none))) else (bif Nat.ble 109 pc then (bif Nat.ble 112 pc then (bif Nat.beq pc 112 then some (3, 0, 0, 113) else none) else (bif Nat.beq pc 109 then some (58, 128, 0, 112) else none)) else (bif Nat.beq pc 108 then some (30, 0, 0, 109) else none))) else (bif Nat.ble 102 pc then (bif Nat.ble 105 pc then (bif Nat.ble 107 pc then (bif Nat.beq pc 107 then some (30, 0, 0, 108) else none) else (bif Nat.beq pc 105 then some (2, 5, 0, 107) else none)) else (bif Nat.beq pc 102 then some (16, 6, 16, 105) else none)) else (bif Nat.ble 98 pc then (bif Nat.ble 101 pc then (bif Nat.beq pc 101 then some (3, 0, 0, 102) else none) else (bif Nat.beq pc 98 then some (16, 6, 4, 101) else none)) else (bif Nat.beq pc 97 then some (3, 0, 0, 98) else none)))))) else (bif Nat.ble 48 pc then (bif Nat.ble 70 pc then (bif Nat.ble 86 pc then (bif Nat.ble 90 pc then (bif Nat.ble 94 pc then (bif Nat.ble 96 pc then (bif Nat.beq pc 96 then some (30, 0, 0, 97) else none) else (bif Nat.beq pc 94 then some (2, 5, 0, 96) else none)) else (bif Nat.ble 91 pc then (bif Nat.beq pc 91 then some (16, 6, 17, 94) else none) else (bif Nat.beq pc 90 then some (3, 0, 0, 91) else none))) else (bif Nat.ble 87 pc then (bif Nat.ble 88 pc then (bif Nat.beq pc 88 then some (4, 5, 0, 90) else none) else (bif Nat.beq pc 87 then some (7, 0, 0, 88) else none)) else (bif Nat.beq pc 86 then some (0, 1, 0, 87) else none))) else (bif Nat.ble 77 pc then (bif Nat.ble 82 pc then (bif Nat.ble 83 pc then (bif Nat.beq pc 83 then some (16, 6, 15, 86) else none) else (bif Nat.beq pc 82 then some (3, 0, 0, 83) else none)) else (bif Nat.ble 79 pc then (bif Nat.beq pc 79 then some (51, 159, 0, 82) else none) else (bif Nat.beq pc 77 then some (2, 4, 0, 79) else none))) else (bif Nat.ble 71 pc then (bif Nat.ble 74 pc then (bif Nat.beq pc 74 then some (55, 159, 0, 77) else none) else (bif Nat.beq pc 71 then some (16, 6, 15, 74) else none)) else (bif Nat.beq pc 70 then some (3, 0, 0, 71) else none)))) else (bif Nat.ble 58 pc then (bif Nat.ble 63 pc then (bif Nat.ble 67 pc then (bif Nat.ble 68 pc then (bif Nat.beq pc 68 then some (4, 4, 0, 70) else none) else (bif Nat.beq pc 67 then some (0, 0, 0, 68) else none)) else (bif Nat.ble 64 pc then (bif Nat.beq pc 64 then some (70, 42, 3, 67) else none) else (bif Nat.beq pc 63 then some (2, 2, 0, 64) else none))) else (bif Nat.ble 61 pc then (bif Nat.ble 62 pc then (bif Nat.beq pc 62 then some (2, 1, 0, 63) else none) else (bif Nat.beq pc 61 then some (3, 0, 0, 62) else none)) else (bif Nat.beq pc 58 then some (17, 6, 22, 61) else none))) else (bif Nat.ble 53 pc then (bif Nat.ble 56 pc then (bif Nat.ble 57 pc then (bif Nat.beq pc 57 then some (0, 0, 0, 58) else none) else (bif Nat.beq pc 56 then some (3, 0, 0, 57) else none)) else (bif Nat.beq pc 53 then some (17, 6, 21, 56) else none)) else (bif Nat.ble 51 pc then (bif Nat.ble 52 pc then (bif Nat.beq pc 52 then some (1, 0, 0, 53) else none) else (bif Nat.beq pc 51 then some (3, 0, 0, 52) else none)) else (bif Nat.beq pc 48 then some (17, 6, 20, 51) else none))))) else (bif Nat.ble 25 pc then (bif Nat.ble 39 pc then (bif Nat.ble 42 pc then (bif Nat.ble 46 pc then (bif Nat.ble 47 pc then (bif Nat.beq pc 47 then some (0, 0, 0, 48) else none) else (bif Nat.beq pc 46 then some (3, 0, 0, 47) else none)) else (bif Nat.ble 43 pc then (bif Nat.beq pc 43 then some (17, 6, 15, 46) else none) else (bif Nat.beq pc 42 then some (0, 0, 0, 43) else none))) else (bif Nat.ble 40 pc then (bif Nat.ble 41 pc then (bif Nat.beq pc 41 then some (3, 0, 0, 42) else none) else (bif Nat.beq pc 40 then some (80, 1, 0, 0) else none)) else (bif Nat.beq pc 39 then some (0, 0, 0, 40) else none))) else (bif Nat.ble 32 pc then (bif Nat.ble 33 pc then (bif Nat.ble 36 pc then (bif Nat.beq pc 36 then some (55, 41, 0, 39) else none) else (bif Nat.beq pc 33 then some (16, 6, 0, 36) else none)) else (bif Nat.beq pc 32 then some (3, 0, 0, 33) else none)) else (bif Nat.ble 28 pc then (bif Nat.ble 29 pc then (bif Nat.beq pc 29 then some (17, 6, 0, 32) else none) else (bif Nat.beq pc 28 then some (0, 0, 0, 29) else none)) else (bif Nat.beq pc 25 then some (18, 0, 0, 29) else none)))) else (bif Nat.ble 10 pc then (bif Nat.ble 17 pc then (bif Nat.ble 21 pc then (bif Nat.ble 24 pc then (bif Nat.beq pc 24 then some (0, 2, 0, 25) else none) else (bif Nat.beq pc 21 then some (61, 28, 0, 24) else none)) else (bif Nat.ble 18 pc then (bif Nat.beq pc 18 then some (0, 3000, 0, 21) else none) else (bif Nat.beq pc 17 then some (2, 3, 0, 18) else none))) else (bif Nat.ble 13 pc then (bif Nat.ble 14 pc then (bif Nat.beq pc 14 then some (52, 24, 0, 17) else none) else (bif Nat.beq pc 13 then some (2, 3, 0, 14) else none)) else (bif Nat.beq pc 10 then some (18, 0, 0, 29) else none))) else (bif Nat.ble 3 pc then (bif Nat.ble 6 pc then (bif Nat.ble 9 pc then (bif Nat.beq pc 9 then some (0, 1, 0, 10) else none) else (bif Nat.beq pc 6 then some (51, 13, 0, 9) else none)) else (bif Nat.beq pc 3 then some (70, 19, 2, 6) else none)) else (bif Nat.ble 1 pc then (bif Nat.ble 2 pc then (bif Nat.beq pc 2 then some (2, 1, 0, 3) else none) else (bif Nat.beq pc 1 then some (3, 0, 0, 2) else none)) else (bif Nat.beq pc 0 then some (3, 0, 0, 1) else none))))))
-- 50: ThrowFlowModel.spent()I
def k_50 (pc : Nat) : Option PE := bif Nat.ble 5 pc then (bif Nat.ble 6 pc then (bif Nat.ble 9 pc then (bif Nat.beq pc 9 then some (80, 1, 0, 0) else none) else (bif Nat.beq pc 6 then some (16, 6, 20, 9) else none)) else (bif Nat.beq pc 5 then some (3, 0, 0, 6) else none)) else (bif Nat.ble 1 pc then (bif Nat.ble 2 pc then (bif Nat.beq pc 2 then some (17, 6, 0, 5) else none) else (bif Nat.beq pc 1 then some (0, 0, 0, 2) else none)) else (bif Nat.beq pc 0 then some (3, 0, 0, 1) else none))
-- 51: ThrowFlowModel.escaped()I
def k_51 (pc : Nat) : Option PE := bif Nat.ble 5 pc then (bif Nat.ble 6 pc then (bif Nat.ble 9 pc then (bif Nat.beq pc 9 then some (80, 1, 0, 0) else none) else (bif Nat.beq pc 6 then some (16, 6, 21, 9) else none)) else (bif Nat.beq pc 5 then some (3, 0, 0, 6) else none)) else (bif Nat.ble 1 pc then (bif Nat.ble 2 pc then (bif Nat.beq pc 2 then some (17, 6, 0, 5) else none) else (bif Nat.beq pc 1 then some (0, 0, 0, 2) else none)) else (bif Nat.beq pc 0 then some (3, 0, 0, 1) else none))
-- 52: ThrowFlow$Body.isFull()Z
def k_52 (pc : Nat) : Option PE := bif Nat.ble 9 pc then (bif Nat.ble 13 pc then (bif Nat.ble 14 pc then (bif Nat.beq pc 14 then some (80, 2, 0, 0) else none) else (bif Nat.beq pc 13 then some (0, 0, 0, 14) else none)) else (bif Nat.ble 10 pc then (bif Nat.beq pc 10 then some (18, 0, 0, 14) else none) else (bif Nat.beq pc 9 then some (0, 1, 0, 10) else none))) else (bif Nat.ble 4 pc then (bif Nat.ble 6 pc then (bif Nat.beq pc 6 then some (58, 13, 0, 9) else none) else (bif Nat.beq pc 4 then some (0, 24, 0, 6) else none)) else (bif Nat.ble 1 pc then (bif Nat.beq pc 1 then some (16, 5, 3, 4) else none) else (bif Nat.beq pc 0 then some (3, 0, 0, 1) else none)))
-- 53: ThrowFlow$Body.isFullOfHandlers()Z
def k_53 (pc : Nat) : Option PE := bif Nat.ble 8 pc then (bif Nat.ble 12 pc then (bif Nat.ble 13 pc then (bif Nat.beq pc 13 then some (80, 2, 0, 0) else none) else (bif Nat.beq pc 12 then some (0, 0, 0, 13) else none)) else (bif Nat.ble 9 pc then (bif Nat.beq pc 9 then some (18, 0, 0, 13) else none) else (bif Nat.beq pc 8 then some (0, 1, 0, 9) else none))) else (bif Nat.ble 4 pc then (bif Nat.ble 5 pc then (bif Nat.beq pc 5 then some (58, 12, 0, 8) else none) else (bif Nat.beq pc 4 then some (0, 4, 0, 5) else none)) else (bif Nat.ble 1 pc then (bif Nat.beq pc 1 then some (16, 5, 8, 4) else none) else (bif Nat.beq pc 0 then some (3, 0, 0, 1) else none)))
-- 54: ThrowFlow$Body.appendInstruction(III)I
def k_54 (pc : Nat) : Option PE := bif Nat.ble 13 pc then (bif Nat.ble 20 pc then (bif Nat.ble 22 pc then (bif Nat.ble 25 pc then (bif Nat.ble 27 pc then (bif Nat.beq pc 27 then some (80, 1, 0, 0) else none) else (bif Nat.beq pc 25 then some (2, 4, 0, 27) else none)) else (bif Nat.beq pc 22 then some (70, 55, 5, 25) else none)) else (bif Nat.ble 21 pc then (bif Nat.beq pc 21 then some (2, 3, 0, 22) else none) else (bif Nat.beq pc 20 then some (2, 2, 0, 21) else none))) else (bif Nat.ble 17 pc then (bif Nat.ble 19 pc then (bif Nat.beq pc 19 then some (2, 1, 0, 20) else none) else (bif Nat.beq pc 17 then some (2, 4, 0, 19) else none)) else (bif Nat.ble 16 pc then (bif Nat.beq pc 16 then some (3, 0, 0, 17) else none) else (bif Nat.beq pc 13 then some (17, 5, 3, 16) else none)))) else (bif Nat.ble 7 pc then (bif Nat.ble 11 pc then (bif Nat.ble 12 pc then (bif Nat.beq pc 12 then some (6, 0, 0, 13) else none) else (bif Nat.beq pc 11 then some (0, 1, 0, 12) else none)) else (bif Nat.ble 8 pc then (bif Nat.beq pc 8 then some (16, 5, 3, 11) else none) else (bif Nat.beq pc 7 then some (14, 0, 0, 8) else none))) else (bif Nat.ble 4 pc then (bif Nat.ble 6 pc then (bif Nat.beq pc 6 then some (3, 0, 0, 7) else none) else (bif Nat.beq pc 4 then some (4, 4, 0, 6) else none)) else (bif Nat.ble 1 pc then (bif Nat.beq pc 1 then some (16, 5, 3, 4) else none) else (bif Nat.beq pc 0 then some (3, 0, 0, 1) else none))))
-- 55: ThrowFlow$Body.put(IIII)V
def k_55 (pc : Nat) : Option PE := bif Nat.ble 12 pc then (bif Nat.ble 18 pc then (bif Nat.ble 21 pc then (bif Nat.ble 22 pc then (bif Nat.beq pc 22 then some (81, 0, 0, 0) else none) else (bif Nat.beq pc 21 then some (31, 0, 0, 22) else none)) else (bif Nat.ble 19 pc then (bif Nat.beq pc 19 then some (2, 4, 0, 21) else none) else (bif Nat.beq pc 18 then some (2, 1, 0, 19) else none))) else (bif Nat.ble 14 pc then (bif Nat.ble 15 pc then (bif Nat.beq pc 15 then some (16, 5, 2, 18) else none) else (bif Nat.beq pc 14 then some (3, 0, 0, 15) else none)) else (bif Nat.ble 13 pc then (bif Nat.beq pc 13 then some (31, 0, 0, 14) else none) else (bif Nat.beq pc 12 then some (2, 3, 0, 13) else none)))) else (bif Nat.ble 6 pc then (bif Nat.ble 8 pc then (bif Nat.ble 11 pc then (bif Nat.beq pc 11 then some (2, 1, 0, 12) else none) else (bif Nat.beq pc 8 then some (16, 5, 1, 11) else none)) else (bif Nat.ble 7 pc then (bif Nat.beq pc 7 then some (3, 0, 0, 8) else none) else (bif Nat.beq pc 6 then some (31, 0, 0, 7) else none))) else (bif Nat.ble 4 pc then (bif Nat.ble 5 pc then (bif Nat.beq pc 5 then some (2, 2, 0, 6) else none) else (bif Nat.beq pc 4 then some (2, 1, 0, 5) else none)) else (bif Nat.ble 1 pc then (bif Nat.beq pc 1 then some (16, 5, 0, 4) else none) else (bif Nat.beq pc 0 then some (3, 0, 0, 1) else none))))
-- 56: ThrowFlow$Body.appendHandler(IIII)I
def k_56 (pc : Nat) : Option PE := bif Nat.ble 25 pc then (bif Nat.ble 39 pc then (bif Nat.ble 46 pc then (bif Nat.ble 49 pc then (bif Nat.ble 51 pc then (bif Nat.beq pc 51 then some (80, 1, 0, 0) else none) else (bif Nat.beq pc 49 then some (2, 5, 0, 51) else none)) else (bif Nat.ble 48 pc then (bif Nat.beq pc 48 then some (31, 0, 0, 49) else none) else (bif Nat.beq pc 46 then some (2, 4, 0, 48) else none))) else (bif Nat.ble 41 pc then (bif Nat.ble 44 pc then (bif Nat.beq pc 44 then some (2, 5, 0, 46) else none) else (bif Nat.beq pc 41 then some (16, 5, 7, 44) else none)) else (bif Nat.ble 40 pc then (bif Nat.beq pc 40 then some (3, 0, 0, 41) else none) else (bif Nat.beq pc 39 then some (31, 0, 0, 40) else none)))) else (bif Nat.ble 32 pc then (bif Nat.ble 36 pc then (bif Nat.ble 38 pc then (bif Nat.beq pc 38 then some (2, 3, 0, 39) else none) else (bif Nat.beq pc 36 then some (2, 5, 0, 38) else none)) else (bif Nat.ble 33 pc then (bif Nat.beq pc 33 then some (16, 5, 6, 36) else none) else (bif Nat.beq pc 32 then some (3, 0, 0, 33) else none))) else (bif Nat.ble 30 pc then (bif Nat.ble 31 pc then (bif Nat.beq pc 31 then some (31, 0, 0, 32) else none) else (bif Nat.beq pc 30 then some (2, 2, 0, 31) else none)) else (bif Nat.ble 28 pc then (bif Nat.beq pc 28 then some (2, 5, 0, 30) else none) else (bif Nat.beq pc 25 then some (16, 5, 5, 28) else none))))) else (bif Nat.ble 12 pc then (bif Nat.ble 20 pc then (bif Nat.ble 23 pc then (bif Nat.ble 24 pc then (bif Nat.beq pc 24 then some (3, 0, 0, 25) else none) else (bif Nat.beq pc 23 then some (31, 0, 0, 24) else none)) else (bif Nat.ble 22 pc then (bif Nat.beq pc 22 then some (2, 1, 0, 23) else none) else (bif Nat.beq pc 20 then some (2, 5, 0, 22) else none))) else (bif Nat.ble 16 pc then (bif Nat.ble 17 pc then (bif Nat.beq pc 17 then some (16, 5, 4, 20) else none) else (bif Nat.beq pc 16 then some (3, 0, 0, 17) else none)) else (bif Nat.ble 13 pc then (bif Nat.beq pc 13 then some (17, 5, 8, 16) else none) else (bif Nat.beq pc 12 then some (6, 0, 0, 13) else none)))) else (bif Nat.ble 6 pc then (bif Nat.ble 8 pc then (bif Nat.ble 11 pc then (bif Nat.beq pc 11 then some (0, 1, 0, 12) else none) else (bif Nat.beq pc 8 then some (16, 5, 8, 11) else none)) else (bif Nat.ble 7 pc then (bif Nat.beq pc 7 then some (14, 0, 0, 8) else none) else (bif Nat.beq pc 6 then some (3, 0, 0, 7) else none))) else (bif Nat.ble 1 pc then (bif Nat.ble 4 pc then (bif Nat.beq pc 4 then some (4, 5, 0, 6) else none) else (bif Nat.beq pc 1 then some (16, 5, 8, 4) else none)) else (bif Nat.beq pc 0 then some (3, 0, 0, 1) else none))))
-- 57: ThrowFlow$Body.covers(II)Z
def k_57 (pc : Nat) : Option PE := bif Nat.ble 12 pc then (bif Nat.ble 20 pc then (bif Nat.ble 24 pc then (bif Nat.ble 25 pc then (bif Nat.beq pc 25 then some (80, 2, 0, 0) else none) else (bif Nat.beq pc 24 then some (0, 0, 0, 25) else none)) else (bif Nat.ble 21 pc then (bif Nat.beq pc 21 then some (18, 0, 0, 25) else none) else (bif Nat.beq pc 20 then some (0, 1, 0, 21) else none))) else (bif Nat.ble 16 pc then (bif Nat.ble 17 pc then (bif Nat.beq pc 17 then some (60, 24, 0, 20) else none) else (bif Nat.beq pc 16 then some (30, 0, 0, 17) else none)) else (bif Nat.ble 15 pc then (bif Nat.beq pc 15 then some (2, 1, 0, 16) else none) else (bif Nat.beq pc 12 then some (16, 5, 5, 15) else none)))) else (bif Nat.ble 6 pc then (bif Nat.ble 10 pc then (bif Nat.ble 11 pc then (bif Nat.beq pc 11 then some (3, 0, 0, 12) else none) else (bif Nat.beq pc 10 then some (2, 2, 0, 11) else none)) else (bif Nat.ble 7 pc then (bif Nat.beq pc 7 then some (60, 24, 0, 10) else none) else (bif Nat.beq pc 6 then some (2, 2, 0, 7) else none))) else (bif Nat.ble 4 pc then (bif Nat.ble 5 pc then (bif Nat.beq pc 5 then some (30, 0, 0, 6) else none) else (bif Nat.beq pc 4 then some (2, 1, 0, 5) else none)) else (bif Nat.ble 1 pc then (bif Nat.beq pc 1 then some (16, 5, 4, 4) else none) else (bif Nat.beq pc 0 then some (3, 0, 0, 1) else none))))
-- 58: ThrowFlow$Body.catcher(IILThrowFlow$Kinds;)I
def k_58 (pc : Nat) : Option PE := bif Nat.ble 23 pc then (bif Nat.ble 34 pc then (bif Nat.ble 40 pc then (bif Nat.ble 46 pc then (bif Nat.ble 47 pc then (bif Nat.beq pc 47 then some (80, 1, 0, 0) else none) else (bif Nat.beq pc 46 then some (1, 0, 0, 47) else none)) else (bif Nat.ble 43 pc then (bif Nat.beq pc 43 then some (18, 0, 0, 3) else none) else (bif Nat.beq pc 40 then some (19, 4, 1, 43) else none))) else (bif Nat.ble 37 pc then (bif Nat.ble 39 pc then (bif Nat.beq pc 39 then some (80, 1, 0, 0) else none) else (bif Nat.beq pc 37 then some (2, 4, 0, 39) else none)) else (bif Nat.beq pc 34 then some (50, 40, 0, 37) else none))) else (bif Nat.ble 28 pc then (bif Nat.ble 30 pc then (bif Nat.ble 31 pc then (bif Nat.beq pc 31 then some (70, 78, 3, 34) else none) else (bif Nat.beq pc 30 then some (30, 0, 0, 31) else none)) else (bif Nat.beq pc 28 then some (2, 4, 0, 30) else none)) else (bif Nat.ble 24 pc then (bif Nat.ble 25 pc then (bif Nat.beq pc 25 then some (16, 5, 6, 28) else none) else (bif Nat.beq pc 24 then some (3, 0, 0, 25) else none)) else (bif Nat.beq pc 23 then some (2, 2, 0, 24) else none)))) else (bif Nat.ble 12 pc then (bif Nat.ble 16 pc then (bif Nat.ble 19 pc then (bif Nat.ble 22 pc then (bif Nat.beq pc 22 then some (3, 3, 0, 23) else none) else (bif Nat.beq pc 19 then some (50, 40, 0, 22) else none)) else (bif Nat.beq pc 16 then some (70, 57, 3, 19) else none)) else (bif Nat.ble 13 pc then (bif Nat.ble 15 pc then (bif Nat.beq pc 15 then some (2, 1, 0, 16) else none) else (bif Nat.beq pc 13 then some (2, 4, 0, 15) else none)) else (bif Nat.beq pc 12 then some (3, 0, 0, 13) else none))) else (bif Nat.ble 5 pc then (bif Nat.ble 6 pc then (bif Nat.ble 9 pc then (bif Nat.beq pc 9 then some (59, 46, 0, 12) else none) else (bif Nat.beq pc 6 then some (16, 5, 8, 9) else none)) else (bif Nat.beq pc 5 then some (3, 0, 0, 6) else none)) else (bif Nat.ble 1 pc then (bif Nat.ble 3 pc then (bif Nat.beq pc 3 then some (2, 4, 0, 5) else none) else (bif Nat.beq pc 1 then some (4, 4, 0, 3) else none)) else (bif Nat.beq pc 0 then some (0, 0, 0, 1) else none))))
-- 59: ThrowFlow$Flow.doorOf(II)I
def k_59 (pc : Nat) : Option PE := bif Nat.ble 3 pc then (bif Nat.ble 4 pc then (bif Nat.ble 5 pc then (bif Nat.beq pc 5 then some (80, 1, 0, 0) else none) else (bif Nat.beq pc 4 then some (6, 0, 0, 5) else none)) else (bif Nat.beq pc 3 then some (2, 1, 0, 4) else none)) else (bif Nat.ble 1 pc then (bif Nat.ble 2 pc then (bif Nat.beq pc 2 then some (8, 0, 0, 3) else none) else (bif Nat.beq pc 1 then some (0, 5, 0, 2) else none)) else (bif Nat.beq pc 0 then some (2, 0, 0, 1) else none))
-- 60: ThrowFlow$Flow.doorOut(I)I
def k_60 (pc : Nat) : Option PE := bif Nat.ble 3 pc then (bif Nat.ble 4 pc then (bif Nat.ble 5 pc then (bif Nat.beq pc 5 then some (80, 1, 0, 0) else none) else (bif Nat.beq pc 4 then some (6, 0, 0, 5) else none)) else (bif Nat.beq pc 3 then some (0, 4, 0, 4) else none)) else (bif Nat.ble 1 pc then (bif Nat.ble 2 pc then (bif Nat.beq pc 2 then some (8, 0, 0, 3) else none) else (bif Nat.beq pc 1 then some (0, 5, 0, 2) else none)) else (bif Nat.beq pc 0 then some (2, 0, 0, 1) else none))
-- 61: ThrowFlow$Flow.placeOf(II)I
def k_61 (pc : Nat) : Option PE := bif Nat.ble 4 pc then (bif Nat.ble 5 pc then (bif Nat.ble 6 pc then (bif Nat.beq pc 6 then some (80, 1, 0, 0) else none) else (bif Nat.beq pc 5 then some (6, 0, 0, 6) else none)) else (bif Nat.beq pc 4 then some (2, 1, 0, 5) else none)) else (bif Nat.ble 1 pc then (bif Nat.ble 3 pc then (bif Nat.beq pc 3 then some (8, 0, 0, 4) else none) else (bif Nat.beq pc 1 then some (0, 24, 0, 3) else none)) else (bif Nat.beq pc 0 then some (2, 0, 0, 1) else none))
-- 62: ThrowFlow$Flow.through(I)I
def k_62 (pc : Nat) : Option PE := bif Nat.ble 4 pc then (bif Nat.ble 5 pc then (bif Nat.ble 6 pc then (bif Nat.beq pc 6 then some (80, 1, 0, 0) else none) else (bif Nat.beq pc 5 then some (30, 0, 0, 6) else none)) else (bif Nat.beq pc 4 then some (2, 1, 0, 5) else none)) else (bif Nat.ble 1 pc then (bif Nat.beq pc 1 then some (16, 3, 4, 4) else none) else (bif Nat.beq pc 0 then some (3, 0, 0, 1) else none))
-- 63: ThrowFlow$Flow.raisedAt(II)I
def k_63 (pc : Nat) : Option PE := bif Nat.ble 5 pc then (bif Nat.ble 9 pc then (bif Nat.ble 10 pc then (bif Nat.beq pc 10 then some (80, 1, 0, 0) else none) else (bif Nat.beq pc 9 then some (30, 0, 0, 10) else none)) else (bif Nat.ble 6 pc then (bif Nat.beq pc 6 then some (70, 61, 2, 9) else none) else (bif Nat.beq pc 5 then some (2, 2, 0, 6) else none))) else (bif Nat.ble 1 pc then (bif Nat.ble 4 pc then (bif Nat.beq pc 4 then some (2, 1, 0, 5) else none) else (bif Nat.beq pc 1 then some (16, 3, 2, 4) else none)) else (bif Nat.beq pc 0 then some (3, 0, 0, 1) else none))
-- 64: ThrowFlow$Flow.wayLength(II)I
def k_64 (pc : Nat) : Option PE := bif Nat.ble 29 pc then (bif Nat.ble 42 pc then (bif Nat.ble 48 pc then (bif Nat.ble 50 pc then (bif Nat.ble 53 pc then (bif Nat.beq pc 53 then some (80, 1, 0, 0) else none) else (bif Nat.beq pc 50 then some (70, 67, 4, 53) else none)) else (bif Nat.ble 49 pc then (bif Nat.beq pc 49 then some (2, 2, 0, 50) else none) else (bif Nat.beq pc 48 then some (2, 3, 0, 49) else none))) else (bif Nat.ble 46 pc then (bif Nat.ble 47 pc then (bif Nat.beq pc 47 then some (2, 1, 0, 48) else none) else (bif Nat.beq pc 46 then some (3, 0, 0, 47) else none)) else (bif Nat.ble 43 pc then (bif Nat.beq pc 43 then some (18, 0, 0, 53) else none) else (bif Nat.beq pc 42 then some (0, 0, 0, 43) else none)))) else (bif Nat.ble 36 pc then (bif Nat.ble 38 pc then (bif Nat.ble 39 pc then (bif Nat.beq pc 39 then some (57, 46, 0, 42) else none) else (bif Nat.beq pc 38 then some (1, 0, 0, 39) else none)) else (bif Nat.ble 37 pc then (bif Nat.beq pc 37 then some (2, 3, 0, 38) else none) else (bif Nat.beq pc 36 then some (4, 3, 0, 37) else none))) else (bif Nat.ble 32 pc then (bif Nat.ble 33 pc then (bif Nat.beq pc 33 then some (70, 66, 3, 36) else none) else (bif Nat.beq pc 32 then some (2, 2, 0, 33) else none)) else (bif Nat.beq pc 29 then some (70, 60, 1, 32) else none)))) else (bif Nat.ble 15 pc then (bif Nat.ble 25 pc then (bif Nat.ble 27 pc then (bif Nat.ble 28 pc then (bif Nat.beq pc 28 then some (2, 1, 0, 29) else none) else (bif Nat.beq pc 27 then some (3, 0, 0, 28) else none)) else (bif Nat.ble 26 pc then (bif Nat.beq pc 26 then some (80, 1, 0, 0) else none) else (bif Nat.beq pc 25 then some (0, 0, 0, 26) else none))) else (bif Nat.ble 19 pc then (bif Nat.ble 22 pc then (bif Nat.beq pc 22 then some (51, 27, 0, 25) else none) else (bif Nat.beq pc 19 then some (70, 76, 2, 22) else none)) else (bif Nat.ble 18 pc then (bif Nat.beq pc 18 then some (2, 2, 0, 19) else none) else (bif Nat.beq pc 15 then some (16, 1, 0, 18) else none)))) else (bif Nat.ble 5 pc then (bif Nat.ble 11 pc then (bif Nat.ble 12 pc then (bif Nat.beq pc 12 then some (16, 3, 0, 15) else none) else (bif Nat.beq pc 11 then some (3, 0, 0, 12) else none)) else (bif Nat.ble 8 pc then (bif Nat.beq pc 8 then some (50, 25, 0, 11) else none) else (bif Nat.beq pc 5 then some (70, 98, 2, 8) else none))) else (bif Nat.ble 1 pc then (bif Nat.ble 4 pc then (bif Nat.beq pc 4 then some (2, 1, 0, 5) else none) else (bif Nat.beq pc 1 then some (16, 3, 0, 4) else none)) else (bif Nat.beq pc 0 then some (3, 0, 0, 1) else none))))
-- 65: ThrowFlow$Flow.wayPlace(III)I
def k_65 (pc : Nat) : Option PE := bif Nat.ble 45 pc then (bif Nat.ble 72 pc then (bif Nat.ble 84 pc then (bif Nat.ble 90 pc then (bif Nat.ble 93 pc then (bif Nat.ble 96 pc then (bif Nat.beq pc 96 then some (80, 1, 0, 0) else none) else (bif Nat.beq pc 93 then some (70, 61, 2, 96) else none)) else (bif Nat.ble 91 pc then (bif Nat.beq pc 91 then some (2, 5, 0, 93) else none) else (bif Nat.beq pc 90 then some (33, 0, 0, 91) else none))) else (bif Nat.ble 87 pc then (bif Nat.ble 89 pc then (bif Nat.beq pc 89 then some (0, 5, 0, 90) else none) else (bif Nat.beq pc 87 then some (2, 4, 0, 89) else none)) else (bif Nat.beq pc 84 then some (18, 0, 0, 96) else none))) else (bif Nat.ble 79 pc then (bif Nat.ble 80 pc then (bif Nat.ble 83 pc then (bif Nat.beq pc 83 then some (1, 0, 0, 84) else none) else (bif Nat.beq pc 80 then some (57, 87, 0, 83) else none)) else (bif Nat.beq pc 79 then some (1, 0, 0, 80) else none)) else (bif Nat.ble 75 pc then (bif Nat.ble 77 pc then (bif Nat.beq pc 77 then some (2, 5, 0, 79) else none) else (bif Nat.beq pc 75 then some (4, 5, 0, 77) else none)) else (bif Nat.beq pc 72 then some (70, 66, 3, 75) else none)))) else (bif Nat.ble 60 pc then (bif Nat.ble 65 pc then (bif Nat.ble 69 pc then (bif Nat.ble 71 pc then (bif Nat.beq pc 71 then some (2, 2, 0, 72) else none) else (bif Nat.beq pc 69 then some (2, 4, 0, 71) else none)) else (bif Nat.ble 68 pc then (bif Nat.beq pc 68 then some (3, 0, 0, 69) else none) else (bif Nat.beq pc 65 then some (18, 0, 0, 75) else none))) else (bif Nat.ble 61 pc then (bif Nat.ble 64 pc then (bif Nat.beq pc 64 then some (1, 0, 0, 65) else none) else (bif Nat.beq pc 61 then some (57, 68, 0, 64) else none)) else (bif Nat.beq pc 60 then some (1, 0, 0, 61) else none))) else (bif Nat.ble 52 pc then (bif Nat.ble 55 pc then (bif Nat.ble 58 pc then (bif Nat.beq pc 58 then some (2, 4, 0, 60) else none) else (bif Nat.beq pc 55 then some (18, 0, 0, 9) else none)) else (bif Nat.beq pc 52 then some (19, 5, 1, 55) else none)) else (bif Nat.ble 47 pc then (bif Nat.ble 50 pc then (bif Nat.beq pc 50 then some (4, 4, 0, 52) else none) else (bif Nat.beq pc 47 then some (70, 69, 3, 50) else none)) else (bif Nat.beq pc 45 then some (2, 6, 0, 47) else none))))) else (bif Nat.ble 22 pc then (bif Nat.ble 33 pc then (bif Nat.ble 40 pc then (bif Nat.ble 43 pc then (bif Nat.ble 44 pc then (bif Nat.beq pc 44 then some (33, 0, 0, 45) else none) else (bif Nat.beq pc 43 then some (0, 5, 0, 44) else none)) else (bif Nat.ble 41 pc then (bif Nat.beq pc 41 then some (2, 4, 0, 43) else none) else (bif Nat.beq pc 40 then some (3, 0, 0, 41) else none))) else (bif Nat.ble 36 pc then (bif Nat.ble 37 pc then (bif Nat.beq pc 37 then some (18, 0, 0, 50) else none) else (bif Nat.beq pc 36 then some (1, 0, 0, 37) else none)) else (bif Nat.beq pc 33 then some (57, 40, 0, 36) else none))) else (bif Nat.ble 28 pc then (bif Nat.ble 30 pc then (bif Nat.ble 32 pc then (bif Nat.beq pc 32 then some (1, 0, 0, 33) else none) else (bif Nat.beq pc 30 then some (2, 6, 0, 32) else none)) else (bif Nat.beq pc 28 then some (4, 6, 0, 30) else none)) else (bif Nat.ble 24 pc then (bif Nat.ble 25 pc then (bif Nat.beq pc 25 then some (70, 66, 3, 28) else none) else (bif Nat.beq pc 24 then some (2, 2, 0, 25) else none)) else (bif Nat.beq pc 22 then some (2, 4, 0, 24) else none)))) else (bif Nat.ble 11 pc then (bif Nat.ble 17 pc then (bif Nat.ble 18 pc then (bif Nat.ble 21 pc then (bif Nat.beq pc 21 then some (3, 0, 0, 22) else none) else (bif Nat.beq pc 18 then some (56, 58, 0, 21) else none)) else (bif Nat.beq pc 17 then some (1, 0, 0, 18) else none)) else (bif Nat.ble 12 pc then (bif Nat.ble 15 pc then (bif Nat.beq pc 15 then some (2, 4, 0, 17) else none) else (bif Nat.beq pc 12 then some (59, 58, 0, 15) else none)) else (bif Nat.beq pc 11 then some (2, 3, 0, 12) else none))) else (bif Nat.ble 6 pc then (bif Nat.ble 7 pc then (bif Nat.ble 9 pc then (bif Nat.beq pc 9 then some (2, 5, 0, 11) else none) else (bif Nat.beq pc 7 then some (4, 5, 0, 9) else none)) else (bif Nat.beq pc 6 then some (0, 0, 0, 7) else none)) else (bif Nat.ble 1 pc then (bif Nat.ble 4 pc then (bif Nat.beq pc 4 then some (4, 4, 0, 6) else none) else (bif Nat.beq pc 1 then some (70, 60, 1, 4) else none)) else (bif Nat.beq pc 0 then some (2, 1, 0, 1) else none)))))
-- 66: ThrowFlow$Flow.nearest(II)I
def k_66 (pc : Nat) : Option PE := bif Nat.ble 39 pc then (bif Nat.ble 61 pc then (bif Nat.ble 73 pc then (bif Nat.ble 80 pc then (bif Nat.ble 83 pc then (bif Nat.ble 85 pc then (bif Nat.beq pc 85 then some (80, 1, 0, 0) else none) else (bif Nat.beq pc 83 then some (2, 5, 0, 85) else none)) else (bif Nat.beq pc 80 then some (18, 0, 0, 25) else none)) else (bif Nat.ble 75 pc then (bif Nat.ble 77 pc then (bif Nat.beq pc 77 then some (19, 7, 1, 80) else none) else (bif Nat.beq pc 75 then some (4, 6, 0, 77) else none)) else (bif Nat.beq pc 73 then some (2, 8, 0, 75) else none))) else (bif Nat.ble 66 pc then (bif Nat.ble 69 pc then (bif Nat.ble 71 pc then (bif Nat.beq pc 71 then some (4, 5, 0, 73) else none) else (bif Nat.beq pc 69 then some (2, 7, 0, 71) else none)) else (bif Nat.beq pc 66 then some (57, 77, 0, 69) else none)) else (bif Nat.ble 62 pc then (bif Nat.ble 65 pc then (bif Nat.beq pc 65 then some (2, 1, 0, 66) else none) else (bif Nat.beq pc 62 then some (70, 68, 4, 65) else none)) else (bif Nat.beq pc 61 then some (2, 2, 0, 62) else none)))) else (bif Nat.ble 50 pc then (bif Nat.ble 57 pc then (bif Nat.ble 58 pc then (bif Nat.ble 59 pc then (bif Nat.beq pc 59 then some (2, 7, 0, 61) else none) else (bif Nat.beq pc 58 then some (2, 3, 0, 59) else none)) else (bif Nat.beq pc 57 then some (3, 0, 0, 58) else none)) else (bif Nat.ble 52 pc then (bif Nat.ble 54 pc then (bif Nat.beq pc 54 then some (59, 77, 0, 57) else none) else (bif Nat.beq pc 52 then some (2, 6, 0, 54) else none)) else (bif Nat.beq pc 50 then some (2, 8, 0, 52) else none))) else (bif Nat.ble 43 pc then (bif Nat.ble 45 pc then (bif Nat.ble 47 pc then (bif Nat.beq pc 47 then some (55, 77, 0, 50) else none) else (bif Nat.beq pc 45 then some (2, 8, 0, 47) else none)) else (bif Nat.beq pc 43 then some (4, 8, 0, 45) else none)) else (bif Nat.ble 40 pc then (bif Nat.beq pc 40 then some (70, 67, 4, 43) else none) else (bif Nat.beq pc 39 then some (2, 2, 0, 40) else none))))) else (bif Nat.ble 16 pc then (bif Nat.ble 27 pc then (bif Nat.ble 35 pc then (bif Nat.ble 36 pc then (bif Nat.ble 37 pc then (bif Nat.beq pc 37 then some (2, 7, 0, 39) else none) else (bif Nat.beq pc 36 then some (2, 3, 0, 37) else none)) else (bif Nat.beq pc 35 then some (3, 0, 0, 36) else none)) else (bif Nat.ble 29 pc then (bif Nat.ble 32 pc then (bif Nat.beq pc 32 then some (59, 83, 0, 35) else none) else (bif Nat.beq pc 29 then some (16, 5, 3, 32) else none)) else (bif Nat.beq pc 27 then some (3, 4, 0, 29) else none))) else (bif Nat.ble 22 pc then (bif Nat.ble 23 pc then (bif Nat.ble 25 pc then (bif Nat.beq pc 25 then some (2, 7, 0, 27) else none) else (bif Nat.beq pc 23 then some (4, 7, 0, 25) else none)) else (bif Nat.beq pc 22 then some (0, 0, 0, 23) else none)) else (bif Nat.ble 18 pc then (bif Nat.ble 20 pc then (bif Nat.beq pc 20 then some (4, 6, 0, 22) else none) else (bif Nat.beq pc 18 then some (0, 42, 0, 20) else none)) else (bif Nat.beq pc 16 then some (4, 5, 0, 18) else none)))) else (bif Nat.ble 5 pc then (bif Nat.ble 12 pc then (bif Nat.ble 13 pc then (bif Nat.ble 15 pc then (bif Nat.beq pc 15 then some (1, 0, 0, 16) else none) else (bif Nat.beq pc 13 then some (5, 4, 0, 15) else none)) else (bif Nat.beq pc 12 then some (32, 0, 0, 13) else none)) else (bif Nat.ble 8 pc then (bif Nat.ble 11 pc then (bif Nat.beq pc 11 then some (2, 3, 0, 12) else none) else (bif Nat.beq pc 8 then some (16, 1, 1, 11) else none)) else (bif Nat.beq pc 5 then some (16, 3, 0, 8) else none))) else (bif Nat.ble 2 pc then (bif Nat.ble 3 pc then (bif Nat.ble 4 pc then (bif Nat.beq pc 4 then some (3, 0, 0, 5) else none) else (bif Nat.beq pc 3 then some (4, 3, 0, 4) else none)) else (bif Nat.beq pc 2 then some (33, 0, 0, 3) else none)) else (bif Nat.ble 1 pc then (bif Nat.beq pc 1 then some (0, 5, 0, 2) else none) else (bif Nat.beq pc 0 then some (2, 1, 0, 1) else none)))))
-- 67: ThrowFlow$Flow.lengthAt(III)I
def k_67 (pc : Nat) : Option PE := bif Nat.ble 25 pc then (bif Nat.ble 38 pc then (bif Nat.ble 45 pc then (bif Nat.ble 49 pc then (bif Nat.ble 50 pc then (bif Nat.beq pc 50 then some (80, 1, 0, 0) else none) else (bif Nat.beq pc 49 then some (0, 0, 0, 50) else none)) else (bif Nat.ble 46 pc then (bif Nat.beq pc 46 then some (18, 0, 0, 50) else none) else (bif Nat.beq pc 45 then some (30, 0, 0, 46) else none))) else (bif Nat.ble 42 pc then (bif Nat.ble 44 pc then (bif Nat.beq pc 44 then some (6, 0, 0, 45) else none) else (bif Nat.beq pc 42 then some (2, 4, 0, 44) else none)) else (bif Nat.ble 41 pc then (bif Nat.beq pc 41 then some (8, 0, 0, 42) else none) else (bif Nat.beq pc 38 then some (0, 192, 0, 41) else none)))) else (bif Nat.ble 30 pc then (bif Nat.ble 34 pc then (bif Nat.ble 37 pc then (bif Nat.beq pc 37 then some (2, 3, 0, 38) else none) else (bif Nat.beq pc 34 then some (16, 3, 3, 37) else none)) else (bif Nat.ble 33 pc then (bif Nat.beq pc 33 then some (3, 0, 0, 34) else none) else (bif Nat.beq pc 30 then some (50, 49, 0, 33) else none))) else (bif Nat.ble 26 pc then (bif Nat.ble 28 pc then (bif Nat.beq pc 28 then some (2, 5, 0, 30) else none) else (bif Nat.beq pc 26 then some (4, 5, 0, 28) else none)) else (bif Nat.beq pc 25 then some (0, 0, 0, 26) else none)))) else (bif Nat.ble 13 pc then (bif Nat.ble 17 pc then (bif Nat.ble 21 pc then (bif Nat.ble 22 pc then (bif Nat.beq pc 22 then some (18, 0, 0, 26) else none) else (bif Nat.beq pc 21 then some (0, 1, 0, 22) else none)) else (bif Nat.ble 18 pc then (bif Nat.beq pc 18 then some (50, 25, 0, 21) else none) else (bif Nat.beq pc 17 then some (10, 0, 0, 18) else none))) else (bif Nat.ble 15 pc then (bif Nat.ble 16 pc then (bif Nat.beq pc 16 then some (0, 1, 0, 17) else none) else (bif Nat.beq pc 15 then some (13, 0, 0, 16) else none)) else (bif Nat.ble 14 pc then (bif Nat.beq pc 14 then some (2, 3, 0, 15) else none) else (bif Nat.beq pc 13 then some (30, 0, 0, 14) else none)))) else (bif Nat.ble 5 pc then (bif Nat.ble 8 pc then (bif Nat.ble 11 pc then (bif Nat.beq pc 11 then some (2, 4, 0, 13) else none) else (bif Nat.beq pc 8 then some (16, 3, 2, 11) else none)) else (bif Nat.ble 7 pc then (bif Nat.beq pc 7 then some (3, 0, 0, 8) else none) else (bif Nat.beq pc 5 then some (4, 4, 0, 7) else none))) else (bif Nat.ble 1 pc then (bif Nat.ble 2 pc then (bif Nat.beq pc 2 then some (70, 61, 2, 5) else none) else (bif Nat.beq pc 1 then some (2, 2, 0, 2) else none)) else (bif Nat.beq pc 0 then some (2, 1, 0, 1) else none))))
-- 68: ThrowFlow$Flow.goesThrough(III)I
def k_68 (pc : Nat) : Option PE := bif Nat.ble 21 pc then (bif Nat.ble 30 pc then (bif Nat.ble 37 pc then (bif Nat.ble 39 pc then (bif Nat.ble 42 pc then (bif Nat.beq pc 42 then some (80, 1, 0, 0) else none) else (bif Nat.beq pc 39 then some (70, 59, 2, 42) else none)) else (bif Nat.beq pc 37 then some (2, 4, 0, 39) else none)) else (bif Nat.ble 33 pc then (bif Nat.ble 36 pc then (bif Nat.beq pc 36 then some (2, 1, 0, 37) else none) else (bif Nat.beq pc 33 then some (18, 0, 0, 42) else none)) else (bif Nat.beq pc 30 then some (70, 60, 1, 33) else none))) else (bif Nat.ble 25 pc then (bif Nat.ble 26 pc then (bif Nat.ble 29 pc then (bif Nat.beq pc 29 then some (2, 1, 0, 30) else none) else (bif Nat.beq pc 26 then some (57, 36, 0, 29) else none)) else (bif Nat.beq pc 25 then some (1, 0, 0, 26) else none)) else (bif Nat.ble 23 pc then (bif Nat.beq pc 23 then some (2, 4, 0, 25) else none) else (bif Nat.beq pc 21 then some (4, 4, 0, 23) else none)))) else (bif Nat.ble 9 pc then (bif Nat.ble 12 pc then (bif Nat.ble 15 pc then (bif Nat.ble 18 pc then (bif Nat.beq pc 18 then some (70, 58, 4, 21) else none) else (bif Nat.beq pc 15 then some (16, 1, 0, 18) else none)) else (bif Nat.beq pc 12 then some (16, 3, 0, 15) else none)) else (bif Nat.ble 10 pc then (bif Nat.ble 11 pc then (bif Nat.beq pc 11 then some (3, 0, 0, 12) else none) else (bif Nat.beq pc 10 then some (2, 3, 0, 11) else none)) else (bif Nat.beq pc 9 then some (2, 2, 0, 10) else none))) else (bif Nat.ble 4 pc then (bif Nat.ble 7 pc then (bif Nat.ble 8 pc then (bif Nat.beq pc 8 then some (32, 0, 0, 9) else none) else (bif Nat.beq pc 7 then some (2, 1, 0, 8) else none)) else (bif Nat.beq pc 4 then some (16, 1, 1, 7) else none)) else (bif Nat.ble 1 pc then (bif Nat.beq pc 1 then some (16, 3, 0, 4) else none) else (bif Nat.beq pc 0 then some (3, 0, 0, 1) else none))))
-- 69: ThrowFlow$Flow.sourceDoor(II)I
def k_69 (pc : Nat) : Option PE := bif Nat.ble 48 pc then (bif Nat.ble 56 pc then (bif Nat.ble 61 pc then (bif Nat.ble 65 pc then (bif Nat.ble 66 pc then (bif Nat.beq pc 66 then some (80, 1, 0, 0) else none) else (bif Nat.beq pc 65 then some (1, 0, 0, 66) else none)) else (bif Nat.ble 64 pc then (bif Nat.beq pc 64 then some (80, 1, 0, 0) else none) else (bif Nat.beq pc 61 then some (70, 59, 2, 64) else none))) else (bif Nat.ble 59 pc then (bif Nat.ble 60 pc then (bif Nat.beq pc 60 then some (30, 0, 0, 61) else none) else (bif Nat.beq pc 59 then some (2, 2, 0, 60) else none)) else (bif Nat.beq pc 56 then some (16, 5, 1, 59) else none))) else (bif Nat.ble 53 pc then (bif Nat.ble 54 pc then (bif Nat.ble 55 pc then (bif Nat.beq pc 55 then some (3, 3, 0, 56) else none) else (bif Nat.beq pc 54 then some (2, 1, 0, 55) else none)) else (bif Nat.beq pc 53 then some (80, 1, 0, 0) else none)) else (bif Nat.ble 49 pc then (bif Nat.ble 50 pc then (bif Nat.beq pc 50 then some (70, 60, 1, 53) else none) else (bif Nat.beq pc 49 then some (30, 0, 0, 50) else none)) else (bif Nat.beq pc 48 then some (2, 2, 0, 49) else none)))) else (bif Nat.ble 10 pc then (bif Nat.ble 15 pc then (bif Nat.ble 44 pc then (bif Nat.ble 45 pc then (bif Nat.beq pc 45 then some (16, 5, 2, 48) else none) else (bif Nat.beq pc 44 then some (3, 3, 0, 45) else none)) else (bif Nat.ble 16 pc then (bif Nat.beq pc 16 then some (62, 2, 65, 0) else none) else (bif Nat.beq pc 15 then some (30, 0, 0, 16) else none))) else (bif Nat.ble 11 pc then (bif Nat.ble 14 pc then (bif Nat.beq pc 14 then some (2, 2, 0, 15) else none) else (bif Nat.beq pc 11 then some (16, 5, 0, 14) else none)) else (bif Nat.beq pc 10 then some (3, 3, 0, 11) else none))) else (bif Nat.ble 7 pc then (bif Nat.ble 8 pc then (bif Nat.ble 9 pc then (bif Nat.beq pc 9 then some (5, 3, 0, 10) else none) else (bif Nat.beq pc 8 then some (32, 0, 0, 9) else none)) else (bif Nat.beq pc 7 then some (2, 1, 0, 8) else none)) else (bif Nat.ble 1 pc then (bif Nat.ble 4 pc then (bif Nat.beq pc 4 then some (16, 1, 1, 7) else none) else (bif Nat.beq pc 1 then some (16, 3, 0, 4) else none)) else (bif Nat.beq pc 0 then some (3, 0, 0, 1) else none))))
-- 70: ThrowFlow$Flow.ownKinds(II)I
def k_70 (pc : Nat) : Option PE := bif Nat.ble 53 pc then (bif Nat.ble 61 pc then (bif Nat.ble 64 pc then (bif Nat.ble 65 pc then (bif Nat.ble 66 pc then (bif Nat.beq pc 66 then some (80, 1, 0, 0) else none) else (bif Nat.beq pc 65 then some (0, 0, 0, 66) else none)) else (bif Nat.beq pc 64 then some (80, 1, 0, 0) else none)) else (bif Nat.ble 62 pc then (bif Nat.ble 63 pc then (bif Nat.beq pc 63 then some (0, 4, 0, 64) else none) else (bif Nat.beq pc 62 then some (80, 1, 0, 0) else none)) else (bif Nat.beq pc 61 then some (0, 2, 0, 62) else none))) else (bif Nat.ble 58 pc then (bif Nat.ble 59 pc then (bif Nat.ble 60 pc then (bif Nat.beq pc 60 then some (80, 1, 0, 0) else none) else (bif Nat.beq pc 59 then some (12, 0, 0, 60) else none)) else (bif Nat.beq pc 58 then some (30, 0, 0, 59) else none)) else (bif Nat.ble 54 pc then (bif Nat.ble 57 pc then (bif Nat.beq pc 57 then some (2, 2, 0, 58) else none) else (bif Nat.beq pc 54 then some (16, 5, 1, 57) else none)) else (bif Nat.beq pc 53 then some (3, 3, 0, 54) else none)))) else (bif Nat.ble 10 pc then (bif Nat.ble 15 pc then (bif Nat.ble 16 pc then (bif Nat.ble 52 pc then (bif Nat.beq pc 52 then some (0, 1, 0, 53) else none) else (bif Nat.beq pc 16 then some (62, 3, 65, 0) else none)) else (bif Nat.beq pc 15 then some (30, 0, 0, 16) else none)) else (bif Nat.ble 11 pc then (bif Nat.ble 14 pc then (bif Nat.beq pc 14 then some (2, 2, 0, 15) else none) else (bif Nat.beq pc 11 then some (16, 5, 0, 14) else none)) else (bif Nat.beq pc 10 then some (3, 3, 0, 11) else none))) else (bif Nat.ble 7 pc then (bif Nat.ble 8 pc then (bif Nat.ble 9 pc then (bif Nat.beq pc 9 then some (5, 3, 0, 10) else none) else (bif Nat.beq pc 8 then some (32, 0, 0, 9) else none)) else (bif Nat.beq pc 7 then some (2, 1, 0, 8) else none)) else (bif Nat.ble 1 pc then (bif Nat.ble 4 pc then (bif Nat.beq pc 4 then some (16, 1, 1, 7) else none) else (bif Nat.beq pc 1 then some (16, 3, 0, 4) else none)) else (bif Nat.beq pc 0 then some (3, 0, 0, 1) else none))))
-- 71: ThrowFlow$Flow.refresh()V
def k_71 (pc : Nat) : Option PE := bif Nat.ble 33 pc then (bif Nat.ble 51 pc then (bif Nat.ble 59 pc then (bif Nat.ble 63 pc then (bif Nat.ble 64 pc then (bif Nat.ble 67 pc then (bif Nat.beq pc 67 then some (81, 0, 0, 0) else none) else (bif Nat.beq pc 64 then some (34, 3, 1, 67) else none)) else (bif Nat.beq pc 63 then some (0, 0, 0, 64) else none)) else (bif Nat.ble 62 pc then (bif Nat.beq pc 62 then some (3, 0, 0, 63) else none) else (bif Nat.beq pc 59 then some (18, 0, 0, 38) else none))) else (bif Nat.ble 53 pc then (bif Nat.ble 56 pc then (bif Nat.beq pc 56 then some (19, 1, 1, 59) else none) else (bif Nat.beq pc 53 then some (70, 73, 2, 56) else none)) else (bif Nat.ble 52 pc then (bif Nat.beq pc 52 then some (2, 1, 0, 53) else none) else (bif Nat.beq pc 51 then some (3, 0, 0, 52) else none)))) else (bif Nat.ble 39 pc then (bif Nat.ble 44 pc then (bif Nat.ble 45 pc then (bif Nat.ble 48 pc then (bif Nat.beq pc 48 then some (50, 62, 0, 51) else none) else (bif Nat.beq pc 45 then some (70, 74, 1, 48) else none)) else (bif Nat.beq pc 44 then some (3, 0, 0, 45) else none)) else (bif Nat.ble 41 pc then (bif Nat.beq pc 41 then some (60, 62, 0, 44) else none) else (bif Nat.beq pc 39 then some (0, 41, 0, 41) else none))) else (bif Nat.ble 37 pc then (bif Nat.ble 38 pc then (bif Nat.beq pc 38 then some (2, 1, 0, 39) else none) else (bif Nat.beq pc 37 then some (4, 1, 0, 38) else none)) else (bif Nat.ble 36 pc then (bif Nat.beq pc 36 then some (0, 2, 0, 37) else none) else (bif Nat.beq pc 33 then some (70, 72, 1, 36) else none))))) else (bif Nat.ble 16 pc then (bif Nat.ble 24 pc then (bif Nat.ble 28 pc then (bif Nat.ble 29 pc then (bif Nat.ble 32 pc then (bif Nat.beq pc 32 then some (3, 0, 0, 33) else none) else (bif Nat.beq pc 29 then some (70, 106, 2, 32) else none)) else (bif Nat.beq pc 28 then some (0, 0, 0, 29) else none)) else (bif Nat.ble 25 pc then (bif Nat.beq pc 25 then some (16, 3, 6, 28) else none) else (bif Nat.beq pc 24 then some (3, 0, 0, 25) else none))) else (bif Nat.ble 20 pc then (bif Nat.ble 21 pc then (bif Nat.beq pc 21 then some (70, 106, 2, 24) else none) else (bif Nat.beq pc 20 then some (0, 0, 0, 21) else none)) else (bif Nat.ble 17 pc then (bif Nat.beq pc 17 then some (16, 3, 4, 20) else none) else (bif Nat.beq pc 16 then some (3, 0, 0, 17) else none)))) else (bif Nat.ble 8 pc then (bif Nat.ble 12 pc then (bif Nat.ble 13 pc then (bif Nat.beq pc 13 then some (70, 106, 2, 16) else none) else (bif Nat.beq pc 12 then some (0, 0, 0, 13) else none)) else (bif Nat.ble 9 pc then (bif Nat.beq pc 9 then some (16, 3, 2, 12) else none) else (bif Nat.beq pc 8 then some (3, 0, 0, 9) else none))) else (bif Nat.ble 4 pc then (bif Nat.ble 7 pc then (bif Nat.beq pc 7 then some (81, 0, 0, 0) else none) else (bif Nat.beq pc 4 then some (51, 8, 0, 7) else none)) else (bif Nat.ble 1 pc then (bif Nat.beq pc 1 then some (16, 3, 1, 4) else none) else (bif Nat.beq pc 0 then some (3, 0, 0, 1) else none)))))
-- 72: ThrowFlow$Flow.raiseOwn()V
def k_72 (pc : Nat) : Option PE := bif Nat.ble 23 pc then (bif Nat.ble 32 pc then (bif Nat.ble 42 pc then (bif Nat.ble 48 pc then (bif Nat.ble 51 pc then (bif Nat.beq pc 51 then some (81, 0, 0, 0) else none) else (bif Nat.beq pc 48 then some (18, 0, 0, 2) else none)) else (bif Nat.ble 45 pc then (bif Nat.beq pc 45 then some (19, 1, 1, 48) else none) else (bif Nat.beq pc 42 then some (18, 0, 0, 10) else none))) else (bif Nat.ble 36 pc then (bif Nat.ble 39 pc then (bif Nat.beq pc 39 then some (19, 2, 1, 42) else none) else (bif Nat.beq pc 36 then some (70, 75, 5, 39) else none)) else (bif Nat.ble 35 pc then (bif Nat.beq pc 35 then some (0, 1, 0, 36) else none) else (bif Nat.beq pc 32 then some (70, 70, 3, 35) else none)))) else (bif Nat.ble 28 pc then (bif Nat.ble 30 pc then (bif Nat.ble 31 pc then (bif Nat.beq pc 31 then some (2, 2, 0, 32) else none) else (bif Nat.beq pc 30 then some (2, 1, 0, 31) else none)) else (bif Nat.ble 29 pc then (bif Nat.beq pc 29 then some (3, 0, 0, 30) else none) else (bif Nat.beq pc 28 then some (2, 2, 0, 29) else none))) else (bif Nat.ble 26 pc then (bif Nat.ble 27 pc then (bif Nat.beq pc 27 then some (2, 1, 0, 28) else none) else (bif Nat.beq pc 26 then some (3, 0, 0, 27) else none)) else (bif Nat.beq pc 23 then some (59, 45, 0, 26) else none)))) else (bif Nat.ble 10 pc then (bif Nat.ble 15 pc then (bif Nat.ble 19 pc then (bif Nat.ble 20 pc then (bif Nat.beq pc 20 then some (16, 5, 3, 23) else none) else (bif Nat.beq pc 19 then some (32, 0, 0, 20) else none)) else (bif Nat.ble 18 pc then (bif Nat.beq pc 18 then some (2, 1, 0, 19) else none) else (bif Nat.beq pc 15 then some (16, 1, 1, 18) else none))) else (bif Nat.ble 11 pc then (bif Nat.ble 12 pc then (bif Nat.beq pc 12 then some (16, 3, 0, 15) else none) else (bif Nat.beq pc 11 then some (3, 0, 0, 12) else none)) else (bif Nat.beq pc 10 then some (2, 2, 0, 11) else none))) else (bif Nat.ble 3 pc then (bif Nat.ble 8 pc then (bif Nat.ble 9 pc then (bif Nat.beq pc 9 then some (4, 2, 0, 10) else none) else (bif Nat.beq pc 8 then some (0, 0, 0, 9) else none)) else (bif Nat.ble 5 pc then (bif Nat.beq pc 5 then some (59, 51, 0, 8) else none) else (bif Nat.beq pc 3 then some (0, 8, 0, 5) else none))) else (bif Nat.ble 1 pc then (bif Nat.ble 2 pc then (bif Nat.beq pc 2 then some (2, 1, 0, 3) else none) else (bif Nat.beq pc 1 then some (4, 1, 0, 2) else none)) else (bif Nat.beq pc 0 then some (0, 0, 0, 1) else none))))
-- 73: ThrowFlow$Flow.raiseFresh(I)V
def k_73 (pc : Nat) : Option PE := bif Nat.ble 29 pc then (bif Nat.ble 44 pc then (bif Nat.ble 54 pc then (bif Nat.ble 60 pc then (bif Nat.ble 63 pc then (bif Nat.ble 66 pc then (bif Nat.beq pc 66 then some (81, 0, 0, 0) else none) else (bif Nat.beq pc 63 then some (18, 0, 0, 2) else none)) else (bif Nat.beq pc 60 then some (19, 2, 1, 63) else none)) else (bif Nat.ble 57 pc then (bif Nat.beq pc 57 then some (18, 0, 0, 10) else none) else (bif Nat.beq pc 54 then some (19, 3, 1, 57) else none))) else (bif Nat.ble 49 pc then (bif Nat.ble 50 pc then (bif Nat.ble 51 pc then (bif Nat.beq pc 51 then some (70, 75, 5, 54) else none) else (bif Nat.beq pc 50 then some (2, 1, 0, 51) else none)) else (bif Nat.beq pc 49 then some (30, 0, 0, 50) else none)) else (bif Nat.ble 47 pc then (bif Nat.beq pc 47 then some (2, 4, 0, 49) else none) else (bif Nat.beq pc 44 then some (16, 3, 5, 47) else none)))) else (bif Nat.ble 37 pc then (bif Nat.ble 41 pc then (bif Nat.ble 42 pc then (bif Nat.ble 43 pc then (bif Nat.beq pc 43 then some (3, 0, 0, 44) else none) else (bif Nat.beq pc 42 then some (2, 3, 0, 43) else none)) else (bif Nat.beq pc 41 then some (2, 2, 0, 42) else none)) else (bif Nat.ble 40 pc then (bif Nat.beq pc 40 then some (3, 0, 0, 41) else none) else (bif Nat.beq pc 37 then some (56, 54, 0, 40) else none))) else (bif Nat.ble 34 pc then (bif Nat.ble 36 pc then (bif Nat.beq pc 36 then some (1, 0, 0, 37) else none) else (bif Nat.beq pc 34 then some (2, 4, 0, 36) else none)) else (bif Nat.ble 32 pc then (bif Nat.beq pc 32 then some (4, 4, 0, 34) else none) else (bif Nat.beq pc 29 then some (70, 69, 3, 32) else none))))) else (bif Nat.ble 12 pc then (bif Nat.ble 20 pc then (bif Nat.ble 26 pc then (bif Nat.ble 27 pc then (bif Nat.ble 28 pc then (bif Nat.beq pc 28 then some (2, 3, 0, 29) else none) else (bif Nat.beq pc 27 then some (2, 2, 0, 28) else none)) else (bif Nat.beq pc 26 then some (3, 0, 0, 27) else none)) else (bif Nat.ble 23 pc then (bif Nat.beq pc 23 then some (59, 60, 0, 26) else none) else (bif Nat.beq pc 20 then some (16, 5, 3, 23) else none))) else (bif Nat.ble 18 pc then (bif Nat.ble 19 pc then (bif Nat.beq pc 19 then some (32, 0, 0, 20) else none) else (bif Nat.beq pc 18 then some (2, 2, 0, 19) else none)) else (bif Nat.ble 15 pc then (bif Nat.beq pc 15 then some (16, 1, 1, 18) else none) else (bif Nat.beq pc 12 then some (16, 3, 0, 15) else none)))) else (bif Nat.ble 5 pc then (bif Nat.ble 9 pc then (bif Nat.ble 10 pc then (bif Nat.ble 11 pc then (bif Nat.beq pc 11 then some (3, 0, 0, 12) else none) else (bif Nat.beq pc 10 then some (2, 3, 0, 11) else none)) else (bif Nat.beq pc 9 then some (4, 3, 0, 10) else none)) else (bif Nat.ble 8 pc then (bif Nat.beq pc 8 then some (0, 0, 0, 9) else none) else (bif Nat.beq pc 5 then some (59, 66, 0, 8) else none))) else (bif Nat.ble 2 pc then (bif Nat.ble 3 pc then (bif Nat.beq pc 3 then some (0, 8, 0, 5) else none) else (bif Nat.beq pc 2 then some (2, 2, 0, 3) else none)) else (bif Nat.ble 1 pc then (bif Nat.beq pc 1 then some (4, 2, 0, 2) else none) else (bif Nat.beq pc 0 then some (0, 0, 0, 1) else none)))))
-- 74: ThrowFlow$Flow.openDoors()Z
def k_74 (pc : Nat) : Option PE := bif Nat.ble 37 pc then (bif Nat.ble 54 pc then (bif Nat.ble 65 pc then (bif Nat.ble 72 pc then (bif Nat.ble 76 pc then (bif Nat.ble 77 pc then (bif Nat.beq pc 77 then some (80, 2, 0, 0) else none) else (bif Nat.beq pc 76 then some (0, 0, 0, 77) else none)) else (bif Nat.ble 73 pc then (bif Nat.beq pc 73 then some (18, 0, 0, 77) else none) else (bif Nat.beq pc 72 then some (0, 1, 0, 73) else none))) else (bif Nat.ble 68 pc then (bif Nat.ble 69 pc then (bif Nat.beq pc 69 then some (50, 76, 0, 72) else none) else (bif Nat.beq pc 68 then some (2, 1, 0, 69) else none)) else (bif Nat.beq pc 65 then some (18, 0, 0, 4) else none))) else (bif Nat.ble 59 pc then (bif Nat.ble 61 pc then (bif Nat.ble 62 pc then (bif Nat.beq pc 62 then some (19, 2, 1, 65) else none) else (bif Nat.beq pc 61 then some (4, 1, 0, 62) else none)) else (bif Nat.ble 60 pc then (bif Nat.beq pc 60 then some (9, 0, 0, 61) else none) else (bif Nat.beq pc 59 then some (30, 0, 0, 60) else none))) else (bif Nat.ble 55 pc then (bif Nat.ble 58 pc then (bif Nat.beq pc 58 then some (2, 2, 0, 59) else none) else (bif Nat.beq pc 55 then some (16, 3, 5, 58) else none)) else (bif Nat.beq pc 54 then some (3, 0, 0, 55) else none)))) else (bif Nat.ble 45 pc then (bif Nat.ble 50 pc then (bif Nat.ble 52 pc then (bif Nat.ble 53 pc then (bif Nat.beq pc 53 then some (2, 1, 0, 54) else none) else (bif Nat.beq pc 52 then some (31, 0, 0, 53) else none)) else (bif Nat.ble 51 pc then (bif Nat.beq pc 51 then some (0, 0, 0, 52) else none) else (bif Nat.beq pc 50 then some (2, 2, 0, 51) else none))) else (bif Nat.ble 46 pc then (bif Nat.ble 47 pc then (bif Nat.beq pc 47 then some (16, 3, 6, 50) else none) else (bif Nat.beq pc 46 then some (3, 0, 0, 47) else none)) else (bif Nat.beq pc 45 then some (31, 0, 0, 46) else none))) else (bif Nat.ble 42 pc then (bif Nat.ble 43 pc then (bif Nat.ble 44 pc then (bif Nat.beq pc 44 then some (9, 0, 0, 45) else none) else (bif Nat.beq pc 43 then some (30, 0, 0, 44) else none)) else (bif Nat.beq pc 42 then some (2, 2, 0, 43) else none)) else (bif Nat.ble 38 pc then (bif Nat.ble 39 pc then (bif Nat.beq pc 39 then some (16, 3, 5, 42) else none) else (bif Nat.beq pc 38 then some (3, 0, 0, 39) else none)) else (bif Nat.beq pc 37 then some (30, 0, 0, 38) else none))))) else (bif Nat.ble 20 pc then (bif Nat.ble 28 pc then (bif Nat.ble 31 pc then (bif Nat.ble 35 pc then (bif Nat.ble 36 pc then (bif Nat.beq pc 36 then some (15, 0, 0, 37) else none) else (bif Nat.beq pc 35 then some (2, 2, 0, 36) else none)) else (bif Nat.ble 32 pc then (bif Nat.beq pc 32 then some (16, 3, 4, 35) else none) else (bif Nat.beq pc 31 then some (3, 0, 0, 32) else none))) else (bif Nat.ble 29 pc then (bif Nat.ble 30 pc then (bif Nat.beq pc 30 then some (31, 0, 0, 31) else none) else (bif Nat.beq pc 29 then some (10, 0, 0, 30) else none)) else (bif Nat.beq pc 28 then some (11, 0, 0, 29) else none))) else (bif Nat.ble 25 pc then (bif Nat.ble 26 pc then (bif Nat.ble 27 pc then (bif Nat.beq pc 27 then some (1, 0, 0, 28) else none) else (bif Nat.beq pc 26 then some (30, 0, 0, 27) else none)) else (bif Nat.beq pc 25 then some (2, 2, 0, 26) else none)) else (bif Nat.ble 21 pc then (bif Nat.ble 22 pc then (bif Nat.beq pc 22 then some (16, 3, 4, 25) else none) else (bif Nat.beq pc 21 then some (3, 0, 0, 22) else none)) else (bif Nat.beq pc 20 then some (30, 0, 0, 21) else none)))) else (bif Nat.ble 7 pc then (bif Nat.ble 14 pc then (bif Nat.ble 16 pc then (bif Nat.ble 19 pc then (bif Nat.beq pc 19 then some (2, 2, 0, 20) else none) else (bif Nat.beq pc 16 then some (16, 3, 6, 19) else none)) else (bif Nat.ble 15 pc then (bif Nat.beq pc 15 then some (3, 0, 0, 16) else none) else (bif Nat.beq pc 14 then some (2, 2, 0, 15) else none))) else (bif Nat.ble 10 pc then (bif Nat.ble 11 pc then (bif Nat.beq pc 11 then some (16, 3, 5, 14) else none) else (bif Nat.beq pc 10 then some (3, 0, 0, 11) else none)) else (bif Nat.beq pc 7 then some (59, 68, 0, 10) else none))) else (bif Nat.ble 3 pc then (bif Nat.ble 4 pc then (bif Nat.ble 5 pc then (bif Nat.beq pc 5 then some (0, 40, 0, 7) else none) else (bif Nat.beq pc 4 then some (2, 2, 0, 5) else none)) else (bif Nat.beq pc 3 then some (4, 2, 0, 4) else none)) else (bif Nat.ble 1 pc then (bif Nat.ble 2 pc then (bif Nat.beq pc 2 then some (0, 0, 0, 3) else none) else (bif Nat.beq pc 1 then some (4, 1, 0, 2) else none)) else (bif Nat.beq pc 0 then some (0, 0, 0, 1) else none)))))
-- 75: ThrowFlow$Flow.note(IIII)V
def k_75 (pc : Nat) : Option PE := bif Nat.ble 50 pc then (bif Nat.ble 75 pc then (bif Nat.ble 88 pc then (bif Nat.ble 93 pc then (bif Nat.ble 97 pc then (bif Nat.ble 100 pc then (bif Nat.beq pc 100 then some (81, 0, 0, 0) else none) else (bif Nat.beq pc 97 then some (18, 0, 0, 41) else none)) else (bif Nat.ble 94 pc then (bif Nat.beq pc 94 then some (19, 7, 1, 97) else none) else (bif Nat.beq pc 93 then some (31, 0, 0, 94) else none))) else (bif Nat.ble 91 pc then (bif Nat.ble 92 pc then (bif Nat.beq pc 92 then some (9, 0, 0, 93) else none) else (bif Nat.beq pc 91 then some (12, 0, 0, 92) else none)) else (bif Nat.ble 89 pc then (bif Nat.beq pc 89 then some (2, 7, 0, 91) else none) else (bif Nat.beq pc 88 then some (0, 1, 0, 89) else none)))) else (bif Nat.ble 81 pc then (bif Nat.ble 86 pc then (bif Nat.ble 87 pc then (bif Nat.beq pc 87 then some (30, 0, 0, 88) else none) else (bif Nat.beq pc 86 then some (15, 0, 0, 87) else none)) else (bif Nat.ble 83 pc then (bif Nat.beq pc 83 then some (70, 68, 4, 86) else none) else (bif Nat.beq pc 81 then some (2, 7, 0, 83) else none))) else (bif Nat.ble 79 pc then (bif Nat.ble 80 pc then (bif Nat.beq pc 80 then some (2, 2, 0, 81) else none) else (bif Nat.beq pc 79 then some (2, 1, 0, 80) else none)) else (bif Nat.ble 78 pc then (bif Nat.beq pc 78 then some (3, 0, 0, 79) else none) else (bif Nat.beq pc 75 then some (16, 3, 6, 78) else none))))) else (bif Nat.ble 62 pc then (bif Nat.ble 70 pc then (bif Nat.ble 73 pc then (bif Nat.ble 74 pc then (bif Nat.beq pc 74 then some (3, 0, 0, 75) else none) else (bif Nat.beq pc 73 then some (31, 0, 0, 74) else none)) else (bif Nat.ble 71 pc then (bif Nat.beq pc 71 then some (2, 4, 0, 73) else none) else (bif Nat.beq pc 70 then some (6, 0, 0, 71) else none))) else (bif Nat.ble 67 pc then (bif Nat.ble 68 pc then (bif Nat.beq pc 68 then some (2, 5, 0, 70) else none) else (bif Nat.beq pc 67 then some (8, 0, 0, 68) else none)) else (bif Nat.ble 64 pc then (bif Nat.beq pc 64 then some (0, 192, 0, 67) else none) else (bif Nat.beq pc 62 then some (2, 7, 0, 64) else none)))) else (bif Nat.ble 54 pc then (bif Nat.ble 58 pc then (bif Nat.ble 59 pc then (bif Nat.beq pc 59 then some (16, 3, 3, 62) else none) else (bif Nat.beq pc 58 then some (3, 0, 0, 59) else none)) else (bif Nat.ble 55 pc then (bif Nat.beq pc 55 then some (50, 94, 0, 58) else none) else (bif Nat.beq pc 54 then some (10, 0, 0, 55) else none))) else (bif Nat.ble 52 pc then (bif Nat.ble 53 pc then (bif Nat.beq pc 53 then some (0, 1, 0, 54) else none) else (bif Nat.beq pc 52 then some (13, 0, 0, 53) else none)) else (bif Nat.beq pc 50 then some (2, 7, 0, 52) else none))))) else (bif Nat.ble 25 pc then (bif Nat.ble 36 pc then (bif Nat.ble 41 pc then (bif Nat.ble 45 pc then (bif Nat.ble 48 pc then (bif Nat.beq pc 48 then some (2, 6, 0, 50) else none) else (bif Nat.beq pc 45 then some (59, 100, 0, 48) else none)) else (bif Nat.ble 43 pc then (bif Nat.beq pc 43 then some (0, 10, 0, 45) else none) else (bif Nat.beq pc 41 then some (2, 7, 0, 43) else none))) else (bif Nat.ble 38 pc then (bif Nat.ble 39 pc then (bif Nat.beq pc 39 then some (4, 7, 0, 41) else none) else (bif Nat.beq pc 38 then some (0, 0, 0, 39) else none)) else (bif Nat.ble 37 pc then (bif Nat.beq pc 37 then some (31, 0, 0, 38) else none) else (bif Nat.beq pc 36 then some (9, 0, 0, 37) else none)))) else (bif Nat.ble 30 pc then (bif Nat.ble 33 pc then (bif Nat.ble 34 pc then (bif Nat.beq pc 34 then some (2, 6, 0, 36) else none) else (bif Nat.beq pc 33 then some (30, 0, 0, 34) else none)) else (bif Nat.ble 32 pc then (bif Nat.beq pc 32 then some (15, 0, 0, 33) else none) else (bif Nat.beq pc 30 then some (2, 5, 0, 32) else none))) else (bif Nat.ble 26 pc then (bif Nat.ble 27 pc then (bif Nat.beq pc 27 then some (16, 3, 2, 30) else none) else (bif Nat.beq pc 26 then some (3, 0, 0, 27) else none)) else (bif Nat.beq pc 25 then some (81, 0, 0, 0) else none)))) else (bif Nat.ble 12 pc then (bif Nat.ble 17 pc then (bif Nat.ble 20 pc then (bif Nat.ble 22 pc then (bif Nat.beq pc 22 then some (51, 26, 0, 25) else none) else (bif Nat.beq pc 20 then some (2, 6, 0, 22) else none)) else (bif Nat.ble 18 pc then (bif Nat.beq pc 18 then some (4, 6, 0, 20) else none) else (bif Nat.beq pc 17 then some (10, 0, 0, 18) else none))) else (bif Nat.ble 15 pc then (bif Nat.ble 16 pc then (bif Nat.beq pc 16 then some (11, 0, 0, 17) else none) else (bif Nat.beq pc 15 then some (1, 0, 0, 16) else none)) else (bif Nat.ble 14 pc then (bif Nat.beq pc 14 then some (30, 0, 0, 15) else none) else (bif Nat.beq pc 12 then some (2, 5, 0, 14) else none)))) else (bif Nat.ble 5 pc then (bif Nat.ble 8 pc then (bif Nat.ble 9 pc then (bif Nat.beq pc 9 then some (16, 3, 2, 12) else none) else (bif Nat.beq pc 8 then some (3, 0, 0, 9) else none)) else (bif Nat.ble 7 pc then (bif Nat.beq pc 7 then some (2, 3, 0, 8) else none) else (bif Nat.beq pc 5 then some (4, 5, 0, 7) else none))) else (bif Nat.ble 1 pc then (bif Nat.ble 2 pc then (bif Nat.beq pc 2 then some (70, 61, 2, 5) else none) else (bif Nat.beq pc 1 then some (2, 2, 0, 2) else none)) else (bif Nat.beq pc 0 then some (2, 1, 0, 1) else none)))))
-- 76: ThrowFlow$Kinds.has(I)Z
def k_76 (pc : Nat) : Option PE := bif Nat.ble 9 pc then (bif Nat.ble 13 pc then (bif Nat.ble 16 pc then (bif Nat.ble 17 pc then (bif Nat.beq pc 17 then some (80, 2, 0, 0) else none) else (bif Nat.beq pc 16 then some (0, 0, 0, 17) else none)) else (bif Nat.beq pc 13 then some (18, 0, 0, 17) else none)) else (bif Nat.ble 12 pc then (bif Nat.beq pc 12 then some (0, 1, 0, 13) else none) else (bif Nat.beq pc 9 then some (59, 16, 0, 12) else none))) else (bif Nat.ble 4 pc then (bif Nat.ble 5 pc then (bif Nat.ble 6 pc then (bif Nat.beq pc 6 then some (16, 2, 1, 9) else none) else (bif Nat.beq pc 5 then some (3, 0, 0, 6) else none)) else (bif Nat.beq pc 4 then some (2, 1, 0, 5) else none)) else (bif Nat.ble 1 pc then (bif Nat.beq pc 1 then some (52, 16, 0, 4) else none) else (bif Nat.beq pc 0 then some (2, 1, 0, 1) else none)))
-- 77: ThrowFlow$Kinds.isFull()Z
def k_77 (pc : Nat) : Option PE := bif Nat.ble 9 pc then (bif Nat.ble 13 pc then (bif Nat.ble 14 pc then (bif Nat.beq pc 14 then some (80, 2, 0, 0) else none) else (bif Nat.beq pc 13 then some (0, 0, 0, 14) else none)) else (bif Nat.ble 10 pc then (bif Nat.beq pc 10 then some (18, 0, 0, 14) else none) else (bif Nat.beq pc 9 then some (0, 1, 0, 10) else none))) else (bif Nat.ble 4 pc then (bif Nat.ble 6 pc then (bif Nat.beq pc 6 then some (58, 13, 0, 9) else none) else (bif Nat.beq pc 4 then some (0, 10, 0, 6) else none)) else (bif Nat.ble 1 pc then (bif Nat.beq pc 1 then some (16, 2, 1, 4) else none) else (bif Nat.beq pc 0 then some (3, 0, 0, 1) else none)))
-- 78: ThrowFlow$Kinds.isOneOf(II)Z
def k_78 (pc : Nat) : Option PE := bif Nat.ble 8 pc then (bif Nat.ble 13 pc then (bif Nat.ble 17 pc then (bif Nat.ble 18 pc then (bif Nat.beq pc 18 then some (80, 2, 0, 0) else none) else (bif Nat.beq pc 17 then some (0, 0, 0, 18) else none)) else (bif Nat.ble 14 pc then (bif Nat.beq pc 14 then some (18, 0, 0, 18) else none) else (bif Nat.beq pc 13 then some (0, 1, 0, 14) else none))) else (bif Nat.ble 9 pc then (bif Nat.ble 10 pc then (bif Nat.beq pc 10 then some (50, 17, 0, 13) else none) else (bif Nat.beq pc 9 then some (10, 0, 0, 10) else none)) else (bif Nat.beq pc 8 then some (0, 1, 0, 9) else none))) else (bif Nat.ble 5 pc then (bif Nat.ble 6 pc then (bif Nat.ble 7 pc then (bif Nat.beq pc 7 then some (13, 0, 0, 8) else none) else (bif Nat.beq pc 6 then some (2, 1, 0, 7) else none)) else (bif Nat.beq pc 5 then some (30, 0, 0, 6) else none)) else (bif Nat.ble 1 pc then (bif Nat.ble 4 pc then (bif Nat.beq pc 4 then some (2, 2, 0, 5) else none) else (bif Nat.beq pc 1 then some (16, 2, 0, 4) else none)) else (bif Nat.beq pc 0 then some (3, 0, 0, 1) else none)))
-- 79: ThrowFlow$Kinds.append(I)I
def k_79 (pc : Nat) : Option PE := bif Nat.ble 30 pc then (bif Nat.ble 46 pc then (bif Nat.ble 53 pc then (bif Nat.ble 55 pc then (bif Nat.ble 58 pc then (bif Nat.ble 59 pc then (bif Nat.beq pc 59 then some (80, 1, 0, 0) else none) else (bif Nat.beq pc 58 then some (2, 2, 0, 59) else none)) else (bif Nat.beq pc 55 then some (17, 2, 1, 58) else none)) else (bif Nat.ble 54 pc then (bif Nat.beq pc 54 then some (6, 0, 0, 55) else none) else (bif Nat.beq pc 53 then some (0, 1, 0, 54) else none))) else (bif Nat.ble 48 pc then (bif Nat.ble 49 pc then (bif Nat.ble 50 pc then (bif Nat.beq pc 50 then some (16, 2, 1, 53) else none) else (bif Nat.beq pc 49 then some (14, 0, 0, 50) else none)) else (bif Nat.beq pc 48 then some (3, 0, 0, 49) else none)) else (bif Nat.ble 47 pc then (bif Nat.beq pc 47 then some (31, 0, 0, 48) else none) else (bif Nat.beq pc 46 then some (12, 0, 0, 47) else none)))) else (bif Nat.ble 39 pc then (bif Nat.ble 43 pc then (bif Nat.ble 44 pc then (bif Nat.ble 45 pc then (bif Nat.beq pc 45 then some (2, 2, 0, 46) else none) else (bif Nat.beq pc 44 then some (0, 1, 0, 45) else none)) else (bif Nat.beq pc 43 then some (2, 2, 0, 44) else none)) else (bif Nat.ble 40 pc then (bif Nat.beq pc 40 then some (16, 2, 0, 43) else none) else (bif Nat.beq pc 39 then some (3, 0, 0, 40) else none))) else (bif Nat.ble 32 pc then (bif Nat.ble 33 pc then (bif Nat.ble 36 pc then (bif Nat.beq pc 36 then some (18, 0, 0, 7) else none) else (bif Nat.beq pc 33 then some (19, 3, 1, 36) else none)) else (bif Nat.beq pc 32 then some (31, 0, 0, 33) else none)) else (bif Nat.ble 31 pc then (bif Nat.beq pc 31 then some (9, 0, 0, 32) else none) else (bif Nat.beq pc 30 then some (12, 0, 0, 31) else none))))) else (bif Nat.ble 14 pc then (bif Nat.ble 25 pc then (bif Nat.ble 27 pc then (bif Nat.ble 28 pc then (bif Nat.ble 29 pc then (bif Nat.beq pc 29 then some (2, 2, 0, 30) else none) else (bif Nat.beq pc 28 then some (0, 1, 0, 29) else none)) else (bif Nat.beq pc 27 then some (30, 0, 0, 28) else none)) else (bif Nat.ble 26 pc then (bif Nat.beq pc 26 then some (15, 0, 0, 27) else none) else (bif Nat.beq pc 25 then some (2, 3, 0, 26) else none))) else (bif Nat.ble 18 pc then (bif Nat.ble 21 pc then (bif Nat.ble 22 pc then (bif Nat.beq pc 22 then some (16, 2, 0, 25) else none) else (bif Nat.beq pc 21 then some (3, 0, 0, 22) else none)) else (bif Nat.beq pc 18 then some (50, 33, 0, 21) else none)) else (bif Nat.ble 15 pc then (bif Nat.beq pc 15 then some (70, 78, 3, 18) else none) else (bif Nat.beq pc 14 then some (2, 3, 0, 15) else none)))) else (bif Nat.ble 7 pc then (bif Nat.ble 9 pc then (bif Nat.ble 12 pc then (bif Nat.ble 13 pc then (bif Nat.beq pc 13 then some (2, 1, 0, 14) else none) else (bif Nat.beq pc 12 then some (3, 0, 0, 13) else none)) else (bif Nat.beq pc 9 then some (59, 39, 0, 12) else none)) else (bif Nat.ble 8 pc then (bif Nat.beq pc 8 then some (2, 2, 0, 9) else none) else (bif Nat.beq pc 7 then some (2, 3, 0, 8) else none))) else (bif Nat.ble 4 pc then (bif Nat.ble 5 pc then (bif Nat.ble 6 pc then (bif Nat.beq pc 6 then some (4, 3, 0, 7) else none) else (bif Nat.beq pc 5 then some (0, 0, 0, 6) else none)) else (bif Nat.beq pc 4 then some (4, 2, 0, 5) else none)) else (bif Nat.ble 1 pc then (bif Nat.beq pc 1 then some (16, 2, 1, 4) else none) else (bif Nat.beq pc 0 then some (3, 0, 0, 1) else none)))))
-- 80: ThrowFlow$Machine.isUnderWay()Z
def k_80 (pc : Nat) : Option PE := bif Nat.ble 7 pc then (bif Nat.ble 11 pc then (bif Nat.ble 12 pc then (bif Nat.beq pc 12 then some (80, 2, 0, 0) else none) else (bif Nat.beq pc 11 then some (0, 0, 0, 12) else none)) else (bif Nat.ble 8 pc then (bif Nat.beq pc 8 then some (18, 0, 0, 12) else none) else (bif Nat.beq pc 7 then some (0, 1, 0, 8) else none))) else (bif Nat.ble 1 pc then (bif Nat.ble 4 pc then (bif Nat.beq pc 4 then some (55, 11, 0, 7) else none) else (bif Nat.beq pc 1 then some (16, 4, 5, 4) else none)) else (bif Nat.beq pc 0 then some (3, 0, 0, 1) else none))
-- 81: ThrowFlow$Machine.start(III)V
def k_81 (pc : Nat) : Option PE := bif Nat.ble 29 pc then (bif Nat.ble 45 pc then (bif Nat.ble 53 pc then (bif Nat.ble 55 pc then (bif Nat.ble 58 pc then (bif Nat.ble 61 pc then (bif Nat.beq pc 61 then some (81, 0, 0, 0) else none) else (bif Nat.beq pc 58 then some (18, 0, 0, 25) else none)) else (bif Nat.beq pc 55 then some (17, 4, 6, 58) else none)) else (bif Nat.ble 54 pc then (bif Nat.beq pc 54 then some (6, 0, 0, 55) else none) else (bif Nat.beq pc 53 then some (0, 1, 0, 54) else none))) else (bif Nat.ble 49 pc then (bif Nat.ble 50 pc then (bif Nat.beq pc 50 then some (16, 4, 6, 53) else none) else (bif Nat.beq pc 49 then some (14, 0, 0, 50) else none)) else (bif Nat.ble 48 pc then (bif Nat.beq pc 48 then some (3, 0, 0, 49) else none) else (bif Nat.beq pc 45 then some (70, 83, 1, 48) else none)))) else (bif Nat.ble 37 pc then (bif Nat.ble 41 pc then (bif Nat.ble 44 pc then (bif Nat.beq pc 44 then some (3, 0, 0, 45) else none) else (bif Nat.beq pc 41 then some (70, 87, 1, 44) else none)) else (bif Nat.ble 40 pc then (bif Nat.beq pc 40 then some (3, 0, 0, 41) else none) else (bif Nat.beq pc 37 then some (55, 61, 0, 40) else none))) else (bif Nat.ble 33 pc then (bif Nat.ble 34 pc then (bif Nat.beq pc 34 then some (16, 4, 5, 37) else none) else (bif Nat.beq pc 33 then some (3, 0, 0, 34) else none)) else (bif Nat.ble 30 pc then (bif Nat.beq pc 30 then some (59, 61, 0, 33) else none) else (bif Nat.beq pc 29 then some (2, 3, 0, 30) else none))))) else (bif Nat.ble 12 pc then (bif Nat.ble 20 pc then (bif Nat.ble 22 pc then (bif Nat.ble 25 pc then (bif Nat.ble 26 pc then (bif Nat.beq pc 26 then some (16, 4, 6, 29) else none) else (bif Nat.beq pc 25 then some (3, 0, 0, 26) else none)) else (bif Nat.beq pc 22 then some (17, 4, 6, 25) else none)) else (bif Nat.ble 21 pc then (bif Nat.beq pc 21 then some (0, 0, 0, 22) else none) else (bif Nat.beq pc 20 then some (3, 0, 0, 21) else none))) else (bif Nat.ble 16 pc then (bif Nat.ble 17 pc then (bif Nat.beq pc 17 then some (70, 83, 1, 20) else none) else (bif Nat.beq pc 16 then some (3, 0, 0, 17) else none)) else (bif Nat.ble 13 pc then (bif Nat.beq pc 13 then some (70, 82, 3, 16) else none) else (bif Nat.beq pc 12 then some (2, 2, 0, 13) else none)))) else (bif Nat.ble 6 pc then (bif Nat.ble 10 pc then (bif Nat.ble 11 pc then (bif Nat.beq pc 11 then some (2, 1, 0, 12) else none) else (bif Nat.beq pc 10 then some (3, 0, 0, 11) else none)) else (bif Nat.ble 7 pc then (bif Nat.beq pc 7 then some (17, 4, 8, 10) else none) else (bif Nat.beq pc 6 then some (1, 0, 0, 7) else none))) else (bif Nat.ble 2 pc then (bif Nat.ble 5 pc then (bif Nat.beq pc 5 then some (3, 0, 0, 6) else none) else (bif Nat.beq pc 2 then some (17, 4, 5, 5) else none)) else (bif Nat.ble 1 pc then (bif Nat.beq pc 1 then some (0, 0, 0, 2) else none) else (bif Nat.beq pc 0 then some (3, 0, 0, 1) else none)))))
-- 82: ThrowFlow$Machine.enter(II)V
def k_82 (pc : Nat) : Option PE := bif Nat.ble 44 pc then (bif Nat.ble 70 pc then (bif Nat.ble 81 pc then (bif Nat.ble 85 pc then (bif Nat.ble 89 pc then (bif Nat.ble 92 pc then (bif Nat.beq pc 92 then some (81, 0, 0, 0) else none) else (bif Nat.beq pc 89 then some (18, 0, 0, 68) else none)) else (bif Nat.ble 86 pc then (bif Nat.beq pc 86 then some (19, 4, 1, 89) else none) else (bif Nat.beq pc 85 then some (31, 0, 0, 86) else none))) else (bif Nat.ble 83 pc then (bif Nat.ble 84 pc then (bif Nat.beq pc 84 then some (1, 0, 0, 85) else none) else (bif Nat.beq pc 83 then some (6, 0, 0, 84) else none)) else (bif Nat.beq pc 81 then some (2, 4, 0, 83) else none))) else (bif Nat.ble 75 pc then (bif Nat.ble 79 pc then (bif Nat.ble 80 pc then (bif Nat.beq pc 80 then some (8, 0, 0, 81) else none) else (bif Nat.beq pc 79 then some (0, 4, 0, 80) else none)) else (bif Nat.ble 78 pc then (bif Nat.beq pc 78 then some (2, 3, 0, 79) else none) else (bif Nat.beq pc 75 then some (16, 4, 4, 78) else none))) else (bif Nat.ble 71 pc then (bif Nat.ble 74 pc then (bif Nat.beq pc 74 then some (3, 0, 0, 75) else none) else (bif Nat.beq pc 71 then some (59, 92, 0, 74) else none)) else (bif Nat.beq pc 70 then some (0, 4, 0, 71) else none)))) else (bif Nat.ble 57 pc then (bif Nat.ble 62 pc then (bif Nat.ble 66 pc then (bif Nat.ble 68 pc then (bif Nat.beq pc 68 then some (2, 4, 0, 70) else none) else (bif Nat.beq pc 66 then some (4, 4, 0, 68) else none)) else (bif Nat.ble 65 pc then (bif Nat.beq pc 65 then some (0, 0, 0, 66) else none) else (bif Nat.beq pc 62 then some (18, 0, 0, 32) else none))) else (bif Nat.ble 58 pc then (bif Nat.ble 59 pc then (bif Nat.beq pc 59 then some (19, 4, 1, 62) else none) else (bif Nat.beq pc 58 then some (31, 0, 0, 59) else none)) else (bif Nat.beq pc 57 then some (0, 0, 0, 58) else none))) else (bif Nat.ble 48 pc then (bif Nat.ble 53 pc then (bif Nat.ble 54 pc then (bif Nat.beq pc 54 then some (18, 0, 0, 58) else none) else (bif Nat.beq pc 53 then some (2, 2, 0, 54) else none)) else (bif Nat.ble 50 pc then (bif Nat.beq pc 50 then some (51, 57, 0, 53) else none) else (bif Nat.beq pc 48 then some (2, 4, 0, 50) else none))) else (bif Nat.ble 45 pc then (bif Nat.ble 47 pc then (bif Nat.beq pc 47 then some (6, 0, 0, 48) else none) else (bif Nat.beq pc 45 then some (2, 4, 0, 47) else none)) else (bif Nat.beq pc 44 then some (8, 0, 0, 45) else none))))) else (bif Nat.ble 22 pc then (bif Nat.ble 32 pc then (bif Nat.ble 38 pc then (bif Nat.ble 42 pc then (bif Nat.ble 43 pc then (bif Nat.beq pc 43 then some (0, 4, 0, 44) else none) else (bif Nat.beq pc 42 then some (2, 3, 0, 43) else none)) else (bif Nat.ble 39 pc then (bif Nat.beq pc 39 then some (16, 4, 3, 42) else none) else (bif Nat.beq pc 38 then some (3, 0, 0, 39) else none))) else (bif Nat.ble 34 pc then (bif Nat.ble 35 pc then (bif Nat.beq pc 35 then some (59, 65, 0, 38) else none) else (bif Nat.beq pc 34 then some (0, 4, 0, 35) else none)) else (bif Nat.beq pc 32 then some (2, 4, 0, 34) else none))) else (bif Nat.ble 27 pc then (bif Nat.ble 29 pc then (bif Nat.ble 30 pc then (bif Nat.beq pc 30 then some (4, 4, 0, 32) else none) else (bif Nat.beq pc 29 then some (0, 0, 0, 30) else none)) else (bif Nat.ble 28 pc then (bif Nat.beq pc 28 then some (31, 0, 0, 29) else none) else (bif Nat.beq pc 27 then some (0, 0, 0, 28) else none))) else (bif Nat.ble 23 pc then (bif Nat.ble 26 pc then (bif Nat.beq pc 26 then some (2, 3, 0, 27) else none) else (bif Nat.beq pc 23 then some (16, 4, 2, 26) else none)) else (bif Nat.beq pc 22 then some (3, 0, 0, 23) else none)))) else (bif Nat.ble 11 pc then (bif Nat.ble 16 pc then (bif Nat.ble 20 pc then (bif Nat.ble 21 pc then (bif Nat.beq pc 21 then some (31, 0, 0, 22) else none) else (bif Nat.beq pc 20 then some (2, 1, 0, 21) else none)) else (bif Nat.ble 19 pc then (bif Nat.beq pc 19 then some (2, 3, 0, 20) else none) else (bif Nat.beq pc 16 then some (16, 4, 1, 19) else none))) else (bif Nat.ble 12 pc then (bif Nat.ble 15 pc then (bif Nat.beq pc 15 then some (3, 0, 0, 16) else none) else (bif Nat.beq pc 12 then some (17, 4, 5, 15) else none)) else (bif Nat.beq pc 11 then some (6, 0, 0, 12) else none))) else (bif Nat.ble 5 pc then (bif Nat.ble 7 pc then (bif Nat.ble 10 pc then (bif Nat.beq pc 10 then some (0, 1, 0, 11) else none) else (bif Nat.beq pc 7 then some (16, 4, 5, 10) else none)) else (bif Nat.ble 6 pc then (bif Nat.beq pc 6 then some (14, 0, 0, 7) else none) else (bif Nat.beq pc 5 then some (3, 0, 0, 6) else none))) else (bif Nat.ble 1 pc then (bif Nat.ble 4 pc then (bif Nat.beq pc 4 then some (4, 3, 0, 5) else none) else (bif Nat.beq pc 1 then some (16, 4, 5, 4) else none)) else (bif Nat.beq pc 0 then some (3, 0, 0, 1) else none)))))
-- 83: ThrowFlow$Machine.giveAtEnds()V
def k_83 (pc : Nat) : Option PE := bif Nat.ble 16 pc then (bif Nat.ble 22 pc then (bif Nat.ble 28 pc then (bif Nat.ble 31 pc then (bif Nat.beq pc 31 then some (81, 0, 0, 0) else none) else (bif Nat.beq pc 28 then some (18, 0, 0, 5) else none)) else (bif Nat.ble 25 pc then (bif Nat.beq pc 25 then some (20, 1, 0, 28) else none) else (bif Nat.beq pc 22 then some (70, 93, 2, 25) else none))) else (bif Nat.ble 18 pc then (bif Nat.ble 19 pc then (bif Nat.beq pc 19 then some (70, 86, 2, 22) else none) else (bif Nat.beq pc 18 then some (0, 0, 0, 19) else none)) else (bif Nat.ble 17 pc then (bif Nat.beq pc 17 then some (3, 0, 0, 18) else none) else (bif Nat.beq pc 16 then some (3, 0, 0, 17) else none)))) else (bif Nat.ble 6 pc then (bif Nat.ble 10 pc then (bif Nat.ble 13 pc then (bif Nat.beq pc 13 then some (50, 31, 0, 16) else none) else (bif Nat.beq pc 10 then some (70, 84, 1, 13) else none)) else (bif Nat.ble 9 pc then (bif Nat.beq pc 9 then some (3, 0, 0, 10) else none) else (bif Nat.beq pc 6 then some (55, 31, 0, 9) else none))) else (bif Nat.ble 4 pc then (bif Nat.ble 5 pc then (bif Nat.beq pc 5 then some (2, 1, 0, 6) else none) else (bif Nat.beq pc 4 then some (4, 1, 0, 5) else none)) else (bif Nat.ble 1 pc then (bif Nat.beq pc 1 then some (16, 4, 5, 4) else none) else (bif Nat.beq pc 0 then some (3, 0, 0, 1) else none))))
-- 84: ThrowFlow$Machine.isAtEnd()Z
def k_84 (pc : Nat) : Option PE := bif Nat.ble 17 pc then (bif Nat.ble 25 pc then (bif Nat.ble 29 pc then (bif Nat.ble 32 pc then (bif Nat.ble 33 pc then (bif Nat.beq pc 33 then some (80, 2, 0, 0) else none) else (bif Nat.beq pc 32 then some (0, 0, 0, 33) else none)) else (bif Nat.beq pc 29 then some (18, 0, 0, 33) else none)) else (bif Nat.ble 28 pc then (bif Nat.beq pc 28 then some (0, 1, 0, 29) else none) else (bif Nat.beq pc 25 then some (58, 32, 0, 28) else none))) else (bif Nat.ble 19 pc then (bif Nat.ble 22 pc then (bif Nat.beq pc 22 then some (16, 5, 3, 25) else none) else (bif Nat.beq pc 19 then some (70, 85, 1, 22) else none)) else (bif Nat.ble 18 pc then (bif Nat.beq pc 18 then some (3, 0, 0, 19) else none) else (bif Nat.beq pc 17 then some (30, 0, 0, 18) else none)))) else (bif Nat.ble 8 pc then (bif Nat.ble 12 pc then (bif Nat.ble 15 pc then (bif Nat.ble 16 pc then (bif Nat.beq pc 16 then some (7, 0, 0, 17) else none) else (bif Nat.beq pc 15 then some (0, 1, 0, 16) else none)) else (bif Nat.beq pc 12 then some (16, 4, 5, 15) else none)) else (bif Nat.ble 11 pc then (bif Nat.beq pc 11 then some (3, 0, 0, 12) else none) else (bif Nat.beq pc 8 then some (16, 4, 2, 11) else none))) else (bif Nat.ble 4 pc then (bif Nat.ble 7 pc then (bif Nat.beq pc 7 then some (3, 0, 0, 8) else none) else (bif Nat.beq pc 4 then some (55, 32, 0, 7) else none)) else (bif Nat.ble 1 pc then (bif Nat.beq pc 1 then some (16, 4, 5, 4) else none) else (bif Nat.beq pc 0 then some (3, 0, 0, 1) else none))))
-- 85: ThrowFlow$Machine.body()LThrowFlow$Body;
def k_85 (pc : Nat) : Option PE := bif Nat.ble 12 pc then (bif Nat.ble 17 pc then (bif Nat.ble 18 pc then (bif Nat.ble 19 pc then (bif Nat.beq pc 19 then some (82, 0, 0, 0) else none) else (bif Nat.beq pc 18 then some (32, 0, 0, 19) else none)) else (bif Nat.beq pc 17 then some (30, 0, 0, 18) else none)) else (bif Nat.ble 15 pc then (bif Nat.ble 16 pc then (bif Nat.beq pc 16 then some (7, 0, 0, 17) else none) else (bif Nat.beq pc 15 then some (0, 1, 0, 16) else none)) else (bif Nat.beq pc 12 then some (16, 4, 5, 15) else none))) else (bif Nat.ble 7 pc then (bif Nat.ble 8 pc then (bif Nat.ble 11 pc then (bif Nat.beq pc 11 then some (3, 0, 0, 12) else none) else (bif Nat.beq pc 8 then some (16, 4, 1, 11) else none)) else (bif Nat.beq pc 7 then some (3, 0, 0, 8) else none)) else (bif Nat.ble 1 pc then (bif Nat.ble 4 pc then (bif Nat.beq pc 4 then some (16, 1, 1, 7) else none) else (bif Nat.beq pc 1 then some (16, 4, 0, 4) else none)) else (bif Nat.beq pc 0 then some (3, 0, 0, 1) else none)))
-- 86: ThrowFlow$Machine.content(I)I
def k_86 (pc : Nat) : Option PE := bif Nat.ble 10 pc then (bif Nat.ble 13 pc then (bif Nat.ble 14 pc then (bif Nat.ble 15 pc then (bif Nat.beq pc 15 then some (80, 1, 0, 0) else none) else (bif Nat.beq pc 14 then some (30, 0, 0, 15) else none)) else (bif Nat.beq pc 13 then some (6, 0, 0, 14) else none)) else (bif Nat.ble 11 pc then (bif Nat.ble 12 pc then (bif Nat.beq pc 12 then some (2, 1, 0, 13) else none) else (bif Nat.beq pc 11 then some (8, 0, 0, 12) else none)) else (bif Nat.beq pc 10 then some (0, 4, 0, 11) else none))) else (bif Nat.ble 5 pc then (bif Nat.ble 8 pc then (bif Nat.ble 9 pc then (bif Nat.beq pc 9 then some (7, 0, 0, 10) else none) else (bif Nat.beq pc 8 then some (0, 1, 0, 9) else none)) else (bif Nat.beq pc 5 then some (16, 4, 5, 8) else none)) else (bif Nat.ble 1 pc then (bif Nat.ble 4 pc then (bif Nat.beq pc 4 then some (3, 0, 0, 5) else none) else (bif Nat.beq pc 1 then some (16, 4, 3, 4) else none)) else (bif Nat.beq pc 0 then some (3, 0, 0, 1) else none)))
-- 87: ThrowFlow$Machine.doInstruction()V
def k_87 (pc : Nat) : Option PE := bif Nat.ble 122 pc then (bif Nat.ble 170 pc then (bif Nat.ble 191 pc then (bif Nat.ble 205 pc then (bif Nat.ble 208 pc then (bif Nat.ble 211 pc then (bif Nat.ble 214 pc then (bif Nat.beq pc 214 then some (81, 0, 0, 0) else none) else (bif Nat.beq pc 211 then some (70, 93, 2, 214) else none)) else (bif Nat.beq pc 208 then some (70, 86, 2, 211) else none)) else (bif Nat.ble 206 pc then (bif Nat.ble 207 pc then (bif Nat.beq pc 207 then some (2, 3, 0, 208) else none) else (bif Nat.beq pc 206 then some (3, 0, 0, 207) else none)) else (bif Nat.beq pc 205 then some (3, 0, 0, 206) else none))) else (bif Nat.ble 198 pc then (bif Nat.ble 199 pc then (bif Nat.ble 202 pc then (bif Nat.beq pc 202 then some (18, 0, 0, 214) else none) else (bif Nat.beq pc 199 then some (70, 94, 2, 202) else none)) else (bif Nat.beq pc 198 then some (2, 3, 0, 199) else none)) else (bif Nat.ble 194 pc then (bif Nat.ble 197 pc then (bif Nat.beq pc 197 then some (3, 0, 0, 198) else none) else (bif Nat.beq pc 194 then some (18, 0, 0, 214) else none)) else (bif Nat.beq pc 191 then some (70, 95, 2, 194) else none)))) else (bif Nat.ble 180 pc then (bif Nat.ble 186 pc then (bif Nat.ble 189 pc then (bif Nat.ble 190 pc then (bif Nat.beq pc 190 then some (2, 3, 0, 191) else none) else (bif Nat.beq pc 189 then some (3, 0, 0, 190) else none)) else (bif Nat.beq pc 186 then some (18, 0, 0, 214) else none)) else (bif Nat.ble 181 pc then (bif Nat.ble 183 pc then (bif Nat.beq pc 183 then some (70, 92, 3, 186) else none) else (bif Nat.beq pc 181 then some (2, 4, 0, 183) else none)) else (bif Nat.beq pc 180 then some (2, 3, 0, 181) else none))) else (bif Nat.ble 173 pc then (bif Nat.ble 176 pc then (bif Nat.ble 179 pc then (bif Nat.beq pc 179 then some (3, 0, 0, 180) else none) else (bif Nat.beq pc 176 then some (18, 0, 0, 214) else none)) else (bif Nat.beq pc 173 then some (70, 88, 2, 176) else none)) else (bif Nat.ble 171 pc then (bif Nat.ble 172 pc then (bif Nat.beq pc 172 then some (6, 0, 0, 173) else none) else (bif Nat.beq pc 171 then some (0, 1, 0, 172) else none)) else (bif Nat.beq pc 170 then some (2, 2, 0, 171) else none))))) else (bif Nat.ble 145 pc then (bif Nat.ble 157 pc then (bif Nat.ble 162 pc then (bif Nat.ble 165 pc then (bif Nat.ble 167 pc then (bif Nat.beq pc 167 then some (18, 0, 0, 173) else none) else (bif Nat.beq pc 165 then some (2, 4, 0, 167) else none)) else (bif Nat.beq pc 162 then some (51, 170, 0, 165) else none)) else (bif Nat.ble 158 pc then (bif Nat.ble 159 pc then (bif Nat.beq pc 159 then some (70, 86, 2, 162) else none) else (bif Nat.beq pc 158 then some (2, 3, 0, 159) else none)) else (bif Nat.beq pc 157 then some (3, 0, 0, 158) else none))) else (bif Nat.ble 150 pc then (bif Nat.ble 153 pc then (bif Nat.ble 156 pc then (bif Nat.beq pc 156 then some (3, 0, 0, 157) else none) else (bif Nat.beq pc 153 then some (18, 0, 0, 214) else none)) else (bif Nat.beq pc 150 then some (70, 88, 2, 153) else none)) else (bif Nat.ble 148 pc then (bif Nat.ble 149 pc then (bif Nat.beq pc 149 then some (2, 3, 0, 150) else none) else (bif Nat.beq pc 148 then some (3, 0, 0, 149) else none)) else (bif Nat.beq pc 145 then some (18, 0, 0, 214) else none)))) else (bif Nat.ble 132 pc then (bif Nat.ble 139 pc then (bif Nat.ble 140 pc then (bif Nat.ble 142 pc then (bif Nat.beq pc 142 then some (70, 91, 3, 145) else none) else (bif Nat.beq pc 140 then some (2, 4, 0, 142) else none)) else (bif Nat.beq pc 139 then some (2, 3, 0, 140) else none)) else (bif Nat.ble 135 pc then (bif Nat.ble 138 pc then (bif Nat.beq pc 138 then some (3, 0, 0, 139) else none) else (bif Nat.beq pc 135 then some (18, 0, 0, 214) else none)) else (bif Nat.beq pc 132 then some (70, 90, 3, 135) else none))) else (bif Nat.ble 126 pc then (bif Nat.ble 128 pc then (bif Nat.ble 131 pc then (bif Nat.beq pc 131 then some (7, 0, 0, 132) else none) else (bif Nat.beq pc 128 then some (70, 86, 2, 131) else none)) else (bif Nat.beq pc 126 then some (2, 4, 0, 128) else none)) else (bif Nat.ble 125 pc then (bif Nat.beq pc 125 then some (3, 0, 0, 126) else none) else (bif Nat.beq pc 122 then some (70, 86, 2, 125) else none)))))) else (bif Nat.ble 36 pc then (bif Nat.ble 101 pc then (bif Nat.ble 112 pc then (bif Nat.ble 119 pc then (bif Nat.ble 120 pc then (bif Nat.ble 121 pc then (bif Nat.beq pc 121 then some (2, 3, 0, 122) else none) else (bif Nat.beq pc 120 then some (3, 0, 0, 121) else none)) else (bif Nat.beq pc 119 then some (2, 3, 0, 120) else none)) else (bif Nat.ble 115 pc then (bif Nat.ble 118 pc then (bif Nat.beq pc 118 then some (3, 0, 0, 119) else none) else (bif Nat.beq pc 115 then some (18, 0, 0, 214) else none)) else (bif Nat.beq pc 112 then some (70, 90, 3, 115) else none))) else (bif Nat.ble 106 pc then (bif Nat.ble 108 pc then (bif Nat.ble 111 pc then (bif Nat.beq pc 111 then some (6, 0, 0, 112) else none) else (bif Nat.beq pc 108 then some (70, 86, 2, 111) else none)) else (bif Nat.beq pc 106 then some (2, 4, 0, 108) else none)) else (bif Nat.ble 102 pc then (bif Nat.ble 105 pc then (bif Nat.beq pc 105 then some (3, 0, 0, 106) else none) else (bif Nat.beq pc 102 then some (70, 86, 2, 105) else none)) else (bif Nat.beq pc 101 then some (2, 3, 0, 102) else none)))) else (bif Nat.ble 90 pc then (bif Nat.ble 98 pc then (bif Nat.ble 99 pc then (bif Nat.ble 100 pc then (bif Nat.beq pc 100 then some (3, 0, 0, 101) else none) else (bif Nat.beq pc 99 then some (2, 3, 0, 100) else none)) else (bif Nat.beq pc 98 then some (3, 0, 0, 99) else none)) else (bif Nat.ble 92 pc then (bif Nat.ble 95 pc then (bif Nat.beq pc 95 then some (18, 0, 0, 214) else none) else (bif Nat.beq pc 92 then some (70, 90, 3, 95) else none)) else (bif Nat.beq pc 90 then some (2, 4, 0, 92) else none))) else (bif Nat.ble 38 pc then (bif Nat.ble 88 pc then (bif Nat.ble 89 pc then (bif Nat.beq pc 89 then some (2, 3, 0, 90) else none) else (bif Nat.beq pc 88 then some (3, 0, 0, 89) else none)) else (bif Nat.beq pc 38 then some (62, 4, 205, 0) else none)) else (bif Nat.ble 37 pc then (bif Nat.beq pc 37 then some (30, 0, 0, 38) else none) else (bif Nat.beq pc 36 then some (2, 2, 0, 37) else none))))) else (bif Nat.ble 17 pc then (bif Nat.ble 25 pc then (bif Nat.ble 30 pc then (bif Nat.ble 32 pc then (bif Nat.ble 33 pc then (bif Nat.beq pc 33 then some (16, 5, 0, 36) else none) else (bif Nat.beq pc 32 then some (3, 1, 0, 33) else none)) else (bif Nat.beq pc 30 then some (4, 4, 0, 32) else none)) else (bif Nat.ble 28 pc then (bif Nat.ble 29 pc then (bif Nat.beq pc 29 then some (30, 0, 0, 30) else none) else (bif Nat.beq pc 28 then some (2, 2, 0, 29) else none)) else (bif Nat.beq pc 25 then some (16, 5, 2, 28) else none))) else (bif Nat.ble 22 pc then (bif Nat.ble 23 pc then (bif Nat.ble 24 pc then (bif Nat.beq pc 24 then some (3, 1, 0, 25) else none) else (bif Nat.beq pc 23 then some (4, 3, 0, 24) else none)) else (bif Nat.beq pc 22 then some (30, 0, 0, 23) else none)) else (bif Nat.ble 18 pc then (bif Nat.ble 21 pc then (bif Nat.beq pc 21 then some (2, 2, 0, 22) else none) else (bif Nat.beq pc 18 then some (16, 5, 1, 21) else none)) else (bif Nat.beq pc 17 then some (3, 1, 0, 18) else none)))) else (bif Nat.ble 9 pc then (bif Nat.ble 14 pc then (bif Nat.ble 15 pc then (bif Nat.ble 16 pc then (bif Nat.beq pc 16 then some (4, 2, 0, 17) else none) else (bif Nat.beq pc 15 then some (30, 0, 0, 16) else none)) else (bif Nat.beq pc 14 then some (7, 0, 0, 15) else none)) else (bif Nat.ble 10 pc then (bif Nat.ble 13 pc then (bif Nat.beq pc 13 then some (0, 1, 0, 14) else none) else (bif Nat.beq pc 10 then some (16, 4, 5, 13) else none)) else (bif Nat.beq pc 9 then some (3, 0, 0, 10) else none))) else (bif Nat.ble 4 pc then (bif Nat.ble 5 pc then (bif Nat.ble 6 pc then (bif Nat.beq pc 6 then some (16, 4, 2, 9) else none) else (bif Nat.beq pc 5 then some (3, 0, 0, 6) else none)) else (bif Nat.beq pc 4 then some (5, 1, 0, 5) else none)) else (bif Nat.ble 1 pc then (bif Nat.beq pc 1 then some (70, 85, 1, 4) else none) else (bif Nat.beq pc 0 then some (3, 0, 0, 1) else none))))))
-- 88: ThrowFlow$Machine.goTo(I)V
def k_88 (pc : Nat) : Option PE := bif Nat.ble 8 pc then (bif Nat.ble 10 pc then (bif Nat.ble 11 pc then (bif Nat.ble 12 pc then (bif Nat.beq pc 12 then some (81, 0, 0, 0) else none) else (bif Nat.beq pc 11 then some (31, 0, 0, 12) else none)) else (bif Nat.beq pc 10 then some (2, 1, 0, 11) else none)) else (bif Nat.ble 9 pc then (bif Nat.beq pc 9 then some (7, 0, 0, 10) else none) else (bif Nat.beq pc 8 then some (0, 1, 0, 9) else none))) else (bif Nat.ble 4 pc then (bif Nat.ble 5 pc then (bif Nat.beq pc 5 then some (16, 4, 5, 8) else none) else (bif Nat.beq pc 4 then some (3, 0, 0, 5) else none)) else (bif Nat.ble 1 pc then (bif Nat.beq pc 1 then some (16, 4, 2, 4) else none) else (bif Nat.beq pc 0 then some (3, 0, 0, 1) else none)))
-- 89: ThrowFlow$Machine.goOn()V
def k_89 (pc : Nat) : Option PE := bif Nat.ble 10 pc then (bif Nat.ble 13 pc then (bif Nat.ble 14 pc then (bif Nat.ble 15 pc then (bif Nat.beq pc 15 then some (81, 0, 0, 0) else none) else (bif Nat.beq pc 14 then some (31, 0, 0, 15) else none)) else (bif Nat.beq pc 13 then some (6, 0, 0, 14) else none)) else (bif Nat.ble 11 pc then (bif Nat.ble 12 pc then (bif Nat.beq pc 12 then some (0, 1, 0, 13) else none) else (bif Nat.beq pc 11 then some (30, 0, 0, 12) else none)) else (bif Nat.beq pc 10 then some (15, 0, 0, 11) else none))) else (bif Nat.ble 5 pc then (bif Nat.ble 8 pc then (bif Nat.ble 9 pc then (bif Nat.beq pc 9 then some (7, 0, 0, 10) else none) else (bif Nat.beq pc 8 then some (0, 1, 0, 9) else none)) else (bif Nat.beq pc 5 then some (16, 4, 5, 8) else none)) else (bif Nat.ble 1 pc then (bif Nat.ble 4 pc then (bif Nat.beq pc 4 then some (3, 0, 0, 5) else none) else (bif Nat.beq pc 1 then some (16, 4, 2, 4) else none)) else (bif Nat.beq pc 0 then some (3, 0, 0, 1) else none)))
-- 90: ThrowFlow$Machine.become(II)V
def k_90 (pc : Nat) : Option PE := bif Nat.ble 11 pc then (bif Nat.ble 15 pc then (bif Nat.ble 17 pc then (bif Nat.ble 20 pc then (bif Nat.beq pc 20 then some (81, 0, 0, 0) else none) else (bif Nat.beq pc 17 then some (70, 89, 1, 20) else none)) else (bif Nat.ble 16 pc then (bif Nat.beq pc 16 then some (3, 0, 0, 17) else none) else (bif Nat.beq pc 15 then some (31, 0, 0, 16) else none))) else (bif Nat.ble 13 pc then (bif Nat.ble 14 pc then (bif Nat.beq pc 14 then some (2, 2, 0, 15) else none) else (bif Nat.beq pc 13 then some (6, 0, 0, 14) else none)) else (bif Nat.ble 12 pc then (bif Nat.beq pc 12 then some (2, 1, 0, 13) else none) else (bif Nat.beq pc 11 then some (8, 0, 0, 12) else none)))) else (bif Nat.ble 5 pc then (bif Nat.ble 9 pc then (bif Nat.ble 10 pc then (bif Nat.beq pc 10 then some (0, 4, 0, 11) else none) else (bif Nat.beq pc 9 then some (7, 0, 0, 10) else none)) else (bif Nat.ble 8 pc then (bif Nat.beq pc 8 then some (0, 1, 0, 9) else none) else (bif Nat.beq pc 5 then some (16, 4, 5, 8) else none))) else (bif Nat.ble 1 pc then (bif Nat.ble 4 pc then (bif Nat.beq pc 4 then some (3, 0, 0, 5) else none) else (bif Nat.beq pc 1 then some (16, 4, 3, 4) else none)) else (bif Nat.beq pc 0 then some (3, 0, 0, 1) else none)))
-- 91: ThrowFlow$Machine.divide(II)V
def k_91 (pc : Nat) : Option PE := bif Nat.ble 15 pc then (bif Nat.ble 22 pc then (bif Nat.ble 26 pc then (bif Nat.ble 27 pc then (bif Nat.ble 30 pc then (bif Nat.beq pc 30 then some (81, 0, 0, 0) else none) else (bif Nat.beq pc 27 then some (70, 90, 3, 30) else none)) else (bif Nat.beq pc 26 then some (33, 0, 0, 27) else none)) else (bif Nat.ble 25 pc then (bif Nat.beq pc 25 then some (2, 3, 0, 26) else none) else (bif Nat.beq pc 22 then some (70, 86, 2, 25) else none))) else (bif Nat.ble 19 pc then (bif Nat.ble 20 pc then (bif Nat.ble 21 pc then (bif Nat.beq pc 21 then some (2, 1, 0, 22) else none) else (bif Nat.beq pc 20 then some (3, 0, 0, 21) else none)) else (bif Nat.beq pc 19 then some (2, 1, 0, 20) else none)) else (bif Nat.ble 18 pc then (bif Nat.beq pc 18 then some (3, 0, 0, 19) else none) else (bif Nat.beq pc 15 then some (18, 0, 0, 30) else none)))) else (bif Nat.ble 6 pc then (bif Nat.ble 10 pc then (bif Nat.ble 11 pc then (bif Nat.ble 12 pc then (bif Nat.beq pc 12 then some (70, 95, 2, 15) else none) else (bif Nat.beq pc 11 then some (0, 1, 0, 12) else none)) else (bif Nat.beq pc 10 then some (3, 0, 0, 11) else none)) else (bif Nat.ble 7 pc then (bif Nat.beq pc 7 then some (51, 18, 0, 10) else none) else (bif Nat.beq pc 6 then some (2, 3, 0, 7) else none))) else (bif Nat.ble 2 pc then (bif Nat.ble 5 pc then (bif Nat.beq pc 5 then some (4, 3, 0, 6) else none) else (bif Nat.beq pc 2 then some (70, 86, 2, 5) else none)) else (bif Nat.ble 1 pc then (bif Nat.beq pc 1 then some (2, 2, 0, 2) else none) else (bif Nat.beq pc 0 then some (3, 0, 0, 1) else none))))
-- 92: ThrowFlow$Machine.callMethod(II)V
def k_92 (pc : Nat) : Option PE := bif Nat.ble 25 pc then (bif Nat.ble 35 pc then (bif Nat.ble 42 pc then (bif Nat.ble 44 pc then (bif Nat.ble 47 pc then (bif Nat.beq pc 47 then some (81, 0, 0, 0) else none) else (bif Nat.beq pc 44 then some (70, 90, 3, 47) else none)) else (bif Nat.ble 43 pc then (bif Nat.beq pc 43 then some (0, 0, 0, 44) else none) else (bif Nat.beq pc 42 then some (2, 1, 0, 43) else none))) else (bif Nat.ble 38 pc then (bif Nat.ble 41 pc then (bif Nat.beq pc 41 then some (3, 0, 0, 42) else none) else (bif Nat.beq pc 38 then some (18, 0, 0, 47) else none)) else (bif Nat.beq pc 35 then some (70, 82, 3, 38) else none))) else (bif Nat.ble 30 pc then (bif Nat.ble 31 pc then (bif Nat.ble 32 pc then (bif Nat.beq pc 32 then some (70, 86, 2, 35) else none) else (bif Nat.beq pc 31 then some (2, 1, 0, 32) else none)) else (bif Nat.beq pc 30 then some (3, 0, 0, 31) else none)) else (bif Nat.ble 28 pc then (bif Nat.ble 29 pc then (bif Nat.beq pc 29 then some (2, 2, 0, 30) else none) else (bif Nat.beq pc 28 then some (3, 0, 0, 29) else none)) else (bif Nat.beq pc 25 then some (50, 41, 0, 28) else none)))) else (bif Nat.ble 11 pc then (bif Nat.ble 18 pc then (bif Nat.ble 21 pc then (bif Nat.ble 22 pc then (bif Nat.beq pc 22 then some (70, 98, 2, 25) else none) else (bif Nat.beq pc 21 then some (2, 2, 0, 22) else none)) else (bif Nat.beq pc 18 then some (16, 4, 0, 21) else none)) else (bif Nat.ble 14 pc then (bif Nat.ble 17 pc then (bif Nat.beq pc 17 then some (3, 0, 0, 18) else none) else (bif Nat.beq pc 14 then some (18, 0, 0, 47) else none)) else (bif Nat.beq pc 11 then some (70, 95, 2, 14) else none))) else (bif Nat.ble 6 pc then (bif Nat.ble 9 pc then (bif Nat.ble 10 pc then (bif Nat.beq pc 10 then some (0, 2, 0, 11) else none) else (bif Nat.beq pc 9 then some (3, 0, 0, 10) else none)) else (bif Nat.beq pc 6 then some (58, 17, 0, 9) else none)) else (bif Nat.ble 1 pc then (bif Nat.ble 4 pc then (bif Nat.beq pc 4 then some (0, 12, 0, 6) else none) else (bif Nat.beq pc 1 then some (16, 4, 5, 4) else none)) else (bif Nat.beq pc 0 then some (3, 0, 0, 1) else none))))
-- 93: ThrowFlow$Machine.giveBack(I)V
def k_93 (pc : Nat) : Option PE := bif Nat.ble 26 pc then (bif Nat.ble 41 pc then (bif Nat.ble 44 pc then (bif Nat.ble 46 pc then (bif Nat.ble 49 pc then (bif Nat.beq pc 49 then some (81, 0, 0, 0) else none) else (bif Nat.beq pc 46 then some (70, 90, 3, 49) else none)) else (bif Nat.ble 45 pc then (bif Nat.beq pc 45 then some (2, 1, 0, 46) else none) else (bif Nat.beq pc 44 then some (30, 0, 0, 45) else none))) else (bif Nat.ble 42 pc then (bif Nat.ble 43 pc then (bif Nat.beq pc 43 then some (30, 0, 0, 44) else none) else (bif Nat.beq pc 42 then some (7, 0, 0, 43) else none)) else (bif Nat.beq pc 41 then some (0, 1, 0, 42) else none))) else (bif Nat.ble 33 pc then (bif Nat.ble 37 pc then (bif Nat.ble 38 pc then (bif Nat.beq pc 38 then some (16, 4, 5, 41) else none) else (bif Nat.beq pc 37 then some (3, 0, 0, 38) else none)) else (bif Nat.ble 34 pc then (bif Nat.beq pc 34 then some (16, 4, 2, 37) else none) else (bif Nat.beq pc 33 then some (3, 0, 0, 34) else none))) else (bif Nat.ble 27 pc then (bif Nat.ble 30 pc then (bif Nat.beq pc 30 then some (16, 5, 1, 33) else none) else (bif Nat.beq pc 27 then some (70, 85, 1, 30) else none)) else (bif Nat.beq pc 26 then some (3, 0, 0, 27) else none)))) else (bif Nat.ble 11 pc then (bif Nat.ble 18 pc then (bif Nat.ble 22 pc then (bif Nat.ble 25 pc then (bif Nat.beq pc 25 then some (3, 0, 0, 26) else none) else (bif Nat.beq pc 22 then some (18, 0, 0, 49) else none)) else (bif Nat.ble 19 pc then (bif Nat.beq pc 19 then some (17, 4, 7, 22) else none) else (bif Nat.beq pc 18 then some (2, 1, 0, 19) else none))) else (bif Nat.ble 14 pc then (bif Nat.ble 17 pc then (bif Nat.beq pc 17 then some (3, 0, 0, 18) else none) else (bif Nat.beq pc 14 then some (51, 25, 0, 17) else none)) else (bif Nat.beq pc 11 then some (16, 4, 5, 14) else none))) else (bif Nat.ble 5 pc then (bif Nat.ble 7 pc then (bif Nat.ble 10 pc then (bif Nat.beq pc 10 then some (3, 0, 0, 11) else none) else (bif Nat.beq pc 7 then some (17, 4, 5, 10) else none)) else (bif Nat.ble 6 pc then (bif Nat.beq pc 6 then some (7, 0, 0, 7) else none) else (bif Nat.beq pc 5 then some (0, 1, 0, 6) else none))) else (bif Nat.ble 1 pc then (bif Nat.ble 2 pc then (bif Nat.beq pc 2 then some (16, 4, 5, 5) else none) else (bif Nat.beq pc 1 then some (14, 0, 0, 2) else none)) else (bif Nat.beq pc 0 then some (3, 0, 0, 1) else none))))
-- 94: ThrowFlow$Machine.throwAgain(I)V
def k_94 (pc : Nat) : Option PE := bif Nat.ble 15 pc then (bif Nat.ble 22 pc then (bif Nat.ble 29 pc then (bif Nat.ble 30 pc then (bif Nat.ble 33 pc then (bif Nat.beq pc 33 then some (81, 0, 0, 0) else none) else (bif Nat.beq pc 30 then some (70, 95, 2, 33) else none)) else (bif Nat.beq pc 29 then some (2, 2, 0, 30) else none)) else (bif Nat.ble 25 pc then (bif Nat.ble 28 pc then (bif Nat.beq pc 28 then some (3, 0, 0, 29) else none) else (bif Nat.beq pc 25 then some (18, 0, 0, 33) else none)) else (bif Nat.beq pc 22 then some (70, 89, 1, 25) else none))) else (bif Nat.ble 17 pc then (bif Nat.ble 18 pc then (bif Nat.ble 21 pc then (bif Nat.beq pc 21 then some (3, 0, 0, 22) else none) else (bif Nat.beq pc 18 then some (57, 28, 0, 21) else none)) else (bif Nat.beq pc 17 then some (1, 0, 0, 18) else none)) else (bif Nat.ble 16 pc then (bif Nat.beq pc 16 then some (2, 2, 0, 17) else none) else (bif Nat.beq pc 15 then some (4, 2, 0, 16) else none)))) else (bif Nat.ble 9 pc then (bif Nat.ble 12 pc then (bif Nat.ble 13 pc then (bif Nat.ble 14 pc then (bif Nat.beq pc 14 then some (30, 0, 0, 15) else none) else (bif Nat.beq pc 13 then some (6, 0, 0, 14) else none)) else (bif Nat.beq pc 12 then some (2, 1, 0, 13) else none)) else (bif Nat.ble 10 pc then (bif Nat.ble 11 pc then (bif Nat.beq pc 11 then some (8, 0, 0, 12) else none) else (bif Nat.beq pc 10 then some (0, 4, 0, 11) else none)) else (bif Nat.beq pc 9 then some (7, 0, 0, 10) else none))) else (bif Nat.ble 4 pc then (bif Nat.ble 5 pc then (bif Nat.ble 8 pc then (bif Nat.beq pc 8 then some (0, 1, 0, 9) else none) else (bif Nat.beq pc 5 then some (16, 4, 5, 8) else none)) else (bif Nat.beq pc 4 then some (3, 0, 0, 5) else none)) else (bif Nat.ble 1 pc then (bif Nat.beq pc 1 then some (16, 4, 4, 4) else none) else (bif Nat.beq pc 0 then some (3, 0, 0, 1) else none))))
-- 95: ThrowFlow$Machine.throwHere(I)V
def k_95 (pc : Nat) : Option PE := bif Nat.ble 46 pc then (bif Nat.ble 63 pc then (bif Nat.ble 74 pc then (bif Nat.ble 81 pc then (bif Nat.ble 83 pc then (bif Nat.ble 86 pc then (bif Nat.beq pc 86 then some (81, 0, 0, 0) else none) else (bif Nat.beq pc 83 then some (17, 4, 8, 86) else none)) else (bif Nat.ble 82 pc then (bif Nat.beq pc 82 then some (2, 1, 0, 83) else none) else (bif Nat.beq pc 81 then some (3, 0, 0, 82) else none))) else (bif Nat.ble 75 pc then (bif Nat.ble 78 pc then (bif Nat.beq pc 78 then some (18, 0, 0, 0) else none) else (bif Nat.beq pc 75 then some (17, 4, 5, 78) else none)) else (bif Nat.beq pc 74 then some (7, 0, 0, 75) else none))) else (bif Nat.ble 68 pc then (bif Nat.ble 70 pc then (bif Nat.ble 73 pc then (bif Nat.beq pc 73 then some (0, 1, 0, 74) else none) else (bif Nat.beq pc 70 then some (16, 4, 5, 73) else none)) else (bif Nat.ble 69 pc then (bif Nat.beq pc 69 then some (14, 0, 0, 70) else none) else (bif Nat.beq pc 68 then some (3, 0, 0, 69) else none))) else (bif Nat.ble 64 pc then (bif Nat.ble 67 pc then (bif Nat.beq pc 67 then some (81, 0, 0, 0) else none) else (bif Nat.beq pc 64 then some (70, 88, 2, 67) else none)) else (bif Nat.beq pc 63 then some (30, 0, 0, 64) else none)))) else (bif Nat.ble 54 pc then (bif Nat.ble 57 pc then (bif Nat.ble 59 pc then (bif Nat.ble 62 pc then (bif Nat.beq pc 62 then some (2, 3, 0, 63) else none) else (bif Nat.beq pc 59 then some (16, 5, 7, 62) else none)) else (bif Nat.ble 58 pc then (bif Nat.beq pc 58 then some (3, 2, 0, 59) else none) else (bif Nat.beq pc 57 then some (3, 0, 0, 58) else none))) else (bif Nat.ble 55 pc then (bif Nat.ble 56 pc then (bif Nat.beq pc 56 then some (31, 0, 0, 57) else none) else (bif Nat.beq pc 55 then some (2, 1, 0, 56) else none)) else (bif Nat.beq pc 54 then some (6, 0, 0, 55) else none))) else (bif Nat.ble 51 pc then (bif Nat.ble 52 pc then (bif Nat.ble 53 pc then (bif Nat.beq pc 53 then some (2, 3, 0, 54) else none) else (bif Nat.beq pc 52 then some (8, 0, 0, 53) else none)) else (bif Nat.beq pc 51 then some (0, 4, 0, 52) else none)) else (bif Nat.ble 49 pc then (bif Nat.ble 50 pc then (bif Nat.beq pc 50 then some (7, 0, 0, 51) else none) else (bif Nat.beq pc 49 then some (0, 1, 0, 50) else none)) else (bif Nat.beq pc 46 then some (16, 4, 5, 49) else none))))) else (bif Nat.ble 23 pc then (bif Nat.ble 35 pc then (bif Nat.ble 38 pc then (bif Nat.ble 42 pc then (bif Nat.ble 45 pc then (bif Nat.beq pc 45 then some (3, 0, 0, 46) else none) else (bif Nat.beq pc 42 then some (16, 4, 4, 45) else none)) else (bif Nat.ble 41 pc then (bif Nat.beq pc 41 then some (3, 0, 0, 42) else none) else (bif Nat.beq pc 38 then some (56, 68, 0, 41) else none))) else (bif Nat.ble 36 pc then (bif Nat.ble 37 pc then (bif Nat.beq pc 37 then some (1, 0, 0, 38) else none) else (bif Nat.beq pc 36 then some (2, 3, 0, 37) else none)) else (bif Nat.beq pc 35 then some (4, 3, 0, 36) else none))) else (bif Nat.ble 26 pc then (bif Nat.ble 29 pc then (bif Nat.ble 32 pc then (bif Nat.beq pc 32 then some (70, 58, 4, 35) else none) else (bif Nat.beq pc 29 then some (16, 1, 0, 32) else none)) else (bif Nat.beq pc 26 then some (16, 4, 0, 29) else none)) else (bif Nat.ble 24 pc then (bif Nat.ble 25 pc then (bif Nat.beq pc 25 then some (3, 0, 0, 26) else none) else (bif Nat.beq pc 24 then some (2, 1, 0, 25) else none)) else (bif Nat.beq pc 23 then some (30, 0, 0, 24) else none)))) else (bif Nat.ble 12 pc then (bif Nat.ble 17 pc then (bif Nat.ble 21 pc then (bif Nat.ble 22 pc then (bif Nat.beq pc 22 then some (7, 0, 0, 23) else none) else (bif Nat.beq pc 21 then some (0, 1, 0, 22) else none)) else (bif Nat.ble 18 pc then (bif Nat.beq pc 18 then some (16, 4, 5, 21) else none) else (bif Nat.beq pc 17 then some (3, 0, 0, 18) else none))) else (bif Nat.ble 13 pc then (bif Nat.ble 14 pc then (bif Nat.beq pc 14 then some (16, 4, 2, 17) else none) else (bif Nat.beq pc 13 then some (3, 0, 0, 14) else none)) else (bif Nat.beq pc 12 then some (3, 2, 0, 13) else none))) else (bif Nat.ble 7 pc then (bif Nat.ble 8 pc then (bif Nat.ble 11 pc then (bif Nat.beq pc 11 then some (5, 2, 0, 12) else none) else (bif Nat.beq pc 8 then some (70, 85, 1, 11) else none)) else (bif Nat.beq pc 7 then some (3, 0, 0, 8) else none)) else (bif Nat.ble 1 pc then (bif Nat.ble 4 pc then (bif Nat.beq pc 4 then some (55, 81, 0, 7) else none) else (bif Nat.beq pc 1 then some (16, 4, 5, 4) else none)) else (bif Nat.beq pc 0 then some (3, 0, 0, 1) else none)))))
-- 96: ThrowFlow$Text.isFull()Z
def k_96 (pc : Nat) : Option PE := bif Nat.ble 9 pc then (bif Nat.ble 13 pc then (bif Nat.ble 14 pc then (bif Nat.beq pc 14 then some (80, 2, 0, 0) else none) else (bif Nat.beq pc 13 then some (0, 0, 0, 14) else none)) else (bif Nat.ble 10 pc then (bif Nat.beq pc 10 then some (18, 0, 0, 14) else none) else (bif Nat.beq pc 9 then some (0, 1, 0, 10) else none))) else (bif Nat.ble 4 pc then (bif Nat.ble 6 pc then (bif Nat.beq pc 6 then some (58, 13, 0, 9) else none) else (bif Nat.beq pc 4 then some (0, 8, 0, 6) else none)) else (bif Nat.ble 1 pc then (bif Nat.beq pc 1 then some (16, 1, 2, 4) else none) else (bif Nat.beq pc 0 then some (3, 0, 0, 1) else none)))
-- 97: ThrowFlow$Text.appendMethod()I
def k_97 (pc : Nat) : Option PE := bif Nat.ble 7 pc then (bif Nat.ble 12 pc then (bif Nat.ble 15 pc then (bif Nat.ble 16 pc then (bif Nat.beq pc 16 then some (80, 1, 0, 0) else none) else (bif Nat.beq pc 15 then some (2, 1, 0, 16) else none)) else (bif Nat.beq pc 12 then some (17, 1, 2, 15) else none)) else (bif Nat.ble 10 pc then (bif Nat.ble 11 pc then (bif Nat.beq pc 11 then some (6, 0, 0, 12) else none) else (bif Nat.beq pc 10 then some (0, 1, 0, 11) else none)) else (bif Nat.beq pc 7 then some (16, 1, 2, 10) else none))) else (bif Nat.ble 4 pc then (bif Nat.ble 5 pc then (bif Nat.ble 6 pc then (bif Nat.beq pc 6 then some (14, 0, 0, 7) else none) else (bif Nat.beq pc 5 then some (3, 0, 0, 6) else none)) else (bif Nat.beq pc 4 then some (4, 1, 0, 5) else none)) else (bif Nat.ble 1 pc then (bif Nat.beq pc 1 then some (16, 1, 2, 4) else none) else (bif Nat.beq pc 0 then some (3, 0, 0, 1) else none)))
-- 98: ThrowFlow$Text.hasMethod(I)Z
def k_98 (pc : Nat) : Option PE := bif Nat.ble 9 pc then (bif Nat.ble 13 pc then (bif Nat.ble 16 pc then (bif Nat.ble 17 pc then (bif Nat.beq pc 17 then some (80, 2, 0, 0) else none) else (bif Nat.beq pc 16 then some (0, 0, 0, 17) else none)) else (bif Nat.beq pc 13 then some (18, 0, 0, 17) else none)) else (bif Nat.ble 12 pc then (bif Nat.beq pc 12 then some (0, 1, 0, 13) else none) else (bif Nat.beq pc 9 then some (59, 16, 0, 12) else none))) else (bif Nat.ble 4 pc then (bif Nat.ble 5 pc then (bif Nat.ble 6 pc then (bif Nat.beq pc 6 then some (16, 1, 2, 9) else none) else (bif Nat.beq pc 5 then some (3, 0, 0, 6) else none)) else (bif Nat.beq pc 4 then some (2, 1, 0, 5) else none)) else (bif Nat.ble 1 pc then (bif Nat.beq pc 1 then some (52, 16, 0, 4) else none) else (bif Nat.beq pc 0 then some (2, 1, 0, 1) else none)))
-- 99: ThrowFlow$Text.hasInstruction(II)Z
def k_99 (pc : Nat) : Option PE := bif Nat.ble 14 pc then (bif Nat.ble 22 pc then (bif Nat.ble 26 pc then (bif Nat.ble 29 pc then (bif Nat.ble 30 pc then (bif Nat.beq pc 30 then some (80, 2, 0, 0) else none) else (bif Nat.beq pc 29 then some (0, 0, 0, 30) else none)) else (bif Nat.beq pc 26 then some (18, 0, 0, 30) else none)) else (bif Nat.ble 25 pc then (bif Nat.beq pc 25 then some (0, 1, 0, 26) else none) else (bif Nat.beq pc 22 then some (59, 29, 0, 25) else none))) else (bif Nat.ble 18 pc then (bif Nat.ble 19 pc then (bif Nat.beq pc 19 then some (16, 5, 3, 22) else none) else (bif Nat.beq pc 18 then some (32, 0, 0, 19) else none)) else (bif Nat.ble 17 pc then (bif Nat.beq pc 17 then some (2, 1, 0, 18) else none) else (bif Nat.beq pc 14 then some (16, 1, 1, 17) else none)))) else (bif Nat.ble 8 pc then (bif Nat.ble 12 pc then (bif Nat.ble 13 pc then (bif Nat.beq pc 13 then some (3, 0, 0, 14) else none) else (bif Nat.beq pc 12 then some (2, 2, 0, 13) else none)) else (bif Nat.ble 9 pc then (bif Nat.beq pc 9 then some (52, 29, 0, 12) else none) else (bif Nat.beq pc 8 then some (2, 2, 0, 9) else none))) else (bif Nat.ble 2 pc then (bif Nat.ble 5 pc then (bif Nat.beq pc 5 then some (50, 29, 0, 8) else none) else (bif Nat.beq pc 2 then some (70, 98, 2, 5) else none)) else (bif Nat.ble 1 pc then (bif Nat.beq pc 1 then some (2, 1, 0, 2) else none) else (bif Nat.beq pc 0 then some (3, 0, 0, 1) else none))))
-- 100: ThrowFlow$Text.hasHandler(II)Z
def k_100 (pc : Nat) : Option PE := bif Nat.ble 14 pc then (bif Nat.ble 22 pc then (bif Nat.ble 26 pc then (bif Nat.ble 29 pc then (bif Nat.ble 30 pc then (bif Nat.beq pc 30 then some (80, 2, 0, 0) else none) else (bif Nat.beq pc 29 then some (0, 0, 0, 30) else none)) else (bif Nat.beq pc 26 then some (18, 0, 0, 30) else none)) else (bif Nat.ble 25 pc then (bif Nat.beq pc 25 then some (0, 1, 0, 26) else none) else (bif Nat.beq pc 22 then some (59, 29, 0, 25) else none))) else (bif Nat.ble 18 pc then (bif Nat.ble 19 pc then (bif Nat.beq pc 19 then some (16, 5, 8, 22) else none) else (bif Nat.beq pc 18 then some (32, 0, 0, 19) else none)) else (bif Nat.ble 17 pc then (bif Nat.beq pc 17 then some (2, 1, 0, 18) else none) else (bif Nat.beq pc 14 then some (16, 1, 1, 17) else none)))) else (bif Nat.ble 8 pc then (bif Nat.ble 12 pc then (bif Nat.ble 13 pc then (bif Nat.beq pc 13 then some (3, 0, 0, 14) else none) else (bif Nat.beq pc 12 then some (2, 2, 0, 13) else none)) else (bif Nat.ble 9 pc then (bif Nat.beq pc 9 then some (52, 29, 0, 12) else none) else (bif Nat.beq pc 8 then some (2, 2, 0, 9) else none))) else (bif Nat.ble 2 pc then (bif Nat.ble 5 pc then (bif Nat.beq pc 5 then some (50, 29, 0, 8) else none) else (bif Nat.beq pc 2 then some (70, 98, 2, 5) else none)) else (bif Nat.ble 1 pc then (bif Nat.beq pc 1 then some (2, 1, 0, 2) else none) else (bif Nat.beq pc 0 then some (3, 0, 0, 1) else none))))
-- 101: ThrowFlow$Text.allows(III)Z
def k_101 (pc : Nat) : Option PE := bif Nat.ble 106 pc then (bif Nat.ble 133 pc then (bif Nat.ble 144 pc then (bif Nat.ble 151 pc then (bif Nat.ble 153 pc then (bif Nat.ble 154 pc then (bif Nat.beq pc 154 then some (80, 2, 0, 0) else none) else (bif Nat.beq pc 153 then some (0, 0, 0, 154) else none)) else (bif Nat.ble 152 pc then (bif Nat.beq pc 152 then some (80, 2, 0, 0) else none) else (bif Nat.beq pc 151 then some (0, 0, 0, 152) else none))) else (bif Nat.ble 147 pc then (bif Nat.ble 148 pc then (bif Nat.beq pc 148 then some (18, 0, 0, 152) else none) else (bif Nat.beq pc 147 then some (0, 1, 0, 148) else none)) else (bif Nat.beq pc 144 then some (59, 151, 0, 147) else none))) else (bif Nat.ble 138 pc then (bif Nat.ble 142 pc then (bif Nat.ble 143 pc then (bif Nat.beq pc 143 then some (0, 4, 0, 144) else none) else (bif Nat.beq pc 142 then some (2, 2, 0, 143) else none)) else (bif Nat.ble 139 pc then (bif Nat.beq pc 139 then some (52, 151, 0, 142) else none) else (bif Nat.beq pc 138 then some (2, 2, 0, 139) else none))) else (bif Nat.ble 134 pc then (bif Nat.ble 137 pc then (bif Nat.beq pc 137 then some (80, 2, 0, 0) else none) else (bif Nat.beq pc 134 then some (70, 76, 2, 137) else none)) else (bif Nat.beq pc 133 then some (2, 2, 0, 134) else none)))) else (bif Nat.ble 120 pc then (bif Nat.ble 127 pc then (bif Nat.ble 129 pc then (bif Nat.ble 130 pc then (bif Nat.beq pc 130 then some (16, 1, 0, 133) else none) else (bif Nat.beq pc 129 then some (3, 0, 0, 130) else none)) else (bif Nat.ble 128 pc then (bif Nat.beq pc 128 then some (80, 2, 0, 0) else none) else (bif Nat.beq pc 127 then some (0, 0, 0, 128) else none))) else (bif Nat.ble 123 pc then (bif Nat.ble 124 pc then (bif Nat.beq pc 124 then some (18, 0, 0, 128) else none) else (bif Nat.beq pc 123 then some (0, 1, 0, 124) else none)) else (bif Nat.beq pc 120 then some (59, 127, 0, 123) else none))) else (bif Nat.ble 113 pc then (bif Nat.ble 117 pc then (bif Nat.ble 118 pc then (bif Nat.beq pc 118 then some (0, 8, 0, 120) else none) else (bif Nat.beq pc 117 then some (2, 3, 0, 118) else none)) else (bif Nat.ble 114 pc then (bif Nat.beq pc 114 then some (52, 127, 0, 117) else none) else (bif Nat.beq pc 113 then some (2, 3, 0, 114) else none))) else (bif Nat.ble 107 pc then (bif Nat.ble 110 pc then (bif Nat.beq pc 110 then some (50, 127, 0, 113) else none) else (bif Nat.beq pc 107 then some (70, 103, 1, 110) else none)) else (bif Nat.beq pc 106 then some (2, 2, 0, 107) else none))))) else (bif Nat.ble 80 pc then (bif Nat.ble 93 pc then (bif Nat.ble 100 pc then (bif Nat.ble 104 pc then (bif Nat.ble 105 pc then (bif Nat.beq pc 105 then some (80, 2, 0, 0) else none) else (bif Nat.beq pc 104 then some (0, 0, 0, 105) else none)) else (bif Nat.ble 101 pc then (bif Nat.beq pc 101 then some (18, 0, 0, 105) else none) else (bif Nat.beq pc 100 then some (0, 1, 0, 101) else none))) else (bif Nat.ble 94 pc then (bif Nat.ble 97 pc then (bif Nat.beq pc 97 then some (50, 104, 0, 100) else none) else (bif Nat.beq pc 94 then some (70, 104, 1, 97) else none)) else (bif Nat.beq pc 93 then some (2, 3, 0, 94) else none))) else (bif Nat.ble 85 pc then (bif Nat.ble 87 pc then (bif Nat.ble 90 pc then (bif Nat.beq pc 90 then some (50, 104, 0, 93) else none) else (bif Nat.beq pc 87 then some (70, 103, 1, 90) else none)) else (bif Nat.ble 86 pc then (bif Nat.beq pc 86 then some (2, 2, 0, 87) else none) else (bif Nat.beq pc 85 then some (80, 2, 0, 0) else none))) else (bif Nat.ble 81 pc then (bif Nat.ble 82 pc then (bif Nat.beq pc 82 then some (70, 104, 1, 85) else none) else (bif Nat.beq pc 81 then some (2, 2, 0, 82) else none)) else (bif Nat.beq pc 80 then some (80, 2, 0, 0) else none)))) else (bif Nat.ble 65 pc then (bif Nat.ble 72 pc then (bif Nat.ble 76 pc then (bif Nat.ble 79 pc then (bif Nat.beq pc 79 then some (0, 0, 0, 80) else none) else (bif Nat.beq pc 76 then some (18, 0, 0, 80) else none)) else (bif Nat.ble 75 pc then (bif Nat.beq pc 75 then some (0, 1, 0, 76) else none) else (bif Nat.beq pc 72 then some (50, 79, 0, 75) else none))) else (bif Nat.ble 68 pc then (bif Nat.ble 69 pc then (bif Nat.beq pc 69 then some (70, 103, 1, 72) else none) else (bif Nat.beq pc 68 then some (2, 3, 0, 69) else none)) else (bif Nat.beq pc 65 then some (50, 79, 0, 68) else none))) else (bif Nat.ble 57 pc then (bif Nat.ble 61 pc then (bif Nat.ble 62 pc then (bif Nat.beq pc 62 then some (70, 103, 1, 65) else none) else (bif Nat.beq pc 61 then some (2, 2, 0, 62) else none)) else (bif Nat.ble 60 pc then (bif Nat.beq pc 60 then some (80, 2, 0, 0) else none) else (bif Nat.beq pc 57 then some (70, 103, 1, 60) else none))) else (bif Nat.ble 1 pc then (bif Nat.ble 56 pc then (bif Nat.beq pc 56 then some (2, 2, 0, 57) else none) else (bif Nat.beq pc 1 then some (62, 5, 153, 0) else none)) else (bif Nat.beq pc 0 then some (2, 1, 0, 1) else none)))))
-- 102: ThrowFlow$Text.allowsHandler(IIII)Z
def k_102 (pc : Nat) : Option PE := bif Nat.ble 20 pc then (bif Nat.ble 32 pc then (bif Nat.ble 39 pc then (bif Nat.ble 42 pc then (bif Nat.ble 43 pc then (bif Nat.beq pc 43 then some (80, 2, 0, 0) else none) else (bif Nat.beq pc 42 then some (0, 0, 0, 43) else none)) else (bif Nat.beq pc 39 then some (18, 0, 0, 43) else none)) else (bif Nat.ble 35 pc then (bif Nat.ble 38 pc then (bif Nat.beq pc 38 then some (0, 1, 0, 39) else none) else (bif Nat.beq pc 35 then some (50, 42, 0, 38) else none)) else (bif Nat.beq pc 32 then some (70, 104, 1, 35) else none))) else (bif Nat.ble 24 pc then (bif Nat.ble 27 pc then (bif Nat.ble 30 pc then (bif Nat.beq pc 30 then some (2, 4, 0, 32) else none) else (bif Nat.beq pc 27 then some (50, 42, 0, 30) else none)) else (bif Nat.beq pc 24 then some (70, 76, 2, 27) else none)) else (bif Nat.ble 23 pc then (bif Nat.beq pc 23 then some (2, 3, 0, 24) else none) else (bif Nat.beq pc 20 then some (16, 1, 0, 23) else none)))) else (bif Nat.ble 11 pc then (bif Nat.ble 15 pc then (bif Nat.ble 16 pc then (bif Nat.ble 19 pc then (bif Nat.beq pc 19 then some (3, 0, 0, 20) else none) else (bif Nat.beq pc 16 then some (60, 42, 0, 19) else none)) else (bif Nat.beq pc 15 then some (2, 2, 0, 16) else none)) else (bif Nat.ble 14 pc then (bif Nat.beq pc 14 then some (2, 1, 0, 15) else none) else (bif Nat.beq pc 11 then some (50, 42, 0, 14) else none))) else (bif Nat.ble 4 pc then (bif Nat.ble 7 pc then (bif Nat.ble 8 pc then (bif Nat.beq pc 8 then some (70, 104, 1, 11) else none) else (bif Nat.beq pc 7 then some (2, 2, 0, 8) else none)) else (bif Nat.beq pc 4 then some (50, 42, 0, 7) else none)) else (bif Nat.ble 1 pc then (bif Nat.beq pc 1 then some (70, 104, 1, 4) else none) else (bif Nat.beq pc 0 then some (2, 1, 0, 1) else none))))
-- 103: ThrowFlow$Text.isRegister(I)Z
def k_103 (pc : Nat) : Option PE := bif Nat.ble 6 pc then (bif Nat.ble 10 pc then (bif Nat.ble 13 pc then (bif Nat.ble 14 pc then (bif Nat.beq pc 14 then some (80, 2, 0, 0) else none) else (bif Nat.beq pc 13 then some (0, 0, 0, 14) else none)) else (bif Nat.beq pc 10 then some (18, 0, 0, 14) else none)) else (bif Nat.ble 9 pc then (bif Nat.beq pc 9 then some (0, 1, 0, 10) else none) else (bif Nat.beq pc 6 then some (59, 13, 0, 9) else none))) else (bif Nat.ble 4 pc then (bif Nat.ble 5 pc then (bif Nat.beq pc 5 then some (0, 4, 0, 6) else none) else (bif Nat.beq pc 4 then some (2, 0, 0, 5) else none)) else (bif Nat.ble 1 pc then (bif Nat.beq pc 1 then some (52, 13, 0, 4) else none) else (bif Nat.beq pc 0 then some (2, 0, 0, 1) else none)))
-- 104: ThrowFlow$Text.isPlace(I)Z
def k_104 (pc : Nat) : Option PE := bif Nat.ble 7 pc then (bif Nat.ble 11 pc then (bif Nat.ble 14 pc then (bif Nat.ble 15 pc then (bif Nat.beq pc 15 then some (80, 2, 0, 0) else none) else (bif Nat.beq pc 14 then some (0, 0, 0, 15) else none)) else (bif Nat.beq pc 11 then some (18, 0, 0, 15) else none)) else (bif Nat.ble 10 pc then (bif Nat.beq pc 10 then some (0, 1, 0, 11) else none) else (bif Nat.beq pc 7 then some (59, 14, 0, 10) else none))) else (bif Nat.ble 4 pc then (bif Nat.ble 5 pc then (bif Nat.beq pc 5 then some (0, 24, 0, 7) else none) else (bif Nat.beq pc 4 then some (2, 0, 0, 5) else none)) else (bif Nat.ble 1 pc then (bif Nat.beq pc 1 then some (52, 14, 0, 4) else none) else (bif Nat.beq pc 0 then some (2, 0, 0, 1) else none)))
-- 105: ThrowFlowLaw.law([I)Z
def k_105 (pc : Nat) : Option PE := bif Nat.ble 452 pc then (bif Nat.ble 629 pc then (bif Nat.ble 714 pc then (bif Nat.ble 761 pc then (bif Nat.ble 787 pc then (bif Nat.ble 801 pc then (bif Nat.ble 809 pc then (bif Nat.ble 815 pc then (bif Nat.ble 816 pc then (bif Nat.beq pc 816 then some (80, 2, 0, 0) else none) else (bif Nat.beq pc 815 then some (0, 1, 0, 816) else none)) else (bif Nat.ble 812 pc then (bif Nat.beq pc 812 then some (18, 0, 0, 23) else none) else (bif Nat.beq pc 809 then some (19, 4, 6, 812) else none))) else (bif Nat.ble 807 pc then (bif Nat.ble 808 pc then (bif Nat.beq pc 808 then some (80, 2, 0, 0) else none) else (bif Nat.beq pc 807 then some (0, 0, 0, 808) else none)) else (bif Nat.ble 804 pc then (bif Nat.beq pc 804 then some (56, 809, 0, 807) else none) else (bif Nat.beq pc 801 then some (70, 51, 1, 804) else none)))) else (bif Nat.ble 795 pc then (bif Nat.ble 797 pc then (bif Nat.ble 800 pc then (bif Nat.beq pc 800 then some (3, 2, 0, 801) else none) else (bif Nat.beq pc 797 then some (70, 13, 1, 800) else none)) else (bif Nat.ble 796 pc then (bif Nat.beq pc 796 then some (3, 1, 0, 797) else none) else (bif Nat.beq pc 795 then some (80, 2, 0, 0) else none))) else (bif Nat.ble 791 pc then (bif Nat.ble 794 pc then (bif Nat.beq pc 794 then some (0, 0, 0, 795) else none) else (bif Nat.beq pc 791 then some (56, 809, 0, 794) else none)) else (bif Nat.ble 788 pc then (bif Nat.beq pc 788 then some (70, 50, 1, 791) else none) else (bif Nat.beq pc 787 then some (3, 2, 0, 788) else none))))) else (bif Nat.ble 773 pc then (bif Nat.ble 779 pc then (bif Nat.ble 783 pc then (bif Nat.ble 784 pc then (bif Nat.beq pc 784 then some (70, 12, 1, 787) else none) else (bif Nat.beq pc 783 then some (3, 1, 0, 784) else none)) else (bif Nat.ble 780 pc then (bif Nat.beq pc 780 then some (18, 0, 0, 809) else none) else (bif Nat.beq pc 779 then some (80, 2, 0, 0) else none))) else (bif Nat.ble 775 pc then (bif Nat.ble 778 pc then (bif Nat.beq pc 778 then some (0, 0, 0, 779) else none) else (bif Nat.beq pc 775 then some (50, 780, 0, 778) else none)) else (bif Nat.ble 774 pc then (bif Nat.beq pc 774 then some (22, 0, 0, 775) else none) else (bif Nat.beq pc 773 then some (21, 0, 0, 774) else none)))) else (bif Nat.ble 768 pc then (bif Nat.ble 770 pc then (bif Nat.ble 771 pc then (bif Nat.beq pc 771 then some (2, 6, 0, 773) else none) else (bif Nat.beq pc 770 then some (35, 0, 0, 771) else none)) else (bif Nat.ble 769 pc then (bif Nat.beq pc 769 then some (0, 0, 0, 770) else none) else (bif Nat.beq pc 768 then some (3, 3, 0, 769) else none))) else (bif Nat.ble 763 pc then (bif Nat.ble 765 pc then (bif Nat.beq pc 765 then some (51, 780, 0, 768) else none) else (bif Nat.beq pc 763 then some (2, 5, 0, 765) else none)) else (bif Nat.ble 762 pc then (bif Nat.beq pc 762 then some (80, 2, 0, 0) else none) else (bif Nat.beq pc 761 then some (0, 0, 0, 762) else none)))))) else (bif Nat.ble 735 pc then (bif Nat.ble 745 pc then (bif Nat.ble 752 pc then (bif Nat.ble 756 pc then (bif Nat.ble 758 pc then (bif Nat.beq pc 758 then some (56, 763, 0, 761) else none) else (bif Nat.beq pc 756 then some (2, 5, 0, 758) else none)) else (bif Nat.ble 753 pc then (bif Nat.beq pc 753 then some (70, 14, 1, 756) else none) else (bif Nat.beq pc 752 then some (3, 2, 0, 753) else none))) else (bif Nat.ble 747 pc then (bif Nat.ble 750 pc then (bif Nat.beq pc 750 then some (4, 6, 0, 752) else none) else (bif Nat.beq pc 747 then some (70, 49, 4, 750) else none)) else (bif Nat.ble 746 pc then (bif Nat.beq pc 746 then some (37, 0, 0, 747) else none) else (bif Nat.beq pc 745 then some (6, 0, 0, 746) else none)))) else (bif Nat.ble 740 pc then (bif Nat.ble 742 pc then (bif Nat.ble 744 pc then (bif Nat.beq pc 744 then some (0, 3, 0, 745) else none) else (bif Nat.beq pc 742 then some (2, 4, 0, 744) else none)) else (bif Nat.ble 741 pc then (bif Nat.beq pc 741 then some (3, 0, 0, 742) else none) else (bif Nat.beq pc 740 then some (37, 0, 0, 741) else none))) else (bif Nat.ble 738 pc then (bif Nat.ble 739 pc then (bif Nat.beq pc 739 then some (6, 0, 0, 740) else none) else (bif Nat.beq pc 738 then some (0, 2, 0, 739) else none)) else (bif Nat.ble 736 pc then (bif Nat.beq pc 736 then some (2, 4, 0, 738) else none) else (bif Nat.beq pc 735 then some (3, 0, 0, 736) else none))))) else (bif Nat.ble 723 pc then (bif Nat.ble 730 pc then (bif Nat.ble 733 pc then (bif Nat.ble 734 pc then (bif Nat.beq pc 734 then some (37, 0, 0, 735) else none) else (bif Nat.beq pc 733 then some (6, 0, 0, 734) else none)) else (bif Nat.ble 732 pc then (bif Nat.beq pc 732 then some (0, 1, 0, 733) else none) else (bif Nat.beq pc 730 then some (2, 4, 0, 732) else none))) else (bif Nat.ble 728 pc then (bif Nat.ble 729 pc then (bif Nat.beq pc 729 then some (3, 0, 0, 730) else none) else (bif Nat.beq pc 728 then some (3, 2, 0, 729) else none)) else (bif Nat.ble 726 pc then (bif Nat.beq pc 726 then some (4, 5, 0, 728) else none) else (bif Nat.beq pc 723 then some (91, 0, 0, 726) else none)))) else (bif Nat.ble 719 pc then (bif Nat.ble 721 pc then (bif Nat.ble 722 pc then (bif Nat.beq pc 722 then some (3, 3, 0, 723) else none) else (bif Nat.beq pc 721 then some (37, 0, 0, 722) else none)) else (bif Nat.ble 720 pc then (bif Nat.beq pc 720 then some (6, 0, 0, 721) else none) else (bif Nat.beq pc 719 then some (0, 3, 0, 720) else none))) else (bif Nat.ble 716 pc then (bif Nat.ble 717 pc then (bif Nat.beq pc 717 then some (2, 4, 0, 719) else none) else (bif Nat.beq pc 716 then some (3, 0, 0, 717) else none)) else (bif Nat.ble 715 pc then (bif Nat.beq pc 715 then some (37, 0, 0, 716) else none) else (bif Nat.beq pc 714 then some (6, 0, 0, 715) else none))))))) else (bif Nat.ble 671 pc then (bif Nat.ble 692 pc then (bif Nat.ble 704 pc then (bif Nat.ble 709 pc then (bif Nat.ble 711 pc then (bif Nat.ble 713 pc then (bif Nat.beq pc 713 then some (0, 2, 0, 714) else none) else (bif Nat.beq pc 711 then some (2, 4, 0, 713) else none)) else (bif Nat.ble 710 pc then (bif Nat.beq pc 710 then some (3, 0, 0, 711) else none) else (bif Nat.beq pc 709 then some (37, 0, 0, 710) else none))) else (bif Nat.ble 707 pc then (bif Nat.ble 708 pc then (bif Nat.beq pc 708 then some (6, 0, 0, 709) else none) else (bif Nat.beq pc 707 then some (0, 1, 0, 708) else none)) else (bif Nat.ble 705 pc then (bif Nat.beq pc 705 then some (2, 4, 0, 707) else none) else (bif Nat.beq pc 704 then some (3, 0, 0, 705) else none)))) else (bif Nat.ble 698 pc then (bif Nat.ble 702 pc then (bif Nat.ble 703 pc then (bif Nat.beq pc 703 then some (3, 1, 0, 704) else none) else (bif Nat.beq pc 702 then some (80, 2, 0, 0) else none)) else (bif Nat.ble 701 pc then (bif Nat.beq pc 701 then some (0, 0, 0, 702) else none) else (bif Nat.beq pc 698 then some (56, 809, 0, 701) else none))) else (bif Nat.ble 694 pc then (bif Nat.ble 695 pc then (bif Nat.beq pc 695 then some (70, 41, 4, 698) else none) else (bif Nat.beq pc 694 then some (37, 0, 0, 695) else none)) else (bif Nat.ble 693 pc then (bif Nat.beq pc 693 then some (6, 0, 0, 694) else none) else (bif Nat.beq pc 692 then some (0, 3, 0, 693) else none))))) else (bif Nat.ble 682 pc then (bif Nat.ble 687 pc then (bif Nat.ble 689 pc then (bif Nat.ble 690 pc then (bif Nat.beq pc 690 then some (2, 4, 0, 692) else none) else (bif Nat.beq pc 689 then some (3, 0, 0, 690) else none)) else (bif Nat.ble 688 pc then (bif Nat.beq pc 688 then some (37, 0, 0, 689) else none) else (bif Nat.beq pc 687 then some (6, 0, 0, 688) else none))) else (bif Nat.ble 684 pc then (bif Nat.ble 686 pc then (bif Nat.beq pc 686 then some (0, 2, 0, 687) else none) else (bif Nat.beq pc 684 then some (2, 4, 0, 686) else none)) else (bif Nat.ble 683 pc then (bif Nat.beq pc 683 then some (3, 0, 0, 684) else none) else (bif Nat.beq pc 682 then some (37, 0, 0, 683) else none)))) else (bif Nat.ble 677 pc then (bif Nat.ble 680 pc then (bif Nat.ble 681 pc then (bif Nat.beq pc 681 then some (6, 0, 0, 682) else none) else (bif Nat.beq pc 680 then some (0, 1, 0, 681) else none)) else (bif Nat.ble 678 pc then (bif Nat.beq pc 678 then some (2, 4, 0, 680) else none) else (bif Nat.beq pc 677 then some (3, 0, 0, 678) else none))) else (bif Nat.ble 673 pc then (bif Nat.ble 676 pc then (bif Nat.beq pc 676 then some (3, 2, 0, 677) else none) else (bif Nat.beq pc 673 then some (70, 10, 4, 676) else none)) else (bif Nat.ble 672 pc then (bif Nat.beq pc 672 then some (37, 0, 0, 673) else none) else (bif Nat.beq pc 671 then some (6, 0, 0, 672) else none)))))) else (bif Nat.ble 652 pc then (bif Nat.ble 661 pc then (bif Nat.ble 666 pc then (bif Nat.ble 668 pc then (bif Nat.ble 670 pc then (bif Nat.beq pc 670 then some (0, 3, 0, 671) else none) else (bif Nat.beq pc 668 then some (2, 4, 0, 670) else none)) else (bif Nat.ble 667 pc then (bif Nat.beq pc 667 then some (3, 0, 0, 668) else none) else (bif Nat.beq pc 666 then some (37, 0, 0, 667) else none))) else (bif Nat.ble 664 pc then (bif Nat.ble 665 pc then (bif Nat.beq pc 665 then some (6, 0, 0, 666) else none) else (bif Nat.beq pc 664 then some (0, 2, 0, 665) else none)) else (bif Nat.ble 662 pc then (bif Nat.beq pc 662 then some (2, 4, 0, 664) else none) else (bif Nat.beq pc 661 then some (3, 0, 0, 662) else none)))) else (bif Nat.ble 656 pc then (bif Nat.ble 659 pc then (bif Nat.ble 660 pc then (bif Nat.beq pc 660 then some (37, 0, 0, 661) else none) else (bif Nat.beq pc 659 then some (6, 0, 0, 660) else none)) else (bif Nat.ble 658 pc then (bif Nat.beq pc 658 then some (0, 1, 0, 659) else none) else (bif Nat.beq pc 656 then some (2, 4, 0, 658) else none))) else (bif Nat.ble 654 pc then (bif Nat.ble 655 pc then (bif Nat.beq pc 655 then some (3, 0, 0, 656) else none) else (bif Nat.beq pc 654 then some (3, 1, 0, 655) else none)) else (bif Nat.ble 653 pc then (bif Nat.beq pc 653 then some (80, 2, 0, 0) else none) else (bif Nat.beq pc 652 then some (0, 0, 0, 653) else none))))) else (bif Nat.ble 639 pc then (bif Nat.ble 644 pc then (bif Nat.ble 646 pc then (bif Nat.ble 649 pc then (bif Nat.beq pc 649 then some (56, 809, 0, 652) else none) else (bif Nat.beq pc 646 then some (70, 39, 3, 649) else none)) else (bif Nat.ble 645 pc then (bif Nat.beq pc 645 then some (37, 0, 0, 646) else none) else (bif Nat.beq pc 644 then some (6, 0, 0, 645) else none))) else (bif Nat.ble 641 pc then (bif Nat.ble 643 pc then (bif Nat.beq pc 643 then some (0, 2, 0, 644) else none) else (bif Nat.beq pc 641 then some (2, 4, 0, 643) else none)) else (bif Nat.ble 640 pc then (bif Nat.beq pc 640 then some (3, 0, 0, 641) else none) else (bif Nat.beq pc 639 then some (37, 0, 0, 640) else none)))) else (bif Nat.ble 634 pc then (bif Nat.ble 637 pc then (bif Nat.ble 638 pc then (bif Nat.beq pc 638 then some (6, 0, 0, 639) else none) else (bif Nat.beq pc 637 then some (0, 1, 0, 638) else none)) else (bif Nat.ble 635 pc then (bif Nat.beq pc 635 then some (2, 4, 0, 637) else none) else (bif Nat.beq pc 634 then some (3, 0, 0, 635) else none))) else (bif Nat.ble 630 pc then (bif Nat.ble 633 pc then (bif Nat.beq pc 633 then some (3, 2, 0, 634) else none) else (bif Nat.beq pc 630 then some (70, 9, 3, 633) else none)) else (bif Nat.beq pc 629 then some (37, 0, 0, 630) else none))))))) else (bif Nat.ble 544 pc then (bif Nat.ble 586 pc then (bif Nat.ble 607 pc then (bif Nat.ble 619 pc then (bif Nat.ble 624 pc then (bif Nat.ble 627 pc then (bif Nat.ble 628 pc then (bif Nat.beq pc 628 then some (6, 0, 0, 629) else none) else (bif Nat.beq pc 627 then some (0, 2, 0, 628) else none)) else (bif Nat.ble 625 pc then (bif Nat.beq pc 625 then some (2, 4, 0, 627) else none) else (bif Nat.beq pc 624 then some (3, 0, 0, 625) else none))) else (bif Nat.ble 622 pc then (bif Nat.ble 623 pc then (bif Nat.beq pc 623 then some (37, 0, 0, 624) else none) else (bif Nat.beq pc 622 then some (6, 0, 0, 623) else none)) else (bif Nat.ble 621 pc then (bif Nat.beq pc 621 then some (0, 1, 0, 622) else none) else (bif Nat.beq pc 619 then some (2, 4, 0, 621) else none)))) else (bif Nat.ble 615 pc then (bif Nat.ble 617 pc then (bif Nat.ble 618 pc then (bif Nat.beq pc 618 then some (3, 0, 0, 619) else none) else (bif Nat.beq pc 617 then some (3, 1, 0, 618) else none)) else (bif Nat.ble 616 pc then (bif Nat.beq pc 616 then some (80, 2, 0, 0) else none) else (bif Nat.beq pc 615 then some (0, 0, 0, 616) else none))) else (bif Nat.ble 609 pc then (bif Nat.ble 612 pc then (bif Nat.beq pc 612 then some (56, 809, 0, 615) else none) else (bif Nat.beq pc 609 then some (70, 37, 3, 612) else none)) else (bif Nat.ble 608 pc then (bif Nat.beq pc 608 then some (37, 0, 0, 609) else none) else (bif Nat.beq pc 607 then some (6, 0, 0, 608) else none))))) else (bif Nat.ble 597 pc then (bif Nat.ble 602 pc then (bif Nat.ble 604 pc then (bif Nat.ble 606 pc then (bif Nat.beq pc 606 then some (0, 2, 0, 607) else none) else (bif Nat.beq pc 604 then some (2, 4, 0, 606) else none)) else (bif Nat.ble 603 pc then (bif Nat.beq pc 603 then some (3, 0, 0, 604) else none) else (bif Nat.beq pc 602 then some (37, 0, 0, 603) else none))) else (bif Nat.ble 600 pc then (bif Nat.ble 601 pc then (bif Nat.beq pc 601 then some (6, 0, 0, 602) else none) else (bif Nat.beq pc 600 then some (0, 1, 0, 601) else none)) else (bif Nat.ble 598 pc then (bif Nat.beq pc 598 then some (2, 4, 0, 600) else none) else (bif Nat.beq pc 597 then some (3, 0, 0, 598) else none)))) else (bif Nat.ble 591 pc then (bif Nat.ble 593 pc then (bif Nat.ble 596 pc then (bif Nat.beq pc 596 then some (3, 2, 0, 597) else none) else (bif Nat.beq pc 593 then some (70, 8, 3, 596) else none)) else (bif Nat.ble 592 pc then (bif Nat.beq pc 592 then some (37, 0, 0, 593) else none) else (bif Nat.beq pc 591 then some (6, 0, 0, 592) else none))) else (bif Nat.ble 588 pc then (bif Nat.ble 590 pc then (bif Nat.beq pc 590 then some (0, 2, 0, 591) else none) else (bif Nat.beq pc 588 then some (2, 4, 0, 590) else none)) else (bif Nat.ble 587 pc then (bif Nat.beq pc 587 then some (3, 0, 0, 588) else none) else (bif Nat.beq pc 586 then some (37, 0, 0, 587) else none)))))) else (bif Nat.ble 564 pc then (bif Nat.ble 575 pc then (bif Nat.ble 581 pc then (bif Nat.ble 584 pc then (bif Nat.ble 585 pc then (bif Nat.beq pc 585 then some (6, 0, 0, 586) else none) else (bif Nat.beq pc 584 then some (0, 1, 0, 585) else none)) else (bif Nat.ble 582 pc then (bif Nat.beq pc 582 then some (2, 4, 0, 584) else none) else (bif Nat.beq pc 581 then some (3, 0, 0, 582) else none))) else (bif Nat.ble 579 pc then (bif Nat.ble 580 pc then (bif Nat.beq pc 580 then some (3, 1, 0, 581) else none) else (bif Nat.beq pc 579 then some (80, 2, 0, 0) else none)) else (bif Nat.ble 578 pc then (bif Nat.beq pc 578 then some (0, 0, 0, 579) else none) else (bif Nat.beq pc 575 then some (56, 809, 0, 578) else none)))) else (bif Nat.ble 569 pc then (bif Nat.ble 571 pc then (bif Nat.ble 572 pc then (bif Nat.beq pc 572 then some (70, 36, 3, 575) else none) else (bif Nat.beq pc 571 then some (37, 0, 0, 572) else none)) else (bif Nat.ble 570 pc then (bif Nat.beq pc 570 then some (6, 0, 0, 571) else none) else (bif Nat.beq pc 569 then some (0, 2, 0, 570) else none))) else (bif Nat.ble 566 pc then (bif Nat.ble 567 pc then (bif Nat.beq pc 567 then some (2, 4, 0, 569) else none) else (bif Nat.beq pc 566 then some (3, 0, 0, 567) else none)) else (bif Nat.ble 565 pc then (bif Nat.beq pc 565 then some (37, 0, 0, 566) else none) else (bif Nat.beq pc 564 then some (6, 0, 0, 565) else none))))) else (bif Nat.ble 553 pc then (bif Nat.ble 559 pc then (bif Nat.ble 561 pc then (bif Nat.ble 563 pc then (bif Nat.beq pc 563 then some (0, 1, 0, 564) else none) else (bif Nat.beq pc 561 then some (2, 4, 0, 563) else none)) else (bif Nat.ble 560 pc then (bif Nat.beq pc 560 then some (3, 0, 0, 561) else none) else (bif Nat.beq pc 559 then some (3, 2, 0, 560) else none))) else (bif Nat.ble 555 pc then (bif Nat.ble 556 pc then (bif Nat.beq pc 556 then some (70, 7, 3, 559) else none) else (bif Nat.beq pc 555 then some (37, 0, 0, 556) else none)) else (bif Nat.ble 554 pc then (bif Nat.beq pc 554 then some (6, 0, 0, 555) else none) else (bif Nat.beq pc 553 then some (0, 2, 0, 554) else none)))) else (bif Nat.ble 548 pc then (bif Nat.ble 550 pc then (bif Nat.ble 551 pc then (bif Nat.beq pc 551 then some (2, 4, 0, 553) else none) else (bif Nat.beq pc 550 then some (3, 0, 0, 551) else none)) else (bif Nat.ble 549 pc then (bif Nat.beq pc 549 then some (37, 0, 0, 550) else none) else (bif Nat.beq pc 548 then some (6, 0, 0, 549) else none))) else (bif Nat.ble 545 pc then (bif Nat.ble 547 pc then (bif Nat.beq pc 547 then some (0, 1, 0, 548) else none) else (bif Nat.beq pc 545 then some (2, 4, 0, 547) else none)) else (bif Nat.beq pc 544 then some (3, 0, 0, 545) else none)))))) else (bif Nat.ble 496 pc then (bif Nat.ble 520 pc then (bif Nat.ble 532 pc then (bif Nat.ble 538 pc then (bif Nat.ble 542 pc then (bif Nat.ble 543 pc then (bif Nat.beq pc 543 then some (3, 1, 0, 544) else none) else (bif Nat.beq pc 542 then some (80, 2, 0, 0) else none)) else (bif Nat.ble 541 pc then (bif Nat.beq pc 541 then some (0, 0, 0, 542) else none) else (bif Nat.beq pc 538 then some (56, 809, 0, 541) else none))) else (bif Nat.ble 534 pc then (bif Nat.ble 535 pc then (bif Nat.beq pc 535 then some (70, 35, 2, 538) else none) else (bif Nat.beq pc 534 then some (37, 0, 0, 535) else none)) else (bif Nat.ble 533 pc then (bif Nat.beq pc 533 then some (6, 0, 0, 534) else none) else (bif Nat.beq pc 532 then some (0, 1, 0, 533) else none)))) else (bif Nat.ble 525 pc then (bif Nat.ble 529 pc then (bif Nat.ble 530 pc then (bif Nat.beq pc 530 then some (2, 4, 0, 532) else none) else (bif Nat.beq pc 529 then some (3, 0, 0, 530) else none)) else (bif Nat.ble 528 pc then (bif Nat.beq pc 528 then some (3, 2, 0, 529) else none) else (bif Nat.beq pc 525 then some (70, 6, 2, 528) else none))) else (bif Nat.ble 523 pc then (bif Nat.ble 524 pc then (bif Nat.beq pc 524 then some (37, 0, 0, 525) else none) else (bif Nat.beq pc 523 then some (6, 0, 0, 524) else none)) else (bif Nat.ble 522 pc then (bif Nat.beq pc 522 then some (0, 1, 0, 523) else none) else (bif Nat.beq pc 520 then some (2, 4, 0, 522) else none))))) else (bif Nat.ble 508 pc then (bif Nat.ble 514 pc then (bif Nat.ble 518 pc then (bif Nat.ble 519 pc then (bif Nat.beq pc 519 then some (3, 0, 0, 520) else none) else (bif Nat.beq pc 518 then some (3, 1, 0, 519) else none)) else (bif Nat.ble 515 pc then (bif Nat.beq pc 515 then some (18, 0, 0, 809) else none) else (bif Nat.beq pc 514 then some (80, 2, 0, 0) else none))) else (bif Nat.ble 510 pc then (bif Nat.ble 513 pc then (bif Nat.beq pc 513 then some (0, 0, 0, 514) else none) else (bif Nat.beq pc 510 then some (50, 515, 0, 513) else none)) else (bif Nat.ble 509 pc then (bif Nat.beq pc 509 then some (22, 0, 0, 510) else none) else (bif Nat.beq pc 508 then some (21, 0, 0, 509) else none)))) else (bif Nat.ble 503 pc then (bif Nat.ble 505 pc then (bif Nat.ble 506 pc then (bif Nat.beq pc 506 then some (2, 6, 0, 508) else none) else (bif Nat.beq pc 505 then some (35, 0, 0, 506) else none)) else (bif Nat.ble 504 pc then (bif Nat.beq pc 504 then some (0, 0, 0, 505) else none) else (bif Nat.beq pc 503 then some (3, 3, 0, 504) else none))) else (bif Nat.ble 498 pc then (bif Nat.ble 500 pc then (bif Nat.beq pc 500 then some (51, 515, 0, 503) else none) else (bif Nat.beq pc 498 then some (2, 5, 0, 500) else none)) else (bif Nat.ble 497 pc then (bif Nat.beq pc 497 then some (80, 2, 0, 0) else none) else (bif Nat.beq pc 496 then some (0, 0, 0, 497) else none)))))) else (bif Nat.ble 470 pc then (bif Nat.ble 480 pc then (bif Nat.ble 487 pc then (bif Nat.ble 491 pc then (bif Nat.ble 493 pc then (bif Nat.beq pc 493 then some (56, 498, 0, 496) else none) else (bif Nat.beq pc 491 then some (2, 5, 0, 493) else none)) else (bif Nat.ble 488 pc then (bif Nat.beq pc 488 then some (70, 14, 1, 491) else none) else (bif Nat.beq pc 487 then some (3, 2, 0, 488) else none))) else (bif Nat.ble 482 pc then (bif Nat.ble 485 pc then (bif Nat.beq pc 485 then some (4, 6, 0, 487) else none) else (bif Nat.beq pc 482 then some (70, 27, 6, 485) else none)) else (bif Nat.ble 481 pc then (bif Nat.beq pc 481 then some (37, 0, 0, 482) else none) else (bif Nat.beq pc 480 then some (6, 0, 0, 481) else none)))) else (bif Nat.ble 475 pc then (bif Nat.ble 477 pc then (bif Nat.ble 479 pc then (bif Nat.beq pc 479 then some (0, 5, 0, 480) else none) else (bif Nat.beq pc 477 then some (2, 4, 0, 479) else none)) else (bif Nat.ble 476 pc then (bif Nat.beq pc 476 then some (3, 0, 0, 477) else none) else (bif Nat.beq pc 475 then some (37, 0, 0, 476) else none))) else (bif Nat.ble 473 pc then (bif Nat.ble 474 pc then (bif Nat.beq pc 474 then some (6, 0, 0, 475) else none) else (bif Nat.beq pc 473 then some (0, 4, 0, 474) else none)) else (bif Nat.ble 471 pc then (bif Nat.beq pc 471 then some (2, 4, 0, 473) else none) else (bif Nat.beq pc 470 then some (3, 0, 0, 471) else none))))) else (bif Nat.ble 461 pc then (bif Nat.ble 465 pc then (bif Nat.ble 468 pc then (bif Nat.ble 469 pc then (bif Nat.beq pc 469 then some (37, 0, 0, 470) else none) else (bif Nat.beq pc 468 then some (6, 0, 0, 469) else none)) else (bif Nat.ble 467 pc then (bif Nat.beq pc 467 then some (0, 3, 0, 468) else none) else (bif Nat.beq pc 465 then some (2, 4, 0, 467) else none))) else (bif Nat.ble 463 pc then (bif Nat.ble 464 pc then (bif Nat.beq pc 464 then some (3, 0, 0, 465) else none) else (bif Nat.beq pc 463 then some (37, 0, 0, 464) else none)) else (bif Nat.ble 462 pc then (bif Nat.beq pc 462 then some (6, 0, 0, 463) else none) else (bif Nat.beq pc 461 then some (0, 2, 0, 462) else none)))) else (bif Nat.ble 456 pc then (bif Nat.ble 458 pc then (bif Nat.ble 459 pc then (bif Nat.beq pc 459 then some (2, 4, 0, 461) else none) else (bif Nat.beq pc 458 then some (3, 0, 0, 459) else none)) else (bif Nat.ble 457 pc then (bif Nat.beq pc 457 then some (37, 0, 0, 458) else none) else (bif Nat.beq pc 456 then some (6, 0, 0, 457) else none))) else (bif Nat.ble 453 pc then (bif Nat.ble 455 pc then (bif Nat.beq pc 455 then some (0, 1, 0, 456) else none) else (bif Nat.beq pc 453 then some (2, 4, 0, 455) else none)) else (bif Nat.beq pc 452 then some (3, 0, 0, 453) else none)))))))) else (bif Nat.ble 272 pc then (bif Nat.ble 361 pc then (bif Nat.ble 410 pc then (bif Nat.ble 431 pc then (bif Nat.ble 440 pc then (bif Nat.ble 445 pc then (bif Nat.ble 449 pc then (bif Nat.ble 451 pc then (bif Nat.beq pc 451 then some (3, 2, 0, 452) else none) else (bif Nat.beq pc 449 then some (4, 5, 0, 451) else none)) else (bif Nat.ble 446 pc then (bif Nat.beq pc 446 then some (91, 0, 0, 449) else none) else (bif Nat.beq pc 445 then some (3, 3, 0, 446) else none))) else (bif Nat.ble 443 pc then (bif Nat.ble 444 pc then (bif Nat.beq pc 444 then some (37, 0, 0, 445) else none) else (bif Nat.beq pc 443 then some (6, 0, 0, 444) else none)) else (bif Nat.ble 442 pc then (bif Nat.beq pc 442 then some (0, 5, 0, 443) else none) else (bif Nat.beq pc 440 then some (2, 4, 0, 442) else none)))) else (bif Nat.ble 436 pc then (bif Nat.ble 438 pc then (bif Nat.ble 439 pc then (bif Nat.beq pc 439 then some (3, 0, 0, 440) else none) else (bif Nat.beq pc 438 then some (37, 0, 0, 439) else none)) else (bif Nat.ble 437 pc then (bif Nat.beq pc 437 then some (6, 0, 0, 438) else none) else (bif Nat.beq pc 436 then some (0, 4, 0, 437) else none))) else (bif Nat.ble 433 pc then (bif Nat.ble 434 pc then (bif Nat.beq pc 434 then some (2, 4, 0, 436) else none) else (bif Nat.beq pc 433 then some (3, 0, 0, 434) else none)) else (bif Nat.ble 432 pc then (bif Nat.beq pc 432 then some (37, 0, 0, 433) else none) else (bif Nat.beq pc 431 then some (6, 0, 0, 432) else none))))) else (bif Nat.ble 421 pc then (bif Nat.ble 426 pc then (bif Nat.ble 428 pc then (bif Nat.ble 430 pc then (bif Nat.beq pc 430 then some (0, 3, 0, 431) else none) else (bif Nat.beq pc 428 then some (2, 4, 0, 430) else none)) else (bif Nat.ble 427 pc then (bif Nat.beq pc 427 then some (3, 0, 0, 428) else none) else (bif Nat.beq pc 426 then some (37, 0, 0, 427) else none))) else (bif Nat.ble 424 pc then (bif Nat.ble 425 pc then (bif Nat.beq pc 425 then some (6, 0, 0, 426) else none) else (bif Nat.beq pc 424 then some (0, 2, 0, 425) else none)) else (bif Nat.ble 422 pc then (bif Nat.beq pc 422 then some (2, 4, 0, 424) else none) else (bif Nat.beq pc 421 then some (3, 0, 0, 422) else none)))) else (bif Nat.ble 416 pc then (bif Nat.ble 419 pc then (bif Nat.ble 420 pc then (bif Nat.beq pc 420 then some (37, 0, 0, 421) else none) else (bif Nat.beq pc 419 then some (6, 0, 0, 420) else none)) else (bif Nat.ble 418 pc then (bif Nat.beq pc 418 then some (0, 1, 0, 419) else none) else (bif Nat.beq pc 416 then some (2, 4, 0, 418) else none))) else (bif Nat.ble 414 pc then (bif Nat.ble 415 pc then (bif Nat.beq pc 415 then some (3, 0, 0, 416) else none) else (bif Nat.beq pc 414 then some (3, 1, 0, 415) else none)) else (bif Nat.ble 411 pc then (bif Nat.beq pc 411 then some (18, 0, 0, 809) else none) else (bif Nat.beq pc 410 then some (80, 2, 0, 0) else none)))))) else (bif Nat.ble 383 pc then (bif Nat.ble 399 pc then (bif Nat.ble 404 pc then (bif Nat.ble 406 pc then (bif Nat.ble 409 pc then (bif Nat.beq pc 409 then some (0, 0, 0, 410) else none) else (bif Nat.beq pc 406 then some (50, 411, 0, 409) else none)) else (bif Nat.ble 405 pc then (bif Nat.beq pc 405 then some (22, 0, 0, 406) else none) else (bif Nat.beq pc 404 then some (21, 0, 0, 405) else none))) else (bif Nat.ble 401 pc then (bif Nat.ble 402 pc then (bif Nat.beq pc 402 then some (2, 6, 0, 404) else none) else (bif Nat.beq pc 401 then some (35, 0, 0, 402) else none)) else (bif Nat.ble 400 pc then (bif Nat.beq pc 400 then some (0, 0, 0, 401) else none) else (bif Nat.beq pc 399 then some (3, 3, 0, 400) else none)))) else (bif Nat.ble 392 pc then (bif Nat.ble 394 pc then (bif Nat.ble 396 pc then (bif Nat.beq pc 396 then some (51, 411, 0, 399) else none) else (bif Nat.beq pc 394 then some (2, 5, 0, 396) else none)) else (bif Nat.ble 393 pc then (bif Nat.beq pc 393 then some (80, 2, 0, 0) else none) else (bif Nat.beq pc 392 then some (0, 0, 0, 393) else none))) else (bif Nat.ble 387 pc then (bif Nat.ble 389 pc then (bif Nat.beq pc 389 then some (56, 394, 0, 392) else none) else (bif Nat.beq pc 387 then some (2, 5, 0, 389) else none)) else (bif Nat.ble 384 pc then (bif Nat.beq pc 384 then some (70, 14, 1, 387) else none) else (bif Nat.beq pc 383 then some (3, 2, 0, 384) else none))))) else (bif Nat.ble 371 pc then (bif Nat.ble 376 pc then (bif Nat.ble 378 pc then (bif Nat.ble 381 pc then (bif Nat.beq pc 381 then some (4, 6, 0, 383) else none) else (bif Nat.beq pc 378 then some (70, 26, 6, 381) else none)) else (bif Nat.ble 377 pc then (bif Nat.beq pc 377 then some (37, 0, 0, 378) else none) else (bif Nat.beq pc 376 then some (6, 0, 0, 377) else none))) else (bif Nat.ble 373 pc then (bif Nat.ble 375 pc then (bif Nat.beq pc 375 then some (0, 5, 0, 376) else none) else (bif Nat.beq pc 373 then some (2, 4, 0, 375) else none)) else (bif Nat.ble 372 pc then (bif Nat.beq pc 372 then some (3, 0, 0, 373) else none) else (bif Nat.beq pc 371 then some (37, 0, 0, 372) else none)))) else (bif Nat.ble 366 pc then (bif Nat.ble 369 pc then (bif Nat.ble 370 pc then (bif Nat.beq pc 370 then some (6, 0, 0, 371) else none) else (bif Nat.beq pc 369 then some (0, 4, 0, 370) else none)) else (bif Nat.ble 367 pc then (bif Nat.beq pc 367 then some (2, 4, 0, 369) else none) else (bif Nat.beq pc 366 then some (3, 0, 0, 367) else none))) else (bif Nat.ble 364 pc then (bif Nat.ble 365 pc then (bif Nat.beq pc 365 then some (37, 0, 0, 366) else none) else (bif Nat.beq pc 364 then some (6, 0, 0, 365) else none)) else (bif Nat.ble 363 pc then (bif Nat.beq pc 363 then some (0, 3, 0, 364) else none) else (bif Nat.beq pc 361 then some (2, 4, 0, 363) else none))))))) else (bif Nat.ble 321 pc then (bif Nat.ble 340 pc then (bif Nat.ble 352 pc then (bif Nat.ble 357 pc then (bif Nat.ble 359 pc then (bif Nat.ble 360 pc then (bif Nat.beq pc 360 then some (3, 0, 0, 361) else none) else (bif Nat.beq pc 359 then some (37, 0, 0, 360) else none)) else (bif Nat.ble 358 pc then (bif Nat.beq pc 358 then some (6, 0, 0, 359) else none) else (bif Nat.beq pc 357 then some (0, 2, 0, 358) else none))) else (bif Nat.ble 354 pc then (bif Nat.ble 355 pc then (bif Nat.beq pc 355 then some (2, 4, 0, 357) else none) else (bif Nat.beq pc 354 then some (3, 0, 0, 355) else none)) else (bif Nat.ble 353 pc then (bif Nat.beq pc 353 then some (37, 0, 0, 354) else none) else (bif Nat.beq pc 352 then some (6, 0, 0, 353) else none)))) else (bif Nat.ble 347 pc then (bif Nat.ble 349 pc then (bif Nat.ble 351 pc then (bif Nat.beq pc 351 then some (0, 1, 0, 352) else none) else (bif Nat.beq pc 349 then some (2, 4, 0, 351) else none)) else (bif Nat.ble 348 pc then (bif Nat.beq pc 348 then some (3, 0, 0, 349) else none) else (bif Nat.beq pc 347 then some (3, 2, 0, 348) else none))) else (bif Nat.ble 342 pc then (bif Nat.ble 345 pc then (bif Nat.beq pc 345 then some (4, 5, 0, 347) else none) else (bif Nat.beq pc 342 then some (91, 0, 0, 345) else none)) else (bif Nat.ble 341 pc then (bif Nat.beq pc 341 then some (3, 3, 0, 342) else none) else (bif Nat.beq pc 340 then some (37, 0, 0, 341) else none))))) else (bif Nat.ble 330 pc then (bif Nat.ble 335 pc then (bif Nat.ble 338 pc then (bif Nat.ble 339 pc then (bif Nat.beq pc 339 then some (6, 0, 0, 340) else none) else (bif Nat.beq pc 338 then some (0, 5, 0, 339) else none)) else (bif Nat.ble 336 pc then (bif Nat.beq pc 336 then some (2, 4, 0, 338) else none) else (bif Nat.beq pc 335 then some (3, 0, 0, 336) else none))) else (bif Nat.ble 333 pc then (bif Nat.ble 334 pc then (bif Nat.beq pc 334 then some (37, 0, 0, 335) else none) else (bif Nat.beq pc 333 then some (6, 0, 0, 334) else none)) else (bif Nat.ble 332 pc then (bif Nat.beq pc 332 then some (0, 4, 0, 333) else none) else (bif Nat.beq pc 330 then some (2, 4, 0, 332) else none)))) else (bif Nat.ble 326 pc then (bif Nat.ble 328 pc then (bif Nat.ble 329 pc then (bif Nat.beq pc 329 then some (3, 0, 0, 330) else none) else (bif Nat.beq pc 328 then some (37, 0, 0, 329) else none)) else (bif Nat.ble 327 pc then (bif Nat.beq pc 327 then some (6, 0, 0, 328) else none) else (bif Nat.beq pc 326 then some (0, 3, 0, 327) else none))) else (bif Nat.ble 323 pc then (bif Nat.ble 324 pc then (bif Nat.beq pc 324 then some (2, 4, 0, 326) else none) else (bif Nat.beq pc 323 then some (3, 0, 0, 324) else none)) else (bif Nat.ble 322 pc then (bif Nat.beq pc 322 then some (37, 0, 0, 323) else none) else (bif Nat.beq pc 321 then some (6, 0, 0, 322) else none)))))) else (bif Nat.ble 298 pc then (bif Nat.ble 311 pc then (bif Nat.ble 316 pc then (bif Nat.ble 318 pc then (bif Nat.ble 320 pc then (bif Nat.beq pc 320 then some (0, 2, 0, 321) else none) else (bif Nat.beq pc 318 then some (2, 4, 0, 320) else none)) else (bif Nat.ble 317 pc then (bif Nat.beq pc 317 then some (3, 0, 0, 318) else none) else (bif Nat.beq pc 316 then some (37, 0, 0, 317) else none))) else (bif Nat.ble 314 pc then (bif Nat.ble 315 pc then (bif Nat.beq pc 315 then some (6, 0, 0, 316) else none) else (bif Nat.beq pc 314 then some (0, 1, 0, 315) else none)) else (bif Nat.ble 312 pc then (bif Nat.beq pc 312 then some (2, 4, 0, 314) else none) else (bif Nat.beq pc 311 then some (3, 0, 0, 312) else none)))) else (bif Nat.ble 305 pc then (bif Nat.ble 307 pc then (bif Nat.ble 310 pc then (bif Nat.beq pc 310 then some (3, 1, 0, 311) else none) else (bif Nat.beq pc 307 then some (18, 0, 0, 809) else none)) else (bif Nat.ble 306 pc then (bif Nat.beq pc 306 then some (80, 2, 0, 0) else none) else (bif Nat.beq pc 305 then some (0, 0, 0, 306) else none))) else (bif Nat.ble 301 pc then (bif Nat.ble 302 pc then (bif Nat.beq pc 302 then some (50, 307, 0, 305) else none) else (bif Nat.beq pc 301 then some (22, 0, 0, 302) else none)) else (bif Nat.ble 300 pc then (bif Nat.beq pc 300 then some (21, 0, 0, 301) else none) else (bif Nat.beq pc 298 then some (2, 6, 0, 300) else none))))) else (bif Nat.ble 285 pc then (bif Nat.ble 292 pc then (bif Nat.ble 296 pc then (bif Nat.ble 297 pc then (bif Nat.beq pc 297 then some (35, 0, 0, 298) else none) else (bif Nat.beq pc 296 then some (0, 0, 0, 297) else none)) else (bif Nat.ble 295 pc then (bif Nat.beq pc 295 then some (3, 3, 0, 296) else none) else (bif Nat.beq pc 292 then some (51, 307, 0, 295) else none))) else (bif Nat.ble 289 pc then (bif Nat.ble 290 pc then (bif Nat.beq pc 290 then some (2, 5, 0, 292) else none) else (bif Nat.beq pc 289 then some (80, 2, 0, 0) else none)) else (bif Nat.ble 288 pc then (bif Nat.beq pc 288 then some (0, 0, 0, 289) else none) else (bif Nat.beq pc 285 then some (56, 290, 0, 288) else none)))) else (bif Nat.ble 277 pc then (bif Nat.ble 280 pc then (bif Nat.ble 283 pc then (bif Nat.beq pc 283 then some (2, 5, 0, 285) else none) else (bif Nat.beq pc 280 then some (70, 14, 1, 283) else none)) else (bif Nat.ble 279 pc then (bif Nat.beq pc 279 then some (3, 2, 0, 280) else none) else (bif Nat.beq pc 277 then some (4, 6, 0, 279) else none))) else (bif Nat.ble 273 pc then (bif Nat.ble 274 pc then (bif Nat.beq pc 274 then some (70, 25, 5, 277) else none) else (bif Nat.beq pc 273 then some (37, 0, 0, 274) else none)) else (bif Nat.beq pc 272 then some (6, 0, 0, 273) else none))))))) else (bif Nat.ble 186 pc then (bif Nat.ble 231 pc then (bif Nat.ble 253 pc then (bif Nat.ble 262 pc then (bif Nat.ble 267 pc then (bif Nat.ble 269 pc then (bif Nat.ble 271 pc then (bif Nat.beq pc 271 then some (0, 4, 0, 272) else none) else (bif Nat.beq pc 269 then some (2, 4, 0, 271) else none)) else (bif Nat.ble 268 pc then (bif Nat.beq pc 268 then some (3, 0, 0, 269) else none) else (bif Nat.beq pc 267 then some (37, 0, 0, 268) else none))) else (bif Nat.ble 265 pc then (bif Nat.ble 266 pc then (bif Nat.beq pc 266 then some (6, 0, 0, 267) else none) else (bif Nat.beq pc 265 then some (0, 3, 0, 266) else none)) else (bif Nat.ble 263 pc then (bif Nat.beq pc 263 then some (2, 4, 0, 265) else none) else (bif Nat.beq pc 262 then some (3, 0, 0, 263) else none)))) else (bif Nat.ble 257 pc then (bif Nat.ble 260 pc then (bif Nat.ble 261 pc then (bif Nat.beq pc 261 then some (37, 0, 0, 262) else none) else (bif Nat.beq pc 260 then some (6, 0, 0, 261) else none)) else (bif Nat.ble 259 pc then (bif Nat.beq pc 259 then some (0, 2, 0, 260) else none) else (bif Nat.beq pc 257 then some (2, 4, 0, 259) else none))) else (bif Nat.ble 255 pc then (bif Nat.ble 256 pc then (bif Nat.beq pc 256 then some (3, 0, 0, 257) else none) else (bif Nat.beq pc 255 then some (37, 0, 0, 256) else none)) else (bif Nat.ble 254 pc then (bif Nat.beq pc 254 then some (6, 0, 0, 255) else none) else (bif Nat.beq pc 253 then some (0, 1, 0, 254) else none))))) else (bif Nat.ble 241 pc then (bif Nat.ble 247 pc then (bif Nat.ble 250 pc then (bif Nat.ble 251 pc then (bif Nat.beq pc 251 then some (2, 4, 0, 253) else none) else (bif Nat.beq pc 250 then some (3, 0, 0, 251) else none)) else (bif Nat.ble 249 pc then (bif Nat.beq pc 249 then some (3, 2, 0, 250) else none) else (bif Nat.beq pc 247 then some (4, 5, 0, 249) else none))) else (bif Nat.ble 243 pc then (bif Nat.ble 244 pc then (bif Nat.beq pc 244 then some (91, 0, 0, 247) else none) else (bif Nat.beq pc 243 then some (3, 3, 0, 244) else none)) else (bif Nat.ble 242 pc then (bif Nat.beq pc 242 then some (37, 0, 0, 243) else none) else (bif Nat.beq pc 241 then some (6, 0, 0, 242) else none)))) else (bif Nat.ble 236 pc then (bif Nat.ble 238 pc then (bif Nat.ble 240 pc then (bif Nat.beq pc 240 then some (0, 4, 0, 241) else none) else (bif Nat.beq pc 238 then some (2, 4, 0, 240) else none)) else (bif Nat.ble 237 pc then (bif Nat.beq pc 237 then some (3, 0, 0, 238) else none) else (bif Nat.beq pc 236 then some (37, 0, 0, 237) else none))) else (bif Nat.ble 234 pc then (bif Nat.ble 235 pc then (bif Nat.beq pc 235 then some (6, 0, 0, 236) else none) else (bif Nat.beq pc 234 then some (0, 3, 0, 235) else none)) else (bif Nat.ble 232 pc then (bif Nat.beq pc 232 then some (2, 4, 0, 234) else none) else (bif Nat.beq pc 231 then some (3, 0, 0, 232) else none)))))) else (bif Nat.ble 209 pc then (bif Nat.ble 222 pc then (bif Nat.ble 226 pc then (bif Nat.ble 229 pc then (bif Nat.ble 230 pc then (bif Nat.beq pc 230 then some (37, 0, 0, 231) else none) else (bif Nat.beq pc 229 then some (6, 0, 0, 230) else none)) else (bif Nat.ble 228 pc then (bif Nat.beq pc 228 then some (0, 2, 0, 229) else none) else (bif Nat.beq pc 226 then some (2, 4, 0, 228) else none))) else (bif Nat.ble 224 pc then (bif Nat.ble 225 pc then (bif Nat.beq pc 225 then some (3, 0, 0, 226) else none) else (bif Nat.beq pc 224 then some (37, 0, 0, 225) else none)) else (bif Nat.ble 223 pc then (bif Nat.beq pc 223 then some (6, 0, 0, 224) else none) else (bif Nat.beq pc 222 then some (0, 1, 0, 223) else none)))) else (bif Nat.ble 217 pc then (bif Nat.ble 219 pc then (bif Nat.ble 220 pc then (bif Nat.beq pc 220 then some (2, 4, 0, 222) else none) else (bif Nat.beq pc 219 then some (3, 0, 0, 220) else none)) else (bif Nat.ble 218 pc then (bif Nat.beq pc 218 then some (3, 1, 0, 219) else none) else (bif Nat.beq pc 217 then some (80, 2, 0, 0) else none))) else (bif Nat.ble 213 pc then (bif Nat.ble 216 pc then (bif Nat.beq pc 216 then some (0, 0, 0, 217) else none) else (bif Nat.beq pc 213 then some (56, 809, 0, 216) else none)) else (bif Nat.ble 210 pc then (bif Nat.beq pc 210 then some (70, 21, 1, 213) else none) else (bif Nat.beq pc 209 then some (3, 2, 0, 210) else none))))) else (bif Nat.ble 195 pc then (bif Nat.ble 203 pc then (bif Nat.ble 205 pc then (bif Nat.ble 206 pc then (bif Nat.beq pc 206 then some (70, 2, 1, 209) else none) else (bif Nat.beq pc 205 then some (3, 1, 0, 206) else none)) else (bif Nat.ble 204 pc then (bif Nat.beq pc 204 then some (80, 2, 0, 0) else none) else (bif Nat.beq pc 203 then some (0, 0, 0, 204) else none))) else (bif Nat.ble 197 pc then (bif Nat.ble 200 pc then (bif Nat.beq pc 200 then some (56, 809, 0, 203) else none) else (bif Nat.beq pc 197 then some (70, 18, 3, 200) else none)) else (bif Nat.ble 196 pc then (bif Nat.beq pc 196 then some (37, 0, 0, 197) else none) else (bif Nat.beq pc 195 then some (6, 0, 0, 196) else none)))) else (bif Nat.ble 190 pc then (bif Nat.ble 192 pc then (bif Nat.ble 194 pc then (bif Nat.beq pc 194 then some (0, 2, 0, 195) else none) else (bif Nat.beq pc 192 then some (2, 4, 0, 194) else none)) else (bif Nat.ble 191 pc then (bif Nat.beq pc 191 then some (3, 0, 0, 192) else none) else (bif Nat.beq pc 190 then some (37, 0, 0, 191) else none))) else (bif Nat.ble 188 pc then (bif Nat.ble 189 pc then (bif Nat.beq pc 189 then some (6, 0, 0, 190) else none) else (bif Nat.beq pc 188 then some (0, 1, 0, 189) else none)) else (bif Nat.beq pc 186 then some (2, 4, 0, 188) else none)))))) else (bif Nat.ble 137 pc then (bif Nat.ble 164 pc then (bif Nat.ble 175 pc then (bif Nat.ble 180 pc then (bif Nat.ble 184 pc then (bif Nat.ble 185 pc then (bif Nat.beq pc 185 then some (3, 0, 0, 186) else none) else (bif Nat.beq pc 184 then some (3, 2, 0, 185) else none)) else (bif Nat.ble 181 pc then (bif Nat.beq pc 181 then some (70, 1, 3, 184) else none) else (bif Nat.beq pc 180 then some (37, 0, 0, 181) else none))) else (bif Nat.ble 178 pc then (bif Nat.ble 179 pc then (bif Nat.beq pc 179 then some (6, 0, 0, 180) else none) else (bif Nat.beq pc 178 then some (0, 2, 0, 179) else none)) else (bif Nat.ble 176 pc then (bif Nat.beq pc 176 then some (2, 4, 0, 178) else none) else (bif Nat.beq pc 175 then some (3, 0, 0, 176) else none)))) else (bif Nat.ble 170 pc then (bif Nat.ble 173 pc then (bif Nat.ble 174 pc then (bif Nat.beq pc 174 then some (37, 0, 0, 175) else none) else (bif Nat.beq pc 173 then some (6, 0, 0, 174) else none)) else (bif Nat.ble 172 pc then (bif Nat.beq pc 172 then some (0, 1, 0, 173) else none) else (bif Nat.beq pc 170 then some (2, 4, 0, 172) else none))) else (bif Nat.ble 168 pc then (bif Nat.ble 169 pc then (bif Nat.beq pc 169 then some (3, 0, 0, 170) else none) else (bif Nat.beq pc 168 then some (3, 1, 0, 169) else none)) else (bif Nat.ble 165 pc then (bif Nat.beq pc 165 then some (18, 0, 0, 809) else none) else (bif Nat.beq pc 164 then some (80, 2, 0, 0) else none))))) else (bif Nat.ble 153 pc then (bif Nat.ble 158 pc then (bif Nat.ble 160 pc then (bif Nat.ble 163 pc then (bif Nat.beq pc 163 then some (0, 0, 0, 164) else none) else (bif Nat.beq pc 160 then some (50, 165, 0, 163) else none)) else (bif Nat.ble 159 pc then (bif Nat.beq pc 159 then some (22, 0, 0, 160) else none) else (bif Nat.beq pc 158 then some (21, 0, 0, 159) else none))) else (bif Nat.ble 155 pc then (bif Nat.ble 156 pc then (bif Nat.beq pc 156 then some (2, 6, 0, 158) else none) else (bif Nat.beq pc 155 then some (35, 0, 0, 156) else none)) else (bif Nat.ble 154 pc then (bif Nat.beq pc 154 then some (0, 0, 0, 155) else none) else (bif Nat.beq pc 153 then some (3, 3, 0, 154) else none)))) else (bif Nat.ble 146 pc then (bif Nat.ble 148 pc then (bif Nat.ble 150 pc then (bif Nat.beq pc 150 then some (51, 165, 0, 153) else none) else (bif Nat.beq pc 148 then some (2, 5, 0, 150) else none)) else (bif Nat.ble 147 pc then (bif Nat.beq pc 147 then some (80, 2, 0, 0) else none) else (bif Nat.beq pc 146 then some (0, 0, 0, 147) else none))) else (bif Nat.ble 141 pc then (bif Nat.ble 143 pc then (bif Nat.beq pc 143 then some (56, 148, 0, 146) else none) else (bif Nat.beq pc 141 then some (2, 5, 0, 143) else none)) else (bif Nat.ble 138 pc then (bif Nat.beq pc 138 then some (70, 14, 1, 141) else none) else (bif Nat.beq pc 137 then some (3, 2, 0, 138) else none)))))) else (bif Nat.ble 113 pc then (bif Nat.ble 125 pc then (bif Nat.ble 130 pc then (bif Nat.ble 132 pc then (bif Nat.ble 135 pc then (bif Nat.beq pc 135 then some (4, 6, 0, 137) else none) else (bif Nat.beq pc 132 then some (70, 17, 2, 135) else none)) else (bif Nat.ble 131 pc then (bif Nat.beq pc 131 then some (37, 0, 0, 132) else none) else (bif Nat.beq pc 130 then some (6, 0, 0, 131) else none))) else (bif Nat.ble 127 pc then (bif Nat.ble 129 pc then (bif Nat.beq pc 129 then some (0, 1, 0, 130) else none) else (bif Nat.beq pc 127 then some (2, 4, 0, 129) else none)) else (bif Nat.ble 126 pc then (bif Nat.beq pc 126 then some (3, 0, 0, 127) else none) else (bif Nat.beq pc 125 then some (3, 2, 0, 126) else none)))) else (bif Nat.ble 118 pc then (bif Nat.ble 120 pc then (bif Nat.ble 123 pc then (bif Nat.beq pc 123 then some (4, 5, 0, 125) else none) else (bif Nat.beq pc 120 then some (91, 0, 0, 123) else none)) else (bif Nat.ble 119 pc then (bif Nat.beq pc 119 then some (3, 3, 0, 120) else none) else (bif Nat.beq pc 118 then some (37, 0, 0, 119) else none))) else (bif Nat.ble 116 pc then (bif Nat.ble 117 pc then (bif Nat.beq pc 117 then some (6, 0, 0, 118) else none) else (bif Nat.beq pc 116 then some (0, 1, 0, 117) else none)) else (bif Nat.ble 114 pc then (bif Nat.beq pc 114 then some (2, 4, 0, 116) else none) else (bif Nat.beq pc 113 then some (3, 0, 0, 114) else none))))) else (bif Nat.ble 30 pc then (bif Nat.ble 37 pc then (bif Nat.ble 40 pc then (bif Nat.ble 112 pc then (bif Nat.beq pc 112 then some (3, 1, 0, 113) else none) else (bif Nat.beq pc 40 then some (62, 6, 809, 0) else none)) else (bif Nat.ble 39 pc then (bif Nat.beq pc 39 then some (10, 0, 0, 40) else none) else (bif Nat.beq pc 37 then some (0, 15, 0, 39) else none))) else (bif Nat.ble 34 pc then (bif Nat.ble 36 pc then (bif Nat.beq pc 36 then some (37, 0, 0, 37) else none) else (bif Nat.beq pc 34 then some (2, 4, 0, 36) else none)) else (bif Nat.ble 33 pc then (bif Nat.beq pc 33 then some (3, 0, 0, 34) else none) else (bif Nat.beq pc 30 then some (60, 815, 0, 33) else none)))) else (bif Nat.ble 25 pc then (bif Nat.ble 27 pc then (bif Nat.ble 29 pc then (bif Nat.beq pc 29 then some (7, 0, 0, 30) else none) else (bif Nat.beq pc 27 then some (0, 6, 0, 29) else none)) else (bif Nat.ble 26 pc then (bif Nat.beq pc 26 then some (24, 0, 0, 27) else none) else (bif Nat.beq pc 25 then some (3, 0, 0, 26) else none))) else (bif Nat.ble 21 pc then (bif Nat.ble 23 pc then (bif Nat.beq pc 23 then some (2, 4, 0, 25) else none) else (bif Nat.beq pc 21 then some (4, 4, 0, 23) else none)) else (bif Nat.beq pc 20 then some (0, 0, 0, 21) else none))))))))
-- 106: java/util/Arrays.fill([II)V
def k_106 (pc : Nat) : Option PE := bif Nat.ble 7 pc then (bif Nat.ble 13 pc then (bif Nat.ble 17 pc then (bif Nat.ble 20 pc then (bif Nat.beq pc 20 then some (81, 0, 0, 0) else none) else (bif Nat.beq pc 17 then some (18, 0, 0, 5) else none)) else (bif Nat.ble 14 pc then (bif Nat.beq pc 14 then some (19, 2, 1, 17) else none) else (bif Nat.beq pc 13 then some (31, 0, 0, 14) else none))) else (bif Nat.ble 11 pc then (bif Nat.ble 12 pc then (bif Nat.beq pc 12 then some (2, 1, 0, 13) else none) else (bif Nat.beq pc 11 then some (2, 2, 0, 12) else none)) else (bif Nat.ble 10 pc then (bif Nat.beq pc 10 then some (3, 0, 0, 11) else none) else (bif Nat.beq pc 7 then some (59, 20, 0, 10) else none)))) else (bif Nat.ble 3 pc then (bif Nat.ble 5 pc then (bif Nat.ble 6 pc then (bif Nat.beq pc 6 then some (2, 3, 0, 7) else none) else (bif Nat.beq pc 5 then some (2, 2, 0, 6) else none)) else (bif Nat.ble 4 pc then (bif Nat.beq pc 4 then some (4, 3, 0, 5) else none) else (bif Nat.beq pc 3 then some (23, 0, 0, 4) else none))) else (bif Nat.ble 1 pc then (bif Nat.ble 2 pc then (bif Nat.beq pc 2 then some (3, 0, 0, 3) else none) else (bif Nat.beq pc 1 then some (4, 2, 0, 2) else none)) else (bif Nat.beq pc 0 then some (0, 0, 0, 1) else none)))
def cd (mi pc : Nat) : Option PE := bif Nat.ble 53 mi then (bif Nat.ble 80 mi then (bif Nat.ble 93 mi then (bif Nat.ble 100 mi then (bif Nat.ble 103 mi then (bif Nat.ble 105 mi then (bif Nat.ble 106 mi then (bif Nat.beq mi 106 then k_106 pc else none) else (bif Nat.beq mi 105 then k_105 pc else none)) else (bif Nat.ble 104 mi then (bif Nat.beq mi 104 then k_104 pc else none) else (bif Nat.beq mi 103 then k_103 pc else none))) else (bif Nat.ble 101 mi then (bif Nat.ble 102 mi then (bif Nat.beq mi 102 then k_102 pc else none) else (bif Nat.beq mi 101 then k_101 pc else none)) else (bif Nat.beq mi 100 then k_100 pc else none))) else (bif Nat.ble 96 mi then (bif Nat.ble 98 mi then (bif Nat.ble 99 mi then (bif Nat.beq mi 99 then k_99 pc else none) else (bif Nat.beq mi 98 then k_98 pc else none)) else (bif Nat.ble 97 mi then (bif Nat.beq mi 97 then k_97 pc else none) else (bif Nat.beq mi 96 then k_96 pc else none))) else (bif Nat.ble 94 mi then (bif Nat.ble 95 mi then (bif Nat.beq mi 95 then k_95 pc else none) else (bif Nat.beq mi 94 then k_94 pc else none)) else (bif Nat.beq mi 93 then k_93 pc else none)))) else (bif Nat.ble 86 mi then (bif Nat.ble 89 mi then (bif Nat.ble 91 mi then (bif Nat.ble 92 mi then (bif Nat.beq mi 92 then k_92 pc else none) else (bif Nat.beq mi 91 then k_91 pc else none)) else (bif Nat.ble 90 mi then (bif Nat.beq mi 90 then k_90 pc else none) else (bif Nat.beq mi 89 then k_89 pc else none))) else (bif Nat.ble 87 mi then (bif Nat.ble 88 mi then (bif Nat.beq mi 88 then k_88 pc else none) else (bif Nat.beq mi 87 then k_87 pc else none)) else (bif Nat.beq mi 86 then k_86 pc else none))) else (bif Nat.ble 83 mi then (bif Nat.ble 84 mi then (bif Nat.ble 85 mi then (bif Nat.beq mi 85 then k_85 pc else none) else (bif Nat.beq mi 84 then k_84 pc else none)) else (bif Nat.beq mi 83 then k_83 pc else none)) else (bif Nat.ble 81 mi then (bif Nat.ble 82 mi then (bif Nat.beq mi 82 then k_82 pc else none) else (bif Nat.beq mi 81 then k_81 pc else none)) else (bif Nat.beq mi 80 then k_80 pc else none))))) else (bif Nat.ble 66 mi then (bif Nat.ble 73 mi then (bif Nat.ble 76 mi then (bif Nat.ble 78 mi then (bif Nat.ble 79 mi then (bif Nat.beq mi 79 then k_79 pc else none) else (bif Nat.beq mi 78 then k_78 pc else none)) else (bif Nat.ble 77 mi then (bif Nat.beq mi 77 then k_77 pc else none) else (bif Nat.beq mi 76 then k_76 pc else none))) else (bif Nat.ble 74 mi then (bif Nat.ble 75 mi then (bif Nat.beq mi 75 then k_75 pc else none) else (bif Nat.beq mi 74 then k_74 pc else none)) else (bif Nat.beq mi 73 then k_73 pc else none))) else (bif Nat.ble 69 mi then (bif Nat.ble 71 mi then (bif Nat.ble 72 mi then (bif Nat.beq mi 72 then k_72 pc else none) else (bif Nat.beq mi 71 then k_71 pc else none)) else (bif Nat.ble 70 mi then (bif Nat.beq mi 70 then k_70 pc else none) else (bif Nat.beq mi 69 then k_69 pc else none))) else (bif Nat.ble 67 mi then (bif Nat.ble 68 mi then (bif Nat.beq mi 68 then k_68 pc else none) else (bif Nat.beq mi 67 then k_67 pc else none)) else (bif Nat.beq mi 66 then k_66 pc else none)))) else (bif Nat.ble 59 mi then (bif Nat.ble 62 mi then (bif Nat.ble 64 mi then (bif Nat.ble 65 mi then (bif Nat.beq mi 65 then k_65 pc else none) else (bif Nat.beq mi 64 then k_64 pc else none)) else (bif Nat.ble 63 mi then (bif Nat.beq mi 63 then k_63 pc else none) else (bif Nat.beq mi 62 then k_62 pc else none))) else (bif Nat.ble 60 mi then (bif Nat.ble 61 mi then (bif Nat.beq mi 61 then k_61 pc else none) else (bif Nat.beq mi 60 then k_60 pc else none)) else (bif Nat.beq mi 59 then k_59 pc else none))) else (bif Nat.ble 56 mi then (bif Nat.ble 57 mi then (bif Nat.ble 58 mi then (bif Nat.beq mi 58 then k_58 pc else none) else (bif Nat.beq mi 57 then k_57 pc else none)) else (bif Nat.beq mi 56 then k_56 pc else none)) else (bif Nat.ble 54 mi then (bif Nat.ble 55 mi then (bif Nat.beq mi 55 then k_55 pc else none) else (bif Nat.beq mi 54 then k_54 pc else none)) else (bif Nat.beq mi 53 then k_53 pc else none)))))) else (bif Nat.ble 26 mi then (bif Nat.ble 39 mi then (bif Nat.ble 46 mi then (bif Nat.ble 49 mi then (bif Nat.ble 51 mi then (bif Nat.ble 52 mi then (bif Nat.beq mi 52 then k_52 pc else none) else (bif Nat.beq mi 51 then k_51 pc else none)) else (bif Nat.ble 50 mi then (bif Nat.beq mi 50 then k_50 pc else none) else (bif Nat.beq mi 49 then k_49 pc else none))) else (bif Nat.ble 47 mi then (bif Nat.ble 48 mi then (bif Nat.beq mi 48 then k_48 pc else none) else (bif Nat.beq mi 47 then k_47 pc else none)) else (bif Nat.beq mi 46 then k_46 pc else none))) else (bif Nat.ble 42 mi then (bif Nat.ble 44 mi then (bif Nat.ble 45 mi then (bif Nat.beq mi 45 then k_45 pc else none) else (bif Nat.beq mi 44 then k_44 pc else none)) else (bif Nat.ble 43 mi then (bif Nat.beq mi 43 then k_43 pc else none) else (bif Nat.beq mi 42 then k_42 pc else none))) else (bif Nat.ble 40 mi then (bif Nat.ble 41 mi then (bif Nat.beq mi 41 then k_41 pc else none) else (bif Nat.beq mi 40 then k_40 pc else none)) else (bif Nat.beq mi 39 then k_39 pc else none)))) else (bif Nat.ble 32 mi then (bif Nat.ble 35 mi then (bif Nat.ble 37 mi then (bif Nat.ble 38 mi then (bif Nat.beq mi 38 then k_38 pc else none) else (bif Nat.beq mi 37 then k_37 pc else none)) else (bif Nat.ble 36 mi then (bif Nat.beq mi 36 then k_36 pc else none) else (bif Nat.beq mi 35 then k_35 pc else none))) else (bif Nat.ble 33 mi then (bif Nat.ble 34 mi then (bif Nat.beq mi 34 then k_34 pc else none) else (bif Nat.beq mi 33 then k_33 pc else none)) else (bif Nat.beq mi 32 then k_32 pc else none))) else (bif Nat.ble 29 mi then (bif Nat.ble 30 mi then (bif Nat.ble 31 mi then (bif Nat.beq mi 31 then k_31 pc else none) else (bif Nat.beq mi 30 then k_30 pc else none)) else (bif Nat.beq mi 29 then k_29 pc else none)) else (bif Nat.ble 27 mi then (bif Nat.ble 28 mi then (bif Nat.beq mi 28 then k_28 pc else none) else (bif Nat.beq mi 27 then k_27 pc else none)) else (bif Nat.beq mi 26 then k_26 pc else none))))) else (bif Nat.ble 13 mi then (bif Nat.ble 19 mi then (bif Nat.ble 22 mi then (bif Nat.ble 24 mi then (bif Nat.ble 25 mi then (bif Nat.beq mi 25 then k_25 pc else none) else (bif Nat.beq mi 24 then k_24 pc else none)) else (bif Nat.ble 23 mi then (bif Nat.beq mi 23 then k_23 pc else none) else (bif Nat.beq mi 22 then k_22 pc else none))) else (bif Nat.ble 20 mi then (bif Nat.ble 21 mi then (bif Nat.beq mi 21 then k_21 pc else none) else (bif Nat.beq mi 20 then k_20 pc else none)) else (bif Nat.beq mi 19 then k_19 pc else none))) else (bif Nat.ble 16 mi then (bif Nat.ble 17 mi then (bif Nat.ble 18 mi then (bif Nat.beq mi 18 then k_18 pc else none) else (bif Nat.beq mi 17 then k_17 pc else none)) else (bif Nat.beq mi 16 then k_16 pc else none)) else (bif Nat.ble 14 mi then (bif Nat.ble 15 mi then (bif Nat.beq mi 15 then k_15 pc else none) else (bif Nat.beq mi 14 then k_14 pc else none)) else (bif Nat.beq mi 13 then k_13 pc else none)))) else (bif Nat.ble 6 mi then (bif Nat.ble 9 mi then (bif Nat.ble 11 mi then (bif Nat.ble 12 mi then (bif Nat.beq mi 12 then k_12 pc else none) else (bif Nat.beq mi 11 then k_11 pc else none)) else (bif Nat.ble 10 mi then (bif Nat.beq mi 10 then k_10 pc else none) else (bif Nat.beq mi 9 then k_9 pc else none))) else (bif Nat.ble 7 mi then (bif Nat.ble 8 mi then (bif Nat.beq mi 8 then k_8 pc else none) else (bif Nat.beq mi 7 then k_7 pc else none)) else (bif Nat.beq mi 6 then k_6 pc else none))) else (bif Nat.ble 3 mi then (bif Nat.ble 4 mi then (bif Nat.ble 5 mi then (bif Nat.beq mi 5 then k_5 pc else none) else (bif Nat.beq mi 4 then k_4 pc else none)) else (bif Nat.beq mi 3 then k_3 pc else none)) else (bif Nat.ble 1 mi then (bif Nat.ble 2 mi then (bif Nat.beq mi 2 then k_2 pc else none) else (bif Nat.beq mi 1 then k_1 pc else none)) else (bif Nat.beq mi 0 then k_0 pc else none))))))
theorem pgt_lt {α : Type} : ∀ (l : List α) (k : Nat) (x : α), pgt l k = some x → k < l.length
  | [], _, _, h => by cases h
  | _ :: _, 0, _, _ => by simp
  | _ :: t, k + 1, x, h => by have := pgt_lt t k x h; simp; omega
theorem pgd_out {α : Type} {l : List α} {k : Nat} {d : α} (h : l.length ≤ k) : pgd l k d = d := by
  unfold pgd
  cases hx : pgt l k with
  | none => rfl
  | some a => exact absurd (pgt_lt l k a hx) (by omega)
theorem al_lt (t : Nat) : al t < 2 ^ 30 := by
  rcases Nat.lt_or_ge t 48 with h | h
  · exact (by decide +kernel : ∀ t, t < 48 → al t < 2 ^ 30) t h
  · rw [show al t = 0 from pgd_out h]; decide
theorem al_cn (t : Nat) (h0 : 0 < al t) : cn t = 90 := by
  rcases Nat.lt_or_ge t 48 with h | h
  · exact (by decide +kernel : ∀ t, t < 48 → 0 < al t → cn t = 90) t h h0
  · rw [show al t = 0 from pgd_out h] at h0; omega
theorem fk_ok : ∀ t, t < 48 → ∀ j, j < 30 → (match pgt (fk t) j with | some (some t') => (decide (cn t' < 95) && (decide (t < 40) == decide (t' < 40))) | _ => true) = true := by decide +kernel
theorem fk_len : ∀ t, t < 48 → (fk t).length ≤ 30 := by decide +kernel
end
section
/-! The class, the reference and the law as one small machine over numbers: values, memory (tag, index, slot), locals.
The tables (cd, fk, cn, al, mxl, pswt) are printed by wip/whole/gen.py. -/
abbrev pI (x : Int32) : PV := Sum.inl x
abbrev pJ (x : Int64) : PV := Sum.inr (Sum.inl x)
abbrev pR (t m : Nat) : PV := Sum.inr (Sum.inr (t, m))
def pu (μ : PM) (t m j : Nat) (x : Int32) : PM := fun t' m' j' => if t' = t ∧ m' = m ∧ j' = j then x else μ t' m' j'
def plg : PL → Nat → Option PV
  | [], _ => none
  | a :: _, 0 => a
  | _ :: t, k + 1 => plg t k
def pls : PL → Nat → PV → Option PL
  | [], _, _ => none
  | _ :: t, 0, v => some (some v :: t)
  | a :: t, k + 1, v => match pls t k v with
    | some t' => some (a :: t')
    | none => none
def pen : List PV → Nat → PL
  | _, 0 => []
  | [], n + 1 => none :: pen [] n
  | v :: l, n + 1 => some v :: pen l n
def pen' : List PV → Nat → Option PL
  | [], 0 => some []
  | _ :: _, 0 => none
  | [], n + 1 => match pen' [] n with
    | some t => some (none :: t)
    | none => none
  | v :: l, n + 1 => match pen' l n with
    | some t => some (some v :: t)
    | none => none
theorem pen'_eq : ∀ (as : List PV) (n : Nat) (ls : PL), pen' as n = some ls → pen as n = ls ∧ as.length ≤ n
  | [], 0, ls, h => by cases h; exact ⟨rfl, Nat.le_refl _⟩
  | _ :: _, 0, ls, h => by cases h
  | [], n + 1, ls, h => by
    unfold pen' at h
    cases hx : pen' [] n with
    | none => rw [hx] at h; cases h
    | some t =>
      rw [hx] at h
      cases h
      exact ⟨by show none :: pen [] n = _; rw [(pen'_eq [] n t hx).1], Nat.zero_le _⟩
  | v :: l, n + 1, ls, h => by
    unfold pen' at h
    cases hx : pen' l n with
    | none => rw [hx] at h; cases h
    | some t =>
      rw [hx] at h
      cases h
      have := pen'_eq l n t hx
      exact ⟨by show some v :: pen l n = _; rw [this.1], Nat.succ_le_succ this.2⟩
def ptk : Nat → List PV → List PV → Option (List PV × List PV)
  | 0, acc, s => some (acc, s)
  | _ + 1, _, [] => none
  | n + 1, acc, v :: s => ptk n (v :: acc) s
def ppu : Option PV → List PV → List PV
  | none, s => s
  | some v, s => v :: s
def pfl (t m j : Nat) (μ : PM) : Option PV := match pgt (fk t) j with
  | some (some t') => some (pR t' m)
  | some none => some (pI (μ t m j))
  | none => none
def pob (t a b : Nat) : Bool := Nat.beq (cn t) a && (match pgt (fk t) b with | some none => true | _ => false)
/-- the plain steps: no condition but on the form -/
def pst (op a b : Nat) (ls : PL) (st : List PV) (μ : PM) : Option (PL × List PV × PM) :=
  match op with
  | 0 => some (ls, pI (nI a) :: st, μ)
  | 1 => some (ls, pI (-1) :: st, μ)
  | 2 => match plg ls a with
    | some (.inl x) => some (ls, pI x :: st, μ)
    | _ => none
  | 3 => match plg ls a with
    | some (.inr (.inr (t, m))) => some (ls, pR t m :: st, μ)
    | _ => none
  | 4 => match st with
    | .inl x :: s => match pls ls a (pI x) with
      | some l => some (l, s, μ)
      | none => none
    | _ => none
  | 5 => match st with
    | .inr (.inr (t, m)) :: s => match pls ls a (pR t m) with
      | some l => some (l, s, μ)
      | none => none
    | _ => none
  | 6 => match st with
    | .inl y :: .inl x :: s => some (ls, pI (x + y) :: s, μ)
    | _ => none
  | 7 => match st with
    | .inl y :: .inl x :: s => some (ls, pI (x - y) :: s, μ)
    | _ => none
  | 8 => match st with
    | .inl y :: .inl x :: s => some (ls, pI (x * y) :: s, μ)
    | _ => none
  | 9 => match st with
    | .inl y :: .inl x :: s => some (ls, pI (x ||| y) :: s, μ)
    | _ => none
  | 10 => match st with
    | .inl y :: .inl x :: s => some (ls, pI (x &&& y) :: s, μ)
    | _ => none
  | 11 => match st with
    | .inl y :: .inl x :: s => some (ls, pI (x ^^^ y) :: s, μ)
    | _ => none
  | 12 => match st with
    | .inl y :: .inl x :: s => some (ls, pI (x <<< (y &&& 31)) :: s, μ)
    | _ => none
  | 13 => match st with
    | .inl y :: .inl x :: s => some (ls, pI (x >>> (y &&& 31)) :: s, μ)
    | _ => none
  | 14 => match st with
    | .inl x :: s => some (ls, pI x :: pI x :: s, μ)
    | .inr (.inr (t, m)) :: s => some (ls, pR t m :: pR t m :: s, μ)
    | _ => none
  | 15 => match st with
    | .inl x :: .inr (.inr (t, m)) :: s => some (ls, pI x :: pR t m :: pI x :: pR t m :: s, μ)
    | _ => none
  | 16 => match st with
    | .inr (.inr (t, m)) :: s => bif Nat.beq (cn t) a then (match pfl t m b μ with
      | some v => some (ls, v :: s, μ)
      | none => none) else none
    | _ => none
  | 17 => match st with
    | .inl x :: .inr (.inr (t, m)) :: s => bif pob t a b then some (ls, s, pu μ t m b x) else none
    | _ => none
  | 18 => some (ls, st, μ)
  | 19 => match plg ls a with
    | some (.inl x) => match pls ls a (pI (x + nI b)) with
      | some l => some (l, st, μ)
      | none => none
    | _ => none
  | 20 => match plg ls a with
    | some (.inl x) => match pls ls a (pI (x + (-1))) with
      | some l => some (l, st, μ)
      | none => none
    | _ => none
  | 21 => match st with
    | .inl x :: s => some (ls, pJ x.toInt64 :: s, μ)
    | _ => none
  | 22 => match st with
    | .inr (.inl y) :: .inr (.inl x) :: s => some (ls, pI (lg_cmp x y) :: s, μ)
    | _ => none
  | 23 => match st with
    | .inr (.inr (t, _)) :: s => bif Nat.ble 1 (al t) then some (ls, pI (nI (al t)) :: s, μ) else none
    | _ => none
  | 24 => match st with
    | .inr (.inr (t, _)) :: s => bif Nat.beq t 39 then some (ls, pI (μ 38 0 0) :: s, μ) else none
    | _ => none
  | _ => none
/-- the steps with a condition on numbers -/
def psp (op a b : Nat) (ls : PL) (st : List PV) (μ : PM) : Option (PL × List PV × PM) :=
  match op with
  | 30 => match st with
    | .inl j :: .inr (.inr (t, m)) :: s => if 0 ≤ j.toInt ∧ j.toInt < al t then some (ls, pI (μ t m j.toNatClampNeg) :: s, μ) else none
    | _ => none
  | 31 => match st with
    | .inl x :: .inl j :: .inr (.inr (t, m)) :: s => if 0 ≤ j.toInt ∧ j.toInt < al t then some (ls, s, pu μ t m j.toNatClampNeg x) else none
    | _ => none
  | 32 => match st with
    | .inl j :: .inr (.inr (t, _)) :: s => if t = 3 ∧ 0 ≤ j.toInt ∧ j.toInt < 8 then some (ls, pR 40 j.toNatClampNeg :: s, μ) else none
    | _ => none
  | 33 => match st with
    | .inl y :: .inl x :: s => if y = 0 then none else some (ls, pI (x / y) :: s, μ)
    | _ => none
  | 34 => match st with
    | .inl x :: .inr (.inr (t, m)) :: s => if pob t a b = true ∧ (x = 0 ∨ x = 1) then some (ls, s, pu μ t m b x) else none
    | _ => none
  | 35 => match st with
    | .inl j :: .inr (.inr (t, _)) :: s => if t = 34 ∧ j = 0 then some (ls, pJ (μ 34 0 0).toInt64 :: s, μ) else none
    | _ => none
  | 36 => match st with
    | .inr (.inl x) :: .inl j :: .inr (.inr (t, _)) :: s => if t = 34 ∧ j = 0 ∧ x.toInt32.toInt64 = x then some (ls, s, pu μ 34 0 0 x.toInt32) else none
    | _ => none
  | 37 => match st with
    | .inl j :: .inr (.inr (t, _)) :: s => if t = 39 ∧ 0 ≤ j.toInt ∧ j.toInt < (μ 38 0 0).toInt then some (ls, pI (μ 39 0 j.toNatClampNeg) :: s, μ) else none
    | _ => none
  | _ => none
/-- the branches: the condition, and what is left of the stack -/
def pbq (op : Nat) (st : List PV) : Option (Prop × List PV) :=
  match op with
  | 50 => match st with
    | .inl x :: s => some (x = 0, s)
    | _ => none
  | 51 => match st with
    | .inl x :: s => some (¬ x = 0, s)
    | _ => none
  | 52 => match st with
    | .inl x :: s => some (x < 0, s)
    | _ => none
  | 53 => match st with
    | .inl x :: s => some (0 ≤ x, s)
    | _ => none
  | 54 => match st with
    | .inl x :: s => some (0 < x, s)
    | _ => none
  | 55 => match st with
    | .inl x :: s => some (x ≤ 0, s)
    | _ => none
  | 56 => match st with
    | .inl y :: .inl x :: s => some (x = y, s)
    | _ => none
  | 57 => match st with
    | .inl y :: .inl x :: s => some (¬ x = y, s)
    | _ => none
  | 58 => match st with
    | .inl y :: .inl x :: s => some (x < y, s)
    | _ => none
  | 59 => match st with
    | .inl y :: .inl x :: s => some (y ≤ x, s)
    | _ => none
  | 60 => match st with
    | .inl y :: .inl x :: s => some (y < x, s)
    | _ => none
  | 61 => match st with
    | .inl y :: .inl x :: s => some (x ≤ y, s)
    | _ => none
  | _ => none
def psw : List (Nat × Nat) → Nat → Int32 → Nat
  | [], d, _ => d
  | (k, t) :: l, d, x => if x = nI k then t else psw l d x
def nlg : PV → Bool
  | .inr (.inl _) => false
  | _ => true
def pnl : List PV → Bool
  | [] => true
  | v :: l => nlg v && pnl l
/-- the receiver is of the method's class (99: a static method) -/
def prc (a : Nat) (as : List PV) : Bool := match as with
  | .inr (.inr (t, _)) :: _ => Nat.beq (km a) 99 || Nat.beq (cn t) (km a)
  | _ => Nat.beq (km a) 99
def pcl (op a b : Nat) (st : List PV) : Option (List PV × List PV) := match op with
  | 70 => match ptk b [] st with
    | some (as, s) => bif Nat.ble s.length 4 && (prc a as && (pnl as && Nat.ble as.length (mxl a))) then some (as, s) else none
    | none => none
  | _ => none
def pqs (op a b : Nat) (st : List PV) : Option (Nat × List PV) := match op with
  | 62 => match st with
    | .inl x :: s => some (psw (pswt a) b x, s)
    | _ => none
  | _ => none
/-- how a method ends: 0 and what it gives, or the number of what it throws -/
def pret (mi pce : Nat) (ste : List PV) : Option (Nat × Option PV) :=
  match cd mi pce with
  | some (80, 1, _, _) => match ste with
    | [.inl x] => some (0, some (pI x))
    | _ => none
  | some (80, 2, _, _) => match ste with
    | [.inl x] => if x = 0 ∨ x = 1 then some (0, some (pI x)) else none
    | _ => none
  | some (81, _, _, _) => match ste with
    | [] => some (0, none)
    | _ => none
  | some (82, _, _, _) => match ste with
    | [.inr (.inr (t, m))] => some (0, some (pR t m))
    | _ => none
  | some (90, x, _, _) => some (x + 1, none)
  | _ => none
/-- one step, over what the rest of the run gives -/
noncomputable def pbody (f : Nat → Nat → PL → List PV → PM → Option (Nat × PL × List PV × PM)) (mi pc : Nat) (ls : PL) (st : List PV) (μ : PM) : Option (Nat × PL × List PV × PM) :=
  match cd mi pc with
  | none => none
  | some (op, a, b, pc') => match pst op a b ls st μ with
    | some (ls', st', μ') => f mi pc' ls' st' μ'
    | none => match psp op a b ls st μ with
      | some (ls', st', μ') => f mi pc' ls' st' μ'
      | none => match pbq op st with
        | some (P, s) => @ite _ P (Classical.propDecidable P) (f mi a ls s μ) (f mi pc' ls s μ)
        | none => match pcl op a b st with
          | some (as, s) => match f a 0 (pen as (mxl a)) [] μ with
            | some (pce, _, ste, μ1) => match pret a pce ste with
              | some (0, r) => f mi pc' ls (ppu r s) μ1
              | _ => none
            | none => none
          | none => match pqs op a b st with
            | some (tg, s) => f mi tg ls s μ
            | none => if 80 ≤ op then some (pc, ls, st, μ) else none
noncomputable def prun : Nat → Nat → Nat → PL → List PV → PM → Option (Nat × PL × List PV × PM)
  | 0, _, _, _, _, _ => none
  | n + 1, mi, pc, ls, st, μ => pbody (prun n) mi pc ls st μ
theorem pbody_mono {f g : Nat → Nat → PL → List PV → PM → Option (Nat × PL × List PV × PM)} (hfg : ∀ mi pc ls st μ r, f mi pc ls st μ = some r → g mi pc ls st μ = some r)
    {mi pc : Nat} {ls : PL} {st : List PV} {μ : PM} {r : Nat × PL × List PV × PM} : pbody f mi pc ls st μ = some r → pbody g mi pc ls st μ = some r := by
  unfold pbody
  generalize cd mi pc = e
  cases e with
  | none => exact id
  | some e =>
    obtain ⟨op, a, b, p'⟩ := e
    dsimp only
    generalize pst op a b ls st μ = x
    cases x with
    | some y => obtain ⟨l', s', m'⟩ := y; exact hfg _ _ _ _ _ _
    | none =>
      dsimp only
      generalize psp op a b ls st μ = x
      cases x with
      | some y => obtain ⟨l', s', m'⟩ := y; exact hfg _ _ _ _ _ _
      | none =>
        dsimp only
        generalize pbq op st = x
        cases x with
        | some y =>
          obtain ⟨P, s'⟩ := y
          dsimp only
          by_cases hP : P
          · rw [if_pos hP, if_pos hP]; exact hfg _ _ _ _ _ _
          · rw [if_neg hP, if_neg hP]; exact hfg _ _ _ _ _ _
        | none =>
          dsimp only
          generalize pcl op a b st = x
          cases x with
          | some y =>
            obtain ⟨as, s'⟩ := y
            dsimp only
            cases hx : f a 0 (pen as (mxl a)) [] μ with
            | none => intro h; cases h
            | some z =>
              rw [hfg _ _ _ _ _ _ hx]
              obtain ⟨pce, lse, ste, μ1⟩ := z
              dsimp only
              generalize pret a pce ste = w
              match w with
              | none => exact id
              | some (0, r) => exact hfg _ _ _ _ _ _
              | some (k + 1, r) => exact id
          | none =>
            dsimp only
            generalize pqs op a b st = x
            cases x with
            | some y => obtain ⟨tg, s'⟩ := y; exact hfg _ _ _ _ _ _
            | none => exact id
theorem prun_succ : ∀ (n mi pc : Nat) (ls : PL) (st : List PV) (μ : PM) (r : Nat × PL × List PV × PM), prun n mi pc ls st μ = some r → prun (n + 1) mi pc ls st μ = some r
  | 0, _, _, _, _, _, _, h => by cases h
  | n + 1, mi, pc, ls, st, μ, r, h => pbody_mono (f := prun n) (g := prun (n + 1)) (prun_succ n) h
theorem prun_mono {n k mi pc : Nat} {ls : PL} {st : List PV} {μ : PM} {r : Nat × PL × List PV × PM} (h : prun n mi pc ls st μ = some r) (hk : n ≤ k) : prun k mi pc ls st μ = some r := by
  obtain ⟨d, rfl⟩ := Nat.le.dest hk
  induction d with
  | zero => exact h
  | succ d ih => exact prun_succ _ _ _ _ _ _ _ (ih (Nat.le_add_right _ _))
def Ax (mi pc : Nat) (ls : PL) (st : List PV) (μ : PM) (Q : Nat → Option PV → PM → Prop) : Prop :=
  ∃ (n pce : Nat) (lse : PL) (ste : List PV) (μ1 : PM) (x : Nat) (r : Option PV), prun n mi pc ls st μ = some (pce, lse, ste, μ1) ∧ pret mi pce ste = some (x, r) ∧ Q x r μ1
def Cl (mi : Nat) (as : List PV) (μ : PM) (Q : Option PV → PM → Prop) : Prop := Ax mi 0 (pen as (mxl mi)) [] μ (fun x r μ1 => x = 0 ∧ Q r μ1)
theorem Cl_in {mi : Nat} {as : List PV} {ls : PL} {μ : PM} {Q : Option PV → PM → Prop} (hl : pen' as (mxl mi) = some ls) (h : Ax mi 0 ls [] μ (fun x r μ1 => x = 0 ∧ Q r μ1)) : Cl mi as μ Q := by
  unfold Cl
  rw [(pen'_eq as (mxl mi) ls hl).1]
  exact h
def pstp (e : Option PE) (ls : PL) (st : List PV) (μ : PM) : Option (Nat × PL × List PV × PM) := match e with
  | some (op, a, b, pc') => match pst op a b ls st μ with
    | some (l, s, m) => some (pc', l, s, m)
    | none => none
  | none => none
section AX
variable {mi pc pc' op a b : Nat} {ls ls' : PL} {st st' s : List PV} {μ μ' : PM} {Q : Nat → Option PV → PM → Prop}
theorem Ax_step (hs : pstp (cd mi pc) ls st μ = some (pc', ls', st', μ')) (h : Ax mi pc' ls' st' μ' Q) : Ax mi pc ls st μ Q := by
  obtain ⟨n, pce, lse, ste, μ1, x, r, h1, h2, h3⟩ := h
  refine ⟨n + 1, pce, lse, ste, μ1, x, r, ?_, h2, h3⟩
  show pbody (prun n) mi pc ls st μ = _
  unfold pstp at hs
  revert hs
  unfold pbody
  generalize cd mi pc = e
  cases e with
  | none => intro hs; cases hs
  | some e =>
    obtain ⟨op, a, b, p⟩ := e
    dsimp only
    generalize pst op a b ls st μ = y
    cases y with
    | none => intro hs; cases hs
    | some y =>
      obtain ⟨l, s, m⟩ := y
      intro hs
      cases hs
      exact h1
theorem Ax_sp (hc : cd mi pc = some (op, a, b, pc')) (h0 : pst op a b ls st μ = none) (h1 : psp op a b ls st μ = some (ls', st', μ')) (h : Ax mi pc' ls' st' μ' Q) : Ax mi pc ls st μ Q := by
  obtain ⟨n, pce, lse, ste, μ1, x, r, g1, g2, g3⟩ := h
  refine ⟨n + 1, pce, lse, ste, μ1, x, r, ?_, g2, g3⟩
  show pbody (prun n) mi pc ls st μ = _
  unfold pbody
  rw [hc]
  dsimp only
  rw [h0]
  dsimp only
  rw [h1]
  exact g1
def pbp (e : Option PE) (ls : PL) (st : List PV) (μ : PM) : Option (Prop × Nat × Nat × List PV) := match e with
  | some (op, a, b, pc') => match pst op a b ls st μ with
    | some _ => none
    | none => match psp op a b ls st μ with
      | some _ => none
      | none => match pbq op st with
        | some (P, s) => some (P, a, pc', s)
        | none => none
  | none => none
theorem Ax_br {P : Prop} {tg : Nat} (hb : pbp (cd mi pc) ls st μ = some (P, tg, pc', s)) (h1 : P → Ax mi tg ls s μ Q) (h2 : ¬ P → Ax mi pc' ls s μ Q) : Ax mi pc ls st μ Q := by
  have key : ∀ n, prun (n + 1) mi pc ls st μ = @ite _ P (Classical.propDecidable P) (prun n mi tg ls s μ) (prun n mi pc' ls s μ) := by
    intro n
    show pbody (prun n) mi pc ls st μ = _
    unfold pbp at hb
    revert hb
    unfold pbody
    generalize cd mi pc = e
    cases e with
    | none => intro hs; cases hs
    | some e =>
      obtain ⟨op, a, b, p⟩ := e
      dsimp only
      generalize pst op a b ls st μ = y
      cases y with
      | some y => intro hs; cases hs
      | none =>
        dsimp only
        generalize psp op a b ls st μ = y
        cases y with
        | some y => intro hs; cases hs
        | none =>
          dsimp only
          generalize pbq op st = y
          cases y with
          | none => intro hs; cases hs
          | some y =>
            obtain ⟨P', s'⟩ := y
            intro hs
            cases hs
            rfl
  by_cases hP : P
  · obtain ⟨n, pce, lse, ste, μ1, x, r, g1, g2, g3⟩ := h1 hP
    exact ⟨n + 1, pce, lse, ste, μ1, x, r, by rw [key n, if_pos hP]; exact g1, g2, g3⟩
  · obtain ⟨n, pce, lse, ste, μ1, x, r, g1, g2, g3⟩ := h2 hP
    exact ⟨n + 1, pce, lse, ste, μ1, x, r, by rw [key n, if_neg hP]; exact g1, g2, g3⟩
def pcp (e : Option PE) (ls : PL) (st : List PV) (μ : PM) : Option (Nat × List PV × Nat × List PV) := match e with
  | some (op, a, b, pc') => match pst op a b ls st μ with
    | some _ => none
    | none => match psp op a b ls st μ with
      | some _ => none
      | none => match pbq op st with
        | some _ => none
        | none => match pcl op a b st with
          | some (as, s) => some (a, as, pc', s)
          | none => none
  | none => none
theorem Ax_call {as : List PV} {k : Nat} (hb : pcp (cd mi pc) ls st μ = some (k, as, pc', s)) (h : Cl k as μ (fun r μ1 => Ax mi pc' ls (ppu r s) μ1 Q)) : Ax mi pc ls st μ Q := by
  obtain ⟨n1, pce1, lse1, ste1, μ1, x1, r1, g1, g2, rfl, n2, pce, lse, ste, μ2, x, r, k1, k2, k3⟩ := h
  refine ⟨n1 + n2 + 1, pce, lse, ste, μ2, x, r, ?_, k2, k3⟩
  have e1 := prun_mono g1 (Nat.le_add_right n1 n2)
  have e2 := prun_mono k1 (Nat.le_add_left n2 n1)
  show pbody (prun (n1 + n2)) mi pc ls st μ = _
  unfold pcp at hb
  revert hb
  unfold pbody
  generalize cd mi pc = e
  cases e with
  | none => intro hs; cases hs
  | some e =>
    obtain ⟨op, a, b, p⟩ := e
    dsimp only
    generalize pst op a b ls st μ = y
    cases y with
    | some y => intro hs; cases hs
    | none =>
      dsimp only
      generalize psp op a b ls st μ = y
      cases y with
      | some y => intro hs; cases hs
      | none =>
        dsimp only
        generalize pbq op st = y
        cases y with
        | some y => intro hs; cases hs
        | none =>
          dsimp only
          generalize pcl op a b st = y
          cases y with
          | none => intro hs; cases hs
          | some y =>
            obtain ⟨as', s'⟩ := y
            intro hs
            cases hs
            dsimp only
            rw [e1]
            dsimp only
            rw [g2]
            exact e2
theorem Ax_sw {x : Int32} (hc : cd mi pc = some (62, a, b, pc')) (h : Ax mi (psw (pswt a) b x) ls s μ Q) : Ax mi pc ls (pI x :: s) μ Q := by
  obtain ⟨n, pce, lse, ste, μ1, y, r, g1, g2, g3⟩ := h
  refine ⟨n + 1, pce, lse, ste, μ1, y, r, ?_, g2, g3⟩
  show pbody (prun n) mi pc ls (pI x :: s) μ = _
  unfold pbody
  rw [hc]
  exact g1
theorem Ax_end {x : Nat} {r : Option PV} (hc : cd mi pc = some (op, a, b, pc')) (h0 : pst op a b ls st μ = none) (h1 : psp op a b ls st μ = none) (h2 : pbq op st = none) (h3 : pcl op a b st = none) (h4 : pqs op a b st = none) (ho : 80 ≤ op) (hr : pret mi pc st = some (x, r)) (hq : Q x r μ) : Ax mi pc ls st μ Q := by
  refine ⟨1, pc, ls, st, μ, x, r, ?_, hr, hq⟩
  show pbody (prun 0) mi pc ls st μ = _
  unfold pbody
  rw [hc]
  dsimp only
  rw [h0]
  dsimp only
  rw [h1]
  dsimp only
  rw [h2]
  dsimp only
  rw [h3]
  dsimp only
  rw [h4]
  exact if_pos ho
theorem Ax_rI {x : Int32} (hc : cd mi pc = some (80, 1, b, pc')) (hq : Q 0 (some (pI x)) μ) : Ax mi pc ls [pI x] μ Q :=
  Ax_end hc rfl rfl rfl rfl rfl (by decide) (by unfold pret; rw [hc]; rfl) hq
theorem Ax_rZ {x : Int32} (hc : cd mi pc = some (80, 2, b, pc')) (hx : x = 0 ∨ x = 1) (hq : Q 0 (some (pI x)) μ) : Ax mi pc ls [pI x] μ Q :=
  Ax_end hc rfl rfl rfl rfl rfl (by decide) (by unfold pret; rw [hc]; exact if_pos hx) hq
theorem Ax_rV (hc : cd mi pc = some (81, a, b, pc')) (hq : Q 0 none μ) : Ax mi pc ls [] μ Q :=
  Ax_end hc rfl rfl rfl rfl rfl (by decide) (by unfold pret; rw [hc]; rfl) hq
theorem Ax_rR {t m : Nat} (hc : cd mi pc = some (82, a, b, pc')) (hq : Q 0 (some (pR t m)) μ) : Ax mi pc ls [pR t m] μ Q :=
  Ax_end hc rfl rfl rfl rfl rfl (by decide) (by unfold pret; rw [hc]; rfl) hq
theorem Ax_rX (hc : cd mi pc = some (90, a, b, pc')) (hq : Q (a + 1) none μ) : Ax mi pc ls st μ Q :=
  Ax_end hc rfl rfl rfl rfl rfl (by decide) (by unfold pret; rw [hc]; rfl) hq
theorem Ax_ald {t m : Nat} {j : Int32} (k : Nat) (hc : cd mi pc = some (30, a, b, pc')) (hj : j = nI k) (hk : k < al t) (h : Ax mi pc' ls (pI (μ t m k) :: s) μ Q) : Ax mi pc ls (pI j :: pR t m :: s) μ Q := by
  subst hj
  have hb := al_lt t
  have e1 : (nI k).toInt = (k : Int) := nI_toInt (by omega)
  have e2 : (nI k).toNatClampNeg = k := nI_clamp (by omega)
  refine Ax_sp hc rfl (ls' := ls) (st' := pI (μ t m k) :: s) (μ' := μ) ?_ h
  show (if 0 ≤ (nI k).toInt ∧ (nI k).toInt < al t then some (ls, pI (μ t m (nI k).toNatClampNeg) :: s, μ) else none) = _
  rw [if_pos (by omega), e2]
theorem Ax_ast {t m : Nat} {j x : Int32} (k : Nat) (hc : cd mi pc = some (31, a, b, pc')) (hj : j = nI k) (hk : k < al t) (h : Ax mi pc' ls s (pu μ t m k x) Q) : Ax mi pc ls (pI x :: pI j :: pR t m :: s) μ Q := by
  subst hj
  have hb := al_lt t
  have e1 : (nI k).toInt = (k : Int) := nI_toInt (by omega)
  have e2 : (nI k).toNatClampNeg = k := nI_clamp (by omega)
  refine Ax_sp hc rfl (ls' := ls) (st' := s) (μ' := pu μ t m k x) ?_ h
  show (if 0 ≤ (nI k).toInt ∧ (nI k).toInt < al t then some (ls, s, pu μ t m (nI k).toNatClampNeg x) else none) = _
  rw [if_pos (by omega), e2]
theorem Ax_aal {m : Nat} {j : Int32} (k : Nat) (hc : cd mi pc = some (32, a, b, pc')) (hj : j = nI k) (hk : k < 8) (h : Ax mi pc' ls (pR 40 k :: s) μ Q) : Ax mi pc ls (pI j :: pR 3 m :: s) μ Q := by
  subst hj
  have e1 : (nI k).toInt = (k : Int) := nI_toInt (by omega)
  have e2 : (nI k).toNatClampNeg = k := nI_clamp (by omega)
  refine Ax_sp hc rfl (ls' := ls) (st' := pR 40 k :: s) (μ' := μ) ?_ h
  show (if 3 = 3 ∧ 0 ≤ (nI k).toInt ∧ (nI k).toInt < 8 then some (ls, pR 40 (nI k).toNatClampNeg :: s, μ) else none) = _
  rw [if_pos (by omega), e2]
theorem Ax_div {x y : Int32} (hc : cd mi pc = some (33, a, b, pc')) (hy : ¬ y = 0) (h : Ax mi pc' ls (pI (x / y) :: s) μ Q) : Ax mi pc ls (pI y :: pI x :: s) μ Q :=
  Ax_sp hc rfl (ls' := ls) (st' := pI (x / y) :: s) (μ' := μ) (if_neg hy) h
theorem Ax_putz {t m : Nat} {x : Int32} (hc : cd mi pc = some (34, a, b, pc')) (ho : pob t a b = true) (hx : x = 0 ∨ x = 1) (h : Ax mi pc' ls s (pu μ t m b x) Q) : Ax mi pc ls (pI x :: pR t m :: s) μ Q :=
  Ax_sp hc rfl (ls' := ls) (st' := s) (μ' := pu μ t m b x) (if_pos ⟨ho, hx⟩) h
end AX
end
section
def TC0 : u_T := fun k => match k with
  | 0 => ("ThrowFlow", "text", "LThrowFlow$Text;", true)
  | 1 => ("ThrowFlow", "flow", "LThrowFlow$Flow;", true)
  | _ => ("ThrowFlow", "machine", "LThrowFlow$Machine;", true)
def TC1 : u_T := fun k => match k with
  | 0 => ("ThrowFlow$Text", "kinds", "LThrowFlow$Kinds;", true)
  | 1 => ("ThrowFlow$Text", "bodies", "[LThrowFlow$Body;", true)
  | _ => ("ThrowFlow$Text", "count", "I", false)
def TC2 : u_T := fun k => match k with
  | 0 => ("ThrowFlow$Kinds", "members", "[I", true)
  | _ => ("ThrowFlow$Kinds", "count", "I", false)
def TC3 : u_T := fun k => match k with
  | 0 => ("ThrowFlow$Flow", "text", "LThrowFlow$Text;", true)
  | 1 => ("ThrowFlow$Flow", "stale", "Z", false)
  | 2 => ("ThrowFlow$Flow", "raised", "[I", true)
  | 3 => ("ThrowFlow$Flow", "lengths", "[I", true)
  | 4 => ("ThrowFlow$Flow", "passed", "[I", true)
  | 5 => ("ThrowFlow$Flow", "fresh", "[I", true)
  | _ => ("ThrowFlow$Flow", "coming", "[I", true)
def TC4 : u_T := fun k => match k with
  | 0 => ("ThrowFlow$Machine", "text", "LThrowFlow$Text;", true)
  | 1 => ("ThrowFlow$Machine", "methods", "[I", true)
  | 2 => ("ThrowFlow$Machine", "places", "[I", true)
  | 3 => ("ThrowFlow$Machine", "registers", "[I", true)
  | 4 => ("ThrowFlow$Machine", "caught", "[I", true)
  | 5 => ("ThrowFlow$Machine", "depth", "I", false)
  | 6 => ("ThrowFlow$Machine", "used", "I", false)
  | 7 => ("ThrowFlow$Machine", "given", "I", false)
  | _ => ("ThrowFlow$Machine", "cameOut", "I", false)
def TC5 : u_T := fun k => match k with
  | 0 => ("ThrowFlow$Body", "codes", "[I", true)
  | 1 => ("ThrowFlow$Body", "as", "[I", true)
  | 2 => ("ThrowFlow$Body", "bs", "[I", true)
  | 3 => ("ThrowFlow$Body", "size", "I", false)
  | 4 => ("ThrowFlow$Body", "firsts", "[I", true)
  | 5 => ("ThrowFlow$Body", "lasts", "[I", true)
  | 6 => ("ThrowFlow$Body", "caughtKinds", "[I", true)
  | 7 => ("ThrowFlow$Body", "targets", "[I", true)
  | _ => ("ThrowFlow$Body", "handlerCount", "I", false)
def TC6 : u_T := fun k => match k with
  | 0 => ("ThrowFlowModel", "thrown", "I", false)
  | 1 => ("ThrowFlowModel", "kinds", "I", false)
  | 2 => ("ThrowFlowModel", "parents", "[I", true)
  | 3 => ("ThrowFlowModel", "methods", "I", false)
  | 4 => ("ThrowFlowModel", "sizes", "[I", true)
  | 5 => ("ThrowFlowModel", "codes", "[I", true)
  | 6 => ("ThrowFlowModel", "firstNumbers", "[I", true)
  | 7 => ("ThrowFlowModel", "secondNumbers", "[I", true)
  | 8 => ("ThrowFlowModel", "handlers", "[I", true)
  | 9 => ("ThrowFlowModel", "firsts", "[I", true)
  | 10 => ("ThrowFlowModel", "lasts", "[I", true)
  | 11 => ("ThrowFlowModel", "handled", "[I", true)
  | 12 => ("ThrowFlowModel", "targets", "[I", true)
  | 13 => ("ThrowFlowModel", "stale", "Z", false)
  | 14 => ("ThrowFlowModel", "lengths", "[I", true)
  | 15 => ("ThrowFlowModel", "frames", "I", false)
  | 16 => ("ThrowFlowModel", "running", "[I", true)
  | 17 => ("ThrowFlowModel", "places", "[I", true)
  | 18 => ("ThrowFlowModel", "registers", "[I", true)
  | 19 => ("ThrowFlowModel", "caught", "[I", true)
  | 20 => ("ThrowFlowModel", "used", "I", false)
  | 21 => ("ThrowFlowModel", "came", "I", false)
  | _ => ("ThrowFlowModel", "given", "I", false)
def tyC0 : Nat → FieldType := fun k => match k with
  | 0 => .object "ThrowFlow$Text"
  | 1 => .object "ThrowFlow$Flow"
  | _ => .object "ThrowFlow$Machine"
def tyC1 : Nat → FieldType := fun k => match k with
  | 0 => .object "ThrowFlow$Kinds"
  | 1 => .array (.object "ThrowFlow$Body")
  | _ => .int
def tyC2 : Nat → FieldType := fun k => match k with
  | 0 => .array (.int)
  | _ => .int
def tyC3 : Nat → FieldType := fun k => match k with
  | 0 => .object "ThrowFlow$Text"
  | 1 => .boolean
  | 2 => .array (.int)
  | 3 => .array (.int)
  | 4 => .array (.int)
  | 5 => .array (.int)
  | _ => .array (.int)
def tyC4 : Nat → FieldType := fun k => match k with
  | 0 => .object "ThrowFlow$Text"
  | 1 => .array (.int)
  | 2 => .array (.int)
  | 3 => .array (.int)
  | 4 => .array (.int)
  | 5 => .int
  | 6 => .int
  | 7 => .int
  | _ => .int
def tyC5 : Nat → FieldType := fun k => match k with
  | 0 => .array (.int)
  | 1 => .array (.int)
  | 2 => .array (.int)
  | 3 => .int
  | 4 => .array (.int)
  | 5 => .array (.int)
  | 6 => .array (.int)
  | 7 => .array (.int)
  | _ => .int
def tyC6 : Nat → FieldType := fun k => match k with
  | 0 => .int
  | 1 => .int
  | 2 => .array (.int)
  | 3 => .int
  | 4 => .array (.int)
  | 5 => .array (.int)
  | 6 => .array (.int)
  | 7 => .array (.int)
  | 8 => .array (.int)
  | 9 => .array (.int)
  | 10 => .array (.int)
  | 11 => .array (.int)
  | 12 => .array (.int)
  | 13 => .boolean
  | 14 => .array (.int)
  | 15 => .int
  | 16 => .array (.int)
  | 17 => .array (.int)
  | 18 => .array (.int)
  | 19 => .array (.int)
  | 20 => .int
  | 21 => .int
  | _ => .int
def tyC (a : Nat) : Nat → FieldType := match a with
  | 0 => tyC0
  | 1 => tyC1
  | 2 => tyC2
  | 3 => tyC3
  | 4 => tyC4
  | 5 => tyC5
  | _ => tyC6
abbrev vwCl : List vw_C := [("ThrowFlow", TC0, 3), ("ThrowFlow$Text", TC1, 3), ("ThrowFlow$Kinds", TC2, 2), ("ThrowFlow$Flow", TC3, 7), ("ThrowFlow$Machine", TC4, 9), ("ThrowFlow$Body", TC5, 9), ("ThrowFlowModel", TC6, 23)]
def al_w : List Cond := lw_tbl.filter goodWord
theorem gd_w {ws : List Cond} (h : ∀ w ∈ ws, w ∈ al_w) : GoodIn al_w ws := fun w hw => ⟨h w hw, good_of_word (List.mem_filter.mp (h w hw)).2⟩
theorem in_w {w : Cond} (i : Nat) (h : lw_tbl[i]? = some w) (hg : goodWord w = true) : w ∈ al_w := List.mem_filter.mpr ⟨List.mem_of_getElem? h, hg⟩
theorem mw_0 : Cond.selects "ThrowFlow$Flow" ⟨"ThrowFlow$Flow", "raiseOwn", "()V"⟩ ⟨"ThrowFlow$Flow", "raiseOwn", "()V"⟩ ∈ al_w := in_w 0 (by decide +kernel) rfl
theorem mw_1 : Cond.selects "ThrowFlow$Flow" ⟨"ThrowFlow$Flow", "ownKinds", "(II)I"⟩ ⟨"ThrowFlow$Flow", "ownKinds", "(II)I"⟩ ∈ al_w := in_w 1 (by decide +kernel) rfl
theorem mw_2 : Cond.selects "ThrowFlow$Flow" ⟨"ThrowFlow$Flow", "note", "(IIII)V"⟩ ⟨"ThrowFlow$Flow", "note", "(IIII)V"⟩ ∈ al_w := in_w 2 (by decide +kernel) rfl
theorem mw_3 : Cond.selects "ThrowFlow$Flow" ⟨"ThrowFlow$Flow", "goesThrough", "(III)I"⟩ ⟨"ThrowFlow$Flow", "goesThrough", "(III)I"⟩ ∈ al_w := in_w 3 (by decide +kernel) rfl
theorem mw_4 : Cond.selects "ThrowFlow$Flow" ⟨"ThrowFlow$Flow", "openDoors", "()Z"⟩ ⟨"ThrowFlow$Flow", "openDoors", "()Z"⟩ ∈ al_w := in_w 4 (by decide +kernel) rfl
theorem mw_5 : Cond.selects "ThrowFlow$Flow" ⟨"ThrowFlow$Flow", "raiseFresh", "(I)V"⟩ ⟨"ThrowFlow$Flow", "raiseFresh", "(I)V"⟩ ∈ al_w := in_w 5 (by decide +kernel) rfl
theorem mw_6 : Cond.selects "ThrowFlow$Flow" ⟨"ThrowFlow$Flow", "sourceDoor", "(II)I"⟩ ⟨"ThrowFlow$Flow", "sourceDoor", "(II)I"⟩ ∈ al_w := in_w 6 (by decide +kernel) rfl
theorem mw_7 : Cond.selects "ThrowFlow$Flow" ⟨"ThrowFlow$Flow", "nearest", "(II)I"⟩ ⟨"ThrowFlow$Flow", "nearest", "(II)I"⟩ ∈ al_w := in_w 7 (by decide +kernel) rfl
theorem mw_8 : Cond.selects "ThrowFlow$Flow" ⟨"ThrowFlow$Flow", "lengthAt", "(III)I"⟩ ⟨"ThrowFlow$Flow", "lengthAt", "(III)I"⟩ ∈ al_w := in_w 8 (by decide +kernel) rfl
theorem mw_10 : Cond.selects "ThrowFlow$Machine" ⟨"ThrowFlow$Machine", "enter", "(II)V"⟩ ⟨"ThrowFlow$Machine", "enter", "(II)V"⟩ ∈ al_w := in_w 10 (by decide +kernel) rfl
theorem mw_11 : Cond.selects "ThrowFlow$Machine" ⟨"ThrowFlow$Machine", "giveAtEnds", "()V"⟩ ⟨"ThrowFlow$Machine", "giveAtEnds", "()V"⟩ ∈ al_w := in_w 11 (by decide +kernel) rfl
theorem mw_12 : Cond.selects "ThrowFlow$Machine" ⟨"ThrowFlow$Machine", "isAtEnd", "()Z"⟩ ⟨"ThrowFlow$Machine", "isAtEnd", "()Z"⟩ ∈ al_w := in_w 12 (by decide +kernel) rfl
theorem mw_13 : Cond.selects "ThrowFlow$Machine" ⟨"ThrowFlow$Machine", "body", "()LThrowFlow$Body;"⟩ ⟨"ThrowFlow$Machine", "body", "()LThrowFlow$Body;"⟩ ∈ al_w := in_w 13 (by decide +kernel) rfl
theorem mw_14 : Cond.selects "ThrowFlow$Machine" ⟨"ThrowFlow$Machine", "content", "(I)I"⟩ ⟨"ThrowFlow$Machine", "content", "(I)I"⟩ ∈ al_w := in_w 14 (by decide +kernel) rfl
theorem mw_15 : Cond.selects "ThrowFlow$Machine" ⟨"ThrowFlow$Machine", "giveBack", "(I)V"⟩ ⟨"ThrowFlow$Machine", "giveBack", "(I)V"⟩ ∈ al_w := in_w 15 (by decide +kernel) rfl
theorem mw_16 : Cond.selects "ThrowFlow$Machine" ⟨"ThrowFlow$Machine", "become", "(II)V"⟩ ⟨"ThrowFlow$Machine", "become", "(II)V"⟩ ∈ al_w := in_w 16 (by decide +kernel) rfl
theorem mw_17 : Cond.selects "ThrowFlow$Machine" ⟨"ThrowFlow$Machine", "goOn", "()V"⟩ ⟨"ThrowFlow$Machine", "goOn", "()V"⟩ ∈ al_w := in_w 17 (by decide +kernel) rfl
theorem mw_18 : Cond.selects "ThrowFlow$Machine" ⟨"ThrowFlow$Machine", "doInstruction", "()V"⟩ ⟨"ThrowFlow$Machine", "doInstruction", "()V"⟩ ∈ al_w := in_w 18 (by decide +kernel) rfl
theorem mw_19 : Cond.selects "ThrowFlow$Machine" ⟨"ThrowFlow$Machine", "divide", "(II)V"⟩ ⟨"ThrowFlow$Machine", "divide", "(II)V"⟩ ∈ al_w := in_w 19 (by decide +kernel) rfl
theorem mw_20 : Cond.selects "ThrowFlow$Machine" ⟨"ThrowFlow$Machine", "throwHere", "(I)V"⟩ ⟨"ThrowFlow$Machine", "throwHere", "(I)V"⟩ ∈ al_w := in_w 20 (by decide +kernel) rfl
theorem mw_21 : Cond.selects "ThrowFlow$Machine" ⟨"ThrowFlow$Machine", "goTo", "(I)V"⟩ ⟨"ThrowFlow$Machine", "goTo", "(I)V"⟩ ∈ al_w := in_w 21 (by decide +kernel) rfl
theorem mw_22 : Cond.selects "ThrowFlow$Machine" ⟨"ThrowFlow$Machine", "callMethod", "(II)V"⟩ ⟨"ThrowFlow$Machine", "callMethod", "(II)V"⟩ ∈ al_w := in_w 22 (by decide +kernel) rfl
theorem mw_23 : Cond.selects "ThrowFlow$Machine" ⟨"ThrowFlow$Machine", "throwAgain", "(I)V"⟩ ⟨"ThrowFlow$Machine", "throwAgain", "(I)V"⟩ ∈ al_w := in_w 23 (by decide +kernel) rfl
theorem mw_24 : Cond.selects "ThrowFlowModel" ⟨"ThrowFlowModel", "isKind", "(I)Z"⟩ ⟨"ThrowFlowModel", "isKind", "(I)Z"⟩ ∈ al_w := in_w 24 (by decide +kernel) rfl
theorem mw_25 : Cond.selects "ThrowFlowModel" ⟨"ThrowFlowModel", "isOne", "(II)Z"⟩ ⟨"ThrowFlowModel", "isOne", "(II)Z"⟩ ∈ al_w := in_w 25 (by decide +kernel) rfl
theorem mw_26 : Cond.selects "ThrowFlowModel" ⟨"ThrowFlowModel", "isMethod", "(I)Z"⟩ ⟨"ThrowFlowModel", "isMethod", "(I)Z"⟩ ∈ al_w := in_w 26 (by decide +kernel) rfl
theorem mw_27 : Cond.selects "ThrowFlowModel" ⟨"ThrowFlowModel", "fits", "(III)Z"⟩ ⟨"ThrowFlowModel", "fits", "(III)Z"⟩ ∈ al_w := in_w 27 (by decide +kernel) rfl
theorem mw_28 : Cond.selects "ThrowFlowModel" ⟨"ThrowFlowModel", "write", "(IIIII)V"⟩ ⟨"ThrowFlowModel", "write", "(IIIII)V"⟩ ∈ al_w := in_w 28 (by decide +kernel) rfl
theorem mw_29 : Cond.selects "ThrowFlowModel" ⟨"ThrowFlowModel", "isPlace", "(II)Z"⟩ ⟨"ThrowFlowModel", "isPlace", "(II)Z"⟩ ∈ al_w := in_w 29 (by decide +kernel) rfl
theorem mw_30 : Cond.selects "ThrowFlowModel" ⟨"ThrowFlowModel", "settle", "()V"⟩ ⟨"ThrowFlowModel", "settle", "()V"⟩ ∈ al_w := in_w 30 (by decide +kernel) rfl
theorem mw_31 : Cond.selects "ThrowFlowModel" ⟨"ThrowFlowModel", "lower", "()Z"⟩ ⟨"ThrowFlowModel", "lower", "()Z"⟩ ∈ al_w := in_w 31 (by decide +kernel) rfl
theorem mw_32 : Cond.selects "ThrowFlowModel" ⟨"ThrowFlowModel", "reckon", "(III)I"⟩ ⟨"ThrowFlowModel", "reckon", "(III)I"⟩ ∈ al_w := in_w 32 (by decide +kernel) rfl
theorem mw_33 : Cond.selects "ThrowFlowModel" ⟨"ThrowFlowModel", "nearest", "(III)I"⟩ ⟨"ThrowFlowModel", "nearest", "(III)I"⟩ ∈ al_w := in_w 33 (by decide +kernel) rfl
theorem mw_34 : Cond.selects "ThrowFlowModel" ⟨"ThrowFlowModel", "catcher", "(III)I"⟩ ⟨"ThrowFlowModel", "catcher", "(III)I"⟩ ∈ al_w := in_w 34 (by decide +kernel) rfl
theorem mw_35 : Cond.selects "ThrowFlowModel" ⟨"ThrowFlowModel", "where", "(II)I"⟩ ⟨"ThrowFlowModel", "where", "(II)I"⟩ ∈ al_w := in_w 35 (by decide +kernel) rfl
theorem mw_36 : Cond.selects "ThrowFlowModel" ⟨"ThrowFlowModel", "raisedAt", "(II)I"⟩ ⟨"ThrowFlowModel", "raisedAt", "(II)I"⟩ ∈ al_w := in_w 36 (by decide +kernel) rfl
theorem mw_37 : Cond.selects "ThrowFlowModel" ⟨"ThrowFlowModel", "wayOf", "(II)I"⟩ ⟨"ThrowFlowModel", "wayOf", "(II)I"⟩ ∈ al_w := in_w 37 (by decide +kernel) rfl
theorem mw_38 : Cond.selects "ThrowFlowModel" ⟨"ThrowFlowModel", "firstWith", "(IIII)I"⟩ ⟨"ThrowFlowModel", "firstWith", "(IIII)I"⟩ ∈ al_w := in_w 38 (by decide +kernel) rfl
theorem mw_39 : Cond.selects "ThrowFlowModel" ⟨"ThrowFlowModel", "enter", "(II)V"⟩ ⟨"ThrowFlowModel", "enter", "(II)V"⟩ ∈ al_w := in_w 39 (by decide +kernel) rfl
theorem mw_40 : Cond.selects "ThrowFlowModel" ⟨"ThrowFlowModel", "leave", "(I)V"⟩ ⟨"ThrowFlowModel", "leave", "(I)V"⟩ ∈ al_w := in_w 40 (by decide +kernel) rfl
theorem mw_41 : Cond.selects "ThrowFlowModel" ⟨"ThrowFlowModel", "act", "()V"⟩ ⟨"ThrowFlowModel", "act", "()V"⟩ ∈ al_w := in_w 41 (by decide +kernel) rfl
theorem mw_42 : Cond.selects "ThrowFlowModel" ⟨"ThrowFlowModel", "divide", "(III)V"⟩ ⟨"ThrowFlowModel", "divide", "(III)V"⟩ ∈ al_w := in_w 42 (by decide +kernel) rfl
theorem mw_43 : Cond.selects "ThrowFlowModel" ⟨"ThrowFlowModel", "raise", "(I)V"⟩ ⟨"ThrowFlowModel", "raise", "(I)V"⟩ ∈ al_w := in_w 43 (by decide +kernel) rfl
theorem mw_44 : Cond.selects "ThrowFlowModel" ⟨"ThrowFlowModel", "call", "(III)V"⟩ ⟨"ThrowFlowModel", "call", "(III)V"⟩ ∈ al_w := in_w 44 (by decide +kernel) rfl
theorem mw_45 : Cond.selects "ThrowFlowModel" ⟨"ThrowFlowModel", "again", "(II)V"⟩ ⟨"ThrowFlowModel", "again", "(II)V"⟩ ∈ al_w := in_w 45 (by decide +kernel) rfl
theorem mw_47 : Cond.initialized "ThrowFlow" ∈ al_w := in_w 47 (by decide +kernel) rfl
theorem mw_48 : Cond.initialized "ThrowFlow$Text" ∈ al_w := in_w 48 (by decide +kernel) rfl
theorem mw_49 : Cond.initialized "ThrowFlow$Kinds" ∈ al_w := in_w 49 (by decide +kernel) rfl
theorem mw_50 : Cond.initialized "ThrowFlow$Body" ∈ al_w := in_w 50 (by decide +kernel) rfl
theorem mw_51 : Cond.initialized "ThrowFlow$Flow" ∈ al_w := in_w 51 (by decide +kernel) rfl
theorem mw_52 : Cond.initialized "ThrowFlow$Machine" ∈ al_w := in_w 52 (by decide +kernel) rfl
theorem mw_53 : Cond.initialized "ThrowFlowModel" ∈ al_w := in_w 53 (by decide +kernel) rfl
theorem mw_60 : Cond.initialized "java/util/Arrays" ∈ al_w := in_w 60 (by decide +kernel) rfl
theorem mw_82 : Cond.fieldLink "ThrowFlow$Kinds" 9 "ThrowFlow$Kinds" "members" "[I" ∈ al_w := in_w 82 (by decide +kernel) rfl
theorem mw_83 : Cond.fieldLink "ThrowFlow$Kinds" 15 "ThrowFlow$Kinds" "count" "I" ∈ al_w := in_w 83 (by decide +kernel) rfl
theorem mw_84 : Cond.laysFinal "ThrowFlow$Kinds" "ThrowFlow$Kinds" "members" "[I" ∈ al_w := in_w 84 (by decide +kernel) rfl
theorem mw_86 : Cond.lays "ThrowFlow$Kinds" "ThrowFlow$Kinds" "count" "I" ∈ al_w := in_w 86 (by decide +kernel) rfl
theorem mw_97 : Cond.fieldLink "ThrowFlow$Body" 9 "ThrowFlow$Body" "codes" "[I" ∈ al_w := in_w 97 (by decide +kernel) rfl
theorem mw_98 : Cond.fieldLink "ThrowFlow" 122 "ThrowFlow$Body" "codes" "[I" ∈ al_w := in_w 98 (by decide +kernel) rfl
theorem mw_99 : Cond.fieldLink "ThrowFlow$Machine" 81 "ThrowFlow$Body" "codes" "[I" ∈ al_w := in_w 99 (by decide +kernel) rfl
theorem mw_100 : Cond.fieldLink "ThrowFlow$Flow" 88 "ThrowFlow$Body" "codes" "[I" ∈ al_w := in_w 100 (by decide +kernel) rfl
theorem mw_101 : Cond.fieldLink "ThrowFlow$Body" 15 "ThrowFlow$Body" "as" "[I" ∈ al_w := in_w 101 (by decide +kernel) rfl
theorem mw_102 : Cond.fieldLink "ThrowFlow$Machine" 75 "ThrowFlow$Body" "as" "[I" ∈ al_w := in_w 102 (by decide +kernel) rfl
theorem mw_103 : Cond.fieldLink "ThrowFlow$Flow" 94 "ThrowFlow$Body" "as" "[I" ∈ al_w := in_w 103 (by decide +kernel) rfl
theorem mw_104 : Cond.fieldLink "ThrowFlow$Body" 18 "ThrowFlow$Body" "bs" "[I" ∈ al_w := in_w 104 (by decide +kernel) rfl
theorem mw_105 : Cond.fieldLink "ThrowFlow$Machine" 78 "ThrowFlow$Body" "bs" "[I" ∈ al_w := in_w 105 (by decide +kernel) rfl
theorem mw_106 : Cond.fieldLink "ThrowFlow$Flow" 91 "ThrowFlow$Body" "bs" "[I" ∈ al_w := in_w 106 (by decide +kernel) rfl
theorem mw_107 : Cond.fieldLink "ThrowFlow$Body" 33 "ThrowFlow$Body" "size" "I" ∈ al_w := in_w 107 (by decide +kernel) rfl
theorem mw_108 : Cond.fieldLink "ThrowFlow$Text" 33 "ThrowFlow$Body" "size" "I" ∈ al_w := in_w 108 (by decide +kernel) rfl
theorem mw_109 : Cond.fieldLink "ThrowFlow$Machine" 64 "ThrowFlow$Body" "size" "I" ∈ al_w := in_w 109 (by decide +kernel) rfl
theorem mw_110 : Cond.fieldLink "ThrowFlow$Flow" 72 "ThrowFlow$Body" "size" "I" ∈ al_w := in_w 110 (by decide +kernel) rfl
theorem mw_111 : Cond.fieldLink "ThrowFlow$Body" 21 "ThrowFlow$Body" "firsts" "[I" ∈ al_w := in_w 111 (by decide +kernel) rfl
theorem mw_112 : Cond.fieldLink "ThrowFlow$Body" 24 "ThrowFlow$Body" "lasts" "[I" ∈ al_w := in_w 112 (by decide +kernel) rfl
theorem mw_113 : Cond.fieldLink "ThrowFlow$Body" 27 "ThrowFlow$Body" "caughtKinds" "[I" ∈ al_w := in_w 113 (by decide +kernel) rfl
theorem mw_114 : Cond.fieldLink "ThrowFlow$Body" 30 "ThrowFlow$Body" "targets" "[I" ∈ al_w := in_w 114 (by decide +kernel) rfl
theorem mw_115 : Cond.fieldLink "ThrowFlow$Machine" 120 "ThrowFlow$Body" "targets" "[I" ∈ al_w := in_w 115 (by decide +kernel) rfl
theorem mw_116 : Cond.fieldLink "ThrowFlow$Body" 37 "ThrowFlow$Body" "handlerCount" "I" ∈ al_w := in_w 116 (by decide +kernel) rfl
theorem mw_117 : Cond.fieldLink "ThrowFlow$Text" 36 "ThrowFlow$Body" "handlerCount" "I" ∈ al_w := in_w 117 (by decide +kernel) rfl
theorem mw_118 : Cond.laysFinal "ThrowFlow$Body" "ThrowFlow$Body" "codes" "[I" ∈ al_w := in_w 118 (by decide +kernel) rfl
theorem mw_120 : Cond.laysFinal "ThrowFlow$Body" "ThrowFlow$Body" "as" "[I" ∈ al_w := in_w 120 (by decide +kernel) rfl
theorem mw_122 : Cond.laysFinal "ThrowFlow$Body" "ThrowFlow$Body" "bs" "[I" ∈ al_w := in_w 122 (by decide +kernel) rfl
theorem mw_124 : Cond.lays "ThrowFlow$Body" "ThrowFlow$Body" "size" "I" ∈ al_w := in_w 124 (by decide +kernel) rfl
theorem mw_126 : Cond.laysFinal "ThrowFlow$Body" "ThrowFlow$Body" "firsts" "[I" ∈ al_w := in_w 126 (by decide +kernel) rfl
theorem mw_128 : Cond.laysFinal "ThrowFlow$Body" "ThrowFlow$Body" "lasts" "[I" ∈ al_w := in_w 128 (by decide +kernel) rfl
theorem mw_130 : Cond.laysFinal "ThrowFlow$Body" "ThrowFlow$Body" "caughtKinds" "[I" ∈ al_w := in_w 130 (by decide +kernel) rfl
theorem mw_132 : Cond.laysFinal "ThrowFlow$Body" "ThrowFlow$Body" "targets" "[I" ∈ al_w := in_w 132 (by decide +kernel) rfl
theorem mw_134 : Cond.lays "ThrowFlow$Body" "ThrowFlow$Body" "handlerCount" "I" ∈ al_w := in_w 134 (by decide +kernel) rfl
theorem mw_137 : Cond.fieldLink "ThrowFlow$Text" 12 "ThrowFlow$Text" "kinds" "LThrowFlow$Kinds;" ∈ al_w := in_w 137 (by decide +kernel) rfl
theorem mw_138 : Cond.fieldLink "ThrowFlow" 32 "ThrowFlow$Text" "kinds" "LThrowFlow$Kinds;" ∈ al_w := in_w 138 (by decide +kernel) rfl
theorem mw_139 : Cond.fieldLink "ThrowFlow$Flow" 45 "ThrowFlow$Text" "kinds" "LThrowFlow$Kinds;" ∈ al_w := in_w 139 (by decide +kernel) rfl
theorem mw_140 : Cond.fieldLink "ThrowFlow$Machine" 112 "ThrowFlow$Text" "kinds" "LThrowFlow$Kinds;" ∈ al_w := in_w 140 (by decide +kernel) rfl
theorem mw_141 : Cond.fieldLink "ThrowFlow$Text" 20 "ThrowFlow$Text" "bodies" "[LThrowFlow$Body;" ∈ al_w := in_w 141 (by decide +kernel) rfl
theorem mw_142 : Cond.fieldLink "ThrowFlow" 79 "ThrowFlow$Text" "bodies" "[LThrowFlow$Body;" ∈ al_w := in_w 142 (by decide +kernel) rfl
theorem mw_143 : Cond.fieldLink "ThrowFlow$Machine" 69 "ThrowFlow$Text" "bodies" "[LThrowFlow$Body;" ∈ al_w := in_w 143 (by decide +kernel) rfl
theorem mw_144 : Cond.fieldLink "ThrowFlow$Flow" 68 "ThrowFlow$Text" "bodies" "[LThrowFlow$Body;" ∈ al_w := in_w 144 (by decide +kernel) rfl
theorem mw_145 : Cond.fieldLink "ThrowFlow$Text" 25 "ThrowFlow$Text" "count" "I" ∈ al_w := in_w 145 (by decide +kernel) rfl
theorem mw_146 : Cond.laysFinal "ThrowFlow$Text" "ThrowFlow$Text" "kinds" "LThrowFlow$Kinds;" ∈ al_w := in_w 146 (by decide +kernel) rfl
theorem mw_148 : Cond.laysFinal "ThrowFlow$Text" "ThrowFlow$Text" "bodies" "[LThrowFlow$Body;" ∈ al_w := in_w 148 (by decide +kernel) rfl
theorem mw_150 : Cond.lays "ThrowFlow$Text" "ThrowFlow$Text" "count" "I" ∈ al_w := in_w 150 (by decide +kernel) rfl
theorem mw_159 : Cond.fieldLink "ThrowFlow$Flow" 31 "ThrowFlow$Flow" "text" "LThrowFlow$Text;" ∈ al_w := in_w 159 (by decide +kernel) rfl
theorem mw_160 : Cond.fieldLink "ThrowFlow$Flow" 11 "ThrowFlow$Flow" "stale" "Z" ∈ al_w := in_w 160 (by decide +kernel) rfl
theorem mw_161 : Cond.fieldLink "ThrowFlow" 94 "ThrowFlow$Flow" "stale" "Z" ∈ al_w := in_w 161 (by decide +kernel) rfl
theorem mw_162 : Cond.fieldLink "ThrowFlow$Flow" 15 "ThrowFlow$Flow" "raised" "[I" ∈ al_w := in_w 162 (by decide +kernel) rfl
theorem mw_163 : Cond.fieldLink "ThrowFlow$Flow" 19 "ThrowFlow$Flow" "lengths" "[I" ∈ al_w := in_w 163 (by decide +kernel) rfl
theorem mw_164 : Cond.fieldLink "ThrowFlow$Flow" 22 "ThrowFlow$Flow" "passed" "[I" ∈ al_w := in_w 164 (by decide +kernel) rfl
theorem mw_165 : Cond.fieldLink "ThrowFlow$Flow" 25 "ThrowFlow$Flow" "fresh" "[I" ∈ al_w := in_w 165 (by decide +kernel) rfl
theorem mw_166 : Cond.fieldLink "ThrowFlow$Flow" 28 "ThrowFlow$Flow" "coming" "[I" ∈ al_w := in_w 166 (by decide +kernel) rfl
theorem mw_167 : Cond.laysFinal "ThrowFlow$Flow" "ThrowFlow$Flow" "text" "LThrowFlow$Text;" ∈ al_w := in_w 167 (by decide +kernel) rfl
theorem mw_169 : Cond.lays "ThrowFlow$Flow" "ThrowFlow$Flow" "stale" "Z" ∈ al_w := in_w 169 (by decide +kernel) rfl
theorem mw_171 : Cond.laysFinal "ThrowFlow$Flow" "ThrowFlow$Flow" "raised" "[I" ∈ al_w := in_w 171 (by decide +kernel) rfl
theorem mw_173 : Cond.laysFinal "ThrowFlow$Flow" "ThrowFlow$Flow" "lengths" "[I" ∈ al_w := in_w 173 (by decide +kernel) rfl
theorem mw_175 : Cond.laysFinal "ThrowFlow$Flow" "ThrowFlow$Flow" "passed" "[I" ∈ al_w := in_w 175 (by decide +kernel) rfl
theorem mw_177 : Cond.laysFinal "ThrowFlow$Flow" "ThrowFlow$Flow" "fresh" "[I" ∈ al_w := in_w 177 (by decide +kernel) rfl
theorem mw_179 : Cond.laysFinal "ThrowFlow$Flow" "ThrowFlow$Flow" "coming" "[I" ∈ al_w := in_w 179 (by decide +kernel) rfl
theorem mw_188 : Cond.fieldLink "ThrowFlow$Machine" 28 "ThrowFlow$Machine" "text" "LThrowFlow$Text;" ∈ al_w := in_w 188 (by decide +kernel) rfl
theorem mw_189 : Cond.fieldLink "ThrowFlow$Machine" 9 "ThrowFlow$Machine" "methods" "[I" ∈ al_w := in_w 189 (by decide +kernel) rfl
theorem mw_190 : Cond.fieldLink "ThrowFlow$Machine" 15 "ThrowFlow$Machine" "places" "[I" ∈ al_w := in_w 190 (by decide +kernel) rfl
theorem mw_191 : Cond.fieldLink "ThrowFlow$Machine" 18 "ThrowFlow$Machine" "registers" "[I" ∈ al_w := in_w 191 (by decide +kernel) rfl
theorem mw_192 : Cond.fieldLink "ThrowFlow$Machine" 21 "ThrowFlow$Machine" "caught" "[I" ∈ al_w := in_w 192 (by decide +kernel) rfl
theorem mw_193 : Cond.fieldLink "ThrowFlow$Machine" 32 "ThrowFlow$Machine" "depth" "I" ∈ al_w := in_w 193 (by decide +kernel) rfl
theorem mw_194 : Cond.fieldLink "ThrowFlow$Machine" 42 "ThrowFlow$Machine" "used" "I" ∈ al_w := in_w 194 (by decide +kernel) rfl
theorem mw_195 : Cond.fieldLink "ThrowFlow" 178 "ThrowFlow$Machine" "used" "I" ∈ al_w := in_w 195 (by decide +kernel) rfl
theorem mw_196 : Cond.fieldLink "ThrowFlow" 175 "ThrowFlow$Machine" "given" "I" ∈ al_w := in_w 196 (by decide +kernel) rfl
theorem mw_197 : Cond.fieldLink "ThrowFlow$Machine" 109 "ThrowFlow$Machine" "given" "I" ∈ al_w := in_w 197 (by decide +kernel) rfl
theorem mw_198 : Cond.fieldLink "ThrowFlow$Machine" 24 "ThrowFlow$Machine" "cameOut" "I" ∈ al_w := in_w 198 (by decide +kernel) rfl
theorem mw_199 : Cond.fieldLink "ThrowFlow" 169 "ThrowFlow$Machine" "cameOut" "I" ∈ al_w := in_w 199 (by decide +kernel) rfl
theorem mw_200 : Cond.laysFinal "ThrowFlow$Machine" "ThrowFlow$Machine" "text" "LThrowFlow$Text;" ∈ al_w := in_w 200 (by decide +kernel) rfl
theorem mw_202 : Cond.laysFinal "ThrowFlow$Machine" "ThrowFlow$Machine" "methods" "[I" ∈ al_w := in_w 202 (by decide +kernel) rfl
theorem mw_204 : Cond.laysFinal "ThrowFlow$Machine" "ThrowFlow$Machine" "places" "[I" ∈ al_w := in_w 204 (by decide +kernel) rfl
theorem mw_206 : Cond.laysFinal "ThrowFlow$Machine" "ThrowFlow$Machine" "registers" "[I" ∈ al_w := in_w 206 (by decide +kernel) rfl
theorem mw_208 : Cond.laysFinal "ThrowFlow$Machine" "ThrowFlow$Machine" "caught" "[I" ∈ al_w := in_w 208 (by decide +kernel) rfl
theorem mw_210 : Cond.lays "ThrowFlow$Machine" "ThrowFlow$Machine" "depth" "I" ∈ al_w := in_w 210 (by decide +kernel) rfl
theorem mw_212 : Cond.lays "ThrowFlow$Machine" "ThrowFlow$Machine" "used" "I" ∈ al_w := in_w 212 (by decide +kernel) rfl
theorem mw_214 : Cond.lays "ThrowFlow$Machine" "ThrowFlow$Machine" "given" "I" ∈ al_w := in_w 214 (by decide +kernel) rfl
theorem mw_216 : Cond.lays "ThrowFlow$Machine" "ThrowFlow$Machine" "cameOut" "I" ∈ al_w := in_w 216 (by decide +kernel) rfl
theorem mw_219 : Cond.fieldLink "ThrowFlow" 10 "ThrowFlow" "text" "LThrowFlow$Text;" ∈ al_w := in_w 219 (by decide +kernel) rfl
theorem mw_220 : Cond.fieldLink "ThrowFlow" 21 "ThrowFlow" "flow" "LThrowFlow$Flow;" ∈ al_w := in_w 220 (by decide +kernel) rfl
theorem mw_221 : Cond.fieldLink "ThrowFlow" 28 "ThrowFlow" "machine" "LThrowFlow$Machine;" ∈ al_w := in_w 221 (by decide +kernel) rfl
theorem mw_222 : Cond.laysFinal "ThrowFlow" "ThrowFlow" "text" "LThrowFlow$Text;" ∈ al_w := in_w 222 (by decide +kernel) rfl
theorem mw_224 : Cond.laysFinal "ThrowFlow" "ThrowFlow" "flow" "LThrowFlow$Flow;" ∈ al_w := in_w 224 (by decide +kernel) rfl
theorem mw_226 : Cond.laysFinal "ThrowFlow" "ThrowFlow" "machine" "LThrowFlow$Machine;" ∈ al_w := in_w 226 (by decide +kernel) rfl
theorem mw_229 : Cond.methodLink "ThrowFlowLaw" 50 ⟨"ThrowFlow", "is", "(II)Z"⟩ ∈ al_w := in_w 229 (by decide +kernel) rfl
theorem mw_230 : Cond.instanceMethod ⟨"ThrowFlow", "is", "(II)Z"⟩ ∈ al_w := in_w 230 (by decide +kernel) rfl
theorem mw_231 : Cond.selects "ThrowFlow" ⟨"ThrowFlow", "is", "(II)Z"⟩ ⟨"ThrowFlow", "is", "(II)Z"⟩ ∈ al_w := in_w 231 (by decide +kernel) rfl
set_option maxRecDepth 20000 in
theorem mw_232 : Cond.code ⟨"ThrowFlow", "is", "(II)Z"⟩ prog_1_method_3_code 3 (some (.boolean)) ∈ al_w := in_w 232 (by rfl) rfl
theorem mw_233 : Cond.methodLink "ThrowFlow" 36 ⟨"ThrowFlow$Kinds", "has", "(I)Z"⟩ ∈ al_w := in_w 233 (by decide +kernel) rfl
theorem mw_234 : Cond.instanceMethod ⟨"ThrowFlow$Kinds", "has", "(I)Z"⟩ ∈ al_w := in_w 234 (by decide +kernel) rfl
theorem mw_235 : Cond.selects "ThrowFlow$Kinds" ⟨"ThrowFlow$Kinds", "has", "(I)Z"⟩ ⟨"ThrowFlow$Kinds", "has", "(I)Z"⟩ ∈ al_w := in_w 235 (by decide +kernel) rfl
set_option maxRecDepth 20000 in
theorem mw_236 : Cond.code ⟨"ThrowFlow$Kinds", "has", "(I)Z"⟩ prog_4_method_2_code 2 (some (.boolean)) ∈ al_w := in_w 236 (by rfl) rfl
theorem mw_237 : Cond.methodLink "ThrowFlow" 62 ⟨"ThrowFlow$Kinds", "isOneOf", "(II)Z"⟩ ∈ al_w := in_w 237 (by decide +kernel) rfl
theorem mw_238 : Cond.instanceMethod ⟨"ThrowFlow$Kinds", "isOneOf", "(II)Z"⟩ ∈ al_w := in_w 238 (by decide +kernel) rfl
theorem mw_239 : Cond.selects "ThrowFlow$Kinds" ⟨"ThrowFlow$Kinds", "isOneOf", "(II)Z"⟩ ⟨"ThrowFlow$Kinds", "isOneOf", "(II)Z"⟩ ∈ al_w := in_w 239 (by decide +kernel) rfl
set_option maxRecDepth 20000 in
theorem mw_240 : Cond.code ⟨"ThrowFlow$Kinds", "isOneOf", "(II)Z"⟩ prog_4_method_4_code 3 (some (.boolean)) ∈ al_w := in_w 240 (by rfl) rfl
theorem mw_241 : Cond.methodLink "ThrowFlowLaw" 55 ⟨"ThrowFlow", "method", "()I"⟩ ∈ al_w := in_w 241 (by decide +kernel) rfl
theorem mw_242 : Cond.instanceMethod ⟨"ThrowFlow", "method", "()I"⟩ ∈ al_w := in_w 242 (by decide +kernel) rfl
theorem mw_243 : Cond.selects "ThrowFlow" ⟨"ThrowFlow", "method", "()I"⟩ ⟨"ThrowFlow", "method", "()I"⟩ ∈ al_w := in_w 243 (by decide +kernel) rfl
set_option maxRecDepth 20000 in
theorem mw_244 : Cond.code ⟨"ThrowFlow", "method", "()I"⟩ prog_1_method_4_code 1 (some (.int)) ∈ al_w := in_w 244 (by rfl) rfl
theorem mw_245 : Cond.methodLink "ThrowFlow" 66 ⟨"ThrowFlow$Text", "isFull", "()Z"⟩ ∈ al_w := in_w 245 (by decide +kernel) rfl
theorem mw_246 : Cond.instanceMethod ⟨"ThrowFlow$Text", "isFull", "()Z"⟩ ∈ al_w := in_w 246 (by decide +kernel) rfl
theorem mw_247 : Cond.selects "ThrowFlow$Text" ⟨"ThrowFlow$Text", "isFull", "()Z"⟩ ⟨"ThrowFlow$Text", "isFull", "()Z"⟩ ∈ al_w := in_w 247 (by decide +kernel) rfl
set_option maxRecDepth 20000 in
theorem mw_248 : Cond.code ⟨"ThrowFlow$Text", "isFull", "()Z"⟩ prog_6_method_2_code 1 (some (.boolean)) ∈ al_w := in_w 248 (by rfl) rfl
theorem mw_249 : Cond.methodLink "ThrowFlow" 67 ⟨"ThrowFlow$Text", "appendMethod", "()I"⟩ ∈ al_w := in_w 249 (by decide +kernel) rfl
theorem mw_250 : Cond.instanceMethod ⟨"ThrowFlow$Text", "appendMethod", "()I"⟩ ∈ al_w := in_w 250 (by decide +kernel) rfl
theorem mw_251 : Cond.selects "ThrowFlow$Text" ⟨"ThrowFlow$Text", "appendMethod", "()I"⟩ ⟨"ThrowFlow$Text", "appendMethod", "()I"⟩ ∈ al_w := in_w 251 (by decide +kernel) rfl
set_option maxRecDepth 20000 in
theorem mw_252 : Cond.code ⟨"ThrowFlow$Text", "appendMethod", "()I"⟩ prog_6_method_3_code 2 (some (.int)) ∈ al_w := in_w 252 (by rfl) rfl
theorem mw_253 : Cond.methodLink "ThrowFlowLaw" 70 ⟨"ThrowFlow", "out", "(I)I"⟩ ∈ al_w := in_w 253 (by decide +kernel) rfl
theorem mw_254 : Cond.instanceMethod ⟨"ThrowFlow", "out", "(I)I"⟩ ∈ al_w := in_w 254 (by decide +kernel) rfl
theorem mw_255 : Cond.selects "ThrowFlow" ⟨"ThrowFlow", "out", "(I)I"⟩ ⟨"ThrowFlow", "out", "(I)I"⟩ ∈ al_w := in_w 255 (by decide +kernel) rfl
set_option maxRecDepth 20000 in
theorem mw_256 : Cond.code ⟨"ThrowFlow", "out", "(I)I"⟩ prog_1_method_8_code 2 (some (.int)) ∈ al_w := in_w 256 (by rfl) rfl
theorem mw_257 : Cond.methodLink "ThrowFlow" 130 ⟨"ThrowFlow$Flow", "refresh", "()V"⟩ ∈ al_w := in_w 257 (by decide +kernel) rfl
theorem mw_258 : Cond.instanceMethod ⟨"ThrowFlow$Flow", "refresh", "()V"⟩ ∈ al_w := in_w 258 (by decide +kernel) rfl
theorem mw_259 : Cond.selects "ThrowFlow$Flow" ⟨"ThrowFlow$Flow", "refresh", "()V"⟩ ⟨"ThrowFlow$Flow", "refresh", "()V"⟩ ∈ al_w := in_w 259 (by decide +kernel) rfl
set_option maxRecDepth 20000 in
theorem mw_260 : Cond.code ⟨"ThrowFlow$Flow", "refresh", "()V"⟩ prog_3_method_14_code 2 none ∈ al_w := in_w 260 (by rfl) rfl
theorem mw_261 : Cond.methodLink "ThrowFlow$Flow" 97 ⟨"java/util/Arrays", "fill", "([II)V"⟩ ∈ al_w := in_w 261 (by decide +kernel) rfl
theorem mw_262 : Cond.static ⟨"java/util/Arrays", "fill", "([II)V"⟩ ∈ al_w := in_w 262 (by decide +kernel) rfl
set_option maxRecDepth 20000 in
theorem mw_263 : Cond.code ⟨"java/util/Arrays", "fill", "([II)V"⟩ prog_17_method_103_code 4 none ∈ al_w := in_w 263 (by rfl) rfl
theorem mw_264 : Cond.methodLink "ThrowFlow$Flow" 103 ⟨"ThrowFlow$Flow", "raiseOwn", "()V"⟩ ∈ al_w := in_w 264 (by decide +kernel) rfl
theorem mw_266 : Cond.instanceMethod ⟨"ThrowFlow$Flow", "raiseOwn", "()V"⟩ ∈ al_w := in_w 266 (by decide +kernel) rfl
set_option maxRecDepth 20000 in
theorem mw_267 : Cond.code ⟨"ThrowFlow$Flow", "raiseOwn", "()V"⟩ prog_3_method_15_code 3 none ∈ al_w := in_w 267 (by rfl) rfl
theorem mw_268 : Cond.methodLink "ThrowFlow$Flow" 114 ⟨"ThrowFlow$Flow", "ownKinds", "(II)I"⟩ ∈ al_w := in_w 268 (by decide +kernel) rfl
theorem mw_270 : Cond.instanceMethod ⟨"ThrowFlow$Flow", "ownKinds", "(II)I"⟩ ∈ al_w := in_w 270 (by decide +kernel) rfl
set_option maxRecDepth 20000 in
theorem mw_271 : Cond.code ⟨"ThrowFlow$Flow", "ownKinds", "(II)I"⟩ prog_3_method_13_code 4 (some (.int)) ∈ al_w := in_w 271 (by rfl) rfl
theorem mw_272 : Cond.methodLink "ThrowFlow$Flow" 117 ⟨"ThrowFlow$Flow", "note", "(IIII)V"⟩ ∈ al_w := in_w 272 (by decide +kernel) rfl
theorem mw_274 : Cond.instanceMethod ⟨"ThrowFlow$Flow", "note", "(IIII)V"⟩ ∈ al_w := in_w 274 (by decide +kernel) rfl
set_option maxRecDepth 20000 in
theorem mw_275 : Cond.code ⟨"ThrowFlow$Flow", "note", "(IIII)V"⟩ prog_3_method_18_code 8 none ∈ al_w := in_w 275 (by rfl) rfl
theorem mw_276 : Cond.methodLink "ThrowFlow$Flow" 35 ⟨"ThrowFlow$Flow", "placeOf", "(II)I"⟩ ∈ al_w := in_w 276 (by decide +kernel) rfl
theorem mw_277 : Cond.static ⟨"ThrowFlow$Flow", "placeOf", "(II)I"⟩ ∈ al_w := in_w 277 (by decide +kernel) rfl
set_option maxRecDepth 20000 in
theorem mw_278 : Cond.code ⟨"ThrowFlow$Flow", "placeOf", "(II)I"⟩ prog_3_method_4_code 2 (some (.int)) ∈ al_w := in_w 278 (by rfl) rfl
theorem mw_279 : Cond.methodLink "ThrowFlow$Flow" 78 ⟨"ThrowFlow$Flow", "goesThrough", "(III)I"⟩ ∈ al_w := in_w 279 (by decide +kernel) rfl
theorem mw_281 : Cond.instanceMethod ⟨"ThrowFlow$Flow", "goesThrough", "(III)I"⟩ ∈ al_w := in_w 281 (by decide +kernel) rfl
set_option maxRecDepth 20000 in
theorem mw_282 : Cond.code ⟨"ThrowFlow$Flow", "goesThrough", "(III)I"⟩ prog_3_method_11_code 5 (some (.int)) ∈ al_w := in_w 282 (by rfl) rfl
theorem mw_283 : Cond.methodLink "ThrowFlow$Flow" 81 ⟨"ThrowFlow$Body", "catcher", "(IILThrowFlow$Kinds;)I"⟩ ∈ al_w := in_w 283 (by decide +kernel) rfl
theorem mw_284 : Cond.instanceMethod ⟨"ThrowFlow$Body", "catcher", "(IILThrowFlow$Kinds;)I"⟩ ∈ al_w := in_w 284 (by decide +kernel) rfl
theorem mw_285 : Cond.selects "ThrowFlow$Body" ⟨"ThrowFlow$Body", "catcher", "(IILThrowFlow$Kinds;)I"⟩ ⟨"ThrowFlow$Body", "catcher", "(IILThrowFlow$Kinds;)I"⟩ ∈ al_w := in_w 285 (by decide +kernel) rfl
set_option maxRecDepth 20000 in
theorem mw_286 : Cond.code ⟨"ThrowFlow$Body", "catcher", "(IILThrowFlow$Kinds;)I"⟩ prog_2_method_8_code 5 (some (.int)) ∈ al_w := in_w 286 (by rfl) rfl
theorem mw_287 : Cond.methodLink "ThrowFlow$Body" 44 ⟨"ThrowFlow$Body", "covers", "(II)Z"⟩ ∈ al_w := in_w 287 (by decide +kernel) rfl
theorem mw_288 : Cond.instanceMethod ⟨"ThrowFlow$Body", "covers", "(II)Z"⟩ ∈ al_w := in_w 288 (by decide +kernel) rfl
theorem mw_289 : Cond.selects "ThrowFlow$Body" ⟨"ThrowFlow$Body", "covers", "(II)Z"⟩ ⟨"ThrowFlow$Body", "covers", "(II)Z"⟩ ∈ al_w := in_w 289 (by decide +kernel) rfl
set_option maxRecDepth 20000 in
theorem mw_290 : Cond.code ⟨"ThrowFlow$Body", "covers", "(II)Z"⟩ prog_2_method_7_code 3 (some (.boolean)) ∈ al_w := in_w 290 (by rfl) rfl
theorem mw_291 : Cond.methodLink "ThrowFlow$Body" 48 ⟨"ThrowFlow$Kinds", "isOneOf", "(II)Z"⟩ ∈ al_w := in_w 291 (by decide +kernel) rfl
theorem mw_292 : Cond.methodLink "ThrowFlow$Flow" 54 ⟨"ThrowFlow$Flow", "doorOut", "(I)I"⟩ ∈ al_w := in_w 292 (by decide +kernel) rfl
theorem mw_293 : Cond.static ⟨"ThrowFlow$Flow", "doorOut", "(I)I"⟩ ∈ al_w := in_w 293 (by decide +kernel) rfl
set_option maxRecDepth 20000 in
theorem mw_294 : Cond.code ⟨"ThrowFlow$Flow", "doorOut", "(I)I"⟩ prog_3_method_3_code 1 (some (.int)) ∈ al_w := in_w 294 (by rfl) rfl
theorem mw_295 : Cond.methodLink "ThrowFlow$Flow" 85 ⟨"ThrowFlow$Flow", "doorOf", "(II)I"⟩ ∈ al_w := in_w 295 (by decide +kernel) rfl
theorem mw_296 : Cond.static ⟨"ThrowFlow$Flow", "doorOf", "(II)I"⟩ ∈ al_w := in_w 296 (by decide +kernel) rfl
set_option maxRecDepth 20000 in
theorem mw_297 : Cond.code ⟨"ThrowFlow$Flow", "doorOf", "(II)I"⟩ prog_3_method_2_code 2 (some (.int)) ∈ al_w := in_w 297 (by rfl) rfl
theorem mw_298 : Cond.methodLink "ThrowFlow$Flow" 106 ⟨"ThrowFlow$Flow", "openDoors", "()Z"⟩ ∈ al_w := in_w 298 (by decide +kernel) rfl
theorem mw_300 : Cond.instanceMethod ⟨"ThrowFlow$Flow", "openDoors", "()Z"⟩ ∈ al_w := in_w 300 (by decide +kernel) rfl
set_option maxRecDepth 20000 in
theorem mw_301 : Cond.code ⟨"ThrowFlow$Flow", "openDoors", "()Z"⟩ prog_3_method_17_code 3 (some (.boolean)) ∈ al_w := in_w 301 (by rfl) rfl
theorem mw_302 : Cond.methodLink "ThrowFlow$Flow" 110 ⟨"ThrowFlow$Flow", "raiseFresh", "(I)V"⟩ ∈ al_w := in_w 302 (by decide +kernel) rfl
theorem mw_304 : Cond.instanceMethod ⟨"ThrowFlow$Flow", "raiseFresh", "(I)V"⟩ ∈ al_w := in_w 304 (by decide +kernel) rfl
set_option maxRecDepth 20000 in
theorem mw_305 : Cond.code ⟨"ThrowFlow$Flow", "raiseFresh", "(I)V"⟩ prog_3_method_16_code 5 none ∈ al_w := in_w 305 (by rfl) rfl
theorem mw_306 : Cond.methodLink "ThrowFlow$Flow" 65 ⟨"ThrowFlow$Flow", "sourceDoor", "(II)I"⟩ ∈ al_w := in_w 306 (by decide +kernel) rfl
theorem mw_308 : Cond.instanceMethod ⟨"ThrowFlow$Flow", "sourceDoor", "(II)I"⟩ ∈ al_w := in_w 308 (by decide +kernel) rfl
set_option maxRecDepth 20000 in
theorem mw_309 : Cond.code ⟨"ThrowFlow$Flow", "sourceDoor", "(II)I"⟩ prog_3_method_12_code 4 (some (.int)) ∈ al_w := in_w 309 (by rfl) rfl
theorem mw_310 : Cond.methodLink "ThrowFlow" 71 ⟨"ThrowFlow$Text", "hasMethod", "(I)Z"⟩ ∈ al_w := in_w 310 (by decide +kernel) rfl
theorem mw_311 : Cond.instanceMethod ⟨"ThrowFlow$Text", "hasMethod", "(I)Z"⟩ ∈ al_w := in_w 311 (by decide +kernel) rfl
theorem mw_312 : Cond.selects "ThrowFlow$Text" ⟨"ThrowFlow$Text", "hasMethod", "(I)Z"⟩ ⟨"ThrowFlow$Text", "hasMethod", "(I)Z"⟩ ∈ al_w := in_w 312 (by decide +kernel) rfl
set_option maxRecDepth 20000 in
theorem mw_313 : Cond.code ⟨"ThrowFlow$Text", "hasMethod", "(I)Z"⟩ prog_6_method_4_code 2 (some (.boolean)) ∈ al_w := in_w 313 (by rfl) rfl
theorem mw_314 : Cond.methodLink "ThrowFlow" 133 ⟨"ThrowFlow$Flow", "doorOut", "(I)I"⟩ ∈ al_w := in_w 314 (by decide +kernel) rfl
theorem mw_315 : Cond.methodLink "ThrowFlow" 136 ⟨"ThrowFlow$Flow", "through", "(I)I"⟩ ∈ al_w := in_w 315 (by decide +kernel) rfl
theorem mw_316 : Cond.instanceMethod ⟨"ThrowFlow$Flow", "through", "(I)I"⟩ ∈ al_w := in_w 316 (by decide +kernel) rfl
theorem mw_317 : Cond.selects "ThrowFlow$Flow" ⟨"ThrowFlow$Flow", "through", "(I)I"⟩ ⟨"ThrowFlow$Flow", "through", "(I)I"⟩ ∈ al_w := in_w 317 (by decide +kernel) rfl
set_option maxRecDepth 20000 in
theorem mw_318 : Cond.code ⟨"ThrowFlow$Flow", "through", "(I)I"⟩ prog_3_method_5_code 2 (some (.int)) ∈ al_w := in_w 318 (by rfl) rfl
theorem mw_319 : Cond.methodLink "ThrowFlowLaw" 74 ⟨"ThrowFlow", "raises", "(II)I"⟩ ∈ al_w := in_w 319 (by decide +kernel) rfl
theorem mw_320 : Cond.instanceMethod ⟨"ThrowFlow", "raises", "(II)I"⟩ ∈ al_w := in_w 320 (by decide +kernel) rfl
theorem mw_321 : Cond.selects "ThrowFlow" ⟨"ThrowFlow", "raises", "(II)I"⟩ ⟨"ThrowFlow", "raises", "(II)I"⟩ ∈ al_w := in_w 321 (by decide +kernel) rfl
set_option maxRecDepth 20000 in
theorem mw_322 : Cond.code ⟨"ThrowFlow", "raises", "(II)I"⟩ prog_1_method_9_code 3 (some (.int)) ∈ al_w := in_w 322 (by rfl) rfl
theorem mw_323 : Cond.methodLink "ThrowFlow" 117 ⟨"ThrowFlow$Text", "hasInstruction", "(II)Z"⟩ ∈ al_w := in_w 323 (by decide +kernel) rfl
theorem mw_324 : Cond.instanceMethod ⟨"ThrowFlow$Text", "hasInstruction", "(II)Z"⟩ ∈ al_w := in_w 324 (by decide +kernel) rfl
theorem mw_325 : Cond.selects "ThrowFlow$Text" ⟨"ThrowFlow$Text", "hasInstruction", "(II)Z"⟩ ⟨"ThrowFlow$Text", "hasInstruction", "(II)Z"⟩ ∈ al_w := in_w 325 (by decide +kernel) rfl
set_option maxRecDepth 20000 in
theorem mw_326 : Cond.code ⟨"ThrowFlow$Text", "hasInstruction", "(II)Z"⟩ prog_6_method_5_code 3 (some (.boolean)) ∈ al_w := in_w 326 (by rfl) rfl
theorem mw_327 : Cond.methodLink "ThrowFlow$Text" 29 ⟨"ThrowFlow$Text", "hasMethod", "(I)Z"⟩ ∈ al_w := in_w 327 (by decide +kernel) rfl
theorem mw_328 : Cond.methodLink "ThrowFlow" 139 ⟨"ThrowFlow$Flow", "raisedAt", "(II)I"⟩ ∈ al_w := in_w 328 (by decide +kernel) rfl
theorem mw_329 : Cond.instanceMethod ⟨"ThrowFlow$Flow", "raisedAt", "(II)I"⟩ ∈ al_w := in_w 329 (by decide +kernel) rfl
theorem mw_330 : Cond.selects "ThrowFlow$Flow" ⟨"ThrowFlow$Flow", "raisedAt", "(II)I"⟩ ⟨"ThrowFlow$Flow", "raisedAt", "(II)I"⟩ ∈ al_w := in_w 330 (by decide +kernel) rfl
set_option maxRecDepth 20000 in
theorem mw_331 : Cond.code ⟨"ThrowFlow$Flow", "raisedAt", "(II)I"⟩ prog_3_method_6_code 3 (some (.int)) ∈ al_w := in_w 331 (by rfl) rfl
theorem mw_332 : Cond.methodLink "ThrowFlowLaw" 79 ⟨"ThrowFlow", "catches", "(II)I"⟩ ∈ al_w := in_w 332 (by decide +kernel) rfl
theorem mw_333 : Cond.instanceMethod ⟨"ThrowFlow", "catches", "(II)I"⟩ ∈ al_w := in_w 333 (by decide +kernel) rfl
theorem mw_334 : Cond.selects "ThrowFlow" ⟨"ThrowFlow", "catches", "(II)I"⟩ ⟨"ThrowFlow", "catches", "(II)I"⟩ ∈ al_w := in_w 334 (by decide +kernel) rfl
set_option maxRecDepth 20000 in
theorem mw_335 : Cond.code ⟨"ThrowFlow", "catches", "(II)I"⟩ prog_1_method_10_code 3 (some (.int)) ∈ al_w := in_w 335 (by rfl) rfl
theorem mw_336 : Cond.methodLink "ThrowFlow" 143 ⟨"ThrowFlow$Text", "hasHandler", "(II)Z"⟩ ∈ al_w := in_w 336 (by decide +kernel) rfl
theorem mw_337 : Cond.instanceMethod ⟨"ThrowFlow$Text", "hasHandler", "(II)Z"⟩ ∈ al_w := in_w 337 (by decide +kernel) rfl
theorem mw_338 : Cond.selects "ThrowFlow$Text" ⟨"ThrowFlow$Text", "hasHandler", "(II)Z"⟩ ⟨"ThrowFlow$Text", "hasHandler", "(II)Z"⟩ ∈ al_w := in_w 338 (by decide +kernel) rfl
set_option maxRecDepth 20000 in
theorem mw_339 : Cond.code ⟨"ThrowFlow$Text", "hasHandler", "(II)Z"⟩ prog_6_method_6_code 3 (some (.boolean)) ∈ al_w := in_w 339 (by rfl) rfl
theorem mw_340 : Cond.methodLink "ThrowFlow" 146 ⟨"ThrowFlow$Flow", "doorOf", "(II)I"⟩ ∈ al_w := in_w 340 (by decide +kernel) rfl
theorem mw_341 : Cond.methodLink "ThrowFlowLaw" 83 ⟨"ThrowFlow", "way", "(II)I"⟩ ∈ al_w := in_w 341 (by decide +kernel) rfl
theorem mw_342 : Cond.instanceMethod ⟨"ThrowFlow", "way", "(II)I"⟩ ∈ al_w := in_w 342 (by decide +kernel) rfl
theorem mw_343 : Cond.selects "ThrowFlow" ⟨"ThrowFlow", "way", "(II)I"⟩ ⟨"ThrowFlow", "way", "(II)I"⟩ ∈ al_w := in_w 343 (by decide +kernel) rfl
set_option maxRecDepth 20000 in
theorem mw_344 : Cond.code ⟨"ThrowFlow", "way", "(II)I"⟩ prog_1_method_11_code 3 (some (.int)) ∈ al_w := in_w 344 (by rfl) rfl
theorem mw_345 : Cond.methodLink "ThrowFlow" 149 ⟨"ThrowFlow$Flow", "wayLength", "(II)I"⟩ ∈ al_w := in_w 345 (by decide +kernel) rfl
theorem mw_346 : Cond.instanceMethod ⟨"ThrowFlow$Flow", "wayLength", "(II)I"⟩ ∈ al_w := in_w 346 (by decide +kernel) rfl
theorem mw_347 : Cond.selects "ThrowFlow$Flow" ⟨"ThrowFlow$Flow", "wayLength", "(II)I"⟩ ⟨"ThrowFlow$Flow", "wayLength", "(II)I"⟩ ∈ al_w := in_w 347 (by decide +kernel) rfl
set_option maxRecDepth 20000 in
theorem mw_348 : Cond.code ⟨"ThrowFlow$Flow", "wayLength", "(II)I"⟩ prog_3_method_7_code 4 (some (.int)) ∈ al_w := in_w 348 (by rfl) rfl
theorem mw_349 : Cond.methodLink "ThrowFlow$Flow" 39 ⟨"ThrowFlow$Text", "hasMethod", "(I)Z"⟩ ∈ al_w := in_w 349 (by decide +kernel) rfl
theorem mw_350 : Cond.methodLink "ThrowFlow$Flow" 49 ⟨"ThrowFlow$Kinds", "has", "(I)Z"⟩ ∈ al_w := in_w 350 (by decide +kernel) rfl
theorem mw_351 : Cond.methodLink "ThrowFlow$Flow" 58 ⟨"ThrowFlow$Flow", "nearest", "(II)I"⟩ ∈ al_w := in_w 351 (by decide +kernel) rfl
theorem mw_353 : Cond.instanceMethod ⟨"ThrowFlow$Flow", "nearest", "(II)I"⟩ ∈ al_w := in_w 353 (by decide +kernel) rfl
set_option maxRecDepth 20000 in
theorem mw_354 : Cond.code ⟨"ThrowFlow$Flow", "nearest", "(II)I"⟩ prog_3_method_9_code 9 (some (.int)) ∈ al_w := in_w 354 (by rfl) rfl
theorem mw_355 : Cond.methodLink "ThrowFlow$Flow" 61 ⟨"ThrowFlow$Flow", "lengthAt", "(III)I"⟩ ∈ al_w := in_w 355 (by decide +kernel) rfl
theorem mw_357 : Cond.instanceMethod ⟨"ThrowFlow$Flow", "lengthAt", "(III)I"⟩ ∈ al_w := in_w 357 (by decide +kernel) rfl
set_option maxRecDepth 20000 in
theorem mw_358 : Cond.code ⟨"ThrowFlow$Flow", "lengthAt", "(III)I"⟩ prog_3_method_10_code 6 (some (.int)) ∈ al_w := in_w 358 (by rfl) rfl
theorem mw_359 : Cond.methodLink "ThrowFlowLaw" 87 ⟨"ThrowFlow", "step", "(III)I"⟩ ∈ al_w := in_w 359 (by decide +kernel) rfl
theorem mw_360 : Cond.instanceMethod ⟨"ThrowFlow", "step", "(III)I"⟩ ∈ al_w := in_w 360 (by decide +kernel) rfl
theorem mw_361 : Cond.selects "ThrowFlow" ⟨"ThrowFlow", "step", "(III)I"⟩ ⟨"ThrowFlow", "step", "(III)I"⟩ ∈ al_w := in_w 361 (by decide +kernel) rfl
set_option maxRecDepth 20000 in
theorem mw_362 : Cond.code ⟨"ThrowFlow", "step", "(III)I"⟩ prog_1_method_12_code 5 (some (.int)) ∈ al_w := in_w 362 (by rfl) rfl
theorem mw_363 : Cond.methodLink "ThrowFlow" 152 ⟨"ThrowFlow$Flow", "wayPlace", "(III)I"⟩ ∈ al_w := in_w 363 (by decide +kernel) rfl
theorem mw_364 : Cond.instanceMethod ⟨"ThrowFlow$Flow", "wayPlace", "(III)I"⟩ ∈ al_w := in_w 364 (by decide +kernel) rfl
theorem mw_365 : Cond.selects "ThrowFlow$Flow" ⟨"ThrowFlow$Flow", "wayPlace", "(III)I"⟩ ⟨"ThrowFlow$Flow", "wayPlace", "(III)I"⟩ ∈ al_w := in_w 365 (by decide +kernel) rfl
set_option maxRecDepth 20000 in
theorem mw_366 : Cond.code ⟨"ThrowFlow$Flow", "wayPlace", "(III)I"⟩ prog_3_method_8_code 7 (some (.int)) ∈ al_w := in_w 366 (by rfl) rfl
theorem mw_367 : Cond.methodLink "ThrowFlowLaw" 95 ⟨"ThrowFlow", "spent", "()I"⟩ ∈ al_w := in_w 367 (by decide +kernel) rfl
theorem mw_368 : Cond.instanceMethod ⟨"ThrowFlow", "spent", "()I"⟩ ∈ al_w := in_w 368 (by decide +kernel) rfl
theorem mw_369 : Cond.selects "ThrowFlow" ⟨"ThrowFlow", "spent", "()I"⟩ ⟨"ThrowFlow", "spent", "()I"⟩ ∈ al_w := in_w 369 (by decide +kernel) rfl
set_option maxRecDepth 20000 in
theorem mw_370 : Cond.code ⟨"ThrowFlow", "spent", "()I"⟩ prog_1_method_14_code 1 (some (.int)) ∈ al_w := in_w 370 (by rfl) rfl
theorem mw_371 : Cond.methodLink "ThrowFlowLaw" 99 ⟨"ThrowFlow", "escaped", "()I"⟩ ∈ al_w := in_w 371 (by decide +kernel) rfl
theorem mw_372 : Cond.instanceMethod ⟨"ThrowFlow", "escaped", "()I"⟩ ∈ al_w := in_w 372 (by decide +kernel) rfl
theorem mw_373 : Cond.selects "ThrowFlow" ⟨"ThrowFlow", "escaped", "()I"⟩ ⟨"ThrowFlow", "escaped", "()I"⟩ ∈ al_w := in_w 373 (by decide +kernel) rfl
set_option maxRecDepth 20000 in
theorem mw_374 : Cond.code ⟨"ThrowFlow", "escaped", "()I"⟩ prog_1_method_15_code 1 (some (.int)) ∈ al_w := in_w 374 (by rfl) rfl
set_option maxRecDepth 20000 in
theorem mw_383 : Cond.code ⟨"ThrowFlow", "kind", "(I)I"⟩ prog_1_method_2_code 2 (some (.int)) ∈ al_w := in_w 383 (by rfl) rfl
theorem mw_453 : Cond.methodLink "ThrowFlow" 49 ⟨"ThrowFlow$Kinds", "isFull", "()Z"⟩ ∈ al_w := in_w 453 (by decide +kernel) rfl
theorem mw_454 : Cond.instanceMethod ⟨"ThrowFlow$Kinds", "isFull", "()Z"⟩ ∈ al_w := in_w 454 (by decide +kernel) rfl
theorem mw_455 : Cond.selects "ThrowFlow$Kinds" ⟨"ThrowFlow$Kinds", "isFull", "()Z"⟩ ⟨"ThrowFlow$Kinds", "isFull", "()Z"⟩ ∈ al_w := in_w 455 (by decide +kernel) rfl
set_option maxRecDepth 20000 in
theorem mw_456 : Cond.code ⟨"ThrowFlow$Kinds", "isFull", "()Z"⟩ prog_4_method_3_code 1 (some (.boolean)) ∈ al_w := in_w 456 (by rfl) rfl
theorem mw_473 : Cond.methodLink "ThrowFlow" 58 ⟨"ThrowFlow$Kinds", "append", "(I)I"⟩ ∈ al_w := in_w 473 (by decide +kernel) rfl
theorem mw_474 : Cond.instanceMethod ⟨"ThrowFlow$Kinds", "append", "(I)I"⟩ ∈ al_w := in_w 474 (by decide +kernel) rfl
theorem mw_475 : Cond.selects "ThrowFlow$Kinds" ⟨"ThrowFlow$Kinds", "append", "(I)I"⟩ ⟨"ThrowFlow$Kinds", "append", "(I)I"⟩ ∈ al_w := in_w 475 (by decide +kernel) rfl
set_option maxRecDepth 20000 in
theorem mw_476 : Cond.code ⟨"ThrowFlow$Kinds", "append", "(I)I"⟩ prog_4_method_5_code 4 (some (.int)) ∈ al_w := in_w 476 (by rfl) rfl
theorem mw_477 : Cond.methodLink "ThrowFlow$Kinds" 19 ⟨"ThrowFlow$Kinds", "isOneOf", "(II)Z"⟩ ∈ al_w := in_w 477 (by decide +kernel) rfl
set_option maxRecDepth 20000 in
theorem mw_485 : Cond.code ⟨"ThrowFlow", "add", "(IIII)I"⟩ prog_1_method_5_code 6 (some (.int)) ∈ al_w := in_w 485 (by rfl) rfl
theorem mw_502 : Cond.methodLink "ThrowFlow" 83 ⟨"ThrowFlow$Body", "isFull", "()Z"⟩ ∈ al_w := in_w 502 (by decide +kernel) rfl
theorem mw_503 : Cond.instanceMethod ⟨"ThrowFlow$Body", "isFull", "()Z"⟩ ∈ al_w := in_w 503 (by decide +kernel) rfl
theorem mw_504 : Cond.selects "ThrowFlow$Body" ⟨"ThrowFlow$Body", "isFull", "()Z"⟩ ⟨"ThrowFlow$Body", "isFull", "()Z"⟩ ∈ al_w := in_w 504 (by decide +kernel) rfl
set_option maxRecDepth 20000 in
theorem mw_505 : Cond.code ⟨"ThrowFlow$Body", "isFull", "()Z"⟩ prog_2_method_2_code 1 (some (.boolean)) ∈ al_w := in_w 505 (by rfl) rfl
theorem mw_507 : Cond.methodLink "ThrowFlow" 88 ⟨"ThrowFlow$Text", "allows", "(III)Z"⟩ ∈ al_w := in_w 507 (by decide +kernel) rfl
theorem mw_508 : Cond.instanceMethod ⟨"ThrowFlow$Text", "allows", "(III)Z"⟩ ∈ al_w := in_w 508 (by decide +kernel) rfl
theorem mw_509 : Cond.selects "ThrowFlow$Text" ⟨"ThrowFlow$Text", "allows", "(III)Z"⟩ ⟨"ThrowFlow$Text", "allows", "(III)Z"⟩ ∈ al_w := in_w 509 (by decide +kernel) rfl
set_option maxRecDepth 20000 in
theorem mw_510 : Cond.code ⟨"ThrowFlow$Text", "allows", "(III)Z"⟩ prog_6_method_7_code 4 (some (.boolean)) ∈ al_w := in_w 510 (by rfl) rfl
theorem mw_511 : Cond.methodLink "ThrowFlow$Text" 39 ⟨"ThrowFlow$Text", "isRegister", "(I)Z"⟩ ∈ al_w := in_w 511 (by decide +kernel) rfl
theorem mw_512 : Cond.static ⟨"ThrowFlow$Text", "isRegister", "(I)Z"⟩ ∈ al_w := in_w 512 (by decide +kernel) rfl
set_option maxRecDepth 20000 in
theorem mw_513 : Cond.code ⟨"ThrowFlow$Text", "isRegister", "(I)Z"⟩ prog_6_method_9_code 1 (some (.boolean)) ∈ al_w := in_w 513 (by rfl) rfl
theorem mw_514 : Cond.methodLink "ThrowFlow$Text" 42 ⟨"ThrowFlow$Text", "isPlace", "(I)Z"⟩ ∈ al_w := in_w 514 (by decide +kernel) rfl
theorem mw_515 : Cond.static ⟨"ThrowFlow$Text", "isPlace", "(I)Z"⟩ ∈ al_w := in_w 515 (by decide +kernel) rfl
set_option maxRecDepth 20000 in
theorem mw_516 : Cond.code ⟨"ThrowFlow$Text", "isPlace", "(I)Z"⟩ prog_6_method_10_code 1 (some (.boolean)) ∈ al_w := in_w 516 (by rfl) rfl
theorem mw_517 : Cond.methodLink "ThrowFlow$Text" 45 ⟨"ThrowFlow$Kinds", "has", "(I)Z"⟩ ∈ al_w := in_w 517 (by decide +kernel) rfl
theorem mw_519 : Cond.methodLink "ThrowFlow" 98 ⟨"ThrowFlow$Body", "appendInstruction", "(III)I"⟩ ∈ al_w := in_w 519 (by decide +kernel) rfl
theorem mw_520 : Cond.instanceMethod ⟨"ThrowFlow$Body", "appendInstruction", "(III)I"⟩ ∈ al_w := in_w 520 (by decide +kernel) rfl
theorem mw_521 : Cond.selects "ThrowFlow$Body" ⟨"ThrowFlow$Body", "appendInstruction", "(III)I"⟩ ⟨"ThrowFlow$Body", "appendInstruction", "(III)I"⟩ ∈ al_w := in_w 521 (by decide +kernel) rfl
set_option maxRecDepth 20000 in
theorem mw_522 : Cond.code ⟨"ThrowFlow$Body", "appendInstruction", "(III)I"⟩ prog_2_method_4_code 5 (some (.int)) ∈ al_w := in_w 522 (by rfl) rfl
theorem mw_523 : Cond.methodLink "ThrowFlow$Body" 40 ⟨"ThrowFlow$Body", "put", "(IIII)V"⟩ ∈ al_w := in_w 523 (by decide +kernel) rfl
theorem mw_524 : Cond.instanceMethod ⟨"ThrowFlow$Body", "put", "(IIII)V"⟩ ∈ al_w := in_w 524 (by decide +kernel) rfl
theorem mw_525 : Cond.selects "ThrowFlow$Body" ⟨"ThrowFlow$Body", "put", "(IIII)V"⟩ ⟨"ThrowFlow$Body", "put", "(IIII)V"⟩ ∈ al_w := in_w 525 (by decide +kernel) rfl
set_option maxRecDepth 20000 in
theorem mw_526 : Cond.code ⟨"ThrowFlow$Body", "put", "(IIII)V"⟩ prog_2_method_5_code 5 none ∈ al_w := in_w 526 (by rfl) rfl
set_option maxRecDepth 20000 in
theorem mw_533 : Cond.code ⟨"ThrowFlow", "handler", "(IIIII)I"⟩ prog_1_method_6_code 7 (some (.int)) ∈ al_w := in_w 533 (by rfl) rfl
theorem mw_534 : Cond.methodLink "ThrowFlow" 102 ⟨"ThrowFlow$Body", "isFullOfHandlers", "()Z"⟩ ∈ al_w := in_w 534 (by decide +kernel) rfl
theorem mw_535 : Cond.instanceMethod ⟨"ThrowFlow$Body", "isFullOfHandlers", "()Z"⟩ ∈ al_w := in_w 535 (by decide +kernel) rfl
theorem mw_536 : Cond.selects "ThrowFlow$Body" ⟨"ThrowFlow$Body", "isFullOfHandlers", "()Z"⟩ ⟨"ThrowFlow$Body", "isFullOfHandlers", "()Z"⟩ ∈ al_w := in_w 536 (by decide +kernel) rfl
set_option maxRecDepth 20000 in
theorem mw_537 : Cond.code ⟨"ThrowFlow$Body", "isFullOfHandlers", "()Z"⟩ prog_2_method_3_code 1 (some (.boolean)) ∈ al_w := in_w 537 (by rfl) rfl
theorem mw_539 : Cond.methodLink "ThrowFlow" 107 ⟨"ThrowFlow$Text", "allowsHandler", "(IIII)Z"⟩ ∈ al_w := in_w 539 (by decide +kernel) rfl
theorem mw_540 : Cond.instanceMethod ⟨"ThrowFlow$Text", "allowsHandler", "(IIII)Z"⟩ ∈ al_w := in_w 540 (by decide +kernel) rfl
theorem mw_541 : Cond.selects "ThrowFlow$Text" ⟨"ThrowFlow$Text", "allowsHandler", "(IIII)Z"⟩ ⟨"ThrowFlow$Text", "allowsHandler", "(IIII)Z"⟩ ∈ al_w := in_w 541 (by decide +kernel) rfl
set_option maxRecDepth 20000 in
theorem mw_542 : Cond.code ⟨"ThrowFlow$Text", "allowsHandler", "(IIII)Z"⟩ prog_6_method_8_code 5 (some (.boolean)) ∈ al_w := in_w 542 (by rfl) rfl
theorem mw_544 : Cond.methodLink "ThrowFlow" 113 ⟨"ThrowFlow$Body", "appendHandler", "(IIII)I"⟩ ∈ al_w := in_w 544 (by decide +kernel) rfl
theorem mw_545 : Cond.instanceMethod ⟨"ThrowFlow$Body", "appendHandler", "(IIII)I"⟩ ∈ al_w := in_w 545 (by decide +kernel) rfl
theorem mw_546 : Cond.selects "ThrowFlow$Body" ⟨"ThrowFlow$Body", "appendHandler", "(IIII)I"⟩ ⟨"ThrowFlow$Body", "appendHandler", "(IIII)I"⟩ ∈ al_w := in_w 546 (by decide +kernel) rfl
set_option maxRecDepth 20000 in
theorem mw_547 : Cond.code ⟨"ThrowFlow$Body", "appendHandler", "(IIII)I"⟩ prog_2_method_6_code 6 (some (.int)) ∈ al_w := in_w 547 (by rfl) rfl
set_option maxRecDepth 20000 in
theorem mw_554 : Cond.code ⟨"ThrowFlow", "change", "(IIIII)I"⟩ prog_1_method_7_code 8 (some (.int)) ∈ al_w := in_w 554 (by rfl) rfl
theorem mw_556 : Cond.methodLink "ThrowFlow" 126 ⟨"ThrowFlow$Body", "put", "(IIII)V"⟩ ∈ al_w := in_w 556 (by decide +kernel) rfl
set_option maxRecDepth 20000 in
theorem mw_564 : Cond.code ⟨"ThrowFlow", "run", "(III)I"⟩ prog_1_method_13_code 4 (some (.int)) ∈ al_w := in_w 564 (by rfl) rfl
theorem mw_566 : Cond.methodLink "ThrowFlow" 157 ⟨"ThrowFlow$Machine", "start", "(III)V"⟩ ∈ al_w := in_w 566 (by decide +kernel) rfl
theorem mw_567 : Cond.instanceMethod ⟨"ThrowFlow$Machine", "start", "(III)V"⟩ ∈ al_w := in_w 567 (by decide +kernel) rfl
theorem mw_568 : Cond.selects "ThrowFlow$Machine" ⟨"ThrowFlow$Machine", "start", "(III)V"⟩ ⟨"ThrowFlow$Machine", "start", "(III)V"⟩ ∈ al_w := in_w 568 (by decide +kernel) rfl
set_option maxRecDepth 20000 in
theorem mw_569 : Cond.code ⟨"ThrowFlow$Machine", "start", "(III)V"⟩ prog_5_method_3_code 4 none ∈ al_w := in_w 569 (by rfl) rfl
theorem mw_570 : Cond.methodLink "ThrowFlow$Machine" 35 ⟨"ThrowFlow$Machine", "enter", "(II)V"⟩ ∈ al_w := in_w 570 (by decide +kernel) rfl
theorem mw_572 : Cond.instanceMethod ⟨"ThrowFlow$Machine", "enter", "(II)V"⟩ ∈ al_w := in_w 572 (by decide +kernel) rfl
set_option maxRecDepth 20000 in
theorem mw_573 : Cond.code ⟨"ThrowFlow$Machine", "enter", "(II)V"⟩ prog_5_method_4_code 5 none ∈ al_w := in_w 573 (by rfl) rfl
theorem mw_574 : Cond.methodLink "ThrowFlow$Machine" 39 ⟨"ThrowFlow$Machine", "giveAtEnds", "()V"⟩ ∈ al_w := in_w 574 (by decide +kernel) rfl
theorem mw_576 : Cond.instanceMethod ⟨"ThrowFlow$Machine", "giveAtEnds", "()V"⟩ ∈ al_w := in_w 576 (by decide +kernel) rfl
set_option maxRecDepth 20000 in
theorem mw_577 : Cond.code ⟨"ThrowFlow$Machine", "giveAtEnds", "()V"⟩ prog_5_method_5_code 2 none ∈ al_w := in_w 577 (by rfl) rfl
theorem mw_578 : Cond.methodLink "ThrowFlow$Machine" 48 ⟨"ThrowFlow$Machine", "isAtEnd", "()Z"⟩ ∈ al_w := in_w 578 (by decide +kernel) rfl
theorem mw_580 : Cond.instanceMethod ⟨"ThrowFlow$Machine", "isAtEnd", "()Z"⟩ ∈ al_w := in_w 580 (by decide +kernel) rfl
set_option maxRecDepth 20000 in
theorem mw_581 : Cond.code ⟨"ThrowFlow$Machine", "isAtEnd", "()Z"⟩ prog_5_method_6_code 1 (some (.boolean)) ∈ al_w := in_w 581 (by rfl) rfl
theorem mw_582 : Cond.methodLink "ThrowFlow$Machine" 60 ⟨"ThrowFlow$Machine", "body", "()LThrowFlow$Body;"⟩ ∈ al_w := in_w 582 (by decide +kernel) rfl
theorem mw_584 : Cond.instanceMethod ⟨"ThrowFlow$Machine", "body", "()LThrowFlow$Body;"⟩ ∈ al_w := in_w 584 (by decide +kernel) rfl
set_option maxRecDepth 20000 in
theorem mw_585 : Cond.code ⟨"ThrowFlow$Machine", "body", "()LThrowFlow$Body;"⟩ prog_5_method_7_code 1 (some (.object "ThrowFlow$Body")) ∈ al_w := in_w 585 (by rfl) rfl
theorem mw_586 : Cond.methodLink "ThrowFlow$Machine" 52 ⟨"ThrowFlow$Machine", "content", "(I)I"⟩ ∈ al_w := in_w 586 (by decide +kernel) rfl
theorem mw_588 : Cond.instanceMethod ⟨"ThrowFlow$Machine", "content", "(I)I"⟩ ∈ al_w := in_w 588 (by decide +kernel) rfl
set_option maxRecDepth 20000 in
theorem mw_589 : Cond.code ⟨"ThrowFlow$Machine", "content", "(I)I"⟩ prog_5_method_8_code 2 (some (.int)) ∈ al_w := in_w 589 (by rfl) rfl
theorem mw_590 : Cond.methodLink "ThrowFlow$Machine" 56 ⟨"ThrowFlow$Machine", "giveBack", "(I)V"⟩ ∈ al_w := in_w 590 (by decide +kernel) rfl
theorem mw_592 : Cond.instanceMethod ⟨"ThrowFlow$Machine", "giveBack", "(I)V"⟩ ∈ al_w := in_w 592 (by decide +kernel) rfl
set_option maxRecDepth 20000 in
theorem mw_593 : Cond.code ⟨"ThrowFlow$Machine", "giveBack", "(I)V"⟩ prog_5_method_15_code 2 none ∈ al_w := in_w 593 (by rfl) rfl
theorem mw_594 : Cond.methodLink "ThrowFlow$Machine" 84 ⟨"ThrowFlow$Machine", "become", "(II)V"⟩ ∈ al_w := in_w 594 (by decide +kernel) rfl
theorem mw_596 : Cond.instanceMethod ⟨"ThrowFlow$Machine", "become", "(II)V"⟩ ∈ al_w := in_w 596 (by decide +kernel) rfl
set_option maxRecDepth 20000 in
theorem mw_597 : Cond.code ⟨"ThrowFlow$Machine", "become", "(II)V"⟩ prog_5_method_12_code 3 none ∈ al_w := in_w 597 (by rfl) rfl
theorem mw_598 : Cond.methodLink "ThrowFlow$Machine" 102 ⟨"ThrowFlow$Machine", "goOn", "()V"⟩ ∈ al_w := in_w 598 (by decide +kernel) rfl
theorem mw_600 : Cond.instanceMethod ⟨"ThrowFlow$Machine", "goOn", "()V"⟩ ∈ al_w := in_w 600 (by decide +kernel) rfl
set_option maxRecDepth 20000 in
theorem mw_601 : Cond.code ⟨"ThrowFlow$Machine", "goOn", "()V"⟩ prog_5_method_11_code 1 none ∈ al_w := in_w 601 (by rfl) rfl
theorem mw_602 : Cond.methodLink "ThrowFlow$Machine" 45 ⟨"ThrowFlow$Machine", "doInstruction", "()V"⟩ ∈ al_w := in_w 602 (by decide +kernel) rfl
theorem mw_604 : Cond.instanceMethod ⟨"ThrowFlow$Machine", "doInstruction", "()V"⟩ ∈ al_w := in_w 604 (by decide +kernel) rfl
set_option maxRecDepth 20000 in
theorem mw_605 : Cond.code ⟨"ThrowFlow$Machine", "doInstruction", "()V"⟩ prog_5_method_9_code 5 none ∈ al_w := in_w 605 (by rfl) rfl
theorem mw_606 : Cond.methodLink "ThrowFlow$Machine" 87 ⟨"ThrowFlow$Machine", "divide", "(II)V"⟩ ∈ al_w := in_w 606 (by decide +kernel) rfl
theorem mw_608 : Cond.instanceMethod ⟨"ThrowFlow$Machine", "divide", "(II)V"⟩ ∈ al_w := in_w 608 (by decide +kernel) rfl
set_option maxRecDepth 20000 in
theorem mw_609 : Cond.code ⟨"ThrowFlow$Machine", "divide", "(II)V"⟩ prog_5_method_13_code 4 none ∈ al_w := in_w 609 (by rfl) rfl
theorem mw_610 : Cond.methodLink "ThrowFlow$Machine" 96 ⟨"ThrowFlow$Machine", "throwHere", "(I)V"⟩ ∈ al_w := in_w 610 (by decide +kernel) rfl
theorem mw_612 : Cond.instanceMethod ⟨"ThrowFlow$Machine", "throwHere", "(I)V"⟩ ∈ al_w := in_w 612 (by decide +kernel) rfl
set_option maxRecDepth 20000 in
theorem mw_613 : Cond.code ⟨"ThrowFlow$Machine", "throwHere", "(I)V"⟩ prog_5_method_17_code 4 none ∈ al_w := in_w 613 (by rfl) rfl
theorem mw_614 : Cond.methodLink "ThrowFlow$Machine" 116 ⟨"ThrowFlow$Body", "catcher", "(IILThrowFlow$Kinds;)I"⟩ ∈ al_w := in_w 614 (by decide +kernel) rfl
theorem mw_615 : Cond.methodLink "ThrowFlow$Machine" 90 ⟨"ThrowFlow$Machine", "goTo", "(I)V"⟩ ∈ al_w := in_w 615 (by decide +kernel) rfl
theorem mw_617 : Cond.instanceMethod ⟨"ThrowFlow$Machine", "goTo", "(I)V"⟩ ∈ al_w := in_w 617 (by decide +kernel) rfl
set_option maxRecDepth 20000 in
theorem mw_618 : Cond.code ⟨"ThrowFlow$Machine", "goTo", "(I)V"⟩ prog_5_method_10_code 2 none ∈ al_w := in_w 618 (by rfl) rfl
theorem mw_619 : Cond.methodLink "ThrowFlow$Machine" 93 ⟨"ThrowFlow$Machine", "callMethod", "(II)V"⟩ ∈ al_w := in_w 619 (by decide +kernel) rfl
theorem mw_621 : Cond.instanceMethod ⟨"ThrowFlow$Machine", "callMethod", "(II)V"⟩ ∈ al_w := in_w 621 (by decide +kernel) rfl
set_option maxRecDepth 20000 in
theorem mw_622 : Cond.code ⟨"ThrowFlow$Machine", "callMethod", "(II)V"⟩ prog_5_method_14_code 3 none ∈ al_w := in_w 622 (by rfl) rfl
theorem mw_623 : Cond.methodLink "ThrowFlow$Machine" 105 ⟨"ThrowFlow$Text", "hasMethod", "(I)Z"⟩ ∈ al_w := in_w 623 (by decide +kernel) rfl
theorem mw_624 : Cond.methodLink "ThrowFlow$Machine" 99 ⟨"ThrowFlow$Machine", "throwAgain", "(I)V"⟩ ∈ al_w := in_w 624 (by decide +kernel) rfl
theorem mw_626 : Cond.instanceMethod ⟨"ThrowFlow$Machine", "throwAgain", "(I)V"⟩ ∈ al_w := in_w 626 (by decide +kernel) rfl
set_option maxRecDepth 20000 in
theorem mw_627 : Cond.code ⟨"ThrowFlow$Machine", "throwAgain", "(I)V"⟩ prog_5_method_16_code 3 none ∈ al_w := in_w 627 (by rfl) rfl
theorem mw_628 : Cond.methodLink "ThrowFlow" 161 ⟨"ThrowFlow$Machine", "isUnderWay", "()Z"⟩ ∈ al_w := in_w 628 (by decide +kernel) rfl
theorem mw_629 : Cond.instanceMethod ⟨"ThrowFlow$Machine", "isUnderWay", "()Z"⟩ ∈ al_w := in_w 629 (by decide +kernel) rfl
theorem mw_630 : Cond.selects "ThrowFlow$Machine" ⟨"ThrowFlow$Machine", "isUnderWay", "()Z"⟩ ⟨"ThrowFlow$Machine", "isUnderWay", "()Z"⟩ ∈ al_w := in_w 630 (by decide +kernel) rfl
set_option maxRecDepth 20000 in
theorem mw_631 : Cond.code ⟨"ThrowFlow$Machine", "isUnderWay", "()Z"⟩ prog_5_method_2_code 1 (some (.boolean)) ∈ al_w := in_w 631 (by rfl) rfl
theorem mw_655 : Cond.fieldLink "ThrowFlowModel" 66 "ThrowFlowModel" "thrown" "I" ∈ al_w := in_w 655 (by decide +kernel) rfl
theorem mw_656 : Cond.fieldLink "ThrowFlowModel" 7 "ThrowFlowModel" "kinds" "I" ∈ al_w := in_w 656 (by decide +kernel) rfl
theorem mw_657 : Cond.fieldLink "ThrowFlowModel" 13 "ThrowFlowModel" "parents" "[I" ∈ al_w := in_w 657 (by decide +kernel) rfl
theorem mw_658 : Cond.fieldLink "ThrowFlowModel" 77 "ThrowFlowModel" "methods" "I" ∈ al_w := in_w 658 (by decide +kernel) rfl
theorem mw_659 : Cond.fieldLink "ThrowFlowModel" 17 "ThrowFlowModel" "sizes" "[I" ∈ al_w := in_w 659 (by decide +kernel) rfl
theorem mw_660 : Cond.fieldLink "ThrowFlowModel" 20 "ThrowFlowModel" "codes" "[I" ∈ al_w := in_w 660 (by decide +kernel) rfl
theorem mw_661 : Cond.fieldLink "ThrowFlowModel" 23 "ThrowFlowModel" "firstNumbers" "[I" ∈ al_w := in_w 661 (by decide +kernel) rfl
theorem mw_662 : Cond.fieldLink "ThrowFlowModel" 26 "ThrowFlowModel" "secondNumbers" "[I" ∈ al_w := in_w 662 (by decide +kernel) rfl
theorem mw_663 : Cond.fieldLink "ThrowFlowModel" 29 "ThrowFlowModel" "handlers" "[I" ∈ al_w := in_w 663 (by decide +kernel) rfl
theorem mw_664 : Cond.fieldLink "ThrowFlowModel" 32 "ThrowFlowModel" "firsts" "[I" ∈ al_w := in_w 664 (by decide +kernel) rfl
theorem mw_665 : Cond.fieldLink "ThrowFlowModel" 35 "ThrowFlowModel" "lasts" "[I" ∈ al_w := in_w 665 (by decide +kernel) rfl
theorem mw_666 : Cond.fieldLink "ThrowFlowModel" 38 "ThrowFlowModel" "handled" "[I" ∈ al_w := in_w 666 (by decide +kernel) rfl
theorem mw_667 : Cond.fieldLink "ThrowFlowModel" 41 "ThrowFlowModel" "targets" "[I" ∈ al_w := in_w 667 (by decide +kernel) rfl
theorem mw_668 : Cond.fieldLink "ThrowFlowModel" 44 "ThrowFlowModel" "stale" "Z" ∈ al_w := in_w 668 (by decide +kernel) rfl
theorem mw_669 : Cond.fieldLink "ThrowFlowModel" 48 "ThrowFlowModel" "lengths" "[I" ∈ al_w := in_w 669 (by decide +kernel) rfl
theorem mw_670 : Cond.fieldLink "ThrowFlowModel" 129 "ThrowFlowModel" "frames" "I" ∈ al_w := in_w 670 (by decide +kernel) rfl
theorem mw_671 : Cond.fieldLink "ThrowFlowModel" 51 "ThrowFlowModel" "running" "[I" ∈ al_w := in_w 671 (by decide +kernel) rfl
theorem mw_672 : Cond.fieldLink "ThrowFlowModel" 54 "ThrowFlowModel" "places" "[I" ∈ al_w := in_w 672 (by decide +kernel) rfl
theorem mw_673 : Cond.fieldLink "ThrowFlowModel" 57 "ThrowFlowModel" "registers" "[I" ∈ al_w := in_w 673 (by decide +kernel) rfl
theorem mw_674 : Cond.fieldLink "ThrowFlowModel" 60 "ThrowFlowModel" "caught" "[I" ∈ al_w := in_w 674 (by decide +kernel) rfl
theorem mw_675 : Cond.fieldLink "ThrowFlowModel" 156 "ThrowFlowModel" "used" "I" ∈ al_w := in_w 675 (by decide +kernel) rfl
theorem mw_676 : Cond.fieldLink "ThrowFlowModel" 63 "ThrowFlowModel" "came" "I" ∈ al_w := in_w 676 (by decide +kernel) rfl
theorem mw_677 : Cond.fieldLink "ThrowFlowModel" 132 "ThrowFlowModel" "given" "I" ∈ al_w := in_w 677 (by decide +kernel) rfl
theorem mw_678 : Cond.lays "ThrowFlowModel" "ThrowFlowModel" "thrown" "I" ∈ al_w := in_w 678 (by decide +kernel) rfl
theorem mw_680 : Cond.lays "ThrowFlowModel" "ThrowFlowModel" "kinds" "I" ∈ al_w := in_w 680 (by decide +kernel) rfl
theorem mw_682 : Cond.laysFinal "ThrowFlowModel" "ThrowFlowModel" "parents" "[I" ∈ al_w := in_w 682 (by decide +kernel) rfl
theorem mw_684 : Cond.lays "ThrowFlowModel" "ThrowFlowModel" "methods" "I" ∈ al_w := in_w 684 (by decide +kernel) rfl
theorem mw_686 : Cond.laysFinal "ThrowFlowModel" "ThrowFlowModel" "sizes" "[I" ∈ al_w := in_w 686 (by decide +kernel) rfl
theorem mw_688 : Cond.laysFinal "ThrowFlowModel" "ThrowFlowModel" "codes" "[I" ∈ al_w := in_w 688 (by decide +kernel) rfl
theorem mw_690 : Cond.laysFinal "ThrowFlowModel" "ThrowFlowModel" "firstNumbers" "[I" ∈ al_w := in_w 690 (by decide +kernel) rfl
theorem mw_692 : Cond.laysFinal "ThrowFlowModel" "ThrowFlowModel" "secondNumbers" "[I" ∈ al_w := in_w 692 (by decide +kernel) rfl
theorem mw_694 : Cond.laysFinal "ThrowFlowModel" "ThrowFlowModel" "handlers" "[I" ∈ al_w := in_w 694 (by decide +kernel) rfl
theorem mw_696 : Cond.laysFinal "ThrowFlowModel" "ThrowFlowModel" "firsts" "[I" ∈ al_w := in_w 696 (by decide +kernel) rfl
theorem mw_698 : Cond.laysFinal "ThrowFlowModel" "ThrowFlowModel" "lasts" "[I" ∈ al_w := in_w 698 (by decide +kernel) rfl
theorem mw_700 : Cond.laysFinal "ThrowFlowModel" "ThrowFlowModel" "handled" "[I" ∈ al_w := in_w 700 (by decide +kernel) rfl
theorem mw_702 : Cond.laysFinal "ThrowFlowModel" "ThrowFlowModel" "targets" "[I" ∈ al_w := in_w 702 (by decide +kernel) rfl
theorem mw_704 : Cond.lays "ThrowFlowModel" "ThrowFlowModel" "stale" "Z" ∈ al_w := in_w 704 (by decide +kernel) rfl
theorem mw_706 : Cond.laysFinal "ThrowFlowModel" "ThrowFlowModel" "lengths" "[I" ∈ al_w := in_w 706 (by decide +kernel) rfl
theorem mw_708 : Cond.lays "ThrowFlowModel" "ThrowFlowModel" "frames" "I" ∈ al_w := in_w 708 (by decide +kernel) rfl
theorem mw_710 : Cond.laysFinal "ThrowFlowModel" "ThrowFlowModel" "running" "[I" ∈ al_w := in_w 710 (by decide +kernel) rfl
theorem mw_712 : Cond.laysFinal "ThrowFlowModel" "ThrowFlowModel" "places" "[I" ∈ al_w := in_w 712 (by decide +kernel) rfl
theorem mw_714 : Cond.laysFinal "ThrowFlowModel" "ThrowFlowModel" "registers" "[I" ∈ al_w := in_w 714 (by decide +kernel) rfl
theorem mw_716 : Cond.laysFinal "ThrowFlowModel" "ThrowFlowModel" "caught" "[I" ∈ al_w := in_w 716 (by decide +kernel) rfl
theorem mw_718 : Cond.lays "ThrowFlowModel" "ThrowFlowModel" "used" "I" ∈ al_w := in_w 718 (by decide +kernel) rfl
theorem mw_720 : Cond.lays "ThrowFlowModel" "ThrowFlowModel" "came" "I" ∈ al_w := in_w 720 (by decide +kernel) rfl
theorem mw_722 : Cond.lays "ThrowFlowModel" "ThrowFlowModel" "given" "I" ∈ al_w := in_w 722 (by decide +kernel) rfl
theorem mw_725 : Cond.methodLink "ThrowFlowLaw" 46 ⟨"ThrowFlowModel", "thrown", "()I"⟩ ∈ al_w := in_w 725 (by decide +kernel) rfl
theorem mw_726 : Cond.instanceMethod ⟨"ThrowFlowModel", "thrown", "()I"⟩ ∈ al_w := in_w 726 (by decide +kernel) rfl
theorem mw_727 : Cond.selects "ThrowFlowModel" ⟨"ThrowFlowModel", "thrown", "()I"⟩ ⟨"ThrowFlowModel", "thrown", "()I"⟩ ∈ al_w := in_w 727 (by decide +kernel) rfl
set_option maxRecDepth 20000 in
theorem mw_728 : Cond.code ⟨"ThrowFlowModel", "thrown", "()I"⟩ prog_8_method_2_code 1 (some (.int)) ∈ al_w := in_w 728 (by rfl) rfl
theorem mw_729 : Cond.methodLink "ThrowFlowLaw" 45 ⟨"ThrowFlowModel", "kind", "(I)I"⟩ ∈ al_w := in_w 729 (by decide +kernel) rfl
theorem mw_730 : Cond.instanceMethod ⟨"ThrowFlowModel", "kind", "(I)I"⟩ ∈ al_w := in_w 730 (by decide +kernel) rfl
theorem mw_731 : Cond.selects "ThrowFlowModel" ⟨"ThrowFlowModel", "kind", "(I)I"⟩ ⟨"ThrowFlowModel", "kind", "(I)I"⟩ ∈ al_w := in_w 731 (by decide +kernel) rfl
set_option maxRecDepth 20000 in
theorem mw_732 : Cond.code ⟨"ThrowFlowModel", "kind", "(I)I"⟩ prog_8_method_5_code 2 (some (.int)) ∈ al_w := in_w 732 (by rfl) rfl
theorem mw_733 : Cond.methodLink "ThrowFlowModel" 69 ⟨"ThrowFlowModel", "isKind", "(I)Z"⟩ ∈ al_w := in_w 733 (by decide +kernel) rfl
theorem mw_735 : Cond.instanceMethod ⟨"ThrowFlowModel", "isKind", "(I)Z"⟩ ∈ al_w := in_w 735 (by decide +kernel) rfl
set_option maxRecDepth 20000 in
theorem mw_736 : Cond.code ⟨"ThrowFlowModel", "isKind", "(I)Z"⟩ prog_8_method_3_code 2 (some (.boolean)) ∈ al_w := in_w 736 (by rfl) rfl
theorem mw_737 : Cond.methodLink "ThrowFlowLaw" 54 ⟨"ThrowFlowModel", "is", "(II)Z"⟩ ∈ al_w := in_w 737 (by decide +kernel) rfl
theorem mw_738 : Cond.instanceMethod ⟨"ThrowFlowModel", "is", "(II)Z"⟩ ∈ al_w := in_w 738 (by decide +kernel) rfl
theorem mw_739 : Cond.selects "ThrowFlowModel" ⟨"ThrowFlowModel", "is", "(II)Z"⟩ ⟨"ThrowFlowModel", "is", "(II)Z"⟩ ∈ al_w := in_w 739 (by decide +kernel) rfl
set_option maxRecDepth 20000 in
theorem mw_740 : Cond.code ⟨"ThrowFlowModel", "is", "(II)Z"⟩ prog_8_method_6_code 3 (some (.boolean)) ∈ al_w := in_w 740 (by rfl) rfl
theorem mw_741 : Cond.methodLink "ThrowFlowModel" 73 ⟨"ThrowFlowModel", "isOne", "(II)Z"⟩ ∈ al_w := in_w 741 (by decide +kernel) rfl
theorem mw_743 : Cond.instanceMethod ⟨"ThrowFlowModel", "isOne", "(II)Z"⟩ ∈ al_w := in_w 743 (by decide +kernel) rfl
set_option maxRecDepth 20000 in
theorem mw_744 : Cond.code ⟨"ThrowFlowModel", "isOne", "(II)Z"⟩ prog_8_method_4_code 4 (some (.boolean)) ∈ al_w := in_w 744 (by rfl) rfl
theorem mw_745 : Cond.methodLink "ThrowFlowLaw" 58 ⟨"ThrowFlowModel", "method", "()I"⟩ ∈ al_w := in_w 745 (by decide +kernel) rfl
theorem mw_746 : Cond.instanceMethod ⟨"ThrowFlowModel", "method", "()I"⟩ ∈ al_w := in_w 746 (by decide +kernel) rfl
theorem mw_747 : Cond.selects "ThrowFlowModel" ⟨"ThrowFlowModel", "method", "()I"⟩ ⟨"ThrowFlowModel", "method", "()I"⟩ ∈ al_w := in_w 747 (by decide +kernel) rfl
set_option maxRecDepth 20000 in
theorem mw_748 : Cond.code ⟨"ThrowFlowModel", "method", "()I"⟩ prog_8_method_9_code 1 (some (.int)) ∈ al_w := in_w 748 (by rfl) rfl
theorem mw_749 : Cond.methodLink "ThrowFlowLaw" 62 ⟨"ThrowFlowModel", "add", "(IIII)I"⟩ ∈ al_w := in_w 749 (by decide +kernel) rfl
theorem mw_750 : Cond.instanceMethod ⟨"ThrowFlowModel", "add", "(IIII)I"⟩ ∈ al_w := in_w 750 (by decide +kernel) rfl
theorem mw_751 : Cond.selects "ThrowFlowModel" ⟨"ThrowFlowModel", "add", "(IIII)I"⟩ ⟨"ThrowFlowModel", "add", "(IIII)I"⟩ ∈ al_w := in_w 751 (by decide +kernel) rfl
set_option maxRecDepth 20000 in
theorem mw_752 : Cond.code ⟨"ThrowFlowModel", "add", "(IIII)I"⟩ prog_8_method_13_code 6 (some (.int)) ∈ al_w := in_w 752 (by rfl) rfl
theorem mw_753 : Cond.methodLink "ThrowFlowModel" 80 ⟨"ThrowFlowModel", "isMethod", "(I)Z"⟩ ∈ al_w := in_w 753 (by decide +kernel) rfl
theorem mw_755 : Cond.instanceMethod ⟨"ThrowFlowModel", "isMethod", "(I)Z"⟩ ∈ al_w := in_w 755 (by decide +kernel) rfl
set_option maxRecDepth 20000 in
theorem mw_756 : Cond.code ⟨"ThrowFlowModel", "isMethod", "(I)Z"⟩ prog_8_method_7_code 2 (some (.boolean)) ∈ al_w := in_w 756 (by rfl) rfl
theorem mw_757 : Cond.methodLink "ThrowFlowModel" 86 ⟨"ThrowFlowModel", "fits", "(III)Z"⟩ ∈ al_w := in_w 757 (by decide +kernel) rfl
theorem mw_759 : Cond.instanceMethod ⟨"ThrowFlowModel", "fits", "(III)Z"⟩ ∈ al_w := in_w 759 (by decide +kernel) rfl
set_option maxRecDepth 20000 in
theorem mw_760 : Cond.code ⟨"ThrowFlowModel", "fits", "(III)Z"⟩ prog_8_method_11_code 4 (some (.boolean)) ∈ al_w := in_w 760 (by rfl) rfl
theorem mw_761 : Cond.methodLink "ThrowFlowModel" 83 ⟨"ThrowFlowModel", "isIn", "(II)Z"⟩ ∈ al_w := in_w 761 (by decide +kernel) rfl
theorem mw_762 : Cond.static ⟨"ThrowFlowModel", "isIn", "(II)Z"⟩ ∈ al_w := in_w 762 (by decide +kernel) rfl
set_option maxRecDepth 20000 in
theorem mw_763 : Cond.code ⟨"ThrowFlowModel", "isIn", "(II)Z"⟩ prog_8_method_10_code 2 (some (.boolean)) ∈ al_w := in_w 763 (by rfl) rfl
theorem mw_764 : Cond.methodLink "ThrowFlowModel" 90 ⟨"ThrowFlowModel", "write", "(IIIII)V"⟩ ∈ al_w := in_w 764 (by decide +kernel) rfl
theorem mw_766 : Cond.instanceMethod ⟨"ThrowFlowModel", "write", "(IIIII)V"⟩ ∈ al_w := in_w 766 (by decide +kernel) rfl
set_option maxRecDepth 20000 in
theorem mw_767 : Cond.code ⟨"ThrowFlowModel", "write", "(IIIII)V"⟩ prog_8_method_12_code 6 none ∈ al_w := in_w 767 (by rfl) rfl
theorem mw_768 : Cond.methodLink "ThrowFlowLaw" 66 ⟨"ThrowFlowModel", "handler", "(IIIII)I"⟩ ∈ al_w := in_w 768 (by decide +kernel) rfl
theorem mw_769 : Cond.instanceMethod ⟨"ThrowFlowModel", "handler", "(IIIII)I"⟩ ∈ al_w := in_w 769 (by decide +kernel) rfl
theorem mw_770 : Cond.selects "ThrowFlowModel" ⟨"ThrowFlowModel", "handler", "(IIIII)I"⟩ ⟨"ThrowFlowModel", "handler", "(IIIII)I"⟩ ∈ al_w := in_w 770 (by decide +kernel) rfl
set_option maxRecDepth 20000 in
theorem mw_771 : Cond.code ⟨"ThrowFlowModel", "handler", "(IIIII)I"⟩ prog_8_method_14_code 9 (some (.int)) ∈ al_w := in_w 771 (by rfl) rfl
theorem mw_772 : Cond.methodLink "ThrowFlowLaw" 69 ⟨"ThrowFlowModel", "change", "(IIIII)I"⟩ ∈ al_w := in_w 772 (by decide +kernel) rfl
theorem mw_773 : Cond.instanceMethod ⟨"ThrowFlowModel", "change", "(IIIII)I"⟩ ∈ al_w := in_w 773 (by decide +kernel) rfl
theorem mw_774 : Cond.selects "ThrowFlowModel" ⟨"ThrowFlowModel", "change", "(IIIII)I"⟩ ⟨"ThrowFlowModel", "change", "(IIIII)I"⟩ ∈ al_w := in_w 774 (by decide +kernel) rfl
set_option maxRecDepth 20000 in
theorem mw_775 : Cond.code ⟨"ThrowFlowModel", "change", "(IIIII)I"⟩ prog_8_method_15_code 7 (some (.int)) ∈ al_w := in_w 775 (by rfl) rfl
theorem mw_776 : Cond.methodLink "ThrowFlowModel" 94 ⟨"ThrowFlowModel", "isPlace", "(II)Z"⟩ ∈ al_w := in_w 776 (by decide +kernel) rfl
theorem mw_778 : Cond.instanceMethod ⟨"ThrowFlowModel", "isPlace", "(II)Z"⟩ ∈ al_w := in_w 778 (by decide +kernel) rfl
set_option maxRecDepth 20000 in
theorem mw_779 : Cond.code ⟨"ThrowFlowModel", "isPlace", "(II)Z"⟩ prog_8_method_8_code 3 (some (.boolean)) ∈ al_w := in_w 779 (by rfl) rfl
theorem mw_780 : Cond.methodLink "ThrowFlowLaw" 73 ⟨"ThrowFlowModel", "out", "(I)I"⟩ ∈ al_w := in_w 780 (by decide +kernel) rfl
theorem mw_781 : Cond.instanceMethod ⟨"ThrowFlowModel", "out", "(I)I"⟩ ∈ al_w := in_w 781 (by decide +kernel) rfl
theorem mw_782 : Cond.selects "ThrowFlowModel" ⟨"ThrowFlowModel", "out", "(I)I"⟩ ⟨"ThrowFlowModel", "out", "(I)I"⟩ ∈ al_w := in_w 782 (by decide +kernel) rfl
set_option maxRecDepth 20000 in
theorem mw_783 : Cond.code ⟨"ThrowFlowModel", "out", "(I)I"⟩ prog_8_method_23_code 2 (some (.int)) ∈ al_w := in_w 783 (by rfl) rfl
theorem mw_784 : Cond.methodLink "ThrowFlowModel" 112 ⟨"ThrowFlowModel", "settle", "()V"⟩ ∈ al_w := in_w 784 (by decide +kernel) rfl
theorem mw_786 : Cond.instanceMethod ⟨"ThrowFlowModel", "settle", "()V"⟩ ∈ al_w := in_w 786 (by decide +kernel) rfl
set_option maxRecDepth 20000 in
theorem mw_787 : Cond.code ⟨"ThrowFlowModel", "settle", "()V"⟩ prog_8_method_20_code 2 none ∈ al_w := in_w 787 (by rfl) rfl
theorem mw_788 : Cond.constant "ThrowFlowModel" 97 1000000 ∈ al_w := in_w 788 (by decide +kernel) rfl
theorem mw_789 : Cond.methodLink "ThrowFlowModel" 108 ⟨"ThrowFlowModel", "lower", "()Z"⟩ ∈ al_w := in_w 789 (by decide +kernel) rfl
theorem mw_791 : Cond.instanceMethod ⟨"ThrowFlowModel", "lower", "()Z"⟩ ∈ al_w := in_w 791 (by decide +kernel) rfl
set_option maxRecDepth 20000 in
theorem mw_792 : Cond.code ⟨"ThrowFlowModel", "lower", "()Z"⟩ prog_8_method_19_code 7 (some (.boolean)) ∈ al_w := in_w 792 (by rfl) rfl
theorem mw_793 : Cond.methodLink "ThrowFlowModel" 105 ⟨"ThrowFlowModel", "reckon", "(III)I"⟩ ∈ al_w := in_w 793 (by decide +kernel) rfl
theorem mw_795 : Cond.instanceMethod ⟨"ThrowFlowModel", "reckon", "(III)I"⟩ ∈ al_w := in_w 795 (by decide +kernel) rfl
set_option maxRecDepth 20000 in
theorem mw_796 : Cond.code ⟨"ThrowFlowModel", "reckon", "(III)I"⟩ prog_8_method_18_code 6 (some (.int)) ∈ al_w := in_w 796 (by rfl) rfl
theorem mw_797 : Cond.methodLink "ThrowFlowModel" 102 ⟨"ThrowFlowModel", "nearest", "(III)I"⟩ ∈ al_w := in_w 797 (by decide +kernel) rfl
theorem mw_799 : Cond.instanceMethod ⟨"ThrowFlowModel", "nearest", "(III)I"⟩ ∈ al_w := in_w 799 (by decide +kernel) rfl
set_option maxRecDepth 20000 in
theorem mw_800 : Cond.code ⟨"ThrowFlowModel", "nearest", "(III)I"⟩ prog_8_method_17_code 7 (some (.int)) ∈ al_w := in_w 800 (by rfl) rfl
theorem mw_801 : Cond.methodLink "ThrowFlowModel" 98 ⟨"ThrowFlowModel", "catcher", "(III)I"⟩ ∈ al_w := in_w 801 (by decide +kernel) rfl
theorem mw_803 : Cond.instanceMethod ⟨"ThrowFlowModel", "catcher", "(III)I"⟩ ∈ al_w := in_w 803 (by decide +kernel) rfl
set_option maxRecDepth 20000 in
theorem mw_804 : Cond.code ⟨"ThrowFlowModel", "catcher", "(III)I"⟩ prog_8_method_16_code 6 (some (.int)) ∈ al_w := in_w 804 (by rfl) rfl
theorem mw_805 : Cond.methodLink "ThrowFlowModel" 115 ⟨"ThrowFlowModel", "where", "(II)I"⟩ ∈ al_w := in_w 805 (by decide +kernel) rfl
theorem mw_807 : Cond.instanceMethod ⟨"ThrowFlowModel", "where", "(II)I"⟩ ∈ al_w := in_w 807 (by decide +kernel) rfl
set_option maxRecDepth 20000 in
theorem mw_808 : Cond.code ⟨"ThrowFlowModel", "where", "(II)I"⟩ prog_8_method_22_code 5 (some (.int)) ∈ al_w := in_w 808 (by rfl) rfl
theorem mw_809 : Cond.methodLink "ThrowFlowLaw" 78 ⟨"ThrowFlowModel", "raises", "(II)I"⟩ ∈ al_w := in_w 809 (by decide +kernel) rfl
theorem mw_810 : Cond.instanceMethod ⟨"ThrowFlowModel", "raises", "(II)I"⟩ ∈ al_w := in_w 810 (by decide +kernel) rfl
theorem mw_811 : Cond.selects "ThrowFlowModel" ⟨"ThrowFlowModel", "raises", "(II)I"⟩ ⟨"ThrowFlowModel", "raises", "(II)I"⟩ ∈ al_w := in_w 811 (by decide +kernel) rfl
set_option maxRecDepth 20000 in
theorem mw_812 : Cond.code ⟨"ThrowFlowModel", "raises", "(II)I"⟩ prog_8_method_24_code 3 (some (.int)) ∈ al_w := in_w 812 (by rfl) rfl
theorem mw_813 : Cond.methodLink "ThrowFlowModel" 119 ⟨"ThrowFlowModel", "raisedAt", "(II)I"⟩ ∈ al_w := in_w 813 (by decide +kernel) rfl
theorem mw_815 : Cond.instanceMethod ⟨"ThrowFlowModel", "raisedAt", "(II)I"⟩ ∈ al_w := in_w 815 (by decide +kernel) rfl
set_option maxRecDepth 20000 in
theorem mw_816 : Cond.code ⟨"ThrowFlowModel", "raisedAt", "(II)I"⟩ prog_8_method_21_code 5 (some (.int)) ∈ al_w := in_w 816 (by rfl) rfl
theorem mw_817 : Cond.methodLink "ThrowFlowLaw" 82 ⟨"ThrowFlowModel", "catches", "(II)I"⟩ ∈ al_w := in_w 817 (by decide +kernel) rfl
theorem mw_818 : Cond.instanceMethod ⟨"ThrowFlowModel", "catches", "(II)I"⟩ ∈ al_w := in_w 818 (by decide +kernel) rfl
theorem mw_819 : Cond.selects "ThrowFlowModel" ⟨"ThrowFlowModel", "catches", "(II)I"⟩ ⟨"ThrowFlowModel", "catches", "(II)I"⟩ ∈ al_w := in_w 819 (by decide +kernel) rfl
set_option maxRecDepth 20000 in
theorem mw_820 : Cond.code ⟨"ThrowFlowModel", "catches", "(II)I"⟩ prog_8_method_25_code 3 (some (.int)) ∈ al_w := in_w 820 (by rfl) rfl
theorem mw_821 : Cond.methodLink "ThrowFlowLaw" 86 ⟨"ThrowFlowModel", "way", "(II)I"⟩ ∈ al_w := in_w 821 (by decide +kernel) rfl
theorem mw_822 : Cond.instanceMethod ⟨"ThrowFlowModel", "way", "(II)I"⟩ ∈ al_w := in_w 822 (by decide +kernel) rfl
theorem mw_823 : Cond.selects "ThrowFlowModel" ⟨"ThrowFlowModel", "way", "(II)I"⟩ ⟨"ThrowFlowModel", "way", "(II)I"⟩ ∈ al_w := in_w 823 (by decide +kernel) rfl
set_option maxRecDepth 20000 in
theorem mw_824 : Cond.code ⟨"ThrowFlowModel", "way", "(II)I"⟩ prog_8_method_27_code 3 (some (.int)) ∈ al_w := in_w 824 (by rfl) rfl
theorem mw_825 : Cond.methodLink "ThrowFlowModel" 122 ⟨"ThrowFlowModel", "wayOf", "(II)I"⟩ ∈ al_w := in_w 825 (by decide +kernel) rfl
theorem mw_827 : Cond.instanceMethod ⟨"ThrowFlowModel", "wayOf", "(II)I"⟩ ∈ al_w := in_w 827 (by decide +kernel) rfl
set_option maxRecDepth 20000 in
theorem mw_828 : Cond.code ⟨"ThrowFlowModel", "wayOf", "(II)I"⟩ prog_8_method_26_code 4 (some (.int)) ∈ al_w := in_w 828 (by rfl) rfl
theorem mw_829 : Cond.methodLink "ThrowFlowLaw" 90 ⟨"ThrowFlowModel", "step", "(III)I"⟩ ∈ al_w := in_w 829 (by decide +kernel) rfl
theorem mw_830 : Cond.instanceMethod ⟨"ThrowFlowModel", "step", "(III)I"⟩ ∈ al_w := in_w 830 (by decide +kernel) rfl
theorem mw_831 : Cond.selects "ThrowFlowModel" ⟨"ThrowFlowModel", "step", "(III)I"⟩ ⟨"ThrowFlowModel", "step", "(III)I"⟩ ∈ al_w := in_w 831 (by decide +kernel) rfl
set_option maxRecDepth 20000 in
theorem mw_832 : Cond.code ⟨"ThrowFlowModel", "step", "(III)I"⟩ prog_8_method_29_code 10 (some (.int)) ∈ al_w := in_w 832 (by rfl) rfl
theorem mw_833 : Cond.methodLink "ThrowFlowModel" 125 ⟨"ThrowFlowModel", "firstWith", "(IIII)I"⟩ ∈ al_w := in_w 833 (by decide +kernel) rfl
theorem mw_835 : Cond.instanceMethod ⟨"ThrowFlowModel", "firstWith", "(IIII)I"⟩ ∈ al_w := in_w 835 (by decide +kernel) rfl
set_option maxRecDepth 20000 in
theorem mw_836 : Cond.code ⟨"ThrowFlowModel", "firstWith", "(IIII)I"⟩ prog_8_method_28_code 7 (some (.int)) ∈ al_w := in_w 836 (by rfl) rfl
theorem mw_837 : Cond.methodLink "ThrowFlowLaw" 94 ⟨"ThrowFlowModel", "run", "(III)I"⟩ ∈ al_w := in_w 837 (by decide +kernel) rfl
theorem mw_838 : Cond.instanceMethod ⟨"ThrowFlowModel", "run", "(III)I"⟩ ∈ al_w := in_w 838 (by decide +kernel) rfl
theorem mw_839 : Cond.selects "ThrowFlowModel" ⟨"ThrowFlowModel", "run", "(III)I"⟩ ⟨"ThrowFlowModel", "run", "(III)I"⟩ ∈ al_w := in_w 839 (by decide +kernel) rfl
set_option maxRecDepth 20000 in
theorem mw_840 : Cond.code ⟨"ThrowFlowModel", "run", "(III)I"⟩ prog_8_method_37_code 6 (some (.int)) ∈ al_w := in_w 840 (by rfl) rfl
theorem mw_841 : Cond.methodLink "ThrowFlowModel" 139 ⟨"ThrowFlowModel", "enter", "(II)V"⟩ ∈ al_w := in_w 841 (by decide +kernel) rfl
theorem mw_843 : Cond.instanceMethod ⟨"ThrowFlowModel", "enter", "(II)V"⟩ ∈ al_w := in_w 843 (by decide +kernel) rfl
set_option maxRecDepth 20000 in
theorem mw_844 : Cond.code ⟨"ThrowFlowModel", "enter", "(II)V"⟩ prog_8_method_30_code 4 none ∈ al_w := in_w 844 (by rfl) rfl
theorem mw_845 : Cond.methodLink "ThrowFlowModel" 153 ⟨"ThrowFlowModel", "leave", "(I)V"⟩ ∈ al_w := in_w 845 (by decide +kernel) rfl
theorem mw_847 : Cond.instanceMethod ⟨"ThrowFlowModel", "leave", "(I)V"⟩ ∈ al_w := in_w 847 (by decide +kernel) rfl
set_option maxRecDepth 20000 in
theorem mw_848 : Cond.code ⟨"ThrowFlowModel", "leave", "(I)V"⟩ prog_8_method_31_code 4 none ∈ al_w := in_w 848 (by rfl) rfl
theorem mw_849 : Cond.methodLink "ThrowFlowModel" 159 ⟨"ThrowFlowModel", "act", "()V"⟩ ∈ al_w := in_w 849 (by decide +kernel) rfl
theorem mw_851 : Cond.instanceMethod ⟨"ThrowFlowModel", "act", "()V"⟩ ∈ al_w := in_w 851 (by decide +kernel) rfl
set_option maxRecDepth 20000 in
theorem mw_852 : Cond.code ⟨"ThrowFlowModel", "act", "()V"⟩ prog_8_method_36_code 5 none ∈ al_w := in_w 852 (by rfl) rfl
theorem mw_853 : Cond.methodLink "ThrowFlowModel" 143 ⟨"ThrowFlowModel", "divide", "(III)V"⟩ ∈ al_w := in_w 853 (by decide +kernel) rfl
theorem mw_855 : Cond.instanceMethod ⟨"ThrowFlowModel", "divide", "(III)V"⟩ ∈ al_w := in_w 855 (by decide +kernel) rfl
set_option maxRecDepth 20000 in
theorem mw_856 : Cond.code ⟨"ThrowFlowModel", "divide", "(III)V"⟩ prog_8_method_34_code 5 none ∈ al_w := in_w 856 (by rfl) rfl
theorem mw_857 : Cond.methodLink "ThrowFlowModel" 135 ⟨"ThrowFlowModel", "raise", "(I)V"⟩ ∈ al_w := in_w 857 (by decide +kernel) rfl
theorem mw_859 : Cond.instanceMethod ⟨"ThrowFlowModel", "raise", "(I)V"⟩ ∈ al_w := in_w 859 (by decide +kernel) rfl
set_option maxRecDepth 20000 in
theorem mw_860 : Cond.code ⟨"ThrowFlowModel", "raise", "(I)V"⟩ prog_8_method_32_code 6 none ∈ al_w := in_w 860 (by rfl) rfl
theorem mw_861 : Cond.methodLink "ThrowFlowModel" 147 ⟨"ThrowFlowModel", "call", "(III)V"⟩ ∈ al_w := in_w 861 (by decide +kernel) rfl
theorem mw_863 : Cond.instanceMethod ⟨"ThrowFlowModel", "call", "(III)V"⟩ ∈ al_w := in_w 863 (by decide +kernel) rfl
set_option maxRecDepth 20000 in
theorem mw_864 : Cond.code ⟨"ThrowFlowModel", "call", "(III)V"⟩ prog_8_method_33_code 4 none ∈ al_w := in_w 864 (by rfl) rfl
theorem mw_865 : Cond.methodLink "ThrowFlowModel" 150 ⟨"ThrowFlowModel", "again", "(II)V"⟩ ∈ al_w := in_w 865 (by decide +kernel) rfl
theorem mw_867 : Cond.instanceMethod ⟨"ThrowFlowModel", "again", "(II)V"⟩ ∈ al_w := in_w 867 (by decide +kernel) rfl
set_option maxRecDepth 20000 in
theorem mw_868 : Cond.code ⟨"ThrowFlowModel", "again", "(II)V"⟩ prog_8_method_35_code 3 none ∈ al_w := in_w 868 (by rfl) rfl
theorem mw_869 : Cond.methodLink "ThrowFlowLaw" 98 ⟨"ThrowFlowModel", "spent", "()I"⟩ ∈ al_w := in_w 869 (by decide +kernel) rfl
theorem mw_870 : Cond.instanceMethod ⟨"ThrowFlowModel", "spent", "()I"⟩ ∈ al_w := in_w 870 (by decide +kernel) rfl
theorem mw_871 : Cond.selects "ThrowFlowModel" ⟨"ThrowFlowModel", "spent", "()I"⟩ ⟨"ThrowFlowModel", "spent", "()I"⟩ ∈ al_w := in_w 871 (by decide +kernel) rfl
set_option maxRecDepth 20000 in
theorem mw_872 : Cond.code ⟨"ThrowFlowModel", "spent", "()I"⟩ prog_8_method_38_code 1 (some (.int)) ∈ al_w := in_w 872 (by rfl) rfl
theorem mw_873 : Cond.methodLink "ThrowFlowLaw" 102 ⟨"ThrowFlowModel", "escaped", "()I"⟩ ∈ al_w := in_w 873 (by decide +kernel) rfl
theorem mw_874 : Cond.instanceMethod ⟨"ThrowFlowModel", "escaped", "()I"⟩ ∈ al_w := in_w 874 (by decide +kernel) rfl
theorem mw_875 : Cond.selects "ThrowFlowModel" ⟨"ThrowFlowModel", "escaped", "()I"⟩ ⟨"ThrowFlowModel", "escaped", "()I"⟩ ∈ al_w := in_w 875 (by decide +kernel) rfl
set_option maxRecDepth 20000 in
theorem mw_876 : Cond.code ⟨"ThrowFlowModel", "escaped", "()I"⟩ prog_8_method_39_code 1 (some (.int)) ∈ al_w := in_w 876 (by rfl) rfl
theorem cl_0 : ∀ w ∈ u_ws "ThrowFlow" TC0 3, w ∈ al_w := by
  intro w hw
  obtain ⟨k, hk, rfl⟩ := List.mem_map.mp hw
  have hk := List.mem_range.mp hk
  match k, hk with
  | 0, _ => exact mw_222
  | 1, _ => exact mw_224
  | 2, _ => exact mw_226
  | n + 3, h => exact absurd h (by omega)
theorem cn_0 : ∀ x, x < 3 → ∀ y, y < 3 → x ≠ y → (TC0 x).2.1 ≠ (TC0 y).2.1 := by decide +kernel
theorem ct_0 : ∀ k, k < 3 → parseFieldDescriptor (TC0 k).2.2.1 = some (tyC0 k) := by decide +kernel
theorem cl_1 : ∀ w ∈ u_ws "ThrowFlow$Text" TC1 3, w ∈ al_w := by
  intro w hw
  obtain ⟨k, hk, rfl⟩ := List.mem_map.mp hw
  have hk := List.mem_range.mp hk
  match k, hk with
  | 0, _ => exact mw_146
  | 1, _ => exact mw_148
  | 2, _ => exact mw_150
  | n + 3, h => exact absurd h (by omega)
theorem cn_1 : ∀ x, x < 3 → ∀ y, y < 3 → x ≠ y → (TC1 x).2.1 ≠ (TC1 y).2.1 := by decide +kernel
theorem ct_1 : ∀ k, k < 3 → parseFieldDescriptor (TC1 k).2.2.1 = some (tyC1 k) := by decide +kernel
theorem cl_2 : ∀ w ∈ u_ws "ThrowFlow$Kinds" TC2 2, w ∈ al_w := by
  intro w hw
  obtain ⟨k, hk, rfl⟩ := List.mem_map.mp hw
  have hk := List.mem_range.mp hk
  match k, hk with
  | 0, _ => exact mw_84
  | 1, _ => exact mw_86
  | n + 2, h => exact absurd h (by omega)
theorem cn_2 : ∀ x, x < 2 → ∀ y, y < 2 → x ≠ y → (TC2 x).2.1 ≠ (TC2 y).2.1 := by decide +kernel
theorem ct_2 : ∀ k, k < 2 → parseFieldDescriptor (TC2 k).2.2.1 = some (tyC2 k) := by decide +kernel
theorem cl_3 : ∀ w ∈ u_ws "ThrowFlow$Flow" TC3 7, w ∈ al_w := by
  intro w hw
  obtain ⟨k, hk, rfl⟩ := List.mem_map.mp hw
  have hk := List.mem_range.mp hk
  match k, hk with
  | 0, _ => exact mw_167
  | 1, _ => exact mw_169
  | 2, _ => exact mw_171
  | 3, _ => exact mw_173
  | 4, _ => exact mw_175
  | 5, _ => exact mw_177
  | 6, _ => exact mw_179
  | n + 7, h => exact absurd h (by omega)
theorem cn_3 : ∀ x, x < 7 → ∀ y, y < 7 → x ≠ y → (TC3 x).2.1 ≠ (TC3 y).2.1 := by decide +kernel
theorem ct_3 : ∀ k, k < 7 → parseFieldDescriptor (TC3 k).2.2.1 = some (tyC3 k) := by decide +kernel
theorem cl_4 : ∀ w ∈ u_ws "ThrowFlow$Machine" TC4 9, w ∈ al_w := by
  intro w hw
  obtain ⟨k, hk, rfl⟩ := List.mem_map.mp hw
  have hk := List.mem_range.mp hk
  match k, hk with
  | 0, _ => exact mw_200
  | 1, _ => exact mw_202
  | 2, _ => exact mw_204
  | 3, _ => exact mw_206
  | 4, _ => exact mw_208
  | 5, _ => exact mw_210
  | 6, _ => exact mw_212
  | 7, _ => exact mw_214
  | 8, _ => exact mw_216
  | n + 9, h => exact absurd h (by omega)
theorem cn_4 : ∀ x, x < 9 → ∀ y, y < 9 → x ≠ y → (TC4 x).2.1 ≠ (TC4 y).2.1 := by decide +kernel
theorem ct_4 : ∀ k, k < 9 → parseFieldDescriptor (TC4 k).2.2.1 = some (tyC4 k) := by decide +kernel
theorem cl_5 : ∀ w ∈ u_ws "ThrowFlow$Body" TC5 9, w ∈ al_w := by
  intro w hw
  obtain ⟨k, hk, rfl⟩ := List.mem_map.mp hw
  have hk := List.mem_range.mp hk
  match k, hk with
  | 0, _ => exact mw_118
  | 1, _ => exact mw_120
  | 2, _ => exact mw_122
  | 3, _ => exact mw_124
  | 4, _ => exact mw_126
  | 5, _ => exact mw_128
  | 6, _ => exact mw_130
  | 7, _ => exact mw_132
  | 8, _ => exact mw_134
  | n + 9, h => exact absurd h (by omega)
theorem cn_5 : ∀ x, x < 9 → ∀ y, y < 9 → x ≠ y → (TC5 x).2.1 ≠ (TC5 y).2.1 := by decide +kernel
theorem ct_5 : ∀ k, k < 9 → parseFieldDescriptor (TC5 k).2.2.1 = some (tyC5 k) := by decide +kernel
theorem cl_6 : ∀ w ∈ u_ws "ThrowFlowModel" TC6 23, w ∈ al_w := by
  intro w hw
  obtain ⟨k, hk, rfl⟩ := List.mem_map.mp hw
  have hk := List.mem_range.mp hk
  match k, hk with
  | 0, _ => exact mw_678
  | 1, _ => exact mw_680
  | 2, _ => exact mw_682
  | 3, _ => exact mw_684
  | 4, _ => exact mw_686
  | 5, _ => exact mw_688
  | 6, _ => exact mw_690
  | 7, _ => exact mw_692
  | 8, _ => exact mw_694
  | 9, _ => exact mw_696
  | 10, _ => exact mw_698
  | 11, _ => exact mw_700
  | 12, _ => exact mw_702
  | 13, _ => exact mw_704
  | 14, _ => exact mw_706
  | 15, _ => exact mw_708
  | 16, _ => exact mw_710
  | 17, _ => exact mw_712
  | 18, _ => exact mw_714
  | 19, _ => exact mw_716
  | 20, _ => exact mw_718
  | 21, _ => exact mw_720
  | 22, _ => exact mw_722
  | n + 23, h => exact absurd h (by omega)
theorem cn_6 : ∀ x, x < 23 → ∀ y, y < 23 → x ≠ y → (TC6 x).2.1 ≠ (TC6 y).2.1 := by decide +kernel
theorem ct_6 : ∀ k, k < 23 → parseFieldDescriptor (TC6 k).2.2.1 = some (tyC6 k) := by decide +kernel
theorem cls_ok : ∀ (a : Nat) (C : String) (T : u_T) (N : Nat), vwCl[a]? = some (C, T, N) → (∀ w ∈ u_ws C T N, w ∈ al_w) ∧ (∀ k, k < N → parseFieldDescriptor (T k).2.2.1 = some (tyC a k)) ∧ ∀ x, x < N → ∀ y, y < N → x ≠ y → (T x).2.1 ≠ (T y).2.1 := by
  intro a C T N h
  match a, h with
  | 0, h => cases h; exact ⟨cl_0, ct_0, cn_0⟩
  | 1, h => cases h; exact ⟨cl_1, ct_1, cn_1⟩
  | 2, h => cases h; exact ⟨cl_2, ct_2, cn_2⟩
  | 3, h => cases h; exact ⟨cl_3, ct_3, cn_3⟩
  | 4, h => cases h; exact ⟨cl_4, ct_4, cn_4⟩
  | 5, h => cases h; exact ⟨cl_5, ct_5, cn_5⟩
  | 6, h => cases h; exact ⟨cl_6, ct_6, cn_6⟩
  | n + 7, h => exact absurd (List.getElem?_eq_some_iff.mp h).1 (by show ¬ n + 7 < 7; omega)
def omL : List String := ["ThrowFlow", "ThrowFlow", "ThrowFlow", "ThrowFlow", "ThrowFlow", "ThrowFlow", "ThrowFlow", "ThrowFlow", "ThrowFlow", "ThrowFlow", "ThrowFlow", "ThrowFlow", "ThrowFlow", "ThrowFlow", "ThrowFlowModel", "ThrowFlowModel", "ThrowFlowModel", "ThrowFlowModel", "ThrowFlowModel", "ThrowFlowModel", "ThrowFlowModel", "ThrowFlowModel", "ThrowFlowModel", "ThrowFlowModel", "ThrowFlowModel", "ThrowFlowModel", "ThrowFlowModel", "ThrowFlowModel", "ThrowFlowModel", "ThrowFlowModel", "ThrowFlowModel", "ThrowFlowModel", "ThrowFlowModel", "ThrowFlowModel", "ThrowFlowModel", "ThrowFlowModel", "ThrowFlowModel", "ThrowFlowModel", "ThrowFlowModel", "ThrowFlowModel", "ThrowFlowModel", "ThrowFlowModel", "ThrowFlowModel", "ThrowFlowModel", "ThrowFlowModel", "ThrowFlowModel", "ThrowFlowModel", "ThrowFlowModel", "ThrowFlowModel", "ThrowFlowModel", "ThrowFlowModel", "ThrowFlowModel", "ThrowFlow$Body", "ThrowFlow$Body", "ThrowFlow$Body", "ThrowFlow$Body", "ThrowFlow$Body", "ThrowFlow$Body", "ThrowFlow$Body", "ThrowFlow$Flow", "ThrowFlow$Flow", "ThrowFlow$Flow", "ThrowFlow$Flow", "ThrowFlow$Flow", "ThrowFlow$Flow", "ThrowFlow$Flow", "ThrowFlow$Flow", "ThrowFlow$Flow", "ThrowFlow$Flow", "ThrowFlow$Flow", "ThrowFlow$Flow", "ThrowFlow$Flow", "ThrowFlow$Flow", "ThrowFlow$Flow", "ThrowFlow$Flow", "ThrowFlow$Flow", "ThrowFlow$Kinds", "ThrowFlow$Kinds", "ThrowFlow$Kinds", "ThrowFlow$Kinds", "ThrowFlow$Machine", "ThrowFlow$Machine", "ThrowFlow$Machine", "ThrowFlow$Machine", "ThrowFlow$Machine", "ThrowFlow$Machine", "ThrowFlow$Machine", "ThrowFlow$Machine", "ThrowFlow$Machine", "ThrowFlow$Machine", "ThrowFlow$Machine", "ThrowFlow$Machine", "ThrowFlow$Machine", "ThrowFlow$Machine", "ThrowFlow$Machine", "ThrowFlow$Machine", "ThrowFlow$Text", "ThrowFlow$Text", "ThrowFlow$Text", "ThrowFlow$Text", "ThrowFlow$Text", "ThrowFlow$Text", "ThrowFlow$Text", "ThrowFlow$Text", "ThrowFlow$Text", "ThrowFlowLaw", "java/util/Arrays"]
def om (i : Nat) : String := pgd omL i ""
def ymL : List MethodName := [⟨"ThrowFlow", "kind", "(I)I"⟩, ⟨"ThrowFlow", "is", "(II)Z"⟩, ⟨"ThrowFlow", "method", "()I"⟩, ⟨"ThrowFlow", "add", "(IIII)I"⟩, ⟨"ThrowFlow", "handler", "(IIIII)I"⟩, ⟨"ThrowFlow", "change", "(IIIII)I"⟩, ⟨"ThrowFlow", "out", "(I)I"⟩, ⟨"ThrowFlow", "raises", "(II)I"⟩, ⟨"ThrowFlow", "catches", "(II)I"⟩, ⟨"ThrowFlow", "way", "(II)I"⟩, ⟨"ThrowFlow", "step", "(III)I"⟩, ⟨"ThrowFlow", "run", "(III)I"⟩, ⟨"ThrowFlow", "spent", "()I"⟩, ⟨"ThrowFlow", "escaped", "()I"⟩, ⟨"ThrowFlowModel", "thrown", "()I"⟩, ⟨"ThrowFlowModel", "isKind", "(I)Z"⟩, ⟨"ThrowFlowModel", "isOne", "(II)Z"⟩, ⟨"ThrowFlowModel", "kind", "(I)I"⟩, ⟨"ThrowFlowModel", "is", "(II)Z"⟩, ⟨"ThrowFlowModel", "isMethod", "(I)Z"⟩, ⟨"ThrowFlowModel", "isPlace", "(II)Z"⟩, ⟨"ThrowFlowModel", "method", "()I"⟩, ⟨"ThrowFlowModel", "isIn", "(II)Z"⟩, ⟨"ThrowFlowModel", "fits", "(III)Z"⟩, ⟨"ThrowFlowModel", "write", "(IIIII)V"⟩, ⟨"ThrowFlowModel", "add", "(IIII)I"⟩, ⟨"ThrowFlowModel", "handler", "(IIIII)I"⟩, ⟨"ThrowFlowModel", "change", "(IIIII)I"⟩, ⟨"ThrowFlowModel", "catcher", "(III)I"⟩, ⟨"ThrowFlowModel", "nearest", "(III)I"⟩, ⟨"ThrowFlowModel", "reckon", "(III)I"⟩, ⟨"ThrowFlowModel", "lower", "()Z"⟩, ⟨"ThrowFlowModel", "settle", "()V"⟩, ⟨"ThrowFlowModel", "raisedAt", "(II)I"⟩, ⟨"ThrowFlowModel", "where", "(II)I"⟩, ⟨"ThrowFlowModel", "out", "(I)I"⟩, ⟨"ThrowFlowModel", "raises", "(II)I"⟩, ⟨"ThrowFlowModel", "catches", "(II)I"⟩, ⟨"ThrowFlowModel", "wayOf", "(II)I"⟩, ⟨"ThrowFlowModel", "way", "(II)I"⟩, ⟨"ThrowFlowModel", "firstWith", "(IIII)I"⟩, ⟨"ThrowFlowModel", "step", "(III)I"⟩, ⟨"ThrowFlowModel", "enter", "(II)V"⟩, ⟨"ThrowFlowModel", "leave", "(I)V"⟩, ⟨"ThrowFlowModel", "raise", "(I)V"⟩, ⟨"ThrowFlowModel", "call", "(III)V"⟩, ⟨"ThrowFlowModel", "divide", "(III)V"⟩, ⟨"ThrowFlowModel", "again", "(II)V"⟩, ⟨"ThrowFlowModel", "act", "()V"⟩, ⟨"ThrowFlowModel", "run", "(III)I"⟩, ⟨"ThrowFlowModel", "spent", "()I"⟩, ⟨"ThrowFlowModel", "escaped", "()I"⟩, ⟨"ThrowFlow$Body", "isFull", "()Z"⟩, ⟨"ThrowFlow$Body", "isFullOfHandlers", "()Z"⟩, ⟨"ThrowFlow$Body", "appendInstruction", "(III)I"⟩, ⟨"ThrowFlow$Body", "put", "(IIII)V"⟩, ⟨"ThrowFlow$Body", "appendHandler", "(IIII)I"⟩, ⟨"ThrowFlow$Body", "covers", "(II)Z"⟩, ⟨"ThrowFlow$Body", "catcher", "(IILThrowFlow$Kinds;)I"⟩, ⟨"ThrowFlow$Flow", "doorOf", "(II)I"⟩, ⟨"ThrowFlow$Flow", "doorOut", "(I)I"⟩, ⟨"ThrowFlow$Flow", "placeOf", "(II)I"⟩, ⟨"ThrowFlow$Flow", "through", "(I)I"⟩, ⟨"ThrowFlow$Flow", "raisedAt", "(II)I"⟩, ⟨"ThrowFlow$Flow", "wayLength", "(II)I"⟩, ⟨"ThrowFlow$Flow", "wayPlace", "(III)I"⟩, ⟨"ThrowFlow$Flow", "nearest", "(II)I"⟩, ⟨"ThrowFlow$Flow", "lengthAt", "(III)I"⟩, ⟨"ThrowFlow$Flow", "goesThrough", "(III)I"⟩, ⟨"ThrowFlow$Flow", "sourceDoor", "(II)I"⟩, ⟨"ThrowFlow$Flow", "ownKinds", "(II)I"⟩, ⟨"ThrowFlow$Flow", "refresh", "()V"⟩, ⟨"ThrowFlow$Flow", "raiseOwn", "()V"⟩, ⟨"ThrowFlow$Flow", "raiseFresh", "(I)V"⟩, ⟨"ThrowFlow$Flow", "openDoors", "()Z"⟩, ⟨"ThrowFlow$Flow", "note", "(IIII)V"⟩, ⟨"ThrowFlow$Kinds", "has", "(I)Z"⟩, ⟨"ThrowFlow$Kinds", "isFull", "()Z"⟩, ⟨"ThrowFlow$Kinds", "isOneOf", "(II)Z"⟩, ⟨"ThrowFlow$Kinds", "append", "(I)I"⟩, ⟨"ThrowFlow$Machine", "isUnderWay", "()Z"⟩, ⟨"ThrowFlow$Machine", "start", "(III)V"⟩, ⟨"ThrowFlow$Machine", "enter", "(II)V"⟩, ⟨"ThrowFlow$Machine", "giveAtEnds", "()V"⟩, ⟨"ThrowFlow$Machine", "isAtEnd", "()Z"⟩, ⟨"ThrowFlow$Machine", "body", "()LThrowFlow$Body;"⟩, ⟨"ThrowFlow$Machine", "content", "(I)I"⟩, ⟨"ThrowFlow$Machine", "doInstruction", "()V"⟩, ⟨"ThrowFlow$Machine", "goTo", "(I)V"⟩, ⟨"ThrowFlow$Machine", "goOn", "()V"⟩, ⟨"ThrowFlow$Machine", "become", "(II)V"⟩, ⟨"ThrowFlow$Machine", "divide", "(II)V"⟩, ⟨"ThrowFlow$Machine", "callMethod", "(II)V"⟩, ⟨"ThrowFlow$Machine", "giveBack", "(I)V"⟩, ⟨"ThrowFlow$Machine", "throwAgain", "(I)V"⟩, ⟨"ThrowFlow$Machine", "throwHere", "(I)V"⟩, ⟨"ThrowFlow$Text", "isFull", "()Z"⟩, ⟨"ThrowFlow$Text", "appendMethod", "()I"⟩, ⟨"ThrowFlow$Text", "hasMethod", "(I)Z"⟩, ⟨"ThrowFlow$Text", "hasInstruction", "(II)Z"⟩, ⟨"ThrowFlow$Text", "hasHandler", "(II)Z"⟩, ⟨"ThrowFlow$Text", "allows", "(III)Z"⟩, ⟨"ThrowFlow$Text", "allowsHandler", "(IIII)Z"⟩, ⟨"ThrowFlow$Text", "isRegister", "(I)Z"⟩, ⟨"ThrowFlow$Text", "isPlace", "(I)Z"⟩, ⟨"ThrowFlowLaw", "law", "([I)Z"⟩, ⟨"java/util/Arrays", "fill", "([II)V"⟩]
def ym (i : Nat) : MethodName := pgd ymL i ⟨"", "", ""⟩
def bmL : List ByteArray := [prog_1_method_2_code, prog_1_method_3_code, prog_1_method_4_code, prog_1_method_5_code, prog_1_method_6_code, prog_1_method_7_code, prog_1_method_8_code, prog_1_method_9_code, prog_1_method_10_code, prog_1_method_11_code, prog_1_method_12_code, prog_1_method_13_code, prog_1_method_14_code, prog_1_method_15_code, prog_8_method_2_code, prog_8_method_3_code, prog_8_method_4_code, prog_8_method_5_code, prog_8_method_6_code, prog_8_method_7_code, prog_8_method_8_code, prog_8_method_9_code, prog_8_method_10_code, prog_8_method_11_code, prog_8_method_12_code, prog_8_method_13_code, prog_8_method_14_code, prog_8_method_15_code, prog_8_method_16_code, prog_8_method_17_code, prog_8_method_18_code, prog_8_method_19_code, prog_8_method_20_code, prog_8_method_21_code, prog_8_method_22_code, prog_8_method_23_code, prog_8_method_24_code, prog_8_method_25_code, prog_8_method_26_code, prog_8_method_27_code, prog_8_method_28_code, prog_8_method_29_code, prog_8_method_30_code, prog_8_method_31_code, prog_8_method_32_code, prog_8_method_33_code, prog_8_method_34_code, prog_8_method_35_code, prog_8_method_36_code, prog_8_method_37_code, prog_8_method_38_code, prog_8_method_39_code, prog_2_method_2_code, prog_2_method_3_code, prog_2_method_4_code, prog_2_method_5_code, prog_2_method_6_code, prog_2_method_7_code, prog_2_method_8_code, prog_3_method_2_code, prog_3_method_3_code, prog_3_method_4_code, prog_3_method_5_code, prog_3_method_6_code, prog_3_method_7_code, prog_3_method_8_code, prog_3_method_9_code, prog_3_method_10_code, prog_3_method_11_code, prog_3_method_12_code, prog_3_method_13_code, prog_3_method_14_code, prog_3_method_15_code, prog_3_method_16_code, prog_3_method_17_code, prog_3_method_18_code, prog_4_method_2_code, prog_4_method_3_code, prog_4_method_4_code, prog_4_method_5_code, prog_5_method_2_code, prog_5_method_3_code, prog_5_method_4_code, prog_5_method_5_code, prog_5_method_6_code, prog_5_method_7_code, prog_5_method_8_code, prog_5_method_9_code, prog_5_method_10_code, prog_5_method_11_code, prog_5_method_12_code, prog_5_method_13_code, prog_5_method_14_code, prog_5_method_15_code, prog_5_method_16_code, prog_5_method_17_code, prog_6_method_2_code, prog_6_method_3_code, prog_6_method_4_code, prog_6_method_5_code, prog_6_method_6_code, prog_6_method_7_code, prog_6_method_8_code, prog_6_method_9_code, prog_6_method_10_code, code, prog_17_method_103_code]
def bm (i : Nat) : ByteArray := pgd bmL i ByteArray.empty
def rtmL : List (Option FieldType) := [some (.int), some (.boolean), some (.int), some (.int), some (.int), some (.int), some (.int), some (.int), some (.int), some (.int), some (.int), some (.int), some (.int), some (.int), some (.int), some (.boolean), some (.boolean), some (.int), some (.boolean), some (.boolean), some (.boolean), some (.int), some (.boolean), some (.boolean), none, some (.int), some (.int), some (.int), some (.int), some (.int), some (.int), some (.boolean), none, some (.int), some (.int), some (.int), some (.int), some (.int), some (.int), some (.int), some (.int), some (.int), none, none, none, none, none, none, none, some (.int), some (.int), some (.int), some (.boolean), some (.boolean), some (.int), none, some (.int), some (.boolean), some (.int), some (.int), some (.int), some (.int), some (.int), some (.int), some (.int), some (.int), some (.int), some (.int), some (.int), some (.int), some (.int), none, none, none, some (.boolean), none, some (.boolean), some (.boolean), some (.boolean), some (.int), some (.boolean), none, none, none, some (.boolean), some (.object "ThrowFlow$Body"), some (.int), none, none, none, none, none, none, none, none, none, some (.boolean), some (.int), some (.boolean), some (.boolean), some (.boolean), some (.boolean), some (.boolean), some (.boolean), some (.boolean), some (.boolean), none]
def rtm (i : Nat) : (Option FieldType) := pgd rtmL i none
end
section
/-! The small machine and the real one: what a value, the locals, the memory are there. -/
def tr (q : Nat → Nat → Nat) : PV → Value
  | .inl x => .int x
  | .inr (.inl x) => .long x
  | .inr (.inr (t, m)) => .ref (q t m)
def vld (t m : Nat) : Prop := cn t < 95 ∧ ((t < 40 ∧ m = 0) ∨ (40 ≤ t ∧ m < 8))
def okv : PV → Prop
  | .inr (.inr (t, m)) => vld t m ∨ (t = 39 ∧ m = 0)
  | _ => True
def plv (q : Nat → Nat → Nat) : Nat → PL → List (Nat × Value)
  | _, [] => []
  | i, none :: l => plv q (i + 1) l
  | i, some v :: l => (i, tr q v) :: plv q (i + 1) l
theorem plv_in {q : Nat → Nat → Nat} : ∀ (ls : PL) (i k : Nat) (v : PV), plg ls k = some v → (i + k, tr q v) ∈ plv q i ls
  | [], _, _, _, h => by cases h
  | none :: l, _, 0, _, h => by cases h
  | some w :: l, i, 0, v, h => by cases h; exact List.mem_cons_self
  | none :: l, i, k + 1, v, h => by
    have := plv_in (q := q) l (i + 1) k v h
    rw [show i + 1 + k = i + (k + 1) by omega] at this
    exact this
  | some w :: l, i, k + 1, v, h => by
    have := plv_in (q := q) l (i + 1) k v h
    rw [show i + 1 + k = i + (k + 1) by omega] at this
    exact List.mem_cons_of_mem _ this
theorem plv_out {q : Nat → Nat → Nat} : ∀ (ls : PL) (i k : Nat) (x : Value), (k, x) ∈ plv q i ls → ∃ (j : Nat) (v : PV), k = i + j ∧ plg ls j = some v ∧ x = tr q v
  | [], _, _, _, h => by cases h
  | none :: l, i, k, x, h => by
    obtain ⟨j, v, h1, h2, h3⟩ := plv_out l (i + 1) k x h
    exact ⟨j + 1, v, by omega, h2, h3⟩
  | some w :: l, i, k, x, h => by
    rcases List.mem_cons.mp h with h | h
    · cases h
      exact ⟨0, w, rfl, rfl, rfl⟩
    · obtain ⟨j, v, h1, h2, h3⟩ := plv_out l (i + 1) k x h
      exact ⟨j + 1, v, by omega, h2, h3⟩
theorem pls_at : ∀ (ls ls' : PL) (i : Nat) (v : PV), pls ls i v = some ls' → plg ls' i = some v ∧ ∀ k, k ≠ i → plg ls' k = plg ls k
  | [], _, _, _, h => by cases h
  | _ :: l, _, 0, v, h => by
    cases h
    refine ⟨rfl, fun k hk => ?_⟩
    cases k with
    | zero => exact absurd rfl hk
    | succ k => rfl
  | w :: l, ls', i + 1, v, h => by
    unfold pls at h
    cases hx : pls l i v with
    | none => rw [hx] at h; cases h
    | some t' =>
      rw [hx] at h
      cases h
      obtain ⟨h1, h2⟩ := pls_at l t' i v hx
      refine ⟨h1, fun k hk => ?_⟩
      cases k with
      | zero => rfl
      | succ k => exact h2 k (by omega)
/-- the locals of the frame hold those of the small machine -/
def lok (q : Nat → Nat → Nat) (ls : PL) (lsA : Array Slot) (nL : Nat) : Prop := lsA.size = nL ∧ lv_wf lsA ∧ ∀ k v, plg ls k = some v → lsA[k]? = some (.val (tr q v)) ∧ okv v ∧ nlg v = true
theorem lok.has {q : Nat → Nat → Nat} {ls : PL} {lsA : Array Slot} {nL : Nat} (h : lok q ls lsA nL) : lv_has lsA nL (plv q 0 ls) := by
  refine ⟨h.1, h.2.1, fun p hp => ?_⟩
  obtain ⟨k, x⟩ := p
  obtain ⟨j, v, h1, h2, h3⟩ := plv_out ls 0 k x hp
  have hk : k = j := by omega
  subst hk
  subst h3
  exact (h.2.2 k v h2).1
theorem cat1 {q : Nat → Nat → Nat} {v : PV} (h : nlg v = true) : (tr q v).category = 1 := by
  match v, h with
  | .inl x, _ => rfl
  | .inr (.inr (t, m)), _ => rfl
theorem lok.put {q : Nat → Nat → Nat} {ls ls' : PL} {lsA lsB : Array Slot} {nL i : Nat} {v : PV} (h : lok q ls lsA nL) (hp : pls ls i v = some ls') (hv : okv v ∧ nlg v = true) (hb : lv_has lsB nL ((i, tr q v) :: (plv q 0 ls).filter (fun p => !(p.1 == i) && !(p.1 + 1 == i && p.2.category == 2)))) : lok q ls' lsB nL := by
  obtain ⟨h1, h2⟩ := pls_at ls ls' i v hp
  refine ⟨hb.1, hb.2.1, fun k w hw => ?_⟩
  by_cases hk : k = i
  · subst hk
    rw [h1] at hw
    cases hw
    exact ⟨hb.2.2 (k, tr q v) List.mem_cons_self, hv⟩
  · rw [h2 k hk] at hw
    obtain ⟨g1, g2, g3⟩ := h.2.2 k w hw
    refine ⟨hb.2.2 (k, tr q w) (List.mem_cons_of_mem _ (List.mem_filter.mpr ⟨?_, ?_⟩)), g2, g3⟩
    · have := plv_in (q := q) ls 0 k w hw
      rw [Nat.zero_add] at this
      exact this
    · have hc := cat1 (q := q) g3
      simp [hk, hc]
/-- the fields of an object -/
def ents (q : Nat → Nat → Nat) (μ : PM) (t m : Nat) : Nat → List (Option Nat) → List Value
  | _, [] => []
  | i, some t' :: l => .ref (q t' m) :: ents q μ t m (i + 1) l
  | i, none :: l => .int (μ t m i) :: ents q μ t m (i + 1) l
def ent (q : Nat → Nat → Nat) (ca : Nat → ClassId) (μ : PM) (t m : Nat) : va_E :=
  if cn t < 90 then .inr (cn t, ents q μ t m 0 (fk t))
  else if cn t = 90 then .inl (ca 0, al t, .inl (fun j => μ t m j))
  else if cn t = 91 then .inl (ca 2, 8, .inr (.inr (.inr (.inr (fun j => some (q 40 j))))))
  else .inl (ca 1, 1, .inr (.inl (fun j => (μ t m j).toInt64)))
theorem ents_get {q : Nat → Nat → Nat} {μ : PM} {t m : Nat} : ∀ (l : List (Option Nat)) (i j : Nat), (∀ t', pgt l j = some (some t') → (ents q μ t m i l)[j]? = some (.ref (q t' m))) ∧ (pgt l j = some none → (ents q μ t m i l)[j]? = some (.int (μ t m (i + j))))
  | [], _, _ => ⟨fun _ h => (by cases h), fun h => (by cases h)⟩
  | some t0 :: l, i, 0 => ⟨fun t' h => (by cases h; rfl), fun h => (by cases h)⟩
  | none :: l, i, 0 => ⟨fun t' h => (by cases h), fun h => (by rfl)⟩
  | some t0 :: l, i, j + 1 => by
    obtain ⟨h1, h2⟩ := ents_get (q := q) (μ := μ) (t := t) (m := m) l (i + 1) j
    refine ⟨fun t' h => h1 t' h, fun h => ?_⟩
    have := h2 h
    rw [show i + 1 + j = i + (j + 1) by omega] at this
    exact this
  | none :: l, i, j + 1 => by
    obtain ⟨h1, h2⟩ := ents_get (q := q) (μ := μ) (t := t) (m := m) l (i + 1) j
    refine ⟨fun t' h => h1 t' h, fun h => ?_⟩
    have := h2 h
    rw [show i + 1 + j = i + (j + 1) by omega] at this
    exact this
theorem ents_set {q : Nat → Nat → Nat} {μ : PM} {t m : Nat} (x : Int32) : ∀ (l : List (Option Nat)) (i j : Nat), pgt l j = some none → ents q (pu μ t m (i + j) x) t m i l = (ents q μ t m i l).set j (.int x)
  | [], _, _, h => by cases h
  | some t0 :: l, i, 0, h => by cases h
  | none :: l, i, 0, h => by
    have aux : ∀ (l : List (Option Nat)) (k : Nat), i + 1 ≤ k → ents q (pu μ t m (i + 0) x) t m k l = ents q μ t m k l := by
      intro l
      induction l with
      | nil => intro k _; rfl
      | cons y l ih =>
        intro k hk
        cases y with
        | some t' => show _ :: _ = _ :: _; rw [ih (k + 1) (by omega)]
        | none =>
          show Value.int (pu μ t m (i + 0) x t m k) :: _ = Value.int (μ t m k) :: _
          rw [ih (k + 1) (by omega)]
          unfold pu
          rw [if_neg (by omega)]
    show Value.int (pu μ t m (i + 0) x t m i) :: ents q (pu μ t m (i + 0) x) t m (i + 1) l = Value.int x :: ents q μ t m (i + 1) l
    rw [aux l (i + 1) (Nat.le_refl _)]
    unfold pu
    rw [if_pos (by omega)]
  | some t0 :: l, i, j + 1, h => by
    show _ :: ents q (pu μ t m (i + (j + 1)) x) t m (i + 1) l = _ :: (ents q μ t m (i + 1) l).set j (.int x)
    rw [show i + (j + 1) = i + 1 + j by omega, ents_set x l (i + 1) j h]
  | none :: l, i, j + 1, h => by
    show Value.int (pu μ t m (i + (j + 1)) x t m i) :: ents q (pu μ t m (i + (j + 1)) x) t m (i + 1) l = Value.int (μ t m i) :: (ents q μ t m (i + 1) l).set j (.int x)
    rw [show i + (j + 1) = i + 1 + j by omega, ents_set x l (i + 1) j h]
    unfold pu
    rw [if_neg (by omega)]
theorem ents_ne {q : Nat → Nat → Nat} {μ : PM} {t m t1 m1 k : Nat} {x : Int32} (h : ¬ (t = t1 ∧ m = m1)) : ∀ (l : List (Option Nat)) (i : Nat), ents q (pu μ t1 m1 k x) t m i l = ents q μ t m i l
  | [], _ => rfl
  | some t0 :: l, i => by show _ :: _ = _ :: _; rw [ents_ne h l (i + 1)]
  | none :: l, i => by
    show Value.int (pu μ t1 m1 k x t m i) :: _ = Value.int (μ t m i) :: _
    rw [ents_ne h l (i + 1)]
    unfold pu
    rw [if_neg (fun z => h ⟨z.1, z.2.1⟩)]
theorem ent_ne {q : Nat → Nat → Nat} {ca : Nat → ClassId} {μ : PM} {t m t1 m1 k : Nat} {x : Int32} (h : ¬ (t = t1 ∧ m = m1)) : ent q ca (pu μ t1 m1 k x) t m = ent q ca μ t m := by
  have e : (fun j => pu μ t1 m1 k x t m j) = fun j => μ t m j := by
    funext j
    unfold pu
    rw [if_neg (fun z => h ⟨z.1, z.2.1⟩)]
  have e2 : (fun j => (pu μ t1 m1 k x t m j).toInt64) = fun j => (μ t m j).toInt64 := by
    funext j
    exact congrArg Int32.toInt64 (congrFun e j)
  unfold ent
  rw [ents_ne h, e, e2]
/-- the world -/
def wd (D : va_G) (q : Nat → Nat → Nat) (ca : Nat → ClassId) (μ : PM) (H : Heap) : Prop := ∀ t m, vld t m → va_at D vwCl (q t m, ent q ca μ t m) H
def qij (q : Nat → Nat → Nat) : Prop := ∀ t m t' m', vld t m → vld t' m' → q t m = q t' m' → t = t' ∧ m = m'
theorem wd.put {D : va_G} {q : Nat → Nat → Nat} {ca : Nat → ClassId} {μ : PM} {H H1 : Heap} (h : wd D q ca μ H) (hq : qij q) {t m k : Nat} {x : Int32} (hv : vld t m) (he : va_at D vwCl (q t m, ent q ca (pu μ t m k x) t m) H1) (oq : ∀ a : Nat, a ≠ q t m → H1[a]? = H[a]?) : wd D q ca (pu μ t m k x) H1 := by
  intro t1 m1 h1
  by_cases hh : t1 = t ∧ m1 = m
  · obtain ⟨rfl, rfl⟩ := hh
    exact he
  · rw [ent_ne hh]
    exact (h t1 m1 h1).kept (oq _ (fun z => hh (hq _ _ _ _ h1 hv z)))
theorem pfl_ok {t m j : Nat} {μ : PM} {v : PV} (hv : vld t m) (h : pfl t m j μ = some v) : okv v := by
  unfold pfl at h
  cases hx : pgt (fk t) j with
  | none => rw [hx] at h; cases h
  | some y =>
    rw [hx] at h
    cases y with
    | none => cases h; trivial
    | some t' =>
      cases h
      have ht : t < 48 := by
        rcases Nat.lt_or_ge t 48 with z | z
        · exact z
        · rw [show fk t = [] from pgd_out z] at hx; cases hx
      have hj : j < 30 := Nat.lt_of_lt_of_le (pgt_lt _ _ _ hx) (fk_len t ht)
      have h1 := fk_ok t ht j hj
      rw [hx] at h1
      simp only [Bool.and_eq_true, decide_eq_true_eq, beq_iff_eq, decide_eq_decide] at h1
      refine Or.inl ⟨h1.1, ?_⟩
      rcases hv.2 with z | z
      · exact Or.inl ⟨h1.2.mp z.1, z.2⟩
      · exact Or.inr ⟨by have := h1.2; omega, z.2⟩
theorem pob_ne {t a b : Nat} (h : pob t a b = true) : t ≠ 38 ∧ t ≠ 39 := by
  constructor
  · rintro rfl
    unfold pob at h
    rw [show fk 38 = [] from rfl] at h
    rw [Bool.and_eq_true] at h
    cases h.2
  · rintro rfl
    unfold pob at h
    rw [show fk 39 = [] from rfl] at h
    rw [Bool.and_eq_true] at h
    cases h.2
/-! Rows of the real machine over this world. -/
def Kp (D : va_G) (ca : Nat → ClassId) (U : State) : Prop := va_K D vwCl [(ca 0, .int), (ca 1, .long), (ca 2, .object "ThrowFlow$Body")] U
def Cx (p : Program) (s : State) (m : MethodId) (args : Array Value) (c : Code) (mi : Nat) (D : va_G) (ca : Nat → ClassId) : Prop :=
  p.tables.exec = Jvm.exec ∧ c.code = bm mi ∧ c.maxLocals = mxl mi ∧ s.vm.findClass (om mi) = some m.cls ∧ (∀ w ∈ al_w, w.before args s = true) ∧ Kp D ca s
/-- a field by its link -/
def okF (mi idx a b : Nat) : Prop := ∃ (C : String) (T : u_T) (N : Nat), vwCl[a]? = some (C, T, N) ∧ b < N ∧ Cond.fieldLink (om mi) idx (T b).1 (T b).2.1 (T b).2.2.1 ∈ al_w
def okP (mi idx a b : Nat) (ty : FieldType) : Prop := ∃ (C : String) (T : u_T) (N : Nat), vwCl[a]? = some (C, T, N) ∧ b < N ∧ Cond.fieldLink (om mi) idx (T b).1 (T b).2.1 (T b).2.2.1 ∈ al_w ∧ (T b).2.2.2 = false ∧ parseFieldDescriptor (T b).2.2.1 = some ty
theorem vwCl_lt {a : Nat} {x : vw_C} (h : vwCl[a]? = some x) : a < 90 := by
  have h1 := (List.getElem?_eq_some_iff.mp h).1
  have h2 : vwCl.length ≤ 90 := by decide
  omega
theorem wd_obj {D : va_G} {q : Nat → Nat → Nat} {ca : Nat → ClassId} {μ : PM} {H : Heap} (h : wd D q ca μ H) {t m : Nat} (hv : vld t m) (hc : cn t < 90) : va_at D vwCl (q t m, .inr (cn t, ents q μ t m 0 (fk t))) H := by
  have := h t m hv
  unfold ent at this
  rw [if_pos hc] at this
  exact this
theorem wd_arr {D : va_G} {q : Nat → Nat → Nat} {ca : Nat → ClassId} {μ : PM} {H : Heap} (h : wd D q ca μ H) {t m : Nat} (hv : vld t m) (hc : cn t = 90) : H[q t m]? = some (vp_cell (ca 0) (al t, .inl (fun j => μ t m j))) := by
  have := h t m hv
  unfold ent at this
  rw [if_neg (by omega), if_pos hc] at this
  exact this
section XR
variable {p : Program} {l : Launch} {e : Env} {R : Room} {s : State} {m : MethodId} {args : Array Value} {below : List Frame} {meth : Method} {c : Code} {H : Heap} {locs : List Loc} {cells slots : Nat} {Q : State → Prop}
variable {mi pc : Nat} {ls : Array Slot} {rest : List Value} {D : va_G} {q : Nat → Nat → Nat} {ca : Nat → ClassId} {μ : PM} {A : Nat → Prop} {t mm a b idx : Nat}
theorem x_get (C0 : Cx p s m args c mi D ca) (hw : wd D q ca μ H) (hv : vld t mm) (hc : cn t = a) (ha : okF mi idx a b) {v : PV} (hf : pfl t mm b μ = some v) (hdg : decode (bm mi) pc = .ok (.getfield idx, 3))
    (kk : W p l e R s m args below meth c H locs cells slots Q (F0 m (pc + 3) ls (tr q v :: rest))) : W p l e R s m args below meth c H locs cells slots Q (F0 m pc ls (.ref (q t mm) :: rest)) := by
  obtain ⟨hx, hb, -, hown, hts, hK⟩ := C0
  obtain ⟨C, T, N, h1, h2, h3⟩ := ha
  have h90 := vwCl_lt h1
  have hP : va_P D vwCl [(q t mm, .inr (a, ents q μ t mm 0 (fk t)))] H := by
    intro k r hk
    have hk0 : k = 0 := by have := (List.getElem?_eq_some_iff.mp hk).1; simp at this; omega
    subst hk0
    cases hk
    have := wd_obj hw hv (by omega)
    rw [hc] at this
    exact this
  refine va_get hx hb hts (cls_ok a C T N h1).1 hown hK hP 0 rfl h1 b h2 (hts _ h3) (fun _ h9 => h9) ?_ hdg kk
  obtain ⟨g1, g2⟩ := ents_get (q := q) (μ := μ) (t := t) (m := mm) (fk t) 0 b
  unfold pfl at hf
  cases hx : pgt (fk t) b with
  | none => rw [hx] at hf; cases hf
  | some y =>
    rw [hx] at hf
    cases y with
    | none => cases hf; rw [g2 hx, Nat.zero_add]; rfl
    | some t' => cases hf; exact g1 t' hx
theorem x_put (C0 : Cx p s m args c mi D ca) (hw : wd D q ca μ H) (hq : qij q) (hS : va_S A s.heap H locs) (hA : A (q t mm)) (hv : vld t mm) (hp : pob t a b = true) {ty : FieldType} (ha : okP mi idx a b ty) {x : Int32} (hn : narrow ty (.int x) = .int x) (hfit : fits ty (.int x) = true) (hdg : decode (bm mi) pc = .ok (.putfield idx, 3))
    (kk : ∀ (H1 : Heap) (locs1 : List Loc), wd D q ca (pu μ t mm b x) H1 → va_S A s.heap H1 locs1 → W p l e R s m args below meth c H1 locs1 cells slots Q (F0 m (pc + 3) ls rest)) : W p l e R s m args below meth c H locs cells slots Q (F0 m pc ls (.int x :: .ref (q t mm) :: rest)) := by
  obtain ⟨hx, hb, -, hown, hts, hK⟩ := C0
  obtain ⟨C, T, N, h1, h2, h3, hfin, hd⟩ := ha
  have h90 := vwCl_lt h1
  obtain ⟨hin, hty, hnm⟩ := cls_ok a C T N h1
  unfold pob at hp
  rw [Bool.and_eq_true] at hp
  have hc : cn t = a := Nat.eq_of_beq_eq_true hp.1
  have hg : pgt (fk t) b = some none := by
    have := hp.2
    cases hx : pgt (fk t) b with
    | none => rw [hx] at this; cases this
    | some y => cases y with
      | none => rfl
      | some z => rw [hx] at this; cases this
  have hob := wd_obj hw hv (by omega)
  rw [hc] at hob
  have hap := va_apart (own := om mi) hts hin (tyC a) hty hnm hK h1
  obtain ⟨r, r1, cell, q1, q2, q3, q4⟩ := hob
  have hr : r = (C, T, N) := Option.some.inj (r1.symm.trans h1)
  subst hr
  obtain ⟨hS2, hfc, kC, hkC, hkind⟩ := hK.1 a _ h1
  obtain ⟨cf, kf, fi, f, hi, hsl⟩ := hS2 b h2
  have hlay := hts _ (hin _ (u_in_lay h2))
  unfold u_lay at hlay
  rw [if_neg (by rw [hfin]; decide)] at hlay
  have hst := (u_facts hfc hkC (u_lays hts hin h2) hi).1
  have h6 := u_store hfc hkC hkind hlay hi hd hn hfit
  have hl : b < (ents q μ t mm 0 (fk t)).length := by
    have := (ents_get (q := q) (μ := μ) (t := t) (m := mm) (fk t) 0 b).2 hg
    exact (List.getElem?_eq_some_iff.mp this).1
  refine W.putK hx hb (f := f) ⟨hown, hts _ h3, ⟨_, _, _, hi⟩, hst⟩ (by rw [q2]; exact h6) q1 q3 (by rw [hsl]; exact k2_hasslot (q4 b h2)) rfl rfl hdg fun H' e1 e2 e3 => ?_
  rw [hsl] at e1 ⊢
  refine kk H' _ (hw.put hq hv ?_ e3) (hS.put e2 e3 hA)
  unfold ent
  rw [if_pos (by omega), hc]
  have hes := ents_set (q := q) (μ := μ) (t := t) (m := mm) x (fk t) 0 b hg
  rw [Nat.zero_add] at hes
  rw [hes]
  exact ⟨_, h1, t_OB.to (V := updV (vp_V (ents q μ t mm 0 (fk t))) b (.int x)) ⟨_, e1, q2, q3, t_set q4 hap h2 (.int x)⟩ (fun j _ => vp_updV_set hl (.int x) j)⟩
theorem x_in {j : Int32} {n : Nat} (h : 0 ≤ j.toInt ∧ j.toInt < n) : vp_in j n := vp_in_iff.mpr h
theorem x_ald (C0 : Cx p s m args c mi D ca) (hw : wd D q ca μ H) (hv : vld t mm) {j : Int32} (hj : 0 ≤ j.toInt ∧ j.toInt < al t) (hdg : decode (bm mi) pc = .ok (.iaload, 1))
    (kk : W p l e R s m args below meth c H locs cells slots Q (F0 m (pc + 1) ls (.int (μ t mm j.toNatClampNeg) :: rest))) : W p l e R s m args below meth c H locs cells slots Q (F0 m pc ls (.int j :: .ref (q t mm) :: rest)) := by
  obtain ⟨hx, hb, -, hown, hts, hK⟩ := C0
  have hc : cn t = 90 := al_cn t (by omega)
  have hP : va_P D vwCl [(q t mm, .inl (ca 0, al t, .inl (fun j => μ t mm j)))] H := by
    intro k r hk
    have hk0 : k = 0 := by have := (List.getElem?_eq_some_iff.mp hk).1; simp at this; omega
    subst hk0
    cases hk
    exact wd_arr hw hv hc
  exact va_iald hx hb hK hP 0 0 rfl rfl (x_in hj) hdg kk
theorem x_ast (C0 : Cx p s m args c mi D ca) (hw : wd D q ca μ H) (hq : qij q) (hS : va_S A s.heap H locs) (hA : A (q t mm)) (hv : vld t mm) {j x : Int32} (hj : 0 ≤ j.toInt ∧ j.toInt < al t) (hdg : decode (bm mi) pc = .ok (.iastore, 1))
    (kk : ∀ (H1 : Heap) (locs1 : List Loc), wd D q ca (pu μ t mm j.toNatClampNeg x) H1 → va_S A s.heap H1 locs1 → W p l e R s m args below meth c H1 locs1 cells slots Q (F0 m (pc + 1) ls rest)) : W p l e R s m args below meth c H locs cells slots Q (F0 m pc ls (.int x :: .int j :: .ref (q t mm) :: rest)) := by
  obtain ⟨hx, hb, -, hown, hts, hK⟩ := C0
  have hc : cn t = 90 := al_cn t (by omega)
  refine W.iast hx hb (wd_arr hw hv hc) ((hK.2 0 _ rfl).1 (al t) (fun j => .int (μ t mm j))) (fun q => by cases q) (by show ¬ (j < 0 ∨ (arrV _ _ _).slots.size ≤ _); rw [arrV_size]; exact x_in hj) rfl rfl hdg fun H1 e1 z oq => ?_
  refine kk H1 _ (hw.put hq hv ?_ oq) (hS.put z oq hA)
  unfold ent
  rw [if_neg (by omega), if_pos hc]
  show H1[q t mm]? = some (vp_cell _ _)
  rw [e1]
  rw [vp_cell_i, vp_cell_i, arrV_store]
  congr 2
  funext k
  by_cases hk : k = j.toNatClampNeg
  · subst hk
    simp [updV, pu]
  · simp [updV, pu, hk]
theorem x_aal (C0 : Cx p s m args c mi D ca) (hw : wd D q ca μ H) (hv : vld 3 mm) {j : Int32} (hj : 0 ≤ j.toInt ∧ j.toInt < 8) (hdg : decode (bm mi) pc = .ok (.aaload, 1))
    (kk : W p l e R s m args below meth c H locs cells slots Q (F0 m (pc + 1) ls (.ref (q 40 j.toNatClampNeg) :: rest))) : W p l e R s m args below meth c H locs cells slots Q (F0 m pc ls (.int j :: .ref (q 3 mm) :: rest)) := by
  obtain ⟨hx, hb, -, hown, hts, hK⟩ := C0
  have hP : va_P D vwCl [(q 3 mm, .inl (ca 2, 8, .inr (.inr (.inr (.inr (fun j => some (q 40 j)))))))] H := by
    intro k r hk
    have hk0 : k = 0 := by have := (List.getElem?_eq_some_iff.mp hk).1; simp at this; omega
    subst hk0
    cases hk
    have := hw 3 mm hv
    unfold ent at this
    rw [if_neg (by decide), if_neg (by decide), if_pos (by decide)] at this
    exact this
  exact va_aldq hx hb hK hP 0 2 rfl rfl (x_in (n := 8) hj) hdg kk
theorem x_alen (C0 : Cx p s m args c mi D ca) (hw : wd D q ca μ H) (hv : vld t mm) (hc : cn t = 90) (hdg : decode (bm mi) pc = .ok (.arraylength, 1))
    (kk : W p l e R s m args below meth c H locs cells slots Q (F0 m (pc + 1) ls (.int (nI (al t)) :: rest))) : W p l e R s m args below meth c H locs cells slots Q (F0 m pc ls (.ref (q t mm) :: rest)) := by
  obtain ⟨hx, hb, -, hown, hts, hK⟩ := C0
  have hP : va_P D vwCl [(q t mm, .inl (ca 0, al t, .inl (fun j => μ t mm j)))] H := by
    intro k r hk
    have hk0 : k = 0 := by have := (List.getElem?_eq_some_iff.mp hk).1; simp at this; omega
    subst hk0
    cases hk
    exact wd_arr hw hv hc
  exact va_alen hx hb hK hP 0 0 rfl rfl rfl hdg kk
end XR
section XL
variable {p : Program} {l : Launch} {e : Env} {R : Room} {s : State} {m : MethodId} {args : Array Value} {below : List Frame} {meth : Method} {c : Code} {H : Heap} {locs : List Loc} {cells slots : Nat} {Q : State → Prop}
variable {mi pc : Nat} {ls : Array Slot} {rest : List Value} {D : va_G} {q : Nat → Nat → Nat} {ca : Nat → ClassId} {μ : PM} {A : Nat → Prop}
theorem wd_lng (h : wd D q ca μ H) (hv : vld 34 0) : H[q 34 0]? = some (vp_cell (ca 1) (1, .inr (.inl (fun j => (μ 34 0 j).toInt64)))) := by
  have := h 34 0 hv
  unfold ent at this
  rw [if_neg (by decide), if_neg (by decide), if_neg (by decide)] at this
  exact this
theorem x_lld (C0 : Cx p s m args c mi D ca) (hw : wd D q ca μ H) (hv : vld 34 0) (hdg : decode (bm mi) pc = .ok (.laload, 1))
    (kk : W p l e R s m args below meth c H locs cells slots Q (F0 m (pc + 1) ls (.long (μ 34 0 0).toInt64 :: rest))) : W p l e R s m args below meth c H locs cells slots Q (F0 m pc ls (.int 0 :: .ref (q 34 0) :: rest)) := by
  obtain ⟨hx, hb, -, hown, hts, hK⟩ := C0
  have hP : va_P D vwCl [(q 34 0, .inl (ca 1, 1, .inr (.inl (fun j => (μ 34 0 j).toInt64))))] H := by
    intro k r hk
    have hk0 : k = 0 := by have := (List.getElem?_eq_some_iff.mp hk).1; simp at this; omega
    subst hk0
    cases hk
    exact wd_lng hw hv
  exact va_lald hx hb hK hP 0 1 rfl rfl (i := 0) (vp_in_iff.mpr ⟨by decide, by decide⟩) hdg kk
theorem x_lst (C0 : Cx p s m args c mi D ca) (hw : wd D q ca μ H) (hq : qij q) (hS : va_S A s.heap H locs) (hA : A (q 34 0)) (hv : vld 34 0) {x : Int64} (hxx : x.toInt32.toInt64 = x) (hdg : decode (bm mi) pc = .ok (.lastore, 1))
    (kk : ∀ (H1 : Heap) (locs1 : List Loc), wd D q ca (pu μ 34 0 0 x.toInt32) H1 → va_S A s.heap H1 locs1 → W p l e R s m args below meth c H1 locs1 cells slots Q (F0 m (pc + 1) ls rest)) : W p l e R s m args below meth c H locs cells slots Q (F0 m pc ls (.long x :: .int 0 :: .ref (q 34 0) :: rest)) := by
  obtain ⟨hx, hb, -, hown, hts, hK⟩ := C0
  refine W.last hx hb (wd_lng hw hv) ((hK.2 1 _ rfl).1 1 (fun j => .long (μ 34 0 j).toInt64)) (fun q => by cases q) (by show ¬ ((0 : Int32) < 0 ∨ (arrV _ _ _).slots.size ≤ _); rw [arrV_size]; exact (vp_in_iff (x := 0) (n := 1)).mpr ⟨by decide, by decide⟩) rfl rfl hdg fun H1 e1 z oq => ?_
  refine kk H1 _ (hw.put hq hv ?_ oq) (hS.put z oq hA)
  unfold ent
  rw [if_neg (by decide), if_neg (by decide), if_neg (by decide)]
  show H1[q 34 0]? = some (vp_cell _ _)
  rw [e1]
  rw [vp_cell_l, vp_cell_l, arrV_store]
  congr 2
  funext k
  by_cases hk : k = 0
  · subst hk
    simp [updV, pu, hxx]
  · have : ¬ k = (0 : Int32).toNatClampNeg := by simpa using hk
    simp [updV, pu, hk]
end XL
end
section
def wsA (a : Nat) : List Cond := .code (ym a) (bm a) (mxl a) (rtm a) :: al_w
def rmo (a : Nat) : Room := { frames := dep a, cells := 0, slots := 0, locals := lcm a }
/-- what the tables say of a method -/
def okM (a : Nat) : Prop := plainName (ym a).cls = true ∧ (ym a).cls = om a ∧ Cond.code (ym a) (bm a) (mxl a) (rtm a) ∈ al_w ∧ mxl a ≤ 40 ∧ (ym a).cls ≠ "java/lang/invoke/MethodHandle" ∧ (ym a).cls ≠ "java/lang/invoke/VarHandle"
/-- a call: of an instance method, of a static one -/
def okL (mi pc a b pc' : Nat) : Prop := pc' = pc + 3 ∧ (dep a + 1 ≤ dep mi ∧ 8 + (mxl a + 11) + lcm a ≤ lcm mi) ∧ a ≠ lawi ∧ okM a ∧
  ((∃ (i : Nat) (T : u_T) (N : Nat), decode (bm mi) pc = .ok (.invokevirtual i, 3) ∧ km a ≠ 99 ∧ vwCl[km a]? = some (om a, T, N) ∧ Cond.methodLink (om mi) i (ym a) ∈ al_w ∧ Cond.instanceMethod (ym a) ∈ al_w ∧ Cond.selects (om a) (ym a) (ym a) ∈ al_w ∧ Cond.initialized (om a) ∈ al_w ∧ (parseMethodDescriptor (ym a).desc).map (fun d => d.parameters.length + 1) = some b) ∨
   (∃ i : Nat, decode (bm mi) pc = .ok (.invokestatic i, 3) ∧ Cond.methodLink (om mi) i (ym a) ∈ al_w ∧ Cond.static (ym a) ∈ al_w ∧ Cond.initialized (om a) ∈ al_w ∧ (parseMethodDescriptor (ym a).desc).map (fun d => d.parameters.length) = some b))
/-- a switch -/
def okS (mi pc a b : Nat) : Prop := (∃ (d lo hi : Int) (offs : Array Int) (len : Nat), decode (bm mi) pc = .ok (.tableswitch d lo hi offs, len) ∧ (pc : Int) + d = (b : Int) ∧
  (∀ x : Int32, lo ≤ x.toInt → x.toInt ≤ hi → ∃ off, offs[(x.toInt - lo).toNat]? = some off ∧ (pc : Int) + off = (psw (pswt a) b x : Int)) ∧ (∀ x : Int32, (x.toInt < lo ∨ hi < x.toInt) → psw (pswt a) b x = b)) ∨
  ∃ (d : Int) (ps : Array (Int × Int)) (len : Nat), decode (bm mi) pc = .ok (.lookupswitch d ps, len) ∧ (ps.toList.zip (ps.toList.drop 1)).all (fun (a, next) => a.1 < next.1) = true ∧ ∀ x : Int32, (pc : Int) + Op.lookupswitch.offset ps.toList d x.toInt = (psw (pswt a) b x : Int)
/-! What an entry of the code tables says of the bytes; the steps are sound. -/
def okI (mi pc op a b pc' : Nat) : Prop := match op with
  | 0 => (∃ n, decode (bm mi) pc = .ok (.iconst n, 1) ∧ Int32.ofInt n = nI a ∧ pc' = pc + 1) ∨ (∃ n, decode (bm mi) pc = .ok (.bipush n, 2) ∧ (Int8.ofInt n).toInt32 = nI a ∧ pc' = pc + 2) ∨ (∃ n, decode (bm mi) pc = .ok (.sipush n, 3) ∧ (Int16.ofInt n).toInt32 = nI a ∧ pc' = pc + 3) ∨ (∃ i, decode (bm mi) pc = .ok (.ldc i, 2) ∧ Cond.constant (om mi) i (nI a) ∈ al_w ∧ pc' = pc + 2)
  | 1 => decode (bm mi) pc = .ok (.iconst (-1), 1) ∧ pc' = pc + 1
  | 2 => (∃ k : Fin 4, decode (bm mi) pc = .ok (.iload_n k, 1) ∧ (k : Nat) = a ∧ pc' = pc + 1) ∨ (decode (bm mi) pc = .ok (.iload a, 2) ∧ pc' = pc + 2)
  | 3 => (∃ k : Fin 4, decode (bm mi) pc = .ok (.aload_n k, 1) ∧ (k : Nat) = a ∧ pc' = pc + 1) ∨ (decode (bm mi) pc = .ok (.aload a, 2) ∧ pc' = pc + 2)
  | 4 => a < mxl mi ∧ ((∃ k : Fin 4, decode (bm mi) pc = .ok (.istore_n k, 1) ∧ (k : Nat) = a ∧ pc' = pc + 1) ∨ (decode (bm mi) pc = .ok (.istore a, 2) ∧ pc' = pc + 2))
  | 5 => a < mxl mi ∧ ((∃ k : Fin 4, decode (bm mi) pc = .ok (.astore_n k, 1) ∧ (k : Nat) = a ∧ pc' = pc + 1) ∨ (decode (bm mi) pc = .ok (.astore a, 2) ∧ pc' = pc + 2))
  | 6 => decode (bm mi) pc = .ok (.iadd, 1) ∧ pc' = pc + 1
  | 7 => decode (bm mi) pc = .ok (.isub, 1) ∧ pc' = pc + 1
  | 8 => decode (bm mi) pc = .ok (.imul, 1) ∧ pc' = pc + 1
  | 9 => decode (bm mi) pc = .ok (.ior, 1) ∧ pc' = pc + 1
  | 10 => decode (bm mi) pc = .ok (.iand, 1) ∧ pc' = pc + 1
  | 11 => decode (bm mi) pc = .ok (.ixor, 1) ∧ pc' = pc + 1
  | 12 => decode (bm mi) pc = .ok (.ishl, 1) ∧ pc' = pc + 1
  | 13 => decode (bm mi) pc = .ok (.ishr, 1) ∧ pc' = pc + 1
  | 14 => decode (bm mi) pc = .ok (.dup, 1) ∧ pc' = pc + 1
  | 15 => decode (bm mi) pc = .ok (.dup2, 1) ∧ pc' = pc + 1
  | 16 => ∃ i, decode (bm mi) pc = .ok (.getfield i, 3) ∧ pc' = pc + 3 ∧ okF mi i a b
  | 17 => ∃ i, decode (bm mi) pc = .ok (.putfield i, 3) ∧ pc' = pc + 3 ∧ okP mi i a b .int
  | 18 => ∃ f, decode (bm mi) pc = .ok (.goto f, 3) ∧ (pc : Int) + f = (pc' : Int)
  | 19 => a < mxl mi ∧ (∃ n, decode (bm mi) pc = .ok (.iinc a n, 3) ∧ Int32.ofInt n = nI b ∧ pc' = pc + 3)
  | 20 => a < mxl mi ∧ decode (bm mi) pc = .ok (.iinc a (-1), 3) ∧ pc' = pc + 3
  | 21 => decode (bm mi) pc = .ok (.i2l, 1) ∧ pc' = pc + 1
  | 22 => decode (bm mi) pc = .ok (.lcmp, 1) ∧ pc' = pc + 1
  | 23 => decode (bm mi) pc = .ok (.arraylength, 1) ∧ pc' = pc + 1
  | 24 => decode (bm mi) pc = .ok (.arraylength, 1) ∧ pc' = pc + 1 ∧ mi = lawi
  | 30 => decode (bm mi) pc = .ok (.iaload, 1) ∧ pc' = pc + 1
  | 31 => decode (bm mi) pc = .ok (.iastore, 1) ∧ pc' = pc + 1
  | 32 => decode (bm mi) pc = .ok (.aaload, 1) ∧ pc' = pc + 1
  | 33 => decode (bm mi) pc = .ok (.idiv, 1) ∧ pc' = pc + 1
  | 34 => ∃ i, decode (bm mi) pc = .ok (.putfield i, 3) ∧ pc' = pc + 3 ∧ okP mi i a b .boolean
  | 35 => decode (bm mi) pc = .ok (.laload, 1) ∧ pc' = pc + 1
  | 36 => decode (bm mi) pc = .ok (.lastore, 1) ∧ pc' = pc + 1
  | 37 => decode (bm mi) pc = .ok (.iaload, 1) ∧ pc' = pc + 1 ∧ mi = lawi
  | 50 => ∃ f, decode (bm mi) pc = .ok (.ifCond .eq f, 3) ∧ (pc : Int) + f = (a : Int) ∧ pc' = pc + 3
  | 51 => ∃ f, decode (bm mi) pc = .ok (.ifCond .ne f, 3) ∧ (pc : Int) + f = (a : Int) ∧ pc' = pc + 3
  | 52 => ∃ f, decode (bm mi) pc = .ok (.ifCond .lt f, 3) ∧ (pc : Int) + f = (a : Int) ∧ pc' = pc + 3
  | 53 => ∃ f, decode (bm mi) pc = .ok (.ifCond .ge f, 3) ∧ (pc : Int) + f = (a : Int) ∧ pc' = pc + 3
  | 54 => ∃ f, decode (bm mi) pc = .ok (.ifCond .gt f, 3) ∧ (pc : Int) + f = (a : Int) ∧ pc' = pc + 3
  | 55 => ∃ f, decode (bm mi) pc = .ok (.ifCond .le f, 3) ∧ (pc : Int) + f = (a : Int) ∧ pc' = pc + 3
  | 56 => ∃ f, decode (bm mi) pc = .ok (.if_icmp .eq f, 3) ∧ (pc : Int) + f = (a : Int) ∧ pc' = pc + 3
  | 57 => ∃ f, decode (bm mi) pc = .ok (.if_icmp .ne f, 3) ∧ (pc : Int) + f = (a : Int) ∧ pc' = pc + 3
  | 58 => ∃ f, decode (bm mi) pc = .ok (.if_icmp .lt f, 3) ∧ (pc : Int) + f = (a : Int) ∧ pc' = pc + 3
  | 59 => ∃ f, decode (bm mi) pc = .ok (.if_icmp .ge f, 3) ∧ (pc : Int) + f = (a : Int) ∧ pc' = pc + 3
  | 60 => ∃ f, decode (bm mi) pc = .ok (.if_icmp .gt f, 3) ∧ (pc : Int) + f = (a : Int) ∧ pc' = pc + 3
  | 61 => ∃ f, decode (bm mi) pc = .ok (.if_icmp .le f, 3) ∧ (pc : Int) + f = (a : Int) ∧ pc' = pc + 3
  | 62 => okS mi pc a b
  | 70 => okL mi pc a b pc'
  | 80 => decode (bm mi) pc = .ok (.ireturn, 1) ∧ ((a = 1 ∧ rtm mi = some .int) ∨ (a = 2 ∧ rtm mi = some .boolean))
  | 81 => decode (bm mi) pc = .ok (.return_, 1) ∧ rtm mi = none
  | 82 => decode (bm mi) pc = .ok (.areturn, 1) ∧ ∃ n, rtm mi = some (.object n)
  | 90 => True
  | 91 => True
  | _ => False
/-- the script, where the law reads it -/
def okX (q : Nat → Nat → Nat) (xs : Nat → Int32) (L : Nat) (A : Nat → Prop) (s : State) (mi : Nat) : Prop := mi = lawi → va_X (q 39 0) L xs s s.heap ∧ ¬ A (q 39 0) ∧ q 39 0 < s.heap.size
def mX (xs : Nat → Int32) (L : Nat) (μ : PM) : Prop := L < 2 ^ 31 ∧ μ 38 0 0 = nI L ∧ ∀ j, μ 39 0 j = xs j
theorem mX.put {xs : Nat → Int32} {L : Nat} {μ : PM} (h : mX xs L μ) {t m k : Nat} {x : Int32} (h1 : t ≠ 38) (h2 : t ≠ 39) : mX xs L (pu μ t m k x) := by
  refine ⟨h.1, ?_, fun j => ?_⟩
  · show (if 38 = t ∧ 0 = m ∧ 0 = k then x else μ 38 0 0) = _
    rw [if_neg (fun z => h1 z.1.symm)]; exact h.2.1
  · show (if 39 = t ∧ 0 = m ∧ j = k then x else μ 39 0 j) = _
    rw [if_neg (fun z => h2 z.1.symm)]; exact h.2.2 j
section SD
variable {p : Program} {l : Launch} {e : Env} {R : Room} {s : State} {m : MethodId} {args : Array Value} {below : List Frame} {meth : Method} {c : Code} {H : Heap} {locs : List Loc} {cells slots : Nat} {Q : State → Prop}
variable {mi pc op a b pc' : Nat} {lsA : Array Slot} {D : va_G} {q : Nat → Nat → Nat} {ca : Nat → ClassId} {μ μ' : PM} {A : Nat → Prop} {ls ls' : PL} {st st' : List PV} {xs : Nat → Int32} {L : Nat}
theorem okv_tl {v : PV} {s : List PV} (h : ∀ x ∈ v :: s, okv x) : ∀ x ∈ s, okv x := fun x hx => h x (List.mem_cons_of_mem _ hx)
theorem okv_cs {v : PV} {s : List PV} (h : okv v) (h2 : ∀ x ∈ s, okv x) : ∀ x ∈ v :: s, okv x := fun x hx => by rcases List.mem_cons.mp hx with rfl | hx; exact h; exact h2 x hx
set_option maxHeartbeats 4000000 in
theorem pst_sd (C0 : Cx p s m args c mi D ca) (hok : okI mi pc op a b pc') (hl : lok q ls lsA (mxl mi)) (hv : ∀ v ∈ st, okv v) (hw : wd D q ca μ H) (hq : qij q) (hS : va_S A s.heap H locs) (hA : ∀ t m, vld t m → A (q t m)) (hX : okX q xs L A s mi) (hM : mX xs L μ) (hs : pst op a b ls st μ = some (ls', st', μ')) (kk : ∀ (H' : Heap) (locs' : List Loc) (lsB : Array Slot), lok q ls' lsB (mxl mi) → (∀ v ∈ st', okv v) → wd D q ca μ' H' → va_S A s.heap H' locs' → mX xs L μ' → W p l e R s m args below meth c H' locs' cells slots Q (F0 m pc' lsB (st'.map (tr q)))) : W p l e R s m args below meth c H locs cells slots Q (F0 m pc lsA (st.map (tr q))) := by
  have hx := C0.1
  have hb := C0.2.1
  have hown := C0.2.2.2.1
  have hts := C0.2.2.2.2.1
  match op, hok, hs with
  | 0, hok, hs =>
    cases hs
    have hv' : ∀ v ∈ pI (nI a) :: st, okv v := okv_cs trivial hv
    rcases hok with ⟨n, h1, h2, rfl⟩ | ⟨n, h1, h2, rfl⟩ | ⟨n, h1, h2, rfl⟩ | ⟨i, h1, h2, rfl⟩
    · exact lv_iconst hx hb h1 h2 (kk H locs lsA hl hv' hw hS hM)
    · exact lv_bipush hx hb h1 h2 (kk H locs lsA hl hv' hw hS hM)
    · exact lv_sipush hx hb h1 h2 (kk H locs lsA hl hv' hw hS hM)
    · exact lv_ldc hx hb hown (hts _ h2) h1 (kk H locs lsA hl hv' hw hS hM)
  | 1, hok, hs =>
    cases hs
    obtain ⟨h1, rfl⟩ := hok
    exact lv_iconst hx hb h1 rfl (kk H locs lsA hl (okv_cs trivial hv) hw hS hM)
  | 2, hok, hs =>
    dsimp only [pst] at hs
    cases hg : plg ls a with
    | none => rw [hg] at hs; cases hs
    | some v =>
      rw [hg] at hs
      match v, hg, hs with
      | .inl x, hg, hs =>
        cases hs
        have g := (hl.2.2 a _ hg).1
        rcases hok with ⟨k, h1, h2, rfl⟩ | ⟨h1, rfl⟩
        · exact lv_iload_n hx hb h1 h2 g (kk H locs lsA hl (okv_cs trivial hv) hw hS hM)
        · exact lv_iload hx hb h1 g (kk H locs lsA hl (okv_cs trivial hv) hw hS hM)
      | .inr (.inl x), hg, hs => cases hs
      | .inr (.inr (t, n)), hg, hs => cases hs
  | 3, hok, hs =>
    dsimp only [pst] at hs
    cases hg : plg ls a with
    | none => rw [hg] at hs; cases hs
    | some v =>
      rw [hg] at hs
      match v, hg, hs with
      | .inl x, hg, hs => cases hs
      | .inr (.inl x), hg, hs => cases hs
      | .inr (.inr (t, n)), hg, hs =>
        cases hs
        have g := hl.2.2 a _ hg
        rcases hok with ⟨k, h1, h2, rfl⟩ | ⟨h1, rfl⟩
        · exact lv_aload_n hx hb h1 h2 g.1 (kk H locs lsA hl (okv_cs g.2.1 hv) hw hS hM)
        · exact lv_aload hx hb h1 g.1 (kk H locs lsA hl (okv_cs g.2.1 hv) hw hS hM)
  | 4, hok, hs =>
    obtain ⟨h0, hok⟩ := hok
    match st, hv, hs with
    | .inl x :: s0, hv, hs =>
      dsimp only [pst] at hs
      cases hg : pls ls a (pI x) with
      | none => rw [hg] at hs; cases hs
      | some l1 =>
        rw [hg] at hs
        cases hs
        rcases hok with ⟨k, h1, h2, rfl⟩ | ⟨h1, rfl⟩
        · exact lv_istore_n hx hb h1 h2 hl.has h0 rfl (fun lsB hB => kk H locs lsB (hl.put hg ⟨trivial, rfl⟩ hB) (okv_tl hv) hw hS hM)
        · exact lv_istore hx hb h1 hl.has h0 rfl (fun lsB hB => kk H locs lsB (hl.put hg ⟨trivial, rfl⟩ hB) (okv_tl hv) hw hS hM)
    | .inr (.inl x) :: s0, hv, hs => cases hs
    | .inr (.inr (t, n)) :: s0, hv, hs => cases hs
    | [], hv, hs => cases hs
  | 5, hok, hs =>
    obtain ⟨h0, hok⟩ := hok
    match st, hv, hs with
    | .inr (.inr (t, n)) :: s0, hv, hs =>
      dsimp only [pst] at hs
      cases hg : pls ls a (pR t n) with
      | none => rw [hg] at hs; cases hs
      | some l1 =>
        rw [hg] at hs
        cases hs
        rcases hok with ⟨k, h1, h2, rfl⟩ | ⟨h1, rfl⟩
        · exact lv_astore_n hx hb h1 h2 hl.has h0 rfl (fun lsB hB => kk H locs lsB (hl.put hg ⟨(hv _ List.mem_cons_self), rfl⟩ hB) (okv_tl hv) hw hS hM)
        · exact lv_astore hx hb h1 hl.has h0 rfl (fun lsB hB => kk H locs lsB (hl.put hg ⟨(hv _ List.mem_cons_self), rfl⟩ hB) (okv_tl hv) hw hS hM)
    | .inl x :: s0, hv, hs => cases hs
    | .inr (.inl x) :: s0, hv, hs => cases hs
    | [], hv, hs => cases hs
  | 6, hok, hs =>
    obtain ⟨h1, rfl⟩ := hok
    match st, hv, hs with
    | .inl y :: .inl x :: s0, hv, hs =>
      cases hs
      exact lv_iadd hx hb h1 (kk H locs lsA hl (okv_cs trivial (okv_tl (okv_tl hv))) hw hS hM)
    | [], hv, hs => cases hs
    | [.inl y], hv, hs => cases hs
    | .inl y :: .inr z :: s0, hv, hs => cases hs
    | .inr z :: s0, hv, hs => cases hs
  | 7, hok, hs =>
    obtain ⟨h1, rfl⟩ := hok
    match st, hv, hs with
    | .inl y :: .inl x :: s0, hv, hs =>
      cases hs
      exact lv_isub hx hb h1 (kk H locs lsA hl (okv_cs trivial (okv_tl (okv_tl hv))) hw hS hM)
    | [], hv, hs => cases hs
    | [.inl y], hv, hs => cases hs
    | .inl y :: .inr z :: s0, hv, hs => cases hs
    | .inr z :: s0, hv, hs => cases hs
  | 8, hok, hs =>
    obtain ⟨h1, rfl⟩ := hok
    match st, hv, hs with
    | .inl y :: .inl x :: s0, hv, hs =>
      cases hs
      exact lv_imul hx hb h1 (kk H locs lsA hl (okv_cs trivial (okv_tl (okv_tl hv))) hw hS hM)
    | [], hv, hs => cases hs
    | [.inl y], hv, hs => cases hs
    | .inl y :: .inr z :: s0, hv, hs => cases hs
    | .inr z :: s0, hv, hs => cases hs
  | 9, hok, hs =>
    obtain ⟨h1, rfl⟩ := hok
    match st, hv, hs with
    | .inl y :: .inl x :: s0, hv, hs =>
      cases hs
      exact lv_ior hx hb h1 (kk H locs lsA hl (okv_cs trivial (okv_tl (okv_tl hv))) hw hS hM)
    | [], hv, hs => cases hs
    | [.inl y], hv, hs => cases hs
    | .inl y :: .inr z :: s0, hv, hs => cases hs
    | .inr z :: s0, hv, hs => cases hs
  | 10, hok, hs =>
    obtain ⟨h1, rfl⟩ := hok
    match st, hv, hs with
    | .inl y :: .inl x :: s0, hv, hs =>
      cases hs
      exact lv_iand hx hb h1 (kk H locs lsA hl (okv_cs trivial (okv_tl (okv_tl hv))) hw hS hM)
    | [], hv, hs => cases hs
    | [.inl y], hv, hs => cases hs
    | .inl y :: .inr z :: s0, hv, hs => cases hs
    | .inr z :: s0, hv, hs => cases hs
  | 11, hok, hs =>
    obtain ⟨h1, rfl⟩ := hok
    match st, hv, hs with
    | .inl y :: .inl x :: s0, hv, hs =>
      cases hs
      exact lv_ixor hx hb h1 (kk H locs lsA hl (okv_cs trivial (okv_tl (okv_tl hv))) hw hS hM)
    | [], hv, hs => cases hs
    | [.inl y], hv, hs => cases hs
    | .inl y :: .inr z :: s0, hv, hs => cases hs
    | .inr z :: s0, hv, hs => cases hs
  | 12, hok, hs =>
    obtain ⟨h1, rfl⟩ := hok
    match st, hv, hs with
    | .inl y :: .inl x :: s0, hv, hs =>
      cases hs
      exact lv_ishl hx hb h1 (kk H locs lsA hl (okv_cs trivial (okv_tl (okv_tl hv))) hw hS hM)
    | [], hv, hs => cases hs
    | [.inl y], hv, hs => cases hs
    | .inl y :: .inr z :: s0, hv, hs => cases hs
    | .inr z :: s0, hv, hs => cases hs
  | 13, hok, hs =>
    obtain ⟨h1, rfl⟩ := hok
    match st, hv, hs with
    | .inl y :: .inl x :: s0, hv, hs =>
      cases hs
      exact lv_ishr hx hb h1 (kk H locs lsA hl (okv_cs trivial (okv_tl (okv_tl hv))) hw hS hM)
    | [], hv, hs => cases hs
    | [.inl y], hv, hs => cases hs
    | .inl y :: .inr z :: s0, hv, hs => cases hs
    | .inr z :: s0, hv, hs => cases hs
  | 14, hok, hs =>
    obtain ⟨h1, rfl⟩ := hok
    match st, hv, hs with
    | .inl x :: s0, hv, hs =>
      cases hs
      exact lv_dup hx hb h1 rfl (kk H locs lsA hl (okv_cs trivial hv) hw hS hM)
    | .inr (.inr (t, n)) :: s0, hv, hs =>
      cases hs
      exact lv_dup hx hb h1 rfl (kk H locs lsA hl (okv_cs (hv _ List.mem_cons_self) hv) hw hS hM)
    | .inr (.inl x) :: s0, hv, hs => cases hs
    | [], hv, hs => cases hs
  | 15, hok, hs =>
    obtain ⟨h1, rfl⟩ := hok
    match st, hv, hs with
    | .inl x :: .inr (.inr (t, n)) :: s0, hv, hs =>
      cases hs
      exact lv_dup2_11 hx hb h1 rfl rfl (kk H locs lsA hl (okv_cs trivial (okv_cs (hv _ (List.mem_cons_of_mem _ List.mem_cons_self)) hv)) hw hS hM)
    | [], hv, hs => cases hs
    | [.inl y], hv, hs => cases hs
    | .inl y :: .inl z :: s0, hv, hs => cases hs
    | .inl y :: .inr (.inl z) :: s0, hv, hs => cases hs
    | .inr z :: s0, hv, hs => cases hs
  | 16, hok, hs =>
    obtain ⟨i, h1, rfl, h2⟩ := hok
    match st, hv, hs with
    | .inr (.inr (t, n)) :: s0, hv, hs =>
      dsimp only [pst] at hs
      cases hc : Nat.beq (cn t) a with
      | false => rw [hc] at hs; cases hs
      | true =>
        rw [hc] at hs
        dsimp only [cond] at hs
        cases hf : pfl t n b μ with
        | none => rw [hf] at hs; cases hs
        | some v =>
          rw [hf] at hs
          cases hs
          have hc' : cn t = a := Nat.eq_of_beq_eq_true hc
          have h90 : a < 90 := by obtain ⟨_, _, _, z, _⟩ := h2; exact vwCl_lt z
          have hvt : vld t n := by
            rcases hv _ List.mem_cons_self with z | z
            · exact z
            · rw [z.1, show cn 39 = 99 from rfl] at hc'; omega
          exact x_get C0 hw hvt hc' h2 hf h1 (kk H locs lsA hl (okv_cs (pfl_ok hvt hf) (okv_tl hv)) hw hS hM)
    | .inr (.inl x) :: s0, hv, hs => cases hs
    | .inl x :: s0, hv, hs => cases hs
    | [], hv, hs => cases hs
  | 17, hok, hs =>
    obtain ⟨i, h1, rfl, h2⟩ := hok
    match st, hv, hs with
    | .inl x :: .inr (.inr (t, n)) :: s0, hv, hs =>
      dsimp only [pst] at hs
      cases hc : pob t a b with
      | false => rw [hc] at hs; cases hs
      | true =>
        rw [hc] at hs
        cases hs
        obtain ⟨n38, n39⟩ := pob_ne hc
        have hvt : vld t n := by
          rcases hv _ (List.mem_cons_of_mem _ List.mem_cons_self) with z | z
          · exact z
          · exact absurd z.1 n39
        exact x_put C0 hw hq hS (hA t n hvt) hvt hc h2 rfl rfl h1 (fun H1 locs1 hw1 hS1 => kk H1 locs1 lsA hl (okv_tl (okv_tl hv)) hw1 hS1 (hM.put n38 n39))
    | [], hv, hs => cases hs
    | [.inl y], hv, hs => cases hs
    | .inl y :: .inl z :: s0, hv, hs => cases hs
    | .inl y :: .inr (.inl z) :: s0, hv, hs => cases hs
    | .inr z :: s0, hv, hs => cases hs
  | 18, hok, hs =>
    cases hs
    obtain ⟨f, h1, h2⟩ := hok
    exact lv_goto hx hb h1 h2 (kk H locs lsA hl hv hw hS hM)
  | 19, hok, hs =>
    obtain ⟨h0, z, h1, h2, rfl⟩ := hok
    dsimp only [pst] at hs
    cases hg : plg ls a with
    | none => rw [hg] at hs; cases hs
    | some v =>
      rw [hg] at hs
      match v, hg, hs with
      | .inl x, hg, hs =>
        dsimp only at hs
        cases hp : pls ls a (pI (x + nI b)) with
        | none => rw [hp] at hs; cases hs
        | some l1 =>
          rw [hp] at hs
          cases hs
          have hin := plv_in (q := q) ls 0 a _ hg
          rw [Nat.zero_add] at hin
          obtain ⟨k, hk⟩ := List.getElem?_of_mem hin
          exact lv_iinc hx hb h1 hl.has hk (by rw [h2]) h0 rfl (fun lsB hB => kk H locs lsB (hl.put (v := pI (x + nI b)) hp ⟨trivial, rfl⟩ hB) hv hw hS hM)
      | .inr (.inl x), hg, hs => cases hs
      | .inr (.inr (t, n)), hg, hs => cases hs
  | 20, hok, hs =>
    obtain ⟨h0, h1, rfl⟩ := hok
    dsimp only [pst] at hs
    cases hg : plg ls a with
    | none => rw [hg] at hs; cases hs
    | some v =>
      rw [hg] at hs
      match v, hg, hs with
      | .inl x, hg, hs =>
        dsimp only at hs
        cases hp : pls ls a (pI (x + (-1))) with
        | none => rw [hp] at hs; cases hs
        | some l1 =>
          rw [hp] at hs
          cases hs
          have hin := plv_in (q := q) ls 0 a _ hg
          rw [Nat.zero_add] at hin
          obtain ⟨k, hk⟩ := List.getElem?_of_mem hin
          exact lv_iinc hx hb h1 hl.has hk rfl h0 rfl (fun lsB hB => kk H locs lsB (hl.put (v := pI (x + (-1))) hp ⟨trivial, rfl⟩ hB) hv hw hS hM)
      | .inr (.inl x), hg, hs => cases hs
      | .inr (.inr (t, n)), hg, hs => cases hs
  | 21, hok, hs =>
    obtain ⟨h1, rfl⟩ := hok
    match st, hv, hs with
    | .inl x :: s0, hv, hs =>
      cases hs
      exact lv_i2l hx hb h1 rfl (kk H locs lsA hl (okv_cs trivial (okv_tl hv)) hw hS hM)
    | .inr z :: s0, hv, hs => cases hs
    | [], hv, hs => cases hs
  | 22, hok, hs =>
    obtain ⟨h1, rfl⟩ := hok
    match st, hv, hs with
    | .inr (.inl y) :: .inr (.inl x) :: s0, hv, hs =>
      cases hs
      exact W.lcmp hx hb h1 (kk H locs lsA hl (okv_cs trivial (okv_tl (okv_tl hv))) hw hS hM)
    | [], hv, hs => cases hs
    | .inl y :: s0, hv, hs => cases hs
    | [.inr (.inl y)], hv, hs => cases hs
    | .inr (.inr y) :: s0, hv, hs => cases hs
    | .inr (.inl y) :: .inl x :: s0, hv, hs => cases hs
    | .inr (.inl y) :: .inr (.inr x) :: s0, hv, hs => cases hs
  | 23, hok, hs =>
    obtain ⟨h1, rfl⟩ := hok
    match st, hv, hs with
    | .inr (.inr (t, n)) :: s0, hv, hs =>
      dsimp only [pst] at hs
      cases hc : Nat.ble 1 (al t) with
      | false => rw [hc] at hs; cases hs
      | true =>
        rw [hc] at hs
        cases hs
        have h0 : 0 < al t := Nat.le_of_ble_eq_true hc
        have h90 := al_cn t h0
        have hvt : vld t n := by
          rcases hv _ List.mem_cons_self with z | z
          · exact z
          · rw [z.1] at h90; exact absurd h90 (by decide)
        exact x_alen C0 hw hvt h90 h1 (kk H locs lsA hl (okv_cs trivial (okv_tl hv)) hw hS hM)
    | .inr (.inl x) :: s0, hv, hs => cases hs
    | .inl x :: s0, hv, hs => cases hs
    | [], hv, hs => cases hs
  | 24, hok, hs =>
    obtain ⟨h1, rfl, hmi⟩ := hok
    match st, hv, hs with
    | .inr (.inr (t, n)) :: s0, hv, hs =>
      dsimp only [pst] at hs
      cases hc : Nat.beq t 39 with
      | false => rw [hc] at hs; cases hs
      | true =>
        rw [hc] at hs
        cases hs
        have ht : t = 39 := Nat.eq_of_beq_eq_true hc
        subst ht
        have hn : n = 0 := by
          rcases hv _ List.mem_cons_self with z | z
          · rcases z.2 with z | z <;> omega
          · exact z.2
        subst hn
        obtain ⟨g1, g2, g3⟩ := hX hmi
        have k := kk H locs lsA hl (okv_cs trivial (okv_tl hv)) hw hS hM
        rw [List.map_cons, show tr q (pI (μ 38 0 0)) = .int (Int32.ofNat L) from congrArg Value.int hM.2.1] at k
        exact va_slen hx hb g1 g3 g2 hS h1 k
    | .inr (.inl x) :: s0, hv, hs => cases hs
    | .inl x :: s0, hv, hs => cases hs
    | [], hv, hs => cases hs
  | n + 25, hok, hs => cases hs
set_option maxHeartbeats 4000000 in
theorem psp_sd (C0 : Cx p s m args c mi D ca) (hok : okI mi pc op a b pc') (hl : lok q ls lsA (mxl mi)) (hv : ∀ v ∈ st, okv v) (hw : wd D q ca μ H) (hq : qij q) (hS : va_S A s.heap H locs) (hA : ∀ t m, vld t m → A (q t m)) (hX : okX q xs L A s mi) (hM : mX xs L μ) (hs : psp op a b ls st μ = some (ls', st', μ')) (kk : ∀ (H' : Heap) (locs' : List Loc) (lsB : Array Slot), lok q ls' lsB (mxl mi) → (∀ v ∈ st', okv v) → wd D q ca μ' H' → va_S A s.heap H' locs' → mX xs L μ' → W p l e R s m args below meth c H' locs' cells slots Q (F0 m pc' lsB (st'.map (tr q)))) : W p l e R s m args below meth c H locs cells slots Q (F0 m pc lsA (st.map (tr q))) := by
  have hx := C0.1
  have hb := C0.2.1
  match op, hok, hs with
  | 30, hok, hs =>
    obtain ⟨h1, rfl⟩ := hok
    match st, hv, hs with
    | .inl j :: .inr (.inr (t, n)) :: s0, hv, hs =>
      dsimp only [psp] at hs
      by_cases hc : 0 ≤ j.toInt ∧ j.toInt < al t
      · rw [if_pos hc] at hs
        cases hs
        have h90 := al_cn t (by omega)
        have hvt : vld t n := by
          rcases hv _ (List.mem_cons_of_mem _ List.mem_cons_self) with z | z
          · exact z
          · rw [z.1, show cn 39 = 99 from rfl] at h90; omega
        exact x_ald C0 hw hvt hc h1 (kk H locs lsA hl (okv_cs trivial (okv_tl (okv_tl hv))) hw hS hM)
      · rw [if_neg hc] at hs; cases hs
    | [], hv, hs => cases hs
    | [.inl y], hv, hs => cases hs
    | .inl y :: .inl z :: s0, hv, hs => cases hs
    | .inl y :: .inr (.inl z) :: s0, hv, hs => cases hs
    | .inr z :: s0, hv, hs => cases hs
  | 31, hok, hs =>
    obtain ⟨h1, rfl⟩ := hok
    match st, hv, hs with
    | .inl x :: .inl j :: .inr (.inr (t, n)) :: s0, hv, hs =>
      dsimp only [psp] at hs
      by_cases hc : 0 ≤ j.toInt ∧ j.toInt < al t
      · rw [if_pos hc] at hs
        cases hs
        have h90 := al_cn t (by omega)
        have hvt : vld t n := by
          rcases hv _ (List.mem_cons_of_mem _ (List.mem_cons_of_mem _ List.mem_cons_self)) with z | z
          · exact z
          · rw [z.1, show cn 39 = 99 from rfl] at h90; omega
        have n38 : t ≠ 38 := fun z => by rw [z, show cn 38 = 99 from rfl] at h90; omega
        have n39 : t ≠ 39 := fun z => by rw [z, show cn 39 = 99 from rfl] at h90; omega
        exact x_ast C0 hw hq hS (hA t n hvt) hvt hc h1 (fun H1 locs1 hw1 hS1 => kk H1 locs1 lsA hl (okv_tl (okv_tl (okv_tl hv))) hw1 hS1 (hM.put n38 n39))
      · rw [if_neg hc] at hs; cases hs
    | [], hv, hs => cases hs
    | [.inl y], hv, hs => cases hs
    | [.inl y, .inl z], hv, hs => cases hs
    | .inl y :: .inl z :: .inl u :: s0, hv, hs => cases hs
    | .inl y :: .inl z :: .inr (.inl u) :: s0, hv, hs => cases hs
    | .inl y :: .inr z :: s0, hv, hs => cases hs
    | .inr z :: s0, hv, hs => cases hs
  | 32, hok, hs =>
    obtain ⟨h1, rfl⟩ := hok
    match st, hv, hs with
    | .inl j :: .inr (.inr (t, n)) :: s0, hv, hs =>
      dsimp only [psp] at hs
      by_cases hc : t = 3 ∧ 0 ≤ j.toInt ∧ j.toInt < 8
      · rw [if_pos hc] at hs
        cases hs
        obtain ⟨rfl, hj⟩ := hc
        have hvt : vld 3 n := by
          rcases hv _ (List.mem_cons_of_mem _ List.mem_cons_self) with z | z
          · exact z
          · exact absurd z.1 (by decide)
        have hcl : j.toNatClampNeg < 8 := by
          have : (j.toNatClampNeg : Int) = j.toInt := by show ((j.toInt.toNat : Nat) : Int) = _; omega
          omega
        exact x_aal C0 hw hvt hj h1 (kk H locs lsA hl (okv_cs (Or.inl ⟨by decide, Or.inr ⟨by decide, hcl⟩⟩) (okv_tl (okv_tl hv))) hw hS hM)
      · rw [if_neg hc] at hs; cases hs
    | [], hv, hs => cases hs
    | [.inl y], hv, hs => cases hs
    | .inl y :: .inl z :: s0, hv, hs => cases hs
    | .inl y :: .inr (.inl z) :: s0, hv, hs => cases hs
    | .inr z :: s0, hv, hs => cases hs
  | 33, hok, hs =>
    obtain ⟨h1, rfl⟩ := hok
    match st, hv, hs with
    | .inl y :: .inl x :: s0, hv, hs =>
      dsimp only [psp] at hs
      by_cases hc : y = 0
      · rw [if_pos hc] at hs; cases hs
      · rw [if_neg hc] at hs
        cases hs
        exact lv_idiv hx hb h1 hc (kk H locs lsA hl (okv_cs trivial (okv_tl (okv_tl hv))) hw hS hM)
    | [], hv, hs => cases hs
    | [.inl y], hv, hs => cases hs
    | .inl y :: .inr z :: s0, hv, hs => cases hs
    | .inr z :: s0, hv, hs => cases hs
  | 34, hok, hs =>
    obtain ⟨i, h1, rfl, h2⟩ := hok
    match st, hv, hs with
    | .inl x :: .inr (.inr (t, n)) :: s0, hv, hs =>
      dsimp only [psp] at hs
      by_cases hc : pob t a b = true ∧ (x = 0 ∨ x = 1)
      · rw [if_pos hc] at hs
        cases hs
        obtain ⟨hc, h01⟩ := hc
        obtain ⟨n38, n39⟩ := pob_ne hc
        have hvt : vld t n := by
          rcases hv _ (List.mem_cons_of_mem _ List.mem_cons_self) with z | z
          · exact z
          · exact absurd z.1 n39
        exact x_put C0 hw hq hS (hA t n hvt) hvt hc h2 (by rcases h01 with rfl | rfl <;> rfl) (by rcases h01 with rfl | rfl <;> rfl) h1 (fun H1 locs1 hw1 hS1 => kk H1 locs1 lsA hl (okv_tl (okv_tl hv)) hw1 hS1 (hM.put n38 n39))
      · rw [if_neg hc] at hs; cases hs
    | [], hv, hs => cases hs
    | [.inl y], hv, hs => cases hs
    | .inl y :: .inl z :: s0, hv, hs => cases hs
    | .inl y :: .inr (.inl z) :: s0, hv, hs => cases hs
    | .inr z :: s0, hv, hs => cases hs
  | 35, hok, hs =>
    obtain ⟨h1, rfl⟩ := hok
    match st, hv, hs with
    | .inl j :: .inr (.inr (t, n)) :: s0, hv, hs =>
      dsimp only [psp] at hs
      by_cases hc : t = 34 ∧ j = 0
      · rw [if_pos hc] at hs
        cases hs
        obtain ⟨rfl, rfl⟩ := hc
        have hvt : vld 34 n := by
          rcases hv _ (List.mem_cons_of_mem _ List.mem_cons_self) with z | z
          · exact z
          · exact absurd z.1 (by decide)
        have hn : n = 0 := by rcases hvt.2 with z | z <;> omega
        subst hn
        exact x_lld C0 hw hvt h1 (kk H locs lsA hl (okv_cs trivial (okv_tl (okv_tl hv))) hw hS hM)
      · rw [if_neg hc] at hs; cases hs
    | [], hv, hs => cases hs
    | [.inl y], hv, hs => cases hs
    | .inl y :: .inl z :: s0, hv, hs => cases hs
    | .inl y :: .inr (.inl z) :: s0, hv, hs => cases hs
    | .inr z :: s0, hv, hs => cases hs
  | 36, hok, hs =>
    obtain ⟨h1, rfl⟩ := hok
    match st, hv, hs with
    | .inr (.inl x) :: .inl j :: .inr (.inr (t, n)) :: s0, hv, hs =>
      dsimp only [psp] at hs
      by_cases hc : t = 34 ∧ j = 0 ∧ x.toInt32.toInt64 = x
      · rw [if_pos hc] at hs
        cases hs
        obtain ⟨rfl, rfl, hxx⟩ := hc
        have hvt : vld 34 n := by
          rcases hv _ (List.mem_cons_of_mem _ (List.mem_cons_of_mem _ List.mem_cons_self)) with z | z
          · exact z
          · exact absurd z.1 (by decide)
        have hn : n = 0 := by rcases hvt.2 with z | z <;> omega
        subst hn
        exact x_lst C0 hw hq hS (hA 34 0 hvt) hvt hxx h1 (fun H1 locs1 hw1 hS1 => kk H1 locs1 lsA hl (okv_tl (okv_tl (okv_tl hv))) hw1 hS1 (hM.put (by decide) (by decide)))
      · rw [if_neg hc] at hs; cases hs
    | [], hv, hs => cases hs
    | .inl y :: s0, hv, hs => cases hs
    | [.inr (.inl y)], hv, hs => cases hs
    | [.inr (.inl y), .inl z], hv, hs => cases hs
    | .inr (.inr y) :: s0, hv, hs => cases hs
    | .inr (.inl y) :: .inr z :: s0, hv, hs => cases hs
    | .inr (.inl y) :: .inl z :: .inl u :: s0, hv, hs => cases hs
    | .inr (.inl y) :: .inl z :: .inr (.inl u) :: s0, hv, hs => cases hs
  | 37, hok, hs =>
    obtain ⟨h1, rfl, hmi⟩ := hok
    match st, hv, hs with
    | .inl j :: .inr (.inr (t, n)) :: s0, hv, hs =>
      dsimp only [psp] at hs
      by_cases hc : t = 39 ∧ 0 ≤ j.toInt ∧ j.toInt < (μ 38 0 0).toInt
      · rw [if_pos hc] at hs
        cases hs
        obtain ⟨rfl, hj⟩ := hc
        have hn : n = 0 := by
          rcases hv _ (List.mem_cons_of_mem _ List.mem_cons_self) with z | z
          · rcases z.2 with z | z <;> omega
          · exact z.2
        subst hn
        obtain ⟨g1, g2, g3⟩ := hX hmi
        rw [hM.2.1, nI_toInt hM.1] at hj
        have k := kk H locs lsA hl (okv_cs trivial (okv_tl (okv_tl hv))) hw hS hM
        rw [List.map_cons, show tr q (pI (μ 39 0 j.toNatClampNeg)) = .int (xs j.toNatClampNeg) from congrArg Value.int (hM.2.2 _)] at k
        exact va_sld hx hb g1 g3 g2 hS (x_in hj) h1 k
      · rw [if_neg hc] at hs; cases hs
    | [], hv, hs => cases hs
    | [.inl y], hv, hs => cases hs
    | .inl y :: .inl z :: s0, hv, hs => cases hs
    | .inl y :: .inr (.inl z) :: s0, hv, hs => cases hs
    | .inr z :: s0, hv, hs => cases hs
  | 0, hok, hs => cases hs
  | 1, hok, hs => cases hs
  | 2, hok, hs => cases hs
  | 3, hok, hs => cases hs
  | 4, hok, hs => cases hs
  | 5, hok, hs => cases hs
  | 6, hok, hs => cases hs
  | 7, hok, hs => cases hs
  | 8, hok, hs => cases hs
  | 9, hok, hs => cases hs
  | 10, hok, hs => cases hs
  | 11, hok, hs => cases hs
  | 12, hok, hs => cases hs
  | 13, hok, hs => cases hs
  | 14, hok, hs => cases hs
  | 15, hok, hs => cases hs
  | 16, hok, hs => cases hs
  | 17, hok, hs => cases hs
  | 18, hok, hs => cases hs
  | 19, hok, hs => cases hs
  | 20, hok, hs => cases hs
  | 21, hok, hs => cases hs
  | 22, hok, hs => cases hs
  | 23, hok, hs => cases hs
  | 24, hok, hs => cases hs
  | 25, hok, hs => cases hs
  | 26, hok, hs => cases hs
  | 27, hok, hs => cases hs
  | 28, hok, hs => cases hs
  | 29, hok, hs => cases hs
  | n + 38, hok, hs => cases hs
set_option maxHeartbeats 4000000 in
theorem pbq_sd (C0 : Cx p s m args c mi D ca) (hok : okI mi pc op a b pc') (hl : lok q ls lsA (mxl mi)) (hv : ∀ v ∈ st, okv v) (hw : wd D q ca μ H) (hq : qij q) (hS : va_S A s.heap H locs) (hA : ∀ t m, vld t m → A (q t m)) (hX : okX q xs L A s mi) (hM : mX xs L μ) {P : Prop} {s0 : List PV} (hs : pbq op st = some (P, s0)) (k1 : P → ∀ lsB, lok q ls lsB (mxl mi) → (∀ v ∈ s0, okv v) → W p l e R s m args below meth c H locs cells slots Q (F0 m a lsB (s0.map (tr q)))) (k2 : ¬ P → ∀ lsB, lok q ls lsB (mxl mi) → (∀ v ∈ s0, okv v) → W p l e R s m args below meth c H locs cells slots Q (F0 m pc' lsB (s0.map (tr q)))) : W p l e R s m args below meth c H locs cells slots Q (F0 m pc lsA (st.map (tr q))) := by
  have hx := C0.1
  have hb := C0.2.1
  match op, hok, hs with
  | 50, hok, hs =>
    obtain ⟨f, h1, h2, rfl⟩ := hok
    match st, hv, hs with
    | .inl x :: s0, hv, hs =>
      cases hs
      exact lv_if_eq hx hb h1 h2 (fun h => k1 h lsA hl (okv_tl hv)) (fun h => k2 h lsA hl (okv_tl hv))
    | .inr z :: s0, hv, hs => cases hs
    | [], hv, hs => cases hs
  | 51, hok, hs =>
    obtain ⟨f, h1, h2, rfl⟩ := hok
    match st, hv, hs with
    | .inl x :: s0, hv, hs =>
      cases hs
      exact lv_if_ne hx hb h1 h2 (fun h => k1 h lsA hl (okv_tl hv)) (fun h => k2 (fun z => z h) lsA hl (okv_tl hv))
    | .inr z :: s0, hv, hs => cases hs
    | [], hv, hs => cases hs
  | 52, hok, hs =>
    obtain ⟨f, h1, h2, rfl⟩ := hok
    match st, hv, hs with
    | .inl x :: s0, hv, hs =>
      cases hs
      exact lv_if_lt hx hb h1 h2 (fun h => k1 h lsA hl (okv_tl hv)) (fun h => k2 h lsA hl (okv_tl hv))
    | .inr z :: s0, hv, hs => cases hs
    | [], hv, hs => cases hs
  | 53, hok, hs =>
    obtain ⟨f, h1, h2, rfl⟩ := hok
    match st, hv, hs with
    | .inl x :: s0, hv, hs =>
      cases hs
      exact lv_if_ge hx hb h1 h2 (fun h => k1 h lsA hl (okv_tl hv)) (fun h => k2 h lsA hl (okv_tl hv))
    | .inr z :: s0, hv, hs => cases hs
    | [], hv, hs => cases hs
  | 54, hok, hs =>
    obtain ⟨f, h1, h2, rfl⟩ := hok
    match st, hv, hs with
    | .inl x :: s0, hv, hs =>
      cases hs
      exact lv_if_gt hx hb h1 h2 (fun h => k1 h lsA hl (okv_tl hv)) (fun h => k2 h lsA hl (okv_tl hv))
    | .inr z :: s0, hv, hs => cases hs
    | [], hv, hs => cases hs
  | 55, hok, hs =>
    obtain ⟨f, h1, h2, rfl⟩ := hok
    match st, hv, hs with
    | .inl x :: s0, hv, hs =>
      cases hs
      exact lv_if_le hx hb h1 h2 (fun h => k1 h lsA hl (okv_tl hv)) (fun h => k2 h lsA hl (okv_tl hv))
    | .inr z :: s0, hv, hs => cases hs
    | [], hv, hs => cases hs
  | 56, hok, hs =>
    obtain ⟨f, h1, h2, rfl⟩ := hok
    match st, hv, hs with
    | .inl y :: .inl x :: s0, hv, hs =>
      cases hs
      exact lv_icmp_eq hx hb h1 h2 (fun h => k1 h lsA hl (okv_tl (okv_tl hv))) (fun h => k2 h lsA hl (okv_tl (okv_tl hv)))
    | [], hv, hs => cases hs
    | [.inl y], hv, hs => cases hs
    | .inl y :: .inr z :: s0, hv, hs => cases hs
    | .inr z :: s0, hv, hs => cases hs
  | 57, hok, hs =>
    obtain ⟨f, h1, h2, rfl⟩ := hok
    match st, hv, hs with
    | .inl y :: .inl x :: s0, hv, hs =>
      cases hs
      exact lv_icmp_ne hx hb h1 h2 (fun h => k1 h lsA hl (okv_tl (okv_tl hv))) (fun h => k2 (fun z => z h) lsA hl (okv_tl (okv_tl hv)))
    | [], hv, hs => cases hs
    | [.inl y], hv, hs => cases hs
    | .inl y :: .inr z :: s0, hv, hs => cases hs
    | .inr z :: s0, hv, hs => cases hs
  | 58, hok, hs =>
    obtain ⟨f, h1, h2, rfl⟩ := hok
    match st, hv, hs with
    | .inl y :: .inl x :: s0, hv, hs =>
      cases hs
      exact lv_icmp_lt hx hb h1 h2 (fun h => k1 h lsA hl (okv_tl (okv_tl hv))) (fun h => k2 h lsA hl (okv_tl (okv_tl hv)))
    | [], hv, hs => cases hs
    | [.inl y], hv, hs => cases hs
    | .inl y :: .inr z :: s0, hv, hs => cases hs
    | .inr z :: s0, hv, hs => cases hs
  | 59, hok, hs =>
    obtain ⟨f, h1, h2, rfl⟩ := hok
    match st, hv, hs with
    | .inl y :: .inl x :: s0, hv, hs =>
      cases hs
      exact lv_icmp_ge hx hb h1 h2 (fun h => k1 h lsA hl (okv_tl (okv_tl hv))) (fun h => k2 h lsA hl (okv_tl (okv_tl hv)))
    | [], hv, hs => cases hs
    | [.inl y], hv, hs => cases hs
    | .inl y :: .inr z :: s0, hv, hs => cases hs
    | .inr z :: s0, hv, hs => cases hs
  | 60, hok, hs =>
    obtain ⟨f, h1, h2, rfl⟩ := hok
    match st, hv, hs with
    | .inl y :: .inl x :: s0, hv, hs =>
      cases hs
      exact lv_icmp_gt hx hb h1 h2 (fun h => k1 h lsA hl (okv_tl (okv_tl hv))) (fun h => k2 h lsA hl (okv_tl (okv_tl hv)))
    | [], hv, hs => cases hs
    | [.inl y], hv, hs => cases hs
    | .inl y :: .inr z :: s0, hv, hs => cases hs
    | .inr z :: s0, hv, hs => cases hs
  | 61, hok, hs =>
    obtain ⟨f, h1, h2, rfl⟩ := hok
    match st, hv, hs with
    | .inl y :: .inl x :: s0, hv, hs =>
      cases hs
      exact lv_icmp_le hx hb h1 h2 (fun h => k1 h lsA hl (okv_tl (okv_tl hv))) (fun h => k2 h lsA hl (okv_tl (okv_tl hv)))
    | [], hv, hs => cases hs
    | [.inl y], hv, hs => cases hs
    | .inl y :: .inr z :: s0, hv, hs => cases hs
    | .inr z :: s0, hv, hs => cases hs
  | 0, hok, hs => cases hs
  | 1, hok, hs => cases hs
  | 2, hok, hs => cases hs
  | 3, hok, hs => cases hs
  | 4, hok, hs => cases hs
  | 5, hok, hs => cases hs
  | 6, hok, hs => cases hs
  | 7, hok, hs => cases hs
  | 8, hok, hs => cases hs
  | 9, hok, hs => cases hs
  | 10, hok, hs => cases hs
  | 11, hok, hs => cases hs
  | 12, hok, hs => cases hs
  | 13, hok, hs => cases hs
  | 14, hok, hs => cases hs
  | 15, hok, hs => cases hs
  | 16, hok, hs => cases hs
  | 17, hok, hs => cases hs
  | 18, hok, hs => cases hs
  | 19, hok, hs => cases hs
  | 20, hok, hs => cases hs
  | 21, hok, hs => cases hs
  | 22, hok, hs => cases hs
  | 23, hok, hs => cases hs
  | 24, hok, hs => cases hs
  | 25, hok, hs => cases hs
  | 26, hok, hs => cases hs
  | 27, hok, hs => cases hs
  | 28, hok, hs => cases hs
  | 29, hok, hs => cases hs
  | 30, hok, hs => cases hs
  | 31, hok, hs => cases hs
  | 32, hok, hs => cases hs
  | 33, hok, hs => cases hs
  | 34, hok, hs => cases hs
  | 35, hok, hs => cases hs
  | 36, hok, hs => cases hs
  | 37, hok, hs => cases hs
  | 38, hok, hs => cases hs
  | 39, hok, hs => cases hs
  | 40, hok, hs => cases hs
  | 41, hok, hs => cases hs
  | 42, hok, hs => cases hs
  | 43, hok, hs => cases hs
  | 44, hok, hs => cases hs
  | 45, hok, hs => cases hs
  | 46, hok, hs => cases hs
  | 47, hok, hs => cases hs
  | 48, hok, hs => cases hs
  | 49, hok, hs => cases hs
  | n + 62, hok, hs => cases hs
end SD
end
section
def okE (mi pc : Nat) (e : PE) : Prop := okI mi pc e.1 e.2.1 e.2.2.1 e.2.2.2
theorem tl_ {mi k : Nat} {e0 : PE} (h : okE mi k e0) : ∀ pc e, (bif Nat.beq pc k then some e0 else none) = some e → okE mi pc e := by
  intro pc e he
  cases hc : Nat.beq pc k with
  | false => rw [hc] at he; cases he
  | true => rw [hc] at he; cases he; rw [Nat.eq_of_beq_eq_true hc]; exact h
theorem tn_ {mi k : Nat} {L R : Nat → Option PE} (hl : ∀ pc e, L pc = some e → okE mi pc e) (hr : ∀ pc e, R pc = some e → okE mi pc e) : ∀ pc e, (bif Nat.ble k pc then R pc else L pc) = some e → okE mi pc e := by
  intro pc e he
  cases hc : Nat.ble k pc with
  | false => rw [hc] at he; exact hl pc e he
  | true => rw [hc] at he; exact hr pc e he
theorem tm_ {j : Nat} {k : Nat → Option PE} (h : ∀ pc e, k pc = some e → okE j pc e) : ∀ mi pc e, (bif Nat.beq mi j then k pc else none) = some e → okE mi pc e := by
  intro mi pc e he
  cases hc : Nat.beq mi j with
  | false => rw [hc] at he; cases he
  | true => rw [hc] at he; rw [Nat.eq_of_beq_eq_true hc]; exact h pc e he
theorem tq_ {k : Nat} {L R : Nat → Nat → Option PE} (hl : ∀ mi pc e, L mi pc = some e → okE mi pc e) (hr : ∀ mi pc e, R mi pc = some e → okE mi pc e) : ∀ mi pc e, (bif Nat.ble k mi then R mi pc else L mi pc) = some e → okE mi pc e := by
  intro mi pc e he
  cases hc : Nat.ble k mi with
  | false => rw [hc] at he; exact hl mi pc e he
  | true => rw [hc] at he; exact hr mi pc e he
section OI
variable {mi pc pc' a b : Nat}
theorem oi_m1 (h : decode (bm mi) pc = .ok (.iconst (-1), 1)) (hp : pc' = pc + 1) : okE mi pc (1, 0, 0, pc') := ⟨h, hp⟩
theorem oi_iconst {n : Int} (h : decode (bm mi) pc = .ok (.iconst n, 1)) (hv : Int32.ofInt n = nI a) (hp : pc' = pc + 1) : okE mi pc (0, a, 0, pc') := Or.inl ⟨n, h, hv, hp⟩
theorem oi_bipush {n : Int} (h : decode (bm mi) pc = .ok (.bipush n, 2)) (hv : (Int8.ofInt n).toInt32 = nI a) (hp : pc' = pc + 2) : okE mi pc (0, a, 0, pc') := Or.inr (Or.inl ⟨n, h, hv, hp⟩)
theorem oi_sipush {n : Int} (h : decode (bm mi) pc = .ok (.sipush n, 3)) (hv : (Int16.ofInt n).toInt32 = nI a) (hp : pc' = pc + 3) : okE mi pc (0, a, 0, pc') := Or.inr (Or.inr (Or.inl ⟨n, h, hv, hp⟩))
theorem oi_ldc {i : Nat} (h : decode (bm mi) pc = .ok (.ldc i, 2)) (hv : Cond.constant (om mi) i (nI a) ∈ al_w) (hp : pc' = pc + 2) : okE mi pc (0, a, 0, pc') := Or.inr (Or.inr (Or.inr ⟨i, h, hv, hp⟩))
theorem oi_iload_n {k : Fin 4} (h : decode (bm mi) pc = .ok (.iload_n k, 1)) (hk : (k : Nat) = a) (hp : pc' = pc + 1) : okE mi pc (2, a, 0, pc') := Or.inl ⟨k, h, hk, hp⟩
theorem oi_iload (h : decode (bm mi) pc = .ok (.iload a, 2)) (hp : pc' = pc + 2) : okE mi pc (2, a, 0, pc') := Or.inr ⟨h, hp⟩
theorem oi_aload_n {k : Fin 4} (h : decode (bm mi) pc = .ok (.aload_n k, 1)) (hk : (k : Nat) = a) (hp : pc' = pc + 1) : okE mi pc (3, a, 0, pc') := Or.inl ⟨k, h, hk, hp⟩
theorem oi_aload (h : decode (bm mi) pc = .ok (.aload a, 2)) (hp : pc' = pc + 2) : okE mi pc (3, a, 0, pc') := Or.inr ⟨h, hp⟩
theorem oi_istore_n {k : Fin 4} (h0 : a < mxl mi) (h : decode (bm mi) pc = .ok (.istore_n k, 1)) (hk : (k : Nat) = a) (hp : pc' = pc + 1) : okE mi pc (4, a, 0, pc') := ⟨h0, Or.inl ⟨k, h, hk, hp⟩⟩
theorem oi_istore (h0 : a < mxl mi) (h : decode (bm mi) pc = .ok (.istore a, 2)) (hp : pc' = pc + 2) : okE mi pc (4, a, 0, pc') := ⟨h0, Or.inr ⟨h, hp⟩⟩
theorem oi_astore_n {k : Fin 4} (h0 : a < mxl mi) (h : decode (bm mi) pc = .ok (.astore_n k, 1)) (hk : (k : Nat) = a) (hp : pc' = pc + 1) : okE mi pc (5, a, 0, pc') := ⟨h0, Or.inl ⟨k, h, hk, hp⟩⟩
theorem oi_astore (h0 : a < mxl mi) (h : decode (bm mi) pc = .ok (.astore a, 2)) (hp : pc' = pc + 2) : okE mi pc (5, a, 0, pc') := ⟨h0, Or.inr ⟨h, hp⟩⟩
theorem oi_iadd (h : decode (bm mi) pc = .ok (.iadd, 1)) (hp : pc' = pc + 1) : okE mi pc (6, 0, 0, pc') := ⟨h, hp⟩
theorem oi_isub (h : decode (bm mi) pc = .ok (.isub, 1)) (hp : pc' = pc + 1) : okE mi pc (7, 0, 0, pc') := ⟨h, hp⟩
theorem oi_imul (h : decode (bm mi) pc = .ok (.imul, 1)) (hp : pc' = pc + 1) : okE mi pc (8, 0, 0, pc') := ⟨h, hp⟩
theorem oi_ior (h : decode (bm mi) pc = .ok (.ior, 1)) (hp : pc' = pc + 1) : okE mi pc (9, 0, 0, pc') := ⟨h, hp⟩
theorem oi_iand (h : decode (bm mi) pc = .ok (.iand, 1)) (hp : pc' = pc + 1) : okE mi pc (10, 0, 0, pc') := ⟨h, hp⟩
theorem oi_ixor (h : decode (bm mi) pc = .ok (.ixor, 1)) (hp : pc' = pc + 1) : okE mi pc (11, 0, 0, pc') := ⟨h, hp⟩
theorem oi_ishl (h : decode (bm mi) pc = .ok (.ishl, 1)) (hp : pc' = pc + 1) : okE mi pc (12, 0, 0, pc') := ⟨h, hp⟩
theorem oi_ishr (h : decode (bm mi) pc = .ok (.ishr, 1)) (hp : pc' = pc + 1) : okE mi pc (13, 0, 0, pc') := ⟨h, hp⟩
theorem oi_dup (h : decode (bm mi) pc = .ok (.dup, 1)) (hp : pc' = pc + 1) : okE mi pc (14, 0, 0, pc') := ⟨h, hp⟩
theorem oi_dup2 (h : decode (bm mi) pc = .ok (.dup2, 1)) (hp : pc' = pc + 1) : okE mi pc (15, 0, 0, pc') := ⟨h, hp⟩
theorem oi_i2l (h : decode (bm mi) pc = .ok (.i2l, 1)) (hp : pc' = pc + 1) : okE mi pc (21, 0, 0, pc') := ⟨h, hp⟩
theorem oi_lcmp (h : decode (bm mi) pc = .ok (.lcmp, 1)) (hp : pc' = pc + 1) : okE mi pc (22, 0, 0, pc') := ⟨h, hp⟩
theorem oi_alen (h : decode (bm mi) pc = .ok (.arraylength, 1)) (hp : pc' = pc + 1) : okE mi pc (23, 0, 0, pc') := ⟨h, hp⟩
theorem oi_iald (h : decode (bm mi) pc = .ok (.iaload, 1)) (hp : pc' = pc + 1) : okE mi pc (30, 0, 0, pc') := ⟨h, hp⟩
theorem oi_iast (h : decode (bm mi) pc = .ok (.iastore, 1)) (hp : pc' = pc + 1) : okE mi pc (31, 0, 0, pc') := ⟨h, hp⟩
theorem oi_aald (h : decode (bm mi) pc = .ok (.aaload, 1)) (hp : pc' = pc + 1) : okE mi pc (32, 0, 0, pc') := ⟨h, hp⟩
theorem oi_idiv (h : decode (bm mi) pc = .ok (.idiv, 1)) (hp : pc' = pc + 1) : okE mi pc (33, 0, 0, pc') := ⟨h, hp⟩
theorem oi_lald (h : decode (bm mi) pc = .ok (.laload, 1)) (hp : pc' = pc + 1) : okE mi pc (35, 0, 0, pc') := ⟨h, hp⟩
theorem oi_last (h : decode (bm mi) pc = .ok (.lastore, 1)) (hp : pc' = pc + 1) : okE mi pc (36, 0, 0, pc') := ⟨h, hp⟩
theorem oi_alenS (h : decode (bm mi) pc = .ok (.arraylength, 1)) (hp : pc' = pc + 1) (hm : mi = lawi) : okE mi pc (24, 0, 0, pc') := ⟨h, hp, hm⟩
theorem oi_ialdS (h : decode (bm mi) pc = .ok (.iaload, 1)) (hp : pc' = pc + 1) (hm : mi = lawi) : okE mi pc (37, 0, 0, pc') := ⟨h, hp, hm⟩
theorem oi_getfield {i : Nat} (h : decode (bm mi) pc = .ok (.getfield i, 3)) (hp : pc' = pc + 3) (hf : okF mi i a b) : okE mi pc (16, a, b, pc') := ⟨i, h, hp, hf⟩
theorem oi_putfield {i : Nat} (h : decode (bm mi) pc = .ok (.putfield i, 3)) (hp : pc' = pc + 3) (hf : okP mi i a b .int) : okE mi pc (17, a, b, pc') := ⟨i, h, hp, hf⟩
theorem oi_putz {i : Nat} (h : decode (bm mi) pc = .ok (.putfield i, 3)) (hp : pc' = pc + 3) (hf : okP mi i a b .boolean) : okE mi pc (34, a, b, pc') := ⟨i, h, hp, hf⟩
theorem oi_goto {f : Int} (h : decode (bm mi) pc = .ok (.goto f, 3)) (hp : (pc : Int) + f = (pc' : Int)) : okE mi pc (18, 0, 0, pc') := ⟨f, h, hp⟩
theorem oi_iinc {n : Int} (h0 : a < mxl mi) (h : decode (bm mi) pc = .ok (.iinc a n, 3)) (hv : Int32.ofInt n = nI b) (hp : pc' = pc + 3) : okE mi pc (19, a, b, pc') := ⟨h0, n, h, hv, hp⟩
theorem oi_idec (h0 : a < mxl mi) (h : decode (bm mi) pc = .ok (.iinc a (-1), 3)) (hp : pc' = pc + 3) : okE mi pc (20, a, 0, pc') := ⟨h0, h, hp⟩
theorem oi_ifeq {f : Int} (h : decode (bm mi) pc = .ok (.ifCond .eq f, 3)) (ht : (pc : Int) + f = (a : Int)) (hp : pc' = pc + 3) : okE mi pc (50, a, 0, pc') := ⟨f, h, ht, hp⟩
theorem oi_ifne {f : Int} (h : decode (bm mi) pc = .ok (.ifCond .ne f, 3)) (ht : (pc : Int) + f = (a : Int)) (hp : pc' = pc + 3) : okE mi pc (51, a, 0, pc') := ⟨f, h, ht, hp⟩
theorem oi_iflt {f : Int} (h : decode (bm mi) pc = .ok (.ifCond .lt f, 3)) (ht : (pc : Int) + f = (a : Int)) (hp : pc' = pc + 3) : okE mi pc (52, a, 0, pc') := ⟨f, h, ht, hp⟩
theorem oi_ifge {f : Int} (h : decode (bm mi) pc = .ok (.ifCond .ge f, 3)) (ht : (pc : Int) + f = (a : Int)) (hp : pc' = pc + 3) : okE mi pc (53, a, 0, pc') := ⟨f, h, ht, hp⟩
theorem oi_ifgt {f : Int} (h : decode (bm mi) pc = .ok (.ifCond .gt f, 3)) (ht : (pc : Int) + f = (a : Int)) (hp : pc' = pc + 3) : okE mi pc (54, a, 0, pc') := ⟨f, h, ht, hp⟩
theorem oi_ifle {f : Int} (h : decode (bm mi) pc = .ok (.ifCond .le f, 3)) (ht : (pc : Int) + f = (a : Int)) (hp : pc' = pc + 3) : okE mi pc (55, a, 0, pc') := ⟨f, h, ht, hp⟩
theorem oi_if_icmpeq {f : Int} (h : decode (bm mi) pc = .ok (.if_icmp .eq f, 3)) (ht : (pc : Int) + f = (a : Int)) (hp : pc' = pc + 3) : okE mi pc (56, a, 0, pc') := ⟨f, h, ht, hp⟩
theorem oi_if_icmpne {f : Int} (h : decode (bm mi) pc = .ok (.if_icmp .ne f, 3)) (ht : (pc : Int) + f = (a : Int)) (hp : pc' = pc + 3) : okE mi pc (57, a, 0, pc') := ⟨f, h, ht, hp⟩
theorem oi_if_icmplt {f : Int} (h : decode (bm mi) pc = .ok (.if_icmp .lt f, 3)) (ht : (pc : Int) + f = (a : Int)) (hp : pc' = pc + 3) : okE mi pc (58, a, 0, pc') := ⟨f, h, ht, hp⟩
theorem oi_if_icmpge {f : Int} (h : decode (bm mi) pc = .ok (.if_icmp .ge f, 3)) (ht : (pc : Int) + f = (a : Int)) (hp : pc' = pc + 3) : okE mi pc (59, a, 0, pc') := ⟨f, h, ht, hp⟩
theorem oi_if_icmpgt {f : Int} (h : decode (bm mi) pc = .ok (.if_icmp .gt f, 3)) (ht : (pc : Int) + f = (a : Int)) (hp : pc' = pc + 3) : okE mi pc (60, a, 0, pc') := ⟨f, h, ht, hp⟩
theorem oi_if_icmple {f : Int} (h : decode (bm mi) pc = .ok (.if_icmp .le f, 3)) (ht : (pc : Int) + f = (a : Int)) (hp : pc' = pc + 3) : okE mi pc (61, a, 0, pc') := ⟨f, h, ht, hp⟩
theorem oi_callV {i : Nat} {T : u_T} {N : Nat} (h : decode (bm mi) pc = .ok (.invokevirtual i, 3)) (hp : pc' = pc + 3) (hd : dep a + 1 ≤ dep mi ∧ 8 + (mxl a + 11) + lcm a ≤ lcm mi) (hl : a ≠ lawi) (hm : okM a) (hk : km a ≠ 99) (hc : vwCl[km a]? = some (om a, T, N)) (w1 : Cond.methodLink (om mi) i (ym a) ∈ al_w) (w2 : Cond.instanceMethod (ym a) ∈ al_w) (w3 : Cond.selects (om a) (ym a) (ym a) ∈ al_w) (w4 : Cond.initialized (om a) ∈ al_w) (hn : (parseMethodDescriptor (ym a).desc).map (fun d => d.parameters.length + 1) = some b) : okE mi pc (70, a, b, pc') := ⟨hp, hd, hl, hm, Or.inl ⟨i, T, N, h, hk, hc, w1, w2, w3, w4, hn⟩⟩
theorem oi_callS {i : Nat} (h : decode (bm mi) pc = .ok (.invokestatic i, 3)) (hp : pc' = pc + 3) (hd : dep a + 1 ≤ dep mi ∧ 8 + (mxl a + 11) + lcm a ≤ lcm mi) (hl : a ≠ lawi) (hm : okM a) (w1 : Cond.methodLink (om mi) i (ym a) ∈ al_w) (w2 : Cond.static (ym a) ∈ al_w) (w4 : Cond.initialized (om a) ∈ al_w) (hn : (parseMethodDescriptor (ym a).desc).map (fun d => d.parameters.length) = some b) : okE mi pc (70, a, b, pc') := ⟨hp, hd, hl, hm, Or.inr ⟨i, h, w1, w2, w4, hn⟩⟩
theorem oi_ireturnI (h : decode (bm mi) pc = .ok (.ireturn, 1)) (hr : rtm mi = some .int) : okE mi pc (80, 1, 0, 0) := ⟨h, Or.inl ⟨rfl, hr⟩⟩
theorem oi_ireturnZ (h : decode (bm mi) pc = .ok (.ireturn, 1)) (hr : rtm mi = some .boolean) : okE mi pc (80, 2, 0, 0) := ⟨h, Or.inr ⟨rfl, hr⟩⟩
theorem oi_return (h : decode (bm mi) pc = .ok (.return_, 1)) (hr : rtm mi = none) : okE mi pc (81, 0, 0, 0) := ⟨h, hr⟩
theorem oi_areturn (h : decode (bm mi) pc = .ok (.areturn, 1)) (hr : ∃ n, rtm mi = some (.object n)) : okE mi pc (82, 0, 0, 0) := ⟨h, hr⟩
theorem psw_out {d : Nat} {x : Int32} : ∀ (l : List (Nat × Nat)), (∀ p ∈ l, x ≠ nI p.1) → psw l d x = d
  | [], _ => rfl
  | (k, t) :: l, h => by
    show (if x = nI k then t else psw l d x) = d
    rw [if_neg (h (k, t) List.mem_cons_self)]
    exact psw_out l (fun p hp => h p (List.mem_cons_of_mem _ hp))
theorem oi_table {lo n len : Nat} {d : Int} {offs : Array Int} (h : decode (bm mi) pc = .ok (.tableswitch d (lo : Int) ((lo : Int) + (n : Int) - 1) offs, len)) (hd : (pc : Int) + d = (b : Int)) (ho : ∀ k, k < n → offs[k]?.map (fun o => (pc : Int) + o) = some (psw (pswt a) b (nI (lo + k)) : Int)) (hk : (decide (lo + n < 1000) && (pswt a).all (fun p => decide (lo ≤ p.1 ∧ p.1 < lo + n))) = true) : okI mi pc 62 a b pc' := by
  rw [Bool.and_eq_true, decide_eq_true_eq] at hk
  show okS mi pc a b
  unfold okS
  refine Or.inl ⟨d, lo, (lo : Int) + n - 1, offs, len, h, hd, fun x h1 h2 => ?_, fun x hx => ?_⟩
  · have hx : ∃ k : Nat, x = nI k ∧ k < 1000 ∧ (k : Int) = x.toInt := by
      refine ⟨x.toInt.toNat, ?_, by omega, by omega⟩
      apply Int32.toInt_inj.mp
      rw [nI_toInt (by omega)]; omega
    obtain ⟨k, rfl, h3, h4⟩ := hx
    rw [← h4] at h1 h2 ⊢
    have h5 := ho (k - lo) (by omega)
    rw [show lo + (k - lo) = k by omega] at h5
    rw [show ((k : Int) - (lo : Int)).toNat = k - lo by omega]
    cases hz : offs[k - lo]? with
    | none => rw [hz] at h5; cases h5
    | some o => rw [hz] at h5; exact ⟨o, rfl, Option.some.inj h5⟩
  · refine psw_out _ (fun p hp e => ?_)
    have := List.all_eq_true.mp hk.2 p hp
    rw [decide_eq_true_eq] at this
    rw [e, nI_toInt (by omega)] at hx
    omega
theorem oi_look {len : Nat} {d : Int} {ps : Array (Int × Int)} (h : decode (bm mi) pc = .ok (.lookupswitch d ps, len)) (h2 : (ps.toList.zip (ps.toList.drop 1)).all (fun (a, next) => a.1 < next.1) = true) (hd : (pc : Int) + d = (b : Int)) (ho : ps.toList.map (fun p => (p.1, (pc : Int) + p.2)) = (pswt a).map (fun p => ((p.1 : Int), (p.2 : Int))) ∧ (pswt a).all (fun p => decide (p.1 < 1000)) = true) : okI mi pc 62 a b pc' := by
  show okS mi pc a b
  unfold okS
  refine Or.inr ⟨d, ps, len, h, h2, fun x => ?_⟩
  obtain ⟨h3, h4⟩ := ho
  revert h3 h4
  generalize ps.toList = l
  generalize pswt a = k
  intro h3 h4
  induction l generalizing k with
  | nil =>
    cases k with
    | nil => simp [Op.lookupswitch.offset, psw, hd]
    | cons y k => cases h3
  | cons y l ih =>
    cases k with
    | nil => cases h3
    | cons z k =>
      obtain ⟨y1, y2⟩ := y
      obtain ⟨z1, z2⟩ := z
      simp only [List.map_cons, List.cons.injEq, Prod.mk.injEq] at h3
      obtain ⟨⟨e1, e2⟩, h3⟩ := h3
      simp only [List.all_cons, Bool.and_eq_true, decide_eq_true_eq] at h4
      rw [Op.lookupswitch.offset_cons]
      show _ = ((if x = nI z1 then z2 else psw k b x : Nat) : Int)
      by_cases hx : x = nI z1
      · rw [if_pos hx, hx, nI_toInt (by omega), if_pos (by omega)]
        exact e2
      · rw [if_neg hx, if_neg (fun q => hx (Int32.toInt_inj.mp (by rw [nI_toInt (by omega)]; omega)))]
        exact ih k h3 h4.2
end OI
end
section
theorem okm_0 : okM 0 := ⟨by decide +kernel, rfl, mw_383, by decide, by decide +kernel, by decide +kernel⟩
theorem okm_1 : okM 1 := ⟨by decide +kernel, rfl, mw_232, by decide, by decide +kernel, by decide +kernel⟩
theorem okm_2 : okM 2 := ⟨by decide +kernel, rfl, mw_244, by decide, by decide +kernel, by decide +kernel⟩
theorem okm_3 : okM 3 := ⟨by decide +kernel, rfl, mw_485, by decide, by decide +kernel, by decide +kernel⟩
theorem okm_4 : okM 4 := ⟨by decide +kernel, rfl, mw_533, by decide, by decide +kernel, by decide +kernel⟩
theorem okm_5 : okM 5 := ⟨by decide +kernel, rfl, mw_554, by decide, by decide +kernel, by decide +kernel⟩
theorem okm_6 : okM 6 := ⟨by decide +kernel, rfl, mw_256, by decide, by decide +kernel, by decide +kernel⟩
theorem okm_7 : okM 7 := ⟨by decide +kernel, rfl, mw_322, by decide, by decide +kernel, by decide +kernel⟩
theorem okm_8 : okM 8 := ⟨by decide +kernel, rfl, mw_335, by decide, by decide +kernel, by decide +kernel⟩
theorem okm_9 : okM 9 := ⟨by decide +kernel, rfl, mw_344, by decide, by decide +kernel, by decide +kernel⟩
theorem okm_10 : okM 10 := ⟨by decide +kernel, rfl, mw_362, by decide, by decide +kernel, by decide +kernel⟩
theorem okm_11 : okM 11 := ⟨by decide +kernel, rfl, mw_564, by decide, by decide +kernel, by decide +kernel⟩
theorem okm_12 : okM 12 := ⟨by decide +kernel, rfl, mw_370, by decide, by decide +kernel, by decide +kernel⟩
theorem okm_13 : okM 13 := ⟨by decide +kernel, rfl, mw_374, by decide, by decide +kernel, by decide +kernel⟩
theorem okm_14 : okM 14 := ⟨by decide +kernel, rfl, mw_728, by decide, by decide +kernel, by decide +kernel⟩
theorem okm_15 : okM 15 := ⟨by decide +kernel, rfl, mw_736, by decide, by decide +kernel, by decide +kernel⟩
theorem okm_16 : okM 16 := ⟨by decide +kernel, rfl, mw_744, by decide, by decide +kernel, by decide +kernel⟩
theorem okm_17 : okM 17 := ⟨by decide +kernel, rfl, mw_732, by decide, by decide +kernel, by decide +kernel⟩
theorem okm_18 : okM 18 := ⟨by decide +kernel, rfl, mw_740, by decide, by decide +kernel, by decide +kernel⟩
theorem okm_19 : okM 19 := ⟨by decide +kernel, rfl, mw_756, by decide, by decide +kernel, by decide +kernel⟩
theorem okm_20 : okM 20 := ⟨by decide +kernel, rfl, mw_779, by decide, by decide +kernel, by decide +kernel⟩
theorem okm_21 : okM 21 := ⟨by decide +kernel, rfl, mw_748, by decide, by decide +kernel, by decide +kernel⟩
theorem okm_22 : okM 22 := ⟨by decide +kernel, rfl, mw_763, by decide, by decide +kernel, by decide +kernel⟩
theorem okm_23 : okM 23 := ⟨by decide +kernel, rfl, mw_760, by decide, by decide +kernel, by decide +kernel⟩
theorem okm_24 : okM 24 := ⟨by decide +kernel, rfl, mw_767, by decide, by decide +kernel, by decide +kernel⟩
theorem okm_25 : okM 25 := ⟨by decide +kernel, rfl, mw_752, by decide, by decide +kernel, by decide +kernel⟩
theorem okm_26 : okM 26 := ⟨by decide +kernel, rfl, mw_771, by decide, by decide +kernel, by decide +kernel⟩
theorem okm_27 : okM 27 := ⟨by decide +kernel, rfl, mw_775, by decide, by decide +kernel, by decide +kernel⟩
theorem okm_28 : okM 28 := ⟨by decide +kernel, rfl, mw_804, by decide, by decide +kernel, by decide +kernel⟩
theorem okm_29 : okM 29 := ⟨by decide +kernel, rfl, mw_800, by decide, by decide +kernel, by decide +kernel⟩
theorem okm_30 : okM 30 := ⟨by decide +kernel, rfl, mw_796, by decide, by decide +kernel, by decide +kernel⟩
theorem okm_31 : okM 31 := ⟨by decide +kernel, rfl, mw_792, by decide, by decide +kernel, by decide +kernel⟩
theorem okm_32 : okM 32 := ⟨by decide +kernel, rfl, mw_787, by decide, by decide +kernel, by decide +kernel⟩
theorem okm_33 : okM 33 := ⟨by decide +kernel, rfl, mw_816, by decide, by decide +kernel, by decide +kernel⟩
theorem okm_34 : okM 34 := ⟨by decide +kernel, rfl, mw_808, by decide, by decide +kernel, by decide +kernel⟩
theorem okm_35 : okM 35 := ⟨by decide +kernel, rfl, mw_783, by decide, by decide +kernel, by decide +kernel⟩
theorem okm_36 : okM 36 := ⟨by decide +kernel, rfl, mw_812, by decide, by decide +kernel, by decide +kernel⟩
theorem okm_37 : okM 37 := ⟨by decide +kernel, rfl, mw_820, by decide, by decide +kernel, by decide +kernel⟩
theorem okm_38 : okM 38 := ⟨by decide +kernel, rfl, mw_828, by decide, by decide +kernel, by decide +kernel⟩
theorem okm_39 : okM 39 := ⟨by decide +kernel, rfl, mw_824, by decide, by decide +kernel, by decide +kernel⟩
theorem okm_40 : okM 40 := ⟨by decide +kernel, rfl, mw_836, by decide, by decide +kernel, by decide +kernel⟩
theorem okm_41 : okM 41 := ⟨by decide +kernel, rfl, mw_832, by decide, by decide +kernel, by decide +kernel⟩
theorem okm_42 : okM 42 := ⟨by decide +kernel, rfl, mw_844, by decide, by decide +kernel, by decide +kernel⟩
theorem okm_43 : okM 43 := ⟨by decide +kernel, rfl, mw_848, by decide, by decide +kernel, by decide +kernel⟩
theorem okm_44 : okM 44 := ⟨by decide +kernel, rfl, mw_860, by decide, by decide +kernel, by decide +kernel⟩
theorem okm_45 : okM 45 := ⟨by decide +kernel, rfl, mw_864, by decide, by decide +kernel, by decide +kernel⟩
theorem okm_46 : okM 46 := ⟨by decide +kernel, rfl, mw_856, by decide, by decide +kernel, by decide +kernel⟩
theorem okm_47 : okM 47 := ⟨by decide +kernel, rfl, mw_868, by decide, by decide +kernel, by decide +kernel⟩
theorem okm_48 : okM 48 := ⟨by decide +kernel, rfl, mw_852, by decide, by decide +kernel, by decide +kernel⟩
theorem okm_49 : okM 49 := ⟨by decide +kernel, rfl, mw_840, by decide, by decide +kernel, by decide +kernel⟩
theorem okm_50 : okM 50 := ⟨by decide +kernel, rfl, mw_872, by decide, by decide +kernel, by decide +kernel⟩
theorem okm_51 : okM 51 := ⟨by decide +kernel, rfl, mw_876, by decide, by decide +kernel, by decide +kernel⟩
theorem okm_52 : okM 52 := ⟨by decide +kernel, rfl, mw_505, by decide, by decide +kernel, by decide +kernel⟩
theorem okm_53 : okM 53 := ⟨by decide +kernel, rfl, mw_537, by decide, by decide +kernel, by decide +kernel⟩
theorem okm_54 : okM 54 := ⟨by decide +kernel, rfl, mw_522, by decide, by decide +kernel, by decide +kernel⟩
theorem okm_55 : okM 55 := ⟨by decide +kernel, rfl, mw_526, by decide, by decide +kernel, by decide +kernel⟩
theorem okm_56 : okM 56 := ⟨by decide +kernel, rfl, mw_547, by decide, by decide +kernel, by decide +kernel⟩
theorem okm_57 : okM 57 := ⟨by decide +kernel, rfl, mw_290, by decide, by decide +kernel, by decide +kernel⟩
theorem okm_58 : okM 58 := ⟨by decide +kernel, rfl, mw_286, by decide, by decide +kernel, by decide +kernel⟩
theorem okm_59 : okM 59 := ⟨by decide +kernel, rfl, mw_297, by decide, by decide +kernel, by decide +kernel⟩
theorem okm_60 : okM 60 := ⟨by decide +kernel, rfl, mw_294, by decide, by decide +kernel, by decide +kernel⟩
theorem okm_61 : okM 61 := ⟨by decide +kernel, rfl, mw_278, by decide, by decide +kernel, by decide +kernel⟩
theorem okm_62 : okM 62 := ⟨by decide +kernel, rfl, mw_318, by decide, by decide +kernel, by decide +kernel⟩
theorem okm_63 : okM 63 := ⟨by decide +kernel, rfl, mw_331, by decide, by decide +kernel, by decide +kernel⟩
theorem okm_64 : okM 64 := ⟨by decide +kernel, rfl, mw_348, by decide, by decide +kernel, by decide +kernel⟩
theorem okm_65 : okM 65 := ⟨by decide +kernel, rfl, mw_366, by decide, by decide +kernel, by decide +kernel⟩
theorem okm_66 : okM 66 := ⟨by decide +kernel, rfl, mw_354, by decide, by decide +kernel, by decide +kernel⟩
theorem okm_67 : okM 67 := ⟨by decide +kernel, rfl, mw_358, by decide, by decide +kernel, by decide +kernel⟩
theorem okm_68 : okM 68 := ⟨by decide +kernel, rfl, mw_282, by decide, by decide +kernel, by decide +kernel⟩
theorem okm_69 : okM 69 := ⟨by decide +kernel, rfl, mw_309, by decide, by decide +kernel, by decide +kernel⟩
theorem okm_70 : okM 70 := ⟨by decide +kernel, rfl, mw_271, by decide, by decide +kernel, by decide +kernel⟩
theorem okm_71 : okM 71 := ⟨by decide +kernel, rfl, mw_260, by decide, by decide +kernel, by decide +kernel⟩
theorem okm_72 : okM 72 := ⟨by decide +kernel, rfl, mw_267, by decide, by decide +kernel, by decide +kernel⟩
theorem okm_73 : okM 73 := ⟨by decide +kernel, rfl, mw_305, by decide, by decide +kernel, by decide +kernel⟩
theorem okm_74 : okM 74 := ⟨by decide +kernel, rfl, mw_301, by decide, by decide +kernel, by decide +kernel⟩
theorem okm_75 : okM 75 := ⟨by decide +kernel, rfl, mw_275, by decide, by decide +kernel, by decide +kernel⟩
theorem okm_76 : okM 76 := ⟨by decide +kernel, rfl, mw_236, by decide, by decide +kernel, by decide +kernel⟩
theorem okm_77 : okM 77 := ⟨by decide +kernel, rfl, mw_456, by decide, by decide +kernel, by decide +kernel⟩
theorem okm_78 : okM 78 := ⟨by decide +kernel, rfl, mw_240, by decide, by decide +kernel, by decide +kernel⟩
theorem okm_79 : okM 79 := ⟨by decide +kernel, rfl, mw_476, by decide, by decide +kernel, by decide +kernel⟩
theorem okm_80 : okM 80 := ⟨by decide +kernel, rfl, mw_631, by decide, by decide +kernel, by decide +kernel⟩
theorem okm_81 : okM 81 := ⟨by decide +kernel, rfl, mw_569, by decide, by decide +kernel, by decide +kernel⟩
theorem okm_82 : okM 82 := ⟨by decide +kernel, rfl, mw_573, by decide, by decide +kernel, by decide +kernel⟩
theorem okm_83 : okM 83 := ⟨by decide +kernel, rfl, mw_577, by decide, by decide +kernel, by decide +kernel⟩
theorem okm_84 : okM 84 := ⟨by decide +kernel, rfl, mw_581, by decide, by decide +kernel, by decide +kernel⟩
theorem okm_85 : okM 85 := ⟨by decide +kernel, rfl, mw_585, by decide, by decide +kernel, by decide +kernel⟩
theorem okm_86 : okM 86 := ⟨by decide +kernel, rfl, mw_589, by decide, by decide +kernel, by decide +kernel⟩
theorem okm_87 : okM 87 := ⟨by decide +kernel, rfl, mw_605, by decide, by decide +kernel, by decide +kernel⟩
theorem okm_88 : okM 88 := ⟨by decide +kernel, rfl, mw_618, by decide, by decide +kernel, by decide +kernel⟩
theorem okm_89 : okM 89 := ⟨by decide +kernel, rfl, mw_601, by decide, by decide +kernel, by decide +kernel⟩
theorem okm_90 : okM 90 := ⟨by decide +kernel, rfl, mw_597, by decide, by decide +kernel, by decide +kernel⟩
theorem okm_91 : okM 91 := ⟨by decide +kernel, rfl, mw_609, by decide, by decide +kernel, by decide +kernel⟩
theorem okm_92 : okM 92 := ⟨by decide +kernel, rfl, mw_622, by decide, by decide +kernel, by decide +kernel⟩
theorem okm_93 : okM 93 := ⟨by decide +kernel, rfl, mw_593, by decide, by decide +kernel, by decide +kernel⟩
theorem okm_94 : okM 94 := ⟨by decide +kernel, rfl, mw_627, by decide, by decide +kernel, by decide +kernel⟩
theorem okm_95 : okM 95 := ⟨by decide +kernel, rfl, mw_613, by decide, by decide +kernel, by decide +kernel⟩
theorem okm_96 : okM 96 := ⟨by decide +kernel, rfl, mw_248, by decide, by decide +kernel, by decide +kernel⟩
theorem okm_97 : okM 97 := ⟨by decide +kernel, rfl, mw_252, by decide, by decide +kernel, by decide +kernel⟩
theorem okm_98 : okM 98 := ⟨by decide +kernel, rfl, mw_313, by decide, by decide +kernel, by decide +kernel⟩
theorem okm_99 : okM 99 := ⟨by decide +kernel, rfl, mw_326, by decide, by decide +kernel, by decide +kernel⟩
theorem okm_100 : okM 100 := ⟨by decide +kernel, rfl, mw_339, by decide, by decide +kernel, by decide +kernel⟩
theorem okm_101 : okM 101 := ⟨by decide +kernel, rfl, mw_510, by decide, by decide +kernel, by decide +kernel⟩
theorem okm_102 : okM 102 := ⟨by decide +kernel, rfl, mw_542, by decide, by decide +kernel, by decide +kernel⟩
theorem okm_103 : okM 103 := ⟨by decide +kernel, rfl, mw_513, by decide, by decide +kernel, by decide +kernel⟩
theorem okm_104 : okM 104 := ⟨by decide +kernel, rfl, mw_516, by decide, by decide +kernel, by decide +kernel⟩
theorem okm_106 : okM 106 := ⟨by decide +kernel, rfl, mw_263, by decide, by decide +kernel, by decide +kernel⟩
theorem sw_ok0 : okI 23 1 62 0 143 0 := oi_table (lo := 0) (n := 10) (offs := #[55, 61, 61, 61, 83, 90, 113, 136, 55, 55]) (len := 55) (d := 142) (by decide +kernel) (by decide) (by decide +kernel) (by decide +kernel)
theorem sw_ok1 : okI 48 45 62 1 295 0 := oi_table (lo := 0) (n := 9) (offs := #[51, 76, 121, 166, 177, 187, 222, 233, 241]) (len := 51) (d := 250) (by decide +kernel) (by decide) (by decide +kernel) (by decide +kernel)
theorem sw_ok2 : okI 69 16 62 2 65 0 := oi_look (ps := #[(6, 28), (8, 38)]) (len := 28) (d := 49) (by decide +kernel) (by decide +kernel) (by decide) (by decide +kernel)
theorem sw_ok3 : okI 70 16 62 3 65 0 := oi_table (lo := 3) (n := 5) (offs := #[45, 49, 49, 47, 36]) (len := 36) (d := 49) (by decide +kernel) (by decide) (by decide +kernel) (by decide +kernel)
theorem sw_ok4 : okI 87 38 62 4 205 0 := oi_table (lo := 0) (n := 9) (offs := #[50, 60, 80, 100, 110, 118, 141, 151, 159]) (len := 50) (d := 167) (by decide +kernel) (by decide) (by decide +kernel) (by decide +kernel)
theorem sw_ok5 : okI 101 1 62 5 153 0 := oi_table (lo := 0) (n := 10) (offs := #[55, 60, 60, 60, 80, 85, 105, 128, 137, 55]) (len := 55) (d := 152) (by decide +kernel) (by decide) (by decide +kernel) (by decide +kernel)
theorem sw_ok6 : okI 105 40 62 6 809 0 := oi_table (lo := 0) (n := 14) (offs := #[72, 128, 165, 178, 270, 374, 478, 503, 540, 577, 614, 663, 743, 756]) (len := 72) (d := 769) (by decide +kernel) (by decide) (by decide +kernel) (by decide +kernel)
end
section
set_option maxRecDepth 20000 in
theorem ok_0 : ∀ pc e, k_0 pc = some e → okE 0 pc e := tn_ (tn_ (tn_ (tn_ (tl_ (oi_aload_n (k := 0) (by decide +kernel) rfl rfl)) (tl_ (oi_getfield (i := 10) (by decide +kernel) rfl ⟨_, _, _, rfl, by decide, mw_219⟩))) (tn_ (tl_ (oi_getfield (i := 32) (by decide +kernel) rfl ⟨_, _, _, rfl, by decide, mw_138⟩)) (tl_ (oi_iload_n (k := 1) (by decide +kernel) rfl rfl)))) (tn_ (tn_ (tl_ (oi_callV (i := 36) (by decide +kernel) rfl (by decide) (by decide) okm_76 (by decide) (by rfl) mw_233 mw_234 mw_235 mw_49 (by decide +kernel))) (tl_ (oi_ifne (f := 13) (by decide +kernel) (by decide) rfl))) (tn_ (tl_ (trivial)) (tn_ (tl_ (oi_aload_n (k := 0) (by decide +kernel) rfl rfl)) (tl_ (oi_getfield (i := 10) (by decide +kernel) rfl ⟨_, _, _, rfl, by decide, mw_219⟩)))))) (tn_ (tn_ (tn_ (tl_ (oi_getfield (i := 32) (by decide +kernel) rfl ⟨_, _, _, rfl, by decide, mw_138⟩)) (tl_ (oi_callV (i := 49) (by decide +kernel) rfl (by decide) (by decide) okm_77 (by decide) (by rfl) mw_453 mw_454 mw_455 mw_49 (by decide +kernel)))) (tn_ (tl_ (oi_ifeq (f := 13) (by decide +kernel) (by decide) rfl)) (tn_ (tl_ (trivial)) (tl_ (oi_aload_n (k := 0) (by decide +kernel) rfl rfl))))) (tn_ (tn_ (tl_ (oi_getfield (i := 10) (by decide +kernel) rfl ⟨_, _, _, rfl, by decide, mw_219⟩)) (tl_ (oi_getfield (i := 32) (by decide +kernel) rfl ⟨_, _, _, rfl, by decide, mw_138⟩))) (tn_ (tl_ (oi_iload_n (k := 1) (by decide +kernel) rfl rfl)) (tn_ (tl_ (oi_callV (i := 58) (by decide +kernel) rfl (by decide) (by decide) okm_79 (by decide) (by rfl) mw_473 mw_474 mw_475 mw_49 (by decide +kernel))) (tl_ (oi_ireturnI (by decide +kernel) rfl))))))
set_option maxRecDepth 20000 in
theorem ok_1 : ∀ pc e, k_1 pc = some e → okE 1 pc e := tn_ (tn_ (tn_ (tn_ (tl_ (oi_aload_n (k := 0) (by decide +kernel) rfl rfl)) (tl_ (oi_getfield (i := 10) (by decide +kernel) rfl ⟨_, _, _, rfl, by decide, mw_219⟩))) (tn_ (tl_ (oi_getfield (i := 32) (by decide +kernel) rfl ⟨_, _, _, rfl, by decide, mw_138⟩)) (tn_ (tl_ (oi_iload_n (k := 1) (by decide +kernel) rfl rfl)) (tl_ (oi_callV (i := 36) (by decide +kernel) rfl (by decide) (by decide) okm_76 (by decide) (by rfl) mw_233 mw_234 mw_235 mw_49 (by decide +kernel)))))) (tn_ (tn_ (tl_ (oi_ifeq (f := 36) (by decide +kernel) (by decide) rfl)) (tn_ (tl_ (oi_aload_n (k := 0) (by decide +kernel) rfl rfl)) (tl_ (oi_getfield (i := 10) (by decide +kernel) rfl ⟨_, _, _, rfl, by decide, mw_219⟩)))) (tn_ (tl_ (oi_getfield (i := 32) (by decide +kernel) rfl ⟨_, _, _, rfl, by decide, mw_138⟩)) (tn_ (tl_ (oi_iload_n (k := 2) (by decide +kernel) rfl rfl)) (tl_ (oi_callV (i := 36) (by decide +kernel) rfl (by decide) (by decide) okm_76 (by decide) (by rfl) mw_233 mw_234 mw_235 mw_49 (by decide +kernel))))))) (tn_ (tn_ (tn_ (tl_ (oi_ifeq (f := 22) (by decide +kernel) (by decide) rfl)) (tn_ (tl_ (oi_aload_n (k := 0) (by decide +kernel) rfl rfl)) (tl_ (oi_getfield (i := 10) (by decide +kernel) rfl ⟨_, _, _, rfl, by decide, mw_219⟩)))) (tn_ (tl_ (oi_getfield (i := 32) (by decide +kernel) rfl ⟨_, _, _, rfl, by decide, mw_138⟩)) (tn_ (tl_ (oi_iload_n (k := 1) (by decide +kernel) rfl rfl)) (tl_ (oi_iload_n (k := 2) (by decide +kernel) rfl rfl))))) (tn_ (tn_ (tl_ (oi_callV (i := 62) (by decide +kernel) rfl (by decide) (by decide) okm_78 (by decide) (by rfl) mw_237 mw_238 mw_239 mw_49 (by decide +kernel))) (tn_ (tl_ (oi_ifeq (f := 7) (by decide +kernel) (by decide) rfl)) (tl_ (oi_iconst (n := 1) (by decide +kernel) (by decide +kernel) rfl)))) (tn_ (tl_ (oi_goto (f := 4) (by decide +kernel) (by decide))) (tn_ (tl_ (oi_iconst (n := 0) (by decide +kernel) (by decide +kernel) rfl)) (tl_ (oi_ireturnZ (by decide +kernel) rfl))))))
set_option maxRecDepth 20000 in
theorem ok_2 : ∀ pc e, k_2 pc = some e → okE 2 pc e := tn_ (tn_ (tn_ (tl_ (oi_aload_n (k := 0) (by decide +kernel) rfl rfl)) (tl_ (oi_getfield (i := 10) (by decide +kernel) rfl ⟨_, _, _, rfl, by decide, mw_219⟩))) (tn_ (tl_ (oi_callV (i := 66) (by decide +kernel) rfl (by decide) (by decide) okm_96 (by decide) (by rfl) mw_245 mw_246 mw_247 mw_48 (by decide +kernel))) (tn_ (tl_ (oi_ifeq (f := 7) (by decide +kernel) (by decide) rfl)) (tl_ (oi_m1 (by decide +kernel) rfl))))) (tn_ (tn_ (tl_ (oi_goto (f := 10) (by decide +kernel) (by decide))) (tl_ (oi_aload_n (k := 0) (by decide +kernel) rfl rfl))) (tn_ (tl_ (oi_getfield (i := 10) (by decide +kernel) rfl ⟨_, _, _, rfl, by decide, mw_219⟩)) (tn_ (tl_ (oi_callV (i := 67) (by decide +kernel) rfl (by decide) (by decide) okm_97 (by decide) (by rfl) mw_249 mw_250 mw_251 mw_48 (by decide +kernel))) (tl_ (oi_ireturnI (by decide +kernel) rfl)))))
set_option maxRecDepth 20000 in
theorem ok_3 : ∀ pc e, k_3 pc = some e → okE 3 pc e := tn_ (tn_ (tn_ (tn_ (tn_ (tl_ (oi_aload_n (k := 0) (by decide +kernel) rfl rfl)) (tl_ (oi_getfield (i := 10) (by decide +kernel) rfl ⟨_, _, _, rfl, by decide, mw_219⟩))) (tn_ (tl_ (oi_iload_n (k := 1) (by decide +kernel) rfl rfl)) (tl_ (oi_callV (i := 71) (by decide +kernel) rfl (by decide) (by decide) okm_98 (by decide) (by rfl) mw_310 mw_311 mw_312 mw_48 (by decide +kernel))))) (tn_ (tn_ (tl_ (oi_ifne (f := 13) (by decide +kernel) (by decide) rfl)) (tl_ (trivial))) (tn_ (tl_ (oi_aload_n (k := 0) (by decide +kernel) rfl rfl)) (tl_ (oi_getfield (i := 10) (by decide +kernel) rfl ⟨_, _, _, rfl, by decide, mw_219⟩))))) (tn_ (tn_ (tn_ (tl_ (oi_getfield (i := 79) (by decide +kernel) rfl ⟨_, _, _, rfl, by decide, mw_142⟩)) (tl_ (oi_iload_n (k := 1) (by decide +kernel) rfl rfl))) (tn_ (tl_ (oi_aald (by decide +kernel) rfl)) (tl_ (oi_astore (by decide) (by decide +kernel) rfl)))) (tn_ (tn_ (tl_ (oi_aload (by decide +kernel) rfl)) (tl_ (oi_callV (i := 83) (by decide +kernel) rfl (by decide) (by decide) okm_52 (by decide) (by rfl) mw_502 mw_503 mw_504 mw_50 (by decide +kernel)))) (tn_ (tl_ (oi_ifeq (f := 13) (by decide +kernel) (by decide) rfl)) (tn_ (tl_ (trivial)) (tl_ (oi_aload_n (k := 0) (by decide +kernel) rfl rfl))))))) (tn_ (tn_ (tn_ (tn_ (tl_ (oi_getfield (i := 10) (by decide +kernel) rfl ⟨_, _, _, rfl, by decide, mw_219⟩)) (tl_ (oi_iload_n (k := 2) (by decide +kernel) rfl rfl))) (tn_ (tl_ (oi_iload_n (k := 3) (by decide +kernel) rfl rfl)) (tl_ (oi_iload (by decide +kernel) rfl)))) (tn_ (tn_ (tl_ (oi_callV (i := 88) (by decide +kernel) rfl (by decide) (by decide) okm_101 (by decide) (by rfl) mw_507 mw_508 mw_509 mw_48 (by decide +kernel))) (tl_ (oi_ifne (f := 13) (by decide +kernel) (by decide) rfl))) (tn_ (tl_ (trivial)) (tl_ (oi_aload_n (k := 0) (by decide +kernel) rfl rfl))))) (tn_ (tn_ (tn_ (tl_ (oi_getfield (i := 21) (by decide +kernel) rfl ⟨_, _, _, rfl, by decide, mw_220⟩)) (tl_ (oi_iconst (n := 1) (by decide +kernel) (by decide +kernel) rfl))) (tn_ (tl_ (oi_putz (i := 94) (by decide +kernel) rfl ⟨_, _, _, rfl, by decide, mw_161, rfl, by decide +kernel⟩)) (tl_ (oi_aload (by decide +kernel) rfl)))) (tn_ (tn_ (tl_ (oi_iload_n (k := 2) (by decide +kernel) rfl rfl)) (tl_ (oi_iload_n (k := 3) (by decide +kernel) rfl rfl))) (tn_ (tl_ (oi_iload (by decide +kernel) rfl)) (tn_ (tl_ (oi_callV (i := 98) (by decide +kernel) rfl (by decide) (by decide) okm_54 (by decide) (by rfl) mw_519 mw_520 mw_521 mw_50 (by decide +kernel))) (tl_ (oi_ireturnI (by decide +kernel) rfl)))))))
set_option maxRecDepth 20000 in
theorem ok_4 : ∀ pc e, k_4 pc = some e → okE 4 pc e := tn_ (tn_ (tn_ (tn_ (tn_ (tl_ (oi_aload_n (k := 0) (by decide +kernel) rfl rfl)) (tl_ (oi_getfield (i := 10) (by decide +kernel) rfl ⟨_, _, _, rfl, by decide, mw_219⟩))) (tn_ (tl_ (oi_iload_n (k := 1) (by decide +kernel) rfl rfl)) (tl_ (oi_callV (i := 71) (by decide +kernel) rfl (by decide) (by decide) okm_98 (by decide) (by rfl) mw_310 mw_311 mw_312 mw_48 (by decide +kernel))))) (tn_ (tn_ (tl_ (oi_ifne (f := 13) (by decide +kernel) (by decide) rfl)) (tl_ (trivial))) (tn_ (tl_ (oi_aload_n (k := 0) (by decide +kernel) rfl rfl)) (tn_ (tl_ (oi_getfield (i := 10) (by decide +kernel) rfl ⟨_, _, _, rfl, by decide, mw_219⟩)) (tl_ (oi_getfield (i := 79) (by decide +kernel) rfl ⟨_, _, _, rfl, by decide, mw_142⟩)))))) (tn_ (tn_ (tn_ (tl_ (oi_iload_n (k := 1) (by decide +kernel) rfl rfl)) (tl_ (oi_aald (by decide +kernel) rfl))) (tn_ (tl_ (oi_astore (by decide) (by decide +kernel) rfl)) (tl_ (oi_aload (by decide +kernel) rfl)))) (tn_ (tn_ (tl_ (oi_callV (i := 102) (by decide +kernel) rfl (by decide) (by decide) okm_53 (by decide) (by rfl) mw_534 mw_535 mw_536 mw_50 (by decide +kernel))) (tl_ (oi_ifeq (f := 13) (by decide +kernel) (by decide) rfl))) (tn_ (tl_ (trivial)) (tn_ (tl_ (oi_aload_n (k := 0) (by decide +kernel) rfl rfl)) (tl_ (oi_getfield (i := 10) (by decide +kernel) rfl ⟨_, _, _, rfl, by decide, mw_219⟩))))))) (tn_ (tn_ (tn_ (tn_ (tl_ (oi_iload_n (k := 2) (by decide +kernel) rfl rfl)) (tl_ (oi_iload_n (k := 3) (by decide +kernel) rfl rfl))) (tn_ (tl_ (oi_iload (by decide +kernel) rfl)) (tl_ (oi_iload (by decide +kernel) rfl)))) (tn_ (tn_ (tl_ (oi_callV (i := 107) (by decide +kernel) rfl (by decide) (by decide) okm_102 (by decide) (by rfl) mw_539 mw_540 mw_541 mw_48 (by decide +kernel))) (tl_ (oi_ifne (f := 13) (by decide +kernel) (by decide) rfl))) (tn_ (tl_ (trivial)) (tn_ (tl_ (oi_aload_n (k := 0) (by decide +kernel) rfl rfl)) (tl_ (oi_getfield (i := 21) (by decide +kernel) rfl ⟨_, _, _, rfl, by decide, mw_220⟩)))))) (tn_ (tn_ (tn_ (tl_ (oi_iconst (n := 1) (by decide +kernel) (by decide +kernel) rfl)) (tl_ (oi_putz (i := 94) (by decide +kernel) rfl ⟨_, _, _, rfl, by decide, mw_161, rfl, by decide +kernel⟩))) (tn_ (tl_ (oi_aload (by decide +kernel) rfl)) (tl_ (oi_iload_n (k := 2) (by decide +kernel) rfl rfl)))) (tn_ (tn_ (tl_ (oi_iload_n (k := 3) (by decide +kernel) rfl rfl)) (tl_ (oi_iload (by decide +kernel) rfl))) (tn_ (tl_ (oi_iload (by decide +kernel) rfl)) (tn_ (tl_ (oi_callV (i := 113) (by decide +kernel) rfl (by decide) (by decide) okm_56 (by decide) (by rfl) mw_544 mw_545 mw_546 mw_50 (by decide +kernel))) (tl_ (oi_ireturnI (by decide +kernel) rfl)))))))
set_option maxRecDepth 20000 in
theorem ok_5 : ∀ pc e, k_5 pc = some e → okE 5 pc e := tn_ (tn_ (tn_ (tn_ (tn_ (tl_ (oi_aload_n (k := 0) (by decide +kernel) rfl rfl)) (tl_ (oi_getfield (i := 10) (by decide +kernel) rfl ⟨_, _, _, rfl, by decide, mw_219⟩))) (tn_ (tl_ (oi_iload_n (k := 1) (by decide +kernel) rfl rfl)) (tl_ (oi_iload_n (k := 2) (by decide +kernel) rfl rfl)))) (tn_ (tn_ (tl_ (oi_callV (i := 117) (by decide +kernel) rfl (by decide) (by decide) okm_99 (by decide) (by rfl) mw_323 mw_324 mw_325 mw_48 (by decide +kernel))) (tl_ (oi_ifne (f := 13) (by decide +kernel) (by decide) rfl))) (tn_ (tl_ (trivial)) (tn_ (tl_ (oi_aload_n (k := 0) (by decide +kernel) rfl rfl)) (tl_ (oi_getfield (i := 10) (by decide +kernel) rfl ⟨_, _, _, rfl, by decide, mw_219⟩)))))) (tn_ (tn_ (tn_ (tl_ (oi_iload_n (k := 3) (by decide +kernel) rfl rfl)) (tl_ (oi_iload (by decide +kernel) rfl))) (tn_ (tl_ (oi_iload (by decide +kernel) rfl)) (tn_ (tl_ (oi_callV (i := 88) (by decide +kernel) rfl (by decide) (by decide) okm_101 (by decide) (by rfl) mw_507 mw_508 mw_509 mw_48 (by decide +kernel))) (tl_ (oi_ifne (f := 13) (by decide +kernel) (by decide) rfl))))) (tn_ (tn_ (tl_ (trivial)) (tl_ (oi_aload_n (k := 0) (by decide +kernel) rfl rfl))) (tn_ (tl_ (oi_getfield (i := 10) (by decide +kernel) rfl ⟨_, _, _, rfl, by decide, mw_219⟩)) (tn_ (tl_ (oi_getfield (i := 79) (by decide +kernel) rfl ⟨_, _, _, rfl, by decide, mw_142⟩)) (tl_ (oi_iload_n (k := 1) (by decide +kernel) rfl rfl))))))) (tn_ (tn_ (tn_ (tn_ (tl_ (oi_aald (by decide +kernel) rfl)) (tl_ (oi_astore (by decide) (by decide +kernel) rfl))) (tn_ (tl_ (oi_aload (by decide +kernel) rfl)) (tl_ (oi_getfield (i := 122) (by decide +kernel) rfl ⟨_, _, _, rfl, by decide, mw_98⟩)))) (tn_ (tn_ (tl_ (oi_iload_n (k := 2) (by decide +kernel) rfl rfl)) (tl_ (oi_iald (by decide +kernel) rfl))) (tn_ (tl_ (oi_istore (by decide) (by decide +kernel) rfl)) (tn_ (tl_ (oi_aload (by decide +kernel) rfl)) (tl_ (oi_iload_n (k := 2) (by decide +kernel) rfl rfl)))))) (tn_ (tn_ (tn_ (tl_ (oi_iload_n (k := 3) (by decide +kernel) rfl rfl)) (tl_ (oi_iload (by decide +kernel) rfl))) (tn_ (tl_ (oi_iload (by decide +kernel) rfl)) (tn_ (tl_ (oi_callV (i := 126) (by decide +kernel) rfl (by decide) (by decide) okm_55 (by decide) (by rfl) mw_556 mw_524 mw_525 mw_50 (by decide +kernel))) (tl_ (oi_aload_n (k := 0) (by decide +kernel) rfl rfl))))) (tn_ (tn_ (tl_ (oi_getfield (i := 21) (by decide +kernel) rfl ⟨_, _, _, rfl, by decide, mw_220⟩)) (tl_ (oi_iconst (n := 1) (by decide +kernel) (by decide +kernel) rfl))) (tn_ (tl_ (oi_putz (i := 94) (by decide +kernel) rfl ⟨_, _, _, rfl, by decide, mw_161, rfl, by decide +kernel⟩)) (tn_ (tl_ (oi_iload (by decide +kernel) rfl)) (tl_ (oi_ireturnI (by decide +kernel) rfl)))))))
set_option maxRecDepth 20000 in
theorem ok_6 : ∀ pc e, k_6 pc = some e → okE 6 pc e := tn_ (tn_ (tn_ (tn_ (tl_ (oi_aload_n (k := 0) (by decide +kernel) rfl rfl)) (tl_ (oi_getfield (i := 21) (by decide +kernel) rfl ⟨_, _, _, rfl, by decide, mw_220⟩))) (tn_ (tl_ (oi_callV (i := 130) (by decide +kernel) rfl (by decide) (by decide) okm_71 (by decide) (by rfl) mw_257 mw_258 mw_259 mw_51 (by decide +kernel))) (tl_ (oi_aload_n (k := 0) (by decide +kernel) rfl rfl)))) (tn_ (tn_ (tl_ (oi_getfield (i := 10) (by decide +kernel) rfl ⟨_, _, _, rfl, by decide, mw_219⟩)) (tl_ (oi_iload_n (k := 1) (by decide +kernel) rfl rfl))) (tn_ (tl_ (oi_callV (i := 71) (by decide +kernel) rfl (by decide) (by decide) okm_98 (by decide) (by rfl) mw_310 mw_311 mw_312 mw_48 (by decide +kernel))) (tl_ (oi_ifeq (f := 17) (by decide +kernel) (by decide) rfl))))) (tn_ (tn_ (tn_ (tl_ (oi_aload_n (k := 0) (by decide +kernel) rfl rfl)) (tl_ (oi_getfield (i := 21) (by decide +kernel) rfl ⟨_, _, _, rfl, by decide, mw_220⟩))) (tn_ (tl_ (oi_iload_n (k := 1) (by decide +kernel) rfl rfl)) (tl_ (oi_callS (i := 133) (by decide +kernel) rfl (by decide) (by decide) okm_60 mw_314 mw_293 mw_51 (by decide +kernel))))) (tn_ (tn_ (tl_ (oi_callV (i := 136) (by decide +kernel) rfl (by decide) (by decide) okm_62 (by decide) (by rfl) mw_315 mw_316 mw_317 mw_51 (by decide +kernel))) (tl_ (oi_goto (f := 4) (by decide +kernel) (by decide)))) (tn_ (tl_ (oi_iconst (n := 0) (by decide +kernel) (by decide +kernel) rfl)) (tl_ (oi_ireturnI (by decide +kernel) rfl)))))
set_option maxRecDepth 20000 in
theorem ok_7 : ∀ pc e, k_7 pc = some e → okE 7 pc e := tn_ (tn_ (tn_ (tn_ (tl_ (oi_aload_n (k := 0) (by decide +kernel) rfl rfl)) (tl_ (oi_getfield (i := 21) (by decide +kernel) rfl ⟨_, _, _, rfl, by decide, mw_220⟩))) (tn_ (tl_ (oi_callV (i := 130) (by decide +kernel) rfl (by decide) (by decide) okm_71 (by decide) (by rfl) mw_257 mw_258 mw_259 mw_51 (by decide +kernel))) (tl_ (oi_aload_n (k := 0) (by decide +kernel) rfl rfl)))) (tn_ (tn_ (tl_ (oi_getfield (i := 10) (by decide +kernel) rfl ⟨_, _, _, rfl, by decide, mw_219⟩)) (tl_ (oi_iload_n (k := 1) (by decide +kernel) rfl rfl))) (tn_ (tl_ (oi_iload_n (k := 2) (by decide +kernel) rfl rfl)) (tl_ (oi_callV (i := 117) (by decide +kernel) rfl (by decide) (by decide) okm_99 (by decide) (by rfl) mw_323 mw_324 mw_325 mw_48 (by decide +kernel)))))) (tn_ (tn_ (tn_ (tl_ (oi_ifeq (f := 15) (by decide +kernel) (by decide) rfl)) (tl_ (oi_aload_n (k := 0) (by decide +kernel) rfl rfl))) (tn_ (tl_ (oi_getfield (i := 21) (by decide +kernel) rfl ⟨_, _, _, rfl, by decide, mw_220⟩)) (tl_ (oi_iload_n (k := 1) (by decide +kernel) rfl rfl)))) (tn_ (tn_ (tl_ (oi_iload_n (k := 2) (by decide +kernel) rfl rfl)) (tl_ (oi_callV (i := 139) (by decide +kernel) rfl (by decide) (by decide) okm_63 (by decide) (by rfl) mw_328 mw_329 mw_330 mw_51 (by decide +kernel)))) (tn_ (tl_ (oi_goto (f := 4) (by decide +kernel) (by decide))) (tn_ (tl_ (oi_iconst (n := 0) (by decide +kernel) (by decide +kernel) rfl)) (tl_ (oi_ireturnI (by decide +kernel) rfl))))))
set_option maxRecDepth 20000 in
theorem ok_8 : ∀ pc e, k_8 pc = some e → okE 8 pc e := tn_ (tn_ (tn_ (tn_ (tl_ (oi_aload_n (k := 0) (by decide +kernel) rfl rfl)) (tl_ (oi_getfield (i := 21) (by decide +kernel) rfl ⟨_, _, _, rfl, by decide, mw_220⟩))) (tn_ (tl_ (oi_callV (i := 130) (by decide +kernel) rfl (by decide) (by decide) okm_71 (by decide) (by rfl) mw_257 mw_258 mw_259 mw_51 (by decide +kernel))) (tl_ (oi_aload_n (k := 0) (by decide +kernel) rfl rfl)))) (tn_ (tn_ (tl_ (oi_getfield (i := 10) (by decide +kernel) rfl ⟨_, _, _, rfl, by decide, mw_219⟩)) (tl_ (oi_iload_n (k := 1) (by decide +kernel) rfl rfl))) (tn_ (tl_ (oi_iload_n (k := 2) (by decide +kernel) rfl rfl)) (tn_ (tl_ (oi_callV (i := 143) (by decide +kernel) rfl (by decide) (by decide) okm_100 (by decide) (by rfl) mw_336 mw_337 mw_338 mw_48 (by decide +kernel))) (tl_ (oi_ifeq (f := 18) (by decide +kernel) (by decide) rfl)))))) (tn_ (tn_ (tn_ (tl_ (oi_aload_n (k := 0) (by decide +kernel) rfl rfl)) (tl_ (oi_getfield (i := 21) (by decide +kernel) rfl ⟨_, _, _, rfl, by decide, mw_220⟩))) (tn_ (tl_ (oi_iload_n (k := 1) (by decide +kernel) rfl rfl)) (tl_ (oi_iload_n (k := 2) (by decide +kernel) rfl rfl)))) (tn_ (tn_ (tl_ (oi_callS (i := 146) (by decide +kernel) rfl (by decide) (by decide) okm_59 mw_340 mw_296 mw_51 (by decide +kernel))) (tl_ (oi_callV (i := 136) (by decide +kernel) rfl (by decide) (by decide) okm_62 (by decide) (by rfl) mw_315 mw_316 mw_317 mw_51 (by decide +kernel)))) (tn_ (tl_ (oi_goto (f := 4) (by decide +kernel) (by decide))) (tn_ (tl_ (oi_iconst (n := 0) (by decide +kernel) (by decide +kernel) rfl)) (tl_ (oi_ireturnI (by decide +kernel) rfl))))))
set_option maxRecDepth 20000 in
theorem ok_9 : ∀ pc e, k_9 pc = some e → okE 9 pc e := tn_ (tn_ (tn_ (tl_ (oi_aload_n (k := 0) (by decide +kernel) rfl rfl)) (tl_ (oi_getfield (i := 21) (by decide +kernel) rfl ⟨_, _, _, rfl, by decide, mw_220⟩))) (tn_ (tl_ (oi_callV (i := 130) (by decide +kernel) rfl (by decide) (by decide) okm_71 (by decide) (by rfl) mw_257 mw_258 mw_259 mw_51 (by decide +kernel))) (tl_ (oi_aload_n (k := 0) (by decide +kernel) rfl rfl)))) (tn_ (tn_ (tl_ (oi_getfield (i := 21) (by decide +kernel) rfl ⟨_, _, _, rfl, by decide, mw_220⟩)) (tl_ (oi_iload_n (k := 1) (by decide +kernel) rfl rfl))) (tn_ (tl_ (oi_iload_n (k := 2) (by decide +kernel) rfl rfl)) (tn_ (tl_ (oi_callV (i := 149) (by decide +kernel) rfl (by decide) (by decide) okm_64 (by decide) (by rfl) mw_345 mw_346 mw_347 mw_51 (by decide +kernel))) (tl_ (oi_ireturnI (by decide +kernel) rfl)))))
set_option maxRecDepth 20000 in
theorem ok_10 : ∀ pc e, k_10 pc = some e → okE 10 pc e := tn_ (tn_ (tn_ (tn_ (tl_ (oi_aload_n (k := 0) (by decide +kernel) rfl rfl)) (tn_ (tl_ (oi_getfield (i := 21) (by decide +kernel) rfl ⟨_, _, _, rfl, by decide, mw_220⟩)) (tl_ (oi_callV (i := 130) (by decide +kernel) rfl (by decide) (by decide) okm_71 (by decide) (by rfl) mw_257 mw_258 mw_259 mw_51 (by decide +kernel))))) (tn_ (tl_ (oi_iload_n (k := 3) (by decide +kernel) rfl rfl)) (tn_ (tl_ (oi_iflt (f := 20) (by decide +kernel) (by decide) rfl)) (tl_ (oi_iload_n (k := 3) (by decide +kernel) rfl rfl))))) (tn_ (tn_ (tl_ (oi_aload_n (k := 0) (by decide +kernel) rfl rfl)) (tn_ (tl_ (oi_getfield (i := 21) (by decide +kernel) rfl ⟨_, _, _, rfl, by decide, mw_220⟩)) (tl_ (oi_iload_n (k := 1) (by decide +kernel) rfl rfl)))) (tn_ (tn_ (tl_ (oi_iload_n (k := 2) (by decide +kernel) rfl rfl)) (tl_ (oi_callV (i := 149) (by decide +kernel) rfl (by decide) (by decide) okm_64 (by decide) (by rfl) mw_345 mw_346 mw_347 mw_51 (by decide +kernel)))) (tn_ (tl_ (oi_if_icmpge (f := 7) (by decide +kernel) (by decide) rfl)) (tl_ (oi_iconst (n := 1) (by decide +kernel) (by decide +kernel) rfl)))))) (tn_ (tn_ (tn_ (tl_ (oi_goto (f := 4) (by decide +kernel) (by decide))) (tn_ (tl_ (oi_iconst (n := 0) (by decide +kernel) (by decide +kernel) rfl)) (tl_ (oi_istore (by decide) (by decide +kernel) rfl)))) (tn_ (tn_ (tl_ (oi_iload (by decide +kernel) rfl)) (tl_ (oi_ifeq (f := 16) (by decide +kernel) (by decide) rfl))) (tn_ (tl_ (oi_aload_n (k := 0) (by decide +kernel) rfl rfl)) (tl_ (oi_getfield (i := 21) (by decide +kernel) rfl ⟨_, _, _, rfl, by decide, mw_220⟩))))) (tn_ (tn_ (tl_ (oi_iload_n (k := 1) (by decide +kernel) rfl rfl)) (tn_ (tl_ (oi_iload_n (k := 2) (by decide +kernel) rfl rfl)) (tl_ (oi_iload_n (k := 3) (by decide +kernel) rfl rfl)))) (tn_ (tn_ (tl_ (oi_callV (i := 152) (by decide +kernel) rfl (by decide) (by decide) okm_65 (by decide) (by rfl) mw_363 mw_364 mw_365 mw_51 (by decide +kernel))) (tl_ (oi_goto (f := 4) (by decide +kernel) (by decide)))) (tn_ (tl_ (oi_m1 (by decide +kernel) rfl)) (tl_ (oi_ireturnI (by decide +kernel) rfl))))))
set_option maxRecDepth 20000 in
theorem ok_11 : ∀ pc e, k_11 pc = some e → okE 11 pc e := tn_ (tn_ (tn_ (tn_ (tn_ (tl_ (oi_aload_n (k := 0) (by decide +kernel) rfl rfl)) (tl_ (oi_getfield (i := 10) (by decide +kernel) rfl ⟨_, _, _, rfl, by decide, mw_219⟩))) (tn_ (tl_ (oi_iload_n (k := 1) (by decide +kernel) rfl rfl)) (tl_ (oi_callV (i := 71) (by decide +kernel) rfl (by decide) (by decide) okm_98 (by decide) (by rfl) mw_310 mw_311 mw_312 mw_48 (by decide +kernel))))) (tn_ (tn_ (tl_ (oi_ifne (f := 13) (by decide +kernel) (by decide) rfl)) (tl_ (trivial))) (tn_ (tl_ (oi_iload_n (k := 3) (by decide +kernel) rfl rfl)) (tl_ (oi_iflt (f := 10) (by decide +kernel) (by decide) rfl))))) (tn_ (tn_ (tn_ (tl_ (oi_iload_n (k := 3) (by decide +kernel) rfl rfl)) (tl_ (oi_sipush (n := 3000) (by decide +kernel) (by decide +kernel) rfl))) (tn_ (tl_ (oi_if_icmple (f := 13) (by decide +kernel) (by decide) rfl)) (tl_ (trivial)))) (tn_ (tn_ (tl_ (oi_aload_n (k := 0) (by decide +kernel) rfl rfl)) (tl_ (oi_getfield (i := 28) (by decide +kernel) rfl ⟨_, _, _, rfl, by decide, mw_221⟩))) (tn_ (tl_ (oi_iload_n (k := 1) (by decide +kernel) rfl rfl)) (tl_ (oi_iload_n (k := 2) (by decide +kernel) rfl rfl)))))) (tn_ (tn_ (tn_ (tn_ (tl_ (oi_iload_n (k := 3) (by decide +kernel) rfl rfl)) (tl_ (oi_callV (i := 157) (by decide +kernel) rfl (by decide) (by decide) okm_81 (by decide) (by rfl) mw_566 mw_567 mw_568 mw_52 (by decide +kernel)))) (tn_ (tl_ (oi_aload_n (k := 0) (by decide +kernel) rfl rfl)) (tl_ (oi_getfield (i := 28) (by decide +kernel) rfl ⟨_, _, _, rfl, by decide, mw_221⟩)))) (tn_ (tn_ (tl_ (oi_callV (i := 161) (by decide +kernel) rfl (by decide) (by decide) okm_80 (by decide) (by rfl) mw_628 mw_629 mw_630 mw_52 (by decide +kernel))) (tl_ (oi_ifeq (f := 13) (by decide +kernel) (by decide) rfl))) (tn_ (tl_ (trivial)) (tl_ (oi_aload_n (k := 0) (by decide +kernel) rfl rfl))))) (tn_ (tn_ (tn_ (tl_ (oi_getfield (i := 28) (by decide +kernel) rfl ⟨_, _, _, rfl, by decide, mw_221⟩)) (tl_ (oi_getfield (i := 169) (by decide +kernel) rfl ⟨_, _, _, rfl, by decide, mw_199⟩))) (tn_ (tl_ (oi_m1 (by decide +kernel) rfl)) (tl_ (oi_if_icmpeq (f := 13) (by decide +kernel) (by decide) rfl)))) (tn_ (tn_ (tl_ (trivial)) (tl_ (oi_aload_n (k := 0) (by decide +kernel) rfl rfl))) (tn_ (tl_ (oi_getfield (i := 28) (by decide +kernel) rfl ⟨_, _, _, rfl, by decide, mw_221⟩)) (tn_ (tl_ (oi_getfield (i := 175) (by decide +kernel) rfl ⟨_, _, _, rfl, by decide, mw_196⟩)) (tl_ (oi_ireturnI (by decide +kernel) rfl)))))))
set_option maxRecDepth 20000 in
theorem ok_12 : ∀ pc e, k_12 pc = some e → okE 12 pc e := tn_ (tn_ (tl_ (oi_aload_n (k := 0) (by decide +kernel) rfl rfl)) (tl_ (oi_getfield (i := 28) (by decide +kernel) rfl ⟨_, _, _, rfl, by decide, mw_221⟩))) (tn_ (tl_ (oi_getfield (i := 178) (by decide +kernel) rfl ⟨_, _, _, rfl, by decide, mw_195⟩)) (tl_ (oi_ireturnI (by decide +kernel) rfl)))
set_option maxRecDepth 20000 in
theorem ok_13 : ∀ pc e, k_13 pc = some e → okE 13 pc e := tn_ (tn_ (tl_ (oi_aload_n (k := 0) (by decide +kernel) rfl rfl)) (tl_ (oi_getfield (i := 28) (by decide +kernel) rfl ⟨_, _, _, rfl, by decide, mw_221⟩))) (tn_ (tl_ (oi_getfield (i := 169) (by decide +kernel) rfl ⟨_, _, _, rfl, by decide, mw_199⟩)) (tl_ (oi_ireturnI (by decide +kernel) rfl)))
set_option maxRecDepth 20000 in
theorem ok_14 : ∀ pc e, k_14 pc = some e → okE 14 pc e := tn_ (tl_ (oi_aload_n (k := 0) (by decide +kernel) rfl rfl)) (tn_ (tl_ (oi_getfield (i := 66) (by decide +kernel) rfl ⟨_, _, _, rfl, by decide, mw_655⟩)) (tl_ (oi_ireturnI (by decide +kernel) rfl)))
set_option maxRecDepth 20000 in
theorem ok_15 : ∀ pc e, k_15 pc = some e → okE 15 pc e := tn_ (tn_ (tn_ (tl_ (oi_iload_n (k := 1) (by decide +kernel) rfl rfl)) (tl_ (oi_iflt (f := 15) (by decide +kernel) (by decide) rfl))) (tn_ (tl_ (oi_iload_n (k := 1) (by decide +kernel) rfl rfl)) (tn_ (tl_ (oi_aload_n (k := 0) (by decide +kernel) rfl rfl)) (tl_ (oi_getfield (i := 7) (by decide +kernel) rfl ⟨_, _, _, rfl, by decide, mw_656⟩))))) (tn_ (tn_ (tl_ (oi_if_icmpge (f := 7) (by decide +kernel) (by decide) rfl)) (tl_ (oi_iconst (n := 1) (by decide +kernel) (by decide +kernel) rfl))) (tn_ (tl_ (oi_goto (f := 4) (by decide +kernel) (by decide))) (tn_ (tl_ (oi_iconst (n := 0) (by decide +kernel) (by decide +kernel) rfl)) (tl_ (oi_ireturnZ (by decide +kernel) rfl)))))
set_option maxRecDepth 20000 in
theorem ok_16 : ∀ pc e, k_16 pc = some e → okE 16 pc e := tn_ (tn_ (tn_ (tn_ (tl_ (oi_iload_n (k := 1) (by decide +kernel) rfl rfl)) (tl_ (oi_istore_n (k := 3) (by decide) (by decide +kernel) rfl rfl))) (tn_ (tl_ (oi_iload_n (k := 3) (by decide +kernel) rfl rfl)) (tn_ (tl_ (oi_iflt (f := 18) (by decide +kernel) (by decide) rfl)) (tl_ (oi_iload_n (k := 3) (by decide +kernel) rfl rfl))))) (tn_ (tn_ (tl_ (oi_iload_n (k := 2) (by decide +kernel) rfl rfl)) (tl_ (oi_if_icmpeq (f := 13) (by decide +kernel) (by decide) rfl))) (tn_ (tl_ (oi_aload_n (k := 0) (by decide +kernel) rfl rfl)) (tn_ (tl_ (oi_getfield (i := 13) (by decide +kernel) rfl ⟨_, _, _, rfl, by decide, mw_657⟩)) (tl_ (oi_iload_n (k := 3) (by decide +kernel) rfl rfl)))))) (tn_ (tn_ (tn_ (tl_ (oi_iald (by decide +kernel) rfl)) (tl_ (oi_istore_n (k := 3) (by decide) (by decide +kernel) rfl rfl))) (tn_ (tl_ (oi_goto (f := -16) (by decide +kernel) (by decide))) (tn_ (tl_ (oi_iload_n (k := 3) (by decide +kernel) rfl rfl)) (tl_ (oi_iload_n (k := 2) (by decide +kernel) rfl rfl))))) (tn_ (tn_ (tl_ (oi_if_icmpne (f := 7) (by decide +kernel) (by decide) rfl)) (tl_ (oi_iconst (n := 1) (by decide +kernel) (by decide +kernel) rfl))) (tn_ (tl_ (oi_goto (f := 4) (by decide +kernel) (by decide))) (tn_ (tl_ (oi_iconst (n := 0) (by decide +kernel) (by decide +kernel) rfl)) (tl_ (oi_ireturnZ (by decide +kernel) rfl))))))
set_option maxRecDepth 20000 in
theorem ok_17 : ∀ pc e, k_17 pc = some e → okE 17 pc e := tn_ (tn_ (tn_ (tn_ (tn_ (tl_ (oi_aload_n (k := 0) (by decide +kernel) rfl rfl)) (tl_ (oi_aload_n (k := 0) (by decide +kernel) rfl rfl))) (tn_ (tl_ (oi_iload_n (k := 1) (by decide +kernel) rfl rfl)) (tn_ (tl_ (oi_callV (i := 69) (by decide +kernel) rfl (by decide) (by decide) okm_15 (by decide) (by rfl) mw_733 mw_735 mw_24 mw_53 (by decide +kernel))) (tl_ (oi_ifne (f := 7) (by decide +kernel) (by decide) rfl))))) (tn_ (tn_ (tl_ (oi_iconst (n := 1) (by decide +kernel) (by decide +kernel) rfl)) (tl_ (oi_goto (f := 17) (by decide +kernel) (by decide)))) (tn_ (tl_ (oi_aload_n (k := 0) (by decide +kernel) rfl rfl)) (tn_ (tl_ (oi_getfield (i := 7) (by decide +kernel) rfl ⟨_, _, _, rfl, by decide, mw_656⟩)) (tl_ (oi_bipush (n := 10) (by decide +kernel) (by decide +kernel) rfl)))))) (tn_ (tn_ (tn_ (tl_ (oi_if_icmpne (f := 7) (by decide +kernel) (by decide) rfl)) (tl_ (oi_iconst (n := 2) (by decide +kernel) (by decide +kernel) rfl))) (tn_ (tl_ (oi_goto (f := 4) (by decide +kernel) (by decide))) (tn_ (tl_ (oi_iconst (n := 0) (by decide +kernel) (by decide +kernel) rfl)) (tl_ (oi_putfield (i := 66) (by decide +kernel) rfl ⟨_, _, _, rfl, by decide, mw_655, rfl, by decide +kernel⟩))))) (tn_ (tn_ (tl_ (oi_aload_n (k := 0) (by decide +kernel) rfl rfl)) (tl_ (oi_getfield (i := 66) (by decide +kernel) rfl ⟨_, _, _, rfl, by decide, mw_655⟩))) (tn_ (tl_ (oi_ifle (f := 5) (by decide +kernel) (by decide) rfl)) (tn_ (tl_ (oi_iconst (n := 0) (by decide +kernel) (by decide +kernel) rfl)) (tl_ (oi_ireturnI (by decide +kernel) rfl))))))) (tn_ (tn_ (tn_ (tn_ (tl_ (oi_aload_n (k := 0) (by decide +kernel) rfl rfl)) (tl_ (oi_getfield (i := 13) (by decide +kernel) rfl ⟨_, _, _, rfl, by decide, mw_657⟩))) (tn_ (tl_ (oi_aload_n (k := 0) (by decide +kernel) rfl rfl)) (tn_ (tl_ (oi_getfield (i := 7) (by decide +kernel) rfl ⟨_, _, _, rfl, by decide, mw_656⟩)) (tl_ (oi_iload_n (k := 1) (by decide +kernel) rfl rfl))))) (tn_ (tn_ (tl_ (oi_iast (by decide +kernel) rfl)) (tl_ (oi_aload_n (k := 0) (by decide +kernel) rfl rfl))) (tn_ (tl_ (oi_dup (by decide +kernel) rfl)) (tn_ (tl_ (oi_getfield (i := 7) (by decide +kernel) rfl ⟨_, _, _, rfl, by decide, mw_656⟩)) (tl_ (oi_iconst (n := 1) (by decide +kernel) (by decide +kernel) rfl)))))) (tn_ (tn_ (tn_ (tl_ (oi_iadd (by decide +kernel) rfl)) (tl_ (oi_putfield (i := 7) (by decide +kernel) rfl ⟨_, _, _, rfl, by decide, mw_656, rfl, by decide +kernel⟩))) (tn_ (tl_ (oi_aload_n (k := 0) (by decide +kernel) rfl rfl)) (tn_ (tl_ (oi_iconst (n := 1) (by decide +kernel) (by decide +kernel) rfl)) (tl_ (oi_putz (i := 44) (by decide +kernel) rfl ⟨_, _, _, rfl, by decide, mw_668, rfl, by decide +kernel⟩))))) (tn_ (tn_ (tl_ (oi_aload_n (k := 0) (by decide +kernel) rfl rfl)) (tl_ (oi_getfield (i := 7) (by decide +kernel) rfl ⟨_, _, _, rfl, by decide, mw_656⟩))) (tn_ (tl_ (oi_iconst (n := 1) (by decide +kernel) (by decide +kernel) rfl)) (tn_ (tl_ (oi_isub (by decide +kernel) rfl)) (tl_ (oi_ireturnI (by decide +kernel) rfl)))))))
end
section
set_option maxRecDepth 20000 in
theorem ok_18 : ∀ pc e, k_18 pc = some e → okE 18 pc e := tn_ (tn_ (tn_ (tn_ (tl_ (oi_aload_n (k := 0) (by decide +kernel) rfl rfl)) (tl_ (oi_iconst (n := 0) (by decide +kernel) (by decide +kernel) rfl))) (tn_ (tl_ (oi_putfield (i := 66) (by decide +kernel) rfl ⟨_, _, _, rfl, by decide, mw_655, rfl, by decide +kernel⟩)) (tn_ (tl_ (oi_aload_n (k := 0) (by decide +kernel) rfl rfl)) (tl_ (oi_iload_n (k := 1) (by decide +kernel) rfl rfl))))) (tn_ (tn_ (tl_ (oi_callV (i := 69) (by decide +kernel) rfl (by decide) (by decide) okm_15 (by decide) (by rfl) mw_733 mw_735 mw_24 mw_53 (by decide +kernel))) (tl_ (oi_ifeq (f := 24) (by decide +kernel) (by decide) rfl))) (tn_ (tl_ (oi_aload_n (k := 0) (by decide +kernel) rfl rfl)) (tn_ (tl_ (oi_iload_n (k := 2) (by decide +kernel) rfl rfl)) (tl_ (oi_callV (i := 69) (by decide +kernel) rfl (by decide) (by decide) okm_15 (by decide) (by rfl) mw_733 mw_735 mw_24 mw_53 (by decide +kernel))))))) (tn_ (tn_ (tn_ (tl_ (oi_ifeq (f := 16) (by decide +kernel) (by decide) rfl)) (tl_ (oi_aload_n (k := 0) (by decide +kernel) rfl rfl))) (tn_ (tl_ (oi_iload_n (k := 1) (by decide +kernel) rfl rfl)) (tn_ (tl_ (oi_iload_n (k := 2) (by decide +kernel) rfl rfl)) (tl_ (oi_callV (i := 73) (by decide +kernel) rfl (by decide) (by decide) okm_16 (by decide) (by rfl) mw_741 mw_743 mw_25 mw_53 (by decide +kernel)))))) (tn_ (tn_ (tl_ (oi_ifeq (f := 7) (by decide +kernel) (by decide) rfl)) (tl_ (oi_iconst (n := 1) (by decide +kernel) (by decide +kernel) rfl))) (tn_ (tl_ (oi_goto (f := 4) (by decide +kernel) (by decide))) (tn_ (tl_ (oi_iconst (n := 0) (by decide +kernel) (by decide +kernel) rfl)) (tl_ (oi_ireturnZ (by decide +kernel) rfl))))))
set_option maxRecDepth 20000 in
theorem ok_19 : ∀ pc e, k_19 pc = some e → okE 19 pc e := tn_ (tn_ (tn_ (tl_ (oi_iload_n (k := 1) (by decide +kernel) rfl rfl)) (tl_ (oi_iflt (f := 15) (by decide +kernel) (by decide) rfl))) (tn_ (tl_ (oi_iload_n (k := 1) (by decide +kernel) rfl rfl)) (tn_ (tl_ (oi_aload_n (k := 0) (by decide +kernel) rfl rfl)) (tl_ (oi_getfield (i := 77) (by decide +kernel) rfl ⟨_, _, _, rfl, by decide, mw_658⟩))))) (tn_ (tn_ (tl_ (oi_if_icmpge (f := 7) (by decide +kernel) (by decide) rfl)) (tl_ (oi_iconst (n := 1) (by decide +kernel) (by decide +kernel) rfl))) (tn_ (tl_ (oi_goto (f := 4) (by decide +kernel) (by decide))) (tn_ (tl_ (oi_iconst (n := 0) (by decide +kernel) (by decide +kernel) rfl)) (tl_ (oi_ireturnZ (by decide +kernel) rfl)))))
set_option maxRecDepth 20000 in
theorem ok_20 : ∀ pc e, k_20 pc = some e → okE 20 pc e := tn_ (tn_ (tn_ (tn_ (tl_ (oi_aload_n (k := 0) (by decide +kernel) rfl rfl)) (tl_ (oi_iload_n (k := 1) (by decide +kernel) rfl rfl))) (tn_ (tl_ (oi_callV (i := 80) (by decide +kernel) rfl (by decide) (by decide) okm_19 (by decide) (by rfl) mw_753 mw_755 mw_26 mw_53 (by decide +kernel))) (tl_ (oi_ifeq (f := 21) (by decide +kernel) (by decide) rfl)))) (tn_ (tn_ (tl_ (oi_iload_n (k := 2) (by decide +kernel) rfl rfl)) (tl_ (oi_iflt (f := 17) (by decide +kernel) (by decide) rfl))) (tn_ (tl_ (oi_iload_n (k := 2) (by decide +kernel) rfl rfl)) (tl_ (oi_aload_n (k := 0) (by decide +kernel) rfl rfl))))) (tn_ (tn_ (tn_ (tl_ (oi_getfield (i := 17) (by decide +kernel) rfl ⟨_, _, _, rfl, by decide, mw_659⟩)) (tl_ (oi_iload_n (k := 1) (by decide +kernel) rfl rfl))) (tn_ (tl_ (oi_iald (by decide +kernel) rfl)) (tl_ (oi_if_icmpge (f := 7) (by decide +kernel) (by decide) rfl)))) (tn_ (tn_ (tl_ (oi_iconst (n := 1) (by decide +kernel) (by decide +kernel) rfl)) (tl_ (oi_goto (f := 4) (by decide +kernel) (by decide)))) (tn_ (tl_ (oi_iconst (n := 0) (by decide +kernel) (by decide +kernel) rfl)) (tl_ (oi_ireturnZ (by decide +kernel) rfl)))))
set_option maxRecDepth 20000 in
theorem ok_21 : ∀ pc e, k_21 pc = some e → okE 21 pc e := tn_ (tn_ (tn_ (tn_ (tn_ (tl_ (oi_aload_n (k := 0) (by decide +kernel) rfl rfl)) (tl_ (oi_iconst (n := 0) (by decide +kernel) (by decide +kernel) rfl))) (tn_ (tl_ (oi_putfield (i := 66) (by decide +kernel) rfl ⟨_, _, _, rfl, by decide, mw_655, rfl, by decide +kernel⟩)) (tl_ (oi_aload_n (k := 0) (by decide +kernel) rfl rfl)))) (tn_ (tn_ (tl_ (oi_getfield (i := 77) (by decide +kernel) rfl ⟨_, _, _, rfl, by decide, mw_658⟩)) (tl_ (oi_bipush (n := 8) (by decide +kernel) (by decide +kernel) rfl))) (tn_ (tl_ (oi_if_icmpne (f := 5) (by decide +kernel) (by decide) rfl)) (tl_ (oi_m1 (by decide +kernel) rfl))))) (tn_ (tn_ (tn_ (tl_ (oi_ireturnI (by decide +kernel) rfl)) (tl_ (oi_aload_n (k := 0) (by decide +kernel) rfl rfl))) (tn_ (tl_ (oi_getfield (i := 17) (by decide +kernel) rfl ⟨_, _, _, rfl, by decide, mw_659⟩)) (tl_ (oi_aload_n (k := 0) (by decide +kernel) rfl rfl)))) (tn_ (tn_ (tl_ (oi_getfield (i := 77) (by decide +kernel) rfl ⟨_, _, _, rfl, by decide, mw_658⟩)) (tl_ (oi_iconst (n := 0) (by decide +kernel) (by decide +kernel) rfl))) (tn_ (tl_ (oi_iast (by decide +kernel) rfl)) (tn_ (tl_ (oi_aload_n (k := 0) (by decide +kernel) rfl rfl)) (tl_ (oi_getfield (i := 29) (by decide +kernel) rfl ⟨_, _, _, rfl, by decide, mw_663⟩))))))) (tn_ (tn_ (tn_ (tn_ (tl_ (oi_aload_n (k := 0) (by decide +kernel) rfl rfl)) (tl_ (oi_getfield (i := 77) (by decide +kernel) rfl ⟨_, _, _, rfl, by decide, mw_658⟩))) (tn_ (tl_ (oi_iconst (n := 0) (by decide +kernel) (by decide +kernel) rfl)) (tl_ (oi_iast (by decide +kernel) rfl)))) (tn_ (tn_ (tl_ (oi_aload_n (k := 0) (by decide +kernel) rfl rfl)) (tl_ (oi_dup (by decide +kernel) rfl))) (tn_ (tl_ (oi_getfield (i := 77) (by decide +kernel) rfl ⟨_, _, _, rfl, by decide, mw_658⟩)) (tn_ (tl_ (oi_iconst (n := 1) (by decide +kernel) (by decide +kernel) rfl)) (tl_ (oi_iadd (by decide +kernel) rfl)))))) (tn_ (tn_ (tn_ (tl_ (oi_putfield (i := 77) (by decide +kernel) rfl ⟨_, _, _, rfl, by decide, mw_658, rfl, by decide +kernel⟩)) (tl_ (oi_aload_n (k := 0) (by decide +kernel) rfl rfl))) (tn_ (tl_ (oi_iconst (n := 1) (by decide +kernel) (by decide +kernel) rfl)) (tl_ (oi_putz (i := 44) (by decide +kernel) rfl ⟨_, _, _, rfl, by decide, mw_668, rfl, by decide +kernel⟩)))) (tn_ (tn_ (tl_ (oi_aload_n (k := 0) (by decide +kernel) rfl rfl)) (tl_ (oi_getfield (i := 77) (by decide +kernel) rfl ⟨_, _, _, rfl, by decide, mw_658⟩))) (tn_ (tl_ (oi_iconst (n := 1) (by decide +kernel) (by decide +kernel) rfl)) (tn_ (tl_ (oi_isub (by decide +kernel) rfl)) (tl_ (oi_ireturnI (by decide +kernel) rfl)))))))
set_option maxRecDepth 20000 in
theorem ok_22 : ∀ pc e, k_22 pc = some e → okE 22 pc e := tn_ (tn_ (tn_ (tl_ (oi_iload_n (k := 0) (by decide +kernel) rfl rfl)) (tl_ (oi_iflt (f := 12) (by decide +kernel) (by decide) rfl))) (tn_ (tl_ (oi_iload_n (k := 0) (by decide +kernel) rfl rfl)) (tl_ (oi_iload_n (k := 1) (by decide +kernel) rfl rfl)))) (tn_ (tn_ (tl_ (oi_if_icmpgt (f := 7) (by decide +kernel) (by decide) rfl)) (tl_ (oi_iconst (n := 1) (by decide +kernel) (by decide +kernel) rfl))) (tn_ (tl_ (oi_goto (f := 4) (by decide +kernel) (by decide))) (tn_ (tl_ (oi_iconst (n := 0) (by decide +kernel) (by decide +kernel) rfl)) (tl_ (oi_ireturnZ (by decide +kernel) rfl)))))
set_option maxRecDepth 20000 in
theorem ok_23 : ∀ pc e, k_23 pc = some e → okE 23 pc e := tn_ (tn_ (tn_ (tn_ (tn_ (tl_ (oi_iload_n (k := 1) (by decide +kernel) rfl rfl)) (tn_ (tl_ (sw_ok0)) (tl_ (oi_iload_n (k := 2) (by decide +kernel) rfl rfl)))) (tn_ (tl_ (oi_iconst (n := 3) (by decide +kernel) (by decide +kernel) rfl)) (tn_ (tl_ (oi_callS (i := 83) (by decide +kernel) rfl (by decide) (by decide) okm_22 mw_761 mw_762 mw_53 (by decide +kernel))) (tl_ (oi_ireturnZ (by decide +kernel) rfl))))) (tn_ (tn_ (tl_ (oi_iload_n (k := 2) (by decide +kernel) rfl rfl)) (tn_ (tl_ (oi_iconst (n := 3) (by decide +kernel) (by decide +kernel) rfl)) (tl_ (oi_callS (i := 83) (by decide +kernel) rfl (by decide) (by decide) okm_22 mw_761 mw_762 mw_53 (by decide +kernel))))) (tn_ (tn_ (tl_ (oi_ifeq (f := 15) (by decide +kernel) (by decide) rfl)) (tl_ (oi_iload_n (k := 3) (by decide +kernel) rfl rfl))) (tn_ (tl_ (oi_iconst (n := 3) (by decide +kernel) (by decide +kernel) rfl)) (tl_ (oi_callS (i := 83) (by decide +kernel) rfl (by decide) (by decide) okm_22 mw_761 mw_762 mw_53 (by decide +kernel))))))) (tn_ (tn_ (tn_ (tl_ (oi_ifeq (f := 7) (by decide +kernel) (by decide) rfl)) (tn_ (tl_ (oi_iconst (n := 1) (by decide +kernel) (by decide +kernel) rfl)) (tl_ (oi_goto (f := 4) (by decide +kernel) (by decide))))) (tn_ (tl_ (oi_iconst (n := 0) (by decide +kernel) (by decide +kernel) rfl)) (tn_ (tl_ (oi_ireturnZ (by decide +kernel) rfl)) (tl_ (oi_iload_n (k := 2) (by decide +kernel) rfl rfl))))) (tn_ (tn_ (tl_ (oi_bipush (n := 23) (by decide +kernel) (by decide +kernel) rfl)) (tn_ (tl_ (oi_callS (i := 83) (by decide +kernel) rfl (by decide) (by decide) okm_22 mw_761 mw_762 mw_53 (by decide +kernel))) (tl_ (oi_ireturnZ (by decide +kernel) rfl)))) (tn_ (tn_ (tl_ (oi_iload_n (k := 2) (by decide +kernel) rfl rfl)) (tl_ (oi_iconst (n := 3) (by decide +kernel) (by decide +kernel) rfl))) (tn_ (tl_ (oi_callS (i := 83) (by decide +kernel) rfl (by decide) (by decide) okm_22 mw_761 mw_762 mw_53 (by decide +kernel))) (tl_ (oi_ifeq (f := 16) (by decide +kernel) (by decide) rfl))))))) (tn_ (tn_ (tn_ (tn_ (tl_ (oi_iload_n (k := 3) (by decide +kernel) rfl rfl)) (tn_ (tl_ (oi_bipush (n := 23) (by decide +kernel) (by decide +kernel) rfl)) (tl_ (oi_callS (i := 83) (by decide +kernel) rfl (by decide) (by decide) okm_22 mw_761 mw_762 mw_53 (by decide +kernel))))) (tn_ (tl_ (oi_ifeq (f := 7) (by decide +kernel) (by decide) rfl)) (tn_ (tl_ (oi_iconst (n := 1) (by decide +kernel) (by decide +kernel) rfl)) (tl_ (oi_goto (f := 4) (by decide +kernel) (by decide)))))) (tn_ (tn_ (tl_ (oi_iconst (n := 0) (by decide +kernel) (by decide +kernel) rfl)) (tn_ (tl_ (oi_ireturnZ (by decide +kernel) rfl)) (tl_ (oi_iload_n (k := 2) (by decide +kernel) rfl rfl)))) (tn_ (tn_ (tl_ (oi_iconst (n := 3) (by decide +kernel) (by decide +kernel) rfl)) (tl_ (oi_callS (i := 83) (by decide +kernel) rfl (by decide) (by decide) okm_22 mw_761 mw_762 mw_53 (by decide +kernel)))) (tn_ (tl_ (oi_ifeq (f := 16) (by decide +kernel) (by decide) rfl)) (tl_ (oi_iload_n (k := 3) (by decide +kernel) rfl rfl)))))) (tn_ (tn_ (tn_ (tl_ (oi_bipush (n := 7) (by decide +kernel) (by decide +kernel) rfl)) (tn_ (tl_ (oi_callS (i := 83) (by decide +kernel) rfl (by decide) (by decide) okm_22 mw_761 mw_762 mw_53 (by decide +kernel))) (tl_ (oi_ifeq (f := 7) (by decide +kernel) (by decide) rfl)))) (tn_ (tl_ (oi_iconst (n := 1) (by decide +kernel) (by decide +kernel) rfl)) (tn_ (tl_ (oi_goto (f := 4) (by decide +kernel) (by decide))) (tl_ (oi_iconst (n := 0) (by decide +kernel) (by decide +kernel) rfl))))) (tn_ (tn_ (tl_ (oi_ireturnZ (by decide +kernel) rfl)) (tn_ (tl_ (oi_aload_n (k := 0) (by decide +kernel) rfl rfl)) (tl_ (oi_iload_n (k := 2) (by decide +kernel) rfl rfl)))) (tn_ (tn_ (tl_ (oi_callV (i := 69) (by decide +kernel) rfl (by decide) (by decide) okm_15 (by decide) (by rfl) mw_733 mw_735 mw_24 mw_53 (by decide +kernel))) (tl_ (oi_ireturnZ (by decide +kernel) rfl))) (tn_ (tl_ (oi_iconst (n := 0) (by decide +kernel) (by decide +kernel) rfl)) (tl_ (oi_ireturnZ (by decide +kernel) rfl)))))))
set_option maxRecDepth 20000 in
theorem ok_24 : ∀ pc e, k_24 pc = some e → okE 24 pc e := tn_ (tn_ (tn_ (tn_ (tl_ (oi_aload_n (k := 0) (by decide +kernel) rfl rfl)) (tn_ (tl_ (oi_getfield (i := 20) (by decide +kernel) rfl ⟨_, _, _, rfl, by decide, mw_660⟩)) (tl_ (oi_bipush (n := 24) (by decide +kernel) (by decide +kernel) rfl)))) (tn_ (tn_ (tl_ (oi_iload_n (k := 1) (by decide +kernel) rfl rfl)) (tl_ (oi_imul (by decide +kernel) rfl))) (tn_ (tl_ (oi_iload_n (k := 2) (by decide +kernel) rfl rfl)) (tl_ (oi_iadd (by decide +kernel) rfl))))) (tn_ (tn_ (tn_ (tl_ (oi_iload_n (k := 3) (by decide +kernel) rfl rfl)) (tl_ (oi_iast (by decide +kernel) rfl))) (tn_ (tl_ (oi_aload_n (k := 0) (by decide +kernel) rfl rfl)) (tl_ (oi_getfield (i := 23) (by decide +kernel) rfl ⟨_, _, _, rfl, by decide, mw_661⟩)))) (tn_ (tn_ (tl_ (oi_bipush (n := 24) (by decide +kernel) (by decide +kernel) rfl)) (tl_ (oi_iload_n (k := 1) (by decide +kernel) rfl rfl))) (tn_ (tl_ (oi_imul (by decide +kernel) rfl)) (tl_ (oi_iload_n (k := 2) (by decide +kernel) rfl rfl)))))) (tn_ (tn_ (tn_ (tn_ (tl_ (oi_iadd (by decide +kernel) rfl)) (tl_ (oi_iload (by decide +kernel) rfl))) (tn_ (tl_ (oi_iast (by decide +kernel) rfl)) (tl_ (oi_aload_n (k := 0) (by decide +kernel) rfl rfl)))) (tn_ (tn_ (tl_ (oi_getfield (i := 26) (by decide +kernel) rfl ⟨_, _, _, rfl, by decide, mw_662⟩)) (tl_ (oi_bipush (n := 24) (by decide +kernel) (by decide +kernel) rfl))) (tn_ (tl_ (oi_iload_n (k := 1) (by decide +kernel) rfl rfl)) (tl_ (oi_imul (by decide +kernel) rfl))))) (tn_ (tn_ (tn_ (tl_ (oi_iload_n (k := 2) (by decide +kernel) rfl rfl)) (tl_ (oi_iadd (by decide +kernel) rfl))) (tn_ (tl_ (oi_iload (by decide +kernel) rfl)) (tl_ (oi_iast (by decide +kernel) rfl)))) (tn_ (tn_ (tl_ (oi_aload_n (k := 0) (by decide +kernel) rfl rfl)) (tl_ (oi_iconst (n := 1) (by decide +kernel) (by decide +kernel) rfl))) (tn_ (tl_ (oi_putz (i := 44) (by decide +kernel) rfl ⟨_, _, _, rfl, by decide, mw_668, rfl, by decide +kernel⟩)) (tl_ (oi_return (by decide +kernel) rfl))))))
set_option maxRecDepth 20000 in
theorem ok_25 : ∀ pc e, k_25 pc = some e → okE 25 pc e := tn_ (tn_ (tn_ (tn_ (tn_ (tl_ (oi_aload_n (k := 0) (by decide +kernel) rfl rfl)) (tn_ (tl_ (oi_iload_n (k := 1) (by decide +kernel) rfl rfl)) (tl_ (oi_callV (i := 80) (by decide +kernel) rfl (by decide) (by decide) okm_19 (by decide) (by rfl) mw_753 mw_755 mw_26 mw_53 (by decide +kernel))))) (tn_ (tn_ (tl_ (oi_ifne (f := 7) (by decide +kernel) (by decide) rfl)) (tl_ (oi_iconst (n := 1) (by decide +kernel) (by decide +kernel) rfl))) (tn_ (tl_ (oi_goto (f := 4) (by decide +kernel) (by decide))) (tl_ (oi_iconst (n := 0) (by decide +kernel) (by decide +kernel) rfl))))) (tn_ (tn_ (tn_ (tl_ (oi_istore (by decide) (by decide +kernel) rfl)) (tl_ (oi_aload_n (k := 0) (by decide +kernel) rfl rfl))) (tn_ (tl_ (oi_iload (by decide +kernel) rfl)) (tl_ (oi_ifeq (f := 7) (by decide +kernel) (by decide) rfl)))) (tn_ (tn_ (tl_ (oi_iconst (n := 1) (by decide +kernel) (by decide +kernel) rfl)) (tl_ (oi_goto (f := 34) (by decide +kernel) (by decide)))) (tn_ (tl_ (oi_aload_n (k := 0) (by decide +kernel) rfl rfl)) (tl_ (oi_getfield (i := 17) (by decide +kernel) rfl ⟨_, _, _, rfl, by decide, mw_659⟩)))))) (tn_ (tn_ (tn_ (tl_ (oi_iload_n (k := 1) (by decide +kernel) rfl rfl)) (tn_ (tl_ (oi_iald (by decide +kernel) rfl)) (tl_ (oi_bipush (n := 24) (by decide +kernel) (by decide +kernel) rfl)))) (tn_ (tn_ (tl_ (oi_if_icmpne (f := 7) (by decide +kernel) (by decide) rfl)) (tl_ (oi_iconst (n := 2) (by decide +kernel) (by decide +kernel) rfl))) (tn_ (tl_ (oi_goto (f := 19) (by decide +kernel) (by decide))) (tl_ (oi_aload_n (k := 0) (by decide +kernel) rfl rfl))))) (tn_ (tn_ (tn_ (tl_ (oi_iload_n (k := 2) (by decide +kernel) rfl rfl)) (tl_ (oi_iload_n (k := 3) (by decide +kernel) rfl rfl))) (tn_ (tl_ (oi_iload (by decide +kernel) rfl)) (tl_ (oi_callV (i := 86) (by decide +kernel) rfl (by decide) (by decide) okm_23 (by decide) (by rfl) mw_757 mw_759 mw_27 mw_53 (by decide +kernel))))) (tn_ (tn_ (tl_ (oi_ifeq (f := 7) (by decide +kernel) (by decide) rfl)) (tl_ (oi_iconst (n := 0) (by decide +kernel) (by decide +kernel) rfl))) (tn_ (tl_ (oi_goto (f := 4) (by decide +kernel) (by decide))) (tl_ (oi_iconst (n := 3) (by decide +kernel) (by decide +kernel) rfl))))))) (tn_ (tn_ (tn_ (tn_ (tl_ (oi_putfield (i := 66) (by decide +kernel) rfl ⟨_, _, _, rfl, by decide, mw_655, rfl, by decide +kernel⟩)) (tn_ (tl_ (oi_aload_n (k := 0) (by decide +kernel) rfl rfl)) (tl_ (oi_getfield (i := 66) (by decide +kernel) rfl ⟨_, _, _, rfl, by decide, mw_655⟩)))) (tn_ (tn_ (tl_ (oi_ifle (f := 5) (by decide +kernel) (by decide) rfl)) (tl_ (oi_iconst (n := 0) (by decide +kernel) (by decide +kernel) rfl))) (tn_ (tl_ (oi_ireturnI (by decide +kernel) rfl)) (tl_ (oi_aload_n (k := 0) (by decide +kernel) rfl rfl))))) (tn_ (tn_ (tn_ (tl_ (oi_iload_n (k := 1) (by decide +kernel) rfl rfl)) (tl_ (oi_aload_n (k := 0) (by decide +kernel) rfl rfl))) (tn_ (tl_ (oi_getfield (i := 17) (by decide +kernel) rfl ⟨_, _, _, rfl, by decide, mw_659⟩)) (tl_ (oi_iload_n (k := 1) (by decide +kernel) rfl rfl)))) (tn_ (tn_ (tl_ (oi_iald (by decide +kernel) rfl)) (tl_ (oi_iload_n (k := 2) (by decide +kernel) rfl rfl))) (tn_ (tl_ (oi_iload_n (k := 3) (by decide +kernel) rfl rfl)) (tl_ (oi_iload (by decide +kernel) rfl)))))) (tn_ (tn_ (tn_ (tn_ (tl_ (oi_callV (i := 90) (by decide +kernel) rfl (by decide) (by decide) okm_24 (by decide) (by rfl) mw_764 mw_766 mw_28 mw_53 (by decide +kernel))) (tl_ (oi_aload_n (k := 0) (by decide +kernel) rfl rfl))) (tn_ (tl_ (oi_getfield (i := 17) (by decide +kernel) rfl ⟨_, _, _, rfl, by decide, mw_659⟩)) (tl_ (oi_iload_n (k := 1) (by decide +kernel) rfl rfl)))) (tn_ (tn_ (tl_ (oi_dup2 (by decide +kernel) rfl)) (tl_ (oi_iald (by decide +kernel) rfl))) (tn_ (tl_ (oi_iconst (n := 1) (by decide +kernel) (by decide +kernel) rfl)) (tl_ (oi_iadd (by decide +kernel) rfl))))) (tn_ (tn_ (tn_ (tl_ (oi_iast (by decide +kernel) rfl)) (tl_ (oi_aload_n (k := 0) (by decide +kernel) rfl rfl))) (tn_ (tl_ (oi_getfield (i := 17) (by decide +kernel) rfl ⟨_, _, _, rfl, by decide, mw_659⟩)) (tl_ (oi_iload_n (k := 1) (by decide +kernel) rfl rfl)))) (tn_ (tn_ (tl_ (oi_iald (by decide +kernel) rfl)) (tl_ (oi_iconst (n := 1) (by decide +kernel) (by decide +kernel) rfl))) (tn_ (tl_ (oi_isub (by decide +kernel) rfl)) (tl_ (oi_ireturnI (by decide +kernel) rfl)))))))
set_option maxRecDepth 20000 in
theorem ok_26 : ∀ pc e, k_26 pc = some e → okE 26 pc e := tn_ (tn_ (tn_ (tn_ (tn_ (tn_ (tl_ (oi_aload_n (k := 0) (by decide +kernel) rfl rfl)) (tn_ (tl_ (oi_iload_n (k := 1) (by decide +kernel) rfl rfl)) (tl_ (oi_callV (i := 80) (by decide +kernel) rfl (by decide) (by decide) okm_19 (by decide) (by rfl) mw_753 mw_755 mw_26 mw_53 (by decide +kernel))))) (tn_ (tl_ (oi_ifne (f := 7) (by decide +kernel) (by decide) rfl)) (tn_ (tl_ (oi_iconst (n := 1) (by decide +kernel) (by decide +kernel) rfl)) (tl_ (oi_goto (f := 4) (by decide +kernel) (by decide)))))) (tn_ (tn_ (tl_ (oi_iconst (n := 0) (by decide +kernel) (by decide +kernel) rfl)) (tn_ (tl_ (oi_istore (by decide) (by decide +kernel) rfl)) (tl_ (oi_iload_n (k := 2) (by decide +kernel) rfl rfl)))) (tn_ (tl_ (oi_bipush (n := 23) (by decide +kernel) (by decide +kernel) rfl)) (tn_ (tl_ (oi_callS (i := 83) (by decide +kernel) rfl (by decide) (by decide) okm_22 mw_761 mw_762 mw_53 (by decide +kernel))) (tl_ (oi_ifeq (f := 40) (by decide +kernel) (by decide) rfl)))))) (tn_ (tn_ (tn_ (tl_ (oi_iload_n (k := 3) (by decide +kernel) rfl rfl)) (tn_ (tl_ (oi_bipush (n := 23) (by decide +kernel) (by decide +kernel) rfl)) (tl_ (oi_callS (i := 83) (by decide +kernel) rfl (by decide) (by decide) okm_22 mw_761 mw_762 mw_53 (by decide +kernel))))) (tn_ (tl_ (oi_ifeq (f := 31) (by decide +kernel) (by decide) rfl)) (tn_ (tl_ (oi_iload (by decide +kernel) rfl)) (tl_ (oi_bipush (n := 23) (by decide +kernel) (by decide +kernel) rfl))))) (tn_ (tn_ (tl_ (oi_callS (i := 83) (by decide +kernel) rfl (by decide) (by decide) okm_22 mw_761 mw_762 mw_53 (by decide +kernel))) (tn_ (tl_ (oi_ifeq (f := 21) (by decide +kernel) (by decide) rfl)) (tl_ (oi_iload_n (k := 2) (by decide +kernel) rfl rfl)))) (tn_ (tn_ (tl_ (oi_iload_n (k := 3) (by decide +kernel) rfl rfl)) (tl_ (oi_if_icmpgt (f := 16) (by decide +kernel) (by decide) rfl))) (tn_ (tl_ (oi_aload_n (k := 0) (by decide +kernel) rfl rfl)) (tl_ (oi_iload (by decide +kernel) rfl))))))) (tn_ (tn_ (tn_ (tn_ (tl_ (oi_callV (i := 69) (by decide +kernel) rfl (by decide) (by decide) okm_15 (by decide) (by rfl) mw_733 mw_735 mw_24 mw_53 (by decide +kernel))) (tn_ (tl_ (oi_ifeq (f := 7) (by decide +kernel) (by decide) rfl)) (tl_ (oi_iconst (n := 1) (by decide +kernel) (by decide +kernel) rfl)))) (tn_ (tl_ (oi_goto (f := 4) (by decide +kernel) (by decide))) (tn_ (tl_ (oi_iconst (n := 0) (by decide +kernel) (by decide +kernel) rfl)) (tl_ (oi_istore (by decide) (by decide +kernel) rfl))))) (tn_ (tn_ (tl_ (oi_aload_n (k := 0) (by decide +kernel) rfl rfl)) (tn_ (tl_ (oi_iload (by decide +kernel) rfl)) (tl_ (oi_ifeq (f := 7) (by decide +kernel) (by decide) rfl)))) (tn_ (tn_ (tl_ (oi_iconst (n := 1) (by decide +kernel) (by decide +kernel) rfl)) (tl_ (oi_goto (f := 27) (by decide +kernel) (by decide)))) (tn_ (tl_ (oi_aload_n (k := 0) (by decide +kernel) rfl rfl)) (tl_ (oi_getfield (i := 29) (by decide +kernel) rfl ⟨_, _, _, rfl, by decide, mw_663⟩)))))) (tn_ (tn_ (tn_ (tl_ (oi_iload_n (k := 1) (by decide +kernel) rfl rfl)) (tn_ (tl_ (oi_iald (by decide +kernel) rfl)) (tl_ (oi_iconst (n := 4) (by decide +kernel) (by decide +kernel) rfl)))) (tn_ (tl_ (oi_if_icmpne (f := 7) (by decide +kernel) (by decide) rfl)) (tn_ (tl_ (oi_iconst (n := 2) (by decide +kernel) (by decide +kernel) rfl)) (tl_ (oi_goto (f := 13) (by decide +kernel) (by decide)))))) (tn_ (tn_ (tl_ (oi_iload (by decide +kernel) rfl)) (tn_ (tl_ (oi_ifeq (f := 7) (by decide +kernel) (by decide) rfl)) (tl_ (oi_iconst (n := 0) (by decide +kernel) (by decide +kernel) rfl)))) (tn_ (tn_ (tl_ (oi_goto (f := 4) (by decide +kernel) (by decide))) (tl_ (oi_iconst (n := 3) (by decide +kernel) (by decide +kernel) rfl))) (tn_ (tl_ (oi_putfield (i := 66) (by decide +kernel) rfl ⟨_, _, _, rfl, by decide, mw_655, rfl, by decide +kernel⟩)) (tl_ (oi_aload_n (k := 0) (by decide +kernel) rfl rfl)))))))) (tn_ (tn_ (tn_ (tn_ (tn_ (tl_ (oi_getfield (i := 66) (by decide +kernel) rfl ⟨_, _, _, rfl, by decide, mw_655⟩)) (tn_ (tl_ (oi_ifle (f := 5) (by decide +kernel) (by decide) rfl)) (tl_ (oi_iconst (n := 0) (by decide +kernel) (by decide +kernel) rfl)))) (tn_ (tl_ (oi_ireturnI (by decide +kernel) rfl)) (tn_ (tl_ (oi_iconst (n := 4) (by decide +kernel) (by decide +kernel) rfl)) (tl_ (oi_iload_n (k := 1) (by decide +kernel) rfl rfl))))) (tn_ (tn_ (tl_ (oi_imul (by decide +kernel) rfl)) (tn_ (tl_ (oi_aload_n (k := 0) (by decide +kernel) rfl rfl)) (tl_ (oi_getfield (i := 29) (by decide +kernel) rfl ⟨_, _, _, rfl, by decide, mw_663⟩)))) (tn_ (tl_ (oi_iload_n (k := 1) (by decide +kernel) rfl rfl)) (tn_ (tl_ (oi_iald (by decide +kernel) rfl)) (tl_ (oi_iadd (by decide +kernel) rfl)))))) (tn_ (tn_ (tn_ (tl_ (oi_istore (by decide) (by decide +kernel) rfl)) (tn_ (tl_ (oi_aload_n (k := 0) (by decide +kernel) rfl rfl)) (tl_ (oi_getfield (i := 32) (by decide +kernel) rfl ⟨_, _, _, rfl, by decide, mw_664⟩)))) (tn_ (tl_ (oi_iload (by decide +kernel) rfl)) (tn_ (tl_ (oi_iload_n (k := 2) (by decide +kernel) rfl rfl)) (tl_ (oi_iast (by decide +kernel) rfl))))) (tn_ (tn_ (tl_ (oi_aload_n (k := 0) (by decide +kernel) rfl rfl)) (tn_ (tl_ (oi_getfield (i := 35) (by decide +kernel) rfl ⟨_, _, _, rfl, by decide, mw_665⟩)) (tl_ (oi_iload (by decide +kernel) rfl)))) (tn_ (tn_ (tl_ (oi_iload_n (k := 3) (by decide +kernel) rfl rfl)) (tl_ (oi_iast (by decide +kernel) rfl))) (tn_ (tl_ (oi_aload_n (k := 0) (by decide +kernel) rfl rfl)) (tl_ (oi_getfield (i := 38) (by decide +kernel) rfl ⟨_, _, _, rfl, by decide, mw_666⟩))))))) (tn_ (tn_ (tn_ (tn_ (tl_ (oi_iload (by decide +kernel) rfl)) (tn_ (tl_ (oi_iload (by decide +kernel) rfl)) (tl_ (oi_iast (by decide +kernel) rfl)))) (tn_ (tl_ (oi_aload_n (k := 0) (by decide +kernel) rfl rfl)) (tn_ (tl_ (oi_getfield (i := 41) (by decide +kernel) rfl ⟨_, _, _, rfl, by decide, mw_667⟩)) (tl_ (oi_iload (by decide +kernel) rfl))))) (tn_ (tn_ (tl_ (oi_iload (by decide +kernel) rfl)) (tn_ (tl_ (oi_iast (by decide +kernel) rfl)) (tl_ (oi_aload_n (k := 0) (by decide +kernel) rfl rfl)))) (tn_ (tn_ (tl_ (oi_getfield (i := 29) (by decide +kernel) rfl ⟨_, _, _, rfl, by decide, mw_663⟩)) (tl_ (oi_iload_n (k := 1) (by decide +kernel) rfl rfl))) (tn_ (tl_ (oi_dup2 (by decide +kernel) rfl)) (tl_ (oi_iald (by decide +kernel) rfl)))))) (tn_ (tn_ (tn_ (tl_ (oi_iconst (n := 1) (by decide +kernel) (by decide +kernel) rfl)) (tn_ (tl_ (oi_iadd (by decide +kernel) rfl)) (tl_ (oi_iast (by decide +kernel) rfl)))) (tn_ (tl_ (oi_aload_n (k := 0) (by decide +kernel) rfl rfl)) (tn_ (tl_ (oi_iconst (n := 1) (by decide +kernel) (by decide +kernel) rfl)) (tl_ (oi_putz (i := 44) (by decide +kernel) rfl ⟨_, _, _, rfl, by decide, mw_668, rfl, by decide +kernel⟩))))) (tn_ (tn_ (tl_ (oi_aload_n (k := 0) (by decide +kernel) rfl rfl)) (tn_ (tl_ (oi_getfield (i := 29) (by decide +kernel) rfl ⟨_, _, _, rfl, by decide, mw_663⟩)) (tl_ (oi_iload_n (k := 1) (by decide +kernel) rfl rfl)))) (tn_ (tn_ (tl_ (oi_iald (by decide +kernel) rfl)) (tl_ (oi_iconst (n := 1) (by decide +kernel) (by decide +kernel) rfl))) (tn_ (tl_ (oi_isub (by decide +kernel) rfl)) (tl_ (oi_ireturnI (by decide +kernel) rfl))))))))
set_option maxRecDepth 20000 in
theorem ok_27 : ∀ pc e, k_27 pc = some e → okE 27 pc e := tn_ (tn_ (tn_ (tn_ (tn_ (tl_ (oi_aload_n (k := 0) (by decide +kernel) rfl rfl)) (tl_ (oi_aload_n (k := 0) (by decide +kernel) rfl rfl))) (tn_ (tl_ (oi_iload_n (k := 1) (by decide +kernel) rfl rfl)) (tn_ (tl_ (oi_iload_n (k := 2) (by decide +kernel) rfl rfl)) (tl_ (oi_callV (i := 94) (by decide +kernel) rfl (by decide) (by decide) okm_20 (by decide) (by rfl) mw_776 mw_778 mw_29 mw_53 (by decide +kernel)))))) (tn_ (tn_ (tl_ (oi_ifne (f := 7) (by decide +kernel) (by decide) rfl)) (tl_ (oi_iconst (n := 1) (by decide +kernel) (by decide +kernel) rfl))) (tn_ (tl_ (oi_goto (f := 20) (by decide +kernel) (by decide))) (tn_ (tl_ (oi_aload_n (k := 0) (by decide +kernel) rfl rfl)) (tl_ (oi_iload_n (k := 3) (by decide +kernel) rfl rfl)))))) (tn_ (tn_ (tn_ (tl_ (oi_iload (by decide +kernel) rfl)) (tl_ (oi_iload (by decide +kernel) rfl))) (tn_ (tl_ (oi_callV (i := 86) (by decide +kernel) rfl (by decide) (by decide) okm_23 (by decide) (by rfl) mw_757 mw_759 mw_27 mw_53 (by decide +kernel))) (tn_ (tl_ (oi_ifeq (f := 7) (by decide +kernel) (by decide) rfl)) (tl_ (oi_iconst (n := 0) (by decide +kernel) (by decide +kernel) rfl))))) (tn_ (tn_ (tl_ (oi_goto (f := 4) (by decide +kernel) (by decide))) (tl_ (oi_iconst (n := 2) (by decide +kernel) (by decide +kernel) rfl))) (tn_ (tl_ (oi_putfield (i := 66) (by decide +kernel) rfl ⟨_, _, _, rfl, by decide, mw_655, rfl, by decide +kernel⟩)) (tn_ (tl_ (oi_aload_n (k := 0) (by decide +kernel) rfl rfl)) (tl_ (oi_getfield (i := 66) (by decide +kernel) rfl ⟨_, _, _, rfl, by decide, mw_655⟩))))))) (tn_ (tn_ (tn_ (tn_ (tl_ (oi_ifle (f := 5) (by decide +kernel) (by decide) rfl)) (tl_ (oi_iconst (n := 0) (by decide +kernel) (by decide +kernel) rfl))) (tn_ (tl_ (oi_ireturnI (by decide +kernel) rfl)) (tn_ (tl_ (oi_aload_n (k := 0) (by decide +kernel) rfl rfl)) (tl_ (oi_getfield (i := 20) (by decide +kernel) rfl ⟨_, _, _, rfl, by decide, mw_660⟩))))) (tn_ (tn_ (tl_ (oi_bipush (n := 24) (by decide +kernel) (by decide +kernel) rfl)) (tl_ (oi_iload_n (k := 1) (by decide +kernel) rfl rfl))) (tn_ (tl_ (oi_imul (by decide +kernel) rfl)) (tn_ (tl_ (oi_iload_n (k := 2) (by decide +kernel) rfl rfl)) (tl_ (oi_iadd (by decide +kernel) rfl)))))) (tn_ (tn_ (tn_ (tl_ (oi_iald (by decide +kernel) rfl)) (tl_ (oi_istore (by decide) (by decide +kernel) rfl))) (tn_ (tl_ (oi_aload_n (k := 0) (by decide +kernel) rfl rfl)) (tn_ (tl_ (oi_iload_n (k := 1) (by decide +kernel) rfl rfl)) (tl_ (oi_iload_n (k := 2) (by decide +kernel) rfl rfl))))) (tn_ (tn_ (tl_ (oi_iload_n (k := 3) (by decide +kernel) rfl rfl)) (tn_ (tl_ (oi_iload (by decide +kernel) rfl)) (tl_ (oi_iload (by decide +kernel) rfl)))) (tn_ (tl_ (oi_callV (i := 90) (by decide +kernel) rfl (by decide) (by decide) okm_24 (by decide) (by rfl) mw_764 mw_766 mw_28 mw_53 (by decide +kernel))) (tn_ (tl_ (oi_iload (by decide +kernel) rfl)) (tl_ (oi_ireturnI (by decide +kernel) rfl)))))))
end
section
set_option maxRecDepth 20000 in
theorem ok_28 : ∀ pc e, k_28 pc = some e → okE 28 pc e := tn_ (tn_ (tn_ (tn_ (tn_ (tl_ (oi_iconst (n := 0) (by decide +kernel) (by decide +kernel) rfl)) (tl_ (oi_istore (by decide) (by decide +kernel) rfl))) (tn_ (tl_ (oi_iload (by decide +kernel) rfl)) (tn_ (tl_ (oi_aload_n (k := 0) (by decide +kernel) rfl rfl)) (tl_ (oi_getfield (i := 29) (by decide +kernel) rfl ⟨_, _, _, rfl, by decide, mw_663⟩))))) (tn_ (tn_ (tl_ (oi_iload_n (k := 1) (by decide +kernel) rfl rfl)) (tl_ (oi_iald (by decide +kernel) rfl))) (tn_ (tl_ (oi_if_icmpge (f := 57) (by decide +kernel) (by decide) rfl)) (tn_ (tl_ (oi_iconst (n := 4) (by decide +kernel) (by decide +kernel) rfl)) (tl_ (oi_iload_n (k := 1) (by decide +kernel) rfl rfl)))))) (tn_ (tn_ (tn_ (tl_ (oi_imul (by decide +kernel) rfl)) (tl_ (oi_iload (by decide +kernel) rfl))) (tn_ (tl_ (oi_iadd (by decide +kernel) rfl)) (tn_ (tl_ (oi_istore (by decide) (by decide +kernel) rfl)) (tl_ (oi_iload_n (k := 2) (by decide +kernel) rfl rfl))))) (tn_ (tn_ (tl_ (oi_aload_n (k := 0) (by decide +kernel) rfl rfl)) (tl_ (oi_getfield (i := 32) (by decide +kernel) rfl ⟨_, _, _, rfl, by decide, mw_664⟩))) (tn_ (tl_ (oi_iload (by decide +kernel) rfl)) (tn_ (tl_ (oi_iald (by decide +kernel) rfl)) (tl_ (oi_if_icmplt (f := 32) (by decide +kernel) (by decide) rfl))))))) (tn_ (tn_ (tn_ (tn_ (tl_ (oi_iload_n (k := 2) (by decide +kernel) rfl rfl)) (tl_ (oi_aload_n (k := 0) (by decide +kernel) rfl rfl))) (tn_ (tl_ (oi_getfield (i := 35) (by decide +kernel) rfl ⟨_, _, _, rfl, by decide, mw_665⟩)) (tn_ (tl_ (oi_iload (by decide +kernel) rfl)) (tl_ (oi_iald (by decide +kernel) rfl))))) (tn_ (tn_ (tl_ (oi_if_icmpgt (f := 21) (by decide +kernel) (by decide) rfl)) (tl_ (oi_aload_n (k := 0) (by decide +kernel) rfl rfl))) (tn_ (tl_ (oi_iload_n (k := 3) (by decide +kernel) rfl rfl)) (tn_ (tl_ (oi_aload_n (k := 0) (by decide +kernel) rfl rfl)) (tl_ (oi_getfield (i := 38) (by decide +kernel) rfl ⟨_, _, _, rfl, by decide, mw_666⟩)))))) (tn_ (tn_ (tn_ (tl_ (oi_iload (by decide +kernel) rfl)) (tl_ (oi_iald (by decide +kernel) rfl))) (tn_ (tl_ (oi_callV (i := 73) (by decide +kernel) rfl (by decide) (by decide) okm_16 (by decide) (by rfl) mw_741 mw_743 mw_25 mw_53 (by decide +kernel))) (tn_ (tl_ (oi_ifeq (f := 6) (by decide +kernel) (by decide) rfl)) (tl_ (oi_iload (by decide +kernel) rfl))))) (tn_ (tn_ (tl_ (oi_ireturnI (by decide +kernel) rfl)) (tl_ (oi_iinc (n := 1) (by decide) (by decide +kernel) (by decide +kernel) rfl))) (tn_ (tl_ (oi_goto (f := -62) (by decide +kernel) (by decide))) (tn_ (tl_ (oi_m1 (by decide +kernel) rfl)) (tl_ (oi_ireturnI (by decide +kernel) rfl)))))))
set_option maxRecDepth 20000 in
theorem ok_29 : ∀ pc e, k_29 pc = some e → okE 29 pc e := tn_ (tn_ (tn_ (tn_ (tn_ (tl_ (oi_ldc (i := 97) (by decide +kernel) mw_788 rfl)) (tl_ (oi_istore (by decide) (by decide +kernel) rfl))) (tn_ (tl_ (oi_iconst (n := 0) (by decide +kernel) (by decide +kernel) rfl)) (tn_ (tl_ (oi_istore (by decide) (by decide +kernel) rfl)) (tl_ (oi_iload (by decide +kernel) rfl))))) (tn_ (tn_ (tl_ (oi_aload_n (k := 0) (by decide +kernel) rfl rfl)) (tl_ (oi_getfield (i := 17) (by decide +kernel) rfl ⟨_, _, _, rfl, by decide, mw_659⟩))) (tn_ (tl_ (oi_iload_n (k := 1) (by decide +kernel) rfl rfl)) (tn_ (tl_ (oi_iald (by decide +kernel) rfl)) (tl_ (oi_if_icmpge (f := 56) (by decide +kernel) (by decide) rfl)))))) (tn_ (tn_ (tn_ (tl_ (oi_aload_n (k := 0) (by decide +kernel) rfl rfl)) (tl_ (oi_getfield (i := 48) (by decide +kernel) rfl ⟨_, _, _, rfl, by decide, mw_669⟩))) (tn_ (tl_ (oi_bipush (n := 10) (by decide +kernel) (by decide +kernel) rfl)) (tn_ (tl_ (oi_bipush (n := 24) (by decide +kernel) (by decide +kernel) rfl)) (tl_ (oi_iload_n (k := 1) (by decide +kernel) rfl rfl))))) (tn_ (tn_ (tl_ (oi_imul (by decide +kernel) rfl)) (tl_ (oi_iload (by decide +kernel) rfl))) (tn_ (tl_ (oi_iadd (by decide +kernel) rfl)) (tn_ (tl_ (oi_imul (by decide +kernel) rfl)) (tl_ (oi_iload_n (k := 3) (by decide +kernel) rfl rfl))))))) (tn_ (tn_ (tn_ (tn_ (tl_ (oi_iadd (by decide +kernel) rfl)) (tl_ (oi_iald (by decide +kernel) rfl))) (tn_ (tl_ (oi_istore (by decide) (by decide +kernel) rfl)) (tn_ (tl_ (oi_iload (by decide +kernel) rfl)) (tl_ (oi_iload (by decide +kernel) rfl))))) (tn_ (tn_ (tl_ (oi_if_icmpge (f := 20) (by decide +kernel) (by decide) rfl)) (tl_ (oi_aload_n (k := 0) (by decide +kernel) rfl rfl))) (tn_ (tl_ (oi_iload_n (k := 1) (by decide +kernel) rfl rfl)) (tn_ (tl_ (oi_iload (by decide +kernel) rfl)) (tl_ (oi_iload_n (k := 3) (by decide +kernel) rfl rfl)))))) (tn_ (tn_ (tn_ (tl_ (oi_callV (i := 98) (by decide +kernel) rfl (by decide) (by decide) okm_28 (by decide) (by rfl) mw_801 mw_803 mw_34 mw_53 (by decide +kernel))) (tl_ (oi_iload_n (k := 2) (by decide +kernel) rfl rfl))) (tn_ (tl_ (oi_if_icmpne (f := 8) (by decide +kernel) (by decide) rfl)) (tn_ (tl_ (oi_iload (by decide +kernel) rfl)) (tl_ (oi_goto (f := 5) (by decide +kernel) (by decide)))))) (tn_ (tn_ (tl_ (oi_iload (by decide +kernel) rfl)) (tn_ (tl_ (oi_istore (by decide) (by decide +kernel) rfl)) (tl_ (oi_iinc (n := 1) (by decide) (by decide +kernel) (by decide +kernel) rfl)))) (tn_ (tl_ (oi_goto (f := -61) (by decide +kernel) (by decide))) (tn_ (tl_ (oi_iload (by decide +kernel) rfl)) (tl_ (oi_ireturnI (by decide +kernel) rfl)))))))
set_option maxRecDepth 20000 in
theorem ok_30 : ∀ pc e, k_30 pc = some e → okE 30 pc e := tn_ (tn_ (tn_ (tn_ (tn_ (tn_ (tl_ (oi_bipush (n := 24) (by decide +kernel) (by decide +kernel) rfl)) (tl_ (oi_iload_n (k := 1) (by decide +kernel) rfl rfl))) (tn_ (tl_ (oi_imul (by decide +kernel) rfl)) (tn_ (tl_ (oi_iload_n (k := 2) (by decide +kernel) rfl rfl)) (tl_ (oi_iadd (by decide +kernel) rfl))))) (tn_ (tn_ (tl_ (oi_istore (by decide) (by decide +kernel) rfl)) (tl_ (oi_aload_n (k := 0) (by decide +kernel) rfl rfl))) (tn_ (tl_ (oi_getfield (i := 20) (by decide +kernel) rfl ⟨_, _, _, rfl, by decide, mw_660⟩)) (tn_ (tl_ (oi_iload (by decide +kernel) rfl)) (tl_ (oi_iald (by decide +kernel) rfl)))))) (tn_ (tn_ (tn_ (tl_ (oi_istore (by decide) (by decide +kernel) rfl)) (tl_ (oi_iload (by decide +kernel) rfl))) (tn_ (tl_ (oi_bipush (n := 7) (by decide +kernel) (by decide +kernel) rfl)) (tn_ (tl_ (oi_if_icmpne (f := 14) (by decide +kernel) (by decide) rfl)) (tl_ (oi_aload_n (k := 0) (by decide +kernel) rfl rfl))))) (tn_ (tn_ (tl_ (oi_getfield (i := 23) (by decide +kernel) rfl ⟨_, _, _, rfl, by decide, mw_661⟩)) (tl_ (oi_iload (by decide +kernel) rfl))) (tn_ (tl_ (oi_iald (by decide +kernel) rfl)) (tn_ (tl_ (oi_iload_n (k := 3) (by decide +kernel) rfl rfl)) (tl_ (oi_if_icmpeq (f := 26) (by decide +kernel) (by decide) rfl))))))) (tn_ (tn_ (tn_ (tn_ (tl_ (oi_iload (by decide +kernel) rfl)) (tl_ (oi_iconst (n := 3) (by decide +kernel) (by decide +kernel) rfl))) (tn_ (tl_ (oi_if_icmpne (f := 8) (by decide +kernel) (by decide) rfl)) (tn_ (tl_ (oi_iload_n (k := 3) (by decide +kernel) rfl rfl)) (tl_ (oi_iconst (n := 1) (by decide +kernel) (by decide +kernel) rfl))))) (tn_ (tn_ (tl_ (oi_if_icmpeq (f := 15) (by decide +kernel) (by decide) rfl)) (tl_ (oi_iload (by decide +kernel) rfl))) (tn_ (tl_ (oi_bipush (n := 6) (by decide +kernel) (by decide +kernel) rfl)) (tn_ (tl_ (oi_if_icmpne (f := 10) (by decide +kernel) (by decide) rfl)) (tl_ (oi_iload_n (k := 3) (by decide +kernel) rfl rfl)))))) (tn_ (tn_ (tn_ (tl_ (oi_iconst (n := 2) (by decide +kernel) (by decide +kernel) rfl)) (tl_ (oi_if_icmpne (f := 5) (by decide +kernel) (by decide) rfl))) (tn_ (tl_ (oi_iconst (n := 1) (by decide +kernel) (by decide +kernel) rfl)) (tn_ (tl_ (oi_ireturnI (by decide +kernel) rfl)) (tl_ (oi_iload (by decide +kernel) rfl))))) (tn_ (tn_ (tl_ (oi_bipush (n := 6) (by decide +kernel) (by decide +kernel) rfl)) (tl_ (oi_if_icmpne (f := 33) (by decide +kernel) (by decide) rfl))) (tn_ (tl_ (oi_aload_n (k := 0) (by decide +kernel) rfl rfl)) (tn_ (tl_ (oi_aload_n (k := 0) (by decide +kernel) rfl rfl)) (tl_ (oi_getfield (i := 26) (by decide +kernel) rfl ⟨_, _, _, rfl, by decide, mw_662⟩)))))))) (tn_ (tn_ (tn_ (tn_ (tn_ (tl_ (oi_iload (by decide +kernel) rfl)) (tl_ (oi_iald (by decide +kernel) rfl))) (tn_ (tl_ (oi_callV (i := 80) (by decide +kernel) rfl (by decide) (by decide) okm_19 (by decide) (by rfl) mw_753 mw_755 mw_26 mw_53 (by decide +kernel))) (tn_ (tl_ (oi_ifeq (f := 19) (by decide +kernel) (by decide) rfl)) (tl_ (oi_iconst (n := 1) (by decide +kernel) (by decide +kernel) rfl))))) (tn_ (tn_ (tl_ (oi_aload_n (k := 0) (by decide +kernel) rfl rfl)) (tl_ (oi_aload_n (k := 0) (by decide +kernel) rfl rfl))) (tn_ (tl_ (oi_getfield (i := 26) (by decide +kernel) rfl ⟨_, _, _, rfl, by decide, mw_662⟩)) (tn_ (tl_ (oi_iload (by decide +kernel) rfl)) (tl_ (oi_iald (by decide +kernel) rfl)))))) (tn_ (tn_ (tn_ (tl_ (oi_m1 (by decide +kernel) rfl)) (tl_ (oi_iload_n (k := 3) (by decide +kernel) rfl rfl))) (tn_ (tl_ (oi_callV (i := 102) (by decide +kernel) rfl (by decide) (by decide) okm_29 (by decide) (by rfl) mw_797 mw_799 mw_33 mw_53 (by decide +kernel))) (tn_ (tl_ (oi_iadd (by decide +kernel) rfl)) (tl_ (oi_ireturnI (by decide +kernel) rfl))))) (tn_ (tn_ (tl_ (oi_iload (by decide +kernel) rfl)) (tl_ (oi_bipush (n := 8) (by decide +kernel) (by decide +kernel) rfl))) (tn_ (tl_ (oi_if_icmpne (f := 35) (by decide +kernel) (by decide) rfl)) (tn_ (tl_ (oi_aload_n (k := 0) (by decide +kernel) rfl rfl)) (tl_ (oi_getfield (i := 23) (by decide +kernel) rfl ⟨_, _, _, rfl, by decide, mw_661⟩))))))) (tn_ (tn_ (tn_ (tn_ (tl_ (oi_iload (by decide +kernel) rfl)) (tl_ (oi_iald (by decide +kernel) rfl))) (tn_ (tl_ (oi_aload_n (k := 0) (by decide +kernel) rfl rfl)) (tn_ (tl_ (oi_getfield (i := 29) (by decide +kernel) rfl ⟨_, _, _, rfl, by decide, mw_663⟩)) (tl_ (oi_iload_n (k := 1) (by decide +kernel) rfl rfl))))) (tn_ (tn_ (tl_ (oi_iald (by decide +kernel) rfl)) (tl_ (oi_if_icmpge (f := 19) (by decide +kernel) (by decide) rfl))) (tn_ (tl_ (oi_iconst (n := 1) (by decide +kernel) (by decide +kernel) rfl)) (tn_ (tl_ (oi_aload_n (k := 0) (by decide +kernel) rfl rfl)) (tl_ (oi_iload_n (k := 1) (by decide +kernel) rfl rfl)))))) (tn_ (tn_ (tn_ (tl_ (oi_aload_n (k := 0) (by decide +kernel) rfl rfl)) (tl_ (oi_getfield (i := 23) (by decide +kernel) rfl ⟨_, _, _, rfl, by decide, mw_661⟩))) (tn_ (tl_ (oi_iload (by decide +kernel) rfl)) (tn_ (tl_ (oi_iald (by decide +kernel) rfl)) (tl_ (oi_iload_n (k := 3) (by decide +kernel) rfl rfl))))) (tn_ (tn_ (tl_ (oi_callV (i := 102) (by decide +kernel) rfl (by decide) (by decide) okm_29 (by decide) (by rfl) mw_797 mw_799 mw_33 mw_53 (by decide +kernel))) (tl_ (oi_iadd (by decide +kernel) rfl))) (tn_ (tl_ (oi_ireturnI (by decide +kernel) rfl)) (tn_ (tl_ (oi_ldc (i := 97) (by decide +kernel) mw_788 rfl)) (tl_ (oi_ireturnI (by decide +kernel) rfl))))))))
set_option maxRecDepth 20000 in
theorem ok_31 : ∀ pc e, k_31 pc = some e → okE 31 pc e := tn_ (tn_ (tn_ (tn_ (tn_ (tl_ (oi_iconst (n := 0) (by decide +kernel) (by decide +kernel) rfl)) (tn_ (tl_ (oi_istore_n (k := 1) (by decide) (by decide +kernel) rfl rfl)) (tl_ (oi_iconst (n := 0) (by decide +kernel) (by decide +kernel) rfl)))) (tn_ (tn_ (tl_ (oi_istore_n (k := 2) (by decide) (by decide +kernel) rfl rfl)) (tl_ (oi_iload_n (k := 2) (by decide +kernel) rfl rfl))) (tn_ (tl_ (oi_aload_n (k := 0) (by decide +kernel) rfl rfl)) (tl_ (oi_getfield (i := 77) (by decide +kernel) rfl ⟨_, _, _, rfl, by decide, mw_658⟩))))) (tn_ (tn_ (tl_ (oi_if_icmpge (f := 92) (by decide +kernel) (by decide) rfl)) (tn_ (tl_ (oi_iconst (n := 0) (by decide +kernel) (by decide +kernel) rfl)) (tl_ (oi_istore_n (k := 3) (by decide) (by decide +kernel) rfl rfl)))) (tn_ (tn_ (tl_ (oi_iload_n (k := 3) (by decide +kernel) rfl rfl)) (tl_ (oi_aload_n (k := 0) (by decide +kernel) rfl rfl))) (tn_ (tl_ (oi_getfield (i := 17) (by decide +kernel) rfl ⟨_, _, _, rfl, by decide, mw_659⟩)) (tl_ (oi_iload_n (k := 2) (by decide +kernel) rfl rfl)))))) (tn_ (tn_ (tn_ (tl_ (oi_iald (by decide +kernel) rfl)) (tn_ (tl_ (oi_if_icmpge (f := 74) (by decide +kernel) (by decide) rfl)) (tl_ (oi_iconst (n := 0) (by decide +kernel) (by decide +kernel) rfl)))) (tn_ (tn_ (tl_ (oi_istore (by decide) (by decide +kernel) rfl)) (tl_ (oi_iload (by decide +kernel) rfl))) (tn_ (tl_ (oi_aload_n (k := 0) (by decide +kernel) rfl rfl)) (tl_ (oi_getfield (i := 7) (by decide +kernel) rfl ⟨_, _, _, rfl, by decide, mw_656⟩))))) (tn_ (tn_ (tn_ (tl_ (oi_if_icmpge (f := 56) (by decide +kernel) (by decide) rfl)) (tl_ (oi_aload_n (k := 0) (by decide +kernel) rfl rfl))) (tn_ (tl_ (oi_iload_n (k := 2) (by decide +kernel) rfl rfl)) (tl_ (oi_iload_n (k := 3) (by decide +kernel) rfl rfl)))) (tn_ (tn_ (tl_ (oi_iload (by decide +kernel) rfl)) (tl_ (oi_callV (i := 105) (by decide +kernel) rfl (by decide) (by decide) okm_30 (by decide) (by rfl) mw_793 mw_795 mw_32 mw_53 (by decide +kernel)))) (tn_ (tl_ (oi_istore (by decide) (by decide +kernel) rfl)) (tl_ (oi_bipush (n := 10) (by decide +kernel) (by decide +kernel) rfl))))))) (tn_ (tn_ (tn_ (tn_ (tl_ (oi_bipush (n := 24) (by decide +kernel) (by decide +kernel) rfl)) (tn_ (tl_ (oi_iload_n (k := 2) (by decide +kernel) rfl rfl)) (tl_ (oi_imul (by decide +kernel) rfl)))) (tn_ (tn_ (tl_ (oi_iload_n (k := 3) (by decide +kernel) rfl rfl)) (tl_ (oi_iadd (by decide +kernel) rfl))) (tn_ (tl_ (oi_imul (by decide +kernel) rfl)) (tl_ (oi_iload (by decide +kernel) rfl))))) (tn_ (tn_ (tn_ (tl_ (oi_iadd (by decide +kernel) rfl)) (tl_ (oi_istore (by decide) (by decide +kernel) rfl))) (tn_ (tl_ (oi_iload (by decide +kernel) rfl)) (tl_ (oi_aload_n (k := 0) (by decide +kernel) rfl rfl)))) (tn_ (tn_ (tl_ (oi_getfield (i := 48) (by decide +kernel) rfl ⟨_, _, _, rfl, by decide, mw_669⟩)) (tl_ (oi_iload (by decide +kernel) rfl))) (tn_ (tl_ (oi_iald (by decide +kernel) rfl)) (tl_ (oi_if_icmpge (f := 14) (by decide +kernel) (by decide) rfl)))))) (tn_ (tn_ (tn_ (tl_ (oi_aload_n (k := 0) (by decide +kernel) rfl rfl)) (tn_ (tl_ (oi_getfield (i := 48) (by decide +kernel) rfl ⟨_, _, _, rfl, by decide, mw_669⟩)) (tl_ (oi_iload (by decide +kernel) rfl)))) (tn_ (tn_ (tl_ (oi_iload (by decide +kernel) rfl)) (tl_ (oi_iast (by decide +kernel) rfl))) (tn_ (tl_ (oi_iconst (n := 1) (by decide +kernel) (by decide +kernel) rfl)) (tl_ (oi_istore_n (k := 1) (by decide) (by decide +kernel) rfl rfl))))) (tn_ (tn_ (tn_ (tl_ (oi_iinc (n := 1) (by decide) (by decide +kernel) (by decide +kernel) rfl)) (tl_ (oi_goto (f := -59) (by decide +kernel) (by decide)))) (tn_ (tl_ (oi_iinc (n := 1) (by decide) (by decide +kernel) (by decide +kernel) rfl)) (tl_ (oi_goto (f := -78) (by decide +kernel) (by decide))))) (tn_ (tn_ (tl_ (oi_iinc (n := 1) (by decide) (by decide +kernel) (by decide +kernel) rfl)) (tl_ (oi_goto (f := -94) (by decide +kernel) (by decide)))) (tn_ (tl_ (oi_iload_n (k := 1) (by decide +kernel) rfl rfl)) (tl_ (oi_ireturnZ (by decide +kernel) rfl)))))))
set_option maxRecDepth 20000 in
theorem ok_32 : ∀ pc e, k_32 pc = some e → okE 32 pc e := tn_ (tn_ (tn_ (tn_ (tl_ (oi_aload_n (k := 0) (by decide +kernel) rfl rfl)) (tn_ (tl_ (oi_getfield (i := 44) (by decide +kernel) rfl ⟨_, _, _, rfl, by decide, mw_668⟩)) (tl_ (oi_ifne (f := 4) (by decide +kernel) (by decide) rfl)))) (tn_ (tn_ (tl_ (oi_return (by decide +kernel) rfl)) (tl_ (oi_iconst (n := 0) (by decide +kernel) (by decide +kernel) rfl))) (tn_ (tl_ (oi_istore_n (k := 1) (by decide) (by decide +kernel) rfl rfl)) (tl_ (oi_iload_n (k := 1) (by decide +kernel) rfl rfl))))) (tn_ (tn_ (tl_ (oi_sipush (n := 1920) (by decide +kernel) (by decide +kernel) rfl)) (tn_ (tl_ (oi_if_icmpge (f := 17) (by decide +kernel) (by decide) rfl)) (tl_ (oi_aload_n (k := 0) (by decide +kernel) rfl rfl)))) (tn_ (tn_ (tl_ (oi_getfield (i := 48) (by decide +kernel) rfl ⟨_, _, _, rfl, by decide, mw_669⟩)) (tl_ (oi_iload_n (k := 1) (by decide +kernel) rfl rfl))) (tn_ (tl_ (oi_ldc (i := 97) (by decide +kernel) mw_788 rfl)) (tl_ (oi_iast (by decide +kernel) rfl)))))) (tn_ (tn_ (tn_ (tl_ (oi_iinc (n := 1) (by decide) (by decide +kernel) (by decide +kernel) rfl)) (tn_ (tl_ (oi_goto (f := -18) (by decide +kernel) (by decide))) (tl_ (oi_iconst (n := 1) (by decide +kernel) (by decide +kernel) rfl)))) (tn_ (tn_ (tl_ (oi_istore_n (k := 1) (by decide) (by decide +kernel) rfl rfl)) (tl_ (oi_iload_n (k := 1) (by decide +kernel) rfl rfl))) (tn_ (tl_ (oi_ifeq (f := 11) (by decide +kernel) (by decide) rfl)) (tl_ (oi_aload_n (k := 0) (by decide +kernel) rfl rfl))))) (tn_ (tn_ (tl_ (oi_callV (i := 108) (by decide +kernel) rfl (by decide) (by decide) okm_31 (by decide) (by rfl) mw_789 mw_791 mw_31 mw_53 (by decide +kernel))) (tn_ (tl_ (oi_istore_n (k := 1) (by decide) (by decide +kernel) rfl rfl)) (tl_ (oi_goto (f := -9) (by decide +kernel) (by decide))))) (tn_ (tn_ (tl_ (oi_aload_n (k := 0) (by decide +kernel) rfl rfl)) (tl_ (oi_iconst (n := 0) (by decide +kernel) (by decide +kernel) rfl))) (tn_ (tl_ (oi_putz (i := 44) (by decide +kernel) rfl ⟨_, _, _, rfl, by decide, mw_668, rfl, by decide +kernel⟩)) (tl_ (oi_return (by decide +kernel) rfl))))))
set_option maxRecDepth 20000 in
theorem ok_33 : ∀ pc e, k_33 pc = some e → okE 33 pc e := tn_ (tn_ (tn_ (tn_ (tn_ (tl_ (oi_iconst (n := 0) (by decide +kernel) (by decide +kernel) rfl)) (tl_ (oi_istore_n (k := 3) (by decide) (by decide +kernel) rfl rfl))) (tn_ (tl_ (oi_iconst (n := 0) (by decide +kernel) (by decide +kernel) rfl)) (tl_ (oi_istore (by decide) (by decide +kernel) rfl)))) (tn_ (tn_ (tl_ (oi_iload (by decide +kernel) rfl)) (tl_ (oi_aload_n (k := 0) (by decide +kernel) rfl rfl))) (tn_ (tl_ (oi_getfield (i := 7) (by decide +kernel) rfl ⟨_, _, _, rfl, by decide, mw_656⟩)) (tl_ (oi_if_icmpge (f := 42) (by decide +kernel) (by decide) rfl))))) (tn_ (tn_ (tn_ (tl_ (oi_aload_n (k := 0) (by decide +kernel) rfl rfl)) (tl_ (oi_getfield (i := 48) (by decide +kernel) rfl ⟨_, _, _, rfl, by decide, mw_669⟩))) (tn_ (tl_ (oi_bipush (n := 10) (by decide +kernel) (by decide +kernel) rfl)) (tl_ (oi_bipush (n := 24) (by decide +kernel) (by decide +kernel) rfl)))) (tn_ (tn_ (tl_ (oi_iload_n (k := 1) (by decide +kernel) rfl rfl)) (tl_ (oi_imul (by decide +kernel) rfl))) (tn_ (tl_ (oi_iload_n (k := 2) (by decide +kernel) rfl rfl)) (tn_ (tl_ (oi_iadd (by decide +kernel) rfl)) (tl_ (oi_imul (by decide +kernel) rfl))))))) (tn_ (tn_ (tn_ (tn_ (tl_ (oi_iload (by decide +kernel) rfl)) (tl_ (oi_iadd (by decide +kernel) rfl))) (tn_ (tl_ (oi_iald (by decide +kernel) rfl)) (tl_ (oi_ldc (i := 97) (by decide +kernel) mw_788 rfl)))) (tn_ (tn_ (tl_ (oi_if_icmpge (f := 12) (by decide +kernel) (by decide) rfl)) (tl_ (oi_iload_n (k := 3) (by decide +kernel) rfl rfl))) (tn_ (tl_ (oi_iconst (n := 1) (by decide +kernel) (by decide +kernel) rfl)) (tl_ (oi_iload (by decide +kernel) rfl))))) (tn_ (tn_ (tn_ (tl_ (oi_ishl (by decide +kernel) rfl)) (tl_ (oi_ior (by decide +kernel) rfl))) (tn_ (tl_ (oi_goto (f := 4) (by decide +kernel) (by decide))) (tl_ (oi_iload_n (k := 3) (by decide +kernel) rfl rfl)))) (tn_ (tn_ (tl_ (oi_istore_n (k := 3) (by decide) (by decide +kernel) rfl rfl)) (tl_ (oi_iinc (n := 1) (by decide) (by decide +kernel) (by decide +kernel) rfl))) (tn_ (tl_ (oi_goto (f := -45) (by decide +kernel) (by decide))) (tn_ (tl_ (oi_iload_n (k := 3) (by decide +kernel) rfl rfl)) (tl_ (oi_ireturnI (by decide +kernel) rfl)))))))
set_option maxRecDepth 20000 in
theorem ok_34 : ∀ pc e, k_34 pc = some e → okE 34 pc e := tn_ (tn_ (tn_ (tn_ (tl_ (oi_iconst (n := 0) (by decide +kernel) (by decide +kernel) rfl)) (tn_ (tl_ (oi_istore_n (k := 3) (by decide) (by decide +kernel) rfl rfl)) (tl_ (oi_iconst (n := 0) (by decide +kernel) (by decide +kernel) rfl)))) (tn_ (tl_ (oi_istore (by decide) (by decide +kernel) rfl)) (tn_ (tl_ (oi_iload (by decide +kernel) rfl)) (tl_ (oi_aload_n (k := 0) (by decide +kernel) rfl rfl))))) (tn_ (tn_ (tl_ (oi_getfield (i := 7) (by decide +kernel) rfl ⟨_, _, _, rfl, by decide, mw_656⟩)) (tn_ (tl_ (oi_if_icmpge (f := 33) (by decide +kernel) (by decide) rfl)) (tl_ (oi_aload_n (k := 0) (by decide +kernel) rfl rfl)))) (tn_ (tn_ (tl_ (oi_iload_n (k := 1) (by decide +kernel) rfl rfl)) (tl_ (oi_iload_n (k := 2) (by decide +kernel) rfl rfl))) (tn_ (tl_ (oi_iload (by decide +kernel) rfl)) (tl_ (oi_callV (i := 102) (by decide +kernel) rfl (by decide) (by decide) okm_29 (by decide) (by rfl) mw_797 mw_799 mw_33 mw_53 (by decide +kernel))))))) (tn_ (tn_ (tn_ (tl_ (oi_ldc (i := 97) (by decide +kernel) mw_788 rfl)) (tn_ (tl_ (oi_if_icmpge (f := 12) (by decide +kernel) (by decide) rfl)) (tl_ (oi_iload_n (k := 3) (by decide +kernel) rfl rfl)))) (tn_ (tn_ (tl_ (oi_iconst (n := 1) (by decide +kernel) (by decide +kernel) rfl)) (tl_ (oi_iload (by decide +kernel) rfl))) (tn_ (tl_ (oi_ishl (by decide +kernel) rfl)) (tl_ (oi_ior (by decide +kernel) rfl))))) (tn_ (tn_ (tl_ (oi_goto (f := 4) (by decide +kernel) (by decide))) (tn_ (tl_ (oi_iload_n (k := 3) (by decide +kernel) rfl rfl)) (tl_ (oi_istore_n (k := 3) (by decide) (by decide +kernel) rfl rfl)))) (tn_ (tn_ (tl_ (oi_iinc (n := 1) (by decide) (by decide +kernel) (by decide +kernel) rfl)) (tl_ (oi_goto (f := -36) (by decide +kernel) (by decide)))) (tn_ (tl_ (oi_iload_n (k := 3) (by decide +kernel) rfl rfl)) (tl_ (oi_ireturnI (by decide +kernel) rfl))))))
set_option maxRecDepth 20000 in
theorem ok_35 : ∀ pc e, k_35 pc = some e → okE 35 pc e := tn_ (tn_ (tn_ (tn_ (tl_ (oi_aload_n (k := 0) (by decide +kernel) rfl rfl)) (tl_ (oi_iconst (n := 0) (by decide +kernel) (by decide +kernel) rfl))) (tn_ (tl_ (oi_putfield (i := 66) (by decide +kernel) rfl ⟨_, _, _, rfl, by decide, mw_655, rfl, by decide +kernel⟩)) (tl_ (oi_aload_n (k := 0) (by decide +kernel) rfl rfl)))) (tn_ (tn_ (tl_ (oi_callV (i := 112) (by decide +kernel) rfl (by decide) (by decide) okm_32 (by decide) (by rfl) mw_784 mw_786 mw_30 mw_53 (by decide +kernel))) (tl_ (oi_aload_n (k := 0) (by decide +kernel) rfl rfl))) (tn_ (tl_ (oi_iload_n (k := 1) (by decide +kernel) rfl rfl)) (tl_ (oi_callV (i := 80) (by decide +kernel) rfl (by decide) (by decide) okm_19 (by decide) (by rfl) mw_753 mw_755 mw_26 mw_53 (by decide +kernel)))))) (tn_ (tn_ (tn_ (tl_ (oi_ifeq (f := 12) (by decide +kernel) (by decide) rfl)) (tl_ (oi_aload_n (k := 0) (by decide +kernel) rfl rfl))) (tn_ (tl_ (oi_iload_n (k := 1) (by decide +kernel) rfl rfl)) (tl_ (oi_m1 (by decide +kernel) rfl)))) (tn_ (tn_ (tl_ (oi_callV (i := 115) (by decide +kernel) rfl (by decide) (by decide) okm_34 (by decide) (by rfl) mw_805 mw_807 mw_35 mw_53 (by decide +kernel))) (tl_ (oi_goto (f := 4) (by decide +kernel) (by decide)))) (tn_ (tl_ (oi_iconst (n := 0) (by decide +kernel) (by decide +kernel) rfl)) (tl_ (oi_ireturnI (by decide +kernel) rfl)))))
set_option maxRecDepth 20000 in
theorem ok_36 : ∀ pc e, k_36 pc = some e → okE 36 pc e := tn_ (tn_ (tn_ (tn_ (tl_ (oi_aload_n (k := 0) (by decide +kernel) rfl rfl)) (tl_ (oi_iconst (n := 0) (by decide +kernel) (by decide +kernel) rfl))) (tn_ (tl_ (oi_putfield (i := 66) (by decide +kernel) rfl ⟨_, _, _, rfl, by decide, mw_655, rfl, by decide +kernel⟩)) (tl_ (oi_aload_n (k := 0) (by decide +kernel) rfl rfl)))) (tn_ (tn_ (tl_ (oi_callV (i := 112) (by decide +kernel) rfl (by decide) (by decide) okm_32 (by decide) (by rfl) mw_784 mw_786 mw_30 mw_53 (by decide +kernel))) (tl_ (oi_aload_n (k := 0) (by decide +kernel) rfl rfl))) (tn_ (tl_ (oi_iload_n (k := 1) (by decide +kernel) rfl rfl)) (tl_ (oi_iload_n (k := 2) (by decide +kernel) rfl rfl))))) (tn_ (tn_ (tn_ (tl_ (oi_callV (i := 94) (by decide +kernel) rfl (by decide) (by decide) okm_20 (by decide) (by rfl) mw_776 mw_778 mw_29 mw_53 (by decide +kernel))) (tl_ (oi_ifeq (f := 12) (by decide +kernel) (by decide) rfl))) (tn_ (tl_ (oi_aload_n (k := 0) (by decide +kernel) rfl rfl)) (tl_ (oi_iload_n (k := 1) (by decide +kernel) rfl rfl)))) (tn_ (tn_ (tl_ (oi_iload_n (k := 2) (by decide +kernel) rfl rfl)) (tl_ (oi_callV (i := 119) (by decide +kernel) rfl (by decide) (by decide) okm_33 (by decide) (by rfl) mw_813 mw_815 mw_36 mw_53 (by decide +kernel)))) (tn_ (tl_ (oi_goto (f := 4) (by decide +kernel) (by decide))) (tn_ (tl_ (oi_iconst (n := 0) (by decide +kernel) (by decide +kernel) rfl)) (tl_ (oi_ireturnI (by decide +kernel) rfl))))))
set_option maxRecDepth 20000 in
theorem ok_37 : ∀ pc e, k_37 pc = some e → okE 37 pc e := tn_ (tn_ (tn_ (tn_ (tl_ (oi_aload_n (k := 0) (by decide +kernel) rfl rfl)) (tn_ (tl_ (oi_iconst (n := 0) (by decide +kernel) (by decide +kernel) rfl)) (tl_ (oi_putfield (i := 66) (by decide +kernel) rfl ⟨_, _, _, rfl, by decide, mw_655, rfl, by decide +kernel⟩)))) (tn_ (tl_ (oi_aload_n (k := 0) (by decide +kernel) rfl rfl)) (tn_ (tl_ (oi_callV (i := 112) (by decide +kernel) rfl (by decide) (by decide) okm_32 (by decide) (by rfl) mw_784 mw_786 mw_30 mw_53 (by decide +kernel))) (tl_ (oi_aload_n (k := 0) (by decide +kernel) rfl rfl))))) (tn_ (tn_ (tl_ (oi_iload_n (k := 1) (by decide +kernel) rfl rfl)) (tn_ (tl_ (oi_callV (i := 80) (by decide +kernel) rfl (by decide) (by decide) okm_19 (by decide) (by rfl) mw_753 mw_755 mw_26 mw_53 (by decide +kernel))) (tl_ (oi_ifeq (f := 26) (by decide +kernel) (by decide) rfl)))) (tn_ (tl_ (oi_iload_n (k := 2) (by decide +kernel) rfl rfl)) (tn_ (tl_ (oi_iflt (f := 22) (by decide +kernel) (by decide) rfl)) (tl_ (oi_iload_n (k := 2) (by decide +kernel) rfl rfl)))))) (tn_ (tn_ (tn_ (tl_ (oi_aload_n (k := 0) (by decide +kernel) rfl rfl)) (tn_ (tl_ (oi_getfield (i := 29) (by decide +kernel) rfl ⟨_, _, _, rfl, by decide, mw_663⟩)) (tl_ (oi_iload_n (k := 1) (by decide +kernel) rfl rfl)))) (tn_ (tl_ (oi_iald (by decide +kernel) rfl)) (tn_ (tl_ (oi_if_icmpge (f := 12) (by decide +kernel) (by decide) rfl)) (tl_ (oi_aload_n (k := 0) (by decide +kernel) rfl rfl))))) (tn_ (tn_ (tl_ (oi_iload_n (k := 1) (by decide +kernel) rfl rfl)) (tn_ (tl_ (oi_iload_n (k := 2) (by decide +kernel) rfl rfl)) (tl_ (oi_callV (i := 115) (by decide +kernel) rfl (by decide) (by decide) okm_34 (by decide) (by rfl) mw_805 mw_807 mw_35 mw_53 (by decide +kernel))))) (tn_ (tl_ (oi_goto (f := 4) (by decide +kernel) (by decide))) (tn_ (tl_ (oi_iconst (n := 0) (by decide +kernel) (by decide +kernel) rfl)) (tl_ (oi_ireturnI (by decide +kernel) rfl))))))
end
section
set_option maxRecDepth 20000 in
theorem ok_38 : ∀ pc e, k_38 pc = some e → okE 38 pc e := tn_ (tn_ (tn_ (tn_ (tl_ (oi_aload_n (k := 0) (by decide +kernel) rfl rfl)) (tn_ (tl_ (oi_callV (i := 112) (by decide +kernel) rfl (by decide) (by decide) okm_32 (by decide) (by rfl) mw_784 mw_786 mw_30 mw_53 (by decide +kernel))) (tl_ (oi_aload_n (k := 0) (by decide +kernel) rfl rfl)))) (tn_ (tl_ (oi_iload_n (k := 1) (by decide +kernel) rfl rfl)) (tn_ (tl_ (oi_callV (i := 80) (by decide +kernel) rfl (by decide) (by decide) okm_19 (by decide) (by rfl) mw_753 mw_755 mw_26 mw_53 (by decide +kernel))) (tl_ (oi_ifeq (f := 21) (by decide +kernel) (by decide) rfl))))) (tn_ (tn_ (tl_ (oi_aload_n (k := 0) (by decide +kernel) rfl rfl)) (tn_ (tl_ (oi_iload_n (k := 2) (by decide +kernel) rfl rfl)) (tl_ (oi_callV (i := 69) (by decide +kernel) rfl (by decide) (by decide) okm_15 (by decide) (by rfl) mw_733 mw_735 mw_24 mw_53 (by decide +kernel))))) (tn_ (tl_ (oi_ifeq (f := 13) (by decide +kernel) (by decide) rfl)) (tn_ (tl_ (oi_aload_n (k := 0) (by decide +kernel) rfl rfl)) (tl_ (oi_iload_n (k := 1) (by decide +kernel) rfl rfl)))))) (tn_ (tn_ (tn_ (tl_ (oi_m1 (by decide +kernel) rfl)) (tn_ (tl_ (oi_iload_n (k := 2) (by decide +kernel) rfl rfl)) (tl_ (oi_callV (i := 102) (by decide +kernel) rfl (by decide) (by decide) okm_29 (by decide) (by rfl) mw_797 mw_799 mw_33 mw_53 (by decide +kernel))))) (tn_ (tl_ (oi_goto (f := 5) (by decide +kernel) (by decide))) (tn_ (tl_ (oi_ldc (i := 97) (by decide +kernel) mw_788 rfl)) (tl_ (oi_istore_n (k := 3) (by decide) (by decide +kernel) rfl rfl))))) (tn_ (tn_ (tl_ (oi_iload_n (k := 3) (by decide +kernel) rfl rfl)) (tn_ (tl_ (oi_ldc (i := 97) (by decide +kernel) mw_788 rfl)) (tl_ (oi_if_icmpge (f := 7) (by decide +kernel) (by decide) rfl)))) (tn_ (tn_ (tl_ (oi_iload_n (k := 3) (by decide +kernel) rfl rfl)) (tl_ (oi_goto (f := 4) (by decide +kernel) (by decide)))) (tn_ (tl_ (oi_iconst (n := 0) (by decide +kernel) (by decide +kernel) rfl)) (tl_ (oi_ireturnI (by decide +kernel) rfl))))))
set_option maxRecDepth 20000 in
theorem ok_39 : ∀ pc e, k_39 pc = some e → okE 39 pc e := tn_ (tn_ (tn_ (tl_ (oi_aload_n (k := 0) (by decide +kernel) rfl rfl)) (tl_ (oi_iconst (n := 0) (by decide +kernel) (by decide +kernel) rfl))) (tn_ (tl_ (oi_putfield (i := 66) (by decide +kernel) rfl ⟨_, _, _, rfl, by decide, mw_655, rfl, by decide +kernel⟩)) (tl_ (oi_aload_n (k := 0) (by decide +kernel) rfl rfl)))) (tn_ (tn_ (tl_ (oi_iload_n (k := 1) (by decide +kernel) rfl rfl)) (tl_ (oi_iload_n (k := 2) (by decide +kernel) rfl rfl))) (tn_ (tl_ (oi_callV (i := 122) (by decide +kernel) rfl (by decide) (by decide) okm_38 (by decide) (by rfl) mw_825 mw_827 mw_37 mw_53 (by decide +kernel))) (tl_ (oi_ireturnI (by decide +kernel) rfl))))
set_option maxRecDepth 20000 in
theorem ok_40 : ∀ pc e, k_40 pc = some e → okE 40 pc e := tn_ (tn_ (tn_ (tn_ (tn_ (tl_ (oi_m1 (by decide +kernel) rfl)) (tl_ (oi_istore (by decide) (by decide +kernel) rfl))) (tn_ (tl_ (oi_aload_n (k := 0) (by decide +kernel) rfl rfl)) (tn_ (tl_ (oi_getfield (i := 17) (by decide +kernel) rfl ⟨_, _, _, rfl, by decide, mw_659⟩)) (tl_ (oi_iload_n (k := 1) (by decide +kernel) rfl rfl))))) (tn_ (tn_ (tl_ (oi_iald (by decide +kernel) rfl)) (tl_ (oi_iconst (n := 1) (by decide +kernel) (by decide +kernel) rfl))) (tn_ (tl_ (oi_isub (by decide +kernel) rfl)) (tn_ (tl_ (oi_istore (by decide) (by decide +kernel) rfl)) (tl_ (oi_iload (by decide +kernel) rfl)))))) (tn_ (tn_ (tn_ (tl_ (oi_iflt (f := 52) (by decide +kernel) (by decide) rfl)) (tl_ (oi_aload_n (k := 0) (by decide +kernel) rfl rfl))) (tn_ (tl_ (oi_getfield (i := 48) (by decide +kernel) rfl ⟨_, _, _, rfl, by decide, mw_669⟩)) (tn_ (tl_ (oi_bipush (n := 10) (by decide +kernel) (by decide +kernel) rfl)) (tl_ (oi_bipush (n := 24) (by decide +kernel) (by decide +kernel) rfl))))) (tn_ (tn_ (tl_ (oi_iload_n (k := 1) (by decide +kernel) rfl rfl)) (tl_ (oi_imul (by decide +kernel) rfl))) (tn_ (tl_ (oi_iload (by decide +kernel) rfl)) (tn_ (tl_ (oi_iadd (by decide +kernel) rfl)) (tl_ (oi_imul (by decide +kernel) rfl))))))) (tn_ (tn_ (tn_ (tn_ (tl_ (oi_iload_n (k := 3) (by decide +kernel) rfl rfl)) (tl_ (oi_iadd (by decide +kernel) rfl))) (tn_ (tl_ (oi_iald (by decide +kernel) rfl)) (tn_ (tl_ (oi_iload (by decide +kernel) rfl)) (tl_ (oi_if_icmpne (f := 20) (by decide +kernel) (by decide) rfl))))) (tn_ (tn_ (tl_ (oi_aload_n (k := 0) (by decide +kernel) rfl rfl)) (tl_ (oi_iload_n (k := 1) (by decide +kernel) rfl rfl))) (tn_ (tl_ (oi_iload (by decide +kernel) rfl)) (tn_ (tl_ (oi_iload_n (k := 3) (by decide +kernel) rfl rfl)) (tl_ (oi_callV (i := 98) (by decide +kernel) rfl (by decide) (by decide) okm_28 (by decide) (by rfl) mw_801 mw_803 mw_34 mw_53 (by decide +kernel))))))) (tn_ (tn_ (tn_ (tl_ (oi_iload_n (k := 2) (by decide +kernel) rfl rfl)) (tl_ (oi_if_icmpne (f := 8) (by decide +kernel) (by decide) rfl))) (tn_ (tl_ (oi_iload (by decide +kernel) rfl)) (tn_ (tl_ (oi_goto (f := 5) (by decide +kernel) (by decide))) (tl_ (oi_iload (by decide +kernel) rfl))))) (tn_ (tn_ (tl_ (oi_istore (by decide) (by decide +kernel) rfl)) (tl_ (oi_idec (by decide) (by decide +kernel) rfl))) (tn_ (tl_ (oi_goto (f := -51) (by decide +kernel) (by decide))) (tn_ (tl_ (oi_iload (by decide +kernel) rfl)) (tl_ (oi_ireturnI (by decide +kernel) rfl)))))))
set_option maxRecDepth 20000 in
theorem ok_41 : ∀ pc e, k_41 pc = some e → okE 41 pc e := tn_ (tn_ (tn_ (tn_ (tn_ (tn_ (tl_ (oi_aload_n (k := 0) (by decide +kernel) rfl rfl)) (tl_ (oi_iconst (n := 0) (by decide +kernel) (by decide +kernel) rfl))) (tn_ (tl_ (oi_putfield (i := 66) (by decide +kernel) rfl ⟨_, _, _, rfl, by decide, mw_655, rfl, by decide +kernel⟩)) (tn_ (tl_ (oi_aload_n (k := 0) (by decide +kernel) rfl rfl)) (tl_ (oi_iload_n (k := 1) (by decide +kernel) rfl rfl))))) (tn_ (tn_ (tl_ (oi_iload_n (k := 2) (by decide +kernel) rfl rfl)) (tl_ (oi_callV (i := 122) (by decide +kernel) rfl (by decide) (by decide) okm_38 (by decide) (by rfl) mw_825 mw_827 mw_37 mw_53 (by decide +kernel)))) (tn_ (tl_ (oi_istore (by decide) (by decide +kernel) rfl)) (tn_ (tl_ (oi_iload_n (k := 3) (by decide +kernel) rfl rfl)) (tl_ (oi_iflt (f := 9) (by decide +kernel) (by decide) rfl)))))) (tn_ (tn_ (tn_ (tl_ (oi_iload_n (k := 3) (by decide +kernel) rfl rfl)) (tl_ (oi_iload (by decide +kernel) rfl))) (tn_ (tl_ (oi_if_icmplt (f := 5) (by decide +kernel) (by decide) rfl)) (tn_ (tl_ (oi_m1 (by decide +kernel) rfl)) (tl_ (oi_ireturnI (by decide +kernel) rfl))))) (tn_ (tn_ (tl_ (oi_iload_n (k := 1) (by decide +kernel) rfl rfl)) (tl_ (oi_istore (by decide) (by decide +kernel) rfl))) (tn_ (tl_ (oi_m1 (by decide +kernel) rfl)) (tn_ (tl_ (oi_istore (by decide) (by decide +kernel) rfl)) (tl_ (oi_aload_n (k := 0) (by decide +kernel) rfl rfl))))))) (tn_ (tn_ (tn_ (tn_ (tl_ (oi_iload (by decide +kernel) rfl)) (tl_ (oi_iload (by decide +kernel) rfl))) (tn_ (tl_ (oi_iload_n (k := 2) (by decide +kernel) rfl rfl)) (tn_ (tl_ (oi_iload (by decide +kernel) rfl)) (tl_ (oi_callV (i := 125) (by decide +kernel) rfl (by decide) (by decide) okm_40 (by decide) (by rfl) mw_833 mw_835 mw_38 mw_53 (by decide +kernel)))))) (tn_ (tn_ (tl_ (oi_istore (by decide) (by decide +kernel) rfl)) (tl_ (oi_iconst (n := 0) (by decide +kernel) (by decide +kernel) rfl))) (tn_ (tl_ (oi_istore (by decide) (by decide +kernel) rfl)) (tn_ (tl_ (oi_iload (by decide +kernel) rfl)) (tl_ (oi_iload_n (k := 3) (by decide +kernel) rfl rfl)))))) (tn_ (tn_ (tn_ (tl_ (oi_if_icmpge (f := 88) (by decide +kernel) (by decide) rfl)) (tl_ (oi_bipush (n := 24) (by decide +kernel) (by decide +kernel) rfl))) (tn_ (tl_ (oi_iload (by decide +kernel) rfl)) (tn_ (tl_ (oi_imul (by decide +kernel) rfl)) (tl_ (oi_iload (by decide +kernel) rfl))))) (tn_ (tn_ (tl_ (oi_iadd (by decide +kernel) rfl)) (tn_ (tl_ (oi_istore (by decide) (by decide +kernel) rfl)) (tl_ (oi_aload_n (k := 0) (by decide +kernel) rfl rfl)))) (tn_ (tl_ (oi_getfield (i := 20) (by decide +kernel) rfl ⟨_, _, _, rfl, by decide, mw_660⟩)) (tn_ (tl_ (oi_iload (by decide +kernel) rfl)) (tl_ (oi_iald (by decide +kernel) rfl)))))))) (tn_ (tn_ (tn_ (tn_ (tn_ (tl_ (oi_bipush (n := 8) (by decide +kernel) (by decide +kernel) rfl)) (tl_ (oi_if_icmpne (f := 13) (by decide +kernel) (by decide) rfl))) (tn_ (tl_ (oi_aload_n (k := 0) (by decide +kernel) rfl rfl)) (tn_ (tl_ (oi_getfield (i := 23) (by decide +kernel) rfl ⟨_, _, _, rfl, by decide, mw_661⟩)) (tl_ (oi_iload (by decide +kernel) rfl))))) (tn_ (tn_ (tl_ (oi_iald (by decide +kernel) rfl)) (tl_ (oi_goto (f := 4) (by decide +kernel) (by decide)))) (tn_ (tl_ (oi_m1 (by decide +kernel) rfl)) (tn_ (tl_ (oi_istore (by decide) (by decide +kernel) rfl)) (tl_ (oi_aload_n (k := 0) (by decide +kernel) rfl rfl)))))) (tn_ (tn_ (tn_ (tl_ (oi_getfield (i := 20) (by decide +kernel) rfl ⟨_, _, _, rfl, by decide, mw_660⟩)) (tl_ (oi_iload (by decide +kernel) rfl))) (tn_ (tl_ (oi_iald (by decide +kernel) rfl)) (tn_ (tl_ (oi_bipush (n := 8) (by decide +kernel) (by decide +kernel) rfl)) (tl_ (oi_if_icmpne (f := 8) (by decide +kernel) (by decide) rfl))))) (tn_ (tn_ (tl_ (oi_iload (by decide +kernel) rfl)) (tl_ (oi_goto (f := 10) (by decide +kernel) (by decide)))) (tn_ (tl_ (oi_aload_n (k := 0) (by decide +kernel) rfl rfl)) (tn_ (tl_ (oi_getfield (i := 26) (by decide +kernel) rfl ⟨_, _, _, rfl, by decide, mw_662⟩)) (tl_ (oi_iload (by decide +kernel) rfl))))))) (tn_ (tn_ (tn_ (tn_ (tl_ (oi_iald (by decide +kernel) rfl)) (tl_ (oi_istore (by decide) (by decide +kernel) rfl))) (tn_ (tl_ (oi_aload_n (k := 0) (by decide +kernel) rfl rfl)) (tn_ (tl_ (oi_iload (by decide +kernel) rfl)) (tl_ (oi_iload (by decide +kernel) rfl))))) (tn_ (tn_ (tl_ (oi_iload_n (k := 2) (by decide +kernel) rfl rfl)) (tl_ (oi_iload (by decide +kernel) rfl))) (tn_ (tl_ (oi_iload (by decide +kernel) rfl)) (tn_ (tl_ (oi_isub (by decide +kernel) rfl)) (tl_ (oi_iconst (n := 1) (by decide +kernel) (by decide +kernel) rfl)))))) (tn_ (tn_ (tn_ (tl_ (oi_isub (by decide +kernel) rfl)) (tl_ (oi_callV (i := 125) (by decide +kernel) rfl (by decide) (by decide) okm_40 (by decide) (by rfl) mw_833 mw_835 mw_38 mw_53 (by decide +kernel)))) (tn_ (tl_ (oi_istore (by decide) (by decide +kernel) rfl)) (tn_ (tl_ (oi_iinc (n := 1) (by decide) (by decide +kernel) (by decide +kernel) rfl)) (tl_ (oi_goto (f := -88) (by decide +kernel) (by decide)))))) (tn_ (tn_ (tl_ (oi_bipush (n := 24) (by decide +kernel) (by decide +kernel) rfl)) (tn_ (tl_ (oi_iload (by decide +kernel) rfl)) (tl_ (oi_imul (by decide +kernel) rfl)))) (tn_ (tl_ (oi_iload (by decide +kernel) rfl)) (tn_ (tl_ (oi_iadd (by decide +kernel) rfl)) (tl_ (oi_ireturnI (by decide +kernel) rfl))))))))
set_option maxRecDepth 20000 in
theorem ok_42 : ∀ pc e, k_42 pc = some e → okE 42 pc e := tn_ (tn_ (tn_ (tn_ (tn_ (tl_ (oi_aload_n (k := 0) (by decide +kernel) rfl rfl)) (tn_ (tl_ (oi_getfield (i := 51) (by decide +kernel) rfl ⟨_, _, _, rfl, by decide, mw_671⟩)) (tl_ (oi_aload_n (k := 0) (by decide +kernel) rfl rfl)))) (tn_ (tl_ (oi_getfield (i := 129) (by decide +kernel) rfl ⟨_, _, _, rfl, by decide, mw_670⟩)) (tn_ (tl_ (oi_iload_n (k := 1) (by decide +kernel) rfl rfl)) (tl_ (oi_iast (by decide +kernel) rfl))))) (tn_ (tn_ (tl_ (oi_aload_n (k := 0) (by decide +kernel) rfl rfl)) (tn_ (tl_ (oi_getfield (i := 54) (by decide +kernel) rfl ⟨_, _, _, rfl, by decide, mw_672⟩)) (tl_ (oi_aload_n (k := 0) (by decide +kernel) rfl rfl)))) (tn_ (tl_ (oi_getfield (i := 129) (by decide +kernel) rfl ⟨_, _, _, rfl, by decide, mw_670⟩)) (tn_ (tl_ (oi_iconst (n := 0) (by decide +kernel) (by decide +kernel) rfl)) (tl_ (oi_iast (by decide +kernel) rfl)))))) (tn_ (tn_ (tn_ (tl_ (oi_iconst (n := 0) (by decide +kernel) (by decide +kernel) rfl)) (tn_ (tl_ (oi_istore_n (k := 3) (by decide) (by decide +kernel) rfl rfl)) (tl_ (oi_iload_n (k := 3) (by decide +kernel) rfl rfl)))) (tn_ (tl_ (oi_iconst (n := 4) (by decide +kernel) (by decide +kernel) rfl)) (tn_ (tl_ (oi_if_icmpge (f := 45) (by decide +kernel) (by decide) rfl)) (tl_ (oi_aload_n (k := 0) (by decide +kernel) rfl rfl))))) (tn_ (tn_ (tl_ (oi_getfield (i := 57) (by decide +kernel) rfl ⟨_, _, _, rfl, by decide, mw_673⟩)) (tn_ (tl_ (oi_iconst (n := 4) (by decide +kernel) (by decide +kernel) rfl)) (tl_ (oi_aload_n (k := 0) (by decide +kernel) rfl rfl)))) (tn_ (tn_ (tl_ (oi_getfield (i := 129) (by decide +kernel) rfl ⟨_, _, _, rfl, by decide, mw_670⟩)) (tl_ (oi_imul (by decide +kernel) rfl))) (tn_ (tl_ (oi_iload_n (k := 3) (by decide +kernel) rfl rfl)) (tl_ (oi_iadd (by decide +kernel) rfl))))))) (tn_ (tn_ (tn_ (tn_ (tl_ (oi_iload_n (k := 3) (by decide +kernel) rfl rfl)) (tn_ (tl_ (oi_ifne (f := 7) (by decide +kernel) (by decide) rfl)) (tl_ (oi_iload_n (k := 2) (by decide +kernel) rfl rfl)))) (tn_ (tl_ (oi_goto (f := 4) (by decide +kernel) (by decide))) (tn_ (tl_ (oi_iconst (n := 0) (by decide +kernel) (by decide +kernel) rfl)) (tl_ (oi_iast (by decide +kernel) rfl))))) (tn_ (tn_ (tl_ (oi_aload_n (k := 0) (by decide +kernel) rfl rfl)) (tn_ (tl_ (oi_getfield (i := 60) (by decide +kernel) rfl ⟨_, _, _, rfl, by decide, mw_674⟩)) (tl_ (oi_iconst (n := 4) (by decide +kernel) (by decide +kernel) rfl)))) (tn_ (tl_ (oi_aload_n (k := 0) (by decide +kernel) rfl rfl)) (tn_ (tl_ (oi_getfield (i := 129) (by decide +kernel) rfl ⟨_, _, _, rfl, by decide, mw_670⟩)) (tl_ (oi_imul (by decide +kernel) rfl)))))) (tn_ (tn_ (tn_ (tl_ (oi_iload_n (k := 3) (by decide +kernel) rfl rfl)) (tn_ (tl_ (oi_iadd (by decide +kernel) rfl)) (tl_ (oi_m1 (by decide +kernel) rfl)))) (tn_ (tl_ (oi_iast (by decide +kernel) rfl)) (tn_ (tl_ (oi_iinc (n := 1) (by decide) (by decide +kernel) (by decide +kernel) rfl)) (tl_ (oi_goto (f := -44) (by decide +kernel) (by decide)))))) (tn_ (tn_ (tl_ (oi_aload_n (k := 0) (by decide +kernel) rfl rfl)) (tn_ (tl_ (oi_dup (by decide +kernel) rfl)) (tl_ (oi_getfield (i := 129) (by decide +kernel) rfl ⟨_, _, _, rfl, by decide, mw_670⟩)))) (tn_ (tn_ (tl_ (oi_iconst (n := 1) (by decide +kernel) (by decide +kernel) rfl)) (tl_ (oi_iadd (by decide +kernel) rfl))) (tn_ (tl_ (oi_putfield (i := 129) (by decide +kernel) rfl ⟨_, _, _, rfl, by decide, mw_670, rfl, by decide +kernel⟩)) (tl_ (oi_return (by decide +kernel) rfl)))))))
set_option maxRecDepth 20000 in
theorem ok_43 : ∀ pc e, k_43 pc = some e → okE 43 pc e := tn_ (tn_ (tn_ (tn_ (tn_ (tl_ (oi_aload_n (k := 0) (by decide +kernel) rfl rfl)) (tn_ (tl_ (oi_dup (by decide +kernel) rfl)) (tl_ (oi_getfield (i := 129) (by decide +kernel) rfl ⟨_, _, _, rfl, by decide, mw_670⟩)))) (tn_ (tl_ (oi_iconst (n := 1) (by decide +kernel) (by decide +kernel) rfl)) (tn_ (tl_ (oi_isub (by decide +kernel) rfl)) (tl_ (oi_putfield (i := 129) (by decide +kernel) rfl ⟨_, _, _, rfl, by decide, mw_670, rfl, by decide +kernel⟩))))) (tn_ (tn_ (tl_ (oi_aload_n (k := 0) (by decide +kernel) rfl rfl)) (tn_ (tl_ (oi_iload_n (k := 1) (by decide +kernel) rfl rfl)) (tl_ (oi_putfield (i := 132) (by decide +kernel) rfl ⟨_, _, _, rfl, by decide, mw_677, rfl, by decide +kernel⟩)))) (tn_ (tl_ (oi_aload_n (k := 0) (by decide +kernel) rfl rfl)) (tn_ (tl_ (oi_getfield (i := 129) (by decide +kernel) rfl ⟨_, _, _, rfl, by decide, mw_670⟩)) (tl_ (oi_ifle (f := 53) (by decide +kernel) (by decide) rfl)))))) (tn_ (tn_ (tn_ (tl_ (oi_aload_n (k := 0) (by decide +kernel) rfl rfl)) (tn_ (tl_ (oi_getfield (i := 129) (by decide +kernel) rfl ⟨_, _, _, rfl, by decide, mw_670⟩)) (tl_ (oi_iconst (n := 1) (by decide +kernel) (by decide +kernel) rfl)))) (tn_ (tl_ (oi_isub (by decide +kernel) rfl)) (tn_ (tl_ (oi_istore_n (k := 2) (by decide) (by decide +kernel) rfl rfl)) (tl_ (oi_bipush (n := 24) (by decide +kernel) (by decide +kernel) rfl))))) (tn_ (tn_ (tl_ (oi_aload_n (k := 0) (by decide +kernel) rfl rfl)) (tn_ (tl_ (oi_getfield (i := 51) (by decide +kernel) rfl ⟨_, _, _, rfl, by decide, mw_671⟩)) (tl_ (oi_iload_n (k := 2) (by decide +kernel) rfl rfl)))) (tn_ (tn_ (tl_ (oi_iald (by decide +kernel) rfl)) (tl_ (oi_imul (by decide +kernel) rfl))) (tn_ (tl_ (oi_aload_n (k := 0) (by decide +kernel) rfl rfl)) (tl_ (oi_getfield (i := 54) (by decide +kernel) rfl ⟨_, _, _, rfl, by decide, mw_672⟩))))))) (tn_ (tn_ (tn_ (tn_ (tl_ (oi_iload_n (k := 2) (by decide +kernel) rfl rfl)) (tn_ (tl_ (oi_iald (by decide +kernel) rfl)) (tl_ (oi_iadd (by decide +kernel) rfl)))) (tn_ (tl_ (oi_istore_n (k := 3) (by decide) (by decide +kernel) rfl rfl)) (tn_ (tl_ (oi_aload_n (k := 0) (by decide +kernel) rfl rfl)) (tl_ (oi_getfield (i := 57) (by decide +kernel) rfl ⟨_, _, _, rfl, by decide, mw_673⟩))))) (tn_ (tn_ (tl_ (oi_iconst (n := 4) (by decide +kernel) (by decide +kernel) rfl)) (tn_ (tl_ (oi_iload_n (k := 2) (by decide +kernel) rfl rfl)) (tl_ (oi_imul (by decide +kernel) rfl)))) (tn_ (tl_ (oi_aload_n (k := 0) (by decide +kernel) rfl rfl)) (tn_ (tl_ (oi_getfield (i := 23) (by decide +kernel) rfl ⟨_, _, _, rfl, by decide, mw_661⟩)) (tl_ (oi_iload_n (k := 3) (by decide +kernel) rfl rfl)))))) (tn_ (tn_ (tn_ (tl_ (oi_iald (by decide +kernel) rfl)) (tn_ (tl_ (oi_iadd (by decide +kernel) rfl)) (tl_ (oi_iload_n (k := 1) (by decide +kernel) rfl rfl)))) (tn_ (tl_ (oi_iast (by decide +kernel) rfl)) (tn_ (tl_ (oi_aload_n (k := 0) (by decide +kernel) rfl rfl)) (tl_ (oi_getfield (i := 54) (by decide +kernel) rfl ⟨_, _, _, rfl, by decide, mw_672⟩))))) (tn_ (tn_ (tl_ (oi_iload_n (k := 2) (by decide +kernel) rfl rfl)) (tn_ (tl_ (oi_dup2 (by decide +kernel) rfl)) (tl_ (oi_iald (by decide +kernel) rfl)))) (tn_ (tn_ (tl_ (oi_iconst (n := 1) (by decide +kernel) (by decide +kernel) rfl)) (tl_ (oi_iadd (by decide +kernel) rfl))) (tn_ (tl_ (oi_iast (by decide +kernel) rfl)) (tl_ (oi_return (by decide +kernel) rfl)))))))
set_option maxRecDepth 20000 in
theorem ok_44 : ∀ pc e, k_44 pc = some e → okE 44 pc e := tn_ (tn_ (tn_ (tn_ (tn_ (tn_ (tl_ (oi_iconst (n := 1) (by decide +kernel) (by decide +kernel) rfl)) (tl_ (oi_istore_n (k := 2) (by decide) (by decide +kernel) rfl rfl))) (tn_ (tl_ (oi_iload_n (k := 2) (by decide +kernel) rfl rfl)) (tl_ (oi_ifeq (f := 93) (by decide +kernel) (by decide) rfl)))) (tn_ (tn_ (tl_ (oi_aload_n (k := 0) (by decide +kernel) rfl rfl)) (tl_ (oi_getfield (i := 129) (by decide +kernel) rfl ⟨_, _, _, rfl, by decide, mw_670⟩))) (tn_ (tl_ (oi_ifle (f := 86) (by decide +kernel) (by decide) rfl)) (tl_ (oi_aload_n (k := 0) (by decide +kernel) rfl rfl))))) (tn_ (tn_ (tn_ (tl_ (oi_getfield (i := 129) (by decide +kernel) rfl ⟨_, _, _, rfl, by decide, mw_670⟩)) (tl_ (oi_iconst (n := 1) (by decide +kernel) (by decide +kernel) rfl))) (tn_ (tl_ (oi_isub (by decide +kernel) rfl)) (tl_ (oi_istore_n (k := 3) (by decide) (by decide +kernel) rfl rfl)))) (tn_ (tn_ (tl_ (oi_aload_n (k := 0) (by decide +kernel) rfl rfl)) (tl_ (oi_getfield (i := 51) (by decide +kernel) rfl ⟨_, _, _, rfl, by decide, mw_671⟩))) (tn_ (tl_ (oi_iload_n (k := 3) (by decide +kernel) rfl rfl)) (tl_ (oi_iald (by decide +kernel) rfl)))))) (tn_ (tn_ (tn_ (tn_ (tl_ (oi_istore (by decide) (by decide +kernel) rfl)) (tl_ (oi_aload_n (k := 0) (by decide +kernel) rfl rfl))) (tn_ (tl_ (oi_iload (by decide +kernel) rfl)) (tl_ (oi_aload_n (k := 0) (by decide +kernel) rfl rfl)))) (tn_ (tn_ (tl_ (oi_getfield (i := 54) (by decide +kernel) rfl ⟨_, _, _, rfl, by decide, mw_672⟩)) (tl_ (oi_iload_n (k := 3) (by decide +kernel) rfl rfl))) (tn_ (tl_ (oi_iald (by decide +kernel) rfl)) (tl_ (oi_iload_n (k := 1) (by decide +kernel) rfl rfl))))) (tn_ (tn_ (tn_ (tl_ (oi_callV (i := 98) (by decide +kernel) rfl (by decide) (by decide) okm_28 (by decide) (by rfl) mw_801 mw_803 mw_34 mw_53 (by decide +kernel))) (tl_ (oi_istore (by decide) (by decide +kernel) rfl))) (tn_ (tl_ (oi_iload (by decide +kernel) rfl)) (tl_ (oi_iflt (f := 38) (by decide +kernel) (by decide) rfl)))) (tn_ (tn_ (tl_ (oi_aload_n (k := 0) (by decide +kernel) rfl rfl)) (tl_ (oi_getfield (i := 60) (by decide +kernel) rfl ⟨_, _, _, rfl, by decide, mw_674⟩))) (tn_ (tl_ (oi_iconst (n := 4) (by decide +kernel) (by decide +kernel) rfl)) (tn_ (tl_ (oi_iload_n (k := 3) (by decide +kernel) rfl rfl)) (tl_ (oi_imul (by decide +kernel) rfl)))))))) (tn_ (tn_ (tn_ (tn_ (tn_ (tl_ (oi_iload (by decide +kernel) rfl)) (tl_ (oi_iadd (by decide +kernel) rfl))) (tn_ (tl_ (oi_iload_n (k := 1) (by decide +kernel) rfl rfl)) (tl_ (oi_iast (by decide +kernel) rfl)))) (tn_ (tn_ (tl_ (oi_aload_n (k := 0) (by decide +kernel) rfl rfl)) (tl_ (oi_getfield (i := 54) (by decide +kernel) rfl ⟨_, _, _, rfl, by decide, mw_672⟩))) (tn_ (tl_ (oi_iload_n (k := 3) (by decide +kernel) rfl rfl)) (tl_ (oi_aload_n (k := 0) (by decide +kernel) rfl rfl))))) (tn_ (tn_ (tn_ (tl_ (oi_getfield (i := 41) (by decide +kernel) rfl ⟨_, _, _, rfl, by decide, mw_667⟩)) (tl_ (oi_iconst (n := 4) (by decide +kernel) (by decide +kernel) rfl))) (tn_ (tl_ (oi_iload (by decide +kernel) rfl)) (tl_ (oi_imul (by decide +kernel) rfl)))) (tn_ (tn_ (tl_ (oi_iload (by decide +kernel) rfl)) (tl_ (oi_iadd (by decide +kernel) rfl))) (tn_ (tl_ (oi_iald (by decide +kernel) rfl)) (tn_ (tl_ (oi_iast (by decide +kernel) rfl)) (tl_ (oi_iconst (n := 0) (by decide +kernel) (by decide +kernel) rfl))))))) (tn_ (tn_ (tn_ (tn_ (tl_ (oi_istore_n (k := 2) (by decide) (by decide +kernel) rfl rfl)) (tl_ (oi_goto (f := 13) (by decide +kernel) (by decide)))) (tn_ (tl_ (oi_aload_n (k := 0) (by decide +kernel) rfl rfl)) (tl_ (oi_dup (by decide +kernel) rfl)))) (tn_ (tn_ (tl_ (oi_getfield (i := 129) (by decide +kernel) rfl ⟨_, _, _, rfl, by decide, mw_670⟩)) (tl_ (oi_iconst (n := 1) (by decide +kernel) (by decide +kernel) rfl))) (tn_ (tl_ (oi_isub (by decide +kernel) rfl)) (tl_ (oi_putfield (i := 129) (by decide +kernel) rfl ⟨_, _, _, rfl, by decide, mw_670, rfl, by decide +kernel⟩))))) (tn_ (tn_ (tn_ (tl_ (oi_goto (f := -91) (by decide +kernel) (by decide))) (tl_ (oi_aload_n (k := 0) (by decide +kernel) rfl rfl))) (tn_ (tl_ (oi_iload_n (k := 2) (by decide +kernel) rfl rfl)) (tl_ (oi_ifeq (f := 7) (by decide +kernel) (by decide) rfl)))) (tn_ (tn_ (tl_ (oi_iload_n (k := 1) (by decide +kernel) rfl rfl)) (tl_ (oi_goto (f := 4) (by decide +kernel) (by decide)))) (tn_ (tl_ (oi_m1 (by decide +kernel) rfl)) (tn_ (tl_ (oi_putfield (i := 63) (by decide +kernel) rfl ⟨_, _, _, rfl, by decide, mw_676, rfl, by decide +kernel⟩)) (tl_ (oi_return (by decide +kernel) rfl))))))))
set_option maxRecDepth 20000 in
theorem ok_45 : ∀ pc e, k_45 pc = some e → okE 45 pc e := tn_ (tn_ (tn_ (tn_ (tn_ (tl_ (oi_aload_n (k := 0) (by decide +kernel) rfl rfl)) (tl_ (oi_getfield (i := 129) (by decide +kernel) rfl ⟨_, _, _, rfl, by decide, mw_670⟩))) (tn_ (tl_ (oi_bipush (n := 12) (by decide +kernel) (by decide +kernel) rfl)) (tn_ (tl_ (oi_if_icmpne (f := 11) (by decide +kernel) (by decide) rfl)) (tl_ (oi_aload_n (k := 0) (by decide +kernel) rfl rfl))))) (tn_ (tn_ (tl_ (oi_iconst (n := 2) (by decide +kernel) (by decide +kernel) rfl)) (tl_ (oi_callV (i := 135) (by decide +kernel) rfl (by decide) (by decide) okm_44 (by decide) (by rfl) mw_857 mw_859 mw_43 mw_53 (by decide +kernel)))) (tn_ (tl_ (oi_goto (f := 50) (by decide +kernel) (by decide))) (tn_ (tl_ (oi_aload_n (k := 0) (by decide +kernel) rfl rfl)) (tl_ (oi_iload_n (k := 3) (by decide +kernel) rfl rfl)))))) (tn_ (tn_ (tn_ (tl_ (oi_callV (i := 80) (by decide +kernel) rfl (by decide) (by decide) okm_19 (by decide) (by rfl) mw_753 mw_755 mw_26 mw_53 (by decide +kernel))) (tl_ (oi_ifeq (f := 21) (by decide +kernel) (by decide) rfl))) (tn_ (tl_ (oi_aload_n (k := 0) (by decide +kernel) rfl rfl)) (tn_ (tl_ (oi_iload_n (k := 3) (by decide +kernel) rfl rfl)) (tl_ (oi_aload_n (k := 0) (by decide +kernel) rfl rfl))))) (tn_ (tn_ (tl_ (oi_getfield (i := 57) (by decide +kernel) rfl ⟨_, _, _, rfl, by decide, mw_673⟩)) (tn_ (tl_ (oi_iconst (n := 4) (by decide +kernel) (by decide +kernel) rfl)) (tl_ (oi_iload_n (k := 1) (by decide +kernel) rfl rfl)))) (tn_ (tl_ (oi_imul (by decide +kernel) rfl)) (tn_ (tl_ (oi_iload_n (k := 2) (by decide +kernel) rfl rfl)) (tl_ (oi_iadd (by decide +kernel) rfl))))))) (tn_ (tn_ (tn_ (tn_ (tl_ (oi_iald (by decide +kernel) rfl)) (tl_ (oi_callV (i := 139) (by decide +kernel) rfl (by decide) (by decide) okm_42 (by decide) (by rfl) mw_841 mw_843 mw_39 mw_53 (by decide +kernel)))) (tn_ (tl_ (oi_goto (f := 24) (by decide +kernel) (by decide))) (tn_ (tl_ (oi_aload_n (k := 0) (by decide +kernel) rfl rfl)) (tl_ (oi_getfield (i := 57) (by decide +kernel) rfl ⟨_, _, _, rfl, by decide, mw_673⟩))))) (tn_ (tn_ (tl_ (oi_iconst (n := 4) (by decide +kernel) (by decide +kernel) rfl)) (tl_ (oi_iload_n (k := 1) (by decide +kernel) rfl rfl))) (tn_ (tl_ (oi_imul (by decide +kernel) rfl)) (tn_ (tl_ (oi_iload_n (k := 2) (by decide +kernel) rfl rfl)) (tl_ (oi_iadd (by decide +kernel) rfl)))))) (tn_ (tn_ (tn_ (tl_ (oi_iconst (n := 0) (by decide +kernel) (by decide +kernel) rfl)) (tl_ (oi_iast (by decide +kernel) rfl))) (tn_ (tl_ (oi_aload_n (k := 0) (by decide +kernel) rfl rfl)) (tn_ (tl_ (oi_getfield (i := 54) (by decide +kernel) rfl ⟨_, _, _, rfl, by decide, mw_672⟩)) (tl_ (oi_iload_n (k := 1) (by decide +kernel) rfl rfl))))) (tn_ (tn_ (tl_ (oi_dup2 (by decide +kernel) rfl)) (tn_ (tl_ (oi_iald (by decide +kernel) rfl)) (tl_ (oi_iconst (n := 1) (by decide +kernel) (by decide +kernel) rfl)))) (tn_ (tl_ (oi_iadd (by decide +kernel) rfl)) (tn_ (tl_ (oi_iast (by decide +kernel) rfl)) (tl_ (oi_return (by decide +kernel) rfl)))))))
end
section
set_option maxRecDepth 20000 in
theorem ok_46 : ∀ pc e, k_46 pc = some e → okE 46 pc e := tn_ (tn_ (tn_ (tn_ (tn_ (tl_ (oi_aload_n (k := 0) (by decide +kernel) rfl rfl)) (tl_ (oi_getfield (i := 57) (by decide +kernel) rfl ⟨_, _, _, rfl, by decide, mw_673⟩))) (tn_ (tl_ (oi_iconst (n := 4) (by decide +kernel) (by decide +kernel) rfl)) (tn_ (tl_ (oi_iload_n (k := 1) (by decide +kernel) rfl rfl)) (tl_ (oi_imul (by decide +kernel) rfl))))) (tn_ (tn_ (tl_ (oi_iload_n (k := 3) (by decide +kernel) rfl rfl)) (tl_ (oi_iadd (by decide +kernel) rfl))) (tn_ (tl_ (oi_iald (by decide +kernel) rfl)) (tn_ (tl_ (oi_istore (by decide) (by decide +kernel) rfl)) (tl_ (oi_iload (by decide +kernel) rfl)))))) (tn_ (tn_ (tn_ (tl_ (oi_ifne (f := 11) (by decide +kernel) (by decide) rfl)) (tl_ (oi_aload_n (k := 0) (by decide +kernel) rfl rfl))) (tn_ (tl_ (oi_iconst (n := 1) (by decide +kernel) (by decide +kernel) rfl)) (tn_ (tl_ (oi_callV (i := 135) (by decide +kernel) rfl (by decide) (by decide) okm_44 (by decide) (by rfl) mw_857 mw_859 mw_43 mw_53 (by decide +kernel))) (tl_ (oi_goto (f := 36) (by decide +kernel) (by decide)))))) (tn_ (tn_ (tl_ (oi_aload_n (k := 0) (by decide +kernel) rfl rfl)) (tn_ (tl_ (oi_getfield (i := 57) (by decide +kernel) rfl ⟨_, _, _, rfl, by decide, mw_673⟩)) (tl_ (oi_iconst (n := 4) (by decide +kernel) (by decide +kernel) rfl)))) (tn_ (tl_ (oi_iload_n (k := 1) (by decide +kernel) rfl rfl)) (tn_ (tl_ (oi_imul (by decide +kernel) rfl)) (tl_ (oi_iload_n (k := 2) (by decide +kernel) rfl rfl))))))) (tn_ (tn_ (tn_ (tn_ (tl_ (oi_iadd (by decide +kernel) rfl)) (tl_ (oi_aload_n (k := 0) (by decide +kernel) rfl rfl))) (tn_ (tl_ (oi_getfield (i := 57) (by decide +kernel) rfl ⟨_, _, _, rfl, by decide, mw_673⟩)) (tn_ (tl_ (oi_iconst (n := 4) (by decide +kernel) (by decide +kernel) rfl)) (tl_ (oi_iload_n (k := 1) (by decide +kernel) rfl rfl))))) (tn_ (tn_ (tl_ (oi_imul (by decide +kernel) rfl)) (tl_ (oi_iload_n (k := 2) (by decide +kernel) rfl rfl))) (tn_ (tl_ (oi_iadd (by decide +kernel) rfl)) (tn_ (tl_ (oi_iald (by decide +kernel) rfl)) (tl_ (oi_iload (by decide +kernel) rfl)))))) (tn_ (tn_ (tn_ (tl_ (oi_idiv (by decide +kernel) rfl)) (tl_ (oi_iast (by decide +kernel) rfl))) (tn_ (tl_ (oi_aload_n (k := 0) (by decide +kernel) rfl rfl)) (tn_ (tl_ (oi_getfield (i := 54) (by decide +kernel) rfl ⟨_, _, _, rfl, by decide, mw_672⟩)) (tl_ (oi_iload_n (k := 1) (by decide +kernel) rfl rfl))))) (tn_ (tn_ (tl_ (oi_dup2 (by decide +kernel) rfl)) (tn_ (tl_ (oi_iald (by decide +kernel) rfl)) (tl_ (oi_iconst (n := 1) (by decide +kernel) (by decide +kernel) rfl)))) (tn_ (tl_ (oi_iadd (by decide +kernel) rfl)) (tn_ (tl_ (oi_iast (by decide +kernel) rfl)) (tl_ (oi_return (by decide +kernel) rfl)))))))
set_option maxRecDepth 20000 in
theorem ok_47 : ∀ pc e, k_47 pc = some e → okE 47 pc e := tn_ (tn_ (tn_ (tn_ (tl_ (oi_aload_n (k := 0) (by decide +kernel) rfl rfl)) (tn_ (tl_ (oi_getfield (i := 60) (by decide +kernel) rfl ⟨_, _, _, rfl, by decide, mw_674⟩)) (tl_ (oi_iconst (n := 4) (by decide +kernel) (by decide +kernel) rfl)))) (tn_ (tn_ (tl_ (oi_iload_n (k := 1) (by decide +kernel) rfl rfl)) (tl_ (oi_imul (by decide +kernel) rfl))) (tn_ (tl_ (oi_iload_n (k := 2) (by decide +kernel) rfl rfl)) (tl_ (oi_iadd (by decide +kernel) rfl))))) (tn_ (tn_ (tl_ (oi_iald (by decide +kernel) rfl)) (tn_ (tl_ (oi_iflt (f := 20) (by decide +kernel) (by decide) rfl)) (tl_ (oi_aload_n (k := 0) (by decide +kernel) rfl rfl)))) (tn_ (tn_ (tl_ (oi_aload_n (k := 0) (by decide +kernel) rfl rfl)) (tl_ (oi_getfield (i := 60) (by decide +kernel) rfl ⟨_, _, _, rfl, by decide, mw_674⟩))) (tn_ (tl_ (oi_iconst (n := 4) (by decide +kernel) (by decide +kernel) rfl)) (tl_ (oi_iload_n (k := 1) (by decide +kernel) rfl rfl)))))) (tn_ (tn_ (tn_ (tl_ (oi_imul (by decide +kernel) rfl)) (tn_ (tl_ (oi_iload_n (k := 2) (by decide +kernel) rfl rfl)) (tl_ (oi_iadd (by decide +kernel) rfl)))) (tn_ (tn_ (tl_ (oi_iald (by decide +kernel) rfl)) (tl_ (oi_callV (i := 135) (by decide +kernel) rfl (by decide) (by decide) okm_44 (by decide) (by rfl) mw_857 mw_859 mw_43 mw_53 (by decide +kernel)))) (tn_ (tl_ (oi_goto (f := 13) (by decide +kernel) (by decide))) (tl_ (oi_aload_n (k := 0) (by decide +kernel) rfl rfl))))) (tn_ (tn_ (tn_ (tl_ (oi_getfield (i := 54) (by decide +kernel) rfl ⟨_, _, _, rfl, by decide, mw_672⟩)) (tl_ (oi_iload_n (k := 1) (by decide +kernel) rfl rfl))) (tn_ (tl_ (oi_dup2 (by decide +kernel) rfl)) (tl_ (oi_iald (by decide +kernel) rfl)))) (tn_ (tn_ (tl_ (oi_iconst (n := 1) (by decide +kernel) (by decide +kernel) rfl)) (tl_ (oi_iadd (by decide +kernel) rfl))) (tn_ (tl_ (oi_iast (by decide +kernel) rfl)) (tl_ (oi_return (by decide +kernel) rfl))))))
theorem oe_48_0 : okE 48 0 (3, 0, 0, 1) := oi_aload_n (k := 0) (by decide +kernel) rfl rfl
theorem oe_48_1 : okE 48 1 (16, 6, 15, 4) := oi_getfield (i := 129) (by decide +kernel) rfl ⟨_, _, _, rfl, by decide, mw_670⟩
theorem oe_48_4 : okE 48 4 (0, 1, 0, 5) := oi_iconst (n := 1) (by decide +kernel) (by decide +kernel) rfl
theorem oe_48_5 : okE 48 5 (7, 0, 0, 6) := oi_isub (by decide +kernel) rfl
theorem oe_48_6 : okE 48 6 (4, 1, 0, 7) := oi_istore_n (k := 1) (by decide) (by decide +kernel) rfl rfl
theorem oe_48_7 : okE 48 7 (0, 24, 0, 9) := oi_bipush (n := 24) (by decide +kernel) (by decide +kernel) rfl
theorem oe_48_9 : okE 48 9 (3, 0, 0, 10) := oi_aload_n (k := 0) (by decide +kernel) rfl rfl
theorem oe_48_10 : okE 48 10 (16, 6, 16, 13) := oi_getfield (i := 51) (by decide +kernel) rfl ⟨_, _, _, rfl, by decide, mw_671⟩
theorem oe_48_13 : okE 48 13 (2, 1, 0, 14) := oi_iload_n (k := 1) (by decide +kernel) rfl rfl
theorem oe_48_14 : okE 48 14 (30, 0, 0, 15) := oi_iald (by decide +kernel) rfl
theorem oe_48_15 : okE 48 15 (8, 0, 0, 16) := oi_imul (by decide +kernel) rfl
theorem oe_48_16 : okE 48 16 (3, 0, 0, 17) := oi_aload_n (k := 0) (by decide +kernel) rfl rfl
theorem oe_48_17 : okE 48 17 (16, 6, 17, 20) := oi_getfield (i := 54) (by decide +kernel) rfl ⟨_, _, _, rfl, by decide, mw_672⟩
theorem oe_48_20 : okE 48 20 (2, 1, 0, 21) := oi_iload_n (k := 1) (by decide +kernel) rfl rfl
theorem oe_48_21 : okE 48 21 (30, 0, 0, 22) := oi_iald (by decide +kernel) rfl
theorem oe_48_22 : okE 48 22 (6, 0, 0, 23) := oi_iadd (by decide +kernel) rfl
theorem oe_48_23 : okE 48 23 (4, 2, 0, 24) := oi_istore_n (k := 2) (by decide) (by decide +kernel) rfl rfl
theorem oe_48_24 : okE 48 24 (3, 0, 0, 25) := oi_aload_n (k := 0) (by decide +kernel) rfl rfl
theorem oe_48_25 : okE 48 25 (16, 6, 6, 28) := oi_getfield (i := 23) (by decide +kernel) rfl ⟨_, _, _, rfl, by decide, mw_661⟩
theorem oe_48_28 : okE 48 28 (2, 2, 0, 29) := oi_iload_n (k := 2) (by decide +kernel) rfl rfl
theorem oe_48_29 : okE 48 29 (30, 0, 0, 30) := oi_iald (by decide +kernel) rfl
theorem oe_48_30 : okE 48 30 (4, 3, 0, 31) := oi_istore_n (k := 3) (by decide) (by decide +kernel) rfl rfl
theorem oe_48_31 : okE 48 31 (3, 0, 0, 32) := oi_aload_n (k := 0) (by decide +kernel) rfl rfl
theorem oe_48_32 : okE 48 32 (16, 6, 7, 35) := oi_getfield (i := 26) (by decide +kernel) rfl ⟨_, _, _, rfl, by decide, mw_662⟩
theorem oe_48_35 : okE 48 35 (2, 2, 0, 36) := oi_iload_n (k := 2) (by decide +kernel) rfl rfl
theorem oe_48_36 : okE 48 36 (30, 0, 0, 37) := oi_iald (by decide +kernel) rfl
theorem oe_48_37 : okE 48 37 (4, 4, 0, 39) := oi_istore (by decide) (by decide +kernel) rfl
theorem oe_48_39 : okE 48 39 (3, 0, 0, 40) := oi_aload_n (k := 0) (by decide +kernel) rfl rfl
theorem oe_48_40 : okE 48 40 (16, 6, 5, 43) := oi_getfield (i := 20) (by decide +kernel) rfl ⟨_, _, _, rfl, by decide, mw_660⟩
theorem oe_48_43 : okE 48 43 (2, 2, 0, 44) := oi_iload_n (k := 2) (by decide +kernel) rfl rfl
theorem oe_48_44 : okE 48 44 (30, 0, 0, 45) := oi_iald (by decide +kernel) rfl
theorem oe_48_45 : okE 48 45 (62, 1, 295, 0) := sw_ok1
theorem oe_48_96 : okE 48 96 (3, 0, 0, 97) := oi_aload_n (k := 0) (by decide +kernel) rfl rfl
theorem oe_48_97 : okE 48 97 (16, 6, 18, 100) := oi_getfield (i := 57) (by decide +kernel) rfl ⟨_, _, _, rfl, by decide, mw_673⟩
theorem oe_48_100 : okE 48 100 (0, 4, 0, 101) := oi_iconst (n := 4) (by decide +kernel) (by decide +kernel) rfl
theorem oe_48_101 : okE 48 101 (2, 1, 0, 102) := oi_iload_n (k := 1) (by decide +kernel) rfl rfl
theorem oe_48_102 : okE 48 102 (8, 0, 0, 103) := oi_imul (by decide +kernel) rfl
theorem oe_48_103 : okE 48 103 (2, 3, 0, 104) := oi_iload_n (k := 3) (by decide +kernel) rfl rfl
theorem oe_48_104 : okE 48 104 (6, 0, 0, 105) := oi_iadd (by decide +kernel) rfl
theorem oe_48_105 : okE 48 105 (2, 4, 0, 107) := oi_iload (by decide +kernel) rfl
theorem oe_48_107 : okE 48 107 (31, 0, 0, 108) := oi_iast (by decide +kernel) rfl
theorem oe_48_108 : okE 48 108 (3, 0, 0, 109) := oi_aload_n (k := 0) (by decide +kernel) rfl rfl
theorem oe_48_109 : okE 48 109 (16, 6, 17, 112) := oi_getfield (i := 54) (by decide +kernel) rfl ⟨_, _, _, rfl, by decide, mw_672⟩
theorem oe_48_112 : okE 48 112 (2, 1, 0, 113) := oi_iload_n (k := 1) (by decide +kernel) rfl rfl
theorem oe_48_113 : okE 48 113 (15, 0, 0, 114) := oi_dup2 (by decide +kernel) rfl
theorem oe_48_114 : okE 48 114 (30, 0, 0, 115) := oi_iald (by decide +kernel) rfl
theorem oe_48_115 : okE 48 115 (0, 1, 0, 116) := oi_iconst (n := 1) (by decide +kernel) (by decide +kernel) rfl
theorem oe_48_116 : okE 48 116 (6, 0, 0, 117) := oi_iadd (by decide +kernel) rfl
theorem oe_48_117 : okE 48 117 (31, 0, 0, 118) := oi_iast (by decide +kernel) rfl
theorem oe_48_118 : okE 48 118 (18, 0, 0, 309) := oi_goto (f := 191) (by decide +kernel) (by decide)
theorem oe_48_121 : okE 48 121 (3, 0, 0, 122) := oi_aload_n (k := 0) (by decide +kernel) rfl rfl
theorem oe_48_122 : okE 48 122 (16, 6, 18, 125) := oi_getfield (i := 57) (by decide +kernel) rfl ⟨_, _, _, rfl, by decide, mw_673⟩
theorem oe_48_125 : okE 48 125 (0, 4, 0, 126) := oi_iconst (n := 4) (by decide +kernel) (by decide +kernel) rfl
theorem oe_48_126 : okE 48 126 (2, 1, 0, 127) := oi_iload_n (k := 1) (by decide +kernel) rfl rfl
theorem oe_48_127 : okE 48 127 (8, 0, 0, 128) := oi_imul (by decide +kernel) rfl
theorem oe_48_128 : okE 48 128 (2, 3, 0, 129) := oi_iload_n (k := 3) (by decide +kernel) rfl rfl
theorem oe_48_129 : okE 48 129 (6, 0, 0, 130) := oi_iadd (by decide +kernel) rfl
theorem oe_48_130 : okE 48 130 (3, 0, 0, 131) := oi_aload_n (k := 0) (by decide +kernel) rfl rfl
theorem oe_48_131 : okE 48 131 (16, 6, 18, 134) := oi_getfield (i := 57) (by decide +kernel) rfl ⟨_, _, _, rfl, by decide, mw_673⟩
theorem oe_48_134 : okE 48 134 (0, 4, 0, 135) := oi_iconst (n := 4) (by decide +kernel) (by decide +kernel) rfl
theorem oe_48_135 : okE 48 135 (2, 1, 0, 136) := oi_iload_n (k := 1) (by decide +kernel) rfl rfl
theorem oe_48_136 : okE 48 136 (8, 0, 0, 137) := oi_imul (by decide +kernel) rfl
theorem oe_48_137 : okE 48 137 (2, 3, 0, 138) := oi_iload_n (k := 3) (by decide +kernel) rfl rfl
theorem oe_48_138 : okE 48 138 (6, 0, 0, 139) := oi_iadd (by decide +kernel) rfl
theorem oe_48_139 : okE 48 139 (30, 0, 0, 140) := oi_iald (by decide +kernel) rfl
theorem oe_48_140 : okE 48 140 (3, 0, 0, 141) := oi_aload_n (k := 0) (by decide +kernel) rfl rfl
theorem oe_48_141 : okE 48 141 (16, 6, 18, 144) := oi_getfield (i := 57) (by decide +kernel) rfl ⟨_, _, _, rfl, by decide, mw_673⟩
theorem oe_48_144 : okE 48 144 (0, 4, 0, 145) := oi_iconst (n := 4) (by decide +kernel) (by decide +kernel) rfl
theorem oe_48_145 : okE 48 145 (2, 1, 0, 146) := oi_iload_n (k := 1) (by decide +kernel) rfl rfl
theorem oe_48_146 : okE 48 146 (8, 0, 0, 147) := oi_imul (by decide +kernel) rfl
theorem oe_48_147 : okE 48 147 (2, 4, 0, 149) := oi_iload (by decide +kernel) rfl
theorem oe_48_149 : okE 48 149 (6, 0, 0, 150) := oi_iadd (by decide +kernel) rfl
theorem oe_48_150 : okE 48 150 (30, 0, 0, 151) := oi_iald (by decide +kernel) rfl
theorem oe_48_151 : okE 48 151 (6, 0, 0, 152) := oi_iadd (by decide +kernel) rfl
theorem oe_48_152 : okE 48 152 (31, 0, 0, 153) := oi_iast (by decide +kernel) rfl
theorem oe_48_153 : okE 48 153 (3, 0, 0, 154) := oi_aload_n (k := 0) (by decide +kernel) rfl rfl
theorem oe_48_154 : okE 48 154 (16, 6, 17, 157) := oi_getfield (i := 54) (by decide +kernel) rfl ⟨_, _, _, rfl, by decide, mw_672⟩
theorem oe_48_157 : okE 48 157 (2, 1, 0, 158) := oi_iload_n (k := 1) (by decide +kernel) rfl rfl
theorem oe_48_158 : okE 48 158 (15, 0, 0, 159) := oi_dup2 (by decide +kernel) rfl
theorem oe_48_159 : okE 48 159 (30, 0, 0, 160) := oi_iald (by decide +kernel) rfl
theorem oe_48_160 : okE 48 160 (0, 1, 0, 161) := oi_iconst (n := 1) (by decide +kernel) (by decide +kernel) rfl
theorem oe_48_161 : okE 48 161 (6, 0, 0, 162) := oi_iadd (by decide +kernel) rfl
theorem oe_48_162 : okE 48 162 (31, 0, 0, 163) := oi_iast (by decide +kernel) rfl
theorem oe_48_163 : okE 48 163 (18, 0, 0, 309) := oi_goto (f := 146) (by decide +kernel) (by decide)
theorem oe_48_166 : okE 48 166 (3, 0, 0, 167) := oi_aload_n (k := 0) (by decide +kernel) rfl rfl
theorem oe_48_167 : okE 48 167 (16, 6, 18, 170) := oi_getfield (i := 57) (by decide +kernel) rfl ⟨_, _, _, rfl, by decide, mw_673⟩
theorem oe_48_170 : okE 48 170 (0, 4, 0, 171) := oi_iconst (n := 4) (by decide +kernel) (by decide +kernel) rfl
theorem oe_48_171 : okE 48 171 (2, 1, 0, 172) := oi_iload_n (k := 1) (by decide +kernel) rfl rfl
theorem oe_48_172 : okE 48 172 (8, 0, 0, 173) := oi_imul (by decide +kernel) rfl
theorem oe_48_173 : okE 48 173 (2, 3, 0, 174) := oi_iload_n (k := 3) (by decide +kernel) rfl rfl
theorem oe_48_174 : okE 48 174 (6, 0, 0, 175) := oi_iadd (by decide +kernel) rfl
theorem oe_48_175 : okE 48 175 (3, 0, 0, 176) := oi_aload_n (k := 0) (by decide +kernel) rfl rfl
theorem oe_48_176 : okE 48 176 (16, 6, 18, 179) := oi_getfield (i := 57) (by decide +kernel) rfl ⟨_, _, _, rfl, by decide, mw_673⟩
theorem oe_48_179 : okE 48 179 (0, 4, 0, 180) := oi_iconst (n := 4) (by decide +kernel) (by decide +kernel) rfl
theorem oe_48_180 : okE 48 180 (2, 1, 0, 181) := oi_iload_n (k := 1) (by decide +kernel) rfl rfl
theorem oe_48_181 : okE 48 181 (8, 0, 0, 182) := oi_imul (by decide +kernel) rfl
theorem oe_48_182 : okE 48 182 (2, 3, 0, 183) := oi_iload_n (k := 3) (by decide +kernel) rfl rfl
theorem oe_48_183 : okE 48 183 (6, 0, 0, 184) := oi_iadd (by decide +kernel) rfl
theorem oe_48_184 : okE 48 184 (30, 0, 0, 185) := oi_iald (by decide +kernel) rfl
theorem oe_48_185 : okE 48 185 (3, 0, 0, 186) := oi_aload_n (k := 0) (by decide +kernel) rfl rfl
theorem oe_48_186 : okE 48 186 (16, 6, 18, 189) := oi_getfield (i := 57) (by decide +kernel) rfl ⟨_, _, _, rfl, by decide, mw_673⟩
theorem oe_48_189 : okE 48 189 (0, 4, 0, 190) := oi_iconst (n := 4) (by decide +kernel) (by decide +kernel) rfl
theorem oe_48_190 : okE 48 190 (2, 1, 0, 191) := oi_iload_n (k := 1) (by decide +kernel) rfl rfl
theorem oe_48_191 : okE 48 191 (8, 0, 0, 192) := oi_imul (by decide +kernel) rfl
theorem oe_48_192 : okE 48 192 (2, 4, 0, 194) := oi_iload (by decide +kernel) rfl
theorem oe_48_194 : okE 48 194 (6, 0, 0, 195) := oi_iadd (by decide +kernel) rfl
theorem oe_48_195 : okE 48 195 (30, 0, 0, 196) := oi_iald (by decide +kernel) rfl
theorem oe_48_196 : okE 48 196 (7, 0, 0, 197) := oi_isub (by decide +kernel) rfl
theorem oe_48_197 : okE 48 197 (31, 0, 0, 198) := oi_iast (by decide +kernel) rfl
theorem oe_48_198 : okE 48 198 (3, 0, 0, 199) := oi_aload_n (k := 0) (by decide +kernel) rfl rfl
theorem oe_48_199 : okE 48 199 (16, 6, 17, 202) := oi_getfield (i := 54) (by decide +kernel) rfl ⟨_, _, _, rfl, by decide, mw_672⟩
theorem oe_48_202 : okE 48 202 (2, 1, 0, 203) := oi_iload_n (k := 1) (by decide +kernel) rfl rfl
theorem oe_48_203 : okE 48 203 (15, 0, 0, 204) := oi_dup2 (by decide +kernel) rfl
theorem oe_48_204 : okE 48 204 (30, 0, 0, 205) := oi_iald (by decide +kernel) rfl
theorem oe_48_205 : okE 48 205 (0, 1, 0, 206) := oi_iconst (n := 1) (by decide +kernel) (by decide +kernel) rfl
theorem oe_48_206 : okE 48 206 (6, 0, 0, 207) := oi_iadd (by decide +kernel) rfl
theorem oe_48_207 : okE 48 207 (31, 0, 0, 208) := oi_iast (by decide +kernel) rfl
theorem oe_48_208 : okE 48 208 (18, 0, 0, 309) := oi_goto (f := 101) (by decide +kernel) (by decide)
theorem oe_48_211 : okE 48 211 (3, 0, 0, 212) := oi_aload_n (k := 0) (by decide +kernel) rfl rfl
theorem oe_48_212 : okE 48 212 (2, 1, 0, 213) := oi_iload_n (k := 1) (by decide +kernel) rfl rfl
theorem oe_48_213 : okE 48 213 (2, 3, 0, 214) := oi_iload_n (k := 3) (by decide +kernel) rfl rfl
theorem oe_48_214 : okE 48 214 (2, 4, 0, 216) := oi_iload (by decide +kernel) rfl
theorem oe_48_216 : okE 48 216 (70, 46, 4, 219) := oi_callV (i := 143) (by decide +kernel) rfl (by decide) (by decide) okm_46 (by decide) (by rfl) mw_853 mw_855 mw_42 mw_53 (by decide +kernel)
theorem oe_48_219 : okE 48 219 (18, 0, 0, 309) := oi_goto (f := 90) (by decide +kernel) (by decide)
theorem oe_48_222 : okE 48 222 (3, 0, 0, 223) := oi_aload_n (k := 0) (by decide +kernel) rfl rfl
theorem oe_48_223 : okE 48 223 (16, 6, 17, 226) := oi_getfield (i := 54) (by decide +kernel) rfl ⟨_, _, _, rfl, by decide, mw_672⟩
theorem oe_48_226 : okE 48 226 (2, 1, 0, 227) := oi_iload_n (k := 1) (by decide +kernel) rfl rfl
theorem oe_48_227 : okE 48 227 (2, 3, 0, 228) := oi_iload_n (k := 3) (by decide +kernel) rfl rfl
theorem oe_48_228 : okE 48 228 (31, 0, 0, 229) := oi_iast (by decide +kernel) rfl
theorem oe_48_229 : okE 48 229 (18, 0, 0, 309) := oi_goto (f := 80) (by decide +kernel) (by decide)
theorem oe_48_232 : okE 48 232 (3, 0, 0, 233) := oi_aload_n (k := 0) (by decide +kernel) rfl rfl
theorem oe_48_233 : okE 48 233 (16, 6, 17, 236) := oi_getfield (i := 54) (by decide +kernel) rfl ⟨_, _, _, rfl, by decide, mw_672⟩
theorem oe_48_236 : okE 48 236 (2, 1, 0, 237) := oi_iload_n (k := 1) (by decide +kernel) rfl rfl
theorem oe_48_237 : okE 48 237 (3, 0, 0, 238) := oi_aload_n (k := 0) (by decide +kernel) rfl rfl
theorem oe_48_238 : okE 48 238 (16, 6, 18, 241) := oi_getfield (i := 57) (by decide +kernel) rfl ⟨_, _, _, rfl, by decide, mw_673⟩
theorem oe_48_241 : okE 48 241 (0, 4, 0, 242) := oi_iconst (n := 4) (by decide +kernel) (by decide +kernel) rfl
theorem oe_48_242 : okE 48 242 (2, 1, 0, 243) := oi_iload_n (k := 1) (by decide +kernel) rfl rfl
theorem oe_48_243 : okE 48 243 (8, 0, 0, 244) := oi_imul (by decide +kernel) rfl
theorem oe_48_244 : okE 48 244 (2, 3, 0, 245) := oi_iload_n (k := 3) (by decide +kernel) rfl rfl
theorem oe_48_245 : okE 48 245 (6, 0, 0, 246) := oi_iadd (by decide +kernel) rfl
theorem oe_48_246 : okE 48 246 (30, 0, 0, 247) := oi_iald (by decide +kernel) rfl
theorem oe_48_247 : okE 48 247 (51, 255, 0, 250) := oi_ifne (f := 8) (by decide +kernel) (by decide) rfl
theorem oe_48_250 : okE 48 250 (2, 4, 0, 252) := oi_iload (by decide +kernel) rfl
theorem oe_48_252 : okE 48 252 (18, 0, 0, 263) := oi_goto (f := 11) (by decide +kernel) (by decide)
theorem oe_48_255 : okE 48 255 (3, 0, 0, 256) := oi_aload_n (k := 0) (by decide +kernel) rfl rfl
theorem oe_48_256 : okE 48 256 (16, 6, 17, 259) := oi_getfield (i := 54) (by decide +kernel) rfl ⟨_, _, _, rfl, by decide, mw_672⟩
theorem oe_48_259 : okE 48 259 (2, 1, 0, 260) := oi_iload_n (k := 1) (by decide +kernel) rfl rfl
theorem oe_48_260 : okE 48 260 (30, 0, 0, 261) := oi_iald (by decide +kernel) rfl
theorem oe_48_261 : okE 48 261 (0, 1, 0, 262) := oi_iconst (n := 1) (by decide +kernel) (by decide +kernel) rfl
theorem oe_48_262 : okE 48 262 (6, 0, 0, 263) := oi_iadd (by decide +kernel) rfl
theorem oe_48_263 : okE 48 263 (31, 0, 0, 264) := oi_iast (by decide +kernel) rfl
theorem oe_48_264 : okE 48 264 (18, 0, 0, 309) := oi_goto (f := 45) (by decide +kernel) (by decide)
theorem oe_48_267 : okE 48 267 (3, 0, 0, 268) := oi_aload_n (k := 0) (by decide +kernel) rfl rfl
theorem oe_48_268 : okE 48 268 (2, 1, 0, 269) := oi_iload_n (k := 1) (by decide +kernel) rfl rfl
theorem oe_48_269 : okE 48 269 (2, 3, 0, 270) := oi_iload_n (k := 3) (by decide +kernel) rfl rfl
theorem oe_48_270 : okE 48 270 (2, 4, 0, 272) := oi_iload (by decide +kernel) rfl
theorem oe_48_272 : okE 48 272 (70, 45, 4, 275) := oi_callV (i := 147) (by decide +kernel) rfl (by decide) (by decide) okm_45 (by decide) (by rfl) mw_861 mw_863 mw_44 mw_53 (by decide +kernel)
theorem oe_48_275 : okE 48 275 (18, 0, 0, 309) := oi_goto (f := 34) (by decide +kernel) (by decide)
theorem oe_48_278 : okE 48 278 (3, 0, 0, 279) := oi_aload_n (k := 0) (by decide +kernel) rfl rfl
theorem oe_48_279 : okE 48 279 (2, 3, 0, 280) := oi_iload_n (k := 3) (by decide +kernel) rfl rfl
theorem oe_48_280 : okE 48 280 (70, 44, 2, 283) := oi_callV (i := 135) (by decide +kernel) rfl (by decide) (by decide) okm_44 (by decide) (by rfl) mw_857 mw_859 mw_43 mw_53 (by decide +kernel)
theorem oe_48_283 : okE 48 283 (18, 0, 0, 309) := oi_goto (f := 26) (by decide +kernel) (by decide)
theorem oe_48_286 : okE 48 286 (3, 0, 0, 287) := oi_aload_n (k := 0) (by decide +kernel) rfl rfl
theorem oe_48_287 : okE 48 287 (2, 1, 0, 288) := oi_iload_n (k := 1) (by decide +kernel) rfl rfl
theorem oe_48_288 : okE 48 288 (2, 3, 0, 289) := oi_iload_n (k := 3) (by decide +kernel) rfl rfl
theorem oe_48_289 : okE 48 289 (70, 47, 3, 292) := oi_callV (i := 150) (by decide +kernel) rfl (by decide) (by decide) okm_47 (by decide) (by rfl) mw_865 mw_867 mw_45 mw_53 (by decide +kernel)
theorem oe_48_292 : okE 48 292 (18, 0, 0, 309) := oi_goto (f := 17) (by decide +kernel) (by decide)
theorem oe_48_295 : okE 48 295 (3, 0, 0, 296) := oi_aload_n (k := 0) (by decide +kernel) rfl rfl
theorem oe_48_296 : okE 48 296 (3, 0, 0, 297) := oi_aload_n (k := 0) (by decide +kernel) rfl rfl
theorem oe_48_297 : okE 48 297 (16, 6, 18, 300) := oi_getfield (i := 57) (by decide +kernel) rfl ⟨_, _, _, rfl, by decide, mw_673⟩
theorem oe_48_300 : okE 48 300 (0, 4, 0, 301) := oi_iconst (n := 4) (by decide +kernel) (by decide +kernel) rfl
theorem oe_48_301 : okE 48 301 (2, 1, 0, 302) := oi_iload_n (k := 1) (by decide +kernel) rfl rfl
theorem oe_48_302 : okE 48 302 (8, 0, 0, 303) := oi_imul (by decide +kernel) rfl
theorem oe_48_303 : okE 48 303 (2, 3, 0, 304) := oi_iload_n (k := 3) (by decide +kernel) rfl rfl
theorem oe_48_304 : okE 48 304 (6, 0, 0, 305) := oi_iadd (by decide +kernel) rfl
theorem oe_48_305 : okE 48 305 (30, 0, 0, 306) := oi_iald (by decide +kernel) rfl
theorem oe_48_306 : okE 48 306 (70, 43, 2, 309) := oi_callV (i := 153) (by decide +kernel) rfl (by decide) (by decide) okm_43 (by decide) (by rfl) mw_845 mw_847 mw_40 mw_53 (by decide +kernel)
theorem oe_48_309 : okE 48 309 (81, 0, 0, 0) := oi_return (by decide +kernel) rfl
set_option maxRecDepth 20000 in
theorem ok_48 : ∀ pc e, k_48 pc = some e → okE 48 pc e := tn_ (tn_ (tn_ (tn_ (tn_ (tn_ (tn_ (tl_ (oe_48_0)) (tl_ (oe_48_1))) (tn_ (tl_ (oe_48_4)) (tn_ (tl_ (oe_48_5)) (tl_ (oe_48_6))))) (tn_ (tn_ (tl_ (oe_48_7)) (tn_ (tl_ (oe_48_9)) (tl_ (oe_48_10)))) (tn_ (tl_ (oe_48_13)) (tn_ (tl_ (oe_48_14)) (tl_ (oe_48_15)))))) (tn_ (tn_ (tn_ (tl_ (oe_48_16)) (tl_ (oe_48_17))) (tn_ (tl_ (oe_48_20)) (tn_ (tl_ (oe_48_21)) (tl_ (oe_48_22))))) (tn_ (tn_ (tl_ (oe_48_23)) (tn_ (tl_ (oe_48_24)) (tl_ (oe_48_25)))) (tn_ (tl_ (oe_48_28)) (tn_ (tl_ (oe_48_29)) (tl_ (oe_48_30))))))) (tn_ (tn_ (tn_ (tn_ (tl_ (oe_48_31)) (tl_ (oe_48_32))) (tn_ (tl_ (oe_48_35)) (tn_ (tl_ (oe_48_36)) (tl_ (oe_48_37))))) (tn_ (tn_ (tl_ (oe_48_39)) (tn_ (tl_ (oe_48_40)) (tl_ (oe_48_43)))) (tn_ (tl_ (oe_48_44)) (tn_ (tl_ (oe_48_45)) (tl_ (oe_48_96)))))) (tn_ (tn_ (tn_ (tl_ (oe_48_97)) (tl_ (oe_48_100))) (tn_ (tl_ (oe_48_101)) (tn_ (tl_ (oe_48_102)) (tl_ (oe_48_103))))) (tn_ (tn_ (tl_ (oe_48_104)) (tn_ (tl_ (oe_48_105)) (tl_ (oe_48_107)))) (tn_ (tl_ (oe_48_108)) (tn_ (tl_ (oe_48_109)) (tl_ (oe_48_112)))))))) (tn_ (tn_ (tn_ (tn_ (tn_ (tl_ (oe_48_113)) (tl_ (oe_48_114))) (tn_ (tl_ (oe_48_115)) (tn_ (tl_ (oe_48_116)) (tl_ (oe_48_117))))) (tn_ (tn_ (tl_ (oe_48_118)) (tn_ (tl_ (oe_48_121)) (tl_ (oe_48_122)))) (tn_ (tl_ (oe_48_125)) (tn_ (tl_ (oe_48_126)) (tl_ (oe_48_127)))))) (tn_ (tn_ (tn_ (tl_ (oe_48_128)) (tl_ (oe_48_129))) (tn_ (tl_ (oe_48_130)) (tn_ (tl_ (oe_48_131)) (tl_ (oe_48_134))))) (tn_ (tn_ (tl_ (oe_48_135)) (tn_ (tl_ (oe_48_136)) (tl_ (oe_48_137)))) (tn_ (tl_ (oe_48_138)) (tn_ (tl_ (oe_48_139)) (tl_ (oe_48_140))))))) (tn_ (tn_ (tn_ (tn_ (tl_ (oe_48_141)) (tl_ (oe_48_144))) (tn_ (tl_ (oe_48_145)) (tn_ (tl_ (oe_48_146)) (tl_ (oe_48_147))))) (tn_ (tn_ (tl_ (oe_48_149)) (tn_ (tl_ (oe_48_150)) (tl_ (oe_48_151)))) (tn_ (tl_ (oe_48_152)) (tn_ (tl_ (oe_48_153)) (tl_ (oe_48_154)))))) (tn_ (tn_ (tn_ (tl_ (oe_48_157)) (tn_ (tl_ (oe_48_158)) (tl_ (oe_48_159)))) (tn_ (tl_ (oe_48_160)) (tn_ (tl_ (oe_48_161)) (tl_ (oe_48_162))))) (tn_ (tn_ (tl_ (oe_48_163)) (tn_ (tl_ (oe_48_166)) (tl_ (oe_48_167)))) (tn_ (tl_ (oe_48_170)) (tn_ (tl_ (oe_48_171)) (tl_ (oe_48_172))))))))) (tn_ (tn_ (tn_ (tn_ (tn_ (tn_ (tl_ (oe_48_173)) (tl_ (oe_48_174))) (tn_ (tl_ (oe_48_175)) (tn_ (tl_ (oe_48_176)) (tl_ (oe_48_179))))) (tn_ (tn_ (tl_ (oe_48_180)) (tn_ (tl_ (oe_48_181)) (tl_ (oe_48_182)))) (tn_ (tl_ (oe_48_183)) (tn_ (tl_ (oe_48_184)) (tl_ (oe_48_185)))))) (tn_ (tn_ (tn_ (tl_ (oe_48_186)) (tl_ (oe_48_189))) (tn_ (tl_ (oe_48_190)) (tn_ (tl_ (oe_48_191)) (tl_ (oe_48_192))))) (tn_ (tn_ (tl_ (oe_48_194)) (tn_ (tl_ (oe_48_195)) (tl_ (oe_48_196)))) (tn_ (tl_ (oe_48_197)) (tn_ (tl_ (oe_48_198)) (tl_ (oe_48_199))))))) (tn_ (tn_ (tn_ (tn_ (tl_ (oe_48_202)) (tl_ (oe_48_203))) (tn_ (tl_ (oe_48_204)) (tn_ (tl_ (oe_48_205)) (tl_ (oe_48_206))))) (tn_ (tn_ (tl_ (oe_48_207)) (tn_ (tl_ (oe_48_208)) (tl_ (oe_48_211)))) (tn_ (tl_ (oe_48_212)) (tn_ (tl_ (oe_48_213)) (tl_ (oe_48_214)))))) (tn_ (tn_ (tn_ (tl_ (oe_48_216)) (tl_ (oe_48_219))) (tn_ (tl_ (oe_48_222)) (tn_ (tl_ (oe_48_223)) (tl_ (oe_48_226))))) (tn_ (tn_ (tl_ (oe_48_227)) (tn_ (tl_ (oe_48_228)) (tl_ (oe_48_229)))) (tn_ (tl_ (oe_48_232)) (tn_ (tl_ (oe_48_233)) (tl_ (oe_48_236)))))))) (tn_ (tn_ (tn_ (tn_ (tn_ (tl_ (oe_48_237)) (tl_ (oe_48_238))) (tn_ (tl_ (oe_48_241)) (tn_ (tl_ (oe_48_242)) (tl_ (oe_48_243))))) (tn_ (tn_ (tl_ (oe_48_244)) (tn_ (tl_ (oe_48_245)) (tl_ (oe_48_246)))) (tn_ (tl_ (oe_48_247)) (tn_ (tl_ (oe_48_250)) (tl_ (oe_48_252)))))) (tn_ (tn_ (tn_ (tl_ (oe_48_255)) (tl_ (oe_48_256))) (tn_ (tl_ (oe_48_259)) (tn_ (tl_ (oe_48_260)) (tl_ (oe_48_261))))) (tn_ (tn_ (tl_ (oe_48_262)) (tn_ (tl_ (oe_48_263)) (tl_ (oe_48_264)))) (tn_ (tl_ (oe_48_267)) (tn_ (tl_ (oe_48_268)) (tl_ (oe_48_269))))))) (tn_ (tn_ (tn_ (tn_ (tl_ (oe_48_270)) (tl_ (oe_48_272))) (tn_ (tl_ (oe_48_275)) (tn_ (tl_ (oe_48_278)) (tl_ (oe_48_279))))) (tn_ (tn_ (tl_ (oe_48_280)) (tn_ (tl_ (oe_48_283)) (tl_ (oe_48_286)))) (tn_ (tl_ (oe_48_287)) (tn_ (tl_ (oe_48_288)) (tl_ (oe_48_289)))))) (tn_ (tn_ (tn_ (tl_ (oe_48_292)) (tn_ (tl_ (oe_48_295)) (tl_ (oe_48_296)))) (tn_ (tl_ (oe_48_297)) (tn_ (tl_ (oe_48_300)) (tl_ (oe_48_301))))) (tn_ (tn_ (tl_ (oe_48_302)) (tn_ (tl_ (oe_48_303)) (tl_ (oe_48_304)))) (tn_ (tl_ (oe_48_305)) (tn_ (tl_ (oe_48_306)) (tl_ (oe_48_309)))))))))
set_option maxRecDepth 20000 in
theorem ok_49 : ∀ pc e, k_49 pc = some e → okE 49 pc e := tn_ (tn_ (tn_ (tn_ (tn_ (tn_ (tl_ (oi_aload_n (k := 0) (by decide +kernel) rfl rfl)) (tn_ (tl_ (oi_aload_n (k := 0) (by decide +kernel) rfl rfl)) (tl_ (oi_iload_n (k := 1) (by decide +kernel) rfl rfl)))) (tn_ (tl_ (oi_callV (i := 80) (by decide +kernel) rfl (by decide) (by decide) okm_19 (by decide) (by rfl) mw_753 mw_755 mw_26 mw_53 (by decide +kernel))) (tn_ (tl_ (oi_ifne (f := 7) (by decide +kernel) (by decide) rfl)) (tl_ (oi_iconst (n := 1) (by decide +kernel) (by decide +kernel) rfl))))) (tn_ (tn_ (tl_ (oi_goto (f := 19) (by decide +kernel) (by decide))) (tn_ (tl_ (oi_iload_n (k := 3) (by decide +kernel) rfl rfl)) (tl_ (oi_iflt (f := 10) (by decide +kernel) (by decide) rfl)))) (tn_ (tn_ (tl_ (oi_iload_n (k := 3) (by decide +kernel) rfl rfl)) (tl_ (oi_sipush (n := 3000) (by decide +kernel) (by decide +kernel) rfl))) (tn_ (tl_ (oi_if_icmple (f := 7) (by decide +kernel) (by decide) rfl)) (tl_ (oi_iconst (n := 2) (by decide +kernel) (by decide +kernel) rfl)))))) (tn_ (tn_ (tn_ (tl_ (oi_goto (f := 4) (by decide +kernel) (by decide))) (tn_ (tl_ (oi_iconst (n := 0) (by decide +kernel) (by decide +kernel) rfl)) (tl_ (oi_putfield (i := 66) (by decide +kernel) rfl ⟨_, _, _, rfl, by decide, mw_655, rfl, by decide +kernel⟩)))) (tn_ (tl_ (oi_aload_n (k := 0) (by decide +kernel) rfl rfl)) (tn_ (tl_ (oi_getfield (i := 66) (by decide +kernel) rfl ⟨_, _, _, rfl, by decide, mw_655⟩)) (tl_ (oi_ifle (f := 5) (by decide +kernel) (by decide) rfl))))) (tn_ (tn_ (tl_ (oi_iconst (n := 0) (by decide +kernel) (by decide +kernel) rfl)) (tn_ (tl_ (oi_ireturnI (by decide +kernel) rfl)) (tl_ (oi_aload_n (k := 0) (by decide +kernel) rfl rfl)))) (tn_ (tn_ (tl_ (oi_iconst (n := 0) (by decide +kernel) (by decide +kernel) rfl)) (tl_ (oi_putfield (i := 129) (by decide +kernel) rfl ⟨_, _, _, rfl, by decide, mw_670, rfl, by decide +kernel⟩))) (tn_ (tl_ (oi_aload_n (k := 0) (by decide +kernel) rfl rfl)) (tl_ (oi_iconst (n := 0) (by decide +kernel) (by decide +kernel) rfl))))))) (tn_ (tn_ (tn_ (tn_ (tl_ (oi_putfield (i := 156) (by decide +kernel) rfl ⟨_, _, _, rfl, by decide, mw_675, rfl, by decide +kernel⟩)) (tn_ (tl_ (oi_aload_n (k := 0) (by decide +kernel) rfl rfl)) (tl_ (oi_m1 (by decide +kernel) rfl)))) (tn_ (tl_ (oi_putfield (i := 63) (by decide +kernel) rfl ⟨_, _, _, rfl, by decide, mw_676, rfl, by decide +kernel⟩)) (tn_ (tl_ (oi_aload_n (k := 0) (by decide +kernel) rfl rfl)) (tl_ (oi_iconst (n := 0) (by decide +kernel) (by decide +kernel) rfl))))) (tn_ (tn_ (tl_ (oi_putfield (i := 132) (by decide +kernel) rfl ⟨_, _, _, rfl, by decide, mw_677, rfl, by decide +kernel⟩)) (tn_ (tl_ (oi_aload_n (k := 0) (by decide +kernel) rfl rfl)) (tl_ (oi_iload_n (k := 1) (by decide +kernel) rfl rfl)))) (tn_ (tn_ (tl_ (oi_iload_n (k := 2) (by decide +kernel) rfl rfl)) (tl_ (oi_callV (i := 139) (by decide +kernel) rfl (by decide) (by decide) okm_42 (by decide) (by rfl) mw_841 mw_843 mw_39 mw_53 (by decide +kernel)))) (tn_ (tl_ (oi_iconst (n := 0) (by decide +kernel) (by decide +kernel) rfl)) (tl_ (oi_istore (by decide) (by decide +kernel) rfl)))))) (tn_ (tn_ (tn_ (tl_ (oi_aload_n (k := 0) (by decide +kernel) rfl rfl)) (tn_ (tl_ (oi_getfield (i := 129) (by decide +kernel) rfl ⟨_, _, _, rfl, by decide, mw_670⟩)) (tl_ (oi_ifle (f := 85) (by decide +kernel) (by decide) rfl)))) (tn_ (tn_ (tl_ (oi_iload (by decide +kernel) rfl)) (tl_ (oi_ifne (f := 80) (by decide +kernel) (by decide) rfl))) (tn_ (tl_ (oi_aload_n (k := 0) (by decide +kernel) rfl rfl)) (tl_ (oi_getfield (i := 129) (by decide +kernel) rfl ⟨_, _, _, rfl, by decide, mw_670⟩))))) (tn_ (tn_ (tl_ (oi_iconst (n := 1) (by decide +kernel) (by decide +kernel) rfl)) (tn_ (tl_ (oi_isub (by decide +kernel) rfl)) (tl_ (oi_istore (by decide) (by decide +kernel) rfl)))) (tn_ (tn_ (tl_ (oi_aload_n (k := 0) (by decide +kernel) rfl rfl)) (tl_ (oi_getfield (i := 54) (by decide +kernel) rfl ⟨_, _, _, rfl, by decide, mw_672⟩))) (tn_ (tl_ (oi_iload (by decide +kernel) rfl)) (tl_ (oi_iald (by decide +kernel) rfl)))))))) (tn_ (tn_ (tn_ (tn_ (tn_ (tl_ (oi_aload_n (k := 0) (by decide +kernel) rfl rfl)) (tn_ (tl_ (oi_getfield (i := 17) (by decide +kernel) rfl ⟨_, _, _, rfl, by decide, mw_659⟩)) (tl_ (oi_aload_n (k := 0) (by decide +kernel) rfl rfl)))) (tn_ (tl_ (oi_getfield (i := 51) (by decide +kernel) rfl ⟨_, _, _, rfl, by decide, mw_671⟩)) (tn_ (tl_ (oi_iload (by decide +kernel) rfl)) (tl_ (oi_iald (by decide +kernel) rfl))))) (tn_ (tn_ (tl_ (oi_iald (by decide +kernel) rfl)) (tn_ (tl_ (oi_if_icmplt (f := 19) (by decide +kernel) (by decide) rfl)) (tl_ (oi_aload_n (k := 0) (by decide +kernel) rfl rfl)))) (tn_ (tn_ (tl_ (oi_aload_n (k := 0) (by decide +kernel) rfl rfl)) (tl_ (oi_getfield (i := 57) (by decide +kernel) rfl ⟨_, _, _, rfl, by decide, mw_673⟩))) (tn_ (tl_ (oi_iconst (n := 4) (by decide +kernel) (by decide +kernel) rfl)) (tl_ (oi_iload (by decide +kernel) rfl)))))) (tn_ (tn_ (tn_ (tl_ (oi_imul (by decide +kernel) rfl)) (tn_ (tl_ (oi_iald (by decide +kernel) rfl)) (tl_ (oi_callV (i := 153) (by decide +kernel) rfl (by decide) (by decide) okm_43 (by decide) (by rfl) mw_845 mw_847 mw_40 mw_53 (by decide +kernel))))) (tn_ (tl_ (oi_goto (f := 31) (by decide +kernel) (by decide))) (tn_ (tl_ (oi_aload_n (k := 0) (by decide +kernel) rfl rfl)) (tl_ (oi_getfield (i := 156) (by decide +kernel) rfl ⟨_, _, _, rfl, by decide, mw_675⟩))))) (tn_ (tn_ (tl_ (oi_iload_n (k := 3) (by decide +kernel) rfl rfl)) (tn_ (tl_ (oi_if_icmpne (f := 9) (by decide +kernel) (by decide) rfl)) (tl_ (oi_iconst (n := 1) (by decide +kernel) (by decide +kernel) rfl)))) (tn_ (tn_ (tl_ (oi_istore (by decide) (by decide +kernel) rfl)) (tl_ (oi_goto (f := 17) (by decide +kernel) (by decide)))) (tn_ (tl_ (oi_aload_n (k := 0) (by decide +kernel) rfl rfl)) (tl_ (oi_dup (by decide +kernel) rfl))))))) (tn_ (tn_ (tn_ (tn_ (tl_ (oi_getfield (i := 156) (by decide +kernel) rfl ⟨_, _, _, rfl, by decide, mw_675⟩)) (tn_ (tl_ (oi_iconst (n := 1) (by decide +kernel) (by decide +kernel) rfl)) (tl_ (oi_iadd (by decide +kernel) rfl)))) (tn_ (tl_ (oi_putfield (i := 156) (by decide +kernel) rfl ⟨_, _, _, rfl, by decide, mw_675, rfl, by decide +kernel⟩)) (tn_ (tl_ (oi_aload_n (k := 0) (by decide +kernel) rfl rfl)) (tl_ (oi_callV (i := 159) (by decide +kernel) rfl (by decide) (by decide) okm_48 (by decide) (by rfl) mw_849 mw_851 mw_41 mw_53 (by decide +kernel)))))) (tn_ (tn_ (tl_ (oi_goto (f := -86) (by decide +kernel) (by decide))) (tn_ (tl_ (oi_aload_n (k := 0) (by decide +kernel) rfl rfl)) (tl_ (oi_iload (by decide +kernel) rfl)))) (tn_ (tn_ (tl_ (oi_ifeq (f := 7) (by decide +kernel) (by decide) rfl)) (tl_ (oi_iconst (n := 3) (by decide +kernel) (by decide +kernel) rfl))) (tn_ (tl_ (oi_goto (f := 15) (by decide +kernel) (by decide))) (tl_ (oi_aload_n (k := 0) (by decide +kernel) rfl rfl)))))) (tn_ (tn_ (tn_ (tl_ (oi_getfield (i := 63) (by decide +kernel) rfl ⟨_, _, _, rfl, by decide, mw_676⟩)) (tn_ (tl_ (oi_iflt (f := 7) (by decide +kernel) (by decide) rfl)) (tl_ (oi_iconst (n := 4) (by decide +kernel) (by decide +kernel) rfl)))) (tn_ (tn_ (tl_ (oi_goto (f := 4) (by decide +kernel) (by decide))) (tl_ (oi_iconst (n := 0) (by decide +kernel) (by decide +kernel) rfl))) (tn_ (tl_ (oi_putfield (i := 66) (by decide +kernel) rfl ⟨_, _, _, rfl, by decide, mw_655, rfl, by decide +kernel⟩)) (tl_ (oi_aload_n (k := 0) (by decide +kernel) rfl rfl))))) (tn_ (tn_ (tl_ (oi_getfield (i := 66) (by decide +kernel) rfl ⟨_, _, _, rfl, by decide, mw_655⟩)) (tn_ (tl_ (oi_ifle (f := 7) (by decide +kernel) (by decide) rfl)) (tl_ (oi_iconst (n := 0) (by decide +kernel) (by decide +kernel) rfl)))) (tn_ (tn_ (tl_ (oi_goto (f := 7) (by decide +kernel) (by decide))) (tl_ (oi_aload_n (k := 0) (by decide +kernel) rfl rfl))) (tn_ (tl_ (oi_getfield (i := 132) (by decide +kernel) rfl ⟨_, _, _, rfl, by decide, mw_677⟩)) (tl_ (oi_ireturnI (by decide +kernel) rfl))))))))
end
section
set_option maxRecDepth 20000 in
theorem ok_50 : ∀ pc e, k_50 pc = some e → okE 50 pc e := tn_ (tn_ (tl_ (oi_aload_n (k := 0) (by decide +kernel) rfl rfl)) (tn_ (tl_ (oi_iconst (n := 0) (by decide +kernel) (by decide +kernel) rfl)) (tl_ (oi_putfield (i := 66) (by decide +kernel) rfl ⟨_, _, _, rfl, by decide, mw_655, rfl, by decide +kernel⟩)))) (tn_ (tl_ (oi_aload_n (k := 0) (by decide +kernel) rfl rfl)) (tn_ (tl_ (oi_getfield (i := 156) (by decide +kernel) rfl ⟨_, _, _, rfl, by decide, mw_675⟩)) (tl_ (oi_ireturnI (by decide +kernel) rfl))))
set_option maxRecDepth 20000 in
theorem ok_51 : ∀ pc e, k_51 pc = some e → okE 51 pc e := tn_ (tn_ (tl_ (oi_aload_n (k := 0) (by decide +kernel) rfl rfl)) (tn_ (tl_ (oi_iconst (n := 0) (by decide +kernel) (by decide +kernel) rfl)) (tl_ (oi_putfield (i := 66) (by decide +kernel) rfl ⟨_, _, _, rfl, by decide, mw_655, rfl, by decide +kernel⟩)))) (tn_ (tl_ (oi_aload_n (k := 0) (by decide +kernel) rfl rfl)) (tn_ (tl_ (oi_getfield (i := 63) (by decide +kernel) rfl ⟨_, _, _, rfl, by decide, mw_676⟩)) (tl_ (oi_ireturnI (by decide +kernel) rfl))))
set_option maxRecDepth 20000 in
theorem ok_52 : ∀ pc e, k_52 pc = some e → okE 52 pc e := tn_ (tn_ (tn_ (tl_ (oi_aload_n (k := 0) (by decide +kernel) rfl rfl)) (tl_ (oi_getfield (i := 33) (by decide +kernel) rfl ⟨_, _, _, rfl, by decide, mw_107⟩))) (tn_ (tl_ (oi_bipush (n := 24) (by decide +kernel) (by decide +kernel) rfl)) (tl_ (oi_if_icmplt (f := 7) (by decide +kernel) (by decide) rfl)))) (tn_ (tn_ (tl_ (oi_iconst (n := 1) (by decide +kernel) (by decide +kernel) rfl)) (tl_ (oi_goto (f := 4) (by decide +kernel) (by decide)))) (tn_ (tl_ (oi_iconst (n := 0) (by decide +kernel) (by decide +kernel) rfl)) (tl_ (oi_ireturnZ (by decide +kernel) rfl))))
set_option maxRecDepth 20000 in
theorem ok_53 : ∀ pc e, k_53 pc = some e → okE 53 pc e := tn_ (tn_ (tn_ (tl_ (oi_aload_n (k := 0) (by decide +kernel) rfl rfl)) (tl_ (oi_getfield (i := 37) (by decide +kernel) rfl ⟨_, _, _, rfl, by decide, mw_116⟩))) (tn_ (tl_ (oi_iconst (n := 4) (by decide +kernel) (by decide +kernel) rfl)) (tl_ (oi_if_icmplt (f := 7) (by decide +kernel) (by decide) rfl)))) (tn_ (tn_ (tl_ (oi_iconst (n := 1) (by decide +kernel) (by decide +kernel) rfl)) (tl_ (oi_goto (f := 4) (by decide +kernel) (by decide)))) (tn_ (tl_ (oi_iconst (n := 0) (by decide +kernel) (by decide +kernel) rfl)) (tl_ (oi_ireturnZ (by decide +kernel) rfl))))
set_option maxRecDepth 20000 in
theorem ok_54 : ∀ pc e, k_54 pc = some e → okE 54 pc e := tn_ (tn_ (tn_ (tn_ (tl_ (oi_aload_n (k := 0) (by decide +kernel) rfl rfl)) (tl_ (oi_getfield (i := 33) (by decide +kernel) rfl ⟨_, _, _, rfl, by decide, mw_107⟩))) (tn_ (tl_ (oi_istore (by decide) (by decide +kernel) rfl)) (tl_ (oi_aload_n (k := 0) (by decide +kernel) rfl rfl)))) (tn_ (tn_ (tl_ (oi_dup (by decide +kernel) rfl)) (tl_ (oi_getfield (i := 33) (by decide +kernel) rfl ⟨_, _, _, rfl, by decide, mw_107⟩))) (tn_ (tl_ (oi_iconst (n := 1) (by decide +kernel) (by decide +kernel) rfl)) (tl_ (oi_iadd (by decide +kernel) rfl))))) (tn_ (tn_ (tn_ (tl_ (oi_putfield (i := 33) (by decide +kernel) rfl ⟨_, _, _, rfl, by decide, mw_107, rfl, by decide +kernel⟩)) (tl_ (oi_aload_n (k := 0) (by decide +kernel) rfl rfl))) (tn_ (tl_ (oi_iload (by decide +kernel) rfl)) (tl_ (oi_iload_n (k := 1) (by decide +kernel) rfl rfl)))) (tn_ (tn_ (tl_ (oi_iload_n (k := 2) (by decide +kernel) rfl rfl)) (tl_ (oi_iload_n (k := 3) (by decide +kernel) rfl rfl))) (tn_ (tl_ (oi_callV (i := 40) (by decide +kernel) rfl (by decide) (by decide) okm_55 (by decide) (by rfl) mw_523 mw_524 mw_525 mw_50 (by decide +kernel))) (tn_ (tl_ (oi_iload (by decide +kernel) rfl)) (tl_ (oi_ireturnI (by decide +kernel) rfl))))))
set_option maxRecDepth 20000 in
theorem ok_55 : ∀ pc e, k_55 pc = some e → okE 55 pc e := tn_ (tn_ (tn_ (tn_ (tl_ (oi_aload_n (k := 0) (by decide +kernel) rfl rfl)) (tl_ (oi_getfield (i := 9) (by decide +kernel) rfl ⟨_, _, _, rfl, by decide, mw_97⟩))) (tn_ (tl_ (oi_iload_n (k := 1) (by decide +kernel) rfl rfl)) (tl_ (oi_iload_n (k := 2) (by decide +kernel) rfl rfl)))) (tn_ (tn_ (tl_ (oi_iast (by decide +kernel) rfl)) (tl_ (oi_aload_n (k := 0) (by decide +kernel) rfl rfl))) (tn_ (tl_ (oi_getfield (i := 15) (by decide +kernel) rfl ⟨_, _, _, rfl, by decide, mw_101⟩)) (tl_ (oi_iload_n (k := 1) (by decide +kernel) rfl rfl))))) (tn_ (tn_ (tn_ (tl_ (oi_iload_n (k := 3) (by decide +kernel) rfl rfl)) (tl_ (oi_iast (by decide +kernel) rfl))) (tn_ (tl_ (oi_aload_n (k := 0) (by decide +kernel) rfl rfl)) (tl_ (oi_getfield (i := 18) (by decide +kernel) rfl ⟨_, _, _, rfl, by decide, mw_104⟩)))) (tn_ (tn_ (tl_ (oi_iload_n (k := 1) (by decide +kernel) rfl rfl)) (tl_ (oi_iload (by decide +kernel) rfl))) (tn_ (tl_ (oi_iast (by decide +kernel) rfl)) (tl_ (oi_return (by decide +kernel) rfl)))))
set_option maxRecDepth 20000 in
theorem ok_56 : ∀ pc e, k_56 pc = some e → okE 56 pc e := tn_ (tn_ (tn_ (tn_ (tl_ (oi_aload_n (k := 0) (by decide +kernel) rfl rfl)) (tn_ (tl_ (oi_getfield (i := 37) (by decide +kernel) rfl ⟨_, _, _, rfl, by decide, mw_116⟩)) (tl_ (oi_istore (by decide) (by decide +kernel) rfl)))) (tn_ (tn_ (tl_ (oi_aload_n (k := 0) (by decide +kernel) rfl rfl)) (tl_ (oi_dup (by decide +kernel) rfl))) (tn_ (tl_ (oi_getfield (i := 37) (by decide +kernel) rfl ⟨_, _, _, rfl, by decide, mw_116⟩)) (tl_ (oi_iconst (n := 1) (by decide +kernel) (by decide +kernel) rfl))))) (tn_ (tn_ (tn_ (tl_ (oi_iadd (by decide +kernel) rfl)) (tl_ (oi_putfield (i := 37) (by decide +kernel) rfl ⟨_, _, _, rfl, by decide, mw_116, rfl, by decide +kernel⟩))) (tn_ (tl_ (oi_aload_n (k := 0) (by decide +kernel) rfl rfl)) (tl_ (oi_getfield (i := 21) (by decide +kernel) rfl ⟨_, _, _, rfl, by decide, mw_111⟩)))) (tn_ (tn_ (tl_ (oi_iload (by decide +kernel) rfl)) (tl_ (oi_iload_n (k := 1) (by decide +kernel) rfl rfl))) (tn_ (tl_ (oi_iast (by decide +kernel) rfl)) (tl_ (oi_aload_n (k := 0) (by decide +kernel) rfl rfl)))))) (tn_ (tn_ (tn_ (tn_ (tl_ (oi_getfield (i := 24) (by decide +kernel) rfl ⟨_, _, _, rfl, by decide, mw_112⟩)) (tl_ (oi_iload (by decide +kernel) rfl))) (tn_ (tl_ (oi_iload_n (k := 2) (by decide +kernel) rfl rfl)) (tl_ (oi_iast (by decide +kernel) rfl)))) (tn_ (tn_ (tl_ (oi_aload_n (k := 0) (by decide +kernel) rfl rfl)) (tl_ (oi_getfield (i := 27) (by decide +kernel) rfl ⟨_, _, _, rfl, by decide, mw_113⟩))) (tn_ (tl_ (oi_iload (by decide +kernel) rfl)) (tl_ (oi_iload_n (k := 3) (by decide +kernel) rfl rfl))))) (tn_ (tn_ (tn_ (tl_ (oi_iast (by decide +kernel) rfl)) (tl_ (oi_aload_n (k := 0) (by decide +kernel) rfl rfl))) (tn_ (tl_ (oi_getfield (i := 30) (by decide +kernel) rfl ⟨_, _, _, rfl, by decide, mw_114⟩)) (tl_ (oi_iload (by decide +kernel) rfl)))) (tn_ (tn_ (tl_ (oi_iload (by decide +kernel) rfl)) (tl_ (oi_iast (by decide +kernel) rfl))) (tn_ (tl_ (oi_iload (by decide +kernel) rfl)) (tl_ (oi_ireturnI (by decide +kernel) rfl))))))
set_option maxRecDepth 20000 in
theorem ok_57 : ∀ pc e, k_57 pc = some e → okE 57 pc e := tn_ (tn_ (tn_ (tn_ (tl_ (oi_aload_n (k := 0) (by decide +kernel) rfl rfl)) (tl_ (oi_getfield (i := 21) (by decide +kernel) rfl ⟨_, _, _, rfl, by decide, mw_111⟩))) (tn_ (tl_ (oi_iload_n (k := 1) (by decide +kernel) rfl rfl)) (tl_ (oi_iald (by decide +kernel) rfl)))) (tn_ (tn_ (tl_ (oi_iload_n (k := 2) (by decide +kernel) rfl rfl)) (tl_ (oi_if_icmpgt (f := 17) (by decide +kernel) (by decide) rfl))) (tn_ (tl_ (oi_iload_n (k := 2) (by decide +kernel) rfl rfl)) (tl_ (oi_aload_n (k := 0) (by decide +kernel) rfl rfl))))) (tn_ (tn_ (tn_ (tl_ (oi_getfield (i := 24) (by decide +kernel) rfl ⟨_, _, _, rfl, by decide, mw_112⟩)) (tl_ (oi_iload_n (k := 1) (by decide +kernel) rfl rfl))) (tn_ (tl_ (oi_iald (by decide +kernel) rfl)) (tl_ (oi_if_icmpgt (f := 7) (by decide +kernel) (by decide) rfl)))) (tn_ (tn_ (tl_ (oi_iconst (n := 1) (by decide +kernel) (by decide +kernel) rfl)) (tl_ (oi_goto (f := 4) (by decide +kernel) (by decide)))) (tn_ (tl_ (oi_iconst (n := 0) (by decide +kernel) (by decide +kernel) rfl)) (tl_ (oi_ireturnZ (by decide +kernel) rfl)))))
set_option maxRecDepth 20000 in
theorem ok_58 : ∀ pc e, k_58 pc = some e → okE 58 pc e := tn_ (tn_ (tn_ (tn_ (tl_ (oi_iconst (n := 0) (by decide +kernel) (by decide +kernel) rfl)) (tn_ (tl_ (oi_istore (by decide) (by decide +kernel) rfl)) (tl_ (oi_iload (by decide +kernel) rfl)))) (tn_ (tl_ (oi_aload_n (k := 0) (by decide +kernel) rfl rfl)) (tn_ (tl_ (oi_getfield (i := 37) (by decide +kernel) rfl ⟨_, _, _, rfl, by decide, mw_116⟩)) (tl_ (oi_if_icmpge (f := 37) (by decide +kernel) (by decide) rfl))))) (tn_ (tn_ (tl_ (oi_aload_n (k := 0) (by decide +kernel) rfl rfl)) (tn_ (tl_ (oi_iload (by decide +kernel) rfl)) (tl_ (oi_iload_n (k := 1) (by decide +kernel) rfl rfl)))) (tn_ (tl_ (oi_callV (i := 44) (by decide +kernel) rfl (by decide) (by decide) okm_57 (by decide) (by rfl) mw_287 mw_288 mw_289 mw_50 (by decide +kernel))) (tn_ (tl_ (oi_ifeq (f := 21) (by decide +kernel) (by decide) rfl)) (tl_ (oi_aload_n (k := 3) (by decide +kernel) rfl rfl)))))) (tn_ (tn_ (tn_ (tl_ (oi_iload_n (k := 2) (by decide +kernel) rfl rfl)) (tn_ (tl_ (oi_aload_n (k := 0) (by decide +kernel) rfl rfl)) (tl_ (oi_getfield (i := 27) (by decide +kernel) rfl ⟨_, _, _, rfl, by decide, mw_113⟩)))) (tn_ (tl_ (oi_iload (by decide +kernel) rfl)) (tn_ (tl_ (oi_iald (by decide +kernel) rfl)) (tl_ (oi_callV (i := 48) (by decide +kernel) rfl (by decide) (by decide) okm_78 (by decide) (by rfl) mw_291 mw_238 mw_239 mw_49 (by decide +kernel)))))) (tn_ (tn_ (tl_ (oi_ifeq (f := 6) (by decide +kernel) (by decide) rfl)) (tn_ (tl_ (oi_iload (by decide +kernel) rfl)) (tl_ (oi_ireturnI (by decide +kernel) rfl)))) (tn_ (tn_ (tl_ (oi_iinc (n := 1) (by decide) (by decide +kernel) (by decide +kernel) rfl)) (tl_ (oi_goto (f := -40) (by decide +kernel) (by decide)))) (tn_ (tl_ (oi_m1 (by decide +kernel) rfl)) (tl_ (oi_ireturnI (by decide +kernel) rfl))))))
set_option maxRecDepth 20000 in
theorem ok_59 : ∀ pc e, k_59 pc = some e → okE 59 pc e := tn_ (tn_ (tl_ (oi_iload_n (k := 0) (by decide +kernel) rfl rfl)) (tn_ (tl_ (oi_iconst (n := 5) (by decide +kernel) (by decide +kernel) rfl)) (tl_ (oi_imul (by decide +kernel) rfl)))) (tn_ (tl_ (oi_iload_n (k := 1) (by decide +kernel) rfl rfl)) (tn_ (tl_ (oi_iadd (by decide +kernel) rfl)) (tl_ (oi_ireturnI (by decide +kernel) rfl))))
set_option maxRecDepth 20000 in
theorem ok_60 : ∀ pc e, k_60 pc = some e → okE 60 pc e := tn_ (tn_ (tl_ (oi_iload_n (k := 0) (by decide +kernel) rfl rfl)) (tn_ (tl_ (oi_iconst (n := 5) (by decide +kernel) (by decide +kernel) rfl)) (tl_ (oi_imul (by decide +kernel) rfl)))) (tn_ (tl_ (oi_iconst (n := 4) (by decide +kernel) (by decide +kernel) rfl)) (tn_ (tl_ (oi_iadd (by decide +kernel) rfl)) (tl_ (oi_ireturnI (by decide +kernel) rfl))))
set_option maxRecDepth 20000 in
theorem ok_61 : ∀ pc e, k_61 pc = some e → okE 61 pc e := tn_ (tn_ (tl_ (oi_iload_n (k := 0) (by decide +kernel) rfl rfl)) (tn_ (tl_ (oi_bipush (n := 24) (by decide +kernel) (by decide +kernel) rfl)) (tl_ (oi_imul (by decide +kernel) rfl)))) (tn_ (tl_ (oi_iload_n (k := 1) (by decide +kernel) rfl rfl)) (tn_ (tl_ (oi_iadd (by decide +kernel) rfl)) (tl_ (oi_ireturnI (by decide +kernel) rfl))))
set_option maxRecDepth 20000 in
theorem ok_62 : ∀ pc e, k_62 pc = some e → okE 62 pc e := tn_ (tn_ (tl_ (oi_aload_n (k := 0) (by decide +kernel) rfl rfl)) (tl_ (oi_getfield (i := 22) (by decide +kernel) rfl ⟨_, _, _, rfl, by decide, mw_164⟩))) (tn_ (tl_ (oi_iload_n (k := 1) (by decide +kernel) rfl rfl)) (tn_ (tl_ (oi_iald (by decide +kernel) rfl)) (tl_ (oi_ireturnI (by decide +kernel) rfl))))
set_option maxRecDepth 20000 in
theorem ok_63 : ∀ pc e, k_63 pc = some e → okE 63 pc e := tn_ (tn_ (tl_ (oi_aload_n (k := 0) (by decide +kernel) rfl rfl)) (tn_ (tl_ (oi_getfield (i := 15) (by decide +kernel) rfl ⟨_, _, _, rfl, by decide, mw_162⟩)) (tl_ (oi_iload_n (k := 1) (by decide +kernel) rfl rfl)))) (tn_ (tn_ (tl_ (oi_iload_n (k := 2) (by decide +kernel) rfl rfl)) (tl_ (oi_callS (i := 35) (by decide +kernel) rfl (by decide) (by decide) okm_61 mw_276 mw_277 mw_51 (by decide +kernel)))) (tn_ (tl_ (oi_iald (by decide +kernel) rfl)) (tl_ (oi_ireturnI (by decide +kernel) rfl))))
set_option maxRecDepth 20000 in
theorem ok_64 : ∀ pc e, k_64 pc = some e → okE 64 pc e := tn_ (tn_ (tn_ (tn_ (tl_ (oi_aload_n (k := 0) (by decide +kernel) rfl rfl)) (tn_ (tl_ (oi_getfield (i := 31) (by decide +kernel) rfl ⟨_, _, _, rfl, by decide, mw_159⟩)) (tl_ (oi_iload_n (k := 1) (by decide +kernel) rfl rfl)))) (tn_ (tn_ (tl_ (oi_callV (i := 39) (by decide +kernel) rfl (by decide) (by decide) okm_98 (by decide) (by rfl) mw_349 mw_311 mw_312 mw_48 (by decide +kernel))) (tl_ (oi_ifeq (f := 17) (by decide +kernel) (by decide) rfl))) (tn_ (tl_ (oi_aload_n (k := 0) (by decide +kernel) rfl rfl)) (tl_ (oi_getfield (i := 31) (by decide +kernel) rfl ⟨_, _, _, rfl, by decide, mw_159⟩))))) (tn_ (tn_ (tn_ (tl_ (oi_getfield (i := 45) (by decide +kernel) rfl ⟨_, _, _, rfl, by decide, mw_139⟩)) (tl_ (oi_iload_n (k := 2) (by decide +kernel) rfl rfl))) (tn_ (tl_ (oi_callV (i := 49) (by decide +kernel) rfl (by decide) (by decide) okm_76 (by decide) (by rfl) mw_350 mw_234 mw_235 mw_49 (by decide +kernel))) (tl_ (oi_ifne (f := 5) (by decide +kernel) (by decide) rfl)))) (tn_ (tn_ (tl_ (oi_iconst (n := 0) (by decide +kernel) (by decide +kernel) rfl)) (tl_ (oi_ireturnI (by decide +kernel) rfl))) (tn_ (tl_ (oi_aload_n (k := 0) (by decide +kernel) rfl rfl)) (tl_ (oi_iload_n (k := 1) (by decide +kernel) rfl rfl)))))) (tn_ (tn_ (tn_ (tl_ (oi_callS (i := 54) (by decide +kernel) rfl (by decide) (by decide) okm_60 mw_292 mw_293 mw_51 (by decide +kernel))) (tn_ (tl_ (oi_iload_n (k := 2) (by decide +kernel) rfl rfl)) (tl_ (oi_callV (i := 58) (by decide +kernel) rfl (by decide) (by decide) okm_66 (by decide) (by rfl) mw_351 mw_353 mw_7 mw_51 (by decide +kernel))))) (tn_ (tn_ (tl_ (oi_istore_n (k := 3) (by decide) (by decide +kernel) rfl rfl)) (tl_ (oi_iload_n (k := 3) (by decide +kernel) rfl rfl))) (tn_ (tl_ (oi_m1 (by decide +kernel) rfl)) (tl_ (oi_if_icmpne (f := 7) (by decide +kernel) (by decide) rfl))))) (tn_ (tn_ (tn_ (tl_ (oi_iconst (n := 0) (by decide +kernel) (by decide +kernel) rfl)) (tl_ (oi_goto (f := 10) (by decide +kernel) (by decide)))) (tn_ (tl_ (oi_aload_n (k := 0) (by decide +kernel) rfl rfl)) (tl_ (oi_iload_n (k := 1) (by decide +kernel) rfl rfl)))) (tn_ (tn_ (tl_ (oi_iload_n (k := 3) (by decide +kernel) rfl rfl)) (tl_ (oi_iload_n (k := 2) (by decide +kernel) rfl rfl))) (tn_ (tl_ (oi_callV (i := 61) (by decide +kernel) rfl (by decide) (by decide) okm_67 (by decide) (by rfl) mw_355 mw_357 mw_8 mw_51 (by decide +kernel))) (tl_ (oi_ireturnI (by decide +kernel) rfl))))))
set_option maxRecDepth 20000 in
theorem ok_65 : ∀ pc e, k_65 pc = some e → okE 65 pc e := tn_ (tn_ (tn_ (tn_ (tn_ (tl_ (oi_iload_n (k := 1) (by decide +kernel) rfl rfl)) (tn_ (tl_ (oi_callS (i := 54) (by decide +kernel) rfl (by decide) (by decide) okm_60 mw_292 mw_293 mw_51 (by decide +kernel))) (tl_ (oi_istore (by decide) (by decide +kernel) rfl)))) (tn_ (tl_ (oi_iconst (n := 0) (by decide +kernel) (by decide +kernel) rfl)) (tn_ (tl_ (oi_istore (by decide) (by decide +kernel) rfl)) (tl_ (oi_iload (by decide +kernel) rfl))))) (tn_ (tn_ (tl_ (oi_iload_n (k := 3) (by decide +kernel) rfl rfl)) (tn_ (tl_ (oi_if_icmpge (f := 46) (by decide +kernel) (by decide) rfl)) (tl_ (oi_iload (by decide +kernel) rfl)))) (tn_ (tl_ (oi_m1 (by decide +kernel) rfl)) (tn_ (tl_ (oi_if_icmpeq (f := 40) (by decide +kernel) (by decide) rfl)) (tl_ (oi_aload_n (k := 0) (by decide +kernel) rfl rfl)))))) (tn_ (tn_ (tn_ (tl_ (oi_iload (by decide +kernel) rfl)) (tn_ (tl_ (oi_iload_n (k := 2) (by decide +kernel) rfl rfl)) (tl_ (oi_callV (i := 58) (by decide +kernel) rfl (by decide) (by decide) okm_66 (by decide) (by rfl) mw_351 mw_353 mw_7 mw_51 (by decide +kernel))))) (tn_ (tl_ (oi_istore (by decide) (by decide +kernel) rfl)) (tn_ (tl_ (oi_iload (by decide +kernel) rfl)) (tl_ (oi_m1 (by decide +kernel) rfl))))) (tn_ (tn_ (tl_ (oi_if_icmpne (f := 7) (by decide +kernel) (by decide) rfl)) (tn_ (tl_ (oi_m1 (by decide +kernel) rfl)) (tl_ (oi_goto (f := 13) (by decide +kernel) (by decide))))) (tn_ (tn_ (tl_ (oi_aload_n (k := 0) (by decide +kernel) rfl rfl)) (tl_ (oi_iload (by decide +kernel) rfl))) (tn_ (tl_ (oi_iconst (n := 5) (by decide +kernel) (by decide +kernel) rfl)) (tl_ (oi_idiv (by decide +kernel) rfl))))))) (tn_ (tn_ (tn_ (tn_ (tl_ (oi_iload (by decide +kernel) rfl)) (tn_ (tl_ (oi_callV (i := 65) (by decide +kernel) rfl (by decide) (by decide) okm_69 (by decide) (by rfl) mw_306 mw_308 mw_6 mw_51 (by decide +kernel))) (tl_ (oi_istore (by decide) (by decide +kernel) rfl)))) (tn_ (tl_ (oi_iinc (n := 1) (by decide) (by decide +kernel) (by decide +kernel) rfl)) (tn_ (tl_ (oi_goto (f := -46) (by decide +kernel) (by decide))) (tl_ (oi_iload (by decide +kernel) rfl))))) (tn_ (tn_ (tl_ (oi_m1 (by decide +kernel) rfl)) (tn_ (tl_ (oi_if_icmpne (f := 7) (by decide +kernel) (by decide) rfl)) (tl_ (oi_m1 (by decide +kernel) rfl)))) (tn_ (tn_ (tl_ (oi_goto (f := 10) (by decide +kernel) (by decide))) (tl_ (oi_aload_n (k := 0) (by decide +kernel) rfl rfl))) (tn_ (tl_ (oi_iload (by decide +kernel) rfl)) (tl_ (oi_iload_n (k := 2) (by decide +kernel) rfl rfl)))))) (tn_ (tn_ (tn_ (tl_ (oi_callV (i := 58) (by decide +kernel) rfl (by decide) (by decide) okm_66 (by decide) (by rfl) mw_351 mw_353 mw_7 mw_51 (by decide +kernel))) (tn_ (tl_ (oi_istore (by decide) (by decide +kernel) rfl)) (tl_ (oi_iload (by decide +kernel) rfl)))) (tn_ (tl_ (oi_m1 (by decide +kernel) rfl)) (tn_ (tl_ (oi_if_icmpne (f := 7) (by decide +kernel) (by decide) rfl)) (tl_ (oi_m1 (by decide +kernel) rfl))))) (tn_ (tn_ (tl_ (oi_goto (f := 12) (by decide +kernel) (by decide))) (tn_ (tl_ (oi_iload (by decide +kernel) rfl)) (tl_ (oi_iconst (n := 5) (by decide +kernel) (by decide +kernel) rfl)))) (tn_ (tn_ (tl_ (oi_idiv (by decide +kernel) rfl)) (tl_ (oi_iload (by decide +kernel) rfl))) (tn_ (tl_ (oi_callS (i := 35) (by decide +kernel) rfl (by decide) (by decide) okm_61 mw_276 mw_277 mw_51 (by decide +kernel))) (tl_ (oi_ireturnI (by decide +kernel) rfl)))))))
set_option maxRecDepth 20000 in
theorem ok_66 : ∀ pc e, k_66 pc = some e → okE 66 pc e := tn_ (tn_ (tn_ (tn_ (tn_ (tl_ (oi_iload_n (k := 1) (by decide +kernel) rfl rfl)) (tl_ (oi_iconst (n := 5) (by decide +kernel) (by decide +kernel) rfl))) (tn_ (tl_ (oi_idiv (by decide +kernel) rfl)) (tn_ (tl_ (oi_istore_n (k := 3) (by decide) (by decide +kernel) rfl rfl)) (tl_ (oi_aload_n (k := 0) (by decide +kernel) rfl rfl))))) (tn_ (tn_ (tl_ (oi_getfield (i := 31) (by decide +kernel) rfl ⟨_, _, _, rfl, by decide, mw_159⟩)) (tn_ (tl_ (oi_getfield (i := 68) (by decide +kernel) rfl ⟨_, _, _, rfl, by decide, mw_144⟩)) (tl_ (oi_iload_n (k := 3) (by decide +kernel) rfl rfl)))) (tn_ (tl_ (oi_aald (by decide +kernel) rfl)) (tn_ (tl_ (oi_astore (by decide) (by decide +kernel) rfl)) (tl_ (oi_m1 (by decide +kernel) rfl)))))) (tn_ (tn_ (tn_ (tl_ (oi_istore (by decide) (by decide +kernel) rfl)) (tn_ (tl_ (oi_bipush (n := 42) (by decide +kernel) (by decide +kernel) rfl)) (tl_ (oi_istore (by decide) (by decide +kernel) rfl)))) (tn_ (tl_ (oi_iconst (n := 0) (by decide +kernel) (by decide +kernel) rfl)) (tn_ (tl_ (oi_istore (by decide) (by decide +kernel) rfl)) (tl_ (oi_iload (by decide +kernel) rfl))))) (tn_ (tn_ (tl_ (oi_aload (by decide +kernel) rfl)) (tn_ (tl_ (oi_getfield (i := 72) (by decide +kernel) rfl ⟨_, _, _, rfl, by decide, mw_110⟩)) (tl_ (oi_if_icmpge (f := 51) (by decide +kernel) (by decide) rfl)))) (tn_ (tl_ (oi_aload_n (k := 0) (by decide +kernel) rfl rfl)) (tn_ (tl_ (oi_iload_n (k := 3) (by decide +kernel) rfl rfl)) (tl_ (oi_iload (by decide +kernel) rfl))))))) (tn_ (tn_ (tn_ (tn_ (tl_ (oi_iload_n (k := 2) (by decide +kernel) rfl rfl)) (tl_ (oi_callV (i := 61) (by decide +kernel) rfl (by decide) (by decide) okm_67 (by decide) (by rfl) mw_355 mw_357 mw_8 mw_51 (by decide +kernel)))) (tn_ (tl_ (oi_istore (by decide) (by decide +kernel) rfl)) (tn_ (tl_ (oi_iload (by decide +kernel) rfl)) (tl_ (oi_ifle (f := 30) (by decide +kernel) (by decide) rfl))))) (tn_ (tn_ (tl_ (oi_iload (by decide +kernel) rfl)) (tn_ (tl_ (oi_iload (by decide +kernel) rfl)) (tl_ (oi_if_icmpge (f := 23) (by decide +kernel) (by decide) rfl)))) (tn_ (tl_ (oi_aload_n (k := 0) (by decide +kernel) rfl rfl)) (tn_ (tl_ (oi_iload_n (k := 3) (by decide +kernel) rfl rfl)) (tl_ (oi_iload (by decide +kernel) rfl)))))) (tn_ (tn_ (tn_ (tl_ (oi_iload_n (k := 2) (by decide +kernel) rfl rfl)) (tn_ (tl_ (oi_callV (i := 78) (by decide +kernel) rfl (by decide) (by decide) okm_68 (by decide) (by rfl) mw_279 mw_281 mw_3 mw_51 (by decide +kernel))) (tl_ (oi_iload_n (k := 1) (by decide +kernel) rfl rfl)))) (tn_ (tl_ (oi_if_icmpne (f := 11) (by decide +kernel) (by decide) rfl)) (tn_ (tl_ (oi_iload (by decide +kernel) rfl)) (tl_ (oi_istore (by decide) (by decide +kernel) rfl))))) (tn_ (tn_ (tl_ (oi_iload (by decide +kernel) rfl)) (tn_ (tl_ (oi_istore (by decide) (by decide +kernel) rfl)) (tl_ (oi_iinc (n := 1) (by decide) (by decide +kernel) (by decide +kernel) rfl)))) (tn_ (tl_ (oi_goto (f := -55) (by decide +kernel) (by decide))) (tn_ (tl_ (oi_iload (by decide +kernel) rfl)) (tl_ (oi_ireturnI (by decide +kernel) rfl)))))))
set_option maxRecDepth 20000 in
theorem ok_67 : ∀ pc e, k_67 pc = some e → okE 67 pc e := tn_ (tn_ (tn_ (tn_ (tl_ (oi_iload_n (k := 1) (by decide +kernel) rfl rfl)) (tn_ (tl_ (oi_iload_n (k := 2) (by decide +kernel) rfl rfl)) (tl_ (oi_callS (i := 35) (by decide +kernel) rfl (by decide) (by decide) okm_61 mw_276 mw_277 mw_51 (by decide +kernel))))) (tn_ (tn_ (tl_ (oi_istore (by decide) (by decide +kernel) rfl)) (tl_ (oi_aload_n (k := 0) (by decide +kernel) rfl rfl))) (tn_ (tl_ (oi_getfield (i := 15) (by decide +kernel) rfl ⟨_, _, _, rfl, by decide, mw_162⟩)) (tl_ (oi_iload (by decide +kernel) rfl))))) (tn_ (tn_ (tn_ (tl_ (oi_iald (by decide +kernel) rfl)) (tl_ (oi_iload_n (k := 3) (by decide +kernel) rfl rfl))) (tn_ (tl_ (oi_ishr (by decide +kernel) rfl)) (tl_ (oi_iconst (n := 1) (by decide +kernel) (by decide +kernel) rfl)))) (tn_ (tn_ (tl_ (oi_iand (by decide +kernel) rfl)) (tl_ (oi_ifeq (f := 7) (by decide +kernel) (by decide) rfl))) (tn_ (tl_ (oi_iconst (n := 1) (by decide +kernel) (by decide +kernel) rfl)) (tl_ (oi_goto (f := 4) (by decide +kernel) (by decide))))))) (tn_ (tn_ (tn_ (tl_ (oi_iconst (n := 0) (by decide +kernel) (by decide +kernel) rfl)) (tn_ (tl_ (oi_istore (by decide) (by decide +kernel) rfl)) (tl_ (oi_iload (by decide +kernel) rfl)))) (tn_ (tn_ (tl_ (oi_ifeq (f := 19) (by decide +kernel) (by decide) rfl)) (tl_ (oi_aload_n (k := 0) (by decide +kernel) rfl rfl))) (tn_ (tl_ (oi_getfield (i := 19) (by decide +kernel) rfl ⟨_, _, _, rfl, by decide, mw_163⟩)) (tl_ (oi_iload_n (k := 3) (by decide +kernel) rfl rfl))))) (tn_ (tn_ (tn_ (tl_ (oi_sipush (n := 192) (by decide +kernel) (by decide +kernel) rfl)) (tl_ (oi_imul (by decide +kernel) rfl))) (tn_ (tl_ (oi_iload (by decide +kernel) rfl)) (tl_ (oi_iadd (by decide +kernel) rfl)))) (tn_ (tn_ (tl_ (oi_iald (by decide +kernel) rfl)) (tl_ (oi_goto (f := 4) (by decide +kernel) (by decide)))) (tn_ (tl_ (oi_iconst (n := 0) (by decide +kernel) (by decide +kernel) rfl)) (tl_ (oi_ireturnI (by decide +kernel) rfl))))))
set_option maxRecDepth 20000 in
theorem ok_68 : ∀ pc e, k_68 pc = some e → okE 68 pc e := tn_ (tn_ (tn_ (tn_ (tl_ (oi_aload_n (k := 0) (by decide +kernel) rfl rfl)) (tl_ (oi_getfield (i := 31) (by decide +kernel) rfl ⟨_, _, _, rfl, by decide, mw_159⟩))) (tn_ (tl_ (oi_getfield (i := 68) (by decide +kernel) rfl ⟨_, _, _, rfl, by decide, mw_144⟩)) (tn_ (tl_ (oi_iload_n (k := 1) (by decide +kernel) rfl rfl)) (tl_ (oi_aald (by decide +kernel) rfl))))) (tn_ (tn_ (tl_ (oi_iload_n (k := 2) (by decide +kernel) rfl rfl)) (tn_ (tl_ (oi_iload_n (k := 3) (by decide +kernel) rfl rfl)) (tl_ (oi_aload_n (k := 0) (by decide +kernel) rfl rfl)))) (tn_ (tl_ (oi_getfield (i := 31) (by decide +kernel) rfl ⟨_, _, _, rfl, by decide, mw_159⟩)) (tn_ (tl_ (oi_getfield (i := 45) (by decide +kernel) rfl ⟨_, _, _, rfl, by decide, mw_139⟩)) (tl_ (oi_callV (i := 81) (by decide +kernel) rfl (by decide) (by decide) okm_58 (by decide) (by rfl) mw_283 mw_284 mw_285 mw_50 (by decide +kernel))))))) (tn_ (tn_ (tn_ (tl_ (oi_istore (by decide) (by decide +kernel) rfl)) (tl_ (oi_iload (by decide +kernel) rfl))) (tn_ (tl_ (oi_m1 (by decide +kernel) rfl)) (tn_ (tl_ (oi_if_icmpne (f := 10) (by decide +kernel) (by decide) rfl)) (tl_ (oi_iload_n (k := 1) (by decide +kernel) rfl rfl))))) (tn_ (tn_ (tl_ (oi_callS (i := 54) (by decide +kernel) rfl (by decide) (by decide) okm_60 mw_292 mw_293 mw_51 (by decide +kernel))) (tn_ (tl_ (oi_goto (f := 9) (by decide +kernel) (by decide))) (tl_ (oi_iload_n (k := 1) (by decide +kernel) rfl rfl)))) (tn_ (tl_ (oi_iload (by decide +kernel) rfl)) (tn_ (tl_ (oi_callS (i := 85) (by decide +kernel) rfl (by decide) (by decide) okm_59 mw_295 mw_296 mw_51 (by decide +kernel))) (tl_ (oi_ireturnI (by decide +kernel) rfl))))))
set_option maxRecDepth 20000 in
theorem ok_69 : ∀ pc e, k_69 pc = some e → okE 69 pc e := tn_ (tn_ (tn_ (tn_ (tl_ (oi_aload_n (k := 0) (by decide +kernel) rfl rfl)) (tn_ (tl_ (oi_getfield (i := 31) (by decide +kernel) rfl ⟨_, _, _, rfl, by decide, mw_159⟩)) (tl_ (oi_getfield (i := 68) (by decide +kernel) rfl ⟨_, _, _, rfl, by decide, mw_144⟩)))) (tn_ (tl_ (oi_iload_n (k := 1) (by decide +kernel) rfl rfl)) (tn_ (tl_ (oi_aald (by decide +kernel) rfl)) (tl_ (oi_astore_n (k := 3) (by decide) (by decide +kernel) rfl rfl))))) (tn_ (tn_ (tl_ (oi_aload_n (k := 3) (by decide +kernel) rfl rfl)) (tn_ (tl_ (oi_getfield (i := 88) (by decide +kernel) rfl ⟨_, _, _, rfl, by decide, mw_100⟩)) (tl_ (oi_iload_n (k := 2) (by decide +kernel) rfl rfl)))) (tn_ (tn_ (tl_ (oi_iald (by decide +kernel) rfl)) (tl_ (sw_ok2))) (tn_ (tl_ (oi_aload_n (k := 3) (by decide +kernel) rfl rfl)) (tl_ (oi_getfield (i := 91) (by decide +kernel) rfl ⟨_, _, _, rfl, by decide, mw_106⟩)))))) (tn_ (tn_ (tn_ (tl_ (oi_iload_n (k := 2) (by decide +kernel) rfl rfl)) (tn_ (tl_ (oi_iald (by decide +kernel) rfl)) (tl_ (oi_callS (i := 54) (by decide +kernel) rfl (by decide) (by decide) okm_60 mw_292 mw_293 mw_51 (by decide +kernel))))) (tn_ (tl_ (oi_ireturnI (by decide +kernel) rfl)) (tn_ (tl_ (oi_iload_n (k := 1) (by decide +kernel) rfl rfl)) (tl_ (oi_aload_n (k := 3) (by decide +kernel) rfl rfl))))) (tn_ (tn_ (tl_ (oi_getfield (i := 94) (by decide +kernel) rfl ⟨_, _, _, rfl, by decide, mw_103⟩)) (tn_ (tl_ (oi_iload_n (k := 2) (by decide +kernel) rfl rfl)) (tl_ (oi_iald (by decide +kernel) rfl)))) (tn_ (tn_ (tl_ (oi_callS (i := 85) (by decide +kernel) rfl (by decide) (by decide) okm_59 mw_295 mw_296 mw_51 (by decide +kernel))) (tl_ (oi_ireturnI (by decide +kernel) rfl))) (tn_ (tl_ (oi_m1 (by decide +kernel) rfl)) (tl_ (oi_ireturnI (by decide +kernel) rfl))))))
end
section
set_option maxRecDepth 20000 in
theorem ok_70 : ∀ pc e, k_70 pc = some e → okE 70 pc e := tn_ (tn_ (tn_ (tn_ (tl_ (oi_aload_n (k := 0) (by decide +kernel) rfl rfl)) (tn_ (tl_ (oi_getfield (i := 31) (by decide +kernel) rfl ⟨_, _, _, rfl, by decide, mw_159⟩)) (tl_ (oi_getfield (i := 68) (by decide +kernel) rfl ⟨_, _, _, rfl, by decide, mw_144⟩)))) (tn_ (tl_ (oi_iload_n (k := 1) (by decide +kernel) rfl rfl)) (tn_ (tl_ (oi_aald (by decide +kernel) rfl)) (tl_ (oi_astore_n (k := 3) (by decide) (by decide +kernel) rfl rfl))))) (tn_ (tn_ (tl_ (oi_aload_n (k := 3) (by decide +kernel) rfl rfl)) (tn_ (tl_ (oi_getfield (i := 88) (by decide +kernel) rfl ⟨_, _, _, rfl, by decide, mw_100⟩)) (tl_ (oi_iload_n (k := 2) (by decide +kernel) rfl rfl)))) (tn_ (tl_ (oi_iald (by decide +kernel) rfl)) (tn_ (tl_ (sw_ok3)) (tl_ (oi_iconst (n := 1) (by decide +kernel) (by decide +kernel) rfl)))))) (tn_ (tn_ (tn_ (tl_ (oi_aload_n (k := 3) (by decide +kernel) rfl rfl)) (tn_ (tl_ (oi_getfield (i := 94) (by decide +kernel) rfl ⟨_, _, _, rfl, by decide, mw_103⟩)) (tl_ (oi_iload_n (k := 2) (by decide +kernel) rfl rfl)))) (tn_ (tl_ (oi_iald (by decide +kernel) rfl)) (tn_ (tl_ (oi_ishl (by decide +kernel) rfl)) (tl_ (oi_ireturnI (by decide +kernel) rfl))))) (tn_ (tn_ (tl_ (oi_iconst (n := 2) (by decide +kernel) (by decide +kernel) rfl)) (tn_ (tl_ (oi_ireturnI (by decide +kernel) rfl)) (tl_ (oi_iconst (n := 4) (by decide +kernel) (by decide +kernel) rfl)))) (tn_ (tl_ (oi_ireturnI (by decide +kernel) rfl)) (tn_ (tl_ (oi_iconst (n := 0) (by decide +kernel) (by decide +kernel) rfl)) (tl_ (oi_ireturnI (by decide +kernel) rfl))))))
set_option maxRecDepth 20000 in
theorem ok_71 : ∀ pc e, k_71 pc = some e → okE 71 pc e := tn_ (tn_ (tn_ (tn_ (tn_ (tl_ (oi_aload_n (k := 0) (by decide +kernel) rfl rfl)) (tl_ (oi_getfield (i := 11) (by decide +kernel) rfl ⟨_, _, _, rfl, by decide, mw_160⟩))) (tn_ (tl_ (oi_ifne (f := 4) (by decide +kernel) (by decide) rfl)) (tl_ (oi_return (by decide +kernel) rfl)))) (tn_ (tn_ (tl_ (oi_aload_n (k := 0) (by decide +kernel) rfl rfl)) (tl_ (oi_getfield (i := 15) (by decide +kernel) rfl ⟨_, _, _, rfl, by decide, mw_162⟩))) (tn_ (tl_ (oi_iconst (n := 0) (by decide +kernel) (by decide +kernel) rfl)) (tl_ (oi_callS (i := 97) (by decide +kernel) rfl (by decide) (by decide) okm_106 mw_261 mw_262 mw_60 (by decide +kernel)))))) (tn_ (tn_ (tn_ (tl_ (oi_aload_n (k := 0) (by decide +kernel) rfl rfl)) (tl_ (oi_getfield (i := 22) (by decide +kernel) rfl ⟨_, _, _, rfl, by decide, mw_164⟩))) (tn_ (tl_ (oi_iconst (n := 0) (by decide +kernel) (by decide +kernel) rfl)) (tl_ (oi_callS (i := 97) (by decide +kernel) rfl (by decide) (by decide) okm_106 mw_261 mw_262 mw_60 (by decide +kernel))))) (tn_ (tn_ (tl_ (oi_aload_n (k := 0) (by decide +kernel) rfl rfl)) (tl_ (oi_getfield (i := 28) (by decide +kernel) rfl ⟨_, _, _, rfl, by decide, mw_166⟩))) (tn_ (tl_ (oi_iconst (n := 0) (by decide +kernel) (by decide +kernel) rfl)) (tn_ (tl_ (oi_callS (i := 97) (by decide +kernel) rfl (by decide) (by decide) okm_106 mw_261 mw_262 mw_60 (by decide +kernel))) (tl_ (oi_aload_n (k := 0) (by decide +kernel) rfl rfl))))))) (tn_ (tn_ (tn_ (tn_ (tl_ (oi_callV (i := 103) (by decide +kernel) rfl (by decide) (by decide) okm_72 (by decide) (by rfl) mw_264 mw_266 mw_0 mw_51 (by decide +kernel))) (tl_ (oi_iconst (n := 2) (by decide +kernel) (by decide +kernel) rfl))) (tn_ (tl_ (oi_istore_n (k := 1) (by decide) (by decide +kernel) rfl rfl)) (tl_ (oi_iload_n (k := 1) (by decide +kernel) rfl rfl)))) (tn_ (tn_ (tl_ (oi_bipush (n := 41) (by decide +kernel) (by decide +kernel) rfl)) (tl_ (oi_if_icmpgt (f := 21) (by decide +kernel) (by decide) rfl))) (tn_ (tl_ (oi_aload_n (k := 0) (by decide +kernel) rfl rfl)) (tn_ (tl_ (oi_callV (i := 106) (by decide +kernel) rfl (by decide) (by decide) okm_74 (by decide) (by rfl) mw_298 mw_300 mw_4 mw_51 (by decide +kernel))) (tl_ (oi_ifeq (f := 14) (by decide +kernel) (by decide) rfl)))))) (tn_ (tn_ (tn_ (tl_ (oi_aload_n (k := 0) (by decide +kernel) rfl rfl)) (tl_ (oi_iload_n (k := 1) (by decide +kernel) rfl rfl))) (tn_ (tl_ (oi_callV (i := 110) (by decide +kernel) rfl (by decide) (by decide) okm_73 (by decide) (by rfl) mw_302 mw_304 mw_5 mw_51 (by decide +kernel))) (tl_ (oi_iinc (n := 1) (by decide) (by decide +kernel) (by decide +kernel) rfl)))) (tn_ (tn_ (tl_ (oi_goto (f := -21) (by decide +kernel) (by decide))) (tl_ (oi_aload_n (k := 0) (by decide +kernel) rfl rfl))) (tn_ (tl_ (oi_iconst (n := 0) (by decide +kernel) (by decide +kernel) rfl)) (tn_ (tl_ (oi_putz (i := 11) (by decide +kernel) rfl ⟨_, _, _, rfl, by decide, mw_160, rfl, by decide +kernel⟩)) (tl_ (oi_return (by decide +kernel) rfl)))))))
set_option maxRecDepth 20000 in
theorem ok_72 : ∀ pc e, k_72 pc = some e → okE 72 pc e := tn_ (tn_ (tn_ (tn_ (tl_ (oi_iconst (n := 0) (by decide +kernel) (by decide +kernel) rfl)) (tn_ (tl_ (oi_istore_n (k := 1) (by decide) (by decide +kernel) rfl rfl)) (tl_ (oi_iload_n (k := 1) (by decide +kernel) rfl rfl)))) (tn_ (tn_ (tl_ (oi_bipush (n := 8) (by decide +kernel) (by decide +kernel) rfl)) (tl_ (oi_if_icmpge (f := 46) (by decide +kernel) (by decide) rfl))) (tn_ (tl_ (oi_iconst (n := 0) (by decide +kernel) (by decide +kernel) rfl)) (tl_ (oi_istore_n (k := 2) (by decide) (by decide +kernel) rfl rfl))))) (tn_ (tn_ (tl_ (oi_iload_n (k := 2) (by decide +kernel) rfl rfl)) (tn_ (tl_ (oi_aload_n (k := 0) (by decide +kernel) rfl rfl)) (tl_ (oi_getfield (i := 31) (by decide +kernel) rfl ⟨_, _, _, rfl, by decide, mw_159⟩)))) (tn_ (tn_ (tl_ (oi_getfield (i := 68) (by decide +kernel) rfl ⟨_, _, _, rfl, by decide, mw_144⟩)) (tl_ (oi_iload_n (k := 1) (by decide +kernel) rfl rfl))) (tn_ (tl_ (oi_aald (by decide +kernel) rfl)) (tl_ (oi_getfield (i := 72) (by decide +kernel) rfl ⟨_, _, _, rfl, by decide, mw_110⟩)))))) (tn_ (tn_ (tn_ (tl_ (oi_if_icmpge (f := 22) (by decide +kernel) (by decide) rfl)) (tn_ (tl_ (oi_aload_n (k := 0) (by decide +kernel) rfl rfl)) (tl_ (oi_iload_n (k := 1) (by decide +kernel) rfl rfl)))) (tn_ (tn_ (tl_ (oi_iload_n (k := 2) (by decide +kernel) rfl rfl)) (tl_ (oi_aload_n (k := 0) (by decide +kernel) rfl rfl))) (tn_ (tl_ (oi_iload_n (k := 1) (by decide +kernel) rfl rfl)) (tl_ (oi_iload_n (k := 2) (by decide +kernel) rfl rfl))))) (tn_ (tn_ (tn_ (tl_ (oi_callV (i := 114) (by decide +kernel) rfl (by decide) (by decide) okm_70 (by decide) (by rfl) mw_268 mw_270 mw_1 mw_51 (by decide +kernel))) (tl_ (oi_iconst (n := 1) (by decide +kernel) (by decide +kernel) rfl))) (tn_ (tl_ (oi_callV (i := 117) (by decide +kernel) rfl (by decide) (by decide) okm_75 (by decide) (by rfl) mw_272 mw_274 mw_2 mw_51 (by decide +kernel))) (tl_ (oi_iinc (n := 1) (by decide) (by decide +kernel) (by decide +kernel) rfl)))) (tn_ (tn_ (tl_ (oi_goto (f := -32) (by decide +kernel) (by decide))) (tl_ (oi_iinc (n := 1) (by decide) (by decide +kernel) (by decide +kernel) rfl))) (tn_ (tl_ (oi_goto (f := -46) (by decide +kernel) (by decide))) (tl_ (oi_return (by decide +kernel) rfl))))))
set_option maxRecDepth 20000 in
theorem ok_73 : ∀ pc e, k_73 pc = some e → okE 73 pc e := tn_ (tn_ (tn_ (tn_ (tn_ (tl_ (oi_iconst (n := 0) (by decide +kernel) (by decide +kernel) rfl)) (tl_ (oi_istore_n (k := 2) (by decide) (by decide +kernel) rfl rfl))) (tn_ (tl_ (oi_iload_n (k := 2) (by decide +kernel) rfl rfl)) (tl_ (oi_bipush (n := 8) (by decide +kernel) (by decide +kernel) rfl)))) (tn_ (tn_ (tl_ (oi_if_icmpge (f := 61) (by decide +kernel) (by decide) rfl)) (tl_ (oi_iconst (n := 0) (by decide +kernel) (by decide +kernel) rfl))) (tn_ (tl_ (oi_istore_n (k := 3) (by decide) (by decide +kernel) rfl rfl)) (tn_ (tl_ (oi_iload_n (k := 3) (by decide +kernel) rfl rfl)) (tl_ (oi_aload_n (k := 0) (by decide +kernel) rfl rfl)))))) (tn_ (tn_ (tn_ (tl_ (oi_getfield (i := 31) (by decide +kernel) rfl ⟨_, _, _, rfl, by decide, mw_159⟩)) (tl_ (oi_getfield (i := 68) (by decide +kernel) rfl ⟨_, _, _, rfl, by decide, mw_144⟩))) (tn_ (tl_ (oi_iload_n (k := 2) (by decide +kernel) rfl rfl)) (tl_ (oi_aald (by decide +kernel) rfl)))) (tn_ (tn_ (tl_ (oi_getfield (i := 72) (by decide +kernel) rfl ⟨_, _, _, rfl, by decide, mw_110⟩)) (tl_ (oi_if_icmpge (f := 37) (by decide +kernel) (by decide) rfl))) (tn_ (tl_ (oi_aload_n (k := 0) (by decide +kernel) rfl rfl)) (tn_ (tl_ (oi_iload_n (k := 2) (by decide +kernel) rfl rfl)) (tl_ (oi_iload_n (k := 3) (by decide +kernel) rfl rfl))))))) (tn_ (tn_ (tn_ (tn_ (tl_ (oi_callV (i := 65) (by decide +kernel) rfl (by decide) (by decide) okm_69 (by decide) (by rfl) mw_306 mw_308 mw_6 mw_51 (by decide +kernel))) (tl_ (oi_istore (by decide) (by decide +kernel) rfl))) (tn_ (tl_ (oi_iload (by decide +kernel) rfl)) (tl_ (oi_m1 (by decide +kernel) rfl)))) (tn_ (tn_ (tl_ (oi_if_icmpeq (f := 17) (by decide +kernel) (by decide) rfl)) (tl_ (oi_aload_n (k := 0) (by decide +kernel) rfl rfl))) (tn_ (tl_ (oi_iload_n (k := 2) (by decide +kernel) rfl rfl)) (tn_ (tl_ (oi_iload_n (k := 3) (by decide +kernel) rfl rfl)) (tl_ (oi_aload_n (k := 0) (by decide +kernel) rfl rfl)))))) (tn_ (tn_ (tn_ (tl_ (oi_getfield (i := 25) (by decide +kernel) rfl ⟨_, _, _, rfl, by decide, mw_165⟩)) (tl_ (oi_iload (by decide +kernel) rfl))) (tn_ (tl_ (oi_iald (by decide +kernel) rfl)) (tn_ (tl_ (oi_iload_n (k := 1) (by decide +kernel) rfl rfl)) (tl_ (oi_callV (i := 117) (by decide +kernel) rfl (by decide) (by decide) okm_75 (by decide) (by rfl) mw_272 mw_274 mw_2 mw_51 (by decide +kernel)))))) (tn_ (tn_ (tl_ (oi_iinc (n := 1) (by decide) (by decide +kernel) (by decide +kernel) rfl)) (tl_ (oi_goto (f := -47) (by decide +kernel) (by decide)))) (tn_ (tl_ (oi_iinc (n := 1) (by decide) (by decide +kernel) (by decide +kernel) rfl)) (tn_ (tl_ (oi_goto (f := -61) (by decide +kernel) (by decide))) (tl_ (oi_return (by decide +kernel) rfl)))))))
set_option maxRecDepth 20000 in
theorem ok_74 : ∀ pc e, k_74 pc = some e → okE 74 pc e := tn_ (tn_ (tn_ (tn_ (tn_ (tl_ (oi_iconst (n := 0) (by decide +kernel) (by decide +kernel) rfl)) (tn_ (tl_ (oi_istore_n (k := 1) (by decide) (by decide +kernel) rfl rfl)) (tl_ (oi_iconst (n := 0) (by decide +kernel) (by decide +kernel) rfl)))) (tn_ (tl_ (oi_istore_n (k := 2) (by decide) (by decide +kernel) rfl rfl)) (tn_ (tl_ (oi_iload_n (k := 2) (by decide +kernel) rfl rfl)) (tl_ (oi_bipush (n := 40) (by decide +kernel) (by decide +kernel) rfl))))) (tn_ (tn_ (tl_ (oi_if_icmpge (f := 61) (by decide +kernel) (by decide) rfl)) (tn_ (tl_ (oi_aload_n (k := 0) (by decide +kernel) rfl rfl)) (tl_ (oi_getfield (i := 25) (by decide +kernel) rfl ⟨_, _, _, rfl, by decide, mw_165⟩)))) (tn_ (tn_ (tl_ (oi_iload_n (k := 2) (by decide +kernel) rfl rfl)) (tl_ (oi_aload_n (k := 0) (by decide +kernel) rfl rfl))) (tn_ (tl_ (oi_getfield (i := 28) (by decide +kernel) rfl ⟨_, _, _, rfl, by decide, mw_166⟩)) (tl_ (oi_iload_n (k := 2) (by decide +kernel) rfl rfl)))))) (tn_ (tn_ (tn_ (tl_ (oi_iald (by decide +kernel) rfl)) (tn_ (tl_ (oi_aload_n (k := 0) (by decide +kernel) rfl rfl)) (tl_ (oi_getfield (i := 22) (by decide +kernel) rfl ⟨_, _, _, rfl, by decide, mw_164⟩)))) (tn_ (tl_ (oi_iload_n (k := 2) (by decide +kernel) rfl rfl)) (tn_ (tl_ (oi_iald (by decide +kernel) rfl)) (tl_ (oi_m1 (by decide +kernel) rfl))))) (tn_ (tn_ (tl_ (oi_ixor (by decide +kernel) rfl)) (tn_ (tl_ (oi_iand (by decide +kernel) rfl)) (tl_ (oi_iast (by decide +kernel) rfl)))) (tn_ (tn_ (tl_ (oi_aload_n (k := 0) (by decide +kernel) rfl rfl)) (tl_ (oi_getfield (i := 22) (by decide +kernel) rfl ⟨_, _, _, rfl, by decide, mw_164⟩))) (tn_ (tl_ (oi_iload_n (k := 2) (by decide +kernel) rfl rfl)) (tl_ (oi_dup2 (by decide +kernel) rfl))))))) (tn_ (tn_ (tn_ (tn_ (tl_ (oi_iald (by decide +kernel) rfl)) (tn_ (tl_ (oi_aload_n (k := 0) (by decide +kernel) rfl rfl)) (tl_ (oi_getfield (i := 25) (by decide +kernel) rfl ⟨_, _, _, rfl, by decide, mw_165⟩)))) (tn_ (tl_ (oi_iload_n (k := 2) (by decide +kernel) rfl rfl)) (tn_ (tl_ (oi_iald (by decide +kernel) rfl)) (tl_ (oi_ior (by decide +kernel) rfl))))) (tn_ (tn_ (tl_ (oi_iast (by decide +kernel) rfl)) (tn_ (tl_ (oi_aload_n (k := 0) (by decide +kernel) rfl rfl)) (tl_ (oi_getfield (i := 28) (by decide +kernel) rfl ⟨_, _, _, rfl, by decide, mw_166⟩)))) (tn_ (tn_ (tl_ (oi_iload_n (k := 2) (by decide +kernel) rfl rfl)) (tl_ (oi_iconst (n := 0) (by decide +kernel) (by decide +kernel) rfl))) (tn_ (tl_ (oi_iast (by decide +kernel) rfl)) (tl_ (oi_iload_n (k := 1) (by decide +kernel) rfl rfl)))))) (tn_ (tn_ (tn_ (tl_ (oi_aload_n (k := 0) (by decide +kernel) rfl rfl)) (tn_ (tl_ (oi_getfield (i := 25) (by decide +kernel) rfl ⟨_, _, _, rfl, by decide, mw_165⟩)) (tl_ (oi_iload_n (k := 2) (by decide +kernel) rfl rfl)))) (tn_ (tn_ (tl_ (oi_iald (by decide +kernel) rfl)) (tl_ (oi_ior (by decide +kernel) rfl))) (tn_ (tl_ (oi_istore_n (k := 1) (by decide) (by decide +kernel) rfl rfl)) (tl_ (oi_iinc (n := 1) (by decide) (by decide +kernel) (by decide +kernel) rfl))))) (tn_ (tn_ (tl_ (oi_goto (f := -61) (by decide +kernel) (by decide))) (tn_ (tl_ (oi_iload_n (k := 1) (by decide +kernel) rfl rfl)) (tl_ (oi_ifeq (f := 7) (by decide +kernel) (by decide) rfl)))) (tn_ (tn_ (tl_ (oi_iconst (n := 1) (by decide +kernel) (by decide +kernel) rfl)) (tl_ (oi_goto (f := 4) (by decide +kernel) (by decide)))) (tn_ (tl_ (oi_iconst (n := 0) (by decide +kernel) (by decide +kernel) rfl)) (tl_ (oi_ireturnZ (by decide +kernel) rfl)))))))
set_option maxRecDepth 20000 in
theorem ok_75 : ∀ pc e, k_75 pc = some e → okE 75 pc e := tn_ (tn_ (tn_ (tn_ (tn_ (tl_ (oi_iload_n (k := 1) (by decide +kernel) rfl rfl)) (tn_ (tl_ (oi_iload_n (k := 2) (by decide +kernel) rfl rfl)) (tl_ (oi_callS (i := 35) (by decide +kernel) rfl (by decide) (by decide) okm_61 mw_276 mw_277 mw_51 (by decide +kernel))))) (tn_ (tn_ (tl_ (oi_istore (by decide) (by decide +kernel) rfl)) (tl_ (oi_iload_n (k := 3) (by decide +kernel) rfl rfl))) (tn_ (tl_ (oi_aload_n (k := 0) (by decide +kernel) rfl rfl)) (tl_ (oi_getfield (i := 15) (by decide +kernel) rfl ⟨_, _, _, rfl, by decide, mw_162⟩))))) (tn_ (tn_ (tn_ (tl_ (oi_iload (by decide +kernel) rfl)) (tl_ (oi_iald (by decide +kernel) rfl))) (tn_ (tl_ (oi_m1 (by decide +kernel) rfl)) (tl_ (oi_ixor (by decide +kernel) rfl)))) (tn_ (tn_ (tl_ (oi_iand (by decide +kernel) rfl)) (tl_ (oi_istore (by decide) (by decide +kernel) rfl))) (tn_ (tl_ (oi_iload (by decide +kernel) rfl)) (tl_ (oi_ifne (f := 4) (by decide +kernel) (by decide) rfl)))))) (tn_ (tn_ (tn_ (tl_ (oi_return (by decide +kernel) rfl)) (tn_ (tl_ (oi_aload_n (k := 0) (by decide +kernel) rfl rfl)) (tl_ (oi_getfield (i := 15) (by decide +kernel) rfl ⟨_, _, _, rfl, by decide, mw_162⟩)))) (tn_ (tn_ (tl_ (oi_iload (by decide +kernel) rfl)) (tl_ (oi_dup2 (by decide +kernel) rfl))) (tn_ (tl_ (oi_iald (by decide +kernel) rfl)) (tl_ (oi_iload (by decide +kernel) rfl))))) (tn_ (tn_ (tn_ (tl_ (oi_ior (by decide +kernel) rfl)) (tl_ (oi_iast (by decide +kernel) rfl))) (tn_ (tl_ (oi_iconst (n := 0) (by decide +kernel) (by decide +kernel) rfl)) (tl_ (oi_istore (by decide) (by decide +kernel) rfl)))) (tn_ (tn_ (tl_ (oi_iload (by decide +kernel) rfl)) (tl_ (oi_bipush (n := 10) (by decide +kernel) (by decide +kernel) rfl))) (tn_ (tl_ (oi_if_icmpge (f := 55) (by decide +kernel) (by decide) rfl)) (tl_ (oi_iload (by decide +kernel) rfl))))))) (tn_ (tn_ (tn_ (tn_ (tl_ (oi_iload (by decide +kernel) rfl)) (tn_ (tl_ (oi_ishr (by decide +kernel) rfl)) (tl_ (oi_iconst (n := 1) (by decide +kernel) (by decide +kernel) rfl)))) (tn_ (tn_ (tl_ (oi_iand (by decide +kernel) rfl)) (tl_ (oi_ifeq (f := 39) (by decide +kernel) (by decide) rfl))) (tn_ (tl_ (oi_aload_n (k := 0) (by decide +kernel) rfl rfl)) (tl_ (oi_getfield (i := 19) (by decide +kernel) rfl ⟨_, _, _, rfl, by decide, mw_163⟩))))) (tn_ (tn_ (tn_ (tl_ (oi_iload (by decide +kernel) rfl)) (tl_ (oi_sipush (n := 192) (by decide +kernel) (by decide +kernel) rfl))) (tn_ (tl_ (oi_imul (by decide +kernel) rfl)) (tl_ (oi_iload (by decide +kernel) rfl)))) (tn_ (tn_ (tl_ (oi_iadd (by decide +kernel) rfl)) (tl_ (oi_iload (by decide +kernel) rfl))) (tn_ (tl_ (oi_iast (by decide +kernel) rfl)) (tl_ (oi_aload_n (k := 0) (by decide +kernel) rfl rfl)))))) (tn_ (tn_ (tn_ (tn_ (tl_ (oi_getfield (i := 28) (by decide +kernel) rfl ⟨_, _, _, rfl, by decide, mw_166⟩)) (tl_ (oi_aload_n (k := 0) (by decide +kernel) rfl rfl))) (tn_ (tl_ (oi_iload_n (k := 1) (by decide +kernel) rfl rfl)) (tl_ (oi_iload_n (k := 2) (by decide +kernel) rfl rfl)))) (tn_ (tn_ (tl_ (oi_iload (by decide +kernel) rfl)) (tl_ (oi_callV (i := 78) (by decide +kernel) rfl (by decide) (by decide) okm_68 (by decide) (by rfl) mw_279 mw_281 mw_3 mw_51 (by decide +kernel)))) (tn_ (tl_ (oi_dup2 (by decide +kernel) rfl)) (tl_ (oi_iald (by decide +kernel) rfl))))) (tn_ (tn_ (tn_ (tl_ (oi_iconst (n := 1) (by decide +kernel) (by decide +kernel) rfl)) (tl_ (oi_iload (by decide +kernel) rfl))) (tn_ (tl_ (oi_ishl (by decide +kernel) rfl)) (tl_ (oi_ior (by decide +kernel) rfl)))) (tn_ (tn_ (tl_ (oi_iast (by decide +kernel) rfl)) (tl_ (oi_iinc (n := 1) (by decide) (by decide +kernel) (by decide +kernel) rfl))) (tn_ (tl_ (oi_goto (f := -56) (by decide +kernel) (by decide))) (tl_ (oi_return (by decide +kernel) rfl)))))))
set_option maxRecDepth 20000 in
theorem ok_76 : ∀ pc e, k_76 pc = some e → okE 76 pc e := tn_ (tn_ (tn_ (tl_ (oi_iload_n (k := 1) (by decide +kernel) rfl rfl)) (tl_ (oi_iflt (f := 15) (by decide +kernel) (by decide) rfl))) (tn_ (tl_ (oi_iload_n (k := 1) (by decide +kernel) rfl rfl)) (tn_ (tl_ (oi_aload_n (k := 0) (by decide +kernel) rfl rfl)) (tl_ (oi_getfield (i := 15) (by decide +kernel) rfl ⟨_, _, _, rfl, by decide, mw_83⟩))))) (tn_ (tn_ (tl_ (oi_if_icmpge (f := 7) (by decide +kernel) (by decide) rfl)) (tl_ (oi_iconst (n := 1) (by decide +kernel) (by decide +kernel) rfl))) (tn_ (tl_ (oi_goto (f := 4) (by decide +kernel) (by decide))) (tn_ (tl_ (oi_iconst (n := 0) (by decide +kernel) (by decide +kernel) rfl)) (tl_ (oi_ireturnZ (by decide +kernel) rfl)))))
set_option maxRecDepth 20000 in
theorem ok_77 : ∀ pc e, k_77 pc = some e → okE 77 pc e := tn_ (tn_ (tn_ (tl_ (oi_aload_n (k := 0) (by decide +kernel) rfl rfl)) (tl_ (oi_getfield (i := 15) (by decide +kernel) rfl ⟨_, _, _, rfl, by decide, mw_83⟩))) (tn_ (tl_ (oi_bipush (n := 10) (by decide +kernel) (by decide +kernel) rfl)) (tl_ (oi_if_icmplt (f := 7) (by decide +kernel) (by decide) rfl)))) (tn_ (tn_ (tl_ (oi_iconst (n := 1) (by decide +kernel) (by decide +kernel) rfl)) (tl_ (oi_goto (f := 4) (by decide +kernel) (by decide)))) (tn_ (tl_ (oi_iconst (n := 0) (by decide +kernel) (by decide +kernel) rfl)) (tl_ (oi_ireturnZ (by decide +kernel) rfl))))
set_option maxRecDepth 20000 in
theorem ok_78 : ∀ pc e, k_78 pc = some e → okE 78 pc e := tn_ (tn_ (tn_ (tl_ (oi_aload_n (k := 0) (by decide +kernel) rfl rfl)) (tn_ (tl_ (oi_getfield (i := 9) (by decide +kernel) rfl ⟨_, _, _, rfl, by decide, mw_82⟩)) (tl_ (oi_iload_n (k := 2) (by decide +kernel) rfl rfl)))) (tn_ (tl_ (oi_iald (by decide +kernel) rfl)) (tn_ (tl_ (oi_iload_n (k := 1) (by decide +kernel) rfl rfl)) (tl_ (oi_ishr (by decide +kernel) rfl))))) (tn_ (tn_ (tl_ (oi_iconst (n := 1) (by decide +kernel) (by decide +kernel) rfl)) (tn_ (tl_ (oi_iand (by decide +kernel) rfl)) (tl_ (oi_ifeq (f := 7) (by decide +kernel) (by decide) rfl)))) (tn_ (tn_ (tl_ (oi_iconst (n := 1) (by decide +kernel) (by decide +kernel) rfl)) (tl_ (oi_goto (f := 4) (by decide +kernel) (by decide)))) (tn_ (tl_ (oi_iconst (n := 0) (by decide +kernel) (by decide +kernel) rfl)) (tl_ (oi_ireturnZ (by decide +kernel) rfl)))))
set_option maxRecDepth 20000 in
theorem ok_79 : ∀ pc e, k_79 pc = some e → okE 79 pc e := tn_ (tn_ (tn_ (tn_ (tn_ (tl_ (oi_aload_n (k := 0) (by decide +kernel) rfl rfl)) (tl_ (oi_getfield (i := 15) (by decide +kernel) rfl ⟨_, _, _, rfl, by decide, mw_83⟩))) (tn_ (tl_ (oi_istore_n (k := 2) (by decide) (by decide +kernel) rfl rfl)) (tn_ (tl_ (oi_iconst (n := 0) (by decide +kernel) (by decide +kernel) rfl)) (tl_ (oi_istore_n (k := 3) (by decide) (by decide +kernel) rfl rfl))))) (tn_ (tn_ (tl_ (oi_iload_n (k := 3) (by decide +kernel) rfl rfl)) (tl_ (oi_iload_n (k := 2) (by decide +kernel) rfl rfl))) (tn_ (tl_ (oi_if_icmpge (f := 30) (by decide +kernel) (by decide) rfl)) (tn_ (tl_ (oi_aload_n (k := 0) (by decide +kernel) rfl rfl)) (tl_ (oi_iload_n (k := 1) (by decide +kernel) rfl rfl)))))) (tn_ (tn_ (tn_ (tl_ (oi_iload_n (k := 3) (by decide +kernel) rfl rfl)) (tl_ (oi_callV (i := 19) (by decide +kernel) rfl (by decide) (by decide) okm_78 (by decide) (by rfl) mw_477 mw_238 mw_239 mw_49 (by decide +kernel)))) (tn_ (tl_ (oi_ifeq (f := 15) (by decide +kernel) (by decide) rfl)) (tn_ (tl_ (oi_aload_n (k := 0) (by decide +kernel) rfl rfl)) (tl_ (oi_getfield (i := 9) (by decide +kernel) rfl ⟨_, _, _, rfl, by decide, mw_82⟩))))) (tn_ (tn_ (tl_ (oi_iload_n (k := 3) (by decide +kernel) rfl rfl)) (tl_ (oi_dup2 (by decide +kernel) rfl))) (tn_ (tl_ (oi_iald (by decide +kernel) rfl)) (tn_ (tl_ (oi_iconst (n := 1) (by decide +kernel) (by decide +kernel) rfl)) (tl_ (oi_iload_n (k := 2) (by decide +kernel) rfl rfl))))))) (tn_ (tn_ (tn_ (tn_ (tl_ (oi_ishl (by decide +kernel) rfl)) (tl_ (oi_ior (by decide +kernel) rfl))) (tn_ (tl_ (oi_iast (by decide +kernel) rfl)) (tn_ (tl_ (oi_iinc (n := 1) (by decide) (by decide +kernel) (by decide +kernel) rfl)) (tl_ (oi_goto (f := -29) (by decide +kernel) (by decide)))))) (tn_ (tn_ (tl_ (oi_aload_n (k := 0) (by decide +kernel) rfl rfl)) (tl_ (oi_getfield (i := 9) (by decide +kernel) rfl ⟨_, _, _, rfl, by decide, mw_82⟩))) (tn_ (tl_ (oi_iload_n (k := 2) (by decide +kernel) rfl rfl)) (tn_ (tl_ (oi_iconst (n := 1) (by decide +kernel) (by decide +kernel) rfl)) (tl_ (oi_iload_n (k := 2) (by decide +kernel) rfl rfl)))))) (tn_ (tn_ (tn_ (tl_ (oi_ishl (by decide +kernel) rfl)) (tl_ (oi_iast (by decide +kernel) rfl))) (tn_ (tl_ (oi_aload_n (k := 0) (by decide +kernel) rfl rfl)) (tn_ (tl_ (oi_dup (by decide +kernel) rfl)) (tl_ (oi_getfield (i := 15) (by decide +kernel) rfl ⟨_, _, _, rfl, by decide, mw_83⟩))))) (tn_ (tn_ (tl_ (oi_iconst (n := 1) (by decide +kernel) (by decide +kernel) rfl)) (tl_ (oi_iadd (by decide +kernel) rfl))) (tn_ (tl_ (oi_putfield (i := 15) (by decide +kernel) rfl ⟨_, _, _, rfl, by decide, mw_83, rfl, by decide +kernel⟩)) (tn_ (tl_ (oi_iload_n (k := 2) (by decide +kernel) rfl rfl)) (tl_ (oi_ireturnI (by decide +kernel) rfl)))))))
set_option maxRecDepth 20000 in
theorem ok_80 : ∀ pc e, k_80 pc = some e → okE 80 pc e := tn_ (tn_ (tl_ (oi_aload_n (k := 0) (by decide +kernel) rfl rfl)) (tn_ (tl_ (oi_getfield (i := 32) (by decide +kernel) rfl ⟨_, _, _, rfl, by decide, mw_193⟩)) (tl_ (oi_ifle (f := 7) (by decide +kernel) (by decide) rfl)))) (tn_ (tn_ (tl_ (oi_iconst (n := 1) (by decide +kernel) (by decide +kernel) rfl)) (tl_ (oi_goto (f := 4) (by decide +kernel) (by decide)))) (tn_ (tl_ (oi_iconst (n := 0) (by decide +kernel) (by decide +kernel) rfl)) (tl_ (oi_ireturnZ (by decide +kernel) rfl))))
set_option maxRecDepth 20000 in
theorem ok_81 : ∀ pc e, k_81 pc = some e → okE 81 pc e := tn_ (tn_ (tn_ (tn_ (tn_ (tl_ (oi_aload_n (k := 0) (by decide +kernel) rfl rfl)) (tl_ (oi_iconst (n := 0) (by decide +kernel) (by decide +kernel) rfl))) (tn_ (tl_ (oi_putfield (i := 32) (by decide +kernel) rfl ⟨_, _, _, rfl, by decide, mw_193, rfl, by decide +kernel⟩)) (tl_ (oi_aload_n (k := 0) (by decide +kernel) rfl rfl)))) (tn_ (tn_ (tl_ (oi_m1 (by decide +kernel) rfl)) (tl_ (oi_putfield (i := 24) (by decide +kernel) rfl ⟨_, _, _, rfl, by decide, mw_198, rfl, by decide +kernel⟩))) (tn_ (tl_ (oi_aload_n (k := 0) (by decide +kernel) rfl rfl)) (tl_ (oi_iload_n (k := 1) (by decide +kernel) rfl rfl))))) (tn_ (tn_ (tn_ (tl_ (oi_iload_n (k := 2) (by decide +kernel) rfl rfl)) (tl_ (oi_callV (i := 35) (by decide +kernel) rfl (by decide) (by decide) okm_82 (by decide) (by rfl) mw_570 mw_572 mw_10 mw_52 (by decide +kernel)))) (tn_ (tl_ (oi_aload_n (k := 0) (by decide +kernel) rfl rfl)) (tl_ (oi_callV (i := 39) (by decide +kernel) rfl (by decide) (by decide) okm_83 (by decide) (by rfl) mw_574 mw_576 mw_11 mw_52 (by decide +kernel))))) (tn_ (tn_ (tl_ (oi_aload_n (k := 0) (by decide +kernel) rfl rfl)) (tl_ (oi_iconst (n := 0) (by decide +kernel) (by decide +kernel) rfl))) (tn_ (tl_ (oi_putfield (i := 42) (by decide +kernel) rfl ⟨_, _, _, rfl, by decide, mw_194, rfl, by decide +kernel⟩)) (tn_ (tl_ (oi_aload_n (k := 0) (by decide +kernel) rfl rfl)) (tl_ (oi_getfield (i := 42) (by decide +kernel) rfl ⟨_, _, _, rfl, by decide, mw_194⟩))))))) (tn_ (tn_ (tn_ (tn_ (tl_ (oi_iload_n (k := 3) (by decide +kernel) rfl rfl)) (tl_ (oi_if_icmpge (f := 31) (by decide +kernel) (by decide) rfl))) (tn_ (tl_ (oi_aload_n (k := 0) (by decide +kernel) rfl rfl)) (tl_ (oi_getfield (i := 32) (by decide +kernel) rfl ⟨_, _, _, rfl, by decide, mw_193⟩)))) (tn_ (tn_ (tl_ (oi_ifle (f := 24) (by decide +kernel) (by decide) rfl)) (tl_ (oi_aload_n (k := 0) (by decide +kernel) rfl rfl))) (tn_ (tl_ (oi_callV (i := 45) (by decide +kernel) rfl (by decide) (by decide) okm_87 (by decide) (by rfl) mw_602 mw_604 mw_18 mw_52 (by decide +kernel))) (tl_ (oi_aload_n (k := 0) (by decide +kernel) rfl rfl))))) (tn_ (tn_ (tn_ (tl_ (oi_callV (i := 39) (by decide +kernel) rfl (by decide) (by decide) okm_83 (by decide) (by rfl) mw_574 mw_576 mw_11 mw_52 (by decide +kernel))) (tl_ (oi_aload_n (k := 0) (by decide +kernel) rfl rfl))) (tn_ (tl_ (oi_dup (by decide +kernel) rfl)) (tl_ (oi_getfield (i := 42) (by decide +kernel) rfl ⟨_, _, _, rfl, by decide, mw_194⟩)))) (tn_ (tn_ (tl_ (oi_iconst (n := 1) (by decide +kernel) (by decide +kernel) rfl)) (tl_ (oi_iadd (by decide +kernel) rfl))) (tn_ (tl_ (oi_putfield (i := 42) (by decide +kernel) rfl ⟨_, _, _, rfl, by decide, mw_194, rfl, by decide +kernel⟩)) (tn_ (tl_ (oi_goto (f := -33) (by decide +kernel) (by decide))) (tl_ (oi_return (by decide +kernel) rfl)))))))
end
section
set_option maxRecDepth 20000 in
theorem ok_82 : ∀ pc e, k_82 pc = some e → okE 82 pc e := tn_ (tn_ (tn_ (tn_ (tn_ (tl_ (oi_aload_n (k := 0) (by decide +kernel) rfl rfl)) (tn_ (tl_ (oi_getfield (i := 32) (by decide +kernel) rfl ⟨_, _, _, rfl, by decide, mw_193⟩)) (tl_ (oi_istore_n (k := 3) (by decide) (by decide +kernel) rfl rfl)))) (tn_ (tn_ (tl_ (oi_aload_n (k := 0) (by decide +kernel) rfl rfl)) (tl_ (oi_dup (by decide +kernel) rfl))) (tn_ (tl_ (oi_getfield (i := 32) (by decide +kernel) rfl ⟨_, _, _, rfl, by decide, mw_193⟩)) (tl_ (oi_iconst (n := 1) (by decide +kernel) (by decide +kernel) rfl))))) (tn_ (tn_ (tl_ (oi_iadd (by decide +kernel) rfl)) (tn_ (tl_ (oi_putfield (i := 32) (by decide +kernel) rfl ⟨_, _, _, rfl, by decide, mw_193, rfl, by decide +kernel⟩)) (tl_ (oi_aload_n (k := 0) (by decide +kernel) rfl rfl)))) (tn_ (tn_ (tl_ (oi_getfield (i := 9) (by decide +kernel) rfl ⟨_, _, _, rfl, by decide, mw_189⟩)) (tl_ (oi_iload_n (k := 3) (by decide +kernel) rfl rfl))) (tn_ (tl_ (oi_iload_n (k := 1) (by decide +kernel) rfl rfl)) (tl_ (oi_iast (by decide +kernel) rfl)))))) (tn_ (tn_ (tn_ (tl_ (oi_aload_n (k := 0) (by decide +kernel) rfl rfl)) (tn_ (tl_ (oi_getfield (i := 15) (by decide +kernel) rfl ⟨_, _, _, rfl, by decide, mw_190⟩)) (tl_ (oi_iload_n (k := 3) (by decide +kernel) rfl rfl)))) (tn_ (tn_ (tl_ (oi_iconst (n := 0) (by decide +kernel) (by decide +kernel) rfl)) (tl_ (oi_iast (by decide +kernel) rfl))) (tn_ (tl_ (oi_iconst (n := 0) (by decide +kernel) (by decide +kernel) rfl)) (tl_ (oi_istore (by decide) (by decide +kernel) rfl))))) (tn_ (tn_ (tl_ (oi_iload (by decide +kernel) rfl)) (tn_ (tl_ (oi_iconst (n := 4) (by decide +kernel) (by decide +kernel) rfl)) (tl_ (oi_if_icmpge (f := 30) (by decide +kernel) (by decide) rfl)))) (tn_ (tn_ (tl_ (oi_aload_n (k := 0) (by decide +kernel) rfl rfl)) (tl_ (oi_getfield (i := 18) (by decide +kernel) rfl ⟨_, _, _, rfl, by decide, mw_191⟩))) (tn_ (tl_ (oi_iload_n (k := 3) (by decide +kernel) rfl rfl)) (tl_ (oi_iconst (n := 4) (by decide +kernel) (by decide +kernel) rfl))))))) (tn_ (tn_ (tn_ (tn_ (tl_ (oi_imul (by decide +kernel) rfl)) (tn_ (tl_ (oi_iload (by decide +kernel) rfl)) (tl_ (oi_iadd (by decide +kernel) rfl)))) (tn_ (tn_ (tl_ (oi_iload (by decide +kernel) rfl)) (tl_ (oi_ifne (f := 7) (by decide +kernel) (by decide) rfl))) (tn_ (tl_ (oi_iload_n (k := 2) (by decide +kernel) rfl rfl)) (tl_ (oi_goto (f := 4) (by decide +kernel) (by decide)))))) (tn_ (tn_ (tl_ (oi_iconst (n := 0) (by decide +kernel) (by decide +kernel) rfl)) (tn_ (tl_ (oi_iast (by decide +kernel) rfl)) (tl_ (oi_iinc (n := 1) (by decide) (by decide +kernel) (by decide +kernel) rfl)))) (tn_ (tn_ (tl_ (oi_goto (f := -30) (by decide +kernel) (by decide))) (tl_ (oi_iconst (n := 0) (by decide +kernel) (by decide +kernel) rfl))) (tn_ (tl_ (oi_istore (by decide) (by decide +kernel) rfl)) (tl_ (oi_iload (by decide +kernel) rfl)))))) (tn_ (tn_ (tn_ (tl_ (oi_iconst (n := 4) (by decide +kernel) (by decide +kernel) rfl)) (tn_ (tl_ (oi_if_icmpge (f := 21) (by decide +kernel) (by decide) rfl)) (tl_ (oi_aload_n (k := 0) (by decide +kernel) rfl rfl)))) (tn_ (tn_ (tl_ (oi_getfield (i := 21) (by decide +kernel) rfl ⟨_, _, _, rfl, by decide, mw_192⟩)) (tl_ (oi_iload_n (k := 3) (by decide +kernel) rfl rfl))) (tn_ (tl_ (oi_iconst (n := 4) (by decide +kernel) (by decide +kernel) rfl)) (tl_ (oi_imul (by decide +kernel) rfl))))) (tn_ (tn_ (tl_ (oi_iload (by decide +kernel) rfl)) (tn_ (tl_ (oi_iadd (by decide +kernel) rfl)) (tl_ (oi_m1 (by decide +kernel) rfl)))) (tn_ (tn_ (tl_ (oi_iast (by decide +kernel) rfl)) (tl_ (oi_iinc (n := 1) (by decide) (by decide +kernel) (by decide +kernel) rfl))) (tn_ (tl_ (oi_goto (f := -21) (by decide +kernel) (by decide))) (tl_ (oi_return (by decide +kernel) rfl)))))))
set_option maxRecDepth 20000 in
theorem ok_83 : ∀ pc e, k_83 pc = some e → okE 83 pc e := tn_ (tn_ (tn_ (tn_ (tl_ (oi_aload_n (k := 0) (by decide +kernel) rfl rfl)) (tl_ (oi_getfield (i := 32) (by decide +kernel) rfl ⟨_, _, _, rfl, by decide, mw_193⟩))) (tn_ (tl_ (oi_istore_n (k := 1) (by decide) (by decide +kernel) rfl rfl)) (tl_ (oi_iload_n (k := 1) (by decide +kernel) rfl rfl)))) (tn_ (tn_ (tl_ (oi_ifle (f := 25) (by decide +kernel) (by decide) rfl)) (tl_ (oi_aload_n (k := 0) (by decide +kernel) rfl rfl))) (tn_ (tl_ (oi_callV (i := 48) (by decide +kernel) rfl (by decide) (by decide) okm_84 (by decide) (by rfl) mw_578 mw_580 mw_12 mw_52 (by decide +kernel))) (tl_ (oi_ifeq (f := 18) (by decide +kernel) (by decide) rfl))))) (tn_ (tn_ (tn_ (tl_ (oi_aload_n (k := 0) (by decide +kernel) rfl rfl)) (tl_ (oi_aload_n (k := 0) (by decide +kernel) rfl rfl))) (tn_ (tl_ (oi_iconst (n := 0) (by decide +kernel) (by decide +kernel) rfl)) (tl_ (oi_callV (i := 52) (by decide +kernel) rfl (by decide) (by decide) okm_86 (by decide) (by rfl) mw_586 mw_588 mw_14 mw_52 (by decide +kernel))))) (tn_ (tn_ (tl_ (oi_callV (i := 56) (by decide +kernel) rfl (by decide) (by decide) okm_93 (by decide) (by rfl) mw_590 mw_592 mw_15 mw_52 (by decide +kernel))) (tl_ (oi_idec (by decide) (by decide +kernel) rfl))) (tn_ (tl_ (oi_goto (f := -23) (by decide +kernel) (by decide))) (tl_ (oi_return (by decide +kernel) rfl)))))
set_option maxRecDepth 20000 in
theorem ok_84 : ∀ pc e, k_84 pc = some e → okE 84 pc e := tn_ (tn_ (tn_ (tn_ (tl_ (oi_aload_n (k := 0) (by decide +kernel) rfl rfl)) (tl_ (oi_getfield (i := 32) (by decide +kernel) rfl ⟨_, _, _, rfl, by decide, mw_193⟩))) (tn_ (tl_ (oi_ifle (f := 28) (by decide +kernel) (by decide) rfl)) (tl_ (oi_aload_n (k := 0) (by decide +kernel) rfl rfl)))) (tn_ (tn_ (tl_ (oi_getfield (i := 15) (by decide +kernel) rfl ⟨_, _, _, rfl, by decide, mw_190⟩)) (tl_ (oi_aload_n (k := 0) (by decide +kernel) rfl rfl))) (tn_ (tl_ (oi_getfield (i := 32) (by decide +kernel) rfl ⟨_, _, _, rfl, by decide, mw_193⟩)) (tn_ (tl_ (oi_iconst (n := 1) (by decide +kernel) (by decide +kernel) rfl)) (tl_ (oi_isub (by decide +kernel) rfl)))))) (tn_ (tn_ (tn_ (tl_ (oi_iald (by decide +kernel) rfl)) (tl_ (oi_aload_n (k := 0) (by decide +kernel) rfl rfl))) (tn_ (tl_ (oi_callV (i := 60) (by decide +kernel) rfl (by decide) (by decide) okm_85 (by decide) (by rfl) mw_582 mw_584 mw_13 mw_52 (by decide +kernel))) (tl_ (oi_getfield (i := 64) (by decide +kernel) rfl ⟨_, _, _, rfl, by decide, mw_109⟩)))) (tn_ (tn_ (tl_ (oi_if_icmplt (f := 7) (by decide +kernel) (by decide) rfl)) (tl_ (oi_iconst (n := 1) (by decide +kernel) (by decide +kernel) rfl))) (tn_ (tl_ (oi_goto (f := 4) (by decide +kernel) (by decide))) (tn_ (tl_ (oi_iconst (n := 0) (by decide +kernel) (by decide +kernel) rfl)) (tl_ (oi_ireturnZ (by decide +kernel) rfl))))))
set_option maxRecDepth 20000 in
theorem ok_85 : ∀ pc e, k_85 pc = some e → okE 85 pc e := tn_ (tn_ (tn_ (tl_ (oi_aload_n (k := 0) (by decide +kernel) rfl rfl)) (tn_ (tl_ (oi_getfield (i := 28) (by decide +kernel) rfl ⟨_, _, _, rfl, by decide, mw_188⟩)) (tl_ (oi_getfield (i := 69) (by decide +kernel) rfl ⟨_, _, _, rfl, by decide, mw_143⟩)))) (tn_ (tl_ (oi_aload_n (k := 0) (by decide +kernel) rfl rfl)) (tn_ (tl_ (oi_getfield (i := 9) (by decide +kernel) rfl ⟨_, _, _, rfl, by decide, mw_189⟩)) (tl_ (oi_aload_n (k := 0) (by decide +kernel) rfl rfl))))) (tn_ (tn_ (tl_ (oi_getfield (i := 32) (by decide +kernel) rfl ⟨_, _, _, rfl, by decide, mw_193⟩)) (tn_ (tl_ (oi_iconst (n := 1) (by decide +kernel) (by decide +kernel) rfl)) (tl_ (oi_isub (by decide +kernel) rfl)))) (tn_ (tl_ (oi_iald (by decide +kernel) rfl)) (tn_ (tl_ (oi_aald (by decide +kernel) rfl)) (tl_ (oi_areturn (by decide +kernel) ⟨_, rfl⟩)))))
set_option maxRecDepth 20000 in
theorem ok_86 : ∀ pc e, k_86 pc = some e → okE 86 pc e := tn_ (tn_ (tn_ (tl_ (oi_aload_n (k := 0) (by decide +kernel) rfl rfl)) (tn_ (tl_ (oi_getfield (i := 18) (by decide +kernel) rfl ⟨_, _, _, rfl, by decide, mw_191⟩)) (tl_ (oi_aload_n (k := 0) (by decide +kernel) rfl rfl)))) (tn_ (tl_ (oi_getfield (i := 32) (by decide +kernel) rfl ⟨_, _, _, rfl, by decide, mw_193⟩)) (tn_ (tl_ (oi_iconst (n := 1) (by decide +kernel) (by decide +kernel) rfl)) (tl_ (oi_isub (by decide +kernel) rfl))))) (tn_ (tn_ (tl_ (oi_iconst (n := 4) (by decide +kernel) (by decide +kernel) rfl)) (tn_ (tl_ (oi_imul (by decide +kernel) rfl)) (tl_ (oi_iload_n (k := 1) (by decide +kernel) rfl rfl)))) (tn_ (tl_ (oi_iadd (by decide +kernel) rfl)) (tn_ (tl_ (oi_iald (by decide +kernel) rfl)) (tl_ (oi_ireturnI (by decide +kernel) rfl)))))
set_option maxRecDepth 20000 in
theorem ok_87 : ∀ pc e, k_87 pc = some e → okE 87 pc e := tn_ (tn_ (tn_ (tn_ (tn_ (tn_ (tl_ (oi_aload_n (k := 0) (by decide +kernel) rfl rfl)) (tl_ (oi_callV (i := 60) (by decide +kernel) rfl (by decide) (by decide) okm_85 (by decide) (by rfl) mw_582 mw_584 mw_13 mw_52 (by decide +kernel)))) (tn_ (tl_ (oi_astore_n (k := 1) (by decide) (by decide +kernel) rfl rfl)) (tn_ (tl_ (oi_aload_n (k := 0) (by decide +kernel) rfl rfl)) (tl_ (oi_getfield (i := 15) (by decide +kernel) rfl ⟨_, _, _, rfl, by decide, mw_190⟩))))) (tn_ (tn_ (tl_ (oi_aload_n (k := 0) (by decide +kernel) rfl rfl)) (tn_ (tl_ (oi_getfield (i := 32) (by decide +kernel) rfl ⟨_, _, _, rfl, by decide, mw_193⟩)) (tl_ (oi_iconst (n := 1) (by decide +kernel) (by decide +kernel) rfl)))) (tn_ (tl_ (oi_isub (by decide +kernel) rfl)) (tn_ (tl_ (oi_iald (by decide +kernel) rfl)) (tl_ (oi_istore_n (k := 2) (by decide) (by decide +kernel) rfl rfl)))))) (tn_ (tn_ (tn_ (tl_ (oi_aload_n (k := 1) (by decide +kernel) rfl rfl)) (tn_ (tl_ (oi_getfield (i := 75) (by decide +kernel) rfl ⟨_, _, _, rfl, by decide, mw_102⟩)) (tl_ (oi_iload_n (k := 2) (by decide +kernel) rfl rfl)))) (tn_ (tl_ (oi_iald (by decide +kernel) rfl)) (tn_ (tl_ (oi_istore_n (k := 3) (by decide) (by decide +kernel) rfl rfl)) (tl_ (oi_aload_n (k := 1) (by decide +kernel) rfl rfl))))) (tn_ (tn_ (tl_ (oi_getfield (i := 78) (by decide +kernel) rfl ⟨_, _, _, rfl, by decide, mw_105⟩)) (tn_ (tl_ (oi_iload_n (k := 2) (by decide +kernel) rfl rfl)) (tl_ (oi_iald (by decide +kernel) rfl)))) (tn_ (tl_ (oi_istore (by decide) (by decide +kernel) rfl)) (tn_ (tl_ (oi_aload_n (k := 1) (by decide +kernel) rfl rfl)) (tl_ (oi_getfield (i := 81) (by decide +kernel) rfl ⟨_, _, _, rfl, by decide, mw_99⟩))))))) (tn_ (tn_ (tn_ (tn_ (tl_ (oi_iload_n (k := 2) (by decide +kernel) rfl rfl)) (tl_ (oi_iald (by decide +kernel) rfl))) (tn_ (tl_ (sw_ok4)) (tn_ (tl_ (oi_aload_n (k := 0) (by decide +kernel) rfl rfl)) (tl_ (oi_iload_n (k := 3) (by decide +kernel) rfl rfl))))) (tn_ (tn_ (tl_ (oi_iload (by decide +kernel) rfl)) (tn_ (tl_ (oi_callV (i := 84) (by decide +kernel) rfl (by decide) (by decide) okm_90 (by decide) (by rfl) mw_594 mw_596 mw_16 mw_52 (by decide +kernel))) (tl_ (oi_goto (f := 119) (by decide +kernel) (by decide))))) (tn_ (tl_ (oi_aload_n (k := 0) (by decide +kernel) rfl rfl)) (tn_ (tl_ (oi_iload_n (k := 3) (by decide +kernel) rfl rfl)) (tl_ (oi_aload_n (k := 0) (by decide +kernel) rfl rfl)))))) (tn_ (tn_ (tn_ (tl_ (oi_iload_n (k := 3) (by decide +kernel) rfl rfl)) (tn_ (tl_ (oi_callV (i := 52) (by decide +kernel) rfl (by decide) (by decide) okm_86 (by decide) (by rfl) mw_586 mw_588 mw_14 mw_52 (by decide +kernel))) (tl_ (oi_aload_n (k := 0) (by decide +kernel) rfl rfl)))) (tn_ (tl_ (oi_iload (by decide +kernel) rfl)) (tn_ (tl_ (oi_callV (i := 52) (by decide +kernel) rfl (by decide) (by decide) okm_86 (by decide) (by rfl) mw_586 mw_588 mw_14 mw_52 (by decide +kernel))) (tl_ (oi_iadd (by decide +kernel) rfl))))) (tn_ (tn_ (tl_ (oi_callV (i := 84) (by decide +kernel) rfl (by decide) (by decide) okm_90 (by decide) (by rfl) mw_594 mw_596 mw_16 mw_52 (by decide +kernel))) (tn_ (tl_ (oi_goto (f := 99) (by decide +kernel) (by decide))) (tl_ (oi_aload_n (k := 0) (by decide +kernel) rfl rfl)))) (tn_ (tl_ (oi_iload_n (k := 3) (by decide +kernel) rfl rfl)) (tn_ (tl_ (oi_aload_n (k := 0) (by decide +kernel) rfl rfl)) (tl_ (oi_iload_n (k := 3) (by decide +kernel) rfl rfl)))))))) (tn_ (tn_ (tn_ (tn_ (tn_ (tl_ (oi_callV (i := 52) (by decide +kernel) rfl (by decide) (by decide) okm_86 (by decide) (by rfl) mw_586 mw_588 mw_14 mw_52 (by decide +kernel))) (tl_ (oi_aload_n (k := 0) (by decide +kernel) rfl rfl))) (tn_ (tl_ (oi_iload (by decide +kernel) rfl)) (tn_ (tl_ (oi_callV (i := 52) (by decide +kernel) rfl (by decide) (by decide) okm_86 (by decide) (by rfl) mw_586 mw_588 mw_14 mw_52 (by decide +kernel))) (tl_ (oi_isub (by decide +kernel) rfl))))) (tn_ (tn_ (tl_ (oi_callV (i := 84) (by decide +kernel) rfl (by decide) (by decide) okm_90 (by decide) (by rfl) mw_594 mw_596 mw_16 mw_52 (by decide +kernel))) (tn_ (tl_ (oi_goto (f := 79) (by decide +kernel) (by decide))) (tl_ (oi_aload_n (k := 0) (by decide +kernel) rfl rfl)))) (tn_ (tl_ (oi_iload_n (k := 3) (by decide +kernel) rfl rfl)) (tn_ (tl_ (oi_iload (by decide +kernel) rfl)) (tl_ (oi_callV (i := 87) (by decide +kernel) rfl (by decide) (by decide) okm_91 (by decide) (by rfl) mw_606 mw_608 mw_19 mw_52 (by decide +kernel))))))) (tn_ (tn_ (tn_ (tl_ (oi_goto (f := 69) (by decide +kernel) (by decide))) (tn_ (tl_ (oi_aload_n (k := 0) (by decide +kernel) rfl rfl)) (tl_ (oi_iload_n (k := 3) (by decide +kernel) rfl rfl)))) (tn_ (tl_ (oi_callV (i := 90) (by decide +kernel) rfl (by decide) (by decide) okm_88 (by decide) (by rfl) mw_615 mw_617 mw_21 mw_52 (by decide +kernel))) (tn_ (tl_ (oi_goto (f := 61) (by decide +kernel) (by decide))) (tl_ (oi_aload_n (k := 0) (by decide +kernel) rfl rfl))))) (tn_ (tn_ (tl_ (oi_aload_n (k := 0) (by decide +kernel) rfl rfl)) (tn_ (tl_ (oi_iload_n (k := 3) (by decide +kernel) rfl rfl)) (tl_ (oi_callV (i := 52) (by decide +kernel) rfl (by decide) (by decide) okm_86 (by decide) (by rfl) mw_586 mw_588 mw_14 mw_52 (by decide +kernel))))) (tn_ (tl_ (oi_ifne (f := 8) (by decide +kernel) (by decide) rfl)) (tn_ (tl_ (oi_iload (by decide +kernel) rfl)) (tl_ (oi_goto (f := 6) (by decide +kernel) (by decide)))))))) (tn_ (tn_ (tn_ (tn_ (tl_ (oi_iload_n (k := 2) (by decide +kernel) rfl rfl)) (tn_ (tl_ (oi_iconst (n := 1) (by decide +kernel) (by decide +kernel) rfl)) (tl_ (oi_iadd (by decide +kernel) rfl)))) (tn_ (tl_ (oi_callV (i := 90) (by decide +kernel) rfl (by decide) (by decide) okm_88 (by decide) (by rfl) mw_615 mw_617 mw_21 mw_52 (by decide +kernel))) (tn_ (tl_ (oi_goto (f := 38) (by decide +kernel) (by decide))) (tl_ (oi_aload_n (k := 0) (by decide +kernel) rfl rfl))))) (tn_ (tn_ (tl_ (oi_iload_n (k := 3) (by decide +kernel) rfl rfl)) (tn_ (tl_ (oi_iload (by decide +kernel) rfl)) (tl_ (oi_callV (i := 93) (by decide +kernel) rfl (by decide) (by decide) okm_92 (by decide) (by rfl) mw_619 mw_621 mw_22 mw_52 (by decide +kernel))))) (tn_ (tl_ (oi_goto (f := 28) (by decide +kernel) (by decide))) (tn_ (tl_ (oi_aload_n (k := 0) (by decide +kernel) rfl rfl)) (tl_ (oi_iload_n (k := 3) (by decide +kernel) rfl rfl)))))) (tn_ (tn_ (tn_ (tl_ (oi_callV (i := 96) (by decide +kernel) rfl (by decide) (by decide) okm_95 (by decide) (by rfl) mw_610 mw_612 mw_20 mw_52 (by decide +kernel))) (tn_ (tl_ (oi_goto (f := 20) (by decide +kernel) (by decide))) (tl_ (oi_aload_n (k := 0) (by decide +kernel) rfl rfl)))) (tn_ (tl_ (oi_iload_n (k := 3) (by decide +kernel) rfl rfl)) (tn_ (tl_ (oi_callV (i := 99) (by decide +kernel) rfl (by decide) (by decide) okm_94 (by decide) (by rfl) mw_624 mw_626 mw_23 mw_52 (by decide +kernel))) (tl_ (oi_goto (f := 12) (by decide +kernel) (by decide)))))) (tn_ (tn_ (tl_ (oi_aload_n (k := 0) (by decide +kernel) rfl rfl)) (tn_ (tl_ (oi_aload_n (k := 0) (by decide +kernel) rfl rfl)) (tl_ (oi_iload_n (k := 3) (by decide +kernel) rfl rfl)))) (tn_ (tl_ (oi_callV (i := 52) (by decide +kernel) rfl (by decide) (by decide) okm_86 (by decide) (by rfl) mw_586 mw_588 mw_14 mw_52 (by decide +kernel))) (tn_ (tl_ (oi_callV (i := 56) (by decide +kernel) rfl (by decide) (by decide) okm_93 (by decide) (by rfl) mw_590 mw_592 mw_15 mw_52 (by decide +kernel))) (tl_ (oi_return (by decide +kernel) rfl))))))))
set_option maxRecDepth 20000 in
theorem ok_88 : ∀ pc e, k_88 pc = some e → okE 88 pc e := tn_ (tn_ (tn_ (tl_ (oi_aload_n (k := 0) (by decide +kernel) rfl rfl)) (tl_ (oi_getfield (i := 15) (by decide +kernel) rfl ⟨_, _, _, rfl, by decide, mw_190⟩))) (tn_ (tl_ (oi_aload_n (k := 0) (by decide +kernel) rfl rfl)) (tl_ (oi_getfield (i := 32) (by decide +kernel) rfl ⟨_, _, _, rfl, by decide, mw_193⟩)))) (tn_ (tn_ (tl_ (oi_iconst (n := 1) (by decide +kernel) (by decide +kernel) rfl)) (tl_ (oi_isub (by decide +kernel) rfl))) (tn_ (tl_ (oi_iload_n (k := 1) (by decide +kernel) rfl rfl)) (tn_ (tl_ (oi_iast (by decide +kernel) rfl)) (tl_ (oi_return (by decide +kernel) rfl)))))
set_option maxRecDepth 20000 in
theorem ok_89 : ∀ pc e, k_89 pc = some e → okE 89 pc e := tn_ (tn_ (tn_ (tl_ (oi_aload_n (k := 0) (by decide +kernel) rfl rfl)) (tn_ (tl_ (oi_getfield (i := 15) (by decide +kernel) rfl ⟨_, _, _, rfl, by decide, mw_190⟩)) (tl_ (oi_aload_n (k := 0) (by decide +kernel) rfl rfl)))) (tn_ (tl_ (oi_getfield (i := 32) (by decide +kernel) rfl ⟨_, _, _, rfl, by decide, mw_193⟩)) (tn_ (tl_ (oi_iconst (n := 1) (by decide +kernel) (by decide +kernel) rfl)) (tl_ (oi_isub (by decide +kernel) rfl))))) (tn_ (tn_ (tl_ (oi_dup2 (by decide +kernel) rfl)) (tn_ (tl_ (oi_iald (by decide +kernel) rfl)) (tl_ (oi_iconst (n := 1) (by decide +kernel) (by decide +kernel) rfl)))) (tn_ (tl_ (oi_iadd (by decide +kernel) rfl)) (tn_ (tl_ (oi_iast (by decide +kernel) rfl)) (tl_ (oi_return (by decide +kernel) rfl)))))
set_option maxRecDepth 20000 in
theorem ok_90 : ∀ pc e, k_90 pc = some e → okE 90 pc e := tn_ (tn_ (tn_ (tl_ (oi_aload_n (k := 0) (by decide +kernel) rfl rfl)) (tn_ (tl_ (oi_getfield (i := 18) (by decide +kernel) rfl ⟨_, _, _, rfl, by decide, mw_191⟩)) (tl_ (oi_aload_n (k := 0) (by decide +kernel) rfl rfl)))) (tn_ (tn_ (tl_ (oi_getfield (i := 32) (by decide +kernel) rfl ⟨_, _, _, rfl, by decide, mw_193⟩)) (tl_ (oi_iconst (n := 1) (by decide +kernel) (by decide +kernel) rfl))) (tn_ (tl_ (oi_isub (by decide +kernel) rfl)) (tl_ (oi_iconst (n := 4) (by decide +kernel) (by decide +kernel) rfl))))) (tn_ (tn_ (tn_ (tl_ (oi_imul (by decide +kernel) rfl)) (tl_ (oi_iload_n (k := 1) (by decide +kernel) rfl rfl))) (tn_ (tl_ (oi_iadd (by decide +kernel) rfl)) (tl_ (oi_iload_n (k := 2) (by decide +kernel) rfl rfl)))) (tn_ (tn_ (tl_ (oi_iast (by decide +kernel) rfl)) (tl_ (oi_aload_n (k := 0) (by decide +kernel) rfl rfl))) (tn_ (tl_ (oi_callV (i := 102) (by decide +kernel) rfl (by decide) (by decide) okm_89 (by decide) (by rfl) mw_598 mw_600 mw_17 mw_52 (by decide +kernel))) (tl_ (oi_return (by decide +kernel) rfl)))))
set_option maxRecDepth 20000 in
theorem ok_91 : ∀ pc e, k_91 pc = some e → okE 91 pc e := tn_ (tn_ (tn_ (tn_ (tl_ (oi_aload_n (k := 0) (by decide +kernel) rfl rfl)) (tl_ (oi_iload_n (k := 2) (by decide +kernel) rfl rfl))) (tn_ (tl_ (oi_callV (i := 52) (by decide +kernel) rfl (by decide) (by decide) okm_86 (by decide) (by rfl) mw_586 mw_588 mw_14 mw_52 (by decide +kernel))) (tl_ (oi_istore_n (k := 3) (by decide) (by decide +kernel) rfl rfl)))) (tn_ (tn_ (tl_ (oi_iload_n (k := 3) (by decide +kernel) rfl rfl)) (tl_ (oi_ifne (f := 11) (by decide +kernel) (by decide) rfl))) (tn_ (tl_ (oi_aload_n (k := 0) (by decide +kernel) rfl rfl)) (tn_ (tl_ (oi_iconst (n := 1) (by decide +kernel) (by decide +kernel) rfl)) (tl_ (oi_callV (i := 96) (by decide +kernel) rfl (by decide) (by decide) okm_95 (by decide) (by rfl) mw_610 mw_612 mw_20 mw_52 (by decide +kernel))))))) (tn_ (tn_ (tn_ (tl_ (oi_goto (f := 15) (by decide +kernel) (by decide))) (tl_ (oi_aload_n (k := 0) (by decide +kernel) rfl rfl))) (tn_ (tl_ (oi_iload_n (k := 1) (by decide +kernel) rfl rfl)) (tn_ (tl_ (oi_aload_n (k := 0) (by decide +kernel) rfl rfl)) (tl_ (oi_iload_n (k := 1) (by decide +kernel) rfl rfl))))) (tn_ (tn_ (tl_ (oi_callV (i := 52) (by decide +kernel) rfl (by decide) (by decide) okm_86 (by decide) (by rfl) mw_586 mw_588 mw_14 mw_52 (by decide +kernel))) (tl_ (oi_iload_n (k := 3) (by decide +kernel) rfl rfl))) (tn_ (tl_ (oi_idiv (by decide +kernel) rfl)) (tn_ (tl_ (oi_callV (i := 84) (by decide +kernel) rfl (by decide) (by decide) okm_90 (by decide) (by rfl) mw_594 mw_596 mw_16 mw_52 (by decide +kernel))) (tl_ (oi_return (by decide +kernel) rfl))))))
set_option maxRecDepth 20000 in
theorem ok_92 : ∀ pc e, k_92 pc = some e → okE 92 pc e := tn_ (tn_ (tn_ (tn_ (tl_ (oi_aload_n (k := 0) (by decide +kernel) rfl rfl)) (tn_ (tl_ (oi_getfield (i := 32) (by decide +kernel) rfl ⟨_, _, _, rfl, by decide, mw_193⟩)) (tl_ (oi_bipush (n := 12) (by decide +kernel) (by decide +kernel) rfl)))) (tn_ (tl_ (oi_if_icmplt (f := 11) (by decide +kernel) (by decide) rfl)) (tn_ (tl_ (oi_aload_n (k := 0) (by decide +kernel) rfl rfl)) (tl_ (oi_iconst (n := 2) (by decide +kernel) (by decide +kernel) rfl))))) (tn_ (tn_ (tl_ (oi_callV (i := 96) (by decide +kernel) rfl (by decide) (by decide) okm_95 (by decide) (by rfl) mw_610 mw_612 mw_20 mw_52 (by decide +kernel))) (tn_ (tl_ (oi_goto (f := 33) (by decide +kernel) (by decide))) (tl_ (oi_aload_n (k := 0) (by decide +kernel) rfl rfl)))) (tn_ (tl_ (oi_getfield (i := 28) (by decide +kernel) rfl ⟨_, _, _, rfl, by decide, mw_188⟩)) (tn_ (tl_ (oi_iload_n (k := 2) (by decide +kernel) rfl rfl)) (tl_ (oi_callV (i := 105) (by decide +kernel) rfl (by decide) (by decide) okm_98 (by decide) (by rfl) mw_623 mw_311 mw_312 mw_48 (by decide +kernel))))))) (tn_ (tn_ (tn_ (tl_ (oi_ifeq (f := 16) (by decide +kernel) (by decide) rfl)) (tn_ (tl_ (oi_aload_n (k := 0) (by decide +kernel) rfl rfl)) (tl_ (oi_iload_n (k := 2) (by decide +kernel) rfl rfl)))) (tn_ (tl_ (oi_aload_n (k := 0) (by decide +kernel) rfl rfl)) (tn_ (tl_ (oi_iload_n (k := 1) (by decide +kernel) rfl rfl)) (tl_ (oi_callV (i := 52) (by decide +kernel) rfl (by decide) (by decide) okm_86 (by decide) (by rfl) mw_586 mw_588 mw_14 mw_52 (by decide +kernel)))))) (tn_ (tn_ (tl_ (oi_callV (i := 35) (by decide +kernel) rfl (by decide) (by decide) okm_82 (by decide) (by rfl) mw_570 mw_572 mw_10 mw_52 (by decide +kernel))) (tn_ (tl_ (oi_goto (f := 9) (by decide +kernel) (by decide))) (tl_ (oi_aload_n (k := 0) (by decide +kernel) rfl rfl)))) (tn_ (tn_ (tl_ (oi_iload_n (k := 1) (by decide +kernel) rfl rfl)) (tl_ (oi_iconst (n := 0) (by decide +kernel) (by decide +kernel) rfl))) (tn_ (tl_ (oi_callV (i := 84) (by decide +kernel) rfl (by decide) (by decide) okm_90 (by decide) (by rfl) mw_594 mw_596 mw_16 mw_52 (by decide +kernel))) (tl_ (oi_return (by decide +kernel) rfl))))))
set_option maxRecDepth 20000 in
theorem ok_93 : ∀ pc e, k_93 pc = some e → okE 93 pc e := tn_ (tn_ (tn_ (tn_ (tl_ (oi_aload_n (k := 0) (by decide +kernel) rfl rfl)) (tn_ (tl_ (oi_dup (by decide +kernel) rfl)) (tl_ (oi_getfield (i := 32) (by decide +kernel) rfl ⟨_, _, _, rfl, by decide, mw_193⟩)))) (tn_ (tn_ (tl_ (oi_iconst (n := 1) (by decide +kernel) (by decide +kernel) rfl)) (tl_ (oi_isub (by decide +kernel) rfl))) (tn_ (tl_ (oi_putfield (i := 32) (by decide +kernel) rfl ⟨_, _, _, rfl, by decide, mw_193, rfl, by decide +kernel⟩)) (tl_ (oi_aload_n (k := 0) (by decide +kernel) rfl rfl))))) (tn_ (tn_ (tl_ (oi_getfield (i := 32) (by decide +kernel) rfl ⟨_, _, _, rfl, by decide, mw_193⟩)) (tn_ (tl_ (oi_ifne (f := 11) (by decide +kernel) (by decide) rfl)) (tl_ (oi_aload_n (k := 0) (by decide +kernel) rfl rfl)))) (tn_ (tn_ (tl_ (oi_iload_n (k := 1) (by decide +kernel) rfl rfl)) (tl_ (oi_putfield (i := 109) (by decide +kernel) rfl ⟨_, _, _, rfl, by decide, mw_197, rfl, by decide +kernel⟩))) (tn_ (tl_ (oi_goto (f := 27) (by decide +kernel) (by decide))) (tl_ (oi_aload_n (k := 0) (by decide +kernel) rfl rfl)))))) (tn_ (tn_ (tn_ (tl_ (oi_aload_n (k := 0) (by decide +kernel) rfl rfl)) (tn_ (tl_ (oi_callV (i := 60) (by decide +kernel) rfl (by decide) (by decide) okm_85 (by decide) (by rfl) mw_582 mw_584 mw_13 mw_52 (by decide +kernel))) (tl_ (oi_getfield (i := 75) (by decide +kernel) rfl ⟨_, _, _, rfl, by decide, mw_102⟩)))) (tn_ (tn_ (tl_ (oi_aload_n (k := 0) (by decide +kernel) rfl rfl)) (tl_ (oi_getfield (i := 15) (by decide +kernel) rfl ⟨_, _, _, rfl, by decide, mw_190⟩))) (tn_ (tl_ (oi_aload_n (k := 0) (by decide +kernel) rfl rfl)) (tl_ (oi_getfield (i := 32) (by decide +kernel) rfl ⟨_, _, _, rfl, by decide, mw_193⟩))))) (tn_ (tn_ (tl_ (oi_iconst (n := 1) (by decide +kernel) (by decide +kernel) rfl)) (tn_ (tl_ (oi_isub (by decide +kernel) rfl)) (tl_ (oi_iald (by decide +kernel) rfl)))) (tn_ (tn_ (tl_ (oi_iald (by decide +kernel) rfl)) (tl_ (oi_iload_n (k := 1) (by decide +kernel) rfl rfl))) (tn_ (tl_ (oi_callV (i := 84) (by decide +kernel) rfl (by decide) (by decide) okm_90 (by decide) (by rfl) mw_594 mw_596 mw_16 mw_52 (by decide +kernel))) (tl_ (oi_return (by decide +kernel) rfl))))))
set_option maxRecDepth 20000 in
theorem ok_94 : ∀ pc e, k_94 pc = some e → okE 94 pc e := tn_ (tn_ (tn_ (tn_ (tl_ (oi_aload_n (k := 0) (by decide +kernel) rfl rfl)) (tl_ (oi_getfield (i := 21) (by decide +kernel) rfl ⟨_, _, _, rfl, by decide, mw_192⟩))) (tn_ (tl_ (oi_aload_n (k := 0) (by decide +kernel) rfl rfl)) (tn_ (tl_ (oi_getfield (i := 32) (by decide +kernel) rfl ⟨_, _, _, rfl, by decide, mw_193⟩)) (tl_ (oi_iconst (n := 1) (by decide +kernel) (by decide +kernel) rfl))))) (tn_ (tn_ (tl_ (oi_isub (by decide +kernel) rfl)) (tn_ (tl_ (oi_iconst (n := 4) (by decide +kernel) (by decide +kernel) rfl)) (tl_ (oi_imul (by decide +kernel) rfl)))) (tn_ (tl_ (oi_iload_n (k := 1) (by decide +kernel) rfl rfl)) (tn_ (tl_ (oi_iadd (by decide +kernel) rfl)) (tl_ (oi_iald (by decide +kernel) rfl)))))) (tn_ (tn_ (tn_ (tl_ (oi_istore_n (k := 2) (by decide) (by decide +kernel) rfl rfl)) (tl_ (oi_iload_n (k := 2) (by decide +kernel) rfl rfl))) (tn_ (tl_ (oi_m1 (by decide +kernel) rfl)) (tn_ (tl_ (oi_if_icmpne (f := 10) (by decide +kernel) (by decide) rfl)) (tl_ (oi_aload_n (k := 0) (by decide +kernel) rfl rfl))))) (tn_ (tn_ (tl_ (oi_callV (i := 102) (by decide +kernel) rfl (by decide) (by decide) okm_89 (by decide) (by rfl) mw_598 mw_600 mw_17 mw_52 (by decide +kernel))) (tn_ (tl_ (oi_goto (f := 8) (by decide +kernel) (by decide))) (tl_ (oi_aload_n (k := 0) (by decide +kernel) rfl rfl)))) (tn_ (tl_ (oi_iload_n (k := 2) (by decide +kernel) rfl rfl)) (tn_ (tl_ (oi_callV (i := 96) (by decide +kernel) rfl (by decide) (by decide) okm_95 (by decide) (by rfl) mw_610 mw_612 mw_20 mw_52 (by decide +kernel))) (tl_ (oi_return (by decide +kernel) rfl))))))
set_option maxRecDepth 20000 in
theorem ok_95 : ∀ pc e, k_95 pc = some e → okE 95 pc e := tn_ (tn_ (tn_ (tn_ (tn_ (tl_ (oi_aload_n (k := 0) (by decide +kernel) rfl rfl)) (tn_ (tl_ (oi_getfield (i := 32) (by decide +kernel) rfl ⟨_, _, _, rfl, by decide, mw_193⟩)) (tl_ (oi_ifle (f := 77) (by decide +kernel) (by decide) rfl)))) (tn_ (tl_ (oi_aload_n (k := 0) (by decide +kernel) rfl rfl)) (tn_ (tl_ (oi_callV (i := 60) (by decide +kernel) rfl (by decide) (by decide) okm_85 (by decide) (by rfl) mw_582 mw_584 mw_13 mw_52 (by decide +kernel))) (tl_ (oi_astore_n (k := 2) (by decide) (by decide +kernel) rfl rfl))))) (tn_ (tn_ (tl_ (oi_aload_n (k := 2) (by decide +kernel) rfl rfl)) (tn_ (tl_ (oi_aload_n (k := 0) (by decide +kernel) rfl rfl)) (tl_ (oi_getfield (i := 15) (by decide +kernel) rfl ⟨_, _, _, rfl, by decide, mw_190⟩)))) (tn_ (tn_ (tl_ (oi_aload_n (k := 0) (by decide +kernel) rfl rfl)) (tl_ (oi_getfield (i := 32) (by decide +kernel) rfl ⟨_, _, _, rfl, by decide, mw_193⟩))) (tn_ (tl_ (oi_iconst (n := 1) (by decide +kernel) (by decide +kernel) rfl)) (tl_ (oi_isub (by decide +kernel) rfl)))))) (tn_ (tn_ (tn_ (tl_ (oi_iald (by decide +kernel) rfl)) (tn_ (tl_ (oi_iload_n (k := 1) (by decide +kernel) rfl rfl)) (tl_ (oi_aload_n (k := 0) (by decide +kernel) rfl rfl)))) (tn_ (tl_ (oi_getfield (i := 28) (by decide +kernel) rfl ⟨_, _, _, rfl, by decide, mw_188⟩)) (tn_ (tl_ (oi_getfield (i := 112) (by decide +kernel) rfl ⟨_, _, _, rfl, by decide, mw_140⟩)) (tl_ (oi_callV (i := 116) (by decide +kernel) rfl (by decide) (by decide) okm_58 (by decide) (by rfl) mw_614 mw_284 mw_285 mw_50 (by decide +kernel)))))) (tn_ (tn_ (tl_ (oi_istore_n (k := 3) (by decide) (by decide +kernel) rfl rfl)) (tn_ (tl_ (oi_iload_n (k := 3) (by decide +kernel) rfl rfl)) (tl_ (oi_m1 (by decide +kernel) rfl)))) (tn_ (tn_ (tl_ (oi_if_icmpeq (f := 30) (by decide +kernel) (by decide) rfl)) (tl_ (oi_aload_n (k := 0) (by decide +kernel) rfl rfl))) (tn_ (tl_ (oi_getfield (i := 21) (by decide +kernel) rfl ⟨_, _, _, rfl, by decide, mw_192⟩)) (tl_ (oi_aload_n (k := 0) (by decide +kernel) rfl rfl))))))) (tn_ (tn_ (tn_ (tn_ (tl_ (oi_getfield (i := 32) (by decide +kernel) rfl ⟨_, _, _, rfl, by decide, mw_193⟩)) (tn_ (tl_ (oi_iconst (n := 1) (by decide +kernel) (by decide +kernel) rfl)) (tl_ (oi_isub (by decide +kernel) rfl)))) (tn_ (tl_ (oi_iconst (n := 4) (by decide +kernel) (by decide +kernel) rfl)) (tn_ (tl_ (oi_imul (by decide +kernel) rfl)) (tl_ (oi_iload_n (k := 3) (by decide +kernel) rfl rfl))))) (tn_ (tn_ (tl_ (oi_iadd (by decide +kernel) rfl)) (tn_ (tl_ (oi_iload_n (k := 1) (by decide +kernel) rfl rfl)) (tl_ (oi_iast (by decide +kernel) rfl)))) (tn_ (tn_ (tl_ (oi_aload_n (k := 0) (by decide +kernel) rfl rfl)) (tl_ (oi_aload_n (k := 2) (by decide +kernel) rfl rfl))) (tn_ (tl_ (oi_getfield (i := 120) (by decide +kernel) rfl ⟨_, _, _, rfl, by decide, mw_115⟩)) (tl_ (oi_iload_n (k := 3) (by decide +kernel) rfl rfl)))))) (tn_ (tn_ (tn_ (tl_ (oi_iald (by decide +kernel) rfl)) (tn_ (tl_ (oi_callV (i := 90) (by decide +kernel) rfl (by decide) (by decide) okm_88 (by decide) (by rfl) mw_615 mw_617 mw_21 mw_52 (by decide +kernel))) (tl_ (oi_return (by decide +kernel) rfl)))) (tn_ (tn_ (tl_ (oi_aload_n (k := 0) (by decide +kernel) rfl rfl)) (tl_ (oi_dup (by decide +kernel) rfl))) (tn_ (tl_ (oi_getfield (i := 32) (by decide +kernel) rfl ⟨_, _, _, rfl, by decide, mw_193⟩)) (tl_ (oi_iconst (n := 1) (by decide +kernel) (by decide +kernel) rfl))))) (tn_ (tn_ (tl_ (oi_isub (by decide +kernel) rfl)) (tn_ (tl_ (oi_putfield (i := 32) (by decide +kernel) rfl ⟨_, _, _, rfl, by decide, mw_193, rfl, by decide +kernel⟩)) (tl_ (oi_goto (f := -78) (by decide +kernel) (by decide))))) (tn_ (tn_ (tl_ (oi_aload_n (k := 0) (by decide +kernel) rfl rfl)) (tl_ (oi_iload_n (k := 1) (by decide +kernel) rfl rfl))) (tn_ (tl_ (oi_putfield (i := 24) (by decide +kernel) rfl ⟨_, _, _, rfl, by decide, mw_198, rfl, by decide +kernel⟩)) (tl_ (oi_return (by decide +kernel) rfl)))))))
end
section
set_option maxRecDepth 20000 in
theorem ok_96 : ∀ pc e, k_96 pc = some e → okE 96 pc e := tn_ (tn_ (tn_ (tl_ (oi_aload_n (k := 0) (by decide +kernel) rfl rfl)) (tl_ (oi_getfield (i := 25) (by decide +kernel) rfl ⟨_, _, _, rfl, by decide, mw_145⟩))) (tn_ (tl_ (oi_bipush (n := 8) (by decide +kernel) (by decide +kernel) rfl)) (tl_ (oi_if_icmplt (f := 7) (by decide +kernel) (by decide) rfl)))) (tn_ (tn_ (tl_ (oi_iconst (n := 1) (by decide +kernel) (by decide +kernel) rfl)) (tl_ (oi_goto (f := 4) (by decide +kernel) (by decide)))) (tn_ (tl_ (oi_iconst (n := 0) (by decide +kernel) (by decide +kernel) rfl)) (tl_ (oi_ireturnZ (by decide +kernel) rfl))))
set_option maxRecDepth 20000 in
theorem ok_97 : ∀ pc e, k_97 pc = some e → okE 97 pc e := tn_ (tn_ (tn_ (tl_ (oi_aload_n (k := 0) (by decide +kernel) rfl rfl)) (tl_ (oi_getfield (i := 25) (by decide +kernel) rfl ⟨_, _, _, rfl, by decide, mw_145⟩))) (tn_ (tl_ (oi_istore_n (k := 1) (by decide) (by decide +kernel) rfl rfl)) (tn_ (tl_ (oi_aload_n (k := 0) (by decide +kernel) rfl rfl)) (tl_ (oi_dup (by decide +kernel) rfl))))) (tn_ (tn_ (tl_ (oi_getfield (i := 25) (by decide +kernel) rfl ⟨_, _, _, rfl, by decide, mw_145⟩)) (tn_ (tl_ (oi_iconst (n := 1) (by decide +kernel) (by decide +kernel) rfl)) (tl_ (oi_iadd (by decide +kernel) rfl)))) (tn_ (tl_ (oi_putfield (i := 25) (by decide +kernel) rfl ⟨_, _, _, rfl, by decide, mw_145, rfl, by decide +kernel⟩)) (tn_ (tl_ (oi_iload_n (k := 1) (by decide +kernel) rfl rfl)) (tl_ (oi_ireturnI (by decide +kernel) rfl)))))
set_option maxRecDepth 20000 in
theorem ok_98 : ∀ pc e, k_98 pc = some e → okE 98 pc e := tn_ (tn_ (tn_ (tl_ (oi_iload_n (k := 1) (by decide +kernel) rfl rfl)) (tl_ (oi_iflt (f := 15) (by decide +kernel) (by decide) rfl))) (tn_ (tl_ (oi_iload_n (k := 1) (by decide +kernel) rfl rfl)) (tn_ (tl_ (oi_aload_n (k := 0) (by decide +kernel) rfl rfl)) (tl_ (oi_getfield (i := 25) (by decide +kernel) rfl ⟨_, _, _, rfl, by decide, mw_145⟩))))) (tn_ (tn_ (tl_ (oi_if_icmpge (f := 7) (by decide +kernel) (by decide) rfl)) (tl_ (oi_iconst (n := 1) (by decide +kernel) (by decide +kernel) rfl))) (tn_ (tl_ (oi_goto (f := 4) (by decide +kernel) (by decide))) (tn_ (tl_ (oi_iconst (n := 0) (by decide +kernel) (by decide +kernel) rfl)) (tl_ (oi_ireturnZ (by decide +kernel) rfl)))))
set_option maxRecDepth 20000 in
theorem ok_99 : ∀ pc e, k_99 pc = some e → okE 99 pc e := tn_ (tn_ (tn_ (tn_ (tl_ (oi_aload_n (k := 0) (by decide +kernel) rfl rfl)) (tl_ (oi_iload_n (k := 1) (by decide +kernel) rfl rfl))) (tn_ (tl_ (oi_callV (i := 29) (by decide +kernel) rfl (by decide) (by decide) okm_98 (by decide) (by rfl) mw_327 mw_311 mw_312 mw_48 (by decide +kernel))) (tl_ (oi_ifeq (f := 24) (by decide +kernel) (by decide) rfl)))) (tn_ (tn_ (tl_ (oi_iload_n (k := 2) (by decide +kernel) rfl rfl)) (tl_ (oi_iflt (f := 20) (by decide +kernel) (by decide) rfl))) (tn_ (tl_ (oi_iload_n (k := 2) (by decide +kernel) rfl rfl)) (tl_ (oi_aload_n (k := 0) (by decide +kernel) rfl rfl))))) (tn_ (tn_ (tn_ (tl_ (oi_getfield (i := 20) (by decide +kernel) rfl ⟨_, _, _, rfl, by decide, mw_141⟩)) (tl_ (oi_iload_n (k := 1) (by decide +kernel) rfl rfl))) (tn_ (tl_ (oi_aald (by decide +kernel) rfl)) (tl_ (oi_getfield (i := 33) (by decide +kernel) rfl ⟨_, _, _, rfl, by decide, mw_108⟩)))) (tn_ (tn_ (tl_ (oi_if_icmpge (f := 7) (by decide +kernel) (by decide) rfl)) (tl_ (oi_iconst (n := 1) (by decide +kernel) (by decide +kernel) rfl))) (tn_ (tl_ (oi_goto (f := 4) (by decide +kernel) (by decide))) (tn_ (tl_ (oi_iconst (n := 0) (by decide +kernel) (by decide +kernel) rfl)) (tl_ (oi_ireturnZ (by decide +kernel) rfl))))))
set_option maxRecDepth 20000 in
theorem ok_100 : ∀ pc e, k_100 pc = some e → okE 100 pc e := tn_ (tn_ (tn_ (tn_ (tl_ (oi_aload_n (k := 0) (by decide +kernel) rfl rfl)) (tl_ (oi_iload_n (k := 1) (by decide +kernel) rfl rfl))) (tn_ (tl_ (oi_callV (i := 29) (by decide +kernel) rfl (by decide) (by decide) okm_98 (by decide) (by rfl) mw_327 mw_311 mw_312 mw_48 (by decide +kernel))) (tl_ (oi_ifeq (f := 24) (by decide +kernel) (by decide) rfl)))) (tn_ (tn_ (tl_ (oi_iload_n (k := 2) (by decide +kernel) rfl rfl)) (tl_ (oi_iflt (f := 20) (by decide +kernel) (by decide) rfl))) (tn_ (tl_ (oi_iload_n (k := 2) (by decide +kernel) rfl rfl)) (tl_ (oi_aload_n (k := 0) (by decide +kernel) rfl rfl))))) (tn_ (tn_ (tn_ (tl_ (oi_getfield (i := 20) (by decide +kernel) rfl ⟨_, _, _, rfl, by decide, mw_141⟩)) (tl_ (oi_iload_n (k := 1) (by decide +kernel) rfl rfl))) (tn_ (tl_ (oi_aald (by decide +kernel) rfl)) (tl_ (oi_getfield (i := 36) (by decide +kernel) rfl ⟨_, _, _, rfl, by decide, mw_117⟩)))) (tn_ (tn_ (tl_ (oi_if_icmpge (f := 7) (by decide +kernel) (by decide) rfl)) (tl_ (oi_iconst (n := 1) (by decide +kernel) (by decide +kernel) rfl))) (tn_ (tl_ (oi_goto (f := 4) (by decide +kernel) (by decide))) (tn_ (tl_ (oi_iconst (n := 0) (by decide +kernel) (by decide +kernel) rfl)) (tl_ (oi_ireturnZ (by decide +kernel) rfl))))))
set_option maxRecDepth 20000 in
theorem ok_101 : ∀ pc e, k_101 pc = some e → okE 101 pc e := tn_ (tn_ (tn_ (tn_ (tn_ (tl_ (oi_iload_n (k := 1) (by decide +kernel) rfl rfl)) (tn_ (tl_ (sw_ok5)) (tl_ (oi_iload_n (k := 2) (by decide +kernel) rfl rfl)))) (tn_ (tn_ (tl_ (oi_callS (i := 39) (by decide +kernel) rfl (by decide) (by decide) okm_103 mw_511 mw_512 mw_48 (by decide +kernel))) (tl_ (oi_ireturnZ (by decide +kernel) rfl))) (tn_ (tl_ (oi_iload_n (k := 2) (by decide +kernel) rfl rfl)) (tl_ (oi_callS (i := 39) (by decide +kernel) rfl (by decide) (by decide) okm_103 mw_511 mw_512 mw_48 (by decide +kernel)))))) (tn_ (tn_ (tl_ (oi_ifeq (f := 14) (by decide +kernel) (by decide) rfl)) (tn_ (tl_ (oi_iload_n (k := 3) (by decide +kernel) rfl rfl)) (tl_ (oi_callS (i := 39) (by decide +kernel) rfl (by decide) (by decide) okm_103 mw_511 mw_512 mw_48 (by decide +kernel))))) (tn_ (tn_ (tl_ (oi_ifeq (f := 7) (by decide +kernel) (by decide) rfl)) (tl_ (oi_iconst (n := 1) (by decide +kernel) (by decide +kernel) rfl))) (tn_ (tl_ (oi_goto (f := 4) (by decide +kernel) (by decide))) (tl_ (oi_iconst (n := 0) (by decide +kernel) (by decide +kernel) rfl)))))) (tn_ (tn_ (tn_ (tl_ (oi_ireturnZ (by decide +kernel) rfl)) (tn_ (tl_ (oi_iload_n (k := 2) (by decide +kernel) rfl rfl)) (tl_ (oi_callS (i := 42) (by decide +kernel) rfl (by decide) (by decide) okm_104 mw_514 mw_515 mw_48 (by decide +kernel))))) (tn_ (tn_ (tl_ (oi_ireturnZ (by decide +kernel) rfl)) (tl_ (oi_iload_n (k := 2) (by decide +kernel) rfl rfl))) (tn_ (tl_ (oi_callS (i := 39) (by decide +kernel) rfl (by decide) (by decide) okm_103 mw_511 mw_512 mw_48 (by decide +kernel))) (tl_ (oi_ifeq (f := 14) (by decide +kernel) (by decide) rfl))))) (tn_ (tn_ (tl_ (oi_iload_n (k := 3) (by decide +kernel) rfl rfl)) (tn_ (tl_ (oi_callS (i := 42) (by decide +kernel) rfl (by decide) (by decide) okm_104 mw_514 mw_515 mw_48 (by decide +kernel))) (tl_ (oi_ifeq (f := 7) (by decide +kernel) (by decide) rfl)))) (tn_ (tn_ (tl_ (oi_iconst (n := 1) (by decide +kernel) (by decide +kernel) rfl)) (tl_ (oi_goto (f := 4) (by decide +kernel) (by decide)))) (tn_ (tl_ (oi_iconst (n := 0) (by decide +kernel) (by decide +kernel) rfl)) (tl_ (oi_ireturnZ (by decide +kernel) rfl))))))) (tn_ (tn_ (tn_ (tn_ (tl_ (oi_iload_n (k := 2) (by decide +kernel) rfl rfl)) (tn_ (tl_ (oi_callS (i := 39) (by decide +kernel) rfl (by decide) (by decide) okm_103 mw_511 mw_512 mw_48 (by decide +kernel))) (tl_ (oi_ifeq (f := 17) (by decide +kernel) (by decide) rfl)))) (tn_ (tn_ (tl_ (oi_iload_n (k := 3) (by decide +kernel) rfl rfl)) (tl_ (oi_iflt (f := 13) (by decide +kernel) (by decide) rfl))) (tn_ (tl_ (oi_iload_n (k := 3) (by decide +kernel) rfl rfl)) (tl_ (oi_bipush (n := 8) (by decide +kernel) (by decide +kernel) rfl))))) (tn_ (tn_ (tl_ (oi_if_icmpge (f := 7) (by decide +kernel) (by decide) rfl)) (tn_ (tl_ (oi_iconst (n := 1) (by decide +kernel) (by decide +kernel) rfl)) (tl_ (oi_goto (f := 4) (by decide +kernel) (by decide))))) (tn_ (tn_ (tl_ (oi_iconst (n := 0) (by decide +kernel) (by decide +kernel) rfl)) (tl_ (oi_ireturnZ (by decide +kernel) rfl))) (tn_ (tl_ (oi_aload_n (k := 0) (by decide +kernel) rfl rfl)) (tl_ (oi_getfield (i := 12) (by decide +kernel) rfl ⟨_, _, _, rfl, by decide, mw_137⟩)))))) (tn_ (tn_ (tn_ (tl_ (oi_iload_n (k := 2) (by decide +kernel) rfl rfl)) (tn_ (tl_ (oi_callV (i := 45) (by decide +kernel) rfl (by decide) (by decide) okm_76 (by decide) (by rfl) mw_517 mw_234 mw_235 mw_49 (by decide +kernel))) (tl_ (oi_ireturnZ (by decide +kernel) rfl)))) (tn_ (tn_ (tl_ (oi_iload_n (k := 2) (by decide +kernel) rfl rfl)) (tl_ (oi_iflt (f := 12) (by decide +kernel) (by decide) rfl))) (tn_ (tl_ (oi_iload_n (k := 2) (by decide +kernel) rfl rfl)) (tl_ (oi_iconst (n := 4) (by decide +kernel) (by decide +kernel) rfl))))) (tn_ (tn_ (tl_ (oi_if_icmpge (f := 7) (by decide +kernel) (by decide) rfl)) (tn_ (tl_ (oi_iconst (n := 1) (by decide +kernel) (by decide +kernel) rfl)) (tl_ (oi_goto (f := 4) (by decide +kernel) (by decide))))) (tn_ (tn_ (tl_ (oi_iconst (n := 0) (by decide +kernel) (by decide +kernel) rfl)) (tl_ (oi_ireturnZ (by decide +kernel) rfl))) (tn_ (tl_ (oi_iconst (n := 0) (by decide +kernel) (by decide +kernel) rfl)) (tl_ (oi_ireturnZ (by decide +kernel) rfl)))))))
set_option maxRecDepth 20000 in
theorem ok_102 : ∀ pc e, k_102 pc = some e → okE 102 pc e := tn_ (tn_ (tn_ (tn_ (tl_ (oi_iload_n (k := 1) (by decide +kernel) rfl rfl)) (tl_ (oi_callS (i := 42) (by decide +kernel) rfl (by decide) (by decide) okm_104 mw_514 mw_515 mw_48 (by decide +kernel)))) (tn_ (tl_ (oi_ifeq (f := 38) (by decide +kernel) (by decide) rfl)) (tn_ (tl_ (oi_iload_n (k := 2) (by decide +kernel) rfl rfl)) (tl_ (oi_callS (i := 42) (by decide +kernel) rfl (by decide) (by decide) okm_104 mw_514 mw_515 mw_48 (by decide +kernel)))))) (tn_ (tn_ (tl_ (oi_ifeq (f := 31) (by decide +kernel) (by decide) rfl)) (tl_ (oi_iload_n (k := 1) (by decide +kernel) rfl rfl))) (tn_ (tl_ (oi_iload_n (k := 2) (by decide +kernel) rfl rfl)) (tn_ (tl_ (oi_if_icmpgt (f := 26) (by decide +kernel) (by decide) rfl)) (tl_ (oi_aload_n (k := 0) (by decide +kernel) rfl rfl)))))) (tn_ (tn_ (tn_ (tl_ (oi_getfield (i := 12) (by decide +kernel) rfl ⟨_, _, _, rfl, by decide, mw_137⟩)) (tl_ (oi_iload_n (k := 3) (by decide +kernel) rfl rfl))) (tn_ (tl_ (oi_callV (i := 45) (by decide +kernel) rfl (by decide) (by decide) okm_76 (by decide) (by rfl) mw_517 mw_234 mw_235 mw_49 (by decide +kernel))) (tn_ (tl_ (oi_ifeq (f := 15) (by decide +kernel) (by decide) rfl)) (tl_ (oi_iload (by decide +kernel) rfl))))) (tn_ (tn_ (tl_ (oi_callS (i := 42) (by decide +kernel) rfl (by decide) (by decide) okm_104 mw_514 mw_515 mw_48 (by decide +kernel))) (tn_ (tl_ (oi_ifeq (f := 7) (by decide +kernel) (by decide) rfl)) (tl_ (oi_iconst (n := 1) (by decide +kernel) (by decide +kernel) rfl)))) (tn_ (tl_ (oi_goto (f := 4) (by decide +kernel) (by decide))) (tn_ (tl_ (oi_iconst (n := 0) (by decide +kernel) (by decide +kernel) rfl)) (tl_ (oi_ireturnZ (by decide +kernel) rfl))))))
set_option maxRecDepth 20000 in
theorem ok_103 : ∀ pc e, k_103 pc = some e → okE 103 pc e := tn_ (tn_ (tn_ (tl_ (oi_iload_n (k := 0) (by decide +kernel) rfl rfl)) (tl_ (oi_iflt (f := 12) (by decide +kernel) (by decide) rfl))) (tn_ (tl_ (oi_iload_n (k := 0) (by decide +kernel) rfl rfl)) (tl_ (oi_iconst (n := 4) (by decide +kernel) (by decide +kernel) rfl)))) (tn_ (tn_ (tl_ (oi_if_icmpge (f := 7) (by decide +kernel) (by decide) rfl)) (tl_ (oi_iconst (n := 1) (by decide +kernel) (by decide +kernel) rfl))) (tn_ (tl_ (oi_goto (f := 4) (by decide +kernel) (by decide))) (tn_ (tl_ (oi_iconst (n := 0) (by decide +kernel) (by decide +kernel) rfl)) (tl_ (oi_ireturnZ (by decide +kernel) rfl)))))
set_option maxRecDepth 20000 in
theorem ok_104 : ∀ pc e, k_104 pc = some e → okE 104 pc e := tn_ (tn_ (tn_ (tl_ (oi_iload_n (k := 0) (by decide +kernel) rfl rfl)) (tl_ (oi_iflt (f := 13) (by decide +kernel) (by decide) rfl))) (tn_ (tl_ (oi_iload_n (k := 0) (by decide +kernel) rfl rfl)) (tl_ (oi_bipush (n := 24) (by decide +kernel) (by decide +kernel) rfl)))) (tn_ (tn_ (tl_ (oi_if_icmpge (f := 7) (by decide +kernel) (by decide) rfl)) (tl_ (oi_iconst (n := 1) (by decide +kernel) (by decide +kernel) rfl))) (tn_ (tl_ (oi_goto (f := 4) (by decide +kernel) (by decide))) (tn_ (tl_ (oi_iconst (n := 0) (by decide +kernel) (by decide +kernel) rfl)) (tl_ (oi_ireturnZ (by decide +kernel) rfl)))))
theorem oe_105_20 : okE 105 20 (0, 0, 0, 21) := oi_iconst (n := 0) (by decide +kernel) (by decide +kernel) rfl
theorem oe_105_21 : okE 105 21 (4, 4, 0, 23) := oi_istore (by decide) (by decide +kernel) rfl
theorem oe_105_23 : okE 105 23 (2, 4, 0, 25) := oi_iload (by decide +kernel) rfl
theorem oe_105_25 : okE 105 25 (3, 0, 0, 26) := oi_aload_n (k := 0) (by decide +kernel) rfl rfl
theorem oe_105_26 : okE 105 26 (24, 0, 0, 27) := oi_alenS (by decide +kernel) rfl rfl
theorem oe_105_27 : okE 105 27 (0, 6, 0, 29) := oi_bipush (n := 6) (by decide +kernel) (by decide +kernel) rfl
theorem oe_105_29 : okE 105 29 (7, 0, 0, 30) := oi_isub (by decide +kernel) rfl
theorem oe_105_30 : okE 105 30 (60, 815, 0, 33) := oi_if_icmpgt (f := 785) (by decide +kernel) (by decide) rfl
theorem oe_105_33 : okE 105 33 (3, 0, 0, 34) := oi_aload_n (k := 0) (by decide +kernel) rfl rfl
theorem oe_105_34 : okE 105 34 (2, 4, 0, 36) := oi_iload (by decide +kernel) rfl
theorem oe_105_36 : okE 105 36 (37, 0, 0, 37) := oi_ialdS (by decide +kernel) rfl rfl
theorem oe_105_37 : okE 105 37 (0, 15, 0, 39) := oi_bipush (n := 15) (by decide +kernel) (by decide +kernel) rfl
theorem oe_105_39 : okE 105 39 (10, 0, 0, 40) := oi_iand (by decide +kernel) rfl
theorem oe_105_40 : okE 105 40 (62, 6, 809, 0) := sw_ok6
theorem oe_105_112 : okE 105 112 (3, 1, 0, 113) := oi_aload_n (k := 1) (by decide +kernel) rfl rfl
theorem oe_105_113 : okE 105 113 (3, 0, 0, 114) := oi_aload_n (k := 0) (by decide +kernel) rfl rfl
theorem oe_105_114 : okE 105 114 (2, 4, 0, 116) := oi_iload (by decide +kernel) rfl
theorem oe_105_116 : okE 105 116 (0, 1, 0, 117) := oi_iconst (n := 1) (by decide +kernel) (by decide +kernel) rfl
theorem oe_105_117 : okE 105 117 (6, 0, 0, 118) := oi_iadd (by decide +kernel) rfl
theorem oe_105_118 : okE 105 118 (37, 0, 0, 119) := oi_ialdS (by decide +kernel) rfl rfl
theorem oe_105_119 : okE 105 119 (3, 3, 0, 120) := oi_aload_n (k := 3) (by decide +kernel) rfl rfl
theorem oe_105_120 : okE 105 120 (91, 0, 0, 123) := trivial
theorem oe_105_123 : okE 105 123 (4, 5, 0, 125) := oi_istore (by decide) (by decide +kernel) rfl
theorem oe_105_125 : okE 105 125 (3, 2, 0, 126) := oi_aload_n (k := 2) (by decide +kernel) rfl rfl
theorem oe_105_126 : okE 105 126 (3, 0, 0, 127) := oi_aload_n (k := 0) (by decide +kernel) rfl rfl
theorem oe_105_127 : okE 105 127 (2, 4, 0, 129) := oi_iload (by decide +kernel) rfl
theorem oe_105_129 : okE 105 129 (0, 1, 0, 130) := oi_iconst (n := 1) (by decide +kernel) (by decide +kernel) rfl
theorem oe_105_130 : okE 105 130 (6, 0, 0, 131) := oi_iadd (by decide +kernel) rfl
theorem oe_105_131 : okE 105 131 (37, 0, 0, 132) := oi_ialdS (by decide +kernel) rfl rfl
theorem oe_105_132 : okE 105 132 (70, 17, 2, 135) := oi_callV (i := 45) (by decide +kernel) rfl (by decide) (by decide) okm_17 (by decide) (by rfl) mw_729 mw_730 mw_731 mw_53 (by decide +kernel)
theorem oe_105_135 : okE 105 135 (4, 6, 0, 137) := oi_istore (by decide) (by decide +kernel) rfl
theorem oe_105_137 : okE 105 137 (3, 2, 0, 138) := oi_aload_n (k := 2) (by decide +kernel) rfl rfl
theorem oe_105_138 : okE 105 138 (70, 14, 1, 141) := oi_callV (i := 46) (by decide +kernel) rfl (by decide) (by decide) okm_14 (by decide) (by rfl) mw_725 mw_726 mw_727 mw_53 (by decide +kernel)
theorem oe_105_141 : okE 105 141 (2, 5, 0, 143) := oi_iload (by decide +kernel) rfl
theorem oe_105_143 : okE 105 143 (56, 148, 0, 146) := oi_if_icmpeq (f := 5) (by decide +kernel) (by decide) rfl
theorem oe_105_146 : okE 105 146 (0, 0, 0, 147) := oi_iconst (n := 0) (by decide +kernel) (by decide +kernel) rfl
theorem oe_105_147 : okE 105 147 (80, 2, 0, 0) := oi_ireturnZ (by decide +kernel) rfl
theorem oe_105_148 : okE 105 148 (2, 5, 0, 150) := oi_iload (by decide +kernel) rfl
theorem oe_105_150 : okE 105 150 (51, 165, 0, 153) := oi_ifne (f := 15) (by decide +kernel) (by decide) rfl
theorem oe_105_153 : okE 105 153 (3, 3, 0, 154) := oi_aload_n (k := 3) (by decide +kernel) rfl rfl
theorem oe_105_154 : okE 105 154 (0, 0, 0, 155) := oi_iconst (n := 0) (by decide +kernel) (by decide +kernel) rfl
theorem oe_105_155 : okE 105 155 (35, 0, 0, 156) := oi_lald (by decide +kernel) rfl
theorem oe_105_156 : okE 105 156 (2, 6, 0, 158) := oi_iload (by decide +kernel) rfl
theorem oe_105_158 : okE 105 158 (21, 0, 0, 159) := oi_i2l (by decide +kernel) rfl
theorem oe_105_159 : okE 105 159 (22, 0, 0, 160) := oi_lcmp (by decide +kernel) rfl
theorem oe_105_160 : okE 105 160 (50, 165, 0, 163) := oi_ifeq (f := 5) (by decide +kernel) (by decide) rfl
theorem oe_105_163 : okE 105 163 (0, 0, 0, 164) := oi_iconst (n := 0) (by decide +kernel) (by decide +kernel) rfl
theorem oe_105_164 : okE 105 164 (80, 2, 0, 0) := oi_ireturnZ (by decide +kernel) rfl
theorem oe_105_165 : okE 105 165 (18, 0, 0, 809) := oi_goto (f := 644) (by decide +kernel) (by decide)
theorem oe_105_168 : okE 105 168 (3, 1, 0, 169) := oi_aload_n (k := 1) (by decide +kernel) rfl rfl
theorem oe_105_169 : okE 105 169 (3, 0, 0, 170) := oi_aload_n (k := 0) (by decide +kernel) rfl rfl
theorem oe_105_170 : okE 105 170 (2, 4, 0, 172) := oi_iload (by decide +kernel) rfl
theorem oe_105_172 : okE 105 172 (0, 1, 0, 173) := oi_iconst (n := 1) (by decide +kernel) (by decide +kernel) rfl
theorem oe_105_173 : okE 105 173 (6, 0, 0, 174) := oi_iadd (by decide +kernel) rfl
theorem oe_105_174 : okE 105 174 (37, 0, 0, 175) := oi_ialdS (by decide +kernel) rfl rfl
theorem oe_105_175 : okE 105 175 (3, 0, 0, 176) := oi_aload_n (k := 0) (by decide +kernel) rfl rfl
theorem oe_105_176 : okE 105 176 (2, 4, 0, 178) := oi_iload (by decide +kernel) rfl
theorem oe_105_178 : okE 105 178 (0, 2, 0, 179) := oi_iconst (n := 2) (by decide +kernel) (by decide +kernel) rfl
theorem oe_105_179 : okE 105 179 (6, 0, 0, 180) := oi_iadd (by decide +kernel) rfl
theorem oe_105_180 : okE 105 180 (37, 0, 0, 181) := oi_ialdS (by decide +kernel) rfl rfl
theorem oe_105_181 : okE 105 181 (70, 1, 3, 184) := oi_callV (i := 50) (by decide +kernel) rfl (by decide) (by decide) okm_1 (by decide) (by rfl) mw_229 mw_230 mw_231 mw_47 (by decide +kernel)
theorem oe_105_184 : okE 105 184 (3, 2, 0, 185) := oi_aload_n (k := 2) (by decide +kernel) rfl rfl
theorem oe_105_185 : okE 105 185 (3, 0, 0, 186) := oi_aload_n (k := 0) (by decide +kernel) rfl rfl
theorem oe_105_186 : okE 105 186 (2, 4, 0, 188) := oi_iload (by decide +kernel) rfl
theorem oe_105_188 : okE 105 188 (0, 1, 0, 189) := oi_iconst (n := 1) (by decide +kernel) (by decide +kernel) rfl
theorem oe_105_189 : okE 105 189 (6, 0, 0, 190) := oi_iadd (by decide +kernel) rfl
theorem oe_105_190 : okE 105 190 (37, 0, 0, 191) := oi_ialdS (by decide +kernel) rfl rfl
theorem oe_105_191 : okE 105 191 (3, 0, 0, 192) := oi_aload_n (k := 0) (by decide +kernel) rfl rfl
theorem oe_105_192 : okE 105 192 (2, 4, 0, 194) := oi_iload (by decide +kernel) rfl
theorem oe_105_194 : okE 105 194 (0, 2, 0, 195) := oi_iconst (n := 2) (by decide +kernel) (by decide +kernel) rfl
theorem oe_105_195 : okE 105 195 (6, 0, 0, 196) := oi_iadd (by decide +kernel) rfl
theorem oe_105_196 : okE 105 196 (37, 0, 0, 197) := oi_ialdS (by decide +kernel) rfl rfl
theorem oe_105_197 : okE 105 197 (70, 18, 3, 200) := oi_callV (i := 54) (by decide +kernel) rfl (by decide) (by decide) okm_18 (by decide) (by rfl) mw_737 mw_738 mw_739 mw_53 (by decide +kernel)
theorem oe_105_200 : okE 105 200 (56, 809, 0, 203) := oi_if_icmpeq (f := 609) (by decide +kernel) (by decide) rfl
theorem oe_105_203 : okE 105 203 (0, 0, 0, 204) := oi_iconst (n := 0) (by decide +kernel) (by decide +kernel) rfl
theorem oe_105_204 : okE 105 204 (80, 2, 0, 0) := oi_ireturnZ (by decide +kernel) rfl
theorem oe_105_205 : okE 105 205 (3, 1, 0, 206) := oi_aload_n (k := 1) (by decide +kernel) rfl rfl
theorem oe_105_206 : okE 105 206 (70, 2, 1, 209) := oi_callV (i := 55) (by decide +kernel) rfl (by decide) (by decide) okm_2 (by decide) (by rfl) mw_241 mw_242 mw_243 mw_47 (by decide +kernel)
theorem oe_105_209 : okE 105 209 (3, 2, 0, 210) := oi_aload_n (k := 2) (by decide +kernel) rfl rfl
theorem oe_105_210 : okE 105 210 (70, 21, 1, 213) := oi_callV (i := 58) (by decide +kernel) rfl (by decide) (by decide) okm_21 (by decide) (by rfl) mw_745 mw_746 mw_747 mw_53 (by decide +kernel)
theorem oe_105_213 : okE 105 213 (56, 809, 0, 216) := oi_if_icmpeq (f := 596) (by decide +kernel) (by decide) rfl
theorem oe_105_216 : okE 105 216 (0, 0, 0, 217) := oi_iconst (n := 0) (by decide +kernel) (by decide +kernel) rfl
theorem oe_105_217 : okE 105 217 (80, 2, 0, 0) := oi_ireturnZ (by decide +kernel) rfl
theorem oe_105_218 : okE 105 218 (3, 1, 0, 219) := oi_aload_n (k := 1) (by decide +kernel) rfl rfl
theorem oe_105_219 : okE 105 219 (3, 0, 0, 220) := oi_aload_n (k := 0) (by decide +kernel) rfl rfl
theorem oe_105_220 : okE 105 220 (2, 4, 0, 222) := oi_iload (by decide +kernel) rfl
theorem oe_105_222 : okE 105 222 (0, 1, 0, 223) := oi_iconst (n := 1) (by decide +kernel) (by decide +kernel) rfl
theorem oe_105_223 : okE 105 223 (6, 0, 0, 224) := oi_iadd (by decide +kernel) rfl
theorem oe_105_224 : okE 105 224 (37, 0, 0, 225) := oi_ialdS (by decide +kernel) rfl rfl
theorem oe_105_225 : okE 105 225 (3, 0, 0, 226) := oi_aload_n (k := 0) (by decide +kernel) rfl rfl
theorem oe_105_226 : okE 105 226 (2, 4, 0, 228) := oi_iload (by decide +kernel) rfl
theorem oe_105_228 : okE 105 228 (0, 2, 0, 229) := oi_iconst (n := 2) (by decide +kernel) (by decide +kernel) rfl
theorem oe_105_229 : okE 105 229 (6, 0, 0, 230) := oi_iadd (by decide +kernel) rfl
theorem oe_105_230 : okE 105 230 (37, 0, 0, 231) := oi_ialdS (by decide +kernel) rfl rfl
theorem oe_105_231 : okE 105 231 (3, 0, 0, 232) := oi_aload_n (k := 0) (by decide +kernel) rfl rfl
theorem oe_105_232 : okE 105 232 (2, 4, 0, 234) := oi_iload (by decide +kernel) rfl
theorem oe_105_234 : okE 105 234 (0, 3, 0, 235) := oi_iconst (n := 3) (by decide +kernel) (by decide +kernel) rfl
theorem oe_105_235 : okE 105 235 (6, 0, 0, 236) := oi_iadd (by decide +kernel) rfl
theorem oe_105_236 : okE 105 236 (37, 0, 0, 237) := oi_ialdS (by decide +kernel) rfl rfl
theorem oe_105_237 : okE 105 237 (3, 0, 0, 238) := oi_aload_n (k := 0) (by decide +kernel) rfl rfl
theorem oe_105_238 : okE 105 238 (2, 4, 0, 240) := oi_iload (by decide +kernel) rfl
theorem oe_105_240 : okE 105 240 (0, 4, 0, 241) := oi_iconst (n := 4) (by decide +kernel) (by decide +kernel) rfl
theorem oe_105_241 : okE 105 241 (6, 0, 0, 242) := oi_iadd (by decide +kernel) rfl
theorem oe_105_242 : okE 105 242 (37, 0, 0, 243) := oi_ialdS (by decide +kernel) rfl rfl
theorem oe_105_243 : okE 105 243 (3, 3, 0, 244) := oi_aload_n (k := 3) (by decide +kernel) rfl rfl
theorem oe_105_244 : okE 105 244 (91, 0, 0, 247) := trivial
theorem oe_105_247 : okE 105 247 (4, 5, 0, 249) := oi_istore (by decide) (by decide +kernel) rfl
theorem oe_105_249 : okE 105 249 (3, 2, 0, 250) := oi_aload_n (k := 2) (by decide +kernel) rfl rfl
theorem oe_105_250 : okE 105 250 (3, 0, 0, 251) := oi_aload_n (k := 0) (by decide +kernel) rfl rfl
theorem oe_105_251 : okE 105 251 (2, 4, 0, 253) := oi_iload (by decide +kernel) rfl
theorem oe_105_253 : okE 105 253 (0, 1, 0, 254) := oi_iconst (n := 1) (by decide +kernel) (by decide +kernel) rfl
theorem oe_105_254 : okE 105 254 (6, 0, 0, 255) := oi_iadd (by decide +kernel) rfl
theorem oe_105_255 : okE 105 255 (37, 0, 0, 256) := oi_ialdS (by decide +kernel) rfl rfl
theorem oe_105_256 : okE 105 256 (3, 0, 0, 257) := oi_aload_n (k := 0) (by decide +kernel) rfl rfl
theorem oe_105_257 : okE 105 257 (2, 4, 0, 259) := oi_iload (by decide +kernel) rfl
theorem oe_105_259 : okE 105 259 (0, 2, 0, 260) := oi_iconst (n := 2) (by decide +kernel) (by decide +kernel) rfl
theorem oe_105_260 : okE 105 260 (6, 0, 0, 261) := oi_iadd (by decide +kernel) rfl
theorem oe_105_261 : okE 105 261 (37, 0, 0, 262) := oi_ialdS (by decide +kernel) rfl rfl
theorem oe_105_262 : okE 105 262 (3, 0, 0, 263) := oi_aload_n (k := 0) (by decide +kernel) rfl rfl
theorem oe_105_263 : okE 105 263 (2, 4, 0, 265) := oi_iload (by decide +kernel) rfl
theorem oe_105_265 : okE 105 265 (0, 3, 0, 266) := oi_iconst (n := 3) (by decide +kernel) (by decide +kernel) rfl
theorem oe_105_266 : okE 105 266 (6, 0, 0, 267) := oi_iadd (by decide +kernel) rfl
theorem oe_105_267 : okE 105 267 (37, 0, 0, 268) := oi_ialdS (by decide +kernel) rfl rfl
theorem oe_105_268 : okE 105 268 (3, 0, 0, 269) := oi_aload_n (k := 0) (by decide +kernel) rfl rfl
theorem oe_105_269 : okE 105 269 (2, 4, 0, 271) := oi_iload (by decide +kernel) rfl
theorem oe_105_271 : okE 105 271 (0, 4, 0, 272) := oi_iconst (n := 4) (by decide +kernel) (by decide +kernel) rfl
theorem oe_105_272 : okE 105 272 (6, 0, 0, 273) := oi_iadd (by decide +kernel) rfl
theorem oe_105_273 : okE 105 273 (37, 0, 0, 274) := oi_ialdS (by decide +kernel) rfl rfl
theorem oe_105_274 : okE 105 274 (70, 25, 5, 277) := oi_callV (i := 62) (by decide +kernel) rfl (by decide) (by decide) okm_25 (by decide) (by rfl) mw_749 mw_750 mw_751 mw_53 (by decide +kernel)
theorem oe_105_277 : okE 105 277 (4, 6, 0, 279) := oi_istore (by decide) (by decide +kernel) rfl
theorem oe_105_279 : okE 105 279 (3, 2, 0, 280) := oi_aload_n (k := 2) (by decide +kernel) rfl rfl
theorem oe_105_280 : okE 105 280 (70, 14, 1, 283) := oi_callV (i := 46) (by decide +kernel) rfl (by decide) (by decide) okm_14 (by decide) (by rfl) mw_725 mw_726 mw_727 mw_53 (by decide +kernel)
theorem oe_105_283 : okE 105 283 (2, 5, 0, 285) := oi_iload (by decide +kernel) rfl
theorem oe_105_285 : okE 105 285 (56, 290, 0, 288) := oi_if_icmpeq (f := 5) (by decide +kernel) (by decide) rfl
theorem oe_105_288 : okE 105 288 (0, 0, 0, 289) := oi_iconst (n := 0) (by decide +kernel) (by decide +kernel) rfl
theorem oe_105_289 : okE 105 289 (80, 2, 0, 0) := oi_ireturnZ (by decide +kernel) rfl
theorem oe_105_290 : okE 105 290 (2, 5, 0, 292) := oi_iload (by decide +kernel) rfl
theorem oe_105_292 : okE 105 292 (51, 307, 0, 295) := oi_ifne (f := 15) (by decide +kernel) (by decide) rfl
theorem oe_105_295 : okE 105 295 (3, 3, 0, 296) := oi_aload_n (k := 3) (by decide +kernel) rfl rfl
theorem oe_105_296 : okE 105 296 (0, 0, 0, 297) := oi_iconst (n := 0) (by decide +kernel) (by decide +kernel) rfl
theorem oe_105_297 : okE 105 297 (35, 0, 0, 298) := oi_lald (by decide +kernel) rfl
theorem oe_105_298 : okE 105 298 (2, 6, 0, 300) := oi_iload (by decide +kernel) rfl
theorem oe_105_300 : okE 105 300 (21, 0, 0, 301) := oi_i2l (by decide +kernel) rfl
theorem oe_105_301 : okE 105 301 (22, 0, 0, 302) := oi_lcmp (by decide +kernel) rfl
theorem oe_105_302 : okE 105 302 (50, 307, 0, 305) := oi_ifeq (f := 5) (by decide +kernel) (by decide) rfl
theorem oe_105_305 : okE 105 305 (0, 0, 0, 306) := oi_iconst (n := 0) (by decide +kernel) (by decide +kernel) rfl
theorem oe_105_306 : okE 105 306 (80, 2, 0, 0) := oi_ireturnZ (by decide +kernel) rfl
theorem oe_105_307 : okE 105 307 (18, 0, 0, 809) := oi_goto (f := 502) (by decide +kernel) (by decide)
theorem oe_105_310 : okE 105 310 (3, 1, 0, 311) := oi_aload_n (k := 1) (by decide +kernel) rfl rfl
theorem oe_105_311 : okE 105 311 (3, 0, 0, 312) := oi_aload_n (k := 0) (by decide +kernel) rfl rfl
theorem oe_105_312 : okE 105 312 (2, 4, 0, 314) := oi_iload (by decide +kernel) rfl
theorem oe_105_314 : okE 105 314 (0, 1, 0, 315) := oi_iconst (n := 1) (by decide +kernel) (by decide +kernel) rfl
theorem oe_105_315 : okE 105 315 (6, 0, 0, 316) := oi_iadd (by decide +kernel) rfl
theorem oe_105_316 : okE 105 316 (37, 0, 0, 317) := oi_ialdS (by decide +kernel) rfl rfl
theorem oe_105_317 : okE 105 317 (3, 0, 0, 318) := oi_aload_n (k := 0) (by decide +kernel) rfl rfl
theorem oe_105_318 : okE 105 318 (2, 4, 0, 320) := oi_iload (by decide +kernel) rfl
theorem oe_105_320 : okE 105 320 (0, 2, 0, 321) := oi_iconst (n := 2) (by decide +kernel) (by decide +kernel) rfl
theorem oe_105_321 : okE 105 321 (6, 0, 0, 322) := oi_iadd (by decide +kernel) rfl
theorem oe_105_322 : okE 105 322 (37, 0, 0, 323) := oi_ialdS (by decide +kernel) rfl rfl
theorem oe_105_323 : okE 105 323 (3, 0, 0, 324) := oi_aload_n (k := 0) (by decide +kernel) rfl rfl
theorem oe_105_324 : okE 105 324 (2, 4, 0, 326) := oi_iload (by decide +kernel) rfl
theorem oe_105_326 : okE 105 326 (0, 3, 0, 327) := oi_iconst (n := 3) (by decide +kernel) (by decide +kernel) rfl
theorem oe_105_327 : okE 105 327 (6, 0, 0, 328) := oi_iadd (by decide +kernel) rfl
theorem oe_105_328 : okE 105 328 (37, 0, 0, 329) := oi_ialdS (by decide +kernel) rfl rfl
theorem oe_105_329 : okE 105 329 (3, 0, 0, 330) := oi_aload_n (k := 0) (by decide +kernel) rfl rfl
theorem oe_105_330 : okE 105 330 (2, 4, 0, 332) := oi_iload (by decide +kernel) rfl
theorem oe_105_332 : okE 105 332 (0, 4, 0, 333) := oi_iconst (n := 4) (by decide +kernel) (by decide +kernel) rfl
theorem oe_105_333 : okE 105 333 (6, 0, 0, 334) := oi_iadd (by decide +kernel) rfl
theorem oe_105_334 : okE 105 334 (37, 0, 0, 335) := oi_ialdS (by decide +kernel) rfl rfl
theorem oe_105_335 : okE 105 335 (3, 0, 0, 336) := oi_aload_n (k := 0) (by decide +kernel) rfl rfl
theorem oe_105_336 : okE 105 336 (2, 4, 0, 338) := oi_iload (by decide +kernel) rfl
theorem oe_105_338 : okE 105 338 (0, 5, 0, 339) := oi_iconst (n := 5) (by decide +kernel) (by decide +kernel) rfl
theorem oe_105_339 : okE 105 339 (6, 0, 0, 340) := oi_iadd (by decide +kernel) rfl
theorem oe_105_340 : okE 105 340 (37, 0, 0, 341) := oi_ialdS (by decide +kernel) rfl rfl
theorem oe_105_341 : okE 105 341 (3, 3, 0, 342) := oi_aload_n (k := 3) (by decide +kernel) rfl rfl
theorem oe_105_342 : okE 105 342 (91, 0, 0, 345) := trivial
theorem oe_105_345 : okE 105 345 (4, 5, 0, 347) := oi_istore (by decide) (by decide +kernel) rfl
theorem oe_105_347 : okE 105 347 (3, 2, 0, 348) := oi_aload_n (k := 2) (by decide +kernel) rfl rfl
theorem oe_105_348 : okE 105 348 (3, 0, 0, 349) := oi_aload_n (k := 0) (by decide +kernel) rfl rfl
theorem oe_105_349 : okE 105 349 (2, 4, 0, 351) := oi_iload (by decide +kernel) rfl
theorem oe_105_351 : okE 105 351 (0, 1, 0, 352) := oi_iconst (n := 1) (by decide +kernel) (by decide +kernel) rfl
theorem oe_105_352 : okE 105 352 (6, 0, 0, 353) := oi_iadd (by decide +kernel) rfl
theorem oe_105_353 : okE 105 353 (37, 0, 0, 354) := oi_ialdS (by decide +kernel) rfl rfl
theorem oe_105_354 : okE 105 354 (3, 0, 0, 355) := oi_aload_n (k := 0) (by decide +kernel) rfl rfl
theorem oe_105_355 : okE 105 355 (2, 4, 0, 357) := oi_iload (by decide +kernel) rfl
theorem oe_105_357 : okE 105 357 (0, 2, 0, 358) := oi_iconst (n := 2) (by decide +kernel) (by decide +kernel) rfl
theorem oe_105_358 : okE 105 358 (6, 0, 0, 359) := oi_iadd (by decide +kernel) rfl
theorem oe_105_359 : okE 105 359 (37, 0, 0, 360) := oi_ialdS (by decide +kernel) rfl rfl
theorem oe_105_360 : okE 105 360 (3, 0, 0, 361) := oi_aload_n (k := 0) (by decide +kernel) rfl rfl
theorem oe_105_361 : okE 105 361 (2, 4, 0, 363) := oi_iload (by decide +kernel) rfl
theorem oe_105_363 : okE 105 363 (0, 3, 0, 364) := oi_iconst (n := 3) (by decide +kernel) (by decide +kernel) rfl
theorem oe_105_364 : okE 105 364 (6, 0, 0, 365) := oi_iadd (by decide +kernel) rfl
end
section
theorem oe_105_365 : okE 105 365 (37, 0, 0, 366) := oi_ialdS (by decide +kernel) rfl rfl
theorem oe_105_366 : okE 105 366 (3, 0, 0, 367) := oi_aload_n (k := 0) (by decide +kernel) rfl rfl
theorem oe_105_367 : okE 105 367 (2, 4, 0, 369) := oi_iload (by decide +kernel) rfl
theorem oe_105_369 : okE 105 369 (0, 4, 0, 370) := oi_iconst (n := 4) (by decide +kernel) (by decide +kernel) rfl
theorem oe_105_370 : okE 105 370 (6, 0, 0, 371) := oi_iadd (by decide +kernel) rfl
theorem oe_105_371 : okE 105 371 (37, 0, 0, 372) := oi_ialdS (by decide +kernel) rfl rfl
theorem oe_105_372 : okE 105 372 (3, 0, 0, 373) := oi_aload_n (k := 0) (by decide +kernel) rfl rfl
theorem oe_105_373 : okE 105 373 (2, 4, 0, 375) := oi_iload (by decide +kernel) rfl
theorem oe_105_375 : okE 105 375 (0, 5, 0, 376) := oi_iconst (n := 5) (by decide +kernel) (by decide +kernel) rfl
theorem oe_105_376 : okE 105 376 (6, 0, 0, 377) := oi_iadd (by decide +kernel) rfl
theorem oe_105_377 : okE 105 377 (37, 0, 0, 378) := oi_ialdS (by decide +kernel) rfl rfl
theorem oe_105_378 : okE 105 378 (70, 26, 6, 381) := oi_callV (i := 66) (by decide +kernel) rfl (by decide) (by decide) okm_26 (by decide) (by rfl) mw_768 mw_769 mw_770 mw_53 (by decide +kernel)
theorem oe_105_381 : okE 105 381 (4, 6, 0, 383) := oi_istore (by decide) (by decide +kernel) rfl
theorem oe_105_383 : okE 105 383 (3, 2, 0, 384) := oi_aload_n (k := 2) (by decide +kernel) rfl rfl
theorem oe_105_384 : okE 105 384 (70, 14, 1, 387) := oi_callV (i := 46) (by decide +kernel) rfl (by decide) (by decide) okm_14 (by decide) (by rfl) mw_725 mw_726 mw_727 mw_53 (by decide +kernel)
theorem oe_105_387 : okE 105 387 (2, 5, 0, 389) := oi_iload (by decide +kernel) rfl
theorem oe_105_389 : okE 105 389 (56, 394, 0, 392) := oi_if_icmpeq (f := 5) (by decide +kernel) (by decide) rfl
theorem oe_105_392 : okE 105 392 (0, 0, 0, 393) := oi_iconst (n := 0) (by decide +kernel) (by decide +kernel) rfl
theorem oe_105_393 : okE 105 393 (80, 2, 0, 0) := oi_ireturnZ (by decide +kernel) rfl
theorem oe_105_394 : okE 105 394 (2, 5, 0, 396) := oi_iload (by decide +kernel) rfl
theorem oe_105_396 : okE 105 396 (51, 411, 0, 399) := oi_ifne (f := 15) (by decide +kernel) (by decide) rfl
theorem oe_105_399 : okE 105 399 (3, 3, 0, 400) := oi_aload_n (k := 3) (by decide +kernel) rfl rfl
theorem oe_105_400 : okE 105 400 (0, 0, 0, 401) := oi_iconst (n := 0) (by decide +kernel) (by decide +kernel) rfl
theorem oe_105_401 : okE 105 401 (35, 0, 0, 402) := oi_lald (by decide +kernel) rfl
theorem oe_105_402 : okE 105 402 (2, 6, 0, 404) := oi_iload (by decide +kernel) rfl
theorem oe_105_404 : okE 105 404 (21, 0, 0, 405) := oi_i2l (by decide +kernel) rfl
theorem oe_105_405 : okE 105 405 (22, 0, 0, 406) := oi_lcmp (by decide +kernel) rfl
theorem oe_105_406 : okE 105 406 (50, 411, 0, 409) := oi_ifeq (f := 5) (by decide +kernel) (by decide) rfl
theorem oe_105_409 : okE 105 409 (0, 0, 0, 410) := oi_iconst (n := 0) (by decide +kernel) (by decide +kernel) rfl
theorem oe_105_410 : okE 105 410 (80, 2, 0, 0) := oi_ireturnZ (by decide +kernel) rfl
theorem oe_105_411 : okE 105 411 (18, 0, 0, 809) := oi_goto (f := 398) (by decide +kernel) (by decide)
theorem oe_105_414 : okE 105 414 (3, 1, 0, 415) := oi_aload_n (k := 1) (by decide +kernel) rfl rfl
theorem oe_105_415 : okE 105 415 (3, 0, 0, 416) := oi_aload_n (k := 0) (by decide +kernel) rfl rfl
theorem oe_105_416 : okE 105 416 (2, 4, 0, 418) := oi_iload (by decide +kernel) rfl
theorem oe_105_418 : okE 105 418 (0, 1, 0, 419) := oi_iconst (n := 1) (by decide +kernel) (by decide +kernel) rfl
theorem oe_105_419 : okE 105 419 (6, 0, 0, 420) := oi_iadd (by decide +kernel) rfl
theorem oe_105_420 : okE 105 420 (37, 0, 0, 421) := oi_ialdS (by decide +kernel) rfl rfl
theorem oe_105_421 : okE 105 421 (3, 0, 0, 422) := oi_aload_n (k := 0) (by decide +kernel) rfl rfl
theorem oe_105_422 : okE 105 422 (2, 4, 0, 424) := oi_iload (by decide +kernel) rfl
theorem oe_105_424 : okE 105 424 (0, 2, 0, 425) := oi_iconst (n := 2) (by decide +kernel) (by decide +kernel) rfl
theorem oe_105_425 : okE 105 425 (6, 0, 0, 426) := oi_iadd (by decide +kernel) rfl
theorem oe_105_426 : okE 105 426 (37, 0, 0, 427) := oi_ialdS (by decide +kernel) rfl rfl
theorem oe_105_427 : okE 105 427 (3, 0, 0, 428) := oi_aload_n (k := 0) (by decide +kernel) rfl rfl
theorem oe_105_428 : okE 105 428 (2, 4, 0, 430) := oi_iload (by decide +kernel) rfl
theorem oe_105_430 : okE 105 430 (0, 3, 0, 431) := oi_iconst (n := 3) (by decide +kernel) (by decide +kernel) rfl
theorem oe_105_431 : okE 105 431 (6, 0, 0, 432) := oi_iadd (by decide +kernel) rfl
theorem oe_105_432 : okE 105 432 (37, 0, 0, 433) := oi_ialdS (by decide +kernel) rfl rfl
theorem oe_105_433 : okE 105 433 (3, 0, 0, 434) := oi_aload_n (k := 0) (by decide +kernel) rfl rfl
theorem oe_105_434 : okE 105 434 (2, 4, 0, 436) := oi_iload (by decide +kernel) rfl
theorem oe_105_436 : okE 105 436 (0, 4, 0, 437) := oi_iconst (n := 4) (by decide +kernel) (by decide +kernel) rfl
theorem oe_105_437 : okE 105 437 (6, 0, 0, 438) := oi_iadd (by decide +kernel) rfl
theorem oe_105_438 : okE 105 438 (37, 0, 0, 439) := oi_ialdS (by decide +kernel) rfl rfl
theorem oe_105_439 : okE 105 439 (3, 0, 0, 440) := oi_aload_n (k := 0) (by decide +kernel) rfl rfl
theorem oe_105_440 : okE 105 440 (2, 4, 0, 442) := oi_iload (by decide +kernel) rfl
theorem oe_105_442 : okE 105 442 (0, 5, 0, 443) := oi_iconst (n := 5) (by decide +kernel) (by decide +kernel) rfl
theorem oe_105_443 : okE 105 443 (6, 0, 0, 444) := oi_iadd (by decide +kernel) rfl
theorem oe_105_444 : okE 105 444 (37, 0, 0, 445) := oi_ialdS (by decide +kernel) rfl rfl
theorem oe_105_445 : okE 105 445 (3, 3, 0, 446) := oi_aload_n (k := 3) (by decide +kernel) rfl rfl
theorem oe_105_446 : okE 105 446 (91, 0, 0, 449) := trivial
theorem oe_105_449 : okE 105 449 (4, 5, 0, 451) := oi_istore (by decide) (by decide +kernel) rfl
theorem oe_105_451 : okE 105 451 (3, 2, 0, 452) := oi_aload_n (k := 2) (by decide +kernel) rfl rfl
theorem oe_105_452 : okE 105 452 (3, 0, 0, 453) := oi_aload_n (k := 0) (by decide +kernel) rfl rfl
theorem oe_105_453 : okE 105 453 (2, 4, 0, 455) := oi_iload (by decide +kernel) rfl
theorem oe_105_455 : okE 105 455 (0, 1, 0, 456) := oi_iconst (n := 1) (by decide +kernel) (by decide +kernel) rfl
theorem oe_105_456 : okE 105 456 (6, 0, 0, 457) := oi_iadd (by decide +kernel) rfl
theorem oe_105_457 : okE 105 457 (37, 0, 0, 458) := oi_ialdS (by decide +kernel) rfl rfl
theorem oe_105_458 : okE 105 458 (3, 0, 0, 459) := oi_aload_n (k := 0) (by decide +kernel) rfl rfl
theorem oe_105_459 : okE 105 459 (2, 4, 0, 461) := oi_iload (by decide +kernel) rfl
theorem oe_105_461 : okE 105 461 (0, 2, 0, 462) := oi_iconst (n := 2) (by decide +kernel) (by decide +kernel) rfl
theorem oe_105_462 : okE 105 462 (6, 0, 0, 463) := oi_iadd (by decide +kernel) rfl
theorem oe_105_463 : okE 105 463 (37, 0, 0, 464) := oi_ialdS (by decide +kernel) rfl rfl
theorem oe_105_464 : okE 105 464 (3, 0, 0, 465) := oi_aload_n (k := 0) (by decide +kernel) rfl rfl
theorem oe_105_465 : okE 105 465 (2, 4, 0, 467) := oi_iload (by decide +kernel) rfl
theorem oe_105_467 : okE 105 467 (0, 3, 0, 468) := oi_iconst (n := 3) (by decide +kernel) (by decide +kernel) rfl
theorem oe_105_468 : okE 105 468 (6, 0, 0, 469) := oi_iadd (by decide +kernel) rfl
theorem oe_105_469 : okE 105 469 (37, 0, 0, 470) := oi_ialdS (by decide +kernel) rfl rfl
theorem oe_105_470 : okE 105 470 (3, 0, 0, 471) := oi_aload_n (k := 0) (by decide +kernel) rfl rfl
theorem oe_105_471 : okE 105 471 (2, 4, 0, 473) := oi_iload (by decide +kernel) rfl
theorem oe_105_473 : okE 105 473 (0, 4, 0, 474) := oi_iconst (n := 4) (by decide +kernel) (by decide +kernel) rfl
theorem oe_105_474 : okE 105 474 (6, 0, 0, 475) := oi_iadd (by decide +kernel) rfl
theorem oe_105_475 : okE 105 475 (37, 0, 0, 476) := oi_ialdS (by decide +kernel) rfl rfl
theorem oe_105_476 : okE 105 476 (3, 0, 0, 477) := oi_aload_n (k := 0) (by decide +kernel) rfl rfl
theorem oe_105_477 : okE 105 477 (2, 4, 0, 479) := oi_iload (by decide +kernel) rfl
theorem oe_105_479 : okE 105 479 (0, 5, 0, 480) := oi_iconst (n := 5) (by decide +kernel) (by decide +kernel) rfl
theorem oe_105_480 : okE 105 480 (6, 0, 0, 481) := oi_iadd (by decide +kernel) rfl
theorem oe_105_481 : okE 105 481 (37, 0, 0, 482) := oi_ialdS (by decide +kernel) rfl rfl
theorem oe_105_482 : okE 105 482 (70, 27, 6, 485) := oi_callV (i := 69) (by decide +kernel) rfl (by decide) (by decide) okm_27 (by decide) (by rfl) mw_772 mw_773 mw_774 mw_53 (by decide +kernel)
theorem oe_105_485 : okE 105 485 (4, 6, 0, 487) := oi_istore (by decide) (by decide +kernel) rfl
theorem oe_105_487 : okE 105 487 (3, 2, 0, 488) := oi_aload_n (k := 2) (by decide +kernel) rfl rfl
theorem oe_105_488 : okE 105 488 (70, 14, 1, 491) := oi_callV (i := 46) (by decide +kernel) rfl (by decide) (by decide) okm_14 (by decide) (by rfl) mw_725 mw_726 mw_727 mw_53 (by decide +kernel)
theorem oe_105_491 : okE 105 491 (2, 5, 0, 493) := oi_iload (by decide +kernel) rfl
theorem oe_105_493 : okE 105 493 (56, 498, 0, 496) := oi_if_icmpeq (f := 5) (by decide +kernel) (by decide) rfl
theorem oe_105_496 : okE 105 496 (0, 0, 0, 497) := oi_iconst (n := 0) (by decide +kernel) (by decide +kernel) rfl
theorem oe_105_497 : okE 105 497 (80, 2, 0, 0) := oi_ireturnZ (by decide +kernel) rfl
theorem oe_105_498 : okE 105 498 (2, 5, 0, 500) := oi_iload (by decide +kernel) rfl
theorem oe_105_500 : okE 105 500 (51, 515, 0, 503) := oi_ifne (f := 15) (by decide +kernel) (by decide) rfl
theorem oe_105_503 : okE 105 503 (3, 3, 0, 504) := oi_aload_n (k := 3) (by decide +kernel) rfl rfl
theorem oe_105_504 : okE 105 504 (0, 0, 0, 505) := oi_iconst (n := 0) (by decide +kernel) (by decide +kernel) rfl
theorem oe_105_505 : okE 105 505 (35, 0, 0, 506) := oi_lald (by decide +kernel) rfl
theorem oe_105_506 : okE 105 506 (2, 6, 0, 508) := oi_iload (by decide +kernel) rfl
theorem oe_105_508 : okE 105 508 (21, 0, 0, 509) := oi_i2l (by decide +kernel) rfl
theorem oe_105_509 : okE 105 509 (22, 0, 0, 510) := oi_lcmp (by decide +kernel) rfl
theorem oe_105_510 : okE 105 510 (50, 515, 0, 513) := oi_ifeq (f := 5) (by decide +kernel) (by decide) rfl
theorem oe_105_513 : okE 105 513 (0, 0, 0, 514) := oi_iconst (n := 0) (by decide +kernel) (by decide +kernel) rfl
theorem oe_105_514 : okE 105 514 (80, 2, 0, 0) := oi_ireturnZ (by decide +kernel) rfl
theorem oe_105_515 : okE 105 515 (18, 0, 0, 809) := oi_goto (f := 294) (by decide +kernel) (by decide)
theorem oe_105_518 : okE 105 518 (3, 1, 0, 519) := oi_aload_n (k := 1) (by decide +kernel) rfl rfl
theorem oe_105_519 : okE 105 519 (3, 0, 0, 520) := oi_aload_n (k := 0) (by decide +kernel) rfl rfl
theorem oe_105_520 : okE 105 520 (2, 4, 0, 522) := oi_iload (by decide +kernel) rfl
theorem oe_105_522 : okE 105 522 (0, 1, 0, 523) := oi_iconst (n := 1) (by decide +kernel) (by decide +kernel) rfl
theorem oe_105_523 : okE 105 523 (6, 0, 0, 524) := oi_iadd (by decide +kernel) rfl
theorem oe_105_524 : okE 105 524 (37, 0, 0, 525) := oi_ialdS (by decide +kernel) rfl rfl
theorem oe_105_525 : okE 105 525 (70, 6, 2, 528) := oi_callV (i := 70) (by decide +kernel) rfl (by decide) (by decide) okm_6 (by decide) (by rfl) mw_253 mw_254 mw_255 mw_47 (by decide +kernel)
theorem oe_105_528 : okE 105 528 (3, 2, 0, 529) := oi_aload_n (k := 2) (by decide +kernel) rfl rfl
theorem oe_105_529 : okE 105 529 (3, 0, 0, 530) := oi_aload_n (k := 0) (by decide +kernel) rfl rfl
theorem oe_105_530 : okE 105 530 (2, 4, 0, 532) := oi_iload (by decide +kernel) rfl
theorem oe_105_532 : okE 105 532 (0, 1, 0, 533) := oi_iconst (n := 1) (by decide +kernel) (by decide +kernel) rfl
theorem oe_105_533 : okE 105 533 (6, 0, 0, 534) := oi_iadd (by decide +kernel) rfl
theorem oe_105_534 : okE 105 534 (37, 0, 0, 535) := oi_ialdS (by decide +kernel) rfl rfl
theorem oe_105_535 : okE 105 535 (70, 35, 2, 538) := oi_callV (i := 73) (by decide +kernel) rfl (by decide) (by decide) okm_35 (by decide) (by rfl) mw_780 mw_781 mw_782 mw_53 (by decide +kernel)
theorem oe_105_538 : okE 105 538 (56, 809, 0, 541) := oi_if_icmpeq (f := 271) (by decide +kernel) (by decide) rfl
theorem oe_105_541 : okE 105 541 (0, 0, 0, 542) := oi_iconst (n := 0) (by decide +kernel) (by decide +kernel) rfl
theorem oe_105_542 : okE 105 542 (80, 2, 0, 0) := oi_ireturnZ (by decide +kernel) rfl
theorem oe_105_543 : okE 105 543 (3, 1, 0, 544) := oi_aload_n (k := 1) (by decide +kernel) rfl rfl
theorem oe_105_544 : okE 105 544 (3, 0, 0, 545) := oi_aload_n (k := 0) (by decide +kernel) rfl rfl
theorem oe_105_545 : okE 105 545 (2, 4, 0, 547) := oi_iload (by decide +kernel) rfl
theorem oe_105_547 : okE 105 547 (0, 1, 0, 548) := oi_iconst (n := 1) (by decide +kernel) (by decide +kernel) rfl
theorem oe_105_548 : okE 105 548 (6, 0, 0, 549) := oi_iadd (by decide +kernel) rfl
theorem oe_105_549 : okE 105 549 (37, 0, 0, 550) := oi_ialdS (by decide +kernel) rfl rfl
theorem oe_105_550 : okE 105 550 (3, 0, 0, 551) := oi_aload_n (k := 0) (by decide +kernel) rfl rfl
theorem oe_105_551 : okE 105 551 (2, 4, 0, 553) := oi_iload (by decide +kernel) rfl
theorem oe_105_553 : okE 105 553 (0, 2, 0, 554) := oi_iconst (n := 2) (by decide +kernel) (by decide +kernel) rfl
theorem oe_105_554 : okE 105 554 (6, 0, 0, 555) := oi_iadd (by decide +kernel) rfl
theorem oe_105_555 : okE 105 555 (37, 0, 0, 556) := oi_ialdS (by decide +kernel) rfl rfl
theorem oe_105_556 : okE 105 556 (70, 7, 3, 559) := oi_callV (i := 74) (by decide +kernel) rfl (by decide) (by decide) okm_7 (by decide) (by rfl) mw_319 mw_320 mw_321 mw_47 (by decide +kernel)
theorem oe_105_559 : okE 105 559 (3, 2, 0, 560) := oi_aload_n (k := 2) (by decide +kernel) rfl rfl
theorem oe_105_560 : okE 105 560 (3, 0, 0, 561) := oi_aload_n (k := 0) (by decide +kernel) rfl rfl
theorem oe_105_561 : okE 105 561 (2, 4, 0, 563) := oi_iload (by decide +kernel) rfl
theorem oe_105_563 : okE 105 563 (0, 1, 0, 564) := oi_iconst (n := 1) (by decide +kernel) (by decide +kernel) rfl
theorem oe_105_564 : okE 105 564 (6, 0, 0, 565) := oi_iadd (by decide +kernel) rfl
theorem oe_105_565 : okE 105 565 (37, 0, 0, 566) := oi_ialdS (by decide +kernel) rfl rfl
theorem oe_105_566 : okE 105 566 (3, 0, 0, 567) := oi_aload_n (k := 0) (by decide +kernel) rfl rfl
theorem oe_105_567 : okE 105 567 (2, 4, 0, 569) := oi_iload (by decide +kernel) rfl
theorem oe_105_569 : okE 105 569 (0, 2, 0, 570) := oi_iconst (n := 2) (by decide +kernel) (by decide +kernel) rfl
theorem oe_105_570 : okE 105 570 (6, 0, 0, 571) := oi_iadd (by decide +kernel) rfl
theorem oe_105_571 : okE 105 571 (37, 0, 0, 572) := oi_ialdS (by decide +kernel) rfl rfl
theorem oe_105_572 : okE 105 572 (70, 36, 3, 575) := oi_callV (i := 78) (by decide +kernel) rfl (by decide) (by decide) okm_36 (by decide) (by rfl) mw_809 mw_810 mw_811 mw_53 (by decide +kernel)
theorem oe_105_575 : okE 105 575 (56, 809, 0, 578) := oi_if_icmpeq (f := 234) (by decide +kernel) (by decide) rfl
theorem oe_105_578 : okE 105 578 (0, 0, 0, 579) := oi_iconst (n := 0) (by decide +kernel) (by decide +kernel) rfl
theorem oe_105_579 : okE 105 579 (80, 2, 0, 0) := oi_ireturnZ (by decide +kernel) rfl
theorem oe_105_580 : okE 105 580 (3, 1, 0, 581) := oi_aload_n (k := 1) (by decide +kernel) rfl rfl
theorem oe_105_581 : okE 105 581 (3, 0, 0, 582) := oi_aload_n (k := 0) (by decide +kernel) rfl rfl
theorem oe_105_582 : okE 105 582 (2, 4, 0, 584) := oi_iload (by decide +kernel) rfl
theorem oe_105_584 : okE 105 584 (0, 1, 0, 585) := oi_iconst (n := 1) (by decide +kernel) (by decide +kernel) rfl
theorem oe_105_585 : okE 105 585 (6, 0, 0, 586) := oi_iadd (by decide +kernel) rfl
theorem oe_105_586 : okE 105 586 (37, 0, 0, 587) := oi_ialdS (by decide +kernel) rfl rfl
theorem oe_105_587 : okE 105 587 (3, 0, 0, 588) := oi_aload_n (k := 0) (by decide +kernel) rfl rfl
theorem oe_105_588 : okE 105 588 (2, 4, 0, 590) := oi_iload (by decide +kernel) rfl
theorem oe_105_590 : okE 105 590 (0, 2, 0, 591) := oi_iconst (n := 2) (by decide +kernel) (by decide +kernel) rfl
theorem oe_105_591 : okE 105 591 (6, 0, 0, 592) := oi_iadd (by decide +kernel) rfl
theorem oe_105_592 : okE 105 592 (37, 0, 0, 593) := oi_ialdS (by decide +kernel) rfl rfl
theorem oe_105_593 : okE 105 593 (70, 8, 3, 596) := oi_callV (i := 79) (by decide +kernel) rfl (by decide) (by decide) okm_8 (by decide) (by rfl) mw_332 mw_333 mw_334 mw_47 (by decide +kernel)
theorem oe_105_596 : okE 105 596 (3, 2, 0, 597) := oi_aload_n (k := 2) (by decide +kernel) rfl rfl
theorem oe_105_597 : okE 105 597 (3, 0, 0, 598) := oi_aload_n (k := 0) (by decide +kernel) rfl rfl
theorem oe_105_598 : okE 105 598 (2, 4, 0, 600) := oi_iload (by decide +kernel) rfl
theorem oe_105_600 : okE 105 600 (0, 1, 0, 601) := oi_iconst (n := 1) (by decide +kernel) (by decide +kernel) rfl
theorem oe_105_601 : okE 105 601 (6, 0, 0, 602) := oi_iadd (by decide +kernel) rfl
theorem oe_105_602 : okE 105 602 (37, 0, 0, 603) := oi_ialdS (by decide +kernel) rfl rfl
theorem oe_105_603 : okE 105 603 (3, 0, 0, 604) := oi_aload_n (k := 0) (by decide +kernel) rfl rfl
theorem oe_105_604 : okE 105 604 (2, 4, 0, 606) := oi_iload (by decide +kernel) rfl
theorem oe_105_606 : okE 105 606 (0, 2, 0, 607) := oi_iconst (n := 2) (by decide +kernel) (by decide +kernel) rfl
theorem oe_105_607 : okE 105 607 (6, 0, 0, 608) := oi_iadd (by decide +kernel) rfl
theorem oe_105_608 : okE 105 608 (37, 0, 0, 609) := oi_ialdS (by decide +kernel) rfl rfl
theorem oe_105_609 : okE 105 609 (70, 37, 3, 612) := oi_callV (i := 82) (by decide +kernel) rfl (by decide) (by decide) okm_37 (by decide) (by rfl) mw_817 mw_818 mw_819 mw_53 (by decide +kernel)
theorem oe_105_612 : okE 105 612 (56, 809, 0, 615) := oi_if_icmpeq (f := 197) (by decide +kernel) (by decide) rfl
theorem oe_105_615 : okE 105 615 (0, 0, 0, 616) := oi_iconst (n := 0) (by decide +kernel) (by decide +kernel) rfl
theorem oe_105_616 : okE 105 616 (80, 2, 0, 0) := oi_ireturnZ (by decide +kernel) rfl
theorem oe_105_617 : okE 105 617 (3, 1, 0, 618) := oi_aload_n (k := 1) (by decide +kernel) rfl rfl
theorem oe_105_618 : okE 105 618 (3, 0, 0, 619) := oi_aload_n (k := 0) (by decide +kernel) rfl rfl
theorem oe_105_619 : okE 105 619 (2, 4, 0, 621) := oi_iload (by decide +kernel) rfl
theorem oe_105_621 : okE 105 621 (0, 1, 0, 622) := oi_iconst (n := 1) (by decide +kernel) (by decide +kernel) rfl
theorem oe_105_622 : okE 105 622 (6, 0, 0, 623) := oi_iadd (by decide +kernel) rfl
theorem oe_105_623 : okE 105 623 (37, 0, 0, 624) := oi_ialdS (by decide +kernel) rfl rfl
theorem oe_105_624 : okE 105 624 (3, 0, 0, 625) := oi_aload_n (k := 0) (by decide +kernel) rfl rfl
theorem oe_105_625 : okE 105 625 (2, 4, 0, 627) := oi_iload (by decide +kernel) rfl
theorem oe_105_627 : okE 105 627 (0, 2, 0, 628) := oi_iconst (n := 2) (by decide +kernel) (by decide +kernel) rfl
theorem oe_105_628 : okE 105 628 (6, 0, 0, 629) := oi_iadd (by decide +kernel) rfl
theorem oe_105_629 : okE 105 629 (37, 0, 0, 630) := oi_ialdS (by decide +kernel) rfl rfl
theorem oe_105_630 : okE 105 630 (70, 9, 3, 633) := oi_callV (i := 83) (by decide +kernel) rfl (by decide) (by decide) okm_9 (by decide) (by rfl) mw_341 mw_342 mw_343 mw_47 (by decide +kernel)
theorem oe_105_633 : okE 105 633 (3, 2, 0, 634) := oi_aload_n (k := 2) (by decide +kernel) rfl rfl
theorem oe_105_634 : okE 105 634 (3, 0, 0, 635) := oi_aload_n (k := 0) (by decide +kernel) rfl rfl
theorem oe_105_635 : okE 105 635 (2, 4, 0, 637) := oi_iload (by decide +kernel) rfl
theorem oe_105_637 : okE 105 637 (0, 1, 0, 638) := oi_iconst (n := 1) (by decide +kernel) (by decide +kernel) rfl
theorem oe_105_638 : okE 105 638 (6, 0, 0, 639) := oi_iadd (by decide +kernel) rfl
theorem oe_105_639 : okE 105 639 (37, 0, 0, 640) := oi_ialdS (by decide +kernel) rfl rfl
theorem oe_105_640 : okE 105 640 (3, 0, 0, 641) := oi_aload_n (k := 0) (by decide +kernel) rfl rfl
theorem oe_105_641 : okE 105 641 (2, 4, 0, 643) := oi_iload (by decide +kernel) rfl
theorem oe_105_643 : okE 105 643 (0, 2, 0, 644) := oi_iconst (n := 2) (by decide +kernel) (by decide +kernel) rfl
theorem oe_105_644 : okE 105 644 (6, 0, 0, 645) := oi_iadd (by decide +kernel) rfl
theorem oe_105_645 : okE 105 645 (37, 0, 0, 646) := oi_ialdS (by decide +kernel) rfl rfl
theorem oe_105_646 : okE 105 646 (70, 39, 3, 649) := oi_callV (i := 86) (by decide +kernel) rfl (by decide) (by decide) okm_39 (by decide) (by rfl) mw_821 mw_822 mw_823 mw_53 (by decide +kernel)
theorem oe_105_649 : okE 105 649 (56, 809, 0, 652) := oi_if_icmpeq (f := 160) (by decide +kernel) (by decide) rfl
theorem oe_105_652 : okE 105 652 (0, 0, 0, 653) := oi_iconst (n := 0) (by decide +kernel) (by decide +kernel) rfl
theorem oe_105_653 : okE 105 653 (80, 2, 0, 0) := oi_ireturnZ (by decide +kernel) rfl
theorem oe_105_654 : okE 105 654 (3, 1, 0, 655) := oi_aload_n (k := 1) (by decide +kernel) rfl rfl
theorem oe_105_655 : okE 105 655 (3, 0, 0, 656) := oi_aload_n (k := 0) (by decide +kernel) rfl rfl
theorem oe_105_656 : okE 105 656 (2, 4, 0, 658) := oi_iload (by decide +kernel) rfl
theorem oe_105_658 : okE 105 658 (0, 1, 0, 659) := oi_iconst (n := 1) (by decide +kernel) (by decide +kernel) rfl
theorem oe_105_659 : okE 105 659 (6, 0, 0, 660) := oi_iadd (by decide +kernel) rfl
theorem oe_105_660 : okE 105 660 (37, 0, 0, 661) := oi_ialdS (by decide +kernel) rfl rfl
theorem oe_105_661 : okE 105 661 (3, 0, 0, 662) := oi_aload_n (k := 0) (by decide +kernel) rfl rfl
theorem oe_105_662 : okE 105 662 (2, 4, 0, 664) := oi_iload (by decide +kernel) rfl
theorem oe_105_664 : okE 105 664 (0, 2, 0, 665) := oi_iconst (n := 2) (by decide +kernel) (by decide +kernel) rfl
theorem oe_105_665 : okE 105 665 (6, 0, 0, 666) := oi_iadd (by decide +kernel) rfl
theorem oe_105_666 : okE 105 666 (37, 0, 0, 667) := oi_ialdS (by decide +kernel) rfl rfl
theorem oe_105_667 : okE 105 667 (3, 0, 0, 668) := oi_aload_n (k := 0) (by decide +kernel) rfl rfl
theorem oe_105_668 : okE 105 668 (2, 4, 0, 670) := oi_iload (by decide +kernel) rfl
theorem oe_105_670 : okE 105 670 (0, 3, 0, 671) := oi_iconst (n := 3) (by decide +kernel) (by decide +kernel) rfl
theorem oe_105_671 : okE 105 671 (6, 0, 0, 672) := oi_iadd (by decide +kernel) rfl
theorem oe_105_672 : okE 105 672 (37, 0, 0, 673) := oi_ialdS (by decide +kernel) rfl rfl
theorem oe_105_673 : okE 105 673 (70, 10, 4, 676) := oi_callV (i := 87) (by decide +kernel) rfl (by decide) (by decide) okm_10 (by decide) (by rfl) mw_359 mw_360 mw_361 mw_47 (by decide +kernel)
theorem oe_105_676 : okE 105 676 (3, 2, 0, 677) := oi_aload_n (k := 2) (by decide +kernel) rfl rfl
theorem oe_105_677 : okE 105 677 (3, 0, 0, 678) := oi_aload_n (k := 0) (by decide +kernel) rfl rfl
theorem oe_105_678 : okE 105 678 (2, 4, 0, 680) := oi_iload (by decide +kernel) rfl
theorem oe_105_680 : okE 105 680 (0, 1, 0, 681) := oi_iconst (n := 1) (by decide +kernel) (by decide +kernel) rfl
theorem oe_105_681 : okE 105 681 (6, 0, 0, 682) := oi_iadd (by decide +kernel) rfl
theorem oe_105_682 : okE 105 682 (37, 0, 0, 683) := oi_ialdS (by decide +kernel) rfl rfl
theorem oe_105_683 : okE 105 683 (3, 0, 0, 684) := oi_aload_n (k := 0) (by decide +kernel) rfl rfl
theorem oe_105_684 : okE 105 684 (2, 4, 0, 686) := oi_iload (by decide +kernel) rfl
theorem oe_105_686 : okE 105 686 (0, 2, 0, 687) := oi_iconst (n := 2) (by decide +kernel) (by decide +kernel) rfl
theorem oe_105_687 : okE 105 687 (6, 0, 0, 688) := oi_iadd (by decide +kernel) rfl
theorem oe_105_688 : okE 105 688 (37, 0, 0, 689) := oi_ialdS (by decide +kernel) rfl rfl
theorem oe_105_689 : okE 105 689 (3, 0, 0, 690) := oi_aload_n (k := 0) (by decide +kernel) rfl rfl
theorem oe_105_690 : okE 105 690 (2, 4, 0, 692) := oi_iload (by decide +kernel) rfl
theorem oe_105_692 : okE 105 692 (0, 3, 0, 693) := oi_iconst (n := 3) (by decide +kernel) (by decide +kernel) rfl
theorem oe_105_693 : okE 105 693 (6, 0, 0, 694) := oi_iadd (by decide +kernel) rfl
theorem oe_105_694 : okE 105 694 (37, 0, 0, 695) := oi_ialdS (by decide +kernel) rfl rfl
theorem oe_105_695 : okE 105 695 (70, 41, 4, 698) := oi_callV (i := 90) (by decide +kernel) rfl (by decide) (by decide) okm_41 (by decide) (by rfl) mw_829 mw_830 mw_831 mw_53 (by decide +kernel)
theorem oe_105_698 : okE 105 698 (56, 809, 0, 701) := oi_if_icmpeq (f := 111) (by decide +kernel) (by decide) rfl
theorem oe_105_701 : okE 105 701 (0, 0, 0, 702) := oi_iconst (n := 0) (by decide +kernel) (by decide +kernel) rfl
theorem oe_105_702 : okE 105 702 (80, 2, 0, 0) := oi_ireturnZ (by decide +kernel) rfl
theorem oe_105_703 : okE 105 703 (3, 1, 0, 704) := oi_aload_n (k := 1) (by decide +kernel) rfl rfl
theorem oe_105_704 : okE 105 704 (3, 0, 0, 705) := oi_aload_n (k := 0) (by decide +kernel) rfl rfl
theorem oe_105_705 : okE 105 705 (2, 4, 0, 707) := oi_iload (by decide +kernel) rfl
theorem oe_105_707 : okE 105 707 (0, 1, 0, 708) := oi_iconst (n := 1) (by decide +kernel) (by decide +kernel) rfl
theorem oe_105_708 : okE 105 708 (6, 0, 0, 709) := oi_iadd (by decide +kernel) rfl
theorem oe_105_709 : okE 105 709 (37, 0, 0, 710) := oi_ialdS (by decide +kernel) rfl rfl
theorem oe_105_710 : okE 105 710 (3, 0, 0, 711) := oi_aload_n (k := 0) (by decide +kernel) rfl rfl
theorem oe_105_711 : okE 105 711 (2, 4, 0, 713) := oi_iload (by decide +kernel) rfl
theorem oe_105_713 : okE 105 713 (0, 2, 0, 714) := oi_iconst (n := 2) (by decide +kernel) (by decide +kernel) rfl
theorem oe_105_714 : okE 105 714 (6, 0, 0, 715) := oi_iadd (by decide +kernel) rfl
theorem oe_105_715 : okE 105 715 (37, 0, 0, 716) := oi_ialdS (by decide +kernel) rfl rfl
theorem oe_105_716 : okE 105 716 (3, 0, 0, 717) := oi_aload_n (k := 0) (by decide +kernel) rfl rfl
theorem oe_105_717 : okE 105 717 (2, 4, 0, 719) := oi_iload (by decide +kernel) rfl
theorem oe_105_719 : okE 105 719 (0, 3, 0, 720) := oi_iconst (n := 3) (by decide +kernel) (by decide +kernel) rfl
theorem oe_105_720 : okE 105 720 (6, 0, 0, 721) := oi_iadd (by decide +kernel) rfl
theorem oe_105_721 : okE 105 721 (37, 0, 0, 722) := oi_ialdS (by decide +kernel) rfl rfl
theorem oe_105_722 : okE 105 722 (3, 3, 0, 723) := oi_aload_n (k := 3) (by decide +kernel) rfl rfl
theorem oe_105_723 : okE 105 723 (91, 0, 0, 726) := trivial
theorem oe_105_726 : okE 105 726 (4, 5, 0, 728) := oi_istore (by decide) (by decide +kernel) rfl
theorem oe_105_728 : okE 105 728 (3, 2, 0, 729) := oi_aload_n (k := 2) (by decide +kernel) rfl rfl
theorem oe_105_729 : okE 105 729 (3, 0, 0, 730) := oi_aload_n (k := 0) (by decide +kernel) rfl rfl
theorem oe_105_730 : okE 105 730 (2, 4, 0, 732) := oi_iload (by decide +kernel) rfl
theorem oe_105_732 : okE 105 732 (0, 1, 0, 733) := oi_iconst (n := 1) (by decide +kernel) (by decide +kernel) rfl
theorem oe_105_733 : okE 105 733 (6, 0, 0, 734) := oi_iadd (by decide +kernel) rfl
theorem oe_105_734 : okE 105 734 (37, 0, 0, 735) := oi_ialdS (by decide +kernel) rfl rfl
theorem oe_105_735 : okE 105 735 (3, 0, 0, 736) := oi_aload_n (k := 0) (by decide +kernel) rfl rfl
theorem oe_105_736 : okE 105 736 (2, 4, 0, 738) := oi_iload (by decide +kernel) rfl
theorem oe_105_738 : okE 105 738 (0, 2, 0, 739) := oi_iconst (n := 2) (by decide +kernel) (by decide +kernel) rfl
theorem oe_105_739 : okE 105 739 (6, 0, 0, 740) := oi_iadd (by decide +kernel) rfl
theorem oe_105_740 : okE 105 740 (37, 0, 0, 741) := oi_ialdS (by decide +kernel) rfl rfl
theorem oe_105_741 : okE 105 741 (3, 0, 0, 742) := oi_aload_n (k := 0) (by decide +kernel) rfl rfl
theorem oe_105_742 : okE 105 742 (2, 4, 0, 744) := oi_iload (by decide +kernel) rfl
theorem oe_105_744 : okE 105 744 (0, 3, 0, 745) := oi_iconst (n := 3) (by decide +kernel) (by decide +kernel) rfl
theorem oe_105_745 : okE 105 745 (6, 0, 0, 746) := oi_iadd (by decide +kernel) rfl
theorem oe_105_746 : okE 105 746 (37, 0, 0, 747) := oi_ialdS (by decide +kernel) rfl rfl
theorem oe_105_747 : okE 105 747 (70, 49, 4, 750) := oi_callV (i := 94) (by decide +kernel) rfl (by decide) (by decide) okm_49 (by decide) (by rfl) mw_837 mw_838 mw_839 mw_53 (by decide +kernel)
theorem oe_105_750 : okE 105 750 (4, 6, 0, 752) := oi_istore (by decide) (by decide +kernel) rfl
theorem oe_105_752 : okE 105 752 (3, 2, 0, 753) := oi_aload_n (k := 2) (by decide +kernel) rfl rfl
theorem oe_105_753 : okE 105 753 (70, 14, 1, 756) := oi_callV (i := 46) (by decide +kernel) rfl (by decide) (by decide) okm_14 (by decide) (by rfl) mw_725 mw_726 mw_727 mw_53 (by decide +kernel)
theorem oe_105_756 : okE 105 756 (2, 5, 0, 758) := oi_iload (by decide +kernel) rfl
theorem oe_105_758 : okE 105 758 (56, 763, 0, 761) := oi_if_icmpeq (f := 5) (by decide +kernel) (by decide) rfl
theorem oe_105_761 : okE 105 761 (0, 0, 0, 762) := oi_iconst (n := 0) (by decide +kernel) (by decide +kernel) rfl
theorem oe_105_762 : okE 105 762 (80, 2, 0, 0) := oi_ireturnZ (by decide +kernel) rfl
theorem oe_105_763 : okE 105 763 (2, 5, 0, 765) := oi_iload (by decide +kernel) rfl
theorem oe_105_765 : okE 105 765 (51, 780, 0, 768) := oi_ifne (f := 15) (by decide +kernel) (by decide) rfl
theorem oe_105_768 : okE 105 768 (3, 3, 0, 769) := oi_aload_n (k := 3) (by decide +kernel) rfl rfl
theorem oe_105_769 : okE 105 769 (0, 0, 0, 770) := oi_iconst (n := 0) (by decide +kernel) (by decide +kernel) rfl
theorem oe_105_770 : okE 105 770 (35, 0, 0, 771) := oi_lald (by decide +kernel) rfl
theorem oe_105_771 : okE 105 771 (2, 6, 0, 773) := oi_iload (by decide +kernel) rfl
theorem oe_105_773 : okE 105 773 (21, 0, 0, 774) := oi_i2l (by decide +kernel) rfl
theorem oe_105_774 : okE 105 774 (22, 0, 0, 775) := oi_lcmp (by decide +kernel) rfl
theorem oe_105_775 : okE 105 775 (50, 780, 0, 778) := oi_ifeq (f := 5) (by decide +kernel) (by decide) rfl
theorem oe_105_778 : okE 105 778 (0, 0, 0, 779) := oi_iconst (n := 0) (by decide +kernel) (by decide +kernel) rfl
theorem oe_105_779 : okE 105 779 (80, 2, 0, 0) := oi_ireturnZ (by decide +kernel) rfl
theorem oe_105_780 : okE 105 780 (18, 0, 0, 809) := oi_goto (f := 29) (by decide +kernel) (by decide)
theorem oe_105_783 : okE 105 783 (3, 1, 0, 784) := oi_aload_n (k := 1) (by decide +kernel) rfl rfl
theorem oe_105_784 : okE 105 784 (70, 12, 1, 787) := oi_callV (i := 95) (by decide +kernel) rfl (by decide) (by decide) okm_12 (by decide) (by rfl) mw_367 mw_368 mw_369 mw_47 (by decide +kernel)
theorem oe_105_787 : okE 105 787 (3, 2, 0, 788) := oi_aload_n (k := 2) (by decide +kernel) rfl rfl
theorem oe_105_788 : okE 105 788 (70, 50, 1, 791) := oi_callV (i := 98) (by decide +kernel) rfl (by decide) (by decide) okm_50 (by decide) (by rfl) mw_869 mw_870 mw_871 mw_53 (by decide +kernel)
theorem oe_105_791 : okE 105 791 (56, 809, 0, 794) := oi_if_icmpeq (f := 18) (by decide +kernel) (by decide) rfl
theorem oe_105_794 : okE 105 794 (0, 0, 0, 795) := oi_iconst (n := 0) (by decide +kernel) (by decide +kernel) rfl
theorem oe_105_795 : okE 105 795 (80, 2, 0, 0) := oi_ireturnZ (by decide +kernel) rfl
theorem oe_105_796 : okE 105 796 (3, 1, 0, 797) := oi_aload_n (k := 1) (by decide +kernel) rfl rfl
theorem oe_105_797 : okE 105 797 (70, 13, 1, 800) := oi_callV (i := 99) (by decide +kernel) rfl (by decide) (by decide) okm_13 (by decide) (by rfl) mw_371 mw_372 mw_373 mw_47 (by decide +kernel)
theorem oe_105_800 : okE 105 800 (3, 2, 0, 801) := oi_aload_n (k := 2) (by decide +kernel) rfl rfl
theorem oe_105_801 : okE 105 801 (70, 51, 1, 804) := oi_callV (i := 102) (by decide +kernel) rfl (by decide) (by decide) okm_51 (by decide) (by rfl) mw_873 mw_874 mw_875 mw_53 (by decide +kernel)
theorem oe_105_804 : okE 105 804 (56, 809, 0, 807) := oi_if_icmpeq (f := 5) (by decide +kernel) (by decide) rfl
theorem oe_105_807 : okE 105 807 (0, 0, 0, 808) := oi_iconst (n := 0) (by decide +kernel) (by decide +kernel) rfl
theorem oe_105_808 : okE 105 808 (80, 2, 0, 0) := oi_ireturnZ (by decide +kernel) rfl
theorem oe_105_809 : okE 105 809 (19, 4, 6, 812) := oi_iinc (n := 6) (by decide) (by decide +kernel) (by decide +kernel) rfl
theorem oe_105_812 : okE 105 812 (18, 0, 0, 23) := oi_goto (f := -789) (by decide +kernel) (by decide)
theorem oe_105_815 : okE 105 815 (0, 1, 0, 816) := oi_iconst (n := 1) (by decide +kernel) (by decide +kernel) rfl
theorem oe_105_816 : okE 105 816 (80, 2, 0, 0) := oi_ireturnZ (by decide +kernel) rfl
set_option maxRecDepth 20000 in
theorem ok_105 : ∀ pc e, k_105 pc = some e → okE 105 pc e := tn_ (tn_ (tn_ (tn_ (tn_ (tn_ (tn_ (tn_ (tl_ (oe_105_20)) (tn_ (tl_ (oe_105_21)) (tl_ (oe_105_23)))) (tn_ (tn_ (tl_ (oe_105_25)) (tl_ (oe_105_26))) (tn_ (tl_ (oe_105_27)) (tl_ (oe_105_29))))) (tn_ (tn_ (tn_ (tl_ (oe_105_30)) (tl_ (oe_105_33))) (tn_ (tl_ (oe_105_34)) (tl_ (oe_105_36)))) (tn_ (tn_ (tl_ (oe_105_37)) (tl_ (oe_105_39))) (tn_ (tl_ (oe_105_40)) (tl_ (oe_105_112)))))) (tn_ (tn_ (tn_ (tn_ (tl_ (oe_105_113)) (tl_ (oe_105_114))) (tn_ (tl_ (oe_105_116)) (tl_ (oe_105_117)))) (tn_ (tn_ (tl_ (oe_105_118)) (tl_ (oe_105_119))) (tn_ (tl_ (oe_105_120)) (tl_ (oe_105_123))))) (tn_ (tn_ (tn_ (tl_ (oe_105_125)) (tl_ (oe_105_126))) (tn_ (tl_ (oe_105_127)) (tl_ (oe_105_129)))) (tn_ (tn_ (tl_ (oe_105_130)) (tl_ (oe_105_131))) (tn_ (tl_ (oe_105_132)) (tl_ (oe_105_135))))))) (tn_ (tn_ (tn_ (tn_ (tn_ (tl_ (oe_105_137)) (tl_ (oe_105_138))) (tn_ (tl_ (oe_105_141)) (tl_ (oe_105_143)))) (tn_ (tn_ (tl_ (oe_105_146)) (tl_ (oe_105_147))) (tn_ (tl_ (oe_105_148)) (tl_ (oe_105_150))))) (tn_ (tn_ (tn_ (tl_ (oe_105_153)) (tl_ (oe_105_154))) (tn_ (tl_ (oe_105_155)) (tl_ (oe_105_156)))) (tn_ (tn_ (tl_ (oe_105_158)) (tl_ (oe_105_159))) (tn_ (tl_ (oe_105_160)) (tl_ (oe_105_163)))))) (tn_ (tn_ (tn_ (tn_ (tl_ (oe_105_164)) (tl_ (oe_105_165))) (tn_ (tl_ (oe_105_168)) (tl_ (oe_105_169)))) (tn_ (tn_ (tl_ (oe_105_170)) (tl_ (oe_105_172))) (tn_ (tl_ (oe_105_173)) (tl_ (oe_105_174))))) (tn_ (tn_ (tn_ (tl_ (oe_105_175)) (tl_ (oe_105_176))) (tn_ (tl_ (oe_105_178)) (tl_ (oe_105_179)))) (tn_ (tn_ (tl_ (oe_105_180)) (tl_ (oe_105_181))) (tn_ (tl_ (oe_105_184)) (tl_ (oe_105_185)))))))) (tn_ (tn_ (tn_ (tn_ (tn_ (tl_ (oe_105_186)) (tn_ (tl_ (oe_105_188)) (tl_ (oe_105_189)))) (tn_ (tn_ (tl_ (oe_105_190)) (tl_ (oe_105_191))) (tn_ (tl_ (oe_105_192)) (tl_ (oe_105_194))))) (tn_ (tn_ (tn_ (tl_ (oe_105_195)) (tl_ (oe_105_196))) (tn_ (tl_ (oe_105_197)) (tl_ (oe_105_200)))) (tn_ (tn_ (tl_ (oe_105_203)) (tl_ (oe_105_204))) (tn_ (tl_ (oe_105_205)) (tl_ (oe_105_206)))))) (tn_ (tn_ (tn_ (tn_ (tl_ (oe_105_209)) (tl_ (oe_105_210))) (tn_ (tl_ (oe_105_213)) (tl_ (oe_105_216)))) (tn_ (tn_ (tl_ (oe_105_217)) (tl_ (oe_105_218))) (tn_ (tl_ (oe_105_219)) (tl_ (oe_105_220))))) (tn_ (tn_ (tn_ (tl_ (oe_105_222)) (tl_ (oe_105_223))) (tn_ (tl_ (oe_105_224)) (tl_ (oe_105_225)))) (tn_ (tn_ (tl_ (oe_105_226)) (tl_ (oe_105_228))) (tn_ (tl_ (oe_105_229)) (tl_ (oe_105_230))))))) (tn_ (tn_ (tn_ (tn_ (tn_ (tl_ (oe_105_231)) (tl_ (oe_105_232))) (tn_ (tl_ (oe_105_234)) (tl_ (oe_105_235)))) (tn_ (tn_ (tl_ (oe_105_236)) (tl_ (oe_105_237))) (tn_ (tl_ (oe_105_238)) (tl_ (oe_105_240))))) (tn_ (tn_ (tn_ (tl_ (oe_105_241)) (tl_ (oe_105_242))) (tn_ (tl_ (oe_105_243)) (tl_ (oe_105_244)))) (tn_ (tn_ (tl_ (oe_105_247)) (tl_ (oe_105_249))) (tn_ (tl_ (oe_105_250)) (tl_ (oe_105_251)))))) (tn_ (tn_ (tn_ (tn_ (tl_ (oe_105_253)) (tl_ (oe_105_254))) (tn_ (tl_ (oe_105_255)) (tl_ (oe_105_256)))) (tn_ (tn_ (tl_ (oe_105_257)) (tl_ (oe_105_259))) (tn_ (tl_ (oe_105_260)) (tl_ (oe_105_261))))) (tn_ (tn_ (tn_ (tl_ (oe_105_262)) (tl_ (oe_105_263))) (tn_ (tl_ (oe_105_265)) (tl_ (oe_105_266)))) (tn_ (tn_ (tl_ (oe_105_267)) (tl_ (oe_105_268))) (tn_ (tl_ (oe_105_269)) (tl_ (oe_105_271))))))))) (tn_ (tn_ (tn_ (tn_ (tn_ (tn_ (tl_ (oe_105_272)) (tn_ (tl_ (oe_105_273)) (tl_ (oe_105_274)))) (tn_ (tn_ (tl_ (oe_105_277)) (tl_ (oe_105_279))) (tn_ (tl_ (oe_105_280)) (tl_ (oe_105_283))))) (tn_ (tn_ (tn_ (tl_ (oe_105_285)) (tl_ (oe_105_288))) (tn_ (tl_ (oe_105_289)) (tl_ (oe_105_290)))) (tn_ (tn_ (tl_ (oe_105_292)) (tl_ (oe_105_295))) (tn_ (tl_ (oe_105_296)) (tl_ (oe_105_297)))))) (tn_ (tn_ (tn_ (tn_ (tl_ (oe_105_298)) (tl_ (oe_105_300))) (tn_ (tl_ (oe_105_301)) (tl_ (oe_105_302)))) (tn_ (tn_ (tl_ (oe_105_305)) (tl_ (oe_105_306))) (tn_ (tl_ (oe_105_307)) (tl_ (oe_105_310))))) (tn_ (tn_ (tn_ (tl_ (oe_105_311)) (tl_ (oe_105_312))) (tn_ (tl_ (oe_105_314)) (tl_ (oe_105_315)))) (tn_ (tn_ (tl_ (oe_105_316)) (tl_ (oe_105_317))) (tn_ (tl_ (oe_105_318)) (tl_ (oe_105_320))))))) (tn_ (tn_ (tn_ (tn_ (tn_ (tl_ (oe_105_321)) (tl_ (oe_105_322))) (tn_ (tl_ (oe_105_323)) (tl_ (oe_105_324)))) (tn_ (tn_ (tl_ (oe_105_326)) (tl_ (oe_105_327))) (tn_ (tl_ (oe_105_328)) (tl_ (oe_105_329))))) (tn_ (tn_ (tn_ (tl_ (oe_105_330)) (tl_ (oe_105_332))) (tn_ (tl_ (oe_105_333)) (tl_ (oe_105_334)))) (tn_ (tn_ (tl_ (oe_105_335)) (tl_ (oe_105_336))) (tn_ (tl_ (oe_105_338)) (tl_ (oe_105_339)))))) (tn_ (tn_ (tn_ (tn_ (tl_ (oe_105_340)) (tl_ (oe_105_341))) (tn_ (tl_ (oe_105_342)) (tl_ (oe_105_345)))) (tn_ (tn_ (tl_ (oe_105_347)) (tl_ (oe_105_348))) (tn_ (tl_ (oe_105_349)) (tl_ (oe_105_351))))) (tn_ (tn_ (tn_ (tl_ (oe_105_352)) (tl_ (oe_105_353))) (tn_ (tl_ (oe_105_354)) (tl_ (oe_105_355)))) (tn_ (tn_ (tl_ (oe_105_357)) (tl_ (oe_105_358))) (tn_ (tl_ (oe_105_359)) (tl_ (oe_105_360)))))))) (tn_ (tn_ (tn_ (tn_ (tn_ (tn_ (tl_ (oe_105_361)) (tl_ (oe_105_363))) (tn_ (tl_ (oe_105_364)) (tl_ (oe_105_365)))) (tn_ (tn_ (tl_ (oe_105_366)) (tl_ (oe_105_367))) (tn_ (tl_ (oe_105_369)) (tl_ (oe_105_370))))) (tn_ (tn_ (tn_ (tl_ (oe_105_371)) (tl_ (oe_105_372))) (tn_ (tl_ (oe_105_373)) (tl_ (oe_105_375)))) (tn_ (tn_ (tl_ (oe_105_376)) (tl_ (oe_105_377))) (tn_ (tl_ (oe_105_378)) (tl_ (oe_105_381)))))) (tn_ (tn_ (tn_ (tn_ (tl_ (oe_105_383)) (tl_ (oe_105_384))) (tn_ (tl_ (oe_105_387)) (tl_ (oe_105_389)))) (tn_ (tn_ (tl_ (oe_105_392)) (tl_ (oe_105_393))) (tn_ (tl_ (oe_105_394)) (tl_ (oe_105_396))))) (tn_ (tn_ (tn_ (tl_ (oe_105_399)) (tl_ (oe_105_400))) (tn_ (tl_ (oe_105_401)) (tl_ (oe_105_402)))) (tn_ (tn_ (tl_ (oe_105_404)) (tl_ (oe_105_405))) (tn_ (tl_ (oe_105_406)) (tl_ (oe_105_409))))))) (tn_ (tn_ (tn_ (tn_ (tn_ (tl_ (oe_105_410)) (tl_ (oe_105_411))) (tn_ (tl_ (oe_105_414)) (tl_ (oe_105_415)))) (tn_ (tn_ (tl_ (oe_105_416)) (tl_ (oe_105_418))) (tn_ (tl_ (oe_105_419)) (tl_ (oe_105_420))))) (tn_ (tn_ (tn_ (tl_ (oe_105_421)) (tl_ (oe_105_422))) (tn_ (tl_ (oe_105_424)) (tl_ (oe_105_425)))) (tn_ (tn_ (tl_ (oe_105_426)) (tl_ (oe_105_427))) (tn_ (tl_ (oe_105_428)) (tl_ (oe_105_430)))))) (tn_ (tn_ (tn_ (tn_ (tl_ (oe_105_431)) (tl_ (oe_105_432))) (tn_ (tl_ (oe_105_433)) (tl_ (oe_105_434)))) (tn_ (tn_ (tl_ (oe_105_436)) (tl_ (oe_105_437))) (tn_ (tl_ (oe_105_438)) (tl_ (oe_105_439))))) (tn_ (tn_ (tn_ (tl_ (oe_105_440)) (tl_ (oe_105_442))) (tn_ (tl_ (oe_105_443)) (tl_ (oe_105_444)))) (tn_ (tn_ (tl_ (oe_105_445)) (tl_ (oe_105_446))) (tn_ (tl_ (oe_105_449)) (tl_ (oe_105_451)))))))))) (tn_ (tn_ (tn_ (tn_ (tn_ (tn_ (tn_ (tl_ (oe_105_452)) (tn_ (tl_ (oe_105_453)) (tl_ (oe_105_455)))) (tn_ (tn_ (tl_ (oe_105_456)) (tl_ (oe_105_457))) (tn_ (tl_ (oe_105_458)) (tl_ (oe_105_459))))) (tn_ (tn_ (tn_ (tl_ (oe_105_461)) (tl_ (oe_105_462))) (tn_ (tl_ (oe_105_463)) (tl_ (oe_105_464)))) (tn_ (tn_ (tl_ (oe_105_465)) (tl_ (oe_105_467))) (tn_ (tl_ (oe_105_468)) (tl_ (oe_105_469)))))) (tn_ (tn_ (tn_ (tn_ (tl_ (oe_105_470)) (tl_ (oe_105_471))) (tn_ (tl_ (oe_105_473)) (tl_ (oe_105_474)))) (tn_ (tn_ (tl_ (oe_105_475)) (tl_ (oe_105_476))) (tn_ (tl_ (oe_105_477)) (tl_ (oe_105_479))))) (tn_ (tn_ (tn_ (tl_ (oe_105_480)) (tl_ (oe_105_481))) (tn_ (tl_ (oe_105_482)) (tl_ (oe_105_485)))) (tn_ (tn_ (tl_ (oe_105_487)) (tl_ (oe_105_488))) (tn_ (tl_ (oe_105_491)) (tl_ (oe_105_493))))))) (tn_ (tn_ (tn_ (tn_ (tn_ (tl_ (oe_105_496)) (tl_ (oe_105_497))) (tn_ (tl_ (oe_105_498)) (tl_ (oe_105_500)))) (tn_ (tn_ (tl_ (oe_105_503)) (tl_ (oe_105_504))) (tn_ (tl_ (oe_105_505)) (tl_ (oe_105_506))))) (tn_ (tn_ (tn_ (tl_ (oe_105_508)) (tl_ (oe_105_509))) (tn_ (tl_ (oe_105_510)) (tl_ (oe_105_513)))) (tn_ (tn_ (tl_ (oe_105_514)) (tl_ (oe_105_515))) (tn_ (tl_ (oe_105_518)) (tl_ (oe_105_519)))))) (tn_ (tn_ (tn_ (tn_ (tl_ (oe_105_520)) (tl_ (oe_105_522))) (tn_ (tl_ (oe_105_523)) (tl_ (oe_105_524)))) (tn_ (tn_ (tl_ (oe_105_525)) (tl_ (oe_105_528))) (tn_ (tl_ (oe_105_529)) (tl_ (oe_105_530))))) (tn_ (tn_ (tn_ (tl_ (oe_105_532)) (tl_ (oe_105_533))) (tn_ (tl_ (oe_105_534)) (tl_ (oe_105_535)))) (tn_ (tn_ (tl_ (oe_105_538)) (tl_ (oe_105_541))) (tn_ (tl_ (oe_105_542)) (tl_ (oe_105_543)))))))) (tn_ (tn_ (tn_ (tn_ (tn_ (tl_ (oe_105_544)) (tn_ (tl_ (oe_105_545)) (tl_ (oe_105_547)))) (tn_ (tn_ (tl_ (oe_105_548)) (tl_ (oe_105_549))) (tn_ (tl_ (oe_105_550)) (tl_ (oe_105_551))))) (tn_ (tn_ (tn_ (tl_ (oe_105_553)) (tl_ (oe_105_554))) (tn_ (tl_ (oe_105_555)) (tl_ (oe_105_556)))) (tn_ (tn_ (tl_ (oe_105_559)) (tl_ (oe_105_560))) (tn_ (tl_ (oe_105_561)) (tl_ (oe_105_563)))))) (tn_ (tn_ (tn_ (tn_ (tl_ (oe_105_564)) (tl_ (oe_105_565))) (tn_ (tl_ (oe_105_566)) (tl_ (oe_105_567)))) (tn_ (tn_ (tl_ (oe_105_569)) (tl_ (oe_105_570))) (tn_ (tl_ (oe_105_571)) (tl_ (oe_105_572))))) (tn_ (tn_ (tn_ (tl_ (oe_105_575)) (tl_ (oe_105_578))) (tn_ (tl_ (oe_105_579)) (tl_ (oe_105_580)))) (tn_ (tn_ (tl_ (oe_105_581)) (tl_ (oe_105_582))) (tn_ (tl_ (oe_105_584)) (tl_ (oe_105_585))))))) (tn_ (tn_ (tn_ (tn_ (tn_ (tl_ (oe_105_586)) (tl_ (oe_105_587))) (tn_ (tl_ (oe_105_588)) (tl_ (oe_105_590)))) (tn_ (tn_ (tl_ (oe_105_591)) (tl_ (oe_105_592))) (tn_ (tl_ (oe_105_593)) (tl_ (oe_105_596))))) (tn_ (tn_ (tn_ (tl_ (oe_105_597)) (tl_ (oe_105_598))) (tn_ (tl_ (oe_105_600)) (tl_ (oe_105_601)))) (tn_ (tn_ (tl_ (oe_105_602)) (tl_ (oe_105_603))) (tn_ (tl_ (oe_105_604)) (tl_ (oe_105_606)))))) (tn_ (tn_ (tn_ (tn_ (tl_ (oe_105_607)) (tl_ (oe_105_608))) (tn_ (tl_ (oe_105_609)) (tl_ (oe_105_612)))) (tn_ (tn_ (tl_ (oe_105_615)) (tl_ (oe_105_616))) (tn_ (tl_ (oe_105_617)) (tl_ (oe_105_618))))) (tn_ (tn_ (tn_ (tl_ (oe_105_619)) (tl_ (oe_105_621))) (tn_ (tl_ (oe_105_622)) (tl_ (oe_105_623)))) (tn_ (tn_ (tl_ (oe_105_624)) (tl_ (oe_105_625))) (tn_ (tl_ (oe_105_627)) (tl_ (oe_105_628))))))))) (tn_ (tn_ (tn_ (tn_ (tn_ (tn_ (tl_ (oe_105_629)) (tn_ (tl_ (oe_105_630)) (tl_ (oe_105_633)))) (tn_ (tn_ (tl_ (oe_105_634)) (tl_ (oe_105_635))) (tn_ (tl_ (oe_105_637)) (tl_ (oe_105_638))))) (tn_ (tn_ (tn_ (tl_ (oe_105_639)) (tl_ (oe_105_640))) (tn_ (tl_ (oe_105_641)) (tl_ (oe_105_643)))) (tn_ (tn_ (tl_ (oe_105_644)) (tl_ (oe_105_645))) (tn_ (tl_ (oe_105_646)) (tl_ (oe_105_649)))))) (tn_ (tn_ (tn_ (tn_ (tl_ (oe_105_652)) (tl_ (oe_105_653))) (tn_ (tl_ (oe_105_654)) (tl_ (oe_105_655)))) (tn_ (tn_ (tl_ (oe_105_656)) (tl_ (oe_105_658))) (tn_ (tl_ (oe_105_659)) (tl_ (oe_105_660))))) (tn_ (tn_ (tn_ (tl_ (oe_105_661)) (tl_ (oe_105_662))) (tn_ (tl_ (oe_105_664)) (tl_ (oe_105_665)))) (tn_ (tn_ (tl_ (oe_105_666)) (tl_ (oe_105_667))) (tn_ (tl_ (oe_105_668)) (tl_ (oe_105_670))))))) (tn_ (tn_ (tn_ (tn_ (tn_ (tl_ (oe_105_671)) (tl_ (oe_105_672))) (tn_ (tl_ (oe_105_673)) (tl_ (oe_105_676)))) (tn_ (tn_ (tl_ (oe_105_677)) (tl_ (oe_105_678))) (tn_ (tl_ (oe_105_680)) (tl_ (oe_105_681))))) (tn_ (tn_ (tn_ (tl_ (oe_105_682)) (tl_ (oe_105_683))) (tn_ (tl_ (oe_105_684)) (tl_ (oe_105_686)))) (tn_ (tn_ (tl_ (oe_105_687)) (tl_ (oe_105_688))) (tn_ (tl_ (oe_105_689)) (tl_ (oe_105_690)))))) (tn_ (tn_ (tn_ (tn_ (tl_ (oe_105_692)) (tl_ (oe_105_693))) (tn_ (tl_ (oe_105_694)) (tl_ (oe_105_695)))) (tn_ (tn_ (tl_ (oe_105_698)) (tl_ (oe_105_701))) (tn_ (tl_ (oe_105_702)) (tl_ (oe_105_703))))) (tn_ (tn_ (tn_ (tl_ (oe_105_704)) (tl_ (oe_105_705))) (tn_ (tl_ (oe_105_707)) (tl_ (oe_105_708)))) (tn_ (tn_ (tl_ (oe_105_709)) (tl_ (oe_105_710))) (tn_ (tl_ (oe_105_711)) (tl_ (oe_105_713)))))))) (tn_ (tn_ (tn_ (tn_ (tn_ (tn_ (tl_ (oe_105_714)) (tl_ (oe_105_715))) (tn_ (tl_ (oe_105_716)) (tl_ (oe_105_717)))) (tn_ (tn_ (tl_ (oe_105_719)) (tl_ (oe_105_720))) (tn_ (tl_ (oe_105_721)) (tl_ (oe_105_722))))) (tn_ (tn_ (tn_ (tl_ (oe_105_723)) (tl_ (oe_105_726))) (tn_ (tl_ (oe_105_728)) (tl_ (oe_105_729)))) (tn_ (tn_ (tl_ (oe_105_730)) (tl_ (oe_105_732))) (tn_ (tl_ (oe_105_733)) (tl_ (oe_105_734)))))) (tn_ (tn_ (tn_ (tn_ (tl_ (oe_105_735)) (tl_ (oe_105_736))) (tn_ (tl_ (oe_105_738)) (tl_ (oe_105_739)))) (tn_ (tn_ (tl_ (oe_105_740)) (tl_ (oe_105_741))) (tn_ (tl_ (oe_105_742)) (tl_ (oe_105_744))))) (tn_ (tn_ (tn_ (tl_ (oe_105_745)) (tl_ (oe_105_746))) (tn_ (tl_ (oe_105_747)) (tl_ (oe_105_750)))) (tn_ (tn_ (tl_ (oe_105_752)) (tl_ (oe_105_753))) (tn_ (tl_ (oe_105_756)) (tl_ (oe_105_758))))))) (tn_ (tn_ (tn_ (tn_ (tn_ (tl_ (oe_105_761)) (tl_ (oe_105_762))) (tn_ (tl_ (oe_105_763)) (tl_ (oe_105_765)))) (tn_ (tn_ (tl_ (oe_105_768)) (tl_ (oe_105_769))) (tn_ (tl_ (oe_105_770)) (tl_ (oe_105_771))))) (tn_ (tn_ (tn_ (tl_ (oe_105_773)) (tl_ (oe_105_774))) (tn_ (tl_ (oe_105_775)) (tl_ (oe_105_778)))) (tn_ (tn_ (tl_ (oe_105_779)) (tl_ (oe_105_780))) (tn_ (tl_ (oe_105_783)) (tl_ (oe_105_784)))))) (tn_ (tn_ (tn_ (tn_ (tl_ (oe_105_787)) (tl_ (oe_105_788))) (tn_ (tl_ (oe_105_791)) (tl_ (oe_105_794)))) (tn_ (tn_ (tl_ (oe_105_795)) (tl_ (oe_105_796))) (tn_ (tl_ (oe_105_797)) (tl_ (oe_105_800))))) (tn_ (tn_ (tn_ (tl_ (oe_105_801)) (tl_ (oe_105_804))) (tn_ (tl_ (oe_105_807)) (tl_ (oe_105_808)))) (tn_ (tn_ (tl_ (oe_105_809)) (tl_ (oe_105_812))) (tn_ (tl_ (oe_105_815)) (tl_ (oe_105_816))))))))))
set_option maxRecDepth 20000 in
theorem ok_106 : ∀ pc e, k_106 pc = some e → okE 106 pc e := tn_ (tn_ (tn_ (tl_ (oi_iconst (n := 0) (by decide +kernel) (by decide +kernel) rfl)) (tn_ (tl_ (oi_istore_n (k := 2) (by decide) (by decide +kernel) rfl rfl)) (tl_ (oi_aload_n (k := 0) (by decide +kernel) rfl rfl)))) (tn_ (tn_ (tl_ (oi_alen (by decide +kernel) rfl)) (tl_ (oi_istore_n (k := 3) (by decide) (by decide +kernel) rfl rfl))) (tn_ (tl_ (oi_iload_n (k := 2) (by decide +kernel) rfl rfl)) (tl_ (oi_iload_n (k := 3) (by decide +kernel) rfl rfl))))) (tn_ (tn_ (tn_ (tl_ (oi_if_icmpge (f := 13) (by decide +kernel) (by decide) rfl)) (tl_ (oi_aload_n (k := 0) (by decide +kernel) rfl rfl))) (tn_ (tl_ (oi_iload_n (k := 2) (by decide +kernel) rfl rfl)) (tl_ (oi_iload_n (k := 1) (by decide +kernel) rfl rfl)))) (tn_ (tn_ (tl_ (oi_iast (by decide +kernel) rfl)) (tl_ (oi_iinc (n := 1) (by decide) (by decide +kernel) (by decide +kernel) rfl))) (tn_ (tl_ (oi_goto (f := -12) (by decide +kernel) (by decide))) (tl_ (oi_return (by decide +kernel) rfl)))))
set_option maxRecDepth 20000 in
theorem ok_cd : ∀ mi pc e, cd mi pc = some e → okE mi pc e := tq_ (tq_ (tq_ (tq_ (tq_ (tq_ (tm_ ok_0) (tq_ (tm_ ok_1) (tm_ ok_2))) (tq_ (tm_ ok_3) (tq_ (tm_ ok_4) (tm_ ok_5)))) (tq_ (tq_ (tm_ ok_6) (tq_ (tm_ ok_7) (tm_ ok_8))) (tq_ (tq_ (tm_ ok_9) (tm_ ok_10)) (tq_ (tm_ ok_11) (tm_ ok_12))))) (tq_ (tq_ (tq_ (tm_ ok_13) (tq_ (tm_ ok_14) (tm_ ok_15))) (tq_ (tm_ ok_16) (tq_ (tm_ ok_17) (tm_ ok_18)))) (tq_ (tq_ (tm_ ok_19) (tq_ (tm_ ok_20) (tm_ ok_21))) (tq_ (tq_ (tm_ ok_22) (tm_ ok_23)) (tq_ (tm_ ok_24) (tm_ ok_25)))))) (tq_ (tq_ (tq_ (tq_ (tm_ ok_26) (tq_ (tm_ ok_27) (tm_ ok_28))) (tq_ (tm_ ok_29) (tq_ (tm_ ok_30) (tm_ ok_31)))) (tq_ (tq_ (tm_ ok_32) (tq_ (tm_ ok_33) (tm_ ok_34))) (tq_ (tq_ (tm_ ok_35) (tm_ ok_36)) (tq_ (tm_ ok_37) (tm_ ok_38))))) (tq_ (tq_ (tq_ (tm_ ok_39) (tq_ (tm_ ok_40) (tm_ ok_41))) (tq_ (tq_ (tm_ ok_42) (tm_ ok_43)) (tq_ (tm_ ok_44) (tm_ ok_45)))) (tq_ (tq_ (tm_ ok_46) (tq_ (tm_ ok_47) (tm_ ok_48))) (tq_ (tq_ (tm_ ok_49) (tm_ ok_50)) (tq_ (tm_ ok_51) (tm_ ok_52))))))) (tq_ (tq_ (tq_ (tq_ (tq_ (tm_ ok_53) (tq_ (tm_ ok_54) (tm_ ok_55))) (tq_ (tm_ ok_56) (tq_ (tm_ ok_57) (tm_ ok_58)))) (tq_ (tq_ (tm_ ok_59) (tq_ (tm_ ok_60) (tm_ ok_61))) (tq_ (tq_ (tm_ ok_62) (tm_ ok_63)) (tq_ (tm_ ok_64) (tm_ ok_65))))) (tq_ (tq_ (tq_ (tm_ ok_66) (tq_ (tm_ ok_67) (tm_ ok_68))) (tq_ (tq_ (tm_ ok_69) (tm_ ok_70)) (tq_ (tm_ ok_71) (tm_ ok_72)))) (tq_ (tq_ (tm_ ok_73) (tq_ (tm_ ok_74) (tm_ ok_75))) (tq_ (tq_ (tm_ ok_76) (tm_ ok_77)) (tq_ (tm_ ok_78) (tm_ ok_79)))))) (tq_ (tq_ (tq_ (tq_ (tm_ ok_80) (tq_ (tm_ ok_81) (tm_ ok_82))) (tq_ (tm_ ok_83) (tq_ (tm_ ok_84) (tm_ ok_85)))) (tq_ (tq_ (tm_ ok_86) (tq_ (tm_ ok_87) (tm_ ok_88))) (tq_ (tq_ (tm_ ok_89) (tm_ ok_90)) (tq_ (tm_ ok_91) (tm_ ok_92))))) (tq_ (tq_ (tq_ (tm_ ok_93) (tq_ (tm_ ok_94) (tm_ ok_95))) (tq_ (tq_ (tm_ ok_96) (tm_ ok_97)) (tq_ (tm_ ok_98) (tm_ ok_99)))) (tq_ (tq_ (tm_ ok_100) (tq_ (tm_ ok_101) (tm_ ok_102))) (tq_ (tq_ (tm_ ok_103) (tm_ ok_104)) (tq_ (tm_ ok_105) (tm_ ok_106)))))))
theorem ok_all (mi pc op a b pc' : Nat) (h : cd mi pc = some (op, a, b, pc')) : okI mi pc op a b pc' := ok_cd mi pc (op, a, b, pc') h
end
section
/-! Runs of the small machine are runs of the real one. -/
def SND (l : Launch) (n : Nat) : Prop := ∀ {D : va_G} {q : Nat → Nat → Nat} {ca : Nat → ClassId} {xs : Nat → Int32} {L : Nat}, qij q → ∀ (mi pc : Nat) (ls : PL) (st : List PV) (μ : PM) (pce : Nat) (lse : PL) (ste : List PV) (μ1 : PM), prun n mi pc ls st μ = some (pce, lse, ste, μ1) →
  ∀ {p : Program} {e : Env} {R : Room} {s : State} {m : MethodId} {args : Array Value} {below : List Frame} {meth : Method} {c : Code} {H : Heap} {locs : List Loc} {cells slots : Nat} {Q : State → Prop} {lsA : Array Slot} {A : Nat → Prop},
  Cx p s m args c mi D ca → dep mi ≤ R.frames ∧ lcm mi ≤ R.locals → cells ≤ R.cells ∧ slots ≤ R.slots → lok q ls lsA (mxl mi) → (∀ v ∈ st, okv v) → wd D q ca μ H → va_S A s.heap H locs → (∀ t m, vld t m → A (q t m)) → okX q xs L A s mi → mX xs L μ →
  (∀ (H' : Heap) (locs' : List Loc) (lsB : Array Slot), lok q lse lsB (mxl mi) → (∀ v ∈ ste, okv v) → wd D q ca μ1 H' → va_S A s.heap H' locs' → mX xs L μ1 → W p l e R s m args below meth c H' locs' cells slots Q (F0 m pce lsB (ste.map (tr q)))) →
  W p l e R s m args below meth c H locs cells slots Q (F0 m pc lsA (st.map (tr q)))
/-- what a call may change: the world -/
def Aw (q : Nat → Nat → Nat) : Nat → Prop := fun x => ∃ t m, vld t m ∧ x = q t m
def Pcm (D : va_G) (q : Nat → Nat → Nat) (ca : Nat → ClassId) (μ : PM) (as : List PV) : Array Value → State → Prop := va_Pc (as.map (tr q)) (fun U => wd D q ca μ U.heap ∧ Kp D ca U)
def Qcm (D : va_G) (q : Nat → Nat → Nat) (ca : Nat → ClassId) (xs : Nat → Int32) (L : Nat) (μ1 : PM) (r : Option PV) : Array Value → State → Outcome → State → Prop := fun _ st o t => (o = .returned (r.map (tr q)) ∧ wd D q ca μ1 t.heap ∧ mX xs L μ1 ∧ ∀ v, r = some v → okv v) ∧ va_F (Aw q) st t
theorem Kp.moved {D : va_G} {ca : Nat → ClassId} {u U : State} (hvm : u.vm.Alike U.vm) (h : Kp D ca u) : Kp D ca U := va_K.moved hvm h
theorem Pcm_blind {D : va_G} {q : Nat → Nat → Nat} {ca : Nat → ClassId} {μ : PM} {as : List PV} : FrameBlind (Pcm D q ca μ as) := fun a U g mk h => ⟨h.1, h.2.1, Kp.moved (u := U) (U := U.calling g mk a) (Vm.Alike.refl U.vm) h.2.2⟩
theorem pen_at : ∀ (as : List PV) (n k : Nat) (v : PV), plg (pen as n) k = some v → as[k]? = some v ∧ k < n
  | _, 0, _, _, h => by cases h
  | [], n + 1, 0, _, h => by cases h
  | [], n + 1, k + 1, v, h => by
    obtain ⟨h1, -⟩ := pen_at [] n k v h
    simp at h1
  | w :: l, n + 1, 0, v, h => by cases h; exact ⟨rfl, by omega⟩
  | w :: l, n + 1, k + 1, v, h => by
    obtain ⟨h1, h2⟩ := pen_at l n k v h
    exact ⟨h1, by omega⟩
theorem args_in {q : Nat → Nat → Nat} : ∀ (as : List PV) (i k : Nat) (v : PV), (∀ w ∈ as, nlg w = true) → as[k]? = some v → (i + k, tr q v) ∈ lv_args i (as.map (tr q))
  | [], _, _, _, _, h => by simp at h
  | w :: l, i, 0, v, hn, h => by
    cases h
    exact List.mem_cons_self
  | w :: l, i, k + 1, v, hn, h => by
    have hc := cat1 (q := q) (hn w List.mem_cons_self)
    have := args_in (q := q) l (i + 1) k v (fun x hx => hn x (List.mem_cons_of_mem _ hx)) h
    rw [show i + 1 + k = i + (k + 1) by omega] at this
    show _ ∈ (i, tr q w) :: lv_args (if (tr q w).category = 2 then i + 2 else i + 1) (l.map (tr q))
    rw [if_neg (by omega)]
    exact List.mem_cons_of_mem _ this
theorem lg_len {q : Nat → Nat → Nat} : ∀ (as : List PV), (∀ w ∈ as, nlg w = true) → (lg_sl (as.map (tr q))).length = as.length
  | [], _ => rfl
  | w :: l, hn => by
    have hc := cat1 (q := q) (hn w List.mem_cons_self)
    have := lg_len (q := q) l (fun x hx => hn x (List.mem_cons_of_mem _ hx))
    unfold lg_sl at this ⊢
    rw [List.map_cons, List.flatMap_cons, if_neg (by omega)]
    simp [this]
set_option maxHeartbeats 4000000 in
theorem met_of {l : Launch} {n : Nat} (hS : SND l n) {D : va_G} {q : Nat → Nat → Nat} {ca : Nat → ClassId} {xs : Nat → Int32} {L : Nat} (hq : qij q) {a : Nat} (hl : a ≠ lawi) (hok : okM a) {as : List PV} {μ μ1 : PM} {pce : Nat} {lse : PL} {ste : List PV} {r : Option PV} (hr : prun n a 0 (pen as (mxl a)) [] μ = some (pce, lse, ste, μ1)) (hp : pret a pce ste = some (0, r)) (has : ∀ v ∈ as, okv v ∧ nlg v = true) (hlen : as.length ≤ mxl a) (hM : mX xs L μ) :
    Met l (ym a) (wsA a) (rmo a) (Pcm D q ca μ as) (Qcm D q ca xs L μ1 r) 0 0 (Aw q) := by
  refine Met.ofW (cc := bm a) (maxL := mxl a) (ret := rtm a) hok.1 rfl ?_
  intro p e s m args below meth c s₁ B hml hv
  obtain ⟨rfl, hw, hK⟩ := hv
  have hts := atoms_spec (ws := wsA a) B.pre
  have hlocks := B.notSynchronized
  have hown : s.vm.findClass (om a) = some m.cls := by rw [← hok.2.1]; exact findClass_of_methodNamed B.named
  have C0 : Cx p s m (as.map (tr q)).toArray c a D ca := ⟨B.exec, B.bytes, hml, hown, fun w h => hts w (List.mem_cons_of_mem _ h), hK⟩
  have hl0 := lv_entry (as.map (tr q)) (n := mxl a) (by rw [lg_len as (fun w h => (has w h).2)]; exact hlen)
  rw [lg_entry_eq]
  generalize (lg_sl (as.map (tr q)) ++ List.replicate (mxl a - (lg_sl (as.map (tr q))).length) Slot.unset).toArray = lsA at hl0 ⊢
  have hlk : lok q (pen as (mxl a)) lsA (mxl a) := by
    refine ⟨hl0.1, hl0.2.1, fun k v h => ?_⟩
    obtain ⟨h1, -⟩ := pen_at as (mxl a) k v h
    have h2 := args_in (q := q) as 0 k v (fun w h => (has w h).2) h1
    rw [Nat.zero_add] at h2
    exact ⟨hl0.2.2 (k, tr q v) h2, has v (List.mem_of_getElem? h1)⟩
  refine hS hq a 0 _ [] μ pce lse ste μ1 hr (R := rmo a) (A := Aw q) C0 ⟨Nat.le_refl _, Nat.le_refl _⟩ ⟨Nat.zero_le _, Nat.zero_le _⟩ hlk (fun v h => by cases h) hw va_S.rf (fun t m h => ⟨t, m, h, rfl⟩) (fun z => absurd z hl) hM ?_
  intro H' locs' lsB hz hv' hw' hS' hM'
  have hx := B.exec
  have hb := B.bytes
  have hrt := B.returns
  cases hc : cd a pce with
  | none => unfold pret at hp; rw [hc] at hp; cases hp
  | some en =>
    obtain ⟨op, u1, u2, u3⟩ := en
    have hk := ok_all a pce op u1 u2 u3 hc
    unfold pret at hp
    rw [hc] at hp
    split at hp
    next heq =>
      cases heq
      split at hp
      next x =>
        cases hp
        have hv9 : ∀ v, some (pI x) = some v → okv v := fun v h => by cases h; trivial
        obtain ⟨h1, h2⟩ := hk
        have h3 : rtm a = some .int := by rcases h2 with h2 | h2; exact h2.2; exact absurd h2.1 (by decide)
        exact W.iret (v := x) hx hb (hrt.trans h3) (fun t ht hW => ⟨⟨rfl, by rw [ht]; exact hw', hM', hv9⟩, hS'.F ht⟩) hS'.2.2 h1
      next => cases hp
    next heq =>
      cases heq
      split at hp
      next x =>
        by_cases h01 : x = 0 ∨ x = 1
        · rw [if_pos h01] at hp
          cases hp
          have hv9 : ∀ v, some (pI x) = some v → okv v := fun v h => by cases h; trivial
          obtain ⟨h1, h2⟩ := hk
          have h3 : rtm a = some .boolean := by rcases h2 with h2 | h2; exact absurd h2.1 (by decide); exact h2.2
          exact W.zret (v := x) (ty := .boolean) hx hb (hrt.trans h3) (by rcases h01 with rfl | rfl <;> rfl) (fun t ht hW => ⟨⟨rfl, by rw [ht]; exact hw', hM', hv9⟩, hS'.F ht⟩) hS'.2.2 h1
        · rw [if_neg h01] at hp; cases hp
      next => cases hp
    next heq =>
      cases heq
      split at hp
      next =>
        cases hp
        have hv9 : ∀ v, (none : Option PV) = some v → okv v := fun v h => by cases h
        obtain ⟨h1, h2⟩ := hk
        exact W.vret hx hb (hrt.trans h2) (fun t ht hW => ⟨⟨rfl, by rw [ht]; exact hw', hM', hv9⟩, hS'.F ht⟩) hS'.2.2 h1
      next => cases hp
    next heq =>
      cases heq
      split at hp
      next t0 m0 =>
        cases hp
        have hv9 : ∀ v, some (pR t0 m0) = some v → okv v := fun v h => by cases h; exact hv' _ List.mem_cons_self
        obtain ⟨h1, nm, h2⟩ := hk
        exact W.aret (v := .ref (q t0 m0)) hx hb (hrt.trans h2) (Or.inl ⟨nm, rfl⟩) (Or.inr ⟨_, rfl⟩) (fun t ht hW => ⟨⟨rfl, by rw [ht]; exact hw', hM', hv9⟩, hS'.F ht⟩) hS'.2.2 h1
      next => cases hp
    next heq => cases heq; cases hp
    next => cases hp
/-- a call: its run in the real machine, and the way on -/
theorem call_go {l : Launch} {p : Program} {e : Env} {R : Room} {s : State} {m : MethodId} {args : Array Value} {below : List Frame} {meth : Method} {c : Code} {H : Heap} {locs : List Loc} {cells slots : Nat} {Q : State → Prop} {lsA : Array Slot} {A : Nat → Prop} {D : va_G} {q : Nat → Nat → Nat} {ca : Nat → ClassId} {xs : Nat → Int32} {L : Nat} {μ1 : PM} {r : Option PV} {pc : Nat} {st0 rest : List Value} {av : Array Value}
    (hr : va_Run p l e R s m args below meth c H locs cells slots 0 0 (F0 m pc lsA st0) rest (Qcm D q ca xs L μ1 r av) (Aw q)) (hS : va_S A s.heap H locs) (hA : ∀ t m, vld t m → A (q t m))
    (kk : ∀ (H' : Heap) (locs' : List Loc), wd D q ca μ1 H' → va_S A s.heap H' locs' → mX xs L μ1 → (∀ v, r = some v → okv v) → W p l e R s m args below meth c H' locs' cells slots Q (F0 m (pc + 3) lsA ((r.map (tr q)).toList ++ rest))) : W p l e R s m args below meth c H locs cells slots Q (F0 m pc lsA st0) := by
  intro T hT X
  obtain ⟨v, st₀, t, T', L0, h0, X', hL, e1, e2, ⟨⟨hv, hw, hM, hv9⟩, hz, hk⟩, st⟩ := hr T hT X
  cases hv
  rw [h0] at hz hk
  have hAw : ∀ x, Aw q x → A x := by rintro x ⟨t, m, h, rfl⟩; exact hA t m h
  obtain ⟨t2, a1, b1⟩ := kk T'.heap (locs ++ L0) (by rw [e1]; exact hw)
    ⟨Nat.le_trans hS.1 (by rw [e1]; exact hz), fun x h1 h2 => by rw [e1, hk x (Nat.lt_of_lt_of_le h1 hS.1) (fun z => h2 (hAw x z))]; exact hS.2.1 x h1 h2, fun x hx => by
      rcases List.mem_append.mp hx with h | h
      · exact hS.2.2 x h
      · exact hAw _ (hL x h)⟩ hM hv9 T' rfl X'
  exact ⟨t2, st t2 a1, b1⟩
theorem ptk_spec : ∀ (n : Nat) (acc st as s : List PV), ptk n acc st = some (as, s) → ∃ ps, ps.length = n ∧ st = ps ++ s ∧ as = ps.reverse ++ acc
  | 0, acc, st, as, s, h => by cases h; exact ⟨[], rfl, rfl, rfl⟩
  | n + 1, acc, [], as, s, h => by cases h
  | n + 1, acc, v :: t, as, s, h => by
    obtain ⟨ps, h1, h2, h3⟩ := ptk_spec n (v :: acc) t as s h
    exact ⟨v :: ps, by simp [h1], by simp [h2], by simp [h3]⟩
theorem pnl_spec : ∀ (l : List PV), pnl l = true → ∀ v ∈ l, nlg v = true
  | [], _, v, h => by cases h
  | w :: l, hp, v, h => by
    unfold pnl at hp
    rw [Bool.and_eq_true] at hp
    rcases List.mem_cons.mp h with rfl | h
    · exact hp.1
    · exact pnl_spec l hp.2 v h
theorem pcl_spec {op a b : Nat} {st as s : List PV} (h : pcl op a b st = some (as, s)) : op = 70 ∧ (∃ ps : List PV, ps.length = b ∧ st = ps ++ s ∧ as = ps.reverse) ∧ s.length ≤ 4 ∧ prc a as = true ∧ (∀ v ∈ as, nlg v = true) ∧ as.length ≤ mxl a := by
  unfold pcl at h
  split at h
  next =>
    cases hx : ptk b [] st with
    | none => rw [hx] at h; cases h
    | some y =>
      obtain ⟨as', s'⟩ := y
      rw [hx] at h
      dsimp only at h
      cases hc : (Nat.ble s'.length 4 && (prc a as' && (pnl as' && Nat.ble as'.length (mxl a)))) with
      | false => rw [hc] at h; cases h
      | true =>
        rw [hc] at h
        cases h
        simp only [Bool.and_eq_true] at hc
        obtain ⟨ps, h1, h2, h3⟩ := ptk_spec b [] st as s hx
        exact ⟨rfl, ⟨ps, h1, h2, by rw [h3, List.append_nil]⟩, Nat.le_of_ble_eq_true hc.1, hc.2.1, pnl_spec as hc.2.2.1, Nat.le_of_ble_eq_true hc.2.2.2⟩
  next => cases h
theorem prc_spec {a : Nat} {as : List PV} (h : prc a as = true) (hk : km a ≠ 99) : ∃ t m As, as = pR t m :: As ∧ cn t = km a := by
  unfold prc at h
  split at h
  next t m As =>
    rw [Bool.or_eq_true] at h
    rcases h with h | h
    · exact absurd (Nat.eq_of_beq_eq_true h) hk
    · exact ⟨t, m, As, rfl, Nat.eq_of_beq_eq_true h⟩
  next => exact absurd (Nat.eq_of_beq_eq_true h) hk
theorem cat_sum {q : Nat → Nat → Nat} : ∀ (s : List PV) (n : Nat), s.length ≤ n → ((s.map (tr q)).map fun v => v.category).sum ≤ 2 * n
  | [], n, _ => by simp
  | v :: s, 0, h => by simp at h
  | v :: s, n + 1, h => by
    have := cat_sum (q := q) s n (by simpa using h)
    have hc : (tr q v).category ≤ 2 := by rcases lv_cat (tr q v) with z | z <;> omega
    simp only [List.map_cons, List.sum_cons]
    omega
theorem ppu_map {q : Nat → Nat → Nat} (r : Option PV) (s : List PV) : (ppu r s).map (tr q) = (r.map (tr q)).toList ++ s.map (tr q) := by cases r <;> rfl
set_option maxHeartbeats 4000000 in
theorem call_sd {l : Launch} {n : Nat} (hN : SND l n) {p : Program} {e : Env} {R : Room} {s : State} {m : MethodId} {args : Array Value} {below : List Frame} {meth : Method} {c : Code} {H : Heap} {locs : List Loc} {cells slots : Nat} {Q : State → Prop} {mi pc a b pc' : Nat} {lsA : Array Slot} {D : va_G} {q : Nat → Nat → Nat} {ca : Nat → ClassId} {μ μ2 : PM} {A : Nat → Prop} {st as s0 : List PV} {xs : Nat → Int32} {L : Nat} {pce : Nat} {lse : PL} {ste : List PV} {r : Option PV}
    (C0 : Cx p s m args c mi D ca) (hR : dep mi ≤ R.frames ∧ lcm mi ≤ R.locals) (hcs : cells ≤ R.cells ∧ slots ≤ R.slots) (hsz : lsA.size = mxl mi) (hok : okL mi pc a b pc') (hv : ∀ v ∈ st, okv v) (hw : wd D q ca μ H) (hq : qij q) (hS : va_S A s.heap H locs) (hA : ∀ t m, vld t m → A (q t m)) (hM : mX xs L μ)
    (hc : pcl 70 a b st = some (as, s0)) (hr : prun n a 0 (pen as (mxl a)) [] μ = some (pce, lse, ste, μ2)) (hp : pret a pce ste = some (0, r))
    (kk : ∀ (H' : Heap) (locs' : List Loc), (∀ v ∈ ppu r s0, okv v) → wd D q ca μ2 H' → va_S A s.heap H' locs' → mX xs L μ2 → W p l e R s m args below meth c H' locs' cells slots Q (F0 m pc' lsA ((ppu r s0).map (tr q)))) :
    W p l e R s m args below meth c H locs cells slots Q (F0 m pc lsA (st.map (tr q))) := by
  obtain ⟨-, ⟨ps, hpl, rfl, rfl⟩, hs4, hprc, hnl, hlen⟩ := pcl_spec hc
  obtain ⟨rfl, hdep, hlaw, hokm, hkind⟩ := hok
  have hoa : ∀ v ∈ ps.reverse, okv v ∧ nlg v = true := fun v h => ⟨hv v (List.mem_append_left _ (List.mem_reverse.mp h)), hnl v h⟩
  have hmet := met_of (D := D) (ca := ca) hN hq hlaw hokm hr hp hoa hlen hM
  have hroom : (rmo a).frames + 1 ≤ R.frames ∧ 8 + (mxl a + 11) + (rmo a).locals ≤ R.locals := by
    have := hokm.2.2.2.1
    show dep a + 1 ≤ R.frames ∧ 8 + (mxl a + 11) + lcm a ≤ R.locals
    omega
  have hw8 : 2 * (F0 m pc lsA ((ps ++ s0).map (tr q))).monitorRoom + ((s0.map (tr q)).map fun v => v.category).sum ≤ 8 := lv_room (cat_sum s0 4 hs4)
  obtain ⟨hx, hb, hml, hown, hts, hK⟩ := C0
  have hgw : ∀ w ∈ wsA a, w ∈ al_w := fun w h => by
    rcases List.mem_cons.mp h with rfl | h
    · exact hokm.2.2.1
    · exact h
  have hs0 : ∀ v ∈ s0, okv v := fun v h => hv v (List.mem_append_right _ h)
  have hpp : (∀ v, r = some v → okv v) → ∀ v ∈ ppu r s0, okv v := by
    intro h v hv
    cases r with
    | none => exact hs0 v hv
    | some w =>
      rcases List.mem_cons.mp hv with rfl | hv
      · exact h _ rfl
      · exact hs0 v hv
  rcases hkind with ⟨i, T, N, h1, hk, hcl, w1, w2, w3, w4, hnp⟩ | ⟨i, h1, w1, w2, w4, hnp⟩
  · obtain ⟨t, mm, As, hre, hct⟩ := prc_spec hprc hk
    have hvt : vld t mm := by
      have h9 := (hoa (pR t mm) (by rw [hre]; exact List.mem_cons_self)).1
      rcases h9 with z | z
      · exact z
      · rw [z.1, show cn 39 = 99 from rfl] at hct
        exact absurd hct.symm hk
    have h90 := vwCl_lt hcl
    have hps : ps = As.reverse ++ [pR t mm] := by
      have := congrArg List.reverse hre
      rw [List.reverse_reverse] at this
      rw [this]; simp
    have hstack : (ps ++ s0).map (tr q) = (As.map (tr q)).reverse ++ .ref (q t mm) :: s0.map (tr q) := by
      rw [hps]; simp [tr]
    have hob := wd_obj hw hvt (by omega)
    rw [hct] at hob
    have hrecv : ∃ cellB : Cell, H[q t mm]? = some cellB ∧ cellB.vm.isStatics = false ∧ s.vm.findClass (om a) = some cellB.cls := by
      obtain ⟨r9, r1, cell, g1, g2, g3, -⟩ := hob
      exact ⟨cell, g1, by rw [g3]; rfl, by rw [g2]; exact (hK.1 (km a) _ hcl).2.1⟩
    have hn : (parseMethodDescriptor (ym a).desc).map (fun d => d.parameters.length) = some As.length := by
      cases hz : parseMethodDescriptor (ym a).desc with
      | none => rw [hz] at hnp; cases hnp
      | some d =>
        rw [hz] at hnp
        have h8 : d.parameters.length + 1 = b := Option.some.inj hnp
        have h7 : ps.length = As.length + 1 := by rw [hps]; simp
        show some d.parameters.length = _
        congr 1; omega
    have hG : GoodIn al_w (wsV (om mi) i (om a) (ym a) (wsA a)) := gd_w (fun w h => by
      unfold wsV at h
      rcases List.mem_append.mp h with h | h
      · simp only [List.mem_cons, List.not_mem_nil, or_false] at h
        rcases h with rfl | rfl | rfl | rfl
        · exact w1
        · exact w2
        · exact w3
        · exact w4
      · exact hgw w h)
    have hrun := va_runV (p := p) (e := e) (below := below) (meth := meth) (As := As.map (tr q)) (b := q t mm) (rest := s0.map (tr q)) (g := F0 m pc lsA ((ps ++ s0).map (tr q))) (locs := locs) (cells := cells) (slots := slots) ⟨hx, hb, hml, hown, hts⟩ hmet (cwV As.length hts hG rfl rfl rfl ⟨hokm.2.1, hokm.2.2.2.2.1, hokm.2.2.2.2.2, hn⟩ hroom) ⟨Pcm_blind, hrecv, fun U hU hW => ⟨by rw [hre]; rfl, by rw [hU]; exact hw, Kp.moved hW.alike hK⟩⟩ rfl (by simp) hsz hstack hw8 h1 hcs
    refine call_go hrun hS hA (fun H' locs' hw' hS' hM' hv9 => ?_)
    rw [← ppu_map]
    exact kk H' locs' (hpp hv9) hw' hS' hM'
  · have hstack : (ps ++ s0).map (tr q) = (ps.reverse.map (tr q)).reverse ++ s0.map (tr q) := by simp
    have hn : (parseMethodDescriptor (ym a).desc).map (fun d => d.parameters.length) = some ps.reverse.length := by rw [hnp]; simp [hpl]
    have hG : GoodIn al_w (va_wsS (om mi) i (ym a) (wsA a)) := gd_w (fun w h => by
      unfold va_wsS at h
      rcases List.mem_append.mp h with h | h
      · simp only [List.mem_cons, List.not_mem_nil, or_false] at h
        rcases h with rfl | rfl | rfl
        · exact w1
        · exact w2
        · rw [hokm.2.1]; exact w4
      · exact hgw w h)
    have hrun := va_runS (p := p) (e := e) (below := below) (meth := meth) (As := ps.reverse.map (tr q)) (rest := s0.map (tr q)) (g := F0 m pc lsA ((ps ++ s0).map (tr q))) (locs := locs) (cells := cells) (slots := slots) ⟨hx, hb, hml, hown, hts⟩ hmet (va_cwS ps.reverse.length hts hG rfl rfl rfl ⟨hokm.2.2.2.2.1, hokm.2.2.2.2.2, hn⟩ hroom) ⟨Pcm_blind, fun U hU hW => ⟨rfl, by rw [hU]; exact hw, Kp.moved hW.alike hK⟩⟩ rfl (by simp) hsz hstack hw8 h1 hcs
    refine call_go hrun hS hA (fun H' locs' hw' hS' hM' hv9 => ?_)
    rw [← ppu_map]
    exact kk H' locs' (hpp hv9) hw' hS' hM'
set_option maxHeartbeats 4000000 in
theorem snd_all (l : Launch) : ∀ n, SND l n := by
  intro n
  induction n with
  | zero => intro D q ca xs L hq mi pc ls st μ pce lse ste μ1 hr; cases hr
  | succ n ih =>
    intro D q ca xs L hq mi pc ls st μ pce lse ste μ1 hr p e R s m args below meth c H locs cells slots Q lsA A C0 hR hcs hl hv hw hS hA hX hM kk
    have hr' : pbody (prun n) mi pc ls st μ = some (pce, lse, ste, μ1) := hr
    unfold pbody at hr'
    cases hc : cd mi pc with
    | none => rw [hc] at hr'; cases hr'
    | some en =>
      obtain ⟨op, a, b, pc'⟩ := en
      have hok := ok_all mi pc op a b pc' hc
      rw [hc] at hr'
      dsimp only at hr'
      cases h1 : pst op a b ls st μ with
      | some y =>
        obtain ⟨ls', st', μ'⟩ := y
        rw [h1] at hr'
        exact pst_sd C0 hok hl hv hw hq hS hA hX hM h1 (fun H' locs' lsB hl' hv' hw' hS' hM' => ih hq _ _ _ _ _ _ _ _ _ hr' C0 hR hcs hl' hv' hw' hS' hA hX hM' kk)
      | none =>
        rw [h1] at hr'
        dsimp only at hr'
        cases h2 : psp op a b ls st μ with
        | some y =>
          obtain ⟨ls', st', μ'⟩ := y
          rw [h2] at hr'
          exact psp_sd C0 hok hl hv hw hq hS hA hX hM h2 (fun H' locs' lsB hl' hv' hw' hS' hM' => ih hq _ _ _ _ _ _ _ _ _ hr' C0 hR hcs hl' hv' hw' hS' hA hX hM' kk)
        | none =>
          rw [h2] at hr'
          dsimp only at hr'
          cases h3 : pbq op st with
          | some y =>
            obtain ⟨P, s0⟩ := y
            rw [h3] at hr'
            dsimp only at hr'
            refine pbq_sd C0 hok hl hv hw hq hS hA hX hM h3 (fun hP lsB hl' hv' => ?_) (fun hP lsB hl' hv' => ?_)
            · rw [if_pos hP] at hr'
              exact ih hq _ _ _ _ _ _ _ _ _ hr' C0 hR hcs hl' hv' hw hS hA hX hM kk
            · rw [if_neg hP] at hr'
              exact ih hq _ _ _ _ _ _ _ _ _ hr' C0 hR hcs hl' hv' hw hS hA hX hM kk
          | none =>
            rw [h3] at hr'
            dsimp only at hr'
            cases h4 : pcl op a b st with
            | some y =>
              obtain ⟨as, s0⟩ := y
              rw [h4] at hr'
              dsimp only at hr'
              obtain ⟨rfl, -⟩ := pcl_spec h4
              cases h5 : prun n a 0 (pen as (mxl a)) [] μ with
              | none => rw [h5] at hr'; cases hr'
              | some z =>
                obtain ⟨pce1, lse1, ste1, μ2⟩ := z
                rw [h5] at hr'
                dsimp only at hr'
                cases h6 : pret a pce1 ste1 with
                | none => rw [h6] at hr'; cases hr'
                | some y =>
                  obtain ⟨k, r⟩ := y
                  rw [h6] at hr'
                  cases k with
                  | succ k => cases hr'
                  | zero => exact call_sd ih C0 hR hcs hl.1 hok hv hw hq hS hA hM h4 h5 h6 (fun H' locs' hv' hw' hS' hM' => ih hq _ _ _ _ _ _ _ _ _ hr' C0 hR hcs hl hv' hw' hS' hA hX hM' kk)
            | none =>
              rw [h4] at hr'
              dsimp only at hr'
              cases h5 : pqs op a b st with
              | some y =>
                obtain ⟨tg, s0⟩ := y
                rw [h5] at hr'
                unfold pqs at h5
                split at h5
                next =>
                  split at h5
                  next x s1 =>
                    cases h5
                    have k := ih hq _ _ _ _ _ _ _ _ _ hr' C0 hR hcs hl (okv_tl hv) hw hS hA hX hM kk
                    have hx := C0.1
                    have hb := C0.2.1
                    rcases hok with ⟨d, lo, hi, offs, len, g1, g2, g5, g6⟩ | ⟨d, ps, len, g1, g2, g3⟩
                    · by_cases hin : lo ≤ x.toInt ∧ x.toInt ≤ hi
                      · obtain ⟨off, k1, k2⟩ := g5 x hin.1 hin.2
                        exact lv_tableIn hx hb g1 (by omega) (by omega) k1 k2 k
                      · rw [g6 x (by omega)] at k
                        exact lv_tableOut hx hb g1 (by omega) g2 k
                    · exact lv_lookup hx hb g1 g2 rfl (g3 x) k
                  next => cases h5
                next => cases h5
              | none =>
                rw [h5] at hr'
                dsimp only at hr'
                by_cases h80 : 80 ≤ op
                · rw [if_pos h80] at hr'
                  cases hr'
                  exact kk H locs lsA hl hv hw hS hM
                · rw [if_neg h80] at hr'; cases hr'
end
section
/-! ===== Int32 by its bits: bt x i ===== -/
def bt (x : Int32) (i : Nat) : Bool := x.toBitVec.getLsbD i
theorem b_ext {x y : Int32} (h : ∀ i, i < 32 → bt x i = bt y i) : x = y := Int32.toBitVec_inj.mp (BitVec.eq_of_getLsbD_eq (fun i hi => h i hi))
theorem b_or (x y : Int32) (i : Nat) : bt (x ||| y) i = (bt x i || bt y i) := by unfold bt; rw [Int32.toBitVec_or, BitVec.getLsbD_or]
theorem b_and (x y : Int32) (i : Nat) : bt (x &&& y) i = (bt x i && bt y i) := by unfold bt; rw [Int32.toBitVec_and, BitVec.getLsbD_and]
theorem b_xor (x y : Int32) (i : Nat) : bt (x ^^^ y) i = (bt x i ^^ bt y i) := by unfold bt; rw [Int32.toBitVec_xor, BitVec.getLsbD_xor]
theorem b_big {x : Int32} {i : Nat} (h : 32 ≤ i) : bt x i = false := BitVec.getLsbD_of_ge _ _ h
theorem b_255 (i : Nat) : bt 255 i = decide (i < 8) := by
  rcases Nat.lt_or_ge i 32 with h | h
  · exact (by decide +kernel : ∀ i, i < 32 → bt 255 i = decide (i < 8)) i h
  · rw [b_big h, decide_eq_false (by omega)]
theorem b_65535 (i : Nat) : bt 65535 i = decide (i < 16) := by
  rcases Nat.lt_or_ge i 32 with h | h
  · exact (by decide +kernel : ∀ i, i < 32 → bt 65535 i = decide (i < 16)) i h
  · rw [b_big h, decide_eq_false (by omega)]
theorem b_m1 : ∀ i, i < 32 → bt (-1) i = true := by decide +kernel
theorem b_0 (i : Nat) : bt 0 i = false := BitVec.getLsbD_zero
theorem s_l : ∀ n, n < 32 → ((nI n &&& 31).toBitVec.smod 32).toNat = n := by decide +kernel
theorem s_u : ∀ n, n < 32 → (((nI n).toUInt32 &&& Int32.toUInt32 31).toBitVec % 32).toNat = n := by decide +kernel
theorem b_shl (n : Nat) (hn : n < 32) (x : Int32) {i : Nat} (hi : i < 32) : bt (x <<< (nI n &&& 31)) i = (decide (n ≤ i) && bt x (i - n)) := by
  unfold bt
  rw [Int32.toBitVec_shiftLeft]
  show (x.toBitVec <<< ((nI n &&& 31).toBitVec.smod 32).toNat).getLsbD i = _
  rw [s_l n hn, BitVec.getLsbD_shiftLeft]
  rcases Nat.lt_or_ge i n with h | h
  · simp [h, Nat.not_le.mpr h]
  · simp [hi, h, Nat.not_lt.mpr h]
theorem b_ushr (n : Nat) (hn : n < 32) (x : Int32) (i : Nat) : bt ((x.toUInt32 >>> ((nI n).toUInt32 &&& Int32.toUInt32 31)).toInt32) i = bt x (n + i) := by
  show (x.toUInt32 >>> ((nI n).toUInt32 &&& Int32.toUInt32 31)).toBitVec.getLsbD i = x.toUInt32.toBitVec.getLsbD (n + i)
  rw [UInt32.toBitVec_shiftRight]
  show (x.toUInt32.toBitVec >>> (((nI n).toUInt32 &&& Int32.toUInt32 31).toBitVec % 32).toNat).getLsbD i = _
  rw [s_u n hn, BitVec.getLsbD_ushiftRight]
theorem b_sshr (n : Nat) (hn : n < 32) (x : Int32) {i : Nat} (hi : i < 32) : bt (x >>> (nI n &&& 31)) i = if n + i < 32 then bt x (n + i) else bt x 31 := by
  unfold bt
  rw [Int32.toBitVec_shiftRight]
  show (x.toBitVec.sshiftRight ((nI n &&& 31).toBitVec.smod 32).toNat).getLsbD i = _
  rw [s_l n hn, BitVec.getLsbD_sshiftRight, BitVec.msb_eq_getLsbD_last]
  simp [hi]
theorem b_shl8 (x : Int32) {i : Nat} (hi : i < 32) : bt (x <<< ((8 : Int32) &&& 31)) i = (decide (8 ≤ i) && bt x (i - 8)) := b_shl 8 (by omega) x hi
theorem b_shl16 (x : Int32) {i : Nat} (hi : i < 32) : bt (x <<< ((16 : Int32) &&& 31)) i = (decide (16 ≤ i) && bt x (i - 16)) := b_shl 16 (by omega) x hi
theorem b_shl24 (x : Int32) {i : Nat} (hi : i < 32) : bt (x <<< ((24 : Int32) &&& 31)) i = (decide (24 ≤ i) && bt x (i - 24)) := b_shl 24 (by omega) x hi
theorem b_sshr8 (x : Int32) {i : Nat} (hi : i < 32) : bt (x >>> ((8 : Int32) &&& 31)) i = if 8 + i < 32 then bt x (8 + i) else bt x 31 := b_sshr 8 (by omega) x hi
/-! Bits of masks; the leaf methods. -/
theorem bt_1 : ∀ i, i < 32 → bt (nI 1) i = decide (i = 0) := by decide +kernel
theorem and_1 (y : Int32) : (y &&& nI 1 = 0) ↔ bt y 0 = false := by
  constructor
  · intro h
    have := congrArg (fun z => bt z 0) h
    simp only [b_and, b_0, bt_1 0 (by omega)] at this
    simpa using this
  · intro h
    apply b_ext
    intro i hi
    rw [b_and, b_0, bt_1 i hi]
    by_cases h0 : i = 0
    · subst h0; simp [h]
    · simp [h0]
theorem shr_1 (x : Int32) {a : Nat} (ha : a < 32) : ((x >>> (nI a &&& 31)) &&& nI 1 = 0) ↔ bt x a = false := by
  rw [and_1, b_sshr a ha x (by omega), Nat.add_zero, if_pos ha]
theorem bt_shl {k i : Nat} (hk : k < 32) (hi : i < 32) : bt (nI 1 <<< (nI k &&& 31)) i = decide (i = k) := by
  rw [b_shl k hk _ hi]
  by_cases h : k ≤ i
  · rw [bt_1 (i - k) (by omega)]
    simp only [h, decide_true, Bool.true_and, decide_eq_decide]
    omega
  · simp only [h, decide_false, Bool.false_and]
    exact (decide_eq_false (by omega)).symm
theorem bt_not (x : Int32) {i : Nat} (hi : i < 32) : bt (x ^^^ (-1)) i = !bt x i := by
  rw [b_xor, b_m1 i hi]
  cases bt x i <;> rfl
theorem bt_eq0 {x : Int32} : x = 0 ↔ ∀ i, i < 32 → bt x i = false := by
  constructor
  · rintro rfl i _; exact b_0 i
  · intro h; apply b_ext; intro i hi; rw [h i hi, b_0]
theorem c_has {μ : PM} {x : Int32} {Q : Option PV → PM → Prop} (h1 : 0 ≤ x → x < μ 2 0 1 → Q (some (pI 1)) μ) (h0 : ¬ (0 ≤ x ∧ x < μ 2 0 1) → Q (some (pI 0)) μ) : Cl 76 [pR 2 0, pI x] μ Q := by
  refine Cl_in rfl ?_
  (repeat refine Ax_step rfl ?_)
  refine Ax_br rfl (fun hb => ?_) (fun hb => ?_)
  · (repeat refine Ax_step rfl ?_)
    refine Ax_rZ rfl (Or.inl rfl) ⟨rfl, h0 (fun z => Int32.not_lt.mpr z.1 hb)⟩
  · (repeat refine Ax_step rfl ?_)
    refine Ax_br rfl (fun hb2 => ?_) (fun hb2 => ?_)
    · (repeat refine Ax_step rfl ?_)
      refine Ax_rZ rfl (Or.inl rfl) ⟨rfl, h0 (fun z => Int32.not_le.mpr z.2 hb2)⟩
    · (repeat refine Ax_step rfl ?_)
      exact Ax_rZ rfl (Or.inr rfl) ⟨rfl, h1 (Int32.not_lt.mp hb) (Int32.not_le.mp hb2)⟩
/-- a truth as the machine has it -/
def bI (b : Bool) : Int32 := if b then 1 else 0
theorem bI_01 (b : Bool) : bI b = 0 ∨ bI b = 1 := by cases b <;> decide
theorem bI_0 {b : Bool} : bI b = 0 ↔ b = false := by cases b <;> decide
theorem c_isOneOf {μ : PM} {a b : Nat} {Q : Option PV → PM → Prop} (ha : a < 32) (hb : b < 10) (h : Q (some (pI (bI (bt (μ 15 0 b) a)))) μ) : Cl 78 [pR 2 0, pI (nI a), pI (nI b)] μ Q := by
  refine Cl_in rfl ?_
  (repeat refine Ax_step rfl ?_)
  refine Ax_ald b rfl rfl hb ?_
  (repeat refine Ax_step rfl ?_)
  refine Ax_br rfl (fun hc => ?_) (fun hc => ?_)
  · rw [(shr_1 _ ha).mp hc] at h
    (repeat refine Ax_step rfl ?_)
    exact Ax_rZ rfl (Or.inl rfl) ⟨rfl, h⟩
  · rw [show bt (μ 15 0 b) a = true by cases hz : bt (μ 15 0 b) a with | true => rfl | false => exact absurd ((shr_1 _ ha).mpr hz) hc] at h
    (repeat refine Ax_step rfl ?_)
    exact Ax_rZ rfl (Or.inr rfl) ⟨rfl, h⟩
theorem c_covers {μ : PM} {m h : Nat} {x : Int32} {Q : Option PV → PM → Prop} (hh : h < 4) (hq : Q (some (pI (bI (decide (μ 44 m h ≤ x ∧ x ≤ μ 45 m h))))) μ) : Cl 57 [pR 40 m, pI (nI h), pI x] μ Q := by
  refine Cl_in rfl ?_
  (repeat refine Ax_step rfl ?_)
  refine Ax_ald h rfl rfl hh ?_
  (repeat refine Ax_step rfl ?_)
  refine Ax_br rfl (fun h1 => ?_) (fun h1 => ?_)
  · (repeat refine Ax_step rfl ?_)
    rw [decide_eq_false (fun z => Int32.not_lt.mpr z.1 h1)] at hq
    exact Ax_rZ rfl (Or.inl rfl) ⟨rfl, hq⟩
  · (repeat refine Ax_step rfl ?_)
    refine Ax_ald h rfl rfl hh ?_
    (repeat refine Ax_step rfl ?_)
    refine Ax_br rfl (fun h2 => ?_) (fun h2 => ?_)
    · (repeat refine Ax_step rfl ?_)
      rw [decide_eq_false (fun z => Int32.not_lt.mpr z.2 h2)] at hq
      exact Ax_rZ rfl (Or.inl rfl) ⟨rfl, hq⟩
    · (repeat refine Ax_step rfl ?_)
      rw [decide_eq_true ⟨Int32.not_lt.mp h1, Int32.not_lt.mp h2⟩] at hq
      exact Ax_rZ rfl (Or.inr rfl) ⟨rfl, hq⟩
/-- the first of the r places from h on that p takes -/
def catF (p : Nat → Bool) : Nat → Nat → Option Nat
  | _, 0 => none
  | h, r + 1 => if p h then some h else catF p (h + 1) r
def ctI : Option Nat → Int32
  | some h => nI h
  | none => -1
/-- handler h of method m takes class c at place x -/
def cp (μ : PM) (m : Nat) (x : Int32) (c h : Nat) : Bool := decide (μ 44 m h ≤ x ∧ x ≤ μ 45 m h) && bt (μ 15 0 (μ 46 m h).toNatClampNeg) c
theorem nI_self {x : Int32} {k : Nat} (h : x = nI k) (hk : k < 2 ^ 31) : x.toNatClampNeg = k := by rw [h]; exact nI_clamp hk
theorem c_catcher {μ : PM} {m n c : Nat} {x : Int32} {Q : Option PV → PM → Prop} (hn : μ 40 m 8 = nI n) (hn4 : n ≤ 4) (hk : ∀ h, h < n → ∃ k, k < 10 ∧ μ 46 m h = nI k) (hc : c < 32) (hq : Q (some (pI (ctI (catF (cp μ m x c) 0 n)))) μ) : Cl 58 [pR 40 m, pI x, pI (nI c), pR 2 0] μ Q := by
  have loop : ∀ r h, h + r = n → Q (some (pI (ctI (catF (cp μ m x c) h r)))) μ → Ax 58 9 [some (pR 40 m), some (pI x), some (pI (nI c)), some (pR 2 0), some (pI (nI h))] [pI (μ 40 m 8), pI (nI h)] μ (fun y r' μ1 => y = 0 ∧ Q r' μ1) := by
    intro r
    induction r with
    | zero =>
      intro h hr hq
      rw [hn]
      refine Ax_br rfl (fun _ => ?_) (fun hb => absurd (nI_le (by omega) (by omega)) hb)
      (repeat refine Ax_step rfl ?_)
      exact Ax_rI rfl ⟨rfl, hq⟩
    | succ r ih =>
      intro h hr hq
      rw [hn]
      refine Ax_br rfl (fun hb => absurd hb (nI_ge (by omega) (by omega))) (fun _ => ?_)
      (repeat refine Ax_step rfl ?_)
      refine Ax_call rfl (c_covers (by omega) ?_)
      obtain ⟨k, hk10, hke⟩ := hk h (by omega)
      have hk2 := nI_self hke (by omega)
      have hp : cp μ m x c h = (decide (μ 44 m h ≤ x ∧ x ≤ μ 45 m h) && bt (μ 15 0 k) c) := by unfold cp; rw [hk2]
      have next : catF (cp μ m x c) h (r + 1) = catF (cp μ m x c) (h + 1) r → Ax 58 40 [some (pR 40 m), some (pI x), some (pI (nI c)), some (pR 2 0), some (pI (nI h))] [] μ (fun y r' μ1 => y = 0 ∧ Q r' μ1) := by
        intro e
        rw [e] at hq
        (repeat refine Ax_step rfl ?_)
        rw [nI_add]
        exact ih (h + 1) (by omega) hq
      refine Ax_br rfl (fun hb => ?_) (fun hb => ?_)
      · refine next ?_
        rw [catF, hp, bI_0.mp hb]; rfl
      · (repeat refine Ax_step rfl ?_)
        refine Ax_ald h rfl rfl (show h < 4 by omega) ?_
        rw [hke]
        refine Ax_call rfl (c_isOneOf hc hk10 ?_)
        refine Ax_br rfl (fun hb2 => ?_) (fun hb2 => ?_)
        · refine next ?_
          rw [catF, hp, bI_0.mp hb2]; simp
        · (repeat refine Ax_step rfl ?_)
          refine Ax_rI rfl ⟨rfl, ?_⟩
          have e1 : decide (μ 44 m h ≤ x ∧ x ≤ μ 45 m h) = true := by cases hz : decide (μ 44 m h ≤ x ∧ x ≤ μ 45 m h) with | true => rfl | false => exact absurd (bI_0.mpr hz) hb
          have e2 : bt (μ 15 0 k) c = true := by cases hz : bt (μ 15 0 k) c with | true => rfl | false => exact absurd (bI_0.mpr hz) hb2
          rw [catF, hp, e1, e2] at hq
          exact hq
  refine Cl_in rfl ?_
  (repeat refine Ax_step rfl ?_)
  exact loop n 0 (by omega) hq
end
section
/-! The text as numbers; what the flow's small methods answer. -/
def tn (x : Int32) : Nat := x.toNatClampNeg
def szm (μ : PM) (m : Nat) : Nat := tn (μ 40 m 3)
def hcm (μ : PM) (m : Nat) : Nat := tn (μ 40 m 8)
def kct (μ : PM) : Nat := tn (μ 2 0 1)
def mct (μ : PM) : Nat := tn (μ 1 0 2)
/-- an instruction as the document allows it, where there are K classes -/
def vI (K : Nat) (c a b : Int32) : Prop := ∃ k : Nat, c = nI k ∧ k < 10 ∧ ((k = 0 ∨ k = 8 ∨ k = 9) → ∃ x, x < 4 ∧ a = nI x) ∧ ((k = 1 ∨ k = 2 ∨ k = 3) → (∃ x, x < 4 ∧ a = nI x) ∧ ∃ y, y < 4 ∧ b = nI y) ∧ (k = 4 → ∃ x, x < 24 ∧ a = nI x) ∧ (k = 5 → (∃ x, x < 4 ∧ a = nI x) ∧ ∃ y, y < 24 ∧ b = nI y) ∧ (k = 6 → (∃ x, x < 4 ∧ a = nI x) ∧ ∃ y, y < 8 ∧ b = nI y) ∧ (k = 7 → ∃ x, x < K ∧ a = nI x)
def vH (K : Nat) (f l k t : Int32) : Prop := (∃ x, x < 24 ∧ f = nI x) ∧ (∃ x, x < 24 ∧ l = nI x) ∧ (∃ x, x < K ∧ k = nI x) ∧ ∃ x, x < 24 ∧ t = nI x
def TI (μ : PM) : Prop := (μ 2 0 1 = nI (kct μ) ∧ 3 ≤ kct μ ∧ kct μ ≤ 10) ∧ (μ 1 0 2 = nI (mct μ) ∧ mct μ ≤ 8) ∧
  (∀ m, m < 8 → (μ 40 m 3 = nI (szm μ m) ∧ szm μ m ≤ 24) ∧ (μ 40 m 8 = nI (hcm μ m) ∧ hcm μ m ≤ 4) ∧ (mct μ ≤ m → szm μ m = 0 ∧ hcm μ m = 0)) ∧
  (∀ m i, m < 8 → i < szm μ m → vI (kct μ) (μ 41 m i) (μ 42 m i) (μ 43 m i)) ∧ (∀ m h, m < 8 → h < hcm μ m → vH (kct μ) (μ 44 m h) (μ 45 m h) (μ 46 m h) (μ 47 m h))
theorem TI.k {μ : PM} (h : TI μ) : μ 2 0 1 = nI (kct μ) ∧ 3 ≤ kct μ ∧ kct μ ≤ 10 := h.1
theorem TI.m {μ : PM} (h : TI μ) : μ 1 0 2 = nI (mct μ) ∧ mct μ ≤ 8 := h.2.1
theorem TI.s {μ : PM} (h : TI μ) {m : Nat} (hm : m < 8) : μ 40 m 3 = nI (szm μ m) ∧ szm μ m ≤ 24 := (h.2.2.1 m hm).1
theorem TI.h {μ : PM} (h : TI μ) {m : Nat} (hm : m < 8) : μ 40 m 8 = nI (hcm μ m) ∧ hcm μ m ≤ 4 := (h.2.2.1 m hm).2.1
theorem TI.out {μ : PM} (h : TI μ) {m : Nat} (hm : m < 8) (hc : mct μ ≤ m) : szm μ m = 0 ∧ hcm μ m = 0 := (h.2.2.1 m hm).2.2 hc
theorem TI.i {μ : PM} (h : TI μ) {m i : Nat} (hm : m < 8) (hi : i < szm μ m) : vI (kct μ) (μ 41 m i) (μ 42 m i) (μ 43 m i) := h.2.2.2.1 m i hm hi
theorem TI.hd {μ : PM} (h : TI μ) {m i : Nat} (hm : m < 8) (hi : i < hcm μ m) : vH (kct μ) (μ 44 m i) (μ 45 m i) (μ 46 m i) (μ 47 m i) := h.2.2.2.2 m i hm hi
theorem TI.hk {μ : PM} (h : TI μ) {m : Nat} (hm : m < 8) : ∀ i, i < hcm μ m → ∃ k, k < 10 ∧ μ 46 m i = nI k := by
  intro i hi
  obtain ⟨-, -, ⟨x, hx, e⟩, -⟩ := h.hd hm hi
  exact ⟨x, by have := h.k.2.2; omega, e⟩
def opc (μ : PM) (m i : Nat) : Nat := tn (μ 41 m i)
def oa (μ : PM) (m i : Nat) : Nat := tn (μ 42 m i)
def ob (μ : PM) (m i : Nat) : Nat := tn (μ 43 m i)
def cat (μ : PM) (m i c : Nat) : Option Nat := catF (cp μ m (nI i) c) 0 (hcm μ m)
/-- the door through which class c goes that is raised at (m, i) -/
def thr (μ : PM) (m i c : Nat) : Nat := m * 5 + (cat μ m i c).getD 4
/-- the door whose classes (m, i) raises too -/
def src (μ : PM) (m i : Nat) : Option Nat := if opc μ m i = 6 then some (ob μ m i * 5 + 4) else if opc μ m i = 8 then some (m * 5 + oa μ m i) else none
def own (μ : PM) (m i c : Nat) : Bool := (decide (opc μ m i = 7) && decide (oa μ m i = c)) || (decide (opc μ m i = 3) && decide (c = 1)) || (decide (opc μ m i = 6) && decide (c = 2))
theorem catF_lt {p : Nat → Bool} : ∀ (r h k : Nat), catF p h r = some k → h ≤ k ∧ k < h + r ∧ p k = true ∧ ∀ j, h ≤ j → j < k → p j = false
  | 0, _, _, e => by cases e
  | r + 1, h, k, e => by
    unfold catF at e
    by_cases hp : p h = true
    · rw [if_pos hp] at e; cases e
      exact ⟨Nat.le_refl _, by omega, hp, fun j h1 h2 => by omega⟩
    · rw [if_neg hp] at e
      obtain ⟨h1, h2, h3, h4⟩ := catF_lt r (h + 1) k e
      refine ⟨by omega, by omega, h3, fun j g1 g2 => ?_⟩
      by_cases hj : j = h
      · subst hj; simpa using hp
      · exact h4 j (by omega) g2
theorem TI.cat_lt {μ : PM} (h : TI μ) {m i c k : Nat} (hm : m < 8) (e : cat μ m i c = some k) : k < 4 := by
  have := catF_lt _ _ _ e
  have := (h.h hm).2
  omega
theorem TI.thr_lt {μ : PM} (h : TI μ) {m i c : Nat} (hm : m < 8) : thr μ m i c < 40 ∧ thr μ m i c / 5 = m := by
  unfold thr
  cases e : cat μ m i c with
  | none => show m * 5 + 4 < 40 ∧ (m * 5 + 4) / 5 = m; omega
  | some k => have := h.cat_lt hm e; show m * 5 + k < 40 ∧ (m * 5 + k) / 5 = m; omega
section P11
variable {μ : PM} {m i c : Nat} {Q : Option PV → PM → Prop}
theorem c_goes (hT : TI μ) (hm : m < 8) (hi : i < 24) (hc : c < 32) (hq : Q (some (pI (nI (thr μ m i c)))) μ) : Cl 68 [pR 4 0, pI (nI m), pI (nI i), pI (nI c)] μ Q := by
  refine Cl_in rfl ?_
  (repeat refine Ax_step rfl ?_)
  refine Ax_aal m rfl rfl hm ?_
  (repeat refine Ax_step rfl ?_)
  refine Ax_call rfl (c_catcher (hT.h hm).1 (hT.h hm).2 (hT.hk hm) hc ?_)
  (repeat refine Ax_step rfl ?_)
  unfold thr at hq
  change Q (some (pI (nI (m * 5 + (catF (cp μ m (nI i) c) 0 (hcm μ m)).getD 4)))) μ at hq
  cases e : catF (cp μ m (nI i) c) 0 (hcm μ m) with
  | none =>
    rw [e] at hq
    refine Ax_br rfl (fun hb => absurd rfl hb) (fun _ => ?_)
    (repeat refine Ax_step rfl ?_)
    refine Ax_call rfl (Cl_in rfl ?_)
    (repeat refine Ax_step rfl ?_)
    rw [pk_mul, nI_add]
    refine Ax_rI rfl ⟨rfl, ?_⟩
    (repeat refine Ax_step rfl ?_)
    exact Ax_rI rfl ⟨rfl, hq⟩
  | some k =>
    rw [e] at hq
    have hk : k < 4 := hT.cat_lt hm e
    refine Ax_br rfl (fun _ => ?_) (fun hb => absurd (fun z => ?_) hb)
    · (repeat refine Ax_step rfl ?_)
      refine Ax_call rfl (Cl_in rfl ?_)
      (repeat refine Ax_step rfl ?_)
      show Ax 59 5 _ [pI (nI m * nI 5 + nI k)] _ _
      rw [pk_mul, nI_add]
      refine Ax_rI rfl ⟨rfl, ?_⟩
      (repeat refine Ax_step rfl ?_)
      exact Ax_rI rfl ⟨rfl, hq⟩
    · have : (nI k).toInt = -1 := congrArg Int32.toInt z
      rw [nI_toInt (by omega)] at this
      omega
theorem c_lengthAt (hm : m < 8) (hi : i < 24) (hc : c < 10) (hq : Q (some (pI (if bt (μ 5 0 (m * 24 + i)) c then μ 6 0 (c * 192 + (m * 24 + i)) else 0))) μ) : Cl 67 [pR 4 0, pI (nI m), pI (nI i), pI (nI c)] μ Q := by
  refine Cl_in rfl ?_
  (repeat refine Ax_step rfl ?_)
  refine Ax_call rfl (Cl_in rfl ?_)
  (repeat refine Ax_step rfl ?_)
  rw [pk_mul, nI_add]
  refine Ax_rI rfl ⟨rfl, ?_⟩
  (repeat refine Ax_step rfl ?_)
  refine Ax_ald (m * 24 + i) rfl rfl (show m * 24 + i < 192 by omega) ?_
  (repeat refine Ax_step rfl ?_)
  refine Ax_br rfl (fun hb => ?_) (fun hb => ?_)
  · rw [(shr_1 _ (by omega)).mp hb] at hq
    (repeat refine Ax_step rfl ?_)
    refine Ax_br rfl (fun _ => ?_) (fun hb => absurd rfl hb)
    (repeat refine Ax_step rfl ?_)
    exact Ax_rI rfl ⟨rfl, hq⟩
  · rw [show bt (μ 5 0 (m * 24 + i)) c = true by cases hz : bt (μ 5 0 (m * 24 + i)) c with | true => rfl | false => exact absurd ((shr_1 _ (by omega)).mpr hz) hb] at hq
    (repeat refine Ax_step rfl ?_)
    refine Ax_br rfl (fun hb => absurd hb (by decide)) (fun _ => ?_)
    (repeat refine Ax_step rfl ?_)
    refine Ax_ald (c * 192 + (m * 24 + i)) rfl (by rw [pk_mul, nI_add]) (show c * 192 + (m * 24 + i) < 1920 by omega) ?_
    (repeat refine Ax_step rfl ?_)
    exact Ax_rI rfl ⟨rfl, hq⟩
theorem psw_at {l : List (Nat × Nat)} {d k : Nat} {x : Int32} (hx : x = nI k) (hk : k < 1000) (hl : l.all (fun p => decide (p.1 < 1000)) = true) : psw l d x = match l.find? (fun p => p.1 == k) with | some p => p.2 | none => d := by
  subst hx
  induction l with
  | nil => rfl
  | cons p l ih =>
    obtain ⟨a, t⟩ := p
    simp only [List.all_cons, Bool.and_eq_true, decide_eq_true_eq] at hl
    show (if nI k = nI a then t else psw l d (nI k)) = _
    by_cases h : k = a
    · subst h; simp [List.find?]
    · rw [if_neg (fun z => h ((nI_eq (by omega) (by omega)).mp z)), ih hl.2, List.find?_cons_of_neg (by simpa using fun z => h z.symm)]
theorem c_source (hT : TI μ) (hm : m < 8) (hi : i < szm μ m) (hq : Q (some (pI (ctI (src μ m i)))) μ) : Cl 69 [pR 4 0, pI (nI m), pI (nI i)] μ Q := by
  have hi24 : i < 24 := by have := (hT.s hm).2; omega
  obtain ⟨k, hc, hk, h0, h1, h4, h5, h6, h7⟩ := hT.i hm hi
  have hk2 : opc μ m i = k := nI_self hc (by omega)
  unfold src at hq
  rw [hk2] at hq
  refine Cl_in rfl ?_
  (repeat refine Ax_step rfl ?_)
  refine Ax_aal m rfl rfl hm ?_
  (repeat refine Ax_step rfl ?_)
  refine Ax_ald i rfl rfl hi24 ?_
  refine Ax_sw rfl ?_
  rw [psw_at hc (by omega) rfl]
  by_cases e6 : k = 6
  · subst e6
    obtain ⟨-, y, hy, e⟩ := h6 rfl
    rw [if_pos rfl, show ob μ m i = y from nI_self e (by omega)] at hq
    show Ax 69 44 _ _ _ _
    (repeat refine Ax_step rfl ?_)
    refine Ax_ald i rfl rfl hi24 ?_
    rw [e]
    refine Ax_call rfl (Cl_in rfl ?_)
    (repeat refine Ax_step rfl ?_)
    rw [pk_mul, nI_add]
    refine Ax_rI rfl ⟨rfl, ?_⟩
    exact Ax_rI rfl ⟨rfl, hq⟩
  · rw [if_neg e6] at hq
    by_cases e8 : k = 8
    · subst e8
      obtain ⟨y, hy, e⟩ := h0 (Or.inr (Or.inl rfl))
      rw [if_pos rfl, show oa μ m i = y from nI_self e (by omega)] at hq
      show Ax 69 54 _ _ _ _
      (repeat refine Ax_step rfl ?_)
      refine Ax_ald i rfl rfl hi24 ?_
      rw [e]
      refine Ax_call rfl (Cl_in rfl ?_)
      (repeat refine Ax_step rfl ?_)
      rw [pk_mul, nI_add]
      refine Ax_rI rfl ⟨rfl, ?_⟩
      exact Ax_rI rfl ⟨rfl, hq⟩
    · rw [if_neg e8] at hq
      have e : (match ([(6, 44), (8, 54)] : List (Nat × Nat)).find? (fun p => p.1 == k) with | some p => p.2 | none => 65) = 65 := by
        rw [List.find?_cons_of_neg (by simpa using fun z => e6 z.symm), List.find?_cons_of_neg (by simpa using fun z => e8 z.symm)]; rfl
      have e2 : pswt 2 = [(6, 44), (8, 54)] := rfl
      first
        | (show Ax 69 (match ([(6, 44), (8, 54)] : List (Nat × Nat)).find? (fun p => p.1 == k) with | some p => p.2 | none => 65) _ _ _ _; rw [e])
      (repeat refine Ax_step rfl ?_)
      exact Ax_rI rfl ⟨rfl, hq⟩
theorem c_own (hT : TI μ) (hm : m < 8) (hi : i < szm μ m) (hq : ∀ x : Int32, (∀ c, c < 32 → bt x c = own μ m i c) → Q (some (pI x)) μ) : Cl 70 [pR 4 0, pI (nI m), pI (nI i)] μ Q := by
  have hi24 : i < 24 := by have := (hT.s hm).2; omega
  obtain ⟨k, hc, hk, h0, h1, h4, h5, h6, h7⟩ := hT.i hm hi
  have hk2 : opc μ m i = k := nI_self hc (by omega)
  refine Cl_in rfl ?_
  (repeat refine Ax_step rfl ?_)
  refine Ax_aal m rfl rfl hm ?_
  (repeat refine Ax_step rfl ?_)
  refine Ax_ald i rfl rfl hi24 ?_
  refine Ax_sw rfl ?_
  rw [psw_at hc (by omega) rfl]
  have hq' : ∀ x : Int32, (∀ c, c < 32 → bt x c = ((decide (k = 7) && decide (oa μ m i = c)) || (decide (k = 3) && decide (c = 1)) || (decide (k = 6) && decide (c = 2)))) → Q (some (pI x)) μ := by
    intro x hx
    refine hq x (fun c h => ?_)
    unfold own
    rw [hk2]
    exact hx c h
  have bt2 : ∀ i, i < 32 → bt (nI 2) i = decide (i = 1) := by decide +kernel
  have bt4 : ∀ i, i < 32 → bt (nI 4) i = decide (i = 2) := by decide +kernel
  match k, hk with
  | 7, _ =>
    obtain ⟨y, hy, e⟩ := h7 rfl
    have hy2 : y < 10 := by have := hT.k.2.2; omega
    show Ax 70 52 _ _ _ _
    (repeat refine Ax_step rfl ?_)
    refine Ax_ald i rfl rfl hi24 ?_
    rw [e]
    (repeat refine Ax_step rfl ?_)
    refine Ax_rI rfl ⟨rfl, hq' _ (fun c h => ?_)⟩
    rw [bt_shl (by omega) h, show oa μ m i = y from nI_self e (by omega)]
    simp [eq_comm]
  | 3, _ =>
    show Ax 70 61 _ _ _ _
    (repeat refine Ax_step rfl ?_)
    exact Ax_rI rfl ⟨rfl, hq' _ (fun c h => by rw [bt2 c h]; simp)⟩
  | 6, _ =>
    show Ax 70 63 _ _ _ _
    (repeat refine Ax_step rfl ?_)
    exact Ax_rI rfl ⟨rfl, hq' _ (fun c h => by rw [bt4 c h]; simp)⟩
  | 0, _ => show Ax 70 65 _ _ _ _; (repeat refine Ax_step rfl ?_); exact Ax_rI rfl ⟨rfl, hq' _ (fun c h => by rw [nI_0, b_0]; simp)⟩
  | 1, _ => show Ax 70 65 _ _ _ _; (repeat refine Ax_step rfl ?_); exact Ax_rI rfl ⟨rfl, hq' _ (fun c h => by rw [nI_0, b_0]; simp)⟩
  | 2, _ => show Ax 70 65 _ _ _ _; (repeat refine Ax_step rfl ?_); exact Ax_rI rfl ⟨rfl, hq' _ (fun c h => by rw [nI_0, b_0]; simp)⟩
  | 4, _ => show Ax 70 65 _ _ _ _; (repeat refine Ax_step rfl ?_); exact Ax_rI rfl ⟨rfl, hq' _ (fun c h => by rw [nI_0, b_0]; simp)⟩
  | 5, _ => show Ax 70 65 _ _ _ _; (repeat refine Ax_step rfl ?_); exact Ax_rI rfl ⟨rfl, hq' _ (fun c h => by rw [nI_0, b_0]; simp)⟩
  | 8, _ => show Ax 70 65 _ _ _ _; (repeat refine Ax_step rfl ?_); exact Ax_rI rfl ⟨rfl, hq' _ (fun c h => by rw [nI_0, b_0]; simp)⟩
  | 9, _ => show Ax 70 65 _ _ _ _; (repeat refine Ax_step rfl ?_); exact Ax_rI rfl ⟨rfl, hq' _ (fun c h => by rw [nI_0, b_0]; simp)⟩
  | n + 10, h => omega
end P11
end
section
/-! What stays where the text stays; note and openDoors. -/
theorem pu_s {μ : PM} {t m j : Nat} {x : Int32} : pu μ t m j x t m j = x := if_pos ⟨rfl, rfl, rfl⟩
theorem pu_t {μ : PM} {t m j t' m' j' : Nat} {x : Int32} (h : t' ≠ t) : pu μ t m j x t' m' j' = μ t' m' j' := if_neg (fun z => h z.1)
theorem pu_m {μ : PM} {t m j t' m' j' : Nat} {x : Int32} (h : m' ≠ m) : pu μ t m j x t' m' j' = μ t' m' j' := if_neg (fun z => h z.2.1)
theorem pu_j {μ : PM} {t m j t' m' j' : Nat} {x : Int32} (h : j' ≠ j) : pu μ t m j x t' m' j' = μ t' m' j' := if_neg (fun z => h z.2.2)
def ts (μ μ' : PM) : Prop := (∀ m j, μ' 1 m j = μ 1 m j) ∧ (∀ m j, μ' 2 m j = μ 2 m j) ∧ (∀ m j, μ' 15 m j = μ 15 m j) ∧ ∀ t m j, 40 ≤ t → μ' t m j = μ t m j
theorem ts.of {μ μ' : PM} {S : Nat → Prop} (h : ∀ t m j, ¬ S t → μ' t m j = μ t m j) (h1 : ¬ S 1) (h2 : ¬ S 2) (h15 : ¬ S 15) (h40 : ∀ t, 40 ≤ t → ¬ S t) : ts μ μ' := ⟨fun m j => h 1 m j h1, fun m j => h 2 m j h2, fun m j => h 15 m j h15, fun t m j ht => h t m j (h40 t ht)⟩
theorem ts.rf (μ : PM) : ts μ μ := ⟨fun _ _ => rfl, fun _ _ => rfl, fun _ _ => rfl, fun _ _ _ _ => rfl⟩
theorem ts.tr {a b c : PM} (h : ts a b) (g : ts b c) : ts a c := ⟨fun m j => (g.1 m j).trans (h.1 m j), fun m j => (g.2.1 m j).trans (h.2.1 m j), fun m j => (g.2.2.1 m j).trans (h.2.2.1 m j), fun t m j ht => (g.2.2.2 t m j ht).trans (h.2.2.2 t m j ht)⟩
theorem ts.pu {μ : PM} {t m j : Nat} {x : Int32} (h1 : t ≠ 1) (h2 : t ≠ 2) (h15 : t ≠ 15) (h40 : t < 40) : ts μ (pu μ t m j x) := ⟨fun _ _ => pu_t (Ne.symm h1), fun _ _ => pu_t (Ne.symm h2), fun _ _ => pu_t (Ne.symm h15), fun t' _ _ ht => pu_t (by omega)⟩
section TS
variable {μ μ' : PM}
theorem ts_szm (h : ts μ μ') (m : Nat) : szm μ' m = szm μ m := congrArg tn (h.2.2.2 40 m 3 (by omega))
theorem ts_hcm (h : ts μ μ') (m : Nat) : hcm μ' m = hcm μ m := congrArg tn (h.2.2.2 40 m 8 (by omega))
theorem ts_kct (h : ts μ μ') : kct μ' = kct μ := congrArg tn (h.2.1 0 1)
theorem ts_mct (h : ts μ μ') : mct μ' = mct μ := congrArg tn (h.1 0 2)
theorem ts_cp (h : ts μ μ') (m : Nat) (x : Int32) (c : Nat) : cp μ' m x c = cp μ m x c := by
  funext k
  unfold cp
  rw [h.2.2.2 44 m k (by omega), h.2.2.2 45 m k (by omega), h.2.2.2 46 m k (by omega), h.2.2.1]
theorem ts_cat (h : ts μ μ') (m i c : Nat) : cat μ' m i c = cat μ m i c := by
  unfold cat
  rw [ts_cp h, ts_hcm h]
theorem ts_thr (h : ts μ μ') (m i c : Nat) : thr μ' m i c = thr μ m i c := by unfold thr; rw [ts_cat h]
theorem ts_opc (h : ts μ μ') (m i : Nat) : opc μ' m i = opc μ m i := congrArg tn (h.2.2.2 41 m i (by omega))
theorem ts_oa (h : ts μ μ') (m i : Nat) : oa μ' m i = oa μ m i := congrArg tn (h.2.2.2 42 m i (by omega))
theorem ts_ob (h : ts μ μ') (m i : Nat) : ob μ' m i = ob μ m i := congrArg tn (h.2.2.2 43 m i (by omega))
theorem ts_src (h : ts μ μ') (m i : Nat) : src μ' m i = src μ m i := by unfold src; rw [ts_opc h, ts_oa h, ts_ob h]
theorem ts_own (h : ts μ μ') (m i c : Nat) : own μ' m i c = own μ m i c := by unfold own; rw [ts_opc h, ts_oa h]
theorem ts_TI (h : ts μ μ') (hT : TI μ) : TI μ' := by
  obtain ⟨a1, a2, a3, a4, a5⟩ := hT
  refine ⟨by rw [ts_kct h, h.2.1]; exact a1, by rw [ts_mct h, h.1]; exact a2, fun m hm => ?_, fun m i hm hi => ?_, fun m i hm hi => ?_⟩
  · rw [ts_szm h, ts_hcm h, ts_mct h, h.2.2.2 40 m 3 (by omega), h.2.2.2 40 m 8 (by omega)]; exact a3 m hm
  · rw [ts_kct h, h.2.2.2 41 m i (by omega), h.2.2.2 42 m i (by omega), h.2.2.2 43 m i (by omega)]
    rw [ts_szm h] at hi
    exact a4 m i hm hi
  · rw [ts_kct h, h.2.2.2 44 m i (by omega), h.2.2.2 45 m i (by omega), h.2.2.2 46 m i (by omega), h.2.2.2 47 m i (by omega)]
    rw [ts_hcm h] at hi
    exact a5 m i hm hi
end TS
def ntP (μ μ' : PM) (m i : Nat) (set len : Int32) : Prop :=
  (∀ t mm j, t ≠ 5 → t ≠ 6 → t ≠ 9 → μ' t mm j = μ t mm j) ∧ (∀ p, p ≠ m * 24 + i → μ' 5 0 p = μ 5 0 p) ∧ (∀ c, c < 32 → bt (μ' 5 0 (m * 24 + i)) c = (bt (μ 5 0 (m * 24 + i)) c || bt set c)) ∧
  (∀ c p, c < 10 → p < 192 → μ' 6 0 (c * 192 + p) = if p = m * 24 + i ∧ bt set c = true ∧ bt (μ 5 0 (m * 24 + i)) c = false then len else μ 6 0 (c * 192 + p)) ∧
  (∀ d c, d < 40 → c < 32 → bt (μ' 9 0 d) c = (bt (μ 9 0 d) c || (bt set c && !bt (μ 5 0 (m * 24 + i)) c && decide (thr μ m i c = d))))
theorem c_note {μ : PM} {m i : Nat} {set len : Int32} {Q : Option PV → PM → Prop} (hT : TI μ) (hm : m < 8) (hi : i < 24) (hset : ∀ c, 10 ≤ c → c < 32 → bt set c = false) (hq : ∀ μ', ntP μ μ' m i set len → Q none μ') : Cl 75 [pR 4 0, pI (nI m), pI (nI i), pI set, pI len] μ Q := by
  have hP : m * 24 + i < 192 := by omega
  generalize hPe : m * 24 + i = P at hP
  generalize han : set &&& (μ 5 0 P ^^^ (-1)) = an
  have hbn : ∀ c, c < 32 → bt an c = (bt set c && !bt (μ 5 0 P) c) := fun c hc => by rw [← han, b_and, bt_not _ hc]
  refine Cl_in rfl ?_
  (repeat refine Ax_step rfl ?_)
  refine Ax_call rfl (Cl_in rfl ?_)
  (repeat refine Ax_step rfl ?_)
  rw [pk_mul, nI_add, hPe]
  refine Ax_rI rfl ⟨rfl, ?_⟩
  (repeat refine Ax_step rfl ?_)
  refine Ax_ald P rfl rfl hP ?_
  (repeat refine Ax_step rfl ?_)
  rw [han]
  refine Ax_br rfl (fun h0 => ?_) (fun h0 => ?_)
  · (repeat refine Ax_step rfl ?_)
    refine Ax_ald P rfl rfl hP ?_
    (repeat refine Ax_step rfl ?_)
    refine Ax_ast P rfl rfl hP ?_
    (repeat refine Ax_step rfl ?_)
    generalize hμ1 : pu μ 5 0 P (μ 5 0 P ||| an) = μ1
    have loop : ∀ r k, k + r = 10 → ∀ μk : PM, (∀ t mm j, t ≠ 6 → t ≠ 9 → μk t mm j = μ1 t mm j) → (∀ c p, c < 10 → p < 192 → μk 6 0 (c * 192 + p) = if c < k ∧ p = P ∧ bt an c = true then len else μ 6 0 (c * 192 + p)) →
        (∀ d c, d < 40 → c < 32 → bt (μk 9 0 d) c = (bt (μ 9 0 d) c || (decide (c < k) && bt an c && decide (thr μ m i c = d)))) →
        Ax 75 45 [some (pR 4 0), some (pI (nI m)), some (pI (nI i)), some (pI set), some (pI len), some (pI (nI P)), some (pI an), some (pI (nI k))] [pI (nI 10), pI (nI k)] μk (fun y r' μ1 => y = 0 ∧ Q r' μ1) := by
      intro r
      induction r with
      | zero =>
        intro k hk μk hA hB hC
        refine Ax_br rfl (fun _ => ?_) (fun hb => absurd (nI_le (by omega) (by omega)) hb)
        (repeat refine Ax_step rfl ?_)
        refine Ax_rV rfl ⟨rfl, hq μk ⟨fun t mm j h5 h6 h9 => ?_, fun p hp => ?_, fun c hc => ?_, fun c p hc hp => ?_, fun d c hd hc => ?_⟩⟩
        · rw [hA t mm j h6 h9, ← hμ1]; exact pu_t h5
        · rw [hA 5 0 p (by omega) (by omega), ← hμ1]; exact pu_j (by rw [← hPe]; exact hp)
        · rw [hPe, hA 5 0 P (by omega) (by omega), ← hμ1, pu_s, b_or, hbn c hc]
          cases bt (μ 5 0 P) c <;> cases bt set c <;> rfl
        · rw [hB c p hc hp, hPe]
          have := hbn c (by omega)
          have e : (c < k ∧ p = P ∧ bt an c = true) ↔ (p = P ∧ bt set c = true ∧ bt (μ 5 0 P) c = false) := by
            rw [this, Bool.and_eq_true, Bool.not_eq_true']
            constructor
            · rintro ⟨-, h⟩; exact h
            · intro h; exact ⟨by omega, h⟩
          by_cases h : p = P ∧ bt set c = true ∧ bt (μ 5 0 P) c = false
          · rw [if_pos h, if_pos (e.mpr h)]
          · rw [if_neg h, if_neg (fun z => h (e.mp z))]
        · rw [hC d c hd hc, hPe, hbn c hc]
          by_cases hc10 : c < 10
          · rw [decide_eq_true (show c < k by omega), Bool.true_and]
          · rw [hset c (by omega) hc]; simp
      | succ r ih =>
        intro k hk μk hA hB hC
        refine Ax_br rfl (fun hb => absurd hb (nI_ge (by omega) (by omega))) (fun _ => ?_)
        (repeat refine Ax_step rfl ?_)
        refine Ax_br rfl (fun hb => ?_) (fun hb => ?_)
        · have hbk := (shr_1 _ (by omega)).mp hb
          (repeat refine Ax_step rfl ?_)
          rw [nI_add]
          refine ih (k + 1) (by omega) μk hA (fun c p hc hp => ?_) (fun d c hd hc => ?_)
          · rw [hB c p hc hp]
            have e : (c < k ∧ p = P ∧ bt an c = true) ↔ (c < k + 1 ∧ p = P ∧ bt an c = true) := by
              constructor
              · rintro ⟨h1, h2⟩; exact ⟨by omega, h2⟩
              · rintro ⟨h1, h2, h3⟩
                refine ⟨?_, h2, h3⟩
                by_cases hck : c = k
                · subst hck; rw [hbk] at h3; cases h3
                · omega
            by_cases h : c < k ∧ p = P ∧ bt an c = true
            · rw [if_pos h, if_pos (e.mp h)]
            · rw [if_neg h, if_neg (fun z => h (e.mpr z))]
          · rw [hC d c hd hc]
            by_cases hck : c = k
            · subst hck; rw [hbk]; simp
            · rw [decide_eq_decide.mpr (show c < k ↔ c < k + 1 by omega)]
        · have hbk : bt an k = true := by cases hz : bt an k with | true => rfl | false => exact absurd ((shr_1 _ (by omega)).mpr hz) hb
          (repeat refine Ax_step rfl ?_)
          refine Ax_ast (k * 192 + P) rfl (by rw [pk_mul, nI_add]) (show k * 192 + P < 1920 by omega) ?_
          (repeat refine Ax_step rfl ?_)
          have htsk : ts μ μk := ⟨fun mm j => by rw [hA 1 mm j (by omega) (by omega), ← hμ1]; exact pu_t (by omega), fun mm j => by rw [hA 2 mm j (by omega) (by omega), ← hμ1]; exact pu_t (by omega), fun mm j => by rw [hA 15 mm j (by omega) (by omega), ← hμ1]; exact pu_t (by omega), fun t mm j ht => by rw [hA t mm j (by omega) (by omega), ← hμ1]; exact pu_t (by omega)⟩
          have hts : ts μ (pu μk 6 0 (k * 192 + P) len) := htsk.tr (ts.pu (by omega) (by omega) (by omega) (by omega))
          refine Ax_call rfl (c_goes (ts_TI hts hT) hm hi (by omega) ?_)
          rw [ts_thr hts]
          have hD := (hT.thr_lt (i := i) (c := k) hm).1
          (repeat refine Ax_step rfl ?_)
          refine Ax_ald (thr μ m i k) rfl rfl hD ?_
          (repeat refine Ax_step rfl ?_)
          refine Ax_ast (thr μ m i k) rfl rfl hD ?_
          (repeat refine Ax_step rfl ?_)
          rw [nI_add]
          refine ih (k + 1) (by omega) _ (fun t mm j h6 h9 => ?_) (fun c p hc hp => ?_) (fun d c hd hc => ?_)
          · rw [pu_t h9, pu_t h6]; exact hA t mm j h6 h9
          · rw [pu_t (by omega)]
            by_cases hcp : c = k ∧ p = P
            · obtain ⟨rfl, rfl⟩ := hcp
              rw [pu_s, if_pos ⟨by omega, rfl, hbk⟩]
            · rw [pu_j (by omega), hB c p hc hp]
              have e : (c < k ∧ p = P ∧ bt an c = true) ↔ (c < k + 1 ∧ p = P ∧ bt an c = true) := by
                constructor
                · rintro ⟨h1, h2⟩; exact ⟨by omega, h2⟩
                · rintro ⟨h1, h2, h3⟩; exact ⟨by omega, h2, h3⟩
              by_cases h : c < k ∧ p = P ∧ bt an c = true
              · rw [if_pos h, if_pos (e.mp h)]
              · rw [if_neg h, if_neg (fun z => h (e.mpr z))]
          · by_cases hdd : d = thr μ m i k
            · subst hdd
              rw [pu_s, pu_t (by omega), b_or, hC _ c hd hc, bt_shl (by omega) hc]
              by_cases hck : c = k
              · subst hck; rw [hbk]; simp
              · rw [decide_eq_false hck, Bool.or_false, decide_eq_decide.mpr (show c < k ↔ c < k + 1 by omega)]
            · rw [pu_j hdd, pu_t (by omega), hC d c hd hc]
              by_cases hck : c = k
              · subst hck; rw [decide_eq_false (p := thr μ m i c = d) (fun z => hdd z.symm)]; simp
              · rw [decide_eq_decide.mpr (show c < k ↔ c < k + 1 by omega)]
    refine loop 10 0 (by omega) μ1 (fun _ _ _ _ _ => rfl) (fun c p hc hp => ?_) (fun d c hd hc => ?_)
    · rw [if_neg (by omega), ← hμ1]; exact pu_t (by omega)
    · rw [← hμ1, pu_t (by omega)]; simp
  · (repeat refine Ax_step rfl ?_)
    have h00 : an = 0 := Decidable.byContradiction h0
    have hz : ∀ c, c < 32 → (bt set c && !bt (μ 5 0 P) c) = false := fun c hc => by rw [← hbn c hc, h00, b_0]
    refine Ax_rV rfl ⟨rfl, hq μ ⟨fun t mm j _ _ _ => rfl, fun p _ => rfl, fun c hc => ?_, fun c p hc hp => ?_, fun d c hd hc => ?_⟩⟩
    · rw [hPe]
      have := hz c hc
      cases h1 : bt (μ 5 0 P) c <;> cases h2 : bt set c <;> simp_all
    · rw [hPe, if_neg]
      rintro ⟨-, h1, h2⟩
      have := hz c (by omega)
      rw [h1, h2] at this
      cases this
    · rw [hPe, hz c hc]; simp
def odP (μ μ' : PM) : Prop := (∀ t mm j, t ≠ 7 → t ≠ 8 → t ≠ 9 → μ' t mm j = μ t mm j) ∧ ∀ d, d < 40 → μ' 8 0 d = μ 9 0 d &&& (μ 7 0 d ^^^ (-1)) ∧ μ' 7 0 d = μ 7 0 d ||| μ' 8 0 d ∧ μ' 9 0 d = 0
theorem c_open {μ : PM} {Q : Option PV → PM → Prop} (hq : ∀ (μ' : PM) (b : Bool), odP μ μ' → (b = false ↔ ∀ d, d < 40 → μ' 8 0 d = 0) → Q (some (pI (bI b))) μ') : Cl 74 [pR 4 0] μ Q := by
  have loop : ∀ r k, k + r = 40 → ∀ (μk : PM) (an : Int32), (∀ t mm j, t ≠ 7 → t ≠ 8 → t ≠ 9 → μk t mm j = μ t mm j) → (∀ d, d < k → μk 8 0 d = μ 9 0 d &&& (μ 7 0 d ^^^ (-1)) ∧ μk 7 0 d = μ 7 0 d ||| μk 8 0 d ∧ μk 9 0 d = 0) → (∀ d, k ≤ d → μk 7 0 d = μ 7 0 d ∧ μk 9 0 d = μ 9 0 d) → (an = 0 ↔ ∀ d, d < k → μk 8 0 d = 0) →
      Ax 74 7 [some (pR 4 0), some (pI an), some (pI (nI k))] [pI (nI 40), pI (nI k)] μk (fun y r' μ1 => y = 0 ∧ Q r' μ1) := by
    intro r
    induction r with
    | zero =>
      intro k hk μk an hA hB hC hD
      refine Ax_br rfl (fun _ => ?_) (fun hb => absurd (nI_le (by omega) (by omega)) hb)
      (repeat refine Ax_step rfl ?_)
      have hod : odP μ μk := ⟨hA, fun d hd => hB d (by omega)⟩
      refine Ax_br rfl (fun hb => ?_) (fun hb => ?_)
      · (repeat refine Ax_step rfl ?_)
        exact Ax_rZ rfl (Or.inl rfl) ⟨rfl, hq μk false hod ⟨fun _ d hd => hD.mp hb d (by omega), fun _ => rfl⟩⟩
      · (repeat refine Ax_step rfl ?_)
        refine Ax_rZ rfl (Or.inr rfl) ⟨rfl, hq μk true hod ⟨fun z => (by cases z), fun z => absurd (hD.mpr (fun d hd => z d (by omega))) hb⟩⟩
    | succ r ih =>
      intro k hk μk an hA hB hC hD
      refine Ax_br rfl (fun hb => absurd hb (nI_ge (by omega) (by omega))) (fun _ => ?_)
      (repeat refine Ax_step rfl ?_)
      refine Ax_ald k rfl rfl (show k < 40 by omega) ?_
      (repeat refine Ax_step rfl ?_)
      refine Ax_ald k rfl rfl (show k < 40 by omega) ?_
      (repeat refine Ax_step rfl ?_)
      refine Ax_ast k rfl rfl (show k < 40 by omega) ?_
      (repeat refine Ax_step rfl ?_)
      refine Ax_ald k rfl rfl (show k < 40 by omega) ?_
      (repeat refine Ax_step rfl ?_)
      refine Ax_ald k rfl rfl (show k < 40 by omega) ?_
      (repeat refine Ax_step rfl ?_)
      refine Ax_ast k rfl rfl (show k < 40 by omega) ?_
      (repeat refine Ax_step rfl ?_)
      refine Ax_ast k rfl rfl (show k < 40 by omega) ?_
      (repeat refine Ax_step rfl ?_)
      refine Ax_ald k rfl rfl (show k < 40 by omega) ?_
      (repeat refine Ax_step rfl ?_)
      rw [nI_add]
      have e8 : μk 9 0 k &&& (μk 7 0 k ^^^ (-1)) = μ 9 0 k &&& (μ 7 0 k ^^^ (-1)) := by rw [(hC k (Nat.le_refl _)).1, (hC k (Nat.le_refl _)).2]
      refine ih (k + 1) (by omega) _ _ (fun t mm j h7 h8 h9 => ?_) (fun d hd => ?_) (fun d hd => ?_) ?_
      · rw [pu_t h9, pu_t h7, pu_t h8]; exact hA t mm j h7 h8 h9
      · by_cases hdk : d = k
        · subst hdk
          rw [pu_t (by omega), pu_t (by omega), pu_s, pu_t (by omega), pu_s, pu_t (by omega), pu_s]
          exact ⟨e8, by rw [(hC d (Nat.le_refl _)).1], rfl⟩
        · rw [pu_j hdk, pu_j hdk, pu_j hdk, pu_j hdk, pu_j hdk, pu_j hdk, pu_j hdk, pu_j hdk, pu_j hdk]
          exact hB d (by omega)
      · rw [pu_j (by omega), pu_j (by omega), pu_j (by omega), pu_j (by omega), pu_j (by omega), pu_j (by omega)]
        exact hC d (by omega)
      · constructor
        · intro h d hd
          have hor : ∀ c, c < 32 → bt an c = false ∧ bt (pu (pu (pu μk 8 0 k (μk 9 0 k &&& (μk 7 0 k ^^^ (-1)))) 7 0 k (pu μk 8 0 k (μk 9 0 k &&& (μk 7 0 k ^^^ (-1))) 7 0 k ||| pu μk 8 0 k (μk 9 0 k &&& (μk 7 0 k ^^^ (-1))) 8 0 k)) 9 0 k (nI 0) 8 0 k) c = false := by
            intro c hc
            have := bt_eq0.mp h c hc
            rw [b_or] at this
            simpa using this
          by_cases hdk : d = k
          · subst hdk; exact bt_eq0.mpr (fun c hc => (hor c hc).2)
          · rw [pu_j hdk, pu_j hdk, pu_j hdk]
            exact hD.mp (bt_eq0.mpr (fun c hc => (hor c hc).1)) d (by omega)
        · intro h
          have h1 := h k (by omega)
          have h2 : an = 0 := hD.mpr (fun d hd => by have := h d (by omega); rw [pu_j (by omega), pu_j (by omega), pu_j (by omega)] at this; exact this)
          rw [h2, h1]; decide
  refine Cl_in rfl ?_
  (repeat refine Ax_step rfl ?_)
  exact loop 40 0 (by omega) μ _ (fun _ _ _ _ _ _ => rfl) (fun d hd => by omega) (fun d _ => ⟨rfl, rfl⟩) ⟨fun _ d hd => by omega, fun _ => rfl⟩
end
section
/-! Ways, as the document says them; how long they can be; what a round adds. -/
def wy (μ : PM) : Nat → Nat → Nat → Nat → Prop
  | 0, _, _, _ => False
  | 1, m, i, c => own μ m i c = true
  | n + 2, m, i, c => ∃ d j, src μ m i = some d ∧ j < szm μ (d / 5) ∧ thr μ (d / 5) j c = d ∧ wy μ (n + 1) (d / 5) j c
/-- the shortest is k long -/
def ls (μ : PM) (k m i c : Nat) : Prop := wy μ k m i c ∧ ∀ j, j < k → ¬ wy μ j m i c
/-- a way of length k goes through door d -/
def dw (μ : PM) (k d c : Nat) : Prop := ∃ j, j < szm μ (d / 5) ∧ thr μ (d / 5) j c = d ∧ wy μ k (d / 5) j c
def dl (μ : PM) (k d c : Nat) : Prop := dw μ k d c ∧ ∀ j, j < k → ¬ dw μ j d c
theorem wy_ex {μ : PM} {k m i c : Nat} (h : wy μ k m i c) : ∃ n, n ≤ k ∧ ls μ n m i c := by
  obtain ⟨n, h1, h2⟩ := pk_least (fun n => wy μ n m i c) ⟨k, h⟩
  refine ⟨n, ?_, h1, h2⟩
  rcases Nat.lt_or_ge k n with z | z
  · exact absurd h (h2 k z)
  · exact z
theorem dw_ex {μ : PM} {k d c : Nat} (h : dw μ k d c) : ∃ n, n ≤ k ∧ dl μ n d c := by
  obtain ⟨n, h1, h2⟩ := pk_least (fun n => dw μ n d c) ⟨k, h⟩
  refine ⟨n, ?_, h1, h2⟩
  rcases Nat.lt_or_ge k n with z | z
  · exact absurd h (h2 k z)
  · exact z
theorem wy_pos {μ : PM} {k m i c : Nat} (h : wy μ k m i c) : 1 ≤ k := by
  cases k with
  | zero => exact h.elim
  | succ k => omega
/-- behind the first step -/
theorem wy_s {μ : PM} {k m i c : Nat} (hk : 1 ≤ k) : wy μ (k + 1) m i c ↔ ∃ d, src μ m i = some d ∧ dw μ k d c := by
  obtain ⟨n, rfl⟩ : ∃ n, k = n + 1 := ⟨k - 1, by omega⟩
  constructor
  · rintro ⟨d, j, h1, h2, h3, h4⟩; exact ⟨d, h1, j, h2, h3, h4⟩
  · rintro ⟨d, h1, j, h2, h3, h4⟩; exact ⟨d, j, h1, h2, h3, h4⟩
theorem dw_pos {μ : PM} {k d c : Nat} (h : dw μ k d c) : 1 ≤ k := by obtain ⟨j, -, -, h⟩ := h; exact wy_pos h
theorem src_lt {μ : PM} (hT : TI μ) {m i d : Nat} (hm : m < 8) (hi : i < szm μ m) (h : src μ m i = some d) : d < 40 := by
  obtain ⟨k, hc, hk, h0, h1, h4, h5, h6, h7⟩ := hT.i hm hi
  unfold src at h
  rw [show opc μ m i = k from nI_self hc (by omega)] at h
  by_cases e6 : k = 6
  · rw [if_pos e6] at h
    obtain ⟨-, y, hy, e⟩ := h6 e6
    rw [show ob μ m i = y from nI_self e (by omega)] at h
    cases h; omega
  · rw [if_neg e6] at h
    by_cases e8 : k = 8
    · rw [if_pos e8] at h
      obtain ⟨y, hy, e⟩ := h0 (Or.inr (Or.inl e8))
      rw [show oa μ m i = y from nI_self e (by omega)] at h
      cases h; omega
    · rw [if_neg e8] at h; cases h
theorem own_lt {μ : PM} (hT : TI μ) {m i c : Nat} (hm : m < 8) (hi : i < szm μ m) (h : own μ m i c = true) : c < kct μ := by
  obtain ⟨k, hc, hk, h0, h1, h4, h5, h6, h7⟩ := hT.i hm hi
  unfold own at h
  rw [show opc μ m i = k from nI_self hc (by omega)] at h
  simp only [Bool.or_eq_true, Bool.and_eq_true, decide_eq_true_eq] at h
  have := hT.k.2.1
  rcases h with (⟨e, e2⟩ | ⟨-, e2⟩) | ⟨-, e2⟩
  · obtain ⟨y, hy, e3⟩ := h7 e
    rw [show oa μ m i = y from nI_self e3 (by have := hT.k.2.2; omega)] at e2
    omega
  · omega
  · omega
theorem wy_lt {μ : PM} (hT : TI μ) : ∀ (k : Nat) {m i c : Nat}, m < 8 → i < szm μ m → wy μ k m i c → c < kct μ
  | 0, _, _, _, _, _, h => h.elim
  | 1, _, _, _, hm, hi, h => own_lt hT hm hi h
  | n + 2, _, _, _, hm, hi, h => by
    obtain ⟨d, j, h1, h2, h3, h4⟩ := h
    have := src_lt hT hm hi h1
    exact wy_lt hT (n + 1) (by omega) h2 h4
theorem dw_lt {μ : PM} (hT : TI μ) {k d c : Nat} (hd : d < 40) (h : dw μ k d c) : c < kct μ := by
  obtain ⟨j, h1, h2, h3⟩ := h
  exact wy_lt hT k (by omega) h1 h3
/-- a door whose shortest way is k + 1 long has a door behind it whose is k -/
theorem dl_down {μ : PM} (hT : TI μ) {k d c : Nat} (hd : d < 40) (hk : 1 ≤ k) (h : dl μ (k + 1) d c) : ∃ d', d' < 40 ∧ dl μ k d' c := by
  obtain ⟨⟨j, h1, h2, h3⟩, h4⟩ := h
  obtain ⟨d', g1, g2⟩ := (wy_s hk).mp h3
  refine ⟨d', src_lt hT (by omega) h1 g1, g2, fun n hn hw => ?_⟩
  exact h4 (n + 1) (by omega) ⟨j, h1, h2, (wy_s (dw_pos hw)).mpr ⟨d', g1, hw⟩⟩
theorem dl_all {μ : PM} (hT : TI μ) {c : Nat} : ∀ (k d : Nat), d < 40 → dl μ k d c → ∀ v, 1 ≤ v → v ≤ k → ∃ d', d' < 40 ∧ dl μ v d' c
  | 0, _, _, _, v, h1, h2 => by omega
  | k + 1, d, hd, h, v, h1, h2 => by
    by_cases hv : v = k + 1
    · subst hv; exact ⟨d, hd, h⟩
    · obtain ⟨d', hd', h'⟩ := dl_down hT hd (by omega) h
      exact dl_all hT k d' hd' h' v h1 (by omega)
/-- as many places as values -/
theorem pigeon : ∀ (N n : Nat) (P : Nat → Nat → Prop), (∀ d v w, P d v → P d w → v = w) → (∀ v, v < n → ∃ d, d < N ∧ P d v) → n ≤ N
  | 0, n, P, _, h => by
    rcases Nat.eq_zero_or_pos n with z | z
    · omega
    · obtain ⟨d, hd, -⟩ := h 0 z; omega
  | N + 1, n, P, hf, h => by
    by_cases hx : ∃ v0, v0 < n ∧ P N v0
    · obtain ⟨v0, h0, hp⟩ := hx
      have := pigeon N (n - 1) (fun d v => P d (if v < v0 then v else v + 1)) (fun d v w a b => by
        have e := hf d _ _ a b
        by_cases x : v < v0 <;> by_cases y : w < v0
        · rw [if_pos x, if_pos y] at e; exact e
        · rw [if_pos x, if_neg y] at e; omega
        · rw [if_neg x, if_pos y] at e; omega
        · rw [if_neg x, if_neg y] at e; omega) (fun v hv => by
        have hw : (if v < v0 then v else v + 1) < n ∧ (if v < v0 then v else v + 1) ≠ v0 := by
          by_cases x : v < v0
          · rw [if_pos x]; omega
          · rw [if_neg x]; omega
        obtain ⟨d, hd, hpd⟩ := h _ hw.1
        refine ⟨d, ?_, hpd⟩
        rcases Nat.lt_or_ge d N with z | z
        · exact z
        · have : d = N := by omega
          subst this
          exact absurd (hf d _ _ hpd hp) hw.2)
      omega
    · have := pigeon N n P hf (fun v hv => by
        obtain ⟨d, hd, hpd⟩ := h v hv
        refine ⟨d, ?_, hpd⟩
        rcases Nat.lt_or_ge d N with z | z
        · exact z
        · have : d = N := by omega
          subst this
          exact absurd ⟨v, hv, hpd⟩ hx)
      omega
theorem dl_fun {μ : PM} {d c v w : Nat} (h : dl μ v d c) (g : dl μ w d c) : v = w := by
  rcases Nat.lt_trichotomy v w with z | z | z
  · exact absurd h.1 (g.2 v z)
  · exact z
  · exact absurd g.1 (h.2 w z)
theorem dl_40 {μ : PM} (hT : TI μ) {k d c : Nat} (hd : d < 40) (h : dl μ k d c) : k ≤ 40 := by
  refine pigeon 40 k (fun d v => dl μ (v + 1) d c) (fun d v w a b => by have := dl_fun a b; omega) (fun v hv => ?_)
  exact dl_all hT k d hd h (v + 1) (by omega) (by omega)
theorem ls_41 {μ : PM} (hT : TI μ) {k m i c : Nat} (hm : m < 8) (hi : i < szm μ m) (h : ls μ k m i c) : k ≤ 41 := by
  rcases Nat.lt_or_ge k 2 with z | z
  · omega
  · obtain ⟨n, rfl⟩ : ∃ n, k = n + 1 := ⟨k - 1, by omega⟩
    obtain ⟨d, h1, h2⟩ := (wy_s (by omega)).mp h.1
    have hd := src_lt hT hm hi h1
    have : dl μ n d c := ⟨h2, fun v hv hw => h.2 (v + 1) (by omega) ((wy_s (dw_pos hw)).mpr ⟨d, h1, hw⟩)⟩
    have := dl_40 hT hd this
    omega
/-- the rows behind round L -/
def FS (μ : PM) (L : Nat) : Prop :=
  (∀ m i c, m < 8 → i < szm μ m → c < 32 → (bt (μ 5 0 (m * 24 + i)) c = true ↔ ∃ k, k ≤ L ∧ wy μ k m i c)) ∧
  (∀ m i c k, m < 8 → i < szm μ m → k ≤ L → ls μ k m i c → μ 6 0 (c * 192 + (m * 24 + i)) = nI k) ∧
  (∀ d c, d < 40 → c < 32 → (bt (μ 7 0 d) c = true ↔ ∃ k, k + 1 ≤ L ∧ dw μ k d c)) ∧
  (∀ d c, d < 40 → c < 32 → (bt (μ 9 0 d) c = true ↔ ∃ j, j < szm μ (d / 5) ∧ thr μ (d / 5) j c = d ∧ ls μ L (d / 5) j c))
/-- the rows as the text says -/
def FD (μ : PM) : Prop :=
  (∀ m i c, m < 8 → i < szm μ m → c < 32 → (bt (μ 5 0 (m * 24 + i)) c = true ↔ ∃ k, wy μ k m i c)) ∧
  (∀ m i c k, m < 8 → i < szm μ m → ls μ k m i c → μ 6 0 (c * 192 + (m * 24 + i)) = nI k) ∧
  (∀ d c, d < 40 → c < 32 → (bt (μ 7 0 d) c = true ↔ ∃ k, dw μ k d c))
theorem FS_41 {μ : PM} (hT : TI μ) (h : FS μ 41) : FD μ := by
  obtain ⟨h1, h2, h3, -⟩ := h
  refine ⟨fun m i c hm hi hc => ?_, fun m i c k hm hi hl => h2 m i c k hm hi (ls_41 hT hm hi hl) hl, fun d c hd hc => ?_⟩
  · rw [h1 m i c hm hi hc]
    constructor
    · rintro ⟨k, -, h⟩; exact ⟨k, h⟩
    · rintro ⟨k, h⟩
      obtain ⟨n, -, hn⟩ := wy_ex h
      exact ⟨n, ls_41 hT hm hi hn, hn.1⟩
  · rw [h3 d c hd hc]
    constructor
    · rintro ⟨k, -, h⟩; exact ⟨k, h⟩
    · rintro ⟨k, h⟩
      obtain ⟨n, -, hn⟩ := dw_ex h
      exact ⟨n, by have := dl_40 hT hd hn; omega, hn.1⟩
section TW
variable {μ μ' : PM}
theorem ts_wy (h : ts μ μ') : ∀ (k m i c : Nat), wy μ' k m i c ↔ wy μ k m i c
  | 0, _, _, _ => Iff.rfl
  | 1, m, i, c => by show own μ' m i c = true ↔ own μ m i c = true; rw [ts_own h]
  | n + 2, m, i, c => by
    show (∃ d j, src μ' m i = some d ∧ j < szm μ' (d / 5) ∧ thr μ' (d / 5) j c = d ∧ wy μ' (n + 1) (d / 5) j c) ↔ ∃ d j, src μ m i = some d ∧ j < szm μ (d / 5) ∧ thr μ (d / 5) j c = d ∧ wy μ (n + 1) (d / 5) j c
    simp only [ts_src h, ts_szm h, ts_thr h, ts_wy h (n + 1)]
theorem ts_ls (h : ts μ μ') (k m i c : Nat) : ls μ' k m i c ↔ ls μ k m i c := by unfold ls; simp only [ts_wy h]
theorem ts_dw (h : ts μ μ') (k d c : Nat) : dw μ' k d c ↔ dw μ k d c := by unfold dw; simp only [ts_wy h, ts_szm h, ts_thr h]
theorem ts_dl (h : ts μ μ') (k d c : Nat) : dl μ' k d c ↔ dl μ k d c := by unfold dl; simp only [ts_dw h]
end TW
/-- what has been opened: a class is fresh at a door where the door's shortest way is L long -/
theorem open_fs {μ μ' : PM} {L : Nat} (hT : TI μ) (hL : 1 ≤ L) (hF : FS μ L) (ho : odP μ μ') : ts μ μ' ∧ (∀ d c, d < 40 → c < 32 → (bt (μ' 8 0 d) c = true ↔ dl μ L d c)) ∧ (∀ d c, d < 40 → c < 32 → (bt (μ' 7 0 d) c = true ↔ ∃ k, k ≤ L ∧ dw μ k d c)) := by
  obtain ⟨h1, h2, h3, h4⟩ := hF
  have hts : ts μ μ' := ⟨fun m j => ho.1 1 m j (by omega) (by omega) (by omega), fun m j => ho.1 2 m j (by omega) (by omega) (by omega), fun m j => ho.1 15 m j (by omega) (by omega) (by omega), fun t m j ht => ho.1 t m j (by omega) (by omega) (by omega)⟩
  have key : ∀ d c, d < 40 → c < 32 → (bt (μ' 8 0 d) c = true ↔ dl μ L d c) := by
    intro d c hd hc
    rw [(ho.2 d hd).1, b_and, bt_not _ hc, Bool.and_eq_true, h4 d c hd hc, Bool.not_eq_true', ← Bool.not_eq_true, h3 d c hd hc]
    constructor
    · rintro ⟨⟨j, g1, g2, g3⟩, g4⟩
      exact ⟨⟨j, g1, g2, g3.1⟩, fun n hn hw => g4 ⟨n, by omega, hw⟩⟩
    · rintro ⟨⟨j, g1, g2, g3⟩, g4⟩
      refine ⟨⟨j, g1, g2, g3, fun n hn hw => g4 n hn ⟨j, g1, g2, hw⟩⟩, ?_⟩
      rintro ⟨k, hk, hw⟩
      exact g4 k (by omega) hw
  refine ⟨hts, key, fun d c hd hc => ?_⟩
  rw [(ho.2 d hd).2.1, b_or, Bool.or_eq_true, key d c hd hc, h3 d c hd hc]
  constructor
  · rintro (⟨k, hk, hw⟩ | h)
    · exact ⟨k, by omega, hw⟩
    · exact ⟨L, Nat.le_refl _, h.1⟩
  · rintro ⟨k, hk, hw⟩
    obtain ⟨n, hn, hd⟩ := dw_ex hw
    by_cases e : n = L
    · subst e; exact Or.inr hd
    · exact Or.inl ⟨n, by omega, hd.1⟩
/-- nothing fresh: all is found -/
theorem open_fd {μ μ' : PM} {L : Nat} (hT : TI μ) (hL : 1 ≤ L) (hF : FS μ L) (ho : odP μ μ') (hz : ∀ d, d < 40 → μ' 8 0 d = 0) : FD μ' := by
  obtain ⟨hts, h8, h7⟩ := open_fs hT hL hF ho
  obtain ⟨h1, h2, h3, h4⟩ := hF
  have hno : ∀ d c, d < 40 → c < 32 → ¬ dl μ L d c := fun d c hd hc h => by
    have := (h8 d c hd hc).mpr h
    rw [hz d hd, b_0] at this; cases this
  have hK := hT.k.2.2
  have dsh : ∀ k d c, d < 40 → dw μ k d c → ∃ n, n + 1 ≤ L ∧ dw μ n d c := by
    intro k
    induction k using Nat.strongRecOn with
    | _ k ih =>
      intro d c hd hw
      have hc := dw_lt hT hd hw
      obtain ⟨n, hn, hdl⟩ := dw_ex hw
      rcases Nat.lt_or_ge n L with z | z
      · exact ⟨n, by omega, hdl.1⟩
      · exfalso
        obtain ⟨d', hd', h'⟩ := dl_all hT n d hd hdl L hL z
        exact hno d' c hd' (by omega) h'
  have wsh : ∀ k m i c, m < 8 → i < szm μ m → wy μ k m i c → ∃ n, n ≤ L ∧ wy μ n m i c := by
    intro k m i c hm hi hw
    rcases Nat.lt_or_ge k 2 with z | z
    · exact ⟨k, by omega, hw⟩
    · obtain ⟨n, rfl⟩ : ∃ n, k = n + 1 := ⟨k - 1, by omega⟩
      obtain ⟨d, g1, g2⟩ := (wy_s (by omega)).mp hw
      obtain ⟨v, hv, hw2⟩ := dsh n d c (src_lt hT hm hi g1) g2
      exact ⟨v + 1, hv, (wy_s (dw_pos hw2)).mpr ⟨d, g1, hw2⟩⟩
  refine ⟨fun m i c hm hi hc => ?_, fun m i c k hm hi hl => ?_, fun d c hd hc => ?_⟩
  · rw [ts_szm hts] at hi
    rw [ho.1 5 0 _ (by omega) (by omega) (by omega), h1 m i c hm hi hc]
    simp only [ts_wy hts]
    constructor
    · rintro ⟨k, -, h⟩; exact ⟨k, h⟩
    · rintro ⟨k, h⟩; exact wsh k m i c hm hi h
  · rw [ts_szm hts] at hi
    rw [ts_ls hts] at hl
    rw [ho.1 6 0 _ (by omega) (by omega) (by omega)]
    refine h2 m i c k hm hi ?_ hl
    obtain ⟨n, hn, hw⟩ := wsh k m i c hm hi hl.1
    rcases Nat.lt_or_ge n k with z | z
    · exact absurd hw (hl.2 n z)
    · omega
  · rw [h7 d c hd hc]
    simp only [ts_dw hts]
    constructor
    · rintro ⟨k, -, h⟩; exact ⟨k, h⟩
    · rintro ⟨k, h⟩
      obtain ⟨n, hn, hw⟩ := dsh k d c hd h
      exact ⟨n, by omega, hw⟩
end
section
/-! A round over all instructions; refresh. -/
def prs (μ : PM) (m i a b : Nat) : Prop := (a < m ∧ b < szm μ a) ∨ (a = m ∧ b < i)
def rdP (μ0 μk : PM) (P : Nat → Nat → Prop) (S : Nat → Nat → Nat → Bool) (len : Int32) : Prop :=
  (∀ t mm j, t ≠ 5 → t ≠ 6 → t ≠ 9 → μk t mm j = μ0 t mm j) ∧
  (∀ a b c, a < 8 → b < 24 → c < 32 → (bt (μk 5 0 (a * 24 + b)) c = true ↔ bt (μ0 5 0 (a * 24 + b)) c = true ∨ (P a b ∧ S a b c = true))) ∧
  (∀ a b c, a < 8 → b < 24 → c < 10 → (P a b ∧ S a b c = true ∧ bt (μ0 5 0 (a * 24 + b)) c = false → μk 6 0 (c * 192 + (a * 24 + b)) = len) ∧ (¬ (P a b ∧ S a b c = true ∧ bt (μ0 5 0 (a * 24 + b)) c = false) → μk 6 0 (c * 192 + (a * 24 + b)) = μ0 6 0 (c * 192 + (a * 24 + b)))) ∧
  (∀ d c, d < 40 → c < 32 → (bt (μk 9 0 d) c = true ↔ bt (μ0 9 0 d) c = true ∨ ∃ a b, a < 8 ∧ b < 24 ∧ P a b ∧ S a b c = true ∧ bt (μ0 5 0 (a * 24 + b)) c = false ∧ thr μ0 a b c = d))
theorem rdP.ts {μ0 μk : PM} {P : Nat → Nat → Prop} {S : Nat → Nat → Nat → Bool} {len : Int32} (h : rdP μ0 μk P S len) : ts μ0 μk :=
  ⟨fun m j => h.1 1 m j (by omega) (by omega) (by omega), fun m j => h.1 2 m j (by omega) (by omega) (by omega), fun m j => h.1 15 m j (by omega) (by omega) (by omega), fun t m j ht => h.1 t m j (by omega) (by omega) (by omega)⟩
theorem rd_0 (μ : PM) (S : Nat → Nat → Nat → Bool) (len : Int32) : rdP μ μ (prs μ 0 0) S len := by
  have no : ∀ a b, ¬ prs μ 0 0 a b := fun a b h => by rcases h with h | h <;> omega
  refine ⟨fun _ _ _ _ _ _ => rfl, fun a b c _ _ _ => ⟨Or.inl, fun h => h.elim id (fun z => absurd z.1 (no a b))⟩, fun a b c _ _ _ => ⟨fun z => absurd z.1 (no a b), fun _ => rfl⟩, fun d c _ _ => ⟨Or.inl, fun h => h.elim id ?_⟩⟩
  rintro ⟨a, b, -, -, z, -⟩
  exact absurd z (no a b)
theorem rd_congr {μ0 μk : PM} {P P' : Nat → Nat → Prop} {S : Nat → Nat → Nat → Bool} {len : Int32} (h : rdP μ0 μk P S len) (e : ∀ a b c, a < 8 → b < 24 → ((P a b ∧ S a b c = true) ↔ (P' a b ∧ S a b c = true))) : rdP μ0 μk P' S len := by
  obtain ⟨h1, h2, h3, h4⟩ := h
  refine ⟨h1, fun a b c ha hb hc => ?_, fun a b c ha hb hc => ⟨fun z => ?_, fun z => ?_⟩, fun d c hd hc => ?_⟩
  · rw [h2 a b c ha hb hc, e a b c ha hb]
  · exact (h3 a b c ha hb hc).1 ⟨((e a b c ha hb).mpr ⟨z.1, z.2.1⟩).1, z.2⟩
  · exact (h3 a b c ha hb hc).2 (fun y => z ⟨((e a b c ha hb).mp ⟨y.1, y.2.1⟩).1, y.2⟩)
  · rw [h4 d c hd hc]
    constructor
    · rintro (z | ⟨a, b, ha, hb, z1, z2, z3⟩)
      · exact Or.inl z
      · exact Or.inr ⟨a, b, ha, hb, ((e a b c ha hb).mp ⟨z1, z2⟩).1, z2, z3⟩
    · rintro (z | ⟨a, b, ha, hb, z1, z2, z3⟩)
      · exact Or.inl z
      · exact Or.inr ⟨a, b, ha, hb, ((e a b c ha hb).mpr ⟨z1, z2⟩).1, z2, z3⟩
theorem rd_step {μ0 μk μ' : PM} {S : Nat → Nat → Nat → Bool} {len set : Int32} {m i : Nat} (h : rdP μ0 μk (prs μ0 m i) S len) (hm : m < 8) (hi : i < 24) (hn : ntP μk μ' m i set len) (hs : ∀ c, c < 32 → bt set c = S m i c) : rdP μ0 μ' (prs μ0 m (i + 1)) S len := by
  have hts := h.ts
  obtain ⟨h1, h2, h3, h4⟩ := h
  obtain ⟨n1, n2, n3, n4, n5⟩ := hn
  have self : ¬ prs μ0 m i m i := fun z => by rcases z with z | z <;> omega
  have grow : ∀ a b, ¬ (a = m ∧ b = i) → (prs μ0 m (i + 1) a b ↔ prs μ0 m i a b) := by
    intro a b hab
    unfold prs
    constructor
    · rintro (z | ⟨z1, z2⟩)
      · exact Or.inl z
      · exact Or.inr ⟨z1, by omega⟩
    · rintro (z | ⟨z1, z2⟩)
      · exact Or.inl z
      · exact Or.inr ⟨z1, by omega⟩
  have here : prs μ0 m (i + 1) m i := Or.inr ⟨rfl, by omega⟩
  have hold : ∀ c, c < 32 → bt (μk 5 0 (m * 24 + i)) c = bt (μ0 5 0 (m * 24 + i)) c := by
    intro c hc
    have := h2 m i c hm hi hc
    cases hz : bt (μ0 5 0 (m * 24 + i)) c with
    | true => exact this.mpr (Or.inl hz)
    | false =>
      cases hy : bt (μk 5 0 (m * 24 + i)) c with
      | false => rfl
      | true => rcases this.mp hy with z | z; rw [hz] at z; cases z; exact absurd z.1 self
  refine ⟨fun t mm j a b c => (n1 t mm j a b c).trans (h1 t mm j a b c), fun a b c ha hb hc => ?_, fun a b c ha hb hc => ?_, fun d c hd hc => ?_⟩
  · by_cases hab : a = m ∧ b = i
    · obtain ⟨rfl, rfl⟩ := hab
      rw [n3 c hc, hold c hc, hs c hc, Bool.or_eq_true]
      constructor
      · rintro (z | z)
        · exact Or.inl z
        · exact Or.inr ⟨here, z⟩
      · rintro (z | z)
        · exact Or.inl z
        · exact Or.inr z.2
    · rw [n2 (a * 24 + b) (by omega), h2 a b c ha hb hc, grow a b hab]
  · by_cases hab : a = m ∧ b = i
    · obtain ⟨rfl, rfl⟩ := hab
      rw [n4 c (a * 24 + b) hc (by omega), hs c (by omega), hold c (by omega)]
      constructor
      · intro z; rw [if_pos ⟨rfl, z.2⟩]
      · intro z
        rw [if_neg (fun y => z ⟨here, y.2⟩)]
        exact (h3 a b c ha hb hc).2 (fun y => self y.1)
    · rw [n4 c (a * 24 + b) hc (by omega), if_neg (by omega), grow a b hab]
      exact h3 a b c ha hb hc
  · rw [n5 d c hd hc, Bool.or_eq_true, h4 d c hd hc, hs c hc, hold c hc, ts_thr hts]
    simp only [Bool.and_eq_true, Bool.not_eq_true', decide_eq_true_eq]
    constructor
    · rintro ((z | ⟨a, b, ha, hb, z1, z2, z3⟩) | ⟨⟨z1, z2⟩, z3⟩)
      · exact Or.inl z
      · exact Or.inr ⟨a, b, ha, hb, (grow a b (fun y => self (by rw [y.1, y.2] at z1; exact z1))).mpr z1, z2, z3⟩
      · exact Or.inr ⟨m, i, hm, hi, here, z1, z2, z3⟩
    · rintro (z | ⟨a, b, ha, hb, z1, z2, z3, z4⟩)
      · exact Or.inl (Or.inl z)
      · by_cases hab : a = m ∧ b = i
        · obtain ⟨rfl, rfl⟩ := hab
          exact Or.inr ⟨⟨z2, z3⟩, z4⟩
        · exact Or.inl (Or.inr ⟨a, b, ha, hb, (grow a b hab).mp z1, z2, z3, z4⟩)
theorem rd_skip {μ0 μk : PM} {S : Nat → Nat → Nat → Bool} {len : Int32} {m i : Nat} (h : rdP μ0 μk (prs μ0 m i) S len) (hs : ∀ c, S m i c = false) : rdP μ0 μk (prs μ0 m (i + 1)) S len := by
  refine rd_congr h (fun a b c _ _ => ?_)
  unfold prs
  constructor
  · rintro ⟨z | z, y⟩
    · exact ⟨Or.inl z, y⟩
    · exact ⟨Or.inr ⟨z.1, by omega⟩, y⟩
  · rintro ⟨z | z, y⟩
    · exact ⟨Or.inl z, y⟩
    · by_cases hb : b = i
      · rw [z.1, hb, hs c] at y; cases y
      · exact ⟨Or.inr ⟨z.1, by omega⟩, y⟩
theorem rd_line {μ0 μk : PM} {S : Nat → Nat → Nat → Bool} {len : Int32} {m : Nat} (h : rdP μ0 μk (prs μ0 m (szm μ0 m)) S len) : rdP μ0 μk (prs μ0 (m + 1) 0) S len := by
  refine rd_congr h (fun a b c _ _ => ?_)
  unfold prs
  constructor
  · rintro ⟨z | z, y⟩
    · exact ⟨Or.inl ⟨by omega, z.2⟩, y⟩
    · exact ⟨Or.inl ⟨by omega, by rw [z.1]; exact z.2⟩, y⟩
  · rintro ⟨z | z, y⟩
    · by_cases e : a = m
      · exact ⟨Or.inr ⟨e, by rw [← e]; exact z.2⟩, y⟩
      · exact ⟨Or.inl ⟨by omega, z.2⟩, y⟩
    · omega
theorem c_raiseOwn {μ : PM} {Q : Option PV → PM → Prop} (hT : TI μ) (hq : ∀ μ', rdP μ μ' (prs μ 8 0) (own μ) (nI 1) → Q none μ') : Cl 72 [pR 4 0] μ Q := by
  have outer : ∀ r m, m + r = 8 → ∀ μk, rdP μ μk (prs μ m 0) (own μ) (nI 1) → ∀ x : Option PV, Ax 72 5 [some (pR 4 0), some (pI (nI m)), x] [pI (nI 8), pI (nI m)] μk (fun y r' μ1 => y = 0 ∧ Q r' μ1) := by
    intro r
    induction r with
    | zero =>
      intro m hm μk hk x
      refine Ax_br rfl (fun _ => ?_) (fun hb => absurd (nI_le (by omega) (by omega)) hb)
      (repeat refine Ax_step rfl ?_)
      rw [show m = 8 by omega] at hk
      exact Ax_rV rfl ⟨rfl, hq μk hk⟩
    | succ r ih =>
      intro m hm μk hk x
      refine Ax_br rfl (fun hb => absurd hb (nI_ge (by omega) (by omega))) (fun _ => ?_)
      (repeat refine Ax_step rfl ?_)
      have inner : ∀ r2 i, i + r2 = szm μ m → ∀ μk, rdP μ μk (prs μ m i) (own μ) (nI 1) → Ax 72 19 [some (pR 4 0), some (pI (nI m)), some (pI (nI i))] [pI (nI m), pR 3 0, pI (nI i)] μk (fun y r' μ1 => y = 0 ∧ Q r' μ1) := by
        intro r2
        have hsz := (hT.s (show m < 8 by omega)).2
        induction r2 with
        | zero =>
          intro i hi μk hk
          refine Ax_aal m rfl rfl (by omega) ?_
          (repeat refine Ax_step rfl ?_)
          rw [hk.1 40 m 3 (by omega) (by omega) (by omega), (hT.s (show m < 8 by omega)).1]
          refine Ax_br rfl (fun _ => ?_) (fun hb => absurd (nI_le (by omega) (by omega)) hb)
          (repeat refine Ax_step rfl ?_)
          rw [nI_add]
          rw [show i = szm μ m by omega] at hk
          exact ih (m + 1) (by omega) μk (rd_line hk) _
        | succ r2 ih2 =>
          intro i hi μk hk
          refine Ax_aal m rfl rfl (by omega) ?_
          (repeat refine Ax_step rfl ?_)
          rw [hk.1 40 m 3 (by omega) (by omega) (by omega), (hT.s (show m < 8 by omega)).1]
          refine Ax_br rfl (fun hb => absurd hb (nI_ge (by omega) (by omega))) (fun _ => ?_)
          (repeat refine Ax_step rfl ?_)
          have hTk := ts_TI hk.ts hT
          refine Ax_call rfl (c_own hTk (by omega) (by rw [ts_szm hk.ts]; omega) (fun x hx => ?_))
          (repeat refine Ax_step rfl ?_)
          simp only [ts_own hk.ts] at hx
          refine Ax_call rfl (c_note hTk (by omega) (by omega) (fun c h10 h32 => ?_) (fun μ' hn => ?_))
          · rw [hx c h32]
            cases hz : own μ m i c with
            | false => rfl
            | true => have := own_lt hT (by omega) (by omega) hz; have := hT.k.2.2; omega
          · (repeat refine Ax_step rfl ?_)
            rw [nI_add]
            exact ih2 (i + 1) (by omega) μ' (rd_step hk (by omega) (by omega) hn hx)
      exact inner (szm μ m) 0 (by omega) μk hk
  refine Cl_in rfl ?_
  (repeat refine Ax_step rfl ?_)
  exact outer 8 0 (by omega) μ (rd_0 μ _ _) _
/-- what a round with these fresh classes gives -/
def frS (μ : PM) (m i c : Nat) : Bool := match src μ m i with
  | some d => bt (μ 8 0 d) c
  | none => false
theorem c_raiseFresh {μ : PM} {len : Int32} {Q : Option PV → PM → Prop} (hT : TI μ) (h8 : ∀ d c, d < 40 → 10 ≤ c → c < 32 → bt (μ 8 0 d) c = false) (hq : ∀ μ', rdP μ μ' (prs μ 8 0) (frS μ) len → Q none μ') : Cl 73 [pR 4 0, pI len] μ Q := by
  have outer : ∀ r m, m + r = 8 → ∀ μk, rdP μ μk (prs μ m 0) (frS μ) len → ∀ x z : Option PV, Ax 73 5 [some (pR 4 0), some (pI len), some (pI (nI m)), x, z] [pI (nI 8), pI (nI m)] μk (fun y r' μ1 => y = 0 ∧ Q r' μ1) := by
    intro r
    induction r with
    | zero =>
      intro m hm μk hk x z
      refine Ax_br rfl (fun _ => ?_) (fun hb => absurd (nI_le (by omega) (by omega)) hb)
      (repeat refine Ax_step rfl ?_)
      rw [show m = 8 by omega] at hk
      exact Ax_rV rfl ⟨rfl, hq μk hk⟩
    | succ r ih =>
      intro m hm μk hk x z
      refine Ax_br rfl (fun hb => absurd hb (nI_ge (by omega) (by omega))) (fun _ => ?_)
      (repeat refine Ax_step rfl ?_)
      have inner : ∀ r2 i, i + r2 = szm μ m → ∀ μk, rdP μ μk (prs μ m i) (frS μ) len → ∀ z : Option PV, Ax 73 19 [some (pR 4 0), some (pI len), some (pI (nI m)), some (pI (nI i)), z] [pI (nI m), pR 3 0, pI (nI i)] μk (fun y r' μ1 => y = 0 ∧ Q r' μ1) := by
        intro r2
        have hsz := (hT.s (show m < 8 by omega)).2
        induction r2 with
        | zero =>
          intro i hi μk hk z
          refine Ax_aal m rfl rfl (by omega) ?_
          (repeat refine Ax_step rfl ?_)
          rw [hk.1 40 m 3 (by omega) (by omega) (by omega), (hT.s (show m < 8 by omega)).1]
          refine Ax_br rfl (fun _ => ?_) (fun hb => absurd (nI_le (by omega) (by omega)) hb)
          (repeat refine Ax_step rfl ?_)
          rw [nI_add]
          rw [show i = szm μ m by omega] at hk
          exact ih (m + 1) (by omega) μk (rd_line hk) _ _
        | succ r2 ih2 =>
          intro i hi μk hk z
          refine Ax_aal m rfl rfl (by omega) ?_
          (repeat refine Ax_step rfl ?_)
          rw [hk.1 40 m 3 (by omega) (by omega) (by omega), (hT.s (show m < 8 by omega)).1]
          refine Ax_br rfl (fun hb => absurd hb (nI_ge (by omega) (by omega))) (fun _ => ?_)
          (repeat refine Ax_step rfl ?_)
          have hTk := ts_TI hk.ts hT
          refine Ax_call rfl (c_source hTk (by omega) (by rw [ts_szm hk.ts]; omega) ?_)
          rw [ts_src hk.ts]
          (repeat refine Ax_step rfl ?_)
          cases hs : src μ m i with
          | none =>
            refine Ax_br rfl (fun _ => ?_) (fun hb => absurd rfl hb)
            (repeat refine Ax_step rfl ?_)
            rw [nI_add]
            exact ih2 (i + 1) (by omega) μk (rd_skip hk (fun c => by unfold frS; rw [hs])) _
          | some d =>
            have hd := src_lt hT (by omega) (by omega) hs
            refine Ax_br rfl (fun hb => ?_) (fun _ => ?_)
            · have : (nI d).toInt = -1 := congrArg Int32.toInt hb
              rw [nI_toInt (by omega)] at this
              omega
            · (repeat refine Ax_step rfl ?_)
              refine Ax_ald d rfl rfl hd ?_
              (repeat refine Ax_step rfl ?_)
              rw [hk.1 8 0 d (by omega) (by omega) (by omega)]
              refine Ax_call rfl (c_note hTk (by omega) (by omega) (fun c h10 h32 => h8 d c hd h10 h32) (fun μ' hn => ?_))
              (repeat refine Ax_step rfl ?_)
              rw [nI_add]
              exact ih2 (i + 1) (by omega) μ' (rd_step hk (by omega) (by omega) hn (fun c _ => by unfold frS; rw [hs])) _
      exact inner (szm μ m) 0 (by omega) μk hk _
  refine Cl_in rfl ?_
  (repeat refine Ax_step rfl ?_)
  exact outer 8 0 (by omega) μ (rd_0 μ _ _) _ _
end
section
/-! fill; refresh. -/
theorem c_fill5 {μ : PM} {x : Int32} {Q : Option PV → PM → Prop} (hq : ∀ μ' : PM, (∀ t mm j, t ≠ 5 → μ' t mm j = μ t mm j) → (∀ j, j < 192 → μ' 5 0 j = x) → Q none μ') : Cl 106 [pR 5 0, pI x] μ Q := by
  have loop : ∀ r k, k + r = 192 → ∀ μk : PM, (∀ t mm j, t ≠ 5 → μk t mm j = μ t mm j) → (∀ j, j < k → μk 5 0 j = x) → Ax 106 7 [some (pR 5 0), some (pI x), some (pI (nI k)), some (pI (nI 192))] [pI (nI 192), pI (nI k)] μk (fun y r' μ1 => y = 0 ∧ Q r' μ1) := by
    intro r
    induction r with
    | zero =>
      intro k hk μk hA hB
      refine Ax_br rfl (fun _ => ?_) (fun hb => absurd (nI_le (by omega) (by omega)) hb)
      exact Ax_rV rfl ⟨rfl, hq μk hA (fun j hj => hB j (by omega))⟩
    | succ r ih =>
      intro k hk μk hA hB
      refine Ax_br rfl (fun hb => absurd hb (nI_ge (by omega) (by omega))) (fun _ => ?_)
      (repeat refine Ax_step rfl ?_)
      refine Ax_ast k rfl rfl (show k < 192 by omega) ?_
      (repeat refine Ax_step rfl ?_)
      rw [nI_add]
      refine ih (k + 1) (by omega) _ (fun t mm j ht => by rw [pu_t ht]; exact hA t mm j ht) (fun j hj => ?_)
      by_cases e : j = k
      · subst e; exact pu_s
      · rw [pu_j e]; exact hB j (by omega)
  refine Cl_in rfl ?_
  (repeat refine Ax_step rfl ?_)
  exact loop 192 0 (by omega) μ (fun _ _ _ _ => rfl) (fun j hj => by omega)
theorem c_fill7 {μ : PM} {x : Int32} {Q : Option PV → PM → Prop} (hq : ∀ μ' : PM, (∀ t mm j, t ≠ 7 → μ' t mm j = μ t mm j) → (∀ j, j < 40 → μ' 7 0 j = x) → Q none μ') : Cl 106 [pR 7 0, pI x] μ Q := by
  have loop : ∀ r k, k + r = 40 → ∀ μk : PM, (∀ t mm j, t ≠ 7 → μk t mm j = μ t mm j) → (∀ j, j < k → μk 7 0 j = x) → Ax 106 7 [some (pR 7 0), some (pI x), some (pI (nI k)), some (pI (nI 40))] [pI (nI 40), pI (nI k)] μk (fun y r' μ1 => y = 0 ∧ Q r' μ1) := by
    intro r
    induction r with
    | zero =>
      intro k hk μk hA hB
      refine Ax_br rfl (fun _ => ?_) (fun hb => absurd (nI_le (by omega) (by omega)) hb)
      exact Ax_rV rfl ⟨rfl, hq μk hA (fun j hj => hB j (by omega))⟩
    | succ r ih =>
      intro k hk μk hA hB
      refine Ax_br rfl (fun hb => absurd hb (nI_ge (by omega) (by omega))) (fun _ => ?_)
      (repeat refine Ax_step rfl ?_)
      refine Ax_ast k rfl rfl (show k < 40 by omega) ?_
      (repeat refine Ax_step rfl ?_)
      rw [nI_add]
      refine ih (k + 1) (by omega) _ (fun t mm j ht => by rw [pu_t ht]; exact hA t mm j ht) (fun j hj => ?_)
      by_cases e : j = k
      · subst e; exact pu_s
      · rw [pu_j e]; exact hB j (by omega)
  refine Cl_in rfl ?_
  (repeat refine Ax_step rfl ?_)
  exact loop 40 0 (by omega) μ (fun _ _ _ _ => rfl) (fun j hj => by omega)
theorem c_fill9 {μ : PM} {x : Int32} {Q : Option PV → PM → Prop} (hq : ∀ μ' : PM, (∀ t mm j, t ≠ 9 → μ' t mm j = μ t mm j) → (∀ j, j < 40 → μ' 9 0 j = x) → Q none μ') : Cl 106 [pR 9 0, pI x] μ Q := by
  have loop : ∀ r k, k + r = 40 → ∀ μk : PM, (∀ t mm j, t ≠ 9 → μk t mm j = μ t mm j) → (∀ j, j < k → μk 9 0 j = x) → Ax 106 7 [some (pR 9 0), some (pI x), some (pI (nI k)), some (pI (nI 40))] [pI (nI 40), pI (nI k)] μk (fun y r' μ1 => y = 0 ∧ Q r' μ1) := by
    intro r
    induction r with
    | zero =>
      intro k hk μk hA hB
      refine Ax_br rfl (fun _ => ?_) (fun hb => absurd (nI_le (by omega) (by omega)) hb)
      exact Ax_rV rfl ⟨rfl, hq μk hA (fun j hj => hB j (by omega))⟩
    | succ r ih =>
      intro k hk μk hA hB
      refine Ax_br rfl (fun hb => absurd hb (nI_ge (by omega) (by omega))) (fun _ => ?_)
      (repeat refine Ax_step rfl ?_)
      refine Ax_ast k rfl rfl (show k < 40 by omega) ?_
      (repeat refine Ax_step rfl ?_)
      rw [nI_add]
      refine ih (k + 1) (by omega) _ (fun t mm j ht => by rw [pu_t ht]; exact hA t mm j ht) (fun j hj => ?_)
      by_cases e : j = k
      · subst e; exact pu_s
      · rw [pu_j e]; exact hB j (by omega)
  refine Cl_in rfl ?_
  (repeat refine Ax_step rfl ?_)
  exact loop 40 0 (by omega) μ (fun _ _ _ _ => rfl) (fun j hj => by omega)
theorem prs_8 {μ : PM} {a b : Nat} : prs μ 8 0 a b ↔ a < 8 ∧ b < szm μ a := by
  unfold prs
  constructor
  · rintro (z | z)
    · exact z
    · omega
  · exact Or.inl
theorem fs_1 {μ μ' : PM} (hT : TI μ) (h5 : ∀ j, j < 192 → μ 5 0 j = 0) (h7 : ∀ j, j < 40 → μ 7 0 j = 0) (h9 : ∀ j, j < 40 → μ 9 0 j = 0) (h : rdP μ μ' (prs μ 8 0) (own μ) (nI 1)) : FS μ' 1 := by
  have hts := h.ts
  have hK := hT.k.2.2
  obtain ⟨h1, h2, h3, h4⟩ := h
  have one : ∀ k m i c, k ≤ 1 → wy μ k m i c → k = 1 ∧ own μ m i c = true := by
    intro k m i c hk hw
    have := wy_pos hw
    have e : k = 1 := by omega
    subst e
    exact ⟨rfl, hw⟩
  refine ⟨fun m i c hm hi hc => ?_, fun m i c k hm hi hk hl => ?_, fun d c hd hc => ?_, fun d c hd hc => ?_⟩
  · rw [ts_szm hts] at hi
    have hs := (hT.s hm).2
    rw [h2 m i c hm (by omega) hc, h5 _ (by omega), b_0]
    simp only [ts_wy hts]
    constructor
    · rintro (z | z)
      · cases z
      · exact ⟨1, Nat.le_refl _, z.2⟩
    · rintro ⟨k, hk, hw⟩
      exact Or.inr ⟨prs_8.mpr ⟨hm, hi⟩, (one k m i c hk hw).2⟩
  · rw [ts_szm hts] at hi
    rw [ts_ls hts] at hl
    have hs := (hT.s hm).2
    obtain ⟨rfl, ho⟩ := one k m i c hk hl.1
    have hc := own_lt hT hm hi ho
    exact (h3 m i c hm (by omega) (by omega)).1 ⟨prs_8.mpr ⟨hm, hi⟩, ho, by rw [h5 _ (by omega), b_0]⟩
  · rw [h1 7 0 d (by omega) (by omega) (by omega), h7 d hd, b_0]
    constructor
    · intro z; cases z
    · rintro ⟨k, hk, hw⟩
      have := dw_pos hw
      omega
  · rw [h4 d c hd hc, h9 d hd, b_0]
    simp only [ts_ls hts, ts_szm hts, ts_thr hts]
    constructor
    · rintro (z | ⟨a, b, ha, hb, z1, z2, z3, z4⟩)
      · cases z
      · have hz := prs_8.mp z1
        have e : d / 5 = a := by rw [← z4]; exact (hT.thr_lt ha).2
        rw [e]
        refine ⟨b, hz.2, z4, z2, fun j hj hw => ?_⟩
        have := wy_pos hw
        omega
    · rintro ⟨j, z1, z2, z3⟩
      have hm : d / 5 < 8 := by omega
      have hs := (hT.s hm).2
      exact Or.inr ⟨d / 5, j, hm, by omega, prs_8.mpr ⟨hm, z1⟩, z3.1, by rw [h5 _ (by omega), b_0], z2⟩
theorem fs_s {μ μ1 μ2 : PM} {L : Nat} (hT : TI μ) (hL : 1 ≤ L) (hF : FS μ L) (ho : odP μ μ1) (hr : rdP μ1 μ2 (prs μ1 8 0) (frS μ1) (nI (L + 1))) : FS μ2 (L + 1) := by
  obtain ⟨hts, k8, k7⟩ := open_fs hT hL hF ho
  have hts2 := hr.ts
  have htt := hts.tr hts2
  have hK := hT.k.2.2
  obtain ⟨f1, f2, f3, f4⟩ := hF
  obtain ⟨h1, h2, h3, h4⟩ := hr
  have r5 : ∀ j, μ1 5 0 j = μ 5 0 j := fun j => ho.1 5 0 j (by omega) (by omega) (by omega)
  -- who raises anew
  have new : ∀ m i c, m < 8 → i < szm μ m → c < 32 → ((frS μ1 m i c = true ∧ bt (μ 5 0 (m * 24 + i)) c = false) ↔ ls μ (L + 1) m i c) := by
    intro m i c hm hi hc
    have hno : bt (μ 5 0 (m * 24 + i)) c = false ↔ ∀ k, k ≤ L → ¬ wy μ k m i c := by
      rw [← Bool.not_eq_true, f1 m i c hm hi hc]
      constructor
      · intro z k hk hw; exact z ⟨k, hk, hw⟩
      · rintro z ⟨k, hk, hw⟩; exact z k hk hw
    rw [hno]
    unfold frS
    rw [ts_src hts]
    constructor
    · rintro ⟨z1, z2⟩
      cases hs : src μ m i with
      | none => rw [hs] at z1; cases z1
      | some d =>
        rw [hs] at z1
        have hd := src_lt hT hm hi hs
        have := (k8 d c hd hc).mp z1
        exact ⟨(wy_s hL).mpr ⟨d, hs, this.1⟩, fun j hj => z2 j (by omega)⟩
    · rintro ⟨z1, z2⟩
      refine ⟨?_, fun k hk => z2 k (by omega)⟩
      obtain ⟨d, hs, hw⟩ := (wy_s hL).mp z1
      rw [hs]
      have hd := src_lt hT hm hi hs
      refine (k8 d c hd hc).mpr ⟨hw, fun j hj hw2 => ?_⟩
      exact z2 (j + 1) (by omega) ((wy_s (dw_pos hw2)).mpr ⟨d, hs, hw2⟩)
  refine ⟨fun m i c hm hi hc => ?_, fun m i c k hm hi hk hl => ?_, fun d c hd hc => ?_, fun d c hd hc => ?_⟩
  · rw [ts_szm htt] at hi
    have hs := (hT.s hm).2
    rw [h2 m i c hm (by omega) hc, r5]
    simp only [ts_wy htt]
    constructor
    · rintro (z | z)
      · obtain ⟨k, hk, hw⟩ := (f1 m i c hm hi hc).mp z
        exact ⟨k, by omega, hw⟩
      · cases hz : bt (μ 5 0 (m * 24 + i)) c with
        | true =>
          obtain ⟨k, hk, hw⟩ := (f1 m i c hm hi hc).mp hz
          exact ⟨k, by omega, hw⟩
        | false => exact ⟨L + 1, Nat.le_refl _, ((new m i c hm hi hc).mp ⟨z.2, hz⟩).1⟩
    · rintro ⟨k, hk, hw⟩
      obtain ⟨n, hn, hl⟩ := wy_ex hw
      by_cases e : n = L + 1
      · subst e
        exact Or.inr ⟨prs_8.mpr ⟨hm, by rw [ts_szm hts]; exact hi⟩, ((new m i c hm hi hc).mpr hl).1⟩
      · exact Or.inl ((f1 m i c hm hi hc).mpr ⟨n, by omega, hl.1⟩)
  · rw [ts_szm htt] at hi
    rw [ts_ls htt] at hl
    have hs := (hT.s hm).2
    have hc := wy_lt hT k hm hi hl.1
    have hh := h3 m i c hm (by omega) (by omega)
    rw [r5] at hh
    by_cases e : k = L + 1
    · subst e
      have := (new m i c hm hi (by omega)).mpr hl
      exact hh.1 ⟨prs_8.mpr ⟨hm, by rw [ts_szm hts]; exact hi⟩, this⟩
    · rw [hh.2 (fun z => ?_), ho.1 6 0 _ (by omega) (by omega) (by omega)]
      · exact f2 m i c k hm hi (by omega) hl
      · have := ((new m i c hm hi (by omega)).mp z.2).2 k (by omega)
        exact this hl.1
  · rw [h1 7 0 d (by omega) (by omega) (by omega), k7 d c hd hc]
    simp only [ts_dw htt]
    constructor
    · rintro ⟨k, hk, hw⟩; exact ⟨k, by omega, hw⟩
    · rintro ⟨k, hk, hw⟩; exact ⟨k, by omega, hw⟩
  · rw [h4 d c hd hc, (ho.2 d hd).2.2, b_0]
    simp only [ts_ls htt, ts_szm htt, ts_thr htt, r5]
    constructor
    · rintro (z | ⟨a, b, ha, hb, z1, z2, z3, z4⟩)
      · cases z
      · have hz := prs_8.mp z1
        rw [ts_szm hts] at hz
        rw [ts_thr hts] at z4
        have e : d / 5 = a := by rw [← z4]; exact (hT.thr_lt ha).2
        rw [e]
        exact ⟨b, hz.2, z4, (new a b c ha hz.2 hc).mp ⟨z2, z3⟩⟩
    · rintro ⟨j, z1, z2, z3⟩
      have hm : d / 5 < 8 := by omega
      have hs := (hT.s hm).2
      have := (new (d / 5) j c hm z1 hc).mpr z3
      exact Or.inr ⟨d / 5, j, hm, by omega, prs_8.mpr ⟨hm, by rw [ts_szm hts]; exact z1⟩, this.1, this.2, by rw [ts_thr hts]; exact z2⟩
theorem c_refresh {μ : PM} {Q : Option PV → PM → Prop} (hT : TI μ) (hfr : μ 4 0 1 = 0 → FD μ) (hq : ∀ μ' : PM, (∀ t mm j, ¬ (4 ≤ t ∧ t ≤ 9) → μ' t mm j = μ t mm j) → μ' 4 0 1 = 0 → FD μ' → Q none μ') : Cl 71 [pR 4 0] μ Q := by
  refine Cl_in rfl ?_
  (repeat refine Ax_step rfl ?_)
  refine Ax_br rfl (fun hb => ?_) (fun hb => ?_)
  · (repeat refine Ax_step rfl ?_)
    refine Ax_call rfl (c_fill5 (fun μ1 a1 b1 => ?_))
    (repeat refine Ax_step rfl ?_)
    refine Ax_call rfl (c_fill7 (fun μ2 a2 b2 => ?_))
    (repeat refine Ax_step rfl ?_)
    refine Ax_call rfl (c_fill9 (fun μ3 a3 b3 => ?_))
    (repeat refine Ax_step rfl ?_)
    have fr3 : ∀ t mm j, ¬ (4 ≤ t ∧ t ≤ 9) → μ3 t mm j = μ t mm j := fun t mm j ht => by rw [a3 t mm j (by omega), a2 t mm j (by omega), a1 t mm j (by omega)]
    have ts3 : ts μ μ3 := ts.of (S := fun t => 4 ≤ t ∧ t ≤ 9) fr3 (by omega) (by omega) (by omega) (fun t h => by omega)
    have hT3 := ts_TI ts3 hT
    refine Ax_call rfl (c_raiseOwn hT3 (fun μ4 h4 => ?_))
    (repeat refine Ax_step rfl ?_)
    have hF : FS μ4 1 := fs_1 hT3 (fun j hj => by rw [a3 5 0 j (by omega), a2 5 0 j (by omega)]; exact b1 j hj) (fun j hj => by rw [a3 7 0 j (by omega)]; exact b2 j hj) b3 h4
    have fr4 : ∀ t mm j, ¬ (4 ≤ t ∧ t ≤ 9) → μ4 t mm j = μ t mm j := fun t mm j ht => by rw [h4.1 t mm j (by omega) (by omega) (by omega)]; exact fr3 t mm j ht
    have fin : ∀ (μ5 : PM) (x : Option PV), (∀ t mm j, ¬ (4 ≤ t ∧ t ≤ 9) → μ5 t mm j = μ t mm j) → FD μ5 → Ax 71 62 [some (pR 4 0), x] [] μ5 (fun y r' μ1 => y = 0 ∧ Q r' μ1) := by
      intro μ5 x fr hD
      (repeat refine Ax_step rfl ?_)
      refine Ax_putz rfl rfl (Or.inl rfl) ?_
      (repeat refine Ax_step rfl ?_)
      have tt : ts μ5 (pu μ5 4 0 1 (nI 0)) := ts.pu (by omega) (by omega) (by omega) (by omega)
      refine Ax_rV rfl ⟨rfl, hq _ (fun t mm j ht => by rw [pu_t (by omega)]; exact fr t mm j ht) pu_s ?_⟩
      obtain ⟨d1, d2, d3⟩ := hD
      refine ⟨fun m i c hm hi hc => ?_, fun m i c k hm hi hl => ?_, fun d c hd hc => ?_⟩
      · rw [ts_szm tt] at hi
        simp only [ts_wy tt]
        rw [pu_t (by omega)]; exact d1 m i c hm hi hc
      · rw [ts_szm tt] at hi
        rw [ts_ls tt] at hl
        rw [pu_t (by omega)]; exact d2 m i c k hm hi hl
      · simp only [ts_dw tt]
        rw [pu_t (by omega)]; exact d3 d c hd hc
    have loop : ∀ r L, L + r = 41 → 1 ≤ L → ∀ μk, (∀ t mm j, ¬ (4 ≤ t ∧ t ≤ 9) → μk t mm j = μ t mm j) → FS μk L → Ax 71 41 [some (pR 4 0), some (pI (nI (L + 1)))] [pI (nI 41), pI (nI (L + 1))] μk (fun y r' μ1 => y = 0 ∧ Q r' μ1) := by
      intro r
      induction r with
      | zero =>
        intro L hL h1 μk fr hF
        have hTk := ts_TI (ts.of (S := fun t => 4 ≤ t ∧ t ≤ 9) fr (by omega) (by omega) (by omega) (fun t h => by omega)) hT
        rw [show L = 41 by omega] at hF
        refine Ax_br rfl (fun _ => fin μk _ fr (FS_41 hTk hF)) (fun hb => absurd (nI_lt (by omega) (by omega)) hb)
      | succ r ih =>
        intro L hL h1 μk fr hF
        have hTk := ts_TI (ts.of (S := fun t => 4 ≤ t ∧ t ≤ 9) fr (by omega) (by omega) (by omega) (fun t h => by omega)) hT
        refine Ax_br rfl (fun hb => absurd hb (nI_nlt (by omega) (by omega))) (fun _ => ?_)
        (repeat refine Ax_step rfl ?_)
        refine Ax_call rfl (c_open (fun μ5 b ho hb => ?_))
        have fr5 : ∀ t mm j, ¬ (4 ≤ t ∧ t ≤ 9) → μ5 t mm j = μ t mm j := fun t mm j ht => by rw [ho.1 t mm j (by omega) (by omega) (by omega)]; exact fr t mm j ht
        refine Ax_br rfl (fun hz => fin μ5 _ fr5 (open_fd hTk h1 hF ho (hb.mp (bI_0.mp hz)))) (fun _ => ?_)
        (repeat refine Ax_step rfl ?_)
        obtain ⟨hts5, k8, -⟩ := open_fs hTk h1 hF ho
        have hT5 := ts_TI hts5 hTk
        refine Ax_call rfl (c_raiseFresh hT5 (fun d c hd h10 h32 => ?_) (fun μ6 h6 => ?_))
        · cases hz : bt (μ5 8 0 d) c with
          | false => rfl
          | true => have := dw_lt hTk hd ((k8 d c hd h32).mp hz).1; have := hTk.k.2.2; omega
        · (repeat refine Ax_step rfl ?_)
          rw [nI_add]
          exact ih (L + 1) (by omega) (by omega) μ6 (fun t mm j ht => by rw [h6.1 t mm j (by omega) (by omega) (by omega)]; exact fr5 t mm j ht) (fs_s hTk h1 hF ho h6)
    exact loop 40 1 (by omega) (by omega) μ4 fr4 hF
  · have h0 : μ 4 0 1 = 0 := Decidable.byContradiction hb
    exact Ax_rV rfl ⟨rfl, hq μ (fun _ _ _ _ => rfl) h0 (hfr h0)⟩
end
section
/-! What the class answers when it is asked. -/
theorem nI_no {x : Int32} {n : Nat} (hn : n < 2 ^ 31) (h : x < 0 ∨ nI n ≤ x) : ∀ m, m < n → x ≠ nI m := by
  rintro m hm rfl
  rcases h with z | z
  · exact nI_pos (by omega) z
  · exact nI_ge hm hn z
theorem nI_yes {x : Int32} {n : Nat} (hn : n < 2 ^ 31) (h0 : ¬ x < 0) (h1 : ¬ nI n ≤ x) : ∃ m, m < n ∧ x = nI m := by
  rcases pk_ix x hn with z | z | z
  · exact absurd z h0
  · exact absurd z h1
  · exact z
theorem c_hasKind {μ : PM} {x : Int32} {Q : Option PV → PM → Prop} (hT : TI μ) (h1 : ∀ m, m < kct μ → x = nI m → Q (some (pI 1)) μ) (h0 : (∀ m, m < kct μ → x ≠ nI m) → Q (some (pI 0)) μ) : Cl 76 [pR 2 0, pI x] μ Q := by
  have hk := hT.k
  refine c_has (fun a b => ?_) (fun a => ?_)
  · rw [hk.1] at b
    obtain ⟨m, hm, e⟩ := nI_yes (by omega) (Int32.not_lt.mpr a) (Int32.not_le.mpr b)
    exact h1 m hm e
  · refine h0 (nI_no (by omega) ?_)
    rw [hk.1] at a
    by_cases z : x < 0
    · exact Or.inl z
    · exact Or.inr (Int32.not_lt.mp (fun y => a ⟨Int32.not_lt.mp z, y⟩))
section P16
variable {μ : PM} {x y : Int32} {Q : Option PV → PM → Prop}
theorem c_hasMethod (hT : TI μ) (h1 : ∀ m, m < mct μ → x = nI m → Q (some (pI 1)) μ) (h0 : (∀ m, m < mct μ → x ≠ nI m) → Q (some (pI 0)) μ) : Cl 98 [pR 1 0, pI x] μ Q := by
  have hk := hT.m
  refine Cl_in rfl ?_
  (repeat refine Ax_step rfl ?_)
  refine Ax_br rfl (fun hb => ?_) (fun hb => ?_)
  · (repeat refine Ax_step rfl ?_)
    exact Ax_rZ rfl (Or.inl rfl) ⟨rfl, h0 (nI_no (by omega) (Or.inl hb))⟩
  · (repeat refine Ax_step rfl ?_)
    rw [hk.1]
    refine Ax_br rfl (fun hb2 => ?_) (fun hb2 => ?_)
    · (repeat refine Ax_step rfl ?_)
      exact Ax_rZ rfl (Or.inl rfl) ⟨rfl, h0 (nI_no (by omega) (Or.inr hb2))⟩
    · (repeat refine Ax_step rfl ?_)
      obtain ⟨m, hm, e⟩ := nI_yes (by omega) hb hb2
      exact Ax_rZ rfl (Or.inr rfl) ⟨rfl, h1 m hm e⟩
theorem c_hasIns (hT : TI μ) (h1 : ∀ m i, m < mct μ → x = nI m → i < szm μ m → y = nI i → Q (some (pI 1)) μ) (h0 : (∀ m i, m < mct μ → x = nI m → i < szm μ m → y ≠ nI i) → Q (some (pI 0)) μ) : Cl 99 [pR 1 0, pI x, pI y] μ Q := by
  refine Cl_in rfl ?_
  (repeat refine Ax_step rfl ?_)
  refine Ax_call rfl (c_hasMethod hT (fun m hm e => ?_) (fun no => ?_))
  · subst e
    have hm8 : m < 8 := by have := hT.m.2; omega
    have hs := hT.s hm8
    have h0' : (∀ i, i < szm μ m → y ≠ nI i) → Q (some (pI 0)) μ := fun h => h0 (fun m' i hm' e hi => by
      have := (nI_eq (by omega) (by have := hT.m.2; omega)).mp e
      subst this
      exact h i hi)
    refine Ax_br rfl (fun hb => absurd hb (by decide)) (fun _ => ?_)
    (repeat refine Ax_step rfl ?_)
    refine Ax_br rfl (fun hb => ?_) (fun hb => ?_)
    · (repeat refine Ax_step rfl ?_)
      exact Ax_rZ rfl (Or.inl rfl) ⟨rfl, h0' (nI_no (by omega) (Or.inl hb))⟩
    · (repeat refine Ax_step rfl ?_)
      refine Ax_aal m rfl rfl hm8 ?_
      (repeat refine Ax_step rfl ?_)
      rw [hs.1]
      refine Ax_br rfl (fun hb2 => ?_) (fun hb2 => ?_)
      · (repeat refine Ax_step rfl ?_)
        exact Ax_rZ rfl (Or.inl rfl) ⟨rfl, h0' (nI_no (by omega) (Or.inr hb2))⟩
      · (repeat refine Ax_step rfl ?_)
        obtain ⟨i, hi, e⟩ := nI_yes (by omega) hb hb2
        exact Ax_rZ rfl (Or.inr rfl) ⟨rfl, h1 m i hm rfl hi e⟩
  · refine Ax_br rfl (fun _ => ?_) (fun hb => absurd rfl hb)
    (repeat refine Ax_step rfl ?_)
    exact Ax_rZ rfl (Or.inl rfl) ⟨rfl, h0 (fun m i hm e _ => absurd e (no m hm))⟩
theorem c_hasHan (hT : TI μ) (h1 : ∀ m i, m < mct μ → x = nI m → i < hcm μ m → y = nI i → Q (some (pI 1)) μ) (h0 : (∀ m i, m < mct μ → x = nI m → i < hcm μ m → y ≠ nI i) → Q (some (pI 0)) μ) : Cl 100 [pR 1 0, pI x, pI y] μ Q := by
  refine Cl_in rfl ?_
  (repeat refine Ax_step rfl ?_)
  refine Ax_call rfl (c_hasMethod hT (fun m hm e => ?_) (fun no => ?_))
  · subst e
    have hm8 : m < 8 := by have := hT.m.2; omega
    have hs := hT.h hm8
    have h0' : (∀ i, i < hcm μ m → y ≠ nI i) → Q (some (pI 0)) μ := fun h => h0 (fun m' i hm' e hi => by
      have := (nI_eq (by omega) (by have := hT.m.2; omega)).mp e
      subst this
      exact h i hi)
    refine Ax_br rfl (fun hb => absurd hb (by decide)) (fun _ => ?_)
    (repeat refine Ax_step rfl ?_)
    refine Ax_br rfl (fun hb => ?_) (fun hb => ?_)
    · (repeat refine Ax_step rfl ?_)
      exact Ax_rZ rfl (Or.inl rfl) ⟨rfl, h0' (nI_no (by omega) (Or.inl hb))⟩
    · (repeat refine Ax_step rfl ?_)
      refine Ax_aal m rfl rfl hm8 ?_
      (repeat refine Ax_step rfl ?_)
      rw [hs.1]
      refine Ax_br rfl (fun hb2 => ?_) (fun hb2 => ?_)
      · (repeat refine Ax_step rfl ?_)
        exact Ax_rZ rfl (Or.inl rfl) ⟨rfl, h0' (nI_no (by omega) (Or.inr hb2))⟩
      · (repeat refine Ax_step rfl ?_)
        obtain ⟨i, hi, e⟩ := nI_yes (by omega) hb hb2
        exact Ax_rZ rfl (Or.inr rfl) ⟨rfl, h1 m i hm rfl hi e⟩
  · refine Ax_br rfl (fun _ => ?_) (fun hb => absurd rfl hb)
    (repeat refine Ax_step rfl ?_)
    exact Ax_rZ rfl (Or.inl rfl) ⟨rfl, h0 (fun m i hm e _ => absurd e (no m hm))⟩
/-- which classes go through a door, as a mask -/
def thM (μ : PM) (d : Nat) (v : Int32) : Prop := ∀ c, c < 32 → (bt v c = true ↔ ∃ k, dw μ k d c)
def raM (μ : PM) (m i : Nat) (v : Int32) : Prop := ∀ c, c < 32 → (bt v c = true ↔ ∃ k, wy μ k m i c)
theorem msk_eq {P : Nat → Prop} {v w : Int32} (h : ∀ c, c < 32 → (bt v c = true ↔ P c)) (g : ∀ c, c < 32 → (bt w c = true ↔ P c)) : v = w := by
  apply b_ext
  intro c hc
  have := (h c hc).trans (g c hc).symm
  cases e : bt v c <;> cases e2 : bt w c <;> simp_all
/-- the frame of a question: only the flow's rows -/
def frF (μ μ' : PM) : Prop := ∀ t mm j, ¬ (4 ≤ t ∧ t ≤ 9) → μ' t mm j = μ t mm j
theorem frF.ts {μ μ' : PM} (h : frF μ μ') : ts μ μ' := ts.of (S := fun t => 4 ≤ t ∧ t ≤ 9) h (by omega) (by omega) (by omega) (fun t h => by omega)
theorem c_out (hT : TI μ) (hf : μ 4 0 1 = 0 → FD μ) (h1 : ∀ μ' m v, frF μ μ' → μ' 4 0 1 = 0 → FD μ' → m < mct μ → x = nI m → thM μ (m * 5 + 4) v → Q (some (pI v)) μ') (h0 : ∀ μ', frF μ μ' → μ' 4 0 1 = 0 → FD μ' → (∀ m, m < mct μ → x ≠ nI m) → Q (some (pI 0)) μ') : Cl 6 [pR 0 0, pI x] μ Q := by
  refine Cl_in rfl ?_
  (repeat refine Ax_step rfl ?_)
  refine Ax_call rfl (c_refresh hT hf (fun μ' fr s0 hD => ?_))
  have hts := frF.ts fr
  have hT' := ts_TI hts hT
  (repeat refine Ax_step rfl ?_)
  refine Ax_call rfl (c_hasMethod hT' (fun m hm e => ?_) (fun no => ?_))
  · subst e
    rw [ts_mct hts] at hm
    have hm8 : m < 8 := by have := hT.m.2; omega
    refine Ax_br rfl (fun hb => absurd hb (by decide)) (fun _ => ?_)
    (repeat refine Ax_step rfl ?_)
    refine Ax_call rfl (Cl_in rfl ?_)
    (repeat refine Ax_step rfl ?_)
    rw [pk_mul, nI_add]
    refine Ax_rI rfl ⟨rfl, ?_⟩
    refine Ax_call rfl (Cl_in rfl ?_)
    (repeat refine Ax_step rfl ?_)
    refine Ax_ald (m * 5 + 4) rfl rfl (show m * 5 + 4 < 40 by omega) ?_
    refine Ax_rI rfl ⟨rfl, ?_⟩
    (repeat refine Ax_step rfl ?_)
    refine Ax_rI rfl ⟨rfl, h1 μ' m _ fr s0 hD hm rfl (fun c hc => ?_)⟩
    rw [hD.2.2 _ c (by omega) hc]
    simp only [ts_dw hts]
  · rw [ts_mct hts] at no
    refine Ax_br rfl (fun _ => ?_) (fun hb => absurd rfl hb)
    (repeat refine Ax_step rfl ?_)
    exact Ax_rI rfl ⟨rfl, h0 μ' fr s0 hD no⟩
theorem c_raises (hT : TI μ) (hf : μ 4 0 1 = 0 → FD μ) (h1 : ∀ μ' m i v, frF μ μ' → μ' 4 0 1 = 0 → FD μ' → m < mct μ → x = nI m → i < szm μ m → y = nI i → raM μ m i v → Q (some (pI v)) μ') (h0 : ∀ μ', frF μ μ' → μ' 4 0 1 = 0 → FD μ' → (∀ m i, m < mct μ → x = nI m → i < szm μ m → y ≠ nI i) → Q (some (pI 0)) μ') : Cl 7 [pR 0 0, pI x, pI y] μ Q := by
  refine Cl_in rfl ?_
  (repeat refine Ax_step rfl ?_)
  refine Ax_call rfl (c_refresh hT hf (fun μ' fr s0 hD => ?_))
  have hts := frF.ts fr
  have hT' := ts_TI hts hT
  (repeat refine Ax_step rfl ?_)
  refine Ax_call rfl (c_hasIns hT' (fun m i hm e hi e2 => ?_) (fun no => ?_))
  · subst e
    subst e2
    rw [ts_mct hts] at hm
    have hm8 : m < 8 := by have := hT.m.2; omega
    have hi24 := (hT'.s hm8).2
    refine Ax_br rfl (fun hb => absurd hb (by decide)) (fun _ => ?_)
    (repeat refine Ax_step rfl ?_)
    refine Ax_call rfl (Cl_in rfl ?_)
    (repeat refine Ax_step rfl ?_)
    refine Ax_call rfl (Cl_in rfl ?_)
    (repeat refine Ax_step rfl ?_)
    rw [pk_mul, nI_add]
    refine Ax_rI rfl ⟨rfl, ?_⟩
    refine Ax_ald (m * 24 + i) rfl rfl (show m * 24 + i < 192 by omega) ?_
    refine Ax_rI rfl ⟨rfl, ?_⟩
    (repeat refine Ax_step rfl ?_)
    refine Ax_rI rfl ⟨rfl, h1 μ' m i _ fr s0 hD hm rfl (by rw [← ts_szm hts]; exact hi) rfl (fun c hc => ?_)⟩
    rw [hD.1 m i c hm8 hi hc]
    simp only [ts_wy hts]
  · simp only [ts_mct hts, ts_szm hts] at no
    refine Ax_br rfl (fun _ => ?_) (fun hb => absurd rfl hb)
    (repeat refine Ax_step rfl ?_)
    exact Ax_rI rfl ⟨rfl, h0 μ' fr s0 hD no⟩
theorem c_catches (hT : TI μ) (hf : μ 4 0 1 = 0 → FD μ) (h1 : ∀ μ' m i v, frF μ μ' → μ' 4 0 1 = 0 → FD μ' → m < mct μ → x = nI m → i < hcm μ m → y = nI i → thM μ (m * 5 + i) v → Q (some (pI v)) μ') (h0 : ∀ μ', frF μ μ' → μ' 4 0 1 = 0 → FD μ' → (∀ m i, m < mct μ → x = nI m → i < hcm μ m → y ≠ nI i) → Q (some (pI 0)) μ') : Cl 8 [pR 0 0, pI x, pI y] μ Q := by
  refine Cl_in rfl ?_
  (repeat refine Ax_step rfl ?_)
  refine Ax_call rfl (c_refresh hT hf (fun μ' fr s0 hD => ?_))
  have hts := frF.ts fr
  have hT' := ts_TI hts hT
  (repeat refine Ax_step rfl ?_)
  refine Ax_call rfl (c_hasHan hT' (fun m i hm e hi e2 => ?_) (fun no => ?_))
  · subst e
    subst e2
    rw [ts_mct hts] at hm
    have hm8 : m < 8 := by have := hT.m.2; omega
    have hi4 := (hT'.h hm8).2
    refine Ax_br rfl (fun hb => absurd hb (by decide)) (fun _ => ?_)
    (repeat refine Ax_step rfl ?_)
    refine Ax_call rfl (Cl_in rfl ?_)
    (repeat refine Ax_step rfl ?_)
    rw [pk_mul, nI_add]
    refine Ax_rI rfl ⟨rfl, ?_⟩
    refine Ax_call rfl (Cl_in rfl ?_)
    (repeat refine Ax_step rfl ?_)
    refine Ax_ald (m * 5 + i) rfl rfl (show m * 5 + i < 40 by omega) ?_
    refine Ax_rI rfl ⟨rfl, ?_⟩
    (repeat refine Ax_step rfl ?_)
    refine Ax_rI rfl ⟨rfl, h1 μ' m i _ fr s0 hD hm rfl (by rw [← ts_hcm hts]; exact hi) rfl (fun c hc => ?_)⟩
    rw [hD.2.2 _ c (by omega) hc]
    simp only [ts_dw hts]
  · simp only [ts_mct hts, ts_hcm hts] at no
    refine Ax_br rfl (fun _ => ?_) (fun hb => absurd rfl hb)
    (repeat refine Ax_step rfl ?_)
    exact Ax_rI rfl ⟨rfl, h0 μ' fr s0 hD no⟩
/-- the length that an instruction has -/
theorem c_lenF {m i c : Nat} (hT : TI μ) (hD : FD μ) (hm : m < 8) (hi : i < szm μ m) (hc : c < 10) (h1 : ∀ k, ls μ k m i c → Q (some (pI (nI k))) μ) (h0 : (∀ k, ¬ wy μ k m i c) → Q (some (pI 0)) μ) : Cl 67 [pR 4 0, pI (nI m), pI (nI i), pI (nI c)] μ Q := by
  have hs := (hT.s hm).2
  refine c_lengthAt hm (by omega) hc ?_
  cases hz : bt (μ 5 0 (m * 24 + i)) c with
  | true =>
    obtain ⟨k, hw⟩ := (hD.1 m i c hm hi (by omega)).mp hz
    obtain ⟨n, -, hl⟩ := wy_ex hw
    rw [if_pos rfl, hD.2.1 m i c n hm hi hl]
    exact h1 n hl
  | false =>
    rw [if_neg (by decide)]
    exact h0 (fun k hw => by have := (hD.1 m i c hm hi (by omega)).mpr ⟨k, hw⟩; rw [hz] at this; cases this)
/-- j is the first place of a shortest way through door d, n long -/
def nst (μ : PM) (d c j n : Nat) : Prop := j < szm μ (d / 5) ∧ thr μ (d / 5) j c = d ∧ wy μ n (d / 5) j c ∧ dl μ n d c ∧ ∀ j', j' < j → thr μ (d / 5) j' c = d → ¬ wy μ n (d / 5) j' c
theorem c_nearest {d c : Nat} (hT : TI μ) (hD : FD μ) (hd : d < 40) (hc : c < 10) (h1 : ∀ j n, nst μ d c j n → Q (some (pI (nI j))) μ) (h0 : (∀ k, ¬ dw μ k d c) → Q (some (pI (-1))) μ) : Cl 66 [pR 4 0, pI (nI d), pI (nI c)] μ Q := by
  have hm : d / 5 < 8 := by omega
  have hs := hT.s hm
  generalize hme : d / 5 = m at hm hs
  have thr' : ∀ j, thr μ m j c = d → thr μ (d / 5) j c = d := fun j h => by rw [hme]; exact h
  have loop : ∀ r i, i + r = szm μ m → ∀ (be bl : Int32) (z : Option PV), ((be = -1 ∧ bl = nI 42 ∧ ∀ j, j < i → thr μ m j c = d → ∀ k, ¬ wy μ k m j c) ∨ ∃ j n, be = nI j ∧ bl = nI n ∧ j < i ∧ thr μ m j c = d ∧ wy μ n m j c ∧ n ≤ 41 ∧ (∀ j', j' < i → thr μ m j' c = d → ∀ k, k < n → ¬ wy μ k m j' c) ∧ ∀ j', j' < j → thr μ m j' c = d → ¬ wy μ n m j' c) →
      Ax 66 32 [some (pR 4 0), some (pI (nI d)), some (pI (nI c)), some (pI (nI m)), some (pR 40 m), some (pI be), some (pI bl), some (pI (nI i)), z] [pI (μ 40 m 3), pI (nI i)] μ (fun y r' μ1 => y = 0 ∧ Q r' μ1) := by
    intro r
    induction r with
    | zero =>
      intro i hi be bl z hI
      rw [hs.1]
      refine Ax_br rfl (fun _ => ?_) (fun hb => absurd (nI_le (by omega) (by omega)) hb)
      (repeat refine Ax_step rfl ?_)
      refine Ax_rI rfl ⟨rfl, ?_⟩
      rcases hI with ⟨rfl, -, no⟩ | ⟨j, n, rfl, -, g1, g2, g3, g4, g5, g6⟩
      · refine h0 (fun k hw => ?_)
        obtain ⟨j, w1, w2, w3⟩ := hw
        rw [hme] at w1 w2 w3
        exact no j (by omega) w2 k w3
      · refine h1 j n ⟨by rw [hme]; omega, thr' j g2, by rw [hme]; exact g3, ⟨⟨j, by rw [hme]; omega, thr' j g2, by rw [hme]; exact g3⟩, fun k hk hw => ?_⟩, fun j' hj' ht => by rw [hme] at ht ⊢; exact g6 j' hj' ht⟩
        obtain ⟨j', w1, w2, w3⟩ := hw
        rw [hme] at w1 w2 w3
        exact g5 j' (by omega) w2 k hk w3
    | succ r ih =>
      intro i hi be bl z hI
      rw [hs.1]
      refine Ax_br rfl (fun hb => absurd hb (nI_ge (by omega) (by omega))) (fun _ => ?_)
      (repeat refine Ax_step rfl ?_)
      have skip : ∀ z : Option PV, (thr μ m i c = d → ∀ k, wy μ k m i c → ∃ n, bl = nI n ∧ n ≤ k ∧ n < 42) → Ax 66 77 [some (pR 4 0), some (pI (nI d)), some (pI (nI c)), some (pI (nI m)), some (pR 40 m), some (pI be), some (pI bl), some (pI (nI i)), z] [] μ (fun y r' μ1 => y = 0 ∧ Q r' μ1) := by
        intro z hsk
        (repeat refine Ax_step rfl ?_)
        rw [nI_add]
        refine ih (i + 1) (by omega) be bl z ?_
        rcases hI with ⟨e1, e2, no⟩ | ⟨j, n, e1, e2, g1, g2, g3, g4, g5, g6⟩
        · refine Or.inl ⟨e1, e2, fun j hj ht k hw => ?_⟩
          by_cases e : j = i
          · subst e
            obtain ⟨n, h1, h2, h3⟩ := hsk ht k hw
            rw [e2] at h1
            have := (nI_eq (by omega) (by omega)).mp h1
            omega
          · exact no j (by omega) ht k hw
        · refine Or.inr ⟨j, n, e1, e2, by omega, g2, g3, g4, fun j' hj' ht k hk hw => ?_, g6⟩
          by_cases e : j' = i
          · subst e
            obtain ⟨n', h1, h2, h3⟩ := hsk ht k hw
            rw [e2] at h1
            have := (nI_eq (by omega) (by omega)).mp h1
            omega
          · exact g5 j' (by omega) ht k hk hw
      refine Ax_call rfl (c_lenF hT hD hm (by omega) hc (fun k hl => ?_) (fun no => ?_))
      · have hk1 := wy_pos hl.1
        have hk41 := ls_41 hT hm (by omega) hl
        (repeat refine Ax_step rfl ?_)
        refine Ax_br rfl (fun hb => absurd hb (nI_nle (by omega) (by omega))) (fun _ => ?_)
        (repeat refine Ax_step rfl ?_)
        refine Ax_br rfl (fun hb => ?_) (fun hb => ?_)
        · refine skip _ (fun ht k' hw => ?_)
          have hkk : k ≤ k' := by
            rcases Nat.lt_or_ge k' k with z | z
            · exact absurd hw (hl.2 k' z)
            · exact z
          rcases hI with ⟨e1, e2, no⟩ | ⟨j, n, e1, e2, g1, g2, g3, g4, g5, g6⟩
          · rw [e2] at hb
            exact absurd hb (nI_ge (by omega) (by omega))
          · rw [e2] at hb
            have := (nI_leI (by omega) (by omega)).mp hb
            exact ⟨n, e2, by omega, by omega⟩
        · (repeat refine Ax_step rfl ?_)
          refine Ax_call rfl (c_goes hT hm (by omega) (by omega) ?_)
          (repeat refine Ax_step rfl ?_)
          have ht40 := (hT.thr_lt (i := i) (c := c) hm).1
          refine Ax_br rfl (fun hb2 => ?_) (fun hb2 => ?_)
          · refine skip _ (fun ht => ?_)
            exact absurd (by rw [ht]) hb2
          · have ht : thr μ m i c = d := (nI_eq (by omega) (by omega)).mp (Decidable.byContradiction hb2)
            (repeat refine Ax_step rfl ?_)
            rw [nI_add]
            refine ih (i + 1) (by omega) (nI i) (nI k) _ (Or.inr ⟨i, k, rfl, rfl, by omega, ht, hl.1, hk41, fun j' hj' ht' k' hk' hw => ?_, fun j' hj' ht' hw => ?_⟩)
            · by_cases e : j' = i
              · subst e; exact hl.2 k' hk' hw
              · rcases hI with ⟨e1, e2, no⟩ | ⟨j, n, e1, e2, g1, g2, g3, g4, g5, g6⟩
                · exact no j' (by omega) ht' k' hw
                · rw [e2] at hb
                  have : ¬ n ≤ k := fun z => hb (nI_le z (by omega))
                  exact g5 j' (by omega) ht' k' (by omega) hw
            · rcases hI with ⟨e1, e2, no⟩ | ⟨j, n, e1, e2, g1, g2, g3, g4, g5, g6⟩
              · exact no j' (by omega) ht' k hw
              · rw [e2] at hb
                have : ¬ n ≤ k := fun z => hb (nI_le z (by omega))
                exact g5 j' (by omega) ht' k (by omega) hw
      · (repeat refine Ax_step rfl ?_)
        refine Ax_br rfl (fun _ => skip _ (fun _ k hw => absurd hw (no k))) (fun hb => absurd (by decide) hb)
  refine Cl_in rfl ?_
  (repeat refine Ax_step rfl ?_)
  refine Ax_div rfl (by decide) ?_
  rw [pk_div (by omega) (by omega) (by omega), hme]
  (repeat refine Ax_step rfl ?_)
  refine Ax_aal m rfl rfl hm ?_
  (repeat refine Ax_step rfl ?_)
  exact loop (szm μ m) 0 (by omega) (-1) (nI 42) _ (Or.inl ⟨rfl, rfl, fun j hj => by omega⟩)
theorem nst_fun {d c j n j' n' : Nat} (h : nst μ d c j n) (g : nst μ d c j' n') : j = j' ∧ n = n' := by
  have e := dl_fun h.2.2.2.1 g.2.2.2.1
  subst e
  refine ⟨?_, rfl⟩
  rcases Nat.lt_trichotomy j j' with z | z | z
  · exact absurd h.2.2.1 (g.2.2.2.2 j z h.2.1)
  · exact z
  · exact absurd g.2.2.1 (h.2.2.2.2 j' z g.2.1)
theorem nst_ls {d c j n : Nat} (h : nst μ d c j n) : ls μ n (d / 5) j c := ⟨h.2.2.1, fun k hk hw => h.2.2.2.1.2 k hk ⟨j, h.1, h.2.1, hw⟩⟩
theorem nst_ex {d c k : Nat} (h : dw μ k d c) : ∃ j n, nst μ d c j n := by
  obtain ⟨n, -, hd⟩ := dw_ex h
  obtain ⟨j, ⟨h1, h2, h3⟩, h4⟩ := pk_least (fun j => j < szm μ (d / 5) ∧ thr μ (d / 5) j c = d ∧ wy μ n (d / 5) j c) hd.1
  exact ⟨j, n, h1, h2, h3, hd, fun j' hj' ht hw => h4 j' hj' ⟨by omega, ht, hw⟩⟩
/-- the door behind the first place of a way that is longer than one -/
theorem nst_src {d c j n : Nat} (h : nst μ d c j (n + 1)) (hn : 1 ≤ n) : ∃ d', src μ (d / 5) j = some d' ∧ dl μ n d' c := by
  have hl := nst_ls h
  obtain ⟨d', g1, g2⟩ := (wy_s hn).mp hl.1
  exact ⟨d', g1, g2, fun v hv hw => hl.2 (v + 1) (by omega) ((wy_s (dw_pos hw)).mpr ⟨d', g1, hw⟩)⟩
/-- the k-th place of the way -/
def pth (μ : PM) (c : Nat) : Nat → Nat → Nat → Prop
  | 0, d, p => ∃ j n, nst μ d c j n ∧ p = d / 5 * 24 + j
  | k + 1, d, p => ∃ j n d', nst μ d c j n ∧ src μ (d / 5) j = some d' ∧ pth μ c k d' p
theorem pth_fun {c : Nat} : ∀ (k d p p' : Nat), pth μ c k d p → pth μ c k d p' → p = p'
  | 0, d, p, p', ⟨j, n, h1, h2⟩, ⟨j', n', g1, g2⟩ => by rw [h2, g2, (nst_fun h1 g1).1]
  | k + 1, d, p, p', ⟨j, n, e, h1, h2, h3⟩, ⟨j', n', e', g1, g2, g3⟩ => by
    have := (nst_fun h1 g1).1
    subst this
    rw [h2] at g2
    cases g2
    exact pth_fun k e p p' h3 g3
theorem c_wayLength (hT : TI μ) (hD : FD μ) (h1 : ∀ m c n, m < mct μ → x = nI m → c < kct μ → y = nI c → dl μ n (m * 5 + 4) c → Q (some (pI (nI n))) μ) (h0 : (∀ m c n, m < mct μ → x = nI m → c < kct μ → y = nI c → ¬ dl μ n (m * 5 + 4) c) → Q (some (pI 0)) μ) : Cl 64 [pR 4 0, pI x, pI y] μ Q := by
  refine Cl_in rfl ?_
  (repeat refine Ax_step rfl ?_)
  refine Ax_call rfl (c_hasMethod hT (fun m hm e => ?_) (fun no => ?_))
  · subst e
    have hm8 : m < 8 := by have := hT.m.2; omega
    refine Ax_br rfl (fun hb => absurd hb (by decide)) (fun _ => ?_)
    (repeat refine Ax_step rfl ?_)
    refine Ax_call rfl (c_hasKind hT (fun c hc e => ?_) (fun no => ?_))
    · subst e
      have hc10 : c < 10 := by have := hT.k.2.2; omega
      refine Ax_br rfl (fun _ => ?_) (fun hb => absurd (by decide) hb)
      (repeat refine Ax_step rfl ?_)
      refine Ax_call rfl (Cl_in rfl ?_)
      (repeat refine Ax_step rfl ?_)
      rw [pk_mul, nI_add]
      refine Ax_rI rfl ⟨rfl, ?_⟩
      (repeat refine Ax_step rfl ?_)
      refine Ax_call rfl (c_nearest hT hD (show m * 5 + 4 < 40 by omega) hc10 (fun j n hn => ?_) (fun no => ?_))
      · have hdm : (m * 5 + 4) / 5 = m := by omega
        have hj := hn.1
        have hl := nst_ls hn
        rw [hdm] at hj hl
        have hs := (hT.s hm8).2
        (repeat refine Ax_step rfl ?_)
        refine Ax_br rfl (fun _ => ?_) (fun hb => absurd (fun z => ?_) hb)
        · (repeat refine Ax_step rfl ?_)
          refine Ax_call rfl (c_lenF hT hD hm8 hj hc10 (fun k hk => ?_) (fun no => absurd hl.1 (no n)))
          have : k = n := by
            rcases Nat.lt_trichotomy k n with z | z | z
            · exact absurd hk.1 (hl.2 k z)
            · exact z
            · exact absurd hl.1 (hk.2 n z)
          subst this
          exact Ax_rI rfl ⟨rfl, h1 m c k hm rfl hc rfl hn.2.2.2.1⟩
        · have : (nI j).toInt = -1 := congrArg Int32.toInt z
          rw [nI_toInt (by omega)] at this
          omega
      · (repeat refine Ax_step rfl ?_)
        refine Ax_br rfl (fun hb => absurd rfl hb) (fun _ => ?_)
        (repeat refine Ax_step rfl ?_)
        refine Ax_rI rfl ⟨rfl, h0 (fun m' c' n hm' e hc' e2 hd => ?_)⟩
        have e3 := (nI_eq (by omega) (by have := hT.m.2; omega)).mp e
        have e4 := (nI_eq (by omega) (by have := hT.k.2.2; omega)).mp e2
        subst e3
        subst e4
        exact no n hd.1
    · refine Ax_br rfl (fun hb => absurd rfl hb) (fun _ => ?_)
      (repeat refine Ax_step rfl ?_)
      exact Ax_rI rfl ⟨rfl, h0 (fun m' c' n _ _ hc' e2 _ => no c' hc' e2)⟩
  · refine Ax_br rfl (fun _ => ?_) (fun hb => absurd rfl hb)
    (repeat refine Ax_step rfl ?_)
    exact Ax_rI rfl ⟨rfl, h0 (fun m' c' n hm' e _ _ _ => no m' hm' e)⟩
end P16
end
section
/-! The way, step by step; is, method, spent, escaped. -/
section P17
variable {μ : PM} {x y : Int32} {Q : Option PV → PM → Prop}
theorem nI_ne1 {k : Nat} (hk : k < 2 ^ 31) : nI k ≠ -1 := by
  intro z
  have : (nI k).toInt = -1 := congrArg Int32.toInt z
  rw [nI_toInt hk] at this
  omega
theorem c_wayPlace {m c k n : Nat} (hT : TI μ) (hD : FD μ) (hm : m < 8) (hc : c < 10) (hk31 : k < 2 ^ 31) (hd : dl μ n (m * 5 + 4) c) (hk : k < n) (h : ∀ p, p < 192 → pth μ c k (m * 5 + 4) p → Q (some (pI (nI p))) μ) : Cl 65 [pR 4 0, pI (nI m), pI (nI c), pI (nI k)] μ Q := by
  have loop : ∀ r i, i + r = k → ∀ (d n : Nat) (z : Option PV), d < 40 → dl μ n d c → r < n → (∀ p, p < 192 → pth μ c r d p → Q (some (pI (nI p))) μ) → Ax 65 12 [some (pR 4 0), some (pI (nI m)), some (pI (nI c)), some (pI (nI k)), some (pI (nI d)), some (pI (nI i)), z] [pI (nI k), pI (nI i)] μ (fun y r' μ1 => y = 0 ∧ Q r' μ1) := by
    intro r
    induction r with
    | zero =>
      intro i hi d n z hd40 hd hrn hq
      refine Ax_br rfl (fun _ => ?_) (fun hb => absurd (nI_le (by omega) (by omega)) hb)
      (repeat refine Ax_step rfl ?_)
      refine Ax_br rfl (fun _ => ?_) (fun hb => absurd (nI_ne1 (by omega)) hb)
      (repeat refine Ax_step rfl ?_)
      refine Ax_call rfl (c_nearest hT hD hd40 hc (fun j n' hn => ?_) (fun no => absurd hd.1 (no n)))
      have hs := (hT.s (show d / 5 < 8 by omega)).2
      have hj := hn.1
      (repeat refine Ax_step rfl ?_)
      refine Ax_br rfl (fun _ => ?_) (fun hb => absurd (nI_ne1 (by omega)) hb)
      (repeat refine Ax_step rfl ?_)
      refine Ax_div rfl (by decide) ?_
      rw [pk_div (by omega) (by omega) (by omega)]
      (repeat refine Ax_step rfl ?_)
      refine Ax_call rfl (Cl_in rfl ?_)
      (repeat refine Ax_step rfl ?_)
      rw [pk_mul, nI_add]
      refine Ax_rI rfl ⟨rfl, ?_⟩
      exact Ax_rI rfl ⟨rfl, hq _ (by omega) ⟨j, n', hn, rfl⟩⟩
    | succ r ih =>
      intro i hi d n z hd40 hd hrn hq
      refine Ax_br rfl (fun hb => absurd hb (nI_ge (by omega) (by omega))) (fun _ => ?_)
      (repeat refine Ax_step rfl ?_)
      refine Ax_br rfl (fun hb => absurd hb (nI_ne1 (by omega))) (fun _ => ?_)
      (repeat refine Ax_step rfl ?_)
      refine Ax_call rfl (c_nearest hT hD hd40 hc (fun j n' hn => ?_) (fun no => absurd hd.1 (no n)))
      have hs := (hT.s (show d / 5 < 8 by omega)).2
      have hj := hn.1
      have e := dl_fun hd hn.2.2.2.1
      subst e
      obtain ⟨v, rfl⟩ : ∃ v, n = v + 1 := ⟨n - 1, by omega⟩
      obtain ⟨d', s1, s2⟩ := nst_src hn (by omega)
      have hd' := src_lt hT (by omega) hj s1
      (repeat refine Ax_step rfl ?_)
      refine Ax_br rfl (fun _ => ?_) (fun hb => absurd (nI_ne1 (by omega)) hb)
      (repeat refine Ax_step rfl ?_)
      refine Ax_div rfl (by decide) ?_
      rw [pk_div (by omega) (by omega) (by omega)]
      (repeat refine Ax_step rfl ?_)
      refine Ax_call rfl (c_source hT (by omega) hj ?_)
      rw [s1]
      (repeat refine Ax_step rfl ?_)
      rw [nI_add]
      exact ih (i + 1) (by omega) d' v _ hd' s2 (by omega) (fun p hp hpp => hq p hp ⟨j, v + 1, d', hn, s1, hpp⟩)
  refine Cl_in rfl ?_
  (repeat refine Ax_step rfl ?_)
  refine Ax_call rfl (Cl_in rfl ?_)
  (repeat refine Ax_step rfl ?_)
  rw [pk_mul, nI_add]
  refine Ax_rI rfl ⟨rfl, ?_⟩
  (repeat refine Ax_step rfl ?_)
  exact loop k 0 (by omega) (m * 5 + 4) n _ (by omega) hd hk h
theorem c_way (hT : TI μ) (hf : μ 4 0 1 = 0 → FD μ) (h1 : ∀ μ' m c n, frF μ μ' → μ' 4 0 1 = 0 → FD μ' → m < mct μ → x = nI m → c < kct μ → y = nI c → dl μ n (m * 5 + 4) c → Q (some (pI (nI n))) μ') (h0 : ∀ μ', frF μ μ' → μ' 4 0 1 = 0 → FD μ' → (∀ m c n, m < mct μ → x = nI m → c < kct μ → y = nI c → ¬ dl μ n (m * 5 + 4) c) → Q (some (pI 0)) μ') : Cl 9 [pR 0 0, pI x, pI y] μ Q := by
  refine Cl_in rfl ?_
  (repeat refine Ax_step rfl ?_)
  refine Ax_call rfl (c_refresh hT hf (fun μ' fr s0 hD => ?_))
  have hts := frF.ts fr
  have hT' := ts_TI hts hT
  (repeat refine Ax_step rfl ?_)
  refine Ax_call rfl (c_wayLength hT' hD (fun m c n hm e hc e2 hd => ?_) (fun no => ?_))
  · rw [ts_mct hts] at hm
    rw [ts_kct hts] at hc
    exact Ax_rI rfl ⟨rfl, h1 μ' m c n fr s0 hD hm e hc e2 ((ts_dl hts _ _ _).mp hd)⟩
  · simp only [ts_mct hts, ts_kct hts, ts_dl hts] at no
    exact Ax_rI rfl ⟨rfl, h0 μ' fr s0 hD no⟩
theorem ts_nst {μ μ' : PM} (h : ts μ μ') (d c j n : Nat) : nst μ' d c j n ↔ nst μ d c j n := by unfold nst; simp only [ts_wy h, ts_szm h, ts_thr h, ts_dl h]
theorem ts_pth {μ μ' : PM} (h : ts μ μ') (c : Nat) : ∀ (k d p : Nat), pth μ' c k d p ↔ pth μ c k d p
  | 0, d, p => by
    show (∃ j n, nst μ' d c j n ∧ p = d / 5 * 24 + j) ↔ ∃ j n, nst μ d c j n ∧ p = d / 5 * 24 + j
    simp only [ts_nst h]
  | k + 1, d, p => by
    show (∃ j n d', nst μ' d c j n ∧ src μ' (d / 5) j = some d' ∧ pth μ' c k d' p) ↔ ∃ j n d', nst μ d c j n ∧ src μ (d / 5) j = some d' ∧ pth μ c k d' p
    simp only [ts_nst h, ts_src h, ts_pth h c k]
/-- step's answer: a place of the way, where there is one -/
theorem c_step {w : Int32} (hT : TI μ) (hf : μ 4 0 1 = 0 → FD μ) (h1 : ∀ μ' m c n k p, frF μ μ' → μ' 4 0 1 = 0 → FD μ' → m < mct μ → x = nI m → c < kct μ → y = nI c → dl μ n (m * 5 + 4) c → k < n → w = nI k → pth μ c k (m * 5 + 4) p → Q (some (pI (nI p))) μ') (h0 : ∀ μ', frF μ μ' → μ' 4 0 1 = 0 → FD μ' → (∀ m c n k, m < mct μ → x = nI m → c < kct μ → y = nI c → dl μ n (m * 5 + 4) c → k < n → w ≠ nI k) → Q (some (pI (-1))) μ') : Cl 10 [pR 0 0, pI x, pI y, pI w] μ Q := by
  refine Cl_in rfl ?_
  (repeat refine Ax_step rfl ?_)
  refine Ax_call rfl (c_refresh hT hf (fun μ' fr s0 hD => ?_))
  have hts := frF.ts fr
  have hT' := ts_TI hts hT
  (repeat refine Ax_step rfl ?_)
  have no0 : (∀ m c n k, m < mct μ → x = nI m → c < kct μ → y = nI c → dl μ n (m * 5 + 4) c → k < n → w ≠ nI k) → ∀ z : Option PV, Ax 10 28 [some (pR 0 0), some (pI x), some (pI y), some (pI w), z] [] μ' (fun y r' μ1 => y = 0 ∧ Q r' μ1) := by
    intro no z
    (repeat refine Ax_step rfl ?_)
    refine Ax_br rfl (fun _ => ?_) (fun hb => absurd rfl hb)
    (repeat refine Ax_step rfl ?_)
    exact Ax_rI rfl ⟨rfl, h0 μ' fr s0 hD no⟩
  have n42 : ∀ m c n, m < mct μ → dl μ n (m * 5 + 4) c → n ≤ 40 := fun m c n hm hd => dl_40 hT (by have := hT.m.2; omega) hd
  refine Ax_br rfl (fun hb => no0 (fun m c n k hm _ _ _ hd hk e => ?_) _) (fun hb => ?_)
  · have := n42 m c n hm hd
    rw [e] at hb
    exact nI_pos (by omega) hb
  · (repeat refine Ax_step rfl ?_)
    refine Ax_call rfl (c_wayLength hT' hD (fun m c n hm e hc e2 hd => ?_) (fun no => ?_))
    · rw [ts_mct hts] at hm
      rw [ts_kct hts] at hc
      have hd0 := (ts_dl hts _ _ _).mp hd
      have hn40 := n42 m c n hm hd0
      subst e
      subst e2
      have hm8 : m < 8 := by have := hT.m.2; omega
      have hc10 : c < 10 := by have := hT.k.2.2; omega
      refine Ax_br rfl (fun hb2 => no0 (fun m' c' n' k hm' e hc' e2 hd' hk ew => ?_) _) (fun hb2 => ?_)
      · have e3 := (nI_eq (by omega) (by have := hT.m.2; omega)).mp e
        have e4 := (nI_eq (by omega) (by have := hT.k.2.2; omega)).mp e2
        subst e3
        subst e4
        have := dl_fun hd0 hd'
        subst this
        rw [ew] at hb2
        exact nI_ge hk (by omega) hb2
      · obtain ⟨k, hk, ew⟩ := nI_yes (by omega) hb hb2
        subst ew
        (repeat refine Ax_step rfl ?_)
        refine Ax_br rfl (fun hb => absurd hb (by decide)) (fun _ => ?_)
        (repeat refine Ax_step rfl ?_)
        refine Ax_call rfl (c_wayPlace hT' hD hm8 hc10 (by omega) hd hk (fun p hp hpp => ?_))
        (repeat refine Ax_step rfl ?_)
        exact Ax_rI rfl ⟨rfl, h1 μ' m c n k p fr s0 hD hm rfl hc rfl hd0 hk rfl ((ts_pth hts c k _ p).mp hpp)⟩
    · simp only [ts_mct hts, ts_kct hts, ts_dl hts] at no
      refine Ax_br rfl (fun hb2 => no0 (fun m c n k hm e hc e2 hd _ _ => no m c n hm e hc e2 hd) _) (fun hb2 => absurd (Int32.not_lt.mp hb) hb2)
theorem c_is (hT : TI μ) (h1 : ∀ a b, a < kct μ → x = nI a → b < kct μ → y = nI b → Q (some (pI (bI (bt (μ 15 0 b) a)))) μ) (h0 : (∀ a b, a < kct μ → x = nI a → b < kct μ → y ≠ nI b) → Q (some (pI 0)) μ) : Cl 1 [pR 0 0, pI x, pI y] μ Q := by
  have hk := hT.k.2.2
  refine Cl_in rfl ?_
  (repeat refine Ax_step rfl ?_)
  refine Ax_call rfl (c_hasKind hT (fun a ha e => ?_) (fun no => ?_))
  · subst e
    refine Ax_br rfl (fun hb => absurd hb (by decide)) (fun _ => ?_)
    (repeat refine Ax_step rfl ?_)
    refine Ax_call rfl (c_hasKind hT (fun b hb e => ?_) (fun no => ?_))
    · subst e
      refine Ax_br rfl (fun hb => absurd hb (by decide)) (fun _ => ?_)
      (repeat refine Ax_step rfl ?_)
      refine Ax_call rfl (c_isOneOf (by omega) (by omega) ?_)
      have := h1 a b ha rfl hb rfl
      refine Ax_br rfl (fun hz => ?_) (fun hz => ?_)
      · (repeat refine Ax_step rfl ?_)
        rw [hz] at this
        exact Ax_rZ rfl (Or.inl rfl) ⟨rfl, this⟩
      · (repeat refine Ax_step rfl ?_)
        rw [show bI (bt (μ 15 0 b) a) = 1 by rcases bI_01 (bt (μ 15 0 b) a) with z | z; exact absurd z hz; exact z] at this
        exact Ax_rZ rfl (Or.inr rfl) ⟨rfl, this⟩
    · refine Ax_br rfl (fun _ => ?_) (fun hb => absurd rfl hb)
      (repeat refine Ax_step rfl ?_)
      exact Ax_rZ rfl (Or.inl rfl) ⟨rfl, h0 (fun _ b _ _ hb => no b hb)⟩
  · refine Ax_br rfl (fun _ => ?_) (fun hb => absurd rfl hb)
    (repeat refine Ax_step rfl ?_)
    exact Ax_rZ rfl (Or.inl rfl) ⟨rfl, h0 (fun a b ha e _ => absurd e (no a ha))⟩
theorem c_spent (h : Q (some (pI (μ 10 0 6))) μ) : Cl 12 [pR 0 0] μ Q := by
  refine Cl_in rfl ?_
  (repeat refine Ax_step rfl ?_)
  exact Ax_rI rfl ⟨rfl, h⟩
theorem c_escaped (h : Q (some (pI (μ 10 0 8))) μ) : Cl 13 [pR 0 0] μ Q := by
  refine Cl_in rfl ?_
  (repeat refine Ax_step rfl ?_)
  exact Ax_rI rfl ⟨rfl, h⟩
/-- method(): one more, as long as there are fewer than eight -/
theorem c_method (hT : TI μ) (h1 : mct μ < 8 → Q (some (pI (nI (mct μ)))) (pu μ 1 0 2 (nI (mct μ + 1)))) (h0 : mct μ = 8 → Q (some (pI (-1))) μ) : Cl 2 [pR 0 0] μ Q := by
  have hm := hT.m
  refine Cl_in rfl ?_
  (repeat refine Ax_step rfl ?_)
  refine Ax_call rfl (Cl_in rfl ?_)
  (repeat refine Ax_step rfl ?_)
  rw [hm.1]
  refine Ax_br rfl (fun hb => ?_) (fun hb => ?_)
  · have hlt : mct μ < 8 := (nI_ltI (by omega) (by omega)).mp hb
    (repeat refine Ax_step rfl ?_)
    refine Ax_rZ rfl (Or.inl rfl) ⟨rfl, ?_⟩
    refine Ax_br rfl (fun _ => ?_) (fun hb => absurd rfl hb)
    (repeat refine Ax_step rfl ?_)
    refine Ax_call rfl (Cl_in rfl ?_)
    (repeat refine Ax_step rfl ?_)
    rw [hm.1, nI_add]
    refine Ax_rI rfl ⟨rfl, ?_⟩
    (repeat refine Ax_step rfl ?_)
    exact Ax_rI rfl ⟨rfl, h1 hlt⟩
  · have hge : ¬ mct μ < 8 := fun z => hb (nI_lt z (by omega))
    (repeat refine Ax_step rfl ?_)
    refine Ax_rZ rfl (Or.inr rfl) ⟨rfl, ?_⟩
    refine Ax_br rfl (fun hb => absurd hb (by decide)) (fun _ => ?_)
    (repeat refine Ax_step rfl ?_)
    exact Ax_rI rfl ⟨rfl, h0 (by omega)⟩
end P17
end
